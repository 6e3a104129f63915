/-! loops that store or count, both sides; places -/
theorem dt_cx {p d : Nat} (hp : p < 4) (hd : d < 6) : (nI p * 6 + nI d).toNatClampNeg = 6 * p + d := by rw [dt_x6]; exact nI_clamp (by omega)
theorem dt_vx {p d : Nat} (hp : p < 4) (hd : d < 6) : vp_in (nI p * 6 + nI d) 24 := by rw [dt_x6]; exact vp_in_nI (by omega) (by omega)
theorem dt_cy {p d : Nat} (hp : p < 4) (hd : d < 6) : (6 * nI p + nI d).toNatClampNeg = 6 * p + d := by rw [dt_y6]; exact nI_clamp (by omega)
theorem dt_vy {p d : Nat} (hp : p < 4) (hd : d < 6) : vp_in (6 * nI p + nI d) 24 := by rw [dt_y6]; exact vp_in_nI (by omega) (by omega)
theorem dt_up1 {L : Nat → Int32} {j M : Nat} : ∀ i, i < M → upd L j (-1) i = -1 ∨ ∃ j', j' < M ∧ upd L j (-1) i = L j' := by
  intro i hi
  by_cases e : i = j
  · rw [e]; exact Or.inl pk_us
  · exact Or.inr ⟨i, hi, pk_un e⟩
theorem dt_up2 {L : Nat → Int32} {j j0 M : Nat} {x : Int32} (h0 : j0 < M) (e0 : L j0 = x) : ∀ i, i < M → upd L j x i = -1 ∨ ∃ j', j' < M ∧ upd L j x i = L j' := by
  intro i hi
  by_cases e : i = j
  · rw [e]; exact Or.inr ⟨j0, h0, pk_us.trans e0.symm⟩
  · exact Or.inr ⟨i, hi, pk_un e⟩
theorem dt_ex_in (L : Nat → Int32) (b : Nat) : ∀ k i, i < k → dt_ex L b k (b + i) = -1 := by
  intro k
  induction k with
  | zero => intro i hi; omega
  | succ k ih =>
    intro i hi
    by_cases e : i = k
    · rw [e]; exact pk_us
    · have h : dt_ex L b (k + 1) (b + i) = dt_ex L b k (b + i) := pk_un (by omega)
      rw [h]; exact ih i (by omega)
theorem dt_ex0 (L : Nat → Int32) (i : Nat) : upd (dt_ex L 0 i) i (-1) = dt_ex L 0 (i + 1) := by
  show upd (dt_ex L 0 i) i (-1) = upd (dt_ex L 0 i) (0 + i) (-1)
  rw [Nat.zero_add]
theorem dt_cn_mono (P : Nat → Prop) (a : Nat) : ∀ k, dt_cn P a ≤ dt_cn P (a + k) := by
  intro k
  induction k with
  | zero => exact Nat.le_refl _
  | succ k ih =>
    by_cases h : P (a + k)
    · have e : dt_cn P (a + (k + 1)) = dt_cn P (a + k) + 1 := dt_cn_t h
      omega
    · have e : dt_cn P (a + (k + 1)) = dt_cn P (a + k) := dt_cn_f h
      omega
theorem dt_cn_z {P : Nat → Prop} : ∀ n, (∀ d, d < n → ¬ P d) → dt_cn P n = 0 := by
  intro n
  induction n with
  | zero => exact fun _ => rfl
  | succ n ih =>
    intro h
    rw [dt_cn_f (h n (by omega))]
    exact ih fun d hd => h d (by omega)
theorem dt_cn_1 {P : Nat → Prop} {a : Nat} : ∀ n, (∀ d, d < n → P d → d = a) → dt_cn P n ≤ 1 := by
  intro n
  induction n with
  | zero => exact fun _ => Nat.zero_le _
  | succ n ih =>
    intro h
    by_cases e : P n
    · have ea := h n (by omega) e
      rw [dt_cn_t e, dt_cn_z n (fun d hd hp => by have := h d (by omega) hp; omega)]
      omega
    · rw [dt_cn_f e]
      exact ih fun d hd => h d (by omega)
theorem dt_cn_2 {P : Nat → Prop} {a b n : Nat} (hab : a < b) (hb : b < n) (pa : P a) (pb : P b) : 2 ≤ dt_cn P n := by
  have h1 := dt_cn_mono P (a + 1) (b - (a + 1))
  have h2 := dt_cn_mono P (b + 1) (n - (b + 1))
  rw [show a + 1 + (b - (a + 1)) = b by omega, dt_cn_t pa] at h1
  rw [show b + 1 + (n - (b + 1)) = n by omega, dt_cn_t pb] at h2
  omega
section
variable {al L N S W O FL FB PL A B : Nat → Int32}
theorem dt_xI1 {post : SX → Prop} (h : post (al, L, dt_ex N 0 4, S, W, O, FL, FB, PL, A)) : ∀ k i, i + k = 4 → wX_init_114 post (k + 1) (nI i) al L (dt_ex N 0 i) S W O FL FB PL A := by
  intro k
  induction k with
  | zero =>
    intro i hi
    have ei : i = 4 := by omega
    subst ei
    exact br_t (nI_le (a := 4) (by omega) (by omega)) h
  | succ k ih =>
    intro i hi
    have c : (nI i).toNatClampNeg = i := nI_clamp (by omega)
    exact br_f (nI_ge (b := 4) (by omega) (by omega)) ⟨vp_in_nI (by omega) (by omega), nm_r (e' := dt_ex N 0 (i + 1)) (by rw [c]; exact dt_ex0 N i) (nm_r (nI_1 i) (ih (i + 1) (by omega)))⟩
theorem dt_xI2 {post : SX → Prop} (h : post (al, dt_ex L 0 24, dt_ex N 0 4, S, W, O, FL, FB, PL, A)) : ∀ k i, i + k = 24 → wX_init_93 post (k + 1) (nI i) al (dt_ex L 0 i) N S W O FL FB PL A := by
  intro k
  induction k with
  | zero =>
    intro i hi
    have ei : i = 24 := by omega
    subst ei
    exact br_t (nI_le (a := 24) (by omega) (by omega)) ⟨5, dt_xI1 h 4 0 rfl⟩
  | succ k ih =>
    intro i hi
    have c : (nI i).toNatClampNeg = i := nI_clamp (by omega)
    exact br_f (nI_ge (b := 24) (by omega) (by omega)) ⟨vp_in_nI (by omega) (by omega), nm_r (e' := dt_ex L 0 (i + 1)) (by rw [c]; exact dt_ex0 L i) (nm_r (nI_1 i) (ih (i + 1) (by omega)))⟩
theorem dt_yI1 {post : SY → Prop} (h : post (al, L, S, W, O, dt_ex N 0 4, FL, FB, PL, B)) : ∀ k i, i + k = 4 → wY_init_114 post (k + 1) (nI i) al L S W O (dt_ex N 0 i) FL FB PL B := by
  intro k
  induction k with
  | zero =>
    intro i hi
    have ei : i = 4 := by omega
    subst ei
    exact br_t (nI_le (a := 4) (by omega) (by omega)) h
  | succ k ih =>
    intro i hi
    have c : (nI i).toNatClampNeg = i := nI_clamp (by omega)
    exact br_f (nI_ge (b := 4) (by omega) (by omega)) ⟨vp_in_nI (by omega) (by omega), nm_r (e' := dt_ex N 0 (i + 1)) (by rw [c]; exact dt_ex0 N i) (nm_r (nI_1 i) (ih (i + 1) (by omega)))⟩
theorem dt_yI2 {post : SY → Prop} (h : post (al, dt_ex L 0 24, S, W, O, dt_ex N 0 4, FL, FB, PL, B)) : ∀ k i, i + k = 24 → wY_init_93 post (k + 1) (nI i) al (dt_ex L 0 i) S W O N FL FB PL B := by
  intro k
  induction k with
  | zero =>
    intro i hi
    have ei : i = 24 := by omega
    subst ei
    exact br_t (nI_le (a := 24) (by omega) (by omega)) ⟨5, dt_yI1 h 4 0 rfl⟩
  | succ k ih =>
    intro i hi
    have c : (nI i).toNatClampNeg = i := nI_clamp (by omega)
    exact br_f (nI_ge (b := 24) (by omega) (by omega)) ⟨vp_in_nI (by omega) (by omega), nm_r (e' := dt_ex L 0 (i + 1)) (by rw [c]; exact dt_ex0 L i) (nm_r (nI_1 i) (ih (i + 1) (by omega)))⟩
theorem dt_xEx {post : Int32 → SX → Prop} {p : Nat} (hp : p < 4) (h : post 0 (al, dt_ex L (6 * p) 6, N, S, W, O, FL, FB, PL, A)) : ∀ k i, i + k = 6 → wX_exit_27 post (nI p) (k + 1) (nI i) al (dt_ex L (6 * p) i) N S W O FL FB PL A := by
  intro k
  induction k with
  | zero =>
    intro i hi
    have ei : i = 6 := by omega
    subst ei
    exact br_t (nI_le (a := 6) (by omega) (by omega)) h
  | succ k ih =>
    intro i hi
    exact br_f (nI_ge (b := 6) (by omega) (by omega)) ⟨dt_vx hp (by omega), nm_r (e' := dt_ex L (6 * p) (i + 1)) (by rw [dt_cx hp (by omega)]; rfl) (nm_r (nI_1 i) (ih (i + 1) (by omega)))⟩
theorem dt_yEx {post : Int32 → SY → Prop} {p : Nat} (hp : p < 4) (h : post 0 (al, dt_ex L (6 * p) 6, S, W, O, N, FL, FB, PL, B)) : ∀ k i, i + k = 6 → wY_exit_57 post (nI p) (k + 1) (nI i) al (dt_ex L (6 * p) i) S W O N FL FB PL B := by
  intro k
  induction k with
  | zero =>
    intro i hi
    have ei : i = 6 := by omega
    subst ei
    exact br_t (nI_le (a := 6) (by omega) (by omega)) h
  | succ k ih =>
    intro i hi
    exact br_f (nI_ge (b := 6) (by omega) (by omega)) ⟨dt_vy hp (by omega), nm_r (e' := dt_ex L (6 * p) (i + 1)) (by rw [dt_cy hp (by omega)]; rfl) (nm_r (nI_1 i) (ih (i + 1) (by omega)))⟩
theorem dt_xFk {post : Int32 → SX → Prop} {p c : Nat} (hp : p < 4) (hc : c < 4) (h : post (nI c) (al, dt_fk L (6 * c) (6 * p) 6, N, S, W, O, FL, FB, PL, A)) : ∀ k i, i + k = 6 → wX_fork_32 post (nI p) (nI c) (k + 1) (nI i) al (dt_fk L (6 * c) (6 * p) i) N S W O FL FB PL A := by
  intro k
  induction k with
  | zero =>
    intro i hi
    have ei : i = 6 := by omega
    subst ei
    exact br_t (nI_le (a := 6) (by omega) (by omega)) h
  | succ k ih =>
    intro i hi
    exact br_f (nI_ge (b := 6) (by omega) (by omega)) ⟨dt_vx hp (by omega), dt_vx hc (by omega), nm_r (e' := dt_fk L (6 * c) (6 * p) (i + 1)) (by rw [dt_cx hp (by omega), dt_cx hc (by omega)]; rfl) (nm_r (nI_1 i) (ih (i + 1) (by omega)))⟩
theorem dt_yFk {post : Int32 → SY → Prop} {p c : Nat} (hp : p < 4) (hc : c < 4) (h : post (nI c) (al, dt_fk L (6 * c) (6 * p) 6, S, W, O, N, FL, FB, PL, B)) : ∀ k i, i + k = 6 → wY_fork_35 post (nI p) (nI c) (k + 1) (nI i) al (dt_fk L (6 * c) (6 * p) i) S W O N FL FB PL B := by
  intro k
  induction k with
  | zero =>
    intro i hi
    have ei : i = 6 := by omega
    subst ei
    exact br_t (nI_le (a := 6) (by omega) (by omega)) h
  | succ k ih =>
    intro i hi
    exact br_f (nI_ge (b := 6) (by omega) (by omega)) ⟨dt_vy hp (by omega), dt_vy hc (by omega), nm_r (e' := dt_fk L (6 * c) (6 * p) (i + 1)) (by rw [dt_cy hp (by omega), dt_cy hc (by omega)]; rfl) (nm_r (nI_1 i) (ih (i + 1) (by omega)))⟩
theorem dt_xLN_l {post : Int32 → Prop} : ∀ k i, i + k = 4 → (∀ c, i ≤ c → c < 4 → al c = 0 → (∀ e, i ≤ e → e < c → ¬ al e = 0) → post (nI c)) → ((∀ c, i ≤ c → c < 4 → ¬ al c = 0) → post (-1)) → wX_leastNotAlive_2 post al L N S W O FL FB PL A (k + 1) (nI i) := by
  intro k
  induction k with
  | zero =>
    intro i hi hy hn
    exact br_t (nI_le (a := 4) (by omega) (by omega)) (hn fun d h1 h2 => by omega)
  | succ k ih =>
    intro i hi hy hn
    have c : (nI i).toNatClampNeg = i := nI_clamp (by omega)
    refine br_f (nI_ge (b := 4) (by omega) (by omega)) ⟨vp_in_nI (by omega) (by omega), ?_⟩
    rw [c]
    by_cases e : al i = 0
    · exact br_t e (hy i (Nat.le_refl i) (by omega) e (fun e h1 h2 => by omega))
    · refine br_f e (nm_r (nI_1 i) (ih (i + 1) (by omega) (fun d h1 h2 h3 h4 => hy d (by omega) h2 h3 fun j h5 h6 => ?_) (fun h => hn fun d h1 h2 => ?_)))
      · by_cases ej : j = i
        · rw [ej]; exact e
        · exact h4 j (by omega) h6
      · by_cases ej : d = i
        · rw [ej]; exact e
        · exact h d (by omega) h2
theorem dt_yF12 {post : Int32 → SY → Prop} {p : Nat} (hp : p < 4) : ∀ k i, i + k = 4 → (∀ c, i ≤ c → c < 4 → al c = 0 → (∀ e, i ≤ e → e < c → ¬ al e = 0) → post (nI c) (upd al c (vp_nar .boolean 1), dt_fk L (6 * c) (6 * p) 6, S, W, O, N, FL, FB, PL, B)) → ((∀ c, i ≤ c → c < 4 → ¬ al c = 0) → post (-2) (al, L, S, W, O, N, FL, FB, PL, B)) → wY_fork_12 post (nI p) al L S W O N FL FB PL B (k + 1) (nI i) := by
  intro k
  induction k with
  | zero =>
    intro i hi hy hn
    exact br_t (nI_le (a := 4) (by omega) (by omega)) (hn fun d h1 h2 => by omega)
  | succ k ih =>
    intro i hi hy hn
    have c : (nI i).toNatClampNeg = i := nI_clamp (by omega)
    have v : vp_in (nI i) 4 := vp_in_nI (by omega) (by omega)
    refine br_f (nI_ge (b := 4) (by omega) (by omega)) ⟨v, ?_⟩
    rw [c]
    by_cases e : al i = 0
    · exact br_t e ⟨v, nm_e ⟨7, dt_yFk hp (by omega) (hy i (Nat.le_refl i) (by omega) e (fun e h1 h2 => by omega)) 6 0 rfl⟩⟩
    · refine br_f e (nm_r (nI_1 i) (ih (i + 1) (by omega) (fun d h1 h2 h3 h4 => hy d (by omega) h2 h3 fun j h5 h6 => ?_) (fun h => hn fun d h1 h2 => ?_)))
      · by_cases ej : j = i
        · rw [ej]; exact e
        · exact h4 j (by omega) h6
      · by_cases ej : d = i
        · rw [ej]; exact e
        · exact h d (by omega) h2
theorem dt_xNA_l {post : Int32 → Prop} (h : post (nI (dt_cn (fun j => ¬ al j = 0) 4))) : ∀ k i, i + k = 4 → wX_numberAlive_4 post al L N S W O FL FB PL A (k + 1) (nI (dt_cn (fun j => ¬ al j = 0) i)) (nI i) := by
  intro k
  induction k with
  | zero =>
    intro i hi
    have ei : i = 4 := by omega
    subst ei
    exact br_t (nI_le (a := 4) (by omega) (by omega)) h
  | succ k ih =>
    intro i hi
    have c : (nI i).toNatClampNeg = i := nI_clamp (by omega)
    have t := ih (i + 1) (by omega)
    refine br_f (nI_ge (b := 4) (by omega) (by omega)) ⟨vp_in_nI (by omega) (by omega), ?_⟩
    rw [c]
    by_cases e : al i = 0
    · rw [dt_cn_f (P := fun j => ¬ al j = 0) (n := i) (fun h => h e)] at t
      exact br_t e (nm_r (nI_1 i) t)
    · rw [dt_cn_t (P := fun j => ¬ al j = 0) (n := i) e] at t
      exact br_f e (nm_r (nI_1 _) (nm_r (nI_1 i) t))
theorem dt_yE14 {post : Int32 → SY → Prop} {p : Nat} (hp : p < 4) (h0 : dt_cn (fun j => ¬ al j = 0 ∧ j ≠ p) 4 = 0 → post (-1) (al, L, S, W, O, N, FL, FB, PL, B)) (h1 : dt_cn (fun j => ¬ al j = 0 ∧ j ≠ p) 4 ≠ 0 → post 0 (upd al p (vp_nar .boolean 0), dt_ex L (6 * p) 6, S, W, O, N, FL, FB, PL, B)) : ∀ k i, i + k = 4 → wY_exit_14 post (nI p) al L S W O N FL FB PL B (k + 1) (nI (dt_cn (fun j => ¬ al j = 0 ∧ j ≠ p) i)) (nI i) := by
  intro k
  induction k with
  | zero =>
    intro i hi
    have ei : i = 4 := by omega
    subst ei
    refine br_t (nI_le (a := 4) (by omega) (by omega)) ?_
    have c : (nI p).toNatClampNeg = p := nI_clamp (by omega)
    have le := dt_cn_le (fun j => ¬ al j = 0 ∧ j ≠ p) 4
    by_cases e : dt_cn (fun j => ¬ al j = 0 ∧ j ≠ p) 4 = 0
    · exact br_t (by rw [e]; rfl) (h0 e)
    · exact br_f (nI_ne0 (by omega) (by omega)) ⟨vp_in_nI hp (by omega), nm_r (e' := upd al p (vp_nar .boolean 0)) (by rw [c]) ⟨7, dt_yEx hp (h1 e) 6 0 rfl⟩⟩
  | succ k ih =>
    intro i hi
    have c : (nI i).toNatClampNeg = i := nI_clamp (by omega)
    have t := ih (i + 1) (by omega)
    refine br_f (nI_ge (b := 4) (by omega) (by omega)) ⟨vp_in_nI (by omega) (by omega), ?_⟩
    rw [c]
    by_cases e : al i = 0
    · rw [dt_cn_f (P := fun j => ¬ al j = 0 ∧ j ≠ p) (n := i) (fun h => h.1 e)] at t
      exact br_t e (nm_r (nI_1 i) t)
    · by_cases ep : i = p
      · rw [dt_cn_f (P := fun j => ¬ al j = 0 ∧ j ≠ p) (n := i) (fun h => h.2 ep)] at t
        exact br_f e (br_t (by rw [ep]) (nm_r (nI_1 i) t))
      · rw [dt_cn_t (P := fun j => ¬ al j = 0 ∧ j ≠ p) (n := i) ⟨e, ep⟩] at t
        exact br_f e (br_f (fun h => ep (dt_inj (by omega) (by omega) h)) (nm_r (nI_1 _) (nm_r (nI_1 i) t)))
theorem dt_yFD_l {post : Int32 → Prop} {p : Nat} (hL : ∀ i, i < 24 → L i = -1 ∨ ∃ o, o < 24 ∧ L i = nI o) (hp : p < 4) (h : post (nI (dt_cn (fun d => L (6 * p + d) = -1) 6))) : ∀ k i, i + k = 6 → wY_freeDescriptors_4 post (nI p) al L S W O N FL FB PL B (k + 1) (nI (dt_cn (fun d => L (6 * p + d) = -1) i)) (nI i) := by
  intro k
  induction k with
  | zero =>
    intro i hi
    have ei : i = 6 := by omega
    subst ei
    exact br_t (nI_le (a := 6) (by omega) (by omega)) h
  | succ k ih =>
    intro i hi
    have t := ih (i + 1) (by omega)
    have g := dt_ge0 (hL (6 * p + i) (by omega))
    refine br_f (nI_ge (b := 6) (by omega) (by omega)) ⟨dt_vy hp (by omega), ?_⟩
    rw [dt_cy hp (by omega)]
    by_cases e : L (6 * p + i) = -1
    · rw [dt_cn_t (P := fun d => L (6 * p + d) = -1) (n := i) e] at t
      exact br_f (fun h => g.mp h e) (nm_r (nI_1 _) (nm_r (nI_1 i) t))
    · rw [dt_cn_f (P := fun d => L (6 * p + d) = -1) (n := i) e] at t
      exact br_t (g.mpr e) (nm_r (nI_1 i) t)
theorem dt_xC59 {post : Int32 → Prop} {x1 x2 : Int32} (hL : ∀ i, i < 24 → L i = -1 ∨ ∃ o, o < 24 ∧ L i = nI o) (h : post (((100 * x1) + (10 * x2)) + nI (dt_cn (dt_Pi L S W) 24))) : ∀ k i, i + k = 24 → wX_counts_59 post x1 x2 al L N S W O FL FB PL A (k + 1) (nI (dt_cn (dt_Pi L S W) i)) (nI i) := by
  intro k
  induction k with
  | zero =>
    intro i hi
    have ei : i = 24 := by omega
    subst ei
    exact br_t (nI_le (a := 24) (by omega) (by omega)) h
  | succ k ih =>
    intro i hi
    have t := ih (i + 1) (by omega)
    exact br_f (nI_ge (b := 24) (by omega) (by omega)) (dt_xPE hL (fun e => br_f (by decide) (nm_r (nI_1 _) (nm_r (nI_1 i) (by rw [dt_cn_t e] at t; exact t)))) (fun e => br_t rfl (nm_r (nI_1 i) (by rw [dt_cn_f e] at t; exact t))))
theorem dt_xC31 {post : Int32 → Prop} {x1 : Int32} (hL : ∀ i, i < 24 → L i = -1 ∨ ∃ o, o < 24 ∧ L i = nI o) (h : post (((100 * x1) + (10 * nI (dt_cn (dt_Fi L N S W) 28))) + nI (dt_cn (dt_Pi L S W) 24))) : ∀ k i, i + k = 28 → wX_counts_31 post x1 al L N S W O FL FB PL A (k + 1) (nI (dt_cn (dt_Fi L N S W) i)) (nI i) := by
  intro k
  induction k with
  | zero =>
    intro i hi
    have ei : i = 28 := by omega
    subst ei
    exact br_t (nI_le (a := 28) (by omega) (by omega)) ⟨25, dt_xC59 hL h 24 0 rfl⟩
  | succ k ih =>
    intro i hi
    have t := ih (i + 1) (by omega)
    exact br_f (nI_ge (b := 28) (by omega) (by omega)) (dt_xFE hL (fun e => br_f (by decide) (nm_r (nI_1 _) (nm_r (nI_1 i) (by rw [dt_cn_t e] at t; exact t)))) (fun e => br_t rfl (nm_r (nI_1 i) (by rw [dt_cn_f e] at t; exact t))))
theorem dt_xC4 {post : Int32 → Prop} (hL : ∀ i, i < 24 → L i = -1 ∨ ∃ o, o < 24 ∧ L i = nI o) (h : post (((100 * nI (dt_cn (dt_Op L) 24)) + (10 * nI (dt_cn (dt_Fi L N S W) 28))) + nI (dt_cn (dt_Pi L S W) 24))) : ∀ k i, i + k = 24 → wX_counts_4 post al L N S W O FL FB PL A (k + 1) (nI (dt_cn (dt_Op L) i)) (nI i) := by
  intro k
  induction k with
  | zero =>
    intro i hi
    have ei : i = 24 := by omega
    subst ei
    exact br_t (nI_le (a := 24) (by omega) (by omega)) ⟨29, dt_xC31 hL h 28 0 rfl⟩
  | succ k ih =>
    intro i hi
    have t := ih (i + 1) (by omega)
    exact br_f (nI_ge (b := 24) (by omega) (by omega)) (dt_xOE (fun e => br_f (by decide) (nm_r (nI_1 _) (nm_r (nI_1 i) (by rw [dt_cn_t e] at t; exact t)))) (fun e => br_t rfl (nm_r (nI_1 i) (by rw [dt_cn_f e] at t; exact t))))
theorem dt_yC50 {post : Int32 → Prop} {x1 x3 : Int32} (h : post (((100 * x1) + (10 * nI (dt_cn (dt_Fi L N S W) 28))) + x3)) : ∀ k i, i + k = 28 → wY_counts_50 post x1 x3 al L S W O N FL FB PL B (k + 1) (nI (dt_cn (dt_Fi L N S W) i)) (nI i) := by
  intro k
  induction k with
  | zero =>
    intro i hi
    have ei : i = 28 := by omega
    subst ei
    exact br_t (nI_le (a := 28) (by omega) (by omega)) h
  | succ k ih =>
    intro i hi
    have t := ih (i + 1) (by omega)
    exact br_f (nI_ge (b := 28) (by omega) (by omega)) (dt_yFE (fun e => br_f (by decide) (nm_r (nI_1 _) (nm_r (nI_1 i) (by rw [dt_cn_t e] at t; exact t)))) (fun e => br_t rfl (nm_r (nI_1 i) (by rw [dt_cn_f e] at t; exact t))))
theorem dt_yC28 {post : Int32 → Prop} {J : Int32 → Int32 → Int32 → Prop} {x1 x2 : Int32} {i : Nat} (hS : ∀ o, o < 24 → S o = 0 ∨ S o = 1 ∨ S o = 2) (h : J x1 (nI (dt_cn (dt_Pi L S W) (i + 1))) (nI (i + 1))) : wY_counts_28 post J x1 x2 (nI (dt_cn (dt_Pi L S W) i)) (nI i) al L S W O N FL FB PL B := by
  unfold wY_counts_28
  exact dt_yHO3 hS (fun e => br_f (by decide) (nm_r (nI_1 _) (nm_r (nI_1 i) (by rw [dt_cn_t e] at h; exact h)))) (fun e => br_t rfl (nm_r (nI_1 i) (by rw [dt_cn_f e] at h; exact h)))
theorem dt_yC9 {post : Int32 → Prop} (hS : ∀ o, o < 24 → S o = 0 ∨ S o = 1 ∨ S o = 2) (h : post (((100 * nI (dt_cn (dt_Op L) 24)) + (10 * nI (dt_cn (dt_Fi L N S W) 28))) + nI (dt_cn (dt_Pi L S W) 24))) : ∀ k i, i + k = 24 → wY_counts_9 post 0 al L S W O N FL FB PL B (k + 1) (nI (dt_cn (dt_Op L) i)) (nI (dt_cn (dt_Pi L S W) i)) (nI i) := by
  intro k
  induction k with
  | zero =>
    intro i hi
    have ei : i = 24 := by omega
    subst ei
    exact br_t (nI_le (a := 24) (by omega) (by omega)) ⟨29, dt_yC50 h 28 0 rfl⟩
  | succ k ih =>
    intro i hi
    have t := ih (i + 1) (by omega)
    exact br_f (nI_ge (b := 24) (by omega) (by omega)) (dt_yOE (fun e => br_f (by decide) (nm_r (nI_1 _) (dt_yC28 hS (by rw [dt_cn_t e] at t; exact t)))) (fun e => br_t rfl (dt_yC28 hS (by rw [dt_cn_f e] at t; exact t))))
end
