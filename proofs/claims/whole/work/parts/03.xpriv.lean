/-! the component's own methods, each for any post -/
theorem dt_ix (v : Int32) : v < 0 ∨ ∃ j, j < 2 ^ 31 ∧ v = nI j := by
  by_cases h : v < 0
  · exact Or.inl h
  · exact Or.inr (nI_of h)
theorem dt_alv (al : Nat → Int32) (v : Int32) : (∃ p, p < 4 ∧ v = nI p ∧ ¬ al p = 0) ∨ (∀ p, p < 4 → v = nI p → al p = 0) := by
  by_cases h : ∃ p, p < 4 ∧ v = nI p ∧ ¬ al p = 0
  · exact Or.inl h
  · exact Or.inr fun p hp e => Classical.byContradiction fun ha => h ⟨p, hp, e, ha⟩
theorem dt_nam (v : Int32) : (∃ n, n < 4 ∧ v = nI n) ∨ (∀ n, n < 4 → v ≠ nI n) := by
  by_cases h : ∃ n, n < 4 ∧ v = nI n
  · exact Or.inl h
  · exact Or.inr fun n hn e => h ⟨n, hn, e⟩
theorem dt_opn (al : Nat → Int32) {L : Nat → Int32} (hL : ∀ i, i < 24 → L i = -1 ∨ ∃ o, o < 24 ∧ L i = nI o) (v1 v2 : Int32) : (∃ p d o, p < 4 ∧ d < 6 ∧ o < 24 ∧ v1 = nI p ∧ v2 = nI d ∧ ¬ al p = 0 ∧ L (6 * p + d) = nI o) ∨ (∀ p d, p < 4 → d < 6 → v1 = nI p → v2 = nI d → ¬ al p = 0 → L (6 * p + d) = -1) := by
  by_cases h : ∃ p d o, p < 4 ∧ d < 6 ∧ o < 24 ∧ v1 = nI p ∧ v2 = nI d ∧ ¬ al p = 0 ∧ L (6 * p + d) = nI o
  · exact Or.inl h
  · refine Or.inr fun p d hp hd e1 e2 ha => ?_
    rcases hL (6 * p + d) (by omega) with e | ⟨o, ho, e⟩
    · exact e
    · exact absurd ⟨p, d, o, hp, hd, ho, e1, e2, ha, e⟩ h
section
variable {al L N S W O FL FB PL A : Nat → Int32}
theorem dt_xAl_t {post : Int32 → Prop} {p : Nat} (hp : p < 4) (ha : ¬ al p = 0) (h : post 1) : wpX_isAlive post (al, L, N, S, W, O, FL, FB, PL, A) (nI p) := by
  have c : (nI p).toNatClampNeg = p := nI_clamp (by omega)
  unfold wpX_isAlive
  dsimp only
  rw [c]
  exact br_f (nI_pos (by omega)) (br_f (nI_ge (b := 4) (by omega) (by omega)) ⟨vp_in_nI hp (by omega), br_f ha h⟩)
theorem dt_xAl_f {post : Int32 → Prop} {v : Int32} (hv : ∀ p, p < 4 → v = nI p → al p = 0) (h : post 0) : wpX_isAlive post (al, L, N, S, W, O, FL, FB, PL, A) v := by
  unfold wpX_isAlive
  dsimp only
  rcases dt_ix v with h0 | ⟨j, hj, rfl⟩
  · exact br_t h0 h
  · refine br_f (nI_pos hj) ?_
    by_cases h4 : j < 4
    · have c : (nI j).toNatClampNeg = j := nI_clamp hj
      rw [c]
      exact br_f (nI_ge (b := 4) h4 (by omega)) ⟨vp_in_nI h4 (by omega), br_t (hv j h4 rfl) h⟩
    · exact br_t (nI_le (a := 4) (by omega) hj) h
theorem dt_xNa_t {post : Int32 → Prop} {p : Nat} (hp : p < 4) (h : post 1) : wpX_isName post (al, L, N, S, W, O, FL, FB, PL, A) (nI p) := by
  unfold wpX_isName
  dsimp only
  exact br_f (nI_pos (by omega)) (br_f (nI_ge (b := 4) (by omega) (by omega)) h)
theorem dt_xNa_f {post : Int32 → Prop} {v : Int32} (hv : ∀ p, p < 4 → v ≠ nI p) (h : post 0) : wpX_isName post (al, L, N, S, W, O, FL, FB, PL, A) v := by
  unfold wpX_isName
  dsimp only
  rcases dt_ix v with h0 | ⟨j, hj, rfl⟩
  · exact br_t h0 h
  · refine br_f (nI_pos hj) ?_
    by_cases h4 : j < 4
    · exact absurd rfl (hv j h4)
    · exact br_t (nI_le (a := 4) (by omega) hj) h
theorem dt_xOf_t {post : Int32 → Prop} {p d o : Nat} (hp : p < 4) (hd : d < 6) (ha : ¬ al p = 0) (e : L (6 * p + d) = nI o) (h : post (nI o)) : wpX_openingOf post (al, L, N, S, W, O, FL, FB, PL, A) (nI p) (nI d) := by
  unfold wpX_openingOf
  dsimp only
  refine dt_xAl_t hp ha (br_f (by decide) (br_f (nI_pos (by omega)) (br_t (nI_lt (b := 6) (by omega) (by omega)) ?_)))
  have c : (nI (6 * p + d)).toNatClampNeg = 6 * p + d := nI_clamp (by omega)
  rw [dt_x6, c, e]
  exact ⟨vp_in_nI (by omega) (by omega), h⟩
theorem dt_xOf_f {post : Int32 → Prop} {v1 v2 : Int32} (hv : ∀ p d, p < 4 → d < 6 → v1 = nI p → v2 = nI d → ¬ al p = 0 → L (6 * p + d) = -1) (h : post (-1)) : wpX_openingOf post (al, L, N, S, W, O, FL, FB, PL, A) v1 v2 := by
  unfold wpX_openingOf
  dsimp only
  rcases dt_alv al v1 with ⟨p, hp, rfl, ha⟩ | ha
  · refine dt_xAl_t hp ha (br_f (by decide) ?_)
    rcases dt_ix v2 with h0 | ⟨d, hd, rfl⟩
    · exact br_t h0 h
    · refine br_f (nI_pos hd) ?_
      by_cases h6 : d < 6
      · refine br_t (nI_lt (b := 6) h6 (by omega)) ?_
        have c : (nI (6 * p + d)).toNatClampNeg = 6 * p + d := nI_clamp (by omega)
        rw [dt_x6, c, hv p d hp h6 rfl rfl ha]
        exact ⟨vp_in_nI (by omega) (by omega), h⟩
      · exact br_f (nI_nlt (b := 6) (by omega) hd) h
  · exact dt_xAl_f ha (br_t rfl h)
theorem dt_xLF_l {post : Int32 → Prop} {p : Nat} (hp : p < 4) : ∀ k i, i + k = 6 → (∀ d, i ≤ d → d < 6 → L (6 * p + d) = -1 → (∀ e, i ≤ e → e < d → L (6 * p + e) ≠ -1) → post (nI d)) → ((∀ d, i ≤ d → d < 6 → L (6 * p + d) ≠ -1) → post (-1)) → wX_leastFree_2 post (nI p) al L N S W O FL FB PL A (k + 1) (nI i) := by
  intro k
  induction k with
  | zero =>
    intro i hi hy hn
    exact br_t (nI_le (a := 6) (by omega) (by omega)) (hn fun d h1 h2 => by omega)
  | succ k ih =>
    intro i hi hy hn
    refine br_f (nI_ge (b := 6) (by omega) (by omega)) ?_
    have c : (nI (6 * p + i)).toNatClampNeg = 6 * p + i := nI_clamp (by omega)
    rw [dt_x6, c]
    refine ⟨vp_in_nI (by omega) (by omega), ?_⟩
    by_cases e : L (6 * p + i) = -1
    · exact br_t e (hy i (Nat.le_refl i) (by omega) e (fun e h1 h2 => by omega))
    · refine br_f e (nm_r (nI_1 i) (ih (i + 1) (by omega) (fun d h1 h2 h3 h4 => hy d (by omega) h2 h3 fun j h5 h6 => ?_) (fun h => hn fun d h1 h2 => ?_)))
      · by_cases ej : j = i
        · rw [ej]; exact e
        · exact h4 j (by omega) h6
      · by_cases ej : d = i
        · rw [ej]; exact e
        · exact h d (by omega) h2
theorem dt_xLF_s {post : Int32 → Prop} {p c d : Nat} (hp : p < 4) (hc : c ≤ d) (hd : d < 6) (e : L (6 * p + d) = -1) (hm : ∀ e, c ≤ e → e < d → L (6 * p + e) ≠ -1) (h : post (nI d)) : wpX_leastFree post (al, L, N, S, W, O, FL, FB, PL, A) (nI p) (nI c) := by
  refine ⟨6 - c + 1, dt_xLF_l hp (6 - c) c (by omega) (fun d' h1 h2 h3 h4 => ?_) (fun hn => absurd e (hn d hc hd))⟩
  have h5 : ¬ d' < d := fun hlt => hm d' h1 hlt h3
  have h6 : ¬ d < d' := fun hlt => h4 d hc hlt e
  have h7 : d' = d := by omega
  rw [h7]; exact h
theorem dt_xLF_n {post : Int32 → Prop} {p c : Nat} (hp : p < 4) (hc : c ≤ 6) (hm : ∀ d, c ≤ d → d < 6 → L (6 * p + d) ≠ -1) (h : post (-1)) : wpX_leastFree post (al, L, N, S, W, O, FL, FB, PL, A) (nI p) (nI c) :=
  ⟨6 - c + 1, dt_xLF_l hp (6 - c) c (by omega) (fun d' h1 h2 h3 h4 => absurd h3 (hm d' h1 h2)) (fun _ => h)⟩
theorem dt_xOE_l {post : Int32 → Prop} {o : Int32} : ∀ k i, i + k = 24 → ((∃ j, i ≤ j ∧ j < 24 ∧ L j = o) → post 1) → ((∀ j, i ≤ j → j < 24 → L j ≠ o) → post 0) → wX_openingExists_2 post o al L N S W O FL FB PL A (k + 1) (nI i) := by
  intro k
  induction k with
  | zero =>
    intro i hi hy hn
    exact br_t (nI_le (a := 24) (by omega) (by omega)) (hn fun j h1 h2 => by omega)
  | succ k ih =>
    intro i hi hy hn
    have c : (nI i).toNatClampNeg = i := nI_clamp (by omega)
    refine br_f (nI_ge (b := 24) (by omega) (by omega)) ⟨vp_in_nI (by omega) (by omega), ?_⟩
    rw [c]
    by_cases e : L i = o
    · exact br_t e (hy ⟨i, Nat.le_refl i, by omega, e⟩)
    · refine br_f e (nm_r (nI_1 i) (ih (i + 1) (by omega) (fun ⟨j, h1, h2, h3⟩ => hy ⟨j, by omega, h2, h3⟩) (fun h => hn fun j h1 h2 => ?_)))
      by_cases ej : j = i
      · rw [ej]; exact e
      · exact h j (by omega) h2
theorem dt_xOE {post : Int32 → Prop} {o : Nat} (hy : dt_Op L o → post 1) (hn : ¬ dt_Op L o → post 0) : wpX_openingExists post (al, L, N, S, W, O, FL, FB, PL, A) (nI o) :=
  ⟨25, dt_xOE_l 24 0 rfl (fun ⟨j, _, h2, h3⟩ => hy ⟨j, h2, h3⟩) (fun h => hn fun ⟨j, h2, h3⟩ => h j (Nat.zero_le j) h2 h3)⟩
theorem dt_xIO_l {post : Int32 → Prop} {s w : Int32} (hL : ∀ i, i < 24 → L i = -1 ∨ ∃ o, o < 24 ∧ L i = nI o) : ∀ k i, i + k = 24 → ((∃ j o, i ≤ j ∧ j < 24 ∧ o < 24 ∧ L j = nI o ∧ S o = s ∧ W o = w) → post 1) → ((∀ j o, i ≤ j → j < 24 → o < 24 → L j = nI o → S o = s → W o ≠ w) → post 0) → wX_isOpen_2 post s w al L N S W O FL FB PL A (k + 1) (nI i) := by
  intro k
  induction k with
  | zero =>
    intro i hi hy hn
    exact br_t (nI_le (a := 24) (by omega) (by omega)) (hn fun j o h1 h2 => by omega)
  | succ k ih =>
    intro i hi hy hn
    have c : (nI i).toNatClampNeg = i := nI_clamp (by omega)
    have go : (∀ o, o < 24 → L i = nI o → S o = s → W o ≠ w) → wX_isOpen_2 post s w al L N S W O FL FB PL A (k + 1) (nI (i + 1)) := fun hx =>
      ih (i + 1) (by omega) (fun ⟨j, o, h1, h2⟩ => hy ⟨j, o, by omega, h2⟩) (fun h => hn fun j o h1 h2 h3 => by
        by_cases ej : j = i
        · rw [ej]; exact hx o h3
        · exact h j o (by omega) h2 h3)
    refine br_f (nI_ge (b := 24) (by omega) (by omega)) ⟨vp_in_nI (by omega) (by omega), nm_e ?_⟩
    rw [c]
    rcases hL i (by omega) with e | ⟨o, ho, e⟩
    · exact br_t e (nm_r (nI_1 i) (go fun o ho e2 => absurd (e2.symm.trans e) (dt_ne (by omega))))
    · have c2 : (nI o).toNatClampNeg = o := nI_clamp (by omega)
      have hu : ∀ o', o' < 24 → L i = nI o' → o' = o := fun o' ho' e2 => dt_inj (by omega) (by omega) (e2.symm.trans e)
      rw [e, c2]
      refine br_f (dt_ne (by omega)) ⟨vp_in_nI ho (by omega), ?_⟩
      by_cases es : S o = s
      · refine br_t es ⟨vp_in_nI ho (by omega), ?_⟩
        by_cases ew : W o = w
        · exact br_t ew (hy ⟨i, o, Nat.le_refl i, by omega, ho, e, es, ew⟩)
        · exact br_f ew (nm_r (nI_1 i) (go fun o' ho' e2 _ => by rw [hu o' ho' e2]; exact ew))
      · exact br_f es (nm_r (nI_1 i) (go fun o' ho' e2 e3 => absurd (by rw [hu o' ho' e2] at e3; exact e3) es))
theorem dt_xIO {post : Int32 → Prop} {s w : Int32} (hL : ∀ i, i < 24 → L i = -1 ∨ ∃ o, o < 24 ∧ L i = nI o) (hy : dt_Has L S W s w → post 1) (hn : ¬ dt_Has L S W s w → post 0) : wpX_isOpen post (al, L, N, S, W, O, FL, FB, PL, A) s w :=
  ⟨25, dt_xIO_l hL 24 0 rfl (fun ⟨j, o, _, h2⟩ => hy ⟨j, o, h2⟩) (fun h => hn fun ⟨j, o, h1, h2, h3, h4, h5⟩ => h j o (Nat.zero_le j) h1 h2 h3 h4 h5)⟩
theorem dt_xFE_l {post : Int32 → Prop} {w : Int32} (hL : ∀ i, i < 24 → L i = -1 ∨ ∃ o, o < 24 ∧ L i = nI o) : ∀ k i, i + k = 4 → ((∃ n, i ≤ n ∧ n < 4 ∧ N n = w) ∨ dt_Has L S W 0 w → post 1) → ((∀ n, i ≤ n → n < 4 → N n ≠ w) → ¬ dt_Has L S W 0 w → post 0) → wX_fileExists_2 post w al L N S W O FL FB PL A (k + 1) (nI i) := by
  intro k
  induction k with
  | zero =>
    intro i hi hy hn
    refine br_t (nI_le (a := 4) (by omega) (by omega)) ?_
    exact dt_xIO hL (fun h => ⟨rfl, hy (Or.inr h)⟩) (fun h => ⟨rfl, hn (fun n h1 h2 => by omega) h⟩)
  | succ k ih =>
    intro i hi hy hn
    have c : (nI i).toNatClampNeg = i := nI_clamp (by omega)
    refine br_f (nI_ge (b := 4) (by omega) (by omega)) ⟨vp_in_nI (by omega) (by omega), ?_⟩
    rw [c]
    by_cases e : N i = w
    · exact br_t e (hy (Or.inl ⟨i, Nat.le_refl i, by omega, e⟩))
    · refine br_f e (nm_r (nI_1 i) (ih (i + 1) (by omega) (fun h => hy ?_) (fun h h0 => hn (fun j h1 h2 => ?_) h0)))
      · rcases h with ⟨n, h1, h2, h3⟩ | h
        · exact Or.inl ⟨n, by omega, h2, h3⟩
        · exact Or.inr h
      · by_cases ej : j = i
        · rw [ej]; exact e
        · exact h j (by omega) h2
theorem dt_xFE {post : Int32 → Prop} {f : Nat} (hL : ∀ i, i < 24 → L i = -1 ∨ ∃ o, o < 24 ∧ L i = nI o) (hy : dt_Fi L N S W f → post 1) (hn : ¬ dt_Fi L N S W f → post 0) : wpX_fileExists post (al, L, N, S, W, O, FL, FB, PL, A) (nI f) := by
  refine ⟨5, dt_xFE_l hL 4 0 rfl (fun h => hy ?_) (fun h h0 => hn fun hf => ?_)⟩
  · rcases h with ⟨n, _, h2, h3⟩ | h
    · exact Or.inl ⟨n, h2, h3⟩
    · exact Or.inr h
  · rcases hf with ⟨n, h2, h3⟩ | hf
    · exact h n (Nat.zero_le n) h2 h3
    · exact h0 hf
theorem dt_xPE {post : Int32 → Prop} {w : Nat} (hL : ∀ i, i < 24 → L i = -1 ∨ ∃ o, o < 24 ∧ L i = nI o) (hy : dt_Pi L S W w → post 1) (hn : ¬ dt_Pi L S W w → post 0) : wpX_pipeExists post (al, L, N, S, W, O, FL, FB, PL, A) (nI w) := by
  unfold wpX_pipeExists
  dsimp only
  exact dt_xIO hL (fun h => br_f (by decide) (hy (Or.inl h))) (fun h => br_t rfl (dt_xIO hL (fun h2 => br_f (by decide) (hy (Or.inr h2))) (fun h2 => br_t rfl (hn fun h3 => h3.elim h h2))))
theorem dt_xNF_l {post : Int32 → SX → Prop} {f : Nat} (hL : ∀ i, i < 24 → L i = -1 ∨ ∃ o, o < 24 ∧ L i = nI o) (hf : f < 28) (hn : ¬ dt_Fi L N S W f) (hm : ∀ j, j < f → dt_Fi L N S W j) (h : post (nI f) (al, L, N, S, W, O, upd FL f 0, FB, PL, A)) : ∀ k i, i + k = f → wX_newFile_2 post al L N S W O FL FB PL A (k + 1) (nI i) := by
  intro k
  induction k with
  | zero =>
    intro i hi
    have ei : i = f := by omega
    subst ei
    have c : (nI i).toNatClampNeg = i := nI_clamp (by omega)
    have v : vp_in (nI i) 28 := vp_in_nI hf (by omega)
    by_cases e : 27 ≤ i
    · exact br_t (nI_le (a := 27) e (by omega)) ⟨v, nm_r (by rw [c]) h⟩
    · exact br_f (nI_ge (b := 27) (by omega) (by omega)) (dt_xFE hL (fun h2 => absurd h2 hn) (fun _ => br_t rfl ⟨v, nm_r (by rw [c]) h⟩))
  | succ k ih =>
    intro i hi
    exact br_f (nI_ge (b := 27) (by omega) (by omega)) (dt_xFE hL (fun _ => br_f (by decide) (nm_r (nI_1 i) (ih (i + 1) (by omega)))) (fun h2 => absurd (hm i (by omega)) h2))
theorem dt_xNF {post : Int32 → SX → Prop} {f : Nat} (hL : ∀ i, i < 24 → L i = -1 ∨ ∃ o, o < 24 ∧ L i = nI o) (hf : f < 28) (hn : ¬ dt_Fi L N S W f) (hm : ∀ j, j < f → dt_Fi L N S W j) (h : post (nI f) (al, L, N, S, W, O, upd FL f 0, FB, PL, A)) : wpX_newFile post (al, L, N, S, W, O, FL, FB, PL, A) :=
  ⟨f + 1, dt_xNF_l hL hf hn hm h f 0 (by omega)⟩
theorem dt_xNP_l {post : Int32 → SX → Prop} {f : Nat} (hL : ∀ i, i < 24 → L i = -1 ∨ ∃ o, o < 24 ∧ L i = nI o) (hf : f < 24) (hn : f < 23 → ¬ dt_Pi L S W f) (hm : ∀ j, j < f → dt_Pi L S W j) (h : post (nI f) (al, L, N, S, W, O, FL, FB, upd PL f 0, A)) : ∀ k i, i + k = f → wX_newPipe_2 post al L N S W O FL FB PL A (k + 1) (nI i) := by
  intro k
  induction k with
  | zero =>
    intro i hi
    have ei : i = f := by omega
    subst ei
    have c : (nI i).toNatClampNeg = i := nI_clamp (by omega)
    have v : vp_in (nI i) 24 := vp_in_nI hf (by omega)
    by_cases e : 23 ≤ i
    · exact br_t (nI_le (a := 23) e (by omega)) ⟨v, nm_r (by rw [c]) h⟩
    · exact br_f (nI_ge (b := 23) (by omega) (by omega)) (dt_xPE hL (fun h2 => absurd h2 (hn (by omega))) (fun _ => br_t rfl ⟨v, nm_r (by rw [c]) h⟩))
  | succ k ih =>
    intro i hi
    exact br_f (nI_ge (b := 23) (by omega) (by omega)) (dt_xPE hL (fun _ => br_f (by decide) (nm_r (nI_1 i) (ih (i + 1) (by omega)))) (fun h2 => absurd (hm i (by omega)) h2))
theorem dt_xNP {post : Int32 → SX → Prop} {f : Nat} (hL : ∀ i, i < 24 → L i = -1 ∨ ∃ o, o < 24 ∧ L i = nI o) (hf : f < 24) (hn : f < 23 → ¬ dt_Pi L S W f) (hm : ∀ j, j < f → dt_Pi L S W j) (h : post (nI f) (al, L, N, S, W, O, FL, FB, upd PL f 0, A)) : wpX_newPipe post (al, L, N, S, W, O, FL, FB, PL, A) :=
  ⟨f + 1, dt_xNP_l hL hf hn hm h f 0 (by omega)⟩
theorem dt_xN25 {post : SX → Prop} {p d o : Nat} {s w : Int32} (hp : p < 4) (hd : d < 6) (ho : o < 24) (h : post (al, upd L (6 * p + d) (nI o), N, upd S o s, upd W o w, upd O o 0, FL, FB, PL, A)) : wX_leadToNewOpening_25 post (nI p) (nI d) s w (nI o) al L N S W O FL FB PL A := by
  have c : (nI o).toNatClampNeg = o := nI_clamp (by omega)
  have v : vp_in (nI o) 24 := vp_in_nI ho (by omega)
  have c2 : (nI p * 6 + nI d).toNatClampNeg = 6 * p + d := by rw [dt_x6]; exact nI_clamp (by omega)
  have v2 : vp_in (nI p * 6 + nI d) 24 := by rw [dt_x6]; exact vp_in_nI (by omega) (by omega)
  exact ⟨v, nm_r (by rw [c]) ⟨v, nm_r (by rw [c]) ⟨v, nm_r (by rw [c]) ⟨v2, nm_r (by rw [c2]) h⟩⟩⟩⟩
theorem dt_xNO_l {post : SX → Prop} {p d o : Nat} {s w : Int32} (hp : p < 4) (hd : d < 6) (ho : o < 24) (hn : ¬ dt_Op L o) (hm : ∀ j, j < o → dt_Op L j) (h : post (al, upd L (6 * p + d) (nI o), N, upd S o s, upd W o w, upd O o 0, FL, FB, PL, A)) : ∀ k i, i + k = o → wX_leadToNewOpening_3 post (nI p) (nI d) s w al L N S W O FL FB PL A (k + 1) (nI i) := by
  intro k
  induction k with
  | zero =>
    intro i hi
    have ei : i = o := by omega
    subst ei
    by_cases e : 23 ≤ i
    · exact br_t (nI_le (a := 23) e (by omega)) (dt_xN25 hp hd ho h)
    · exact br_f (nI_ge (b := 23) (by omega) (by omega)) (dt_xOE (fun h2 => absurd h2 hn) (fun _ => br_t rfl (dt_xN25 hp hd ho h)))
  | succ k ih =>
    intro i hi
    exact br_f (nI_ge (b := 23) (by omega) (by omega)) (dt_xOE (fun _ => br_f (by decide) (nm_r (nI_1 i) (ih (i + 1) (by omega)))) (fun h2 => absurd (hm i (by omega)) h2))
theorem dt_xNO {post : SX → Prop} {p d o : Nat} {s w : Int32} (hp : p < 4) (hd : d < 6) (ho : o < 24) (hn : ¬ dt_Op L o) (hm : ∀ j, j < o → dt_Op L j) (h : post (al, upd L (6 * p + d) (nI o), N, upd S o s, upd W o w, upd O o 0, FL, FB, PL, A)) : wpX_leadToNewOpening post (al, L, N, S, W, O, FL, FB, PL, A) (nI p) (nI d) s w :=
  ⟨o + 1, dt_xNO_l hp hd ho hn hm h o 0 (by omega)⟩
end
