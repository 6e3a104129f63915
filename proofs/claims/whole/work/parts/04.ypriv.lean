/-! the reference's own methods, each for any post -/
theorem dt_ge0 {x : Int32} (h : x = -1 ∨ ∃ o, o < 24 ∧ x = nI o) : 0 ≤ x ↔ x ≠ -1 := by
  rcases h with e | ⟨o, ho, e⟩
  · rw [e]; decide
  · rw [e]; exact ⟨fun _ => dt_ne (by omega), fun _ => nI_pos' (by omega)⟩
section
variable {al L N S W O FL FB PL B : Nat → Int32}
theorem dt_yAl_t {post : Int32 → Prop} {p : Nat} (hp : p < 4) (ha : ¬ al p = 0) (h : post 0) : wpY_dead post (al, L, S, W, O, N, FL, FB, PL, B) (nI p) := by
  have c : (nI p).toNatClampNeg = p := nI_clamp (by omega)
  unfold wpY_dead
  dsimp only
  rw [c]
  exact br_f (nI_pos (by omega)) (br_f (nI_nlt (a := 3) (by omega) (by omega)) ⟨vp_in_nI hp (by omega), br_f ha h⟩)
theorem dt_yAl_f {post : Int32 → Prop} {v : Int32} (hv : ∀ p, p < 4 → v = nI p → al p = 0) (h : post 1) : wpY_dead post (al, L, S, W, O, N, FL, FB, PL, B) v := by
  unfold wpY_dead
  dsimp only
  rcases dt_ix v with h0 | ⟨j, hj, rfl⟩
  · exact br_t h0 h
  · refine br_f (nI_pos hj) ?_
    by_cases h4 : j < 4
    · have c : (nI j).toNatClampNeg = j := nI_clamp hj
      rw [c]
      exact br_f (nI_nlt (a := 3) (by omega) (by omega)) ⟨vp_in_nI h4 (by omega), br_t (hv j h4 rfl) h⟩
    · exact br_t (nI_lt (a := 3) (by omega) hj) h
theorem dt_yNa_t {post : Int32 → Prop} {p : Nat} (hp : p < 4) (h : post 0) : wpY_badName post (nI p) := by
  unfold wpY_badName
  exact br_f (nI_pos (by omega)) (br_t (nI_le (b := 3) (by omega) (by omega)) h)
theorem dt_yNa_f {post : Int32 → Prop} {v : Int32} (hv : ∀ p, p < 4 → v ≠ nI p) (h : post 1) : wpY_badName post v := by
  unfold wpY_badName
  rcases dt_ix v with h0 | ⟨j, hj, rfl⟩
  · exact br_t h0 h
  · refine br_f (nI_pos hj) ?_
    by_cases h4 : j < 4
    · exact absurd rfl (hv j h4)
    · exact br_f (nI_ge (a := 3) (by omega) hj) h
theorem dt_yFr_t {post : Int32 → Prop} {p d o : Nat} (hp : p < 4) (hd : d < 6) (ho : o < 24) (ha : ¬ al p = 0) (e : L (6 * p + d) = nI o) (h : post 0) : wpY_free post (al, L, S, W, O, N, FL, FB, PL, B) (nI p) (nI d) := by
  unfold wpY_free
  dsimp only
  refine dt_yAl_t hp ha (br_t rfl (br_f (nI_pos (by omega)) (br_f (nI_nlt (a := 5) (by omega) (by omega)) ?_)))
  have c : (nI (6 * p + d)).toNatClampNeg = 6 * p + d := nI_clamp (by omega)
  rw [dt_y6, c, e]
  exact ⟨vp_in_nI (by omega) (by omega), br_t (nI_pos' (by omega)) h⟩
theorem dt_yFr_f {post : Int32 → Prop} {v1 v2 : Int32} (hv : ∀ p d, p < 4 → d < 6 → v1 = nI p → v2 = nI d → ¬ al p = 0 → L (6 * p + d) = -1) (h : post 1) : wpY_free post (al, L, S, W, O, N, FL, FB, PL, B) v1 v2 := by
  unfold wpY_free
  dsimp only
  rcases dt_alv al v1 with ⟨p, hp, rfl, ha⟩ | ha
  · refine dt_yAl_t hp ha (br_t rfl ?_)
    rcases dt_ix v2 with h0 | ⟨d, hd, rfl⟩
    · exact br_t h0 h
    · refine br_f (nI_pos hd) ?_
      by_cases h6 : d < 6
      · refine br_f (nI_nlt (a := 5) (by omega) (by omega)) ?_
        have c : (nI (6 * p + d)).toNatClampNeg = 6 * p + d := nI_clamp (by omega)
        rw [dt_y6, c, hv p d hp h6 rfl rfl ha]
        exact ⟨vp_in_nI (by omega) (by omega), br_f (by decide) h⟩
      · exact br_t (nI_lt (a := 5) (by omega) hd) h
  · exact dt_yAl_f ha (br_f (by decide) h)
theorem dt_yLF_l {post : Int32 → Prop} {p : Nat} (hL : ∀ i, i < 24 → L i = -1 ∨ ∃ o, o < 24 ∧ L i = nI o) (hp : p < 4) : ∀ k i, i + k = 6 → (∀ d, i ≤ d → d < 6 → L (6 * p + d) = -1 → (∀ e, i ≤ e → e < d → L (6 * p + e) ≠ -1) → post (nI d)) → ((∀ d, i ≤ d → d < 6 → L (6 * p + d) ≠ -1) → post (-1)) → wY_leastFree_2 post (nI p) al L S W O N FL FB PL B (k + 1) (nI i) := by
  intro k
  induction k with
  | zero =>
    intro i hi hy hn
    exact br_t (nI_le (a := 6) (by omega) (by omega)) (hn fun d h1 h2 => by omega)
  | succ k ih =>
    intro i hi hy hn
    refine br_f (nI_ge (b := 6) (by omega) (by omega)) ?_
    have c : (nI (6 * p + i)).toNatClampNeg = 6 * p + i := nI_clamp (by omega)
    rw [dt_y6, c]
    refine ⟨vp_in_nI (by omega) (by omega), ?_⟩
    have g := dt_ge0 (hL (6 * p + i) (by omega))
    by_cases e : L (6 * p + i) = -1
    · exact br_f (fun h => g.mp h e) (hy i (Nat.le_refl i) (by omega) e (fun e h1 h2 => by omega))
    · refine br_t (g.mpr e) (nm_r (nI_1 i) (ih (i + 1) (by omega) (fun d h1 h2 h3 h4 => hy d (by omega) h2 h3 fun j h5 h6 => ?_) (fun h => hn fun d h1 h2 => ?_)))
      · by_cases ej : j = i
        · rw [ej]; exact e
        · exact h4 j (by omega) h6
      · by_cases ej : d = i
        · rw [ej]; exact e
        · exact h d (by omega) h2
theorem dt_yLF_s {post : Int32 → Prop} {p d : Nat} (hL : ∀ i, i < 24 → L i = -1 ∨ ∃ o, o < 24 ∧ L i = nI o) (hp : p < 4) (hd : d < 6) (e : L (6 * p + d) = -1) (hm : ∀ e, 0 ≤ e → e < d → L (6 * p + e) ≠ -1) (h : post (nI d)) : wpY_leastFree post (al, L, S, W, O, N, FL, FB, PL, B) (nI p) := by
  refine ⟨7, dt_yLF_l hL hp 6 0 rfl (fun d' h1 h2 h3 h4 => ?_) (fun hn => absurd e (hn d (Nat.zero_le d) hd))⟩
  have h5 : ¬ d' < d := fun hlt => hm d' h1 hlt h3
  have h6 : ¬ d < d' := fun hlt => h4 d (Nat.zero_le d) hlt e
  have h7 : d' = d := by omega
  rw [h7]; exact h
theorem dt_yLF_n {post : Int32 → Prop} {p : Nat} (hL : ∀ i, i < 24 → L i = -1 ∨ ∃ o, o < 24 ∧ L i = nI o) (hp : p < 4) (hm : ∀ d, 0 ≤ d → d < 6 → L (6 * p + d) ≠ -1) (h : post (-1)) : wpY_leastFree post (al, L, S, W, O, N, FL, FB, PL, B) (nI p) :=
  ⟨7, dt_yLF_l hL hp 6 0 rfl (fun d' h1 h2 h3 h4 => absurd h3 (hm d' h1 h2)) (fun _ => h)⟩
theorem dt_yOE_l {post : Int32 → Prop} {o : Int32} : ∀ k i, i + k = 24 → ((∃ j, i ≤ j ∧ j < 24 ∧ L j = o) → post 1) → ((∀ j, i ≤ j → j < 24 → L j ≠ o) → post 0) → wY_opened_2 post o al L S W O N FL FB PL B (k + 1) (nI i) := by
  intro k
  induction k with
  | zero =>
    intro i hi hy hn
    exact br_t (nI_le (a := 24) (by omega) (by omega)) (hn fun j h1 h2 => by omega)
  | succ k ih =>
    intro i hi hy hn
    have c : (nI i).toNatClampNeg = i := nI_clamp (by omega)
    refine br_f (nI_ge (b := 24) (by omega) (by omega)) ⟨vp_in_nI (by omega) (by omega), ?_⟩
    rw [c]
    by_cases e : L i = o
    · exact br_t e (hy ⟨i, Nat.le_refl i, by omega, e⟩)
    · refine br_f e (nm_r (nI_1 i) (ih (i + 1) (by omega) (fun ⟨j, h1, h2, h3⟩ => hy ⟨j, by omega, h2, h3⟩) (fun h => hn fun j h1 h2 => ?_)))
      by_cases ej : j = i
      · rw [ej]; exact e
      · exact h j (by omega) h2
theorem dt_yOE {post : Int32 → Prop} {o : Nat} (hy : dt_Op L o → post 1) (hn : ¬ dt_Op L o → post 0) : wpY_opened post (al, L, S, W, O, N, FL, FB, PL, B) (nI o) :=
  ⟨25, dt_yOE_l 24 0 rfl (fun ⟨j, _, h2, h3⟩ => hy ⟨j, h2, h3⟩) (fun h => hn fun ⟨j, h2, h3⟩ => h j (Nat.zero_le j) h2 h3)⟩
theorem dt_y45 {post : Int32 → Prop} {J : Int32 → Prop} {o : Nat} {s w z : Int32} (ho : o < 24) (hy : ¬ z = 0 → W o = w → dt_Op L o → post 1) (hn : (¬ z = 0 → W o = w → ¬ dt_Op L o) → J (nI (o + 1))) : wY_hasOpening_45 post J s w (nI o) z al L S W O N FL FB PL B := by
  have c : (nI o).toNatClampNeg = o := nI_clamp (by omega)
  unfold wY_hasOpening_45
  rw [c]
  by_cases hz : z = 0
  · exact br_t hz (nm_r (nI_1 o) (hn fun h => absurd hz h))
  · refine br_f hz ⟨vp_in_nI ho (by omega), ?_⟩
    by_cases hw : W o = w
    · exact br_t hw (dt_yOE (fun h => br_f (by decide) (hy hz hw h)) (fun h => br_t rfl (nm_r (nI_1 o) (hn fun _ _ => h))))
    · exact br_f hw (nm_r (nI_1 o) (hn fun _ h => absurd h hw))
theorem dt_yHO_l {post : Int32 → Prop} {s w : Int32} {Q : Nat → Prop} (hQ : ∀ o, Q o ↔ (s = 3 ∧ ¬ S o ≤ 0) ∨ (¬ s = 3 ∧ S o = s)) : ∀ k i, i + k = 24 → ((∃ o, i ≤ o ∧ o < 24 ∧ Q o ∧ W o = w ∧ dt_Op L o) → post 1) → ((∀ o, i ≤ o → o < 24 → Q o → W o = w → ¬ dt_Op L o) → post 0) → wY_hasOpening_2 post s w al L S W O N FL FB PL B (k + 1) (nI i) := by
  intro k
  induction k with
  | zero =>
    intro i hi hy hn
    exact br_t (nI_le (a := 24) (by omega) (by omega)) (hn fun j h1 h2 => by omega)
  | succ k ih =>
    intro i hi hy hn
    have c : (nI i).toNatClampNeg = i := nI_clamp (by omega)
    have v : vp_in (nI i) 24 := vp_in_nI (by omega) (by omega)
    have go : (Q i → W i = w → ¬ dt_Op L i) → wY_hasOpening_2 post s w al L S W O N FL FB PL B (k + 1) (nI (i + 1)) := fun hx =>
      ih (i + 1) (by omega) (fun ⟨o, h1, h2⟩ => hy ⟨o, by omega, h2⟩) (fun h => hn fun o h1 h2 => by
        by_cases ej : o = i
        · rw [ej]; exact hx
        · exact h o (by omega) h2)
    have yes : Q i → W i = w → dt_Op L i → post 1 := fun h1 h2 h3 => hy ⟨i, Nat.le_refl i, by omega, h1, h2, h3⟩
    refine br_f (nI_ge (b := 24) (by omega) (by omega)) ?_
    rw [c]
    by_cases h3 : s = 3
    · refine br_t h3 ⟨v, ?_⟩
      by_cases h0 : S i ≤ 0
      · exact br_t h0 (dt_y45 (by omega) (fun h => absurd rfl h) (fun _ => go fun hq => absurd hq (by
          rw [hQ]; exact fun h => h.elim (fun h => h.2 h0) (fun h => h.1 h3))))
      · have q : Q i := (hQ i).mpr (Or.inl ⟨h3, h0⟩)
        exact br_f h0 (dt_y45 (by omega) (fun _ => yes q) (fun h => go fun _ => h (by decide)))
    · refine br_f h3 ⟨v, ?_⟩
      by_cases h0 : S i = s
      · have q : Q i := (hQ i).mpr (Or.inr ⟨h3, h0⟩)
        exact br_t h0 (dt_y45 (by omega) (fun _ => yes q) (fun h => go fun _ => h (by decide)))
      · exact br_f h0 (dt_y45 (by omega) (fun h => absurd rfl h) (fun _ => go fun hq => absurd hq (by
          rw [hQ]; exact fun h => h.elim (fun h => h3 h.1) (fun h => h0 h.2))))
theorem dt_yHO {post : Int32 → Prop} {s w : Int32} (hs : ¬ s = 3) (hy : dt_Has L S W s w → post 1) (hn : ¬ dt_Has L S W s w → post 0) : wpY_hasOpening post (al, L, S, W, O, N, FL, FB, PL, B) s w := by
  refine ⟨25, dt_yHO_l (Q := fun o => S o = s) (fun o => ⟨fun h => Or.inr ⟨hs, h⟩, fun h => h.elim (fun h => absurd h.1 hs) (fun h => h.2)⟩) 24 0 rfl (fun h => hy ?_) (fun h => hn ?_)⟩
  · obtain ⟨o, _, ho, h1, h2, i, hi, h3⟩ := h
    exact ⟨i, o, hi, ho, h3, h1, h2⟩
  · intro ⟨i, o, hi, ho, h3, h1, h2⟩
    exact h o (Nat.zero_le o) ho h1 h2 ⟨i, hi, h3⟩
theorem dt_yHO3 {post : Int32 → Prop} {w : Nat} (hS : ∀ o, o < 24 → S o = 0 ∨ S o = 1 ∨ S o = 2) (hy : dt_Pi L S W w → post 1) (hn : ¬ dt_Pi L S W w → post 0) : wpY_hasOpening post (al, L, S, W, O, N, FL, FB, PL, B) 3 (nI w) := by
  refine ⟨25, dt_yHO_l (Q := fun o => ¬ S o ≤ 0) (fun o => ⟨fun h => Or.inl ⟨rfl, h⟩, fun h => h.elim (fun h => h.2) (fun h => absurd rfl h.1)⟩) 24 0 rfl (fun h => hy ?_) (fun h => hn ?_)⟩
  · obtain ⟨o, _, ho, h1, h2, i, hi, h3⟩ := h
    rcases hS o ho with e | e | e
    · exact absurd (by rw [e]; decide) h1
    · exact Or.inl ⟨i, o, hi, ho, h3, e, h2⟩
    · exact Or.inr ⟨i, o, hi, ho, h3, e, h2⟩
  · intro hp
    rcases hp with ⟨i, o, hi, ho, h3, h1, h2⟩ | ⟨i, o, hi, ho, h3, h1, h2⟩
    · exact h o (Nat.zero_le o) ho (by rw [h1]; decide) h2 ⟨i, hi, h3⟩
    · exact h o (Nat.zero_le o) ho (by rw [h1]; decide) h2 ⟨i, hi, h3⟩
theorem dt_yFE_l {post : Int32 → Prop} {w : Int32} : ∀ k i, i + k = 4 → ((∃ n, i ≤ n ∧ n < 4 ∧ N n = w) ∨ dt_Has L S W 0 w → post 1) → ((∀ n, i ≤ n → n < 4 → N n ≠ w) → ¬ dt_Has L S W 0 w → post 0) → wY_isFile_2 post w al L S W O N FL FB PL B (k + 1) (nI i) := by
  intro k
  induction k with
  | zero =>
    intro i hi hy hn
    refine br_t (nI_le (a := 4) (by omega) (by omega)) ?_
    exact dt_yHO (by decide) (fun h => ⟨rfl, hy (Or.inr h)⟩) (fun h => ⟨rfl, hn (fun n h1 h2 => by omega) h⟩)
  | succ k ih =>
    intro i hi hy hn
    have c : (nI i).toNatClampNeg = i := nI_clamp (by omega)
    refine br_f (nI_ge (b := 4) (by omega) (by omega)) ⟨vp_in_nI (by omega) (by omega), ?_⟩
    rw [c]
    by_cases e : N i = w
    · exact br_t e (hy (Or.inl ⟨i, Nat.le_refl i, by omega, e⟩))
    · refine br_f e (nm_r (nI_1 i) (ih (i + 1) (by omega) (fun h => hy ?_) (fun h h0 => hn (fun j h1 h2 => ?_) h0)))
      · rcases h with ⟨n, h1, h2, h3⟩ | h
        · exact Or.inl ⟨n, by omega, h2, h3⟩
        · exact Or.inr h
      · by_cases ej : j = i
        · rw [ej]; exact e
        · exact h j (by omega) h2
theorem dt_yFE {post : Int32 → Prop} {f : Nat} (hy : dt_Fi L N S W f → post 1) (hn : ¬ dt_Fi L N S W f → post 0) : wpY_isFile post (al, L, S, W, O, N, FL, FB, PL, B) (nI f) := by
  refine ⟨5, dt_yFE_l 4 0 rfl (fun h => hy ?_) (fun h h0 => hn fun hf => ?_)⟩
  · rcases h with ⟨n, _, h2, h3⟩ | h
    · exact Or.inl ⟨n, h2, h3⟩
    · exact Or.inr h
  · rcases hf with ⟨n, h2, h3⟩ | hf
    · exact h n (Nat.zero_le n) h2 h3
    · exact h0 hf
theorem dt_yNF_l {post : Int32 → SY → Prop} {f : Nat} (hf : f < 28) (hn : ¬ dt_Fi L N S W f) (hm : ∀ j, j < f → dt_Fi L N S W j) (h : post (nI f) (al, L, S, W, O, N, upd FL f 0, FB, PL, B)) : ∀ k i, i + k = f → wY_newFile_2 post al L S W O N FL FB PL B (k + 1) (nI i) := by
  intro k
  induction k with
  | zero =>
    intro i hi
    have ei : i = f := by omega
    subst ei
    have c : (nI i).toNatClampNeg = i := nI_clamp (by omega)
    have v : vp_in (nI i) 28 := vp_in_nI hf (by omega)
    exact br_f (nI_ge (b := 28) (by omega) (by omega)) (dt_yFE (fun h2 => absurd h2 hn) (fun _ => br_t rfl ⟨v, nm_r (by rw [c]) h⟩))
  | succ k ih =>
    intro i hi
    exact br_f (nI_ge (b := 28) (by omega) (by omega)) (dt_yFE (fun _ => br_f (by decide) (nm_r (nI_1 i) (ih (i + 1) (by omega)))) (fun h2 => absurd (hm i (by omega)) h2))
theorem dt_yNF {post : Int32 → SY → Prop} {f : Nat} (hf : f < 28) (hn : ¬ dt_Fi L N S W f) (hm : ∀ j, j < f → dt_Fi L N S W j) (h : post (nI f) (al, L, S, W, O, N, upd FL f 0, FB, PL, B)) : wpY_newFile post (al, L, S, W, O, N, FL, FB, PL, B) :=
  ⟨f + 1, dt_yNF_l hf hn hm h f 0 (by omega)⟩
theorem dt_yNO_l {post : Int32 → SY → Prop} {p d o : Nat} {s w : Int32} (hp : p < 4) (hd : d < 6) (ho : o < 24) (hn : ¬ dt_Op L o) (hm : ∀ j, j < o → dt_Op L j) (h : post (nI d) (al, upd L (6 * p + d) (nI o), upd S o s, upd W o w, upd O o 0, N, FL, FB, PL, B)) : ∀ k i, i + k = o → wY_lead_10 post (nI p) s w (nI d) al L S W O N FL FB PL B (k + 1) (nI i) := by
  intro k
  induction k with
  | zero =>
    intro i hi
    have ei : i = o := by omega
    subst ei
    have c : (nI i).toNatClampNeg = i := nI_clamp (by omega)
    have v : vp_in (nI i) 24 := vp_in_nI ho (by omega)
    have c2 : (6 * nI p + nI d).toNatClampNeg = 6 * p + d := by rw [dt_y6]; exact nI_clamp (by omega)
    have v2 : vp_in (6 * nI p + nI d) 24 := by rw [dt_y6]; exact vp_in_nI (by omega) (by omega)
    exact br_f (nI_ge (b := 24) (by omega) (by omega)) (dt_yOE (fun h2 => absurd h2 hn) (fun _ => br_t rfl ⟨v, nm_r (by rw [c]) ⟨v, nm_r (by rw [c]) ⟨v, nm_r (by rw [c]) ⟨v2, nm_r (by rw [c2]) h⟩⟩⟩⟩))
  | succ k ih =>
    intro i hi
    exact br_f (nI_ge (b := 24) (by omega) (by omega)) (dt_yOE (fun _ => br_f (by decide) (nm_r (nI_1 i) (ih (i + 1) (by omega)))) (fun h2 => absurd (hm i (by omega)) h2))
theorem dt_yNO {post : Int32 → SY → Prop} {p d o : Nat} {s w : Int32} (hL : ∀ i, i < 24 → L i = -1 ∨ ∃ o, o < 24 ∧ L i = nI o) (hp : p < 4) (hd : d < 6) (e : L (6 * p + d) = -1) (hd2 : ∀ e, 0 ≤ e → e < d → L (6 * p + e) ≠ -1) (ho : o < 24) (hn : ¬ dt_Op L o) (hm : ∀ j, j < o → dt_Op L j) (h : post (nI d) (al, upd L (6 * p + d) (nI o), upd S o s, upd W o w, upd O o 0, N, FL, FB, PL, B)) : wpY_lead post (al, L, S, W, O, N, FL, FB, PL, B) (nI p) s w := by
  unfold wpY_lead
  dsimp only
  exact dt_yLF_s hL hp hd e hd2 ⟨o + 1, dt_yNO_l hp hd ho hn hm h o 0 (by omega)⟩
end
