/-! pure rows: numbers, a pigeonhole, what exists, the invariant and how it lasts -/
theorem pk_us {f : Nat → Int32} {k : Nat} {x : Int32} : upd f k x k = x := if_pos rfl
theorem pk_un {f : Nat → Int32} {k j : Nat} {x : Int32} (h : j ≠ k) : upd f k x j = f j := if_neg h
theorem pk_mul (a b : Nat) : nI a * nI b = nI (a * b) := (Int32.ofNat_mul a b).symm
theorem pk_sub {a b : Nat} (h : b ≤ a) : nI a - nI b = nI (a - b) := by
  obtain ⟨c, rfl⟩ : ∃ c, a = c + b := ⟨a - b, by omega⟩
  rw [← nI_add, Int32.add_sub_cancel, Nat.add_sub_cancel]
theorem pk_m1 (n : Nat) : nI (n + 1) + (-1) = nI n := by
  rw [← nI_1, Int32.add_assoc, show (1 : Int32) + (-1) = 0 from rfl, Int32.add_zero]
theorem pk_ix (x : Int32) {n : Nat} (hn : n < 2 ^ 31) : x < 0 ∨ nI n ≤ x ∨ ∃ j : Nat, j < n ∧ x = nI j := by
  by_cases h : x < 0
  · exact Or.inl h
  · obtain ⟨j, hj, rfl⟩ := nI_of h
    by_cases h2 : j < n
    · exact Or.inr (Or.inr ⟨j, h2, rfl⟩)
    · exact Or.inr (Or.inl (nI_le (by omega) hj))
theorem pk_least (P : Nat → Prop) (h : ∃ k, P k) : ∃ k, P k ∧ ∀ j, j < k → ¬ P j := by
  obtain ⟨k, hk⟩ := h
  induction k using Nat.strongRecOn with
  | ind k ih =>
    by_cases hj : ∃ j, j < k ∧ P j
    · obtain ⟨j, h1, h2⟩ := hj
      exact ih j h1 h2
    · exact ⟨k, hk, fun j h1 h2 => hj ⟨j, h1, h2⟩⟩
theorem dt_ne {a : Nat} (h : a < 2 ^ 31) : nI a ≠ -1 := fun e => nI_pos h (by rw [e]; decide)
theorem dt_inj {a b : Nat} (ha : a < 2 ^ 31) (hb : b < 2 ^ 31) (h : nI a = nI b) : a = b := (nI_eq ha hb).mp h
theorem dt_x6 (p d : Nat) : nI p * 6 + nI d = nI (6 * p + d) := by
  have h : nI p * nI 6 + nI d = nI (6 * p + d) := by rw [pk_mul, nI_add, Nat.mul_comm]
  exact h
theorem dt_y6 (p d : Nat) : 6 * nI p + nI d = nI (6 * p + d) := by
  have h : nI 6 * nI p + nI d = nI (6 * p + d) := by rw [pk_mul, nI_add]
  exact h
theorem dt_x8 (p d : Nat) : nI p * 8 + nI d = nI (8 * p + d) := by
  have h : nI p * nI 8 + nI d = nI (8 * p + d) := by rw [pk_mul, nI_add, Nat.mul_comm]
  exact h
theorem dt_y8 (p d : Nat) : 8 * nI p + nI d = nI (8 * p + d) := by
  have h : nI 8 * nI p + nI d = nI (8 * p + d) := by rw [pk_mul, nI_add]
  exact h
/-- more things than places: two share one -/
theorem dt_ph : ∀ (m n : Nat) (g : Nat → Nat), (∀ i, i < n → g i < m) → (∀ i j, i < n → j < n → g i = g j → i = j) → n ≤ m := by
  intro m
  induction m with
  | zero =>
    intro n g h1 h2
    cases n with
    | zero => exact Nat.le_refl 0
    | succ n => exact absurd (h1 0 (by omega)) (by omega)
  | succ m ih =>
    intro n g h1 h2
    cases n with
    | zero => omega
    | succ n =>
      have h3 : n ≤ m := by
        refine ih n (fun i => if g i = m then g n else g i) ?_ ?_
        · intro i hi
          show (if g i = m then g n else g i) < m
          have a := h1 i (by omega)
          have b := h1 n (by omega)
          have c := h2 i n (by omega) (by omega)
          by_cases e : g i = m
          · rw [if_pos e]
            have d : g n ≠ m := fun e2 => by have := c (by omega); omega
            omega
          · rw [if_neg e]; omega
        · intro i j hi hj e
          have e1 : (if g i = m then g n else g i) = (if g j = m then g n else g j) := e
          have c1 := h2 i n (by omega) (by omega)
          have c2 := h2 j n (by omega) (by omega)
          have c3 := h2 i j (by omega) (by omega)
          by_cases a : g i = m
          · by_cases b : g j = m
            · exact c3 (by omega)
            · rw [if_pos a, if_neg b] at e1
              have := c2 e1.symm; omega
          · by_cases b : g j = m
            · rw [if_neg a, if_pos b] at e1
              have := c1 e1; omega
            · rw [if_neg a, if_neg b] at e1
              exact c3 e1
      omega
theorem dt_ph2 (m : Nat) (R : Nat → Nat → Prop) (hR : ∀ o, o < m + 1 → ∃ i, i < m ∧ R o i) (hu : ∀ o o' i, R o i → R o' i → o = o') : False := by
  have hg : ∃ g : Nat → Nat, ∀ o, o < m + 1 → g o < m ∧ R o (g o) := by
    refine ⟨fun o => if h : o < m + 1 then Classical.choose (hR o h) else 0, fun o h => ?_⟩
    have s := Classical.choose_spec (hR o h)
    simp only [dif_pos h]
    exact s
  obtain ⟨g, hg⟩ := hg
  have := dt_ph m (m + 1) g (fun i hi => (hg i hi).1) (fun i j hi hj e => hu i j (g i) (hg i hi).2 (by rw [e]; exact (hg j hj).2))
  omega
section
variable {L N S W O FL PL A B : Nat → Int32}
/-- opening o exists -/
def dt_Op (L : Nat → Int32) (o : Nat) : Prop := ∃ i, i < 24 ∧ L i = nI o
/-- some opening of sort s is of w -/
def dt_Has (L S W : Nat → Int32) (s w : Int32) : Prop := ∃ i o, i < 24 ∧ o < 24 ∧ L i = nI o ∧ S o = s ∧ W o = w
/-- file f exists -/
def dt_Fi (L N S W : Nat → Int32) (f : Nat) : Prop := (∃ n, n < 4 ∧ N n = nI f) ∨ dt_Has L S W 0 (nI f)
/-- pipe p exists -/
def dt_Pi (L S W : Nat → Int32) (p : Nat) : Prop := dt_Has L S W 1 (nI p) ∨ dt_Has L S W 2 (nI p)
theorem dt_freeO (h : ∃ i, i < 24 ∧ L i = -1) : ∃ o, o < 24 ∧ ¬ dt_Op L o := by
  apply Classical.byContradiction
  intro hc
  refine dt_ph2 24 (fun o i => (o < 24 ∧ L i = nI o) ∨ (o = 24 ∧ L i = -1)) ?_ ?_
  · intro o ho
    by_cases h24 : o < 24
    · have hO : dt_Op L o := Classical.byContradiction fun hn => hc ⟨o, h24, hn⟩
      obtain ⟨i, hi, e⟩ := hO
      exact ⟨i, hi, Or.inl ⟨h24, e⟩⟩
    · obtain ⟨i, hi, e⟩ := h
      exact ⟨i, hi, Or.inr ⟨by omega, e⟩⟩
  · intro o o' i h1 h2
    rcases h1 with ⟨a, b⟩ | ⟨a, b⟩ <;> rcases h2 with ⟨c, d⟩ | ⟨c, d⟩
    · exact dt_inj (by omega) (by omega) (b.symm.trans d)
    · exact absurd (b.symm.trans d) (dt_ne (by omega))
    · exact absurd (d.symm.trans b) (dt_ne (by omega))
    · omega
theorem dt_leastO (h : ∃ i, i < 24 ∧ L i = -1) : ∃ o, o < 24 ∧ ¬ dt_Op L o ∧ ∀ j, j < o → dt_Op L j := by
  obtain ⟨o, ⟨h1, h2⟩, h3⟩ := pk_least (fun o => o < 24 ∧ ¬ dt_Op L o) (dt_freeO h)
  exact ⟨o, h1, h2, fun j hj => Classical.byContradiction fun hn => h3 j hj ⟨by omega, hn⟩⟩
theorem dt_freeF (h : ∃ n, n < 4 ∧ N n = -1) : ∃ f, f < 28 ∧ ¬ dt_Fi L N S W f := by
  apply Classical.byContradiction
  intro hc
  refine dt_ph2 28 (fun f k => (f < 28 ∧ ((k < 4 ∧ N k = nI f) ∨ (4 ≤ k ∧ ∃ o, o < 24 ∧ L (k - 4) = nI o ∧ W o = nI f))) ∨ (f = 28 ∧ k < 4 ∧ N k = -1)) ?_ ?_
  · intro f hf
    by_cases h28 : f < 28
    · have hF : dt_Fi L N S W f := Classical.byContradiction fun hn => hc ⟨f, h28, hn⟩
      rcases hF with ⟨n, hn, e⟩ | ⟨i, o, hi, ho, e1, e2, e3⟩
      · exact ⟨n, by omega, Or.inl ⟨h28, Or.inl ⟨hn, e⟩⟩⟩
      · exact ⟨4 + i, by omega, Or.inl ⟨h28, Or.inr ⟨by omega, o, ho, by rw [Nat.add_sub_cancel_left]; exact e1, e3⟩⟩⟩
    · obtain ⟨n, hn, e⟩ := h
      exact ⟨n, by omega, Or.inr ⟨by omega, hn, e⟩⟩
  · intro f f' k h1 h2
    rcases h1 with ⟨a, ⟨b, e⟩ | ⟨b, o, ho, e, w⟩⟩ | ⟨a, b, e⟩ <;> rcases h2 with ⟨a', ⟨b', e'⟩ | ⟨b', o', ho', e', w'⟩⟩ | ⟨a', b', e'⟩
    · exact dt_inj (by omega) (by omega) (e.symm.trans e')
    · omega
    · exact absurd (e.symm.trans e') (dt_ne (by omega))
    · omega
    · have hoo : o = o' := dt_inj (by omega) (by omega) (e.symm.trans e')
      subst hoo
      exact dt_inj (by omega) (by omega) (w.symm.trans w')
    · omega
    · exact absurd (e'.symm.trans e) (dt_ne (by omega))
    · omega
    · omega
theorem dt_leastF (L S W : Nat → Int32) (h : ∃ n, n < 4 ∧ N n = -1) : ∃ f, f < 28 ∧ ¬ dt_Fi L N S W f ∧ ∀ j, j < f → dt_Fi L N S W j := by
  obtain ⟨o, ⟨h1, h2⟩, h3⟩ := pk_least (fun f => f < 28 ∧ ¬ dt_Fi L N S W f) (dt_freeF h)
  exact ⟨o, h1, h2, fun j hj => Classical.byContradiction fun hn => h3 j hj ⟨by omega, hn⟩⟩
theorem dt_leastP (L S W : Nat → Int32) : ∃ p, p < 24 ∧ (p < 23 → ¬ dt_Pi L S W p) ∧ ∀ j, j < p → dt_Pi L S W j := by
  obtain ⟨p, h1, h2⟩ := pk_least (fun p => p = 23 ∨ ¬ dt_Pi L S W p) ⟨23, Or.inl rfl⟩
  have h3 : ¬ 23 < p := fun h => h2 23 h (Or.inl rfl)
  refine ⟨p, by omega, fun h => ?_, fun j hj => Classical.byContradiction fun hn => h2 j hj (Or.inr hn)⟩
  rcases h1 with h1 | h1
  · omega
  · exact h1
theorem dt_leastD (L : Nat → Int32) (b c : Nat) : (∀ d, c ≤ d → d < 6 → L (b + d) ≠ -1) ∨ ∃ d, c ≤ d ∧ d < 6 ∧ L (b + d) = -1 ∧ ∀ e, c ≤ e → e < d → L (b + e) ≠ -1 := by
  by_cases h : ∃ d, c ≤ d ∧ d < 6 ∧ L (b + d) = -1
  · obtain ⟨d, ⟨h1, h2, h3⟩, h4⟩ := pk_least (fun d => c ≤ d ∧ d < 6 ∧ L (b + d) = -1) h
    exact Or.inr ⟨d, h1, h2, h3, fun e he hd hn => h4 e hd ⟨he, by omega, hn⟩⟩
  · exact Or.inl fun d h1 h2 h3 => h ⟨d, h1, h2, h3⟩
/-- what holds of the arrays between calls -/
def dt_Inv (L N S W O FL PL : Nat → Int32) : Prop :=
  (∀ i, i < 24 → L i = -1 ∨ ∃ o, o < 24 ∧ L i = nI o) ∧
  (∀ n, n < 4 → N n = -1 ∨ ∃ f, f < 28 ∧ N n = nI f) ∧
  (∀ o, o < 24 → S o = 0 ∨ S o = 1 ∨ S o = 2) ∧
  (∀ o, o < 24 → ∃ w, w < 28 ∧ W o = nI w ∧ (S o ≠ 0 → w < 24)) ∧
  (∀ o, o < 24 → ∃ q, q ≤ 8 ∧ O o = nI q) ∧
  (∀ f, f < 28 → ∃ q, q ≤ 8 ∧ FL f = nI q) ∧
  (∀ p, p < 24 → ∃ q, q ≤ 6 ∧ PL p = nI q) ∧
  (∀ i o f, i < 24 → o < 24 → f < 28 → L i = nI o → S o = 0 → W o = nI f → O o ≤ FL f)
theorem dt_invL {L' : Nat → Int32} (I : dt_Inv L N S W O FL PL) (h : ∀ i, i < 24 → L' i = -1 ∨ ∃ j, j < 24 ∧ L' i = L j) : dt_Inv L' N S W O FL PL := by
  obtain ⟨h1, h2, h3, h4, h5, h6, h7, h8⟩ := I
  refine ⟨fun i hi => ?_, h2, h3, h4, h5, h6, h7, fun i o f hi ho hf e => ?_⟩
  · rcases h i hi with e | ⟨j, hj, e⟩
    · exact Or.inl e
    · rw [e]; exact h1 j hj
  · rcases h i hi with e' | ⟨j, hj, e'⟩
    · exact absurd (e.symm.trans e') (dt_ne (by omega))
    · exact h8 j o f hj ho hf (e'.symm.trans e)
theorem dt_invN {N' : Nat → Int32} (I : dt_Inv L N S W O FL PL) (h : ∀ i, i < 4 → N' i = -1 ∨ ∃ j, j < 4 ∧ N' i = N j) : dt_Inv L N' S W O FL PL := by
  obtain ⟨h1, h2, h3, h4, h5, h6, h7, h8⟩ := I
  refine ⟨h1, fun i hi => ?_, h3, h4, h5, h6, h7, h8⟩
  rcases h i hi with e | ⟨j, hj, e⟩
  · exact Or.inl e
  · rw [e]; exact h2 j hj
theorem dt_invP {p q : Nat} (I : dt_Inv L N S W O FL PL) (hq : q ≤ 6) : dt_Inv L N S W O FL (upd PL p (nI q)) := by
  obtain ⟨h1, h2, h3, h4, h5, h6, h7, h8⟩ := I
  refine ⟨h1, h2, h3, h4, h5, h6, fun i hi => ?_, h8⟩
  by_cases e : i = p
  · subst e; exact ⟨q, hq, pk_us⟩
  · rw [pk_un e]; exact h7 i hi
/-- a new opening of sort s and of w at place i -/
theorem dt_invNew {i o w : Nat} {s : Int32} (I : dt_Inv L N S W O FL PL) (hi : i < 24) (ho : o < 24) (hn : ¬ dt_Op L o) (hs : s = 0 ∨ s = 1 ∨ s = 2) (hw : w < 28) (hw2 : s ≠ 0 → w < 24) : dt_Inv (upd L i (nI o)) N (upd S o s) (upd W o (nI w)) (upd O o 0) FL PL := by
  obtain ⟨h1, h2, h3, h4, h5, h6, h7, h8⟩ := I
  refine ⟨fun j hj => ?_, h2, fun j hj => ?_, fun j hj => ?_, fun j hj => ?_, h6, h7, fun j a f hj ha hf e1 e2 e3 => ?_⟩
  · by_cases e : j = i
    · subst e; exact Or.inr ⟨o, ho, pk_us⟩
    · rw [pk_un e]; exact h1 j hj
  · by_cases e : j = o
    · subst e; rw [pk_us]; exact hs
    · rw [pk_un e]; exact h3 j hj
  · by_cases e : j = o
    · subst e; exact ⟨w, hw, pk_us, fun h => hw2 (by rw [pk_us] at h; exact h)⟩
    · rw [pk_un e, pk_un e]; exact h4 j hj
  · by_cases e : j = o
    · subst e; exact ⟨0, by omega, pk_us⟩
    · rw [pk_un e]; exact h5 j hj
  · by_cases e : a = o
    · subst e
      obtain ⟨q, hq, eq⟩ := h6 f hf
      rw [pk_us, eq]
      exact nI_pos' (by omega)
    · rw [pk_un e]
      rw [pk_un e] at e2 e3
      have hj2 : j ≠ i := by
        intro ej
        rw [ej, pk_us] at e1
        exact e (dt_inj (by omega) (by omega) e1).symm
      rw [pk_un hj2] at e1
      exact h8 j a f hj ha hf e1 e2 e3
/-- a new file f without bytes at a free name -/
theorem dt_invFile {n f : Nat} (I : dt_Inv L N S W O FL PL) (hf : f < 28) (hn : ¬ dt_Fi L N S W f) : dt_Inv L (upd N n (nI f)) S W O (upd FL f 0) PL := by
  obtain ⟨h1, h2, h3, h4, h5, h6, h7, h8⟩ := I
  refine ⟨h1, fun j hj => ?_, h3, h4, h5, fun j hj => ?_, h7, fun j a g hj ha hg e1 e2 e3 => ?_⟩
  · by_cases e : j = n
    · subst e; exact Or.inr ⟨f, hf, pk_us⟩
    · rw [pk_un e]; exact h2 j hj
  · by_cases e : j = f
    · subst e; exact ⟨0, by omega, pk_us⟩
    · rw [pk_un e]; exact h6 j hj
  · by_cases e : g = f
    · subst e
      exact absurd (Or.inr ⟨j, a, hj, ha, e1, e2, e3⟩) hn
    · rw [pk_un e]; exact h8 j a g hj ha hg e1 e2 e3
/-- the offset of opening o of file f becomes q -/
theorem dt_invO {o f q : Nat} (I : dt_Inv L N S W O FL PL) (ho : o < 24) (hf : f < 28) (hw : W o = nI f) (hq : q ≤ 8) (hl : nI q ≤ FL f) : dt_Inv L N S W (upd O o (nI q)) FL PL := by
  obtain ⟨h1, h2, h3, h4, h5, h6, h7, h8⟩ := I
  refine ⟨h1, h2, h3, h4, fun j hj => ?_, h6, h7, fun j a g hj ha hg e1 e2 e3 => ?_⟩
  · by_cases e : j = o
    · subst e; exact ⟨q, hq, pk_us⟩
    · rw [pk_un e]; exact h5 j hj
  · by_cases e : a = o
    · subst e
      rw [pk_us, dt_inj (by omega) (by omega) (e3.symm.trans hw)]
      exact hl
    · rw [pk_un e]; exact h8 j a g hj ha hg e1 e2 e3
/-- file f has one byte more -/
theorem dt_invFL {f q : Nat} (I : dt_Inv L N S W O FL PL) (hf : f < 28) (hq : q < 8) (e : FL f = nI q) : dt_Inv L N S W O (upd FL f (nI (q + 1))) PL := by
  obtain ⟨h1, h2, h3, h4, h5, h6, h7, h8⟩ := I
  refine ⟨h1, h2, h3, h4, h5, fun j hj => ?_, h7, fun j a g hj ha hg e1 e2 e3 => ?_⟩
  · by_cases e : j = f
    · subst e; exact ⟨q + 1, by omega, pk_us⟩
    · rw [pk_un e]; exact h6 j hj
  · have h := h8 j a g hj ha hg e1 e2 e3
    by_cases e' : g = f
    · subst e'
      rw [e] at h
      rw [pk_us]
      exact Int32.le_trans h (nI_le (by omega) (by omega))
    · rw [pk_un e']; exact h
end
