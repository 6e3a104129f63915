section
/-! pure rows: numbers, a pigeonhole, what exists, the invariant and how it lasts -/
theorem pk_us {f : Nat → Int32} {k : Nat} {x : Int32} : upd f k x k = x := if_pos rfl
theorem pk_un {f : Nat → Int32} {k j : Nat} {x : Int32} (h : j ≠ k) : upd f k x j = f j := if_neg h
theorem pk_mul (a b : Nat) : nI a * nI b = nI (a * b) := (Int32.ofNat_mul a b).symm
theorem pk_sub {a b : Nat} (h : b ≤ a) : nI a - nI b = nI (a - b) := by
  obtain ⟨c, rfl⟩ : ∃ c, a = c + b := ⟨a - b, by omega⟩
  rw [← nI_add, Int32.add_sub_cancel, Nat.add_sub_cancel]
theorem pk_m1 (n : Nat) : nI (n + 1) + (-1) = nI n := by
  rw [← nI_1, Int32.add_assoc, show (1 : Int32) + (-1) = 0 from rfl, Int32.add_zero]
theorem pk_ix (x : Int32) {n : Nat} (hn : n < 2 ^ 31) : x < 0 ∨ nI n ≤ x ∨ ∃ j : Nat, j < n ∧ x = nI j := by
  by_cases h : x < 0
  · exact Or.inl h
  · obtain ⟨j, hj, rfl⟩ := nI_of h
    by_cases h2 : j < n
    · exact Or.inr (Or.inr ⟨j, h2, rfl⟩)
    · exact Or.inr (Or.inl (nI_le (by omega) hj))
theorem pk_least (P : Nat → Prop) (h : ∃ k, P k) : ∃ k, P k ∧ ∀ j, j < k → ¬ P j := by
  obtain ⟨k, hk⟩ := h
  induction k using Nat.strongRecOn with
  | ind k ih =>
    by_cases hj : ∃ j, j < k ∧ P j
    · obtain ⟨j, h1, h2⟩ := hj
      exact ih j h1 h2
    · exact ⟨k, hk, fun j h1 h2 => hj ⟨j, h1, h2⟩⟩
theorem dt_ne {a : Nat} (h : a < 2 ^ 31) : nI a ≠ -1 := fun e => nI_pos h (by rw [e]; decide)
theorem dt_inj {a b : Nat} (ha : a < 2 ^ 31) (hb : b < 2 ^ 31) (h : nI a = nI b) : a = b := (nI_eq ha hb).mp h
theorem dt_x6 (p d : Nat) : nI p * 6 + nI d = nI (6 * p + d) := by
  have h : nI p * nI 6 + nI d = nI (6 * p + d) := by rw [pk_mul, nI_add, Nat.mul_comm]
  exact h
theorem dt_y6 (p d : Nat) : 6 * nI p + nI d = nI (6 * p + d) := by
  have h : nI 6 * nI p + nI d = nI (6 * p + d) := by rw [pk_mul, nI_add]
  exact h
theorem dt_x8 (p d : Nat) : nI p * 8 + nI d = nI (8 * p + d) := by
  have h : nI p * nI 8 + nI d = nI (8 * p + d) := by rw [pk_mul, nI_add, Nat.mul_comm]
  exact h
theorem dt_y8 (p d : Nat) : 8 * nI p + nI d = nI (8 * p + d) := by
  have h : nI 8 * nI p + nI d = nI (8 * p + d) := by rw [pk_mul, nI_add]
  exact h
/-- more things than places: two share one -/
theorem dt_ph : ∀ (m n : Nat) (g : Nat → Nat), (∀ i, i < n → g i < m) → (∀ i j, i < n → j < n → g i = g j → i = j) → n ≤ m := by
  intro m
  induction m with
  | zero =>
    intro n g h1 h2
    cases n with
    | zero => exact Nat.le_refl 0
    | succ n => exact absurd (h1 0 (by omega)) (by omega)
  | succ m ih =>
    intro n g h1 h2
    cases n with
    | zero => omega
    | succ n =>
      have h3 : n ≤ m := by
        refine ih n (fun i => if g i = m then g n else g i) ?_ ?_
        · intro i hi
          show (if g i = m then g n else g i) < m
          have a := h1 i (by omega)
          have b := h1 n (by omega)
          have c := h2 i n (by omega) (by omega)
          by_cases e : g i = m
          · rw [if_pos e]
            have d : g n ≠ m := fun e2 => by have := c (by omega); omega
            omega
          · rw [if_neg e]; omega
        · intro i j hi hj e
          have e1 : (if g i = m then g n else g i) = (if g j = m then g n else g j) := e
          have c1 := h2 i n (by omega) (by omega)
          have c2 := h2 j n (by omega) (by omega)
          have c3 := h2 i j (by omega) (by omega)
          by_cases a : g i = m
          · by_cases b : g j = m
            · exact c3 (by omega)
            · rw [if_pos a, if_neg b] at e1
              have := c2 e1.symm; omega
          · by_cases b : g j = m
            · rw [if_neg a, if_pos b] at e1
              have := c1 e1; omega
            · rw [if_neg a, if_neg b] at e1
              exact c3 e1
      omega
theorem dt_ph2 (m : Nat) (R : Nat → Nat → Prop) (hR : ∀ o, o < m + 1 → ∃ i, i < m ∧ R o i) (hu : ∀ o o' i, R o i → R o' i → o = o') : False := by
  have hg : ∃ g : Nat → Nat, ∀ o, o < m + 1 → g o < m ∧ R o (g o) := by
    refine ⟨fun o => if h : o < m + 1 then Classical.choose (hR o h) else 0, fun o h => ?_⟩
    have s := Classical.choose_spec (hR o h)
    simp only [dif_pos h]
    exact s
  obtain ⟨g, hg⟩ := hg
  have := dt_ph m (m + 1) g (fun i hi => (hg i hi).1) (fun i j hi hj e => hu i j (g i) (hg i hi).2 (by rw [e]; exact (hg j hj).2))
  omega
section
variable {L N S W O FL PL A B : Nat → Int32}
/-- opening o exists -/
def dt_Op (L : Nat → Int32) (o : Nat) : Prop := ∃ i, i < 24 ∧ L i = nI o
/-- some opening of sort s is of w -/
def dt_Has (L S W : Nat → Int32) (s w : Int32) : Prop := ∃ i o, i < 24 ∧ o < 24 ∧ L i = nI o ∧ S o = s ∧ W o = w
/-- file f exists -/
def dt_Fi (L N S W : Nat → Int32) (f : Nat) : Prop := (∃ n, n < 4 ∧ N n = nI f) ∨ dt_Has L S W 0 (nI f)
/-- pipe p exists -/
def dt_Pi (L S W : Nat → Int32) (p : Nat) : Prop := dt_Has L S W 1 (nI p) ∨ dt_Has L S W 2 (nI p)
theorem dt_freeO (h : ∃ i, i < 24 ∧ L i = -1) : ∃ o, o < 24 ∧ ¬ dt_Op L o := by
  apply Classical.byContradiction
  intro hc
  refine dt_ph2 24 (fun o i => (o < 24 ∧ L i = nI o) ∨ (o = 24 ∧ L i = -1)) ?_ ?_
  · intro o ho
    by_cases h24 : o < 24
    · have hO : dt_Op L o := Classical.byContradiction fun hn => hc ⟨o, h24, hn⟩
      obtain ⟨i, hi, e⟩ := hO
      exact ⟨i, hi, Or.inl ⟨h24, e⟩⟩
    · obtain ⟨i, hi, e⟩ := h
      exact ⟨i, hi, Or.inr ⟨by omega, e⟩⟩
  · intro o o' i h1 h2
    rcases h1 with ⟨a, b⟩ | ⟨a, b⟩ <;> rcases h2 with ⟨c, d⟩ | ⟨c, d⟩
    · exact dt_inj (by omega) (by omega) (b.symm.trans d)
    · exact absurd (b.symm.trans d) (dt_ne (by omega))
    · exact absurd (d.symm.trans b) (dt_ne (by omega))
    · omega
theorem dt_leastO (h : ∃ i, i < 24 ∧ L i = -1) : ∃ o, o < 24 ∧ ¬ dt_Op L o ∧ ∀ j, j < o → dt_Op L j := by
  obtain ⟨o, ⟨h1, h2⟩, h3⟩ := pk_least (fun o => o < 24 ∧ ¬ dt_Op L o) (dt_freeO h)
  exact ⟨o, h1, h2, fun j hj => Classical.byContradiction fun hn => h3 j hj ⟨by omega, hn⟩⟩
theorem dt_freeF (h : ∃ n, n < 4 ∧ N n = -1) : ∃ f, f < 28 ∧ ¬ dt_Fi L N S W f := by
  apply Classical.byContradiction
  intro hc
  refine dt_ph2 28 (fun f k => (f < 28 ∧ ((k < 4 ∧ N k = nI f) ∨ (4 ≤ k ∧ ∃ o, o < 24 ∧ L (k - 4) = nI o ∧ W o = nI f))) ∨ (f = 28 ∧ k < 4 ∧ N k = -1)) ?_ ?_
  · intro f hf
    by_cases h28 : f < 28
    · have hF : dt_Fi L N S W f := Classical.byContradiction fun hn => hc ⟨f, h28, hn⟩
      rcases hF with ⟨n, hn, e⟩ | ⟨i, o, hi, ho, e1, e2, e3⟩
      · exact ⟨n, by omega, Or.inl ⟨h28, Or.inl ⟨hn, e⟩⟩⟩
      · exact ⟨4 + i, by omega, Or.inl ⟨h28, Or.inr ⟨by omega, o, ho, by rw [Nat.add_sub_cancel_left]; exact e1, e3⟩⟩⟩
    · obtain ⟨n, hn, e⟩ := h
      exact ⟨n, by omega, Or.inr ⟨by omega, hn, e⟩⟩
  · intro f f' k h1 h2
    rcases h1 with ⟨a, ⟨b, e⟩ | ⟨b, o, ho, e, w⟩⟩ | ⟨a, b, e⟩ <;> rcases h2 with ⟨a', ⟨b', e'⟩ | ⟨b', o', ho', e', w'⟩⟩ | ⟨a', b', e'⟩
    · exact dt_inj (by omega) (by omega) (e.symm.trans e')
    · omega
    · exact absurd (e.symm.trans e') (dt_ne (by omega))
    · omega
    · have hoo : o = o' := dt_inj (by omega) (by omega) (e.symm.trans e')
      subst hoo
      exact dt_inj (by omega) (by omega) (w.symm.trans w')
    · omega
    · exact absurd (e'.symm.trans e) (dt_ne (by omega))
    · omega
    · omega
theorem dt_leastF (L S W : Nat → Int32) (h : ∃ n, n < 4 ∧ N n = -1) : ∃ f, f < 28 ∧ ¬ dt_Fi L N S W f ∧ ∀ j, j < f → dt_Fi L N S W j := by
  obtain ⟨o, ⟨h1, h2⟩, h3⟩ := pk_least (fun f => f < 28 ∧ ¬ dt_Fi L N S W f) (dt_freeF h)
  exact ⟨o, h1, h2, fun j hj => Classical.byContradiction fun hn => h3 j hj ⟨by omega, hn⟩⟩
theorem dt_leastP (L S W : Nat → Int32) : ∃ p, p < 24 ∧ (p < 23 → ¬ dt_Pi L S W p) ∧ ∀ j, j < p → dt_Pi L S W j := by
  obtain ⟨p, h1, h2⟩ := pk_least (fun p => p = 23 ∨ ¬ dt_Pi L S W p) ⟨23, Or.inl rfl⟩
  have h3 : ¬ 23 < p := fun h => h2 23 h (Or.inl rfl)
  refine ⟨p, by omega, fun h => ?_, fun j hj => Classical.byContradiction fun hn => h2 j hj (Or.inr hn)⟩
  rcases h1 with h1 | h1
  · omega
  · exact h1
theorem dt_leastD (L : Nat → Int32) (b c : Nat) : (∀ d, c ≤ d → d < 6 → L (b + d) ≠ -1) ∨ ∃ d, c ≤ d ∧ d < 6 ∧ L (b + d) = -1 ∧ ∀ e, c ≤ e → e < d → L (b + e) ≠ -1 := by
  by_cases h : ∃ d, c ≤ d ∧ d < 6 ∧ L (b + d) = -1
  · obtain ⟨d, ⟨h1, h2, h3⟩, h4⟩ := pk_least (fun d => c ≤ d ∧ d < 6 ∧ L (b + d) = -1) h
    exact Or.inr ⟨d, h1, h2, h3, fun e he hd hn => h4 e hd ⟨he, by omega, hn⟩⟩
  · exact Or.inl fun d h1 h2 h3 => h ⟨d, h1, h2, h3⟩
/-- what holds of the arrays between calls -/
def dt_Inv (L N S W O FL PL : Nat → Int32) : Prop :=
  (∀ i, i < 24 → L i = -1 ∨ ∃ o, o < 24 ∧ L i = nI o) ∧
  (∀ n, n < 4 → N n = -1 ∨ ∃ f, f < 28 ∧ N n = nI f) ∧
  (∀ o, o < 24 → S o = 0 ∨ S o = 1 ∨ S o = 2) ∧
  (∀ o, o < 24 → ∃ w, w < 28 ∧ W o = nI w ∧ (S o ≠ 0 → w < 24)) ∧
  (∀ o, o < 24 → ∃ q, q ≤ 8 ∧ O o = nI q) ∧
  (∀ f, f < 28 → ∃ q, q ≤ 8 ∧ FL f = nI q) ∧
  (∀ p, p < 24 → ∃ q, q ≤ 6 ∧ PL p = nI q) ∧
  (∀ i o f, i < 24 → o < 24 → f < 28 → L i = nI o → S o = 0 → W o = nI f → O o ≤ FL f)
theorem dt_invL {L' : Nat → Int32} (I : dt_Inv L N S W O FL PL) (h : ∀ i, i < 24 → L' i = -1 ∨ ∃ j, j < 24 ∧ L' i = L j) : dt_Inv L' N S W O FL PL := by
  obtain ⟨h1, h2, h3, h4, h5, h6, h7, h8⟩ := I
  refine ⟨fun i hi => ?_, h2, h3, h4, h5, h6, h7, fun i o f hi ho hf e => ?_⟩
  · rcases h i hi with e | ⟨j, hj, e⟩
    · exact Or.inl e
    · rw [e]; exact h1 j hj
  · rcases h i hi with e' | ⟨j, hj, e'⟩
    · exact absurd (e.symm.trans e') (dt_ne (by omega))
    · exact h8 j o f hj ho hf (e'.symm.trans e)
theorem dt_invN {N' : Nat → Int32} (I : dt_Inv L N S W O FL PL) (h : ∀ i, i < 4 → N' i = -1 ∨ ∃ j, j < 4 ∧ N' i = N j) : dt_Inv L N' S W O FL PL := by
  obtain ⟨h1, h2, h3, h4, h5, h6, h7, h8⟩ := I
  refine ⟨h1, fun i hi => ?_, h3, h4, h5, h6, h7, h8⟩
  rcases h i hi with e | ⟨j, hj, e⟩
  · exact Or.inl e
  · rw [e]; exact h2 j hj
theorem dt_invP {p q : Nat} (I : dt_Inv L N S W O FL PL) (hq : q ≤ 6) : dt_Inv L N S W O FL (upd PL p (nI q)) := by
  obtain ⟨h1, h2, h3, h4, h5, h6, h7, h8⟩ := I
  refine ⟨h1, h2, h3, h4, h5, h6, fun i hi => ?_, h8⟩
  by_cases e : i = p
  · subst e; exact ⟨q, hq, pk_us⟩
  · rw [pk_un e]; exact h7 i hi
/-- a new opening of sort s and of w at place i -/
theorem dt_invNew {i o w : Nat} {s : Int32} (I : dt_Inv L N S W O FL PL) (hi : i < 24) (ho : o < 24) (hn : ¬ dt_Op L o) (hs : s = 0 ∨ s = 1 ∨ s = 2) (hw : w < 28) (hw2 : s ≠ 0 → w < 24) : dt_Inv (upd L i (nI o)) N (upd S o s) (upd W o (nI w)) (upd O o 0) FL PL := by
  obtain ⟨h1, h2, h3, h4, h5, h6, h7, h8⟩ := I
  refine ⟨fun j hj => ?_, h2, fun j hj => ?_, fun j hj => ?_, fun j hj => ?_, h6, h7, fun j a f hj ha hf e1 e2 e3 => ?_⟩
  · by_cases e : j = i
    · subst e; exact Or.inr ⟨o, ho, pk_us⟩
    · rw [pk_un e]; exact h1 j hj
  · by_cases e : j = o
    · subst e; rw [pk_us]; exact hs
    · rw [pk_un e]; exact h3 j hj
  · by_cases e : j = o
    · subst e; exact ⟨w, hw, pk_us, fun h => hw2 (by rw [pk_us] at h; exact h)⟩
    · rw [pk_un e, pk_un e]; exact h4 j hj
  · by_cases e : j = o
    · subst e; exact ⟨0, by omega, pk_us⟩
    · rw [pk_un e]; exact h5 j hj
  · by_cases e : a = o
    · subst e
      obtain ⟨q, hq, eq⟩ := h6 f hf
      rw [pk_us, eq]
      exact nI_pos' (by omega)
    · rw [pk_un e]
      rw [pk_un e] at e2 e3
      have hj2 : j ≠ i := by
        intro ej
        rw [ej, pk_us] at e1
        exact e (dt_inj (by omega) (by omega) e1).symm
      rw [pk_un hj2] at e1
      exact h8 j a f hj ha hf e1 e2 e3
/-- a new file f without bytes at a free name -/
theorem dt_invFile {n f : Nat} (I : dt_Inv L N S W O FL PL) (hf : f < 28) (hn : ¬ dt_Fi L N S W f) : dt_Inv L (upd N n (nI f)) S W O (upd FL f 0) PL := by
  obtain ⟨h1, h2, h3, h4, h5, h6, h7, h8⟩ := I
  refine ⟨h1, fun j hj => ?_, h3, h4, h5, fun j hj => ?_, h7, fun j a g hj ha hg e1 e2 e3 => ?_⟩
  · by_cases e : j = n
    · subst e; exact Or.inr ⟨f, hf, pk_us⟩
    · rw [pk_un e]; exact h2 j hj
  · by_cases e : j = f
    · subst e; exact ⟨0, by omega, pk_us⟩
    · rw [pk_un e]; exact h6 j hj
  · by_cases e : g = f
    · subst e
      exact absurd (Or.inr ⟨j, a, hj, ha, e1, e2, e3⟩) hn
    · rw [pk_un e]; exact h8 j a g hj ha hg e1 e2 e3
/-- the offset of opening o of file f becomes q -/
theorem dt_invO {o f q : Nat} (I : dt_Inv L N S W O FL PL) (ho : o < 24) (hf : f < 28) (hw : W o = nI f) (hq : q ≤ 8) (hl : nI q ≤ FL f) : dt_Inv L N S W (upd O o (nI q)) FL PL := by
  obtain ⟨h1, h2, h3, h4, h5, h6, h7, h8⟩ := I
  refine ⟨h1, h2, h3, h4, fun j hj => ?_, h6, h7, fun j a g hj ha hg e1 e2 e3 => ?_⟩
  · by_cases e : j = o
    · subst e; exact ⟨q, hq, pk_us⟩
    · rw [pk_un e]; exact h5 j hj
  · by_cases e : a = o
    · subst e
      rw [pk_us, dt_inj (by omega) (by omega) (e3.symm.trans hw)]
      exact hl
    · rw [pk_un e]; exact h8 j a g hj ha hg e1 e2 e3
/-- file f has one byte more -/
theorem dt_invFL {f q : Nat} (I : dt_Inv L N S W O FL PL) (hf : f < 28) (hq : q < 8) (e : FL f = nI q) : dt_Inv L N S W O (upd FL f (nI (q + 1))) PL := by
  obtain ⟨h1, h2, h3, h4, h5, h6, h7, h8⟩ := I
  refine ⟨h1, h2, h3, h4, h5, fun j hj => ?_, h7, fun j a g hj ha hg e1 e2 e3 => ?_⟩
  · by_cases e : j = f
    · subst e; exact ⟨q + 1, by omega, pk_us⟩
    · rw [pk_un e]; exact h6 j hj
  · have h := h8 j a g hj ha hg e1 e2 e3
    by_cases e' : g = f
    · subst e'
      rw [e] at h
      rw [pk_us]
      exact Int32.le_trans h (nI_le (by omega) (by omega))
    · rw [pk_un e']; exact h
end
end
section
/-! pure rows: the loops that store, and counting -/
/-- k cells from b on become -1 -/
def dt_ex (L : Nat → Int32) (b : Nat) : Nat → Nat → Int32
  | 0 => L
  | k + 1 => upd (dt_ex L b k) (b + k) (-1)
theorem dt_ex_or (L : Nat → Int32) (b : Nat) : ∀ k i, dt_ex L b k i = -1 ∨ dt_ex L b k i = L i := by
  intro k
  induction k with
  | zero => exact fun i => Or.inr rfl
  | succ k ih =>
    intro i
    by_cases e : i = b + k
    · subst e; exact Or.inl pk_us
    · have h : dt_ex L b (k + 1) i = dt_ex L b k i := pk_un e
      rw [h]; exact ih i
/-- k cells from b on become those from s on -/
def dt_fk (L : Nat → Int32) (b s : Nat) : Nat → Nat → Int32
  | 0 => L
  | k + 1 => upd (dt_fk L b s k) (b + k) (dt_fk L b s k (s + k))
theorem dt_fk_or (L : Nat → Int32) (b s : Nat) (hs : s + 6 ≤ 24) : ∀ k, k ≤ 6 → ∀ i, i < 24 → ∃ j, j < 24 ∧ dt_fk L b s k i = L j := by
  intro k
  induction k with
  | zero => exact fun _ i hi => ⟨i, hi, rfl⟩
  | succ k ih =>
    intro hk i hi
    by_cases e : i = b + k
    · obtain ⟨j, hj, ej⟩ := ih (by omega) (s + k) (by omega)
      subst e
      have h : dt_fk L b s (k + 1) (b + k) = dt_fk L b s k (s + k) := pk_us
      exact ⟨j, hj, h.trans ej⟩
    · have h : dt_fk L b s (k + 1) i = dt_fk L b s k i := pk_un e
      rw [h]; exact ih (by omega) i hi
/-- k cells from b on take their right neighbour's value -/
def dt_sh (A : Nat → Int32) (b : Nat) : Nat → Nat → Int32
  | 0 => A
  | k + 1 => upd (dt_sh A b k) (b + k) (dt_sh A b k (b + k + 1))
theorem dt_sh_out (A : Nat → Int32) (b : Nat) : ∀ k j, (j < b ∨ b + k ≤ j) → dt_sh A b k j = A j := by
  intro k
  induction k with
  | zero => exact fun j _ => rfl
  | succ k ih =>
    intro j hj
    have h : dt_sh A b (k + 1) j = dt_sh A b k j := pk_un (by omega)
    rw [h]; exact ih j (by omega)
theorem dt_sh_in (A : Nat → Int32) (b : Nat) : ∀ k i, i < k → dt_sh A b k (b + i) = A (b + i + 1) := by
  intro k
  induction k with
  | zero => intro i hi; omega
  | succ k ih =>
    intro i hi
    by_cases e : i = k
    · subst e
      have h : dt_sh A b (i + 1) (b + i) = dt_sh A b i (b + i + 1) := pk_us
      rw [h]; exact dt_sh_out A b i _ (by omega)
    · have h : dt_sh A b (k + 1) (b + i) = dt_sh A b k (b + i) := pk_un (by omega)
      rw [h]; exact ih i (by omega)
/-- the two rows of pipes' bytes are alike below each pipe's size -/
def dt_PB (PL A B : Nat → Int32) : Prop := ∀ p q i, p < 24 → q ≤ 6 → i < q → PL p = nI q → A (6 * p + i) = B (6 * p + i)
theorem dt_PB0 {PL A B : Nat → Int32} {p : Nat} (h : dt_PB PL A B) : dt_PB (upd PL p (nI 0)) A B := by
  intro p' q i hp hq hi e
  by_cases e2 : p' = p
  · rw [e2, pk_us] at e
    have := dt_inj (by omega) (by omega) e
    omega
  · rw [pk_un e2] at e
    exact h p' q i hp hq hi e
theorem dt_PBput {PL A B : Nat → Int32} {p q : Nat} {x : Int32} (h : dt_PB PL A B) (hp : p < 24) (hq : q < 6) (e : PL p = nI q) : dt_PB (upd PL p (nI (q + 1))) (upd A (6 * p + q) x) (upd B (6 * p + q) x) := by
  intro p' q' i hp' hq' hi e'
  by_cases e2 : 6 * p' + i = 6 * p + q
  · rw [e2, pk_us, pk_us]
  · rw [pk_un e2, pk_un e2]
    by_cases e3 : p' = p
    · rw [e3, pk_us] at e'
      have := dt_inj (by omega) (by omega) e'
      rw [e3]
      exact h p q i hp (by omega) (by omega) e
    · rw [pk_un e3] at e'
      exact h p' q' i hp' hq' hi e'
theorem dt_PBtake {PL A B : Nat → Int32} {p q : Nat} (h : dt_PB PL A B) (hp : p < 24) (hq : q < 6) (e : PL p = nI (q + 1)) : dt_PB (upd PL p (nI q)) (dt_sh A (6 * p) 5) (dt_sh B (6 * p) q) := by
  intro p' q' i hp' hq' hi e'
  by_cases e3 : p' = p
  · rw [e3, pk_us] at e'
    have e4 := dt_inj (by omega) (by omega) e'
    rw [e3, dt_sh_in A _ 5 i (by omega), dt_sh_in B _ q i (by omega)]
    exact h p (q + 1) (i + 1) hp (by omega) (by omega) e
  · rw [pk_un e3] at e'
    rw [dt_sh_out A _ 5 _ (by omega), dt_sh_out B _ q _ (by omega)]
    exact h p' q' i hp' hq' hi e'
/-- how many below n are P -/
noncomputable def dt_cn (P : Nat → Prop) : Nat → Nat
  | 0 => 0
  | n + 1 => @ite Nat (P n) (Classical.propDecidable _) (dt_cn P n + 1) (dt_cn P n)
theorem dt_cn_t {P : Nat → Prop} {n : Nat} (h : P n) : dt_cn P (n + 1) = dt_cn P n + 1 := @if_pos _ (Classical.propDecidable _) h _ _ _
theorem dt_cn_f {P : Nat → Prop} {n : Nat} (h : ¬ P n) : dt_cn P (n + 1) = dt_cn P n := @if_neg _ (Classical.propDecidable _) h _ _ _
theorem dt_cn_le (P : Nat → Prop) : ∀ n, dt_cn P n ≤ n := by
  intro n
  induction n with
  | zero => exact Nat.le_refl 0
  | succ n ih =>
    by_cases h : P n
    · rw [dt_cn_t h]; omega
    · rw [dt_cn_f h]; omega
theorem dt_cn_rm (P : Nat → Prop) (p : Nat) (hp : P p) : ∀ n, (n ≤ p → dt_cn P n = dt_cn (fun i => P i ∧ i ≠ p) n) ∧ (p < n → dt_cn P n = dt_cn (fun i => P i ∧ i ≠ p) n + 1) := by
  intro n
  induction n with
  | zero => exact ⟨fun _ => rfl, fun h => absurd h (by omega)⟩
  | succ n ih =>
    by_cases e : n = p
    · subst e
      rw [dt_cn_t hp, dt_cn_f (P := fun i => P i ∧ i ≠ n) (fun h => h.2 rfl)]
      exact ⟨fun h => absurd h (by omega), fun _ => by rw [ih.1 (Nat.le_refl n)]⟩
    · by_cases h : P n
      · rw [dt_cn_t h, dt_cn_t (P := fun i => P i ∧ i ≠ p) ⟨h, e⟩]
        exact ⟨fun h => by rw [ih.1 (by omega)], fun h => by rw [ih.2 (by omega)]⟩
      · rw [dt_cn_f h, dt_cn_f (P := fun i => P i ∧ i ≠ p) (fun h2 => h h2.1)]
        exact ⟨fun h => ih.1 (by omega), fun h => ih.2 (by omega)⟩
end
section
/-! the component's own methods, each for any post -/
theorem dt_ix (v : Int32) : v < 0 ∨ ∃ j, j < 2 ^ 31 ∧ v = nI j := by
  by_cases h : v < 0
  · exact Or.inl h
  · exact Or.inr (nI_of h)
theorem dt_alv (al : Nat → Int32) (v : Int32) : (∃ p, p < 4 ∧ v = nI p ∧ ¬ al p = 0) ∨ (∀ p, p < 4 → v = nI p → al p = 0) := by
  by_cases h : ∃ p, p < 4 ∧ v = nI p ∧ ¬ al p = 0
  · exact Or.inl h
  · exact Or.inr fun p hp e => Classical.byContradiction fun ha => h ⟨p, hp, e, ha⟩
theorem dt_nam (v : Int32) : (∃ n, n < 4 ∧ v = nI n) ∨ (∀ n, n < 4 → v ≠ nI n) := by
  by_cases h : ∃ n, n < 4 ∧ v = nI n
  · exact Or.inl h
  · exact Or.inr fun n hn e => h ⟨n, hn, e⟩
theorem dt_opn (al : Nat → Int32) {L : Nat → Int32} (hL : ∀ i, i < 24 → L i = -1 ∨ ∃ o, o < 24 ∧ L i = nI o) (v1 v2 : Int32) : (∃ p d o, p < 4 ∧ d < 6 ∧ o < 24 ∧ v1 = nI p ∧ v2 = nI d ∧ ¬ al p = 0 ∧ L (6 * p + d) = nI o) ∨ (∀ p d, p < 4 → d < 6 → v1 = nI p → v2 = nI d → ¬ al p = 0 → L (6 * p + d) = -1) := by
  by_cases h : ∃ p d o, p < 4 ∧ d < 6 ∧ o < 24 ∧ v1 = nI p ∧ v2 = nI d ∧ ¬ al p = 0 ∧ L (6 * p + d) = nI o
  · exact Or.inl h
  · refine Or.inr fun p d hp hd e1 e2 ha => ?_
    rcases hL (6 * p + d) (by omega) with e | ⟨o, ho, e⟩
    · exact e
    · exact absurd ⟨p, d, o, hp, hd, ho, e1, e2, ha, e⟩ h
section
variable {al L N S W O FL FB PL A : Nat → Int32}
theorem dt_xAl_t {post : Int32 → Prop} {p : Nat} (hp : p < 4) (ha : ¬ al p = 0) (h : post 1) : wpX_isAlive post (al, L, N, S, W, O, FL, FB, PL, A) (nI p) := by
  have c : (nI p).toNatClampNeg = p := nI_clamp (by omega)
  unfold wpX_isAlive
  dsimp only
  rw [c]
  exact br_f (nI_pos (by omega)) (br_f (nI_ge (b := 4) (by omega) (by omega)) ⟨vp_in_nI hp (by omega), br_f ha h⟩)
theorem dt_xAl_f {post : Int32 → Prop} {v : Int32} (hv : ∀ p, p < 4 → v = nI p → al p = 0) (h : post 0) : wpX_isAlive post (al, L, N, S, W, O, FL, FB, PL, A) v := by
  unfold wpX_isAlive
  dsimp only
  rcases dt_ix v with h0 | ⟨j, hj, rfl⟩
  · exact br_t h0 h
  · refine br_f (nI_pos hj) ?_
    by_cases h4 : j < 4
    · have c : (nI j).toNatClampNeg = j := nI_clamp hj
      rw [c]
      exact br_f (nI_ge (b := 4) h4 (by omega)) ⟨vp_in_nI h4 (by omega), br_t (hv j h4 rfl) h⟩
    · exact br_t (nI_le (a := 4) (by omega) hj) h
theorem dt_xNa_t {post : Int32 → Prop} {p : Nat} (hp : p < 4) (h : post 1) : wpX_isName post (al, L, N, S, W, O, FL, FB, PL, A) (nI p) := by
  unfold wpX_isName
  dsimp only
  exact br_f (nI_pos (by omega)) (br_f (nI_ge (b := 4) (by omega) (by omega)) h)
theorem dt_xNa_f {post : Int32 → Prop} {v : Int32} (hv : ∀ p, p < 4 → v ≠ nI p) (h : post 0) : wpX_isName post (al, L, N, S, W, O, FL, FB, PL, A) v := by
  unfold wpX_isName
  dsimp only
  rcases dt_ix v with h0 | ⟨j, hj, rfl⟩
  · exact br_t h0 h
  · refine br_f (nI_pos hj) ?_
    by_cases h4 : j < 4
    · exact absurd rfl (hv j h4)
    · exact br_t (nI_le (a := 4) (by omega) hj) h
theorem dt_xOf_t {post : Int32 → Prop} {p d o : Nat} (hp : p < 4) (hd : d < 6) (ha : ¬ al p = 0) (e : L (6 * p + d) = nI o) (h : post (nI o)) : wpX_openingOf post (al, L, N, S, W, O, FL, FB, PL, A) (nI p) (nI d) := by
  unfold wpX_openingOf
  dsimp only
  refine dt_xAl_t hp ha (br_f (by decide) (br_f (nI_pos (by omega)) (br_t (nI_lt (b := 6) (by omega) (by omega)) ?_)))
  have c : (nI (6 * p + d)).toNatClampNeg = 6 * p + d := nI_clamp (by omega)
  rw [dt_x6, c, e]
  exact ⟨vp_in_nI (by omega) (by omega), h⟩
theorem dt_xOf_f {post : Int32 → Prop} {v1 v2 : Int32} (hv : ∀ p d, p < 4 → d < 6 → v1 = nI p → v2 = nI d → ¬ al p = 0 → L (6 * p + d) = -1) (h : post (-1)) : wpX_openingOf post (al, L, N, S, W, O, FL, FB, PL, A) v1 v2 := by
  unfold wpX_openingOf
  dsimp only
  rcases dt_alv al v1 with ⟨p, hp, rfl, ha⟩ | ha
  · refine dt_xAl_t hp ha (br_f (by decide) ?_)
    rcases dt_ix v2 with h0 | ⟨d, hd, rfl⟩
    · exact br_t h0 h
    · refine br_f (nI_pos hd) ?_
      by_cases h6 : d < 6
      · refine br_t (nI_lt (b := 6) h6 (by omega)) ?_
        have c : (nI (6 * p + d)).toNatClampNeg = 6 * p + d := nI_clamp (by omega)
        rw [dt_x6, c, hv p d hp h6 rfl rfl ha]
        exact ⟨vp_in_nI (by omega) (by omega), h⟩
      · exact br_f (nI_nlt (b := 6) (by omega) hd) h
  · exact dt_xAl_f ha (br_t rfl h)
theorem dt_xLF_l {post : Int32 → Prop} {p : Nat} (hp : p < 4) : ∀ k i, i + k = 6 → (∀ d, i ≤ d → d < 6 → L (6 * p + d) = -1 → (∀ e, i ≤ e → e < d → L (6 * p + e) ≠ -1) → post (nI d)) → ((∀ d, i ≤ d → d < 6 → L (6 * p + d) ≠ -1) → post (-1)) → wX_leastFree_2 post (nI p) al L N S W O FL FB PL A (k + 1) (nI i) := by
  intro k
  induction k with
  | zero =>
    intro i hi hy hn
    exact br_t (nI_le (a := 6) (by omega) (by omega)) (hn fun d h1 h2 => by omega)
  | succ k ih =>
    intro i hi hy hn
    refine br_f (nI_ge (b := 6) (by omega) (by omega)) ?_
    have c : (nI (6 * p + i)).toNatClampNeg = 6 * p + i := nI_clamp (by omega)
    rw [dt_x6, c]
    refine ⟨vp_in_nI (by omega) (by omega), ?_⟩
    by_cases e : L (6 * p + i) = -1
    · exact br_t e (hy i (Nat.le_refl i) (by omega) e (fun e h1 h2 => by omega))
    · refine br_f e (nm_r (nI_1 i) (ih (i + 1) (by omega) (fun d h1 h2 h3 h4 => hy d (by omega) h2 h3 fun j h5 h6 => ?_) (fun h => hn fun d h1 h2 => ?_)))
      · by_cases ej : j = i
        · rw [ej]; exact e
        · exact h4 j (by omega) h6
      · by_cases ej : d = i
        · rw [ej]; exact e
        · exact h d (by omega) h2
theorem dt_xLF_s {post : Int32 → Prop} {p c d : Nat} (hp : p < 4) (hc : c ≤ d) (hd : d < 6) (e : L (6 * p + d) = -1) (hm : ∀ e, c ≤ e → e < d → L (6 * p + e) ≠ -1) (h : post (nI d)) : wpX_leastFree post (al, L, N, S, W, O, FL, FB, PL, A) (nI p) (nI c) := by
  refine ⟨6 - c + 1, dt_xLF_l hp (6 - c) c (by omega) (fun d' h1 h2 h3 h4 => ?_) (fun hn => absurd e (hn d hc hd))⟩
  have h5 : ¬ d' < d := fun hlt => hm d' h1 hlt h3
  have h6 : ¬ d < d' := fun hlt => h4 d hc hlt e
  have h7 : d' = d := by omega
  rw [h7]; exact h
theorem dt_xLF_n {post : Int32 → Prop} {p c : Nat} (hp : p < 4) (hc : c ≤ 6) (hm : ∀ d, c ≤ d → d < 6 → L (6 * p + d) ≠ -1) (h : post (-1)) : wpX_leastFree post (al, L, N, S, W, O, FL, FB, PL, A) (nI p) (nI c) :=
  ⟨6 - c + 1, dt_xLF_l hp (6 - c) c (by omega) (fun d' h1 h2 h3 h4 => absurd h3 (hm d' h1 h2)) (fun _ => h)⟩
theorem dt_xOE_l {post : Int32 → Prop} {o : Int32} : ∀ k i, i + k = 24 → ((∃ j, i ≤ j ∧ j < 24 ∧ L j = o) → post 1) → ((∀ j, i ≤ j → j < 24 → L j ≠ o) → post 0) → wX_openingExists_2 post o al L N S W O FL FB PL A (k + 1) (nI i) := by
  intro k
  induction k with
  | zero =>
    intro i hi hy hn
    exact br_t (nI_le (a := 24) (by omega) (by omega)) (hn fun j h1 h2 => by omega)
  | succ k ih =>
    intro i hi hy hn
    have c : (nI i).toNatClampNeg = i := nI_clamp (by omega)
    refine br_f (nI_ge (b := 24) (by omega) (by omega)) ⟨vp_in_nI (by omega) (by omega), ?_⟩
    rw [c]
    by_cases e : L i = o
    · exact br_t e (hy ⟨i, Nat.le_refl i, by omega, e⟩)
    · refine br_f e (nm_r (nI_1 i) (ih (i + 1) (by omega) (fun ⟨j, h1, h2, h3⟩ => hy ⟨j, by omega, h2, h3⟩) (fun h => hn fun j h1 h2 => ?_)))
      by_cases ej : j = i
      · rw [ej]; exact e
      · exact h j (by omega) h2
theorem dt_xOE {post : Int32 → Prop} {o : Nat} (hy : dt_Op L o → post 1) (hn : ¬ dt_Op L o → post 0) : wpX_openingExists post (al, L, N, S, W, O, FL, FB, PL, A) (nI o) :=
  ⟨25, dt_xOE_l 24 0 rfl (fun ⟨j, _, h2, h3⟩ => hy ⟨j, h2, h3⟩) (fun h => hn fun ⟨j, h2, h3⟩ => h j (Nat.zero_le j) h2 h3)⟩
theorem dt_xIO_l {post : Int32 → Prop} {s w : Int32} (hL : ∀ i, i < 24 → L i = -1 ∨ ∃ o, o < 24 ∧ L i = nI o) : ∀ k i, i + k = 24 → ((∃ j o, i ≤ j ∧ j < 24 ∧ o < 24 ∧ L j = nI o ∧ S o = s ∧ W o = w) → post 1) → ((∀ j o, i ≤ j → j < 24 → o < 24 → L j = nI o → S o = s → W o ≠ w) → post 0) → wX_isOpen_2 post s w al L N S W O FL FB PL A (k + 1) (nI i) := by
  intro k
  induction k with
  | zero =>
    intro i hi hy hn
    exact br_t (nI_le (a := 24) (by omega) (by omega)) (hn fun j o h1 h2 => by omega)
  | succ k ih =>
    intro i hi hy hn
    have c : (nI i).toNatClampNeg = i := nI_clamp (by omega)
    have go : (∀ o, o < 24 → L i = nI o → S o = s → W o ≠ w) → wX_isOpen_2 post s w al L N S W O FL FB PL A (k + 1) (nI (i + 1)) := fun hx =>
      ih (i + 1) (by omega) (fun ⟨j, o, h1, h2⟩ => hy ⟨j, o, by omega, h2⟩) (fun h => hn fun j o h1 h2 h3 => by
        by_cases ej : j = i
        · rw [ej]; exact hx o h3
        · exact h j o (by omega) h2 h3)
    refine br_f (nI_ge (b := 24) (by omega) (by omega)) ⟨vp_in_nI (by omega) (by omega), nm_e ?_⟩
    rw [c]
    rcases hL i (by omega) with e | ⟨o, ho, e⟩
    · exact br_t e (nm_r (nI_1 i) (go fun o ho e2 => absurd (e2.symm.trans e) (dt_ne (by omega))))
    · have c2 : (nI o).toNatClampNeg = o := nI_clamp (by omega)
      have hu : ∀ o', o' < 24 → L i = nI o' → o' = o := fun o' ho' e2 => dt_inj (by omega) (by omega) (e2.symm.trans e)
      rw [e, c2]
      refine br_f (dt_ne (by omega)) ⟨vp_in_nI ho (by omega), ?_⟩
      by_cases es : S o = s
      · refine br_t es ⟨vp_in_nI ho (by omega), ?_⟩
        by_cases ew : W o = w
        · exact br_t ew (hy ⟨i, o, Nat.le_refl i, by omega, ho, e, es, ew⟩)
        · exact br_f ew (nm_r (nI_1 i) (go fun o' ho' e2 _ => by rw [hu o' ho' e2]; exact ew))
      · exact br_f es (nm_r (nI_1 i) (go fun o' ho' e2 e3 => absurd (by rw [hu o' ho' e2] at e3; exact e3) es))
theorem dt_xIO {post : Int32 → Prop} {s w : Int32} (hL : ∀ i, i < 24 → L i = -1 ∨ ∃ o, o < 24 ∧ L i = nI o) (hy : dt_Has L S W s w → post 1) (hn : ¬ dt_Has L S W s w → post 0) : wpX_isOpen post (al, L, N, S, W, O, FL, FB, PL, A) s w :=
  ⟨25, dt_xIO_l hL 24 0 rfl (fun ⟨j, o, _, h2⟩ => hy ⟨j, o, h2⟩) (fun h => hn fun ⟨j, o, h1, h2, h3, h4, h5⟩ => h j o (Nat.zero_le j) h1 h2 h3 h4 h5)⟩
theorem dt_xFE_l {post : Int32 → Prop} {w : Int32} (hL : ∀ i, i < 24 → L i = -1 ∨ ∃ o, o < 24 ∧ L i = nI o) : ∀ k i, i + k = 4 → ((∃ n, i ≤ n ∧ n < 4 ∧ N n = w) ∨ dt_Has L S W 0 w → post 1) → ((∀ n, i ≤ n → n < 4 → N n ≠ w) → ¬ dt_Has L S W 0 w → post 0) → wX_fileExists_2 post w al L N S W O FL FB PL A (k + 1) (nI i) := by
  intro k
  induction k with
  | zero =>
    intro i hi hy hn
    refine br_t (nI_le (a := 4) (by omega) (by omega)) ?_
    exact dt_xIO hL (fun h => ⟨rfl, hy (Or.inr h)⟩) (fun h => ⟨rfl, hn (fun n h1 h2 => by omega) h⟩)
  | succ k ih =>
    intro i hi hy hn
    have c : (nI i).toNatClampNeg = i := nI_clamp (by omega)
    refine br_f (nI_ge (b := 4) (by omega) (by omega)) ⟨vp_in_nI (by omega) (by omega), ?_⟩
    rw [c]
    by_cases e : N i = w
    · exact br_t e (hy (Or.inl ⟨i, Nat.le_refl i, by omega, e⟩))
    · refine br_f e (nm_r (nI_1 i) (ih (i + 1) (by omega) (fun h => hy ?_) (fun h h0 => hn (fun j h1 h2 => ?_) h0)))
      · rcases h with ⟨n, h1, h2, h3⟩ | h
        · exact Or.inl ⟨n, by omega, h2, h3⟩
        · exact Or.inr h
      · by_cases ej : j = i
        · rw [ej]; exact e
        · exact h j (by omega) h2
theorem dt_xFE {post : Int32 → Prop} {f : Nat} (hL : ∀ i, i < 24 → L i = -1 ∨ ∃ o, o < 24 ∧ L i = nI o) (hy : dt_Fi L N S W f → post 1) (hn : ¬ dt_Fi L N S W f → post 0) : wpX_fileExists post (al, L, N, S, W, O, FL, FB, PL, A) (nI f) := by
  refine ⟨5, dt_xFE_l hL 4 0 rfl (fun h => hy ?_) (fun h h0 => hn fun hf => ?_)⟩
  · rcases h with ⟨n, _, h2, h3⟩ | h
    · exact Or.inl ⟨n, h2, h3⟩
    · exact Or.inr h
  · rcases hf with ⟨n, h2, h3⟩ | hf
    · exact h n (Nat.zero_le n) h2 h3
    · exact h0 hf
theorem dt_xPE {post : Int32 → Prop} {w : Nat} (hL : ∀ i, i < 24 → L i = -1 ∨ ∃ o, o < 24 ∧ L i = nI o) (hy : dt_Pi L S W w → post 1) (hn : ¬ dt_Pi L S W w → post 0) : wpX_pipeExists post (al, L, N, S, W, O, FL, FB, PL, A) (nI w) := by
  unfold wpX_pipeExists
  dsimp only
  exact dt_xIO hL (fun h => br_f (by decide) (hy (Or.inl h))) (fun h => br_t rfl (dt_xIO hL (fun h2 => br_f (by decide) (hy (Or.inr h2))) (fun h2 => br_t rfl (hn fun h3 => h3.elim h h2))))
theorem dt_xNF_l {post : Int32 → SX → Prop} {f : Nat} (hL : ∀ i, i < 24 → L i = -1 ∨ ∃ o, o < 24 ∧ L i = nI o) (hf : f < 28) (hn : ¬ dt_Fi L N S W f) (hm : ∀ j, j < f → dt_Fi L N S W j) (h : post (nI f) (al, L, N, S, W, O, upd FL f 0, FB, PL, A)) : ∀ k i, i + k = f → wX_newFile_2 post al L N S W O FL FB PL A (k + 1) (nI i) := by
  intro k
  induction k with
  | zero =>
    intro i hi
    have ei : i = f := by omega
    subst ei
    have c : (nI i).toNatClampNeg = i := nI_clamp (by omega)
    have v : vp_in (nI i) 28 := vp_in_nI hf (by omega)
    by_cases e : 27 ≤ i
    · exact br_t (nI_le (a := 27) e (by omega)) ⟨v, nm_r (by rw [c]) h⟩
    · exact br_f (nI_ge (b := 27) (by omega) (by omega)) (dt_xFE hL (fun h2 => absurd h2 hn) (fun _ => br_t rfl ⟨v, nm_r (by rw [c]) h⟩))
  | succ k ih =>
    intro i hi
    exact br_f (nI_ge (b := 27) (by omega) (by omega)) (dt_xFE hL (fun _ => br_f (by decide) (nm_r (nI_1 i) (ih (i + 1) (by omega)))) (fun h2 => absurd (hm i (by omega)) h2))
theorem dt_xNF {post : Int32 → SX → Prop} {f : Nat} (hL : ∀ i, i < 24 → L i = -1 ∨ ∃ o, o < 24 ∧ L i = nI o) (hf : f < 28) (hn : ¬ dt_Fi L N S W f) (hm : ∀ j, j < f → dt_Fi L N S W j) (h : post (nI f) (al, L, N, S, W, O, upd FL f 0, FB, PL, A)) : wpX_newFile post (al, L, N, S, W, O, FL, FB, PL, A) :=
  ⟨f + 1, dt_xNF_l hL hf hn hm h f 0 (by omega)⟩
theorem dt_xNP_l {post : Int32 → SX → Prop} {f : Nat} (hL : ∀ i, i < 24 → L i = -1 ∨ ∃ o, o < 24 ∧ L i = nI o) (hf : f < 24) (hn : f < 23 → ¬ dt_Pi L S W f) (hm : ∀ j, j < f → dt_Pi L S W j) (h : post (nI f) (al, L, N, S, W, O, FL, FB, upd PL f 0, A)) : ∀ k i, i + k = f → wX_newPipe_2 post al L N S W O FL FB PL A (k + 1) (nI i) := by
  intro k
  induction k with
  | zero =>
    intro i hi
    have ei : i = f := by omega
    subst ei
    have c : (nI i).toNatClampNeg = i := nI_clamp (by omega)
    have v : vp_in (nI i) 24 := vp_in_nI hf (by omega)
    by_cases e : 23 ≤ i
    · exact br_t (nI_le (a := 23) e (by omega)) ⟨v, nm_r (by rw [c]) h⟩
    · exact br_f (nI_ge (b := 23) (by omega) (by omega)) (dt_xPE hL (fun h2 => absurd h2 (hn (by omega))) (fun _ => br_t rfl ⟨v, nm_r (by rw [c]) h⟩))
  | succ k ih =>
    intro i hi
    exact br_f (nI_ge (b := 23) (by omega) (by omega)) (dt_xPE hL (fun _ => br_f (by decide) (nm_r (nI_1 i) (ih (i + 1) (by omega)))) (fun h2 => absurd (hm i (by omega)) h2))
theorem dt_xNP {post : Int32 → SX → Prop} {f : Nat} (hL : ∀ i, i < 24 → L i = -1 ∨ ∃ o, o < 24 ∧ L i = nI o) (hf : f < 24) (hn : f < 23 → ¬ dt_Pi L S W f) (hm : ∀ j, j < f → dt_Pi L S W j) (h : post (nI f) (al, L, N, S, W, O, FL, FB, upd PL f 0, A)) : wpX_newPipe post (al, L, N, S, W, O, FL, FB, PL, A) :=
  ⟨f + 1, dt_xNP_l hL hf hn hm h f 0 (by omega)⟩
theorem dt_xN25 {post : SX → Prop} {p d o : Nat} {s w : Int32} (hp : p < 4) (hd : d < 6) (ho : o < 24) (h : post (al, upd L (6 * p + d) (nI o), N, upd S o s, upd W o w, upd O o 0, FL, FB, PL, A)) : wX_leadToNewOpening_25 post (nI p) (nI d) s w (nI o) al L N S W O FL FB PL A := by
  have c : (nI o).toNatClampNeg = o := nI_clamp (by omega)
  have v : vp_in (nI o) 24 := vp_in_nI ho (by omega)
  have c2 : (nI p * 6 + nI d).toNatClampNeg = 6 * p + d := by rw [dt_x6]; exact nI_clamp (by omega)
  have v2 : vp_in (nI p * 6 + nI d) 24 := by rw [dt_x6]; exact vp_in_nI (by omega) (by omega)
  exact ⟨v, nm_r (by rw [c]) ⟨v, nm_r (by rw [c]) ⟨v, nm_r (by rw [c]) ⟨v2, nm_r (by rw [c2]) h⟩⟩⟩⟩
theorem dt_xNO_l {post : SX → Prop} {p d o : Nat} {s w : Int32} (hp : p < 4) (hd : d < 6) (ho : o < 24) (hn : ¬ dt_Op L o) (hm : ∀ j, j < o → dt_Op L j) (h : post (al, upd L (6 * p + d) (nI o), N, upd S o s, upd W o w, upd O o 0, FL, FB, PL, A)) : ∀ k i, i + k = o → wX_leadToNewOpening_3 post (nI p) (nI d) s w al L N S W O FL FB PL A (k + 1) (nI i) := by
  intro k
  induction k with
  | zero =>
    intro i hi
    have ei : i = o := by omega
    subst ei
    by_cases e : 23 ≤ i
    · exact br_t (nI_le (a := 23) e (by omega)) (dt_xN25 hp hd ho h)
    · exact br_f (nI_ge (b := 23) (by omega) (by omega)) (dt_xOE (fun h2 => absurd h2 hn) (fun _ => br_t rfl (dt_xN25 hp hd ho h)))
  | succ k ih =>
    intro i hi
    exact br_f (nI_ge (b := 23) (by omega) (by omega)) (dt_xOE (fun _ => br_f (by decide) (nm_r (nI_1 i) (ih (i + 1) (by omega)))) (fun h2 => absurd (hm i (by omega)) h2))
theorem dt_xNO {post : SX → Prop} {p d o : Nat} {s w : Int32} (hp : p < 4) (hd : d < 6) (ho : o < 24) (hn : ¬ dt_Op L o) (hm : ∀ j, j < o → dt_Op L j) (h : post (al, upd L (6 * p + d) (nI o), N, upd S o s, upd W o w, upd O o 0, FL, FB, PL, A)) : wpX_leadToNewOpening post (al, L, N, S, W, O, FL, FB, PL, A) (nI p) (nI d) s w :=
  ⟨o + 1, dt_xNO_l hp hd ho hn hm h o 0 (by omega)⟩
end
end
section
/-! the reference's own methods, each for any post -/
theorem dt_ge0 {x : Int32} (h : x = -1 ∨ ∃ o, o < 24 ∧ x = nI o) : 0 ≤ x ↔ x ≠ -1 := by
  rcases h with e | ⟨o, ho, e⟩
  · rw [e]; decide
  · rw [e]; exact ⟨fun _ => dt_ne (by omega), fun _ => nI_pos' (by omega)⟩
section
variable {al L N S W O FL FB PL B : Nat → Int32}
theorem dt_yAl_t {post : Int32 → Prop} {p : Nat} (hp : p < 4) (ha : ¬ al p = 0) (h : post 0) : wpY_dead post (al, L, S, W, O, N, FL, FB, PL, B) (nI p) := by
  have c : (nI p).toNatClampNeg = p := nI_clamp (by omega)
  unfold wpY_dead
  dsimp only
  rw [c]
  exact br_f (nI_pos (by omega)) (br_f (nI_nlt (a := 3) (by omega) (by omega)) ⟨vp_in_nI hp (by omega), br_f ha h⟩)
theorem dt_yAl_f {post : Int32 → Prop} {v : Int32} (hv : ∀ p, p < 4 → v = nI p → al p = 0) (h : post 1) : wpY_dead post (al, L, S, W, O, N, FL, FB, PL, B) v := by
  unfold wpY_dead
  dsimp only
  rcases dt_ix v with h0 | ⟨j, hj, rfl⟩
  · exact br_t h0 h
  · refine br_f (nI_pos hj) ?_
    by_cases h4 : j < 4
    · have c : (nI j).toNatClampNeg = j := nI_clamp hj
      rw [c]
      exact br_f (nI_nlt (a := 3) (by omega) (by omega)) ⟨vp_in_nI h4 (by omega), br_t (hv j h4 rfl) h⟩
    · exact br_t (nI_lt (a := 3) (by omega) hj) h
theorem dt_yNa_t {post : Int32 → Prop} {p : Nat} (hp : p < 4) (h : post 0) : wpY_badName post (nI p) := by
  unfold wpY_badName
  exact br_f (nI_pos (by omega)) (br_t (nI_le (b := 3) (by omega) (by omega)) h)
theorem dt_yNa_f {post : Int32 → Prop} {v : Int32} (hv : ∀ p, p < 4 → v ≠ nI p) (h : post 1) : wpY_badName post v := by
  unfold wpY_badName
  rcases dt_ix v with h0 | ⟨j, hj, rfl⟩
  · exact br_t h0 h
  · refine br_f (nI_pos hj) ?_
    by_cases h4 : j < 4
    · exact absurd rfl (hv j h4)
    · exact br_f (nI_ge (a := 3) (by omega) hj) h
theorem dt_yFr_t {post : Int32 → Prop} {p d o : Nat} (hp : p < 4) (hd : d < 6) (ho : o < 24) (ha : ¬ al p = 0) (e : L (6 * p + d) = nI o) (h : post 0) : wpY_free post (al, L, S, W, O, N, FL, FB, PL, B) (nI p) (nI d) := by
  unfold wpY_free
  dsimp only
  refine dt_yAl_t hp ha (br_t rfl (br_f (nI_pos (by omega)) (br_f (nI_nlt (a := 5) (by omega) (by omega)) ?_)))
  have c : (nI (6 * p + d)).toNatClampNeg = 6 * p + d := nI_clamp (by omega)
  rw [dt_y6, c, e]
  exact ⟨vp_in_nI (by omega) (by omega), br_t (nI_pos' (by omega)) h⟩
theorem dt_yFr_f {post : Int32 → Prop} {v1 v2 : Int32} (hv : ∀ p d, p < 4 → d < 6 → v1 = nI p → v2 = nI d → ¬ al p = 0 → L (6 * p + d) = -1) (h : post 1) : wpY_free post (al, L, S, W, O, N, FL, FB, PL, B) v1 v2 := by
  unfold wpY_free
  dsimp only
  rcases dt_alv al v1 with ⟨p, hp, rfl, ha⟩ | ha
  · refine dt_yAl_t hp ha (br_t rfl ?_)
    rcases dt_ix v2 with h0 | ⟨d, hd, rfl⟩
    · exact br_t h0 h
    · refine br_f (nI_pos hd) ?_
      by_cases h6 : d < 6
      · refine br_f (nI_nlt (a := 5) (by omega) (by omega)) ?_
        have c : (nI (6 * p + d)).toNatClampNeg = 6 * p + d := nI_clamp (by omega)
        rw [dt_y6, c, hv p d hp h6 rfl rfl ha]
        exact ⟨vp_in_nI (by omega) (by omega), br_f (by decide) h⟩
      · exact br_t (nI_lt (a := 5) (by omega) hd) h
  · exact dt_yAl_f ha (br_f (by decide) h)
theorem dt_yLF_l {post : Int32 → Prop} {p : Nat} (hL : ∀ i, i < 24 → L i = -1 ∨ ∃ o, o < 24 ∧ L i = nI o) (hp : p < 4) : ∀ k i, i + k = 6 → (∀ d, i ≤ d → d < 6 → L (6 * p + d) = -1 → (∀ e, i ≤ e → e < d → L (6 * p + e) ≠ -1) → post (nI d)) → ((∀ d, i ≤ d → d < 6 → L (6 * p + d) ≠ -1) → post (-1)) → wY_leastFree_2 post (nI p) al L S W O N FL FB PL B (k + 1) (nI i) := by
  intro k
  induction k with
  | zero =>
    intro i hi hy hn
    exact br_t (nI_le (a := 6) (by omega) (by omega)) (hn fun d h1 h2 => by omega)
  | succ k ih =>
    intro i hi hy hn
    refine br_f (nI_ge (b := 6) (by omega) (by omega)) ?_
    have c : (nI (6 * p + i)).toNatClampNeg = 6 * p + i := nI_clamp (by omega)
    rw [dt_y6, c]
    refine ⟨vp_in_nI (by omega) (by omega), ?_⟩
    have g := dt_ge0 (hL (6 * p + i) (by omega))
    by_cases e : L (6 * p + i) = -1
    · exact br_f (fun h => g.mp h e) (hy i (Nat.le_refl i) (by omega) e (fun e h1 h2 => by omega))
    · refine br_t (g.mpr e) (nm_r (nI_1 i) (ih (i + 1) (by omega) (fun d h1 h2 h3 h4 => hy d (by omega) h2 h3 fun j h5 h6 => ?_) (fun h => hn fun d h1 h2 => ?_)))
      · by_cases ej : j = i
        · rw [ej]; exact e
        · exact h4 j (by omega) h6
      · by_cases ej : d = i
        · rw [ej]; exact e
        · exact h d (by omega) h2
theorem dt_yLF_s {post : Int32 → Prop} {p d : Nat} (hL : ∀ i, i < 24 → L i = -1 ∨ ∃ o, o < 24 ∧ L i = nI o) (hp : p < 4) (hd : d < 6) (e : L (6 * p + d) = -1) (hm : ∀ e, 0 ≤ e → e < d → L (6 * p + e) ≠ -1) (h : post (nI d)) : wpY_leastFree post (al, L, S, W, O, N, FL, FB, PL, B) (nI p) := by
  refine ⟨7, dt_yLF_l hL hp 6 0 rfl (fun d' h1 h2 h3 h4 => ?_) (fun hn => absurd e (hn d (Nat.zero_le d) hd))⟩
  have h5 : ¬ d' < d := fun hlt => hm d' h1 hlt h3
  have h6 : ¬ d < d' := fun hlt => h4 d (Nat.zero_le d) hlt e
  have h7 : d' = d := by omega
  rw [h7]; exact h
theorem dt_yLF_n {post : Int32 → Prop} {p : Nat} (hL : ∀ i, i < 24 → L i = -1 ∨ ∃ o, o < 24 ∧ L i = nI o) (hp : p < 4) (hm : ∀ d, 0 ≤ d → d < 6 → L (6 * p + d) ≠ -1) (h : post (-1)) : wpY_leastFree post (al, L, S, W, O, N, FL, FB, PL, B) (nI p) :=
  ⟨7, dt_yLF_l hL hp 6 0 rfl (fun d' h1 h2 h3 h4 => absurd h3 (hm d' h1 h2)) (fun _ => h)⟩
theorem dt_yOE_l {post : Int32 → Prop} {o : Int32} : ∀ k i, i + k = 24 → ((∃ j, i ≤ j ∧ j < 24 ∧ L j = o) → post 1) → ((∀ j, i ≤ j → j < 24 → L j ≠ o) → post 0) → wY_opened_2 post o al L S W O N FL FB PL B (k + 1) (nI i) := by
  intro k
  induction k with
  | zero =>
    intro i hi hy hn
    exact br_t (nI_le (a := 24) (by omega) (by omega)) (hn fun j h1 h2 => by omega)
  | succ k ih =>
    intro i hi hy hn
    have c : (nI i).toNatClampNeg = i := nI_clamp (by omega)
    refine br_f (nI_ge (b := 24) (by omega) (by omega)) ⟨vp_in_nI (by omega) (by omega), ?_⟩
    rw [c]
    by_cases e : L i = o
    · exact br_t e (hy ⟨i, Nat.le_refl i, by omega, e⟩)
    · refine br_f e (nm_r (nI_1 i) (ih (i + 1) (by omega) (fun ⟨j, h1, h2, h3⟩ => hy ⟨j, by omega, h2, h3⟩) (fun h => hn fun j h1 h2 => ?_)))
      by_cases ej : j = i
      · rw [ej]; exact e
      · exact h j (by omega) h2
theorem dt_yOE {post : Int32 → Prop} {o : Nat} (hy : dt_Op L o → post 1) (hn : ¬ dt_Op L o → post 0) : wpY_opened post (al, L, S, W, O, N, FL, FB, PL, B) (nI o) :=
  ⟨25, dt_yOE_l 24 0 rfl (fun ⟨j, _, h2, h3⟩ => hy ⟨j, h2, h3⟩) (fun h => hn fun ⟨j, h2, h3⟩ => h j (Nat.zero_le j) h2 h3)⟩
theorem dt_y45 {post : Int32 → Prop} {J : Int32 → Prop} {o : Nat} {s w z : Int32} (ho : o < 24) (hy : ¬ z = 0 → W o = w → dt_Op L o → post 1) (hn : (¬ z = 0 → W o = w → ¬ dt_Op L o) → J (nI (o + 1))) : wY_hasOpening_45 post J s w (nI o) z al L S W O N FL FB PL B := by
  have c : (nI o).toNatClampNeg = o := nI_clamp (by omega)
  unfold wY_hasOpening_45
  rw [c]
  by_cases hz : z = 0
  · exact br_t hz (nm_r (nI_1 o) (hn fun h => absurd hz h))
  · refine br_f hz ⟨vp_in_nI ho (by omega), ?_⟩
    by_cases hw : W o = w
    · exact br_t hw (dt_yOE (fun h => br_f (by decide) (hy hz hw h)) (fun h => br_t rfl (nm_r (nI_1 o) (hn fun _ _ => h))))
    · exact br_f hw (nm_r (nI_1 o) (hn fun _ h => absurd h hw))
theorem dt_yHO_l {post : Int32 → Prop} {s w : Int32} {Q : Nat → Prop} (hQ : ∀ o, Q o ↔ (s = 3 ∧ ¬ S o ≤ 0) ∨ (¬ s = 3 ∧ S o = s)) : ∀ k i, i + k = 24 → ((∃ o, i ≤ o ∧ o < 24 ∧ Q o ∧ W o = w ∧ dt_Op L o) → post 1) → ((∀ o, i ≤ o → o < 24 → Q o → W o = w → ¬ dt_Op L o) → post 0) → wY_hasOpening_2 post s w al L S W O N FL FB PL B (k + 1) (nI i) := by
  intro k
  induction k with
  | zero =>
    intro i hi hy hn
    exact br_t (nI_le (a := 24) (by omega) (by omega)) (hn fun j h1 h2 => by omega)
  | succ k ih =>
    intro i hi hy hn
    have c : (nI i).toNatClampNeg = i := nI_clamp (by omega)
    have v : vp_in (nI i) 24 := vp_in_nI (by omega) (by omega)
    have go : (Q i → W i = w → ¬ dt_Op L i) → wY_hasOpening_2 post s w al L S W O N FL FB PL B (k + 1) (nI (i + 1)) := fun hx =>
      ih (i + 1) (by omega) (fun ⟨o, h1, h2⟩ => hy ⟨o, by omega, h2⟩) (fun h => hn fun o h1 h2 => by
        by_cases ej : o = i
        · rw [ej]; exact hx
        · exact h o (by omega) h2)
    have yes : Q i → W i = w → dt_Op L i → post 1 := fun h1 h2 h3 => hy ⟨i, Nat.le_refl i, by omega, h1, h2, h3⟩
    refine br_f (nI_ge (b := 24) (by omega) (by omega)) ?_
    rw [c]
    by_cases h3 : s = 3
    · refine br_t h3 ⟨v, ?_⟩
      by_cases h0 : S i ≤ 0
      · exact br_t h0 (dt_y45 (by omega) (fun h => absurd rfl h) (fun _ => go fun hq => absurd hq (by
          rw [hQ]; exact fun h => h.elim (fun h => h.2 h0) (fun h => h.1 h3))))
      · have q : Q i := (hQ i).mpr (Or.inl ⟨h3, h0⟩)
        exact br_f h0 (dt_y45 (by omega) (fun _ => yes q) (fun h => go fun _ => h (by decide)))
    · refine br_f h3 ⟨v, ?_⟩
      by_cases h0 : S i = s
      · have q : Q i := (hQ i).mpr (Or.inr ⟨h3, h0⟩)
        exact br_t h0 (dt_y45 (by omega) (fun _ => yes q) (fun h => go fun _ => h (by decide)))
      · exact br_f h0 (dt_y45 (by omega) (fun h => absurd rfl h) (fun _ => go fun hq => absurd hq (by
          rw [hQ]; exact fun h => h.elim (fun h => h3 h.1) (fun h => h0 h.2))))
theorem dt_yHO {post : Int32 → Prop} {s w : Int32} (hs : ¬ s = 3) (hy : dt_Has L S W s w → post 1) (hn : ¬ dt_Has L S W s w → post 0) : wpY_hasOpening post (al, L, S, W, O, N, FL, FB, PL, B) s w := by
  refine ⟨25, dt_yHO_l (Q := fun o => S o = s) (fun o => ⟨fun h => Or.inr ⟨hs, h⟩, fun h => h.elim (fun h => absurd h.1 hs) (fun h => h.2)⟩) 24 0 rfl (fun h => hy ?_) (fun h => hn ?_)⟩
  · obtain ⟨o, _, ho, h1, h2, i, hi, h3⟩ := h
    exact ⟨i, o, hi, ho, h3, h1, h2⟩
  · intro ⟨i, o, hi, ho, h3, h1, h2⟩
    exact h o (Nat.zero_le o) ho h1 h2 ⟨i, hi, h3⟩
theorem dt_yHO3 {post : Int32 → Prop} {w : Nat} (hS : ∀ o, o < 24 → S o = 0 ∨ S o = 1 ∨ S o = 2) (hy : dt_Pi L S W w → post 1) (hn : ¬ dt_Pi L S W w → post 0) : wpY_hasOpening post (al, L, S, W, O, N, FL, FB, PL, B) 3 (nI w) := by
  refine ⟨25, dt_yHO_l (Q := fun o => ¬ S o ≤ 0) (fun o => ⟨fun h => Or.inl ⟨rfl, h⟩, fun h => h.elim (fun h => h.2) (fun h => absurd rfl h.1)⟩) 24 0 rfl (fun h => hy ?_) (fun h => hn ?_)⟩
  · obtain ⟨o, _, ho, h1, h2, i, hi, h3⟩ := h
    rcases hS o ho with e | e | e
    · exact absurd (by rw [e]; decide) h1
    · exact Or.inl ⟨i, o, hi, ho, h3, e, h2⟩
    · exact Or.inr ⟨i, o, hi, ho, h3, e, h2⟩
  · intro hp
    rcases hp with ⟨i, o, hi, ho, h3, h1, h2⟩ | ⟨i, o, hi, ho, h3, h1, h2⟩
    · exact h o (Nat.zero_le o) ho (by rw [h1]; decide) h2 ⟨i, hi, h3⟩
    · exact h o (Nat.zero_le o) ho (by rw [h1]; decide) h2 ⟨i, hi, h3⟩
theorem dt_yFE_l {post : Int32 → Prop} {w : Int32} : ∀ k i, i + k = 4 → ((∃ n, i ≤ n ∧ n < 4 ∧ N n = w) ∨ dt_Has L S W 0 w → post 1) → ((∀ n, i ≤ n → n < 4 → N n ≠ w) → ¬ dt_Has L S W 0 w → post 0) → wY_isFile_2 post w al L S W O N FL FB PL B (k + 1) (nI i) := by
  intro k
  induction k with
  | zero =>
    intro i hi hy hn
    refine br_t (nI_le (a := 4) (by omega) (by omega)) ?_
    exact dt_yHO (by decide) (fun h => ⟨rfl, hy (Or.inr h)⟩) (fun h => ⟨rfl, hn (fun n h1 h2 => by omega) h⟩)
  | succ k ih =>
    intro i hi hy hn
    have c : (nI i).toNatClampNeg = i := nI_clamp (by omega)
    refine br_f (nI_ge (b := 4) (by omega) (by omega)) ⟨vp_in_nI (by omega) (by omega), ?_⟩
    rw [c]
    by_cases e : N i = w
    · exact br_t e (hy (Or.inl ⟨i, Nat.le_refl i, by omega, e⟩))
    · refine br_f e (nm_r (nI_1 i) (ih (i + 1) (by omega) (fun h => hy ?_) (fun h h0 => hn (fun j h1 h2 => ?_) h0)))
      · rcases h with ⟨n, h1, h2, h3⟩ | h
        · exact Or.inl ⟨n, by omega, h2, h3⟩
        · exact Or.inr h
      · by_cases ej : j = i
        · rw [ej]; exact e
        · exact h j (by omega) h2
theorem dt_yFE {post : Int32 → Prop} {f : Nat} (hy : dt_Fi L N S W f → post 1) (hn : ¬ dt_Fi L N S W f → post 0) : wpY_isFile post (al, L, S, W, O, N, FL, FB, PL, B) (nI f) := by
  refine ⟨5, dt_yFE_l 4 0 rfl (fun h => hy ?_) (fun h h0 => hn fun hf => ?_)⟩
  · rcases h with ⟨n, _, h2, h3⟩ | h
    · exact Or.inl ⟨n, h2, h3⟩
    · exact Or.inr h
  · rcases hf with ⟨n, h2, h3⟩ | hf
    · exact h n (Nat.zero_le n) h2 h3
    · exact h0 hf
theorem dt_yNF_l {post : Int32 → SY → Prop} {f : Nat} (hf : f < 28) (hn : ¬ dt_Fi L N S W f) (hm : ∀ j, j < f → dt_Fi L N S W j) (h : post (nI f) (al, L, S, W, O, N, upd FL f 0, FB, PL, B)) : ∀ k i, i + k = f → wY_newFile_2 post al L S W O N FL FB PL B (k + 1) (nI i) := by
  intro k
  induction k with
  | zero =>
    intro i hi
    have ei : i = f := by omega
    subst ei
    have c : (nI i).toNatClampNeg = i := nI_clamp (by omega)
    have v : vp_in (nI i) 28 := vp_in_nI hf (by omega)
    exact br_f (nI_ge (b := 28) (by omega) (by omega)) (dt_yFE (fun h2 => absurd h2 hn) (fun _ => br_t rfl ⟨v, nm_r (by rw [c]) h⟩))
  | succ k ih =>
    intro i hi
    exact br_f (nI_ge (b := 28) (by omega) (by omega)) (dt_yFE (fun _ => br_f (by decide) (nm_r (nI_1 i) (ih (i + 1) (by omega)))) (fun h2 => absurd (hm i (by omega)) h2))
theorem dt_yNF {post : Int32 → SY → Prop} {f : Nat} (hf : f < 28) (hn : ¬ dt_Fi L N S W f) (hm : ∀ j, j < f → dt_Fi L N S W j) (h : post (nI f) (al, L, S, W, O, N, upd FL f 0, FB, PL, B)) : wpY_newFile post (al, L, S, W, O, N, FL, FB, PL, B) :=
  ⟨f + 1, dt_yNF_l hf hn hm h f 0 (by omega)⟩
theorem dt_yNO_l {post : Int32 → SY → Prop} {p d o : Nat} {s w : Int32} (hp : p < 4) (hd : d < 6) (ho : o < 24) (hn : ¬ dt_Op L o) (hm : ∀ j, j < o → dt_Op L j) (h : post (nI d) (al, upd L (6 * p + d) (nI o), upd S o s, upd W o w, upd O o 0, N, FL, FB, PL, B)) : ∀ k i, i + k = o → wY_lead_10 post (nI p) s w (nI d) al L S W O N FL FB PL B (k + 1) (nI i) := by
  intro k
  induction k with
  | zero =>
    intro i hi
    have ei : i = o := by omega
    subst ei
    have c : (nI i).toNatClampNeg = i := nI_clamp (by omega)
    have v : vp_in (nI i) 24 := vp_in_nI ho (by omega)
    have c2 : (6 * nI p + nI d).toNatClampNeg = 6 * p + d := by rw [dt_y6]; exact nI_clamp (by omega)
    have v2 : vp_in (6 * nI p + nI d) 24 := by rw [dt_y6]; exact vp_in_nI (by omega) (by omega)
    exact br_f (nI_ge (b := 24) (by omega) (by omega)) (dt_yOE (fun h2 => absurd h2 hn) (fun _ => br_t rfl ⟨v, nm_r (by rw [c]) ⟨v, nm_r (by rw [c]) ⟨v, nm_r (by rw [c]) ⟨v2, nm_r (by rw [c2]) h⟩⟩⟩⟩))
  | succ k ih =>
    intro i hi
    exact br_f (nI_ge (b := 24) (by omega) (by omega)) (dt_yOE (fun _ => br_f (by decide) (nm_r (nI_1 i) (ih (i + 1) (by omega)))) (fun h2 => absurd (hm i (by omega)) h2))
theorem dt_yNO {post : Int32 → SY → Prop} {p d o : Nat} {s w : Int32} (hL : ∀ i, i < 24 → L i = -1 ∨ ∃ o, o < 24 ∧ L i = nI o) (hp : p < 4) (hd : d < 6) (e : L (6 * p + d) = -1) (hd2 : ∀ e, 0 ≤ e → e < d → L (6 * p + e) ≠ -1) (ho : o < 24) (hn : ¬ dt_Op L o) (hm : ∀ j, j < o → dt_Op L j) (h : post (nI d) (al, upd L (6 * p + d) (nI o), upd S o s, upd W o w, upd O o 0, N, FL, FB, PL, B)) : wpY_lead post (al, L, S, W, O, N, FL, FB, PL, B) (nI p) s w := by
  unfold wpY_lead
  dsimp only
  exact dt_yLF_s hL hp hd e hd2 ⟨o + 1, dt_yNO_l hp hd ho hn hm h o 0 (by omega)⟩
end
end
section
/-! loops that store or count, both sides; places -/
theorem dt_cx {p d : Nat} (hp : p < 4) (hd : d < 6) : (nI p * 6 + nI d).toNatClampNeg = 6 * p + d := by rw [dt_x6]; exact nI_clamp (by omega)
theorem dt_vx {p d : Nat} (hp : p < 4) (hd : d < 6) : vp_in (nI p * 6 + nI d) 24 := by rw [dt_x6]; exact vp_in_nI (by omega) (by omega)
theorem dt_cy {p d : Nat} (hp : p < 4) (hd : d < 6) : (6 * nI p + nI d).toNatClampNeg = 6 * p + d := by rw [dt_y6]; exact nI_clamp (by omega)
theorem dt_vy {p d : Nat} (hp : p < 4) (hd : d < 6) : vp_in (6 * nI p + nI d) 24 := by rw [dt_y6]; exact vp_in_nI (by omega) (by omega)
theorem dt_up1 {L : Nat → Int32} {j M : Nat} : ∀ i, i < M → upd L j (-1) i = -1 ∨ ∃ j', j' < M ∧ upd L j (-1) i = L j' := by
  intro i hi
  by_cases e : i = j
  · rw [e]; exact Or.inl pk_us
  · exact Or.inr ⟨i, hi, pk_un e⟩
theorem dt_up2 {L : Nat → Int32} {j j0 M : Nat} {x : Int32} (h0 : j0 < M) (e0 : L j0 = x) : ∀ i, i < M → upd L j x i = -1 ∨ ∃ j', j' < M ∧ upd L j x i = L j' := by
  intro i hi
  by_cases e : i = j
  · rw [e]; exact Or.inr ⟨j0, h0, pk_us.trans e0.symm⟩
  · exact Or.inr ⟨i, hi, pk_un e⟩
theorem dt_ex_in (L : Nat → Int32) (b : Nat) : ∀ k i, i < k → dt_ex L b k (b + i) = -1 := by
  intro k
  induction k with
  | zero => intro i hi; omega
  | succ k ih =>
    intro i hi
    by_cases e : i = k
    · rw [e]; exact pk_us
    · have h : dt_ex L b (k + 1) (b + i) = dt_ex L b k (b + i) := pk_un (by omega)
      rw [h]; exact ih i (by omega)
theorem dt_ex0 (L : Nat → Int32) (i : Nat) : upd (dt_ex L 0 i) i (-1) = dt_ex L 0 (i + 1) := by
  show upd (dt_ex L 0 i) i (-1) = upd (dt_ex L 0 i) (0 + i) (-1)
  rw [Nat.zero_add]
theorem dt_cn_mono (P : Nat → Prop) (a : Nat) : ∀ k, dt_cn P a ≤ dt_cn P (a + k) := by
  intro k
  induction k with
  | zero => exact Nat.le_refl _
  | succ k ih =>
    by_cases h : P (a + k)
    · have e : dt_cn P (a + (k + 1)) = dt_cn P (a + k) + 1 := dt_cn_t h
      omega
    · have e : dt_cn P (a + (k + 1)) = dt_cn P (a + k) := dt_cn_f h
      omega
theorem dt_cn_z {P : Nat → Prop} : ∀ n, (∀ d, d < n → ¬ P d) → dt_cn P n = 0 := by
  intro n
  induction n with
  | zero => exact fun _ => rfl
  | succ n ih =>
    intro h
    rw [dt_cn_f (h n (by omega))]
    exact ih fun d hd => h d (by omega)
theorem dt_cn_1 {P : Nat → Prop} {a : Nat} : ∀ n, (∀ d, d < n → P d → d = a) → dt_cn P n ≤ 1 := by
  intro n
  induction n with
  | zero => exact fun _ => Nat.zero_le _
  | succ n ih =>
    intro h
    by_cases e : P n
    · have ea := h n (by omega) e
      rw [dt_cn_t e, dt_cn_z n (fun d hd hp => by have := h d (by omega) hp; omega)]
      omega
    · rw [dt_cn_f e]
      exact ih fun d hd => h d (by omega)
theorem dt_cn_2 {P : Nat → Prop} {a b n : Nat} (hab : a < b) (hb : b < n) (pa : P a) (pb : P b) : 2 ≤ dt_cn P n := by
  have h1 := dt_cn_mono P (a + 1) (b - (a + 1))
  have h2 := dt_cn_mono P (b + 1) (n - (b + 1))
  rw [show a + 1 + (b - (a + 1)) = b by omega, dt_cn_t pa] at h1
  rw [show b + 1 + (n - (b + 1)) = n by omega, dt_cn_t pb] at h2
  omega
section
variable {al L N S W O FL FB PL A B : Nat → Int32}
theorem dt_xI1 {post : SX → Prop} (h : post (al, L, dt_ex N 0 4, S, W, O, FL, FB, PL, A)) : ∀ k i, i + k = 4 → wX_init_114 post (k + 1) (nI i) al L (dt_ex N 0 i) S W O FL FB PL A := by
  intro k
  induction k with
  | zero =>
    intro i hi
    have ei : i = 4 := by omega
    subst ei
    exact br_t (nI_le (a := 4) (by omega) (by omega)) h
  | succ k ih =>
    intro i hi
    have c : (nI i).toNatClampNeg = i := nI_clamp (by omega)
    exact br_f (nI_ge (b := 4) (by omega) (by omega)) ⟨vp_in_nI (by omega) (by omega), nm_r (e' := dt_ex N 0 (i + 1)) (by rw [c]; exact dt_ex0 N i) (nm_r (nI_1 i) (ih (i + 1) (by omega)))⟩
theorem dt_xI2 {post : SX → Prop} (h : post (al, dt_ex L 0 24, dt_ex N 0 4, S, W, O, FL, FB, PL, A)) : ∀ k i, i + k = 24 → wX_init_93 post (k + 1) (nI i) al (dt_ex L 0 i) N S W O FL FB PL A := by
  intro k
  induction k with
  | zero =>
    intro i hi
    have ei : i = 24 := by omega
    subst ei
    exact br_t (nI_le (a := 24) (by omega) (by omega)) ⟨5, dt_xI1 h 4 0 rfl⟩
  | succ k ih =>
    intro i hi
    have c : (nI i).toNatClampNeg = i := nI_clamp (by omega)
    exact br_f (nI_ge (b := 24) (by omega) (by omega)) ⟨vp_in_nI (by omega) (by omega), nm_r (e' := dt_ex L 0 (i + 1)) (by rw [c]; exact dt_ex0 L i) (nm_r (nI_1 i) (ih (i + 1) (by omega)))⟩
theorem dt_yI1 {post : SY → Prop} (h : post (al, L, S, W, O, dt_ex N 0 4, FL, FB, PL, B)) : ∀ k i, i + k = 4 → wY_init_114 post (k + 1) (nI i) al L S W O (dt_ex N 0 i) FL FB PL B := by
  intro k
  induction k with
  | zero =>
    intro i hi
    have ei : i = 4 := by omega
    subst ei
    exact br_t (nI_le (a := 4) (by omega) (by omega)) h
  | succ k ih =>
    intro i hi
    have c : (nI i).toNatClampNeg = i := nI_clamp (by omega)
    exact br_f (nI_ge (b := 4) (by omega) (by omega)) ⟨vp_in_nI (by omega) (by omega), nm_r (e' := dt_ex N 0 (i + 1)) (by rw [c]; exact dt_ex0 N i) (nm_r (nI_1 i) (ih (i + 1) (by omega)))⟩
theorem dt_yI2 {post : SY → Prop} (h : post (al, dt_ex L 0 24, S, W, O, dt_ex N 0 4, FL, FB, PL, B)) : ∀ k i, i + k = 24 → wY_init_93 post (k + 1) (nI i) al (dt_ex L 0 i) S W O N FL FB PL B := by
  intro k
  induction k with
  | zero =>
    intro i hi
    have ei : i = 24 := by omega
    subst ei
    exact br_t (nI_le (a := 24) (by omega) (by omega)) ⟨5, dt_yI1 h 4 0 rfl⟩
  | succ k ih =>
    intro i hi
    have c : (nI i).toNatClampNeg = i := nI_clamp (by omega)
    exact br_f (nI_ge (b := 24) (by omega) (by omega)) ⟨vp_in_nI (by omega) (by omega), nm_r (e' := dt_ex L 0 (i + 1)) (by rw [c]; exact dt_ex0 L i) (nm_r (nI_1 i) (ih (i + 1) (by omega)))⟩
theorem dt_xEx {post : Int32 → SX → Prop} {p : Nat} (hp : p < 4) (h : post 0 (al, dt_ex L (6 * p) 6, N, S, W, O, FL, FB, PL, A)) : ∀ k i, i + k = 6 → wX_exit_27 post (nI p) (k + 1) (nI i) al (dt_ex L (6 * p) i) N S W O FL FB PL A := by
  intro k
  induction k with
  | zero =>
    intro i hi
    have ei : i = 6 := by omega
    subst ei
    exact br_t (nI_le (a := 6) (by omega) (by omega)) h
  | succ k ih =>
    intro i hi
    exact br_f (nI_ge (b := 6) (by omega) (by omega)) ⟨dt_vx hp (by omega), nm_r (e' := dt_ex L (6 * p) (i + 1)) (by rw [dt_cx hp (by omega)]; rfl) (nm_r (nI_1 i) (ih (i + 1) (by omega)))⟩
theorem dt_yEx {post : Int32 → SY → Prop} {p : Nat} (hp : p < 4) (h : post 0 (al, dt_ex L (6 * p) 6, S, W, O, N, FL, FB, PL, B)) : ∀ k i, i + k = 6 → wY_exit_57 post (nI p) (k + 1) (nI i) al (dt_ex L (6 * p) i) S W O N FL FB PL B := by
  intro k
  induction k with
  | zero =>
    intro i hi
    have ei : i = 6 := by omega
    subst ei
    exact br_t (nI_le (a := 6) (by omega) (by omega)) h
  | succ k ih =>
    intro i hi
    exact br_f (nI_ge (b := 6) (by omega) (by omega)) ⟨dt_vy hp (by omega), nm_r (e' := dt_ex L (6 * p) (i + 1)) (by rw [dt_cy hp (by omega)]; rfl) (nm_r (nI_1 i) (ih (i + 1) (by omega)))⟩
theorem dt_xFk {post : Int32 → SX → Prop} {p c : Nat} (hp : p < 4) (hc : c < 4) (h : post (nI c) (al, dt_fk L (6 * c) (6 * p) 6, N, S, W, O, FL, FB, PL, A)) : ∀ k i, i + k = 6 → wX_fork_32 post (nI p) (nI c) (k + 1) (nI i) al (dt_fk L (6 * c) (6 * p) i) N S W O FL FB PL A := by
  intro k
  induction k with
  | zero =>
    intro i hi
    have ei : i = 6 := by omega
    subst ei
    exact br_t (nI_le (a := 6) (by omega) (by omega)) h
  | succ k ih =>
    intro i hi
    exact br_f (nI_ge (b := 6) (by omega) (by omega)) ⟨dt_vx hp (by omega), dt_vx hc (by omega), nm_r (e' := dt_fk L (6 * c) (6 * p) (i + 1)) (by rw [dt_cx hp (by omega), dt_cx hc (by omega)]; rfl) (nm_r (nI_1 i) (ih (i + 1) (by omega)))⟩
theorem dt_yFk {post : Int32 → SY → Prop} {p c : Nat} (hp : p < 4) (hc : c < 4) (h : post (nI c) (al, dt_fk L (6 * c) (6 * p) 6, S, W, O, N, FL, FB, PL, B)) : ∀ k i, i + k = 6 → wY_fork_35 post (nI p) (nI c) (k + 1) (nI i) al (dt_fk L (6 * c) (6 * p) i) S W O N FL FB PL B := by
  intro k
  induction k with
  | zero =>
    intro i hi
    have ei : i = 6 := by omega
    subst ei
    exact br_t (nI_le (a := 6) (by omega) (by omega)) h
  | succ k ih =>
    intro i hi
    exact br_f (nI_ge (b := 6) (by omega) (by omega)) ⟨dt_vy hp (by omega), dt_vy hc (by omega), nm_r (e' := dt_fk L (6 * c) (6 * p) (i + 1)) (by rw [dt_cy hp (by omega), dt_cy hc (by omega)]; rfl) (nm_r (nI_1 i) (ih (i + 1) (by omega)))⟩
theorem dt_xLN_l {post : Int32 → Prop} : ∀ k i, i + k = 4 → (∀ c, i ≤ c → c < 4 → al c = 0 → (∀ e, i ≤ e → e < c → ¬ al e = 0) → post (nI c)) → ((∀ c, i ≤ c → c < 4 → ¬ al c = 0) → post (-1)) → wX_leastNotAlive_2 post al L N S W O FL FB PL A (k + 1) (nI i) := by
  intro k
  induction k with
  | zero =>
    intro i hi hy hn
    exact br_t (nI_le (a := 4) (by omega) (by omega)) (hn fun d h1 h2 => by omega)
  | succ k ih =>
    intro i hi hy hn
    have c : (nI i).toNatClampNeg = i := nI_clamp (by omega)
    refine br_f (nI_ge (b := 4) (by omega) (by omega)) ⟨vp_in_nI (by omega) (by omega), ?_⟩
    rw [c]
    by_cases e : al i = 0
    · exact br_t e (hy i (Nat.le_refl i) (by omega) e (fun e h1 h2 => by omega))
    · refine br_f e (nm_r (nI_1 i) (ih (i + 1) (by omega) (fun d h1 h2 h3 h4 => hy d (by omega) h2 h3 fun j h5 h6 => ?_) (fun h => hn fun d h1 h2 => ?_)))
      · by_cases ej : j = i
        · rw [ej]; exact e
        · exact h4 j (by omega) h6
      · by_cases ej : d = i
        · rw [ej]; exact e
        · exact h d (by omega) h2
theorem dt_yF12 {post : Int32 → SY → Prop} {p : Nat} (hp : p < 4) : ∀ k i, i + k = 4 → (∀ c, i ≤ c → c < 4 → al c = 0 → (∀ e, i ≤ e → e < c → ¬ al e = 0) → post (nI c) (upd al c (vp_nar .boolean 1), dt_fk L (6 * c) (6 * p) 6, S, W, O, N, FL, FB, PL, B)) → ((∀ c, i ≤ c → c < 4 → ¬ al c = 0) → post (-2) (al, L, S, W, O, N, FL, FB, PL, B)) → wY_fork_12 post (nI p) al L S W O N FL FB PL B (k + 1) (nI i) := by
  intro k
  induction k with
  | zero =>
    intro i hi hy hn
    exact br_t (nI_le (a := 4) (by omega) (by omega)) (hn fun d h1 h2 => by omega)
  | succ k ih =>
    intro i hi hy hn
    have c : (nI i).toNatClampNeg = i := nI_clamp (by omega)
    have v : vp_in (nI i) 4 := vp_in_nI (by omega) (by omega)
    refine br_f (nI_ge (b := 4) (by omega) (by omega)) ⟨v, ?_⟩
    rw [c]
    by_cases e : al i = 0
    · exact br_t e ⟨v, nm_e ⟨7, dt_yFk hp (by omega) (hy i (Nat.le_refl i) (by omega) e (fun e h1 h2 => by omega)) 6 0 rfl⟩⟩
    · refine br_f e (nm_r (nI_1 i) (ih (i + 1) (by omega) (fun d h1 h2 h3 h4 => hy d (by omega) h2 h3 fun j h5 h6 => ?_) (fun h => hn fun d h1 h2 => ?_)))
      · by_cases ej : j = i
        · rw [ej]; exact e
        · exact h4 j (by omega) h6
      · by_cases ej : d = i
        · rw [ej]; exact e
        · exact h d (by omega) h2
theorem dt_xNA_l {post : Int32 → Prop} (h : post (nI (dt_cn (fun j => ¬ al j = 0) 4))) : ∀ k i, i + k = 4 → wX_numberAlive_4 post al L N S W O FL FB PL A (k + 1) (nI (dt_cn (fun j => ¬ al j = 0) i)) (nI i) := by
  intro k
  induction k with
  | zero =>
    intro i hi
    have ei : i = 4 := by omega
    subst ei
    exact br_t (nI_le (a := 4) (by omega) (by omega)) h
  | succ k ih =>
    intro i hi
    have c : (nI i).toNatClampNeg = i := nI_clamp (by omega)
    have t := ih (i + 1) (by omega)
    refine br_f (nI_ge (b := 4) (by omega) (by omega)) ⟨vp_in_nI (by omega) (by omega), ?_⟩
    rw [c]
    by_cases e : al i = 0
    · rw [dt_cn_f (P := fun j => ¬ al j = 0) (n := i) (fun h => h e)] at t
      exact br_t e (nm_r (nI_1 i) t)
    · rw [dt_cn_t (P := fun j => ¬ al j = 0) (n := i) e] at t
      exact br_f e (nm_r (nI_1 _) (nm_r (nI_1 i) t))
theorem dt_yE14 {post : Int32 → SY → Prop} {p : Nat} (hp : p < 4) (h0 : dt_cn (fun j => ¬ al j = 0 ∧ j ≠ p) 4 = 0 → post (-1) (al, L, S, W, O, N, FL, FB, PL, B)) (h1 : dt_cn (fun j => ¬ al j = 0 ∧ j ≠ p) 4 ≠ 0 → post 0 (upd al p (vp_nar .boolean 0), dt_ex L (6 * p) 6, S, W, O, N, FL, FB, PL, B)) : ∀ k i, i + k = 4 → wY_exit_14 post (nI p) al L S W O N FL FB PL B (k + 1) (nI (dt_cn (fun j => ¬ al j = 0 ∧ j ≠ p) i)) (nI i) := by
  intro k
  induction k with
  | zero =>
    intro i hi
    have ei : i = 4 := by omega
    subst ei
    refine br_t (nI_le (a := 4) (by omega) (by omega)) ?_
    have c : (nI p).toNatClampNeg = p := nI_clamp (by omega)
    have le := dt_cn_le (fun j => ¬ al j = 0 ∧ j ≠ p) 4
    by_cases e : dt_cn (fun j => ¬ al j = 0 ∧ j ≠ p) 4 = 0
    · exact br_t (by rw [e]; rfl) (h0 e)
    · exact br_f (nI_ne0 (by omega) (by omega)) ⟨vp_in_nI hp (by omega), nm_r (e' := upd al p (vp_nar .boolean 0)) (by rw [c]) ⟨7, dt_yEx hp (h1 e) 6 0 rfl⟩⟩
  | succ k ih =>
    intro i hi
    have c : (nI i).toNatClampNeg = i := nI_clamp (by omega)
    have t := ih (i + 1) (by omega)
    refine br_f (nI_ge (b := 4) (by omega) (by omega)) ⟨vp_in_nI (by omega) (by omega), ?_⟩
    rw [c]
    by_cases e : al i = 0
    · rw [dt_cn_f (P := fun j => ¬ al j = 0 ∧ j ≠ p) (n := i) (fun h => h.1 e)] at t
      exact br_t e (nm_r (nI_1 i) t)
    · by_cases ep : i = p
      · rw [dt_cn_f (P := fun j => ¬ al j = 0 ∧ j ≠ p) (n := i) (fun h => h.2 ep)] at t
        exact br_f e (br_t (by rw [ep]) (nm_r (nI_1 i) t))
      · rw [dt_cn_t (P := fun j => ¬ al j = 0 ∧ j ≠ p) (n := i) ⟨e, ep⟩] at t
        exact br_f e (br_f (fun h => ep (dt_inj (by omega) (by omega) h)) (nm_r (nI_1 _) (nm_r (nI_1 i) t)))
theorem dt_yFD_l {post : Int32 → Prop} {p : Nat} (hL : ∀ i, i < 24 → L i = -1 ∨ ∃ o, o < 24 ∧ L i = nI o) (hp : p < 4) (h : post (nI (dt_cn (fun d => L (6 * p + d) = -1) 6))) : ∀ k i, i + k = 6 → wY_freeDescriptors_4 post (nI p) al L S W O N FL FB PL B (k + 1) (nI (dt_cn (fun d => L (6 * p + d) = -1) i)) (nI i) := by
  intro k
  induction k with
  | zero =>
    intro i hi
    have ei : i = 6 := by omega
    subst ei
    exact br_t (nI_le (a := 6) (by omega) (by omega)) h
  | succ k ih =>
    intro i hi
    have t := ih (i + 1) (by omega)
    have g := dt_ge0 (hL (6 * p + i) (by omega))
    refine br_f (nI_ge (b := 6) (by omega) (by omega)) ⟨dt_vy hp (by omega), ?_⟩
    rw [dt_cy hp (by omega)]
    by_cases e : L (6 * p + i) = -1
    · rw [dt_cn_t (P := fun d => L (6 * p + d) = -1) (n := i) e] at t
      exact br_f (fun h => g.mp h e) (nm_r (nI_1 _) (nm_r (nI_1 i) t))
    · rw [dt_cn_f (P := fun d => L (6 * p + d) = -1) (n := i) e] at t
      exact br_t (g.mpr e) (nm_r (nI_1 i) t)
theorem dt_xC59 {post : Int32 → Prop} {x1 x2 : Int32} (hL : ∀ i, i < 24 → L i = -1 ∨ ∃ o, o < 24 ∧ L i = nI o) (h : post (((100 * x1) + (10 * x2)) + nI (dt_cn (dt_Pi L S W) 24))) : ∀ k i, i + k = 24 → wX_counts_59 post x1 x2 al L N S W O FL FB PL A (k + 1) (nI (dt_cn (dt_Pi L S W) i)) (nI i) := by
  intro k
  induction k with
  | zero =>
    intro i hi
    have ei : i = 24 := by omega
    subst ei
    exact br_t (nI_le (a := 24) (by omega) (by omega)) h
  | succ k ih =>
    intro i hi
    have t := ih (i + 1) (by omega)
    exact br_f (nI_ge (b := 24) (by omega) (by omega)) (dt_xPE hL (fun e => br_f (by decide) (nm_r (nI_1 _) (nm_r (nI_1 i) (by rw [dt_cn_t e] at t; exact t)))) (fun e => br_t rfl (nm_r (nI_1 i) (by rw [dt_cn_f e] at t; exact t))))
theorem dt_xC31 {post : Int32 → Prop} {x1 : Int32} (hL : ∀ i, i < 24 → L i = -1 ∨ ∃ o, o < 24 ∧ L i = nI o) (h : post (((100 * x1) + (10 * nI (dt_cn (dt_Fi L N S W) 28))) + nI (dt_cn (dt_Pi L S W) 24))) : ∀ k i, i + k = 28 → wX_counts_31 post x1 al L N S W O FL FB PL A (k + 1) (nI (dt_cn (dt_Fi L N S W) i)) (nI i) := by
  intro k
  induction k with
  | zero =>
    intro i hi
    have ei : i = 28 := by omega
    subst ei
    exact br_t (nI_le (a := 28) (by omega) (by omega)) ⟨25, dt_xC59 hL h 24 0 rfl⟩
  | succ k ih =>
    intro i hi
    have t := ih (i + 1) (by omega)
    exact br_f (nI_ge (b := 28) (by omega) (by omega)) (dt_xFE hL (fun e => br_f (by decide) (nm_r (nI_1 _) (nm_r (nI_1 i) (by rw [dt_cn_t e] at t; exact t)))) (fun e => br_t rfl (nm_r (nI_1 i) (by rw [dt_cn_f e] at t; exact t))))
theorem dt_xC4 {post : Int32 → Prop} (hL : ∀ i, i < 24 → L i = -1 ∨ ∃ o, o < 24 ∧ L i = nI o) (h : post (((100 * nI (dt_cn (dt_Op L) 24)) + (10 * nI (dt_cn (dt_Fi L N S W) 28))) + nI (dt_cn (dt_Pi L S W) 24))) : ∀ k i, i + k = 24 → wX_counts_4 post al L N S W O FL FB PL A (k + 1) (nI (dt_cn (dt_Op L) i)) (nI i) := by
  intro k
  induction k with
  | zero =>
    intro i hi
    have ei : i = 24 := by omega
    subst ei
    exact br_t (nI_le (a := 24) (by omega) (by omega)) ⟨29, dt_xC31 hL h 28 0 rfl⟩
  | succ k ih =>
    intro i hi
    have t := ih (i + 1) (by omega)
    exact br_f (nI_ge (b := 24) (by omega) (by omega)) (dt_xOE (fun e => br_f (by decide) (nm_r (nI_1 _) (nm_r (nI_1 i) (by rw [dt_cn_t e] at t; exact t)))) (fun e => br_t rfl (nm_r (nI_1 i) (by rw [dt_cn_f e] at t; exact t))))
theorem dt_yC50 {post : Int32 → Prop} {x1 x3 : Int32} (h : post (((100 * x1) + (10 * nI (dt_cn (dt_Fi L N S W) 28))) + x3)) : ∀ k i, i + k = 28 → wY_counts_50 post x1 x3 al L S W O N FL FB PL B (k + 1) (nI (dt_cn (dt_Fi L N S W) i)) (nI i) := by
  intro k
  induction k with
  | zero =>
    intro i hi
    have ei : i = 28 := by omega
    subst ei
    exact br_t (nI_le (a := 28) (by omega) (by omega)) h
  | succ k ih =>
    intro i hi
    have t := ih (i + 1) (by omega)
    exact br_f (nI_ge (b := 28) (by omega) (by omega)) (dt_yFE (fun e => br_f (by decide) (nm_r (nI_1 _) (nm_r (nI_1 i) (by rw [dt_cn_t e] at t; exact t)))) (fun e => br_t rfl (nm_r (nI_1 i) (by rw [dt_cn_f e] at t; exact t))))
theorem dt_yC28 {post : Int32 → Prop} {J : Int32 → Int32 → Int32 → Prop} {x1 x2 : Int32} {i : Nat} (hS : ∀ o, o < 24 → S o = 0 ∨ S o = 1 ∨ S o = 2) (h : J x1 (nI (dt_cn (dt_Pi L S W) (i + 1))) (nI (i + 1))) : wY_counts_28 post J x1 x2 (nI (dt_cn (dt_Pi L S W) i)) (nI i) al L S W O N FL FB PL B := by
  unfold wY_counts_28
  exact dt_yHO3 hS (fun e => br_f (by decide) (nm_r (nI_1 _) (nm_r (nI_1 i) (by rw [dt_cn_t e] at h; exact h)))) (fun e => br_t rfl (nm_r (nI_1 i) (by rw [dt_cn_f e] at h; exact h)))
theorem dt_yC9 {post : Int32 → Prop} (hS : ∀ o, o < 24 → S o = 0 ∨ S o = 1 ∨ S o = 2) (h : post (((100 * nI (dt_cn (dt_Op L) 24)) + (10 * nI (dt_cn (dt_Fi L N S W) 28))) + nI (dt_cn (dt_Pi L S W) 24))) : ∀ k i, i + k = 24 → wY_counts_9 post 0 al L S W O N FL FB PL B (k + 1) (nI (dt_cn (dt_Op L) i)) (nI (dt_cn (dt_Pi L S W) i)) (nI i) := by
  intro k
  induction k with
  | zero =>
    intro i hi
    have ei : i = 24 := by omega
    subst ei
    exact br_t (nI_le (a := 24) (by omega) (by omega)) ⟨29, dt_yC50 h 28 0 rfl⟩
  | succ k ih =>
    intro i hi
    have t := ih (i + 1) (by omega)
    exact br_f (nI_ge (b := 24) (by omega) (by omega)) (dt_yOE (fun e => br_f (by decide) (nm_r (nI_1 _) (dt_yC28 hS (by rw [dt_cn_t e] at t; exact t)))) (fun e => br_t rfl (dt_yC28 hS (by rw [dt_cn_f e] at t; exact t))))
end
end
section
/-! the relation, and the calls that keep to descriptors, processes and names -/
/-- all arrays are the same ones, but the bytes of pipes beyond their sizes -/
def i_Rel (_ : Nat) (u : SX) (v : SY) : Prop := ∃ al L N S W O FL FB PL A B : Nat → Int32, u = (al, L, N, S, W, O, FL, FB, PL, A) ∧ v = (al, L, S, W, O, N, FL, FB, PL, B) ∧ dt_Inv L N S W O FL PL ∧ dt_PB PL A B
theorem i_up {k : Nat} {u : SX} {v : SY} (h : i_Rel k u v) : i_Rel (k + 4) u v := h
theorem dt_mk {al L N S W O FL FB PL A B : Nat → Int32} {k : Nat} (I : dt_Inv L N S W O FL PL) (hB : dt_PB PL A B) : i_Rel k (al, L, N, S, W, O, FL, FB, PL, A) (al, L, S, W, O, N, FL, FB, PL, B) := ⟨al, L, N, S, W, O, FL, FB, PL, A, B, rfl, rfl, I, hB⟩
theorem dt_inv0 : dt_Inv (dt_ex (fun _ => 0) 0 24) (dt_ex (fun _ => 0) 0 4) (fun _ => 0) (fun _ => 0) (fun _ => 0) (fun _ => 0) (fun _ => 0) := by
  have hL : ∀ i, i < 24 → dt_ex (fun _ => 0) 0 24 i = -1 := fun i hi => by
    have h := dt_ex_in (fun _ => 0) 0 24 i hi
    rw [Nat.zero_add] at h; exact h
  have hN : ∀ i, i < 4 → dt_ex (fun _ => 0) 0 4 i = -1 := fun i hi => by
    have h := dt_ex_in (fun _ => 0) 0 4 i hi
    rw [Nat.zero_add] at h; exact h
  refine ⟨fun i hi => Or.inl (hL i hi), fun i hi => Or.inl (hN i hi), fun _ _ => Or.inl rfl, fun _ _ => ⟨0, by omega, rfl, fun h => absurd rfl h⟩, fun _ _ => ⟨0, by omega, rfl⟩, fun _ _ => ⟨0, by omega, rfl⟩, fun _ _ => ⟨0, by omega, rfl⟩, fun i o f hi ho hf e => ?_⟩
  exact absurd (e.symm.trans (hL i hi)) (dt_ne (by omega))
theorem dt_pb0 {A B : Nat → Int32} : dt_PB (fun _ => 0) A B := by
  intro p q i hp hq hi e
  have e2 : nI 0 = nI q := e
  have := dt_inj (by omega) (by omega) e2
  omega
theorem i_vc0 : wpX_init (fun u => wpY_init (fun v => i_Rel 0 u v)) := by
  unfold wpX_init wpY_init
  refine nm_e ⟨25, dt_xI2 ?_ 24 0 rfl⟩
  refine nm_e ⟨25, dt_yI2 ?_ 24 0 rfl⟩
  exact dt_mk dt_inv0 dt_pb0
theorem i_vc_dup {k : Nat} {u : SX} {v : SY} (I : i_Rel k u v) (hk : k + 4 ≤ 2048) (v1 : Int32) (v2 : Int32) : wpX_dup (fun r u' => wpY_dup (fun r' v' => r' = r ∧ i_Rel (k + 4) u' v') v v1 v2) u v1 v2 := by
  obtain ⟨al, L, N, S, W, O, FL, FB, PL, A, B, rfl, rfl, I, hB⟩ := I
  have hL := I.1
  unfold wpX_dup wpY_dup
  dsimp only
  rcases dt_opn al hL v1 v2 with ⟨p, d, o, hp, hd, ho, rfl, rfl, ha, e⟩ | hb
  · refine dt_xOf_t hp hd ha e (br_f (dt_ne (by omega)) ?_)
    rcases dt_leastD L (6 * p) 0 with hm | ⟨c, hc0, hc, ec, hm⟩
    · exact dt_xLF_n (c := 0) hp (by omega) hm (br_t rfl (dt_yFr_t hp hd ho ha e (br_t rfl (dt_yLF_n hL hp hm (br_f (by decide) ⟨rfl, dt_mk I hB⟩)))))
    · have I' : dt_Inv (upd L (6 * p + c) (nI o)) N S W O FL PL := dt_invL I (dt_up2 (j0 := 6 * p + d) (by omega) e)
      refine dt_xLF_s (c := 0) hp hc0 hc ec hm (br_f (dt_ne (by omega)) ⟨dt_vx hp hc, nm_r (e' := upd L (6 * p + c) (nI o)) (by rw [dt_cx hp hc]) ?_⟩)
      exact dt_yFr_t hp hd ho ha e (br_t rfl (dt_yLF_s hL hp hc ec hm (br_t (nI_pos' (by omega)) ⟨dt_vy hp hd, dt_vy hp hc, nm_r (e' := upd L (6 * p + c) (nI o)) (by rw [dt_cy hp hc, dt_cy hp hd, e]) ⟨rfl, dt_mk I' hB⟩⟩)))
  · exact dt_xOf_f hb (br_t rfl (dt_yFr_f hb (br_f (by decide) ⟨rfl, dt_mk I hB⟩)))
theorem i_vc_close {k : Nat} {u : SX} {v : SY} (I : i_Rel k u v) (hk : k + 4 ≤ 2048) (v1 : Int32) (v2 : Int32) : wpX_close (fun r u' => wpY_close (fun r' v' => r' = r ∧ i_Rel (k + 4) u' v') v v1 v2) u v1 v2 := by
  obtain ⟨al, L, N, S, W, O, FL, FB, PL, A, B, rfl, rfl, I, hB⟩ := I
  have hL := I.1
  unfold wpX_close wpY_close
  dsimp only
  rcases dt_opn al hL v1 v2 with ⟨p, d, o, hp, hd, ho, rfl, rfl, ha, e⟩ | hb
  · have I' : dt_Inv (upd L (6 * p + d) (-1)) N S W O FL PL := dt_invL I dt_up1
    refine dt_xOf_t hp hd ha e (br_f (dt_ne (by omega)) ⟨dt_vx hp hd, nm_r (e' := upd L (6 * p + d) (-1)) (by rw [dt_cx hp hd]) ?_⟩)
    exact dt_yFr_t hp hd ho ha e (br_t rfl ⟨dt_vy hp hd, nm_r (e' := upd L (6 * p + d) (-1)) (by rw [dt_cy hp hd]) ⟨rfl, dt_mk I' hB⟩⟩)
  · exact dt_xOf_f hb (br_t rfl (dt_yFr_f hb (br_f (by decide) ⟨rfl, dt_mk I hB⟩)))
theorem i_vc_fork {k : Nat} {u : SX} {v : SY} (I : i_Rel k u v) (hk : k + 4 ≤ 2048) (v1 : Int32) : wpX_fork (fun r u' => wpY_fork (fun r' v' => r' = r ∧ i_Rel (k + 4) u' v') v v1) u v1 := by
  obtain ⟨al, L, N, S, W, O, FL, FB, PL, A, B, rfl, rfl, I, hB⟩ := I
  unfold wpX_fork wpY_fork
  dsimp only
  rcases dt_alv al v1 with ⟨p, hp, rfl, ha⟩ | ha
  · refine dt_xAl_t hp ha (br_f (by decide) ?_)
    refine ⟨5, dt_xLN_l 4 0 rfl (fun c h1 h2 h3 h4 => ?_) (fun hn => ?_)⟩
    · have I' : dt_Inv (dt_fk L (6 * c) (6 * p) 6) N S W O FL PL := dt_invL I fun i hi => Or.inr (dt_fk_or L (6 * c) (6 * p) (by omega) 6 (by omega) i hi)
      have cc : (nI c).toNatClampNeg = c := nI_clamp (by omega)
      refine br_f (dt_ne (by omega)) ⟨vp_in_nI h2 (by omega), nm_r (e' := upd al c (vp_nar .boolean 1)) (by rw [cc]) ⟨7, dt_xFk hp h2 ?_ 6 0 rfl⟩⟩
      refine dt_yAl_t hp ha (br_t rfl ⟨5, dt_yF12 hp 4 0 rfl (fun c' h1' h2' h3' h4' => ?_) (fun hn => absurd h3 (hn c h1 h2))⟩)
      have h5 : ¬ c' < c := fun hlt => h4 c' h1' hlt h3'
      have h6 : ¬ c < c' := fun hlt => h4' c h1 hlt h3
      have h7 : c' = c := by omega
      subst h7
      exact ⟨rfl, dt_mk I' hB⟩
    · refine br_t rfl (dt_yAl_t hp ha (br_t rfl ⟨5, dt_yF12 hp 4 0 rfl (fun c' h1' h2' h3' h4' => absurd h3' (hn c' h1' h2')) (fun _ => ⟨rfl, dt_mk I hB⟩)⟩))
  · exact dt_xAl_f ha (br_t rfl (dt_yAl_f ha (br_f (by decide) ⟨rfl, dt_mk I hB⟩)))
theorem i_vc_exit {k : Nat} {u : SX} {v : SY} (I : i_Rel k u v) (hk : k + 4 ≤ 2048) (v1 : Int32) : wpX_exit (fun r u' => wpY_exit (fun r' v' => r' = r ∧ i_Rel (k + 4) u' v') v v1) u v1 := by
  obtain ⟨al, L, N, S, W, O, FL, FB, PL, A, B, rfl, rfl, I, hB⟩ := I
  unfold wpX_exit wpY_exit
  dsimp only
  rcases dt_alv al v1 with ⟨p, hp, rfl, ha⟩ | ha
  · have cr := (dt_cn_rm (fun j => ¬ al j = 0) p ha 4).2 hp
    have le := dt_cn_le (fun j => ¬ al j = 0) 4
    have cp : (nI p).toNatClampNeg = p := nI_clamp (by omega)
    refine dt_xAl_t hp ha (br_f (by decide) ⟨5, dt_xNA_l ?_ 4 0 rfl⟩)
    by_cases h1 : dt_cn (fun j => ¬ al j = 0) 4 = 1
    · refine br_t (by rw [h1]; rfl) (dt_yAl_t hp ha (br_t rfl ⟨5, dt_yE14 hp (fun _ => ⟨rfl, dt_mk I hB⟩) (fun h => ?_) 4 0 rfl⟩))
      exact absurd h (by omega)
    · have I' : dt_Inv (dt_ex L (6 * p) 6) N S W O FL PL := dt_invL I fun i hi => (dt_ex_or L (6 * p) 6 i).elim Or.inl (fun h => Or.inr ⟨i, hi, h⟩)
      refine br_f (fun h => h1 (dt_inj (b := 1) (by omega) (by omega) h)) ⟨vp_in_nI hp (by omega), nm_r (e' := upd al p (vp_nar .boolean 0)) (by rw [cp]) ⟨7, dt_xEx hp ?_ 6 0 rfl⟩⟩
      refine dt_yAl_t hp ha (br_t rfl ⟨5, dt_yE14 hp (fun h => ?_) (fun _ => ⟨rfl, dt_mk I' hB⟩) 4 0 rfl⟩)
      exact absurd h (by omega)
  · exact dt_xAl_f ha (br_t rfl (dt_yAl_f ha (br_f (by decide) ⟨rfl, dt_mk I hB⟩)))
theorem i_vc_link {k : Nat} {u : SX} {v : SY} (I : i_Rel k u v) (hk : k + 4 ≤ 2048) (v1 : Int32) (v2 : Int32) : wpX_link (fun r u' => wpY_link (fun r' v' => r' = r ∧ i_Rel (k + 4) u' v') v v1 v2) u v1 v2 := by
  obtain ⟨al, L, N, S, W, O, FL, FB, PL, A, B, rfl, rfl, I, hB⟩ := I
  have hN := I.2.1
  unfold wpX_link wpY_link
  dsimp only
  rcases dt_nam v1 with ⟨n, hn, rfl⟩ | hn
  · rcases dt_nam v2 with ⟨m, hm, rfl⟩ | hm
    · have cn : (nI n).toNatClampNeg = n := nI_clamp (by omega)
      have cm : (nI m).toNatClampNeg = m := nI_clamp (by omega)
      have vn : vp_in (nI n) 4 := vp_in_nI hn (by omega)
      have vm : vp_in (nI m) 4 := vp_in_nI hm (by omega)
      rw [cn, cm]
      refine dt_xNa_t hn (br_f (by decide) (dt_xNa_t hm (br_f (by decide) ⟨vn, ?_⟩)))
      rcases hN n hn with e | ⟨f, hf, e⟩
      · exact br_t e (dt_yNa_t hn (br_t rfl (dt_yNa_t hm (br_t rfl ⟨vn, br_t (by rw [e]; decide) ⟨rfl, dt_mk I hB⟩⟩))))
      · have e1 : ¬ N n = -1 := by rw [e]; exact dt_ne (by omega)
        have e2 : ¬ N n < 0 := by rw [e]; exact nI_pos (by omega)
        rcases hN m hm with g | ⟨f', hf', g⟩
        · have I' : dt_Inv L (upd N m (N n)) S W O FL PL := dt_invN I (dt_up2 hn rfl)
          exact br_f e1 ⟨vm, br_t g ⟨vn, vm, nm_e (dt_yNa_t hn (br_t rfl (dt_yNa_t hm (br_t rfl ⟨vn, br_f e2 ⟨vm, br_t (by rw [g]; decide) ⟨vn, vm, nm_e ⟨rfl, dt_mk I' hB⟩⟩⟩⟩))))⟩⟩
        · exact br_f e1 ⟨vm, br_f (by rw [g]; exact dt_ne (by omega)) (dt_yNa_t hn (br_t rfl (dt_yNa_t hm (br_t rfl ⟨vn, br_f e2 ⟨vm, br_f (by rw [g]; exact nI_pos (by omega)) ⟨rfl, dt_mk I hB⟩⟩⟩))))⟩
    · exact dt_xNa_t hn (br_f (by decide) (dt_xNa_f hm (br_t rfl (dt_yNa_t hn (br_t rfl (dt_yNa_f hm (br_f (by decide) ⟨rfl, dt_mk I hB⟩)))))))
  · exact dt_xNa_f hn (br_t rfl (dt_yNa_f hn (br_f (by decide) ⟨rfl, dt_mk I hB⟩)))
theorem i_vc_unlink {k : Nat} {u : SX} {v : SY} (I : i_Rel k u v) (hk : k + 4 ≤ 2048) (v1 : Int32) : wpX_unlink (fun r u' => wpY_unlink (fun r' v' => r' = r ∧ i_Rel (k + 4) u' v') v v1) u v1 := by
  obtain ⟨al, L, N, S, W, O, FL, FB, PL, A, B, rfl, rfl, I, hB⟩ := I
  have hN := I.2.1
  unfold wpX_unlink wpY_unlink
  dsimp only
  rcases dt_nam v1 with ⟨n, hn, rfl⟩ | hn
  · have cn : (nI n).toNatClampNeg = n := nI_clamp (by omega)
    have vn : vp_in (nI n) 4 := vp_in_nI hn (by omega)
    rw [cn]
    refine dt_xNa_t hn (br_f (by decide) ⟨vn, ?_⟩)
    rcases hN n hn with e | ⟨f, hf, e⟩
    · exact br_t e (dt_yNa_t hn (br_t rfl ⟨vn, br_f (by rw [e]; decide) ⟨rfl, dt_mk I hB⟩⟩))
    · have I' : dt_Inv L (upd N n (-1)) S W O FL PL := dt_invN I dt_up1
      exact br_f (by rw [e]; exact dt_ne (by omega)) ⟨vn, nm_e (dt_yNa_t hn (br_t rfl ⟨vn, br_t (by rw [e]; exact nI_pos' (by omega)) ⟨vn, nm_e ⟨rfl, dt_mk I' hB⟩⟩⟩))⟩
  · exact dt_xNa_f hn (br_t rfl (dt_yNa_f hn (br_f (by decide) ⟨rfl, dt_mk I hB⟩)))
theorem i_vc_counts {k : Nat} {u : SX} {v : SY} (I : i_Rel k u v) (hk : k + 4 ≤ 2048) : wpX_counts (fun r => wpY_counts (fun r' => r' = r ∧ i_Rel (k + 4) u v) v) u := by
  obtain ⟨al, L, N, S, W, O, FL, FB, PL, A, B, rfl, rfl, I, hB⟩ := I
  unfold wpX_counts wpY_counts
  dsimp only
  exact ⟨25, dt_xC4 I.1 ⟨25, dt_yC9 I.2.2.1 ⟨rfl, dt_mk I hB⟩ 24 0 rfl⟩ 24 0 rfl⟩
end
section
/-! bytes: what the component's and the reference's write, read and seek do, case by case -/
section
variable {al L N S W O FL FB PL A B : Nat → Int32} {p d o w q r : Nat} {x : Int32}
theorem dt_wx6 (hw : w < 24) (hq : q < 6) : (nI w * 6 + nI q).toNatClampNeg = 6 * w + q ∧ vp_in (nI w * 6 + nI q) 144 := by
  rw [dt_x6]; exact ⟨nI_clamp (by omega), vp_in_nI (by omega) (by omega)⟩
theorem dt_wy6 (hw : w < 24) (hq : q < 6) : (6 * nI w + nI q).toNatClampNeg = 6 * w + q ∧ vp_in (6 * nI w + nI q) 144 := by
  rw [dt_y6]; exact ⟨nI_clamp (by omega), vp_in_nI (by omega) (by omega)⟩
theorem dt_wx8 (hw : w < 28) (hq : q < 8) : (nI w * 8 + nI q).toNatClampNeg = 8 * w + q ∧ vp_in (nI w * 8 + nI q) 224 := by
  rw [dt_x8]; exact ⟨nI_clamp (by omega), vp_in_nI (by omega) (by omega)⟩
theorem dt_wy8 (hw : w < 28) (hq : q < 8) : (8 * nI w + nI q).toNatClampNeg = 8 * w + q ∧ vp_in (8 * nI w + nI q) 224 := by
  rw [dt_y8]; exact ⟨nI_clamp (by omega), vp_in_nI (by omega) (by omega)⟩
theorem dt_xWPb {post : Int32 → SX → Prop} (hL : ∀ i, i < 24 → L i = -1 ∨ ∃ o, o < 24 ∧ L i = nI o) (hh : ¬ dt_Has L S W 1 (nI w)) (h : post (-3) (al, L, N, S, W, O, FL, FB, PL, A)) : wpX_writeToPipe post (al, L, N, S, W, O, FL, FB, PL, A) (nI w) x := by
  unfold wpX_writeToPipe
  dsimp only
  exact dt_xIO hL (fun h2 => absurd h2 hh) (fun _ => br_t rfl h)
theorem dt_xWPw {post : Int32 → SX → Prop} (hL : ∀ i, i < 24 → L i = -1 ∨ ∃ o, o < 24 ∧ L i = nI o) (hh : dt_Has L S W 1 (nI w)) (hw : w < 24) (e : PL w = nI 6) (h : post (-4) (al, L, N, S, W, O, FL, FB, PL, A)) : wpX_writeToPipe post (al, L, N, S, W, O, FL, FB, PL, A) (nI w) x := by
  have c : (nI w).toNatClampNeg = w := nI_clamp (by omega)
  unfold wpX_writeToPipe
  dsimp only
  rw [c]
  exact dt_xIO hL (fun _ => br_f (by decide) ⟨vp_in_nI hw (by omega), nm_r e (br_f (by decide) h)⟩) (fun h2 => absurd hh h2)
theorem dt_xWPk {post : Int32 → SX → Prop} (hL : ∀ i, i < 24 → L i = -1 ∨ ∃ o, o < 24 ∧ L i = nI o) (hh : dt_Has L S W 1 (nI w)) (hw : w < 24) (hq : q < 6) (e : PL w = nI q) (h : post 0 (al, L, N, S, W, O, FL, FB, upd PL w (nI (q + 1)), upd A (6 * w + q) x)) : wpX_writeToPipe post (al, L, N, S, W, O, FL, FB, PL, A) (nI w) x := by
  have c : (nI w).toNatClampNeg = w := nI_clamp (by omega)
  have v : vp_in (nI w) 24 := vp_in_nI hw (by omega)
  have b := dt_wx6 hw hq
  unfold wpX_writeToPipe
  dsimp only
  rw [c]
  exact dt_xIO hL (fun _ => br_f (by decide) ⟨v, nm_r e (br_t (nI_lt (b := 6) hq (by omega)) ⟨b.2, nm_r (e' := upd A (6 * w + q) x) (by rw [b.1]) ⟨v, nm_r (e' := upd PL w (nI (q + 1))) (by rw [nI_1]) h⟩⟩)⟩) (fun h2 => absurd hh h2)
theorem dt_xWFn {post : Int32 → SX → Prop} (ho : o < 24) (hq : O o = nI 8) (h : post (-2) (al, L, N, S, W, O, FL, FB, PL, A)) : wpX_writeToFile post (al, L, N, S, W, O, FL, FB, PL, A) (nI o) x := by
  have c : (nI o).toNatClampNeg = o := nI_clamp (by omega)
  have v : vp_in (nI o) 24 := vp_in_nI ho (by omega)
  unfold wpX_writeToFile
  dsimp only
  rw [c]
  exact ⟨v, nm_e ⟨v, nm_r hq (br_f (by decide) h)⟩⟩
theorem dt_xWFe {post : Int32 → SX → Prop} (ho : o < 24) (hw : w < 28) (hq : q < 8) (eW : W o = nI w) (eO : O o = nI q) (eF : FL w = nI q) (h : post 0 (al, L, N, S, W, upd O o (nI (q + 1)), upd FL w (nI (q + 1)), upd FB (8 * w + q) x, PL, A)) : wpX_writeToFile post (al, L, N, S, W, O, FL, FB, PL, A) (nI o) x := by
  have c : (nI o).toNatClampNeg = o := nI_clamp (by omega)
  have cw : (nI w).toNatClampNeg = w := nI_clamp (by omega)
  have v : vp_in (nI o) 24 := vp_in_nI ho (by omega)
  have vw : vp_in (nI w) 28 := vp_in_nI hw (by omega)
  have b := dt_wx8 hw hq
  unfold wpX_writeToFile
  dsimp only
  rw [c]
  refine ⟨v, nm_r eW ⟨v, nm_r eO (br_t (nI_lt (b := 8) hq (by omega)) ⟨b.2, nm_r (e' := upd FB (8 * w + q) x) (by rw [b.1]) ⟨vw, ?_⟩⟩)⟩⟩
  rw [cw]
  refine br_t eF.symm ⟨vw, nm_r (e' := upd FL w (nI (q + 1))) (by rw [nI_1]) ?_⟩
  exact ⟨v, nm_r (e' := upd O o (nI (q + 1))) (by rw [c, nI_1]) h⟩
theorem dt_xWFk {post : Int32 → SX → Prop} (ho : o < 24) (hw : w < 28) (hq : q < 8) (eW : W o = nI w) (eO : O o = nI q) (eF : ¬ nI q = FL w) (h : post 0 (al, L, N, S, W, upd O o (nI (q + 1)), FL, upd FB (8 * w + q) x, PL, A)) : wpX_writeToFile post (al, L, N, S, W, O, FL, FB, PL, A) (nI o) x := by
  have c : (nI o).toNatClampNeg = o := nI_clamp (by omega)
  have cw : (nI w).toNatClampNeg = w := nI_clamp (by omega)
  have v : vp_in (nI o) 24 := vp_in_nI ho (by omega)
  have vw : vp_in (nI w) 28 := vp_in_nI hw (by omega)
  have b := dt_wx8 hw hq
  unfold wpX_writeToFile
  dsimp only
  rw [c]
  refine ⟨v, nm_r eW ⟨v, nm_r eO (br_t (nI_lt (b := 8) hq (by omega)) ⟨b.2, nm_r (e' := upd FB (8 * w + q) x) (by rw [b.1]) ⟨vw, ?_⟩⟩)⟩⟩
  rw [cw]
  refine br_f eF ?_
  exact ⟨v, nm_r (e' := upd O o (nI (q + 1))) (by rw [c, nI_1]) h⟩
theorem dt_xR41 {post : Int32 → SX → Prop} (hw : w < 24) (h : post x (al, L, N, S, W, O, FL, FB, upd PL w (PL w - 1), dt_sh A (6 * w) 5)) : ∀ k i, i + k = 5 → wX_readFromPipe_41 post (nI w) (nI (6 * w)) x (k + 1) (nI (i + 1)) al L N S W O FL FB PL (dt_sh A (6 * w) i) := by
  have c : (nI w).toNatClampNeg = w := nI_clamp (by omega)
  have v : vp_in (nI w) 24 := vp_in_nI hw (by omega)
  intro k
  induction k with
  | zero =>
    intro i hi
    have ei : i = 5 := by omega
    subst ei
    exact br_t (nI_le (a := 6) (by omega) (by omega)) ⟨v, v, nm_r (e' := upd PL w (PL w - 1)) (by rw [c]) h⟩
  | succ k ih =>
    intro i hi
    have e1 : nI (6 * w) + nI (i + 1) = nI (6 * w + i + 1) := nI_add _ _
    have e2 : nI (6 * w) + nI (i + 1) - 1 = nI (6 * w + i) := by rw [e1]; exact nI_pred _
    have c1 : (nI (6 * w + i + 1)).toNatClampNeg = 6 * w + i + 1 := nI_clamp (by omega)
    have c2 : (nI (6 * w + i)).toNatClampNeg = 6 * w + i := nI_clamp (by omega)
    exact br_f (nI_ge (b := 6) (by omega) (by omega)) ⟨by rw [e1]; exact vp_in_nI (by omega) (by omega), by rw [e2]; exact vp_in_nI (by omega) (by omega), nm_r (e' := dt_sh A (6 * w) (i + 1)) (by rw [e2, e1, c1, c2]; rfl) (nm_r (nI_1 (i + 1)) (ih (i + 1) (by omega)))⟩
theorem dt_xRP0 {post : Int32 → SX → Prop} (hL : ∀ i, i < 24 → L i = -1 ∨ ∃ o, o < 24 ∧ L i = nI o) (hw : w < 24) (e : PL w = 0) (hy : dt_Has L S W 2 (nI w) → post (-4) (al, L, N, S, W, O, FL, FB, PL, A)) (hn : ¬ dt_Has L S W 2 (nI w) → post (-5) (al, L, N, S, W, O, FL, FB, PL, A)) : wpX_readFromPipe post (al, L, N, S, W, O, FL, FB, PL, A) (nI w) := by
  have c : (nI w).toNatClampNeg = w := nI_clamp (by omega)
  have v : vp_in (nI w) 24 := vp_in_nI hw (by omega)
  unfold wpX_readFromPipe
  dsimp only
  rw [c]
  exact ⟨v, br_t e (dt_xIO hL (fun h => br_f (by decide) (hy h)) (fun h => br_t rfl (hn h)))⟩
theorem dt_xRPk {post : Int32 → SX → Prop} (hw : w < 24) (hq : q < 6) (e : PL w = nI (q + 1)) (h : post (A (6 * w)) (al, L, N, S, W, O, FL, FB, upd PL w (nI q), dt_sh A (6 * w) 5)) : wpX_readFromPipe post (al, L, N, S, W, O, FL, FB, PL, A) (nI w) := by
  have c : (nI w).toNatClampNeg = w := nI_clamp (by omega)
  have v : vp_in (nI w) 24 := vp_in_nI hw (by omega)
  have e6 : nI w * 6 = nI (6 * w) := by
    have t : nI w * nI 6 = nI (6 * w) := by rw [pk_mul, Nat.mul_comm]
    exact t
  have c6 : (nI (6 * w)).toNatClampNeg = 6 * w := nI_clamp (by omega)
  have ep : PL w - 1 = nI q := by rw [e]; exact nI_pred q
  rw [← ep] at h
  unfold wpX_readFromPipe
  dsimp only
  rw [c]
  exact ⟨v, br_f (by rw [e]; exact nI_ne0 (by omega) (by omega)) (nm_r e6 ⟨vp_in_nI (by omega) (by omega), nm_r (e' := A (6 * w)) (by rw [c6]) ⟨6, dt_xR41 hw h 5 0 rfl⟩⟩)⟩
theorem dt_xRFe {post : Int32 → SX → Prop} (ho : o < 24) (hw : w < 28) (hq : q ≤ 8) (eW : W o = nI w) (eO : O o = nI q) (eF : FL w = nI q) (h : post (-5) (al, L, N, S, W, O, FL, FB, PL, A)) : wpX_readFromFile post (al, L, N, S, W, O, FL, FB, PL, A) (nI o) := by
  have c : (nI o).toNatClampNeg = o := nI_clamp (by omega)
  have cw : (nI w).toNatClampNeg = w := nI_clamp (by omega)
  have v : vp_in (nI o) 24 := vp_in_nI ho (by omega)
  have vw : vp_in (nI w) 28 := vp_in_nI hw (by omega)
  unfold wpX_readFromFile
  dsimp only
  rw [c]
  refine ⟨v, nm_r eW ⟨v, nm_r eO ⟨vw, ?_⟩⟩⟩
  rw [cw]
  exact br_f (by rw [eF]; exact nI_nlt (by omega) (by omega)) h
theorem dt_xRFk {post : Int32 → SX → Prop} (ho : o < 24) (hw : w < 28) (hqr : q < r) (hr : r ≤ 8) (eW : W o = nI w) (eO : O o = nI q) (eF : FL w = nI r) (h : post (FB (8 * w + q)) (al, L, N, S, W, upd O o (nI (q + 1)), FL, FB, PL, A)) : wpX_readFromFile post (al, L, N, S, W, O, FL, FB, PL, A) (nI o) := by
  have c : (nI o).toNatClampNeg = o := nI_clamp (by omega)
  have cw : (nI w).toNatClampNeg = w := nI_clamp (by omega)
  have v : vp_in (nI o) 24 := vp_in_nI ho (by omega)
  have vw : vp_in (nI w) 28 := vp_in_nI hw (by omega)
  have b := dt_wx8 (w := w) (q := q) hw (by omega)
  unfold wpX_readFromFile
  dsimp only
  rw [c]
  refine ⟨v, nm_r eW ⟨v, nm_r eO ⟨vw, ?_⟩⟩⟩
  rw [cw]
  refine br_t (by rw [eF]; exact nI_lt hqr (by omega)) ⟨v, nm_r (e' := upd O o (nI (q + 1))) (by rw [nI_1]) ⟨b.2, ?_⟩⟩
  rw [b.1]
  exact h
/-- the reference's shift -/
theorem dt_yR107 {post : Int32 → SY → Prop} (hw : w < 24) (hq : q < 6) (e : PL w = nI q) (h : post x (al, L, S, W, O, N, FL, FB, PL, dt_sh B (6 * w) q)) : ∀ k i, i + k = q → wY_read_107 post (nI w) x (k + 1) (nI i) al L S W O N FL FB PL (dt_sh B (6 * w) i) := by
  have c : (nI w).toNatClampNeg = w := nI_clamp (by omega)
  have v : vp_in (nI w) 24 := vp_in_nI hw (by omega)
  intro k
  induction k with
  | zero =>
    intro i hi
    have ei : i = q := by omega
    subst ei
    exact ⟨v, br_t (by rw [c, e]; exact nI_le (by omega) (by omega)) h⟩
  | succ k ih =>
    intro i hi
    have b := dt_wy6 (w := w) (q := i) hw (by omega)
    have e1 : 6 * nI w + nI i + 1 = nI (6 * w + i + 1) := by rw [dt_y6]; exact nI_1 _
    have c1 : (nI (6 * w + i + 1)).toNatClampNeg = 6 * w + i + 1 := nI_clamp (by omega)
    exact ⟨v, br_f (by rw [c, e]; exact nI_ge (by omega) (by omega)) ⟨by rw [e1]; exact vp_in_nI (by omega) (by omega), b.2, nm_r (e' := dt_sh B (6 * w) (i + 1)) (by rw [e1, c1, b.1]; rfl) (nm_r (nI_1 i) (ih (i + 1) (by omega)))⟩⟩
end
end
section
/-! write, read and seek at their outer names, a theorem a case and side -/
section
variable {al L N S W O FL FB PL A B : Nat → Int32} {p d o w q r : Nat} {x : Int32}
theorem dt_xW1 {post : Int32 → SX → Prop} (hp : p < 4) (hd : d < 6) (ho : o < 24) (ha : ¬ al p = 0) (e : L (6 * p + d) = nI o) (hs : S o = 1) (h : post (-1) (al, L, N, S, W, O, FL, FB, PL, A)) : wpX_write post (al, L, N, S, W, O, FL, FB, PL, A) (nI p) (nI d) x := by
  have co : (nI o).toNatClampNeg = o := nI_clamp (by omega)
  have vo : vp_in (nI o) 24 := vp_in_nI ho (by omega)
  unfold wpX_write
  dsimp only
  refine dt_xOf_t hp hd ha e (br_f (dt_ne (by omega)) ⟨vo, ?_⟩)
  rw [co]
  exact br_t hs h
theorem dt_xW2b {post : Int32 → SX → Prop} (hL : ∀ i, i < 24 → L i = -1 ∨ ∃ o, o < 24 ∧ L i = nI o) (hp : p < 4) (hd : d < 6) (ho : o < 24) (ha : ¬ al p = 0) (e : L (6 * p + d) = nI o) (hw : w < 24) (eW : W o = nI w) (hs : S o = 2) (hh : ¬ dt_Has L S W 1 (nI w)) (h : post (-3) (al, L, N, S, W, O, FL, FB, PL, A)) : wpX_write post (al, L, N, S, W, O, FL, FB, PL, A) (nI p) (nI d) x := by
  have co : (nI o).toNatClampNeg = o := nI_clamp (by omega)
  have vo : vp_in (nI o) 24 := vp_in_nI ho (by omega)
  unfold wpX_write
  dsimp only
  refine dt_xOf_t hp hd ha e (br_f (dt_ne (by omega)) ⟨vo, ?_⟩)
  rw [co]
  rw [eW]
  exact br_f (by rw [hs]; decide) ⟨vo, br_t hs ⟨vo, dt_xWPb hL hh h⟩⟩
theorem dt_xW2w {post : Int32 → SX → Prop} (hL : ∀ i, i < 24 → L i = -1 ∨ ∃ o, o < 24 ∧ L i = nI o) (hp : p < 4) (hd : d < 6) (ho : o < 24) (ha : ¬ al p = 0) (e : L (6 * p + d) = nI o) (hw : w < 24) (eW : W o = nI w) (hs : S o = 2) (hh : dt_Has L S W 1 (nI w)) (eP : PL w = nI 6) (h : post (-4) (al, L, N, S, W, O, FL, FB, PL, A)) : wpX_write post (al, L, N, S, W, O, FL, FB, PL, A) (nI p) (nI d) x := by
  have co : (nI o).toNatClampNeg = o := nI_clamp (by omega)
  have vo : vp_in (nI o) 24 := vp_in_nI ho (by omega)
  unfold wpX_write
  dsimp only
  refine dt_xOf_t hp hd ha e (br_f (dt_ne (by omega)) ⟨vo, ?_⟩)
  rw [co]
  rw [eW]
  exact br_f (by rw [hs]; decide) ⟨vo, br_t hs ⟨vo, dt_xWPw hL hh hw eP h⟩⟩
theorem dt_xW2k {post : Int32 → SX → Prop} (hL : ∀ i, i < 24 → L i = -1 ∨ ∃ o, o < 24 ∧ L i = nI o) (hp : p < 4) (hd : d < 6) (ho : o < 24) (ha : ¬ al p = 0) (e : L (6 * p + d) = nI o) (hw : w < 24) (eW : W o = nI w) (hs : S o = 2) (hh : dt_Has L S W 1 (nI w)) (hq : q < 6) (eP : PL w = nI q) (h : post 0 (al, L, N, S, W, O, FL, FB, upd PL w (nI (q + 1)), upd A (6 * w + q) (x &&& 255))) : wpX_write post (al, L, N, S, W, O, FL, FB, PL, A) (nI p) (nI d) x := by
  have co : (nI o).toNatClampNeg = o := nI_clamp (by omega)
  have vo : vp_in (nI o) 24 := vp_in_nI ho (by omega)
  unfold wpX_write
  dsimp only
  refine dt_xOf_t hp hd ha e (br_f (dt_ne (by omega)) ⟨vo, ?_⟩)
  rw [co]
  rw [eW]
  exact br_f (by rw [hs]; decide) ⟨vo, br_t hs ⟨vo, dt_xWPk hL hh hw hq eP h⟩⟩
theorem dt_xW0n {post : Int32 → SX → Prop} (hp : p < 4) (hd : d < 6) (ho : o < 24) (ha : ¬ al p = 0) (e : L (6 * p + d) = nI o) (hs : S o = 0) (eO : O o = nI 8) (h : post (-2) (al, L, N, S, W, O, FL, FB, PL, A)) : wpX_write post (al, L, N, S, W, O, FL, FB, PL, A) (nI p) (nI d) x := by
  have co : (nI o).toNatClampNeg = o := nI_clamp (by omega)
  have vo : vp_in (nI o) 24 := vp_in_nI ho (by omega)
  unfold wpX_write
  dsimp only
  refine dt_xOf_t hp hd ha e (br_f (dt_ne (by omega)) ⟨vo, ?_⟩)
  rw [co]
  exact br_f (by rw [hs]; decide) ⟨vo, br_f (by rw [hs]; decide) (dt_xWFn ho eO h)⟩
theorem dt_xW0e {post : Int32 → SX → Prop} (hp : p < 4) (hd : d < 6) (ho : o < 24) (ha : ¬ al p = 0) (e : L (6 * p + d) = nI o) (hw : w < 28) (eW : W o = nI w) (hs : S o = 0) (hq : q < 8) (eO : O o = nI q) (eF : FL w = nI q) (h : post 0 (al, L, N, S, W, upd O o (nI (q + 1)), upd FL w (nI (q + 1)), upd FB (8 * w + q) (x &&& 255), PL, A)) : wpX_write post (al, L, N, S, W, O, FL, FB, PL, A) (nI p) (nI d) x := by
  have co : (nI o).toNatClampNeg = o := nI_clamp (by omega)
  have vo : vp_in (nI o) 24 := vp_in_nI ho (by omega)
  unfold wpX_write
  dsimp only
  refine dt_xOf_t hp hd ha e (br_f (dt_ne (by omega)) ⟨vo, ?_⟩)
  rw [co]
  exact br_f (by rw [hs]; decide) ⟨vo, br_f (by rw [hs]; decide) (dt_xWFe ho hw hq eW eO eF h)⟩
theorem dt_xW0k {post : Int32 → SX → Prop} (hp : p < 4) (hd : d < 6) (ho : o < 24) (ha : ¬ al p = 0) (e : L (6 * p + d) = nI o) (hw : w < 28) (eW : W o = nI w) (hs : S o = 0) (hq : q < 8) (eO : O o = nI q) (eF : ¬ nI q = FL w) (h : post 0 (al, L, N, S, W, upd O o (nI (q + 1)), FL, upd FB (8 * w + q) (x &&& 255), PL, A)) : wpX_write post (al, L, N, S, W, O, FL, FB, PL, A) (nI p) (nI d) x := by
  have co : (nI o).toNatClampNeg = o := nI_clamp (by omega)
  have vo : vp_in (nI o) 24 := vp_in_nI ho (by omega)
  unfold wpX_write
  dsimp only
  refine dt_xOf_t hp hd ha e (br_f (dt_ne (by omega)) ⟨vo, ?_⟩)
  rw [co]
  exact br_f (by rw [hs]; decide) ⟨vo, br_f (by rw [hs]; decide) (dt_xWFk ho hw hq eW eO eF h)⟩
theorem dt_yW1 {post : Int32 → SY → Prop} (hp : p < 4) (hd : d < 6) (ho : o < 24) (ha : ¬ al p = 0) (e : L (6 * p + d) = nI o) (hw : w < 28) (eW : W o = nI w) (hs : S o = 1) (h : post (-1) (al, L, S, W, O, N, FL, FB, PL, B)) : wpY_write post (al, L, S, W, O, N, FL, FB, PL, B) (nI p) (nI d) x := by
  have co : (nI o).toNatClampNeg = o := nI_clamp (by omega)
  have vo : vp_in (nI o) 24 := vp_in_nI ho (by omega)
  have cw : (nI w).toNatClampNeg = w := nI_clamp (by omega)
  unfold wpY_write
  dsimp only
  refine dt_yFr_t hp hd ho ha e (br_t rfl ⟨dt_vy hp hd, nm_r (e' := nI o) (by rw [dt_cy hp hd]; exact e) ⟨vo, nm_r (e' := nI w) (by rw [co]; exact eW) ⟨vo, ?_⟩⟩⟩)
  rw [co]
  exact br_t hs h
theorem dt_yW2b {post : Int32 → SY → Prop} (hp : p < 4) (hd : d < 6) (ho : o < 24) (ha : ¬ al p = 0) (e : L (6 * p + d) = nI o) (hw : w < 24) (eW : W o = nI w) (hs : S o = 2) (hh : ¬ dt_Has L S W 1 (nI w)) (h : post (-3) (al, L, S, W, O, N, FL, FB, PL, B)) : wpY_write post (al, L, S, W, O, N, FL, FB, PL, B) (nI p) (nI d) x := by
  have co : (nI o).toNatClampNeg = o := nI_clamp (by omega)
  have vo : vp_in (nI o) 24 := vp_in_nI ho (by omega)
  have cw : (nI w).toNatClampNeg = w := nI_clamp (by omega)
  unfold wpY_write
  dsimp only
  refine dt_yFr_t hp hd ho ha e (br_t rfl ⟨dt_vy hp hd, nm_r (e' := nI o) (by rw [dt_cy hp hd]; exact e) ⟨vo, nm_r (e' := nI w) (by rw [co]; exact eW) ⟨vo, ?_⟩⟩⟩)
  rw [co]
  exact br_f (by rw [hs]; decide) ⟨vo, br_t hs (dt_yHO (by decide) (fun h2 => absurd h2 hh) (fun _ => br_t rfl h))⟩
theorem dt_yW2w {post : Int32 → SY → Prop} (hp : p < 4) (hd : d < 6) (ho : o < 24) (ha : ¬ al p = 0) (e : L (6 * p + d) = nI o) (hw : w < 24) (eW : W o = nI w) (hs : S o = 2) (hh : dt_Has L S W 1 (nI w)) (eP : PL w = nI 6) (h : post (-4) (al, L, S, W, O, N, FL, FB, PL, B)) : wpY_write post (al, L, S, W, O, N, FL, FB, PL, B) (nI p) (nI d) x := by
  have co : (nI o).toNatClampNeg = o := nI_clamp (by omega)
  have vo : vp_in (nI o) 24 := vp_in_nI ho (by omega)
  have cw : (nI w).toNatClampNeg = w := nI_clamp (by omega)
  unfold wpY_write
  dsimp only
  refine dt_yFr_t hp hd ho ha e (br_t rfl ⟨dt_vy hp hd, nm_r (e' := nI o) (by rw [dt_cy hp hd]; exact e) ⟨vo, nm_r (e' := nI w) (by rw [co]; exact eW) ⟨vo, ?_⟩⟩⟩)
  rw [co]
  have vw : vp_in (nI w) 24 := vp_in_nI hw (by omega)
  rw [cw]
  exact br_f (by rw [hs]; decide) ⟨vo, br_t hs (dt_yHO (by decide) (fun _ => br_f (by decide) ⟨vw, br_t eP h⟩) (fun h2 => absurd hh h2))⟩
theorem dt_yW2k {post : Int32 → SY → Prop} (hp : p < 4) (hd : d < 6) (ho : o < 24) (ha : ¬ al p = 0) (e : L (6 * p + d) = nI o) (hw : w < 24) (eW : W o = nI w) (hs : S o = 2) (hh : dt_Has L S W 1 (nI w)) (hq : q < 6) (eP : PL w = nI q) (h : post 0 (al, L, S, W, O, N, FL, FB, upd PL w (nI (q + 1)), upd B (6 * w + q) (x &&& 255))) : wpY_write post (al, L, S, W, O, N, FL, FB, PL, B) (nI p) (nI d) x := by
  have co : (nI o).toNatClampNeg = o := nI_clamp (by omega)
  have vo : vp_in (nI o) 24 := vp_in_nI ho (by omega)
  have cw : (nI w).toNatClampNeg = w := nI_clamp (by omega)
  unfold wpY_write
  dsimp only
  refine dt_yFr_t hp hd ho ha e (br_t rfl ⟨dt_vy hp hd, nm_r (e' := nI o) (by rw [dt_cy hp hd]; exact e) ⟨vo, nm_r (e' := nI w) (by rw [co]; exact eW) ⟨vo, ?_⟩⟩⟩)
  rw [co]
  have vw : vp_in (nI w) 24 := vp_in_nI hw (by omega)
  have b := dt_wy6 hw hq
  rw [cw, eP]
  exact br_f (by rw [hs]; decide) ⟨vo, br_t hs (dt_yHO (by decide) (fun _ => br_f (by decide) ⟨vw, br_f (fun h6 => absurd (dt_inj (b := 6) (by omega) (by omega) h6) (by omega)) ⟨vw, b.2, nm_r (e' := upd B (6 * w + q) (x &&& 255)) (by rw [b.1]) ⟨vw, vw, nm_r (e' := upd PL w (nI (q + 1))) (by rw [nI_1]) h⟩⟩⟩) (fun h2 => absurd hh h2))⟩
theorem dt_yW0n {post : Int32 → SY → Prop} (hp : p < 4) (hd : d < 6) (ho : o < 24) (ha : ¬ al p = 0) (e : L (6 * p + d) = nI o) (hw : w < 28) (eW : W o = nI w) (hs : S o = 0) (eO : O o = nI 8) (h : post (-2) (al, L, S, W, O, N, FL, FB, PL, B)) : wpY_write post (al, L, S, W, O, N, FL, FB, PL, B) (nI p) (nI d) x := by
  have co : (nI o).toNatClampNeg = o := nI_clamp (by omega)
  have vo : vp_in (nI o) 24 := vp_in_nI ho (by omega)
  have cw : (nI w).toNatClampNeg = w := nI_clamp (by omega)
  unfold wpY_write
  dsimp only
  refine dt_yFr_t hp hd ho ha e (br_t rfl ⟨dt_vy hp hd, nm_r (e' := nI o) (by rw [dt_cy hp hd]; exact e) ⟨vo, nm_r (e' := nI w) (by rw [co]; exact eW) ⟨vo, ?_⟩⟩⟩)
  rw [co]
  exact br_f (by rw [hs]; decide) ⟨vo, br_f (by rw [hs]; decide) ⟨vo, br_t eO h⟩⟩
theorem dt_yW0e {post : Int32 → SY → Prop} (hp : p < 4) (hd : d < 6) (ho : o < 24) (ha : ¬ al p = 0) (e : L (6 * p + d) = nI o) (hw : w < 28) (eW : W o = nI w) (hs : S o = 0) (hq : q < 8) (eO : O o = nI q) (eF : FL w = nI q) (h : post 0 (al, L, S, W, upd O o (nI (q + 1)), N, upd FL w (nI (q + 1)), upd FB (8 * w + q) (x &&& 255), PL, B)) : wpY_write post (al, L, S, W, O, N, FL, FB, PL, B) (nI p) (nI d) x := by
  have co : (nI o).toNatClampNeg = o := nI_clamp (by omega)
  have vo : vp_in (nI o) 24 := vp_in_nI ho (by omega)
  have cw : (nI w).toNatClampNeg = w := nI_clamp (by omega)
  unfold wpY_write
  dsimp only
  refine dt_yFr_t hp hd ho ha e (br_t rfl ⟨dt_vy hp hd, nm_r (e' := nI o) (by rw [dt_cy hp hd]; exact e) ⟨vo, nm_r (e' := nI w) (by rw [co]; exact eW) ⟨vo, ?_⟩⟩⟩)
  rw [co]
  have vw : vp_in (nI w) 28 := vp_in_nI hw (by omega)
  have b := dt_wy8 hw hq
  rw [cw, eO]
  refine br_f (by rw [hs]; decide) ⟨vo, br_f (by rw [hs]; decide) ⟨vo, br_f (fun h8 => absurd (dt_inj (b := 8) (by omega) (by omega) h8) (by omega)) ⟨vo, b.2, nm_r (e' := upd FB (8 * w + q) (x &&& 255)) (by rw [b.1]) ⟨vo, vw, ?_⟩⟩⟩⟩
  exact br_t eF.symm ⟨vw, vw, nm_r (e' := upd FL w (nI (q + 1))) (by rw [eF, nI_1]) ⟨vo, vo, nm_r (e' := upd O o (nI (q + 1))) (by rw [co, eO, nI_1]) h⟩⟩
theorem dt_yW0k {post : Int32 → SY → Prop} (hp : p < 4) (hd : d < 6) (ho : o < 24) (ha : ¬ al p = 0) (e : L (6 * p + d) = nI o) (hw : w < 28) (eW : W o = nI w) (hs : S o = 0) (hq : q < 8) (eO : O o = nI q) (eF : ¬ nI q = FL w) (h : post 0 (al, L, S, W, upd O o (nI (q + 1)), N, FL, upd FB (8 * w + q) (x &&& 255), PL, B)) : wpY_write post (al, L, S, W, O, N, FL, FB, PL, B) (nI p) (nI d) x := by
  have co : (nI o).toNatClampNeg = o := nI_clamp (by omega)
  have vo : vp_in (nI o) 24 := vp_in_nI ho (by omega)
  have cw : (nI w).toNatClampNeg = w := nI_clamp (by omega)
  unfold wpY_write
  dsimp only
  refine dt_yFr_t hp hd ho ha e (br_t rfl ⟨dt_vy hp hd, nm_r (e' := nI o) (by rw [dt_cy hp hd]; exact e) ⟨vo, nm_r (e' := nI w) (by rw [co]; exact eW) ⟨vo, ?_⟩⟩⟩)
  rw [co]
  have vw : vp_in (nI w) 28 := vp_in_nI hw (by omega)
  have b := dt_wy8 hw hq
  rw [cw, eO]
  refine br_f (by rw [hs]; decide) ⟨vo, br_f (by rw [hs]; decide) ⟨vo, br_f (fun h8 => absurd (dt_inj (b := 8) (by omega) (by omega) h8) (by omega)) ⟨vo, b.2, nm_r (e' := upd FB (8 * w + q) (x &&& 255)) (by rw [b.1]) ⟨vo, vw, ?_⟩⟩⟩⟩
  exact br_f eF ⟨vo, vo, nm_r (e' := upd O o (nI (q + 1))) (by rw [co, eO, nI_1]) h⟩
theorem dt_xR2 {post : Int32 → SX → Prop} (hp : p < 4) (hd : d < 6) (ho : o < 24) (ha : ¬ al p = 0) (e : L (6 * p + d) = nI o) (hs : S o = 2) (h : post (-1) (al, L, N, S, W, O, FL, FB, PL, A)) : wpX_read post (al, L, N, S, W, O, FL, FB, PL, A) (nI p) (nI d) := by
  have co : (nI o).toNatClampNeg = o := nI_clamp (by omega)
  have vo : vp_in (nI o) 24 := vp_in_nI ho (by omega)
  unfold wpX_read
  dsimp only
  refine dt_xOf_t hp hd ha e (br_f (dt_ne (by omega)) ⟨vo, ?_⟩)
  rw [co]
  exact br_t hs h
theorem dt_xR10 {post : Int32 → SX → Prop} (hL : ∀ i, i < 24 → L i = -1 ∨ ∃ o, o < 24 ∧ L i = nI o) (hp : p < 4) (hd : d < 6) (ho : o < 24) (ha : ¬ al p = 0) (e : L (6 * p + d) = nI o) (hw : w < 24) (eW : W o = nI w) (hs : S o = 1) (eP : PL w = 0) (hy : dt_Has L S W 2 (nI w) → post (-4) (al, L, N, S, W, O, FL, FB, PL, A)) (hn : ¬ dt_Has L S W 2 (nI w) → post (-5) (al, L, N, S, W, O, FL, FB, PL, A)) : wpX_read post (al, L, N, S, W, O, FL, FB, PL, A) (nI p) (nI d) := by
  have co : (nI o).toNatClampNeg = o := nI_clamp (by omega)
  have vo : vp_in (nI o) 24 := vp_in_nI ho (by omega)
  unfold wpX_read
  dsimp only
  refine dt_xOf_t hp hd ha e (br_f (dt_ne (by omega)) ⟨vo, ?_⟩)
  rw [co]
  rw [eW]
  exact br_f (by rw [hs]; decide) ⟨vo, br_t hs ⟨vo, dt_xRP0 hL hw eP hy hn⟩⟩
theorem dt_xR1k {post : Int32 → SX → Prop} (hp : p < 4) (hd : d < 6) (ho : o < 24) (ha : ¬ al p = 0) (e : L (6 * p + d) = nI o) (hw : w < 24) (eW : W o = nI w) (hs : S o = 1) (hq : q < 6) (eP : PL w = nI (q + 1)) (h : post (A (6 * w)) (al, L, N, S, W, O, FL, FB, upd PL w (nI q), dt_sh A (6 * w) 5)) : wpX_read post (al, L, N, S, W, O, FL, FB, PL, A) (nI p) (nI d) := by
  have co : (nI o).toNatClampNeg = o := nI_clamp (by omega)
  have vo : vp_in (nI o) 24 := vp_in_nI ho (by omega)
  unfold wpX_read
  dsimp only
  refine dt_xOf_t hp hd ha e (br_f (dt_ne (by omega)) ⟨vo, ?_⟩)
  rw [co]
  rw [eW]
  exact br_f (by rw [hs]; decide) ⟨vo, br_t hs ⟨vo, dt_xRPk hw hq eP h⟩⟩
theorem dt_xR0e {post : Int32 → SX → Prop} (hp : p < 4) (hd : d < 6) (ho : o < 24) (ha : ¬ al p = 0) (e : L (6 * p + d) = nI o) (hw : w < 28) (eW : W o = nI w) (hs : S o = 0) (hq : q ≤ 8) (eO : O o = nI q) (eF : FL w = nI q) (h : post (-5) (al, L, N, S, W, O, FL, FB, PL, A)) : wpX_read post (al, L, N, S, W, O, FL, FB, PL, A) (nI p) (nI d) := by
  have co : (nI o).toNatClampNeg = o := nI_clamp (by omega)
  have vo : vp_in (nI o) 24 := vp_in_nI ho (by omega)
  unfold wpX_read
  dsimp only
  refine dt_xOf_t hp hd ha e (br_f (dt_ne (by omega)) ⟨vo, ?_⟩)
  rw [co]
  exact br_f (by rw [hs]; decide) ⟨vo, br_f (by rw [hs]; decide) (dt_xRFe ho hw hq eW eO eF h)⟩
theorem dt_xR0k {post : Int32 → SX → Prop} (hp : p < 4) (hd : d < 6) (ho : o < 24) (ha : ¬ al p = 0) (e : L (6 * p + d) = nI o) (hw : w < 28) (eW : W o = nI w) (hs : S o = 0) (hqr : q < r) (hr : r ≤ 8) (eO : O o = nI q) (eF : FL w = nI r) (h : post (FB (8 * w + q)) (al, L, N, S, W, upd O o (nI (q + 1)), FL, FB, PL, A)) : wpX_read post (al, L, N, S, W, O, FL, FB, PL, A) (nI p) (nI d) := by
  have co : (nI o).toNatClampNeg = o := nI_clamp (by omega)
  have vo : vp_in (nI o) 24 := vp_in_nI ho (by omega)
  unfold wpX_read
  dsimp only
  refine dt_xOf_t hp hd ha e (br_f (dt_ne (by omega)) ⟨vo, ?_⟩)
  rw [co]
  exact br_f (by rw [hs]; decide) ⟨vo, br_f (by rw [hs]; decide) (dt_xRFk ho hw hqr hr eW eO eF h)⟩
theorem dt_yR2 {post : Int32 → SY → Prop} (hp : p < 4) (hd : d < 6) (ho : o < 24) (ha : ¬ al p = 0) (e : L (6 * p + d) = nI o) (hw : w < 28) (eW : W o = nI w) (hs : S o = 2) (h : post (-1) (al, L, S, W, O, N, FL, FB, PL, B)) : wpY_read post (al, L, S, W, O, N, FL, FB, PL, B) (nI p) (nI d) := by
  have co : (nI o).toNatClampNeg = o := nI_clamp (by omega)
  have vo : vp_in (nI o) 24 := vp_in_nI ho (by omega)
  have cw : (nI w).toNatClampNeg = w := nI_clamp (by omega)
  unfold wpY_read
  dsimp only
  refine dt_yFr_t hp hd ho ha e (br_t rfl ⟨dt_vy hp hd, nm_r (e' := nI o) (by rw [dt_cy hp hd]; exact e) ⟨vo, nm_r (e' := nI w) (by rw [co]; exact eW) ⟨vo, ?_⟩⟩⟩)
  rw [co]
  exact br_t hs h
theorem dt_yR10 {post : Int32 → SY → Prop} (hp : p < 4) (hd : d < 6) (ho : o < 24) (ha : ¬ al p = 0) (e : L (6 * p + d) = nI o) (hw : w < 24) (eW : W o = nI w) (hs : S o = 1) (eP : PL w = 0) (hy : dt_Has L S W 2 (nI w) → post (-4) (al, L, S, W, O, N, FL, FB, PL, B)) (hn : ¬ dt_Has L S W 2 (nI w) → post (-5) (al, L, S, W, O, N, FL, FB, PL, B)) : wpY_read post (al, L, S, W, O, N, FL, FB, PL, B) (nI p) (nI d) := by
  have co : (nI o).toNatClampNeg = o := nI_clamp (by omega)
  have vo : vp_in (nI o) 24 := vp_in_nI ho (by omega)
  have cw : (nI w).toNatClampNeg = w := nI_clamp (by omega)
  unfold wpY_read
  dsimp only
  refine dt_yFr_t hp hd ho ha e (br_t rfl ⟨dt_vy hp hd, nm_r (e' := nI o) (by rw [dt_cy hp hd]; exact e) ⟨vo, nm_r (e' := nI w) (by rw [co]; exact eW) ⟨vo, ?_⟩⟩⟩)
  rw [co]
  have vw : vp_in (nI w) 24 := vp_in_nI hw (by omega)
  rw [cw]
  exact br_f (by rw [hs]; decide) ⟨vo, br_t hs ⟨vw, br_t eP (dt_yHO (by decide) (fun h => br_f (by decide) (hy h)) (fun h => br_t rfl (hn h)))⟩⟩
theorem dt_yR1k {post : Int32 → SY → Prop} (hp : p < 4) (hd : d < 6) (ho : o < 24) (ha : ¬ al p = 0) (e : L (6 * p + d) = nI o) (hw : w < 24) (eW : W o = nI w) (hs : S o = 1) (hq : q < 6) (eP : PL w = nI (q + 1)) (h : post (B (6 * w)) (al, L, S, W, O, N, FL, FB, upd PL w (nI q), dt_sh B (6 * w) q)) : wpY_read post (al, L, S, W, O, N, FL, FB, PL, B) (nI p) (nI d) := by
  have co : (nI o).toNatClampNeg = o := nI_clamp (by omega)
  have vo : vp_in (nI o) 24 := vp_in_nI ho (by omega)
  have cw : (nI w).toNatClampNeg = w := nI_clamp (by omega)
  unfold wpY_read
  dsimp only
  refine dt_yFr_t hp hd ho ha e (br_t rfl ⟨dt_vy hp hd, nm_r (e' := nI o) (by rw [dt_cy hp hd]; exact e) ⟨vo, nm_r (e' := nI w) (by rw [co]; exact eW) ⟨vo, ?_⟩⟩⟩)
  rw [co]
  have vw : vp_in (nI w) 24 := vp_in_nI hw (by omega)
  have e6 : 6 * nI w = nI (6 * w) := pk_mul 6 w
  have c6 : (nI (6 * w)).toNatClampNeg = 6 * w := nI_clamp (by omega)
  rw [cw, e6, c6]
  exact br_f (by rw [hs]; decide) ⟨vo, br_t hs ⟨vw, br_f (by rw [eP]; exact nI_ne0 (by omega) (by omega)) ⟨vp_in_nI (by omega) (by omega), nm_e ⟨vw, vw, nm_r (e' := upd PL w (nI q)) (by rw [eP, nI_pred]) ⟨q + 1, dt_yR107 hw hq pk_us h q 0 (by omega)⟩⟩⟩⟩⟩
theorem dt_yR0e {post : Int32 → SY → Prop} (hp : p < 4) (hd : d < 6) (ho : o < 24) (ha : ¬ al p = 0) (e : L (6 * p + d) = nI o) (hw : w < 28) (eW : W o = nI w) (hs : S o = 0) (eO : O o = FL w) (h : post (-5) (al, L, S, W, O, N, FL, FB, PL, B)) : wpY_read post (al, L, S, W, O, N, FL, FB, PL, B) (nI p) (nI d) := by
  have co : (nI o).toNatClampNeg = o := nI_clamp (by omega)
  have vo : vp_in (nI o) 24 := vp_in_nI ho (by omega)
  have cw : (nI w).toNatClampNeg = w := nI_clamp (by omega)
  unfold wpY_read
  dsimp only
  refine dt_yFr_t hp hd ho ha e (br_t rfl ⟨dt_vy hp hd, nm_r (e' := nI o) (by rw [dt_cy hp hd]; exact e) ⟨vo, nm_r (e' := nI w) (by rw [co]; exact eW) ⟨vo, ?_⟩⟩⟩)
  rw [co]
  have vw : vp_in (nI w) 28 := vp_in_nI hw (by omega)
  rw [cw]
  exact br_f (by rw [hs]; decide) ⟨vo, br_f (by rw [hs]; decide) ⟨vo, vw, br_t eO h⟩⟩
theorem dt_yR0k {post : Int32 → SY → Prop} (hp : p < 4) (hd : d < 6) (ho : o < 24) (ha : ¬ al p = 0) (e : L (6 * p + d) = nI o) (hw : w < 28) (eW : W o = nI w) (hs : S o = 0) (hqr : q < r) (hr : r ≤ 8) (eO : O o = nI q) (eF : FL w = nI r) (h : post (FB (8 * w + q)) (al, L, S, W, upd O o (nI (q + 1)), N, FL, FB, PL, B)) : wpY_read post (al, L, S, W, O, N, FL, FB, PL, B) (nI p) (nI d) := by
  have co : (nI o).toNatClampNeg = o := nI_clamp (by omega)
  have vo : vp_in (nI o) 24 := vp_in_nI ho (by omega)
  have cw : (nI w).toNatClampNeg = w := nI_clamp (by omega)
  unfold wpY_read
  dsimp only
  refine dt_yFr_t hp hd ho ha e (br_t rfl ⟨dt_vy hp hd, nm_r (e' := nI o) (by rw [dt_cy hp hd]; exact e) ⟨vo, nm_r (e' := nI w) (by rw [co]; exact eW) ⟨vo, ?_⟩⟩⟩)
  rw [co]
  have vw : vp_in (nI w) 28 := vp_in_nI hw (by omega)
  have e8 : 8 * nI w + nI (q + 1) - 1 = nI (8 * w + q) := by rw [dt_y8]; exact nI_pred (8 * w + q)
  have c8 : (nI (8 * w + q)).toNatClampNeg = 8 * w + q := nI_clamp (by omega)
  rw [cw]
  refine br_f (by rw [hs]; decide) ⟨vo, br_f (by rw [hs]; decide) ⟨vo, vw, br_f (by rw [eO, eF]; exact fun h2 => absurd (dt_inj (by omega) (by omega) h2) (by omega)) ⟨vo, vo, nm_r (e' := upd O o (nI (q + 1))) (by rw [eO, nI_1]) ⟨vo, ?_⟩⟩⟩⟩
  rw [pk_us, e8, c8]
  exact ⟨vp_in_nI (by omega) (by omega), h⟩
theorem dt_xSk {post : Int32 → SX → Prop} (hp : p < 4) (hd : d < 6) (ho : o < 24) (ha : ¬ al p = 0) (e : L (6 * p + d) = nI o) (hw : w < 28) (eW : W o = nI w) (hy : S o = 0 → ¬ x < 0 → x ≤ FL w → post 0 (al, L, N, S, W, upd O o x, FL, FB, PL, A)) (hn : ¬ (S o = 0 ∧ ¬ x < 0 ∧ x ≤ FL w) → post (-1) (al, L, N, S, W, O, FL, FB, PL, A)) : wpX_seek post (al, L, N, S, W, O, FL, FB, PL, A) (nI p) (nI d) x := by
  have co : (nI o).toNatClampNeg = o := nI_clamp (by omega)
  have vo : vp_in (nI o) 24 := vp_in_nI ho (by omega)
  unfold wpX_seek
  dsimp only
  refine dt_xOf_t hp hd ha e (br_f (dt_ne (by omega)) ⟨vo, ?_⟩)
  rw [co]
  have cw : (nI w).toNatClampNeg = w := nI_clamp (by omega)
  have vw : vp_in (nI w) 28 := vp_in_nI hw (by omega)
  rw [eW, cw]
  exact br_c (fun hs => br_c (fun h0 => hn fun h => h.2.1 h0) (fun h0 => ⟨vo, vw, br_c (fun hl => ⟨vo, nm_e (hy hs h0 hl)⟩) (fun hl => hn fun h => hl h.2.2)⟩)) (fun hs => hn fun h => hs h.1)
theorem dt_ySk {post : Int32 → SY → Prop} (hp : p < 4) (hd : d < 6) (ho : o < 24) (ha : ¬ al p = 0) (e : L (6 * p + d) = nI o) (hw : w < 28) (eW : W o = nI w) (hy : S o = 0 → ¬ x < 0 → x ≤ FL w → post 0 (al, L, S, W, upd O o x, N, FL, FB, PL, B)) (hn : ¬ (S o = 0 ∧ ¬ x < 0 ∧ x ≤ FL w) → post (-1) (al, L, S, W, O, N, FL, FB, PL, B)) : wpY_seek post (al, L, S, W, O, N, FL, FB, PL, B) (nI p) (nI d) x := by
  have co : (nI o).toNatClampNeg = o := nI_clamp (by omega)
  have vo : vp_in (nI o) 24 := vp_in_nI ho (by omega)
  have cw : (nI w).toNatClampNeg = w := nI_clamp (by omega)
  have vw : vp_in (nI w) 28 := vp_in_nI hw (by omega)
  unfold wpY_seek
  dsimp only
  refine dt_yFr_t hp hd ho ha e (br_t rfl ⟨dt_vy hp hd, nm_r (e' := nI o) (by rw [dt_cy hp hd]; exact e) ⟨vo, ?_⟩⟩)
  rw [co, eW, cw]
  exact br_c (fun hs => br_c (fun h0 => hn fun h => h.2.1 h0) (fun h0 => ⟨vo, vw, br_c (fun hl => ⟨vo, nm_e (hy hs h0 hl)⟩) (fun hl => hn fun h => hl h.2.2)⟩)) (fun hs => hn fun h => hs h.1)
end
end
section
/-! the five calls that are left -/
theorem i_vc_seek {k : Nat} {u : SX} {v : SY} (I : i_Rel k u v) (hk : k + 4 ≤ 2048) (v1 : Int32) (v2 : Int32) (v3 : Int32) : wpX_seek (fun r u' => wpY_seek (fun r' v' => r' = r ∧ i_Rel (k + 4) u' v') v v1 v2 v3) u v1 v2 v3 := by
  obtain ⟨al, L, N, S, W, O, FL, FB, PL, A, B, rfl, rfl, I, hB⟩ := I
  have hL := I.1
  rcases dt_opn al hL v1 v2 with ⟨p, d, o, hp, hd, ho, rfl, rfl, ha, e⟩ | hb
  · obtain ⟨w, hw, eW, _⟩ := I.2.2.2.1 o ho
    obtain ⟨r, hr, eF⟩ := I.2.2.2.2.2.1 w hw
    refine dt_xSk hp hd ho ha e hw eW (fun h1 h2 h3 => ?_) (fun hn => ?_)
    · obtain ⟨j, hj, rfl⟩ := nI_of h2
      have h4 : j ≤ r := by rw [eF] at h3; exact (nI_leI hj (by omega)).mp h3
      have I' : dt_Inv L N S W (upd O o (nI j)) FL PL := dt_invO I ho hw eW (by omega) h3
      exact dt_ySk hp hd ho ha e hw eW (fun _ _ _ => ⟨rfl, dt_mk I' hB⟩) (fun h => absurd ⟨h1, h2, h3⟩ h)
    · exact dt_ySk hp hd ho ha e hw eW (fun h1 h2 h3 => absurd ⟨h1, h2, h3⟩ hn) (fun _ => ⟨rfl, dt_mk I hB⟩)
  · unfold wpX_seek wpY_seek
    dsimp only
    exact dt_xOf_f hb (br_t rfl (dt_yFr_f hb (br_f (by decide) ⟨rfl, dt_mk I hB⟩)))
theorem i_vc_write {k : Nat} {u : SX} {v : SY} (I : i_Rel k u v) (hk : k + 4 ≤ 2048) (v1 : Int32) (v2 : Int32) (v3 : Int32) : wpX_write (fun r u' => wpY_write (fun r' v' => r' = r ∧ i_Rel (k + 4) u' v') v v1 v2 v3) u v1 v2 v3 := by
  obtain ⟨al, L, N, S, W, O, FL, FB, PL, A, B, rfl, rfl, I, hB⟩ := I
  have hL := I.1
  rcases dt_opn al hL v1 v2 with ⟨p, d, o, hp, hd, ho, rfl, rfl, ha, e⟩ | hb
  · obtain ⟨w, hw, eW, hw2⟩ := I.2.2.2.1 o ho
    rcases I.2.2.1 o ho with hs | hs | hs
    · obtain ⟨q, hq, eO⟩ := I.2.2.2.2.1 o ho
      obtain ⟨r, hr, eF⟩ := I.2.2.2.2.2.1 w hw
      have hl := I.2.2.2.2.2.2.2 (6 * p + d) o w (by omega) ho hw e hs eW
      rw [eO, eF] at hl
      have hqr : q ≤ r := (nI_leI (by omega) (by omega)).mp hl
      by_cases h8 : q = 8
      · rw [h8] at eO
        exact dt_xW0n hp hd ho ha e hs eO (dt_yW0n hp hd ho ha e hw eW hs eO ⟨rfl, dt_mk I hB⟩)
      · by_cases hf : q = r
        · subst hf
          have I1 : dt_Inv L N S W O (upd FL w (nI (q + 1))) PL := dt_invFL I hw (by omega) eF
          have I' : dt_Inv L N S W (upd O o (nI (q + 1))) (upd FL w (nI (q + 1))) PL := dt_invO I1 ho hw eW (by omega) (by rw [pk_us]; exact nI_le (Nat.le_refl _) (by omega))
          exact dt_xW0e hp hd ho ha e hw eW hs (by omega) eO eF (dt_yW0e hp hd ho ha e hw eW hs (by omega) eO eF ⟨rfl, dt_mk I' hB⟩)
        · have eF' : ¬ nI q = FL w := by rw [eF]; exact fun h => hf (dt_inj (by omega) (by omega) h)
          have I' : dt_Inv L N S W (upd O o (nI (q + 1))) FL PL := dt_invO I ho hw eW (by omega) (by rw [eF]; exact nI_le (by omega) (by omega))
          exact dt_xW0k hp hd ho ha e hw eW hs (by omega) eO eF' (dt_yW0k hp hd ho ha e hw eW hs (by omega) eO eF' ⟨rfl, dt_mk I' hB⟩)
    · exact dt_xW1 hp hd ho ha e hs (dt_yW1 hp hd ho ha e hw eW hs ⟨rfl, dt_mk I hB⟩)
    · have hw3 : w < 24 := hw2 (by rw [hs]; decide)
      obtain ⟨q, hq, eP⟩ := I.2.2.2.2.2.2.1 w hw3
      by_cases hh : dt_Has L S W 1 (nI w)
      · by_cases h6 : q = 6
        · rw [h6] at eP
          exact dt_xW2w hL hp hd ho ha e hw3 eW hs hh eP (dt_yW2w hp hd ho ha e hw3 eW hs hh eP ⟨rfl, dt_mk I hB⟩)
        · have hq6 : q < 6 := by omega
          have I' : dt_Inv L N S W O FL (upd PL w (nI (q + 1))) := dt_invP I (by omega)
          exact dt_xW2k hL hp hd ho ha e hw3 eW hs hh hq6 eP (dt_yW2k hp hd ho ha e hw3 eW hs hh hq6 eP ⟨rfl, dt_mk I' (dt_PBput hB hw3 hq6 eP)⟩)
      · exact dt_xW2b hL hp hd ho ha e hw3 eW hs hh (dt_yW2b hp hd ho ha e hw3 eW hs hh ⟨rfl, dt_mk I hB⟩)
  · unfold wpX_write wpY_write
    dsimp only
    exact dt_xOf_f hb (br_t rfl (dt_yFr_f hb (br_f (by decide) ⟨rfl, dt_mk I hB⟩)))
theorem i_vc_read {k : Nat} {u : SX} {v : SY} (I : i_Rel k u v) (hk : k + 4 ≤ 2048) (v1 : Int32) (v2 : Int32) : wpX_read (fun r u' => wpY_read (fun r' v' => r' = r ∧ i_Rel (k + 4) u' v') v v1 v2) u v1 v2 := by
  obtain ⟨al, L, N, S, W, O, FL, FB, PL, A, B, rfl, rfl, I, hB⟩ := I
  have hL := I.1
  rcases dt_opn al hL v1 v2 with ⟨p, d, o, hp, hd, ho, rfl, rfl, ha, e⟩ | hb
  · obtain ⟨w, hw, eW, hw2⟩ := I.2.2.2.1 o ho
    rcases I.2.2.1 o ho with hs | hs | hs
    · obtain ⟨q, hq, eO⟩ := I.2.2.2.2.1 o ho
      obtain ⟨r, hr, eF⟩ := I.2.2.2.2.2.1 w hw
      have hl := I.2.2.2.2.2.2.2 (6 * p + d) o w (by omega) ho hw e hs eW
      rw [eO, eF] at hl
      have hqr : q ≤ r := (nI_leI (by omega) (by omega)).mp hl
      by_cases hf : q = r
      · subst hf
        exact dt_xR0e hp hd ho ha e hw eW hs hq eO eF (dt_yR0e hp hd ho ha e hw eW hs (eO.trans eF.symm) ⟨rfl, dt_mk I hB⟩)
      · have hlt : q < r := by omega
        have I' : dt_Inv L N S W (upd O o (nI (q + 1))) FL PL := dt_invO I ho hw eW (by omega) (by rw [eF]; exact nI_le (by omega) (by omega))
        exact dt_xR0k hp hd ho ha e hw eW hs hlt hr eO eF (dt_yR0k hp hd ho ha e hw eW hs hlt hr eO eF ⟨rfl, dt_mk I' hB⟩)
    · have hw3 : w < 24 := hw2 (by rw [hs]; decide)
      obtain ⟨q, hq, eP⟩ := I.2.2.2.2.2.2.1 w hw3
      cases q with
      | zero =>
        have eP0 : PL w = 0 := eP
        exact dt_xR10 hL hp hd ho ha e hw3 eW hs eP0 (fun h => dt_yR10 hp hd ho ha e hw3 eW hs eP0 (fun _ => ⟨rfl, dt_mk I hB⟩) (fun h2 => absurd h h2)) (fun h => dt_yR10 hp hd ho ha e hw3 eW hs eP0 (fun h2 => absurd h2 h) (fun _ => ⟨rfl, dt_mk I hB⟩))
      | succ q =>
        have I' : dt_Inv L N S W O FL (upd PL w (nI q)) := dt_invP I (by omega)
        have eb : B (6 * w) = A (6 * w) := (hB w (q + 1) 0 hw3 hq (by omega) eP).symm
        exact dt_xR1k hp hd ho ha e hw3 eW hs (by omega) eP (dt_yR1k hp hd ho ha e hw3 eW hs (by omega) eP ⟨eb, dt_mk I' (dt_PBtake hB hw3 (by omega) eP)⟩)
    · exact dt_xR2 hp hd ho ha e hs (dt_yR2 hp hd ho ha e hw eW hs ⟨rfl, dt_mk I hB⟩)
  · unfold wpX_read wpY_read
    dsimp only
    exact dt_xOf_f hb (br_t rfl (dt_yFr_f hb (br_f (by decide) ⟨rfl, dt_mk I hB⟩)))
section
variable {al L N S W O FL FB PL A B : Nat → Int32} {p d o n f w : Nat}
theorem dt_x53 {post : Int32 → SX → Prop} (hn : n < 4) (e : N n = nI f) (hp : p < 4) (hd : d < 6) (ho : o < 24) (hno : ¬ dt_Op L o) (hmo : ∀ j, j < o → dt_Op L j) (h : post (nI d) (al, upd L (6 * p + d) (nI o), N, upd S o 0, upd W o (nI f), upd O o 0, FL, FB, PL, A)) : wX_open_53 post (nI p) (nI n) (nI d) al L N S W O FL FB PL A := by
  have cn : (nI n).toNatClampNeg = n := nI_clamp (by omega)
  unfold wX_open_53
  rw [cn, e]
  exact ⟨vp_in_nI hn (by omega), dt_xNO hp hd ho hno hmo h⟩
theorem dt_y47 {post : Int32 → SY → Prop} (hL : ∀ i, i < 24 → L i = -1 ∨ ∃ o, o < 24 ∧ L i = nI o) (hn : n < 4) (e : N n = nI f) (hp : p < 4) (hd : d < 6) (ed : L (6 * p + d) = -1) (hd2 : ∀ e, 0 ≤ e → e < d → L (6 * p + e) ≠ -1) (ho : o < 24) (hno : ¬ dt_Op L o) (hmo : ∀ j, j < o → dt_Op L j) (h : post (nI d) (al, upd L (6 * p + d) (nI o), upd S o 0, upd W o (nI f), upd O o 0, N, FL, FB, PL, B)) : wY_open_47 post (nI p) (nI n) al L S W O N FL FB PL B := by
  have cn : (nI n).toNatClampNeg = n := nI_clamp (by omega)
  unfold wY_open_47
  rw [cn, e]
  exact ⟨vp_in_nI hn (by omega), dt_yNO hL hp hd ed hd2 ho hno hmo h⟩
theorem dt_yP24 {post : Int32 → SY → Prop} (hS : ∀ o, o < 24 → S o = 0 ∨ S o = 1 ∨ S o = 2) (hf : f < 24) (hn : f < 23 → ¬ dt_Pi L S W f) (hm : ∀ j, j < f → dt_Pi L S W j) (h : wY_pipe_45 post (nI p) (nI f) al L S W O N FL FB PL B) : ∀ k i, i + k = f → wY_pipe_24 post (nI p) al L S W O N FL FB PL B (k + 1) (nI i) := by
  intro k
  induction k with
  | zero =>
    intro i hi
    have ei : i = f := by omega
    subst ei
    by_cases e : 23 ≤ i
    · exact br_t (nI_le (a := 23) e (by omega)) h
    · exact br_f (nI_ge (b := 23) (by omega) (by omega)) (dt_yHO3 hS (fun h2 => absurd h2 (hn (by omega))) (fun _ => br_t rfl h))
  | succ k ih =>
    intro i hi
    exact br_f (nI_ge (b := 23) (by omega) (by omega)) (dt_yHO3 hS (fun _ => br_f (by decide) (nm_r (nI_1 i) (ih (i + 1) (by omega)))) (fun h2 => absurd (hm i (by omega)) h2))
end
theorem i_vc_open {k : Nat} {u : SX} {v : SY} (I : i_Rel k u v) (hk : k + 4 ≤ 2048) (v1 : Int32) (v2 : Int32) : wpX_open (fun r u' => wpY_open (fun r' v' => r' = r ∧ i_Rel (k + 4) u' v') v v1 v2) u v1 v2 := by
  obtain ⟨al, L, N, S, W, O, FL, FB, PL, A, B, rfl, rfl, I, hB⟩ := I
  have hL := I.1
  have hN := I.2.1
  unfold wpX_open wpY_open
  dsimp only
  rcases dt_alv al v1 with ⟨p, hp, rfl, ha⟩ | ha
  · rcases dt_nam v2 with ⟨n, hn, rfl⟩ | hn
    · have cn : (nI n).toNatClampNeg = n := nI_clamp (by omega)
      have vn : vp_in (nI n) 4 := vp_in_nI hn (by omega)
      rw [cn]
      refine dt_xAl_t hp ha (br_f (by decide) (dt_xNa_t hn (br_f (by decide) ?_)))
      rcases dt_leastD L (6 * p) 0 with hm | ⟨c, hc0, hc, ec, hm⟩
      · exact dt_xLF_n (c := 0) hp (by omega) hm (br_t rfl (dt_yAl_t hp ha (br_t rfl (dt_yNa_t hn (br_t rfl (dt_yLF_n hL hp hm (br_f (by decide) ⟨rfl, dt_mk I hB⟩)))))))
      · obtain ⟨o, ho, hno, hmo⟩ := dt_leastO (L := L) ⟨6 * p + c, by omega, ec⟩
        refine dt_xLF_s (c := 0) hp hc0 hc ec hm (br_f (dt_ne (by omega)) ⟨vn, ?_⟩)
        rcases hN n hn with e | ⟨f, hf, e⟩
        · obtain ⟨f, hf, hnf, hmf⟩ := dt_leastF L S W ⟨n, hn, e⟩
          have I1 : dt_Inv L (upd N n (nI f)) S W O (upd FL f 0) PL := dt_invFile I hf hnf
          have I' : dt_Inv (upd L (6 * p + c) (nI o)) (upd N n (nI f)) (upd S o 0) (upd W o (nI f)) (upd O o 0) (upd FL f 0) PL := dt_invNew I1 (by omega) ho hno (Or.inl rfl) hf (fun h => absurd rfl h)
          refine br_t e (dt_xNF hL hf hnf hmf ⟨vn, nm_e (dt_x53 hn pk_us hp hc ho hno hmo ?_)⟩)
          refine dt_yAl_t hp ha (br_t rfl (dt_yNa_t hn (br_t rfl (dt_yLF_s hL hp hc ec hm (br_t (nI_pos' (by omega)) ⟨vn, br_f (by rw [e]; decide) (dt_yNF hf hnf hmf ⟨vn, nm_e (dt_y47 hL hn pk_us hp hc ec hm ho hno hmo ?_)⟩)⟩)))))
          exact ⟨rfl, dt_mk I' hB⟩
        · have I' : dt_Inv (upd L (6 * p + c) (nI o)) N (upd S o 0) (upd W o (nI f)) (upd O o 0) FL PL := dt_invNew I (by omega) ho hno (Or.inl rfl) hf (fun h => absurd rfl h)
          refine br_f (by rw [e]; exact dt_ne (by omega)) (dt_x53 hn e hp hc ho hno hmo ?_)
          refine dt_yAl_t hp ha (br_t rfl (dt_yNa_t hn (br_t rfl (dt_yLF_s hL hp hc ec hm (br_t (nI_pos' (by omega)) ⟨vn, br_t (by rw [e]; exact nI_pos' (by omega)) (dt_y47 hL hn e hp hc ec hm ho hno hmo ?_)⟩)))))
          exact ⟨rfl, dt_mk I' hB⟩
    · exact dt_xAl_t hp ha (br_f (by decide) (dt_xNa_f hn (br_t rfl (dt_yAl_t hp ha (br_t rfl (dt_yNa_f hn (br_f (by decide) ⟨rfl, dt_mk I hB⟩)))))))
  · exact dt_xAl_f ha (br_t rfl (dt_yAl_f ha (br_f (by decide) ⟨rfl, dt_mk I hB⟩)))
theorem i_vc_pipe {k : Nat} {u : SX} {v : SY} (I : i_Rel k u v) (hk : k + 4 ≤ 2048) (v1 : Int32) : wpX_pipe (fun r u' => wpY_pipe (fun r' v' => r' = r ∧ i_Rel (k + 4) u' v') v v1) u v1 := by
  obtain ⟨al, L, N, S, W, O, FL, FB, PL, A, B, rfl, rfl, I, hB⟩ := I
  have hL := I.1
  have hS := I.2.2.1
  unfold wpX_pipe wpY_pipe
  dsimp only
  rcases dt_alv al v1 with ⟨p, hp, rfl, ha⟩ | ha
  · have le := dt_cn_le (fun d => L (6 * p + d) = -1) 6
    refine dt_xAl_t hp ha (br_f (by decide) ?_)
    rcases dt_leastD L (6 * p) 0 with hm | ⟨c, hc0, hc, ec, hm⟩
    · have z := dt_cn_z (P := fun d => L (6 * p + d) = -1) 6 (fun d hd => hm d (Nat.zero_le d) hd)
      exact dt_xLF_n (c := 0) hp (by omega) hm (br_t rfl (dt_yAl_t hp ha (br_t rfl ⟨7, dt_yFD_l hL hp (br_f (nI_ge (b := 2) (by omega) (by omega)) ⟨rfl, dt_mk I hB⟩) 6 0 rfl⟩)))
    · refine dt_xLF_s (c := 0) hp hc0 hc ec hm (br_f (dt_ne (by omega)) ?_)
      rw [nI_1 c]
      rcases dt_leastD L (6 * p) (c + 1) with hm2 | ⟨c2, hc20, hc2, ec2, hm2⟩
      · have z := dt_cn_1 (P := fun d => L (6 * p + d) = -1) (a := c) 6 (fun d hd e => by
          have h1 : ¬ d < c := fun h => hm d (Nat.zero_le d) h e
          have h2 : ¬ c + 1 ≤ d := fun h => hm2 d h hd e
          omega)
        exact dt_xLF_n hp (by omega) hm2 (br_t rfl (dt_yAl_t hp ha (br_t rfl ⟨7, dt_yFD_l hL hp (br_f (nI_ge (b := 2) (by omega) (by omega)) ⟨rfl, dt_mk I hB⟩) 6 0 rfl⟩)))
      · have z := dt_cn_2 (P := fun d => L (6 * p + d) = -1) (a := c) (b := c2) (n := 6) (by omega) hc2 ec ec2
        obtain ⟨w, hw, hnw, hmw⟩ := dt_leastP L S W
        obtain ⟨o, ho, hno, hmo⟩ := dt_leastO (L := L) ⟨6 * p + c, by omega, ec⟩
        have I0 : dt_Inv L N S W O FL (upd PL w 0) := dt_invP (q := 0) I (by omega)
        have I1 : dt_Inv (upd L (6 * p + c) (nI o)) N (upd S o 1) (upd W o (nI w)) (upd O o 0) FL (upd PL w 0) := dt_invNew I0 (by omega) ho hno (Or.inr (Or.inl rfl)) (by omega) (fun _ => hw)
        have hL1 := I1.1
        have ec3 : upd L (6 * p + c) (nI o) (6 * p + c2) = -1 := by rw [pk_un (by omega)]; exact ec2
        have hm3 : ∀ e, 0 ≤ e → e < c2 → upd L (6 * p + c) (nI o) (6 * p + e) ≠ -1 := by
          intro e _ h2
          by_cases h : e = c
          · rw [h, pk_us]; exact dt_ne (by omega)
          · rw [pk_un (by omega)]
            by_cases h3 : e < c
            · exact hm e (Nat.zero_le e) h3
            · exact hm2 e (by omega) h2
        obtain ⟨o2, ho2, hno2, hmo2⟩ := dt_leastO (L := upd L (6 * p + c) (nI o)) ⟨6 * p + c2, by omega, ec3⟩
        have I2 := dt_invNew (s := 2) I1 (i := 6 * p + c2) (by omega) ho2 hno2 (Or.inr (Or.inr rfl)) (w := w) (by omega) (fun _ => hw)
        refine dt_xLF_s hp hc20 hc2 ec2 hm2 (br_f (dt_ne (by omega)) (dt_xNP hL hw hnw hmw (dt_xNO hp hc ho hno hmo (dt_xNO hp hc2 ho2 hno2 hmo2 ?_))))
        refine dt_yAl_t hp ha (br_t rfl ⟨7, dt_yFD_l hL hp (br_t (nI_le (a := 2) z (by omega)) ⟨w + 1, dt_yP24 hS hw hnw hmw ?_ w 0 (by omega)⟩) 6 0 rfl⟩)
        have cw : (nI w).toNatClampNeg = w := nI_clamp (by omega)
        refine ⟨vp_in_nI hw (by omega), nm_r (e' := upd PL w 0) (by rw [cw]) (dt_yNO hL hp hc ec hm ho hno hmo (dt_yNO hL1 hp hc2 ec3 hm3 ho2 hno2 hmo2 ?_))⟩
        exact ⟨rfl, dt_mk I2 (dt_PB0 hB)⟩
  · exact dt_xAl_f ha (br_t rfl (dt_yAl_f ha (br_f (by decide) ⟨rfl, dt_mk I hB⟩)))
end
