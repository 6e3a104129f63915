/-! pure rows: the loops that store, and counting -/
/-- k cells from b on become -1 -/
def dt_ex (L : Nat → Int32) (b : Nat) : Nat → Nat → Int32
  | 0 => L
  | k + 1 => upd (dt_ex L b k) (b + k) (-1)
theorem dt_ex_or (L : Nat → Int32) (b : Nat) : ∀ k i, dt_ex L b k i = -1 ∨ dt_ex L b k i = L i := by
  intro k
  induction k with
  | zero => exact fun i => Or.inr rfl
  | succ k ih =>
    intro i
    by_cases e : i = b + k
    · subst e; exact Or.inl pk_us
    · have h : dt_ex L b (k + 1) i = dt_ex L b k i := pk_un e
      rw [h]; exact ih i
/-- k cells from b on become those from s on -/
def dt_fk (L : Nat → Int32) (b s : Nat) : Nat → Nat → Int32
  | 0 => L
  | k + 1 => upd (dt_fk L b s k) (b + k) (dt_fk L b s k (s + k))
theorem dt_fk_or (L : Nat → Int32) (b s : Nat) (hs : s + 6 ≤ 24) : ∀ k, k ≤ 6 → ∀ i, i < 24 → ∃ j, j < 24 ∧ dt_fk L b s k i = L j := by
  intro k
  induction k with
  | zero => exact fun _ i hi => ⟨i, hi, rfl⟩
  | succ k ih =>
    intro hk i hi
    by_cases e : i = b + k
    · obtain ⟨j, hj, ej⟩ := ih (by omega) (s + k) (by omega)
      subst e
      have h : dt_fk L b s (k + 1) (b + k) = dt_fk L b s k (s + k) := pk_us
      exact ⟨j, hj, h.trans ej⟩
    · have h : dt_fk L b s (k + 1) i = dt_fk L b s k i := pk_un e
      rw [h]; exact ih (by omega) i hi
/-- k cells from b on take their right neighbour's value -/
def dt_sh (A : Nat → Int32) (b : Nat) : Nat → Nat → Int32
  | 0 => A
  | k + 1 => upd (dt_sh A b k) (b + k) (dt_sh A b k (b + k + 1))
theorem dt_sh_out (A : Nat → Int32) (b : Nat) : ∀ k j, (j < b ∨ b + k ≤ j) → dt_sh A b k j = A j := by
  intro k
  induction k with
  | zero => exact fun j _ => rfl
  | succ k ih =>
    intro j hj
    have h : dt_sh A b (k + 1) j = dt_sh A b k j := pk_un (by omega)
    rw [h]; exact ih j (by omega)
theorem dt_sh_in (A : Nat → Int32) (b : Nat) : ∀ k i, i < k → dt_sh A b k (b + i) = A (b + i + 1) := by
  intro k
  induction k with
  | zero => intro i hi; omega
  | succ k ih =>
    intro i hi
    by_cases e : i = k
    · subst e
      have h : dt_sh A b (i + 1) (b + i) = dt_sh A b i (b + i + 1) := pk_us
      rw [h]; exact dt_sh_out A b i _ (by omega)
    · have h : dt_sh A b (k + 1) (b + i) = dt_sh A b k (b + i) := pk_un (by omega)
      rw [h]; exact ih i (by omega)
/-- the two rows of pipes' bytes are alike below each pipe's size -/
def dt_PB (PL A B : Nat → Int32) : Prop := ∀ p q i, p < 24 → q ≤ 6 → i < q → PL p = nI q → A (6 * p + i) = B (6 * p + i)
theorem dt_PB0 {PL A B : Nat → Int32} {p : Nat} (h : dt_PB PL A B) : dt_PB (upd PL p (nI 0)) A B := by
  intro p' q i hp hq hi e
  by_cases e2 : p' = p
  · rw [e2, pk_us] at e
    have := dt_inj (by omega) (by omega) e
    omega
  · rw [pk_un e2] at e
    exact h p' q i hp hq hi e
theorem dt_PBput {PL A B : Nat → Int32} {p q : Nat} {x : Int32} (h : dt_PB PL A B) (hp : p < 24) (hq : q < 6) (e : PL p = nI q) : dt_PB (upd PL p (nI (q + 1))) (upd A (6 * p + q) x) (upd B (6 * p + q) x) := by
  intro p' q' i hp' hq' hi e'
  by_cases e2 : 6 * p' + i = 6 * p + q
  · rw [e2, pk_us, pk_us]
  · rw [pk_un e2, pk_un e2]
    by_cases e3 : p' = p
    · rw [e3, pk_us] at e'
      have := dt_inj (by omega) (by omega) e'
      rw [e3]
      exact h p q i hp (by omega) (by omega) e
    · rw [pk_un e3] at e'
      exact h p' q' i hp' hq' hi e'
theorem dt_PBtake {PL A B : Nat → Int32} {p q : Nat} (h : dt_PB PL A B) (hp : p < 24) (hq : q < 6) (e : PL p = nI (q + 1)) : dt_PB (upd PL p (nI q)) (dt_sh A (6 * p) 5) (dt_sh B (6 * p) q) := by
  intro p' q' i hp' hq' hi e'
  by_cases e3 : p' = p
  · rw [e3, pk_us] at e'
    have e4 := dt_inj (by omega) (by omega) e'
    rw [e3, dt_sh_in A _ 5 i (by omega), dt_sh_in B _ q i (by omega)]
    exact h p (q + 1) (i + 1) hp (by omega) (by omega) e
  · rw [pk_un e3] at e'
    rw [dt_sh_out A _ 5 _ (by omega), dt_sh_out B _ q _ (by omega)]
    exact h p' q' i hp' hq' hi e'
/-- how many below n are P -/
noncomputable def dt_cn (P : Nat → Prop) : Nat → Nat
  | 0 => 0
  | n + 1 => @ite Nat (P n) (Classical.propDecidable _) (dt_cn P n + 1) (dt_cn P n)
theorem dt_cn_t {P : Nat → Prop} {n : Nat} (h : P n) : dt_cn P (n + 1) = dt_cn P n + 1 := @if_pos _ (Classical.propDecidable _) h _ _ _
theorem dt_cn_f {P : Nat → Prop} {n : Nat} (h : ¬ P n) : dt_cn P (n + 1) = dt_cn P n := @if_neg _ (Classical.propDecidable _) h _ _ _
theorem dt_cn_le (P : Nat → Prop) : ∀ n, dt_cn P n ≤ n := by
  intro n
  induction n with
  | zero => exact Nat.le_refl 0
  | succ n ih =>
    by_cases h : P n
    · rw [dt_cn_t h]; omega
    · rw [dt_cn_f h]; omega
theorem dt_cn_rm (P : Nat → Prop) (p : Nat) (hp : P p) : ∀ n, (n ≤ p → dt_cn P n = dt_cn (fun i => P i ∧ i ≠ p) n) ∧ (p < n → dt_cn P n = dt_cn (fun i => P i ∧ i ≠ p) n + 1) := by
  intro n
  induction n with
  | zero => exact ⟨fun _ => rfl, fun h => absurd h (by omega)⟩
  | succ n ih =>
    by_cases e : n = p
    · subst e
      rw [dt_cn_t hp, dt_cn_f (P := fun i => P i ∧ i ≠ n) (fun h => h.2 rfl)]
      exact ⟨fun h => absurd h (by omega), fun _ => by rw [ih.1 (Nat.le_refl n)]⟩
    · by_cases h : P n
      · rw [dt_cn_t h, dt_cn_t (P := fun i => P i ∧ i ≠ p) ⟨h, e⟩]
        exact ⟨fun h => by rw [ih.1 (by omega)], fun h => by rw [ih.2 (by omega)]⟩
      · rw [dt_cn_f h, dt_cn_f (P := fun i => P i ∧ i ≠ p) (fun h2 => h h2.1)]
        exact ⟨fun h => ih.1 (by omega), fun h => ih.2 (by omega)⟩
