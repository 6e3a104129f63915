/-! bytes: what the component's and the reference's write, read and seek do, case by case -/
section
variable {al L N S W O FL FB PL A B : Nat → Int32} {p d o w q r : Nat} {x : Int32}
theorem dt_wx6 (hw : w < 24) (hq : q < 6) : (nI w * 6 + nI q).toNatClampNeg = 6 * w + q ∧ vp_in (nI w * 6 + nI q) 144 := by
  rw [dt_x6]; exact ⟨nI_clamp (by omega), vp_in_nI (by omega) (by omega)⟩
theorem dt_wy6 (hw : w < 24) (hq : q < 6) : (6 * nI w + nI q).toNatClampNeg = 6 * w + q ∧ vp_in (6 * nI w + nI q) 144 := by
  rw [dt_y6]; exact ⟨nI_clamp (by omega), vp_in_nI (by omega) (by omega)⟩
theorem dt_wx8 (hw : w < 28) (hq : q < 8) : (nI w * 8 + nI q).toNatClampNeg = 8 * w + q ∧ vp_in (nI w * 8 + nI q) 224 := by
  rw [dt_x8]; exact ⟨nI_clamp (by omega), vp_in_nI (by omega) (by omega)⟩
theorem dt_wy8 (hw : w < 28) (hq : q < 8) : (8 * nI w + nI q).toNatClampNeg = 8 * w + q ∧ vp_in (8 * nI w + nI q) 224 := by
  rw [dt_y8]; exact ⟨nI_clamp (by omega), vp_in_nI (by omega) (by omega)⟩
theorem dt_xWPb {post : Int32 → SX → Prop} (hL : ∀ i, i < 24 → L i = -1 ∨ ∃ o, o < 24 ∧ L i = nI o) (hh : ¬ dt_Has L S W 1 (nI w)) (h : post (-3) (al, L, N, S, W, O, FL, FB, PL, A)) : wpX_writeToPipe post (al, L, N, S, W, O, FL, FB, PL, A) (nI w) x := by
  unfold wpX_writeToPipe
  dsimp only
  exact dt_xIO hL (fun h2 => absurd h2 hh) (fun _ => br_t rfl h)
theorem dt_xWPw {post : Int32 → SX → Prop} (hL : ∀ i, i < 24 → L i = -1 ∨ ∃ o, o < 24 ∧ L i = nI o) (hh : dt_Has L S W 1 (nI w)) (hw : w < 24) (e : PL w = nI 6) (h : post (-4) (al, L, N, S, W, O, FL, FB, PL, A)) : wpX_writeToPipe post (al, L, N, S, W, O, FL, FB, PL, A) (nI w) x := by
  have c : (nI w).toNatClampNeg = w := nI_clamp (by omega)
  unfold wpX_writeToPipe
  dsimp only
  rw [c]
  exact dt_xIO hL (fun _ => br_f (by decide) ⟨vp_in_nI hw (by omega), nm_r e (br_f (by decide) h)⟩) (fun h2 => absurd hh h2)
theorem dt_xWPk {post : Int32 → SX → Prop} (hL : ∀ i, i < 24 → L i = -1 ∨ ∃ o, o < 24 ∧ L i = nI o) (hh : dt_Has L S W 1 (nI w)) (hw : w < 24) (hq : q < 6) (e : PL w = nI q) (h : post 0 (al, L, N, S, W, O, FL, FB, upd PL w (nI (q + 1)), upd A (6 * w + q) x)) : wpX_writeToPipe post (al, L, N, S, W, O, FL, FB, PL, A) (nI w) x := by
  have c : (nI w).toNatClampNeg = w := nI_clamp (by omega)
  have v : vp_in (nI w) 24 := vp_in_nI hw (by omega)
  have b := dt_wx6 hw hq
  unfold wpX_writeToPipe
  dsimp only
  rw [c]
  exact dt_xIO hL (fun _ => br_f (by decide) ⟨v, nm_r e (br_t (nI_lt (b := 6) hq (by omega)) ⟨b.2, nm_r (e' := upd A (6 * w + q) x) (by rw [b.1]) ⟨v, nm_r (e' := upd PL w (nI (q + 1))) (by rw [nI_1]) h⟩⟩)⟩) (fun h2 => absurd hh h2)
theorem dt_xWFn {post : Int32 → SX → Prop} (ho : o < 24) (hq : O o = nI 8) (h : post (-2) (al, L, N, S, W, O, FL, FB, PL, A)) : wpX_writeToFile post (al, L, N, S, W, O, FL, FB, PL, A) (nI o) x := by
  have c : (nI o).toNatClampNeg = o := nI_clamp (by omega)
  have v : vp_in (nI o) 24 := vp_in_nI ho (by omega)
  unfold wpX_writeToFile
  dsimp only
  rw [c]
  exact ⟨v, nm_e ⟨v, nm_r hq (br_f (by decide) h)⟩⟩
theorem dt_xWFe {post : Int32 → SX → Prop} (ho : o < 24) (hw : w < 28) (hq : q < 8) (eW : W o = nI w) (eO : O o = nI q) (eF : FL w = nI q) (h : post 0 (al, L, N, S, W, upd O o (nI (q + 1)), upd FL w (nI (q + 1)), upd FB (8 * w + q) x, PL, A)) : wpX_writeToFile post (al, L, N, S, W, O, FL, FB, PL, A) (nI o) x := by
  have c : (nI o).toNatClampNeg = o := nI_clamp (by omega)
  have cw : (nI w).toNatClampNeg = w := nI_clamp (by omega)
  have v : vp_in (nI o) 24 := vp_in_nI ho (by omega)
  have vw : vp_in (nI w) 28 := vp_in_nI hw (by omega)
  have b := dt_wx8 hw hq
  unfold wpX_writeToFile
  dsimp only
  rw [c]
  refine ⟨v, nm_r eW ⟨v, nm_r eO (br_t (nI_lt (b := 8) hq (by omega)) ⟨b.2, nm_r (e' := upd FB (8 * w + q) x) (by rw [b.1]) ⟨vw, ?_⟩⟩)⟩⟩
  rw [cw]
  refine br_t eF.symm ⟨vw, nm_r (e' := upd FL w (nI (q + 1))) (by rw [nI_1]) ?_⟩
  exact ⟨v, nm_r (e' := upd O o (nI (q + 1))) (by rw [c, nI_1]) h⟩
theorem dt_xWFk {post : Int32 → SX → Prop} (ho : o < 24) (hw : w < 28) (hq : q < 8) (eW : W o = nI w) (eO : O o = nI q) (eF : ¬ nI q = FL w) (h : post 0 (al, L, N, S, W, upd O o (nI (q + 1)), FL, upd FB (8 * w + q) x, PL, A)) : wpX_writeToFile post (al, L, N, S, W, O, FL, FB, PL, A) (nI o) x := by
  have c : (nI o).toNatClampNeg = o := nI_clamp (by omega)
  have cw : (nI w).toNatClampNeg = w := nI_clamp (by omega)
  have v : vp_in (nI o) 24 := vp_in_nI ho (by omega)
  have vw : vp_in (nI w) 28 := vp_in_nI hw (by omega)
  have b := dt_wx8 hw hq
  unfold wpX_writeToFile
  dsimp only
  rw [c]
  refine ⟨v, nm_r eW ⟨v, nm_r eO (br_t (nI_lt (b := 8) hq (by omega)) ⟨b.2, nm_r (e' := upd FB (8 * w + q) x) (by rw [b.1]) ⟨vw, ?_⟩⟩)⟩⟩
  rw [cw]
  refine br_f eF ?_
  exact ⟨v, nm_r (e' := upd O o (nI (q + 1))) (by rw [c, nI_1]) h⟩
theorem dt_xR41 {post : Int32 → SX → Prop} (hw : w < 24) (h : post x (al, L, N, S, W, O, FL, FB, upd PL w (PL w - 1), dt_sh A (6 * w) 5)) : ∀ k i, i + k = 5 → wX_readFromPipe_41 post (nI w) (nI (6 * w)) x (k + 1) (nI (i + 1)) al L N S W O FL FB PL (dt_sh A (6 * w) i) := by
  have c : (nI w).toNatClampNeg = w := nI_clamp (by omega)
  have v : vp_in (nI w) 24 := vp_in_nI hw (by omega)
  intro k
  induction k with
  | zero =>
    intro i hi
    have ei : i = 5 := by omega
    subst ei
    exact br_t (nI_le (a := 6) (by omega) (by omega)) ⟨v, v, nm_r (e' := upd PL w (PL w - 1)) (by rw [c]) h⟩
  | succ k ih =>
    intro i hi
    have e1 : nI (6 * w) + nI (i + 1) = nI (6 * w + i + 1) := nI_add _ _
    have e2 : nI (6 * w) + nI (i + 1) - 1 = nI (6 * w + i) := by rw [e1]; exact nI_pred _
    have c1 : (nI (6 * w + i + 1)).toNatClampNeg = 6 * w + i + 1 := nI_clamp (by omega)
    have c2 : (nI (6 * w + i)).toNatClampNeg = 6 * w + i := nI_clamp (by omega)
    exact br_f (nI_ge (b := 6) (by omega) (by omega)) ⟨by rw [e1]; exact vp_in_nI (by omega) (by omega), by rw [e2]; exact vp_in_nI (by omega) (by omega), nm_r (e' := dt_sh A (6 * w) (i + 1)) (by rw [e2, e1, c1, c2]; rfl) (nm_r (nI_1 (i + 1)) (ih (i + 1) (by omega)))⟩
theorem dt_xRP0 {post : Int32 → SX → Prop} (hL : ∀ i, i < 24 → L i = -1 ∨ ∃ o, o < 24 ∧ L i = nI o) (hw : w < 24) (e : PL w = 0) (hy : dt_Has L S W 2 (nI w) → post (-4) (al, L, N, S, W, O, FL, FB, PL, A)) (hn : ¬ dt_Has L S W 2 (nI w) → post (-5) (al, L, N, S, W, O, FL, FB, PL, A)) : wpX_readFromPipe post (al, L, N, S, W, O, FL, FB, PL, A) (nI w) := by
  have c : (nI w).toNatClampNeg = w := nI_clamp (by omega)
  have v : vp_in (nI w) 24 := vp_in_nI hw (by omega)
  unfold wpX_readFromPipe
  dsimp only
  rw [c]
  exact ⟨v, br_t e (dt_xIO hL (fun h => br_f (by decide) (hy h)) (fun h => br_t rfl (hn h)))⟩
theorem dt_xRPk {post : Int32 → SX → Prop} (hw : w < 24) (hq : q < 6) (e : PL w = nI (q + 1)) (h : post (A (6 * w)) (al, L, N, S, W, O, FL, FB, upd PL w (nI q), dt_sh A (6 * w) 5)) : wpX_readFromPipe post (al, L, N, S, W, O, FL, FB, PL, A) (nI w) := by
  have c : (nI w).toNatClampNeg = w := nI_clamp (by omega)
  have v : vp_in (nI w) 24 := vp_in_nI hw (by omega)
  have e6 : nI w * 6 = nI (6 * w) := by
    have t : nI w * nI 6 = nI (6 * w) := by rw [pk_mul, Nat.mul_comm]
    exact t
  have c6 : (nI (6 * w)).toNatClampNeg = 6 * w := nI_clamp (by omega)
  have ep : PL w - 1 = nI q := by rw [e]; exact nI_pred q
  rw [← ep] at h
  unfold wpX_readFromPipe
  dsimp only
  rw [c]
  exact ⟨v, br_f (by rw [e]; exact nI_ne0 (by omega) (by omega)) (nm_r e6 ⟨vp_in_nI (by omega) (by omega), nm_r (e' := A (6 * w)) (by rw [c6]) ⟨6, dt_xR41 hw h 5 0 rfl⟩⟩)⟩
theorem dt_xRFe {post : Int32 → SX → Prop} (ho : o < 24) (hw : w < 28) (hq : q ≤ 8) (eW : W o = nI w) (eO : O o = nI q) (eF : FL w = nI q) (h : post (-5) (al, L, N, S, W, O, FL, FB, PL, A)) : wpX_readFromFile post (al, L, N, S, W, O, FL, FB, PL, A) (nI o) := by
  have c : (nI o).toNatClampNeg = o := nI_clamp (by omega)
  have cw : (nI w).toNatClampNeg = w := nI_clamp (by omega)
  have v : vp_in (nI o) 24 := vp_in_nI ho (by omega)
  have vw : vp_in (nI w) 28 := vp_in_nI hw (by omega)
  unfold wpX_readFromFile
  dsimp only
  rw [c]
  refine ⟨v, nm_r eW ⟨v, nm_r eO ⟨vw, ?_⟩⟩⟩
  rw [cw]
  exact br_f (by rw [eF]; exact nI_nlt (by omega) (by omega)) h
theorem dt_xRFk {post : Int32 → SX → Prop} (ho : o < 24) (hw : w < 28) (hqr : q < r) (hr : r ≤ 8) (eW : W o = nI w) (eO : O o = nI q) (eF : FL w = nI r) (h : post (FB (8 * w + q)) (al, L, N, S, W, upd O o (nI (q + 1)), FL, FB, PL, A)) : wpX_readFromFile post (al, L, N, S, W, O, FL, FB, PL, A) (nI o) := by
  have c : (nI o).toNatClampNeg = o := nI_clamp (by omega)
  have cw : (nI w).toNatClampNeg = w := nI_clamp (by omega)
  have v : vp_in (nI o) 24 := vp_in_nI ho (by omega)
  have vw : vp_in (nI w) 28 := vp_in_nI hw (by omega)
  have b := dt_wx8 (w := w) (q := q) hw (by omega)
  unfold wpX_readFromFile
  dsimp only
  rw [c]
  refine ⟨v, nm_r eW ⟨v, nm_r eO ⟨vw, ?_⟩⟩⟩
  rw [cw]
  refine br_t (by rw [eF]; exact nI_lt hqr (by omega)) ⟨v, nm_r (e' := upd O o (nI (q + 1))) (by rw [nI_1]) ⟨b.2, ?_⟩⟩
  rw [b.1]
  exact h
/-- the reference's shift -/
theorem dt_yR107 {post : Int32 → SY → Prop} (hw : w < 24) (hq : q < 6) (e : PL w = nI q) (h : post x (al, L, S, W, O, N, FL, FB, PL, dt_sh B (6 * w) q)) : ∀ k i, i + k = q → wY_read_107 post (nI w) x (k + 1) (nI i) al L S W O N FL FB PL (dt_sh B (6 * w) i) := by
  have c : (nI w).toNatClampNeg = w := nI_clamp (by omega)
  have v : vp_in (nI w) 24 := vp_in_nI hw (by omega)
  intro k
  induction k with
  | zero =>
    intro i hi
    have ei : i = q := by omega
    subst ei
    exact ⟨v, br_t (by rw [c, e]; exact nI_le (by omega) (by omega)) h⟩
  | succ k ih =>
    intro i hi
    have b := dt_wy6 (w := w) (q := i) hw (by omega)
    have e1 : 6 * nI w + nI i + 1 = nI (6 * w + i + 1) := by rw [dt_y6]; exact nI_1 _
    have c1 : (nI (6 * w + i + 1)).toNatClampNeg = 6 * w + i + 1 := nI_clamp (by omega)
    exact ⟨v, br_f (by rw [c, e]; exact nI_ge (by omega) (by omega)) ⟨by rw [e1]; exact vp_in_nI (by omega) (by omega), b.2, nm_r (e' := dt_sh B (6 * w) (i + 1)) (by rw [e1, c1, b.1]; rfl) (nm_r (nI_1 i) (ih (i + 1) (by omega)))⟩⟩
end
