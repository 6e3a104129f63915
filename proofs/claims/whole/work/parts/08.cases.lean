/-! write, read and seek at their outer names, a theorem a case and side -/
section
variable {al L N S W O FL FB PL A B : Nat → Int32} {p d o w q r : Nat} {x : Int32}
theorem dt_xW1 {post : Int32 → SX → Prop} (hp : p < 4) (hd : d < 6) (ho : o < 24) (ha : ¬ al p = 0) (e : L (6 * p + d) = nI o) (hs : S o = 1) (h : post (-1) (al, L, N, S, W, O, FL, FB, PL, A)) : wpX_write post (al, L, N, S, W, O, FL, FB, PL, A) (nI p) (nI d) x := by
  have co : (nI o).toNatClampNeg = o := nI_clamp (by omega)
  have vo : vp_in (nI o) 24 := vp_in_nI ho (by omega)
  unfold wpX_write
  dsimp only
  refine dt_xOf_t hp hd ha e (br_f (dt_ne (by omega)) ⟨vo, ?_⟩)
  rw [co]
  exact br_t hs h
theorem dt_xW2b {post : Int32 → SX → Prop} (hL : ∀ i, i < 24 → L i = -1 ∨ ∃ o, o < 24 ∧ L i = nI o) (hp : p < 4) (hd : d < 6) (ho : o < 24) (ha : ¬ al p = 0) (e : L (6 * p + d) = nI o) (hw : w < 24) (eW : W o = nI w) (hs : S o = 2) (hh : ¬ dt_Has L S W 1 (nI w)) (h : post (-3) (al, L, N, S, W, O, FL, FB, PL, A)) : wpX_write post (al, L, N, S, W, O, FL, FB, PL, A) (nI p) (nI d) x := by
  have co : (nI o).toNatClampNeg = o := nI_clamp (by omega)
  have vo : vp_in (nI o) 24 := vp_in_nI ho (by omega)
  unfold wpX_write
  dsimp only
  refine dt_xOf_t hp hd ha e (br_f (dt_ne (by omega)) ⟨vo, ?_⟩)
  rw [co]
  rw [eW]
  exact br_f (by rw [hs]; decide) ⟨vo, br_t hs ⟨vo, dt_xWPb hL hh h⟩⟩
theorem dt_xW2w {post : Int32 → SX → Prop} (hL : ∀ i, i < 24 → L i = -1 ∨ ∃ o, o < 24 ∧ L i = nI o) (hp : p < 4) (hd : d < 6) (ho : o < 24) (ha : ¬ al p = 0) (e : L (6 * p + d) = nI o) (hw : w < 24) (eW : W o = nI w) (hs : S o = 2) (hh : dt_Has L S W 1 (nI w)) (eP : PL w = nI 6) (h : post (-4) (al, L, N, S, W, O, FL, FB, PL, A)) : wpX_write post (al, L, N, S, W, O, FL, FB, PL, A) (nI p) (nI d) x := by
  have co : (nI o).toNatClampNeg = o := nI_clamp (by omega)
  have vo : vp_in (nI o) 24 := vp_in_nI ho (by omega)
  unfold wpX_write
  dsimp only
  refine dt_xOf_t hp hd ha e (br_f (dt_ne (by omega)) ⟨vo, ?_⟩)
  rw [co]
  rw [eW]
  exact br_f (by rw [hs]; decide) ⟨vo, br_t hs ⟨vo, dt_xWPw hL hh hw eP h⟩⟩
theorem dt_xW2k {post : Int32 → SX → Prop} (hL : ∀ i, i < 24 → L i = -1 ∨ ∃ o, o < 24 ∧ L i = nI o) (hp : p < 4) (hd : d < 6) (ho : o < 24) (ha : ¬ al p = 0) (e : L (6 * p + d) = nI o) (hw : w < 24) (eW : W o = nI w) (hs : S o = 2) (hh : dt_Has L S W 1 (nI w)) (hq : q < 6) (eP : PL w = nI q) (h : post 0 (al, L, N, S, W, O, FL, FB, upd PL w (nI (q + 1)), upd A (6 * w + q) (x &&& 255))) : wpX_write post (al, L, N, S, W, O, FL, FB, PL, A) (nI p) (nI d) x := by
  have co : (nI o).toNatClampNeg = o := nI_clamp (by omega)
  have vo : vp_in (nI o) 24 := vp_in_nI ho (by omega)
  unfold wpX_write
  dsimp only
  refine dt_xOf_t hp hd ha e (br_f (dt_ne (by omega)) ⟨vo, ?_⟩)
  rw [co]
  rw [eW]
  exact br_f (by rw [hs]; decide) ⟨vo, br_t hs ⟨vo, dt_xWPk hL hh hw hq eP h⟩⟩
theorem dt_xW0n {post : Int32 → SX → Prop} (hp : p < 4) (hd : d < 6) (ho : o < 24) (ha : ¬ al p = 0) (e : L (6 * p + d) = nI o) (hs : S o = 0) (eO : O o = nI 8) (h : post (-2) (al, L, N, S, W, O, FL, FB, PL, A)) : wpX_write post (al, L, N, S, W, O, FL, FB, PL, A) (nI p) (nI d) x := by
  have co : (nI o).toNatClampNeg = o := nI_clamp (by omega)
  have vo : vp_in (nI o) 24 := vp_in_nI ho (by omega)
  unfold wpX_write
  dsimp only
  refine dt_xOf_t hp hd ha e (br_f (dt_ne (by omega)) ⟨vo, ?_⟩)
  rw [co]
  exact br_f (by rw [hs]; decide) ⟨vo, br_f (by rw [hs]; decide) (dt_xWFn ho eO h)⟩
theorem dt_xW0e {post : Int32 → SX → Prop} (hp : p < 4) (hd : d < 6) (ho : o < 24) (ha : ¬ al p = 0) (e : L (6 * p + d) = nI o) (hw : w < 28) (eW : W o = nI w) (hs : S o = 0) (hq : q < 8) (eO : O o = nI q) (eF : FL w = nI q) (h : post 0 (al, L, N, S, W, upd O o (nI (q + 1)), upd FL w (nI (q + 1)), upd FB (8 * w + q) (x &&& 255), PL, A)) : wpX_write post (al, L, N, S, W, O, FL, FB, PL, A) (nI p) (nI d) x := by
  have co : (nI o).toNatClampNeg = o := nI_clamp (by omega)
  have vo : vp_in (nI o) 24 := vp_in_nI ho (by omega)
  unfold wpX_write
  dsimp only
  refine dt_xOf_t hp hd ha e (br_f (dt_ne (by omega)) ⟨vo, ?_⟩)
  rw [co]
  exact br_f (by rw [hs]; decide) ⟨vo, br_f (by rw [hs]; decide) (dt_xWFe ho hw hq eW eO eF h)⟩
theorem dt_xW0k {post : Int32 → SX → Prop} (hp : p < 4) (hd : d < 6) (ho : o < 24) (ha : ¬ al p = 0) (e : L (6 * p + d) = nI o) (hw : w < 28) (eW : W o = nI w) (hs : S o = 0) (hq : q < 8) (eO : O o = nI q) (eF : ¬ nI q = FL w) (h : post 0 (al, L, N, S, W, upd O o (nI (q + 1)), FL, upd FB (8 * w + q) (x &&& 255), PL, A)) : wpX_write post (al, L, N, S, W, O, FL, FB, PL, A) (nI p) (nI d) x := by
  have co : (nI o).toNatClampNeg = o := nI_clamp (by omega)
  have vo : vp_in (nI o) 24 := vp_in_nI ho (by omega)
  unfold wpX_write
  dsimp only
  refine dt_xOf_t hp hd ha e (br_f (dt_ne (by omega)) ⟨vo, ?_⟩)
  rw [co]
  exact br_f (by rw [hs]; decide) ⟨vo, br_f (by rw [hs]; decide) (dt_xWFk ho hw hq eW eO eF h)⟩
theorem dt_yW1 {post : Int32 → SY → Prop} (hp : p < 4) (hd : d < 6) (ho : o < 24) (ha : ¬ al p = 0) (e : L (6 * p + d) = nI o) (hw : w < 28) (eW : W o = nI w) (hs : S o = 1) (h : post (-1) (al, L, S, W, O, N, FL, FB, PL, B)) : wpY_write post (al, L, S, W, O, N, FL, FB, PL, B) (nI p) (nI d) x := by
  have co : (nI o).toNatClampNeg = o := nI_clamp (by omega)
  have vo : vp_in (nI o) 24 := vp_in_nI ho (by omega)
  have cw : (nI w).toNatClampNeg = w := nI_clamp (by omega)
  unfold wpY_write
  dsimp only
  refine dt_yFr_t hp hd ho ha e (br_t rfl ⟨dt_vy hp hd, nm_r (e' := nI o) (by rw [dt_cy hp hd]; exact e) ⟨vo, nm_r (e' := nI w) (by rw [co]; exact eW) ⟨vo, ?_⟩⟩⟩)
  rw [co]
  exact br_t hs h
theorem dt_yW2b {post : Int32 → SY → Prop} (hp : p < 4) (hd : d < 6) (ho : o < 24) (ha : ¬ al p = 0) (e : L (6 * p + d) = nI o) (hw : w < 24) (eW : W o = nI w) (hs : S o = 2) (hh : ¬ dt_Has L S W 1 (nI w)) (h : post (-3) (al, L, S, W, O, N, FL, FB, PL, B)) : wpY_write post (al, L, S, W, O, N, FL, FB, PL, B) (nI p) (nI d) x := by
  have co : (nI o).toNatClampNeg = o := nI_clamp (by omega)
  have vo : vp_in (nI o) 24 := vp_in_nI ho (by omega)
  have cw : (nI w).toNatClampNeg = w := nI_clamp (by omega)
  unfold wpY_write
  dsimp only
  refine dt_yFr_t hp hd ho ha e (br_t rfl ⟨dt_vy hp hd, nm_r (e' := nI o) (by rw [dt_cy hp hd]; exact e) ⟨vo, nm_r (e' := nI w) (by rw [co]; exact eW) ⟨vo, ?_⟩⟩⟩)
  rw [co]
  exact br_f (by rw [hs]; decide) ⟨vo, br_t hs (dt_yHO (by decide) (fun h2 => absurd h2 hh) (fun _ => br_t rfl h))⟩
theorem dt_yW2w {post : Int32 → SY → Prop} (hp : p < 4) (hd : d < 6) (ho : o < 24) (ha : ¬ al p = 0) (e : L (6 * p + d) = nI o) (hw : w < 24) (eW : W o = nI w) (hs : S o = 2) (hh : dt_Has L S W 1 (nI w)) (eP : PL w = nI 6) (h : post (-4) (al, L, S, W, O, N, FL, FB, PL, B)) : wpY_write post (al, L, S, W, O, N, FL, FB, PL, B) (nI p) (nI d) x := by
  have co : (nI o).toNatClampNeg = o := nI_clamp (by omega)
  have vo : vp_in (nI o) 24 := vp_in_nI ho (by omega)
  have cw : (nI w).toNatClampNeg = w := nI_clamp (by omega)
  unfold wpY_write
  dsimp only
  refine dt_yFr_t hp hd ho ha e (br_t rfl ⟨dt_vy hp hd, nm_r (e' := nI o) (by rw [dt_cy hp hd]; exact e) ⟨vo, nm_r (e' := nI w) (by rw [co]; exact eW) ⟨vo, ?_⟩⟩⟩)
  rw [co]
  have vw : vp_in (nI w) 24 := vp_in_nI hw (by omega)
  rw [cw]
  exact br_f (by rw [hs]; decide) ⟨vo, br_t hs (dt_yHO (by decide) (fun _ => br_f (by decide) ⟨vw, br_t eP h⟩) (fun h2 => absurd hh h2))⟩
theorem dt_yW2k {post : Int32 → SY → Prop} (hp : p < 4) (hd : d < 6) (ho : o < 24) (ha : ¬ al p = 0) (e : L (6 * p + d) = nI o) (hw : w < 24) (eW : W o = nI w) (hs : S o = 2) (hh : dt_Has L S W 1 (nI w)) (hq : q < 6) (eP : PL w = nI q) (h : post 0 (al, L, S, W, O, N, FL, FB, upd PL w (nI (q + 1)), upd B (6 * w + q) (x &&& 255))) : wpY_write post (al, L, S, W, O, N, FL, FB, PL, B) (nI p) (nI d) x := by
  have co : (nI o).toNatClampNeg = o := nI_clamp (by omega)
  have vo : vp_in (nI o) 24 := vp_in_nI ho (by omega)
  have cw : (nI w).toNatClampNeg = w := nI_clamp (by omega)
  unfold wpY_write
  dsimp only
  refine dt_yFr_t hp hd ho ha e (br_t rfl ⟨dt_vy hp hd, nm_r (e' := nI o) (by rw [dt_cy hp hd]; exact e) ⟨vo, nm_r (e' := nI w) (by rw [co]; exact eW) ⟨vo, ?_⟩⟩⟩)
  rw [co]
  have vw : vp_in (nI w) 24 := vp_in_nI hw (by omega)
  have b := dt_wy6 hw hq
  rw [cw, eP]
  exact br_f (by rw [hs]; decide) ⟨vo, br_t hs (dt_yHO (by decide) (fun _ => br_f (by decide) ⟨vw, br_f (fun h6 => absurd (dt_inj (b := 6) (by omega) (by omega) h6) (by omega)) ⟨vw, b.2, nm_r (e' := upd B (6 * w + q) (x &&& 255)) (by rw [b.1]) ⟨vw, vw, nm_r (e' := upd PL w (nI (q + 1))) (by rw [nI_1]) h⟩⟩⟩) (fun h2 => absurd hh h2))⟩
theorem dt_yW0n {post : Int32 → SY → Prop} (hp : p < 4) (hd : d < 6) (ho : o < 24) (ha : ¬ al p = 0) (e : L (6 * p + d) = nI o) (hw : w < 28) (eW : W o = nI w) (hs : S o = 0) (eO : O o = nI 8) (h : post (-2) (al, L, S, W, O, N, FL, FB, PL, B)) : wpY_write post (al, L, S, W, O, N, FL, FB, PL, B) (nI p) (nI d) x := by
  have co : (nI o).toNatClampNeg = o := nI_clamp (by omega)
  have vo : vp_in (nI o) 24 := vp_in_nI ho (by omega)
  have cw : (nI w).toNatClampNeg = w := nI_clamp (by omega)
  unfold wpY_write
  dsimp only
  refine dt_yFr_t hp hd ho ha e (br_t rfl ⟨dt_vy hp hd, nm_r (e' := nI o) (by rw [dt_cy hp hd]; exact e) ⟨vo, nm_r (e' := nI w) (by rw [co]; exact eW) ⟨vo, ?_⟩⟩⟩)
  rw [co]
  exact br_f (by rw [hs]; decide) ⟨vo, br_f (by rw [hs]; decide) ⟨vo, br_t eO h⟩⟩
theorem dt_yW0e {post : Int32 → SY → Prop} (hp : p < 4) (hd : d < 6) (ho : o < 24) (ha : ¬ al p = 0) (e : L (6 * p + d) = nI o) (hw : w < 28) (eW : W o = nI w) (hs : S o = 0) (hq : q < 8) (eO : O o = nI q) (eF : FL w = nI q) (h : post 0 (al, L, S, W, upd O o (nI (q + 1)), N, upd FL w (nI (q + 1)), upd FB (8 * w + q) (x &&& 255), PL, B)) : wpY_write post (al, L, S, W, O, N, FL, FB, PL, B) (nI p) (nI d) x := by
  have co : (nI o).toNatClampNeg = o := nI_clamp (by omega)
  have vo : vp_in (nI o) 24 := vp_in_nI ho (by omega)
  have cw : (nI w).toNatClampNeg = w := nI_clamp (by omega)
  unfold wpY_write
  dsimp only
  refine dt_yFr_t hp hd ho ha e (br_t rfl ⟨dt_vy hp hd, nm_r (e' := nI o) (by rw [dt_cy hp hd]; exact e) ⟨vo, nm_r (e' := nI w) (by rw [co]; exact eW) ⟨vo, ?_⟩⟩⟩)
  rw [co]
  have vw : vp_in (nI w) 28 := vp_in_nI hw (by omega)
  have b := dt_wy8 hw hq
  rw [cw, eO]
  refine br_f (by rw [hs]; decide) ⟨vo, br_f (by rw [hs]; decide) ⟨vo, br_f (fun h8 => absurd (dt_inj (b := 8) (by omega) (by omega) h8) (by omega)) ⟨vo, b.2, nm_r (e' := upd FB (8 * w + q) (x &&& 255)) (by rw [b.1]) ⟨vo, vw, ?_⟩⟩⟩⟩
  exact br_t eF.symm ⟨vw, vw, nm_r (e' := upd FL w (nI (q + 1))) (by rw [eF, nI_1]) ⟨vo, vo, nm_r (e' := upd O o (nI (q + 1))) (by rw [co, eO, nI_1]) h⟩⟩
theorem dt_yW0k {post : Int32 → SY → Prop} (hp : p < 4) (hd : d < 6) (ho : o < 24) (ha : ¬ al p = 0) (e : L (6 * p + d) = nI o) (hw : w < 28) (eW : W o = nI w) (hs : S o = 0) (hq : q < 8) (eO : O o = nI q) (eF : ¬ nI q = FL w) (h : post 0 (al, L, S, W, upd O o (nI (q + 1)), N, FL, upd FB (8 * w + q) (x &&& 255), PL, B)) : wpY_write post (al, L, S, W, O, N, FL, FB, PL, B) (nI p) (nI d) x := by
  have co : (nI o).toNatClampNeg = o := nI_clamp (by omega)
  have vo : vp_in (nI o) 24 := vp_in_nI ho (by omega)
  have cw : (nI w).toNatClampNeg = w := nI_clamp (by omega)
  unfold wpY_write
  dsimp only
  refine dt_yFr_t hp hd ho ha e (br_t rfl ⟨dt_vy hp hd, nm_r (e' := nI o) (by rw [dt_cy hp hd]; exact e) ⟨vo, nm_r (e' := nI w) (by rw [co]; exact eW) ⟨vo, ?_⟩⟩⟩)
  rw [co]
  have vw : vp_in (nI w) 28 := vp_in_nI hw (by omega)
  have b := dt_wy8 hw hq
  rw [cw, eO]
  refine br_f (by rw [hs]; decide) ⟨vo, br_f (by rw [hs]; decide) ⟨vo, br_f (fun h8 => absurd (dt_inj (b := 8) (by omega) (by omega) h8) (by omega)) ⟨vo, b.2, nm_r (e' := upd FB (8 * w + q) (x &&& 255)) (by rw [b.1]) ⟨vo, vw, ?_⟩⟩⟩⟩
  exact br_f eF ⟨vo, vo, nm_r (e' := upd O o (nI (q + 1))) (by rw [co, eO, nI_1]) h⟩
theorem dt_xR2 {post : Int32 → SX → Prop} (hp : p < 4) (hd : d < 6) (ho : o < 24) (ha : ¬ al p = 0) (e : L (6 * p + d) = nI o) (hs : S o = 2) (h : post (-1) (al, L, N, S, W, O, FL, FB, PL, A)) : wpX_read post (al, L, N, S, W, O, FL, FB, PL, A) (nI p) (nI d) := by
  have co : (nI o).toNatClampNeg = o := nI_clamp (by omega)
  have vo : vp_in (nI o) 24 := vp_in_nI ho (by omega)
  unfold wpX_read
  dsimp only
  refine dt_xOf_t hp hd ha e (br_f (dt_ne (by omega)) ⟨vo, ?_⟩)
  rw [co]
  exact br_t hs h
theorem dt_xR10 {post : Int32 → SX → Prop} (hL : ∀ i, i < 24 → L i = -1 ∨ ∃ o, o < 24 ∧ L i = nI o) (hp : p < 4) (hd : d < 6) (ho : o < 24) (ha : ¬ al p = 0) (e : L (6 * p + d) = nI o) (hw : w < 24) (eW : W o = nI w) (hs : S o = 1) (eP : PL w = 0) (hy : dt_Has L S W 2 (nI w) → post (-4) (al, L, N, S, W, O, FL, FB, PL, A)) (hn : ¬ dt_Has L S W 2 (nI w) → post (-5) (al, L, N, S, W, O, FL, FB, PL, A)) : wpX_read post (al, L, N, S, W, O, FL, FB, PL, A) (nI p) (nI d) := by
  have co : (nI o).toNatClampNeg = o := nI_clamp (by omega)
  have vo : vp_in (nI o) 24 := vp_in_nI ho (by omega)
  unfold wpX_read
  dsimp only
  refine dt_xOf_t hp hd ha e (br_f (dt_ne (by omega)) ⟨vo, ?_⟩)
  rw [co]
  rw [eW]
  exact br_f (by rw [hs]; decide) ⟨vo, br_t hs ⟨vo, dt_xRP0 hL hw eP hy hn⟩⟩
theorem dt_xR1k {post : Int32 → SX → Prop} (hp : p < 4) (hd : d < 6) (ho : o < 24) (ha : ¬ al p = 0) (e : L (6 * p + d) = nI o) (hw : w < 24) (eW : W o = nI w) (hs : S o = 1) (hq : q < 6) (eP : PL w = nI (q + 1)) (h : post (A (6 * w)) (al, L, N, S, W, O, FL, FB, upd PL w (nI q), dt_sh A (6 * w) 5)) : wpX_read post (al, L, N, S, W, O, FL, FB, PL, A) (nI p) (nI d) := by
  have co : (nI o).toNatClampNeg = o := nI_clamp (by omega)
  have vo : vp_in (nI o) 24 := vp_in_nI ho (by omega)
  unfold wpX_read
  dsimp only
  refine dt_xOf_t hp hd ha e (br_f (dt_ne (by omega)) ⟨vo, ?_⟩)
  rw [co]
  rw [eW]
  exact br_f (by rw [hs]; decide) ⟨vo, br_t hs ⟨vo, dt_xRPk hw hq eP h⟩⟩
theorem dt_xR0e {post : Int32 → SX → Prop} (hp : p < 4) (hd : d < 6) (ho : o < 24) (ha : ¬ al p = 0) (e : L (6 * p + d) = nI o) (hw : w < 28) (eW : W o = nI w) (hs : S o = 0) (hq : q ≤ 8) (eO : O o = nI q) (eF : FL w = nI q) (h : post (-5) (al, L, N, S, W, O, FL, FB, PL, A)) : wpX_read post (al, L, N, S, W, O, FL, FB, PL, A) (nI p) (nI d) := by
  have co : (nI o).toNatClampNeg = o := nI_clamp (by omega)
  have vo : vp_in (nI o) 24 := vp_in_nI ho (by omega)
  unfold wpX_read
  dsimp only
  refine dt_xOf_t hp hd ha e (br_f (dt_ne (by omega)) ⟨vo, ?_⟩)
  rw [co]
  exact br_f (by rw [hs]; decide) ⟨vo, br_f (by rw [hs]; decide) (dt_xRFe ho hw hq eW eO eF h)⟩
theorem dt_xR0k {post : Int32 → SX → Prop} (hp : p < 4) (hd : d < 6) (ho : o < 24) (ha : ¬ al p = 0) (e : L (6 * p + d) = nI o) (hw : w < 28) (eW : W o = nI w) (hs : S o = 0) (hqr : q < r) (hr : r ≤ 8) (eO : O o = nI q) (eF : FL w = nI r) (h : post (FB (8 * w + q)) (al, L, N, S, W, upd O o (nI (q + 1)), FL, FB, PL, A)) : wpX_read post (al, L, N, S, W, O, FL, FB, PL, A) (nI p) (nI d) := by
  have co : (nI o).toNatClampNeg = o := nI_clamp (by omega)
  have vo : vp_in (nI o) 24 := vp_in_nI ho (by omega)
  unfold wpX_read
  dsimp only
  refine dt_xOf_t hp hd ha e (br_f (dt_ne (by omega)) ⟨vo, ?_⟩)
  rw [co]
  exact br_f (by rw [hs]; decide) ⟨vo, br_f (by rw [hs]; decide) (dt_xRFk ho hw hqr hr eW eO eF h)⟩
theorem dt_yR2 {post : Int32 → SY → Prop} (hp : p < 4) (hd : d < 6) (ho : o < 24) (ha : ¬ al p = 0) (e : L (6 * p + d) = nI o) (hw : w < 28) (eW : W o = nI w) (hs : S o = 2) (h : post (-1) (al, L, S, W, O, N, FL, FB, PL, B)) : wpY_read post (al, L, S, W, O, N, FL, FB, PL, B) (nI p) (nI d) := by
  have co : (nI o).toNatClampNeg = o := nI_clamp (by omega)
  have vo : vp_in (nI o) 24 := vp_in_nI ho (by omega)
  have cw : (nI w).toNatClampNeg = w := nI_clamp (by omega)
  unfold wpY_read
  dsimp only
  refine dt_yFr_t hp hd ho ha e (br_t rfl ⟨dt_vy hp hd, nm_r (e' := nI o) (by rw [dt_cy hp hd]; exact e) ⟨vo, nm_r (e' := nI w) (by rw [co]; exact eW) ⟨vo, ?_⟩⟩⟩)
  rw [co]
  exact br_t hs h
theorem dt_yR10 {post : Int32 → SY → Prop} (hp : p < 4) (hd : d < 6) (ho : o < 24) (ha : ¬ al p = 0) (e : L (6 * p + d) = nI o) (hw : w < 24) (eW : W o = nI w) (hs : S o = 1) (eP : PL w = 0) (hy : dt_Has L S W 2 (nI w) → post (-4) (al, L, S, W, O, N, FL, FB, PL, B)) (hn : ¬ dt_Has L S W 2 (nI w) → post (-5) (al, L, S, W, O, N, FL, FB, PL, B)) : wpY_read post (al, L, S, W, O, N, FL, FB, PL, B) (nI p) (nI d) := by
  have co : (nI o).toNatClampNeg = o := nI_clamp (by omega)
  have vo : vp_in (nI o) 24 := vp_in_nI ho (by omega)
  have cw : (nI w).toNatClampNeg = w := nI_clamp (by omega)
  unfold wpY_read
  dsimp only
  refine dt_yFr_t hp hd ho ha e (br_t rfl ⟨dt_vy hp hd, nm_r (e' := nI o) (by rw [dt_cy hp hd]; exact e) ⟨vo, nm_r (e' := nI w) (by rw [co]; exact eW) ⟨vo, ?_⟩⟩⟩)
  rw [co]
  have vw : vp_in (nI w) 24 := vp_in_nI hw (by omega)
  rw [cw]
  exact br_f (by rw [hs]; decide) ⟨vo, br_t hs ⟨vw, br_t eP (dt_yHO (by decide) (fun h => br_f (by decide) (hy h)) (fun h => br_t rfl (hn h)))⟩⟩
theorem dt_yR1k {post : Int32 → SY → Prop} (hp : p < 4) (hd : d < 6) (ho : o < 24) (ha : ¬ al p = 0) (e : L (6 * p + d) = nI o) (hw : w < 24) (eW : W o = nI w) (hs : S o = 1) (hq : q < 6) (eP : PL w = nI (q + 1)) (h : post (B (6 * w)) (al, L, S, W, O, N, FL, FB, upd PL w (nI q), dt_sh B (6 * w) q)) : wpY_read post (al, L, S, W, O, N, FL, FB, PL, B) (nI p) (nI d) := by
  have co : (nI o).toNatClampNeg = o := nI_clamp (by omega)
  have vo : vp_in (nI o) 24 := vp_in_nI ho (by omega)
  have cw : (nI w).toNatClampNeg = w := nI_clamp (by omega)
  unfold wpY_read
  dsimp only
  refine dt_yFr_t hp hd ho ha e (br_t rfl ⟨dt_vy hp hd, nm_r (e' := nI o) (by rw [dt_cy hp hd]; exact e) ⟨vo, nm_r (e' := nI w) (by rw [co]; exact eW) ⟨vo, ?_⟩⟩⟩)
  rw [co]
  have vw : vp_in (nI w) 24 := vp_in_nI hw (by omega)
  have e6 : 6 * nI w = nI (6 * w) := pk_mul 6 w
  have c6 : (nI (6 * w)).toNatClampNeg = 6 * w := nI_clamp (by omega)
  rw [cw, e6, c6]
  exact br_f (by rw [hs]; decide) ⟨vo, br_t hs ⟨vw, br_f (by rw [eP]; exact nI_ne0 (by omega) (by omega)) ⟨vp_in_nI (by omega) (by omega), nm_e ⟨vw, vw, nm_r (e' := upd PL w (nI q)) (by rw [eP, nI_pred]) ⟨q + 1, dt_yR107 hw hq pk_us h q 0 (by omega)⟩⟩⟩⟩⟩
theorem dt_yR0e {post : Int32 → SY → Prop} (hp : p < 4) (hd : d < 6) (ho : o < 24) (ha : ¬ al p = 0) (e : L (6 * p + d) = nI o) (hw : w < 28) (eW : W o = nI w) (hs : S o = 0) (eO : O o = FL w) (h : post (-5) (al, L, S, W, O, N, FL, FB, PL, B)) : wpY_read post (al, L, S, W, O, N, FL, FB, PL, B) (nI p) (nI d) := by
  have co : (nI o).toNatClampNeg = o := nI_clamp (by omega)
  have vo : vp_in (nI o) 24 := vp_in_nI ho (by omega)
  have cw : (nI w).toNatClampNeg = w := nI_clamp (by omega)
  unfold wpY_read
  dsimp only
  refine dt_yFr_t hp hd ho ha e (br_t rfl ⟨dt_vy hp hd, nm_r (e' := nI o) (by rw [dt_cy hp hd]; exact e) ⟨vo, nm_r (e' := nI w) (by rw [co]; exact eW) ⟨vo, ?_⟩⟩⟩)
  rw [co]
  have vw : vp_in (nI w) 28 := vp_in_nI hw (by omega)
  rw [cw]
  exact br_f (by rw [hs]; decide) ⟨vo, br_f (by rw [hs]; decide) ⟨vo, vw, br_t eO h⟩⟩
theorem dt_yR0k {post : Int32 → SY → Prop} (hp : p < 4) (hd : d < 6) (ho : o < 24) (ha : ¬ al p = 0) (e : L (6 * p + d) = nI o) (hw : w < 28) (eW : W o = nI w) (hs : S o = 0) (hqr : q < r) (hr : r ≤ 8) (eO : O o = nI q) (eF : FL w = nI r) (h : post (FB (8 * w + q)) (al, L, S, W, upd O o (nI (q + 1)), N, FL, FB, PL, B)) : wpY_read post (al, L, S, W, O, N, FL, FB, PL, B) (nI p) (nI d) := by
  have co : (nI o).toNatClampNeg = o := nI_clamp (by omega)
  have vo : vp_in (nI o) 24 := vp_in_nI ho (by omega)
  have cw : (nI w).toNatClampNeg = w := nI_clamp (by omega)
  unfold wpY_read
  dsimp only
  refine dt_yFr_t hp hd ho ha e (br_t rfl ⟨dt_vy hp hd, nm_r (e' := nI o) (by rw [dt_cy hp hd]; exact e) ⟨vo, nm_r (e' := nI w) (by rw [co]; exact eW) ⟨vo, ?_⟩⟩⟩)
  rw [co]
  have vw : vp_in (nI w) 28 := vp_in_nI hw (by omega)
  have e8 : 8 * nI w + nI (q + 1) - 1 = nI (8 * w + q) := by rw [dt_y8]; exact nI_pred (8 * w + q)
  have c8 : (nI (8 * w + q)).toNatClampNeg = 8 * w + q := nI_clamp (by omega)
  rw [cw]
  refine br_f (by rw [hs]; decide) ⟨vo, br_f (by rw [hs]; decide) ⟨vo, vw, br_f (by rw [eO, eF]; exact fun h2 => absurd (dt_inj (by omega) (by omega) h2) (by omega)) ⟨vo, vo, nm_r (e' := upd O o (nI (q + 1))) (by rw [eO, nI_1]) ⟨vo, ?_⟩⟩⟩⟩
  rw [pk_us, e8, c8]
  exact ⟨vp_in_nI (by omega) (by omega), h⟩
theorem dt_xSk {post : Int32 → SX → Prop} (hp : p < 4) (hd : d < 6) (ho : o < 24) (ha : ¬ al p = 0) (e : L (6 * p + d) = nI o) (hw : w < 28) (eW : W o = nI w) (hy : S o = 0 → ¬ x < 0 → x ≤ FL w → post 0 (al, L, N, S, W, upd O o x, FL, FB, PL, A)) (hn : ¬ (S o = 0 ∧ ¬ x < 0 ∧ x ≤ FL w) → post (-1) (al, L, N, S, W, O, FL, FB, PL, A)) : wpX_seek post (al, L, N, S, W, O, FL, FB, PL, A) (nI p) (nI d) x := by
  have co : (nI o).toNatClampNeg = o := nI_clamp (by omega)
  have vo : vp_in (nI o) 24 := vp_in_nI ho (by omega)
  unfold wpX_seek
  dsimp only
  refine dt_xOf_t hp hd ha e (br_f (dt_ne (by omega)) ⟨vo, ?_⟩)
  rw [co]
  have cw : (nI w).toNatClampNeg = w := nI_clamp (by omega)
  have vw : vp_in (nI w) 28 := vp_in_nI hw (by omega)
  rw [eW, cw]
  exact br_c (fun hs => br_c (fun h0 => hn fun h => h.2.1 h0) (fun h0 => ⟨vo, vw, br_c (fun hl => ⟨vo, nm_e (hy hs h0 hl)⟩) (fun hl => hn fun h => hl h.2.2)⟩)) (fun hs => hn fun h => hs h.1)
theorem dt_ySk {post : Int32 → SY → Prop} (hp : p < 4) (hd : d < 6) (ho : o < 24) (ha : ¬ al p = 0) (e : L (6 * p + d) = nI o) (hw : w < 28) (eW : W o = nI w) (hy : S o = 0 → ¬ x < 0 → x ≤ FL w → post 0 (al, L, S, W, upd O o x, N, FL, FB, PL, B)) (hn : ¬ (S o = 0 ∧ ¬ x < 0 ∧ x ≤ FL w) → post (-1) (al, L, S, W, O, N, FL, FB, PL, B)) : wpY_seek post (al, L, S, W, O, N, FL, FB, PL, B) (nI p) (nI d) x := by
  have co : (nI o).toNatClampNeg = o := nI_clamp (by omega)
  have vo : vp_in (nI o) 24 := vp_in_nI ho (by omega)
  have cw : (nI w).toNatClampNeg = w := nI_clamp (by omega)
  have vw : vp_in (nI w) 28 := vp_in_nI hw (by omega)
  unfold wpY_seek
  dsimp only
  refine dt_yFr_t hp hd ho ha e (br_t rfl ⟨dt_vy hp hd, nm_r (e' := nI o) (by rw [dt_cy hp hd]; exact e) ⟨vo, ?_⟩⟩)
  rw [co, eW, cw]
  exact br_c (fun hs => br_c (fun h0 => hn fun h => h.2.1 h0) (fun h0 => ⟨vo, vw, br_c (fun hl => ⟨vo, nm_e (hy hs h0 hl)⟩) (fun hl => hn fun h => hl h.2.2)⟩)) (fun hs => hn fun h => hs h.1)
end
