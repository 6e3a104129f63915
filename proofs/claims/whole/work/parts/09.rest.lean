/-! the five calls that are left -/
theorem i_vc_seek {k : Nat} {u : SX} {v : SY} (I : i_Rel k u v) (hk : k + 4 ≤ 2048) (v1 : Int32) (v2 : Int32) (v3 : Int32) : wpX_seek (fun r u' => wpY_seek (fun r' v' => r' = r ∧ i_Rel (k + 4) u' v') v v1 v2 v3) u v1 v2 v3 := by
  obtain ⟨al, L, N, S, W, O, FL, FB, PL, A, B, rfl, rfl, I, hB⟩ := I
  have hL := I.1
  rcases dt_opn al hL v1 v2 with ⟨p, d, o, hp, hd, ho, rfl, rfl, ha, e⟩ | hb
  · obtain ⟨w, hw, eW, _⟩ := I.2.2.2.1 o ho
    obtain ⟨r, hr, eF⟩ := I.2.2.2.2.2.1 w hw
    refine dt_xSk hp hd ho ha e hw eW (fun h1 h2 h3 => ?_) (fun hn => ?_)
    · obtain ⟨j, hj, rfl⟩ := nI_of h2
      have h4 : j ≤ r := by rw [eF] at h3; exact (nI_leI hj (by omega)).mp h3
      have I' : dt_Inv L N S W (upd O o (nI j)) FL PL := dt_invO I ho hw eW (by omega) h3
      exact dt_ySk hp hd ho ha e hw eW (fun _ _ _ => ⟨rfl, dt_mk I' hB⟩) (fun h => absurd ⟨h1, h2, h3⟩ h)
    · exact dt_ySk hp hd ho ha e hw eW (fun h1 h2 h3 => absurd ⟨h1, h2, h3⟩ hn) (fun _ => ⟨rfl, dt_mk I hB⟩)
  · unfold wpX_seek wpY_seek
    dsimp only
    exact dt_xOf_f hb (br_t rfl (dt_yFr_f hb (br_f (by decide) ⟨rfl, dt_mk I hB⟩)))
theorem i_vc_write {k : Nat} {u : SX} {v : SY} (I : i_Rel k u v) (hk : k + 4 ≤ 2048) (v1 : Int32) (v2 : Int32) (v3 : Int32) : wpX_write (fun r u' => wpY_write (fun r' v' => r' = r ∧ i_Rel (k + 4) u' v') v v1 v2 v3) u v1 v2 v3 := by
  obtain ⟨al, L, N, S, W, O, FL, FB, PL, A, B, rfl, rfl, I, hB⟩ := I
  have hL := I.1
  rcases dt_opn al hL v1 v2 with ⟨p, d, o, hp, hd, ho, rfl, rfl, ha, e⟩ | hb
  · obtain ⟨w, hw, eW, hw2⟩ := I.2.2.2.1 o ho
    rcases I.2.2.1 o ho with hs | hs | hs
    · obtain ⟨q, hq, eO⟩ := I.2.2.2.2.1 o ho
      obtain ⟨r, hr, eF⟩ := I.2.2.2.2.2.1 w hw
      have hl := I.2.2.2.2.2.2.2 (6 * p + d) o w (by omega) ho hw e hs eW
      rw [eO, eF] at hl
      have hqr : q ≤ r := (nI_leI (by omega) (by omega)).mp hl
      by_cases h8 : q = 8
      · rw [h8] at eO
        exact dt_xW0n hp hd ho ha e hs eO (dt_yW0n hp hd ho ha e hw eW hs eO ⟨rfl, dt_mk I hB⟩)
      · by_cases hf : q = r
        · subst hf
          have I1 : dt_Inv L N S W O (upd FL w (nI (q + 1))) PL := dt_invFL I hw (by omega) eF
          have I' : dt_Inv L N S W (upd O o (nI (q + 1))) (upd FL w (nI (q + 1))) PL := dt_invO I1 ho hw eW (by omega) (by rw [pk_us]; exact nI_le (Nat.le_refl _) (by omega))
          exact dt_xW0e hp hd ho ha e hw eW hs (by omega) eO eF (dt_yW0e hp hd ho ha e hw eW hs (by omega) eO eF ⟨rfl, dt_mk I' hB⟩)
        · have eF' : ¬ nI q = FL w := by rw [eF]; exact fun h => hf (dt_inj (by omega) (by omega) h)
          have I' : dt_Inv L N S W (upd O o (nI (q + 1))) FL PL := dt_invO I ho hw eW (by omega) (by rw [eF]; exact nI_le (by omega) (by omega))
          exact dt_xW0k hp hd ho ha e hw eW hs (by omega) eO eF' (dt_yW0k hp hd ho ha e hw eW hs (by omega) eO eF' ⟨rfl, dt_mk I' hB⟩)
    · exact dt_xW1 hp hd ho ha e hs (dt_yW1 hp hd ho ha e hw eW hs ⟨rfl, dt_mk I hB⟩)
    · have hw3 : w < 24 := hw2 (by rw [hs]; decide)
      obtain ⟨q, hq, eP⟩ := I.2.2.2.2.2.2.1 w hw3
      by_cases hh : dt_Has L S W 1 (nI w)
      · by_cases h6 : q = 6
        · rw [h6] at eP
          exact dt_xW2w hL hp hd ho ha e hw3 eW hs hh eP (dt_yW2w hp hd ho ha e hw3 eW hs hh eP ⟨rfl, dt_mk I hB⟩)
        · have hq6 : q < 6 := by omega
          have I' : dt_Inv L N S W O FL (upd PL w (nI (q + 1))) := dt_invP I (by omega)
          exact dt_xW2k hL hp hd ho ha e hw3 eW hs hh hq6 eP (dt_yW2k hp hd ho ha e hw3 eW hs hh hq6 eP ⟨rfl, dt_mk I' (dt_PBput hB hw3 hq6 eP)⟩)
      · exact dt_xW2b hL hp hd ho ha e hw3 eW hs hh (dt_yW2b hp hd ho ha e hw3 eW hs hh ⟨rfl, dt_mk I hB⟩)
  · unfold wpX_write wpY_write
    dsimp only
    exact dt_xOf_f hb (br_t rfl (dt_yFr_f hb (br_f (by decide) ⟨rfl, dt_mk I hB⟩)))
theorem i_vc_read {k : Nat} {u : SX} {v : SY} (I : i_Rel k u v) (hk : k + 4 ≤ 2048) (v1 : Int32) (v2 : Int32) : wpX_read (fun r u' => wpY_read (fun r' v' => r' = r ∧ i_Rel (k + 4) u' v') v v1 v2) u v1 v2 := by
  obtain ⟨al, L, N, S, W, O, FL, FB, PL, A, B, rfl, rfl, I, hB⟩ := I
  have hL := I.1
  rcases dt_opn al hL v1 v2 with ⟨p, d, o, hp, hd, ho, rfl, rfl, ha, e⟩ | hb
  · obtain ⟨w, hw, eW, hw2⟩ := I.2.2.2.1 o ho
    rcases I.2.2.1 o ho with hs | hs | hs
    · obtain ⟨q, hq, eO⟩ := I.2.2.2.2.1 o ho
      obtain ⟨r, hr, eF⟩ := I.2.2.2.2.2.1 w hw
      have hl := I.2.2.2.2.2.2.2 (6 * p + d) o w (by omega) ho hw e hs eW
      rw [eO, eF] at hl
      have hqr : q ≤ r := (nI_leI (by omega) (by omega)).mp hl
      by_cases hf : q = r
      · subst hf
        exact dt_xR0e hp hd ho ha e hw eW hs hq eO eF (dt_yR0e hp hd ho ha e hw eW hs (eO.trans eF.symm) ⟨rfl, dt_mk I hB⟩)
      · have hlt : q < r := by omega
        have I' : dt_Inv L N S W (upd O o (nI (q + 1))) FL PL := dt_invO I ho hw eW (by omega) (by rw [eF]; exact nI_le (by omega) (by omega))
        exact dt_xR0k hp hd ho ha e hw eW hs hlt hr eO eF (dt_yR0k hp hd ho ha e hw eW hs hlt hr eO eF ⟨rfl, dt_mk I' hB⟩)
    · have hw3 : w < 24 := hw2 (by rw [hs]; decide)
      obtain ⟨q, hq, eP⟩ := I.2.2.2.2.2.2.1 w hw3
      cases q with
      | zero =>
        have eP0 : PL w = 0 := eP
        exact dt_xR10 hL hp hd ho ha e hw3 eW hs eP0 (fun h => dt_yR10 hp hd ho ha e hw3 eW hs eP0 (fun _ => ⟨rfl, dt_mk I hB⟩) (fun h2 => absurd h h2)) (fun h => dt_yR10 hp hd ho ha e hw3 eW hs eP0 (fun h2 => absurd h2 h) (fun _ => ⟨rfl, dt_mk I hB⟩))
      | succ q =>
        have I' : dt_Inv L N S W O FL (upd PL w (nI q)) := dt_invP I (by omega)
        have eb : B (6 * w) = A (6 * w) := (hB w (q + 1) 0 hw3 hq (by omega) eP).symm
        exact dt_xR1k hp hd ho ha e hw3 eW hs (by omega) eP (dt_yR1k hp hd ho ha e hw3 eW hs (by omega) eP ⟨eb, dt_mk I' (dt_PBtake hB hw3 (by omega) eP)⟩)
    · exact dt_xR2 hp hd ho ha e hs (dt_yR2 hp hd ho ha e hw eW hs ⟨rfl, dt_mk I hB⟩)
  · unfold wpX_read wpY_read
    dsimp only
    exact dt_xOf_f hb (br_t rfl (dt_yFr_f hb (br_f (by decide) ⟨rfl, dt_mk I hB⟩)))
section
variable {al L N S W O FL FB PL A B : Nat → Int32} {p d o n f w : Nat}
theorem dt_x53 {post : Int32 → SX → Prop} (hn : n < 4) (e : N n = nI f) (hp : p < 4) (hd : d < 6) (ho : o < 24) (hno : ¬ dt_Op L o) (hmo : ∀ j, j < o → dt_Op L j) (h : post (nI d) (al, upd L (6 * p + d) (nI o), N, upd S o 0, upd W o (nI f), upd O o 0, FL, FB, PL, A)) : wX_open_53 post (nI p) (nI n) (nI d) al L N S W O FL FB PL A := by
  have cn : (nI n).toNatClampNeg = n := nI_clamp (by omega)
  unfold wX_open_53
  rw [cn, e]
  exact ⟨vp_in_nI hn (by omega), dt_xNO hp hd ho hno hmo h⟩
theorem dt_y47 {post : Int32 → SY → Prop} (hL : ∀ i, i < 24 → L i = -1 ∨ ∃ o, o < 24 ∧ L i = nI o) (hn : n < 4) (e : N n = nI f) (hp : p < 4) (hd : d < 6) (ed : L (6 * p + d) = -1) (hd2 : ∀ e, 0 ≤ e → e < d → L (6 * p + e) ≠ -1) (ho : o < 24) (hno : ¬ dt_Op L o) (hmo : ∀ j, j < o → dt_Op L j) (h : post (nI d) (al, upd L (6 * p + d) (nI o), upd S o 0, upd W o (nI f), upd O o 0, N, FL, FB, PL, B)) : wY_open_47 post (nI p) (nI n) al L S W O N FL FB PL B := by
  have cn : (nI n).toNatClampNeg = n := nI_clamp (by omega)
  unfold wY_open_47
  rw [cn, e]
  exact ⟨vp_in_nI hn (by omega), dt_yNO hL hp hd ed hd2 ho hno hmo h⟩
theorem dt_yP24 {post : Int32 → SY → Prop} (hS : ∀ o, o < 24 → S o = 0 ∨ S o = 1 ∨ S o = 2) (hf : f < 24) (hn : f < 23 → ¬ dt_Pi L S W f) (hm : ∀ j, j < f → dt_Pi L S W j) (h : wY_pipe_45 post (nI p) (nI f) al L S W O N FL FB PL B) : ∀ k i, i + k = f → wY_pipe_24 post (nI p) al L S W O N FL FB PL B (k + 1) (nI i) := by
  intro k
  induction k with
  | zero =>
    intro i hi
    have ei : i = f := by omega
    subst ei
    by_cases e : 23 ≤ i
    · exact br_t (nI_le (a := 23) e (by omega)) h
    · exact br_f (nI_ge (b := 23) (by omega) (by omega)) (dt_yHO3 hS (fun h2 => absurd h2 (hn (by omega))) (fun _ => br_t rfl h))
  | succ k ih =>
    intro i hi
    exact br_f (nI_ge (b := 23) (by omega) (by omega)) (dt_yHO3 hS (fun _ => br_f (by decide) (nm_r (nI_1 i) (ih (i + 1) (by omega)))) (fun h2 => absurd (hm i (by omega)) h2))
end
theorem i_vc_open {k : Nat} {u : SX} {v : SY} (I : i_Rel k u v) (hk : k + 4 ≤ 2048) (v1 : Int32) (v2 : Int32) : wpX_open (fun r u' => wpY_open (fun r' v' => r' = r ∧ i_Rel (k + 4) u' v') v v1 v2) u v1 v2 := by
  obtain ⟨al, L, N, S, W, O, FL, FB, PL, A, B, rfl, rfl, I, hB⟩ := I
  have hL := I.1
  have hN := I.2.1
  unfold wpX_open wpY_open
  dsimp only
  rcases dt_alv al v1 with ⟨p, hp, rfl, ha⟩ | ha
  · rcases dt_nam v2 with ⟨n, hn, rfl⟩ | hn
    · have cn : (nI n).toNatClampNeg = n := nI_clamp (by omega)
      have vn : vp_in (nI n) 4 := vp_in_nI hn (by omega)
      rw [cn]
      refine dt_xAl_t hp ha (br_f (by decide) (dt_xNa_t hn (br_f (by decide) ?_)))
      rcases dt_leastD L (6 * p) 0 with hm | ⟨c, hc0, hc, ec, hm⟩
      · exact dt_xLF_n (c := 0) hp (by omega) hm (br_t rfl (dt_yAl_t hp ha (br_t rfl (dt_yNa_t hn (br_t rfl (dt_yLF_n hL hp hm (br_f (by decide) ⟨rfl, dt_mk I hB⟩)))))))
      · obtain ⟨o, ho, hno, hmo⟩ := dt_leastO (L := L) ⟨6 * p + c, by omega, ec⟩
        refine dt_xLF_s (c := 0) hp hc0 hc ec hm (br_f (dt_ne (by omega)) ⟨vn, ?_⟩)
        rcases hN n hn with e | ⟨f, hf, e⟩
        · obtain ⟨f, hf, hnf, hmf⟩ := dt_leastF L S W ⟨n, hn, e⟩
          have I1 : dt_Inv L (upd N n (nI f)) S W O (upd FL f 0) PL := dt_invFile I hf hnf
          have I' : dt_Inv (upd L (6 * p + c) (nI o)) (upd N n (nI f)) (upd S o 0) (upd W o (nI f)) (upd O o 0) (upd FL f 0) PL := dt_invNew I1 (by omega) ho hno (Or.inl rfl) hf (fun h => absurd rfl h)
          refine br_t e (dt_xNF hL hf hnf hmf ⟨vn, nm_e (dt_x53 hn pk_us hp hc ho hno hmo ?_)⟩)
          refine dt_yAl_t hp ha (br_t rfl (dt_yNa_t hn (br_t rfl (dt_yLF_s hL hp hc ec hm (br_t (nI_pos' (by omega)) ⟨vn, br_f (by rw [e]; decide) (dt_yNF hf hnf hmf ⟨vn, nm_e (dt_y47 hL hn pk_us hp hc ec hm ho hno hmo ?_)⟩)⟩)))))
          exact ⟨rfl, dt_mk I' hB⟩
        · have I' : dt_Inv (upd L (6 * p + c) (nI o)) N (upd S o 0) (upd W o (nI f)) (upd O o 0) FL PL := dt_invNew I (by omega) ho hno (Or.inl rfl) hf (fun h => absurd rfl h)
          refine br_f (by rw [e]; exact dt_ne (by omega)) (dt_x53 hn e hp hc ho hno hmo ?_)
          refine dt_yAl_t hp ha (br_t rfl (dt_yNa_t hn (br_t rfl (dt_yLF_s hL hp hc ec hm (br_t (nI_pos' (by omega)) ⟨vn, br_t (by rw [e]; exact nI_pos' (by omega)) (dt_y47 hL hn e hp hc ec hm ho hno hmo ?_)⟩)))))
          exact ⟨rfl, dt_mk I' hB⟩
    · exact dt_xAl_t hp ha (br_f (by decide) (dt_xNa_f hn (br_t rfl (dt_yAl_t hp ha (br_t rfl (dt_yNa_f hn (br_f (by decide) ⟨rfl, dt_mk I hB⟩)))))))
  · exact dt_xAl_f ha (br_t rfl (dt_yAl_f ha (br_f (by decide) ⟨rfl, dt_mk I hB⟩)))
theorem i_vc_pipe {k : Nat} {u : SX} {v : SY} (I : i_Rel k u v) (hk : k + 4 ≤ 2048) (v1 : Int32) : wpX_pipe (fun r u' => wpY_pipe (fun r' v' => r' = r ∧ i_Rel (k + 4) u' v') v v1) u v1 := by
  obtain ⟨al, L, N, S, W, O, FL, FB, PL, A, B, rfl, rfl, I, hB⟩ := I
  have hL := I.1
  have hS := I.2.2.1
  unfold wpX_pipe wpY_pipe
  dsimp only
  rcases dt_alv al v1 with ⟨p, hp, rfl, ha⟩ | ha
  · have le := dt_cn_le (fun d => L (6 * p + d) = -1) 6
    refine dt_xAl_t hp ha (br_f (by decide) ?_)
    rcases dt_leastD L (6 * p) 0 with hm | ⟨c, hc0, hc, ec, hm⟩
    · have z := dt_cn_z (P := fun d => L (6 * p + d) = -1) 6 (fun d hd => hm d (Nat.zero_le d) hd)
      exact dt_xLF_n (c := 0) hp (by omega) hm (br_t rfl (dt_yAl_t hp ha (br_t rfl ⟨7, dt_yFD_l hL hp (br_f (nI_ge (b := 2) (by omega) (by omega)) ⟨rfl, dt_mk I hB⟩) 6 0 rfl⟩)))
    · refine dt_xLF_s (c := 0) hp hc0 hc ec hm (br_f (dt_ne (by omega)) ?_)
      rw [nI_1 c]
      rcases dt_leastD L (6 * p) (c + 1) with hm2 | ⟨c2, hc20, hc2, ec2, hm2⟩
      · have z := dt_cn_1 (P := fun d => L (6 * p + d) = -1) (a := c) 6 (fun d hd e => by
          have h1 : ¬ d < c := fun h => hm d (Nat.zero_le d) h e
          have h2 : ¬ c + 1 ≤ d := fun h => hm2 d h hd e
          omega)
        exact dt_xLF_n hp (by omega) hm2 (br_t rfl (dt_yAl_t hp ha (br_t rfl ⟨7, dt_yFD_l hL hp (br_f (nI_ge (b := 2) (by omega) (by omega)) ⟨rfl, dt_mk I hB⟩) 6 0 rfl⟩)))
      · have z := dt_cn_2 (P := fun d => L (6 * p + d) = -1) (a := c) (b := c2) (n := 6) (by omega) hc2 ec ec2
        obtain ⟨w, hw, hnw, hmw⟩ := dt_leastP L S W
        obtain ⟨o, ho, hno, hmo⟩ := dt_leastO (L := L) ⟨6 * p + c, by omega, ec⟩
        have I0 : dt_Inv L N S W O FL (upd PL w 0) := dt_invP (q := 0) I (by omega)
        have I1 : dt_Inv (upd L (6 * p + c) (nI o)) N (upd S o 1) (upd W o (nI w)) (upd O o 0) FL (upd PL w 0) := dt_invNew I0 (by omega) ho hno (Or.inr (Or.inl rfl)) (by omega) (fun _ => hw)
        have hL1 := I1.1
        have ec3 : upd L (6 * p + c) (nI o) (6 * p + c2) = -1 := by rw [pk_un (by omega)]; exact ec2
        have hm3 : ∀ e, 0 ≤ e → e < c2 → upd L (6 * p + c) (nI o) (6 * p + e) ≠ -1 := by
          intro e _ h2
          by_cases h : e = c
          · rw [h, pk_us]; exact dt_ne (by omega)
          · rw [pk_un (by omega)]
            by_cases h3 : e < c
            · exact hm e (Nat.zero_le e) h3
            · exact hm2 e (by omega) h2
        obtain ⟨o2, ho2, hno2, hmo2⟩ := dt_leastO (L := upd L (6 * p + c) (nI o)) ⟨6 * p + c2, by omega, ec3⟩
        have I2 := dt_invNew (s := 2) I1 (i := 6 * p + c2) (by omega) ho2 hno2 (Or.inr (Or.inr rfl)) (w := w) (by omega) (fun _ => hw)
        refine dt_xLF_s hp hc20 hc2 ec2 hm2 (br_f (dt_ne (by omega)) (dt_xNP hL hw hnw hmw (dt_xNO hp hc ho hno hmo (dt_xNO hp hc2 ho2 hno2 hmo2 ?_))))
        refine dt_yAl_t hp ha (br_t rfl ⟨7, dt_yFD_l hL hp (br_t (nI_le (a := 2) z (by omega)) ⟨w + 1, dt_yP24 hS hw hnw hmw ?_ w 0 (by omega)⟩) 6 0 rfl⟩)
        have cw : (nI w).toNatClampNeg = w := nI_clamp (by omega)
        refine ⟨vp_in_nI hw (by omega), nm_r (e' := upd PL w 0) (by rw [cw]) (dt_yNO hL hp hc ec hm ho hno hmo (dt_yNO hL1 hp hc2 ec3 hm3 ho2 hno2 hmo2 ?_))⟩
        exact ⟨rfl, dt_mk I2 (dt_PB0 hB)⟩
  · exact dt_xAl_f ha (br_t rfl (dt_yAl_f ha (br_f (by decide) ⟨rfl, dt_mk I hB⟩)))
