/-! the relation, and the calls that keep to descriptors, processes and names -/
/-- all arrays are the same ones, but the bytes of pipes beyond their sizes -/
def i_Rel (_ : Nat) (u : SX) (v : SY) : Prop := ∃ al L N S W O FL FB PL A B : Nat → Int32, u = (al, L, N, S, W, O, FL, FB, PL, A) ∧ v = (al, L, S, W, O, N, FL, FB, PL, B) ∧ dt_Inv L N S W O FL PL ∧ dt_PB PL A B
theorem i_up {k : Nat} {u : SX} {v : SY} (h : i_Rel k u v) : i_Rel (k + 4) u v := h
theorem dt_mk {al L N S W O FL FB PL A B : Nat → Int32} {k : Nat} (I : dt_Inv L N S W O FL PL) (hB : dt_PB PL A B) : i_Rel k (al, L, N, S, W, O, FL, FB, PL, A) (al, L, S, W, O, N, FL, FB, PL, B) := ⟨al, L, N, S, W, O, FL, FB, PL, A, B, rfl, rfl, I, hB⟩
theorem dt_inv0 : dt_Inv (dt_ex (fun _ => 0) 0 24) (dt_ex (fun _ => 0) 0 4) (fun _ => 0) (fun _ => 0) (fun _ => 0) (fun _ => 0) (fun _ => 0) := by
  have hL : ∀ i, i < 24 → dt_ex (fun _ => 0) 0 24 i = -1 := fun i hi => by
    have h := dt_ex_in (fun _ => 0) 0 24 i hi
    rw [Nat.zero_add] at h; exact h
  have hN : ∀ i, i < 4 → dt_ex (fun _ => 0) 0 4 i = -1 := fun i hi => by
    have h := dt_ex_in (fun _ => 0) 0 4 i hi
    rw [Nat.zero_add] at h; exact h
  refine ⟨fun i hi => Or.inl (hL i hi), fun i hi => Or.inl (hN i hi), fun _ _ => Or.inl rfl, fun _ _ => ⟨0, by omega, rfl, fun h => absurd rfl h⟩, fun _ _ => ⟨0, by omega, rfl⟩, fun _ _ => ⟨0, by omega, rfl⟩, fun _ _ => ⟨0, by omega, rfl⟩, fun i o f hi ho hf e => ?_⟩
  exact absurd (e.symm.trans (hL i hi)) (dt_ne (by omega))
theorem dt_pb0 {A B : Nat → Int32} : dt_PB (fun _ => 0) A B := by
  intro p q i hp hq hi e
  have e2 : nI 0 = nI q := e
  have := dt_inj (by omega) (by omega) e2
  omega
theorem i_vc0 : wpX_init (fun u => wpY_init (fun v => i_Rel 0 u v)) := by
  unfold wpX_init wpY_init
  refine nm_e ⟨25, dt_xI2 ?_ 24 0 rfl⟩
  refine nm_e ⟨25, dt_yI2 ?_ 24 0 rfl⟩
  exact dt_mk dt_inv0 dt_pb0
theorem i_vc_dup {k : Nat} {u : SX} {v : SY} (I : i_Rel k u v) (hk : k + 4 ≤ 2048) (v1 : Int32) (v2 : Int32) : wpX_dup (fun r u' => wpY_dup (fun r' v' => r' = r ∧ i_Rel (k + 4) u' v') v v1 v2) u v1 v2 := by
  obtain ⟨al, L, N, S, W, O, FL, FB, PL, A, B, rfl, rfl, I, hB⟩ := I
  have hL := I.1
  unfold wpX_dup wpY_dup
  dsimp only
  rcases dt_opn al hL v1 v2 with ⟨p, d, o, hp, hd, ho, rfl, rfl, ha, e⟩ | hb
  · refine dt_xOf_t hp hd ha e (br_f (dt_ne (by omega)) ?_)
    rcases dt_leastD L (6 * p) 0 with hm | ⟨c, hc0, hc, ec, hm⟩
    · exact dt_xLF_n (c := 0) hp (by omega) hm (br_t rfl (dt_yFr_t hp hd ho ha e (br_t rfl (dt_yLF_n hL hp hm (br_f (by decide) ⟨rfl, dt_mk I hB⟩)))))
    · have I' : dt_Inv (upd L (6 * p + c) (nI o)) N S W O FL PL := dt_invL I (dt_up2 (j0 := 6 * p + d) (by omega) e)
      refine dt_xLF_s (c := 0) hp hc0 hc ec hm (br_f (dt_ne (by omega)) ⟨dt_vx hp hc, nm_r (e' := upd L (6 * p + c) (nI o)) (by rw [dt_cx hp hc]) ?_⟩)
      exact dt_yFr_t hp hd ho ha e (br_t rfl (dt_yLF_s hL hp hc ec hm (br_t (nI_pos' (by omega)) ⟨dt_vy hp hd, dt_vy hp hc, nm_r (e' := upd L (6 * p + c) (nI o)) (by rw [dt_cy hp hc, dt_cy hp hd, e]) ⟨rfl, dt_mk I' hB⟩⟩)))
  · exact dt_xOf_f hb (br_t rfl (dt_yFr_f hb (br_f (by decide) ⟨rfl, dt_mk I hB⟩)))
theorem i_vc_close {k : Nat} {u : SX} {v : SY} (I : i_Rel k u v) (hk : k + 4 ≤ 2048) (v1 : Int32) (v2 : Int32) : wpX_close (fun r u' => wpY_close (fun r' v' => r' = r ∧ i_Rel (k + 4) u' v') v v1 v2) u v1 v2 := by
  obtain ⟨al, L, N, S, W, O, FL, FB, PL, A, B, rfl, rfl, I, hB⟩ := I
  have hL := I.1
  unfold wpX_close wpY_close
  dsimp only
  rcases dt_opn al hL v1 v2 with ⟨p, d, o, hp, hd, ho, rfl, rfl, ha, e⟩ | hb
  · have I' : dt_Inv (upd L (6 * p + d) (-1)) N S W O FL PL := dt_invL I dt_up1
    refine dt_xOf_t hp hd ha e (br_f (dt_ne (by omega)) ⟨dt_vx hp hd, nm_r (e' := upd L (6 * p + d) (-1)) (by rw [dt_cx hp hd]) ?_⟩)
    exact dt_yFr_t hp hd ho ha e (br_t rfl ⟨dt_vy hp hd, nm_r (e' := upd L (6 * p + d) (-1)) (by rw [dt_cy hp hd]) ⟨rfl, dt_mk I' hB⟩⟩)
  · exact dt_xOf_f hb (br_t rfl (dt_yFr_f hb (br_f (by decide) ⟨rfl, dt_mk I hB⟩)))
theorem i_vc_fork {k : Nat} {u : SX} {v : SY} (I : i_Rel k u v) (hk : k + 4 ≤ 2048) (v1 : Int32) : wpX_fork (fun r u' => wpY_fork (fun r' v' => r' = r ∧ i_Rel (k + 4) u' v') v v1) u v1 := by
  obtain ⟨al, L, N, S, W, O, FL, FB, PL, A, B, rfl, rfl, I, hB⟩ := I
  unfold wpX_fork wpY_fork
  dsimp only
  rcases dt_alv al v1 with ⟨p, hp, rfl, ha⟩ | ha
  · refine dt_xAl_t hp ha (br_f (by decide) ?_)
    refine ⟨5, dt_xLN_l 4 0 rfl (fun c h1 h2 h3 h4 => ?_) (fun hn => ?_)⟩
    · have I' : dt_Inv (dt_fk L (6 * c) (6 * p) 6) N S W O FL PL := dt_invL I fun i hi => Or.inr (dt_fk_or L (6 * c) (6 * p) (by omega) 6 (by omega) i hi)
      have cc : (nI c).toNatClampNeg = c := nI_clamp (by omega)
      refine br_f (dt_ne (by omega)) ⟨vp_in_nI h2 (by omega), nm_r (e' := upd al c (vp_nar .boolean 1)) (by rw [cc]) ⟨7, dt_xFk hp h2 ?_ 6 0 rfl⟩⟩
      refine dt_yAl_t hp ha (br_t rfl ⟨5, dt_yF12 hp 4 0 rfl (fun c' h1' h2' h3' h4' => ?_) (fun hn => absurd h3 (hn c h1 h2))⟩)
      have h5 : ¬ c' < c := fun hlt => h4 c' h1' hlt h3'
      have h6 : ¬ c < c' := fun hlt => h4' c h1 hlt h3
      have h7 : c' = c := by omega
      subst h7
      exact ⟨rfl, dt_mk I' hB⟩
    · refine br_t rfl (dt_yAl_t hp ha (br_t rfl ⟨5, dt_yF12 hp 4 0 rfl (fun c' h1' h2' h3' h4' => absurd h3' (hn c' h1' h2')) (fun _ => ⟨rfl, dt_mk I hB⟩)⟩))
  · exact dt_xAl_f ha (br_t rfl (dt_yAl_f ha (br_f (by decide) ⟨rfl, dt_mk I hB⟩)))
theorem i_vc_exit {k : Nat} {u : SX} {v : SY} (I : i_Rel k u v) (hk : k + 4 ≤ 2048) (v1 : Int32) : wpX_exit (fun r u' => wpY_exit (fun r' v' => r' = r ∧ i_Rel (k + 4) u' v') v v1) u v1 := by
  obtain ⟨al, L, N, S, W, O, FL, FB, PL, A, B, rfl, rfl, I, hB⟩ := I
  unfold wpX_exit wpY_exit
  dsimp only
  rcases dt_alv al v1 with ⟨p, hp, rfl, ha⟩ | ha
  · have cr := (dt_cn_rm (fun j => ¬ al j = 0) p ha 4).2 hp
    have le := dt_cn_le (fun j => ¬ al j = 0) 4
    have cp : (nI p).toNatClampNeg = p := nI_clamp (by omega)
    refine dt_xAl_t hp ha (br_f (by decide) ⟨5, dt_xNA_l ?_ 4 0 rfl⟩)
    by_cases h1 : dt_cn (fun j => ¬ al j = 0) 4 = 1
    · refine br_t (by rw [h1]; rfl) (dt_yAl_t hp ha (br_t rfl ⟨5, dt_yE14 hp (fun _ => ⟨rfl, dt_mk I hB⟩) (fun h => ?_) 4 0 rfl⟩))
      exact absurd h (by omega)
    · have I' : dt_Inv (dt_ex L (6 * p) 6) N S W O FL PL := dt_invL I fun i hi => (dt_ex_or L (6 * p) 6 i).elim Or.inl (fun h => Or.inr ⟨i, hi, h⟩)
      refine br_f (fun h => h1 (dt_inj (b := 1) (by omega) (by omega) h)) ⟨vp_in_nI hp (by omega), nm_r (e' := upd al p (vp_nar .boolean 0)) (by rw [cp]) ⟨7, dt_xEx hp ?_ 6 0 rfl⟩⟩
      refine dt_yAl_t hp ha (br_t rfl ⟨5, dt_yE14 hp (fun h => ?_) (fun _ => ⟨rfl, dt_mk I' hB⟩) 4 0 rfl⟩)
      exact absurd h (by omega)
  · exact dt_xAl_f ha (br_t rfl (dt_yAl_f ha (br_f (by decide) ⟨rfl, dt_mk I hB⟩)))
theorem i_vc_link {k : Nat} {u : SX} {v : SY} (I : i_Rel k u v) (hk : k + 4 ≤ 2048) (v1 : Int32) (v2 : Int32) : wpX_link (fun r u' => wpY_link (fun r' v' => r' = r ∧ i_Rel (k + 4) u' v') v v1 v2) u v1 v2 := by
  obtain ⟨al, L, N, S, W, O, FL, FB, PL, A, B, rfl, rfl, I, hB⟩ := I
  have hN := I.2.1
  unfold wpX_link wpY_link
  dsimp only
  rcases dt_nam v1 with ⟨n, hn, rfl⟩ | hn
  · rcases dt_nam v2 with ⟨m, hm, rfl⟩ | hm
    · have cn : (nI n).toNatClampNeg = n := nI_clamp (by omega)
      have cm : (nI m).toNatClampNeg = m := nI_clamp (by omega)
      have vn : vp_in (nI n) 4 := vp_in_nI hn (by omega)
      have vm : vp_in (nI m) 4 := vp_in_nI hm (by omega)
      rw [cn, cm]
      refine dt_xNa_t hn (br_f (by decide) (dt_xNa_t hm (br_f (by decide) ⟨vn, ?_⟩)))
      rcases hN n hn with e | ⟨f, hf, e⟩
      · exact br_t e (dt_yNa_t hn (br_t rfl (dt_yNa_t hm (br_t rfl ⟨vn, br_t (by rw [e]; decide) ⟨rfl, dt_mk I hB⟩⟩))))
      · have e1 : ¬ N n = -1 := by rw [e]; exact dt_ne (by omega)
        have e2 : ¬ N n < 0 := by rw [e]; exact nI_pos (by omega)
        rcases hN m hm with g | ⟨f', hf', g⟩
        · have I' : dt_Inv L (upd N m (N n)) S W O FL PL := dt_invN I (dt_up2 hn rfl)
          exact br_f e1 ⟨vm, br_t g ⟨vn, vm, nm_e (dt_yNa_t hn (br_t rfl (dt_yNa_t hm (br_t rfl ⟨vn, br_f e2 ⟨vm, br_t (by rw [g]; decide) ⟨vn, vm, nm_e ⟨rfl, dt_mk I' hB⟩⟩⟩⟩))))⟩⟩
        · exact br_f e1 ⟨vm, br_f (by rw [g]; exact dt_ne (by omega)) (dt_yNa_t hn (br_t rfl (dt_yNa_t hm (br_t rfl ⟨vn, br_f e2 ⟨vm, br_f (by rw [g]; exact nI_pos (by omega)) ⟨rfl, dt_mk I hB⟩⟩⟩))))⟩
    · exact dt_xNa_t hn (br_f (by decide) (dt_xNa_f hm (br_t rfl (dt_yNa_t hn (br_t rfl (dt_yNa_f hm (br_f (by decide) ⟨rfl, dt_mk I hB⟩)))))))
  · exact dt_xNa_f hn (br_t rfl (dt_yNa_f hn (br_f (by decide) ⟨rfl, dt_mk I hB⟩)))
theorem i_vc_unlink {k : Nat} {u : SX} {v : SY} (I : i_Rel k u v) (hk : k + 4 ≤ 2048) (v1 : Int32) : wpX_unlink (fun r u' => wpY_unlink (fun r' v' => r' = r ∧ i_Rel (k + 4) u' v') v v1) u v1 := by
  obtain ⟨al, L, N, S, W, O, FL, FB, PL, A, B, rfl, rfl, I, hB⟩ := I
  have hN := I.2.1
  unfold wpX_unlink wpY_unlink
  dsimp only
  rcases dt_nam v1 with ⟨n, hn, rfl⟩ | hn
  · have cn : (nI n).toNatClampNeg = n := nI_clamp (by omega)
    have vn : vp_in (nI n) 4 := vp_in_nI hn (by omega)
    rw [cn]
    refine dt_xNa_t hn (br_f (by decide) ⟨vn, ?_⟩)
    rcases hN n hn with e | ⟨f, hf, e⟩
    · exact br_t e (dt_yNa_t hn (br_t rfl ⟨vn, br_f (by rw [e]; decide) ⟨rfl, dt_mk I hB⟩⟩))
    · have I' : dt_Inv L (upd N n (-1)) S W O FL PL := dt_invN I dt_up1
      exact br_f (by rw [e]; exact dt_ne (by omega)) ⟨vn, nm_e (dt_yNa_t hn (br_t rfl ⟨vn, br_t (by rw [e]; exact nI_pos' (by omega)) ⟨vn, nm_e ⟨rfl, dt_mk I' hB⟩⟩⟩))⟩
  · exact dt_xNa_f hn (br_t rfl (dt_yNa_f hn (br_f (by decide) ⟨rfl, dt_mk I hB⟩)))
theorem i_vc_counts {k : Nat} {u : SX} {v : SY} (I : i_Rel k u v) (hk : k + 4 ≤ 2048) : wpX_counts (fun r => wpY_counts (fun r' => r' = r ∧ i_Rel (k + 4) u v) v) u := by
  obtain ⟨al, L, N, S, W, O, FL, FB, PL, A, B, rfl, rfl, I, hB⟩ := I
  unfold wpX_counts wpY_counts
  dsimp only
  exact ⟨25, dt_xC4 I.1 ⟨25, dt_yC9 I.2.2.1 ⟨rfl, dt_mk I hB⟩ 24 0 rfl⟩ 24 0 rfl⟩
