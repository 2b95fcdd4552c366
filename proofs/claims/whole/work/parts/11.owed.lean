/-- both machines are t and g; the component knows their kinds -/
def i_Rel (_ : Nat) (u : SX) (v : SY) : Prop :=
  ∃ t g, pc_M t g u.2.1 u.2.2.1 ∧ pc_M t g v.2.1 v.2.2.1 ∧ xr_R t g u.1 u.2.2.2.1 u.2.2.2.2.1 u.2.2.2.2.2
theorem i_up {k : Nat} {u : SX} {v : SY} (h : i_Rel k u v) : i_Rel (k + 4) u v := h
theorem i_vc0 : wpX_init (fun u => wpY_init (fun v => i_Rel 0 u v)) := by
  refine ⟨8, ?_⟩
  refine xz_a (fun u => wpY_init (fun v => i_Rel 0 u v)) (fun c a o kW kS ha R => ?_) 7 0 (fun _ => 0) (by omega) (fun i hi => absurd hi (by omega))
  refine ⟨8, ?_⟩
  exact yz_a _ (fun a' ha' => ⟨_, _, zi_M ha, zi_M ha', R⟩) 7 0 (fun _ => 0) (by omega) (fun i hi => absurd hi (by omega))
theorem i_vc_arrow {k : Nat} {u : SX} {v : SY} (I : i_Rel k u v) (hk : k + 4 ≤ 2048) (v1 : Int32) (v2 : Int32) (v3 : Int32) : wpX_arrow (fun r u' => wpY_arrow (fun r' v' => r' = r ∧ i_Rel (k + 4) u' v') v v1 v2 v3) u v1 v2 v3 := by
  obtain ⟨c, aE, sG, o, kW, kS⟩ := u
  obtain ⟨f, aA, aG, aF⟩ := v
  have I' : i_Rel (k + 4) (c, aE, sG, o, kW, kS) (f, aA, aG, aF) := I
  obtain ⟨t, g, MX, MY, R⟩ := I
  replace MX : pc_M t g aE sG := MX
  replace MY : pc_M t g aA aG := MY
  unfold wpX_arrow wpY_arrow
  dsimp only
  rcases pc_st7 v1 with h | ⟨s, hs, rfl⟩
  · exact xi_sB h _ (br_t rfl (yi_sB h _ (br_f (by decide) ⟨rfl, I'⟩)))
  · refine xi_s hs _ (br_f (by decide) ?_)
    rcases pc_st7 v3 with h | ⟨s', hs', rfl⟩
    · exact xi_sB h _ (br_t rfl (yi_s hs _ (br_t rfl (yi_sB h _ (br_f (by decide) ⟨rfl, I'⟩)))))
    · refine xi_s hs' _ (br_f (by decide) ?_)
      obtain ⟨a, ha, ea⟩ := pc_and1E v2
      have e : (2 : Int32) * nI s + (v2 &&& 1) = nI (2 * s + a) := by rw [ea, pc_2a]
      have ei : vp_in ((2 : Int32) * nI s + (v2 &&& 1)) 14 := by rw [e]; exact vp_in_nI (by omega) (by decide)
      have ec : ((2 : Int32) * nI s + (v2 &&& 1)).toNatClampNeg = 2 * s + a := by rw [e, nI_clamp (by omega)]
      have MX' : pc_M (pc_ut t (2 * s + a) s') g (upd aE (2 * s + a) (nI s')) sG := ⟨pc_ut_lt MX.1 hs', pc_T_u MX.2.1 _ _, MX.2.2⟩
      have MY' : pc_M (pc_ut t (2 * s + a) s') g (upd aA (2 * s + a) (nI s')) aG := ⟨pc_ut_lt MY.1 hs', pc_T_u MY.2.1 _ _, MY.2.2⟩
      refine ⟨ei, nm_r (e' := upd aE (2 * s + a) (nI s')) (by rw [ec]) ?_⟩
      refine xf_k MX' _ (fun c' o' kW' kS' R' => ?_)
      dsimp only
      refine yi_s hs _ (br_t rfl (yi_s hs' _ (br_t rfl ⟨ei, nm_r (e' := upd aA (2 * s + a) (nI s')) (by rw [ec]) ⟨rfl, ?_⟩⟩)))
      exact ⟨_, _, MX', MY', R'⟩
theorem i_vc_good {k : Nat} {u : SX} {v : SY} (I : i_Rel k u v) (hk : k + 4 ≤ 2048) (v1 : Int32) (v2 : Int32) : wpX_good (fun r u' => wpY_good (fun r' v' => r' = r ∧ i_Rel (k + 4) u' v') v v1 (lw_bz v2)) u v1 (lw_bz v2) := by
  obtain ⟨c, aE, sG, o, kW, kS⟩ := u
  obtain ⟨f, aA, aG, aF⟩ := v
  have I' : i_Rel (k + 4) (c, aE, sG, o, kW, kS) (f, aA, aG, aF) := I
  obtain ⟨t, g, MX, MY, R⟩ := I
  replace MX : pc_M t g aE sG := MX
  replace MY : pc_M t g aA aG := MY
  unfold wpX_good wpY_good
  dsimp only
  rcases pc_st7 v1 with h | ⟨s, hs, rfl⟩
  · exact xi_sB h _ (br_t rfl (yi_sB h _ (br_f (by decide) ⟨rfl, I'⟩)))
  · refine xi_s hs _ (br_f (by decide) ?_)
    have ei : vp_in (nI s) 7 := vp_in_nI hs (by decide)
    have ec : (nI s).toNatClampNeg = s := nI_clamp (by omega)
    have ev : vp_nar .boolean (lw_bz v2) = pc_i (pc_z v2) := by rw [pc_bz, pc_in]
    have MX' : pc_M t (pc_ug g s (pc_z v2)) aE (upd sG s (pc_i (pc_z v2))) := ⟨MX.1, MX.2.1, pc_G_u MX.2.2 _ _⟩
    have MY' : pc_M t (pc_ug g s (pc_z v2)) aA (upd aG s (pc_i (pc_z v2))) := ⟨MY.1, MY.2.1, pc_G_u MY.2.2 _ _⟩
    refine ⟨ei, nm_r (e' := upd sG s (pc_i (pc_z v2))) (by rw [ec, ev]) ?_⟩
    refine xf_k MX' _ (fun c' o' kW' kS' R' => ?_)
    dsimp only
    refine yi_s hs _ (br_t rfl ⟨ei, nm_r (e' := upd aG s (pc_i (pc_z v2))) (by rw [ec, ev]) ⟨rfl, ?_⟩⟩)
    exact ⟨_, _, MX', MY', R'⟩
theorem i_vc_ask {k : Nat} {u : SX} {v : SY} (I : i_Rel k u v) (hk : k + 4 ≤ 2048) (v1 : Int32) : wpX_ask (fun r => wpY_ask (fun r' => r' = r ∧ i_Rel (k + 4) u v) v v1) u v1 := by
  obtain ⟨c, aE, sG, o, kW, kS⟩ := u
  obtain ⟨f, aA, aG, aF⟩ := v
  have I' : i_Rel (k + 4) (c, aE, sG, o, kW, kS) (f, aA, aG, aF) := I
  obtain ⟨t, g, MX, MY, R⟩ := I
  replace MX : pc_M t g aE sG := MX
  replace MY : pc_M t g aA aG := MY
  unfold wpX_ask wpY_ask
  dsimp only
  rcases pc_word v1 with h | ⟨w, h1, h2, rfl⟩
  · exact xi_wB h _ (br_t rfl (yi_wB h _ (br_f (by decide) ⟨rfl, I'⟩)))
  · refine xi_w h1 h2 _ (br_f (by decide) ?_)
    have hl := wd_lt MX.1 (show 0 < 7 by decide) w
    refine xs_run (s := 0) MX (by decide) h2 _ ⟨vp_in_nI hl (by decide), ?_⟩
    rw [pc_good MX hl]
    cases e : g (wd_run t 0 w) with
    | false => exact br_t (by decide) (yi_w h1 h2 _ (br_t rfl (yg_af (s := 0) MY (by decide) h2 _ (by rw [e]; exact br_t (by decide) ⟨rfl, I'⟩))))
    | true => exact br_f (by decide) (yi_w h1 h2 _ (br_t rfl (yg_af (s := 0) MY (by decide) h2 _ (by rw [e]; exact br_f (by decide) ⟨rfl, I'⟩))))
theorem i_vc_kinds {k : Nat} {u : SX} {v : SY} (I : i_Rel k u v) (hk : k + 4 ≤ 2048) : wpX_kinds (fun r => wpY_kinds (fun r' v' => r' = r ∧ i_Rel (k + 4) u v') v) u := by
  obtain ⟨c, aE, sG, o, kW, kS⟩ := u
  obtain ⟨f, aA, aG, aF⟩ := v
  obtain ⟨t, g, MX, MY, R⟩ := I
  replace MX : pc_M t g aE sG := MX
  replace MY : pc_M t g aA aG := MY
  have R' := R
  obtain ⟨kw, n, hc, hO, hK, hX⟩ := R'
  unfold wpX_kinds wpY_kinds
  dsimp only
  refine yd_div MY _ (fun vw m aF' hE hF => ?_)
  dsimp only
  have hu := en_YA hK hE
  exact ⟨(congrArg nI hu.1).trans hc.symm, t, g, MX, MY, R⟩
theorem i_vc_kind {k : Nat} {u : SX} {v : SY} (I : i_Rel k u v) (hk : k + 4 ≤ 2048) (v1 : Int32) : wpX_kind (fun r => wpY_kind (fun r' v' => r' = r ∧ i_Rel (k + 4) u v') v v1) u v1 := by
  obtain ⟨c, aE, sG, o, kW, kS⟩ := u
  obtain ⟨f, aA, aG, aF⟩ := v
  have I' : i_Rel (k + 4) (c, aE, sG, o, kW, kS) (f, aA, aG, aF) := I
  obtain ⟨t, g, MX, MY, R⟩ := I
  replace MX : pc_M t g aE sG := MX
  replace MY : pc_M t g aA aG := MY
  have R' := R
  obtain ⟨kw, n, hc, hO, hK, hX⟩ := R'
  replace hc : c = nI n := hc
  replace hO : ∀ s, s < 7 → ob_O t g s (o s) := hO
  replace hX : xr_K t kw n kW kS := hX
  subst hc
  unfold wpX_kind wpY_kind
  dsimp only
  rcases pc_word v1 with h | ⟨w, h1, h2, rfl⟩
  · exact xi_wB h _ (br_t rfl (yi_wB h _ (br_f (by decide) ⟨rfl, I'⟩)))
  · refine xi_w h1 h2 _ (br_f (by decide) ?_)
    have hl := wd_lt MX.1 (show 0 < 7 by decide) w
    refine xs_run (s := 0) MX (by decide) h2 _ ?_
    refine xk_of MX hO hK.2.1 hX hl _ (fun r hr => ?_)
    refine yi_w h1 h2 _ (br_t rfl ?_)
    refine yd_div MY _ (fun vw m aF' hE hF => ?_)
    dsimp only
    obtain ⟨rfl, hu⟩ := en_YA hK hE
    refine yr_run (s := 0) MY (by decide) h2 _ ?_
    refine yk_of MY (en_le7 MY.1 hE) hF hl _ (fun r' hr' => ?_)
    exact ⟨kd_un hK.1 hr (kd_cong hu hr'), t, g, MX, MY, R⟩
