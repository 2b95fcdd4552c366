theorem i_vc_first {k : Nat} {u : SX} {v : SY} (I : i_Rel k u v) (hk : k + 4 ≤ 2048) (v1 : Int32) : wpX_first (fun r => wpY_first (fun r' v' => r' = r ∧ i_Rel (k + 4) u v') v v1) u v1 := by
  obtain ⟨c, aE, sG, o, kW, kS⟩ := u
  obtain ⟨f, aA, aG, aF⟩ := v
  obtain ⟨t, g, MX, MY, R⟩ := I
  replace MX : pc_M t g aE sG := MX
  replace MY : pc_M t g aA aG := MY
  have R' := R
  obtain ⟨kw, n, hc, hO, hK, hX⟩ := R'
  replace hc : c = nI n := hc
  replace hO : ∀ s, s < 7 → ob_O t g s (o s) := hO
  replace hX : xr_K t kw n kW kS := hX
  subst hc
  unfold wpX_first wpY_first
  dsimp only
  rcases pc_kind v1 hK.2.1 with h | ⟨j, hj, rfl⟩
  · refine xi_kB h _ (br_t rfl ?_)
    refine yd_div MY _ (fun vw m aF' hE hF => ?_)
    dsimp only
    obtain ⟨rfl, hu⟩ := en_YA hK hE
    exact yi_kB h ⟨rfl, t, g, MX, MY, R⟩ ⟨rfl, t, g, MX, MY, R⟩
  · have hn := hK.2.1
    have ec : (nI j).toNatClampNeg = j := nI_clamp (by omega)
    refine xi_k hj hK.2.1 _ (br_f (by decide) ⟨vp_in_nI (by omega) (by decide), ?_⟩)
    refine yd_div MY _ (fun vw m aF' hE hF => ?_)
    dsimp only
    obtain ⟨rfl, hu⟩ := en_YA hK hE
    refine yi_k hj hK.2.1 ⟨vp_in_nI (by omega) (by decide), ?_, t, g, MX, MY, R⟩
    rw [ec, (hX j hj).1, (hF j hj).1, hu j hj]
theorem i_vc_next {k : Nat} {u : SX} {v : SY} (I : i_Rel k u v) (hk : k + 4 ≤ 2048) (v1 : Int32) (v2 : Int32) : wpX_next (fun r => wpY_next (fun r' v' => r' = r ∧ i_Rel (k + 4) u v') v v1 v2) u v1 v2 := by
  obtain ⟨c, aE, sG, o, kW, kS⟩ := u
  obtain ⟨f, aA, aG, aF⟩ := v
  obtain ⟨t, g, MX, MY, R⟩ := I
  replace MX : pc_M t g aE sG := MX
  replace MY : pc_M t g aA aG := MY
  have R' := R
  obtain ⟨kw, n, hc, hO, hK, hX⟩ := R'
  replace hc : c = nI n := hc
  replace hO : ∀ s, s < 7 → ob_O t g s (o s) := hO
  replace hX : xr_K t kw n kW kS := hX
  subst hc
  unfold wpX_next wpY_next
  dsimp only
  rcases pc_kind v1 hK.2.1 with h | ⟨j, hj, rfl⟩
  · refine xi_kB h _ (br_t rfl ?_)
    refine yd_div MY _ (fun vw m aF' hE hF => ?_)
    dsimp only
    obtain ⟨rfl, hu⟩ := en_YA hK hE
    exact yi_kB h ⟨rfl, t, g, MX, MY, R⟩ ⟨rfl, t, g, MX, MY, R⟩
  · have hn := hK.2.1
    have ec : (nI j).toNatClampNeg = j := nI_clamp (by omega)
    obtain ⟨a, ha, ea⟩ := pc_and1E v2
    have h1 := (hK.1.1 j hj).1
    have h128 := hK.2.2 j hj
    have hl := wd_lt MX.1 (show 0 < 7 by decide) (kw j)
    have hl2 := wd_lt MX.1 (show 0 < 7 by decide) (2 * kw j + a)
    have e1 : (2 : Int32) * kS (nI j).toNatClampNeg + (v2 &&& 1) = nI (2 * wd_run t 0 (kw j) + a) := by rw [ec, (hX j hj).2, ea, pc_2a]
    have e3 : aE ((2 : Int32) * kS (nI j).toNatClampNeg + (v2 &&& 1)).toNatClampNeg = nI (wd_run t 0 (2 * kw j + a)) := by
      rw [e1, nI_clamp (by omega), MX.2.1 _ (by omega), wd_run_s 0 h1 ha]
    refine xi_k hj hK.2.1 _ (br_f (by decide) ⟨vp_in_nI (by omega) (by decide), by rw [e1]; exact vp_in_nI (by omega) (by decide), nm_r e3 ?_⟩)
    refine xk_of MX hO hK.2.1 hX hl2 _ (fun r hr => ?_)
    refine yd_div MY _ (fun vw m aF' hE hF => ?_)
    dsimp only
    obtain ⟨rfl, hu⟩ := en_YA hK hE
    have e2 : (2 : Int32) * aF' (nI j).toNatClampNeg + (v2 &&& 1) = nI (2 * kw j + a) := by rw [ec, (hF j hj).1, hu j hj, ea, pc_2a]
    refine yi_k hj hK.2.1 ⟨vp_in_nI (by omega) (by decide), ?_⟩
    rw [e2]
    refine yr_run (s := 0) MY (by decide) (by omega) _ ?_
    refine yk_of MY hK.2.1 hF hl2 _ (fun r' hr' => ?_)
    exact ⟨kd_un hK.1 hr (kd_cong hu hr'), t, g, MX, MY, R⟩
theorem i_vc_isGood {k : Nat} {u : SX} {v : SY} (I : i_Rel k u v) (hk : k + 4 ≤ 2048) (v1 : Int32) : wpX_isGood (fun r => wpY_isGood (fun r' v' => r' = r ∧ i_Rel (k + 4) u v') v v1) u v1 := by
  obtain ⟨c, aE, sG, o, kW, kS⟩ := u
  obtain ⟨f, aA, aG, aF⟩ := v
  obtain ⟨t, g, MX, MY, R⟩ := I
  replace MX : pc_M t g aE sG := MX
  replace MY : pc_M t g aA aG := MY
  have R' := R
  obtain ⟨kw, n, hc, hO, hK, hX⟩ := R'
  replace hc : c = nI n := hc
  replace hO : ∀ s, s < 7 → ob_O t g s (o s) := hO
  replace hX : xr_K t kw n kW kS := hX
  subst hc
  unfold wpX_isGood wpY_isGood
  dsimp only
  rcases pc_kind v1 hK.2.1 with h | ⟨j, hj, rfl⟩
  · refine xi_kB h _ (br_t rfl ?_)
    refine yd_div MY _ (fun vw m aF' hE hF => ?_)
    dsimp only
    obtain ⟨rfl, hu⟩ := en_YA hK hE
    exact yi_kB h ⟨rfl, t, g, MX, MY, R⟩ ⟨rfl, t, g, MX, MY, R⟩
  · have hn := hK.2.1
    have ec : (nI j).toNatClampNeg = j := nI_clamp (by omega)
    have h128 := hK.2.2 j hj
    have hl := wd_lt MX.1 (show 0 < 7 by decide) (kw j)
    have eS : kS (nI j).toNatClampNeg = nI (wd_run t 0 (kw j)) := by rw [ec]; exact (hX j hj).2
    refine xi_k hj hK.2.1 _ (br_f (by decide) ⟨vp_in_nI (by omega) (by decide), by rw [eS]; exact vp_in_nI hl (by decide), ?_⟩)
    rw [eS, pc_good MX hl]
    cases e : g (wd_run t 0 (kw j)) with
    | false =>
      refine br_t (by decide) (yd_div MY _ (fun vw m aF' hE hF => ?_))
      dsimp only
      obtain ⟨rfl, hu⟩ := en_YA hK hE
      refine yi_k hj hK.2.1 ⟨vp_in_nI (by omega) (by decide), ?_⟩
      rw [ec, (hF j hj).1, hu j hj]
      refine yg_af (s := 0) MY (by decide) (by omega) _ ?_
      rw [e]
      exact br_t (by decide) ⟨rfl, t, g, MX, MY, R⟩
    | true =>
      refine br_f (by decide) (yd_div MY _ (fun vw m aF' hE hF => ?_))
      dsimp only
      obtain ⟨rfl, hu⟩ := en_YA hK hE
      refine yi_k hj hK.2.1 ⟨vp_in_nI (by omega) (by decide), ?_⟩
      rw [ec, (hF j hj).1, hu j hj]
      refine yg_af (s := 0) MY (by decide) (by omega) _ ?_
      rw [e]
      exact br_f (by decide) ⟨rfl, t, g, MX, MY, R⟩
theorem i_vc_difference {k : Nat} {u : SX} {v : SY} (I : i_Rel k u v) (hk : k + 4 ≤ 2048) (v1 : Int32) (v2 : Int32) : wpX_difference (fun r => wpY_difference (fun r' => r' = r ∧ i_Rel (k + 4) u v) v v1 v2) u v1 v2 := by
  obtain ⟨c, aE, sG, o, kW, kS⟩ := u
  obtain ⟨f, aA, aG, aF⟩ := v
  have I' : i_Rel (k + 4) (c, aE, sG, o, kW, kS) (f, aA, aG, aF) := I
  obtain ⟨t, g, MX, MY, R⟩ := I
  replace MX : pc_M t g aE sG := MX
  replace MY : pc_M t g aA aG := MY
  obtain ⟨kw, n, hc, hO, hK, hX⟩ := R
  replace hO : ∀ s, s < 7 → ob_O t g s (o s) := hO
  unfold wpX_difference wpY_difference
  dsimp only
  rcases pc_word v1 with h | ⟨w, h1, h2, rfl⟩
  · exact xi_wB h _ (br_t rfl (yi_wB h _ (br_f (by decide) ⟨rfl, I'⟩)))
  · refine xi_w h1 h2 _ (br_f (by decide) ?_)
    rcases pc_word v2 with h | ⟨x, e1, e2, rfl⟩
    · exact xi_wB h _ (br_t rfl (yi_w h1 h2 _ (br_t rfl (yi_wB h _ (br_f (by decide) ⟨rfl, I'⟩)))))
    · refine xi_w e1 e2 _ (br_f (by decide) ?_)
      have hl := wd_lt MX.1 (show 0 < 7 by decide) w
      have hl' := wd_lt MX.1 (show 0 < 7 by decide) x
      refine xs_run (s := 0) MX (by decide) h2 _ ?_
      refine xs_run (s := 0) MX (by decide) e2 _ ⟨vp_in_nI hl (by decide), vp_in_nI hl' (by decide), ?_⟩
      refine nm_r (e' := o (wd_run t 0 w) ^^^ o (wd_run t 0 x)) (by rw [nI_clamp (by omega), nI_clamp (by omega)]) ⟨64, ?_⟩
      refine xd_l (hO _ hl) (hO _ hl') _ (fun r hr => ?_) 63 1 (by omega) (by omega) (fun v a b => absurd a (by omega))
      refine yi_w h1 h2 _ (br_t rfl (yi_w e1 e2 _ (br_t rfl ?_)))
      refine yr_run (s := 0) MY (by decide) h2 _ ?_
      refine yr_run (s := 0) MY (by decide) e2 _ ?_
      refine ya_part MY hl hl' _ (fun r' hr' => ?_)
      exact ⟨ds_un MX.1 hl hl' hr hr', I'⟩
