section
variable {t : Nat → Nat} {g : Nat → Bool} {c : Int32} {aE sG kW kS : Nat → Int32} {o : Nat → Int64}
/-- where the walk over the kinds stands at the kind k -/
def xf_I (t : Nat → Nat) (g : Nat → Bool) (kw : Nat → Nat) (n k : Nat) : Prop := (k < n ∧ en_E t g (2 * kw k) kw n) ∨ (k = n ∧ en_K t g kw n)
theorem xf_1 (ht : ∀ i, i < 14 → t i < 7) {kw : Nat → Nat} {n : Nat} (h : en_E t g 2 kw n) : xf_I t g kw n 0 := by
  obtain ⟨i, hi, e⟩ := h.2.2 1 fw_1 (by omega)
  have h0 := h.1 0 (by omega)
  have e0 : kw 0 = 1 := by have := h0.1.1; have := h0.2; omega
  refine Or.inl ⟨by omega, ?_⟩
  rw [e0]; exact h
theorem xf_n (ht : ∀ i, i < 14 → t i < 7) {kw : Nat → Nat} {n k : Nat} (h : en_E t g (2 * kw k + 2) kw n) (hk : k < n) : xf_I t g kw n (k + 1) := by
  rcases (show k + 1 < n ∨ k + 1 = n by omega) with q | q
  · exact Or.inl ⟨q, en_gap ht h q⟩
  · exact Or.inr ⟨q, en_end ht h q, en_le7 ht h, en_128 ht h⟩
/-- what findKinds leaves -/
def xr_R (t : Nat → Nat) (g : Nat → Bool) (c : Int32) (o : Nat → Int64) (kW kS : Nat → Int32) : Prop :=
  ∃ kw n, c = nI n ∧ (∀ s, s < 7 → ob_O t g s (o s)) ∧ en_K t g kw n ∧ xr_K t kw n kW kS
/-- one letter behind the kind k -/
theorem xf_b (M : pc_M t g aE sG) (hO : ∀ s, s < 7 → ob_O t g s (o s)) {n k a m : Nat} {kw : Nat → Nat} (hk : k < n) (ha : a < 2)
    (hE : en_E t g (2 * kw k + a) kw n) (hK : xr_K t kw n kW kS) (post : SX → Prop) (J : Int32 → Int32 → (Nat → Int32) → (Nat → Int32) → (Nat → Int64) → (Nat → Int32) → (Nat → Int32) → Prop)
    (hp : ∀ kw' n' kW' kS', en_E t g (2 * kw' k + a + 1) kw' n' → k < n' → xr_K t kw' n' kW' kS' → wX_findKinds_33 post J (nI k) m (nI (a + 1)) (nI n') aE sG o kW' kS') :
    wX_findKinds_33 post J (nI k) (m + 1) (nI a) (nI n) aE sG o kW kS := by
  have hn := en_le7 M.1 hE
  have h128 := en_128 M.1 hE k hk
  have hl := wd_lt M.1 (show 0 < 7 by decide) (kw k)
  have ek : (nI k).toNatClampNeg = k := nI_clamp (by omega)
  have eS : kS (nI k).toNatClampNeg = nI (wd_run t 0 (kw k)) := by rw [ek]; exact (hK k hk).2
  have eW : kW (nI k).toNatClampNeg = nI (kw k) := by rw [ek]; exact (hK k hk).1
  have e1 : (2 : Int32) * kS (nI k).toNatClampNeg + nI a = nI (2 * wd_run t 0 (kw k) + a) := by rw [eS, pc_2a]
  have e2 : (2 : Int32) * kW (nI k).toNatClampNeg + nI a = nI (2 * kw k + a) := by rw [eW, pc_2a]
  have h1 := (hE.1 k hk).1.1
  have e3 : aE ((2 : Int32) * kS (nI k).toNatClampNeg + nI a).toNatClampNeg = nI (wd_run t 0 (2 * kw k + a)) := by
    rw [e1, nI_clamp (by omega), M.2.1 _ (by omega), wd_run_s 0 h1 ha]
  have ik : vp_in (nI k) 7 := vp_in_nI (by omega) (by decide)
  refine br_f (nI_ge (b := 2) ha (by decide)) ⟨ik, by rw [e1]; exact vp_in_nI (by omega) (by decide), nm_r e3 ⟨ik, ?_⟩⟩
  rw [e2]
  refine xa_new M hO hE (by omega) hK _ (fun kw' n' kW' kS' hE' hn' hkw hK' => ?_)
  dsimp only
  refine nm_r (nI_1 a) (hp kw' n' kW' kS' ?_ (by omega) hK')
  rw [hkw k hk]; exact hE'
theorem xf_a (M : pc_M t g aE sG) (hO : ∀ s, s < 7 → ob_O t g s (o s)) (post : SX → Prop) (hp : ∀ c kW kS, xr_R t g c o kW kS → post (c, aE, sG, o, kW, kS)) :
    ∀ d k n kw kW kS, k + d = 7 → xf_I t g kw n k → xr_K t kw n kW kS → wX_findKinds_17 post (d + 1) (nI k) (nI n) aE sG o kW kS := by
  intro d
  induction d with
  | zero =>
    intro k n kw kW kS hkd hI hK
    have hq : k = n ∧ en_K t g kw n := by
      rcases hI with ⟨h1, h2⟩ | h
      · have := en_le7 M.1 h2; omega
      · exact h
    exact br_t (nI_le (a := 7) (by omega) (by omega)) (hp _ _ _ ⟨kw, n, rfl, hO, hq.2, hK⟩)
  | succ d ih =>
    intro k n kw kW kS hkd hI hK
    refine br_f (nI_ge (b := 7) (by omega) (by decide)) ?_
    rcases hI with ⟨h1, h2⟩ | ⟨h1, h2⟩
    · have hn := en_le7 M.1 h2
      refine br_f (nI_ge h1 (by omega)) ⟨3, ?_⟩
      refine xf_b M hO h1 (a := 0) (by decide) h2 hK post _ (fun kw' n' kW' kS' hE' hk' hK' => ?_)
      refine xf_b M hO hk' (a := 1) (by decide) hE' hK' post _ (fun kw2 n2 kW2 kS2 hE2 hk2 hK2 => ?_)
      refine br_t (nI_le (a := 2) (b := 1 + 1) (by decide) (by decide)) (nm_r (nI_1 k) ?_)
      exact ih (k + 1) n2 kw2 kW2 kS2 (by omega) (xf_n M.1 hE2 hk2) hK2
    · exact br_t (nI_le (by omega) (by omega)) (hp _ _ _ ⟨kw, n, rfl, hO, h2, hK⟩)
theorem xa_1 (M : pc_M t g aE sG) (hO : ∀ s, s < 7 → ob_O t g s (o s)) (post : SX → Prop)
    (hp : ∀ kw' n' kW' kS', en_E t g 2 kw' n' → xr_K t kw' n' kW' kS' → post (nI n', aE, sG, o, kW', kS')) :
    wpX_addIfNew post (0, aE, sG, o, kW, kS) 0 1 := by
  have h0 : xr_K t (fun _ => 0) 0 kW kS := fun i hi => absurd hi (Nat.not_lt_zero i)
  have h := xa_new (n := 0) (w := 1) M hO (en_0 (fun _ => 0)) (by decide) h0 post (fun kw' n' kW' kS' hE _ _ hK => hp kw' n' kW' kS' hE hK)
  rw [wd_run_1 0 (Nat.le_refl 1), nI_0] at h
  exact h
theorem xf_k (M : pc_M t g aE sG) (post : SX → Prop) (hp : ∀ c o kW kS, xr_R t g c o kW kS → post (c, aE, sG, o, kW, kS)) :
    wpX_findKinds post (c, aE, sG, o, kW, kS) := by
  unfold wpX_findKinds
  dsimp only
  refine xo_out M _ (fun o' hO => ?_)
  dsimp only
  refine xa_1 M hO _ (fun kw' n' kW' kS' hE hK => ?_)
  dsimp only
  exact ⟨8, xf_a M hO post (fun c kW kS h => hp c o' kW kS h) 7 0 n' kw' kW' kS' (by omega) (xf_1 M.1 hE) hK⟩
end
