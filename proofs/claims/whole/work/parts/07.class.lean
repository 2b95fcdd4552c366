section
variable {t : Nat → Nat} {g : Nat → Bool} {c : Int32} {aE sG kW kS : Nat → Int32} {o : Nat → Int64}
theorem xs_0 {w s : Int32} (n : Nat) (post : Int32 → Prop) (hp : post s) : wX_stateAfter_6 post w c aE sG o kW kS (n + 1) s (-1) := br_t (by decide) hp
theorem xs_s (M : pc_M t g aE sG) {s w j n : Nat} (hs : s < 7) (hw : w < 4096) (hj : j ≤ 10) (post : Int32 → Prop)
    (h : wX_stateAfter_6 post (nI w) c aE sG o kW kS n (nI (wd_run t s (w / 2 ^ j))) (nI j + (-1))) :
    wX_stateAfter_6 post (nI w) c aE sG o kW kS (n + 1) (nI (wd_run t s (w / 2 ^ (j + 1)))) (nI j) := by
  refine br_f (nI_pos (by omega)) ?_
  refine nm_r (pc_shr (Nat.lt_trans hw (by decide)) (by omega)) ?_
  by_cases hq : w / 2 ^ j ≤ 1
  · refine br_t (nI_le (b := 1) hq (by decide)) ?_
    rw [pc_s1 hq]
    exact nm_e h
  · have hq2 : 2 ≤ w / 2 ^ j := Nat.not_le.mp hq
    have hb := pc_st M hs hw hq2 rfl
    exact br_f (nI_ge (a := 1) hq2 (Nat.lt_trans (pc_dl hw) (by decide))) ⟨hb.1, nm_r hb.2 (nm_e h)⟩
theorem xs_l (M : pc_M t g aE sG) {s w : Nat} (hs : s < 7) (hw : w < 4096) (post : Int32 → Prop) (hp : post (nI (wd_run t s w))) :
    ∀ j, j ≤ 10 → wX_stateAfter_6 post (nI w) c aE sG o kW kS (j + 2) (nI (wd_run t s (w / 2 ^ (j + 1)))) (nI j) := by
  intro j
  induction j with
  | zero =>
    intro _
    refine xs_s M hs hw (by omega) post ?_
    rw [show w / 2 ^ 0 = w by rw [Nat.pow_zero, Nat.div_one]]
    exact xs_0 0 post hp
  | succ j ih =>
    intro hj
    refine xs_s M hs hw hj post ?_
    rw [pk_m1]
    exact ih (by omega)
theorem xs_run (M : pc_M t g aE sG) {s w : Nat} (hs : s < 7) (hw : w < 4096) (post : Int32 → Prop) (hp : post (nI (wd_run t s w))) :
    wpX_stateAfter post (c, aE, sG, o, kW, kS) (nI s) (nI w) := by
  refine ⟨12, ?_⟩
  have h := xs_l (c := c) (o := o) (kW := kW) (kS := kS) M hs hw post hp 10 (by omega)
  rw [wd_run_1 s (show w / 2 ^ (10 + 1) ≤ 1 by omega)] at h
  exact h
theorem xk_l (hO : ∀ s, s < 7 → ob_O t g s (o s)) {n : Nat} {kw : Nat → Nat} (hn : n ≤ 7) (hk : ∀ i, i < n → kS i = nI (wd_run t 0 (kw i)) ∧ wd_run t 0 (kw i) < 7)
    {s : Nat} (hs : s < 7) (post : Int32 → Prop) (hp : ∀ r, kd_K t g kw n s r → post r) :
    ∀ d k, k + d = n → (∀ i, i < k → mo_eb t g 6 (wd_run t 0 (kw i)) s = false) → wX_kindOfState_2 post (nI s) (nI n) aE sG o kW kS (d + 1) (nI k) := by
  intro d
  induction d with
  | zero =>
    intro k hkd hf
    exact br_t (nI_le (by omega) (by omega)) (hp _ (Or.inr ⟨fun i hi => hf i (by omega), rfl⟩))
  | succ d ih =>
    intro k hkd hf
    have h1 := hk k (by omega)
    have e1 : kS (nI k).toNatClampNeg = nI (wd_run t 0 (kw k)) := by rw [nI_clamp (by omega)]; exact h1.1
    have i1 : vp_in (kS (nI k).toNatClampNeg) 7 := by rw [e1]; exact vp_in_nI h1.2 (by decide)
    have q : o (kS (nI k).toNatClampNeg).toNatClampNeg = o (nI s).toNatClampNeg ↔ mo_eb t g 6 (wd_run t 0 (kw k)) s = true := by
      rw [e1, nI_clamp (by omega), nI_clamp (by omega)]; exact ob_eq (hO _ h1.2) (hO _ hs)
    refine br_f (nI_ge (by omega) (by omega)) ⟨vp_in_nI (by omega) (by decide), i1, vp_in_nI hs (by decide), ?_⟩
    by_cases h : mo_eb t g 6 (wd_run t 0 (kw k)) s = true
    · exact br_t (q.mpr h) (hp _ (Or.inl ⟨k, by omega, h, rfl⟩))
    · refine br_f (fun z => h (q.mp z)) (nm_r (nI_1 k) (ih (k + 1) (by omega) (fun i hi => ?_)))
      rcases (show i < k ∨ i = k by omega) with hi' | hi'
      · exact hf i hi'
      · rw [hi']; exact ts_nt h
/-- the kinds found so far, as the arrays hold them -/
def xr_K (t kw : Nat → Nat) (n : Nat) (kW kS : Nat → Int32) : Prop := ∀ i, i < n → kW i = nI (kw i) ∧ kS i = nI (wd_run t 0 (kw i))
theorem xr_K_u {kw : Nat → Nat} {n : Nat} (h : xr_K t kw n kW kS) (w : Nat) :
    xr_K t (en_put kw n w) (n + 1) (upd kW n (nI w)) (upd kS n (nI (wd_run t 0 w))) := by
  intro i hi
  by_cases e : i = n
  · rw [e, pk_us, pk_us, en_put_e]; exact ⟨rfl, rfl⟩
  · rw [pk_un e, pk_un e, en_put_n kw w e]; exact h i (by omega)
theorem xk_of (M : pc_M t g aE sG) (hO : ∀ s, s < 7 → ob_O t g s (o s)) {n : Nat} {kw : Nat → Nat} (hn : n ≤ 7) (hk : xr_K t kw n kW kS)
    {s : Nat} (hs : s < 7) (post : Int32 → Prop) (hp : ∀ r, kd_K t g kw n s r → post r) :
    wpX_kindOfState post (nI n, aE, sG, o, kW, kS) (nI s) :=
  ⟨n + 1, xk_l hO hn (fun i hi => ⟨(hk i hi).2, wd_lt M.1 (by decide) _⟩) hs post hp n 0 (by omega) (fun i hi => absurd hi (Nat.not_lt_zero i))⟩
theorem xo_i (M : pc_M t g aE sG) {s : Nat} (hs : s < 7) (post : SX → Prop) (J : Int32 → (Nat → Int32) → (Nat → Int32) → (Nat → Int64) → (Nat → Int32) → (Nat → Int32) → Prop)
    (hJ : ∀ x, ob_O t g s x → J (nI (s + 1)) aE sG (vp_updL o s x) kW kS) :
    ∀ d m x, m + d = 64 → 1 ≤ m → ob_P t g s m x → wX_findOutcomes_13 post J (nI s) c aE sG o kW kS (d + 1) x (nI m) := by
  intro d
  induction d with
  | zero =>
    intro m x hm h1 hx
    have e : m = 64 := by omega
    rw [e] at hx ⊢
    refine br_t (nI_le (a := 64) (Nat.le_refl _) (by decide)) ⟨vp_in_nI hs (by decide), nm_r (e' := vp_updL o s x) (by rw [nI_clamp (by omega)]) (nm_r (nI_1 s) (hJ x (ob_P_e hx)))⟩
  | succ d ih =>
    intro m x hm h1 hx
    refine br_f (nI_ge (b := 64) (by omega) (by decide)) (xs_run M hs (by omega) _ ?_)
    have hl := wd_lt M.1 hs m
    refine ⟨vp_in_nI hl (by decide), ?_⟩
    have hg := pc_good M hl
    cases e : g (wd_run t s m) with
    | false =>
      refine br_t (hg.trans (pc_i0.mpr e)) (nm_r (nI_1 m) (ih (m + 1) x (by omega) (by omega) (ob_P_f hx e)))
    | true =>
      refine br_f (fun z => absurd (pc_i0.mp (hg.symm.trans z)) (by rw [e]; decide)) (nm_e (nm_r (nI_1 m) (ih (m + 1) _ (by omega) (by omega) (ob_P_t hx h1 (by omega) e))))
theorem xo_o (M : pc_M t g aE sG) (post : SX → Prop) (hp : ∀ o', (∀ s, s < 7 → ob_O t g s (o' s)) → post (c, aE, sG, o', kW, kS)) :
    ∀ d s o, s + d = 7 → (∀ q, q < s → ob_O t g q (o q)) → wX_findOutcomes_2 post c (d + 1) (nI s) aE sG o kW kS := by
  intro d
  induction d with
  | zero =>
    intro s o hs h
    exact br_t (nI_le (a := 7) (by omega) (by omega)) (hp o (fun q hq => h q (by omega)))
  | succ d ih =>
    intro s o hs h
    refine br_f (nI_ge (b := 7) (by omega) (by decide)) ⟨64, ?_⟩
    refine xo_i M (by omega) post _ (fun x hx => ih (s + 1) (vp_updL o s x) (by omega) (fun q hq => ?_)) 63 1 0 (by omega) (by omega) (ob_P_1 s)
    by_cases e : q = s
    · rw [e, pk_uLs]; exact hx
    · rw [pk_uLn e]; exact h q (by omega)
theorem xo_out (M : pc_M t g aE sG) (post : SX → Prop) (hp : ∀ o', (∀ s, s < 7 → ob_O t g s (o' s)) → post (c, aE, sG, o', kW, kS)) :
    wpX_findOutcomes post (c, aE, sG, o, kW, kS) :=
  ⟨8, xo_o M post hp 7 0 o (by omega) (fun q hq => absurd hq (Nat.not_lt_zero q))⟩
theorem xa_new (M : pc_M t g aE sG) (hO : ∀ s, s < 7 → ob_O t g s (o s)) {n w : Nat} {kw : Nat → Nat} (hE : en_E t g w kw n) (h1 : 1 ≤ w) (hK : xr_K t kw n kW kS)
    (post : SX → Prop) (hp : ∀ kw' n' kW' kS', en_E t g (w + 1) kw' n' → n ≤ n' → (∀ i, i < n → kw' i = kw i) → xr_K t kw' n' kW' kS' → post (nI n', aE, sG, o, kW', kS')) :
    wpX_addIfNew post (nI n, aE, sG, o, kW, kS) (nI (wd_run t 0 w)) (nI w) := by
  have hn := en_le7 M.1 hE
  unfold wpX_addIfNew
  dsimp only
  refine xk_of M hO hn hK (wd_lt M.1 (by decide) w) _ (fun r hr => ?_)
  rcases hr with ⟨k, hk, e, er⟩ | ⟨hf, er⟩
  · rw [er]
    exact br_f (pc_nm1 (by omega)) (hp kw n kW kS (en_known hE hk e) (Nat.le_refl _) (fun _ _ => rfl) hK)
  · have hE' := en_new hE h1 hf
    have hn' := en_le7 M.1 hE'
    have ec : (nI n).toNatClampNeg = n := nI_clamp (by omega)
    have hp' := hp _ _ _ _ hE' (by omega) (fun i hi => en_put_n kw w (by omega)) (xr_K_u hK w)
    refine br_t er (br_t (nI_lt (b := 7) (by omega) (by decide)) ?_)
    refine ⟨vp_in_nI (by omega) (by decide), nm_r (e' := upd kW n (nI w)) (by rw [ec]) ⟨vp_in_nI (by omega) (by decide), nm_r (e' := upd kS n (nI (wd_run t 0 w))) (by rw [ec]) (nm_r (nI_1 n) hp')⟩⟩
end
