section
variable {t : Nat → Nat} {g : Nat → Bool} {f : Int32} {aA aG aF : Nat → Int32}
theorem yr_0 {w s : Int32} (n : Nat) (post : Int32 → Prop) (hp : post s) : wY_run_29 post w f aA aG aF (n + 1) s (-1) := br_t (by decide) hp
theorem yr_s (M : pc_M t g aA aG) {s w j n : Nat} (hs : s < 7) (hw : w < 4096) (hj : j ≤ 12) (hq : 2 ≤ w / 2 ^ j) (post : Int32 → Prop)
    (h : wY_run_29 post (nI w) f aA aG aF n (nI (wd_run t s (w / 2 ^ j))) (nI j + (-1))) :
    wY_run_29 post (nI w) f aA aG aF (n + 1) (nI (wd_run t s (w / 2 ^ (j + 1)))) (nI j) := by
  have hb := pc_st M hs hw hq (z := nI w >>> (nI j &&& 31)) (pc_shr (Nat.lt_trans hw (by decide)) (by omega))
  exact br_f (nI_pos (by omega)) ⟨hb.1, nm_r hb.2 (nm_e h)⟩
theorem yr_l (M : pc_M t g aA aG) {s w L : Nat} (hs : s < 7) (hw : w < 4096) (hL : L ≤ 12) (hq : ∀ j, j < L → 2 ≤ w / 2 ^ j) (post : Int32 → Prop) (hp : post (nI (wd_run t s w))) :
    ∀ j, j < L → wY_run_29 post (nI w) f aA aG aF (j + 2) (nI (wd_run t s (w / 2 ^ (j + 1)))) (nI j) := by
  intro j
  induction j with
  | zero =>
    intro hj
    refine yr_s M hs hw (by omega) (hq 0 hj) post ?_
    rw [show w / 2 ^ 0 = w by rw [Nat.pow_zero, Nat.div_one]]
    exact yr_0 0 post hp
  | succ j ih =>
    intro hj
    refine yr_s M hs hw (by omega) (hq (j + 1) hj) post ?_
    rw [pk_m1]
    exact ih (by omega)
theorem yr_a (M : pc_M t g aA aG) {s w : Nat} (hs : s < 7) (hw : w < 4096) (post : Int32 → Prop) (hp : post (nI (wd_run t s w))) :
    ∀ d l, l + d = 12 → (∀ j, j < l → 2 ≤ w / 2 ^ j) → wY_run_2 post (nI s) (nI w) f aA aG aF (d + 1) (nI l) := by
  intro d
  induction d with
  | zero =>
    intro l hl hq
    exfalso
    have := hq 11 (by omega)
    rw [show (2 : Nat) ^ 11 = 2048 by decide] at this
    omega
  | succ d ih =>
    intro l hl hq
    have e := pc_shr (w := w) (l := l) (Nat.lt_trans hw (by decide)) (by omega)
    refine br_f (nI_ge (b := 12) (by omega) (by decide)) ?_
    rw [e]
    by_cases h1 : w / 2 ^ l ≤ 1
    · refine br_t (nI_le (b := 1) h1 (by decide)) ?_
      cases l with
      | zero =>
        rw [show w / 2 ^ 0 = w by rw [Nat.pow_zero, Nat.div_one]] at h1
        rw [wd_run_1 s h1] at hp
        exact nm_r (e' := -1) (by rw [nI_0]; decide) ⟨1, yr_0 0 post hp⟩
      | succ l =>
        have h := yr_l (f := f) (aF := aF) M hs hw (L := l + 1) (by omega) hq post hp l (by omega)
        rw [wd_run_1 s h1] at h
        exact nm_r (nI_pred l) ⟨l + 2, h⟩
    · have h2 : 2 ≤ w / 2 ^ l := Nat.not_le.mp h1
      refine br_f (nI_ge (a := 1) h2 (Nat.lt_trans (pc_dl hw) (by decide))) (nm_r (nI_1 l) (ih (l + 1) (by omega) (fun j hj => ?_)))
      rcases (show j < l ∨ j = l by omega) with q | q
      · exact hq j q
      · rw [q]; exact h2
theorem yr_run (M : pc_M t g aA aG) {s w : Nat} (hs : s < 7) (hw : w < 4096) (post : Int32 → Prop) (hp : post (nI (wd_run t s w))) :
    wpY_run post (f, aA, aG, aF) (nI s) (nI w) :=
  ⟨13, yr_a M hs hw post hp 12 0 (by omega) (fun j hj => absurd hj (Nat.not_lt_zero j))⟩
theorem yg_af (M : pc_M t g aA aG) {s w : Nat} (hs : s < 7) (hw : w < 4096) (post : Int32 → Prop) (hp : post (pc_i (g (wd_run t s w)))) :
    wpY_isGoodAfter post (f, aA, aG, aF) (nI s) (nI w) := by
  unfold wpY_isGoodAfter
  dsimp only
  refine yr_run M hs hw _ ?_
  have hl := wd_lt M.1 hs w
  refine ⟨vp_in_nI hl (by decide), ?_⟩
  rw [pc_good M hl]
  exact ⟨pc_nr _, hp⟩
theorem ya_l (M : pc_M t g aA aG) {p q : Nat} (hp7 : p < 7) (hq7 : q < 7) (post : Int32 → Prop) (hp : ∀ r, ds_D t g p q 128 r → post r) :
    ∀ d m, m + d = 128 → 1 ≤ m → (∀ v, 1 ≤ v → v < m → g (wd_run t p v) = g (wd_run t q v)) → wY_apart_2 post (nI p) (nI q) f aA aG aF (d + 1) (nI m) := by
  intro d
  induction d with
  | zero =>
    intro m hm h1 ha
    exact br_t (nI_le (a := 128) (by omega) (by omega)) (hp _ (Or.inr ⟨fun v a b => ha v a (by omega), rfl⟩))
  | succ d ih =>
    intro m hm h1 ha
    refine br_f (nI_ge (b := 128) (by omega) (by decide)) ?_
    refine yg_af M hp7 (by omega) _ ?_
    refine yg_af M hq7 (by omega) _ ?_
    by_cases e : g (wd_run t p m) = g (wd_run t q m)
    · refine br_t (by rw [e]) (nm_r (nI_1 m) (ih (m + 1) (by omega) (by omega) (fun v a b => ?_)))
      rcases (show v < m ∨ v = m by omega) with x | x
      · exact ha v a x
      · rw [x]; exact e
    · exact br_f (fun z => e (pc_inj z)) (hp _ (Or.inl ⟨m, h1, by omega, e, ha, rfl⟩))
theorem ya_part (M : pc_M t g aA aG) {p q : Nat} (hp7 : p < 7) (hq7 : q < 7) (post : Int32 → Prop) (hp : ∀ r, ds_D t g p q 128 r → post r) :
    wpY_apart post (f, aA, aG, aF) (nI p) (nI q) :=
  ⟨128, ya_l M hp7 hq7 post hp 127 1 (by omega) (by omega) (fun v a b => absurd a (by omega))⟩
/-- the first words found so far, as the array holds them -/
def yr_K (vw : Nat → Nat) (m : Nat) (aF : Nat → Int32) : Prop := ∀ i, i < m → aF i = nI (vw i) ∧ vw i < 128
theorem yk_l (M : pc_M t g aA aG) {m : Nat} {vw : Nat → Nat} (hm : m ≤ 7) (hF : yr_K vw m aF) {s : Nat} (hs : s < 7) (post : Int32 → Prop) (hp : ∀ r, kd_K t g vw m s r → post r) :
    ∀ d k, k + d = m → (∀ i, i < k → mo_eb t g 6 (wd_run t 0 (vw i)) s = false) → wY_kindOf_2 post (nI s) (nI m) aA aG aF (d + 1) (nI k) := by
  intro d
  induction d with
  | zero =>
    intro k hkd hf
    exact br_t (nI_le (by omega) (by omega)) (hp _ (Or.inr ⟨fun i hi => hf i (by omega), rfl⟩))
  | succ d ih =>
    intro k hkd hf
    have h1 := hF k (by omega)
    have e1 : aF (nI k).toNatClampNeg = nI (vw k) := by rw [nI_clamp (by omega)]; exact h1.1
    have hl := wd_lt M.1 (show 0 < 7 by decide) (vw k)
    refine br_f (nI_ge (by omega) (by omega)) ⟨vp_in_nI (by omega) (by decide), ?_⟩
    rw [e1]
    refine yr_run (s := 0) M (by decide) (by omega) _ ?_
    refine ya_part M hl hs _ (fun r hr => ?_)
    have q := ds_0 M.1 hl hs hr
    by_cases h : mo_eb t g 6 (wd_run t 0 (vw k)) s = true
    · exact br_t (q.mpr h) (hp _ (Or.inl ⟨k, by omega, h, rfl⟩))
    · refine br_f (fun z => h (q.mp z)) (nm_r (nI_1 k) (ih (k + 1) (by omega) (fun i hi => ?_)))
      rcases (show i < k ∨ i = k by omega) with hi' | hi'
      · exact hf i hi'
      · rw [hi']; exact ts_nt h
theorem yk_of (M : pc_M t g aA aG) {m : Nat} {vw : Nat → Nat} (hm : m ≤ 7) (hF : yr_K vw m aF) {s : Nat} (hs : s < 7) (post : Int32 → Prop) (hp : ∀ r, kd_K t g vw m s r → post r) :
    wpY_kindOf post (nI m, aA, aG, aF) (nI s) :=
  ⟨m + 1, yk_l M hm hF hs post hp m 0 (by omega) (fun i hi => absurd hi (Nat.not_lt_zero i))⟩
theorem yd_l (M : pc_M t g aA aG) (post : SY → Prop) (hp : ∀ vw m aF, en_E t g 128 vw m → yr_K vw m aF → post (nI m, aA, aG, aF)) :
    ∀ d w vw m aF, w + d = 128 → 1 ≤ w → en_E t g w vw m → yr_K vw m aF → wY_divide_7 post (d + 1) (nI w) (nI m) aA aG aF := by
  intro d
  induction d with
  | zero =>
    intro w vw m aF hw h1 hE hF
    have e : w = 128 := by omega
    rw [e] at hE
    exact br_t (nI_le (a := 128) (by omega) (by omega)) (hp vw m aF hE hF)
  | succ d ih =>
    intro w vw m aF hw h1 hE hF
    have hl := wd_lt M.1 (show 0 < 7 by decide) w
    have hm := en_le7 M.1 hE
    refine br_f (nI_ge (b := 128) (by omega) (by decide)) ?_
    refine yr_run (s := 0) M (by decide) (by omega) _ ?_
    refine yk_of M hm hF hl _ (fun r hr => ?_)
    rcases hr with ⟨k, hk, e, er⟩ | ⟨hf, er⟩
    · rw [er]
      exact br_t (nI_pos' (by omega)) (nm_r (nI_1 w) (ih (w + 1) vw m aF (by omega) (by omega) (en_known hE hk e) hF))
    · rw [er]
      have hE' := en_new hE h1 hf
      have hm' := en_le7 M.1 hE'
      have ec : (nI m).toNatClampNeg = m := nI_clamp (by omega)
      refine br_f (by decide) ⟨vp_in_nI (by omega) (by decide), nm_r (e' := upd aF m (nI w)) (by rw [ec]) (nm_r (nI_1 m) (nm_r (nI_1 w) (ih (w + 1) (en_put vw m w) (m + 1) _ (by omega) (by omega) hE' (fun i hi => ?_))))⟩
      by_cases ei : i = m
      · rw [ei, pk_us, en_put_e]; exact ⟨rfl, by omega⟩
      · rw [pk_un ei, en_put_n vw w ei]; exact hF i (by omega)
theorem yd_div (M : pc_M t g aA aG) (post : SY → Prop) (hp : ∀ vw m aF, en_E t g 128 vw m → yr_K vw m aF → post (nI m, aA, aG, aF)) :
    wpY_divide post (f, aA, aG, aF) := by
  refine ⟨128, ?_⟩
  exact yd_l M post hp 127 1 (fun _ => 0) 0 aF (by omega) (by omega) (en_0 _) (fun i hi => absurd hi (Nat.not_lt_zero i))
end
