section
variable {t : Nat → Nat} {g : Nat → Bool} {c : Int32} {aE sG kW kS : Nat → Int32} {o : Nat → Int64}
theorem xi_sB {x : Int32} (h : x < 0 ∨ nI 7 ≤ x) (post : Int32 → Prop) (hp : post 0) : wpX_isState post x := by
  by_cases h0 : x < 0
  · exact br_t h0 hp
  · exact br_f h0 (br_t (h.resolve_left h0) hp)
theorem xi_s {s : Nat} (h : s < 7) (post : Int32 → Prop) (hp : post 1) : wpX_isState post (nI s) :=
  br_f (nI_pos (by omega)) (br_f (nI_ge (b := 7) h (by decide)) hp)
theorem xi_wB {x : Int32} (h : x < 1 ∨ 4095 < x) (post : Int32 → Prop) (hp : post 0) : wpX_isWord post x := by
  by_cases h0 : x < 1
  · exact br_t h0 hp
  · exact br_f h0 (br_t (h.resolve_left h0) hp)
theorem xi_w {w : Nat} (h1 : 1 ≤ w) (h : w < 4096) (post : Int32 → Prop) (hp : post 1) : wpX_isWord post (nI w) :=
  br_f (pc_w1 h1 h) (br_f (pc_w2 h) hp)
theorem xi_kB {n : Nat} {x : Int32} (h : x < 0 ∨ nI n ≤ x) (post : Int32 → Prop) (hp : post 0) : wpX_isKind post (nI n, aE, sG, o, kW, kS) x := by
  by_cases h0 : x < 0
  · exact br_t h0 hp
  · exact br_f h0 (br_t (h.resolve_left h0) hp)
theorem xi_k {n j : Nat} (h : j < n) (hn : n ≤ 7) (post : Int32 → Prop) (hp : post 1) : wpX_isKind post (nI n, aE, sG, o, kW, kS) (nI j) :=
  br_f (nI_pos (by omega)) (br_f (nI_ge h (by omega)) hp)
theorem yi_sB {x : Int32} (h : x < 0 ∨ nI 7 ≤ x) (post : Int32 → Prop) (hp : post 1) : wpY_badState post x := by
  by_cases h0 : x < 0
  · exact br_t h0 hp
  · exact br_f h0 (br_f (pc_n6 (h.resolve_left h0)) hp)
theorem yi_s {s : Nat} (h : s < 7) (post : Int32 → Prop) (hp : post 0) : wpY_badState post (nI s) :=
  br_f (nI_pos (by omega)) (br_t (nI_le (b := 6) (by omega) (by decide)) hp)
theorem yi_wB {x : Int32} (h : x < 1 ∨ 4095 < x) (post : Int32 → Prop) (hp : post 1) : wpY_bad post x := by
  by_cases h0 : x < 1
  · exact br_t h0 hp
  · exact br_f h0 (br_f (pc_n4 (h.resolve_left h0)) hp)
theorem yi_w {w : Nat} (h1 : 1 ≤ w) (h : w < 4096) (post : Int32 → Prop) (hp : post 0) : wpY_bad post (nI w) :=
  br_f (pc_w1 h1 h) (br_t (nI_le (b := 4095) (by omega) (by decide)) hp)
/-- x is no kind's number -/
theorem yi_kB {n : Nat} {x : Int32} {A B C : Prop} (h : x < 0 ∨ nI n ≤ x) (hA : A) (hC : C) : ((x < 0 → A) ∧ (¬ x < 0 → ((x < nI n → B) ∧ (¬ x < nI n → C)))) := by
  by_cases h0 : x < 0
  · exact br_t h0 hA
  · exact br_f h0 (br_f (fun z => absurd (h.resolve_left h0) (Int32.not_le.mpr z)) hC)
theorem yi_k {n j : Nat} {A B C : Prop} (h : j < n) (hn : n ≤ 7) (hB : B) : ((nI j < 0 → A) ∧ (¬ nI j < 0 → ((nI j < nI n → B) ∧ (¬ nI j < nI n → C)))) :=
  br_f (nI_pos (by omega)) (br_t (nI_lt h (by omega)) hB)
theorem pc_kind (x : Int32) {n : Nat} (hn : n ≤ 7) : (x < 0 ∨ nI n ≤ x) ∨ ∃ j : Nat, j < n ∧ x = nI j := by
  rcases pk_ix x (n := n) (by omega) with h | h | h
  · exact Or.inl (Or.inl h)
  · exact Or.inl (Or.inr h)
  · exact Or.inr h
/-- the component's least difference -/
theorem xd_l {p q : Nat} {x y : Int64} (hx : ob_O t g p x) (hy : ob_O t g q y) (post : Int32 → Prop) (hp : ∀ r, ds_D t g p q 64 r → post r) :
    ∀ d m, m + d = 64 → 1 ≤ m → (∀ v, 1 ≤ v → v < m → g (wd_run t p v) = g (wd_run t q v)) → wX_difference_50 post (x ^^^ y) c aE sG o kW kS (d + 1) (nI m) := by
  intro d
  induction d with
  | zero =>
    intro m hm h1 ha
    exact br_t (nI_le (a := 64) (by omega) (by omega)) (hp _ (Or.inr ⟨fun v a b => ha v a (by omega), rfl⟩))
  | succ d ih =>
    intro m hm h1 ha
    refine br_f (nI_ge (b := 64) (by omega) (by decide)) ?_
    have e := (ob_sh (x := x ^^^ y) (k := m) (by omega)).trans (ob_df hx hy h1 (by omega))
    by_cases h : g (wd_run t p m) = g (wd_run t q m)
    · refine br_t (e.mpr h) (nm_r (nI_1 m) (ih (m + 1) (by omega) (by omega) (fun v a b => ?_)))
      rcases (show v < m ∨ v = m by omega) with z | z
      · exact ha v a z
      · rw [z]; exact h
    · exact br_f (fun z => h (e.mp z)) (hp _ (Or.inl ⟨m, h1, by omega, h, ha, rfl⟩))
/-- the constructors -/
theorem xz_b {s : Nat} (hs : s < 7) (post : SX → Prop) (J : Int32 → (Nat → Int32) → (Nat → Int32) → (Nat → Int64) → (Nat → Int32) → (Nat → Int32) → Prop)
    (hJ : ∀ a, zi_I (2 * (s + 1)) a → J (nI (s + 1)) a sG o kW kS) :
    ∀ d l a, l + d = 2 → zi_I (2 * s + l) a → wX_init_54 post J (nI s) c (d + 1) (nI l) a sG o kW kS := by
  intro d
  induction d with
  | zero =>
    intro l a hl h
    have e : l = 2 := by omega
    rw [e] at h
    exact br_t (nI_le (a := 2) (by omega) (by omega)) (nm_r (nI_1 s) (hJ a h))
  | succ d ih =>
    intro l a hl h
    have e : (2 : Int32) * nI s + nI l = nI (2 * s + l) := pc_2a s l
    refine br_f (nI_ge (b := 2) (by omega) (by decide)) ⟨by rw [e]; exact vp_in_nI (by omega) (by decide), nm_r (e' := upd a (2 * s + l) (nI s)) (by rw [e, nI_clamp (by omega)]) (nm_r (nI_1 l) (ih (l + 1) _ (by omega) ?_))⟩
    exact zi_s h (by rw [show (2 * s + l) / 2 = s by omega])
theorem xz_a (post : SX → Prop) (hp : ∀ c a o kW kS, zi_I 14 a → xr_R (fun i => i / 2) (fun _ => false) c o kW kS → post (c, a, (fun _ => 0), o, kW, kS)) :
    ∀ d s a, s + d = 7 → zi_I (2 * s) a → wX_init_46 post c (d + 1) (nI s) a (fun _ => 0) o kW kS := by
  intro d
  induction d with
  | zero =>
    intro s a hs h
    have e : s = 7 := by omega
    rw [e] at h
    refine br_t (nI_le (a := 7) (by omega) (by omega)) ?_
    refine xf_k (zi_M h) _ (fun c o kW kS R => ?_)
    exact hp c a o kW kS h R
  | succ d ih =>
    intro s a hs h
    refine br_f (nI_ge (b := 7) (by omega) (by decide)) ⟨3, ?_⟩
    exact xz_b (by omega) post _ (fun a ha => ih (s + 1) a (by omega) ha) 2 0 a (by omega) h
theorem yz_a {aG aF : Nat → Int32} {f : Int32} (post : SY → Prop) (hp : ∀ a, zi_I 14 a → post (f, a, aG, aF)) :
    ∀ d s a, s + d = 7 → zi_I (2 * s) a → wY_init_30 post f (d + 1) (nI s) a aG aF := by
  intro d
  induction d with
  | zero =>
    intro s a hs h
    have e : s = 7 := by omega
    rw [e] at h
    exact br_t (nI_le (a := 7) (by omega) (by omega)) (hp a h)
  | succ d ih =>
    intro s a hs h
    have e0 : (2 : Int32) * nI s = nI (2 * s) := pk_mul 2 s
    have e1 : (2 : Int32) * nI s + 1 = nI (2 * s + 1) := by rw [e0, nI_1]
    have h1 := zi_s h (x := nI s) (by rw [show 2 * s / 2 = s by omega])
    have h2 := zi_s h1 (x := nI s) (by rw [show (2 * s + 1) / 2 = s by omega])
    refine br_f (nI_ge (b := 7) (by omega) (by decide)) ⟨by rw [e0]; exact vp_in_nI (by omega) (by decide), nm_r (e' := upd a (2 * s) (nI s)) (by rw [e0, nI_clamp (by omega)]) ⟨by rw [e1]; exact vp_in_nI (by omega) (by decide), nm_r (e' := upd (upd a (2 * s) (nI s)) (2 * s + 1) (nI s)) (by rw [e1, nI_clamp (by omega)]) (nm_r (nI_1 s) (ih (s + 1) _ (by omega) h2))⟩⟩
end
