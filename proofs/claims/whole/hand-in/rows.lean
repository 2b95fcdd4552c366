section
/-- how many of the numbers below n have P -/
def mo_ct (P : Nat → Bool) : Nat → Nat
  | 0 => 0
  | n + 1 => mo_ct P n + (if P n = true then 1 else 0)
theorem mo_ct_le (P : Nat → Bool) : ∀ N, mo_ct P N ≤ N := by
  intro N
  induction N with
  | zero => exact Nat.le_refl _
  | succ n ih =>
    show mo_ct P n + (if P n = true then 1 else 0) ≤ n + 1
    split <;> omega
theorem mo_ct_pos (P : Nat → Bool) (h : P 0 = true) : ∀ N, 1 ≤ mo_ct P (N + 1) := by
  intro N
  induction N with
  | zero =>
    show 1 ≤ mo_ct P 0 + (if P 0 = true then 1 else 0)
    rw [if_pos h]; omega
  | succ n ih =>
    show 1 ≤ mo_ct P (n + 1) + (if P (n + 1) = true then 1 else 0)
    omega
theorem mo_ct_mono (P Q : Nat → Bool) : ∀ N, (∀ q, q < N → P q = true → Q q = true) →
    mo_ct P N ≤ mo_ct Q N ∧ (mo_ct Q N ≤ mo_ct P N → ∀ q, q < N → Q q = true → P q = true) := by
  intro N
  induction N with
  | zero => intro _; exact ⟨Nat.le_refl _, fun _ q hq => absurd hq (Nat.not_lt_zero q)⟩
  | succ n ih =>
    intro h
    obtain ⟨h1, h2⟩ := ih (fun q hq => h q (by omega))
    have h3 := h n (by omega)
    have eP : mo_ct P (n + 1) = mo_ct P n + (if P n = true then 1 else 0) := rfl
    have eQ : mo_ct Q (n + 1) = mo_ct Q n + (if Q n = true then 1 else 0) := rfl
    rw [eP, eQ]
    by_cases hp : P n = true
    · have hq := h3 hp
      rw [if_pos hp, if_pos hq]
      refine ⟨by omega, fun hle q hq' hQ => ?_⟩
      rcases Nat.lt_or_ge q n with hl | hl
      · exact h2 (by omega) q hl hQ
      · have e : q = n := by omega
        rw [e]; exact hp
    · rw [if_neg hp]
      by_cases hq : Q n = true
      · rw [if_pos hq]
        exact ⟨by omega, fun hle => absurd hle (by omega)⟩
      · rw [if_neg hq]
        refine ⟨by omega, fun hle q hq' hQ => ?_⟩
        rcases Nat.lt_or_ge q n with hl | hl
        · exact h2 (by omega) q hl hQ
        · have e : q = n := by omega
          rw [e] at hQ; exact absurd hQ hq
/-- no word of fewer than k letters tells the states p and q apart -/
def mo_eb (t : Nat → Nat) (g : Nat → Bool) : Nat → Nat → Nat → Bool
  | 0, _, _ => true
  | k + 1, p, q => (g p == g q) && (mo_eb t g k (t (2 * p)) (t (2 * q)) && mo_eb t g k (t (2 * p + 1)) (t (2 * q + 1)))
section
variable {t : Nat → Nat} {g : Nat → Bool}
theorem mo_eb_s {k p q : Nat} : mo_eb t g (k + 1) p q = true ↔
    g p = g q ∧ mo_eb t g k (t (2 * p)) (t (2 * q)) = true ∧ mo_eb t g k (t (2 * p + 1)) (t (2 * q + 1)) = true := by
  rw [mo_eb, Bool.and_eq_true, Bool.and_eq_true, beq_iff_eq]
theorem mo_refl : ∀ k p : Nat, mo_eb t g k p p = true := by
  intro k
  induction k with
  | zero => intro p; rfl
  | succ k ih => intro p; exact mo_eb_s.mpr ⟨rfl, ih _, ih _⟩
theorem mo_symm : ∀ k p q : Nat, mo_eb t g k p q = true → mo_eb t g k q p = true := by
  intro k
  induction k with
  | zero => intro p q _; rfl
  | succ k ih =>
    intro p q h
    obtain ⟨h1, h2, h3⟩ := mo_eb_s.mp h
    exact mo_eb_s.mpr ⟨h1.symm, ih _ _ h2, ih _ _ h3⟩
theorem mo_trans : ∀ k p q r : Nat, mo_eb t g k p q = true → mo_eb t g k q r = true → mo_eb t g k p r = true := by
  intro k
  induction k with
  | zero => intro p q r _ _; rfl
  | succ k ih =>
    intro p q r h h'
    obtain ⟨h1, h2, h3⟩ := mo_eb_s.mp h
    obtain ⟨e1, e2, e3⟩ := mo_eb_s.mp h'
    exact mo_eb_s.mpr ⟨h1.trans e1, ih _ _ _ h2 e2, ih _ _ _ h3 e3⟩
theorem mo_down : ∀ k p q : Nat, mo_eb t g (k + 1) p q = true → mo_eb t g k p q = true := by
  intro k
  induction k with
  | zero => intro p q _; rfl
  | succ k ih =>
    intro p q h
    obtain ⟨h1, h2, h3⟩ := mo_eb_s.mp h
    exact mo_eb_s.mpr ⟨h1, ih _ _ h2, ih _ _ h3⟩
/-- one letter more tells nothing more apart -/
def mo_St (t : Nat → Nat) (g : Nat → Bool) (k : Nat) : Prop :=
  ∀ p q, p < 7 → q < 7 → mo_eb t g k p q = true → mo_eb t g (k + 1) p q = true
theorem mo_St_s (ht : ∀ i, i < 14 → t i < 7) {k : Nat} (h : mo_St t g k) : mo_St t g (k + 1) := by
  intro p q hp hq e
  obtain ⟨h1, h2, h3⟩ := mo_eb_s.mp e
  exact mo_eb_s.mpr ⟨h1, h _ _ (ht _ (by omega)) (ht _ (by omega)) h2, h _ _ (ht _ (by omega)) (ht _ (by omega)) h3⟩
theorem mo_St_add (ht : ∀ i, i < 14 → t i < 7) {k : Nat} (h : mo_St t g k) : ∀ n, mo_St t g (k + n) := by
  intro n
  induction n with
  | zero => exact h
  | succ n ih => exact mo_St_s ht ih
def mo_rep (t : Nat → Nat) (g : Nat → Bool) (k q : Nat) : Bool := decide (∀ p, p < q → mo_eb t g k p q = false)
theorem mo_rep_i {k q : Nat} : mo_rep t g k q = true ↔ ∀ p, p < q → mo_eb t g k p q = false := by
  rw [mo_rep, decide_eq_true_eq]
theorem mo_rep_ex (k : Nat) : ∀ q : Nat, ∃ p, p ≤ q ∧ mo_rep t g k p = true ∧ mo_eb t g k p q = true := by
  intro q
  induction q using Nat.strongRecOn with
  | ind q ih =>
    by_cases h : ∀ p, p < q → mo_eb t g k p q = false
    · exact ⟨q, Nat.le_refl _, mo_rep_i.mpr h, mo_refl k q⟩
    · have h' : ∃ p, p < q ∧ mo_eb t g k p q = true := by
        apply Classical.byContradiction
        intro hn
        apply h
        intro p hp
        cases e : mo_eb t g k p q with
        | false => rfl
        | true => exact absurd ⟨p, hp, e⟩ hn
      obtain ⟨p, hp, e⟩ := h'
      obtain ⟨r, hr, h1, h2⟩ := ih p hp
      exact ⟨r, by omega, h1, mo_trans k _ _ _ h2 e⟩
theorem mo_rep_up {k q : Nat} (h : mo_rep t g k q = true) : mo_rep t g (k + 1) q = true := by
  rw [mo_rep_i] at h ⊢
  intro p hp
  cases e : mo_eb t g (k + 1) p q with
  | false => rfl
  | true => exact absurd (h p hp) (by rw [mo_down k p q e]; decide)
theorem mo_rep_un {k p q : Nat} (hp : mo_rep t g k p = true) (hq : mo_rep t g k q = true) (e : mo_eb t g k p q = true) : p = q := by
  rw [mo_rep_i] at hp hq
  rcases Nat.lt_trichotomy p q with h | h | h
  · have e' := hq p h; rw [e] at e'; exact absurd e' (by decide)
  · exact h
  · have e' := hp q h; rw [mo_symm k _ _ e] at e'; exact absurd e' (by decide)
theorem mo_step {k : Nat} (h : mo_ct (mo_rep t g (k + 1)) 7 ≤ mo_ct (mo_rep t g k) 7) : mo_St t g k := by
  have hb := (mo_ct_mono (mo_rep t g k) (mo_rep t g (k + 1)) 7 (fun q _ hq => mo_rep_up hq)).2 h
  intro p q hp hq e
  obtain ⟨p', hp', rp, ep⟩ := mo_rep_ex (t := t) (g := g) (k + 1) p
  obtain ⟨q', hq', rq, eq⟩ := mo_rep_ex (t := t) (g := g) (k + 1) q
  have e1 : mo_eb t g k p' q' = true :=
    mo_trans k _ _ _ (mo_trans k _ _ _ (mo_down k _ _ ep) e) (mo_symm k _ _ (mo_down k _ _ eq))
  have e2 : p' = q' := mo_rep_un (hb p' (by omega) rp) (hb q' (by omega) rq) e1
  rw [← e2] at eq
  exact mo_trans (k + 1) _ _ _ (mo_symm (k + 1) _ _ ep) eq
theorem mo_lt {k : Nat} (h : ¬ mo_St t g k) : mo_ct (mo_rep t g k) 7 + 1 ≤ mo_ct (mo_rep t g (k + 1)) 7 := by
  rcases Nat.lt_or_ge (mo_ct (mo_rep t g k) 7) (mo_ct (mo_rep t g (k + 1)) 7) with h1 | h1
  · exact h1
  · exact absurd (mo_step h1) h
/-- words of at most five letters tell apart all that can be told apart -/
theorem mo_St6 (ht : ∀ i, i < 14 → t i < 7) : mo_St t g 6 := by
  apply Classical.byContradiction
  intro h6
  have hn : ∀ j, j ≤ 6 → ¬ mo_St t g j := by
    intro j hj hs
    have := mo_St_add ht hs (6 - j)
    rw [show j + (6 - j) = 6 by omega] at this
    exact h6 this
  have c0 : mo_ct (mo_rep t g 0) 7 + 1 ≤ mo_ct (mo_rep t g 1) 7 := mo_lt (hn 0 (by omega))
  have c1 : mo_ct (mo_rep t g 1) 7 + 1 ≤ mo_ct (mo_rep t g 2) 7 := mo_lt (hn 1 (by omega))
  have c2 : mo_ct (mo_rep t g 2) 7 + 1 ≤ mo_ct (mo_rep t g 3) 7 := mo_lt (hn 2 (by omega))
  have c3 : mo_ct (mo_rep t g 3) 7 + 1 ≤ mo_ct (mo_rep t g 4) 7 := mo_lt (hn 3 (by omega))
  have c4 : mo_ct (mo_rep t g 4) 7 + 1 ≤ mo_ct (mo_rep t g 5) 7 := mo_lt (hn 4 (by omega))
  have c5 : mo_ct (mo_rep t g 5) 7 + 1 ≤ mo_ct (mo_rep t g 6) 7 := mo_lt (hn 5 (by omega))
  have c6 : mo_ct (mo_rep t g 6) 7 + 1 ≤ mo_ct (mo_rep t g 7) 7 := mo_lt (hn 6 (by omega))
  have cz : 1 ≤ mo_ct (mo_rep t g 0) 7 := mo_ct_pos _ (mo_rep_i.mpr (fun p hp => absurd hp (Nat.not_lt_zero p))) 6
  have cl := mo_ct_le (mo_rep t g 7) 7
  omega
/-- the same letter behind states that are alike -/
theorem mo_cong (ht : ∀ i, i < 14 → t i < 7) {p q a : Nat} (hp : p < 7) (hq : q < 7) (ha : a < 2)
    (e : mo_eb t g 6 p q = true) : mo_eb t g 6 (t (2 * p + a)) (t (2 * q + a)) = true := by
  obtain ⟨_, h0, h1⟩ := mo_eb_s.mp (mo_St6 ht p q hp hq e)
  rcases (show a = 0 ∨ a = 1 by omega) with rfl | rfl
  · exact h0
  · exact h1
end
end
section
/-- the state after the word w (a 1 put before its letters) from the state s; n is fuel -/
def wd_f (t : Nat → Nat) (s : Nat) : Nat → Nat → Nat
  | 0, _ => s
  | n + 1, w => if w ≤ 1 then s else t (2 * wd_f t s n (w / 2) + w % 2)
def wd_run (t : Nat → Nat) (s w : Nat) : Nat := wd_f t s w w
section
variable {t : Nat → Nat} {g : Nat → Bool}
theorem wd_f_eq (s : Nat) : ∀ n m w : Nat, w ≤ n → w ≤ m → wd_f t s n w = wd_f t s m w := by
  intro n
  induction n with
  | zero =>
    intro m w h _
    have e : w = 0 := by omega
    cases m with
    | zero => rfl
    | succ m => show s = if w ≤ 1 then s else _; rw [if_pos (by omega)]
  | succ n ih =>
    intro m w h h'
    cases m with
    | zero => show (if w ≤ 1 then s else _) = s; rw [if_pos (by omega)]
    | succ m =>
      show (if w ≤ 1 then s else t (2 * wd_f t s n (w / 2) + w % 2)) = (if w ≤ 1 then s else t (2 * wd_f t s m (w / 2) + w % 2))
      by_cases hw : w ≤ 1
      · rw [if_pos hw, if_pos hw]
      · rw [if_neg hw, if_neg hw, ih m (w / 2) (by omega) (by omega)]
theorem wd_run_1 (s : Nat) {w : Nat} (h : w ≤ 1) : wd_run t s w = s := by
  unfold wd_run
  cases w with
  | zero => rfl
  | succ w => show (if w + 1 ≤ 1 then s else _) = s; rw [if_pos h]
theorem wd_run_h (s : Nat) {w : Nat} (h : 2 ≤ w) : wd_run t s w = t (2 * wd_run t s (w / 2) + w % 2) := by
  obtain ⟨n, rfl⟩ : ∃ n, w = n + 1 := ⟨w - 1, by omega⟩
  show (if n + 1 ≤ 1 then s else t (2 * wd_f t s n ((n + 1) / 2) + (n + 1) % 2)) = _
  rw [if_neg (by omega), wd_f_eq s n ((n + 1) / 2) ((n + 1) / 2) (by omega) (Nat.le_refl _)]
  rfl
theorem wd_run_s (s : Nat) {w a : Nat} (h : 1 ≤ w) (ha : a < 2) : wd_run t s (2 * w + a) = t (2 * wd_run t s w + a) := by
  rw [wd_run_h s (by omega), show (2 * w + a) / 2 = w by omega, show (2 * w + a) % 2 = a by omega]
theorem wd_lt (ht : ∀ i, i < 14 → t i < 7) {s : Nat} (hs : s < 7) : ∀ w : Nat, wd_run t s w < 7 := by
  intro w
  induction w using Nat.strongRecOn with
  | ind w ih =>
    by_cases h : w ≤ 1
    · rw [wd_run_1 s h]; exact hs
    · rw [wd_run_h s (by omega)]
      have := ih (w / 2) (by omega)
      exact ht _ (by omega)
/-- the number of the word that has the letter a ahead of the word v; n is fuel -/
def wd_cf (a : Nat) : Nat → Nat → Nat
  | 0, _ => 2 + a
  | n + 1, v => if v ≤ 1 then 2 + a else 2 * wd_cf a n (v / 2) + v % 2
theorem wd_cf_run (s a : Nat) (ha : a < 2) : ∀ n v : Nat, 1 ≤ v → v ≤ n + 1 →
    2 ≤ wd_cf a n v ∧ wd_run t s (wd_cf a n v) = wd_run t (t (2 * s + a)) v := by
  have hz : wd_run t s (2 + a) = t (2 * s + a) := by
    rw [show 2 + a = 2 * 1 + a by omega, wd_run_s s (by omega) ha, wd_run_1 s (by omega)]
  intro n
  induction n with
  | zero =>
    intro v h1 h2
    have e : v = 1 := by omega
    rw [e]
    exact ⟨by show 2 ≤ 2 + a; omega, by show wd_run t s (2 + a) = _; rw [hz, wd_run_1 _ (by omega)]⟩
  | succ n ih =>
    intro v h1 h2
    have ec : wd_cf a (n + 1) v = if v ≤ 1 then 2 + a else 2 * wd_cf a n (v / 2) + v % 2 := rfl
    by_cases h : v ≤ 1
    · rw [ec, if_pos h]
      exact ⟨by omega, by rw [hz, wd_run_1 _ h]⟩
    · rw [ec, if_neg h]
      obtain ⟨i1, i2⟩ := ih (v / 2) (by omega) (by omega)
      refine ⟨by omega, ?_⟩
      rw [wd_run_s s (by omega) (by omega), i2, ← wd_run_h (t := t) _ (show 2 ≤ v by omega)]
theorem wd_cf_lt (a : Nat) (ha : a < 2) : ∀ n k v : Nat, v < 2 ^ k → 1 ≤ v → v ≤ n + 1 → wd_cf a n v < 2 ^ (k + 1) := by
  intro n
  induction n with
  | zero =>
    intro k v h h1 h2
    show 2 + a < 2 ^ (k + 1)
    have e : v = 1 := by omega
    rw [e] at h
    have : k ≠ 0 := by intro hk; rw [hk] at h; omega
    obtain ⟨j, rfl⟩ : ∃ j, k = j + 1 := ⟨k - 1, by omega⟩
    have := Nat.one_le_two_pow (n := j)
    rw [Nat.pow_succ, Nat.pow_succ]
    omega
  | succ n ih =>
    intro k v h h1 h2
    have ec : wd_cf a (n + 1) v = if v ≤ 1 then 2 + a else 2 * wd_cf a n (v / 2) + v % 2 := rfl
    have hk : k ≠ 0 := by intro hk; rw [hk] at h; omega
    obtain ⟨j, rfl⟩ : ∃ j, k = j + 1 := ⟨k - 1, by omega⟩
    have hj := Nat.one_le_two_pow (n := j)
    rw [ec]
    by_cases hv : v ≤ 1
    · rw [if_pos hv, Nat.pow_succ, Nat.pow_succ]; omega
    · rw [if_neg hv]
      rw [Nat.pow_succ] at h
      have := ih j (v / 2) (by omega) (by omega) (by omega)
      rw [Nat.pow_succ]; omega
theorem wd_front : ∀ k w : Nat, 2 ≤ w → w < 2 ^ (k + 1) →
    ∃ a v, a < 2 ∧ 1 ≤ v ∧ v < 2 ^ k ∧ ∀ (t : Nat → Nat) (s : Nat), wd_run t s w = wd_run t (t (2 * s + a)) v := by
  intro k
  induction k with
  | zero => intro w h h'; omega
  | succ k ih =>
    intro w h h'
    by_cases h4 : w < 4
    · refine ⟨w - 2, 1, by omega, by omega, ?_, fun t s => ?_⟩
      · have := Nat.one_le_two_pow (n := k)
        rw [Nat.pow_succ]; omega
      · rw [wd_run_h s h, wd_run_1 s (by omega), wd_run_1 _ (by omega), show w % 2 = w - 2 by omega]
    · rw [Nat.pow_succ] at h'
      obtain ⟨a, v, ha, h1, h2, h3⟩ := ih (w / 2) (by omega) (by omega)
      refine ⟨a, 2 * v + w % 2, ha, by omega, by rw [Nat.pow_succ]; omega, fun t s => ?_⟩
      rw [wd_run_h s h, h3 t s, wd_run_s _ h1 (by omega)]
/-- what mo_eb says, by words -/
theorem wd_eb : ∀ k p q : Nat, mo_eb t g k p q = true ↔ ∀ w, 1 ≤ w → w < 2 ^ k → g (wd_run t p w) = g (wd_run t q w) := by
  intro k
  induction k with
  | zero =>
    intro p q
    exact ⟨fun _ w h h' => by rw [Nat.pow_zero] at h'; omega, fun _ => rfl⟩
  | succ k ih =>
    intro p q
    rw [mo_eb_s, ih, ih]
    constructor
    · intro ⟨h, h0, h1⟩ w hw hw'
      by_cases hw2 : w ≤ 1
      · rw [wd_run_1 p hw2, wd_run_1 q hw2]; exact h
      · obtain ⟨a, v, ha, hv, hv', e⟩ := wd_front k w (by omega) hw'
        rw [e t p, e t q]
        rcases (show a = 0 ∨ a = 1 by omega) with rfl | rfl
        · exact h0 v hv hv'
        · exact h1 v hv hv'
    · intro h
      refine ⟨?_, fun v hv hv' => ?_, fun v hv hv' => ?_⟩
      · have := h 1 (Nat.le_refl _) (by have := Nat.one_le_two_pow (n := k); rw [Nat.pow_succ]; omega)
        rw [wd_run_1 p (by omega), wd_run_1 q (by omega)] at this
        exact this
      · have hl := wd_cf_lt 0 (by omega) v k v hv' hv (by omega)
        have hp := wd_cf_run (t := t) p 0 (by omega) v v hv (by omega)
        have hq := wd_cf_run (t := t) q 0 (by omega) v v hv (by omega)
        have := h (wd_cf 0 v v) (by omega) hl
        rw [hp.2, hq.2] at this
        exact this
      · have hl := wd_cf_lt 1 (by omega) v k v hv' hv (by omega)
        have hp := wd_cf_run (t := t) p 1 (by omega) v v hv (by omega)
        have hq := wd_cf_run (t := t) q 1 (by omega) v v hv (by omega)
        have := h (wd_cf 1 v v) (by omega) hl
        rw [hp.2, hq.2] at this
        exact this
end
/-- w is a first word: no smaller word's end is alike to its end -/
def fw_F (t : Nat → Nat) (g : Nat → Bool) (w : Nat) : Prop :=
  1 ≤ w ∧ ∀ v, 1 ≤ v → v < w → mo_eb t g 6 (wd_run t 0 v) (wd_run t 0 w) = false
section
variable {t : Nat → Nat} {g : Nat → Bool}
theorem fw_1 : fw_F t g 1 := ⟨Nat.le_refl _, fun v h h' => by omega⟩
theorem fw_half (ht : ∀ i, i < 14 → t i < 7) {w : Nat} (h : fw_F t g w) (h2 : 2 ≤ w) : fw_F t g (w / 2) := by
  refine ⟨by omega, fun v hv hv' => ?_⟩
  cases e : mo_eb t g 6 (wd_run t 0 v) (wd_run t 0 (w / 2)) with
  | false => rfl
  | true =>
    have h0 : (0 : Nat) < 7 := by omega
    have c := mo_cong ht (wd_lt ht h0 v) (wd_lt ht h0 (w / 2)) (show w % 2 < 2 by omega) e
    rw [← wd_run_s (t := t) 0 hv (show w % 2 < 2 by omega), ← wd_run_h (t := t) 0 h2] at c
    have := h.2 (2 * v + w % 2) (by omega) (by omega)
    rw [c] at this
    exact absurd this (by decide)
theorem fw_least : ∀ w : Nat, 1 ≤ w → ∃ v, v ≤ w ∧ fw_F t g v ∧ mo_eb t g 6 (wd_run t 0 v) (wd_run t 0 w) = true := by
  intro w
  induction w using Nat.strongRecOn with
  | ind w ih =>
    intro hw
    by_cases h : ∃ v, 1 ≤ v ∧ v < w ∧ mo_eb t g 6 (wd_run t 0 v) (wd_run t 0 w) = true
    · obtain ⟨v, h1, h2, e⟩ := h
      obtain ⟨r, hr, hF, er⟩ := ih v h2 h1
      exact ⟨r, by omega, hF, mo_trans 6 _ _ _ er e⟩
    · refine ⟨w, Nat.le_refl _, ⟨hw, fun v h1 h2 => ?_⟩, mo_refl 6 _⟩
      cases e : mo_eb t g 6 (wd_run t 0 v) (wd_run t 0 w) with
      | false => rfl
      | true => exact absurd ⟨v, h1, h2, e⟩ h
theorem fw_un {v w : Nat} (hv : fw_F t g v) (hw : fw_F t g w) (e : mo_eb t g 6 (wd_run t 0 v) (wd_run t 0 w) = true) : v = w := by
  rcases Nat.lt_trichotomy v w with h | h | h
  · have := hw.2 v hv.1 h; rw [e] at this; exact absurd this (by decide)
  · exact h
  · have := hv.2 w hw.1 h; rw [mo_symm 6 _ _ e] at this; exact absurd this (by decide)
end
end
section
/-- kw 0 .. kw (n - 1) are the first words below c, from the smallest up -/
def en_E (t : Nat → Nat) (g : Nat → Bool) (c : Nat) (kw : Nat → Nat) (n : Nat) : Prop :=
  (∀ i, i < n → fw_F t g (kw i) ∧ kw i < c) ∧ (∀ i j, i < j → j < n → kw i < kw j) ∧
  (∀ w, fw_F t g w → w < c → ∃ i, i < n ∧ kw i = w)
/-- kw 0 .. kw (n - 1) are all first words, from the smallest up -/
def en_A (t : Nat → Nat) (g : Nat → Bool) (kw : Nat → Nat) (n : Nat) : Prop :=
  (∀ i, i < n → fw_F t g (kw i)) ∧ (∀ i j, i < j → j < n → kw i < kw j) ∧
  (∀ w, fw_F t g w → ∃ i, i < n ∧ kw i = w)
def en_put (kw : Nat → Nat) (n c : Nat) : Nat → Nat := fun i => if i = n then c else kw i
theorem en_put_e (kw : Nat → Nat) (n c : Nat) : en_put kw n c n = c := if_pos rfl
theorem en_put_n (kw : Nat → Nat) {n i : Nat} (c : Nat) (h : i ≠ n) : en_put kw n c i = kw i := if_neg h
section
variable {t : Nat → Nat} {g : Nat → Bool}
theorem en_0 (kw : Nat → Nat) : en_E t g 1 kw 0 :=
  ⟨fun i h => absurd h (Nat.not_lt_zero i), fun i j _ h => absurd h (Nat.not_lt_zero j),
   fun w hF h => absurd hF.1 (by omega)⟩
/-- a word whose kind is known is no first word -/
theorem en_known {c n : Nat} {kw : Nat → Nat} (h : en_E t g c kw n) {i : Nat} (hi : i < n)
    (e : mo_eb t g 6 (wd_run t 0 (kw i)) (wd_run t 0 c) = true) : en_E t g (c + 1) kw n := by
  obtain ⟨h1, h2, h3⟩ := h
  refine ⟨fun j hj => ⟨(h1 j hj).1, by have := (h1 j hj).2; omega⟩, h2, fun w hF hw => ?_⟩
  rcases Nat.lt_or_ge w c with hl | hl
  · exact h3 w hF hl
  · have ew : w = c := by omega
    rw [ew] at hF
    have := hF.2 (kw i) (h1 i hi).1.1 (h1 i hi).2
    rw [e] at this
    exact absurd this (by decide)
theorem en_new_F {c n : Nat} {kw : Nat → Nat} (h : en_E t g c kw n) (hc : 1 ≤ c)
    (e : ∀ i, i < n → mo_eb t g 6 (wd_run t 0 (kw i)) (wd_run t 0 c) = false) : fw_F t g c := by
  obtain ⟨h1, h2, h3⟩ := h
  refine ⟨hc, fun v hv hv' => ?_⟩
  cases e' : mo_eb t g 6 (wd_run t 0 v) (wd_run t 0 c) with
  | false => rfl
  | true =>
    obtain ⟨r, hr, hF, er⟩ := fw_least (t := t) (g := g) v hv
    obtain ⟨i, hi, ei⟩ := h3 r hF (by omega)
    have := e i hi
    rw [ei, mo_trans 6 _ _ _ er e'] at this
    exact absurd this (by decide)
theorem en_new {c n : Nat} {kw : Nat → Nat} (h : en_E t g c kw n) (hc : 1 ≤ c)
    (e : ∀ i, i < n → mo_eb t g 6 (wd_run t 0 (kw i)) (wd_run t 0 c) = false) : en_E t g (c + 1) (en_put kw n c) (n + 1) := by
  have hF := en_new_F h hc e
  obtain ⟨h1, h2, h3⟩ := h
  refine ⟨fun i hi => ?_, fun i j hij hj => ?_, fun w hw hw' => ?_⟩
  · by_cases ei : i = n
    · rw [ei, en_put_e]; exact ⟨hF, by omega⟩
    · rw [en_put_n kw c ei]
      have := h1 i (by omega)
      exact ⟨this.1, by have := this.2; omega⟩
  · rw [en_put_n kw c (show i ≠ n by omega)]
    by_cases ej : j = n
    · rw [ej, en_put_e]; exact (h1 i (by omega)).2
    · rw [en_put_n kw c ej]; exact h2 i j hij (by omega)
  · rcases Nat.lt_or_ge w c with hl | hl
    · obtain ⟨i, hi, ei⟩ := h3 w hw hl
      exact ⟨i, by omega, by rw [en_put_n kw c (show i ≠ n by omega)]; exact ei⟩
    · exact ⟨n, by omega, by rw [en_put_e]; omega⟩
/-- from the last word behind kind k to the first behind kind k + 1 -/
theorem en_gap (ht : ∀ i, i < 14 → t i < 7) {n k : Nat} {kw : Nat → Nat} (h : en_E t g (2 * kw k + 2) kw n)
    (hk : k + 1 < n) : en_E t g (2 * kw (k + 1)) kw n := by
  obtain ⟨h1, h2, h3⟩ := h
  have hm := h2 k (k + 1) (by omega) hk
  refine ⟨fun i hi => ⟨(h1 i hi).1, ?_⟩, h2, fun w hF hw => ?_⟩
  · have := (h1 i hi).2; omega
  · rcases Nat.lt_or_ge w (2 * kw k + 2) with hl | hl
    · exact h3 w hF hl
    · have hp := fw_half ht hF (by omega)
      have hb := (h1 (k + 1) hk).2
      obtain ⟨j, hj, ej⟩ := h3 (w / 2) hp (by omega)
      exfalso
      rcases Nat.lt_trichotomy j k with q | q | q
      · have := h2 j k q (by omega); omega
      · rw [q] at ej; omega
      · rcases (show j = k + 1 ∨ k + 1 < j by omega) with q' | q'
        · rw [q'] at ej; omega
        · have := h2 (k + 1) j q' hj; omega
/-- behind the last kind nothing is left -/
theorem en_end (ht : ∀ i, i < 14 → t i < 7) {n k : Nat} {kw : Nat → Nat} (h : en_E t g (2 * kw k + 2) kw n)
    (hk : k + 1 = n) : en_A t g kw n := by
  obtain ⟨h1, h2, h3⟩ := h
  have hk' : k < n := by omega
  have h1k := (h1 k hk').1.1
  refine ⟨fun i hi => (h1 i hi).1, h2, fun w => ?_⟩
  induction w using Nat.strongRecOn with
  | ind w ih =>
    intro hF
    rcases Nat.lt_or_ge w (2 * kw k + 2) with hl | hl
    · exact h3 w hF hl
    · exfalso
      obtain ⟨j, hj, ej⟩ := ih (w / 2) (by omega) (fw_half ht hF (by omega))
      rcases (show j = k ∨ j < k by omega) with q | q
      · rw [q] at ej; omega
      · have := h2 j k q hk'; omega
/-- two enumerations are one -/
theorem en_un {n m : Nat} {kw vw : Nat → Nat} (h : en_A t g kw n) (h' : en_A t g vw m) :
    ∀ i, i < n → i < m ∧ kw i = vw i := by
  intro i
  induction i using Nat.strongRecOn with
  | ind i ih =>
    intro hi
    obtain ⟨j, hj, ej⟩ := h'.2.2 (kw i) (h.1 i hi)
    have hji : i ≤ j := by
      rcases Nat.lt_or_ge j i with q | q
      · have e1 := (ih j q (by omega)).2
        have e2 := h.2.1 j i q hi
        omega
      · exact q
    rcases (show i = j ∨ i < j by omega) with q | q
    · rw [q] at hi ⊢; rw [q] at ej; exact ⟨hj, ej.symm⟩
    · exfalso
      obtain ⟨l, hl, el⟩ := h.2.2 (vw i) (h'.1 i (by omega))
      have e2 := h'.2.1 i j q hj
      rcases Nat.lt_or_ge l i with q' | q'
      · have e1 := (ih l q' hl).2
        have e3 := h'.2.1 l i q' (by omega)
        omega
      · rcases (show i = l ∨ i < l by omega) with q2 | q2
        · rw [← q2] at el; omega
        · have e3 := h.2.1 i l q2 hl; omega
theorem en_un_n {n m : Nat} {kw vw : Nat → Nat} (h : en_A t g kw n) (h' : en_A t g vw m) : n = m := by
  rcases Nat.lt_trichotomy n m with q | q | q
  · exact absurd (en_un h' h n q).1 (Nat.lt_irrefl n)
  · exact q
  · exact absurd (en_un h h' m q).1 (Nat.lt_irrefl m)
end
/-- n + 1 numbers below n: two are the same -/
theorem en_pig : ∀ (n : Nat) (f : Nat → Nat), (∀ i, i < n + 1 → f i < n) → ∃ i j, i < j ∧ j < n + 1 ∧ f i = f j := by
  intro n
  induction n with
  | zero => intro f h; exact absurd (h 0 (by omega)) (Nat.not_lt_zero _)
  | succ n ih =>
    intro f h
    by_cases hx : ∃ i, i < n + 1 ∧ f i = f (n + 1)
    · obtain ⟨i, hi, e⟩ := hx
      exact ⟨i, n + 1, hi, by omega, e⟩
    · have hne : ∀ i, i < n + 1 → f i ≠ f (n + 1) := fun i hi e => hx ⟨i, hi, e⟩
      have hl := h (n + 1) (by omega)
      obtain ⟨i, j, hij, hj, e⟩ := ih (fun i => if f i < f (n + 1) then f i else f i - 1) (by
        intro i hi
        have h1 := h i (by omega)
        have h2 := hne i hi
        show (if f i < f (n + 1) then f i else f i - 1) < n
        split <;> omega)
      have h1 := hne i (by omega)
      have h2 := hne j hj
      refine ⟨i, j, hij, by omega, ?_⟩
      have e' : (if f i < f (n + 1) then f i else f i - 1) = (if f j < f (n + 1) then f j else f j - 1) := e
      by_cases a : f i < f (n + 1)
      · by_cases b : f j < f (n + 1)
        · rw [if_pos a, if_pos b] at e'; exact e'
        · rw [if_pos a, if_neg b] at e'; omega
      · by_cases b : f j < f (n + 1)
        · rw [if_neg a, if_pos b] at e'; omega
        · rw [if_neg a, if_neg b] at e'; omega
/-- there are at most seven first words below any c -/
theorem en_le7 {t : Nat → Nat} {g : Nat → Bool} (ht : ∀ i, i < 14 → t i < 7) {c n : Nat} {kw : Nat → Nat}
    (h : en_E t g c kw n) : n ≤ 7 := by
  apply Classical.byContradiction
  intro hn
  obtain ⟨i, j, hij, hj, e⟩ := en_pig 7 (fun i => wd_run t 0 (kw i)) (fun i _ => wd_lt ht (by omega) _)
  have e' : wd_run t 0 (kw i) = wd_run t 0 (kw j) := e
  have := (h.1 j (by omega)).1.2 (kw i) (h.1 i (by omega)).1.1 (h.2.1 i j hij (by omega))
  rw [e', mo_refl] at this
  exact absurd this (by decide)
end
section
/-! rows of the kit, pasted -/
theorem pk_us {f : Nat → Int32} {k : Nat} {x : Int32} : upd f k x k = x := if_pos rfl
theorem pk_un {f : Nat → Int32} {k j : Nat} {x : Int32} (h : j ≠ k) : upd f k x j = f j := if_neg h
theorem pk_uLs {f : Nat → Int64} {k : Nat} {x : Int64} : vp_updL f k x k = x := if_pos rfl
theorem pk_uLn {f : Nat → Int64} {k j : Nat} {x : Int64} (h : j ≠ k) : vp_updL f k x j = f j := if_neg h
theorem pk_m1 (n : Nat) : nI (n + 1) + (-1) = nI n := by
  rw [← nI_1, Int32.add_assoc, show (1 : Int32) + (-1) = 0 from rfl, Int32.add_zero]
theorem pk_mul (a b : Nat) : nI a * nI b = nI (a * b) := (Int32.ofNat_mul a b).symm
theorem pk_ix (x : Int32) {n : Nat} (hn : n < 2 ^ 31) : x < 0 ∨ nI n ≤ x ∨ ∃ j : Nat, j < n ∧ x = nI j := by
  by_cases h : x < 0
  · exact Or.inl h
  · obtain ⟨j, hj, rfl⟩ := nI_of h
    by_cases h2 : j < n
    · exact Or.inr (Or.inr ⟨j, h2, rfl⟩)
    · exact Or.inr (Or.inl (nI_le (by omega) hj))
theorem pk_le {x y : Int32} {A B : Prop} (a b : Nat) (f : a ≤ b → A) (g : b < a → B) (hx : x = nI a := by rfl) (hy : y = nI b := by rfl) (ha : a < 2 ^ 31 := by omega) (hb : b < 2 ^ 31 := by omega) : (x ≤ y → A) ∧ (¬ x ≤ y → B) := by
  subst hx hy
  rw [nI_leI ha hb]
  exact ⟨f, fun z => g (by omega)⟩
theorem pk_lt {x y : Int32} {A B : Prop} (a b : Nat) (f : a < b → A) (g : b ≤ a → B) (hx : x = nI a := by rfl) (hy : y = nI b := by rfl) (ha : a < 2 ^ 31 := by omega) (hb : b < 2 ^ 31 := by omega) : (x < y → A) ∧ (¬ x < y → B) := by
  subst hx hy
  rw [nI_ltI ha hb]
  exact ⟨f, fun z => g (by omega)⟩
theorem pk_eq {x y : Int32} {A B : Prop} (a b : Nat) (f : a = b → A) (g : a ≠ b → B) (hx : x = nI a := by rfl) (hy : y = nI b := by rfl) (ha : a < 2 ^ 31 := by omega) (hb : b < 2 ^ 31 := by omega) : (x = y → A) ∧ (¬ x = y → B) := by
  subst hx hy
  rw [nI_eq ha hb]
  exact ⟨f, g⟩
theorem pk_in {x : Int32} (n N : Nat) (h : n < N) (hx : x = nI n := by rfl) (hN : N < 2 ^ 31 := by omega) : vp_in x N := by
  subst hx
  exact vp_in_nI h hN
theorem pk_cl {x : Int32} (n : Nat) (hx : x = nI n := by rfl) (h : n < 2 ^ 31 := by omega) : x.toNatClampNeg = n := by
  subst hx
  exact nI_clamp h
theorem pk_tn {n : Nat} (h : n < 2 ^ 32) : (nI n).toBitVec.toNat = n := Nat.mod_eq_of_lt h
theorem pk_and (x : Int32) {m : Int32} (k : Nat) (hm : m.toBitVec.toNat = 2 ^ k - 1) : x &&& m = nI (x.toBitVec.toNat % 2 ^ k) := by
  apply Int32.toBitVec_inj.mp
  apply BitVec.eq_of_toNat_eq
  rw [Int32.toBitVec_and, BitVec.toNat_and, hm, Nat.and_two_pow_sub_one_eq_mod]
  show _ = (BitVec.ofNat 32 _).toNat
  rw [BitVec.toNat_ofNat]
  exact (Nat.mod_eq_of_lt (Nat.lt_of_le_of_lt (Nat.mod_le _ _) x.toBitVec.isLt)).symm
theorem pk_andN {n : Nat} (h : n < 2 ^ 32) {m : Int32} (k : Nat) (hm : m.toBitVec.toNat = 2 ^ k - 1) : nI n &&& m = nI (n % 2 ^ k) := by
  rw [pk_and _ k hm, pk_tn h]
theorem pk_andE (x : Int32) {m : Int32} (k : Nat) (hm : m.toBitVec.toNat = 2 ^ k - 1) : ∃ j : Nat, j < 2 ^ k ∧ x &&& m = nI j := ⟨_, Nat.mod_lt _ (Nat.two_pow_pos k), pk_and x k hm⟩
theorem pk_shr (a s : Int32) (k : Nat) (hs : (s.toBitVec.smod 32).toNat = k) : (a >>> s).toInt = a.toInt >>> k := by
  show (a.toBitVec.sshiftRight (s.toBitVec.smod 32).toNat).toInt = _
  rw [hs, BitVec.toInt_sshiftRight]
  rfl
theorem pk_shrN {n : Nat} (h : n < 2 ^ 31) (s : Int32) (k : Nat) (hs : (s.toBitVec.smod 32).toNat = k) : nI n >>> s = nI (n / 2 ^ k) := by
  apply Int32.toInt_inj.mp
  have h2 : n / 2 ^ k ≤ n := Nat.div_le_self _ _
  rw [pk_shr _ _ k hs, nI_toInt h, nI_toInt (by omega), Int.shiftRight_eq_div_pow]
  rfl
theorem pk_loop {σ : Type} (W : Nat → Nat → σ → Prop) (I : Nat → σ → Prop) (e i0 : Nat) (s : σ) (hi : i0 ≤ e) (h0 : I i0 s) (hx : ∀ n s, I e s → W (n + 1) e s)
    (hs : ∀ n i s, i < e → I i s → (∀ s', I (i + 1) s' → W n (i + 1) s') → W (n + 1) i s) : ∃ n, W n i0 s :=
  ⟨e + 1, loop_i W I e hx hs (e + 1) i0 s hi (by omega) h0⟩
theorem s_l : ∀ n, n < 32 → ((nI n &&& 31).toBitVec.smod 32).toNat = n := by decide +kernel
theorem ts_nf {x : Bool} (h : ¬ x = false) : x = true := by cases x <;> first | rfl | exact absurd rfl h
theorem ts_nt {x : Bool} (h : ¬ x = true) : x = false := by cases x <;> first | rfl | exact absurd rfl h
theorem ts_bit {w : Int64} {s : UInt64} {j : Nat} (hj : j < 64) (hs : s.toNat = j) : ((w.toUInt64 >>> s).toInt64 &&& 1) = 0 ↔ w.toBitVec.getLsbD j = false := by
  have e : (w.toUInt64 >>> s).toInt64.toBitVec = w.toBitVec >>> j := by
    apply BitVec.eq_of_toNat_eq
    show (w.toUInt64 >>> s).toNat = _
    rw [UInt64.toNat_shiftRight, hs, Nat.mod_eq_of_lt hj, BitVec.toNat_ushiftRight]
    rfl
  rw [← Int64.toBitVec_inj, Int64.toBitVec_and, e]
  show w.toBitVec >>> j &&& 1#64 = 0#64 ↔ _
  constructor
  · intro h
    have t := congrArg (fun x => x.getLsbD 0) h
    simpa using t
  · intro h
    apply BitVec.eq_of_getLsbD_eq
    intro i hi
    cases i with
    | zero => simp [h]
    | succ i => simp
theorem wb_tb (n : Nat) : (lN n).toBitVec = BitVec.ofNat 64 n := rfl
theorem wb_inj {a b : Int64} (h : a.toBitVec = b.toBitVec) : a = b := Int64.toBitVec_inj.mp h
theorem wb_c : ∀ k, k < 64 → ((nI k).toInt64 &&& 63) = lN k := by decide +kernel
theorem wb_cu : ∀ k, k < 64 → ((nI k).toInt64.toUInt64 &&& Int64.toUInt64 63) = UInt64.ofNat k := by decide +kernel
theorem wb_sm : ∀ k, k < 64 → (BitVec.ofNat 64 k).smod 64 = BitVec.ofNat 64 k := by decide +kernel
theorem wb_shl (n : Nat) {k : Nat} (hk : k < 64) : lN n <<< ((nI k).toInt64 &&& 63) = lN (n * 2 ^ k) := by
  rw [wb_c k hk]
  apply wb_inj
  rw [Int64.toBitVec_shiftLeft, wb_tb, wb_tb, wb_tb, wb_sm k hk]
  apply BitVec.eq_of_toNat_eq
  rw [BitVec.shiftLeft_eq', BitVec.toNat_shiftLeft, BitVec.toNat_ofNat, BitVec.toNat_ofNat, BitVec.toNat_ofNat, Nat.mod_eq_of_lt (show k < 2 ^ 64 by omega), Nat.shiftLeft_eq, Nat.mul_mod, Nat.mod_mod, ← Nat.mul_mod]
end
section
section
variable {t : Nat → Nat} {g : Nat → Bool}
/-- the i-th first word has at most i letters -/
theorem en_bd (ht : ∀ i, i < 14 → t i < 7) {c n : Nat} {kw : Nat → Nat} (h : en_E t g c kw n) :
    ∀ i, i < n → kw i < 2 ^ (i + 1) := by
  obtain ⟨h1, h2, h3⟩ := h
  intro i
  induction i with
  | zero =>
    intro hi
    have hF := h1 0 hi
    obtain ⟨j, hj, ej⟩ := h3 1 fw_1 (by have := hF.1.1; have := hF.2; omega)
    have hl : kw 0 ≤ 1 := by
      rcases (show j = 0 ∨ 0 < j by omega) with q | q
      · rw [q] at ej; omega
      · have := h2 0 j q hj; omega
    have e : (2 : Nat) ^ (0 + 1) = 2 := by decide
    rw [e]; omega
  | succ i ih =>
    intro hi
    have hb := ih (by omega)
    have hlt := h2 i (i + 1) (by omega) hi
    have hF := h1 (i + 1) hi
    have h0 := (h1 i (by omega)).1.1
    obtain ⟨j, hj, ej⟩ := h3 (kw (i + 1) / 2) (fw_half ht hF.1 (by omega)) (by have := hF.2; omega)
    have hji : kw j ≤ kw i := by
      rcases (show j < i ∨ j = i ∨ i < j by omega) with q | q | q
      · exact Nat.le_of_lt (h2 j i q (by omega))
      · rw [q]; exact Nat.le_refl _
      · exfalso
        rcases (show i + 1 = j ∨ i + 1 < j by omega) with q' | q'
        · rw [← q'] at ej; omega
        · have := h2 (i + 1) j q' hj; omega
    rw [Nat.pow_succ]
    omega
theorem en_128 (ht : ∀ i, i < 14 → t i < 7) {c n : Nat} {kw : Nat → Nat} (h : en_E t g c kw n) :
    ∀ i, i < n → kw i < 128 := by
  intro i hi
  have h7 := en_le7 ht h
  have hb := en_bd ht h i hi
  have hp : (2 : Nat) ^ (i + 1) ≤ 2 ^ 7 := Nat.pow_le_pow_right (by decide) (by omega)
  have e : (2 : Nat) ^ 7 = 128 := by decide
  omega
/-- all kinds: their first words -/
def en_K (t : Nat → Nat) (g : Nat → Bool) (kw : Nat → Nat) (n : Nat) : Prop :=
  en_A t g kw n ∧ n ≤ 7 ∧ ∀ i, i < n → kw i < 128
theorem en_YA {kw vw : Nat → Nat} {n m : Nat} (hK : en_K t g kw n) (h : en_E t g 128 vw m) :
    m = n ∧ ∀ i, i < n → vw i = kw i := by
  have hA : en_A t g vw m := ⟨fun i hi => (h.1 i hi).1, h.2.1, fun w hF => by
    obtain ⟨i, hi, ei⟩ := hK.1.2.2 w hF
    exact h.2.2 w hF (by have := hK.2.2 i hi; omega)⟩
  exact ⟨en_un_n hA hK.1, fun i hi => ((en_un hK.1 hA i hi).2).symm⟩
/-- what the number of the kind of the state s is -/
def kd_K (t : Nat → Nat) (g : Nat → Bool) (kw : Nat → Nat) (n s : Nat) (r : Int32) : Prop :=
  (∃ k, k < n ∧ mo_eb t g 6 (wd_run t 0 (kw k)) s = true ∧ r = nI k) ∨
  ((∀ k, k < n → mo_eb t g 6 (wd_run t 0 (kw k)) s = false) ∧ r = -1)
theorem kd_un {kw : Nat → Nat} {n s : Nat} {r r' : Int32} (hA : en_A t g kw n) (h : kd_K t g kw n s r) (h' : kd_K t g kw n s r') : r' = r := by
  rcases h with ⟨k, hk, e, er⟩ | ⟨hn, er⟩
  · rcases h' with ⟨k', hk', e', er'⟩ | ⟨hn', er'⟩
    · have ee := fw_un (hA.1 k hk) (hA.1 k' hk') (mo_trans 6 _ _ _ e (mo_symm 6 _ _ e'))
      have : k = k' := by
        rcases Nat.lt_trichotomy k k' with q | q | q
        · have := hA.2.1 k k' q hk'; omega
        · exact q
        · have := hA.2.1 k' k q hk; omega
      rw [er, er', this]
    · have := hn' k hk; rw [e] at this; exact absurd this (by decide)
  · rcases h' with ⟨k', hk', e', er'⟩ | ⟨hn', er'⟩
    · have := hn k' hk'; rw [e'] at this; exact absurd this (by decide)
    · rw [er, er']
theorem kd_cong {kw vw : Nat → Nat} {n s : Nat} {r : Int32} (e : ∀ i, i < n → vw i = kw i) (h : kd_K t g vw n s r) : kd_K t g kw n s r := by
  rcases h with ⟨k, hk, h1, h2⟩ | ⟨h1, h2⟩
  · exact Or.inl ⟨k, hk, by rw [← e k hk]; exact h1, h2⟩
  · exact Or.inr ⟨fun k hk => by rw [← e k hk]; exact h1 k hk, h2⟩
/-- what the least word below B that tells p and q apart is -/
def ds_D (t : Nat → Nat) (g : Nat → Bool) (p q B : Nat) (r : Int32) : Prop :=
  (∃ w, 1 ≤ w ∧ w < B ∧ g (wd_run t p w) ≠ g (wd_run t q w) ∧ (∀ v, 1 ≤ v → v < w → g (wd_run t p v) = g (wd_run t q v)) ∧ r = nI w) ∨
  ((∀ v, 1 ≤ v → v < B → g (wd_run t p v) = g (wd_run t q v)) ∧ r = 0)
theorem ds_all (ht : ∀ i, i < 14 → t i < 7) {p q : Nat} (hp : p < 7) (hq : q < 7) (h : mo_eb t g 6 p q = true) :
    ∀ v, 1 ≤ v → v < 128 → g (wd_run t p v) = g (wd_run t q v) := by
  have h7 := (wd_eb (t := t) (g := g) 7 p q).mp (mo_St6 ht p q hp hq h)
  intro v h1 h2
  exact h7 v h1 (Nat.lt_of_lt_of_eq h2 (by decide))
theorem ds_6 {p q : Nat} (h : ∀ v, 1 ≤ v → v < 64 → g (wd_run t p v) = g (wd_run t q v)) : mo_eb t g 6 p q = true := by
  refine (wd_eb (t := t) (g := g) 6 p q).mpr (fun v h1 h2 => h v h1 ?_)
  exact Nat.lt_of_lt_of_eq h2 (by decide)
theorem ds_un (ht : ∀ i, i < 14 → t i < 7) {p q : Nat} (hp : p < 7) (hq : q < 7) {r r' : Int32}
    (h : ds_D t g p q 64 r) (h' : ds_D t g p q 128 r') : r' = r := by
  rcases h with ⟨w, h1, h2, h3, h4, h5⟩ | ⟨h1, h2⟩
  · rcases h' with ⟨w', e1, e2, e3, e4, e5⟩ | ⟨e1, e2⟩
    · have : w = w' := by
        rcases Nat.lt_trichotomy w w' with x | x | x
        · exact absurd (e4 w h1 x) h3
        · exact x
        · exact absurd (h4 w' e1 x) e3
      rw [h5, e5, this]
    · exact absurd (e1 w h1 (by omega)) h3
  · have ha := ds_all ht hp hq (ds_6 h1)
    rcases h' with ⟨w', e1, e2, e3, e4, e5⟩ | ⟨e1, e2⟩
    · exact absurd (ha w' e1 e2) e3
    · rw [h2, e2]
theorem ds_0 (ht : ∀ i, i < 14 → t i < 7) {p q : Nat} (hp : p < 7) (hq : q < 7) {r : Int32}
    (h : ds_D t g p q 128 r) : r = 0 ↔ mo_eb t g 6 p q = true := by
  rcases h with ⟨w, h1, h2, h3, h4, h5⟩ | ⟨h1, h2⟩
  · constructor
    · intro e
      rw [h5] at e
      exact absurd e (nI_ne0 (by omega) (by omega))
    · intro e
      exact absurd (ds_all ht hp hq e w h1 h2) h3
  · exact ⟨fun _ => ds_6 (fun v a b => h1 v a (by omega)), fun _ => h2⟩
end
/-- a bit of a long -/
def ob_b (x : Int64) (w : Nat) : Bool := x.toBitVec.getLsbD w
theorem ob_ext {x y : Int64} (h : ∀ w, w < 64 → ob_b x w = ob_b y w) : x = y := by
  apply wb_inj
  apply BitVec.eq_of_getLsbD_eq
  exact fun i hi => h i hi
theorem ob_0 (w : Nat) : ob_b 0 w = false := by
  unfold ob_b
  rw [show (0 : Int64).toBitVec = 0#64 from rfl]
  first | exact BitVec.getLsbD_zero | simp
theorem ob_or (x y : Int64) (w : Nat) : ob_b (x ||| y) w = (ob_b x w || ob_b y w) := by
  unfold ob_b
  rw [Int64.toBitVec_or, BitVec.getLsbD_or]
theorem ob_xor (x y : Int64) (w : Nat) : ob_b (x ^^^ y) w = (ob_b x w ^^ ob_b y w) := by
  unfold ob_b
  rw [Int64.toBitVec_xor, BitVec.getLsbD_xor]
theorem ob_1 {k w : Nat} (hk : k < 64) (hw : w < 64) : ob_b ((1 : Int64) <<< ((nI k).toInt64 &&& 63)) w = decide (k = w) := by
  have e : (1 : Int64) <<< ((nI k).toInt64 &&& 63) = lN (2 ^ k) := by
    have := wb_shl 1 hk
    rw [Nat.one_mul] at this
    exact this
  rw [e]
  unfold ob_b
  rw [wb_tb, BitVec.getLsbD_ofNat, Nat.testBit_two_pow, decide_eq_true hw, Bool.true_and]
theorem ob_sh {x : Int64} {k : Nat} (hk : k < 64) : ((x.toUInt64 >>> ((nI k).toInt64.toUInt64 &&& Int64.toUInt64 63)).toInt64 &&& 1) = 0 ↔ ob_b x k = false := by
  refine ts_bit hk ?_
  rw [wb_cu k hk]
  show (BitVec.ofNat 64 k).toNat = k
  rw [BitVec.toNat_ofNat, Nat.mod_eq_of_lt (by omega)]
section
variable {t : Nat → Nat} {g : Nat → Bool}
/-- x has the outcomes of the words below 64 from the state s -/
def ob_O (t : Nat → Nat) (g : Nat → Bool) (s : Nat) (x : Int64) : Prop :=
  ∀ w, w < 64 → ob_b x w = (decide (1 ≤ w) && g (wd_run t s w))
theorem ob_eq {p q : Nat} {x y : Int64} (hp : ob_O t g p x) (hq : ob_O t g q y) : x = y ↔ mo_eb t g 6 p q = true := by
  constructor
  · intro e
    refine ds_6 (fun w h1 h2 => ?_)
    have a := hp w h2
    have b := hq w h2
    rw [e, b, decide_eq_true h1, Bool.true_and, Bool.true_and] at a
    exact a.symm
  · intro h
    have hw := (wd_eb (t := t) (g := g) 6 p q).mp h
    apply ob_ext
    intro w h2
    rw [hp w h2, hq w h2]
    by_cases h1 : 1 ≤ w
    · rw [hw w h1 (Nat.lt_of_lt_of_eq h2 (by decide))]
    · rw [decide_eq_false h1, Bool.false_and, Bool.false_and]
theorem ob_df {p q w : Nat} {x y : Int64} (hp : ob_O t g p x) (hq : ob_O t g q y) (h1 : 1 ≤ w) (h2 : w < 64) :
    ob_b (x ^^^ y) w = false ↔ g (wd_run t p w) = g (wd_run t q w) := by
  rw [ob_xor, hp w h2, hq w h2, decide_eq_true h1, Bool.true_and, Bool.true_and]
  cases g (wd_run t p w) <;> cases g (wd_run t q w) <;> decide
/-- the same, for the words below m -/
def ob_P (t : Nat → Nat) (g : Nat → Bool) (s m : Nat) (x : Int64) : Prop :=
  ∀ w, w < 64 → ob_b x w = (decide (1 ≤ w ∧ w < m) && g (wd_run t s w))
theorem ob_P_1 (s : Nat) : ob_P t g s 1 0 := by
  intro w hw
  rw [ob_0, decide_eq_false (by omega), Bool.false_and]
theorem ob_P_t {s m : Nat} {x : Int64} (h : ob_P t g s m x) (h1 : 1 ≤ m) (hm : m < 64) (hg : g (wd_run t s m) = true) :
    ob_P t g s (m + 1) (x ||| ((1 : Int64) <<< ((nI m).toInt64 &&& 63))) := by
  intro w hw
  rw [ob_or, h w hw, ob_1 hm hw]
  by_cases e : m = w
  · rw [decide_eq_true e, Bool.or_true, decide_eq_true (show 1 ≤ w ∧ w < m + 1 by omega), Bool.true_and, ← e, hg]
  · rw [decide_eq_false e, Bool.or_false, show decide (1 ≤ w ∧ w < m) = decide (1 ≤ w ∧ w < m + 1) from decide_eq_decide.mpr (by omega)]
theorem ob_P_f {s m : Nat} {x : Int64} (h : ob_P t g s m x) (hg : g (wd_run t s m) = false) : ob_P t g s (m + 1) x := by
  intro w hw
  rw [h w hw]
  by_cases e : w = m
  · rw [e, hg, Bool.and_false, Bool.and_false]
  · rw [show decide (1 ≤ w ∧ w < m) = decide (1 ≤ w ∧ w < m + 1) from decide_eq_decide.mpr (by omega)]
theorem ob_P_e {s : Nat} {x : Int64} (h : ob_P t g s 64 x) : ob_O t g s x := by
  intro w hw
  rw [h w hw, show decide (1 ≤ w ∧ w < 64) = decide (1 ≤ w) from decide_eq_decide.mpr (by omega)]
end
/-- a boolean as the print holds it -/
def pc_i (b : Bool) : Int32 := if b = true then 1 else 0
theorem pc_i0 {b : Bool} : pc_i b = 0 ↔ b = false := by cases b <;> decide
theorem pc_in (b : Bool) : vp_nar .boolean (pc_i b) = pc_i b := by
  show pc_i b &&& 1 = pc_i b
  cases b <;> decide
theorem pc_nr (b : Bool) : narrow .boolean (.int (pc_i b)) = .int (pc_i b) := by
  show Value.int (pc_i b &&& 1) = Value.int (pc_i b)
  rw [show pc_i b &&& 1 = pc_i b from pc_in b]
def pc_z (v : Int32) : Bool := decide (v ≠ 0)
theorem pc_bz (v : Int32) : lw_bz v = pc_i (pc_z v) := by
  unfold lw_bz pc_i pc_z
  by_cases h : v = 0
  · rw [if_pos h, if_neg (by simp [h])]
  · rw [if_neg h, if_pos (by simp [h])]
/-- the array a holds the arrows t -/
def pc_T (t : Nat → Nat) (a : Nat → Int32) : Prop := ∀ i, i < 14 → a i = nI (t i)
/-- the array a holds the goodness g -/
def pc_G (g : Nat → Bool) (a : Nat → Int32) : Prop := ∀ i, i < 7 → a i = pc_i (g i)
def pc_ut (t : Nat → Nat) (p x : Nat) : Nat → Nat := fun i => if i = p then x else t i
def pc_ug (g : Nat → Bool) (p : Nat) (x : Bool) : Nat → Bool := fun i => if i = p then x else g i
theorem pc_T_u {t : Nat → Nat} {a : Nat → Int32} (h : pc_T t a) (p x : Nat) : pc_T (pc_ut t p x) (upd a p (nI x)) := by
  intro i hi
  by_cases e : i = p
  · rw [e, pk_us]; show nI x = nI (if p = p then x else t p); rw [if_pos rfl]
  · rw [pk_un e]; show a i = nI (if i = p then x else t i); rw [if_neg e]; exact h i hi
theorem pc_ut_lt {t : Nat → Nat} (h : ∀ i, i < 14 → t i < 7) {p x : Nat} (hx : x < 7) : ∀ i, i < 14 → pc_ut t p x i < 7 := by
  intro i hi
  show (if i = p then x else t i) < 7
  by_cases e : i = p
  · rw [if_pos e]; exact hx
  · rw [if_neg e]; exact h i hi
theorem pc_G_u {g : Nat → Bool} {a : Nat → Int32} (h : pc_G g a) (p : Nat) (x : Bool) : pc_G (pc_ug g p x) (upd a p (pc_i x)) := by
  intro i hi
  by_cases e : i = p
  · rw [e, pk_us]; show pc_i x = pc_i (if p = p then x else g p); rw [if_pos rfl]
  · rw [pk_un e]; show a i = pc_i (if i = p then x else g i); rw [if_neg e]; exact h i hi
theorem pc_and1 {n : Nat} (h : n < 2 ^ 31) : nI n &&& 1 = nI (n % 2) := pk_andN (by omega) 1 (by decide)
theorem pc_and1E (x : Int32) : ∃ j : Nat, j < 2 ∧ x &&& 1 = nI j := pk_andE x 1 (by decide)
theorem pc_shr {w l : Nat} (hw : w < 2 ^ 31) (hl : l < 32) : nI w >>> (nI l &&& 31) = nI (w / 2 ^ l) := pk_shrN hw _ l (s_l l hl)
theorem pc_2a (s a : Nat) : (2 : Int32) * nI s + nI a = nI (2 * s + a) := by
  show nI 2 * nI s + nI a = _
  rw [pk_mul, nI_add]
theorem pc_half (w i : Nat) : w / 2 ^ i / 2 = w / 2 ^ (i + 1) := by
  rw [Nat.div_div_eq_div_mul, Nat.pow_succ]
end
section
theorem pc_h1 {m : Nat} (h : m ≤ 1) : m / 2 ≤ 1 := by omega
theorem pc_14 {r a : Nat} (h : r < 7) : 2 * r + a % 2 < 14 := by omega
theorem pc_dl {w j B : Nat} (hw : w < B) : w / 2 ^ j < B := Nat.lt_of_le_of_lt (Nat.div_le_self _ _) hw
/-- arrows and goodness -/
def pc_M (t : Nat → Nat) (g : Nat → Bool) (a b : Nat → Int32) : Prop := (∀ i, i < 14 → t i < 7) ∧ pc_T t a ∧ pc_G g b
/-- one letter more -/
theorem pc_st {t : Nat → Nat} {g : Nat → Bool} {a b : Nat → Int32} (M : pc_M t g a b) {s w j : Nat} (hs : s < 7) (hw : w < 4096) (hq : 2 ≤ w / 2 ^ j) {z : Int32} (hz : z = nI (w / 2 ^ j)) :
    vp_in ((2 : Int32) * nI (wd_run t s (w / 2 ^ (j + 1))) + (z &&& 1)) 14 ∧
    a ((2 : Int32) * nI (wd_run t s (w / 2 ^ (j + 1))) + (z &&& 1)).toNatClampNeg = nI (wd_run t s (w / 2 ^ j)) := by
  have hd : w / 2 ^ j < 4096 := pc_dl hw
  have hl := wd_lt M.1 hs (w / 2 ^ (j + 1))
  have h14 : 2 * wd_run t s (w / 2 ^ (j + 1)) + w / 2 ^ j % 2 < 14 := pc_14 hl
  have e : (2 : Int32) * nI (wd_run t s (w / 2 ^ (j + 1))) + (z &&& 1) = nI (2 * wd_run t s (w / 2 ^ (j + 1)) + w / 2 ^ j % 2) := by
    rw [hz, pc_and1 (Nat.lt_trans hd (by decide)), pc_2a]
  rw [e]
  refine ⟨vp_in_nI h14 (by decide), ?_⟩
  rw [nI_clamp (Nat.lt_trans h14 (by decide)), M.2.1 _ h14, wd_run_h s hq, pc_half]
theorem pc_s1 {t : Nat → Nat} {s w j : Nat} (hq : w / 2 ^ j ≤ 1) : wd_run t s (w / 2 ^ (j + 1)) = wd_run t s (w / 2 ^ j) := by
  rw [wd_run_1 s (show w / 2 ^ (j + 1) ≤ 1 by rw [← pc_half]; exact pc_h1 hq), wd_run_1 s hq]
theorem pc_good {t : Nat → Nat} {g : Nat → Bool} {a b : Nat → Int32} (M : pc_M t g a b) {s : Nat} (hs : s < 7) : b (nI s).toNatClampNeg = pc_i (g s) := by
  rw [nI_clamp (Nat.lt_trans hs (by decide))]; exact M.2.2 s hs
theorem pc_nm1 {k : Nat} (h : k < 2 ^ 31) : ¬ nI k = -1 := by
  intro e
  have e2 := congrArg Int32.toInt e
  rw [nI_toInt h, show (-1 : Int32).toInt = -1 by decide] at e2
  omega
theorem pc_st7 (x : Int32) : (x < 0 ∨ nI 7 ≤ x) ∨ ∃ s : Nat, s < 7 ∧ x = nI s := by
  rcases pk_ix x (n := 7) (by decide) with h | h | h
  · exact Or.inl (Or.inl h)
  · exact Or.inl (Or.inr h)
  · exact Or.inr h
theorem pc_word (x : Int32) : (x < 1 ∨ 4095 < x) ∨ ∃ w : Nat, 1 ≤ w ∧ w < 4096 ∧ x = nI w := by
  rcases pk_ix x (n := 4096) (by decide) with h | h | ⟨w, h, e⟩
  · exact Or.inl (Or.inl (Int32.lt_trans h (by decide)))
  · exact Or.inl (Or.inr (Int32.lt_of_lt_of_le (show (4095 : Int32) < nI 4096 from nI_lt (a := 4095) (by decide) (by decide)) h))
  · by_cases h1 : 1 ≤ w
    · exact Or.inr ⟨w, h1, h, e⟩
    · exact Or.inl (Or.inl (by rw [e, show w = 0 by omega]; exact nI_lt (a := 0) (b := 1) (by decide) (by decide)))
theorem pc_w1 {w : Nat} (h : 1 ≤ w) (hw : w < 4096) : ¬ nI w < 1 := nI_nlt (b := 1) h (by omega)
theorem pc_w2 {w : Nat} (hw : w < 4096) : ¬ (4095 : Int32) < nI w := nI_nlt (a := 4095) (b := w) (by omega) (by decide)
theorem pc_inj {a b : Bool} (h : pc_i a = pc_i b) : a = b := by
  cases a <;> cases b <;> first | rfl | exact absurd h (by decide)
/-- the first arrows -/
def zi_I (m : Nat) (a : Nat → Int32) : Prop := ∀ i, i < m → a i = nI (i / 2)
theorem zi_s {m : Nat} {a : Nat → Int32} (h : zi_I m a) {x : Int32} (hx : x = nI (m / 2)) : zi_I (m + 1) (upd a m x) := by
  intro i hi
  by_cases e : i = m
  · rw [e, pk_us, hx]
  · rw [pk_un e]; exact h i (by omega)
theorem zi_M {a : Nat → Int32} (h : zi_I 14 a) : pc_M (fun i => i / 2) (fun _ => false) a (fun _ => 0) :=
  ⟨fun i hi => by show i / 2 < 7; omega, fun i hi => h i hi, fun i hi => by show (0 : Int32) = pc_i false; decide⟩
theorem pc_n6 {x : Int32} (h : nI 7 ≤ x) : ¬ x ≤ 6 := by
  intro h6
  exact absurd (Int32.le_trans h h6) (nI_ge (a := 6) (b := 7) (by decide) (by decide))
theorem pc_n4 {x : Int32} (h : 4095 < x) : ¬ x ≤ 4095 := Int32.not_le.mpr h
end
section
section
variable {t : Nat → Nat} {g : Nat → Bool} {c : Int32} {aE sG kW kS : Nat → Int32} {o : Nat → Int64}
theorem xs_0 {w s : Int32} (n : Nat) (post : Int32 → Prop) (hp : post s) : wX_stateAfter_6 post w c aE sG o kW kS (n + 1) s (-1) := br_t (by decide) hp
theorem xs_s (M : pc_M t g aE sG) {s w j n : Nat} (hs : s < 7) (hw : w < 4096) (hj : j ≤ 10) (post : Int32 → Prop)
    (h : wX_stateAfter_6 post (nI w) c aE sG o kW kS n (nI (wd_run t s (w / 2 ^ j))) (nI j + (-1))) :
    wX_stateAfter_6 post (nI w) c aE sG o kW kS (n + 1) (nI (wd_run t s (w / 2 ^ (j + 1)))) (nI j) := by
  refine br_f (nI_pos (by omega)) ?_
  refine nm_r (pc_shr (Nat.lt_trans hw (by decide)) (by omega)) ?_
  by_cases hq : w / 2 ^ j ≤ 1
  · refine br_t (nI_le (b := 1) hq (by decide)) ?_
    rw [pc_s1 hq]
    exact nm_e h
  · have hq2 : 2 ≤ w / 2 ^ j := Nat.not_le.mp hq
    have hb := pc_st M hs hw hq2 rfl
    exact br_f (nI_ge (a := 1) hq2 (Nat.lt_trans (pc_dl hw) (by decide))) ⟨hb.1, nm_r hb.2 (nm_e h)⟩
theorem xs_l (M : pc_M t g aE sG) {s w : Nat} (hs : s < 7) (hw : w < 4096) (post : Int32 → Prop) (hp : post (nI (wd_run t s w))) :
    ∀ j, j ≤ 10 → wX_stateAfter_6 post (nI w) c aE sG o kW kS (j + 2) (nI (wd_run t s (w / 2 ^ (j + 1)))) (nI j) := by
  intro j
  induction j with
  | zero =>
    intro _
    refine xs_s M hs hw (by omega) post ?_
    rw [show w / 2 ^ 0 = w by rw [Nat.pow_zero, Nat.div_one]]
    exact xs_0 0 post hp
  | succ j ih =>
    intro hj
    refine xs_s M hs hw hj post ?_
    rw [pk_m1]
    exact ih (by omega)
theorem xs_run (M : pc_M t g aE sG) {s w : Nat} (hs : s < 7) (hw : w < 4096) (post : Int32 → Prop) (hp : post (nI (wd_run t s w))) :
    wpX_stateAfter post (c, aE, sG, o, kW, kS) (nI s) (nI w) := by
  refine ⟨12, ?_⟩
  have h := xs_l (c := c) (o := o) (kW := kW) (kS := kS) M hs hw post hp 10 (by omega)
  rw [wd_run_1 s (show w / 2 ^ (10 + 1) ≤ 1 by omega)] at h
  exact h
theorem xk_l (hO : ∀ s, s < 7 → ob_O t g s (o s)) {n : Nat} {kw : Nat → Nat} (hn : n ≤ 7) (hk : ∀ i, i < n → kS i = nI (wd_run t 0 (kw i)) ∧ wd_run t 0 (kw i) < 7)
    {s : Nat} (hs : s < 7) (post : Int32 → Prop) (hp : ∀ r, kd_K t g kw n s r → post r) :
    ∀ d k, k + d = n → (∀ i, i < k → mo_eb t g 6 (wd_run t 0 (kw i)) s = false) → wX_kindOfState_2 post (nI s) (nI n) aE sG o kW kS (d + 1) (nI k) := by
  intro d
  induction d with
  | zero =>
    intro k hkd hf
    exact br_t (nI_le (by omega) (by omega)) (hp _ (Or.inr ⟨fun i hi => hf i (by omega), rfl⟩))
  | succ d ih =>
    intro k hkd hf
    have h1 := hk k (by omega)
    have e1 : kS (nI k).toNatClampNeg = nI (wd_run t 0 (kw k)) := by rw [nI_clamp (by omega)]; exact h1.1
    have i1 : vp_in (kS (nI k).toNatClampNeg) 7 := by rw [e1]; exact vp_in_nI h1.2 (by decide)
    have q : o (kS (nI k).toNatClampNeg).toNatClampNeg = o (nI s).toNatClampNeg ↔ mo_eb t g 6 (wd_run t 0 (kw k)) s = true := by
      rw [e1, nI_clamp (by omega), nI_clamp (by omega)]; exact ob_eq (hO _ h1.2) (hO _ hs)
    refine br_f (nI_ge (by omega) (by omega)) ⟨vp_in_nI (by omega) (by decide), i1, vp_in_nI hs (by decide), ?_⟩
    by_cases h : mo_eb t g 6 (wd_run t 0 (kw k)) s = true
    · exact br_t (q.mpr h) (hp _ (Or.inl ⟨k, by omega, h, rfl⟩))
    · refine br_f (fun z => h (q.mp z)) (nm_r (nI_1 k) (ih (k + 1) (by omega) (fun i hi => ?_)))
      rcases (show i < k ∨ i = k by omega) with hi' | hi'
      · exact hf i hi'
      · rw [hi']; exact ts_nt h
/-- the kinds found so far, as the arrays hold them -/
def xr_K (t kw : Nat → Nat) (n : Nat) (kW kS : Nat → Int32) : Prop := ∀ i, i < n → kW i = nI (kw i) ∧ kS i = nI (wd_run t 0 (kw i))
theorem xr_K_u {kw : Nat → Nat} {n : Nat} (h : xr_K t kw n kW kS) (w : Nat) :
    xr_K t (en_put kw n w) (n + 1) (upd kW n (nI w)) (upd kS n (nI (wd_run t 0 w))) := by
  intro i hi
  by_cases e : i = n
  · rw [e, pk_us, pk_us, en_put_e]; exact ⟨rfl, rfl⟩
  · rw [pk_un e, pk_un e, en_put_n kw w e]; exact h i (by omega)
theorem xk_of (M : pc_M t g aE sG) (hO : ∀ s, s < 7 → ob_O t g s (o s)) {n : Nat} {kw : Nat → Nat} (hn : n ≤ 7) (hk : xr_K t kw n kW kS)
    {s : Nat} (hs : s < 7) (post : Int32 → Prop) (hp : ∀ r, kd_K t g kw n s r → post r) :
    wpX_kindOfState post (nI n, aE, sG, o, kW, kS) (nI s) :=
  ⟨n + 1, xk_l hO hn (fun i hi => ⟨(hk i hi).2, wd_lt M.1 (by decide) _⟩) hs post hp n 0 (by omega) (fun i hi => absurd hi (Nat.not_lt_zero i))⟩
theorem xo_i (M : pc_M t g aE sG) {s : Nat} (hs : s < 7) (post : SX → Prop) (J : Int32 → (Nat → Int32) → (Nat → Int32) → (Nat → Int64) → (Nat → Int32) → (Nat → Int32) → Prop)
    (hJ : ∀ x, ob_O t g s x → J (nI (s + 1)) aE sG (vp_updL o s x) kW kS) :
    ∀ d m x, m + d = 64 → 1 ≤ m → ob_P t g s m x → wX_findOutcomes_13 post J (nI s) c aE sG o kW kS (d + 1) x (nI m) := by
  intro d
  induction d with
  | zero =>
    intro m x hm h1 hx
    have e : m = 64 := by omega
    rw [e] at hx ⊢
    refine br_t (nI_le (a := 64) (Nat.le_refl _) (by decide)) ⟨vp_in_nI hs (by decide), nm_r (e' := vp_updL o s x) (by rw [nI_clamp (by omega)]) (nm_r (nI_1 s) (hJ x (ob_P_e hx)))⟩
  | succ d ih =>
    intro m x hm h1 hx
    refine br_f (nI_ge (b := 64) (by omega) (by decide)) (xs_run M hs (by omega) _ ?_)
    have hl := wd_lt M.1 hs m
    refine ⟨vp_in_nI hl (by decide), ?_⟩
    have hg := pc_good M hl
    cases e : g (wd_run t s m) with
    | false =>
      refine br_t (hg.trans (pc_i0.mpr e)) (nm_r (nI_1 m) (ih (m + 1) x (by omega) (by omega) (ob_P_f hx e)))
    | true =>
      refine br_f (fun z => absurd (pc_i0.mp (hg.symm.trans z)) (by rw [e]; decide)) (nm_e (nm_r (nI_1 m) (ih (m + 1) _ (by omega) (by omega) (ob_P_t hx h1 (by omega) e))))
theorem xo_o (M : pc_M t g aE sG) (post : SX → Prop) (hp : ∀ o', (∀ s, s < 7 → ob_O t g s (o' s)) → post (c, aE, sG, o', kW, kS)) :
    ∀ d s o, s + d = 7 → (∀ q, q < s → ob_O t g q (o q)) → wX_findOutcomes_2 post c (d + 1) (nI s) aE sG o kW kS := by
  intro d
  induction d with
  | zero =>
    intro s o hs h
    exact br_t (nI_le (a := 7) (by omega) (by omega)) (hp o (fun q hq => h q (by omega)))
  | succ d ih =>
    intro s o hs h
    refine br_f (nI_ge (b := 7) (by omega) (by decide)) ⟨64, ?_⟩
    refine xo_i M (by omega) post _ (fun x hx => ih (s + 1) (vp_updL o s x) (by omega) (fun q hq => ?_)) 63 1 0 (by omega) (by omega) (ob_P_1 s)
    by_cases e : q = s
    · rw [e, pk_uLs]; exact hx
    · rw [pk_uLn e]; exact h q (by omega)
theorem xo_out (M : pc_M t g aE sG) (post : SX → Prop) (hp : ∀ o', (∀ s, s < 7 → ob_O t g s (o' s)) → post (c, aE, sG, o', kW, kS)) :
    wpX_findOutcomes post (c, aE, sG, o, kW, kS) :=
  ⟨8, xo_o M post hp 7 0 o (by omega) (fun q hq => absurd hq (Nat.not_lt_zero q))⟩
theorem xa_new (M : pc_M t g aE sG) (hO : ∀ s, s < 7 → ob_O t g s (o s)) {n w : Nat} {kw : Nat → Nat} (hE : en_E t g w kw n) (h1 : 1 ≤ w) (hK : xr_K t kw n kW kS)
    (post : SX → Prop) (hp : ∀ kw' n' kW' kS', en_E t g (w + 1) kw' n' → n ≤ n' → (∀ i, i < n → kw' i = kw i) → xr_K t kw' n' kW' kS' → post (nI n', aE, sG, o, kW', kS')) :
    wpX_addIfNew post (nI n, aE, sG, o, kW, kS) (nI (wd_run t 0 w)) (nI w) := by
  have hn := en_le7 M.1 hE
  unfold wpX_addIfNew
  dsimp only
  refine xk_of M hO hn hK (wd_lt M.1 (by decide) w) _ (fun r hr => ?_)
  rcases hr with ⟨k, hk, e, er⟩ | ⟨hf, er⟩
  · rw [er]
    exact br_f (pc_nm1 (by omega)) (hp kw n kW kS (en_known hE hk e) (Nat.le_refl _) (fun _ _ => rfl) hK)
  · have hE' := en_new hE h1 hf
    have hn' := en_le7 M.1 hE'
    have ec : (nI n).toNatClampNeg = n := nI_clamp (by omega)
    have hp' := hp _ _ _ _ hE' (by omega) (fun i hi => en_put_n kw w (by omega)) (xr_K_u hK w)
    refine br_t er (br_t (nI_lt (b := 7) (by omega) (by decide)) ?_)
    refine ⟨vp_in_nI (by omega) (by decide), nm_r (e' := upd kW n (nI w)) (by rw [ec]) ⟨vp_in_nI (by omega) (by decide), nm_r (e' := upd kS n (nI (wd_run t 0 w))) (by rw [ec]) (nm_r (nI_1 n) hp')⟩⟩
end
end
section
section
variable {t : Nat → Nat} {g : Nat → Bool} {c : Int32} {aE sG kW kS : Nat → Int32} {o : Nat → Int64}
/-- where the walk over the kinds stands at the kind k -/
def xf_I (t : Nat → Nat) (g : Nat → Bool) (kw : Nat → Nat) (n k : Nat) : Prop := (k < n ∧ en_E t g (2 * kw k) kw n) ∨ (k = n ∧ en_K t g kw n)
theorem xf_1 (ht : ∀ i, i < 14 → t i < 7) {kw : Nat → Nat} {n : Nat} (h : en_E t g 2 kw n) : xf_I t g kw n 0 := by
  obtain ⟨i, hi, e⟩ := h.2.2 1 fw_1 (by omega)
  have h0 := h.1 0 (by omega)
  have e0 : kw 0 = 1 := by have := h0.1.1; have := h0.2; omega
  refine Or.inl ⟨by omega, ?_⟩
  rw [e0]; exact h
theorem xf_n (ht : ∀ i, i < 14 → t i < 7) {kw : Nat → Nat} {n k : Nat} (h : en_E t g (2 * kw k + 2) kw n) (hk : k < n) : xf_I t g kw n (k + 1) := by
  rcases (show k + 1 < n ∨ k + 1 = n by omega) with q | q
  · exact Or.inl ⟨q, en_gap ht h q⟩
  · exact Or.inr ⟨q, en_end ht h q, en_le7 ht h, en_128 ht h⟩
/-- what findKinds leaves -/
def xr_R (t : Nat → Nat) (g : Nat → Bool) (c : Int32) (o : Nat → Int64) (kW kS : Nat → Int32) : Prop :=
  ∃ kw n, c = nI n ∧ (∀ s, s < 7 → ob_O t g s (o s)) ∧ en_K t g kw n ∧ xr_K t kw n kW kS
/-- one letter behind the kind k -/
theorem xf_b (M : pc_M t g aE sG) (hO : ∀ s, s < 7 → ob_O t g s (o s)) {n k a m : Nat} {kw : Nat → Nat} (hk : k < n) (ha : a < 2)
    (hE : en_E t g (2 * kw k + a) kw n) (hK : xr_K t kw n kW kS) (post : SX → Prop) (J : Int32 → Int32 → (Nat → Int32) → (Nat → Int32) → (Nat → Int64) → (Nat → Int32) → (Nat → Int32) → Prop)
    (hp : ∀ kw' n' kW' kS', en_E t g (2 * kw' k + a + 1) kw' n' → k < n' → xr_K t kw' n' kW' kS' → wX_findKinds_33 post J (nI k) m (nI (a + 1)) (nI n') aE sG o kW' kS') :
    wX_findKinds_33 post J (nI k) (m + 1) (nI a) (nI n) aE sG o kW kS := by
  have hn := en_le7 M.1 hE
  have h128 := en_128 M.1 hE k hk
  have hl := wd_lt M.1 (show 0 < 7 by decide) (kw k)
  have ek : (nI k).toNatClampNeg = k := nI_clamp (by omega)
  have eS : kS (nI k).toNatClampNeg = nI (wd_run t 0 (kw k)) := by rw [ek]; exact (hK k hk).2
  have eW : kW (nI k).toNatClampNeg = nI (kw k) := by rw [ek]; exact (hK k hk).1
  have e1 : (2 : Int32) * kS (nI k).toNatClampNeg + nI a = nI (2 * wd_run t 0 (kw k) + a) := by rw [eS, pc_2a]
  have e2 : (2 : Int32) * kW (nI k).toNatClampNeg + nI a = nI (2 * kw k + a) := by rw [eW, pc_2a]
  have h1 := (hE.1 k hk).1.1
  have e3 : aE ((2 : Int32) * kS (nI k).toNatClampNeg + nI a).toNatClampNeg = nI (wd_run t 0 (2 * kw k + a)) := by
    rw [e1, nI_clamp (by omega), M.2.1 _ (by omega), wd_run_s 0 h1 ha]
  have ik : vp_in (nI k) 7 := vp_in_nI (by omega) (by decide)
  refine br_f (nI_ge (b := 2) ha (by decide)) ⟨ik, by rw [e1]; exact vp_in_nI (by omega) (by decide), nm_r e3 ⟨ik, ?_⟩⟩
  rw [e2]
  refine xa_new M hO hE (by omega) hK _ (fun kw' n' kW' kS' hE' hn' hkw hK' => ?_)
  dsimp only
  refine nm_r (nI_1 a) (hp kw' n' kW' kS' ?_ (by omega) hK')
  rw [hkw k hk]; exact hE'
theorem xf_a (M : pc_M t g aE sG) (hO : ∀ s, s < 7 → ob_O t g s (o s)) (post : SX → Prop) (hp : ∀ c kW kS, xr_R t g c o kW kS → post (c, aE, sG, o, kW, kS)) :
    ∀ d k n kw kW kS, k + d = 7 → xf_I t g kw n k → xr_K t kw n kW kS → wX_findKinds_17 post (d + 1) (nI k) (nI n) aE sG o kW kS := by
  intro d
  induction d with
  | zero =>
    intro k n kw kW kS hkd hI hK
    have hq : k = n ∧ en_K t g kw n := by
      rcases hI with ⟨h1, h2⟩ | h
      · have := en_le7 M.1 h2; omega
      · exact h
    exact br_t (nI_le (a := 7) (by omega) (by omega)) (hp _ _ _ ⟨kw, n, rfl, hO, hq.2, hK⟩)
  | succ d ih =>
    intro k n kw kW kS hkd hI hK
    refine br_f (nI_ge (b := 7) (by omega) (by decide)) ?_
    rcases hI with ⟨h1, h2⟩ | ⟨h1, h2⟩
    · have hn := en_le7 M.1 h2
      refine br_f (nI_ge h1 (by omega)) ⟨3, ?_⟩
      refine xf_b M hO h1 (a := 0) (by decide) h2 hK post _ (fun kw' n' kW' kS' hE' hk' hK' => ?_)
      refine xf_b M hO hk' (a := 1) (by decide) hE' hK' post _ (fun kw2 n2 kW2 kS2 hE2 hk2 hK2 => ?_)
      refine br_t (nI_le (a := 2) (b := 1 + 1) (by decide) (by decide)) (nm_r (nI_1 k) ?_)
      exact ih (k + 1) n2 kw2 kW2 kS2 (by omega) (xf_n M.1 hE2 hk2) hK2
    · exact br_t (nI_le (by omega) (by omega)) (hp _ _ _ ⟨kw, n, rfl, hO, h2, hK⟩)
theorem xa_1 (M : pc_M t g aE sG) (hO : ∀ s, s < 7 → ob_O t g s (o s)) (post : SX → Prop)
    (hp : ∀ kw' n' kW' kS', en_E t g 2 kw' n' → xr_K t kw' n' kW' kS' → post (nI n', aE, sG, o, kW', kS')) :
    wpX_addIfNew post (0, aE, sG, o, kW, kS) 0 1 := by
  have h0 : xr_K t (fun _ => 0) 0 kW kS := fun i hi => absurd hi (Nat.not_lt_zero i)
  have h := xa_new (n := 0) (w := 1) M hO (en_0 (fun _ => 0)) (by decide) h0 post (fun kw' n' kW' kS' hE _ _ hK => hp kw' n' kW' kS' hE hK)
  rw [wd_run_1 0 (Nat.le_refl 1), nI_0] at h
  exact h
theorem xf_k (M : pc_M t g aE sG) (post : SX → Prop) (hp : ∀ c o kW kS, xr_R t g c o kW kS → post (c, aE, sG, o, kW, kS)) :
    wpX_findKinds post (c, aE, sG, o, kW, kS) := by
  unfold wpX_findKinds
  dsimp only
  refine xo_out M _ (fun o' hO => ?_)
  dsimp only
  refine xa_1 M hO _ (fun kw' n' kW' kS' hE hK => ?_)
  dsimp only
  exact ⟨8, xf_a M hO post (fun c kW kS h => hp c o' kW kS h) 7 0 n' kw' kW' kS' (by omega) (xf_1 M.1 hE) hK⟩
end
end
section
section
variable {t : Nat → Nat} {g : Nat → Bool} {f : Int32} {aA aG aF : Nat → Int32}
theorem yr_0 {w s : Int32} (n : Nat) (post : Int32 → Prop) (hp : post s) : wY_run_29 post w f aA aG aF (n + 1) s (-1) := br_t (by decide) hp
theorem yr_s (M : pc_M t g aA aG) {s w j n : Nat} (hs : s < 7) (hw : w < 4096) (hj : j ≤ 12) (hq : 2 ≤ w / 2 ^ j) (post : Int32 → Prop)
    (h : wY_run_29 post (nI w) f aA aG aF n (nI (wd_run t s (w / 2 ^ j))) (nI j + (-1))) :
    wY_run_29 post (nI w) f aA aG aF (n + 1) (nI (wd_run t s (w / 2 ^ (j + 1)))) (nI j) := by
  have hb := pc_st M hs hw hq (z := nI w >>> (nI j &&& 31)) (pc_shr (Nat.lt_trans hw (by decide)) (by omega))
  exact br_f (nI_pos (by omega)) ⟨hb.1, nm_r hb.2 (nm_e h)⟩
theorem yr_l (M : pc_M t g aA aG) {s w L : Nat} (hs : s < 7) (hw : w < 4096) (hL : L ≤ 12) (hq : ∀ j, j < L → 2 ≤ w / 2 ^ j) (post : Int32 → Prop) (hp : post (nI (wd_run t s w))) :
    ∀ j, j < L → wY_run_29 post (nI w) f aA aG aF (j + 2) (nI (wd_run t s (w / 2 ^ (j + 1)))) (nI j) := by
  intro j
  induction j with
  | zero =>
    intro hj
    refine yr_s M hs hw (by omega) (hq 0 hj) post ?_
    rw [show w / 2 ^ 0 = w by rw [Nat.pow_zero, Nat.div_one]]
    exact yr_0 0 post hp
  | succ j ih =>
    intro hj
    refine yr_s M hs hw (by omega) (hq (j + 1) hj) post ?_
    rw [pk_m1]
    exact ih (by omega)
theorem yr_a (M : pc_M t g aA aG) {s w : Nat} (hs : s < 7) (hw : w < 4096) (post : Int32 → Prop) (hp : post (nI (wd_run t s w))) :
    ∀ d l, l + d = 12 → (∀ j, j < l → 2 ≤ w / 2 ^ j) → wY_run_2 post (nI s) (nI w) f aA aG aF (d + 1) (nI l) := by
  intro d
  induction d with
  | zero =>
    intro l hl hq
    exfalso
    have := hq 11 (by omega)
    rw [show (2 : Nat) ^ 11 = 2048 by decide] at this
    omega
  | succ d ih =>
    intro l hl hq
    have e := pc_shr (w := w) (l := l) (Nat.lt_trans hw (by decide)) (by omega)
    refine br_f (nI_ge (b := 12) (by omega) (by decide)) ?_
    rw [e]
    by_cases h1 : w / 2 ^ l ≤ 1
    · refine br_t (nI_le (b := 1) h1 (by decide)) ?_
      cases l with
      | zero =>
        rw [show w / 2 ^ 0 = w by rw [Nat.pow_zero, Nat.div_one]] at h1
        rw [wd_run_1 s h1] at hp
        exact nm_r (e' := -1) (by rw [nI_0]; decide) ⟨1, yr_0 0 post hp⟩
      | succ l =>
        have h := yr_l (f := f) (aF := aF) M hs hw (L := l + 1) (by omega) hq post hp l (by omega)
        rw [wd_run_1 s h1] at h
        exact nm_r (nI_pred l) ⟨l + 2, h⟩
    · have h2 : 2 ≤ w / 2 ^ l := Nat.not_le.mp h1
      refine br_f (nI_ge (a := 1) h2 (Nat.lt_trans (pc_dl hw) (by decide))) (nm_r (nI_1 l) (ih (l + 1) (by omega) (fun j hj => ?_)))
      rcases (show j < l ∨ j = l by omega) with q | q
      · exact hq j q
      · rw [q]; exact h2
theorem yr_run (M : pc_M t g aA aG) {s w : Nat} (hs : s < 7) (hw : w < 4096) (post : Int32 → Prop) (hp : post (nI (wd_run t s w))) :
    wpY_run post (f, aA, aG, aF) (nI s) (nI w) :=
  ⟨13, yr_a M hs hw post hp 12 0 (by omega) (fun j hj => absurd hj (Nat.not_lt_zero j))⟩
theorem yg_af (M : pc_M t g aA aG) {s w : Nat} (hs : s < 7) (hw : w < 4096) (post : Int32 → Prop) (hp : post (pc_i (g (wd_run t s w)))) :
    wpY_isGoodAfter post (f, aA, aG, aF) (nI s) (nI w) := by
  unfold wpY_isGoodAfter
  dsimp only
  refine yr_run M hs hw _ ?_
  have hl := wd_lt M.1 hs w
  refine ⟨vp_in_nI hl (by decide), ?_⟩
  rw [pc_good M hl]
  exact ⟨pc_nr _, hp⟩
theorem ya_l (M : pc_M t g aA aG) {p q : Nat} (hp7 : p < 7) (hq7 : q < 7) (post : Int32 → Prop) (hp : ∀ r, ds_D t g p q 128 r → post r) :
    ∀ d m, m + d = 128 → 1 ≤ m → (∀ v, 1 ≤ v → v < m → g (wd_run t p v) = g (wd_run t q v)) → wY_apart_2 post (nI p) (nI q) f aA aG aF (d + 1) (nI m) := by
  intro d
  induction d with
  | zero =>
    intro m hm h1 ha
    exact br_t (nI_le (a := 128) (by omega) (by omega)) (hp _ (Or.inr ⟨fun v a b => ha v a (by omega), rfl⟩))
  | succ d ih =>
    intro m hm h1 ha
    refine br_f (nI_ge (b := 128) (by omega) (by decide)) ?_
    refine yg_af M hp7 (by omega) _ ?_
    refine yg_af M hq7 (by omega) _ ?_
    by_cases e : g (wd_run t p m) = g (wd_run t q m)
    · refine br_t (by rw [e]) (nm_r (nI_1 m) (ih (m + 1) (by omega) (by omega) (fun v a b => ?_)))
      rcases (show v < m ∨ v = m by omega) with x | x
      · exact ha v a x
      · rw [x]; exact e
    · exact br_f (fun z => e (pc_inj z)) (hp _ (Or.inl ⟨m, h1, by omega, e, ha, rfl⟩))
theorem ya_part (M : pc_M t g aA aG) {p q : Nat} (hp7 : p < 7) (hq7 : q < 7) (post : Int32 → Prop) (hp : ∀ r, ds_D t g p q 128 r → post r) :
    wpY_apart post (f, aA, aG, aF) (nI p) (nI q) :=
  ⟨128, ya_l M hp7 hq7 post hp 127 1 (by omega) (by omega) (fun v a b => absurd a (by omega))⟩
/-- the first words found so far, as the array holds them -/
def yr_K (vw : Nat → Nat) (m : Nat) (aF : Nat → Int32) : Prop := ∀ i, i < m → aF i = nI (vw i) ∧ vw i < 128
theorem yk_l (M : pc_M t g aA aG) {m : Nat} {vw : Nat → Nat} (hm : m ≤ 7) (hF : yr_K vw m aF) {s : Nat} (hs : s < 7) (post : Int32 → Prop) (hp : ∀ r, kd_K t g vw m s r → post r) :
    ∀ d k, k + d = m → (∀ i, i < k → mo_eb t g 6 (wd_run t 0 (vw i)) s = false) → wY_kindOf_2 post (nI s) (nI m) aA aG aF (d + 1) (nI k) := by
  intro d
  induction d with
  | zero =>
    intro k hkd hf
    exact br_t (nI_le (by omega) (by omega)) (hp _ (Or.inr ⟨fun i hi => hf i (by omega), rfl⟩))
  | succ d ih =>
    intro k hkd hf
    have h1 := hF k (by omega)
    have e1 : aF (nI k).toNatClampNeg = nI (vw k) := by rw [nI_clamp (by omega)]; exact h1.1
    have hl := wd_lt M.1 (show 0 < 7 by decide) (vw k)
    refine br_f (nI_ge (by omega) (by omega)) ⟨vp_in_nI (by omega) (by decide), ?_⟩
    rw [e1]
    refine yr_run (s := 0) M (by decide) (by omega) _ ?_
    refine ya_part M hl hs _ (fun r hr => ?_)
    have q := ds_0 M.1 hl hs hr
    by_cases h : mo_eb t g 6 (wd_run t 0 (vw k)) s = true
    · exact br_t (q.mpr h) (hp _ (Or.inl ⟨k, by omega, h, rfl⟩))
    · refine br_f (fun z => h (q.mp z)) (nm_r (nI_1 k) (ih (k + 1) (by omega) (fun i hi => ?_)))
      rcases (show i < k ∨ i = k by omega) with hi' | hi'
      · exact hf i hi'
      · rw [hi']; exact ts_nt h
theorem yk_of (M : pc_M t g aA aG) {m : Nat} {vw : Nat → Nat} (hm : m ≤ 7) (hF : yr_K vw m aF) {s : Nat} (hs : s < 7) (post : Int32 → Prop) (hp : ∀ r, kd_K t g vw m s r → post r) :
    wpY_kindOf post (nI m, aA, aG, aF) (nI s) :=
  ⟨m + 1, yk_l M hm hF hs post hp m 0 (by omega) (fun i hi => absurd hi (Nat.not_lt_zero i))⟩
theorem yd_l (M : pc_M t g aA aG) (post : SY → Prop) (hp : ∀ vw m aF, en_E t g 128 vw m → yr_K vw m aF → post (nI m, aA, aG, aF)) :
    ∀ d w vw m aF, w + d = 128 → 1 ≤ w → en_E t g w vw m → yr_K vw m aF → wY_divide_7 post (d + 1) (nI w) (nI m) aA aG aF := by
  intro d
  induction d with
  | zero =>
    intro w vw m aF hw h1 hE hF
    have e : w = 128 := by omega
    rw [e] at hE
    exact br_t (nI_le (a := 128) (by omega) (by omega)) (hp vw m aF hE hF)
  | succ d ih =>
    intro w vw m aF hw h1 hE hF
    have hl := wd_lt M.1 (show 0 < 7 by decide) w
    have hm := en_le7 M.1 hE
    refine br_f (nI_ge (b := 128) (by omega) (by decide)) ?_
    refine yr_run (s := 0) M (by decide) (by omega) _ ?_
    refine yk_of M hm hF hl _ (fun r hr => ?_)
    rcases hr with ⟨k, hk, e, er⟩ | ⟨hf, er⟩
    · rw [er]
      exact br_t (nI_pos' (by omega)) (nm_r (nI_1 w) (ih (w + 1) vw m aF (by omega) (by omega) (en_known hE hk e) hF))
    · rw [er]
      have hE' := en_new hE h1 hf
      have hm' := en_le7 M.1 hE'
      have ec : (nI m).toNatClampNeg = m := nI_clamp (by omega)
      refine br_f (by decide) ⟨vp_in_nI (by omega) (by decide), nm_r (e' := upd aF m (nI w)) (by rw [ec]) (nm_r (nI_1 m) (nm_r (nI_1 w) (ih (w + 1) (en_put vw m w) (m + 1) _ (by omega) (by omega) hE' (fun i hi => ?_))))⟩
      by_cases ei : i = m
      · rw [ei, pk_us, en_put_e]; exact ⟨rfl, by omega⟩
      · rw [pk_un ei, en_put_n vw w ei]; exact hF i (by omega)
theorem yd_div (M : pc_M t g aA aG) (post : SY → Prop) (hp : ∀ vw m aF, en_E t g 128 vw m → yr_K vw m aF → post (nI m, aA, aG, aF)) :
    wpY_divide post (f, aA, aG, aF) := by
  refine ⟨128, ?_⟩
  exact yd_l M post hp 127 1 (fun _ => 0) 0 aF (by omega) (by omega) (en_0 _) (fun i hi => absurd hi (Nat.not_lt_zero i))
end
end
section
section
variable {t : Nat → Nat} {g : Nat → Bool} {c : Int32} {aE sG kW kS : Nat → Int32} {o : Nat → Int64}
theorem xi_sB {x : Int32} (h : x < 0 ∨ nI 7 ≤ x) (post : Int32 → Prop) (hp : post 0) : wpX_isState post x := by
  by_cases h0 : x < 0
  · exact br_t h0 hp
  · exact br_f h0 (br_t (h.resolve_left h0) hp)
theorem xi_s {s : Nat} (h : s < 7) (post : Int32 → Prop) (hp : post 1) : wpX_isState post (nI s) :=
  br_f (nI_pos (by omega)) (br_f (nI_ge (b := 7) h (by decide)) hp)
theorem xi_wB {x : Int32} (h : x < 1 ∨ 4095 < x) (post : Int32 → Prop) (hp : post 0) : wpX_isWord post x := by
  by_cases h0 : x < 1
  · exact br_t h0 hp
  · exact br_f h0 (br_t (h.resolve_left h0) hp)
theorem xi_w {w : Nat} (h1 : 1 ≤ w) (h : w < 4096) (post : Int32 → Prop) (hp : post 1) : wpX_isWord post (nI w) :=
  br_f (pc_w1 h1 h) (br_f (pc_w2 h) hp)
theorem xi_kB {n : Nat} {x : Int32} (h : x < 0 ∨ nI n ≤ x) (post : Int32 → Prop) (hp : post 0) : wpX_isKind post (nI n, aE, sG, o, kW, kS) x := by
  by_cases h0 : x < 0
  · exact br_t h0 hp
  · exact br_f h0 (br_t (h.resolve_left h0) hp)
theorem xi_k {n j : Nat} (h : j < n) (hn : n ≤ 7) (post : Int32 → Prop) (hp : post 1) : wpX_isKind post (nI n, aE, sG, o, kW, kS) (nI j) :=
  br_f (nI_pos (by omega)) (br_f (nI_ge h (by omega)) hp)
theorem yi_sB {x : Int32} (h : x < 0 ∨ nI 7 ≤ x) (post : Int32 → Prop) (hp : post 1) : wpY_badState post x := by
  by_cases h0 : x < 0
  · exact br_t h0 hp
  · exact br_f h0 (br_f (pc_n6 (h.resolve_left h0)) hp)
theorem yi_s {s : Nat} (h : s < 7) (post : Int32 → Prop) (hp : post 0) : wpY_badState post (nI s) :=
  br_f (nI_pos (by omega)) (br_t (nI_le (b := 6) (by omega) (by decide)) hp)
theorem yi_wB {x : Int32} (h : x < 1 ∨ 4095 < x) (post : Int32 → Prop) (hp : post 1) : wpY_bad post x := by
  by_cases h0 : x < 1
  · exact br_t h0 hp
  · exact br_f h0 (br_f (pc_n4 (h.resolve_left h0)) hp)
theorem yi_w {w : Nat} (h1 : 1 ≤ w) (h : w < 4096) (post : Int32 → Prop) (hp : post 0) : wpY_bad post (nI w) :=
  br_f (pc_w1 h1 h) (br_t (nI_le (b := 4095) (by omega) (by decide)) hp)
/-- x is no kind's number -/
theorem yi_kB {n : Nat} {x : Int32} {A B C : Prop} (h : x < 0 ∨ nI n ≤ x) (hA : A) (hC : C) : ((x < 0 → A) ∧ (¬ x < 0 → ((x < nI n → B) ∧ (¬ x < nI n → C)))) := by
  by_cases h0 : x < 0
  · exact br_t h0 hA
  · exact br_f h0 (br_f (fun z => absurd (h.resolve_left h0) (Int32.not_le.mpr z)) hC)
theorem yi_k {n j : Nat} {A B C : Prop} (h : j < n) (hn : n ≤ 7) (hB : B) : ((nI j < 0 → A) ∧ (¬ nI j < 0 → ((nI j < nI n → B) ∧ (¬ nI j < nI n → C)))) :=
  br_f (nI_pos (by omega)) (br_t (nI_lt h (by omega)) hB)
theorem pc_kind (x : Int32) {n : Nat} (hn : n ≤ 7) : (x < 0 ∨ nI n ≤ x) ∨ ∃ j : Nat, j < n ∧ x = nI j := by
  rcases pk_ix x (n := n) (by omega) with h | h | h
  · exact Or.inl (Or.inl h)
  · exact Or.inl (Or.inr h)
  · exact Or.inr h
/-- the component's least difference -/
theorem xd_l {p q : Nat} {x y : Int64} (hx : ob_O t g p x) (hy : ob_O t g q y) (post : Int32 → Prop) (hp : ∀ r, ds_D t g p q 64 r → post r) :
    ∀ d m, m + d = 64 → 1 ≤ m → (∀ v, 1 ≤ v → v < m → g (wd_run t p v) = g (wd_run t q v)) → wX_difference_50 post (x ^^^ y) c aE sG o kW kS (d + 1) (nI m) := by
  intro d
  induction d with
  | zero =>
    intro m hm h1 ha
    exact br_t (nI_le (a := 64) (by omega) (by omega)) (hp _ (Or.inr ⟨fun v a b => ha v a (by omega), rfl⟩))
  | succ d ih =>
    intro m hm h1 ha
    refine br_f (nI_ge (b := 64) (by omega) (by decide)) ?_
    have e := (ob_sh (x := x ^^^ y) (k := m) (by omega)).trans (ob_df hx hy h1 (by omega))
    by_cases h : g (wd_run t p m) = g (wd_run t q m)
    · refine br_t (e.mpr h) (nm_r (nI_1 m) (ih (m + 1) (by omega) (by omega) (fun v a b => ?_)))
      rcases (show v < m ∨ v = m by omega) with z | z
      · exact ha v a z
      · rw [z]; exact h
    · exact br_f (fun z => h (e.mp z)) (hp _ (Or.inl ⟨m, h1, by omega, h, ha, rfl⟩))
/-- the constructors -/
theorem xz_b {s : Nat} (hs : s < 7) (post : SX → Prop) (J : Int32 → (Nat → Int32) → (Nat → Int32) → (Nat → Int64) → (Nat → Int32) → (Nat → Int32) → Prop)
    (hJ : ∀ a, zi_I (2 * (s + 1)) a → J (nI (s + 1)) a sG o kW kS) :
    ∀ d l a, l + d = 2 → zi_I (2 * s + l) a → wX_init_54 post J (nI s) c (d + 1) (nI l) a sG o kW kS := by
  intro d
  induction d with
  | zero =>
    intro l a hl h
    have e : l = 2 := by omega
    rw [e] at h
    exact br_t (nI_le (a := 2) (by omega) (by omega)) (nm_r (nI_1 s) (hJ a h))
  | succ d ih =>
    intro l a hl h
    have e : (2 : Int32) * nI s + nI l = nI (2 * s + l) := pc_2a s l
    refine br_f (nI_ge (b := 2) (by omega) (by decide)) ⟨by rw [e]; exact vp_in_nI (by omega) (by decide), nm_r (e' := upd a (2 * s + l) (nI s)) (by rw [e, nI_clamp (by omega)]) (nm_r (nI_1 l) (ih (l + 1) _ (by omega) ?_))⟩
    exact zi_s h (by rw [show (2 * s + l) / 2 = s by omega])
theorem xz_a (post : SX → Prop) (hp : ∀ c a o kW kS, zi_I 14 a → xr_R (fun i => i / 2) (fun _ => false) c o kW kS → post (c, a, (fun _ => 0), o, kW, kS)) :
    ∀ d s a, s + d = 7 → zi_I (2 * s) a → wX_init_46 post c (d + 1) (nI s) a (fun _ => 0) o kW kS := by
  intro d
  induction d with
  | zero =>
    intro s a hs h
    have e : s = 7 := by omega
    rw [e] at h
    refine br_t (nI_le (a := 7) (by omega) (by omega)) ?_
    refine xf_k (zi_M h) _ (fun c o kW kS R => ?_)
    exact hp c a o kW kS h R
  | succ d ih =>
    intro s a hs h
    refine br_f (nI_ge (b := 7) (by omega) (by decide)) ⟨3, ?_⟩
    exact xz_b (by omega) post _ (fun a ha => ih (s + 1) a (by omega) ha) 2 0 a (by omega) h
theorem yz_a {aG aF : Nat → Int32} {f : Int32} (post : SY → Prop) (hp : ∀ a, zi_I 14 a → post (f, a, aG, aF)) :
    ∀ d s a, s + d = 7 → zi_I (2 * s) a → wY_init_30 post f (d + 1) (nI s) a aG aF := by
  intro d
  induction d with
  | zero =>
    intro s a hs h
    have e : s = 7 := by omega
    rw [e] at h
    exact br_t (nI_le (a := 7) (by omega) (by omega)) (hp a h)
  | succ d ih =>
    intro s a hs h
    have e0 : (2 : Int32) * nI s = nI (2 * s) := pk_mul 2 s
    have e1 : (2 : Int32) * nI s + 1 = nI (2 * s + 1) := by rw [e0, nI_1]
    have h1 := zi_s h (x := nI s) (by rw [show 2 * s / 2 = s by omega])
    have h2 := zi_s h1 (x := nI s) (by rw [show (2 * s + 1) / 2 = s by omega])
    refine br_f (nI_ge (b := 7) (by omega) (by decide)) ⟨by rw [e0]; exact vp_in_nI (by omega) (by decide), nm_r (e' := upd a (2 * s) (nI s)) (by rw [e0, nI_clamp (by omega)]) ⟨by rw [e1]; exact vp_in_nI (by omega) (by decide), nm_r (e' := upd (upd a (2 * s) (nI s)) (2 * s + 1) (nI s)) (by rw [e1, nI_clamp (by omega)]) (nm_r (nI_1 s) (ih (s + 1) _ (by omega) h2))⟩⟩
end
end
section
/-- both machines are t and g; the component knows their kinds -/
def i_Rel (_ : Nat) (u : SX) (v : SY) : Prop :=
  ∃ t g, pc_M t g u.2.1 u.2.2.1 ∧ pc_M t g v.2.1 v.2.2.1 ∧ xr_R t g u.1 u.2.2.2.1 u.2.2.2.2.1 u.2.2.2.2.2
theorem i_up {k : Nat} {u : SX} {v : SY} (h : i_Rel k u v) : i_Rel (k + 4) u v := h
theorem i_vc0 : wpX_init (fun u => wpY_init (fun v => i_Rel 0 u v)) := by
  refine ⟨8, ?_⟩
  refine xz_a (fun u => wpY_init (fun v => i_Rel 0 u v)) (fun c a o kW kS ha R => ?_) 7 0 (fun _ => 0) (by omega) (fun i hi => absurd hi (by omega))
  refine ⟨8, ?_⟩
  exact yz_a _ (fun a' ha' => ⟨_, _, zi_M ha, zi_M ha', R⟩) 7 0 (fun _ => 0) (by omega) (fun i hi => absurd hi (by omega))
theorem i_vc_arrow {k : Nat} {u : SX} {v : SY} (I : i_Rel k u v) (hk : k + 4 ≤ 2048) (v1 : Int32) (v2 : Int32) (v3 : Int32) : wpX_arrow (fun r u' => wpY_arrow (fun r' v' => r' = r ∧ i_Rel (k + 4) u' v') v v1 v2 v3) u v1 v2 v3 := by
  obtain ⟨c, aE, sG, o, kW, kS⟩ := u
  obtain ⟨f, aA, aG, aF⟩ := v
  have I' : i_Rel (k + 4) (c, aE, sG, o, kW, kS) (f, aA, aG, aF) := I
  obtain ⟨t, g, MX, MY, R⟩ := I
  replace MX : pc_M t g aE sG := MX
  replace MY : pc_M t g aA aG := MY
  unfold wpX_arrow wpY_arrow
  dsimp only
  rcases pc_st7 v1 with h | ⟨s, hs, rfl⟩
  · exact xi_sB h _ (br_t rfl (yi_sB h _ (br_f (by decide) ⟨rfl, I'⟩)))
  · refine xi_s hs _ (br_f (by decide) ?_)
    rcases pc_st7 v3 with h | ⟨s', hs', rfl⟩
    · exact xi_sB h _ (br_t rfl (yi_s hs _ (br_t rfl (yi_sB h _ (br_f (by decide) ⟨rfl, I'⟩)))))
    · refine xi_s hs' _ (br_f (by decide) ?_)
      obtain ⟨a, ha, ea⟩ := pc_and1E v2
      have e : (2 : Int32) * nI s + (v2 &&& 1) = nI (2 * s + a) := by rw [ea, pc_2a]
      have ei : vp_in ((2 : Int32) * nI s + (v2 &&& 1)) 14 := by rw [e]; exact vp_in_nI (by omega) (by decide)
      have ec : ((2 : Int32) * nI s + (v2 &&& 1)).toNatClampNeg = 2 * s + a := by rw [e, nI_clamp (by omega)]
      have MX' : pc_M (pc_ut t (2 * s + a) s') g (upd aE (2 * s + a) (nI s')) sG := ⟨pc_ut_lt MX.1 hs', pc_T_u MX.2.1 _ _, MX.2.2⟩
      have MY' : pc_M (pc_ut t (2 * s + a) s') g (upd aA (2 * s + a) (nI s')) aG := ⟨pc_ut_lt MY.1 hs', pc_T_u MY.2.1 _ _, MY.2.2⟩
      refine ⟨ei, nm_r (e' := upd aE (2 * s + a) (nI s')) (by rw [ec]) ?_⟩
      refine xf_k MX' _ (fun c' o' kW' kS' R' => ?_)
      dsimp only
      refine yi_s hs _ (br_t rfl (yi_s hs' _ (br_t rfl ⟨ei, nm_r (e' := upd aA (2 * s + a) (nI s')) (by rw [ec]) ⟨rfl, ?_⟩⟩)))
      exact ⟨_, _, MX', MY', R'⟩
theorem i_vc_good {k : Nat} {u : SX} {v : SY} (I : i_Rel k u v) (hk : k + 4 ≤ 2048) (v1 : Int32) (v2 : Int32) : wpX_good (fun r u' => wpY_good (fun r' v' => r' = r ∧ i_Rel (k + 4) u' v') v v1 (lw_bz v2)) u v1 (lw_bz v2) := by
  obtain ⟨c, aE, sG, o, kW, kS⟩ := u
  obtain ⟨f, aA, aG, aF⟩ := v
  have I' : i_Rel (k + 4) (c, aE, sG, o, kW, kS) (f, aA, aG, aF) := I
  obtain ⟨t, g, MX, MY, R⟩ := I
  replace MX : pc_M t g aE sG := MX
  replace MY : pc_M t g aA aG := MY
  unfold wpX_good wpY_good
  dsimp only
  rcases pc_st7 v1 with h | ⟨s, hs, rfl⟩
  · exact xi_sB h _ (br_t rfl (yi_sB h _ (br_f (by decide) ⟨rfl, I'⟩)))
  · refine xi_s hs _ (br_f (by decide) ?_)
    have ei : vp_in (nI s) 7 := vp_in_nI hs (by decide)
    have ec : (nI s).toNatClampNeg = s := nI_clamp (by omega)
    have ev : vp_nar .boolean (lw_bz v2) = pc_i (pc_z v2) := by rw [pc_bz, pc_in]
    have MX' : pc_M t (pc_ug g s (pc_z v2)) aE (upd sG s (pc_i (pc_z v2))) := ⟨MX.1, MX.2.1, pc_G_u MX.2.2 _ _⟩
    have MY' : pc_M t (pc_ug g s (pc_z v2)) aA (upd aG s (pc_i (pc_z v2))) := ⟨MY.1, MY.2.1, pc_G_u MY.2.2 _ _⟩
    refine ⟨ei, nm_r (e' := upd sG s (pc_i (pc_z v2))) (by rw [ec, ev]) ?_⟩
    refine xf_k MX' _ (fun c' o' kW' kS' R' => ?_)
    dsimp only
    refine yi_s hs _ (br_t rfl ⟨ei, nm_r (e' := upd aG s (pc_i (pc_z v2))) (by rw [ec, ev]) ⟨rfl, ?_⟩⟩)
    exact ⟨_, _, MX', MY', R'⟩
theorem i_vc_ask {k : Nat} {u : SX} {v : SY} (I : i_Rel k u v) (hk : k + 4 ≤ 2048) (v1 : Int32) : wpX_ask (fun r => wpY_ask (fun r' => r' = r ∧ i_Rel (k + 4) u v) v v1) u v1 := by
  obtain ⟨c, aE, sG, o, kW, kS⟩ := u
  obtain ⟨f, aA, aG, aF⟩ := v
  have I' : i_Rel (k + 4) (c, aE, sG, o, kW, kS) (f, aA, aG, aF) := I
  obtain ⟨t, g, MX, MY, R⟩ := I
  replace MX : pc_M t g aE sG := MX
  replace MY : pc_M t g aA aG := MY
  unfold wpX_ask wpY_ask
  dsimp only
  rcases pc_word v1 with h | ⟨w, h1, h2, rfl⟩
  · exact xi_wB h _ (br_t rfl (yi_wB h _ (br_f (by decide) ⟨rfl, I'⟩)))
  · refine xi_w h1 h2 _ (br_f (by decide) ?_)
    have hl := wd_lt MX.1 (show 0 < 7 by decide) w
    refine xs_run (s := 0) MX (by decide) h2 _ ⟨vp_in_nI hl (by decide), ?_⟩
    rw [pc_good MX hl]
    cases e : g (wd_run t 0 w) with
    | false => exact br_t (by decide) (yi_w h1 h2 _ (br_t rfl (yg_af (s := 0) MY (by decide) h2 _ (by rw [e]; exact br_t (by decide) ⟨rfl, I'⟩))))
    | true => exact br_f (by decide) (yi_w h1 h2 _ (br_t rfl (yg_af (s := 0) MY (by decide) h2 _ (by rw [e]; exact br_f (by decide) ⟨rfl, I'⟩))))
theorem i_vc_kinds {k : Nat} {u : SX} {v : SY} (I : i_Rel k u v) (hk : k + 4 ≤ 2048) : wpX_kinds (fun r => wpY_kinds (fun r' v' => r' = r ∧ i_Rel (k + 4) u v') v) u := by
  obtain ⟨c, aE, sG, o, kW, kS⟩ := u
  obtain ⟨f, aA, aG, aF⟩ := v
  obtain ⟨t, g, MX, MY, R⟩ := I
  replace MX : pc_M t g aE sG := MX
  replace MY : pc_M t g aA aG := MY
  have R' := R
  obtain ⟨kw, n, hc, hO, hK, hX⟩ := R'
  unfold wpX_kinds wpY_kinds
  dsimp only
  refine yd_div MY _ (fun vw m aF' hE hF => ?_)
  dsimp only
  have hu := en_YA hK hE
  exact ⟨(congrArg nI hu.1).trans hc.symm, t, g, MX, MY, R⟩
theorem i_vc_kind {k : Nat} {u : SX} {v : SY} (I : i_Rel k u v) (hk : k + 4 ≤ 2048) (v1 : Int32) : wpX_kind (fun r => wpY_kind (fun r' v' => r' = r ∧ i_Rel (k + 4) u v') v v1) u v1 := by
  obtain ⟨c, aE, sG, o, kW, kS⟩ := u
  obtain ⟨f, aA, aG, aF⟩ := v
  have I' : i_Rel (k + 4) (c, aE, sG, o, kW, kS) (f, aA, aG, aF) := I
  obtain ⟨t, g, MX, MY, R⟩ := I
  replace MX : pc_M t g aE sG := MX
  replace MY : pc_M t g aA aG := MY
  have R' := R
  obtain ⟨kw, n, hc, hO, hK, hX⟩ := R'
  replace hc : c = nI n := hc
  replace hO : ∀ s, s < 7 → ob_O t g s (o s) := hO
  replace hX : xr_K t kw n kW kS := hX
  subst hc
  unfold wpX_kind wpY_kind
  dsimp only
  rcases pc_word v1 with h | ⟨w, h1, h2, rfl⟩
  · exact xi_wB h _ (br_t rfl (yi_wB h _ (br_f (by decide) ⟨rfl, I'⟩)))
  · refine xi_w h1 h2 _ (br_f (by decide) ?_)
    have hl := wd_lt MX.1 (show 0 < 7 by decide) w
    refine xs_run (s := 0) MX (by decide) h2 _ ?_
    refine xk_of MX hO hK.2.1 hX hl _ (fun r hr => ?_)
    refine yi_w h1 h2 _ (br_t rfl ?_)
    refine yd_div MY _ (fun vw m aF' hE hF => ?_)
    dsimp only
    obtain ⟨rfl, hu⟩ := en_YA hK hE
    refine yr_run (s := 0) MY (by decide) h2 _ ?_
    refine yk_of MY (en_le7 MY.1 hE) hF hl _ (fun r' hr' => ?_)
    exact ⟨kd_un hK.1 hr (kd_cong hu hr'), t, g, MX, MY, R⟩
end
section
theorem i_vc_first {k : Nat} {u : SX} {v : SY} (I : i_Rel k u v) (hk : k + 4 ≤ 2048) (v1 : Int32) : wpX_first (fun r => wpY_first (fun r' v' => r' = r ∧ i_Rel (k + 4) u v') v v1) u v1 := by
  obtain ⟨c, aE, sG, o, kW, kS⟩ := u
  obtain ⟨f, aA, aG, aF⟩ := v
  obtain ⟨t, g, MX, MY, R⟩ := I
  replace MX : pc_M t g aE sG := MX
  replace MY : pc_M t g aA aG := MY
  have R' := R
  obtain ⟨kw, n, hc, hO, hK, hX⟩ := R'
  replace hc : c = nI n := hc
  replace hO : ∀ s, s < 7 → ob_O t g s (o s) := hO
  replace hX : xr_K t kw n kW kS := hX
  subst hc
  unfold wpX_first wpY_first
  dsimp only
  rcases pc_kind v1 hK.2.1 with h | ⟨j, hj, rfl⟩
  · refine xi_kB h _ (br_t rfl ?_)
    refine yd_div MY _ (fun vw m aF' hE hF => ?_)
    dsimp only
    obtain ⟨rfl, hu⟩ := en_YA hK hE
    exact yi_kB h ⟨rfl, t, g, MX, MY, R⟩ ⟨rfl, t, g, MX, MY, R⟩
  · have hn := hK.2.1
    have ec : (nI j).toNatClampNeg = j := nI_clamp (by omega)
    refine xi_k hj hK.2.1 _ (br_f (by decide) ⟨vp_in_nI (by omega) (by decide), ?_⟩)
    refine yd_div MY _ (fun vw m aF' hE hF => ?_)
    dsimp only
    obtain ⟨rfl, hu⟩ := en_YA hK hE
    refine yi_k hj hK.2.1 ⟨vp_in_nI (by omega) (by decide), ?_, t, g, MX, MY, R⟩
    rw [ec, (hX j hj).1, (hF j hj).1, hu j hj]
theorem i_vc_next {k : Nat} {u : SX} {v : SY} (I : i_Rel k u v) (hk : k + 4 ≤ 2048) (v1 : Int32) (v2 : Int32) : wpX_next (fun r => wpY_next (fun r' v' => r' = r ∧ i_Rel (k + 4) u v') v v1 v2) u v1 v2 := by
  obtain ⟨c, aE, sG, o, kW, kS⟩ := u
  obtain ⟨f, aA, aG, aF⟩ := v
  obtain ⟨t, g, MX, MY, R⟩ := I
  replace MX : pc_M t g aE sG := MX
  replace MY : pc_M t g aA aG := MY
  have R' := R
  obtain ⟨kw, n, hc, hO, hK, hX⟩ := R'
  replace hc : c = nI n := hc
  replace hO : ∀ s, s < 7 → ob_O t g s (o s) := hO
  replace hX : xr_K t kw n kW kS := hX
  subst hc
  unfold wpX_next wpY_next
  dsimp only
  rcases pc_kind v1 hK.2.1 with h | ⟨j, hj, rfl⟩
  · refine xi_kB h _ (br_t rfl ?_)
    refine yd_div MY _ (fun vw m aF' hE hF => ?_)
    dsimp only
    obtain ⟨rfl, hu⟩ := en_YA hK hE
    exact yi_kB h ⟨rfl, t, g, MX, MY, R⟩ ⟨rfl, t, g, MX, MY, R⟩
  · have hn := hK.2.1
    have ec : (nI j).toNatClampNeg = j := nI_clamp (by omega)
    obtain ⟨a, ha, ea⟩ := pc_and1E v2
    have h1 := (hK.1.1 j hj).1
    have h128 := hK.2.2 j hj
    have hl := wd_lt MX.1 (show 0 < 7 by decide) (kw j)
    have hl2 := wd_lt MX.1 (show 0 < 7 by decide) (2 * kw j + a)
    have e1 : (2 : Int32) * kS (nI j).toNatClampNeg + (v2 &&& 1) = nI (2 * wd_run t 0 (kw j) + a) := by rw [ec, (hX j hj).2, ea, pc_2a]
    have e3 : aE ((2 : Int32) * kS (nI j).toNatClampNeg + (v2 &&& 1)).toNatClampNeg = nI (wd_run t 0 (2 * kw j + a)) := by
      rw [e1, nI_clamp (by omega), MX.2.1 _ (by omega), wd_run_s 0 h1 ha]
    refine xi_k hj hK.2.1 _ (br_f (by decide) ⟨vp_in_nI (by omega) (by decide), by rw [e1]; exact vp_in_nI (by omega) (by decide), nm_r e3 ?_⟩)
    refine xk_of MX hO hK.2.1 hX hl2 _ (fun r hr => ?_)
    refine yd_div MY _ (fun vw m aF' hE hF => ?_)
    dsimp only
    obtain ⟨rfl, hu⟩ := en_YA hK hE
    have e2 : (2 : Int32) * aF' (nI j).toNatClampNeg + (v2 &&& 1) = nI (2 * kw j + a) := by rw [ec, (hF j hj).1, hu j hj, ea, pc_2a]
    refine yi_k hj hK.2.1 ⟨vp_in_nI (by omega) (by decide), ?_⟩
    rw [e2]
    refine yr_run (s := 0) MY (by decide) (by omega) _ ?_
    refine yk_of MY hK.2.1 hF hl2 _ (fun r' hr' => ?_)
    exact ⟨kd_un hK.1 hr (kd_cong hu hr'), t, g, MX, MY, R⟩
theorem i_vc_isGood {k : Nat} {u : SX} {v : SY} (I : i_Rel k u v) (hk : k + 4 ≤ 2048) (v1 : Int32) : wpX_isGood (fun r => wpY_isGood (fun r' v' => r' = r ∧ i_Rel (k + 4) u v') v v1) u v1 := by
  obtain ⟨c, aE, sG, o, kW, kS⟩ := u
  obtain ⟨f, aA, aG, aF⟩ := v
  obtain ⟨t, g, MX, MY, R⟩ := I
  replace MX : pc_M t g aE sG := MX
  replace MY : pc_M t g aA aG := MY
  have R' := R
  obtain ⟨kw, n, hc, hO, hK, hX⟩ := R'
  replace hc : c = nI n := hc
  replace hO : ∀ s, s < 7 → ob_O t g s (o s) := hO
  replace hX : xr_K t kw n kW kS := hX
  subst hc
  unfold wpX_isGood wpY_isGood
  dsimp only
  rcases pc_kind v1 hK.2.1 with h | ⟨j, hj, rfl⟩
  · refine xi_kB h _ (br_t rfl ?_)
    refine yd_div MY _ (fun vw m aF' hE hF => ?_)
    dsimp only
    obtain ⟨rfl, hu⟩ := en_YA hK hE
    exact yi_kB h ⟨rfl, t, g, MX, MY, R⟩ ⟨rfl, t, g, MX, MY, R⟩
  · have hn := hK.2.1
    have ec : (nI j).toNatClampNeg = j := nI_clamp (by omega)
    have h128 := hK.2.2 j hj
    have hl := wd_lt MX.1 (show 0 < 7 by decide) (kw j)
    have eS : kS (nI j).toNatClampNeg = nI (wd_run t 0 (kw j)) := by rw [ec]; exact (hX j hj).2
    refine xi_k hj hK.2.1 _ (br_f (by decide) ⟨vp_in_nI (by omega) (by decide), by rw [eS]; exact vp_in_nI hl (by decide), ?_⟩)
    rw [eS, pc_good MX hl]
    cases e : g (wd_run t 0 (kw j)) with
    | false =>
      refine br_t (by decide) (yd_div MY _ (fun vw m aF' hE hF => ?_))
      dsimp only
      obtain ⟨rfl, hu⟩ := en_YA hK hE
      refine yi_k hj hK.2.1 ⟨vp_in_nI (by omega) (by decide), ?_⟩
      rw [ec, (hF j hj).1, hu j hj]
      refine yg_af (s := 0) MY (by decide) (by omega) _ ?_
      rw [e]
      exact br_t (by decide) ⟨rfl, t, g, MX, MY, R⟩
    | true =>
      refine br_f (by decide) (yd_div MY _ (fun vw m aF' hE hF => ?_))
      dsimp only
      obtain ⟨rfl, hu⟩ := en_YA hK hE
      refine yi_k hj hK.2.1 ⟨vp_in_nI (by omega) (by decide), ?_⟩
      rw [ec, (hF j hj).1, hu j hj]
      refine yg_af (s := 0) MY (by decide) (by omega) _ ?_
      rw [e]
      exact br_f (by decide) ⟨rfl, t, g, MX, MY, R⟩
theorem i_vc_difference {k : Nat} {u : SX} {v : SY} (I : i_Rel k u v) (hk : k + 4 ≤ 2048) (v1 : Int32) (v2 : Int32) : wpX_difference (fun r => wpY_difference (fun r' => r' = r ∧ i_Rel (k + 4) u v) v v1 v2) u v1 v2 := by
  obtain ⟨c, aE, sG, o, kW, kS⟩ := u
  obtain ⟨f, aA, aG, aF⟩ := v
  have I' : i_Rel (k + 4) (c, aE, sG, o, kW, kS) (f, aA, aG, aF) := I
  obtain ⟨t, g, MX, MY, R⟩ := I
  replace MX : pc_M t g aE sG := MX
  replace MY : pc_M t g aA aG := MY
  obtain ⟨kw, n, hc, hO, hK, hX⟩ := R
  replace hO : ∀ s, s < 7 → ob_O t g s (o s) := hO
  unfold wpX_difference wpY_difference
  dsimp only
  rcases pc_word v1 with h | ⟨w, h1, h2, rfl⟩
  · exact xi_wB h _ (br_t rfl (yi_wB h _ (br_f (by decide) ⟨rfl, I'⟩)))
  · refine xi_w h1 h2 _ (br_f (by decide) ?_)
    rcases pc_word v2 with h | ⟨x, e1, e2, rfl⟩
    · exact xi_wB h _ (br_t rfl (yi_w h1 h2 _ (br_t rfl (yi_wB h _ (br_f (by decide) ⟨rfl, I'⟩)))))
    · refine xi_w e1 e2 _ (br_f (by decide) ?_)
      have hl := wd_lt MX.1 (show 0 < 7 by decide) w
      have hl' := wd_lt MX.1 (show 0 < 7 by decide) x
      refine xs_run (s := 0) MX (by decide) h2 _ ?_
      refine xs_run (s := 0) MX (by decide) e2 _ ⟨vp_in_nI hl (by decide), vp_in_nI hl' (by decide), ?_⟩
      refine nm_r (e' := o (wd_run t 0 w) ^^^ o (wd_run t 0 x)) (by rw [nI_clamp (by omega), nI_clamp (by omega)]) ⟨64, ?_⟩
      refine xd_l (hO _ hl) (hO _ hl') _ (fun r hr => ?_) 63 1 (by omega) (by omega) (fun v a b => absurd a (by omega))
      refine yi_w h1 h2 _ (br_t rfl (yi_w e1 e2 _ (br_t rfl ?_)))
      refine yr_run (s := 0) MY (by decide) h2 _ ?_
      refine yr_run (s := 0) MY (by decide) e2 _ ?_
      refine ya_part MY hl hl' _ (fun r' hr' => ?_)
      exact ⟨ds_un MX.1 hl hl' hr hr', I'⟩
end
