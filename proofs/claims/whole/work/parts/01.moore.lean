/-- how many of the numbers below n have P -/
def mo_ct (P : Nat → Bool) : Nat → Nat
  | 0 => 0
  | n + 1 => mo_ct P n + (if P n = true then 1 else 0)
theorem mo_ct_le (P : Nat → Bool) : ∀ N, mo_ct P N ≤ N := by
  intro N
  induction N with
  | zero => exact Nat.le_refl _
  | succ n ih =>
    show mo_ct P n + (if P n = true then 1 else 0) ≤ n + 1
    split <;> omega
theorem mo_ct_pos (P : Nat → Bool) (h : P 0 = true) : ∀ N, 1 ≤ mo_ct P (N + 1) := by
  intro N
  induction N with
  | zero =>
    show 1 ≤ mo_ct P 0 + (if P 0 = true then 1 else 0)
    rw [if_pos h]; omega
  | succ n ih =>
    show 1 ≤ mo_ct P (n + 1) + (if P (n + 1) = true then 1 else 0)
    omega
theorem mo_ct_mono (P Q : Nat → Bool) : ∀ N, (∀ q, q < N → P q = true → Q q = true) →
    mo_ct P N ≤ mo_ct Q N ∧ (mo_ct Q N ≤ mo_ct P N → ∀ q, q < N → Q q = true → P q = true) := by
  intro N
  induction N with
  | zero => intro _; exact ⟨Nat.le_refl _, fun _ q hq => absurd hq (Nat.not_lt_zero q)⟩
  | succ n ih =>
    intro h
    obtain ⟨h1, h2⟩ := ih (fun q hq => h q (by omega))
    have h3 := h n (by omega)
    have eP : mo_ct P (n + 1) = mo_ct P n + (if P n = true then 1 else 0) := rfl
    have eQ : mo_ct Q (n + 1) = mo_ct Q n + (if Q n = true then 1 else 0) := rfl
    rw [eP, eQ]
    by_cases hp : P n = true
    · have hq := h3 hp
      rw [if_pos hp, if_pos hq]
      refine ⟨by omega, fun hle q hq' hQ => ?_⟩
      rcases Nat.lt_or_ge q n with hl | hl
      · exact h2 (by omega) q hl hQ
      · have e : q = n := by omega
        rw [e]; exact hp
    · rw [if_neg hp]
      by_cases hq : Q n = true
      · rw [if_pos hq]
        exact ⟨by omega, fun hle => absurd hle (by omega)⟩
      · rw [if_neg hq]
        refine ⟨by omega, fun hle q hq' hQ => ?_⟩
        rcases Nat.lt_or_ge q n with hl | hl
        · exact h2 (by omega) q hl hQ
        · have e : q = n := by omega
          rw [e] at hQ; exact absurd hQ hq
/-- no word of fewer than k letters tells the states p and q apart -/
def mo_eb (t : Nat → Nat) (g : Nat → Bool) : Nat → Nat → Nat → Bool
  | 0, _, _ => true
  | k + 1, p, q => (g p == g q) && (mo_eb t g k (t (2 * p)) (t (2 * q)) && mo_eb t g k (t (2 * p + 1)) (t (2 * q + 1)))
section
variable {t : Nat → Nat} {g : Nat → Bool}
theorem mo_eb_s {k p q : Nat} : mo_eb t g (k + 1) p q = true ↔
    g p = g q ∧ mo_eb t g k (t (2 * p)) (t (2 * q)) = true ∧ mo_eb t g k (t (2 * p + 1)) (t (2 * q + 1)) = true := by
  rw [mo_eb, Bool.and_eq_true, Bool.and_eq_true, beq_iff_eq]
theorem mo_refl : ∀ k p : Nat, mo_eb t g k p p = true := by
  intro k
  induction k with
  | zero => intro p; rfl
  | succ k ih => intro p; exact mo_eb_s.mpr ⟨rfl, ih _, ih _⟩
theorem mo_symm : ∀ k p q : Nat, mo_eb t g k p q = true → mo_eb t g k q p = true := by
  intro k
  induction k with
  | zero => intro p q _; rfl
  | succ k ih =>
    intro p q h
    obtain ⟨h1, h2, h3⟩ := mo_eb_s.mp h
    exact mo_eb_s.mpr ⟨h1.symm, ih _ _ h2, ih _ _ h3⟩
theorem mo_trans : ∀ k p q r : Nat, mo_eb t g k p q = true → mo_eb t g k q r = true → mo_eb t g k p r = true := by
  intro k
  induction k with
  | zero => intro p q r _ _; rfl
  | succ k ih =>
    intro p q r h h'
    obtain ⟨h1, h2, h3⟩ := mo_eb_s.mp h
    obtain ⟨e1, e2, e3⟩ := mo_eb_s.mp h'
    exact mo_eb_s.mpr ⟨h1.trans e1, ih _ _ _ h2 e2, ih _ _ _ h3 e3⟩
theorem mo_down : ∀ k p q : Nat, mo_eb t g (k + 1) p q = true → mo_eb t g k p q = true := by
  intro k
  induction k with
  | zero => intro p q _; rfl
  | succ k ih =>
    intro p q h
    obtain ⟨h1, h2, h3⟩ := mo_eb_s.mp h
    exact mo_eb_s.mpr ⟨h1, ih _ _ h2, ih _ _ h3⟩
/-- one letter more tells nothing more apart -/
def mo_St (t : Nat → Nat) (g : Nat → Bool) (k : Nat) : Prop :=
  ∀ p q, p < 7 → q < 7 → mo_eb t g k p q = true → mo_eb t g (k + 1) p q = true
theorem mo_St_s (ht : ∀ i, i < 14 → t i < 7) {k : Nat} (h : mo_St t g k) : mo_St t g (k + 1) := by
  intro p q hp hq e
  obtain ⟨h1, h2, h3⟩ := mo_eb_s.mp e
  exact mo_eb_s.mpr ⟨h1, h _ _ (ht _ (by omega)) (ht _ (by omega)) h2, h _ _ (ht _ (by omega)) (ht _ (by omega)) h3⟩
theorem mo_St_add (ht : ∀ i, i < 14 → t i < 7) {k : Nat} (h : mo_St t g k) : ∀ n, mo_St t g (k + n) := by
  intro n
  induction n with
  | zero => exact h
  | succ n ih => exact mo_St_s ht ih
def mo_rep (t : Nat → Nat) (g : Nat → Bool) (k q : Nat) : Bool := decide (∀ p, p < q → mo_eb t g k p q = false)
theorem mo_rep_i {k q : Nat} : mo_rep t g k q = true ↔ ∀ p, p < q → mo_eb t g k p q = false := by
  rw [mo_rep, decide_eq_true_eq]
theorem mo_rep_ex (k : Nat) : ∀ q : Nat, ∃ p, p ≤ q ∧ mo_rep t g k p = true ∧ mo_eb t g k p q = true := by
  intro q
  induction q using Nat.strongRecOn with
  | ind q ih =>
    by_cases h : ∀ p, p < q → mo_eb t g k p q = false
    · exact ⟨q, Nat.le_refl _, mo_rep_i.mpr h, mo_refl k q⟩
    · have h' : ∃ p, p < q ∧ mo_eb t g k p q = true := by
        apply Classical.byContradiction
        intro hn
        apply h
        intro p hp
        cases e : mo_eb t g k p q with
        | false => rfl
        | true => exact absurd ⟨p, hp, e⟩ hn
      obtain ⟨p, hp, e⟩ := h'
      obtain ⟨r, hr, h1, h2⟩ := ih p hp
      exact ⟨r, by omega, h1, mo_trans k _ _ _ h2 e⟩
theorem mo_rep_up {k q : Nat} (h : mo_rep t g k q = true) : mo_rep t g (k + 1) q = true := by
  rw [mo_rep_i] at h ⊢
  intro p hp
  cases e : mo_eb t g (k + 1) p q with
  | false => rfl
  | true => exact absurd (h p hp) (by rw [mo_down k p q e]; decide)
theorem mo_rep_un {k p q : Nat} (hp : mo_rep t g k p = true) (hq : mo_rep t g k q = true) (e : mo_eb t g k p q = true) : p = q := by
  rw [mo_rep_i] at hp hq
  rcases Nat.lt_trichotomy p q with h | h | h
  · have e' := hq p h; rw [e] at e'; exact absurd e' (by decide)
  · exact h
  · have e' := hp q h; rw [mo_symm k _ _ e] at e'; exact absurd e' (by decide)
theorem mo_step {k : Nat} (h : mo_ct (mo_rep t g (k + 1)) 7 ≤ mo_ct (mo_rep t g k) 7) : mo_St t g k := by
  have hb := (mo_ct_mono (mo_rep t g k) (mo_rep t g (k + 1)) 7 (fun q _ hq => mo_rep_up hq)).2 h
  intro p q hp hq e
  obtain ⟨p', hp', rp, ep⟩ := mo_rep_ex (t := t) (g := g) (k + 1) p
  obtain ⟨q', hq', rq, eq⟩ := mo_rep_ex (t := t) (g := g) (k + 1) q
  have e1 : mo_eb t g k p' q' = true :=
    mo_trans k _ _ _ (mo_trans k _ _ _ (mo_down k _ _ ep) e) (mo_symm k _ _ (mo_down k _ _ eq))
  have e2 : p' = q' := mo_rep_un (hb p' (by omega) rp) (hb q' (by omega) rq) e1
  rw [← e2] at eq
  exact mo_trans (k + 1) _ _ _ (mo_symm (k + 1) _ _ ep) eq
theorem mo_lt {k : Nat} (h : ¬ mo_St t g k) : mo_ct (mo_rep t g k) 7 + 1 ≤ mo_ct (mo_rep t g (k + 1)) 7 := by
  rcases Nat.lt_or_ge (mo_ct (mo_rep t g k) 7) (mo_ct (mo_rep t g (k + 1)) 7) with h1 | h1
  · exact h1
  · exact absurd (mo_step h1) h
/-- words of at most five letters tell apart all that can be told apart -/
theorem mo_St6 (ht : ∀ i, i < 14 → t i < 7) : mo_St t g 6 := by
  apply Classical.byContradiction
  intro h6
  have hn : ∀ j, j ≤ 6 → ¬ mo_St t g j := by
    intro j hj hs
    have := mo_St_add ht hs (6 - j)
    rw [show j + (6 - j) = 6 by omega] at this
    exact h6 this
  have c0 : mo_ct (mo_rep t g 0) 7 + 1 ≤ mo_ct (mo_rep t g 1) 7 := mo_lt (hn 0 (by omega))
  have c1 : mo_ct (mo_rep t g 1) 7 + 1 ≤ mo_ct (mo_rep t g 2) 7 := mo_lt (hn 1 (by omega))
  have c2 : mo_ct (mo_rep t g 2) 7 + 1 ≤ mo_ct (mo_rep t g 3) 7 := mo_lt (hn 2 (by omega))
  have c3 : mo_ct (mo_rep t g 3) 7 + 1 ≤ mo_ct (mo_rep t g 4) 7 := mo_lt (hn 3 (by omega))
  have c4 : mo_ct (mo_rep t g 4) 7 + 1 ≤ mo_ct (mo_rep t g 5) 7 := mo_lt (hn 4 (by omega))
  have c5 : mo_ct (mo_rep t g 5) 7 + 1 ≤ mo_ct (mo_rep t g 6) 7 := mo_lt (hn 5 (by omega))
  have c6 : mo_ct (mo_rep t g 6) 7 + 1 ≤ mo_ct (mo_rep t g 7) 7 := mo_lt (hn 6 (by omega))
  have cz : 1 ≤ mo_ct (mo_rep t g 0) 7 := mo_ct_pos _ (mo_rep_i.mpr (fun p hp => absurd hp (Nat.not_lt_zero p))) 6
  have cl := mo_ct_le (mo_rep t g 7) 7
  omega
/-- the same letter behind states that are alike -/
theorem mo_cong (ht : ∀ i, i < 14 → t i < 7) {p q a : Nat} (hp : p < 7) (hq : q < 7) (ha : a < 2)
    (e : mo_eb t g 6 p q = true) : mo_eb t g 6 (t (2 * p + a)) (t (2 * q + a)) = true := by
  obtain ⟨_, h0, h1⟩ := mo_eb_s.mp (mo_St6 ht p q hp hq e)
  rcases (show a = 0 ∨ a = 1 by omega) with rfl | rfl
  · exact h0
  · exact h1
end
