/-- the state after the word w (a 1 put before its letters) from the state s; n is fuel -/
def wd_f (t : Nat → Nat) (s : Nat) : Nat → Nat → Nat
  | 0, _ => s
  | n + 1, w => if w ≤ 1 then s else t (2 * wd_f t s n (w / 2) + w % 2)
def wd_run (t : Nat → Nat) (s w : Nat) : Nat := wd_f t s w w
section
variable {t : Nat → Nat} {g : Nat → Bool}
theorem wd_f_eq (s : Nat) : ∀ n m w : Nat, w ≤ n → w ≤ m → wd_f t s n w = wd_f t s m w := by
  intro n
  induction n with
  | zero =>
    intro m w h _
    have e : w = 0 := by omega
    cases m with
    | zero => rfl
    | succ m => show s = if w ≤ 1 then s else _; rw [if_pos (by omega)]
  | succ n ih =>
    intro m w h h'
    cases m with
    | zero => show (if w ≤ 1 then s else _) = s; rw [if_pos (by omega)]
    | succ m =>
      show (if w ≤ 1 then s else t (2 * wd_f t s n (w / 2) + w % 2)) = (if w ≤ 1 then s else t (2 * wd_f t s m (w / 2) + w % 2))
      by_cases hw : w ≤ 1
      · rw [if_pos hw, if_pos hw]
      · rw [if_neg hw, if_neg hw, ih m (w / 2) (by omega) (by omega)]
theorem wd_run_1 (s : Nat) {w : Nat} (h : w ≤ 1) : wd_run t s w = s := by
  unfold wd_run
  cases w with
  | zero => rfl
  | succ w => show (if w + 1 ≤ 1 then s else _) = s; rw [if_pos h]
theorem wd_run_h (s : Nat) {w : Nat} (h : 2 ≤ w) : wd_run t s w = t (2 * wd_run t s (w / 2) + w % 2) := by
  obtain ⟨n, rfl⟩ : ∃ n, w = n + 1 := ⟨w - 1, by omega⟩
  show (if n + 1 ≤ 1 then s else t (2 * wd_f t s n ((n + 1) / 2) + (n + 1) % 2)) = _
  rw [if_neg (by omega), wd_f_eq s n ((n + 1) / 2) ((n + 1) / 2) (by omega) (Nat.le_refl _)]
  rfl
theorem wd_run_s (s : Nat) {w a : Nat} (h : 1 ≤ w) (ha : a < 2) : wd_run t s (2 * w + a) = t (2 * wd_run t s w + a) := by
  rw [wd_run_h s (by omega), show (2 * w + a) / 2 = w by omega, show (2 * w + a) % 2 = a by omega]
theorem wd_lt (ht : ∀ i, i < 14 → t i < 7) {s : Nat} (hs : s < 7) : ∀ w : Nat, wd_run t s w < 7 := by
  intro w
  induction w using Nat.strongRecOn with
  | ind w ih =>
    by_cases h : w ≤ 1
    · rw [wd_run_1 s h]; exact hs
    · rw [wd_run_h s (by omega)]
      have := ih (w / 2) (by omega)
      exact ht _ (by omega)
/-- the number of the word that has the letter a ahead of the word v; n is fuel -/
def wd_cf (a : Nat) : Nat → Nat → Nat
  | 0, _ => 2 + a
  | n + 1, v => if v ≤ 1 then 2 + a else 2 * wd_cf a n (v / 2) + v % 2
theorem wd_cf_run (s a : Nat) (ha : a < 2) : ∀ n v : Nat, 1 ≤ v → v ≤ n + 1 →
    2 ≤ wd_cf a n v ∧ wd_run t s (wd_cf a n v) = wd_run t (t (2 * s + a)) v := by
  have hz : wd_run t s (2 + a) = t (2 * s + a) := by
    rw [show 2 + a = 2 * 1 + a by omega, wd_run_s s (by omega) ha, wd_run_1 s (by omega)]
  intro n
  induction n with
  | zero =>
    intro v h1 h2
    have e : v = 1 := by omega
    rw [e]
    exact ⟨by show 2 ≤ 2 + a; omega, by show wd_run t s (2 + a) = _; rw [hz, wd_run_1 _ (by omega)]⟩
  | succ n ih =>
    intro v h1 h2
    have ec : wd_cf a (n + 1) v = if v ≤ 1 then 2 + a else 2 * wd_cf a n (v / 2) + v % 2 := rfl
    by_cases h : v ≤ 1
    · rw [ec, if_pos h]
      exact ⟨by omega, by rw [hz, wd_run_1 _ h]⟩
    · rw [ec, if_neg h]
      obtain ⟨i1, i2⟩ := ih (v / 2) (by omega) (by omega)
      refine ⟨by omega, ?_⟩
      rw [wd_run_s s (by omega) (by omega), i2, ← wd_run_h (t := t) _ (show 2 ≤ v by omega)]
theorem wd_cf_lt (a : Nat) (ha : a < 2) : ∀ n k v : Nat, v < 2 ^ k → 1 ≤ v → v ≤ n + 1 → wd_cf a n v < 2 ^ (k + 1) := by
  intro n
  induction n with
  | zero =>
    intro k v h h1 h2
    show 2 + a < 2 ^ (k + 1)
    have e : v = 1 := by omega
    rw [e] at h
    have : k ≠ 0 := by intro hk; rw [hk] at h; omega
    obtain ⟨j, rfl⟩ : ∃ j, k = j + 1 := ⟨k - 1, by omega⟩
    have := Nat.one_le_two_pow (n := j)
    rw [Nat.pow_succ, Nat.pow_succ]
    omega
  | succ n ih =>
    intro k v h h1 h2
    have ec : wd_cf a (n + 1) v = if v ≤ 1 then 2 + a else 2 * wd_cf a n (v / 2) + v % 2 := rfl
    have hk : k ≠ 0 := by intro hk; rw [hk] at h; omega
    obtain ⟨j, rfl⟩ : ∃ j, k = j + 1 := ⟨k - 1, by omega⟩
    have hj := Nat.one_le_two_pow (n := j)
    rw [ec]
    by_cases hv : v ≤ 1
    · rw [if_pos hv, Nat.pow_succ, Nat.pow_succ]; omega
    · rw [if_neg hv]
      rw [Nat.pow_succ] at h
      have := ih j (v / 2) (by omega) (by omega) (by omega)
      rw [Nat.pow_succ]; omega
theorem wd_front : ∀ k w : Nat, 2 ≤ w → w < 2 ^ (k + 1) →
    ∃ a v, a < 2 ∧ 1 ≤ v ∧ v < 2 ^ k ∧ ∀ (t : Nat → Nat) (s : Nat), wd_run t s w = wd_run t (t (2 * s + a)) v := by
  intro k
  induction k with
  | zero => intro w h h'; omega
  | succ k ih =>
    intro w h h'
    by_cases h4 : w < 4
    · refine ⟨w - 2, 1, by omega, by omega, ?_, fun t s => ?_⟩
      · have := Nat.one_le_two_pow (n := k)
        rw [Nat.pow_succ]; omega
      · rw [wd_run_h s h, wd_run_1 s (by omega), wd_run_1 _ (by omega), show w % 2 = w - 2 by omega]
    · rw [Nat.pow_succ] at h'
      obtain ⟨a, v, ha, h1, h2, h3⟩ := ih (w / 2) (by omega) (by omega)
      refine ⟨a, 2 * v + w % 2, ha, by omega, by rw [Nat.pow_succ]; omega, fun t s => ?_⟩
      rw [wd_run_h s h, h3 t s, wd_run_s _ h1 (by omega)]
/-- what mo_eb says, by words -/
theorem wd_eb : ∀ k p q : Nat, mo_eb t g k p q = true ↔ ∀ w, 1 ≤ w → w < 2 ^ k → g (wd_run t p w) = g (wd_run t q w) := by
  intro k
  induction k with
  | zero =>
    intro p q
    exact ⟨fun _ w h h' => by rw [Nat.pow_zero] at h'; omega, fun _ => rfl⟩
  | succ k ih =>
    intro p q
    rw [mo_eb_s, ih, ih]
    constructor
    · intro ⟨h, h0, h1⟩ w hw hw'
      by_cases hw2 : w ≤ 1
      · rw [wd_run_1 p hw2, wd_run_1 q hw2]; exact h
      · obtain ⟨a, v, ha, hv, hv', e⟩ := wd_front k w (by omega) hw'
        rw [e t p, e t q]
        rcases (show a = 0 ∨ a = 1 by omega) with rfl | rfl
        · exact h0 v hv hv'
        · exact h1 v hv hv'
    · intro h
      refine ⟨?_, fun v hv hv' => ?_, fun v hv hv' => ?_⟩
      · have := h 1 (Nat.le_refl _) (by have := Nat.one_le_two_pow (n := k); rw [Nat.pow_succ]; omega)
        rw [wd_run_1 p (by omega), wd_run_1 q (by omega)] at this
        exact this
      · have hl := wd_cf_lt 0 (by omega) v k v hv' hv (by omega)
        have hp := wd_cf_run (t := t) p 0 (by omega) v v hv (by omega)
        have hq := wd_cf_run (t := t) q 0 (by omega) v v hv (by omega)
        have := h (wd_cf 0 v v) (by omega) hl
        rw [hp.2, hq.2] at this
        exact this
      · have hl := wd_cf_lt 1 (by omega) v k v hv' hv (by omega)
        have hp := wd_cf_run (t := t) p 1 (by omega) v v hv (by omega)
        have hq := wd_cf_run (t := t) q 1 (by omega) v v hv (by omega)
        have := h (wd_cf 1 v v) (by omega) hl
        rw [hp.2, hq.2] at this
        exact this
end
/-- w is a first word: no smaller word's end is alike to its end -/
def fw_F (t : Nat → Nat) (g : Nat → Bool) (w : Nat) : Prop :=
  1 ≤ w ∧ ∀ v, 1 ≤ v → v < w → mo_eb t g 6 (wd_run t 0 v) (wd_run t 0 w) = false
section
variable {t : Nat → Nat} {g : Nat → Bool}
theorem fw_1 : fw_F t g 1 := ⟨Nat.le_refl _, fun v h h' => by omega⟩
theorem fw_half (ht : ∀ i, i < 14 → t i < 7) {w : Nat} (h : fw_F t g w) (h2 : 2 ≤ w) : fw_F t g (w / 2) := by
  refine ⟨by omega, fun v hv hv' => ?_⟩
  cases e : mo_eb t g 6 (wd_run t 0 v) (wd_run t 0 (w / 2)) with
  | false => rfl
  | true =>
    have h0 : (0 : Nat) < 7 := by omega
    have c := mo_cong ht (wd_lt ht h0 v) (wd_lt ht h0 (w / 2)) (show w % 2 < 2 by omega) e
    rw [← wd_run_s (t := t) 0 hv (show w % 2 < 2 by omega), ← wd_run_h (t := t) 0 h2] at c
    have := h.2 (2 * v + w % 2) (by omega) (by omega)
    rw [c] at this
    exact absurd this (by decide)
theorem fw_least : ∀ w : Nat, 1 ≤ w → ∃ v, v ≤ w ∧ fw_F t g v ∧ mo_eb t g 6 (wd_run t 0 v) (wd_run t 0 w) = true := by
  intro w
  induction w using Nat.strongRecOn with
  | ind w ih =>
    intro hw
    by_cases h : ∃ v, 1 ≤ v ∧ v < w ∧ mo_eb t g 6 (wd_run t 0 v) (wd_run t 0 w) = true
    · obtain ⟨v, h1, h2, e⟩ := h
      obtain ⟨r, hr, hF, er⟩ := ih v h2 h1
      exact ⟨r, by omega, hF, mo_trans 6 _ _ _ er e⟩
    · refine ⟨w, Nat.le_refl _, ⟨hw, fun v h1 h2 => ?_⟩, mo_refl 6 _⟩
      cases e : mo_eb t g 6 (wd_run t 0 v) (wd_run t 0 w) with
      | false => rfl
      | true => exact absurd ⟨v, h1, h2, e⟩ h
theorem fw_un {v w : Nat} (hv : fw_F t g v) (hw : fw_F t g w) (e : mo_eb t g 6 (wd_run t 0 v) (wd_run t 0 w) = true) : v = w := by
  rcases Nat.lt_trichotomy v w with h | h | h
  · have := hw.2 v hv.1 h; rw [e] at this; exact absurd this (by decide)
  · exact h
  · have := hv.2 w hw.1 h; rw [mo_symm 6 _ _ e] at this; exact absurd this (by decide)
end
