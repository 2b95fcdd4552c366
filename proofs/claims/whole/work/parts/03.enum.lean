/-- kw 0 .. kw (n - 1) are the first words below c, from the smallest up -/
def en_E (t : Nat → Nat) (g : Nat → Bool) (c : Nat) (kw : Nat → Nat) (n : Nat) : Prop :=
  (∀ i, i < n → fw_F t g (kw i) ∧ kw i < c) ∧ (∀ i j, i < j → j < n → kw i < kw j) ∧
  (∀ w, fw_F t g w → w < c → ∃ i, i < n ∧ kw i = w)
/-- kw 0 .. kw (n - 1) are all first words, from the smallest up -/
def en_A (t : Nat → Nat) (g : Nat → Bool) (kw : Nat → Nat) (n : Nat) : Prop :=
  (∀ i, i < n → fw_F t g (kw i)) ∧ (∀ i j, i < j → j < n → kw i < kw j) ∧
  (∀ w, fw_F t g w → ∃ i, i < n ∧ kw i = w)
def en_put (kw : Nat → Nat) (n c : Nat) : Nat → Nat := fun i => if i = n then c else kw i
theorem en_put_e (kw : Nat → Nat) (n c : Nat) : en_put kw n c n = c := if_pos rfl
theorem en_put_n (kw : Nat → Nat) {n i : Nat} (c : Nat) (h : i ≠ n) : en_put kw n c i = kw i := if_neg h
section
variable {t : Nat → Nat} {g : Nat → Bool}
theorem en_0 (kw : Nat → Nat) : en_E t g 1 kw 0 :=
  ⟨fun i h => absurd h (Nat.not_lt_zero i), fun i j _ h => absurd h (Nat.not_lt_zero j),
   fun w hF h => absurd hF.1 (by omega)⟩
/-- a word whose kind is known is no first word -/
theorem en_known {c n : Nat} {kw : Nat → Nat} (h : en_E t g c kw n) {i : Nat} (hi : i < n)
    (e : mo_eb t g 6 (wd_run t 0 (kw i)) (wd_run t 0 c) = true) : en_E t g (c + 1) kw n := by
  obtain ⟨h1, h2, h3⟩ := h
  refine ⟨fun j hj => ⟨(h1 j hj).1, by have := (h1 j hj).2; omega⟩, h2, fun w hF hw => ?_⟩
  rcases Nat.lt_or_ge w c with hl | hl
  · exact h3 w hF hl
  · have ew : w = c := by omega
    rw [ew] at hF
    have := hF.2 (kw i) (h1 i hi).1.1 (h1 i hi).2
    rw [e] at this
    exact absurd this (by decide)
theorem en_new_F {c n : Nat} {kw : Nat → Nat} (h : en_E t g c kw n) (hc : 1 ≤ c)
    (e : ∀ i, i < n → mo_eb t g 6 (wd_run t 0 (kw i)) (wd_run t 0 c) = false) : fw_F t g c := by
  obtain ⟨h1, h2, h3⟩ := h
  refine ⟨hc, fun v hv hv' => ?_⟩
  cases e' : mo_eb t g 6 (wd_run t 0 v) (wd_run t 0 c) with
  | false => rfl
  | true =>
    obtain ⟨r, hr, hF, er⟩ := fw_least (t := t) (g := g) v hv
    obtain ⟨i, hi, ei⟩ := h3 r hF (by omega)
    have := e i hi
    rw [ei, mo_trans 6 _ _ _ er e'] at this
    exact absurd this (by decide)
theorem en_new {c n : Nat} {kw : Nat → Nat} (h : en_E t g c kw n) (hc : 1 ≤ c)
    (e : ∀ i, i < n → mo_eb t g 6 (wd_run t 0 (kw i)) (wd_run t 0 c) = false) : en_E t g (c + 1) (en_put kw n c) (n + 1) := by
  have hF := en_new_F h hc e
  obtain ⟨h1, h2, h3⟩ := h
  refine ⟨fun i hi => ?_, fun i j hij hj => ?_, fun w hw hw' => ?_⟩
  · by_cases ei : i = n
    · rw [ei, en_put_e]; exact ⟨hF, by omega⟩
    · rw [en_put_n kw c ei]
      have := h1 i (by omega)
      exact ⟨this.1, by have := this.2; omega⟩
  · rw [en_put_n kw c (show i ≠ n by omega)]
    by_cases ej : j = n
    · rw [ej, en_put_e]; exact (h1 i (by omega)).2
    · rw [en_put_n kw c ej]; exact h2 i j hij (by omega)
  · rcases Nat.lt_or_ge w c with hl | hl
    · obtain ⟨i, hi, ei⟩ := h3 w hw hl
      exact ⟨i, by omega, by rw [en_put_n kw c (show i ≠ n by omega)]; exact ei⟩
    · exact ⟨n, by omega, by rw [en_put_e]; omega⟩
/-- from the last word behind kind k to the first behind kind k + 1 -/
theorem en_gap (ht : ∀ i, i < 14 → t i < 7) {n k : Nat} {kw : Nat → Nat} (h : en_E t g (2 * kw k + 2) kw n)
    (hk : k + 1 < n) : en_E t g (2 * kw (k + 1)) kw n := by
  obtain ⟨h1, h2, h3⟩ := h
  have hm := h2 k (k + 1) (by omega) hk
  refine ⟨fun i hi => ⟨(h1 i hi).1, ?_⟩, h2, fun w hF hw => ?_⟩
  · have := (h1 i hi).2; omega
  · rcases Nat.lt_or_ge w (2 * kw k + 2) with hl | hl
    · exact h3 w hF hl
    · have hp := fw_half ht hF (by omega)
      have hb := (h1 (k + 1) hk).2
      obtain ⟨j, hj, ej⟩ := h3 (w / 2) hp (by omega)
      exfalso
      rcases Nat.lt_trichotomy j k with q | q | q
      · have := h2 j k q (by omega); omega
      · rw [q] at ej; omega
      · rcases (show j = k + 1 ∨ k + 1 < j by omega) with q' | q'
        · rw [q'] at ej; omega
        · have := h2 (k + 1) j q' hj; omega
/-- behind the last kind nothing is left -/
theorem en_end (ht : ∀ i, i < 14 → t i < 7) {n k : Nat} {kw : Nat → Nat} (h : en_E t g (2 * kw k + 2) kw n)
    (hk : k + 1 = n) : en_A t g kw n := by
  obtain ⟨h1, h2, h3⟩ := h
  have hk' : k < n := by omega
  have h1k := (h1 k hk').1.1
  refine ⟨fun i hi => (h1 i hi).1, h2, fun w => ?_⟩
  induction w using Nat.strongRecOn with
  | ind w ih =>
    intro hF
    rcases Nat.lt_or_ge w (2 * kw k + 2) with hl | hl
    · exact h3 w hF hl
    · exfalso
      obtain ⟨j, hj, ej⟩ := ih (w / 2) (by omega) (fw_half ht hF (by omega))
      rcases (show j = k ∨ j < k by omega) with q | q
      · rw [q] at ej; omega
      · have := h2 j k q hk'; omega
/-- two enumerations are one -/
theorem en_un {n m : Nat} {kw vw : Nat → Nat} (h : en_A t g kw n) (h' : en_A t g vw m) :
    ∀ i, i < n → i < m ∧ kw i = vw i := by
  intro i
  induction i using Nat.strongRecOn with
  | ind i ih =>
    intro hi
    obtain ⟨j, hj, ej⟩ := h'.2.2 (kw i) (h.1 i hi)
    have hji : i ≤ j := by
      rcases Nat.lt_or_ge j i with q | q
      · have e1 := (ih j q (by omega)).2
        have e2 := h.2.1 j i q hi
        omega
      · exact q
    rcases (show i = j ∨ i < j by omega) with q | q
    · rw [q] at hi ⊢; rw [q] at ej; exact ⟨hj, ej.symm⟩
    · exfalso
      obtain ⟨l, hl, el⟩ := h.2.2 (vw i) (h'.1 i (by omega))
      have e2 := h'.2.1 i j q hj
      rcases Nat.lt_or_ge l i with q' | q'
      · have e1 := (ih l q' hl).2
        have e3 := h'.2.1 l i q' (by omega)
        omega
      · rcases (show i = l ∨ i < l by omega) with q2 | q2
        · rw [← q2] at el; omega
        · have e3 := h.2.1 i l q2 hl; omega
theorem en_un_n {n m : Nat} {kw vw : Nat → Nat} (h : en_A t g kw n) (h' : en_A t g vw m) : n = m := by
  rcases Nat.lt_trichotomy n m with q | q | q
  · exact absurd (en_un h' h n q).1 (Nat.lt_irrefl n)
  · exact q
  · exact absurd (en_un h h' m q).1 (Nat.lt_irrefl m)
end
/-- n + 1 numbers below n: two are the same -/
theorem en_pig : ∀ (n : Nat) (f : Nat → Nat), (∀ i, i < n + 1 → f i < n) → ∃ i j, i < j ∧ j < n + 1 ∧ f i = f j := by
  intro n
  induction n with
  | zero => intro f h; exact absurd (h 0 (by omega)) (Nat.not_lt_zero _)
  | succ n ih =>
    intro f h
    by_cases hx : ∃ i, i < n + 1 ∧ f i = f (n + 1)
    · obtain ⟨i, hi, e⟩ := hx
      exact ⟨i, n + 1, hi, by omega, e⟩
    · have hne : ∀ i, i < n + 1 → f i ≠ f (n + 1) := fun i hi e => hx ⟨i, hi, e⟩
      have hl := h (n + 1) (by omega)
      obtain ⟨i, j, hij, hj, e⟩ := ih (fun i => if f i < f (n + 1) then f i else f i - 1) (by
        intro i hi
        have h1 := h i (by omega)
        have h2 := hne i hi
        show (if f i < f (n + 1) then f i else f i - 1) < n
        split <;> omega)
      have h1 := hne i (by omega)
      have h2 := hne j hj
      refine ⟨i, j, hij, by omega, ?_⟩
      have e' : (if f i < f (n + 1) then f i else f i - 1) = (if f j < f (n + 1) then f j else f j - 1) := e
      by_cases a : f i < f (n + 1)
      · by_cases b : f j < f (n + 1)
        · rw [if_pos a, if_pos b] at e'; exact e'
        · rw [if_pos a, if_neg b] at e'; omega
      · by_cases b : f j < f (n + 1)
        · rw [if_neg a, if_pos b] at e'; omega
        · rw [if_neg a, if_neg b] at e'; omega
/-- there are at most seven first words below any c -/
theorem en_le7 {t : Nat → Nat} {g : Nat → Bool} (ht : ∀ i, i < 14 → t i < 7) {c n : Nat} {kw : Nat → Nat}
    (h : en_E t g c kw n) : n ≤ 7 := by
  apply Classical.byContradiction
  intro hn
  obtain ⟨i, j, hij, hj, e⟩ := en_pig 7 (fun i => wd_run t 0 (kw i)) (fun i _ => wd_lt ht (by omega) _)
  have e' : wd_run t 0 (kw i) = wd_run t 0 (kw j) := e
  have := (h.1 j (by omega)).1.2 (kw i) (h.1 i (by omega)).1.1 (h.2.1 i j hij (by omega))
  rw [e', mo_refl] at this
  exact absurd this (by decide)
