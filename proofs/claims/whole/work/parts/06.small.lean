theorem pc_h1 {m : Nat} (h : m ≤ 1) : m / 2 ≤ 1 := by omega
theorem pc_14 {r a : Nat} (h : r < 7) : 2 * r + a % 2 < 14 := by omega
theorem pc_dl {w j B : Nat} (hw : w < B) : w / 2 ^ j < B := Nat.lt_of_le_of_lt (Nat.div_le_self _ _) hw
/-- arrows and goodness -/
def pc_M (t : Nat → Nat) (g : Nat → Bool) (a b : Nat → Int32) : Prop := (∀ i, i < 14 → t i < 7) ∧ pc_T t a ∧ pc_G g b
/-- one letter more -/
theorem pc_st {t : Nat → Nat} {g : Nat → Bool} {a b : Nat → Int32} (M : pc_M t g a b) {s w j : Nat} (hs : s < 7) (hw : w < 4096) (hq : 2 ≤ w / 2 ^ j) {z : Int32} (hz : z = nI (w / 2 ^ j)) :
    vp_in ((2 : Int32) * nI (wd_run t s (w / 2 ^ (j + 1))) + (z &&& 1)) 14 ∧
    a ((2 : Int32) * nI (wd_run t s (w / 2 ^ (j + 1))) + (z &&& 1)).toNatClampNeg = nI (wd_run t s (w / 2 ^ j)) := by
  have hd : w / 2 ^ j < 4096 := pc_dl hw
  have hl := wd_lt M.1 hs (w / 2 ^ (j + 1))
  have h14 : 2 * wd_run t s (w / 2 ^ (j + 1)) + w / 2 ^ j % 2 < 14 := pc_14 hl
  have e : (2 : Int32) * nI (wd_run t s (w / 2 ^ (j + 1))) + (z &&& 1) = nI (2 * wd_run t s (w / 2 ^ (j + 1)) + w / 2 ^ j % 2) := by
    rw [hz, pc_and1 (Nat.lt_trans hd (by decide)), pc_2a]
  rw [e]
  refine ⟨vp_in_nI h14 (by decide), ?_⟩
  rw [nI_clamp (Nat.lt_trans h14 (by decide)), M.2.1 _ h14, wd_run_h s hq, pc_half]
theorem pc_s1 {t : Nat → Nat} {s w j : Nat} (hq : w / 2 ^ j ≤ 1) : wd_run t s (w / 2 ^ (j + 1)) = wd_run t s (w / 2 ^ j) := by
  rw [wd_run_1 s (show w / 2 ^ (j + 1) ≤ 1 by rw [← pc_half]; exact pc_h1 hq), wd_run_1 s hq]
theorem pc_good {t : Nat → Nat} {g : Nat → Bool} {a b : Nat → Int32} (M : pc_M t g a b) {s : Nat} (hs : s < 7) : b (nI s).toNatClampNeg = pc_i (g s) := by
  rw [nI_clamp (Nat.lt_trans hs (by decide))]; exact M.2.2 s hs
theorem pc_nm1 {k : Nat} (h : k < 2 ^ 31) : ¬ nI k = -1 := by
  intro e
  have e2 := congrArg Int32.toInt e
  rw [nI_toInt h, show (-1 : Int32).toInt = -1 by decide] at e2
  omega
theorem pc_st7 (x : Int32) : (x < 0 ∨ nI 7 ≤ x) ∨ ∃ s : Nat, s < 7 ∧ x = nI s := by
  rcases pk_ix x (n := 7) (by decide) with h | h | h
  · exact Or.inl (Or.inl h)
  · exact Or.inl (Or.inr h)
  · exact Or.inr h
theorem pc_word (x : Int32) : (x < 1 ∨ 4095 < x) ∨ ∃ w : Nat, 1 ≤ w ∧ w < 4096 ∧ x = nI w := by
  rcases pk_ix x (n := 4096) (by decide) with h | h | ⟨w, h, e⟩
  · exact Or.inl (Or.inl (Int32.lt_trans h (by decide)))
  · exact Or.inl (Or.inr (Int32.lt_of_lt_of_le (show (4095 : Int32) < nI 4096 from nI_lt (a := 4095) (by decide) (by decide)) h))
  · by_cases h1 : 1 ≤ w
    · exact Or.inr ⟨w, h1, h, e⟩
    · exact Or.inl (Or.inl (by rw [e, show w = 0 by omega]; exact nI_lt (a := 0) (b := 1) (by decide) (by decide)))
theorem pc_w1 {w : Nat} (h : 1 ≤ w) (hw : w < 4096) : ¬ nI w < 1 := nI_nlt (b := 1) h (by omega)
theorem pc_w2 {w : Nat} (hw : w < 4096) : ¬ (4095 : Int32) < nI w := nI_nlt (a := 4095) (b := w) (by omega) (by decide)
theorem pc_inj {a b : Bool} (h : pc_i a = pc_i b) : a = b := by
  cases a <;> cases b <;> first | rfl | exact absurd h (by decide)
/-- the first arrows -/
def zi_I (m : Nat) (a : Nat → Int32) : Prop := ∀ i, i < m → a i = nI (i / 2)
theorem zi_s {m : Nat} {a : Nat → Int32} (h : zi_I m a) {x : Int32} (hx : x = nI (m / 2)) : zi_I (m + 1) (upd a m x) := by
  intro i hi
  by_cases e : i = m
  · rw [e, pk_us, hx]
  · rw [pk_un e]; exact h i (by omega)
theorem zi_M {a : Nat → Int32} (h : zi_I 14 a) : pc_M (fun i => i / 2) (fun _ => false) a (fun _ => 0) :=
  ⟨fun i hi => by show i / 2 < 7; omega, fun i hi => h i hi, fun i hi => by show (0 : Int32) = pc_i false; decide⟩
theorem pc_n6 {x : Int32} (h : nI 7 ≤ x) : ¬ x ≤ 6 := by
  intro h6
  exact absurd (Int32.le_trans h h6) (nI_ge (a := 6) (b := 7) (by decide) (by decide))
theorem pc_n4 {x : Int32} (h : 4095 < x) : ¬ x ≤ 4095 := Int32.not_le.mpr h
