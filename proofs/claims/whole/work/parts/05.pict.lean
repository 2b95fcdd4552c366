section
variable {t : Nat → Nat} {g : Nat → Bool}
/-- the i-th first word has at most i letters -/
theorem en_bd (ht : ∀ i, i < 14 → t i < 7) {c n : Nat} {kw : Nat → Nat} (h : en_E t g c kw n) :
    ∀ i, i < n → kw i < 2 ^ (i + 1) := by
  obtain ⟨h1, h2, h3⟩ := h
  intro i
  induction i with
  | zero =>
    intro hi
    have hF := h1 0 hi
    obtain ⟨j, hj, ej⟩ := h3 1 fw_1 (by have := hF.1.1; have := hF.2; omega)
    have hl : kw 0 ≤ 1 := by
      rcases (show j = 0 ∨ 0 < j by omega) with q | q
      · rw [q] at ej; omega
      · have := h2 0 j q hj; omega
    have e : (2 : Nat) ^ (0 + 1) = 2 := by decide
    rw [e]; omega
  | succ i ih =>
    intro hi
    have hb := ih (by omega)
    have hlt := h2 i (i + 1) (by omega) hi
    have hF := h1 (i + 1) hi
    have h0 := (h1 i (by omega)).1.1
    obtain ⟨j, hj, ej⟩ := h3 (kw (i + 1) / 2) (fw_half ht hF.1 (by omega)) (by have := hF.2; omega)
    have hji : kw j ≤ kw i := by
      rcases (show j < i ∨ j = i ∨ i < j by omega) with q | q | q
      · exact Nat.le_of_lt (h2 j i q (by omega))
      · rw [q]; exact Nat.le_refl _
      · exfalso
        rcases (show i + 1 = j ∨ i + 1 < j by omega) with q' | q'
        · rw [← q'] at ej; omega
        · have := h2 (i + 1) j q' hj; omega
    rw [Nat.pow_succ]
    omega
theorem en_128 (ht : ∀ i, i < 14 → t i < 7) {c n : Nat} {kw : Nat → Nat} (h : en_E t g c kw n) :
    ∀ i, i < n → kw i < 128 := by
  intro i hi
  have h7 := en_le7 ht h
  have hb := en_bd ht h i hi
  have hp : (2 : Nat) ^ (i + 1) ≤ 2 ^ 7 := Nat.pow_le_pow_right (by decide) (by omega)
  have e : (2 : Nat) ^ 7 = 128 := by decide
  omega
/-- all kinds: their first words -/
def en_K (t : Nat → Nat) (g : Nat → Bool) (kw : Nat → Nat) (n : Nat) : Prop :=
  en_A t g kw n ∧ n ≤ 7 ∧ ∀ i, i < n → kw i < 128
theorem en_YA {kw vw : Nat → Nat} {n m : Nat} (hK : en_K t g kw n) (h : en_E t g 128 vw m) :
    m = n ∧ ∀ i, i < n → vw i = kw i := by
  have hA : en_A t g vw m := ⟨fun i hi => (h.1 i hi).1, h.2.1, fun w hF => by
    obtain ⟨i, hi, ei⟩ := hK.1.2.2 w hF
    exact h.2.2 w hF (by have := hK.2.2 i hi; omega)⟩
  exact ⟨en_un_n hA hK.1, fun i hi => ((en_un hK.1 hA i hi).2).symm⟩
/-- what the number of the kind of the state s is -/
def kd_K (t : Nat → Nat) (g : Nat → Bool) (kw : Nat → Nat) (n s : Nat) (r : Int32) : Prop :=
  (∃ k, k < n ∧ mo_eb t g 6 (wd_run t 0 (kw k)) s = true ∧ r = nI k) ∨
  ((∀ k, k < n → mo_eb t g 6 (wd_run t 0 (kw k)) s = false) ∧ r = -1)
theorem kd_un {kw : Nat → Nat} {n s : Nat} {r r' : Int32} (hA : en_A t g kw n) (h : kd_K t g kw n s r) (h' : kd_K t g kw n s r') : r' = r := by
  rcases h with ⟨k, hk, e, er⟩ | ⟨hn, er⟩
  · rcases h' with ⟨k', hk', e', er'⟩ | ⟨hn', er'⟩
    · have ee := fw_un (hA.1 k hk) (hA.1 k' hk') (mo_trans 6 _ _ _ e (mo_symm 6 _ _ e'))
      have : k = k' := by
        rcases Nat.lt_trichotomy k k' with q | q | q
        · have := hA.2.1 k k' q hk'; omega
        · exact q
        · have := hA.2.1 k' k q hk; omega
      rw [er, er', this]
    · have := hn' k hk; rw [e] at this; exact absurd this (by decide)
  · rcases h' with ⟨k', hk', e', er'⟩ | ⟨hn', er'⟩
    · have := hn k' hk'; rw [e'] at this; exact absurd this (by decide)
    · rw [er, er']
theorem kd_cong {kw vw : Nat → Nat} {n s : Nat} {r : Int32} (e : ∀ i, i < n → vw i = kw i) (h : kd_K t g vw n s r) : kd_K t g kw n s r := by
  rcases h with ⟨k, hk, h1, h2⟩ | ⟨h1, h2⟩
  · exact Or.inl ⟨k, hk, by rw [← e k hk]; exact h1, h2⟩
  · exact Or.inr ⟨fun k hk => by rw [← e k hk]; exact h1 k hk, h2⟩
/-- what the least word below B that tells p and q apart is -/
def ds_D (t : Nat → Nat) (g : Nat → Bool) (p q B : Nat) (r : Int32) : Prop :=
  (∃ w, 1 ≤ w ∧ w < B ∧ g (wd_run t p w) ≠ g (wd_run t q w) ∧ (∀ v, 1 ≤ v → v < w → g (wd_run t p v) = g (wd_run t q v)) ∧ r = nI w) ∨
  ((∀ v, 1 ≤ v → v < B → g (wd_run t p v) = g (wd_run t q v)) ∧ r = 0)
theorem ds_all (ht : ∀ i, i < 14 → t i < 7) {p q : Nat} (hp : p < 7) (hq : q < 7) (h : mo_eb t g 6 p q = true) :
    ∀ v, 1 ≤ v → v < 128 → g (wd_run t p v) = g (wd_run t q v) := by
  have h7 := (wd_eb (t := t) (g := g) 7 p q).mp (mo_St6 ht p q hp hq h)
  intro v h1 h2
  exact h7 v h1 (Nat.lt_of_lt_of_eq h2 (by decide))
theorem ds_6 {p q : Nat} (h : ∀ v, 1 ≤ v → v < 64 → g (wd_run t p v) = g (wd_run t q v)) : mo_eb t g 6 p q = true := by
  refine (wd_eb (t := t) (g := g) 6 p q).mpr (fun v h1 h2 => h v h1 ?_)
  exact Nat.lt_of_lt_of_eq h2 (by decide)
theorem ds_un (ht : ∀ i, i < 14 → t i < 7) {p q : Nat} (hp : p < 7) (hq : q < 7) {r r' : Int32}
    (h : ds_D t g p q 64 r) (h' : ds_D t g p q 128 r') : r' = r := by
  rcases h with ⟨w, h1, h2, h3, h4, h5⟩ | ⟨h1, h2⟩
  · rcases h' with ⟨w', e1, e2, e3, e4, e5⟩ | ⟨e1, e2⟩
    · have : w = w' := by
        rcases Nat.lt_trichotomy w w' with x | x | x
        · exact absurd (e4 w h1 x) h3
        · exact x
        · exact absurd (h4 w' e1 x) e3
      rw [h5, e5, this]
    · exact absurd (e1 w h1 (by omega)) h3
  · have ha := ds_all ht hp hq (ds_6 h1)
    rcases h' with ⟨w', e1, e2, e3, e4, e5⟩ | ⟨e1, e2⟩
    · exact absurd (ha w' e1 e2) e3
    · rw [h2, e2]
theorem ds_0 (ht : ∀ i, i < 14 → t i < 7) {p q : Nat} (hp : p < 7) (hq : q < 7) {r : Int32}
    (h : ds_D t g p q 128 r) : r = 0 ↔ mo_eb t g 6 p q = true := by
  rcases h with ⟨w, h1, h2, h3, h4, h5⟩ | ⟨h1, h2⟩
  · constructor
    · intro e
      rw [h5] at e
      exact absurd e (nI_ne0 (by omega) (by omega))
    · intro e
      exact absurd (ds_all ht hp hq e w h1 h2) h3
  · exact ⟨fun _ => ds_6 (fun v a b => h1 v a (by omega)), fun _ => h2⟩
end
/-- a bit of a long -/
def ob_b (x : Int64) (w : Nat) : Bool := x.toBitVec.getLsbD w
theorem ob_ext {x y : Int64} (h : ∀ w, w < 64 → ob_b x w = ob_b y w) : x = y := by
  apply wb_inj
  apply BitVec.eq_of_getLsbD_eq
  exact fun i hi => h i hi
theorem ob_0 (w : Nat) : ob_b 0 w = false := by
  unfold ob_b
  rw [show (0 : Int64).toBitVec = 0#64 from rfl]
  first | exact BitVec.getLsbD_zero | simp
theorem ob_or (x y : Int64) (w : Nat) : ob_b (x ||| y) w = (ob_b x w || ob_b y w) := by
  unfold ob_b
  rw [Int64.toBitVec_or, BitVec.getLsbD_or]
theorem ob_xor (x y : Int64) (w : Nat) : ob_b (x ^^^ y) w = (ob_b x w ^^ ob_b y w) := by
  unfold ob_b
  rw [Int64.toBitVec_xor, BitVec.getLsbD_xor]
theorem ob_1 {k w : Nat} (hk : k < 64) (hw : w < 64) : ob_b ((1 : Int64) <<< ((nI k).toInt64 &&& 63)) w = decide (k = w) := by
  have e : (1 : Int64) <<< ((nI k).toInt64 &&& 63) = lN (2 ^ k) := by
    have := wb_shl 1 hk
    rw [Nat.one_mul] at this
    exact this
  rw [e]
  unfold ob_b
  rw [wb_tb, BitVec.getLsbD_ofNat, Nat.testBit_two_pow, decide_eq_true hw, Bool.true_and]
theorem ob_sh {x : Int64} {k : Nat} (hk : k < 64) : ((x.toUInt64 >>> ((nI k).toInt64.toUInt64 &&& Int64.toUInt64 63)).toInt64 &&& 1) = 0 ↔ ob_b x k = false := by
  refine ts_bit hk ?_
  rw [wb_cu k hk]
  show (BitVec.ofNat 64 k).toNat = k
  rw [BitVec.toNat_ofNat, Nat.mod_eq_of_lt (by omega)]
section
variable {t : Nat → Nat} {g : Nat → Bool}
/-- x has the outcomes of the words below 64 from the state s -/
def ob_O (t : Nat → Nat) (g : Nat → Bool) (s : Nat) (x : Int64) : Prop :=
  ∀ w, w < 64 → ob_b x w = (decide (1 ≤ w) && g (wd_run t s w))
theorem ob_eq {p q : Nat} {x y : Int64} (hp : ob_O t g p x) (hq : ob_O t g q y) : x = y ↔ mo_eb t g 6 p q = true := by
  constructor
  · intro e
    refine ds_6 (fun w h1 h2 => ?_)
    have a := hp w h2
    have b := hq w h2
    rw [e, b, decide_eq_true h1, Bool.true_and, Bool.true_and] at a
    exact a.symm
  · intro h
    have hw := (wd_eb (t := t) (g := g) 6 p q).mp h
    apply ob_ext
    intro w h2
    rw [hp w h2, hq w h2]
    by_cases h1 : 1 ≤ w
    · rw [hw w h1 (Nat.lt_of_lt_of_eq h2 (by decide))]
    · rw [decide_eq_false h1, Bool.false_and, Bool.false_and]
theorem ob_df {p q w : Nat} {x y : Int64} (hp : ob_O t g p x) (hq : ob_O t g q y) (h1 : 1 ≤ w) (h2 : w < 64) :
    ob_b (x ^^^ y) w = false ↔ g (wd_run t p w) = g (wd_run t q w) := by
  rw [ob_xor, hp w h2, hq w h2, decide_eq_true h1, Bool.true_and, Bool.true_and]
  cases g (wd_run t p w) <;> cases g (wd_run t q w) <;> decide
/-- the same, for the words below m -/
def ob_P (t : Nat → Nat) (g : Nat → Bool) (s m : Nat) (x : Int64) : Prop :=
  ∀ w, w < 64 → ob_b x w = (decide (1 ≤ w ∧ w < m) && g (wd_run t s w))
theorem ob_P_1 (s : Nat) : ob_P t g s 1 0 := by
  intro w hw
  rw [ob_0, decide_eq_false (by omega), Bool.false_and]
theorem ob_P_t {s m : Nat} {x : Int64} (h : ob_P t g s m x) (h1 : 1 ≤ m) (hm : m < 64) (hg : g (wd_run t s m) = true) :
    ob_P t g s (m + 1) (x ||| ((1 : Int64) <<< ((nI m).toInt64 &&& 63))) := by
  intro w hw
  rw [ob_or, h w hw, ob_1 hm hw]
  by_cases e : m = w
  · rw [decide_eq_true e, Bool.or_true, decide_eq_true (show 1 ≤ w ∧ w < m + 1 by omega), Bool.true_and, ← e, hg]
  · rw [decide_eq_false e, Bool.or_false, show decide (1 ≤ w ∧ w < m) = decide (1 ≤ w ∧ w < m + 1) from decide_eq_decide.mpr (by omega)]
theorem ob_P_f {s m : Nat} {x : Int64} (h : ob_P t g s m x) (hg : g (wd_run t s m) = false) : ob_P t g s (m + 1) x := by
  intro w hw
  rw [h w hw]
  by_cases e : w = m
  · rw [e, hg, Bool.and_false, Bool.and_false]
  · rw [show decide (1 ≤ w ∧ w < m) = decide (1 ≤ w ∧ w < m + 1) from decide_eq_decide.mpr (by omega)]
theorem ob_P_e {s : Nat} {x : Int64} (h : ob_P t g s 64 x) : ob_O t g s x := by
  intro w hw
  rw [h w hw, show decide (1 ≤ w ∧ w < 64) = decide (1 ≤ w) from decide_eq_decide.mpr (by omega)]
end
/-- a boolean as the print holds it -/
def pc_i (b : Bool) : Int32 := if b = true then 1 else 0
theorem pc_i0 {b : Bool} : pc_i b = 0 ↔ b = false := by cases b <;> decide
theorem pc_in (b : Bool) : vp_nar .boolean (pc_i b) = pc_i b := by
  show pc_i b &&& 1 = pc_i b
  cases b <;> decide
theorem pc_nr (b : Bool) : narrow .boolean (.int (pc_i b)) = .int (pc_i b) := by
  show Value.int (pc_i b &&& 1) = Value.int (pc_i b)
  rw [show pc_i b &&& 1 = pc_i b from pc_in b]
def pc_z (v : Int32) : Bool := decide (v ≠ 0)
theorem pc_bz (v : Int32) : lw_bz v = pc_i (pc_z v) := by
  unfold lw_bz pc_i pc_z
  by_cases h : v = 0
  · rw [if_pos h, if_neg (by simp [h])]
  · rw [if_neg h, if_pos (by simp [h])]
/-- the array a holds the arrows t -/
def pc_T (t : Nat → Nat) (a : Nat → Int32) : Prop := ∀ i, i < 14 → a i = nI (t i)
/-- the array a holds the goodness g -/
def pc_G (g : Nat → Bool) (a : Nat → Int32) : Prop := ∀ i, i < 7 → a i = pc_i (g i)
def pc_ut (t : Nat → Nat) (p x : Nat) : Nat → Nat := fun i => if i = p then x else t i
def pc_ug (g : Nat → Bool) (p : Nat) (x : Bool) : Nat → Bool := fun i => if i = p then x else g i
theorem pc_T_u {t : Nat → Nat} {a : Nat → Int32} (h : pc_T t a) (p x : Nat) : pc_T (pc_ut t p x) (upd a p (nI x)) := by
  intro i hi
  by_cases e : i = p
  · rw [e, pk_us]; show nI x = nI (if p = p then x else t p); rw [if_pos rfl]
  · rw [pk_un e]; show a i = nI (if i = p then x else t i); rw [if_neg e]; exact h i hi
theorem pc_ut_lt {t : Nat → Nat} (h : ∀ i, i < 14 → t i < 7) {p x : Nat} (hx : x < 7) : ∀ i, i < 14 → pc_ut t p x i < 7 := by
  intro i hi
  show (if i = p then x else t i) < 7
  by_cases e : i = p
  · rw [if_pos e]; exact hx
  · rw [if_neg e]; exact h i hi
theorem pc_G_u {g : Nat → Bool} {a : Nat → Int32} (h : pc_G g a) (p : Nat) (x : Bool) : pc_G (pc_ug g p x) (upd a p (pc_i x)) := by
  intro i hi
  by_cases e : i = p
  · rw [e, pk_us]; show pc_i x = pc_i (if p = p then x else g p); rw [if_pos rfl]
  · rw [pk_un e]; show a i = pc_i (if i = p then x else g i); rw [if_neg e]; exact h i hi
theorem pc_and1 {n : Nat} (h : n < 2 ^ 31) : nI n &&& 1 = nI (n % 2) := pk_andN (by omega) 1 (by decide)
theorem pc_and1E (x : Int32) : ∃ j : Nat, j < 2 ∧ x &&& 1 = nI j := pk_andE x 1 (by decide)
theorem pc_shr {w l : Nat} (hw : w < 2 ^ 31) (hl : l < 32) : nI w >>> (nI l &&& 31) = nI (w / 2 ^ l) := pk_shrN hw _ l (s_l l hl)
theorem pc_2a (s a : Nat) : (2 : Int32) * nI s + nI a = nI (2 * s + a) := by
  show nI 2 * nI s + nI a = _
  rw [pk_mul, nI_add]
theorem pc_half (w i : Nat) : w / 2 ^ i / 2 = w / 2 ^ (i + 1) := by
  rw [Nat.div_div_eq_div_mul, Nat.pow_succ]
