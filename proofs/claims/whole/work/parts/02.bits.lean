/-! ===== single bits of Int32 and Int64; folds of or ===== -/
theorem cs_b1 (j : Nat) : bt 1 j = decide (j = 0) := by
  rcases Nat.lt_or_ge j 32 with h | h
  · exact (by decide +kernel : ∀ j, j < 32 → bt 1 j = decide (j = 0)) j h
  · rw [b_big h, decide_eq_false (by omega)]
theorem cs_and1 (y : Int32) : y &&& 1 = 0 ↔ bt y 0 = false := by
  constructor
  · intro h
    have t : bt (y &&& 1) 0 = bt 0 0 := by rw [h]
    rw [b_and, b_0, cs_b1] at t
    simpa using t
  · intro h
    apply b_ext
    intro i _
    rw [b_and, b_0, cs_b1]
    by_cases z : i = 0
    · subst z; rw [h]; rfl
    · rw [decide_eq_false z, Bool.and_false]
theorem cs_and1t (y : Int32) : y &&& 1 = 1 ↔ bt y 0 = true := by
  constructor
  · intro h
    have t : bt (y &&& 1) 0 = bt 1 0 := by rw [h]
    rw [b_and, cs_b1] at t
    simpa using t
  · intro h
    apply b_ext
    intro i _
    rw [b_and, cs_b1]
    by_cases z : i = 0
    · subst z; rw [h]; rfl
    · rw [decide_eq_false z, Bool.and_false]
theorem cs_hb (x : Int32) {n : Nat} (hn : n < 32) : ((x.toUInt32 >>> ((nI n).toUInt32 &&& Int32.toUInt32 31)).toInt32 &&& 1) = 0 ↔ bt x n = false := by
  rw [cs_and1, b_ushr n hn, Nat.add_zero]
theorem cs_hs (x : Int32) {n : Nat} (hn : n < 32) : ((x >>> (nI n &&& 31)) &&& 1) = 1 ↔ bt x n = true := by
  rw [cs_and1t, b_sshr n hn x (by omega), Nat.add_zero, if_pos hn]
theorem cs_hs0 (x : Int32) {n : Nat} (hn : n < 32) : ((x >>> (nI n &&& 31)) &&& 1) = 0 ↔ bt x n = false := by
  rw [cs_and1, b_sshr n hn x (by omega), Nat.add_zero, if_pos hn]
theorem cs_one (n : Nat) (hn : n < 32) (i : Nat) : bt ((1 : Int32) <<< (nI n &&& 31)) i = decide (i = n) := by
  rcases Nat.lt_or_ge i 32 with h | h
  · rw [b_shl n hn 1 h, cs_b1]
    by_cases z : i = n
    · subst z; simp
    · rw [decide_eq_false z]
      by_cases z2 : n ≤ i
      · rw [decide_eq_false (p := i - n = 0) (by omega), Bool.and_false]
      · rw [decide_eq_false z2, Bool.false_and]
  · rw [b_big h, decide_eq_false (by omega)]
theorem cs_mk (x : Int32) {n : Nat} (hn : n < 32) : (x &&& ((1 : Int32) <<< (nI n &&& 31))) = 0 ↔ bt x n = false := by
  constructor
  · intro h
    have t : bt (x &&& ((1 : Int32) <<< (nI n &&& 31))) n = bt 0 n := by rw [h]
    rw [b_and, b_0, cs_one n hn, decide_eq_true rfl, Bool.and_true] at t
    exact t
  · intro h
    apply b_ext
    intro i _
    rw [b_and, b_0, cs_one n hn]
    by_cases z : i = n
    · subst z; rw [h]; rfl
    · rw [decide_eq_false z, Bool.and_false]
theorem cs_uniq {x y : Int32} {P : Nat → Prop} (hx : ∀ i, bt x i = true ↔ P i) (hy : ∀ i, bt y i = true ↔ P i) : x = y := by
  apply b_ext
  intro i _
  have h := (hx i).trans (hy i).symm
  cases hb : bt x i
  · cases hc : bt y i
    · rfl
    · rw [h.mpr hc] at hb; exact hb.symm
  · exact (h.mp hb).symm
theorem cs_zero {x : Int32} (hx : ∀ i, ¬ bt x i = true) : x = 0 := by
  apply b_ext
  intro i _
  rw [b_0]
  exact ts_nt (hx i)
def cs_or (f : Nat → Int32) : Nat → Int32
  | 0 => 0
  | n + 1 => cs_or f n ||| f n
theorem cs_or_bt (f : Nat → Int32) (i : Nat) : ∀ n, bt (cs_or f n) i = true ↔ ∃ k, k < n ∧ bt (f k) i = true := by
  intro n
  induction n with
  | zero =>
    rw [show cs_or f 0 = 0 from rfl, b_0]
    exact ⟨(fun h => nomatch h), fun ⟨k, hk, _⟩ => absurd hk (by omega)⟩
  | succ n ih =>
    rw [show cs_or f (n + 1) = cs_or f n ||| f n from rfl, b_or, Bool.or_eq_true, ih]
    constructor
    · rintro (⟨k, hk, h⟩ | h)
      · exact ⟨k, by omega, h⟩
      · exact ⟨n, by omega, h⟩
    · rintro ⟨k, hk, h⟩
      rcases Nat.lt_or_ge k n with z | z
      · exact Or.inl ⟨k, z, h⟩
      · have e : k = n := by omega
        subst e
        exact Or.inr h
def cs_sel (c : Bool) (v : Int32) : Int32 := cond c v 0
theorem cs_sel_bt (c : Bool) (v : Int32) (i : Nat) : bt (cs_sel c v) i = true ↔ c = true ∧ bt v i = true := by
  cases c <;> simp [cs_sel, b_0]
/-! Int64 -/
def cs_bl (x : Int64) (i : Nat) : Bool := x.toBitVec.getLsbD i
theorem cs_bl_or (x y : Int64) (i : Nat) : cs_bl (x ||| y) i = (cs_bl x i || cs_bl y i) := by
  unfold cs_bl; rw [Int64.toBitVec_or, BitVec.getLsbD_or]
theorem cs_bl_0 (i : Nat) : cs_bl 0 i = false := BitVec.getLsbD_zero
theorem cs_hp (x : Int64) {n : Nat} (hn : n < 64) : ((x.toUInt64 >>> ((nI n).toInt64.toUInt64 &&& Int64.toUInt64 63)).toInt64 &&& 1) = 0 ↔ cs_bl x n = false := by
  rw [wb_cu n hn]
  exact ts_bit hn (Nat.mod_eq_of_lt (by omega))
theorem cs_shL (x : Int64) (n : Nat) (hn : n < 64) (i : Nat) (hi : i < 64) : cs_bl (x <<< ((nI n).toInt64 &&& 63)) i = (decide (n ≤ i) && cs_bl x (i - n)) := by
  rw [wb_c n hn]
  unfold cs_bl
  rw [Int64.toBitVec_shiftLeft, wb_tb, wb_sm n hn, BitVec.shiftLeft_eq', BitVec.toNat_ofNat, Nat.mod_eq_of_lt (show n < 2 ^ 64 by omega), BitVec.getLsbD_shiftLeft]
  rcases Nat.lt_or_ge i n with h | h
  · simp [h, Nat.not_le.mpr h]
  · simp [hi, h, Nat.not_lt.mpr h]
theorem cs_b64 (x : Int32) (h : ∀ i, 8 ≤ i → bt x i = false) (i : Nat) : cs_bl x.toInt64 i = bt x i := by
  unfold cs_bl
  rw [Int32.toBitVec_toInt64, BitVec.getLsbD_signExtend, BitVec.msb_eq_getLsbD_last]
  have m : x.toBitVec.getLsbD (32 - 1) = false := h 31 (by omega)
  rw [m]
  by_cases z : i < 32
  · rw [if_pos z, decide_eq_true (show i < 64 by omega), Bool.true_and]; rfl
  · rw [if_neg z, Bool.and_false]; exact (h i (by omega)).symm
theorem cs_b1L (j : Nat) : cs_bl 1 j = decide (j = 0) := by
  rcases Nat.lt_or_ge j 64 with h | h
  · exact (by decide +kernel : ∀ j, j < 64 → cs_bl 1 j = decide (j = 0)) j h
  · rw [decide_eq_false (by omega)]; exact BitVec.getLsbD_of_ge _ _ h
theorem cs_oneL (n : Nat) (hn : n < 64) (i : Nat) (hi : i < 64) : cs_bl ((1 : Int64) <<< ((nI n).toInt64 &&& 63)) i = decide (i = n) := by
  rw [cs_shL 1 n hn i hi, cs_b1L]
  by_cases z : i = n
  · subst z; simp
  · rw [decide_eq_false z]
    by_cases z2 : n ≤ i
    · rw [decide_eq_false (p := i - n = 0) (by omega), Bool.and_false]
    · rw [decide_eq_false z2, Bool.false_and]
def cs_orL (f : Nat → Int64) : Nat → Int64
  | 0 => 0
  | n + 1 => cs_orL f n ||| f n
theorem cs_orL_bl (f : Nat → Int64) (i : Nat) : ∀ n, cs_bl (cs_orL f n) i = true ↔ ∃ k, k < n ∧ cs_bl (f k) i = true := by
  intro n
  induction n with
  | zero =>
    rw [show cs_orL f 0 = 0 from rfl, cs_bl_0]
    exact ⟨(fun h => nomatch h), fun ⟨k, hk, _⟩ => absurd hk (by omega)⟩
  | succ n ih =>
    rw [show cs_orL f (n + 1) = cs_orL f n ||| f n from rfl, cs_bl_or, Bool.or_eq_true, ih]
    constructor
    · rintro (⟨k, hk, h⟩ | h)
      · exact ⟨k, by omega, h⟩
      · exact ⟨n, by omega, h⟩
    · rintro ⟨k, hk, h⟩
      rcases Nat.lt_or_ge k n with z | z
      · exact Or.inl ⟨k, z, h⟩
      · have e : k = n := by omega
        subst e
        exact Or.inr h
def cs_selL (c : Bool) (v : Int64) : Int64 := cond c v 0
theorem cs_selL_bl (c : Bool) (v : Int64) (i : Nat) : cs_bl (cs_selL c v) i = true ↔ c = true ∧ cs_bl v i = true := by
  cases c <;> simp [cs_selL, cs_bl_0]
/-! steps of an accumulator: acc ||| (fold so far) -/
theorem cs_or0 (x : Int32) : x ||| 0 = x := Int32.or_zero
theorem cs_or0L (x : Int64) : x ||| 0 = x := Int64.or_zero
theorem cs_0or (x : Int32) : 0 ||| x = x := Int32.zero_or
theorem cs_0orL (x : Int64) : 0 ||| x = x := Int64.zero_or
theorem cs_acc (acc : Int32) (f : Nat → Int32) (n : Nat) : (acc ||| cs_or f n) ||| f n = acc ||| cs_or f (n + 1) := Int32.or_assoc _ _ _
theorem cs_accL (acc : Int64) (f : Nat → Int64) (n : Nat) : (acc ||| cs_orL f n) ||| f n = acc ||| cs_orL f (n + 1) := Int64.or_assoc _ _ _
theorem cs_sel_t {c : Bool} (v : Int32) (h : c = true) : cs_sel c v = v := by rw [h]; rfl
theorem cs_sel_f {c : Bool} (v : Int32) (h : c = false) : cs_sel c v = 0 := by rw [h]; rfl
theorem cs_selL_t {c : Bool} (v : Int64) (h : c = true) : cs_selL c v = v := by rw [h]; rfl
theorem cs_selL_f {c : Bool} (v : Int64) (h : c = false) : cs_selL c v = 0 := by rw [h]; rfl
