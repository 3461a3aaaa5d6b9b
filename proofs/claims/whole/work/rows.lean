section
/-! rows of the kit to paste: bits, numbers, branches -/
def bt (x : Int32) (i : Nat) : Bool := x.toBitVec.getLsbD i
theorem b_ext {x y : Int32} (h : ∀ i, i < 32 → bt x i = bt y i) : x = y := Int32.toBitVec_inj.mp (BitVec.eq_of_getLsbD_eq (fun i hi => h i hi))
theorem b_or (x y : Int32) (i : Nat) : bt (x ||| y) i = (bt x i || bt y i) := by unfold bt; rw [Int32.toBitVec_or, BitVec.getLsbD_or]
theorem b_and (x y : Int32) (i : Nat) : bt (x &&& y) i = (bt x i && bt y i) := by unfold bt; rw [Int32.toBitVec_and, BitVec.getLsbD_and]
theorem b_xor (x y : Int32) (i : Nat) : bt (x ^^^ y) i = (bt x i ^^ bt y i) := by unfold bt; rw [Int32.toBitVec_xor, BitVec.getLsbD_xor]
theorem b_big {x : Int32} {i : Nat} (h : 32 ≤ i) : bt x i = false := BitVec.getLsbD_of_ge _ _ h
theorem b_255 (i : Nat) : bt 255 i = decide (i < 8) := by
  rcases Nat.lt_or_ge i 32 with h | h
  · exact (by decide +kernel : ∀ i, i < 32 → bt 255 i = decide (i < 8)) i h
  · rw [b_big h, decide_eq_false (by omega)]
theorem b_m1 : ∀ i, i < 32 → bt (-1) i = true := by decide +kernel
theorem b_0 (i : Nat) : bt 0 i = false := BitVec.getLsbD_zero
theorem s_l : ∀ n, n < 32 → ((nI n &&& 31).toBitVec.smod 32).toNat = n := by decide +kernel
theorem s_u : ∀ n, n < 32 → (((nI n).toUInt32 &&& Int32.toUInt32 31).toBitVec % 32).toNat = n := by decide +kernel
theorem b_shl (n : Nat) (hn : n < 32) (x : Int32) {i : Nat} (hi : i < 32) : bt (x <<< (nI n &&& 31)) i = (decide (n ≤ i) && bt x (i - n)) := by
  unfold bt
  rw [Int32.toBitVec_shiftLeft]
  show (x.toBitVec <<< ((nI n &&& 31).toBitVec.smod 32).toNat).getLsbD i = _
  rw [s_l n hn, BitVec.getLsbD_shiftLeft]
  rcases Nat.lt_or_ge i n with h | h
  · simp [h, Nat.not_le.mpr h]
  · simp [hi, h, Nat.not_lt.mpr h]
theorem b_ushr (n : Nat) (hn : n < 32) (x : Int32) (i : Nat) : bt ((x.toUInt32 >>> ((nI n).toUInt32 &&& Int32.toUInt32 31)).toInt32) i = bt x (n + i) := by
  show (x.toUInt32 >>> ((nI n).toUInt32 &&& Int32.toUInt32 31)).toBitVec.getLsbD i = x.toUInt32.toBitVec.getLsbD (n + i)
  rw [UInt32.toBitVec_shiftRight]
  show (x.toUInt32.toBitVec >>> (((nI n).toUInt32 &&& Int32.toUInt32 31).toBitVec % 32).toNat).getLsbD i = _
  rw [s_u n hn, BitVec.getLsbD_ushiftRight]
theorem b_sshr (n : Nat) (hn : n < 32) (x : Int32) {i : Nat} (hi : i < 32) : bt (x >>> (nI n &&& 31)) i = if n + i < 32 then bt x (n + i) else bt x 31 := by
  unfold bt
  rw [Int32.toBitVec_shiftRight]
  show (x.toBitVec.sshiftRight ((nI n &&& 31).toBitVec.smod 32).toNat).getLsbD i = _
  rw [s_l n hn, BitVec.getLsbD_sshiftRight, BitVec.msb_eq_getLsbD_last]
  simp [hi]
theorem nf_sh : ∀ l, l < 32 → ((1 : Int32) <<< (nI l &&& 31)).toBitVec = BitVec.twoPow 32 l := by decide +kernel
theorem ts_nf {x : Bool} (h : ¬ x = false) : x = true := by cases x <;> first | rfl | exact absurd rfl h
theorem ts_nt {x : Bool} (h : ¬ x = true) : x = false := by cases x <;> first | rfl | exact absurd rfl h
theorem ts_bit {w : Int64} {s : UInt64} {j : Nat} (hj : j < 64) (hs : s.toNat = j) : ((w.toUInt64 >>> s).toInt64 &&& 1) = 0 ↔ w.toBitVec.getLsbD j = false := by
  have e : (w.toUInt64 >>> s).toInt64.toBitVec = w.toBitVec >>> j := by
    apply BitVec.eq_of_toNat_eq
    show (w.toUInt64 >>> s).toNat = _
    rw [UInt64.toNat_shiftRight, hs, Nat.mod_eq_of_lt hj, BitVec.toNat_ushiftRight]
    rfl
  rw [← Int64.toBitVec_inj, Int64.toBitVec_and, e]
  show w.toBitVec >>> j &&& 1#64 = 0#64 ↔ _
  constructor
  · intro h
    have t := congrArg (fun x => x.getLsbD 0) h
    simpa using t
  · intro h
    apply BitVec.eq_of_getLsbD_eq
    intro i hi
    cases i with
    | zero => simp [h]
    | succ i => simp
theorem wb_tb (n : Nat) : (lN n).toBitVec = BitVec.ofNat 64 n := rfl
theorem wb_inj {a b : Int64} (h : a.toBitVec = b.toBitVec) : a = b := Int64.toBitVec_inj.mp h
theorem wb_c : ∀ k, k < 64 → ((nI k).toInt64 &&& 63) = lN k := by decide +kernel
theorem wb_cu : ∀ k, k < 64 → ((nI k).toInt64.toUInt64 &&& Int64.toUInt64 63) = UInt64.ofNat k := by decide +kernel
theorem wb_sm : ∀ k, k < 64 → (BitVec.ofNat 64 k).smod 64 = BitVec.ofNat 64 k := by decide +kernel
theorem pk_us {f : Nat → Int32} {k : Nat} {x : Int32} : upd f k x k = x := if_pos rfl
theorem pk_un {f : Nat → Int32} {k j : Nat} {x : Int32} (h : j ≠ k) : upd f k x j = f j := if_neg h
theorem pk_uLs {f : Nat → Int64} {k : Nat} {x : Int64} : vp_updL f k x k = x := if_pos rfl
theorem pk_uLn {f : Nat → Int64} {k j : Nat} {x : Int64} (h : j ≠ k) : vp_updL f k x j = f j := if_neg h
theorem pk_sub {a b : Nat} (h : b ≤ a) : nI a - nI b = nI (a - b) := by
  obtain ⟨c, rfl⟩ : ∃ c, a = c + b := ⟨a - b, by omega⟩
  rw [← nI_add, Int32.add_sub_cancel, Nat.add_sub_cancel]
theorem pk_m1 (n : Nat) : nI (n + 1) + (-1) = nI n := by
  rw [← nI_1, Int32.add_assoc, show (1 : Int32) + (-1) = 0 from rfl, Int32.add_zero]
theorem pk_mul (a b : Nat) : nI a * nI b = nI (a * b) := (Int32.ofNat_mul a b).symm
theorem pk_div {a d : Nat} (ha : a < 2 ^ 31) (h0 : 0 < d) (hd : d < 2 ^ 31) : nI a / nI d = nI (a / d) := by
  apply Int32.toInt_inj.mp
  rw [lg_idiv_nonneg (by rw [nI_toInt ha]; omega) (by rw [nI_toInt hd]; omega), nI_toInt ha, nI_toInt hd, nI_toInt (Nat.lt_of_le_of_lt (Nat.div_le_self a d) ha)]
  first | rfl | exact (Int.natCast_ediv _ _).symm
theorem pk_rem {a d : Nat} (ha : a < 2 ^ 31) (h0 : 0 < d) (hd : d < 2 ^ 31) : nI a - nI a / nI d * nI d = nI (a % d) := by
  rw [pk_div ha h0 hd, pk_mul, pk_sub (Nat.div_mul_le_self a d)]
  exact congrArg nI (by have := Nat.div_add_mod' a d; omega)
theorem pk_ix (x : Int32) {n : Nat} (hn : n < 2 ^ 31) : x < 0 ∨ nI n ≤ x ∨ ∃ j : Nat, j < n ∧ x = nI j := by
  by_cases h : x < 0
  · exact Or.inl h
  · obtain ⟨j, hj, rfl⟩ := nI_of h
    by_cases h2 : j < n
    · exact Or.inr (Or.inr ⟨j, h2, rfl⟩)
    · exact Or.inr (Or.inl (nI_le (by omega) hj))
theorem pk_le {x y : Int32} {A B : Prop} (a b : Nat) (f : a ≤ b → A) (g : b < a → B) (hx : x = nI a := by rfl) (hy : y = nI b := by rfl) (ha : a < 2 ^ 31 := by omega) (hb : b < 2 ^ 31 := by omega) : (x ≤ y → A) ∧ (¬ x ≤ y → B) := by
  subst hx hy
  rw [nI_leI ha hb]
  exact ⟨f, fun z => g (by omega)⟩
theorem pk_lt {x y : Int32} {A B : Prop} (a b : Nat) (f : a < b → A) (g : b ≤ a → B) (hx : x = nI a := by rfl) (hy : y = nI b := by rfl) (ha : a < 2 ^ 31 := by omega) (hb : b < 2 ^ 31 := by omega) : (x < y → A) ∧ (¬ x < y → B) := by
  subst hx hy
  rw [nI_ltI ha hb]
  exact ⟨f, fun z => g (by omega)⟩
theorem pk_eq {x y : Int32} {A B : Prop} (a b : Nat) (f : a = b → A) (g : a ≠ b → B) (hx : x = nI a := by rfl) (hy : y = nI b := by rfl) (ha : a < 2 ^ 31 := by omega) (hb : b < 2 ^ 31 := by omega) : (x = y → A) ∧ (¬ x = y → B) := by
  subst hx hy
  rw [nI_eq ha hb]
  exact ⟨f, g⟩
theorem pk_in {x : Int32} (n N : Nat) (h : n < N) (hx : x = nI n := by rfl) (hN : N < 2 ^ 31 := by omega) : vp_in x N := by
  subst hx
  exact vp_in_nI h hN
theorem pk_cl {x : Int32} (n : Nat) (hx : x = nI n := by rfl) (h : n < 2 ^ 31 := by omega) : x.toNatClampNeg = n := by
  subst hx
  exact nI_clamp h
theorem pk_tn {n : Nat} (h : n < 2 ^ 32) : (nI n).toBitVec.toNat = n := Nat.mod_eq_of_lt h
theorem pk_and (x : Int32) {m : Int32} (k : Nat) (hm : m.toBitVec.toNat = 2 ^ k - 1) : x &&& m = nI (x.toBitVec.toNat % 2 ^ k) := by
  apply Int32.toBitVec_inj.mp
  apply BitVec.eq_of_toNat_eq
  rw [Int32.toBitVec_and, BitVec.toNat_and, hm, Nat.and_two_pow_sub_one_eq_mod]
  show _ = (BitVec.ofNat 32 _).toNat
  rw [BitVec.toNat_ofNat]
  exact (Nat.mod_eq_of_lt (Nat.lt_of_le_of_lt (Nat.mod_le _ _) x.toBitVec.isLt)).symm
theorem pk_andN {n : Nat} (h : n < 2 ^ 32) {m : Int32} (k : Nat) (hm : m.toBitVec.toNat = 2 ^ k - 1) : nI n &&& m = nI (n % 2 ^ k) := by
  rw [pk_and _ k hm, pk_tn h]
theorem pk_shl (a s : Int32) (k : Nat) (hs : (s.toBitVec.smod 32).toNat = k) : (a <<< s).toBitVec.toNat = a.toBitVec.toNat * 2 ^ k % 2 ^ 32 := by
  show (a.toBitVec <<< (s.toBitVec.smod 32).toNat).toNat = _
  rw [hs, BitVec.toNat_shiftLeft, Nat.shiftLeft_eq]
theorem pk_shlN {n : Nat} (s : Int32) (k : Nat) (hs : (s.toBitVec.smod 32).toNat = k) (h : n * 2 ^ k < 2 ^ 32) : nI n <<< s = nI (n * 2 ^ k) := by
  apply Int32.toBitVec_inj.mp
  apply BitVec.eq_of_toNat_eq
  have hn : n < 2 ^ 32 := Nat.lt_of_le_of_lt (Nat.le_mul_of_pos_right n (Nat.two_pow_pos k)) h
  rw [pk_shl _ _ k hs, pk_tn hn, pk_tn h, Nat.mod_eq_of_lt h]
theorem pk_shr (a s : Int32) (k : Nat) (hs : (s.toBitVec.smod 32).toNat = k) : (a >>> s).toInt = a.toInt >>> k := by
  show (a.toBitVec.sshiftRight (s.toBitVec.smod 32).toNat).toInt = _
  rw [hs, BitVec.toInt_sshiftRight]
  rfl
theorem pk_shrN {n : Nat} (h : n < 2 ^ 31) (s : Int32) (k : Nat) (hs : (s.toBitVec.smod 32).toNat = k) : nI n >>> s = nI (n / 2 ^ k) := by
  apply Int32.toInt_inj.mp
  have h2 : n / 2 ^ k ≤ n := Nat.div_le_self _ _
  rw [pk_shr _ _ k hs, nI_toInt h, nI_toInt (by omega), Int.shiftRight_eq_div_pow]
  rfl
theorem pk_least (P : Nat → Prop) (h : ∃ k, P k) : ∃ k, P k ∧ ∀ j, j < k → ¬ P j := by
  obtain ⟨k, hk⟩ := h
  induction k using Nat.strongRecOn with
  | ind k ih =>
    by_cases e : ∃ j, j < k ∧ P j
    · obtain ⟨j, hj, pj⟩ := e
      exact ih j hj pj
    · exact ⟨k, hk, fun j hj pj => e ⟨j, hj, pj⟩⟩
theorem pk_loop {σ : Type} (W : Nat → Nat → σ → Prop) (I : Nat → σ → Prop) (e i0 : Nat) (s : σ) (hi : i0 ≤ e) (h0 : I i0 s) (hx : ∀ n s, I e s → W (n + 1) e s)
    (hs : ∀ n i s, i < e → I i s → (∀ s', I (i + 1) s' → W n (i + 1) s') → W (n + 1) i s) : ∃ n, W n i0 s :=
  ⟨e + 1, loop_i W I e hx hs (e + 1) i0 s hi (by omega) h0⟩
end
section
/-! ===== single bits of Int32 and Int64; folds of or ===== -/
theorem cs_b1 (j : Nat) : bt 1 j = decide (j = 0) := by
  rcases Nat.lt_or_ge j 32 with h | h
  · exact (by decide +kernel : ∀ j, j < 32 → bt 1 j = decide (j = 0)) j h
  · rw [b_big h, decide_eq_false (by omega)]
theorem cs_and1 (y : Int32) : y &&& 1 = 0 ↔ bt y 0 = false := by
  constructor
  · intro h
    have t : bt (y &&& 1) 0 = bt 0 0 := by rw [h]
    rw [b_and, b_0, cs_b1] at t
    simpa using t
  · intro h
    apply b_ext
    intro i _
    rw [b_and, b_0, cs_b1]
    by_cases z : i = 0
    · subst z; rw [h]; rfl
    · rw [decide_eq_false z, Bool.and_false]
theorem cs_and1t (y : Int32) : y &&& 1 = 1 ↔ bt y 0 = true := by
  constructor
  · intro h
    have t : bt (y &&& 1) 0 = bt 1 0 := by rw [h]
    rw [b_and, cs_b1] at t
    simpa using t
  · intro h
    apply b_ext
    intro i _
    rw [b_and, cs_b1]
    by_cases z : i = 0
    · subst z; rw [h]; rfl
    · rw [decide_eq_false z, Bool.and_false]
theorem cs_hb (x : Int32) {n : Nat} (hn : n < 32) : ((x.toUInt32 >>> ((nI n).toUInt32 &&& Int32.toUInt32 31)).toInt32 &&& 1) = 0 ↔ bt x n = false := by
  rw [cs_and1, b_ushr n hn, Nat.add_zero]
theorem cs_hs (x : Int32) {n : Nat} (hn : n < 32) : ((x >>> (nI n &&& 31)) &&& 1) = 1 ↔ bt x n = true := by
  rw [cs_and1t, b_sshr n hn x (by omega), Nat.add_zero, if_pos hn]
theorem cs_hs0 (x : Int32) {n : Nat} (hn : n < 32) : ((x >>> (nI n &&& 31)) &&& 1) = 0 ↔ bt x n = false := by
  rw [cs_and1, b_sshr n hn x (by omega), Nat.add_zero, if_pos hn]
theorem cs_one (n : Nat) (hn : n < 32) (i : Nat) : bt ((1 : Int32) <<< (nI n &&& 31)) i = decide (i = n) := by
  rcases Nat.lt_or_ge i 32 with h | h
  · rw [b_shl n hn 1 h, cs_b1]
    by_cases z : i = n
    · subst z; simp
    · rw [decide_eq_false z]
      by_cases z2 : n ≤ i
      · rw [decide_eq_false (p := i - n = 0) (by omega), Bool.and_false]
      · rw [decide_eq_false z2, Bool.false_and]
  · rw [b_big h, decide_eq_false (by omega)]
theorem cs_mk (x : Int32) {n : Nat} (hn : n < 32) : (x &&& ((1 : Int32) <<< (nI n &&& 31))) = 0 ↔ bt x n = false := by
  constructor
  · intro h
    have t : bt (x &&& ((1 : Int32) <<< (nI n &&& 31))) n = bt 0 n := by rw [h]
    rw [b_and, b_0, cs_one n hn, decide_eq_true rfl, Bool.and_true] at t
    exact t
  · intro h
    apply b_ext
    intro i _
    rw [b_and, b_0, cs_one n hn]
    by_cases z : i = n
    · subst z; rw [h]; rfl
    · rw [decide_eq_false z, Bool.and_false]
theorem cs_uniq {x y : Int32} {P : Nat → Prop} (hx : ∀ i, bt x i = true ↔ P i) (hy : ∀ i, bt y i = true ↔ P i) : x = y := by
  apply b_ext
  intro i _
  have h := (hx i).trans (hy i).symm
  cases hb : bt x i
  · cases hc : bt y i
    · rfl
    · rw [h.mpr hc] at hb; exact hb.symm
  · exact (h.mp hb).symm
theorem cs_zero {x : Int32} (hx : ∀ i, ¬ bt x i = true) : x = 0 := by
  apply b_ext
  intro i _
  rw [b_0]
  exact ts_nt (hx i)
def cs_or (f : Nat → Int32) : Nat → Int32
  | 0 => 0
  | n + 1 => cs_or f n ||| f n
theorem cs_or_bt (f : Nat → Int32) (i : Nat) : ∀ n, bt (cs_or f n) i = true ↔ ∃ k, k < n ∧ bt (f k) i = true := by
  intro n
  induction n with
  | zero =>
    rw [show cs_or f 0 = 0 from rfl, b_0]
    exact ⟨(fun h => nomatch h), fun ⟨k, hk, _⟩ => absurd hk (by omega)⟩
  | succ n ih =>
    rw [show cs_or f (n + 1) = cs_or f n ||| f n from rfl, b_or, Bool.or_eq_true, ih]
    constructor
    · rintro (⟨k, hk, h⟩ | h)
      · exact ⟨k, by omega, h⟩
      · exact ⟨n, by omega, h⟩
    · rintro ⟨k, hk, h⟩
      rcases Nat.lt_or_ge k n with z | z
      · exact Or.inl ⟨k, z, h⟩
      · have e : k = n := by omega
        subst e
        exact Or.inr h
def cs_sel (c : Bool) (v : Int32) : Int32 := cond c v 0
theorem cs_sel_bt (c : Bool) (v : Int32) (i : Nat) : bt (cs_sel c v) i = true ↔ c = true ∧ bt v i = true := by
  cases c <;> simp [cs_sel, b_0]
/-! Int64 -/
def cs_bl (x : Int64) (i : Nat) : Bool := x.toBitVec.getLsbD i
theorem cs_bl_or (x y : Int64) (i : Nat) : cs_bl (x ||| y) i = (cs_bl x i || cs_bl y i) := by
  unfold cs_bl; rw [Int64.toBitVec_or, BitVec.getLsbD_or]
theorem cs_bl_0 (i : Nat) : cs_bl 0 i = false := BitVec.getLsbD_zero
theorem cs_hp (x : Int64) {n : Nat} (hn : n < 64) : ((x.toUInt64 >>> ((nI n).toInt64.toUInt64 &&& Int64.toUInt64 63)).toInt64 &&& 1) = 0 ↔ cs_bl x n = false := by
  rw [wb_cu n hn]
  exact ts_bit hn (Nat.mod_eq_of_lt (by omega))
theorem cs_shL (x : Int64) (n : Nat) (hn : n < 64) (i : Nat) (hi : i < 64) : cs_bl (x <<< ((nI n).toInt64 &&& 63)) i = (decide (n ≤ i) && cs_bl x (i - n)) := by
  rw [wb_c n hn]
  unfold cs_bl
  rw [Int64.toBitVec_shiftLeft, wb_tb, wb_sm n hn, BitVec.shiftLeft_eq', BitVec.toNat_ofNat, Nat.mod_eq_of_lt (show n < 2 ^ 64 by omega), BitVec.getLsbD_shiftLeft]
  rcases Nat.lt_or_ge i n with h | h
  · simp [h, Nat.not_le.mpr h]
  · simp [hi, h, Nat.not_lt.mpr h]
theorem cs_b64 (x : Int32) (h : ∀ i, 8 ≤ i → bt x i = false) (i : Nat) : cs_bl x.toInt64 i = bt x i := by
  unfold cs_bl
  rw [Int32.toBitVec_toInt64, BitVec.getLsbD_signExtend, BitVec.msb_eq_getLsbD_last]
  have m : x.toBitVec.getLsbD (32 - 1) = false := h 31 (by omega)
  rw [m]
  by_cases z : i < 32
  · rw [if_pos z, decide_eq_true (show i < 64 by omega), Bool.true_and]; rfl
  · rw [if_neg z, Bool.and_false]; exact (h i (by omega)).symm
theorem cs_b1L (j : Nat) : cs_bl 1 j = decide (j = 0) := by
  rcases Nat.lt_or_ge j 64 with h | h
  · exact (by decide +kernel : ∀ j, j < 64 → cs_bl 1 j = decide (j = 0)) j h
  · rw [decide_eq_false (by omega)]; exact BitVec.getLsbD_of_ge _ _ h
theorem cs_oneL (n : Nat) (hn : n < 64) (i : Nat) (hi : i < 64) : cs_bl ((1 : Int64) <<< ((nI n).toInt64 &&& 63)) i = decide (i = n) := by
  rw [cs_shL 1 n hn i hi, cs_b1L]
  by_cases z : i = n
  · subst z; simp
  · rw [decide_eq_false z]
    by_cases z2 : n ≤ i
    · rw [decide_eq_false (p := i - n = 0) (by omega), Bool.and_false]
    · rw [decide_eq_false z2, Bool.false_and]
def cs_orL (f : Nat → Int64) : Nat → Int64
  | 0 => 0
  | n + 1 => cs_orL f n ||| f n
theorem cs_orL_bl (f : Nat → Int64) (i : Nat) : ∀ n, cs_bl (cs_orL f n) i = true ↔ ∃ k, k < n ∧ cs_bl (f k) i = true := by
  intro n
  induction n with
  | zero =>
    rw [show cs_orL f 0 = 0 from rfl, cs_bl_0]
    exact ⟨(fun h => nomatch h), fun ⟨k, hk, _⟩ => absurd hk (by omega)⟩
  | succ n ih =>
    rw [show cs_orL f (n + 1) = cs_orL f n ||| f n from rfl, cs_bl_or, Bool.or_eq_true, ih]
    constructor
    · rintro (⟨k, hk, h⟩ | h)
      · exact ⟨k, by omega, h⟩
      · exact ⟨n, by omega, h⟩
    · rintro ⟨k, hk, h⟩
      rcases Nat.lt_or_ge k n with z | z
      · exact Or.inl ⟨k, z, h⟩
      · have e : k = n := by omega
        subst e
        exact Or.inr h
def cs_selL (c : Bool) (v : Int64) : Int64 := cond c v 0
theorem cs_selL_bl (c : Bool) (v : Int64) (i : Nat) : cs_bl (cs_selL c v) i = true ↔ c = true ∧ cs_bl v i = true := by
  cases c <;> simp [cs_selL, cs_bl_0]
/-! steps of an accumulator: acc ||| (fold so far) -/
theorem cs_or0 (x : Int32) : x ||| 0 = x := Int32.or_zero
theorem cs_or0L (x : Int64) : x ||| 0 = x := Int64.or_zero
theorem cs_0or (x : Int32) : 0 ||| x = x := Int32.zero_or
theorem cs_0orL (x : Int64) : 0 ||| x = x := Int64.zero_or
theorem cs_acc (acc : Int32) (f : Nat → Int32) (n : Nat) : (acc ||| cs_or f n) ||| f n = acc ||| cs_or f (n + 1) := Int32.or_assoc _ _ _
theorem cs_accL (acc : Int64) (f : Nat → Int64) (n : Nat) : (acc ||| cs_orL f n) ||| f n = acc ||| cs_orL f (n + 1) := Int64.or_assoc _ _ _
theorem cs_sel_t {c : Bool} (v : Int32) (h : c = true) : cs_sel c v = v := by rw [h]; rfl
theorem cs_sel_f {c : Bool} (v : Int32) (h : c = false) : cs_sel c v = 0 := by rw [h]; rfl
theorem cs_selL_t {c : Bool} (v : Int64) (h : c = true) : cs_selL c v = v := by rw [h]; rfl
theorem cs_selL_f {c : Bool} (v : Int64) (h : c = false) : cs_selL c v = 0 := by rw [h]; rfl
end
section
/-! ===== the failures, by what a term's number holds: t k is the term of name k; a word is a list, its LAST event first ===== -/
def cs_nb (t : Nat → Int32) (k a b : Nat) : Prop := bt (t k) (8 + 8 * a + b) = true
def cs_Rn (t : Nat → Int32) (k : Nat) : List Nat → Nat → Prop
  | [], b => b = k
  | a :: u, b => ∃ c, c < 8 ∧ cs_Rn t k u c ∧ cs_nb t c a b
def cs_Fl (t : Nat → Int32) (k : Nat) (u : List Nat) (R : Nat) : Prop := ∃ b, b < 8 ∧ cs_Rn t k u b ∧ bt (t b) R = true
theorem cs_Rn_front (t : Nat → Int32) {k : Nat} (hk : k < 8) (a : Nat) : ∀ (u : List Nat) (c : Nat), c < 8 → (cs_Rn t k (u ++ [a]) c ↔ ∃ b, b < 8 ∧ cs_nb t k a b ∧ cs_Rn t b u c) := by
  intro u
  induction u with
  | nil =>
    intro c hc
    constructor
    · rintro ⟨d, hd, e, h⟩
      have e : d = k := e
      subst e
      exact ⟨c, hc, h, rfl⟩
    · rintro ⟨b, hb, h, e⟩
      have e : c = b := e
      subst e
      exact ⟨k, hk, rfl, h⟩
  | cons e u ih =>
    intro c hc
    show (∃ d, d < 8 ∧ cs_Rn t k (u ++ [a]) d ∧ cs_nb t d e c) ↔ _
    constructor
    · rintro ⟨d, hd, h1, h2⟩
      obtain ⟨b, hb, h3, h4⟩ := (ih d hd).1 h1
      exact ⟨b, hb, h3, d, hd, h4, h2⟩
    · rintro ⟨b, hb, h3, d, hd, h4, h2⟩
      exact ⟨d, hd, (ih d hd).2 ⟨b, hb, h3, h4⟩, h2⟩
theorem cs_Fl_front (t : Nat → Int32) {k : Nat} (hk : k < 8) (a : Nat) (u : List Nat) (R : Nat) : cs_Fl t k (u ++ [a]) R ↔ ∃ b, b < 8 ∧ cs_nb t k a b ∧ cs_Fl t b u R := by
  constructor
  · rintro ⟨c, hc, h1, h2⟩
    obtain ⟨b, hb, h3, h4⟩ := (cs_Rn_front t hk a u c hc).1 h1
    exact ⟨b, hb, h3, c, hc, h4, h2⟩
  · rintro ⟨b, hb, h3, c, hc, h4, h2⟩
    exact ⟨c, hc, (cs_Rn_front t hk a u c hc).2 ⟨b, hb, h3, h4⟩, h2⟩
def cs_St (t : Nat → Int32) (A a p' q' p q : Nat) : Prop := (A.testBit a = true ∧ cs_nb t p' a p ∧ cs_nb t q' a q) ∨ (A.testBit a = false ∧ ((cs_nb t p' a p ∧ q = q') ∨ (p = p' ∧ cs_nb t q' a q)))
def cs_Pr (t : Nat → Int32) (A i j : Nat) : List Nat → Nat → Nat → Prop
  | [], p, q => p = i ∧ q = j
  | a :: u, p, q => ∃ p' q', p' < 8 ∧ q' < 8 ∧ cs_Pr t A i j u p' q' ∧ cs_St t A a p' q' p q
def cs_ag (A m n : Nat) : Bool := (m ||| A) == (n ||| A)
def cs_Sf (t : Nat → Int32) (A i j : Nat) (u : List Nat) (R : Nat) : Prop := ∃ p q, p < 8 ∧ q < 8 ∧ cs_Pr t A i j u p q ∧ ∃ m n, m < 8 ∧ n < 8 ∧ cs_ag A m n = true ∧ bt (t p) m = true ∧ bt (t q) n = true ∧ R = m ||| n
/-- the part of a word that a parting gives to one side -/
def cs_pa (A pt : Nat) (sec : Bool) : List Nat → List Nat
  | [] => []
  | a :: u => if (A.testBit a || (pt.testBit u.length == sec)) = true then a :: cs_pa A pt sec u else cs_pa A pt sec u
theorem cs_pa_t {A pt : Nat} {sec : Bool} {a : Nat} {u : List Nat} (h : A.testBit a = true ∨ pt.testBit u.length = sec) : cs_pa A pt sec (a :: u) = a :: cs_pa A pt sec u := by
  refine if_pos ?_
  rcases h with h | h
  · rw [h]; rfl
  · rw [h]; cases sec <;> simp
theorem cs_pa_f {A pt : Nat} {sec : Bool} {a : Nat} {u : List Nat} (h : A.testBit a = false) (h2 : pt.testBit u.length = !sec) : cs_pa A pt sec (a :: u) = cs_pa A pt sec u := by
  refine if_neg ?_
  rw [h, h2]
  cases sec <;> simp
theorem cs_pa_congr (A : Nat) {pt pt' : Nat} (sec : Bool) : ∀ u : List Nat, (∀ m, m < u.length → pt.testBit m = pt'.testBit m) → cs_pa A pt sec u = cs_pa A pt' sec u := by
  intro u
  induction u with
  | nil => intro _; rfl
  | cons a u ih =>
    intro h
    have e : pt.testBit u.length = pt'.testBit u.length := h _ (by simp)
    have i := ih (fun m hm => h m (by rw [List.length_cons]; omega))
    unfold cs_pa
    rw [e, i]
theorem cs_Pr_pa (t : Nat → Int32) (A i j : Nat) : ∀ (u : List Nat) (p q : Nat), p < 8 → q < 8 → (cs_Pr t A i j u p q ↔ ∃ pt, pt < 2 ^ u.length ∧ cs_Rn t i (cs_pa A pt false u) p ∧ cs_Rn t j (cs_pa A pt true u) q) := by
  intro u
  induction u with
  | nil =>
    intro p q _ _
    constructor
    · rintro ⟨h1, h2⟩
      exact ⟨0, by simp, h1, h2⟩
    · rintro ⟨pt, _, h1, h2⟩
      exact ⟨h1, h2⟩
  | cons a u ih =>
    intro p q hp hq
    rw [List.length_cons]
    have hd : 2 ^ (u.length + 1) = 2 ^ u.length * 2 := Nat.pow_succ ..
    constructor
    · rintro ⟨p', q', hp', hq', h, hs⟩
      obtain ⟨pt, hpt, h1, h2⟩ := (ih p' q' hp' hq').1 h
      have hl : pt.testBit u.length = false := Nat.testBit_lt_two_pow hpt
      rcases hs with ⟨hA, n1, n2⟩ | ⟨hA, ⟨n1, e⟩ | ⟨e, n2⟩⟩
      · refine ⟨pt, by omega, ?_, ?_⟩
        · rw [cs_pa_t (Or.inl hA)]; exact ⟨p', hp', h1, n1⟩
        · rw [cs_pa_t (Or.inl hA)]; exact ⟨q', hq', h2, n2⟩
      · subst e
        refine ⟨pt, by omega, ?_, ?_⟩
        · rw [cs_pa_t (Or.inr hl)]; exact ⟨p', hp', h1, n1⟩
        · rw [cs_pa_f hA (by rw [hl]; rfl)]; exact h2
      · subst e
        have hb : ∀ m, m < u.length → (pt ||| 2 ^ u.length).testBit m = pt.testBit m := by
          intro m hm
          rw [Nat.testBit_or, Nat.testBit_two_pow_of_ne (by omega), Bool.or_false]
        have ht : (pt ||| 2 ^ u.length).testBit u.length = true := by
          rw [Nat.testBit_or, Nat.testBit_two_pow_self, Bool.or_true]
        refine ⟨pt ||| 2 ^ u.length, Nat.or_lt_two_pow (by omega) (by have := Nat.two_pow_pos u.length; omega), ?_, ?_⟩
        · rw [cs_pa_f hA (by rw [ht]; rfl), cs_pa_congr A false u hb]; exact h1
        · rw [cs_pa_t (Or.inr ht), cs_pa_congr A true u hb]; exact ⟨q', hq', h2, n2⟩
    · rintro ⟨pt, hpt, h1, h2⟩
      have hb : ∀ m, m < u.length → pt.testBit m = (pt % 2 ^ u.length).testBit m := by
        intro m hm
        rw [Nat.testBit_mod_two_pow, decide_eq_true hm, Bool.true_and]
      have hm : pt % 2 ^ u.length < 2 ^ u.length := Nat.mod_lt _ (Nat.two_pow_pos _)
      cases hA : A.testBit a
      · cases hl : pt.testBit u.length
        · rw [cs_pa_t (Or.inr hl), cs_pa_congr A false u hb] at h1
          rw [cs_pa_f hA (by rw [hl]; rfl), cs_pa_congr A true u hb] at h2
          obtain ⟨c, hc, h3, h4⟩ := h1
          exact ⟨c, q, hc, hq, (ih c q hc hq).2 ⟨_, hm, h3, h2⟩, Or.inr ⟨hA, Or.inl ⟨h4, rfl⟩⟩⟩
        · rw [cs_pa_f hA (by rw [hl]; rfl), cs_pa_congr A false u hb] at h1
          rw [cs_pa_t (Or.inr hl), cs_pa_congr A true u hb] at h2
          obtain ⟨c, hc, h3, h4⟩ := h2
          exact ⟨p, c, hp, hc, (ih p c hp hc).2 ⟨_, hm, h1, h3⟩, Or.inr ⟨hA, Or.inr ⟨rfl, h4⟩⟩⟩
      · rw [cs_pa_t (Or.inl hA), cs_pa_congr A false u hb] at h1
        rw [cs_pa_t (Or.inl hA), cs_pa_congr A true u hb] at h2
        obtain ⟨c, hc, h3, h4⟩ := h1
        obtain ⟨d, hd', h5, h6⟩ := h2
        exact ⟨c, d, hc, hd', (ih c d hc hd').2 ⟨_, hm, h3, h5⟩, Or.inl ⟨hA, h4, h6⟩⟩
theorem cs_Sf_pa (t : Nat → Int32) (A i j : Nat) (u : List Nat) (R : Nat) : cs_Sf t A i j u R ↔ ∃ pt, pt < 2 ^ u.length ∧ ∃ m n, m < 8 ∧ n < 8 ∧ cs_ag A m n = true ∧ cs_Fl t i (cs_pa A pt false u) m ∧ cs_Fl t j (cs_pa A pt true u) n ∧ R = m ||| n := by
  constructor
  · rintro ⟨p, q, hp, hq, h, m, n, hm, hn, hg, h1, h2, e⟩
    obtain ⟨pt, hpt, h3, h4⟩ := (cs_Pr_pa t A i j u p q hp hq).1 h
    exact ⟨pt, hpt, m, n, hm, hn, hg, ⟨p, hp, h3, h1⟩, ⟨q, hq, h4, h2⟩, e⟩
  · rintro ⟨pt, hpt, m, n, hm, hn, hg, ⟨p, hp, h3, h1⟩, ⟨q, hq, h4, h2⟩, e⟩
    exact ⟨p, q, hp, hq, (cs_Pr_pa t A i j u p q hp hq).2 ⟨pt, hpt, h3, h4⟩, m, n, hm, hn, hg, h1, h2, e⟩
/-! ===== X's numbers and what their bits say ===== -/
def cs_NA (t : Nat → Int32) (k a : Nat) : Int32 := ((t k).toUInt32 >>> ((nI (8 + 8 * a)).toUInt32 &&& Int32.toUInt32 31)).toInt32 &&& 255
theorem cs_NA_bt (t : Nat → Int32) (k : Nat) {a : Nat} (ha : a < 3) (i : Nat) : bt (cs_NA t k a) i = true ↔ i < 8 ∧ cs_nb t k a i := by
  unfold cs_NA cs_nb
  rw [b_and, b_255, b_ushr (8 + 8 * a) (by omega), Bool.and_eq_true, decide_eq_true_eq]
  exact And.comm
theorem cs_NA_hi (t : Nat → Int32) (k : Nat) {a : Nat} (ha : a < 3) (i : Nat) (hi : 8 ≤ i) : bt (cs_NA t k a) i = false := by
  apply ts_nt
  intro h
  have := ((cs_NA_bt t k ha i).1 h).1
  omega
def cs_SN (t : Nat → Int32) (x : Int32) (a : Nat) : Int32 := cs_or (fun k => cs_sel (bt x k) (cs_NA t k a)) 8
theorem cs_SN_bt (t : Nat → Int32) (x : Int32) {a : Nat} (ha : a < 3) (b : Nat) : bt (cs_SN t x a) b = true ↔ b < 8 ∧ ∃ k, k < 8 ∧ bt x k = true ∧ cs_nb t k a b := by
  rw [cs_SN, cs_or_bt]
  constructor
  · rintro ⟨k, hk, h⟩
    rw [cs_sel_bt, cs_NA_bt t k ha] at h
    exact ⟨h.2.1, k, hk, h.1, h.2.2⟩
  · rintro ⟨hb, k, hk, h1, h2⟩
    refine ⟨k, hk, ?_⟩
    rw [cs_sel_bt, cs_NA_bt t k ha]
    exact ⟨h1, hb, h2⟩
def cs_RN (t : Nat → Int32) (x : Int32) : Int32 := cs_or (fun k => cs_sel (bt x k) (t k &&& 255)) 8
theorem cs_RN_bt (t : Nat → Int32) (x : Int32) (R : Nat) : bt (cs_RN t x) R = true ↔ R < 8 ∧ ∃ k, k < 8 ∧ bt x k = true ∧ bt (t k) R = true := by
  rw [cs_RN, cs_or_bt]
  constructor
  · rintro ⟨k, hk, h⟩
    rw [cs_sel_bt, b_and, b_255, Bool.and_eq_true, decide_eq_true_eq] at h
    exact ⟨h.2.2, k, hk, h.1, h.2.1⟩
  · rintro ⟨hb, k, hk, h1, h2⟩
    refine ⟨k, hk, ?_⟩
    rw [cs_sel_bt, b_and, b_255, Bool.and_eq_true, decide_eq_true_eq]
    exact ⟨h1, h2, hb⟩
theorem cs_or8 {m n : Nat} (hm : m < 8) (hn : n < 8) : m ||| n < 8 := Nat.or_lt_two_pow (n := 3) hm hn
def cs_UR (A : Nat) (x y : Int32) : Int32 := cs_or (fun m => cs_or (fun n => cs_sel (cs_ag A m n && bt x m && bt y n) ((1 : Int32) <<< (nI (m ||| n) &&& 31))) 8) 8
theorem cs_UR_bt (A : Nat) (x y : Int32) (R : Nat) : bt (cs_UR A x y) R = true ↔ ∃ m n, m < 8 ∧ n < 8 ∧ cs_ag A m n = true ∧ bt x m = true ∧ bt y n = true ∧ R = m ||| n := by
  rw [cs_UR, cs_or_bt]
  constructor
  · rintro ⟨m, hm, h⟩
    obtain ⟨n, hn, h⟩ := (cs_or_bt _ _ _).1 h
    have h8 := cs_or8 hm hn
    rw [cs_sel_bt, cs_one _ (by omega), decide_eq_true_eq, Bool.and_eq_true, Bool.and_eq_true] at h
    exact ⟨m, n, hm, hn, h.1.1.1, h.1.1.2, h.1.2, h.2⟩
  · rintro ⟨m, n, hm, hn, h1, h2, h3, e⟩
    have h8 := cs_or8 hm hn
    refine ⟨m, hm, (cs_or_bt _ _ _).2 ⟨n, hn, ?_⟩⟩
    rw [cs_sel_bt, cs_one _ (by omega), decide_eq_true_eq, Bool.and_eq_true, Bool.and_eq_true]
    exact ⟨⟨⟨h1, h2⟩, h3⟩, e⟩
theorem cs_UR_l0 (A : Nat) (y : Int32) : cs_UR A 0 y = 0 := by
  apply cs_zero
  intro i h
  obtain ⟨m, n, _, _, _, h, _⟩ := (cs_UR_bt A 0 y i).1 h
  rw [b_0] at h
  exact nomatch h
theorem cs_UR_r0 (A : Nat) (x : Int32) : cs_UR A x 0 = 0 := by
  apply cs_zero
  intro i h
  obtain ⟨m, n, _, _, _, _, h, _⟩ := (cs_UR_bt A x 0 i).1 h
  rw [b_0] at h
  exact nomatch h
def cs_AP (ps qs : Int32) : Int64 := cs_orL (fun p => cs_selL (bt ps p) (qs.toInt64 <<< ((nI (8 * p)).toInt64 &&& 63))) 8
theorem cs_AP_bl (ps qs : Int32) (hq8 : ∀ i, 8 ≤ i → bt qs i = false) {p q : Nat} (hp : p < 8) (hq : q < 8) : cs_bl (cs_AP ps qs) (8 * p + q) = true ↔ bt ps p = true ∧ bt qs q = true := by
  rw [cs_AP, cs_orL_bl]
  constructor
  · rintro ⟨p', hp', h⟩
    rw [cs_selL_bl, cs_shL _ (8 * p') (by omega) _ (by omega), cs_b64 _ hq8, Bool.and_eq_true, decide_eq_true_eq] at h
    obtain ⟨h1, h2, h3⟩ := h
    by_cases z : 8 * p + q - 8 * p' < 8
    · have e : p' = p := by omega
      subst e
      rw [show 8 * p' + q - 8 * p' = q by omega] at h3
      exact ⟨h1, h3⟩
    · rw [hq8 _ (by omega)] at h3
      exact nomatch h3
  · rintro ⟨h1, h2⟩
    refine ⟨p, hp, ?_⟩
    rw [cs_selL_bl, cs_shL _ (8 * p) (by omega) _ (by omega), cs_b64 _ hq8, Bool.and_eq_true, decide_eq_true_eq, show 8 * p + q - 8 * p = q by omega]
    exact ⟨h1, by omega, h2⟩
theorem cs_one_hi {n : Nat} (hn : n < 8) (i : Nat) (hi : 8 ≤ i) : bt ((1 : Int32) <<< (nI n &&& 31)) i = false := by
  rw [cs_one n (by omega), decide_eq_false (by omega)]
def cs_PA (t : Nat → Int32) (A p q a : Nat) : Int64 := cond (A.testBit a) (cs_AP (cs_NA t p a) (cs_NA t q a)) (cs_AP (cs_NA t p a) ((1 : Int32) <<< (nI q &&& 31)) ||| cs_AP ((1 : Int32) <<< (nI p &&& 31)) (cs_NA t q a))
theorem cs_PA_bl (t : Nat → Int32) (A : Nat) {a p' q' p q : Nat} (ha : a < 3) (hp' : p' < 8) (hq' : q' < 8) (hp : p < 8) (hq : q < 8) : cs_bl (cs_PA t A p' q' a) (8 * p + q) = true ↔ cs_St t A a p' q' p q := by
  unfold cs_PA cs_St
  cases hA : A.testBit a
  · rw [cond_false, cs_bl_or, Bool.or_eq_true, cs_AP_bl _ _ (cs_one_hi hq') hp hq, cs_AP_bl _ _ (cs_NA_hi t q' ha) hp hq, cs_NA_bt t p' ha, cs_NA_bt t q' ha, cs_one q' (by omega), cs_one p' (by omega), decide_eq_true_eq, decide_eq_true_eq]
    constructor
    · rintro (⟨⟨_, h1⟩, h2⟩ | ⟨h1, _, h2⟩)
      · exact Or.inr ⟨rfl, Or.inl ⟨h1, h2⟩⟩
      · exact Or.inr ⟨rfl, Or.inr ⟨h1, h2⟩⟩
    · rintro (⟨h, _⟩ | ⟨_, ⟨h1, h2⟩ | ⟨h1, h2⟩⟩)
      · exact nomatch h
      · exact Or.inl ⟨⟨hp, h1⟩, h2⟩
      · exact Or.inr ⟨h1, hq, h2⟩
  · rw [cond_true, cs_AP_bl _ _ (cs_NA_hi t q' ha) hp hq, cs_NA_bt t p' ha, cs_NA_bt t q' ha]
    constructor
    · rintro ⟨⟨_, h1⟩, _, h2⟩
      exact Or.inl ⟨rfl, h1, h2⟩
    · rintro (⟨_, h1, h2⟩ | ⟨h, _⟩)
      · exact ⟨⟨hp, h1⟩, hq, h2⟩
      · exact nomatch h
def cs_SP (t : Nat → Int32) (A : Nat) (x : Int64) (a : Nat) : Int64 := cs_orL (fun p => cs_orL (fun q => cs_selL (cs_bl x (8 * p + q)) (cs_PA t A p q a)) 8) 8
theorem cs_SP_bl (t : Nat → Int32) (A : Nat) (x : Int64) {a p q : Nat} (ha : a < 3) (hp : p < 8) (hq : q < 8) : cs_bl (cs_SP t A x a) (8 * p + q) = true ↔ ∃ p' q', p' < 8 ∧ q' < 8 ∧ cs_bl x (8 * p' + q') = true ∧ cs_St t A a p' q' p q := by
  rw [cs_SP, cs_orL_bl]
  constructor
  · rintro ⟨p', hp', h⟩
    obtain ⟨q', hq', h⟩ := (cs_orL_bl _ _ _).1 h
    rw [cs_selL_bl, cs_PA_bl t A ha hp' hq' hp hq] at h
    exact ⟨p', q', hp', hq', h⟩
  · rintro ⟨p', q', hp', hq', h⟩
    refine ⟨p', hp', (cs_orL_bl _ _ _).2 ⟨q', hq', ?_⟩⟩
    rw [cs_selL_bl, cs_PA_bl t A ha hp' hq' hp hq]
    exact h
def cs_RP (pr : Nat → Int32) (x : Int64) : Int32 := cs_or (fun p => cs_or (fun q => cs_sel (cs_bl x (8 * p + q)) (pr (8 * p + q))) 8) 8
theorem cs_RP_bt (pr : Nat → Int32) (x : Int64) (R : Nat) : bt (cs_RP pr x) R = true ↔ ∃ p q, p < 8 ∧ q < 8 ∧ cs_bl x (8 * p + q) = true ∧ bt (pr (8 * p + q)) R = true := by
  rw [cs_RP, cs_or_bt]
  constructor
  · rintro ⟨p, hp, h⟩
    obtain ⟨q, hq, h⟩ := (cs_or_bt _ _ _).1 h
    rw [cs_sel_bt] at h
    exact ⟨p, q, hp, hq, h⟩
  · rintro ⟨p, q, hp, hq, h⟩
    refine ⟨p, hp, (cs_or_bt _ _ _).2 ⟨q, hq, ?_⟩⟩
    rw [cs_sel_bt]
    exact h
/-! ===== what a cell of a table says of a word ===== -/
def cs_Pn (t : Nat → Int32) (k : Nat) (u : List Nat) (x : Int32) : Prop := ∀ b, bt x b = true ↔ b < 8 ∧ cs_Rn t k u b
def cs_Pf (t : Nat → Int32) (k : Nat) (u : List Nat) (x : Int32) : Prop := ∀ R, bt x R = true ↔ R < 8 ∧ cs_Fl t k u R
def cs_Pp (t : Nat → Int32) (A i j : Nat) (u : List Nat) (x : Int64) : Prop := ∀ p q, p < 8 → q < 8 → (cs_bl x (8 * p + q) = true ↔ cs_Pr t A i j u p q)
def cs_Ps (t : Nat → Int32) (A i j : Nat) (u : List Nat) (x : Int32) : Prop := ∀ R, bt x R = true ↔ cs_Sf t A i j u R
theorem cs_Pn_0 (t : Nat → Int32) {k : Nat} (hk : k < 8) : cs_Pn t k [] ((1 : Int32) <<< (nI k &&& 31)) := by
  intro b
  rw [cs_one k (by omega), decide_eq_true_eq]
  show b = k ↔ b < 8 ∧ b = k
  omega
theorem cs_Pn_s {t : Nat → Int32} {k : Nat} {u : List Nat} {x : Int32} (h : cs_Pn t k u x) {a : Nat} (ha : a < 3) : cs_Pn t k (a :: u) (cs_SN t x a) := by
  intro b
  rw [cs_SN_bt t x ha]
  show _ ↔ b < 8 ∧ ∃ c, c < 8 ∧ cs_Rn t k u c ∧ cs_nb t c a b
  constructor
  · rintro ⟨hb, c, hc, h1, h2⟩
    exact ⟨hb, c, hc, ((h c).1 h1).2, h2⟩
  · rintro ⟨hb, c, hc, h1, h2⟩
    exact ⟨hb, c, hc, (h c).2 ⟨hc, h1⟩, h2⟩
theorem cs_Pf_n {t : Nat → Int32} {k : Nat} {u : List Nat} {x : Int32} (h : cs_Pn t k u x) : cs_Pf t k u (cs_RN t x) := by
  intro R
  rw [cs_RN_bt]
  constructor
  · rintro ⟨hR, c, hc, h1, h2⟩
    exact ⟨hR, c, hc, ((h c).1 h1).2, h2⟩
  · rintro ⟨hR, c, hc, h1, h2⟩
    exact ⟨hR, c, hc, (h c).2 ⟨hc, h1⟩, h2⟩
theorem cs_Pp_0 (t : Nat → Int32) (A : Nat) {i j : Nat} (hi : i < 8) (hj : j < 8) : cs_Pp t A i j [] ((1 : Int64) <<< ((nI (8 * i + j)).toInt64 &&& 63)) := by
  intro p q hp hq
  rw [cs_oneL _ (by omega) _ (by omega), decide_eq_true_eq]
  show 8 * p + q = 8 * i + j ↔ p = i ∧ q = j
  omega
theorem cs_Pp_s {t : Nat → Int32} {A i j : Nat} {u : List Nat} {x : Int64} (h : cs_Pp t A i j u x) {a : Nat} (ha : a < 3) : cs_Pp t A i j (a :: u) (cs_SP t A x a) := by
  intro p q hp hq
  rw [cs_SP_bl t A x ha hp hq]
  show _ ↔ ∃ p' q', p' < 8 ∧ q' < 8 ∧ cs_Pr t A i j u p' q' ∧ cs_St t A a p' q' p q
  constructor
  · rintro ⟨p', q', hp', hq', h1, h2⟩
    exact ⟨p', q', hp', hq', (h p' q' hp' hq').1 h1, h2⟩
  · rintro ⟨p', q', hp', hq', h1, h2⟩
    exact ⟨p', q', hp', hq', (h p' q' hp' hq').2 h1, h2⟩
theorem cs_Ps_p {t : Nat → Int32} {A i j : Nat} {u : List Nat} {x : Int64} (h : cs_Pp t A i j u x) {pr : Nat → Int32} (hr : ∀ p q, p < 8 → q < 8 → pr (8 * p + q) = cs_UR A (t p) (t q)) : cs_Ps t A i j u (cs_RP pr x) := by
  intro R
  rw [cs_RP_bt]
  constructor
  · rintro ⟨p, q, hp, hq, h1, h2⟩
    rw [hr p q hp hq, cs_UR_bt] at h2
    exact ⟨p, q, hp, hq, (h p q hp hq).1 h1, h2⟩
  · rintro ⟨p, q, hp, hq, h1, h2⟩
    refine ⟨p, q, hp, hq, (h p q hp hq).2 h1, ?_⟩
    rw [hr p q hp hq, cs_UR_bt]
    exact h2
/-! ===== Y's numbers: first, next against a term; its partings ===== -/
def cs_TR (x f : Int32) (g : Nat → Int32) : Prop := (∀ R, bt f R = true ↔ R < 8 ∧ bt x R = true) ∧ ∀ a, a < 3 → ∀ b, bt (g a) b = true ↔ b < 8 ∧ bt x (8 + 8 * a + b) = true
theorem cs_Pf_0 {t : Nat → Int32} {k : Nat} (hk : k < 8) {f : Int32} {g : Nat → Int32} (h : cs_TR (t k) f g) : cs_Pf t k [] f := by
  intro R
  rw [h.1 R]
  constructor
  · rintro ⟨hR, h1⟩
    exact ⟨hR, k, hk, rfl, h1⟩
  · rintro ⟨hR, c, hc, e, h1⟩
    have e : c = k := e
    subst e
    exact ⟨hR, h1⟩
def cs_YR (x : Int32) (fr : Nat → Int32) : Int32 := cs_or (fun b => cs_sel (bt x b) (fr b)) 8
theorem cs_Pf_s {t : Nat → Int32} {k : Nat} (hk : k < 8) {f : Int32} {g : Nat → Int32} (h : cs_TR (t k) f g) {a : Nat} (ha : a < 3) {u : List Nat} {fr : Nat → Int32} (hf : ∀ b, b < 8 → cs_Pf t b u (fr b)) : cs_Pf t k (u ++ [a]) (cs_YR (g a) fr) := by
  intro R
  rw [cs_YR, cs_or_bt, cs_Fl_front t hk]
  constructor
  · rintro ⟨b, hb, h1⟩
    rw [cs_sel_bt, h.2 a ha b, hf b hb R] at h1
    exact ⟨h1.2.1, b, hb, h1.1.2, h1.2.2⟩
  · rintro ⟨hR, b, hb, h1, h2⟩
    refine ⟨b, hb, ?_⟩
    rw [cs_sel_bt, h.2 a ha b, hf b hb R]
    exact ⟨⟨hb, h1⟩, hR, h2⟩
def cs_YP (A : Nat) (l r : Nat → Int32) (n : Nat) : Int32 := cs_or (fun pt => cs_UR A (l pt) (r pt)) n
theorem cs_Ps_y {t : Nat → Int32} {A i j : Nat} {u : List Nat} {l r : Nat → Int32} (hl : ∀ pt, pt < 2 ^ u.length → cs_Pf t i (cs_pa A pt false u) (l pt)) (hr : ∀ pt, pt < 2 ^ u.length → cs_Pf t j (cs_pa A pt true u) (r pt)) : cs_Ps t A i j u (cs_YP A l r (2 ^ u.length)) := by
  intro R
  rw [cs_YP, cs_or_bt, cs_Sf_pa]
  constructor
  · rintro ⟨pt, hpt, h⟩
    obtain ⟨m, n, hm, hn, hg, h1, h2, e⟩ := (cs_UR_bt _ _ _ _).1 h
    exact ⟨pt, hpt, m, n, hm, hn, hg, ((hl pt hpt m).1 h1).2, ((hr pt hpt n).1 h2).2, e⟩
  · rintro ⟨pt, hpt, m, n, hm, hn, hg, h1, h2, e⟩
    exact ⟨pt, hpt, (cs_UR_bt _ _ _ _).2 ⟨m, n, hm, hn, hg, (hl pt hpt m).2 ⟨hm, h1⟩, (hr pt hpt n).2 ⟨hn, h2⟩, e⟩⟩
end
section
/-! ===== words: their index in X's order, their code, and back ===== -/
def cs_ix : List Nat → Nat
  | [] => 0
  | a :: u => 3 * cs_ix u + 1 + a
def cs_cd : List Nat → Nat
  | [] => 0
  | a :: u => cs_cd u * 4 + a + 1
def cs_Ev (u : List Nat) : Prop := ∀ a, a ∈ u → a < 3
def cs_Wd (u : List Nat) : Prop := u.length ≤ 4 ∧ cs_Ev u
def cs_wd : Nat → Nat → List Nat
  | 0, _ => []
  | n + 1, w => if w = 0 then [] else ((w - 1) % 3) :: cs_wd n ((w - 1) / 3)
def cs_dw : Nat → Nat → List Nat
  | 0, _ => []
  | n + 1, c => if c = 0 then [] else (c % 4 - 1) :: cs_dw n (c / 4)
def cs_ok : Nat → Nat → Bool
  | 0, c => c == 0
  | n + 1, c => c == 0 || (c % 4 != 0 && cs_ok n (c / 4))
theorem cs_Ev_0 : cs_Ev [] := fun _ h => nomatch h
theorem cs_Ev_s {a : Nat} {u : List Nat} (ha : a < 3) (h : cs_Ev u) : cs_Ev (a :: u) := by
  intro b hb
  rcases List.mem_cons.mp hb with e | e
  · omega
  · exact h b e
theorem cs_Ev_h {a : Nat} {u : List Nat} (h : cs_Ev (a :: u)) : a < 3 := h a (List.mem_cons_self ..)
theorem cs_Ev_t {a : Nat} {u : List Nat} (h : cs_Ev (a :: u)) : cs_Ev u := fun b hb => h b (List.mem_cons_of_mem _ hb)
theorem cs_Wd_0 : cs_Wd [] := ⟨by decide, cs_Ev_0⟩
theorem cs_Wd_t {a : Nat} {u : List Nat} (h : cs_Wd (a :: u)) : cs_Wd u := ⟨by have := h.1; rw [List.length_cons] at this; omega, cs_Ev_t h.2⟩
theorem cs_dw_cd : ∀ (n : Nat) (u : List Nat), u.length ≤ n → cs_Ev u → cs_dw n (cs_cd u) = u := by
  intro n
  induction n with
  | zero =>
    intro u h _
    have e : u = [] := List.eq_nil_of_length_eq_zero (by omega)
    subst e
    rfl
  | succ n ih =>
    intro u h hu
    cases u with
    | nil => rfl
    | cons a u =>
      have ha := cs_Ev_h hu
      show (if cs_cd u * 4 + a + 1 = 0 then [] else ((cs_cd u * 4 + a + 1) % 4 - 1) :: cs_dw n ((cs_cd u * 4 + a + 1) / 4)) = _
      rw [if_neg (by omega), show (cs_cd u * 4 + a + 1) % 4 - 1 = a by omega, show (cs_cd u * 4 + a + 1) / 4 = cs_cd u by omega, ih u (by rw [List.length_cons] at h; omega) (cs_Ev_t hu)]
theorem cs_ok_cd : ∀ (n : Nat) (u : List Nat), u.length ≤ n → cs_Ev u → cs_ok n (cs_cd u) = true := by
  intro n
  induction n with
  | zero =>
    intro u h _
    have e : u = [] := List.eq_nil_of_length_eq_zero (by omega)
    subst e
    rfl
  | succ n ih =>
    intro u h hu
    cases u with
    | nil => rfl
    | cons a u =>
      have ha := cs_Ev_h hu
      show (cs_cd u * 4 + a + 1 == 0 || ((cs_cd u * 4 + a + 1) % 4 != 0 && cs_ok n ((cs_cd u * 4 + a + 1) / 4))) = true
      rw [show (cs_cd u * 4 + a + 1) / 4 = cs_cd u by omega, ih u (by rw [List.length_cons] at h; omega) (cs_Ev_t hu), show (cs_cd u * 4 + a + 1) % 4 = a + 1 by omega]
      simp
theorem cs_wd_ix : ∀ (n : Nat) (u : List Nat), u.length ≤ n → cs_Ev u → cs_wd n (cs_ix u) = u := by
  intro n
  induction n with
  | zero =>
    intro u h _
    have e : u = [] := List.eq_nil_of_length_eq_zero (by omega)
    subst e
    rfl
  | succ n ih =>
    intro u h hu
    cases u with
    | nil => rfl
    | cons a u =>
      have ha := cs_Ev_h hu
      show (if 3 * cs_ix u + 1 + a = 0 then [] else ((3 * cs_ix u + 1 + a - 1) % 3) :: cs_wd n ((3 * cs_ix u + 1 + a - 1) / 3)) = _
      rw [if_neg (by omega), show (3 * cs_ix u + 1 + a - 1) % 3 = a by omega, show (3 * cs_ix u + 1 + a - 1) / 3 = cs_ix u by omega, ih u (by rw [List.length_cons] at h; omega) (cs_Ev_t hu)]
theorem cs_cd_pow : ∀ u : List Nat, cs_Ev u → cs_cd u + 1 ≤ 4 ^ u.length := by
  intro u
  induction u with
  | nil => intro _; exact Nat.le_refl 1
  | cons a u ih =>
    intro h
    have ha := cs_Ev_h h
    have hi := ih (cs_Ev_t h)
    rw [List.length_cons, Nat.pow_succ]
    show cs_cd u * 4 + a + 1 + 1 ≤ _
    omega
theorem cs_ix_pow : ∀ u : List Nat, cs_Ev u → 2 * cs_ix u + 3 ≤ 3 ^ (u.length + 1) := by
  intro u
  induction u with
  | nil => intro _; exact Nat.le_refl 3
  | cons a u ih =>
    intro h
    have ha := cs_Ev_h h
    have hi := ih (cs_Ev_t h)
    rw [List.length_cons, Nat.pow_succ]
    show 2 * (3 * cs_ix u + 1 + a) + 3 ≤ _
    omega
theorem cs_cd_lt {u : List Nat} (h : cs_Wd u) : cs_cd u < 256 := by
  have h1 := cs_cd_pow u h.2
  have h2 : 4 ^ u.length ≤ 4 ^ 4 := Nat.pow_le_pow_right (by decide) h.1
  omega
theorem cs_ix_lt {u : List Nat} (h : cs_Wd u) : cs_ix u < 121 := by
  have h1 := cs_ix_pow u h.2
  have h2 : 3 ^ (u.length + 1) ≤ 3 ^ 5 := Nat.pow_le_pow_right (by decide) (by have := h.1; omega)
  omega
theorem cs_cdok {u : List Nat} (h : cs_Wd u) : cs_ok 4 (cs_cd u) = true := cs_ok_cd 4 u h.1 h.2
theorem cs_cddw {u : List Nat} (h : cs_Wd u) : cs_dw 4 (cs_cd u) = u := cs_dw_cd 4 u h.1 h.2
theorem cs_ixwd {u : List Nat} (h : cs_Wd u) : cs_wd 4 (cs_ix u) = u := cs_wd_ix 4 u h.1 h.2
/-! finite tables -/
theorem cs_wd_tab : ∀ w, w < 121 → (cs_wd 4 w).length ≤ 4 ∧ (∀ a, a ∈ cs_wd 4 w → a < 3) ∧ cs_ix (cs_wd 4 w) = w := by decide +kernel
theorem cs_wd_40 : ∀ w, w < 121 → (40 ≤ w ↔ (cs_wd 4 w).length = 4) := by decide +kernel
theorem cs_dw_tab : ∀ c, c < 256 → cs_ok 4 c = true → (cs_dw 4 c).length ≤ 4 ∧ (∀ a, a ∈ cs_dw 4 c → a < 3) ∧ cs_cd (cs_dw 4 c) = c := by decide +kernel
theorem cs_dw_64 : ∀ c, c < 256 → cs_ok 4 c = true → (64 ≤ c ↔ (cs_dw 4 c).length = 4) := by decide +kernel
theorem cs_wdW {w : Nat} (h : w < 121) : cs_Wd (cs_wd 4 w) := ⟨(cs_wd_tab w h).1, (cs_wd_tab w h).2.1⟩
theorem cs_dwW {c : Nat} (h : c < 256) (ho : cs_ok 4 c = true) : cs_Wd (cs_dw 4 c) := ⟨(cs_dw_tab c h ho).1, (cs_dw_tab c h ho).2.1⟩
theorem cs_ix40 {u : List Nat} (h : cs_Wd u) : 40 ≤ cs_ix u ↔ u.length = 4 := by
  have e := cs_wd_40 (cs_ix u) (cs_ix_lt h)
  rw [cs_ixwd h] at e
  exact e
theorem cs_cd64 {u : List Nat} (h : cs_Wd u) : 64 ≤ cs_cd u ↔ u.length = 4 := by
  have e := cs_dw_64 (cs_cd u) (cs_cd_lt h) (cs_cdok h)
  rw [cs_cddw h] at e
  exact e
/-- the code of the word of an index -/
def cs_C (w : Nat) : Nat := cs_cd (cs_wd 4 w)
theorem cs_C_up : ∀ w, w < 120 → cs_C w < cs_C (w + 1) := by decide +kernel
theorem cs_C_lt {w : Nat} (h : w < 121) : cs_C w < 256 := cs_cd_lt (cs_wdW h)
theorem cs_C_ok {w : Nat} (h : w < 121) : cs_ok 4 (cs_C w) = true := cs_cdok (cs_wdW h)
theorem cs_C_mono : ∀ v w, w < v → v < 121 → cs_C w < cs_C v := by
  intro v
  induction v with
  | zero => intro w h; omega
  | succ v ih =>
    intro w h hv
    have h1 := cs_C_up v (by omega)
    rcases Nat.lt_or_ge w v with z | z
    · have := ih w z (by omega); omega
    · have e : w = v := by omega
      subst e
      exact h1
theorem cs_C_inv {c : Nat} (h : c < 256) (ho : cs_ok 4 c = true) : ∃ w, w < 121 ∧ c = cs_C w := by
  have hW := cs_dwW h ho
  refine ⟨cs_ix (cs_dw 4 c), cs_ix_lt hW, ?_⟩
  rw [cs_C, cs_ixwd hW, (cs_dw_tab c h ho).2.2]
/-! Y's arithmetic on codes -/
def cs_le (c : Nat) : Nat := if c = 0 then 0 else if c < 4 then 1 else if c < 16 then 2 else if c < 64 then 3 else 4
def cs_dg (c p : Nat) : Nat := c / 4 ^ (cs_le c - 1 - p) % 4
def cs_px (c p : Nat) : Nat := c / 4 ^ (cs_le c - p)
theorem cs_le_tab : ∀ c, c < 256 → cs_ok 4 c = true → cs_le c = (cs_dw 4 c).length := by decide +kernel
theorem cs_le_4 (c : Nat) : cs_le c ≤ 4 := by
  unfold cs_le
  split
  · omega
  · split
    · omega
    · split
      · omega
      · split <;> omega
theorem cs_isw_tab : ∀ c, c < 256 → ((∀ p, p < cs_le c → cs_dg c p ≠ 0) ↔ cs_ok 4 c = true) := by decide +kernel
theorem cs_px_tab : ∀ c, c < 256 → cs_ok 4 c = true → ∀ p, p < cs_le c → cs_dw 4 (cs_px c (p + 1)) = (cs_dg c p - 1) :: cs_dw 4 (cs_px c p) ∧ (cs_dw 4 (cs_px c p)).length = p ∧ 1 ≤ cs_dg c p ∧ cs_dg c p ≤ 3 := by decide +kernel
theorem cs_px_0 : ∀ c, c < 256 → cs_px c 0 = 0 := by decide +kernel
theorem cs_px_l (c : Nat) : cs_px c (cs_le c) = c := by rw [cs_px, Nat.sub_self, Nat.pow_zero, Nat.div_one]
def cs_rs (c : Nat) : Nat := c - cs_dg c 0 * 4 ^ (cs_le c - 1)
theorem cs_rs_tab : ∀ c, c < 256 → cs_ok 4 c = true → c ≠ 0 → cs_dw 4 c = cs_dw 4 (cs_rs c) ++ [cs_dg c 0 - 1] ∧ cs_ok 4 (cs_rs c) = true ∧ cs_rs c < c ∧ 1 ≤ cs_dg c 0 ∧ cs_dg c 0 ≤ 3 ∧ 1 ≤ cs_le c := by decide +kernel
theorem cs_le_cd {u : List Nat} (h : cs_Wd u) : cs_le (cs_cd u) = u.length := by
  rw [cs_le_tab _ (cs_cd_lt h) (cs_cdok h), cs_cddw h]
/-! the first that has a property; how many have it -/
def cs_F1 (Q : Nat → Prop) (n c : Nat) : Prop := c < n ∧ Q c ∧ ∀ d, d < c → ¬ Q d
def cs_F0 (Q : Nat → Prop) (n : Nat) : Prop := ∀ d, d < n → ¬ Q d
theorem cs_F (Q : Nat → Prop) : ∀ n, (∃ c, cs_F1 Q n c) ∨ cs_F0 Q n := by
  intro n
  induction n with
  | zero => exact Or.inr (fun d hd => absurd hd (by omega))
  | succ n ih =>
    rcases ih with ⟨c, h1, h2, h3⟩ | h
    · exact Or.inl ⟨c, by omega, h2, h3⟩
    · rcases Classical.em (Q n) with z | z
      · exact Or.inl ⟨n, by omega, z, h⟩
      · refine Or.inr (fun d hd => ?_)
        rcases Nat.lt_or_ge d n with y | y
        · exact h d y
        · have e : d = n := by omega
          subst e
          exact z
theorem cs_F1_C {Q : Nat → Prop} (hQ : ∀ c, c < 256 → Q c → cs_ok 4 c = true) {w : Nat} (h : cs_F1 (fun w => Q (cs_C w)) 121 w) : cs_F1 Q 256 (cs_C w) := by
  refine ⟨cs_C_lt h.1, h.2.1, fun d hd hq => ?_⟩
  have h8 := cs_C_lt h.1
  obtain ⟨v, hv, rfl⟩ := cs_C_inv (c := d) (by omega) (hQ d (by omega) hq)
  rcases Nat.lt_or_ge v w with z | z
  · exact h.2.2 v z hq
  · rcases Nat.lt_or_ge w v with y | y
    · have := cs_C_mono v w y hv; omega
    · have e : v = w := by omega
      subst e
      omega
theorem cs_F0_C {Q : Nat → Prop} (hQ : ∀ c, c < 256 → Q c → cs_ok 4 c = true) (h : cs_F0 (fun w => Q (cs_C w)) 121) : cs_F0 Q 256 := by
  intro d hd hq
  obtain ⟨v, hv, rfl⟩ := cs_C_inv hd (hQ d hd hq)
  exact h v hv hq
def cs_cn (Q : Nat → Bool) : Nat → Nat
  | 0 => 0
  | n + 1 => cs_cn Q n + cond (Q n) 1 0
theorem cs_cn_le (Q : Nat → Bool) : ∀ n, cs_cn Q n ≤ n := by
  intro n
  induction n with
  | zero => exact Nat.le_refl 0
  | succ n ih =>
    show cs_cn Q n + cond (Q n) 1 0 ≤ n + 1
    cases Q n
    · rw [cond_false]; omega
    · rw [cond_true]; omega
theorem cs_cn_gap (Q : Nat → Bool) {m : Nat} : ∀ d, (∀ c, m ≤ c → c < m + d → Q c = false) → cs_cn Q (m + d) = cs_cn Q m := by
  intro d
  induction d with
  | zero => intro _; rfl
  | succ d ih =>
    intro h
    show cs_cn Q (m + d) + cond (Q (m + d)) 1 0 = _
    rw [h (m + d) (by omega) (by omega), ih (fun c h1 h2 => h c h1 (by omega))]
    rfl
def cs_B (w : Nat) : Nat := if w < 121 then cs_C w else 256
theorem cs_cn_B {Q : Nat → Bool} (hQ : ∀ c, c < 256 → Q c = true → cs_ok 4 c = true) : ∀ w, w ≤ 121 → cs_cn Q (cs_B w) = cs_cn (fun w => Q (cs_C w)) w := by
  intro w
  induction w with
  | zero => intro _; rfl
  | succ w ih =>
    intro hw
    have i := ih (by omega)
    have e : cs_B w = cs_C w := if_pos (by omega)
    have h8 := cs_C_lt (w := w) (by omega)
    have hB : cs_C w < cs_B (w + 1) ∧ cs_B (w + 1) ≤ 256 ∧ ∀ c, cs_C w < c → c < cs_B (w + 1) → Q c = false := by
      unfold cs_B
      split
      · rename_i z
        have h9 := cs_C_lt z
        refine ⟨cs_C_up w (by omega), by omega, fun c h1 h2 => ts_nt (fun hq => ?_)⟩
        obtain ⟨v, hv, rfl⟩ := cs_C_inv (c := c) (by omega) (hQ c (by omega) hq)
        rcases Nat.lt_or_ge w v with y | y
        · rcases Nat.lt_or_ge (w + 1) v with x | x
          · have := cs_C_mono v (w + 1) x hv; omega
          · have e : v = w + 1 := by omega
            subst e
            omega
        · rcases Nat.lt_or_ge v w with x | x
          · have := cs_C_mono w v x (by omega); omega
          · have e : v = w := by omega
            subst e
            omega
      · refine ⟨h8, by omega, fun c h1 h2 => ts_nt (fun hq => ?_)⟩
        obtain ⟨v, hv, rfl⟩ := cs_C_inv (c := c) (by omega) (hQ c (by omega) hq)
        rcases Nat.lt_or_ge v w with x | x
        · have := cs_C_mono w v x (by omega); omega
        · have e : v = w := by omega
          subst e
          omega
    have g := cs_cn_gap Q (m := cs_C w + 1) (cs_B (w + 1) - (cs_C w + 1)) (fun c h1 h2 => hB.2.2 c (by omega) (by omega))
    rw [show cs_C w + 1 + (cs_B (w + 1) - (cs_C w + 1)) = cs_B (w + 1) by omega] at g
    rw [g]
    show cs_cn Q (cs_C w) + cond (Q (cs_C w)) 1 0 = cs_cn (fun w => Q (cs_C w)) w + cond (Q (cs_C w)) 1 0
    rw [← i, e]
theorem cs_cn_C {Q : Nat → Bool} (hQ : ∀ c, c < 256 → Q c = true → cs_ok 4 c = true) : cs_cn Q 256 = cs_cn (fun w => Q (cs_C w)) 121 := cs_cn_B hQ 121 (Nat.le_refl _)
/-! a table filled word by word, from a word to its three extensions -/
theorem cs_tab_s {α : Type} {P : List Nat → α → Prop} {T T' : Nat → α} {w a : Nat} (ha : a < 3) (h : ∀ u, cs_Ev u → cs_ix u < 3 * w + 1 + a → P u (T (cs_ix u))) (ho : ∀ n, n ≠ 3 * w + 1 + a → T' n = T n) (hn : ∀ u, cs_Ev u → cs_ix u = w → P u (T w) → P (a :: u) (T' (3 * w + 1 + a))) : ∀ u, cs_Ev u → cs_ix u < 3 * w + 1 + (a + 1) → P u (T' (cs_ix u)) := by
  intro u hu hi
  rcases Nat.lt_or_ge (cs_ix u) (3 * w + 1 + a) with z | z
  · rw [ho _ (by omega)]
    exact h u hu z
  · have e : cs_ix u = 3 * w + 1 + a := by omega
    cases u with
    | nil => exact absurd e (by show ¬ 0 = _; omega)
    | cons b u =>
      have hb := cs_Ev_h hu
      have e' : 3 * cs_ix u + 1 + b = 3 * w + 1 + a := e
      have e1 : b = a := by omega
      have e2 : cs_ix u = w := by omega
      subst e1
      rw [e]
      refine hn u (cs_Ev_t hu) e2 ?_
      have := h u (cs_Ev_t hu) (by omega)
      rw [e2] at this
      exact this
end
section
/-! ===== both sides' tables ===== -/
theorem cs_pa_len (A pt : Nat) (sec : Bool) : ∀ u : List Nat, (cs_pa A pt sec u).length ≤ u.length := by
  intro u
  induction u with
  | nil => exact Nat.le_refl 0
  | cons a u ih =>
    unfold cs_pa
    split
    · rw [List.length_cons, List.length_cons]; omega
    · rw [List.length_cons]; omega
theorem cs_pa_Ev (A pt : Nat) (sec : Bool) : ∀ u : List Nat, cs_Ev u → cs_Ev (cs_pa A pt sec u) := by
  intro u
  induction u with
  | nil => intro h; exact h
  | cons a u ih =>
    intro h
    unfold cs_pa
    split
    · exact cs_Ev_s (cs_Ev_h h) (ih (cs_Ev_t h))
    · exact ih (cs_Ev_t h)
theorem cs_pa_W (A pt : Nat) (sec : Bool) {u : List Nat} (h : cs_Wd u) : cs_Wd (cs_pa A pt sec u) :=
  ⟨Nat.le_trans (cs_pa_len A pt sec u) h.1, cs_pa_Ev A pt sec u h.2⟩
def cs_YF (t : Nat → Int32) (k c : Nat) (x : Int32) : Prop := (cs_ok 4 c = true → cs_Pf t k (cs_dw 4 c) x) ∧ (cs_ok 4 c = false → x = 0)
def cs_YS (t : Nat → Int32) (A i j c : Nat) (x : Int32) : Prop := (cs_ok 4 c = true → cs_Ps t A i j (cs_dw 4 c) x) ∧ (cs_ok 4 c = false → x = 0)
def cs_YV (fr nx fa : Nat → Int32) (k c : Nat) : Int32 := if c = 0 then fr k else cs_YR (nx (k * 3 + (cs_dg c 0 - 1))) (fun b => fa (b * 256 + cs_rs c))
theorem cs_YF_v {t fr nx fa : Nat → Int32} {k c : Nat} (hk : k < 8) (hT : cs_TR (t k) (fr k) (fun a => nx (k * 3 + a))) (hc : c < 256) (ho : cs_ok 4 c = true) (hf : ∀ c', c' < c → ∀ b, b < 8 → cs_YF t b c' (fa (b * 256 + c'))) : cs_Pf t k (cs_dw 4 c) (cs_YV fr nx fa k c) := by
  unfold cs_YV
  by_cases z : c = 0
  · rw [if_pos z, z]
    exact cs_Pf_0 hk hT
  · rw [if_neg z]
    obtain ⟨e, hr, hl, h1, h3, _⟩ := cs_rs_tab c hc ho z
    rw [e]
    exact cs_Pf_s hk hT (a := cs_dg c 0 - 1) (by omega) (fun b hb => (hf _ hl b hb).1 hr)
def cs_YW (A i j : Nat) (fa : Nat → Int32) (c : Nat) : Int32 := cs_YP A (fun pt => fa (i * 256 + cs_cd (cs_pa A pt false (cs_dw 4 c)))) (fun pt => fa (j * 256 + cs_cd (cs_pa A pt true (cs_dw 4 c)))) (2 ^ (cs_dw 4 c).length)
theorem cs_YS_v {t fa : Nat → Int32} {A i j c : Nat} (hi : i < 8) (hj : j < 8) (hc : c < 256) (ho : cs_ok 4 c = true) (hf : ∀ c', c' < 256 → ∀ b, b < 8 → cs_YF t b c' (fa (b * 256 + c'))) : cs_Ps t A i j (cs_dw 4 c) (cs_YW A i j fa c) := by
  have hW := cs_dwW hc ho
  have key : ∀ (k : Nat), k < 8 → ∀ (pt : Nat) (sec : Bool), cs_Pf t k (cs_pa A pt sec (cs_dw 4 c)) (fa (k * 256 + cs_cd (cs_pa A pt sec (cs_dw 4 c)))) := by
    intro k hk pt sec
    have hP := cs_pa_W A pt sec hW
    have h := (hf _ (cs_cd_lt hP) k hk).1 (cs_cdok hP)
    rw [cs_cddw hP] at h
    exact h
  exact cs_Ps_y (fun pt _ => key i hi pt false) (fun pt _ => key j hj pt true)
/-- what X's tables hold -/
def cs_XF (t nf : Nat → Int32) : Prop := ∀ u, cs_Wd u → ∀ k, k < 8 → cs_Pf t k u (nf (k * 121 + cs_ix u))
def cs_XS (t : Nat → Int32) (A i j : Nat) (sf : Nat → Int32) : Prop := ∀ u, cs_Wd u → cs_Ps t A i j u (sf (cs_ix u))
def cs_XC (co le : Nat → Int32) : Prop := ∀ u, cs_Wd u → co (cs_ix u) = nI (cs_cd u) ∧ le (cs_ix u) = nI u.length
/-- what Y's tables hold once they are listed -/
def cs_YFs (t fa : Nat → Int32) : Prop := ∀ c, c < 256 → ∀ k, k < 8 → cs_YF t k c (fa (k * 256 + c))
def cs_YSs (t : Nat → Int32) (A i j : Nat) (pa : Nat → Int32) : Prop := ∀ c, c < 256 → cs_YS t A i j c (pa c)
theorem cs_eqF {t nf fa : Nat → Int32} (hX : cs_XF t nf) (hY : cs_YFs t fa) {u : List Nat} (hu : cs_Wd u) {k : Nat} (hk : k < 8) : fa (k * 256 + cs_cd u) = nf (k * 121 + cs_ix u) := by
  have h := (hY _ (cs_cd_lt hu) k hk).1 (cs_cdok hu)
  rw [cs_cddw hu] at h
  exact cs_uniq h (hX u hu k hk)
theorem cs_eqS {t sf pa : Nat → Int32} {A i j : Nat} (hX : cs_XS t A i j sf) (hY : cs_YSs t A i j pa) {u : List Nat} (hu : cs_Wd u) : pa (cs_cd u) = sf (cs_ix u) := by
  have h := (hY _ (cs_cd_lt hu)).1 (cs_cdok hu)
  rw [cs_cddw hu] at h
  exact cs_uniq h (hX u hu)
theorem cs_eqFw {t nf fa : Nat → Int32} (hX : cs_XF t nf) (hY : cs_YFs t fa) {w : Nat} (hw : w < 121) {k : Nat} (hk : k < 8) : fa (k * 256 + cs_C w) = nf (k * 121 + w) := by
  have h := cs_eqF hX hY (cs_wdW hw) hk
  rw [(cs_wd_tab w hw).2.2] at h
  exact h
theorem cs_eqSw {t sf pa : Nat → Int32} {A i j : Nat} (hX : cs_XS t A i j sf) (hY : cs_YSs t A i j pa) {w : Nat} (hw : w < 121) : pa (cs_C w) = sf w := by
  have h := cs_eqS hX hY (cs_wdW hw)
  rw [(cs_wd_tab w hw).2.2] at h
  exact h
theorem cs_eqCw {co le : Nat → Int32} (h : cs_XC co le) {w : Nat} (hw : w < 121) : co w = nI (cs_C w) ∧ le w = nI (cs_le (cs_C w)) := by
  have e := h _ (cs_wdW hw)
  rw [(cs_wd_tab w hw).2.2, ← cs_le_cd (cs_wdW hw)] at e
  exact e
/-! ===== terms: stop, pre, ext, hid ===== -/
theorem cs_TR_stop : cs_TR 255 255 (fun _ => 0) := by
  refine ⟨fun R => ?_, fun a _ b => ?_⟩
  · rw [b_255, decide_eq_true_eq]; omega
  · rw [b_0, b_255]
    constructor
    · intro h; exact nomatch h
    · rintro ⟨_, h⟩
      rw [decide_eq_true_eq] at h
      omega
theorem cs_b255n (i : Nat) : bt ((255 : Int32) ^^^ (-1)) i = (decide (8 ≤ i) && decide (i < 32)) := by
  rcases Nat.lt_or_ge i 32 with h | h
  · exact (by decide +kernel : ∀ i, i < 32 → bt ((255 : Int32) ^^^ (-1)) i = (decide (8 ≤ i) && decide (i < 32))) i h
  · rw [b_big h, decide_eq_false (p := i < 32) (by omega), Bool.and_false]
theorem cs_b256m (i : Nat) : bt (-256) i = (decide (8 ≤ i) && decide (i < 32)) := by
  rcases Nat.lt_or_ge i 32 with h | h
  · exact (by decide +kernel : ∀ i, i < 32 → bt (-256) i = (decide (8 ≤ i) && decide (i < 32))) i h
  · rw [b_big h, decide_eq_false (p := i < 32) (by omega), Bool.and_false]
theorem cs_TR_hid {x y f g : Int32} {F G : Nat → Int32} (hx : cs_TR x f F) (hy : cs_TR y g G) : cs_TR (x ||| y) (g ||| f) (fun a => G a ||| F a) := by
  refine ⟨fun R => ?_, fun a ha b => ?_⟩
  · rw [b_or, b_or, Bool.or_eq_true, Bool.or_eq_true, hx.1, hy.1]
    constructor
    · rintro (⟨h, h1⟩ | ⟨h, h1⟩)
      · exact ⟨h, Or.inr h1⟩
      · exact ⟨h, Or.inl h1⟩
    · rintro ⟨h, h1 | h1⟩
      · exact Or.inr ⟨h, h1⟩
      · exact Or.inl ⟨h, h1⟩
  · show bt (G a ||| F a) b = true ↔ _
    rw [b_or, b_or, Bool.or_eq_true, Bool.or_eq_true, hx.2 a ha, hy.2 a ha]
    constructor
    · rintro (⟨h, h1⟩ | ⟨h, h1⟩)
      · exact ⟨h, Or.inr h1⟩
      · exact ⟨h, Or.inl h1⟩
    · rintro ⟨h, h1 | h1⟩
      · exact Or.inr ⟨h, h1⟩
      · exact Or.inl ⟨h, h1⟩
theorem cs_TR_ext {x y f g : Int32} {F G : Nat → Int32} (hx : cs_TR x f F) (hy : cs_TR y g G) : cs_TR (((x &&& y) &&& 255) ||| ((x ||| y) &&& (-256))) (g &&& f) (fun a => G a ||| F a) := by
  refine ⟨fun R => ?_, fun a ha b => ?_⟩
  · rw [b_and g f, b_or, b_and _ 255, b_and x y, b_and _ (-256), b_or, b_255, cs_b256m, Bool.and_eq_true, hx.1, hy.1]
    constructor
    · rintro ⟨⟨h, h1⟩, _, h2⟩
      exact ⟨h, by rw [h1, h2, decide_eq_true h]; rfl⟩
    · rintro ⟨h, h1⟩
      rw [decide_eq_true h, decide_eq_false (p := 8 ≤ R) (by omega), Bool.false_and, Bool.and_false, Bool.or_false, Bool.and_true, Bool.and_eq_true] at h1
      exact ⟨⟨h, h1.2⟩, h, h1.1⟩
  · show bt (G a ||| F a) b = true ↔ _
    rw [b_or, Bool.or_eq_true, hx.2 a ha, hy.2 a ha, b_or, b_and _ 255, b_and x y, b_and _ (-256), b_or, b_255, cs_b256m, decide_eq_false (p := 8 + 8 * a + b < 8) (by omega), Bool.and_false, Bool.false_or, decide_eq_true (p := 8 ≤ 8 + 8 * a + b) (by omega), Bool.true_and, Bool.and_eq_true, Bool.or_eq_true, decide_eq_true_eq]
    constructor
    · rintro (⟨h, h1⟩ | ⟨h, h1⟩)
      · exact ⟨h, Or.inr h1, by omega⟩
      · exact ⟨h, Or.inl h1, by omega⟩
    · rintro ⟨h, h1 | h1, _⟩
      · exact Or.inr ⟨h, h1⟩
      · exact Or.inl ⟨h, h1⟩
/-- the refusals of pre a: 85, 51, 15 -/
def cs_pf (a : Nat) : Int32 := if a = 0 then 85 else if a = 1 then 51 else 15
theorem cs_pf_bt : ∀ a, a < 3 → ∀ R, R < 32 → bt (cs_pf a) R = (decide (R < 8) && !(R.testBit a)) := by decide +kernel
theorem cs_TR_pre {a k : Nat} (ha : a < 3) (hk : k < 8) {F : Nat → Int32} (hF : ∀ e, e < 3 → F e = if e = a then (1 : Int32) <<< (nI k &&& 31) else 0) : cs_TR (cs_pf a ||| ((1 : Int32) <<< (nI (8 + 8 * a + k) &&& 31))) (cs_pf a) F := by
  refine ⟨fun R => ?_, fun e he b => ?_⟩
  · rw [b_or, cs_one _ (by omega)]
    rcases Nat.lt_or_ge R 32 with h | h
    · rw [cs_pf_bt a ha R h]
      by_cases z : R < 8
      · rw [decide_eq_false (p := R = 8 + 8 * a + k) (by omega), Bool.or_false]
        exact ⟨fun h => ⟨z, h⟩, fun h => h.2⟩
      · rw [decide_eq_false z, Bool.false_and]
        exact ⟨(fun h => nomatch h), fun h => absurd h.1 z⟩
    · rw [b_big h]
      exact ⟨(fun h => nomatch h), fun h => by have := h.1; omega⟩
  · rw [hF e he, b_or, cs_one _ (by omega)]
    have hp : bt (cs_pf a) (8 + 8 * e + b) = false := by
      rcases Nat.lt_or_ge (8 + 8 * e + b) 32 with h | h
      · rw [cs_pf_bt a ha _ h, decide_eq_false (by omega), Bool.false_and]
      · exact b_big h
    rw [hp, Bool.false_or, decide_eq_true_eq]
    by_cases z : e = a
    · rw [if_pos z, cs_one k (by omega), decide_eq_true_eq]
      omega
    · rw [if_neg z, b_0]
      exact ⟨(fun h => nomatch h), fun h => by have := h.1; have := h.2; omega⟩
end
section
/-! ===== X's walks: names ===== -/
theorem cs_or_f (f : Nat → Int32) (i : Nat) (h : f i = 0) : cs_or f i = cs_or f (i + 1) := by
  show _ = cs_or f i ||| f i
  rw [h, cs_or0]
theorem cs_or_t (f : Nat → Int32) (i : Nat) {v : Int32} (h : f i = v) : cs_or f i ||| v = cs_or f (i + 1) := by
  rw [← h]; rfl
theorem cs_ac_f (acc : Int32) (f : Nat → Int32) (i : Nat) {s : Int32} (e : s = acc ||| cs_or f i) (h : f i = 0) : s = acc ||| cs_or f (i + 1) := by
  rw [e, cs_or_f f i h]
theorem cs_ac_t (acc : Int32) (f : Nat → Int32) (i : Nat) {s v : Int32} (e : s = acc ||| cs_or f i) (h : f i = v) : s ||| v = acc ||| cs_or f (i + 1) := by
  rw [e, ← h]; exact cs_acc acc f i
theorem cs_orL_f (f : Nat → Int64) (i : Nat) (h : f i = 0) : cs_orL f i = cs_orL f (i + 1) := by
  show _ = cs_orL f i ||| f i
  rw [h, cs_or0L]
theorem cs_orL_t (f : Nat → Int64) (i : Nat) {v : Int64} (h : f i = v) : cs_orL f i ||| v = cs_orL f (i + 1) := by
  rw [← h]; rfl
theorem cs_acL_f (acc : Int64) (f : Nat → Int64) (i : Nat) {s : Int64} (e : s = acc ||| cs_orL f i) (h : f i = 0) : s = acc ||| cs_orL f (i + 1) := by
  rw [e, cs_orL_f f i h]
theorem cs_acL_t (acc : Int64) (f : Nat → Int64) (i : Nat) {s v : Int64} (e : s = acc ||| cs_orL f i) (h : f i = v) : s ||| v = acc ||| cs_orL f (i + 1) := by
  rw [e, ← h]; exact cs_accL acc f i
theorem cx_n10 : ¬ (1 : Int32) = 0 := by decide
theorem cx_app (w a : Nat) : ((3 * nI w) + 1) + nI a = nI (3 * w + 1 + a) := by
  rw [show (3 : Int32) = nI 3 from rfl, pk_mul, nI_1, nI_add]
theorem cx_88 (a : Nat) : (8 : Int32) + 8 * nI a = nI (8 + 8 * a) := by
  rw [show (8 : Int32) = nI 8 from rfl, pk_mul, nI_add]
theorem cx_8p (p q : Nat) : (8 : Int32) * nI p + nI q = nI (8 * p + q) := by
  rw [show (8 : Int32) = nI 8 from rfl, pk_mul, nI_add]
theorem cx_8 (p : Nat) : (8 : Int32) * nI p = nI (8 * p) := by
  rw [show (8 : Int32) = nI 8 from rfl, pk_mul]
theorem cx_121 (k w : Nat) : nI k * 121 + nI w = nI (k * 121 + w) := by
  rw [show (121 : Int32) = nI 121 from rfl, pk_mul, nI_add]
theorem cx_hasBit {post : Int32 → Prop} {x : Int32} {n : Nat} (hn : n < 32) (h0 : bt x n = false → post 0) (h1 : bt x n = true → post 1) : wpX_hasBit post x (nI n) :=
  br_c (fun c => h0 ((cs_hb x hn).1 c)) (fun c => h1 (ts_nf (fun e => c ((cs_hb x hn).2 e))))
theorem cx_append {post : Int32 → Prop} {w a : Nat} (h : post (nI (3 * w + 1 + a))) : wpX_append post (nI w) (nI a) := by
  unfold wpX_append
  rw [cx_app]
  exact h
section CXN
variable {f1 f2 f3 f4 f5 : Int32} {stk tm co le nr nf : Nat → Int32} {pp : Nat → Int64} {pr sf : Nat → Int32}
theorem cx_namesAfter {post : Int32 → Prop} {k a : Nat} (hk : k < 8) (h : post (cs_NA tm k a)) : wpX_namesAfter post (f1, f2, f3, f4, f5, stk, tm, co, le, nr, nf, pp, pr, sf) (nI k) (nI a) := by
  refine ⟨vp_in_nI hk (by decide), ?_⟩
  rw [nI_clamp (by omega), cx_88]
  exact h
theorem cx_stepNames {post : Int32 → Prop} {x : Int32} {a : Nat} (h : post (cs_SN tm x a)) : wpX_stepNames post (f1, f2, f3, f4, f5, stk, tm, co, le, nr, nf, pp, pr, sf) x (nI a) := by
  refine pk_loop (fun n i s => wX_stepNames_5 post x (nI a) f1 f2 f3 f4 f5 stk tm co le nr nf pp pr sf n s (nI i)) (fun i s => s = cs_or (fun k => cs_sel (bt x k) (cs_NA tm k a)) i) 8 0 0 (by omega) rfl ?_ ?_
  · intro n s e
    refine pk_le 8 8 (fun _ => ?_) (fun z => absurd z (by omega))
    rw [show s = cs_SN tm x a from e]
    exact h
  · intro n i s hi e ih
    refine pk_le 8 i (fun z => absurd z (by omega)) (fun _ => ?_)
    refine cx_hasBit (by omega) (fun hb => ?_) (fun hb => ?_)
    · refine br_t rfl (nm_r (nI_1 i) (ih _ ?_))
      exact Eq.trans e (cs_or_f _ i (cs_sel_f _ hb))
    · refine br_f cx_n10 (cx_namesAfter hi (nm_e (nm_r (nI_1 i) (ih _ ?_))))
      rw [show s = cs_or (fun k => cs_sel (bt x k) (cs_NA tm k a)) i from e]
      exact cs_or_t _ i (cs_sel_t _ hb)
theorem cx_refN {post : Int32 → Prop} {x : Int32} (h : post (cs_RN tm x)) : wpX_refusalsOfNames post (f1, f2, f3, f4, f5, stk, tm, co, le, nr, nf, pp, pr, sf) x := by
  refine pk_loop (fun n i s => wX_refusalsOfNames_4 post x f1 f2 f3 f4 f5 stk tm co le nr nf pp pr sf n s (nI i)) (fun i s => s = cs_or (fun k => cs_sel (bt x k) (tm k &&& 255)) i) 8 0 0 (by omega) rfl ?_ ?_
  · intro n s e
    refine pk_le 8 8 (fun _ => ?_) (fun z => absurd z (by omega))
    rw [show s = cs_RN tm x from e]
    exact h
  · intro n i s hi e ih
    refine pk_le 8 i (fun z => absurd z (by omega)) (fun _ => ?_)
    refine cx_hasBit (by omega) (fun hb => ?_) (fun hb => ?_)
    · refine br_t rfl (nm_r (nI_1 i) (ih _ ?_))
      exact Eq.trans e (cs_or_f _ i (cs_sel_f _ hb))
    · refine br_f cx_n10 ⟨vp_in_nI hi (by decide), nm_e (nm_r (nI_1 i) (ih _ ?_))⟩
      rw [show s = cs_or (fun k => cs_sel (bt x k) (tm k &&& 255)) i from e, nI_clamp (by omega)]
      exact cs_or_t _ i (cs_sel_t _ hb)
def cx_Tn (t : Nat → Int32) (k b : Nat) (T : Nat → Int32) : Prop := ∀ u, cs_Ev u → cs_ix u < b → cs_Pn t k u (T (cs_ix u))
theorem cx_fn27 {post : SX → Prop} {J2 J19 : Int32 → (Nat → Int32) → (Nat → Int32) → (Nat → Int32) → (Nat → Int32) → (Nat → Int32) → (Nat → Int32) → (Nat → Int64) → (Nat → Int32) → (Nat → Int32) → Prop} {k w : Nat} (hw : w < 40) (h0 : cx_Tn tm k (3 * w + 1) nr) (hJ : ∀ T, cx_Tn tm k (3 * (w + 1) + 1) T → J19 (nI (w + 1)) stk tm co le T nf pp pr sf) : ∃ n, wX_followNames_27 post J2 J19 (nI k) (nI w) f1 f2 f3 f4 f5 n 0 stk tm co le nr nf pp pr sf := by
  refine pk_loop (fun n i s => wX_followNames_27 post J2 J19 (nI k) (nI w) f1 f2 f3 f4 f5 n (nI i) stk tm co le s nf pp pr sf) (fun i s => cx_Tn tm k (3 * w + 1 + i) s) 3 0 nr (by omega) h0 ?_ ?_
  · intro n s e
    refine pk_le 3 3 (fun _ => nm_r (nI_1 w) (hJ s ?_)) (fun z => absurd z (by omega))
    intro u hu hi
    exact e u hu (by omega)
  · intro n a s ha e ih
    refine pk_le 3 a (fun z => absurd z (by omega)) (fun _ => ?_)
    refine cx_append ⟨vp_in_nI (by omega) (by decide), cx_stepNames ⟨vp_in_nI (by omega) (by decide), ?_⟩⟩
    refine nm_r (e' := upd s (3 * w + 1 + a) (cs_SN tm (s w) a)) (by rw [nI_clamp (by omega), nI_clamp (by omega)]) (nm_r (nI_1 a) (ih _ ?_))
    exact cs_tab_s (P := fun u x => cs_Pn tm k u x) ha e (fun m hm => pk_un hm) (fun u hu _ hP => by rw [pk_us]; exact cs_Pn_s hP ha)
theorem cx_fn71 {post : SX → Prop} {J2 : Int32 → (Nat → Int32) → (Nat → Int32) → (Nat → Int32) → (Nat → Int32) → (Nat → Int32) → (Nat → Int32) → (Nat → Int64) → (Nat → Int32) → (Nat → Int32) → Prop} {k : Nat} (hk : k < 8) (h0 : cx_Tn tm k 121 nr) (hF : ∀ u, cs_Wd u → ∀ e, e < k → cs_Pf tm e u (nf (e * 121 + cs_ix u))) (hJ : ∀ T, (∀ u, cs_Wd u → ∀ e, e < k + 1 → cs_Pf tm e u (T (e * 121 + cs_ix u))) → J2 (nI (k + 1)) stk tm co le nr T pp pr sf) : ∃ n, wX_followNames_71 post J2 (nI k) f1 f2 f3 f4 f5 n 0 stk tm co le nr nf pp pr sf := by
  refine pk_loop (fun n i s => wX_followNames_71 post J2 (nI k) f1 f2 f3 f4 f5 n (nI i) stk tm co le nr s pp pr sf) (fun i s => (∀ u, cs_Wd u → ∀ e, e < k → cs_Pf tm e u (s (e * 121 + cs_ix u))) ∧ ∀ u, cs_Wd u → cs_ix u < i → cs_Pf tm k u (s (k * 121 + cs_ix u))) 121 0 nf (by omega) ⟨hF, fun u _ h => absurd h (by omega)⟩ ?_ ?_
  · intro n s e
    refine pk_le 121 121 (fun _ => nm_r (nI_1 k) (hJ s ?_)) (fun z => absurd z (by omega))
    intro u hu d hd
    rcases Nat.lt_or_ge d k with z | z
    · exact e.1 u hu d z
    · have ed : d = k := by omega
      subst ed
      exact e.2 u hu (cs_ix_lt hu)
  · intro n w s hw e ih
    refine pk_le 121 w (fun z => absurd z (by omega)) (fun _ => ?_)
    refine ⟨vp_in_nI (by omega) (by decide), cx_refN ?_⟩
    rw [cx_121]
    refine ⟨vp_in_nI (by omega) (by decide), nm_r (e' := upd s (k * 121 + w) (cs_RN tm (nr w))) (by rw [nI_clamp (by omega), nI_clamp (by omega)]) (nm_r (nI_1 w) (ih _ ⟨?_, ?_⟩))⟩
    · intro u hu d hd
      have := cs_ix_lt hu
      rw [pk_un (by omega)]
      exact e.1 u hu d hd
    · intro u hu hi
      rcases Nat.lt_or_ge (cs_ix u) w with z | z
      · rw [pk_un (by omega)]
        exact e.2 u hu z
      · have ew : cs_ix u = w := by omega
        subst ew
        rw [pk_us]
        exact cs_Pf_n (h0 u hu.2 hw)
theorem cx_ix0 {u : List Nat} (h : cs_ix u < 1) : u = [] := by
  cases u with
  | nil => rfl
  | cons a u => exact absurd h (by show ¬ 3 * cs_ix u + 1 + a < 1; omega)
theorem cx_fn19 {post : SX → Prop} {J2 : Int32 → (Nat → Int32) → (Nat → Int32) → (Nat → Int32) → (Nat → Int32) → (Nat → Int32) → (Nat → Int32) → (Nat → Int64) → (Nat → Int32) → (Nat → Int32) → Prop} {k : Nat} (hk : k < 8) (h0 : nr 0 = (1 : Int32) <<< (nI k &&& 31)) (hF : ∀ u, cs_Wd u → ∀ e, e < k → cs_Pf tm e u (nf (e * 121 + cs_ix u))) (hJ : ∀ N T, (∀ u, cs_Wd u → ∀ e, e < k + 1 → cs_Pf tm e u (T (e * 121 + cs_ix u))) → J2 (nI (k + 1)) stk tm co le N T pp pr sf) : ∃ n, wX_followNames_19 post J2 (nI k) f1 f2 f3 f4 f5 n 0 stk tm co le nr nf pp pr sf := by
  refine pk_loop (fun n i s => wX_followNames_19 post J2 (nI k) f1 f2 f3 f4 f5 n (nI i) stk tm co le s nf pp pr sf) (fun i s => cx_Tn tm k (3 * i + 1) s) 40 0 nr (by omega) ?_ ?_ ?_
  · intro u hu hi
    have e := cx_ix0 hi
    subst e
    show cs_Pn tm k [] (nr 0)
    rw [h0]
    exact cs_Pn_0 tm hk
  · intro n s e
    refine pk_le 40 40 (fun _ => cx_fn71 hk e hF (fun T hT => hJ s T hT)) (fun z => absurd z (by omega))
  · intro n w s hw e ih
    refine pk_le 40 w (fun z => absurd z (by omega)) (fun _ => cx_fn27 hw e (fun T hT => ih T hT))
theorem cx_followNames {post : SX → Prop} (h : ∀ N T, cs_XF tm T → post (f1, f2, f3, f4, f5, stk, tm, co, le, N, T, pp, pr, sf)) : wpX_followNames post (f1, f2, f3, f4, f5, stk, tm, co, le, nr, nf, pp, pr, sf) := by
  refine pk_loop (fun n i (s : (Nat → Int32) × (Nat → Int32)) => wX_followNames_2 post f1 f2 f3 f4 f5 n (nI i) stk tm co le s.1 s.2 pp pr sf) (fun i s => ∀ u, cs_Wd u → ∀ e, e < i → cs_Pf tm e u (s.2 (e * 121 + cs_ix u))) 8 0 (nr, nf) (by omega) (fun u _ e he => absurd he (by omega)) ?_ ?_
  · intro n s e
    exact pk_le 8 8 (fun _ => h s.1 s.2 e) (fun z => absurd z (by omega))
  · intro n k s hk e ih
    refine pk_le 8 k (fun z => absurd z (by omega)) (fun _ => nm_e ?_)
    exact cx_fn19 hk pk_us e (fun N T hT => ih (N, T) hT)
end CXN
end
section
/-! ===== X's walks: pairs ===== -/
theorem cs_agX : ∀ m, m < 8 → ∀ n, n < 8 → ∀ A, A < 8 → (((nI m ^^^ nI n) &&& (nI A ^^^ (-1))) = 0 ↔ cs_ag A m n = true) := by decide +kernel
theorem cs_agY : ∀ m, m < 8 → ∀ n, n < 8 → ∀ A, A < 8 → ((nI m ||| nI A) = (nI n ||| nI A) ↔ cs_ag A m n = true) := by decide +kernel
theorem cs_orN : ∀ m, m < 8 → ∀ n, n < 8 → nI m ||| nI n = nI (m ||| n) := by decide +kernel
theorem cs_btN : ∀ A, A < 8 → ∀ a, a < 8 → bt (nI A) a = A.testBit a := by decide +kernel
theorem cx_hasPair {post : Int32 → Prop} {x : Int64} {p q : Nat} (hp : p < 8) (hq : q < 8) (h0 : cs_bl x (8 * p + q) = false → post 0) (h1 : cs_bl x (8 * p + q) = true → post 1) : wpX_hasPair post x (nI p) (nI q) := by
  unfold wpX_hasPair
  rw [cx_8p]
  exact br_c (fun c => h0 ((cs_hp x (by omega)).1 c)) (fun c => h1 (ts_nf (fun e => c ((cs_hp x (by omega)).2 e))))
theorem cx_allPairs {post : Int64 → Prop} {x y : Int32} (h : post (cs_AP x y)) : wpX_allPairs post x y := by
  refine pk_loop (fun n i s => wX_allPairs_5 post x y n s (nI i)) (fun i s => s = cs_orL (fun p => cs_selL (bt x p) (y.toInt64 <<< ((nI (8 * p)).toInt64 &&& 63))) i) 8 0 0 (by omega) rfl ?_ ?_
  · intro n s e
    refine pk_le 8 8 (fun _ => ?_) (fun z => absurd z (by omega))
    rw [show s = cs_AP x y from e]
    exact h
  · intro n i s hi e ih
    refine pk_le 8 i (fun z => absurd z (by omega)) (fun _ => br_c (fun c => ?_) (fun c => ?_))
    · refine nm_r (nI_1 i) (ih _ ?_)
      exact Eq.trans e (cs_orL_f _ i (cs_selL_f _ ((cs_mk x (by omega)).1 c)))
    · refine nm_e (nm_r (nI_1 i) (ih _ ?_))
      rw [show s = cs_orL (fun p => cs_selL (bt x p) (y.toInt64 <<< ((nI (8 * p)).toInt64 &&& 63))) i from e, cx_8]
      exact cs_orL_t _ i (cs_selL_t _ (ts_nf (fun hb => c ((cs_mk x (by omega)).2 hb))))
section CXP
variable {f1 f2 f3 f4 f5 : Int32} {stk tm co le nr nf : Nat → Int32} {pp : Nat → Int64} {pr sf : Nat → Int32}
theorem cx_un15 {post : Int32 → Prop} {J5 : Int32 → Int32 → Prop} {x y : Int32} {A m : Nat} (hA : A < 8) (hm : m < 8) (acc : Int32) (hJ : J5 (acc ||| cs_or (fun n => cs_sel (cs_ag A m n && bt x m && bt y n) ((1 : Int32) <<< (nI (m ||| n) &&& 31))) 8) (nI (m + 1))) : ∃ n, wX_unitedRefusals_15 post J5 x y (nI m) f1 f2 f3 (nI A) f5 stk tm co le nr nf pp pr sf n acc 0 := by
  refine pk_loop (fun n i s => wX_unitedRefusals_15 post J5 x y (nI m) f1 f2 f3 (nI A) f5 stk tm co le nr nf pp pr sf n s (nI i)) (fun i s => s = acc ||| cs_or (fun n => cs_sel (cs_ag A m n && bt x m && bt y n) ((1 : Int32) <<< (nI (m ||| n) &&& 31))) i) 8 0 acc (by omega) (cs_or0 acc).symm ?_ ?_
  · intro n s e
    refine pk_le 8 8 (fun _ => nm_r (nI_1 m) ?_) (fun z => absurd z (by omega))
    rw [show s = _ from e]
    exact hJ
  · intro n i s hi e ih
    have hf : (cs_ag A m i && bt x m && bt y i) = false → wX_unitedRefusals_15 post J5 x y (nI m) f1 f2 f3 (nI A) f5 stk tm co le nr nf pp pr sf n s (nI (i + 1)) :=
      fun hb => ih _ (cs_ac_f acc _ i e (cs_sel_f _ hb))
    refine pk_le 8 i (fun z => absurd z (by omega)) (fun _ => br_c (fun c => ?_) (fun c => ?_))
    · have hg := (cs_agX m hm i hi A hA).1 c
      refine br_f cx_n10 (cx_hasBit (by omega) (fun hb => ?_) (fun hb => ?_))
      · exact br_t rfl (nm_r (nI_1 i) (hf (by rw [hb, Bool.and_false, Bool.false_and])))
      · refine br_f cx_n10 (cx_hasBit (by omega) (fun hc => ?_) (fun hc => ?_))
        · exact br_t rfl (nm_r (nI_1 i) (hf (by rw [hc, Bool.and_false])))
        · refine br_f cx_n10 (nm_r (e' := s ||| ((1 : Int32) <<< (nI (m ||| i) &&& 31))) (by rw [cs_orN m hm i hi]) (nm_r (nI_1 i) (ih _ ?_)))
          exact cs_ac_t acc _ i e (cs_sel_t _ (by rw [hg, hb, hc]; rfl))
    · have hg : cs_ag A m i = false := ts_nt (fun g => c ((cs_agX m hm i hi A hA).2 g))
      exact br_t rfl (nm_r (nI_1 i) (hf (by rw [hg, Bool.false_and, Bool.false_and])))
theorem cx_united {post : Int32 → Prop} {x y : Int32} {A : Nat} (hA : A < 8) (h : post (cs_UR A x y)) : wpX_unitedRefusals post (f1, f2, f3, (nI A), f5, stk, tm, co, le, nr, nf, pp, pr, sf) x y := by
  refine pk_loop (fun n i s => wX_unitedRefusals_5 post x y f1 f2 f3 (nI A) f5 stk tm co le nr nf pp pr sf n s (nI i)) (fun i s => s = cs_or (fun m => cs_or (fun n => cs_sel (cs_ag A m n && bt x m && bt y n) ((1 : Int32) <<< (nI (m ||| n) &&& 31))) 8) i) 8 0 0 (by omega) rfl ?_ ?_
  · intro n s e
    refine pk_le 8 8 (fun _ => ?_) (fun z => absurd z (by omega))
    rw [show s = cs_UR A x y from e]
    exact h
  · intro n i s hi e ih
    refine pk_le 8 i (fun z => absurd z (by omega)) (fun _ => cx_un15 hA hi s (ih _ ?_))
    rw [show s = _ from e]
    exact cs_or_t _ i rfl
theorem cx_jr10 {post : SX → Prop} {J2 : Int32 → (Nat → Int32) → (Nat → Int32) → (Nat → Int32) → (Nat → Int32) → (Nat → Int32) → (Nat → Int32) → (Nat → Int64) → (Nat → Int32) → (Nat → Int32) → Prop} {A p : Nat} (hA : A < 8) (hp : p < 8) (h0 : ∀ a b, a < p → b < 8 → pr (8 * a + b) = cs_UR A (tm a) (tm b)) (hJ : ∀ T, (∀ a b, a < p + 1 → b < 8 → T (8 * a + b) = cs_UR A (tm a) (tm b)) → J2 (nI (p + 1)) stk tm co le nr nf pp T sf) : ∃ n, wX_joinRefusals_10 post J2 (nI p) f1 f2 f3 (nI A) f5 n 0 stk tm co le nr nf pp pr sf := by
  refine pk_loop (fun n i s => wX_joinRefusals_10 post J2 (nI p) f1 f2 f3 (nI A) f5 n (nI i) stk tm co le nr nf pp s sf) (fun i s => (∀ a b, a < p → b < 8 → s (8 * a + b) = cs_UR A (tm a) (tm b)) ∧ ∀ b, b < i → s (8 * p + b) = cs_UR A (tm p) (tm b)) 8 0 pr (by omega) ⟨h0, fun b hb => absurd hb (by omega)⟩ ?_ ?_
  · intro n s e
    refine pk_le 8 8 (fun _ => nm_r (nI_1 p) (hJ s ?_)) (fun z => absurd z (by omega))
    intro a b ha hb
    rcases Nat.lt_or_ge a p with z | z
    · exact e.1 a b z hb
    · have ea : a = p := by omega
      subst ea
      exact e.2 b hb
  · intro n q s hq e ih
    refine pk_le 8 q (fun z => absurd z (by omega)) (fun _ => ?_)
    refine ⟨vp_in_nI hp (by decide), vp_in_nI hq (by decide), cx_united hA ?_⟩
    rw [cx_8p]
    refine ⟨vp_in_nI (by omega) (by decide), nm_r (e' := upd s (8 * p + q) (cs_UR A (tm p) (tm q))) (by rw [nI_clamp (by omega), nI_clamp (by omega), nI_clamp (by omega)]) (nm_r (nI_1 q) (ih _ ⟨?_, ?_⟩))⟩
    · intro a b ha hb
      rw [pk_un (by omega)]
      exact e.1 a b ha hb
    · intro b hb
      rcases Nat.lt_or_ge b q with z | z
      · rw [pk_un (by omega)]
        exact e.2 b z
      · have eb : b = q := by omega
        subst eb
        exact pk_us
theorem cx_join {post : SX → Prop} {A : Nat} (hA : A < 8) (h : ∀ T, (∀ a b, a < 8 → b < 8 → T (8 * a + b) = cs_UR A (tm a) (tm b)) → post (f1, f2, f3, (nI A), f5, stk, tm, co, le, nr, nf, pp, T, sf)) : wpX_joinRefusals post (f1, f2, f3, (nI A), f5, stk, tm, co, le, nr, nf, pp, pr, sf) := by
  refine pk_loop (fun n i s => wX_joinRefusals_2 post f1 f2 f3 (nI A) f5 n (nI i) stk tm co le nr nf pp s sf) (fun i s => ∀ a b, a < i → b < 8 → s (8 * a + b) = cs_UR A (tm a) (tm b)) 8 0 pr (by omega) (fun a b ha => absurd ha (by omega)) ?_ ?_
  · intro n s e
    exact pk_le 8 8 (fun _ => h s e) (fun z => absurd z (by omega))
  · intro n p s hp e ih
    exact pk_le 8 p (fun z => absurd z (by omega)) (fun _ => cx_jr10 hA hp e (fun T hT => ih T hT))
theorem cx_pairsAfter {post : Int64 → Prop} {A p q a : Nat} (hA : A < 8) (hp : p < 8) (hq : q < 8) (ha : a < 3) (h : post (cs_PA tm A p q a)) : wpX_pairsAfter post (f1, f2, f3, (nI A), f5, stk, tm, co, le, nr, nf, pp, pr, sf) (nI p) (nI q) (nI a) := by
  unfold wpX_pairsAfter
  refine cx_namesAfter hp (cx_namesAfter hq (cx_hasBit (by omega) (fun hb => ?_) (fun hb => ?_)))
  · rw [cs_btN A hA a (by omega)] at hb
    refine br_t rfl (cx_allPairs (cx_allPairs ?_))
    rw [show cs_PA tm A p q a = _ from by unfold cs_PA; rw [hb, cond_false]] at h
    exact h
  · rw [cs_btN A hA a (by omega)] at hb
    refine br_f cx_n10 (cx_allPairs ?_)
    rw [show cs_PA tm A p q a = _ from by unfold cs_PA; rw [hb, cond_true]] at h
    exact h
theorem cx_sp16 {post : Int64 → Prop} {J6 : Int64 → Int32 → Prop} {x : Int64} {A a p : Nat} (hA : A < 8) (ha : a < 3) (hp : p < 8) (acc : Int64) (hJ : J6 (acc ||| cs_orL (fun q => cs_selL (cs_bl x (8 * p + q)) (cs_PA tm A p q a)) 8) (nI (p + 1))) : ∃ n, wX_stepPairs_16 post J6 x (nI a) (nI p) f1 f2 f3 (nI A) f5 stk tm co le nr nf pp pr sf n acc 0 := by
  refine pk_loop (fun n i s => wX_stepPairs_16 post J6 x (nI a) (nI p) f1 f2 f3 (nI A) f5 stk tm co le nr nf pp pr sf n s (nI i)) (fun i s => s = acc ||| cs_orL (fun q => cs_selL (cs_bl x (8 * p + q)) (cs_PA tm A p q a)) i) 8 0 acc (by omega) (cs_or0L acc).symm ?_ ?_
  · intro n s e
    refine pk_le 8 8 (fun _ => nm_r (nI_1 p) ?_) (fun z => absurd z (by omega))
    rw [show s = _ from e]
    exact hJ
  · intro n q s hq e ih
    refine pk_le 8 q (fun z => absurd z (by omega)) (fun _ => cx_hasPair hp hq (fun hb => ?_) (fun hb => ?_))
    · exact br_t rfl (nm_r (nI_1 q) (ih _ (cs_acL_f acc _ q e (cs_selL_f _ hb))))
    · exact br_f cx_n10 (cx_pairsAfter hA hp hq ha (nm_e (nm_r (nI_1 q) (ih _ (cs_acL_t acc _ q e (cs_selL_t _ hb))))))
theorem cx_stepPairs {post : Int64 → Prop} {x : Int64} {A a : Nat} (hA : A < 8) (ha : a < 3) (h : post (cs_SP tm A x a)) : wpX_stepPairs post (f1, f2, f3, (nI A), f5, stk, tm, co, le, nr, nf, pp, pr, sf) x (nI a) := by
  refine pk_loop (fun n i s => wX_stepPairs_6 post x (nI a) f1 f2 f3 (nI A) f5 stk tm co le nr nf pp pr sf n s (nI i)) (fun i s => s = cs_orL (fun p => cs_orL (fun q => cs_selL (cs_bl x (8 * p + q)) (cs_PA tm A p q a)) 8) i) 8 0 0 (by omega) rfl ?_ ?_
  · intro n s e
    refine pk_le 8 8 (fun _ => ?_) (fun z => absurd z (by omega))
    rw [show s = cs_SP tm A x a from e]
    exact h
  · intro n p s hp e ih
    refine pk_le 8 p (fun z => absurd z (by omega)) (fun _ => cx_sp16 hA ha hp s (ih _ ?_))
    rw [show s = _ from e]
    exact cs_orL_t _ p rfl
theorem cx_rp15 {post : Int32 → Prop} {J5 : Int32 → Int32 → Prop} {x : Int64} {p : Nat} (hp : p < 8) (acc : Int32) (hJ : J5 (acc ||| cs_or (fun q => cs_sel (cs_bl x (8 * p + q)) (pr (8 * p + q))) 8) (nI (p + 1))) : ∃ n, wX_refusalsOfPairs_15 post J5 x (nI p) f1 f2 f3 f4 f5 stk tm co le nr nf pp pr sf n acc 0 := by
  refine pk_loop (fun n i s => wX_refusalsOfPairs_15 post J5 x (nI p) f1 f2 f3 f4 f5 stk tm co le nr nf pp pr sf n s (nI i)) (fun i s => s = acc ||| cs_or (fun q => cs_sel (cs_bl x (8 * p + q)) (pr (8 * p + q))) i) 8 0 acc (by omega) (cs_or0 acc).symm ?_ ?_
  · intro n s e
    refine pk_le 8 8 (fun _ => nm_r (nI_1 p) ?_) (fun z => absurd z (by omega))
    rw [show s = _ from e]
    exact hJ
  · intro n q s hq e ih
    refine pk_le 8 q (fun z => absurd z (by omega)) (fun _ => cx_hasPair hp hq (fun hb => ?_) (fun hb => ?_))
    · exact br_t rfl (nm_r (nI_1 q) (ih _ (cs_ac_f acc _ q e (cs_sel_f _ hb))))
    · refine br_f cx_n10 ?_
      rw [cx_8p]
      refine ⟨vp_in_nI (by omega) (by decide), nm_r (e' := s ||| pr (8 * p + q)) (by rw [nI_clamp (by omega)]) (nm_r (nI_1 q) (ih _ (cs_ac_t acc _ q e (cs_sel_t _ hb))))⟩
theorem cx_refP {post : Int32 → Prop} {x : Int64} (h : post (cs_RP pr x)) : wpX_refusalsOfPairs post (f1, f2, f3, f4, f5, stk, tm, co, le, nr, nf, pp, pr, sf) x := by
  refine pk_loop (fun n i s => wX_refusalsOfPairs_5 post x f1 f2 f3 f4 f5 stk tm co le nr nf pp pr sf n s (nI i)) (fun i s => s = cs_or (fun p => cs_or (fun q => cs_sel (cs_bl x (8 * p + q)) (pr (8 * p + q))) 8) i) 8 0 0 (by omega) rfl ?_ ?_
  · intro n s e
    refine pk_le 8 8 (fun _ => ?_) (fun z => absurd z (by omega))
    rw [show s = cs_RP pr x from e]
    exact h
  · intro n p s hp e ih
    refine pk_le 8 p (fun z => absurd z (by omega)) (fun _ => cx_rp15 hp s (ih _ ?_))
    rw [show s = _ from e]
    exact cs_or_t _ p rfl
def cx_Tp (t : Nat → Int32) (A i j b : Nat) (T : Nat → Int64) : Prop := ∀ u, cs_Ev u → cs_ix u < b → cs_Pp t A i j u (T (cs_ix u))
theorem cx_fs34 {post : SX → Prop} {J26 : Int32 → (Nat → Int32) → (Nat → Int32) → (Nat → Int32) → (Nat → Int32) → (Nat → Int32) → (Nat → Int32) → (Nat → Int64) → (Nat → Int32) → (Nat → Int32) → Prop} {A i j w : Nat} (hA : A < 8) (hw : w < 40) (h0 : cx_Tp tm A i j (3 * w + 1) pp) (hJ : ∀ T, cx_Tp tm A i j (3 * (w + 1) + 1) T → J26 (nI (w + 1)) stk tm co le nr nf T pr sf) : ∃ n, wX_followSystem_34 post J26 (nI w) f1 f2 f3 (nI A) f5 n 0 stk tm co le nr nf pp pr sf := by
  refine pk_loop (fun n i s => wX_followSystem_34 post J26 (nI w) f1 f2 f3 (nI A) f5 n (nI i) stk tm co le nr nf s pr sf) (fun a s => cx_Tp tm A i j (3 * w + 1 + a) s) 3 0 pp (by omega) h0 ?_ ?_
  · intro n s e
    refine pk_le 3 3 (fun _ => nm_r (nI_1 w) (hJ s ?_)) (fun z => absurd z (by omega))
    intro u hu hi
    exact e u hu (by omega)
  · intro n a s ha e ih
    refine pk_le 3 a (fun z => absurd z (by omega)) (fun _ => ?_)
    refine cx_append ⟨vp_in_nI (by omega) (by decide), cx_stepPairs hA ha ⟨vp_in_nI (by omega) (by decide), ?_⟩⟩
    refine nm_r (e' := vp_updL s (3 * w + 1 + a) (cs_SP tm A (s w) a)) (by rw [nI_clamp (by omega), nI_clamp (by omega)]) (nm_r (nI_1 a) (ih _ ?_))
    exact cs_tab_s (P := fun u x => cs_Pp tm A i j u x) ha e (fun m hm => pk_uLn hm) (fun u hu _ hP => by rw [pk_uLs]; exact cs_Pp_s hP ha)
theorem cx_fs76 {post : SX → Prop} {A i j : Nat} (h0 : cx_Tp tm A i j 121 pp) (hr : ∀ a b, a < 8 → b < 8 → pr (8 * a + b) = cs_UR A (tm a) (tm b)) (h : ∀ T, cs_XS tm A i j T → post (f1, f2, f3, f4, f5, stk, tm, co, le, nr, nf, pp, pr, T)) : ∃ n, wX_followSystem_76 post f1 f2 f3 f4 f5 n 0 stk tm co le nr nf pp pr sf := by
  refine pk_loop (fun n i s => wX_followSystem_76 post f1 f2 f3 f4 f5 n (nI i) stk tm co le nr nf pp pr s) (fun w s => ∀ u, cs_Wd u → cs_ix u < w → cs_Ps tm A i j u (s (cs_ix u))) 121 0 sf (by omega) (fun u _ h => absurd h (by omega)) ?_ ?_
  · intro n s e
    exact pk_le 121 121 (fun _ => h s (fun u hu => e u hu (cs_ix_lt hu))) (fun z => absurd z (by omega))
  · intro n w s hw e ih
    refine pk_le 121 w (fun z => absurd z (by omega)) (fun _ => ?_)
    refine ⟨vp_in_nI (by omega) (by decide), cx_refP ⟨vp_in_nI (by omega) (by decide), nm_r (e' := upd s w (cs_RP pr (pp w))) (by rw [nI_clamp (by omega)]) (nm_r (nI_1 w) (ih _ ?_))⟩⟩
    intro u hu hi
    rcases Nat.lt_or_ge (cs_ix u) w with z | z
    · rw [pk_un (by omega)]
      exact e u hu z
    · have ew : cs_ix u = w := by omega
      subst ew
      rw [pk_us]
      exact cs_Ps_p (h0 u hu.2 hw) hr
theorem cx_followSystem {post : SX → Prop} {A i j : Nat} (hA : A < 8) (hi : i < 8) (hj : j < 8) (h : ∀ P Q T, cs_XS tm A i j T → post (f1, (nI i), (nI j), (nI A), f5, stk, tm, co, le, nr, nf, P, Q, T)) : wpX_followSystem post (f1, (nI i), (nI j), (nI A), f5, stk, tm, co, le, nr, nf, pp, pr, sf) := by
  unfold wpX_followSystem
  refine cx_join hA (fun Q hQ => ?_)
  refine nm_r (e' := vp_updL pp 0 ((1 : Int64) <<< ((nI (8 * i + j)).toInt64 &&& 63))) (by rw [cx_8p]) ?_
  refine pk_loop (fun n w s => wX_followSystem_26 post f1 (nI i) (nI j) (nI A) f5 n (nI w) stk tm co le nr nf s Q sf) (fun w s => cx_Tp tm A i j (3 * w + 1) s) 40 0 _ (by omega) ?_ ?_ ?_
  · intro u hu hu1
    have e := cx_ix0 hu1
    subst e
    show cs_Pp tm A i j [] (vp_updL pp 0 _ 0)
    rw [pk_uLs]
    exact cs_Pp_0 tm A hi hj
  · intro n s e
    exact pk_le 40 40 (fun _ => cx_fs76 e hQ (fun T hT => h s Q T hT)) (fun z => absurd z (by omega))
  · intro n w s hw e ih
    exact pk_le 40 w (fun z => absurd z (by omega)) (fun _ => cx_fs34 hA hw e (fun T hT => ih T hT))
/-! the words measured -/
def cx_Tm (b : Nat) (s : (Nat → Int32) × (Nat → Int32)) : Prop := (∀ u, cs_Ev u → cs_ix u < b → s.1 (cs_ix u) = nI (cs_cd u)) ∧ (∀ u, cs_Ev u → cs_ix u < b → s.2 (cs_ix u) = nI u.length)
theorem cx_code (c a : Nat) : ((nI c * 4) + nI a) + 1 = nI (c * 4 + a + 1) := by
  rw [show (4 : Int32) = nI 4 from rfl, pk_mul, nI_add, nI_1]
theorem cx_mw10 {post : SX → Prop} {J2 : Int32 → (Nat → Int32) → (Nat → Int32) → (Nat → Int32) → (Nat → Int32) → (Nat → Int32) → (Nat → Int32) → (Nat → Int64) → (Nat → Int32) → (Nat → Int32) → Prop} {w : Nat} (hw : w < 40) (h0 : cx_Tm (3 * w + 1) (co, le)) (hJ : ∀ s, cx_Tm (3 * (w + 1) + 1) s → J2 (nI (w + 1)) stk tm s.1 s.2 nr nf pp pr sf) : ∃ n, wX_measureWords_10 post J2 (nI w) f1 f2 f3 f4 f5 n 0 stk tm co le nr nf pp pr sf := by
  refine pk_loop (fun n i (s : (Nat → Int32) × (Nat → Int32)) => wX_measureWords_10 post J2 (nI w) f1 f2 f3 f4 f5 n (nI i) stk tm s.1 s.2 nr nf pp pr sf) (fun a s => cx_Tm (3 * w + 1 + a) s) 3 0 (co, le) (by omega) h0 ?_ ?_
  · intro n s e
    refine pk_le 3 3 (fun _ => nm_r (nI_1 w) (hJ s ⟨?_, ?_⟩)) (fun z => absurd z (by omega))
    · intro u hu hi
      exact e.1 u hu (by omega)
    · intro u hu hi
      exact e.2 u hu (by omega)
  · intro n a s ha e ih
    refine pk_le 3 a (fun z => absurd z (by omega)) (fun _ => ?_)
    refine cx_append ⟨vp_in_nI (by omega) (by decide), vp_in_nI (by omega) (by decide), ?_⟩
    refine nm_r (e' := upd s.1 (3 * w + 1 + a) (((s.1 w * 4) + nI a) + 1)) (by rw [nI_clamp (by omega), nI_clamp (by omega)]) ⟨vp_in_nI (by omega) (by decide), vp_in_nI (by omega) (by decide), ?_⟩
    refine nm_r (e' := upd s.2 (3 * w + 1 + a) (s.2 w + 1)) (by rw [nI_clamp (by omega), nI_clamp (by omega)]) (nm_r (nI_1 a) (ih (upd s.1 (3 * w + 1 + a) (((s.1 w * 4) + nI a) + 1), upd s.2 (3 * w + 1 + a) (s.2 w + 1)) ⟨?_, ?_⟩))
    · exact cs_tab_s (P := fun u x => x = nI (cs_cd u)) ha e.1 (fun m hm => pk_un hm) (fun u hu _ hP => by show upd s.1 _ _ _ = _; rw [pk_us, hP]; exact cx_code _ _)
    · exact cs_tab_s (P := fun u x => x = nI u.length) ha e.2 (fun m hm => pk_un hm) (fun u hu _ hP => by show upd s.2 _ _ _ = _; rw [pk_us, hP, nI_1]; rfl)
theorem cx_measure {post : SX → Prop} (hc : co 0 = 0) (hl : le 0 = 0) (h : ∀ C L, cs_XC C L → post (f1, f2, f3, f4, f5, stk, tm, C, L, nr, nf, pp, pr, sf)) : wpX_measureWords post (f1, f2, f3, f4, f5, stk, tm, co, le, nr, nf, pp, pr, sf) := by
  refine pk_loop (fun n i (s : (Nat → Int32) × (Nat → Int32)) => wX_measureWords_2 post f1 f2 f3 f4 f5 n (nI i) stk tm s.1 s.2 nr nf pp pr sf) (fun w s => cx_Tm (3 * w + 1) s) 40 0 (co, le) (by omega) ⟨?_, ?_⟩ ?_ ?_
  · intro u hu hu1
    have e := cx_ix0 hu1
    subst e
    exact hc
  · intro u hu hu1
    have e := cx_ix0 hu1
    subst e
    exact hl
  · intro n s e
    refine pk_le 40 40 (fun _ => h s.1 s.2 (fun u hu => ⟨e.1 u hu.2 (cs_ix_lt hu), e.2 u hu.2 (cs_ix_lt hu)⟩)) (fun z => absurd z (by omega))
  · intro n w s hw e ih
    exact pk_le 40 w (fun z => absurd z (by omega)) (fun _ => cx_mw10 hw e (fun T hT => ih T hT))
end CXP
end
section
/-! ===== Y's walks up to its list ===== -/
theorem cy_pow (m : Nat) : 2 ^ (2 * m) = 4 ^ m := by rw [Nat.pow_mul]
theorem cy_s1 {n : Nat} (h : 1 ≤ n) : nI n - 1 = nI (n - 1) := pk_sub (b := 1) h
theorem cy_ev {c p : Nat} (hc : c < 256) (hp : p < cs_le c) : (((nI c >>> ((2 * ((nI (cs_le c) - 1) - nI p)) &&& 31)) &&& 3) - 1) = nI (cs_dg c p) - 1 := by
  have h4 := cs_le_4 c
  rw [cy_s1 (by omega), pk_sub (by omega), show (2 : Int32) = nI 2 from rfl, pk_mul, pk_shrN (by omega) _ (2 * (cs_le c - 1 - p)) (s_l _ (by omega)), pk_andN (Nat.lt_of_le_of_lt (Nat.div_le_self _ _) (by omega)) 2 (by decide), cy_pow]
  rfl
theorem cy_rs_tab : ∀ c, c < 256 → cs_ok 4 c = true → c ≠ 0 → cs_dg c 0 * 4 ^ (cs_le c - 1) ≤ c := by decide +kernel
theorem cy_code (c a : Nat) : ((nI c * 4) + nI a) + 1 = nI (c * 4 + a + 1) := cx_code c a
theorem cy_k3 (k a : Nat) : nI k * 3 + nI a = nI (k * 3 + a) := by
  rw [show (3 : Int32) = nI 3 from rfl, pk_mul, nI_add]
theorem cy_256 (k c : Nat) : nI k * 256 + nI c = nI (k * 256 + c) := by
  rw [show (256 : Int32) = nI 256 from rfl, pk_mul, nI_add]
theorem cy_one2 : ∀ l, l < 5 → (1 : Int32) <<< (nI l &&& 31) = nI (2 ^ l) := by decide +kernel
theorem cy_btP : ∀ p, p < 16 → ∀ a, a < 8 → bt (nI p) a = p.testBit a := by decide +kernel
theorem cy_n01 : ¬ (0 : Int32) = 1 := by decide
section CYW
variable {g1 g2 g3 g4 g5 : Int32} {tf tn fr nx fa pa : Nat → Int32}
theorem cy_lengthOf {post : Int32 → Prop} {c : Nat} (hc : c < 256) (h : post (nI (cs_le c))) : wpY_lengthOf post (g1, g2, g3, g4, g5, tf, tn, fr, nx, fa, pa) (nI c) := by
  refine pk_eq c 0 (fun z => ?_) (fun z => pk_le 4 c (fun z4 => pk_le 16 c (fun z16 => pk_le 64 c (fun z64 => ?_) (fun z64 => ?_)) (fun z16 => ?_)) (fun z4 => ?_))
  · rw [show cs_le c = 0 from if_pos z] at h
    exact h
  · rw [show cs_le c = 4 from by unfold cs_le; rw [if_neg z, if_neg (by omega), if_neg (by omega), if_neg (by omega)]] at h
    exact h
  · rw [show cs_le c = 3 from by unfold cs_le; rw [if_neg z, if_neg (by omega), if_neg (by omega), if_pos (by omega)]] at h
    exact h
  · rw [show cs_le c = 2 from by unfold cs_le; rw [if_neg z, if_neg (by omega), if_pos (by omega)]] at h
    exact h
  · rw [show cs_le c = 1 from by unfold cs_le; rw [if_neg z, if_pos (by omega)]] at h
    exact h
theorem cy_eventAt {post : Int32 → Prop} {c p : Nat} (hc : c < 256) (hp : p < cs_le c) (h : post (nI (cs_dg c p) - 1)) : wpY_eventAt post (g1, g2, g3, g4, g5, tf, tn, fr, nx, fa, pa) (nI c) (nI p) := by
  unfold wpY_eventAt
  refine cy_lengthOf hc ?_
  rw [cy_ev hc hp]
  exact h
theorem cy_isWord {post : Int32 → Prop} {c : Nat} (hc : c < 256) (h1 : cs_ok 4 c = true → post 1) (h0 : cs_ok 4 c = false → post 0) : wpY_isWord post (g1, g2, g3, g4, g5, tf, tn, fr, nx, fa, pa) (nI c) := by
  unfold wpY_isWord
  refine cy_lengthOf hc ?_
  have h4 := cs_le_4 c
  refine pk_loop (fun n i (_ : Unit) => wY_isWord_8 post (nI c) (nI (cs_le c)) g1 g2 g3 g4 g5 tf tn fr nx fa pa n (nI i)) (fun i _ => ∀ q, q < i → cs_dg c q ≠ 0) (cs_le c) 0 () (by omega) (fun q hq => absurd hq (by omega)) ?_ ?_
  · intro n s e
    exact pk_le (cs_le c) (cs_le c) (fun _ => h1 ((cs_isw_tab c hc).1 e)) (fun z => absurd z (by omega))
  · intro n p s hp e ih
    refine pk_le (cs_le c) p (fun z => absurd z (by omega)) (fun _ => cy_eventAt hc hp ?_)
    have hd : cs_dg c p < 4 := Nat.mod_lt _ (by decide)
    by_cases z : cs_dg c p = 0
    · rw [z]
      refine br_f (by decide) (h0 (ts_nt (fun ho => (cs_isw_tab c hc).2 ho p hp z)))
    · rw [cy_s1 (by omega)]
      refine br_t (nI_pos' (by omega)) (nm_r (nI_1 p) (ih () ?_))
      intro q hq
      rcases Nat.lt_or_ge q p with y | y
      · exact e q y
      · have eq : q = p := by omega
        subst eq
        exact z
theorem cy_ro45 {post : Int32 → Prop} {k a r : Nat} (hk : k < 8) (ha : a < 3) (hr : r < 256) (h : post (cs_YR (nx (k * 3 + a)) (fun b => fa (b * 256 + r)))) : ∃ n, wY_refusalsOf_45 post (nI k) (nI a) (nI r) g1 g2 g3 g4 g5 tf tn fr nx fa pa n 0 0 := by
  refine pk_loop (fun n i s => wY_refusalsOf_45 post (nI k) (nI a) (nI r) g1 g2 g3 g4 g5 tf tn fr nx fa pa n s (nI i)) (fun i s => s = cs_or (fun b => cs_sel (bt (nx (k * 3 + a)) b) (fa (b * 256 + r))) i) 8 0 0 (by omega) rfl ?_ ?_
  · intro n s e
    refine pk_le 8 8 (fun _ => ?_) (fun z => absurd z (by omega))
    rw [show s = cs_YR (nx (k * 3 + a)) (fun b => fa (b * 256 + r)) from e]
    exact h
  · intro n b s hb e ih
    refine pk_le 8 b (fun z => absurd z (by omega)) (fun _ => ?_)
    rw [cy_k3, cy_256, nI_clamp (by omega), nI_clamp (by omega)]
    refine ⟨vp_in_nI (by omega) (by decide), br_c (fun c => ?_) (fun c => ?_)⟩
    · have hc := (cs_hs _ (by omega)).1 c
      exact ⟨vp_in_nI (by omega) (by decide), nm_e (nm_r (nI_1 b) (ih _ (by rw [show s = _ from e]; exact cs_or_t _ b (cs_sel_t _ hc))))⟩
    · have hc := ts_nt (fun g => c ((cs_hs (nx (k * 3 + a)) (by omega)).2 g))
      exact nm_r (nI_1 b) (ih _ (Eq.trans e (cs_or_f _ b (cs_sel_f _ hc))))
theorem cy_refusalsOf {post : Int32 → Prop} {k c : Nat} (hk : k < 8) (hc : c < 256) (ho : cs_ok 4 c = true) (h : post (cs_YV fr nx fa k c)) : wpY_refusalsOf post (g1, g2, g3, g4, g5, tf, tn, fr, nx, fa, pa) (nI k) (nI c) := by
  unfold wpY_refusalsOf
  refine pk_eq c 0 (fun z => ?_) (fun z => ?_)
  · rw [show cs_YV fr nx fa k c = fr k from if_pos z] at h
    refine ⟨vp_in_nI hk (by decide), ?_⟩
    rw [nI_clamp (by omega)]
    exact h
  · rw [show cs_YV fr nx fa k c = _ from if_neg z] at h
    obtain ⟨_, _, hl, hd1, hd3, hle⟩ := cs_rs_tab c hc ho z
    have h4 := cs_le_4 c
    have ht := cy_rs_tab c hc ho z
    refine cy_lengthOf hc (cy_eventAt (p := 0) hc (by omega) ?_)
    rw [cy_s1 hd1]
    refine nm_r (e' := nI (cs_rs c)) ?_ (cy_ro45 hk (by omega) (by omega) h)
    have e4 : cs_dg c 0 * 2 ^ (2 * (cs_le c - 1)) = cs_dg c 0 * 4 ^ (cs_le c - 1) := by rw [cy_pow]
    rw [nI_1, Nat.sub_add_cancel hd1, cy_s1 hle, show (2 : Int32) = nI 2 from rfl, pk_mul, pk_shlN _ (2 * (cs_le c - 1)) (s_l _ (by omega)) (by omega), e4, pk_sub ht]
    rfl
theorem cy_un15 {post : Int32 → Prop} {J5 : Int32 → Int32 → Prop} {x y : Int32} {A m : Nat} (hA : A < 8) (hm : m < 8) (acc : Int32) (hJ : J5 (acc ||| cs_or (fun n => cs_sel (cs_ag A m n && bt x m && bt y n) ((1 : Int32) <<< (nI (m ||| n) &&& 31))) 8) (nI (m + 1))) : ∃ n, wY_united_15 post J5 x y (nI m) g1 g2 g3 (nI A) g5 tf tn fr nx fa pa n acc 0 := by
  refine pk_loop (fun n i s => wY_united_15 post J5 x y (nI m) g1 g2 g3 (nI A) g5 tf tn fr nx fa pa n s (nI i)) (fun i s => s = acc ||| cs_or (fun n => cs_sel (cs_ag A m n && bt x m && bt y n) ((1 : Int32) <<< (nI (m ||| n) &&& 31))) i) 8 0 acc (by omega) (cs_or0 acc).symm ?_ ?_
  · intro n s e
    refine pk_le 8 8 (fun _ => nm_r (nI_1 m) ?_) (fun z => absurd z (by omega))
    rw [show s = _ from e]
    exact hJ
  · intro n i s hi e ih
    have hf : (cs_ag A m i && bt x m && bt y i) = false → wY_united_15 post J5 x y (nI m) g1 g2 g3 (nI A) g5 tf tn fr nx fa pa n s (nI (i + 1)) :=
      fun hb => ih _ (cs_ac_f acc _ i e (cs_sel_f _ hb))
    refine pk_le 8 i (fun z => absurd z (by omega)) (fun _ => br_c (fun c => ?_) (fun c => ?_))
    · have hb := (cs_hs x (by omega)).1 c
      refine br_c (fun d => ?_) (fun d => ?_)
      · have hc := (cs_hs y (by omega)).1 d
        refine br_f cx_n10 (br_c (fun g => ?_) (fun g => ?_))
        · have hg := (cs_agY m hm i hi A hA).1 g
          refine nm_r (e' := s ||| ((1 : Int32) <<< (nI (m ||| i) &&& 31))) (by rw [cs_orN m hm i hi]) (nm_r (nI_1 i) (ih _ ?_))
          exact cs_ac_t acc _ i e (cs_sel_t _ (by rw [hg, hb, hc]; rfl))
        · have hg : cs_ag A m i = false := ts_nt (fun q => g ((cs_agY m hm i hi A hA).2 q))
          exact nm_r (nI_1 i) (hf (by rw [hg, Bool.false_and, Bool.false_and]))
      · have hc := ts_nt (fun g => d ((cs_hs y (by omega)).2 g))
        exact br_t rfl (nm_r (nI_1 i) (hf (by rw [hc, Bool.and_false])))
    · have hb := ts_nt (fun g => c ((cs_hs x (by omega)).2 g))
      exact br_t rfl (nm_r (nI_1 i) (hf (by rw [hb, Bool.and_false, Bool.false_and])))
theorem cy_united {post : Int32 → Prop} {x y : Int32} {A : Nat} (hA : A < 8) (h : post (cs_UR A x y)) : wpY_united post (g1, g2, g3, (nI A), g5, tf, tn, fr, nx, fa, pa) x y := by
  refine pk_loop (fun n i s => wY_united_5 post x y g1 g2 g3 (nI A) g5 tf tn fr nx fa pa n s (nI i)) (fun i s => s = cs_or (fun m => cs_or (fun n => cs_sel (cs_ag A m n && bt x m && bt y n) ((1 : Int32) <<< (nI (m ||| n) &&& 31))) 8) i) 8 0 0 (by omega) rfl ?_ ?_
  · intro n s e
    refine pk_le 8 8 (fun _ => ?_) (fun z => absurd z (by omega))
    rw [show s = cs_UR A x y from e]
    exact h
  · intro n i s hi e ih
    refine pk_le 8 i (fun z => absurd z (by omega)) (fun _ => cy_un15 hA hi s (ih _ ?_))
    rw [show s = _ from e]
    exact cs_or_t _ i rfl
def cy_sec (sec : Bool) : Int32 := cond sec 1 0
theorem cy_partOf {post : Int32 → Prop} {A c pt : Nat} (sec : Bool) (hA : A < 8) (hc : c < 256) (ho : cs_ok 4 c = true) (hpt : pt < 16) (h : post (nI (cs_cd (cs_pa A pt sec (cs_dw 4 c))))) : wpY_partOf post (g1, g2, g3, (nI A), g5, tf, tn, fr, nx, fa, pa) (nI c) (nI pt) (cy_sec sec) := by
  unfold wpY_partOf
  refine cy_lengthOf hc ?_
  have h4 := cs_le_4 c
  refine pk_loop (fun n i s => wY_partOf_13 post (nI c) (nI pt) (cy_sec sec) (nI (cs_le c)) g1 g2 g3 (nI A) g5 tf tn fr nx fa pa n s (nI i)) (fun i s => s = nI (cs_cd (cs_pa A pt sec (cs_dw 4 (cs_px c i))))) (cs_le c) 0 0 (by omega) ?_ ?_ ?_
  · rw [cs_px_0 c hc]
    rfl
  · intro n s e
    refine pk_le (cs_le c) (cs_le c) (fun _ => ?_) (fun z => absurd z (by omega))
    rw [show s = _ from e, cs_px_l]
    exact h
  · intro n p s hp e ih
    obtain ⟨e1, e2, hd1, hd3⟩ := cs_px_tab c hc ho p hp
    have hin : A.testBit (cs_dg c p - 1) = true ∨ pt.testBit (cs_dw 4 (cs_px c p)).length = sec → wY_partOf_73 post (wY_partOf_13 post (nI c) (nI pt) (cy_sec sec) (nI (cs_le c)) g1 g2 g3 (nI A) g5 tf tn fr nx fa pa n) (nI c) (nI pt) (cy_sec sec) (nI (cs_le c)) s (nI p) (nI (cs_dg c p - 1)) g1 g2 g3 (nI A) g5 tf tn fr nx fa pa := by
      intro hb
      refine nm_r (e' := nI (cs_cd (cs_pa A pt sec (cs_dw 4 (cs_px c (p + 1)))))) ?_ (nm_r (nI_1 p) (ih _ rfl))
      rw [e1, cs_pa_t hb, show s = _ from e, cx_code]
      rfl
    have hout : A.testBit (cs_dg c p - 1) = false → pt.testBit (cs_dw 4 (cs_px c p)).length = (!sec) → wY_partOf_13 post (nI c) (nI pt) (cy_sec sec) (nI (cs_le c)) g1 g2 g3 (nI A) g5 tf tn fr nx fa pa n s (nI (p + 1)) := by
      intro h1 h2
      refine ih _ ?_
      rw [e1, cs_pa_f h1 h2]
      exact e
    rw [e2] at hin hout
    refine pk_le (cs_le c) p (fun z => absurd z (by omega)) (fun _ => cy_eventAt hc hp ?_)
    rw [cy_s1 hd1]
    refine br_c (fun g => ?_) (fun g => ?_)
    · have hb := (cs_hs (nI A) (by omega)).1 g
      rw [cs_btN A hA _ (by omega)] at hb
      exact br_f cx_n10 (hin (Or.inl hb))
    · have hb := ts_nt (fun q => g ((cs_hs (nI A) (by omega)).2 q))
      rw [cs_btN A hA _ (by omega)] at hb
      refine br_t rfl (br_c (fun g2 => ?_) (fun g2 => ?_))
      · have hp2 := (cs_hs (nI pt) (by omega)).1 g2
        rw [cy_btP pt hpt p (by omega)] at hp2
        cases sec
        · exact br_f cx_n10 (nm_r (nI_1 p) (hout hb hp2))
        · exact br_t rfl (hin (Or.inr hp2))
      · have hp2 := ts_nt (fun q => g2 ((cs_hs (nI pt) (by omega)).2 q))
        rw [cy_btP pt hpt p (by omega)] at hp2
        cases sec
        · exact br_t rfl (hin (Or.inr hp2))
        · exact br_f cy_n01 (nm_r (nI_1 p) (hout hb hp2))
theorem cy_pairRef {post : Int32 → Prop} {A i j c : Nat} (hA : A < 8) (hi : i < 8) (hj : j < 8) (hc : c < 256) (ho : cs_ok 4 c = true) (h : post (cs_YW A i j fa c)) : wpY_pairRefusals post (g1, (nI i), (nI j), (nI A), g5, tf, tn, fr, nx, fa, pa) (nI c) := by
  unfold wpY_pairRefusals
  refine cy_lengthOf hc ?_
  have h4 := cs_le_4 c
  have hW := cs_dwW hc ho
  have hl := cs_le_tab c hc ho
  have h16 : 2 ^ cs_le c ≤ 2 ^ 4 := Nat.pow_le_pow_right (by decide) h4
  refine pk_loop (fun n i' s => wY_pairRefusals_11 post (nI c) (nI (cs_le c)) g1 (nI i) (nI j) (nI A) g5 tf tn fr nx fa pa n s (nI i')) (fun pt s => s = cs_or (fun pt => cs_UR A (fa (i * 256 + cs_cd (cs_pa A pt false (cs_dw 4 c)))) (fa (j * 256 + cs_cd (cs_pa A pt true (cs_dw 4 c))))) pt) (2 ^ cs_le c) 0 0 (Nat.zero_le _) rfl ?_ ?_
  · intro n s e
    refine pk_le (2 ^ cs_le c) (2 ^ cs_le c) (fun _ => ?_) (fun z => absurd z (by omega)) (cy_one2 _ (by omega))
    rw [show s = _ from e, hl]
    exact h
  · intro n pt s hpt e ih
    have hs1 := cs_cd_lt (cs_pa_W A pt false hW)
    have hs2 := cs_cd_lt (cs_pa_W A pt true hW)
    refine pk_le (2 ^ cs_le c) pt (fun z => absurd z (by omega)) (fun _ => ?_) (cy_one2 _ (by omega))
    refine cy_partOf false hA hc ho (by omega) (cy_partOf true hA hc ho (by omega) ?_)
    rw [cy_256, cy_256]
    refine ⟨vp_in_nI (by omega) (by decide), nm_r (congrArg fa (nI_clamp (by omega))) ⟨vp_in_nI (by omega) (by decide), nm_r (congrArg fa (nI_clamp (by omega))) (br_c (fun z => ?_) (fun _ => br_c (fun z => ?_) (fun _ => ?_)))⟩⟩
    · refine nm_r (nI_1 pt) (ih _ (Eq.trans e (cs_or_f _ pt ?_)))
      show cs_UR A _ _ = 0
      rw [z, cs_UR_l0]
    · refine nm_r (nI_1 pt) (ih _ (Eq.trans e (cs_or_f _ pt ?_)))
      show cs_UR A _ _ = 0
      rw [z, cs_UR_r0]
    · refine cy_united hA (nm_e (nm_r (nI_1 pt) (ih _ ?_)))
      rw [show s = _ from e]
      exact cs_or_t _ pt rfl
theorem cy_li17 {post : SY → Prop} {J2 : Int32 → (Nat → Int32) → (Nat → Int32) → (Nat → Int32) → (Nat → Int32) → (Nat → Int32) → (Nat → Int32) → Prop} {t : Nat → Int32} {c : Nat} {r : Int32} (hT : ∀ k, k < 8 → cs_TR (t k) (fr k) (fun a => nx (k * 3 + a))) (hc : c < 256) (hr : (r = 0 ∧ cs_ok 4 c = false) ∨ (r = 1 ∧ cs_ok 4 c = true)) (h0 : ∀ c', c' < c → ∀ b, b < 8 → cs_YF t b c' (fa (b * 256 + c'))) (hJ : ∀ F, (∀ c', c' < c + 1 → ∀ b, b < 8 → cs_YF t b c' (F (b * 256 + c'))) → J2 (nI (c + 1)) tf tn fr nx F pa) : ∃ n, wY_list_17 post J2 (nI c) r g1 g2 g3 g4 g5 n 0 tf tn fr nx fa pa := by
  refine pk_loop (fun n i s => wY_list_17 post J2 (nI c) r g1 g2 g3 g4 g5 n (nI i) tf tn fr nx s pa) (fun k s => (∀ c', c' < c → ∀ b, b < 8 → cs_YF t b c' (s (b * 256 + c'))) ∧ ∀ b, b < k → cs_YF t b c (s (b * 256 + c))) 8 0 fa (by omega) ⟨h0, fun b hb => absurd hb (by omega)⟩ ?_ ?_
  · intro n s e
    refine pk_le 8 8 (fun _ => nm_r (nI_1 c) (hJ s ?_)) (fun z => absurd z (by omega))
    intro c' hc' b hb
    rcases Nat.lt_or_ge c' c with z | z
    · exact e.1 c' z b hb
    · have ec : c' = c := by omega
      subst ec
      exact e.2 b hb
  · intro n k s hk e ih
    have key : ∀ v, cs_YF t k c v → wY_list_17 post J2 (nI c) r g1 g2 g3 g4 g5 n (nI (k + 1)) tf tn fr nx (upd s (k * 256 + c) v) pa := by
      intro v hv
      refine ih _ ⟨?_, ?_⟩
      · intro c' hc' b hb
        rw [pk_un (by omega)]
        exact e.1 c' hc' b hb
      · intro b hb
        rcases Nat.lt_or_ge b k with z | z
        · rw [pk_un (by omega)]
          exact e.2 b z
        · have eb : b = k := by omega
          subst eb
          rw [pk_us]
          exact hv
    refine pk_le 8 k (fun z => absurd z (by omega)) (fun _ => ?_)
    rw [cy_256]
    rcases hr with ⟨hr, ho⟩ | ⟨hr, ho⟩
    · refine br_t hr ⟨vp_in_nI (by omega) (by decide), nm_r (e' := upd s (k * 256 + c) 0) (by rw [nI_clamp (by omega)]) (nm_r (nI_1 k) (key 0 ⟨fun z => ?_, fun _ => rfl⟩))⟩
      rw [ho] at z
      exact nomatch z
    · refine br_f (by rw [hr]; exact cx_n10) (cy_refusalsOf hk hc ho ⟨vp_in_nI (by omega) (by decide), nm_r (e' := upd s (k * 256 + c) (cs_YV fr nx s k c)) (by rw [nI_clamp (by omega)]) (nm_r (nI_1 k) (key _ ⟨fun _ => ?_, fun z => ?_⟩))⟩)
      · exact cs_YF_v hk (hT k hk) hc ho e.1
      · rw [ho] at z
        exact nomatch z
theorem cy_li63 {post : SY → Prop} {t : Nat → Int32} {A i j : Nat} (hA : A < 8) (hi : i < 8) (hj : j < 8) (hF : cs_YFs t fa) (h : ∀ P, cs_YSs t A i j P → post (g1, (nI i), (nI j), (nI A), g5, tf, tn, fr, nx, fa, P)) : ∃ n, wY_list_63 post g1 (nI i) (nI j) (nI A) g5 n 0 tf tn fr nx fa pa := by
  refine pk_loop (fun n i' s => wY_list_63 post g1 (nI i) (nI j) (nI A) g5 n (nI i') tf tn fr nx fa s) (fun c s => ∀ c', c' < c → cs_YS t A i j c' (s c')) 256 0 pa (by omega) (fun c' hc' => absurd hc' (by omega)) ?_ ?_
  · intro n s e
    exact pk_le 256 256 (fun _ => h s e) (fun z => absurd z (by omega))
  · intro n c s hc e ih
    have key : ∀ v, cs_YS t A i j c v → wY_list_63 post g1 (nI i) (nI j) (nI A) g5 n (nI (c + 1)) tf tn fr nx fa (upd s c v) := by
      intro v hv
      refine ih _ ?_
      intro c' hc'
      rcases Nat.lt_or_ge c' c with z | z
      · rw [pk_un (by omega)]
        exact e c' z
      · have ec : c' = c := by omega
        subst ec
        rw [pk_us]
        exact hv
    refine pk_le 256 c (fun z => absurd z (by omega)) (fun _ => cy_isWord hc (fun ho => ?_) (fun ho => ?_))
    · refine br_f cx_n10 (cy_pairRef hA hi hj hc ho ⟨vp_in_nI (by omega) (by decide), nm_r (e' := upd s c (cs_YW A i j fa c)) (by rw [nI_clamp (by omega)]) (nm_r (nI_1 c) (key _ ⟨fun _ => cs_YS_v hi hj hc ho hF, fun z => ?_⟩))⟩)
      rw [ho] at z
      exact nomatch z
    · refine br_t rfl ⟨vp_in_nI (by omega) (by decide), nm_r (e' := upd s c 0) (by rw [nI_clamp (by omega)]) (nm_r (nI_1 c) (key 0 ⟨fun z => ?_, fun _ => rfl⟩))⟩
      rw [ho] at z
      exact nomatch z
theorem cy_list {post : SY → Prop} {t : Nat → Int32} {A i j : Nat} (hA : A < 8) (hi : i < 8) (hj : j < 8) (hT : ∀ k, k < 8 → cs_TR (t k) (fr k) (fun a => nx (k * 3 + a))) (h : ∀ F P, cs_YFs t F → cs_YSs t A i j P → post (g1, (nI i), (nI j), (nI A), g5, tf, tn, fr, nx, F, P)) : wpY_list post (g1, (nI i), (nI j), (nI A), g5, tf, tn, fr, nx, fa, pa) := by
  refine pk_loop (fun n i' s => wY_list_2 post g1 (nI i) (nI j) (nI A) g5 n (nI i') tf tn fr nx s pa) (fun c s => ∀ c', c' < c → ∀ b, b < 8 → cs_YF t b c' (s (b * 256 + c'))) 256 0 fa (by omega) (fun c' hc' => absurd hc' (by omega)) ?_ ?_
  · intro n s e
    exact pk_le 256 256 (fun _ => cy_li63 hA hi hj e (fun P hP => h s P e hP)) (fun z => absurd z (by omega))
  · intro n c s hc e ih
    refine pk_le 256 c (fun z => absurd z (by omega)) (fun _ => cy_isWord hc (fun ho => ?_) (fun ho => ?_))
    · exact cy_li17 hT hc (Or.inr ⟨rfl, ho⟩) e (fun F hF => ih F hF)
    · exact cy_li17 hT hc (Or.inl ⟨rfl, ho⟩) e (fun F hF => ih F hF)
end CYW
end
section
/-! ===== the relation ===== -/
def cs_K (D i j A : Nat) (l : List Nat) (stk tm co le nf sf tf tn fr nx : Nat → Int32) : Prop :=
  D ≤ 6 ∧ i < 8 ∧ j < 8 ∧ A < 8 ∧ cs_Wd l ∧ (∀ s, s < D → cs_TR (stk s) (tf s) (fun a => tn (s * 3 + a))) ∧ (∀ k, k < 8 → cs_TR (tm k) (fr k) (fun a => nx (k * 3 + a))) ∧ cs_XC co le ∧ cs_XF tm nf ∧ cs_XS tm A i j sf
/-- the same stack, names, system and log; X's tables hold the failures; nothing of Y's tables, it lists them anew -/
def i_Rel (_ : Nat) (u : SX) (v : SY) : Prop :=
  ∃ (D i j A : Nat) (l : List Nat) (stk tm co le nr nf : Nat → Int32) (pp : Nat → Int64) (pr sf tf tn fr nx fa pa : Nat → Int32),
    u = ((nI D), (nI i), (nI j), (nI A), (nI (cs_ix l)), stk, tm, co, le, nr, nf, pp, pr, sf) ∧ v = ((nI D), (nI i), (nI j), (nI A), (nI (cs_cd l)), tf, tn, fr, nx, fa, pa) ∧ cs_K D i j A l stk tm co le nf sf tf tn fr nx
theorem i_up {k : Nat} {u : SX} {v : SY} (h : i_Rel k u v) : i_Rel (k + 4) u v := h
theorem cs_mkR {k D i j A : Nat} {l : List Nat} {stk tm co le nr nf : Nat → Int32} {pp : Nat → Int64} {pr sf tf tn fr nx fa pa : Nat → Int32} (h : cs_K D i j A l stk tm co le nf sf tf tn fr nx) : i_Rel k ((nI D), (nI i), (nI j), (nI A), (nI (cs_ix l)), stk, tm, co, le, nr, nf, pp, pr, sf) ((nI D), (nI i), (nI j), (nI A), (nI (cs_cd l)), tf, tn, fr, nx, fa, pa) :=
  ⟨D, i, j, A, l, stk, tm, co, le, nr, nf, pp, pr, sf, tf, tn, fr, nx, fa, pa, rfl, rfl, h⟩
theorem cs_TR_c {x f : Int32} {F G : Nat → Int32} (h : cs_TR x f F) (e : ∀ a, a < 3 → G a = F a) : cs_TR x f G :=
  ⟨h.1, fun a ha b => by rw [e a ha]; exact h.2 a ha b⟩
/-- an argument: below, above, or within -/
theorem cs_rng (v : Int32) (n : Nat) (hn : n < 2 ^ 31) : v < 0 ∨ (¬ v < 0 ∧ nI n ≤ v) ∨ ∃ j : Nat, j < n ∧ v = nI j := by
  rcases pk_ix v hn with h | h | h
  · exact Or.inl h
  · exact Or.inr (Or.inl ⟨Int32.not_lt.mpr (Int32.le_trans (nI_pos' hn) h), h⟩)
  · exact Or.inr (Or.inr h)
theorem cs_up {v : Int32} {m : Int32} {n : Nat} (h : nI n ≤ v) (hm : m < nI n) : m < v := by
  rw [Int32.lt_iff_toInt_lt] at *
  rw [Int32.le_iff_toInt_le] at h
  omega
theorem cs_nle {v : Int32} {m : Int32} {n : Nat} (h : nI n ≤ v) (hm : m < nI n) : ¬ v ≤ m := by
  have := cs_up h hm
  rw [Int32.lt_iff_toInt_lt] at this
  rw [Int32.le_iff_toInt_le]
  omega
/-! ===== making both ===== -/
theorem cx_init {post : SX → Prop} (h : ∀ (tm C L N T : Nat → Int32) (P : Nat → Int64) (Q S : Nat → Int32), (∀ k, k < 8 → tm k = 255) → cs_XC C L → cs_XF tm T → cs_XS tm 7 0 0 S → post (0, 0, 0, 7, 0, (fun _ => 0), tm, C, L, N, T, P, Q, S)) : wpX_init post := by
  refine pk_loop (fun n i s => wX_init_84 post 0 0 0 0 0 n (nI i) (fun _ => 0) s (fun _ => 0) (fun _ => 0) (fun _ => 0) (fun _ => 0) (fun _ => 0) (fun _ => 0) (fun _ => 0)) (fun i s => ∀ k, k < i → s k = 255) 8 0 (fun _ => 0) (by omega) (fun k hk => absurd hk (by omega)) ?_ ?_
  · intro n s e
    refine pk_le 8 8 (fun _ => ?_) (fun z => absurd z (by omega))
    refine cx_measure rfl rfl (fun C L hC => cx_followNames (fun N T hT => ?_))
    exact cx_followSystem (A := 7) (i := 0) (j := 0) (by decide) (by decide) (by decide) (fun P Q S hS => h s C L N T P Q S e hC hT hS)
  · intro n k s hk e ih
    refine pk_le 8 k (fun z => absurd z (by omega)) (fun _ => ⟨vp_in_nI hk (by decide), nm_r (e' := upd s k 255) (by rw [nI_clamp (by omega)]) (nm_r (nI_1 k) (ih _ ?_))⟩)
    intro d hd
    rcases Nat.lt_or_ge d k with z | z
    · rw [pk_un (by omega)]
      exact e d z
    · have ed : d = k := by omega
      subst ed
      exact pk_us
theorem cy_init {post : SY → Prop} (h : ∀ fr : Nat → Int32, (∀ k, k < 8 → fr k = 255) → post (0, 0, 0, 7, 0, (fun _ => 0), (fun _ => 0), fr, (fun _ => 0), (fun _ => 0), (fun _ => 0))) : wpY_init post := by
  refine pk_loop (fun n i s => wY_init_56 post 0 0 0 0 0 n (nI i) (fun _ => 0) (fun _ => 0) s (fun _ => 0) (fun _ => 0) (fun _ => 0)) (fun i s => ∀ k, k < i → s k = 255) 8 0 (fun _ => 0) (by omega) (fun k hk => absurd hk (by omega)) ?_ ?_
  · intro n s e
    exact pk_le 8 8 (fun _ => h s e) (fun z => absurd z (by omega))
  · intro n k s hk e ih
    refine pk_le 8 k (fun z => absurd z (by omega)) (fun _ => ⟨vp_in_nI hk (by decide), nm_r (e' := upd s k 255) (by rw [nI_clamp (by omega)]) (nm_r (nI_1 k) (ih _ ?_))⟩)
    intro d hd
    rcases Nat.lt_or_ge d k with z | z
    · rw [pk_un (by omega)]
      exact e d z
    · have ed : d = k := by omega
      subst ed
      exact pk_us
theorem i_vc0 : wpX_init (fun u => wpY_init (fun v => i_Rel 0 u v)) := by
  refine cx_init (fun tm C L N T P Q S h1 hC hT hS => cy_init (fun fr h2 => ?_))
  refine cs_mkR (k := 0) (D := 0) (i := 0) (j := 0) (A := 7) (l := []) ⟨by decide, by decide, by decide, by decide, cs_Wd_0, fun s hs => absurd hs (by omega), fun k hk => ?_, hC, hT, hS⟩
  rw [h1 k hk, h2 k hk]
  exact cs_TR_stop
section CSV
variable {f1 f2 f3 f4 f5 : Int32} {stk tm co le nr nf : Nat → Int32} {pp : Nat → Int64} {pr sf : Nat → Int32}
variable {g1 g2 g3 g4 g5 : Int32} {tf tn fr nx fa pa : Nat → Int32}
/-! ===== the stack ===== -/
theorem cx_push {post : Int32 → SX → Prop} {D : Nat} {x : Int32} (hD : D ≤ 6) (h1 : D < 6 → post (nI (D + 1)) ((nI (D + 1)), f2, f3, f4, f5, (upd stk D x), tm, co, le, nr, nf, pp, pr, sf)) (h2 : D = 6 → post (-2) ((nI D), f2, f3, f4, f5, stk, tm, co, le, nr, nf, pp, pr, sf)) : wpX_push post ((nI D), f2, f3, f4, f5, stk, tm, co, le, nr, nf, pp, pr, sf) x :=
  pk_lt D 6 (fun z => ⟨vp_in_nI z (by decide), nm_r (e' := upd stk D x) (by rw [nI_clamp (by omega)]) (nm_r (nI_1 D) (h1 z))⟩) (fun z => h2 (by omega))
def cy_p3 (tn : Nat → Int32) (D : Nat) : Nat → Int32 := upd (upd (upd tn (D * 3) 0) (D * 3 + 1) 0) (D * 3 + 2) 0
theorem cy_p3_o {tn : Nat → Int32} {D m : Nat} (h : m < D * 3) : cy_p3 tn D m = tn m := by
  unfold cy_p3
  rw [pk_un (by omega), pk_un (by omega), pk_un (by omega)]
theorem cy_p3_n {tn : Nat → Int32} {D a : Nat} (h : a < 3) : cy_p3 tn D (D * 3 + a) = 0 := by
  unfold cy_p3
  have : a = 0 ∨ a = 1 ∨ a = 2 := by omega
  rcases this with e | e | e
  · subst e
    rw [pk_un (by omega), pk_un (by omega)]
    exact pk_us
  · subst e
    rw [pk_un (by omega)]
    exact pk_us
  · subst e
    exact pk_us
theorem cy_m3 (D : Nat) : nI D * 3 = nI (D * 3) := by rw [show (3 : Int32) = nI 3 from rfl, pk_mul]
theorem cy_push {post : Int32 → SY → Prop} {D : Nat} {x : Int32} (hD : D < 6) (h : post (nI (D + 1)) ((nI (D + 1)), g2, g3, g4, g5, (upd tf D x), (cy_p3 tn D), fr, nx, fa, pa)) : wpY_push post ((nI D), g2, g3, g4, g5, tf, tn, fr, nx, fa, pa) x := by
  unfold wpY_push
  dsimp only
  rw [cy_m3, nI_1 (D * 3), show nI (D * 3) + 2 = nI (D * 3 + 2) from nI_add _ 2, nI_clamp (show D < 2 ^ 31 by omega), nI_clamp (show D * 3 < 2 ^ 31 by omega), nI_clamp (show D * 3 + 1 < 2 ^ 31 by omega), nI_clamp (show D * 3 + 2 < 2 ^ 31 by omega)]
  exact ⟨vp_in_nI hD (by decide), nm_e ⟨vp_in_nI (by omega) (by decide), nm_e ⟨vp_in_nI (by omega) (by decide), nm_e ⟨vp_in_nI (by omega) (by decide), nm_e (nm_r (nI_1 D) h)⟩⟩⟩⟩
theorem cs_stk {D : Nat} (h : ∀ s, s < D → cs_TR (stk s) (tf s) (fun a => tn (s * 3 + a))) {x f : Int32} {tn' : Nat → Int32} (ho : ∀ m, m < D * 3 → tn' m = tn m) (hn : cs_TR x f (fun a => tn' (D * 3 + a))) : ∀ s, s < D + 1 → cs_TR (upd stk D x s) (upd tf D f s) (fun a => tn' (s * 3 + a)) := by
  intro s hs
  rcases Nat.lt_or_ge s D with z | z
  · rw [pk_un (by omega), pk_un (by omega)]
    exact cs_TR_c (h s z) (fun a ha => ho _ (by omega))
  · have e : s = D := by omega
    subst e
    rw [pk_us, pk_us]
    exact hn
end CSV
theorem i_vc_stop {k : Nat} {u : SX} {v : SY} (I : i_Rel k u v) (hk : k + 4 ≤ 2048) : wpX_stop (fun r u' => wpY_stop (fun r' v' => r' = r ∧ i_Rel (k + 4) u' v') v) u := by
  obtain ⟨D, i, j, A, l, stk, tm, co, le, nr, nf, pp, pr, sf, tf, tn, fr, nx, fa, pa, rfl, rfl, hD, hi, hj, hA, hl, hs, hT, hC, hF, hS⟩ := I
  unfold wpX_stop
  refine cx_push hD (fun z => ?_) (fun z => ?_)
  · refine pk_eq D 6 (fun y => absurd y (by omega)) (fun _ => cy_push z ⟨rfl, cs_mkR ⟨by omega, hi, hj, hA, hl, ?_, hT, hC, hF, hS⟩⟩)
    refine cs_stk hs (fun m hm => cy_p3_o hm) (cs_TR_c cs_TR_stop (fun a ha => cy_p3_n ha))
  · refine pk_eq D 6 (fun y => ⟨rfl, cs_mkR ⟨hD, hi, hj, hA, hl, hs, hT, hC, hF, hS⟩⟩) (fun y => absurd z y)
end
section
/-! ===== pre, ext, hid, depth, define, system ===== -/
theorem cx_isE0 {post : Int32 → Prop} {v : Int32} (h : v < 0) (hp : post 0) : wpX_isEvent post v := br_t h hp
theorem cx_isE1 {post : Int32 → Prop} {v : Int32} (h : ¬ v < 0) (h3 : nI 3 ≤ v) (hp : post 0) : wpX_isEvent post v := br_f h (br_t h3 hp)
theorem cx_isE2 {post : Int32 → Prop} {a : Nat} (h : a < 3) (hp : post 1) : wpX_isEvent post (nI a) := br_f (nI_pos (by omega)) (br_f (nI_ge (b := 3) h (by decide)) hp)
theorem cx_isN0 {post : Int32 → Prop} {v : Int32} (h : v < 0) (hp : post 0) : wpX_isName post v := br_t h hp
theorem cx_isN1 {post : Int32 → Prop} {v : Int32} (h : ¬ v < 0) (h3 : nI 8 ≤ v) (hp : post 0) : wpX_isName post v := br_f h (br_t h3 hp)
theorem cx_isN2 {post : Int32 → Prop} {a : Nat} (h : a < 8) (hp : post 1) : wpX_isName post (nI a) := br_f (nI_pos (by omega)) (br_f (nI_ge (b := 8) h (by decide)) hp)
theorem cx_isS0 {post : Int32 → Prop} {v : Int32} (h : v < 0) (hp : post 0) : wpX_isSet post v := br_t h hp
theorem cx_isS1 {post : Int32 → Prop} {v : Int32} (h : ¬ v < 0) (h3 : nI 8 ≤ v) (hp : post 0) : wpX_isSet post v := br_f h (br_t h3 hp)
theorem cx_isS2 {post : Int32 → Prop} {a : Nat} (h : a < 8) (hp : post 1) : wpX_isSet post (nI a) := br_f (nI_pos (by omega)) (br_f (nI_ge (b := 8) h (by decide)) hp)
def cs_pre (a : Nat) (R : Nat) : Int32 := cs_sel (!(bt (nI R) a)) ((1 : Int32) <<< (nI R &&& 31))
theorem cs_pre_8 : ∀ a, a < 3 → cs_or (cs_pre a) 8 = cs_pf a := by decide +kernel
theorem cs_pre_a : ∀ a, a < 3 → ∀ i, i < 8 → cs_or (cs_pre a) i + ((1 : Int32) <<< (nI i &&& 31)) = cs_or (cs_pre a) i ||| ((1 : Int32) <<< (nI i &&& 31)) := by decide +kernel
theorem cx_8ak (a k : Nat) : ((8 : Int32) + 8 * nI a) + nI k = nI (8 + 8 * a + k) := by rw [cx_88, nI_add]
section CSW
variable {f1 f2 f3 f4 f5 : Int32} {stk tm co le nr nf : Nat → Int32} {pp : Nat → Int64} {pr sf : Nat → Int32}
variable {g1 g2 g3 g4 g5 : Int32} {tf tn fr nx fa pa : Nat → Int32}
theorem cx_pre21 {post : Int32 → SX → Prop} {a k : Nat} (ha : a < 3) (h : wpX_push post (f1, f2, f3, f4, f5, stk, tm, co, le, nr, nf, pp, pr, sf) (cs_pf a ||| ((1 : Int32) <<< (nI (8 + 8 * a + k) &&& 31)))) : ∃ n, wX_pre_21 post (nI a) (nI k) f1 f2 f3 f4 f5 stk tm co le nr nf pp pr sf n 0 0 := by
  refine pk_loop (fun n i s => wX_pre_21 post (nI a) (nI k) f1 f2 f3 f4 f5 stk tm co le nr nf pp pr sf n s (nI i)) (fun i s => s = cs_or (cs_pre a) i) 8 0 0 (by omega) rfl ?_ ?_
  · intro n s e
    refine pk_le 8 8 (fun _ => nm_r (e' := (1 : Int32) <<< (nI (8 + 8 * a + k) &&& 31)) (by rw [cx_8ak]) ?_) (fun z => absurd z (by omega))
    rw [show s = _ from e, cs_pre_8 a ha]
    exact h
  · intro n i s hi e ih
    refine pk_le 8 i (fun z => absurd z (by omega)) (fun _ => cx_hasBit (by omega) (fun hb => ?_) (fun hb => ?_))
    · refine br_t rfl (nm_e (nm_r (nI_1 i) (ih _ ?_)))
      rw [show s = _ from e]
      exact cs_or_t _ i (cs_sel_t _ (by rw [hb]; rfl))
    · refine br_f cx_n10 (nm_r (nI_1 i) (ih _ ?_))
      exact Eq.trans e (cs_or_f _ i (cs_sel_f _ (by rw [hb]; rfl)))
theorem cy_pre38 {post : Int32 → SY → Prop} {a k D : Nat} (ha : a < 3) (hD : D < 6) (h : post (nI (D + 1)) ((nI (D + 1)), g2, g3, g4, g5, (upd tf D (cs_pf a)), (upd (cy_p3 tn D) (D * 3 + a) ((1 : Int32) <<< (nI k &&& 31))), fr, nx, fa, pa)) : ∃ n, wY_pre_38 post (nI a) (nI k) (nI D) g2 g3 g4 g5 tf tn fr nx fa pa n 0 0 := by
  refine pk_loop (fun n i s => wY_pre_38 post (nI a) (nI k) (nI D) g2 g3 g4 g5 tf tn fr nx fa pa n s (nI i)) (fun i s => s = cs_or (cs_pre a) i) 8 0 0 (by omega) rfl ?_ ?_
  · intro n s e
    refine pk_le 8 8 (fun _ => cy_push hD ?_) (fun z => absurd z (by omega))
    dsimp only
    rw [nI_pred, cy_k3, nI_clamp (by omega), show s = _ from e, cs_pre_8 a ha]
    exact ⟨vp_in_nI (by omega) (by decide), nm_e h⟩
  · intro n i s hi e ih
    refine pk_le 8 i (fun z => absurd z (by omega)) (fun _ => br_c (fun c => ?_) (fun c => ?_))
    · have hb := (cs_hs0 _ (by omega)).1 c
      refine nm_e (nm_r (nI_1 i) (ih _ ?_))
      rw [show s = _ from e, cs_pre_a a ha i hi]
      exact cs_or_t _ i (cs_sel_t _ (by rw [hb]; rfl))
    · have hb := ts_nf (fun g => c ((cs_hs0 (nI i) (by omega)).2 g))
      refine nm_r (nI_1 i) (ih _ ?_)
      exact Eq.trans e (cs_or_f _ i (cs_sel_f _ (by rw [hb]; rfl)))
/-! two terms joined -/
theorem cx_replace {post : Int32 → SX → Prop} {E : Nat} {x : Int32} (hE : E + 2 ≤ 6) (h : post (nI (E + 1)) ((nI (E + 1)), f2, f3, f4, f5, (upd stk E x), tm, co, le, nr, nf, pp, pr, sf)) : wpX_replaceTopTwo post ((nI (E + 2)), f2, f3, f4, f5, stk, tm, co, le, nr, nf, pp, pr, sf) x := by
  unfold wpX_replaceTopTwo
  refine nm_r (nI_pred (E + 1)) ?_
  rw [nI_pred, nI_clamp (by omega)]
  exact ⟨vp_in_nI (by omega) (by decide), nm_e h⟩
theorem cx_m2 (E : Nat) : nI (E + 2) - 2 = nI E := pk_sub (a := E + 2) (b := 2) (by omega)
theorem cx_m1 (E : Nat) : nI (E + 2) - 1 = nI (E + 1) := nI_pred (E + 1)
theorem cy_join {post : Int32 → SY → Prop} {E : Nat} {x : Int32} (hE : E + 2 ≤ 6) (h : ∀ T, (∀ m, m < E * 3 → T m = tn m) → (∀ a, a < 3 → T (E * 3 + a) = tn (E * 3 + a) ||| tn ((E + 1) * 3 + a)) → post (nI (E + 1)) ((nI (E + 1)), g2, g3, g4, g5, (upd tf E x), T, fr, nx, fa, pa)) : wpY_join post ((nI (E + 2)), g2, g3, g4, g5, tf, tn, fr, nx, fa, pa) x := by
  unfold wpY_join
  dsimp only
  rw [cx_m2, nI_clamp (by omega)]
  refine ⟨vp_in_nI (by omega) (by decide), nm_e ?_⟩
  refine pk_loop (fun n i s => wY_join_14 post (nI (E + 2)) g2 g3 g4 g5 n (nI i) (upd tf E x) s fr nx fa pa) (fun a s => (∀ m, m < E * 3 ∨ E * 3 + a ≤ m → s m = tn m) ∧ ∀ b, b < a → s (E * 3 + b) = tn (E * 3 + b) ||| tn ((E + 1) * 3 + b)) 3 0 tn (by omega) ⟨fun m _ => rfl, fun b hb => absurd hb (by omega)⟩ ?_ ?_
  · intro n s e
    exact pk_le 3 3 (fun _ => nm_r (cx_m1 E) (h s (fun m hm => e.1 m (Or.inl hm)) e.2)) (fun z => absurd z (by omega))
  · intro n a s ha e ih
    refine pk_le 3 a (fun z => absurd z (by omega)) (fun _ => ?_)
    refine nm_r (e' := nI (E * 3 + a)) (by rw [cx_m2, cy_k3]) ?_
    rw [show nI (E * 3 + a) + 3 = nI ((E + 1) * 3 + a) from (nI_add _ 3).trans (congrArg nI (by omega))]
    refine ⟨vp_in_nI (by omega) (by decide), vp_in_nI (by omega) (by decide), vp_in_nI (by omega) (by decide), ?_⟩
    refine nm_r (e' := upd s (E * 3 + a) (tn (E * 3 + a) ||| tn ((E + 1) * 3 + a))) ?_ (nm_r (nI_1 a) (ih _ ⟨?_, ?_⟩))
    · rw [nI_clamp (by omega), nI_clamp (by omega), e.1 (E * 3 + a) (Or.inr (by omega)), e.1 ((E + 1) * 3 + a) (Or.inr (by omega))]
    · intro m hm
      rw [pk_un (by omega)]
      exact e.1 m (by omega)
    · intro b hb
      rcases Nat.lt_or_ge b a with z | z
      · rw [pk_un (by omega)]
        exact e.2 b z
      · have eb : b = a := by omega
        subst eb
        exact pk_us
theorem cs_stk2 {E : Nat} (h : ∀ s, s < E + 2 → cs_TR (stk s) (tf s) (fun a => tn (s * 3 + a))) {x f : Int32} {tn' : Nat → Int32} (ho : ∀ m, m < E * 3 → tn' m = tn m) (hn : cs_TR x f (fun a => tn' (E * 3 + a))) : ∀ s, s < E + 1 → cs_TR (upd stk E x s) (upd tf E f s) (fun a => tn' (s * 3 + a)) :=
  cs_stk (fun s hs => h s (by omega)) ho hn
/-! a name defined -/
theorem cy_def49 {post : Int32 → SY → Prop} {k E : Nat} (hk : k < 8) (hE : E < 6) (h : ∀ T, (∀ m, m < k * 3 ∨ k * 3 + 3 ≤ m → T m = nx m) → (∀ a, a < 3 → T (k * 3 + a) = tn (E * 3 + a)) → post (nI E) ((nI E), g2, g3, g4, 0, tf, tn, fr, T, fa, pa)) : ∃ n, wY_define_49 post (nI k) (nI E) g2 g3 g4 g5 n 0 tf tn fr nx fa pa := by
  refine pk_loop (fun n i s => wY_define_49 post (nI k) (nI E) g2 g3 g4 g5 n (nI i) tf tn fr s fa pa) (fun a s => (∀ m, m < k * 3 ∨ k * 3 + a ≤ m → s m = nx m) ∧ ∀ b, b < a → s (k * 3 + b) = tn (E * 3 + b)) 3 0 nx (by omega) ⟨fun m _ => rfl, fun b hb => absurd hb (by omega)⟩ ?_ ?_
  · intro n s e
    exact pk_le 3 3 (fun _ => h s e.1 e.2) (fun z => absurd z (by omega))
  · intro n a s ha e ih
    refine pk_le 3 a (fun z => absurd z (by omega)) (fun _ => ?_)
    rw [cy_k3, cy_k3, nI_clamp (by omega), nI_clamp (by omega)]
    refine ⟨vp_in_nI (by omega) (by decide), vp_in_nI (by omega) (by decide), nm_e (nm_r (nI_1 a) (ih _ ⟨?_, ?_⟩))⟩
    · intro m hm
      rw [pk_un (by omega)]
      exact e.1 m (by omega)
    · intro b hb
      rcases Nat.lt_or_ge b a with z | z
      · rw [pk_un (by omega)]
        exact e.2 b z
      · have eb : b = a := by omega
        subst eb
        exact pk_us
end CSW
theorem i_vc_pre {k : Nat} {u : SX} {v : SY} (I : i_Rel k u v) (hk : k + 4 ≤ 2048) (v1 : Int32) (v2 : Int32) : wpX_pre (fun r u' => wpY_pre (fun r' v' => r' = r ∧ i_Rel (k + 4) u' v') v v1 v2) u v1 v2 := by
  have I0 := I
  obtain ⟨D, i, j, A, l, stk, tm, co, le, nr, nf, pp, pr, sf, tf, tn, fr, nx, fa, pa, rfl, rfl, hD, hi, hj, hA, hl, hs, hT, hC, hF, hS⟩ := I
  unfold wpX_pre
  rcases cs_rng v1 3 (by decide) with h | ⟨h, h3⟩ | ⟨a, ha, rfl⟩
  · exact cx_isE0 h (br_t rfl (br_t h ⟨rfl, I0⟩))
  · exact cx_isE1 h h3 (br_t rfl (br_f h (br_t (cs_up h3 (by decide)) ⟨rfl, I0⟩)))
  · have ha0 : ¬ nI a < 0 := nI_pos (by omega)
    have ha2 : ¬ (2 : Int32) < nI a := nI_nlt (a := 2) (by omega) (by omega)
    refine cx_isE2 ha (br_f cx_n10 ?_)
    rcases cs_rng v2 8 (by decide) with h | ⟨h, h8⟩ | ⟨b, hb, rfl⟩
    · exact cx_isN0 h (br_t rfl (br_f ha0 (br_f ha2 (br_t h ⟨rfl, I0⟩))))
    · exact cx_isN1 h h8 (br_t rfl (br_f ha0 (br_f ha2 (br_f h (br_f (cs_nle h8 (by decide)) ⟨rfl, I0⟩)))))
    · have hb0 : ¬ nI b < 0 := nI_pos (by omega)
      have hb7 : nI b ≤ (7 : Int32) := nI_le (b := 7) (by omega) (by decide)
      refine cx_isN2 hb (br_f cx_n10 (cx_pre21 ha (cx_push hD (fun z => ?_) (fun z => ?_))))
      · refine br_f ha0 (br_f ha2 (br_f hb0 (br_t hb7 (pk_eq D 6 (fun y => absurd y (by omega)) (fun _ => cy_pre38 ha z ⟨rfl, cs_mkR ⟨by omega, hi, hj, hA, hl, ?_, hT, hC, hF, hS⟩⟩)))))
        refine cs_stk hs (fun m hm => ?_) (cs_TR_pre ha hb (fun e he => ?_))
        · rw [pk_un (by omega)]
          exact cy_p3_o hm
        · by_cases y : e = a
          · rw [if_pos y, y]
            exact pk_us
          · rw [if_neg y, pk_un (by omega)]
            exact cy_p3_n he
      · exact br_f ha0 (br_f ha2 (br_f hb0 (br_t hb7 (pk_eq D 6 (fun _ => ⟨rfl, I0⟩) (fun y => absurd z y)))))
theorem i_vc_ext {k : Nat} {u : SX} {v : SY} (I : i_Rel k u v) (hk : k + 4 ≤ 2048) : wpX_ext (fun r u' => wpY_ext (fun r' v' => r' = r ∧ i_Rel (k + 4) u' v') v) u := by
  have I0 := I
  obtain ⟨D, i, j, A, l, stk, tm, co, le, nr, nf, pp, pr, sf, tf, tn, fr, nx, fa, pa, rfl, rfl, hD, hi, hj, hA, hl, hs, hT, hC, hF, hS⟩ := I
  unfold wpX_ext
  refine pk_le 2 D (fun z => ?_) (fun z => pk_le 2 D (fun y => absurd y (by omega)) (fun _ => ⟨rfl, I0⟩))
  obtain ⟨E, rfl⟩ : ∃ E, D = E + 2 := ⟨D - 2, by omega⟩
  rw [cx_m1, cx_m2, nI_clamp (by omega), nI_clamp (by omega)]
  refine ⟨vp_in_nI (by omega) (by decide), nm_e ⟨vp_in_nI (by omega) (by decide), nm_e (nm_e (nm_e (cx_replace (by omega) ?_)))⟩⟩
  refine br_t (nI_le (a := 2) (by omega) (by omega)) ?_
  rw [cx_m1, cx_m2, nI_clamp (by omega), nI_clamp (by omega)]
  refine ⟨vp_in_nI (by omega) (by decide), vp_in_nI (by omega) (by decide), cy_join (by omega) (fun T ho hn => ⟨rfl, cs_mkR ⟨by omega, hi, hj, hA, hl, ?_, hT, hC, hF, hS⟩⟩)⟩
  exact cs_stk2 hs ho (cs_TR_c (cs_TR_ext (hs (E + 1) (by omega)) (hs E (by omega))) hn)
theorem i_vc_hid {k : Nat} {u : SX} {v : SY} (I : i_Rel k u v) (hk : k + 4 ≤ 2048) : wpX_hid (fun r u' => wpY_hid (fun r' v' => r' = r ∧ i_Rel (k + 4) u' v') v) u := by
  have I0 := I
  obtain ⟨D, i, j, A, l, stk, tm, co, le, nr, nf, pp, pr, sf, tf, tn, fr, nx, fa, pa, rfl, rfl, hD, hi, hj, hA, hl, hs, hT, hC, hF, hS⟩ := I
  unfold wpX_hid
  refine pk_le 2 D (fun z => ?_) (fun z => pk_le 2 D (fun y => absurd y (by omega)) (fun _ => ⟨rfl, I0⟩))
  obtain ⟨E, rfl⟩ : ∃ E, D = E + 2 := ⟨D - 2, by omega⟩
  rw [cx_m1, cx_m2, nI_clamp (by omega), nI_clamp (by omega)]
  refine ⟨vp_in_nI (by omega) (by decide), nm_e ⟨vp_in_nI (by omega) (by decide), nm_e (cx_replace (by omega) ?_)⟩⟩
  refine br_t (nI_le (a := 2) (by omega) (by omega)) ?_
  rw [cx_m1, cx_m2, nI_clamp (by omega), nI_clamp (by omega)]
  refine ⟨vp_in_nI (by omega) (by decide), vp_in_nI (by omega) (by decide), cy_join (by omega) (fun T ho hn => ⟨rfl, cs_mkR ⟨by omega, hi, hj, hA, hl, ?_, hT, hC, hF, hS⟩⟩)⟩
  exact cs_stk2 hs ho (cs_TR_c (cs_TR_hid (hs (E + 1) (by omega)) (hs E (by omega))) hn)
theorem i_vc_depth {k : Nat} {u : SX} {v : SY} (I : i_Rel k u v) (hk : k + 4 ≤ 2048) : wpX_depth (fun r => wpY_depth (fun r' => r' = r ∧ i_Rel (k + 4) u v) v) u := by
  have I0 := I
  obtain ⟨D, i, j, A, l, stk, tm, co, le, nr, nf, pp, pr, sf, tf, tn, fr, nx, fa, pa, rfl, rfl, hK⟩ := I
  exact ⟨rfl, I0⟩
theorem i_vc_define {k : Nat} {u : SX} {v : SY} (I : i_Rel k u v) (hk : k + 4 ≤ 2048) (v1 : Int32) : wpX_define (fun r u' => wpY_define (fun r' v' => r' = r ∧ i_Rel (k + 4) u' v') v v1) u v1 := by
  have I0 := I
  obtain ⟨D, i, j, A, l, stk, tm, co, le, nr, nf, pp, pr, sf, tf, tn, fr, nx, fa, pa, rfl, rfl, hD, hi, hj, hA, hl, hs, hT, hC, hF, hS⟩ := I
  unfold wpX_define
  rcases cs_rng v1 8 (by decide) with h | ⟨h, h8⟩ | ⟨b, hb, rfl⟩
  · exact cx_isN0 h (br_t rfl (br_t h ⟨rfl, I0⟩))
  · exact cx_isN1 h h8 (br_t rfl (br_f h (br_f (cs_nle h8 (by decide)) ⟨rfl, I0⟩)))
  · have hb0 : ¬ nI b < 0 := nI_pos (by omega)
    have hb7 : nI b ≤ (7 : Int32) := nI_le (b := 7) (by omega) (by decide)
    refine cx_isN2 hb (br_f cx_n10 (pk_le 1 D (fun z => ?_) (fun z => ?_)))
    · obtain ⟨E, rfl⟩ : ∃ E, D = E + 1 := ⟨D - 1, by omega⟩
      refine nm_r (nI_pred E) ⟨vp_in_nI (by omega) (by decide), vp_in_nI hb (by decide), nm_r (e' := upd tm b (stk E)) (by rw [nI_clamp (by omega), nI_clamp (by omega)]) ?_⟩
      refine cx_followNames (fun N T hT' => cx_followSystem hA hi hj (fun P Q S hS' => ?_))
      refine br_f hb0 (br_t hb7 (pk_eq (E + 1) 0 (fun y => absurd y (by omega)) (fun _ => nm_r (nI_pred E) ⟨vp_in_nI (by omega) (by decide), vp_in_nI hb (by decide), nm_r (e' := upd fr b (tf E)) (by rw [nI_clamp (by omega), nI_clamp (by omega)]) ?_⟩)))
      refine cy_def49 hb (by omega) (fun X ho hn => ⟨rfl, cs_mkR (l := []) ⟨by omega, hi, hj, hA, cs_Wd_0, fun s hs' => hs s (by omega), ?_, hC, hT', hS'⟩⟩)
      intro d hd
      by_cases y : d = b
      · subst y
        rw [pk_us, pk_us]
        exact cs_TR_c (hs E (by omega)) hn
      · rw [pk_un y, pk_un y]
        exact cs_TR_c (hT d hd) (fun a ha => ho _ (by omega))
    · exact br_f hb0 (br_t hb7 (pk_eq D 0 (fun _ => ⟨rfl, I0⟩) (fun y => absurd z (by omega))))
theorem i_vc_system {k : Nat} {u : SX} {v : SY} (I : i_Rel k u v) (hk : k + 4 ≤ 2048) (v1 : Int32) (v2 : Int32) (v3 : Int32) : wpX_system (fun r u' => wpY_system (fun r' v' => r' = r ∧ i_Rel (k + 4) u' v') v v1 v2 v3) u v1 v2 v3 := by
  have I0 := I
  obtain ⟨D, i, j, A, l, stk, tm, co, le, nr, nf, pp, pr, sf, tf, tn, fr, nx, fa, pa, rfl, rfl, hD, hi, hj, hA, hl, hs, hT, hC, hF, hS⟩ := I
  unfold wpX_system
  rcases cs_rng v1 8 (by decide) with h | ⟨h, h8⟩ | ⟨a, ha, rfl⟩
  · exact cx_isN0 h (br_t rfl (br_t h ⟨rfl, I0⟩))
  · exact cx_isN1 h h8 (br_t rfl (br_f h (br_t (cs_up h8 (by decide)) ⟨rfl, I0⟩)))
  · have ha0 : ¬ nI a < 0 := nI_pos (by omega)
    have ha7 : ¬ (7 : Int32) < nI a := nI_nlt (a := 7) (by omega) (by omega)
    refine cx_isN2 ha (br_f cx_n10 ?_)
    rcases cs_rng v2 8 (by decide) with h | ⟨h, h8⟩ | ⟨b, hb, rfl⟩
    · exact cx_isN0 h (br_t rfl (br_f ha0 (br_f ha7 (br_t h ⟨rfl, I0⟩))))
    · exact cx_isN1 h h8 (br_t rfl (br_f ha0 (br_f ha7 (br_f h (br_t (cs_up h8 (by decide)) ⟨rfl, I0⟩)))))
    · have hb0 : ¬ nI b < 0 := nI_pos (by omega)
      have hb7 : ¬ (7 : Int32) < nI b := nI_nlt (a := 7) (by omega) (by omega)
      refine cx_isN2 hb (br_f cx_n10 ?_)
      rcases cs_rng v3 8 (by decide) with h | ⟨h, h8⟩ | ⟨c, hc, rfl⟩
      · exact cx_isS0 h (br_t rfl (br_f ha0 (br_f ha7 (br_f hb0 (br_f hb7 (br_t h ⟨rfl, I0⟩))))))
      · exact cx_isS1 h h8 (br_t rfl (br_f ha0 (br_f ha7 (br_f hb0 (br_f hb7 (br_f h (br_f (cs_nle h8 (by decide)) ⟨rfl, I0⟩)))))))
      · have hc0 : ¬ nI c < 0 := nI_pos (by omega)
        have hc7 : nI c ≤ (7 : Int32) := nI_le (b := 7) (by omega) (by decide)
        refine cx_isS2 hc (br_f cx_n10 (cx_followSystem hc ha hb (fun P Q S hS' => ?_)))
        exact br_f ha0 (br_f ha7 (br_f hb0 (br_f hb7 (br_f hc0 (br_t hc7 ⟨rfl, cs_mkR (l := []) ⟨hD, ha, hb, hc, cs_Wd_0, hs, hT, hC, hF, hS'⟩⟩)))))
end
section
/-! ===== feed, undo, log, offers, refuses, traces ===== -/
theorem cx_last {w a : Nat} (hw : w < 1000) (ha : a < 3) : (nI (3 * w + 1 + a) - 1) - (nI (3 * w + 1 + a) - 1) / 3 * 3 = nI a := by
  rw [cy_s1 (by omega), show (3 : Int32) = nI 3 from rfl, pk_rem (by omega) (by decide) (by decide), show (3 * w + 1 + a - 1) % 3 = a by omega]
theorem cx_wo {w a : Nat} (hw : w < 1000) (ha : a < 3) : (nI (3 * w + 1 + a) - 1) / 3 = nI w := by
  rw [cy_s1 (by omega), show (3 : Int32) = nI 3 from rfl, pk_div (by omega) (by decide) (by decide), show (3 * w + 1 + a - 1) / 3 = w by omega]
theorem cy_last {c a : Nat} (hc : c < 1000) (ha : a < 3) : (nI (c * 4 + a + 1) &&& 3) - 1 = nI a := by
  rw [pk_andN (by omega) 2 (by decide), show (c * 4 + a + 1) % 2 ^ 2 = a + 1 by omega, nI_pred]
theorem cy_wo {c a : Nat} (hc : c < 1000) (ha : a < 3) : nI (c * 4 + a + 1) >>> ((2 : Int32) &&& 31) = nI c := by
  rw [pk_shrN (by omega) _ 2 (by decide), show (c * 4 + a + 1) / 2 ^ 2 = c by omega]
theorem cs_or_c {f g : Nat → Int32} : ∀ n, (∀ i, i < n → f i = g i) → cs_or f n = cs_or g n := by
  intro n
  induction n with
  | zero => intro _; rfl
  | succ n ih =>
    intro h
    show cs_or f n ||| f n = cs_or g n ||| g n
    rw [ih (fun i hi => h i (by omega)), h n (by omega)]
theorem cs_cn_c {f g : Nat → Bool} : ∀ n, (∀ i, i < n → f i = g i) → cs_cn f n = cs_cn g n := by
  intro n
  induction n with
  | zero => intro _; rfl
  | succ n ih =>
    intro h
    show cs_cn f n + cond (f n) 1 0 = cs_cn g n + cond (g n) 1 0
    rw [ih (fun i hi => h i (by omega)), h n (by omega)]
def cs_of (b : Nat → Bool) (a : Nat) : Int32 := cs_sel (b a) ((1 : Int32) <<< (nI a &&& 31))
theorem cs_of_d : ∀ x y : Bool, ((0 : Int32) + ((1 : Int32) <<< (nI 0 &&& 31)) = 0 ||| ((1 : Int32) <<< (nI 0 &&& 31))) ∧ ((0 ||| cs_sel x ((1 : Int32) <<< (nI 0 &&& 31))) + ((1 : Int32) <<< (nI 1 &&& 31)) = (0 ||| cs_sel x ((1 : Int32) <<< (nI 0 &&& 31))) ||| ((1 : Int32) <<< (nI 1 &&& 31))) ∧ (((0 ||| cs_sel x ((1 : Int32) <<< (nI 0 &&& 31))) ||| cs_sel y ((1 : Int32) <<< (nI 1 &&& 31))) + ((1 : Int32) <<< (nI 2 &&& 31)) = ((0 ||| cs_sel x ((1 : Int32) <<< (nI 0 &&& 31))) ||| cs_sel y ((1 : Int32) <<< (nI 1 &&& 31))) ||| ((1 : Int32) <<< (nI 2 &&& 31))) := by decide +kernel
theorem cs_of_a (b : Nat → Bool) {i : Nat} (hi : i < 3) : cs_or (cs_of b) i + ((1 : Int32) <<< (nI i &&& 31)) = cs_or (cs_of b) i ||| ((1 : Int32) <<< (nI i &&& 31)) := by
  have h := cs_of_d (b 0) (b 1)
  have : i = 0 ∨ i = 1 ∨ i = 2 := by omega
  rcases this with e | e | e
  · subst e; exact h.1
  · subst e; exact h.2.1
  · subst e; exact h.2.2
theorem cs_nd {p : Prop} (d : Decidable p) (h : p) : (!(@decide p d)) = false := by rw [decide_eq_true h]; rfl
theorem cs_nd' {p : Prop} (d : Decidable p) (h : ¬ p) : (!(@decide p d)) = true := by rw [decide_eq_false h]; rfl
section CSQ
variable {f1 f2 f3 f4 f5 : Int32} {stk tm co le nr nf : Nat → Int32} {pp : Nat → Int64} {pr sf : Nat → Int32}
variable {g1 g2 g3 g4 g5 : Int32} {tf tn fr nx fa pa : Nat → Int32}
theorem cx_of15 {post : Int32 → Prop} {w : Nat} (hw : w < 40) (h : post (cs_or (cs_of (fun a => !(decide (sf (3 * w + 1 + a) = 0)))) 3)) : ∃ n, wX_offers_15 post f1 f2 f3 f4 (nI w) stk tm co le nr nf pp pr sf n 0 0 := by
  refine pk_loop (fun n i s => wX_offers_15 post f1 f2 f3 f4 (nI w) stk tm co le nr nf pp pr sf n s (nI i)) (fun i s => s = cs_or (cs_of (fun a => !(decide (sf (3 * w + 1 + a) = 0)))) i) 3 0 0 (by omega) rfl ?_ ?_
  · intro n s e
    refine pk_le 3 3 (fun _ => ?_) (fun z => absurd z (by omega))
    rw [show s = _ from e]
    exact h
  · intro n a s ha e ih
    refine pk_le 3 a (fun z => absurd z (by omega)) (fun _ => cx_append ?_)
    rw [nI_clamp (by omega)]
    refine ⟨vp_in_nI (by omega) (by decide), br_c (fun c => ?_) (fun c => ?_)⟩
    · exact nm_r (nI_1 a) (ih _ (Eq.trans e (cs_or_f _ a (cs_sel_f _ (cs_nd _ c)))))
    · refine nm_e (nm_r (nI_1 a) (ih _ ?_))
      rw [show s = _ from e]
      exact cs_or_t _ a (cs_sel_t _ (cs_nd' _ c))
theorem cy_of19 {post : Int32 → SY → Prop} {c : Nat} (hc : c < 64) (hl : c * 4 + 3 < 256) (h : post (cs_or (cs_of (fun a => !(decide (pa (c * 4 + a + 1) = 0)))) 3) (g1, g2, g3, g4, (nI c), tf, tn, fr, nx, fa, pa)) : ∃ n, wY_offers_19 post g1 g2 g3 g4 (nI c) tf tn fr nx fa pa n 0 0 := by
  refine pk_loop (fun n i s => wY_offers_19 post g1 g2 g3 g4 (nI c) tf tn fr nx fa pa n s (nI i)) (fun i s => s = cs_or (cs_of (fun a => !(decide (pa (c * 4 + a + 1) = 0)))) i) 3 0 0 (by omega) rfl ?_ ?_
  · intro n s e
    refine pk_le 3 3 (fun _ => ?_) (fun z => absurd z (by omega))
    rw [show s = _ from e]
    exact h
  · intro n a s ha e ih
    refine pk_le 3 a (fun z => absurd z (by omega)) (fun _ => ?_)
    rw [cx_code, nI_clamp (by omega)]
    refine ⟨vp_in_nI (by omega) (by decide), br_c (fun c => ?_) (fun c => ?_)⟩
    · exact nm_r (nI_1 a) (ih _ (Eq.trans e (cs_or_f _ a (cs_sel_f _ (cs_nd _ c)))))
    · refine nm_e (nm_r (nI_1 a) (ih _ ?_))
      rw [show s = _ from e, cs_of_a _ ha]
      exact cs_or_t _ a (cs_sel_t _ (cs_nd' _ c))
theorem cx_tr15 {post : Int32 → Prop} {L : Nat} (h : post (nI (cs_cn (fun w => decide (le w = nI L) && !(decide (sf w = 0))) 121))) : ∃ n, wX_traces_15 post (nI L) f1 f2 f3 f4 f5 stk tm co le nr nf pp pr sf n 0 0 := by
  refine pk_loop (fun n i s => wX_traces_15 post (nI L) f1 f2 f3 f4 f5 stk tm co le nr nf pp pr sf n s (nI i)) (fun i s => s = nI (cs_cn (fun w => decide (le w = nI L) && !(decide (sf w = 0))) i)) 121 0 0 (by omega) rfl ?_ ?_
  · intro n s e
    refine pk_le 121 121 (fun _ => ?_) (fun z => absurd z (by omega))
    rw [show s = _ from e]
    exact h
  · intro n w s hw e ih
    have hf : (decide (le w = nI L) && !(decide (sf w = 0))) = false → wX_traces_15 post (nI L) f1 f2 f3 f4 f5 stk tm co le nr nf pp pr sf n s (nI (w + 1)) := by
      intro hb
      refine ih _ (Eq.trans e (congrArg nI ?_))
      show _ = cs_cn _ w + cond (decide (le w = nI L) && !(decide (sf w = 0))) 1 0
      rw [hb]
      rfl
    refine pk_le 121 w (fun z => absurd z (by omega)) (fun _ => ?_)
    rw [nI_clamp (by omega)]
    refine ⟨vp_in_nI hw (by decide), br_c (fun c => ⟨vp_in_nI hw (by decide), br_c (fun d => ?_) (fun d => ?_)⟩) (fun c => ?_)⟩
    · exact nm_r (nI_1 w) (hf (by rw [cs_nd _ d, Bool.and_false]))
    · refine nm_r (e' := nI (cs_cn (fun w => decide (le w = nI L) && !(decide (sf w = 0))) (w + 1))) ?_ (nm_r (nI_1 w) (ih _ rfl))
      rw [show s = _ from e, nI_1]
      refine congrArg nI ?_
      show _ = cs_cn _ w + cond (decide (le w = nI L) && !(decide (sf w = 0))) 1 0
      rw [cs_nd' _ d, decide_eq_true c]
      rfl
    · exact nm_r (nI_1 w) (hf (by rw [decide_eq_false c, Bool.false_and]))
theorem cy_tr19 {post : Int32 → SY → Prop} {L : Nat} (hL : L < 5) (h : post (nI (cs_cn (fun c => decide (cs_le c = L) && !(decide (pa c = 0))) 256)) (g1, g2, g3, g4, g5, tf, tn, fr, nx, fa, pa)) : ∃ n, wY_traces_19 post (nI L) g1 g2 g3 g4 g5 tf tn fr nx fa pa n 0 0 := by
  refine pk_loop (fun n i s => wY_traces_19 post (nI L) g1 g2 g3 g4 g5 tf tn fr nx fa pa n s (nI i)) (fun i s => s = nI (cs_cn (fun c => decide (cs_le c = L) && !(decide (pa c = 0))) i)) 256 0 0 (by omega) rfl ?_ ?_
  · intro n s e
    refine pk_le 256 256 (fun _ => ?_) (fun z => absurd z (by omega))
    rw [show s = _ from e]
    exact h
  · intro n w s hw e ih
    have h4 := cs_le_4 w
    have hf : (decide (cs_le w = L) && !(decide (pa w = 0))) = false → wY_traces_19 post (nI L) g1 g2 g3 g4 g5 tf tn fr nx fa pa n s (nI (w + 1)) := by
      intro hb
      refine ih _ (Eq.trans e (congrArg nI ?_))
      show _ = cs_cn _ w + cond (decide (cs_le w = L) && !(decide (pa w = 0))) 1 0
      rw [hb]
      rfl
    refine pk_le 256 w (fun z => absurd z (by omega)) (fun _ => cy_lengthOf hw (pk_eq (cs_le w) L (fun c => ?_) (fun c => ?_)))
    · rw [nI_clamp (by omega)]
      refine ⟨vp_in_nI hw (by decide), br_c (fun d => ?_) (fun d => ?_)⟩
      · exact nm_r (nI_1 w) (hf (by rw [cs_nd _ d, Bool.and_false]))
      · refine nm_r (e' := nI (cs_cn (fun c => decide (cs_le c = L) && !(decide (pa c = 0))) (w + 1))) ?_ (nm_r (nI_1 w) (ih _ rfl))
        rw [show s = _ from e, nI_1]
        refine congrArg nI ?_
        show _ = cs_cn _ w + cond (decide (cs_le w = L) && !(decide (pa w = 0))) 1 0
        rw [cs_nd' _ d, decide_eq_true c]
        rfl
    · exact nm_r (nI_1 w) (hf (by rw [decide_eq_false c, Bool.false_and]))
end CSQ
theorem i_vc_feed {k : Nat} {u : SX} {v : SY} (I : i_Rel k u v) (hk : k + 4 ≤ 2048) (v1 : Int32) : wpX_feed (fun r u' => wpY_feed (fun r' v' => r' = r ∧ i_Rel (k + 4) u' v') v v1) u v1 := by
  have I0 := I
  obtain ⟨D, i, j, A, l, stk, tm, co, le, nr, nf, pp, pr, sf, tf, tn, fr, nx, fa, pa, rfl, rfl, hD, hi, hj, hA, hl, hs, hT, hC, hF, hS⟩ := I
  have h121 := cs_ix_lt hl
  have h256 := cs_cd_lt hl
  unfold wpX_feed
  rcases cs_rng v1 3 (by decide) with h | ⟨h, h3⟩ | ⟨a, ha, rfl⟩
  · exact cx_isE0 h (br_t rfl (br_t h ⟨rfl, I0⟩))
  · exact cx_isE1 h h3 (br_t rfl (br_f h (br_f (cs_nle h3 (by decide)) ⟨rfl, I0⟩)))
  · have ha0 : ¬ nI a < 0 := nI_pos (by omega)
    have ha2 : nI a ≤ (2 : Int32) := nI_le (b := 2) (by omega) (by decide)
    refine cx_isE2 ha (br_f cx_n10 (pk_lt (cs_ix l) 40 (fun z => ?_) (fun z => ?_)))
    · have hlen : ¬ l.length = 4 := fun e => by have := (cs_ix40 hl).2 e; omega
      have hc64 : cs_cd l < 64 := by
        rcases Nat.lt_or_ge (cs_cd l) 64 with y | y
        · exact y
        · exact absurd ((cs_cd64 hl).1 y) hlen
      have hla : cs_Wd (a :: l) := ⟨by have := hl.1; rw [List.length_cons]; omega, cs_Ev_s ha hl.2⟩
      have h121' : 3 * cs_ix l + 1 + a < 121 := cs_ix_lt hla
      have h256' : cs_cd l * 4 + a + 1 < 256 := cs_cd_lt hla
      refine cx_append ?_
      rw [nI_clamp (by omega)]
      refine ⟨vp_in_nI h121' (by decide), br_c (fun c => ?_) (fun c => ⟨vp_in_nI h121' (by decide), ?_⟩)⟩
      · refine br_f ha0 (br_t ha2 (pk_lt (cs_cd l) 64 (fun _ => cy_list hA hi hj hT (fun F P hF' hP => ?_)) (fun y => absurd y (by omega))))
        have e : P (cs_cd l * 4 + a + 1) = sf (3 * cs_ix l + 1 + a) := cs_eqS hS hP hla
        dsimp only
        rw [cx_code, nI_clamp (by omega)]
        exact ⟨vp_in_nI h256' (by decide), br_t (e.trans c) ⟨rfl, cs_mkR ⟨hD, hi, hj, hA, hl, hs, hT, hC, hF, hS⟩⟩⟩
      · refine br_f ha0 (br_t ha2 (pk_lt (cs_cd l) 64 (fun _ => cy_list hA hi hj hT (fun F P hF' hP => ?_)) (fun y => absurd y (by omega))))
        have e : P (cs_cd l * 4 + a + 1) = sf (3 * cs_ix l + 1 + a) := cs_eqS hS hP hla
        dsimp only
        rw [cx_code, nI_clamp (by omega)]
        refine ⟨vp_in_nI h256' (by decide), br_f (by rw [e]; exact c) (nm_e (cy_lengthOf h256' ⟨?_, cs_mkR (l := a :: l) ⟨hD, hi, hj, hA, hla, hs, hT, hC, hF, hS⟩⟩))⟩
        exact (congrArg nI (cs_le_cd hla)).trans (hC _ hla).2.symm
    · have h64 : 64 ≤ cs_cd l := (cs_cd64 hl).2 ((cs_ix40 hl).1 z)
      exact br_f ha0 (br_t ha2 (pk_lt (cs_cd l) 64 (fun y => absurd y (by omega)) (fun _ => ⟨rfl, I0⟩)))
theorem i_vc_undo {k : Nat} {u : SX} {v : SY} (I : i_Rel k u v) (hk : k + 4 ≤ 2048) : wpX_undo (fun r u' => wpY_undo (fun r' v' => r' = r ∧ i_Rel (k + 4) u' v') v) u := by
  have I0 := I
  obtain ⟨D, i, j, A, l, stk, tm, co, le, nr, nf, pp, pr, sf, tf, tn, fr, nx, fa, pa, rfl, rfl, hD, hi, hj, hA, hl, hs, hT, hC, hF, hS⟩ := I
  unfold wpX_undo
  cases l with
  | nil => exact br_t rfl (br_t rfl ⟨rfl, I0⟩)
  | cons a l =>
    have ha := cs_Ev_h hl.2
    have hl' := cs_Wd_t hl
    have h1 := cs_ix_lt hl'
    have h2 := cs_cd_lt hl'
    refine br_f (nI_ne0 (n := 3 * cs_ix l + 1 + a) (by omega) (by omega)) ⟨by decide, by decide, ?_⟩
    refine br_f (nI_ne0 (n := cs_cd l * 4 + a + 1) (by omega) (by omega)) ?_
    refine nm_r (cy_last (c := cs_cd l) (a := a) (by omega) ha) (nm_r (cy_wo (c := cs_cd l) (a := a) (by omega) ha) ⟨(cx_last (by omega) ha).symm, ?_⟩)
    have e : (nI (cs_ix (a :: l)) - 1) / 3 = nI (cs_ix l) := cx_wo (by omega) ha
    rw [e]
    exact cs_mkR ⟨hD, hi, hj, hA, hl', hs, hT, hC, hF, hS⟩
theorem i_vc_log {k : Nat} {u : SX} {v : SY} (I : i_Rel k u v) (hk : k + 4 ≤ 2048) : wpX_log (fun r => wpY_log (fun r' => r' = r ∧ i_Rel (k + 4) u v) v) u := by
  have I0 := I
  obtain ⟨D, i, j, A, l, stk, tm, co, le, nr, nf, pp, pr, sf, tf, tn, fr, nx, fa, pa, rfl, rfl, hD, hi, hj, hA, hl, hs, hT, hC, hF, hS⟩ := I
  have h1 := cs_ix_lt hl
  unfold wpX_log
  dsimp only
  rw [nI_clamp (by omega)]
  exact ⟨vp_in_nI h1 (by decide), (hC l hl).1.symm, I0⟩
theorem i_vc_offers {k : Nat} {u : SX} {v : SY} (I : i_Rel k u v) (hk : k + 4 ≤ 2048) : wpX_offers (fun r => wpY_offers (fun r' v' => r' = r ∧ i_Rel (k + 4) u v') v) u := by
  have I0 := I
  obtain ⟨D, i, j, A, l, stk, tm, co, le, nr, nf, pp, pr, sf, tf, tn, fr, nx, fa, pa, rfl, rfl, hD, hi, hj, hA, hl, hs, hT, hC, hF, hS⟩ := I
  have h121 := cs_ix_lt hl
  have h256 := cs_cd_lt hl
  unfold wpX_offers
  refine pk_lt (cs_ix l) 40 (fun z => cx_of15 z ?_) (fun z => ?_)
  · have hlen : ¬ l.length = 4 := fun e => by have := (cs_ix40 hl).2 e; omega
    have hc64 : cs_cd l < 64 := by
      rcases Nat.lt_or_ge (cs_cd l) 64 with y | y
      · exact y
      · exact absurd ((cs_cd64 hl).1 y) hlen
    have hla : ∀ a, a < 3 → cs_Wd (a :: l) := fun a ha => ⟨by have := hl.1; rw [List.length_cons]; omega, cs_Ev_s ha hl.2⟩
    have h2 : cs_cd l * 4 + 2 + 1 < 256 := cs_cd_lt (hla 2 (by decide))
    refine pk_lt (cs_cd l) 64 (fun _ => cy_list hA hi hj hT (fun F P hF' hP => cy_of19 hc64 (by omega) ⟨?_, cs_mkR ⟨hD, hi, hj, hA, hl, hs, hT, hC, hF, hS⟩⟩)) (fun y => absurd y (by omega))
    refine cs_or_c 3 (fun a ha => ?_)
    have e : P (cs_cd l * 4 + a + 1) = sf (3 * cs_ix l + 1 + a) := cs_eqS hS hP (hla a ha)
    unfold cs_of
    dsimp only
    rw [e]
  · have h64 : 64 ≤ cs_cd l := (cs_cd64 hl).2 ((cs_ix40 hl).1 z)
    exact pk_lt (cs_cd l) 64 (fun y => absurd y (by omega)) (fun _ => ⟨rfl, I0⟩)
theorem i_vc_refuses {k : Nat} {u : SX} {v : SY} (I : i_Rel k u v) (hk : k + 4 ≤ 2048) (v1 : Int32) : wpX_refuses (fun r => wpY_refuses (fun r' v' => r' = r ∧ i_Rel (k + 4) u v') v v1) u v1 := by
  have I0 := I
  obtain ⟨D, i, j, A, l, stk, tm, co, le, nr, nf, pp, pr, sf, tf, tn, fr, nx, fa, pa, rfl, rfl, hD, hi, hj, hA, hl, hs, hT, hC, hF, hS⟩ := I
  have h121 := cs_ix_lt hl
  have h256 := cs_cd_lt hl
  unfold wpX_refuses
  rcases cs_rng v1 8 (by decide) with h | ⟨h, h8⟩ | ⟨b, hb, rfl⟩
  · exact cx_isS0 h (br_t rfl (br_t h ⟨rfl, I0⟩))
  · exact cx_isS1 h h8 (br_t rfl (br_f h (br_f (cs_nle h8 (by decide)) ⟨rfl, I0⟩)))
  · have hb0 : ¬ nI b < 0 := nI_pos (by omega)
    have hb7 : nI b ≤ (7 : Int32) := nI_le (b := 7) (by omega) (by decide)
    refine cx_isS2 hb (br_f cx_n10 ⟨vp_in_nI h121 (by decide), ?_⟩)
    rw [nI_clamp (by omega)]
    refine cx_hasBit (by omega) (fun hc => br_t rfl ?_) (fun hc => br_f cx_n10 ?_)
    · refine br_f hb0 (br_t hb7 (cy_list hA hi hj hT (fun F P hF' hP => ?_)))
      dsimp only
      rw [nI_clamp (by omega)]
      have e := cs_eqS hS hP hl
      refine ⟨vp_in_nI h256 (by decide), br_f (fun g => ?_) ⟨rfl, cs_mkR ⟨hD, hi, hj, hA, hl, hs, hT, hC, hF, hS⟩⟩⟩
      rw [e, cs_hs _ (by omega), hc] at g
      exact nomatch g
    · refine br_f hb0 (br_t hb7 (cy_list hA hi hj hT (fun F P hF' hP => ?_)))
      dsimp only
      rw [nI_clamp (by omega)]
      have e := cs_eqS hS hP hl
      refine ⟨vp_in_nI h256 (by decide), br_t ?_ ⟨rfl, cs_mkR ⟨hD, hi, hj, hA, hl, hs, hT, hC, hF, hS⟩⟩⟩
      rw [e, cs_hs _ (by omega), hc]
theorem i_vc_traces {k : Nat} {u : SX} {v : SY} (I : i_Rel k u v) (hk : k + 4 ≤ 2048) (v1 : Int32) : wpX_traces (fun r => wpY_traces (fun r' v' => r' = r ∧ i_Rel (k + 4) u v') v v1) u v1 := by
  have I0 := I
  obtain ⟨D, i, j, A, l, stk, tm, co, le, nr, nf, pp, pr, sf, tf, tn, fr, nx, fa, pa, rfl, rfl, hD, hi, hj, hA, hl, hs, hT, hC, hF, hS⟩ := I
  unfold wpX_traces
  rcases cs_rng v1 5 (by decide) with h | ⟨h, h8⟩ | ⟨L, hL, rfl⟩
  · exact br_t h (br_t h ⟨rfl, I0⟩)
  · exact br_f h (br_f (cs_nle h8 (by decide)) (br_f h (br_f (cs_nle h8 (by decide)) ⟨rfl, I0⟩)))
  · have hb0 : ¬ nI L < 0 := nI_pos (by omega)
    have hb4 : nI L ≤ (4 : Int32) := nI_le (b := 4) (by omega) (by decide)
    refine br_f hb0 (br_t hb4 (cx_tr15 ?_))
    refine br_f hb0 (br_t hb4 (cy_list hA hi hj hT (fun F P hF' hP => cy_tr19 hL ⟨congrArg nI ?_, cs_mkR ⟨hD, hi, hj, hA, hl, hs, hT, hC, hF, hS⟩⟩)))
    rw [cs_cn_C]
    · refine cs_cn_c 121 (fun w hw => ?_)
      have h4 := cs_le_4 (cs_C w)
      rw [cs_eqSw hS hP hw, (cs_eqCw hC hw).2]
      congr 1
      exact decide_eq_decide.mpr (nI_eq (by omega) (by omega)).symm
    · intro c hc hq
      refine ts_nf (fun ho => ?_)
      rw [(hP c hc).2 ho] at hq
      simp at hq
end
section
/-! ===== gap, gapRefusal, refined, deadlock, unsure ===== -/
theorem cs_search {W : Nat → Nat → Prop} {G : Nat → Prop} {P0 : Prop} {P1 : Nat → Prop} (N i0 : Nat) (hi : i0 ≤ N) (h00 : ∀ d, d < i0 → ¬ G d) (h0 : cs_F0 G N → P0) (h1 : ∀ c, cs_F1 G N c → P1 c) (hx : ∀ n, P0 → W (n + 1) N) (hs : ∀ n i, i < N → i0 ≤ i → (G i → P1 i) → (¬ G i → W n (i + 1)) → W (n + 1) i) : ∃ n, W n i0 := by
  refine pk_loop (fun n i (_ : Unit) => W n i) (fun i _ => i0 ≤ i ∧ ∀ d, d < i → ¬ G d) N i0 () hi ⟨Nat.le_refl _, h00⟩ (fun n _ e => hx n (h0 e.2)) ?_
  intro n i _ hi e ih
  refine hs n i hi e.1 (fun g => h1 i ⟨hi, g, e.2⟩) (fun g => ih () ⟨by omega, fun d hd => ?_⟩)
  rcases Nat.lt_or_ge d i with z | z
  · exact e.2 d z
  · have ed : d = i := by omega
    subst ed
    exact g
theorem cs_F1_u {Q : Nat → Prop} {n a b : Nat} (ha : cs_F1 Q n a) (hb : cs_F1 Q n b) : a = b := by
  rcases Nat.lt_or_ge a b with z | z
  · exact absurd ha.2.1 (hb.2.2 a z)
  · rcases Nat.lt_or_ge b a with y | y
    · exact absurd hb.2.1 (ha.2.2 b y)
    · omega
theorem cs_XY0 {X Y : Nat → Prop} (hG : ∀ w, w < 121 → (X w ↔ Y (cs_C w))) (hQ : ∀ c, c < 256 → Y c → cs_ok 4 c = true) (h : cs_F0 X 121) : cs_F0 Y 256 :=
  cs_F0_C hQ (fun d hd g => h d hd ((hG d hd).2 g))
theorem cs_XY1 {X Y : Nat → Prop} (hG : ∀ w, w < 121 → (X w ↔ Y (cs_C w))) (hQ : ∀ c, c < 256 → Y c → cs_ok 4 c = true) {w : Nat} (h : cs_F1 X 121 w) : cs_F1 Y 256 (cs_C w) :=
  cs_F1_C hQ ⟨h.1, (hG w h.1).1 h.2.1, fun d hd g => h.2.2 d hd ((hG d (Nat.lt_trans hd h.1)).2 g)⟩
theorem cs_YX0 {X Y : Nat → Prop} (hG : ∀ w, w < 121 → (X w ↔ Y (cs_C w))) (h : cs_F0 Y 256) : cs_F0 X 121 :=
  fun d hd g => h _ (cs_C_lt hd) ((hG d hd).1 g)
theorem cs_m4 {w : Nat} (h : w < 2 ^ 31) : ¬ nI w = -4 := by
  intro e
  have := nI_pos h
  rw [e] at this
  exact this (by decide)
def cs_G (kd s n : Int32) : Prop := (kd = 0 ∧ ¬ s = 0 ∧ n = 0) ∨ (kd = 1 ∧ ¬ (s &&& (n ^^^ (-1))) = 0)
theorem cs_G_0 {kd n : Int32} : ¬ cs_G kd 0 n := by
  rintro (⟨_, h, _⟩ | ⟨_, h⟩)
  · exact h rfl
  · exact h Int32.zero_and
theorem cs_G_i0 {s n : Int32} : cs_G 0 s n ↔ ¬ s = 0 ∧ n = 0 :=
  ⟨fun h => h.elim (fun h => h.2) (fun h => absurd h.1 (by decide)), fun h => Or.inl ⟨rfl, h⟩⟩
theorem cs_G_i1 {s n : Int32} : cs_G 1 s n ↔ ¬ (s &&& (n ^^^ (-1))) = 0 :=
  ⟨fun h => h.elim (fun h => absurd h.1 (by decide)) (fun h => h.2), fun h => Or.inr ⟨rfl, h⟩⟩
theorem cx_isK1 {post : Int32 → Prop} {v : Int32} (h : v = 0 ∨ v = 1) (hp : post 1) : wpX_isKind post v := by
  rcases h with h | h
  · exact br_t h hp
  · exact br_f (by rw [h]; decide) (br_t h hp)
theorem cx_isK0 {post : Int32 → Prop} {v : Int32} (h : v < 0 ∨ (¬ v < 0 ∧ nI 2 ≤ v)) (hp : post 0) : wpX_isKind post v := by
  refine br_f ?_ (br_f ?_ hp)
  · intro e
    rw [e] at h
    exact absurd h (by decide)
  · intro e
    rw [e] at h
    exact absurd h (by decide)
theorem cs_kind (v : Int32) : (v < 0 ∨ (¬ v < 0 ∧ nI 2 ≤ v)) ∨ (v = 0 ∨ v = 1) := by
  rcases cs_rng v 2 (by decide) with h | h | ⟨j, hj, rfl⟩
  · exact Or.inl (Or.inl h)
  · exact Or.inl (Or.inr h)
  · have : j = 0 ∨ j = 1 := by omega
    rcases this with e | e
    · subst e; exact Or.inr (Or.inl rfl)
    · subst e; exact Or.inr (Or.inr rfl)
theorem cs_k0 {v : Int32} (h : v = 0 ∨ v = 1) : ¬ v < 0 := by rcases h with h | h <;> rw [h] <;> decide
theorem cs_k1 {v : Int32} (h : v = 0 ∨ v = 1) : v ≤ 1 := by rcases h with h | h <;> rw [h] <;> decide
section CSG
variable {f1 f2 f3 f4 f5 : Int32} {stk tm co le nr nf : Nat → Int32} {pp : Nat → Int64} {pr sf : Nat → Int32}
variable {g1 g2 g3 g4 g5 : Int32} {tf tn fr nx fa pa : Nat → Int32}
theorem cx_excess {post : Int32 → Prop} {k w : Nat} (hk : k < 8) (hw : w < 121) (h : post (sf w &&& (nf (k * 121 + w) ^^^ (-1)))) : wpX_excessFailures post (f1, f2, f3, f4, f5, stk, tm, co, le, nr, nf, pp, pr, sf) (nI k) (nI w) := by
  unfold wpX_excessFailures
  dsimp only
  rw [cx_121, nI_clamp (by omega), nI_clamp (by omega)]
  exact ⟨vp_in_nI hw (by decide), vp_in_nI (by omega) (by decide), h⟩
theorem cx_firstGap {post : Int32 → Prop} {k : Nat} {kd : Int32} (hk : k < 8) (hd : kd = 0 ∨ kd = 1) (h0 : cs_F0 (fun w => cs_G kd (sf w) (nf (k * 121 + w))) 121 → post (-4)) (h1 : ∀ w, cs_F1 (fun w => cs_G kd (sf w) (nf (k * 121 + w))) 121 w → post (nI w)) : wpX_firstGap post (f1, f2, f3, f4, f5, stk, tm, co, le, nr, nf, pp, pr, sf) (nI k) kd := by
  refine cs_search (W := fun n i => wX_firstGap_2 post (nI k) kd f1 f2 f3 f4 f5 stk tm co le nr nf pp pr sf n (nI i)) (P1 := fun w => post (nI w)) 121 0 (by omega) (fun d hd => absurd hd (by omega)) h0 h1 ?_ ?_
  · intro n hp
    exact pk_le 121 121 (fun _ => hp) (fun z => absurd z (by omega))
  · intro n w hw _ hg hn
    refine pk_le 121 w (fun z => absurd z (by omega)) (fun _ => ?_)
    rcases hd with rfl | rfl
    · rw [cx_121, nI_clamp (show w < 2 ^ 31 by omega), nI_clamp (show k * 121 + w < 2 ^ 31 by omega)]
      refine br_t rfl ⟨vp_in_nI hw (by decide), br_c (fun c => ?_) (fun c => ⟨vp_in_nI (by omega) (by decide), br_c (fun d => ?_) (fun d => ?_)⟩)⟩
      · exact br_t rfl (nm_r (nI_1 w) (hn (fun g => (cs_G_i0.1 g).1 c)))
      · exact br_f cx_n10 (hg (cs_G_i0.2 ⟨c, d⟩))
      · exact br_t rfl (nm_r (nI_1 w) (hn (fun g => d (cs_G_i0.1 g).2)))
    · refine br_f cx_n10 (cx_excess hk hw (br_c (fun c => ?_) (fun c => ?_)))
      · exact br_t rfl (nm_r (nI_1 w) (hn (fun g => cs_G_i1.1 g c)))
      · exact br_f cx_n10 (hg (cs_G_i1.2 c))
theorem cy_firstGap {post : Int32 → Prop} {k : Nat} {kd : Int32} (hk : k < 8) (hd : kd = 0 ∨ kd = 1) (h0 : cs_F0 (fun c => cs_G kd (pa c) (fa (k * 256 + c))) 256 → post (-4)) (h1 : ∀ c, cs_F1 (fun c => cs_G kd (pa c) (fa (k * 256 + c))) 256 c → post (nI c)) : wpY_firstGap post (g1, g2, g3, g4, g5, tf, tn, fr, nx, fa, pa) (nI k) kd := by
  refine cs_search (W := fun n i => wY_firstGap_2 post (nI k) kd g1 g2 g3 g4 g5 tf tn fr nx fa pa n (nI i)) (P1 := fun w => post (nI w)) 256 0 (by omega) (fun d hd => absurd hd (by omega)) h0 h1 ?_ ?_
  · intro n hp
    exact pk_le 256 256 (fun _ => hp) (fun z => absurd z (by omega))
  · intro n w hw _ hg hn
    refine pk_le 256 w (fun z => absurd z (by omega)) (fun _ => ?_)
    rw [cy_256]
    refine ⟨vp_in_nI hw (by decide), nm_r (congrArg pa (nI_clamp (by omega))) ⟨vp_in_nI (by omega) (by decide), nm_r (congrArg fa (nI_clamp (by omega))) ?_⟩⟩
    rcases hd with rfl | rfl
    · refine br_t rfl (br_c (fun c => ?_) (fun c => br_c (fun d => ?_) (fun d => ?_)))
      · exact br_f cy_n01 (nm_r (nI_1 w) (hn (fun g => (cs_G_i0.1 g).1 c)))
      · exact hg (cs_G_i0.2 ⟨c, d⟩)
      · exact br_f cy_n01 (nm_r (nI_1 w) (hn (fun g => d (cs_G_i0.1 g).2)))
    · refine br_f cx_n10 (br_t rfl (br_c (fun c => ?_) (fun c => ?_)))
      · exact nm_r (nI_1 w) (hn (fun g => cs_G_i1.1 g c))
      · exact hg (cs_G_i1.2 c)
theorem cs_G_XY {t : Nat → Int32} {A i j : Nat} (hF : cs_XF t nf) (hS : cs_XS t A i j sf) (hF' : cs_YFs t fa) (hP : cs_YSs t A i j pa) {k : Nat} (hk : k < 8) (kd : Int32) : (∀ w, w < 121 → (cs_G kd (sf w) (nf (k * 121 + w)) ↔ cs_G kd (pa (cs_C w)) (fa (k * 256 + cs_C w)))) ∧ (∀ c, c < 256 → cs_G kd (pa c) (fa (k * 256 + c)) → cs_ok 4 c = true) := by
  constructor
  · intro w hw
    rw [cs_eqSw hS hP hw, cs_eqFw hF hF' hw hk]
  · intro c hc g
    refine ts_nf (fun ho => ?_)
    rw [(hP c hc).2 ho] at g
    exact cs_G_0 g
theorem cx_gr35 {post : Int32 → Prop} {x : Int32} {R : Nat} (hR : cs_F1 (fun R => bt x R = true) 8 R) (h : post (nI R)) : ∃ n, wX_gapRefusal_35 post x f1 f2 f3 f4 f5 stk tm co le nr nf pp pr sf n 0 := by
  have hR8 := hR.1
  refine pk_loop (fun n i (_ : Unit) => wX_gapRefusal_35 post x f1 f2 f3 f4 f5 stk tm co le nr nf pp pr sf n (nI i)) (fun _ _ => True) R 0 () (by omega) trivial ?_ ?_
  · intro n _ _
    refine pk_le 8 R (fun z => absurd z (by omega)) (fun _ => cx_hasBit (by omega) (fun hb => ?_) (fun hb => br_f cx_n10 h))
    rw [show bt x R = true from hR.2.1] at hb
    exact nomatch hb
  · intro n i _ hi _ ih
    refine pk_le 8 i (fun z => absurd z (by omega)) (fun _ => cx_hasBit (by omega) (fun hb => br_t rfl (nm_r (nI_1 i) (ih () trivial))) (fun hb => ?_))
    exact absurd hb (hR.2.2 i hi)
theorem cy_gr32 {post : Int32 → SY → Prop} {k c R : Nat} (hk : k < 8) (hc : c < 256) (hR : cs_F1 (fun R => bt (pa c &&& (fa (k * 256 + c) ^^^ (-1))) R = true) 8 R) (h : post (nI R) (g1, g2, g3, g4, g5, tf, tn, fr, nx, fa, pa)) : ∃ n, wY_gapRefusal_32 post (nI k) (nI c) g1 g2 g3 g4 g5 tf tn fr nx fa pa n 0 := by
  have hR8 := hR.1
  refine pk_loop (fun n i (_ : Unit) => wY_gapRefusal_32 post (nI k) (nI c) g1 g2 g3 g4 g5 tf tn fr nx fa pa n (nI i)) (fun _ _ => True) R 0 () (by omega) trivial ?_ ?_
  · intro n _ _
    refine pk_le 7 R (fun _ => h) (fun _ => ?_)
    rw [cy_256, nI_clamp (show c < 2 ^ 31 by omega), nI_clamp (show k * 256 + c < 2 ^ 31 by omega)]
    refine ⟨vp_in_nI hc (by decide), vp_in_nI (by omega) (by decide), br_f (fun g => ?_) h⟩
    rw [cs_hs0 _ (by omega), show bt (pa c &&& (fa (k * 256 + c) ^^^ (-1))) R = true from hR.2.1] at g
    exact nomatch g
  · intro n i _ hi _ ih
    refine pk_le 7 i (fun z => absurd z (by omega)) (fun _ => ?_)
    rw [cy_256, nI_clamp (show c < 2 ^ 31 by omega), nI_clamp (show k * 256 + c < 2 ^ 31 by omega)]
    refine ⟨vp_in_nI hc (by decide), vp_in_nI (by omega) (by decide), br_t ?_ (nm_r (nI_1 i) (ih () trivial))⟩
    rw [cs_hs0 _ (by omega)]
    exact ts_nt (hR.2.2 i hi)
theorem cs_Ps_8 {t : Nat → Int32} {A i j : Nat} {u : List Nat} {x : Int32} (h : cs_Ps t A i j u x) {R : Nat} (hR : bt x R = true) : R < 8 := by
  obtain ⟨p, q, _, _, _, m, n, hm, hn, _, _, _, e⟩ := (h R).1 hR
  rw [e]
  exact cs_or8 hm hn
noncomputable def cs_q (P : Prop) : Bool := @decide P (Classical.propDecidable P)
theorem cs_q_t {P : Prop} (h : P) : cs_q P = true := @decide_eq_true P (Classical.propDecidable P) h
theorem cs_q_f {P : Prop} (h : ¬ P) : cs_q P = false := @decide_eq_false P (Classical.propDecidable P) h
theorem cs_q_c {P Q : Prop} (h : P ↔ Q) : cs_q P = cs_q Q := by rw [propext h]
theorem cx_rf13 {post : Int32 → Prop} {kd : Int32} (hd : kd = 0 ∨ kd = 1) (h : post (nI (cs_cn (fun k => cs_q (cs_F0 (fun w => cs_G kd (sf w) (nf (k * 121 + w))) 121)) 8))) : ∃ n, wX_refined_13 post kd f1 f2 f3 f4 f5 stk tm co le nr nf pp pr sf n 0 0 := by
  refine pk_loop (fun n i s => wX_refined_13 post kd f1 f2 f3 f4 f5 stk tm co le nr nf pp pr sf n s (nI i)) (fun i s => s = nI (cs_cn (fun k => cs_q (cs_F0 (fun w => cs_G kd (sf w) (nf (k * 121 + w))) 121)) i)) 8 0 0 (by omega) rfl ?_ ?_
  · intro n s e
    refine pk_le 8 8 (fun _ => ?_) (fun z => absurd z (by omega))
    rw [show s = _ from e]
    exact h
  · intro n k s hk e ih
    refine pk_le 8 k (fun z => absurd z (by omega)) (fun _ => cx_firstGap hk hd (fun g => br_t rfl ?_) (fun w g => br_f (cs_m4 (by have := g.1; omega)) ?_))
    · refine nm_r (e' := nI (cs_cn (fun k => cs_q (cs_F0 (fun w => cs_G kd (sf w) (nf (k * 121 + w))) 121)) (k + 1))) ?_ (nm_r (nI_1 k) (ih _ rfl))
      rw [show s = _ from e, nI_1]
      refine congrArg nI ?_
      show _ = cs_cn _ k + cond (cs_q _) 1 0
      rw [cs_q_t g]
      rfl
    · refine nm_r (nI_1 k) (ih _ (Eq.trans e (congrArg nI ?_)))
      show _ = cs_cn _ k + cond (cs_q _) 1 0
      rw [cs_q_f (fun h0 => h0 w g.1 g.2.1)]
      rfl
theorem cy_rf19 {post : Int32 → SY → Prop} {kd : Int32} (hd : kd = 0 ∨ kd = 1) (h : post (nI (cs_cn (fun k => cs_q (cs_F0 (fun c => cs_G kd (pa c) (fa (k * 256 + c))) 256)) 8)) (g1, g2, g3, g4, g5, tf, tn, fr, nx, fa, pa)) : ∃ n, wY_refined_19 post kd g1 g2 g3 g4 g5 tf tn fr nx fa pa n 0 0 := by
  refine pk_loop (fun n i s => wY_refined_19 post kd g1 g2 g3 g4 g5 tf tn fr nx fa pa n s (nI i)) (fun i s => s = nI (cs_cn (fun k => cs_q (cs_F0 (fun c => cs_G kd (pa c) (fa (k * 256 + c))) 256)) i)) 8 0 0 (by omega) rfl ?_ ?_
  · intro n s e
    refine pk_le 8 8 (fun _ => ?_) (fun z => absurd z (by omega))
    rw [show s = _ from e]
    exact h
  · intro n k s hk e ih
    refine pk_le 8 k (fun z => absurd z (by omega)) (fun _ => cy_firstGap hk hd (fun g => br_t rfl ?_) (fun w g => br_f (cs_m4 (by have := g.1; omega)) ?_))
    · refine nm_r (e' := nI (cs_cn (fun k => cs_q (cs_F0 (fun c => cs_G kd (pa c) (fa (k * 256 + c))) 256)) (k + 1))) ?_ (nm_r (nI_1 k) (ih _ rfl))
      rw [show s = _ from e, nI_1]
      refine congrArg nI ?_
      show _ = cs_cn _ k + cond (cs_q _) 1 0
      rw [cs_q_t g]
      rfl
    · refine nm_r (nI_1 k) (ih _ (Eq.trans e (congrArg nI ?_)))
      show _ = cs_cn _ k + cond (cs_q _) 1 0
      rw [cs_q_f (fun h0 => h0 w g.1 g.2.1)]
      rfl
theorem cx_dl2 {post : Int32 → Prop} (h0 : cs_F0 (fun w => bt (sf w) 7 = true) 121 → post (-4)) (h1 : ∀ w, cs_F1 (fun w => bt (sf w) 7 = true) 121 w → post (co w)) : ∃ n, wX_deadlock_2 post f1 f2 f3 f4 f5 stk tm co le nr nf pp pr sf n 0 := by
  refine cs_search (W := fun n i => wX_deadlock_2 post f1 f2 f3 f4 f5 stk tm co le nr nf pp pr sf n (nI i)) (P1 := fun w => post (co w)) 121 0 (by omega) (fun d hd => absurd hd (by omega)) h0 h1 ?_ ?_
  · intro n hp
    exact pk_le 121 121 (fun _ => hp) (fun z => absurd z (by omega))
  · intro n w hw _ hg hn
    refine pk_le 121 w (fun z => absurd z (by omega)) (fun _ => ?_)
    rw [nI_clamp (by omega)]
    refine ⟨vp_in_nI hw (by decide), cx_hasBit (n := 7) (by decide) (fun hb => br_t rfl (nm_r (nI_1 w) (hn (fun g => ?_)))) (fun hb => br_f cx_n10 ⟨vp_in_nI hw (by decide), hg hb⟩)⟩
    rw [hb] at g
    exact nomatch g
theorem cy_dl6 {post : Int32 → SY → Prop} (h0 : cs_F0 (fun c => bt (pa c) 7 = true) 256 → post (-4) (g1, g2, g3, g4, g5, tf, tn, fr, nx, fa, pa)) (h1 : ∀ c, cs_F1 (fun c => bt (pa c) 7 = true) 256 c → post (nI c) (g1, g2, g3, g4, g5, tf, tn, fr, nx, fa, pa)) : ∃ n, wY_deadlock_6 post g1 g2 g3 g4 g5 tf tn fr nx fa pa n 0 := by
  refine cs_search (W := fun n i => wY_deadlock_6 post g1 g2 g3 g4 g5 tf tn fr nx fa pa n (nI i)) (P1 := fun c => post (nI c) (g1, g2, g3, g4, g5, tf, tn, fr, nx, fa, pa)) 256 0 (by omega) (fun d hd => absurd hd (by omega)) h0 h1 ?_ ?_
  · intro n hp
    exact pk_le 256 256 (fun _ => hp) (fun z => absurd z (by omega))
  · intro n w hw _ hg hn
    refine pk_le 256 w (fun z => absurd z (by omega)) (fun _ => ?_)
    rw [nI_clamp (by omega)]
    exact ⟨vp_in_nI hw (by decide), br_c (fun c => hg ((cs_hs (n := 7) _ (by decide)).1 c)) (fun c => nm_r (nI_1 w) (hn (fun g => c ((cs_hs (n := 7) _ (by decide)).2 g))))⟩
/-! unsure -/
theorem cs_C_tab : ∀ w, w < 121 → w ≠ 0 → cs_C w / 4 = cs_C ((w - 1) / 3) ∧ cs_C w % 4 = (w - 1) % 3 + 1 ∧ cs_C w ≠ 0 := by decide +kernel
theorem cs_ok_m4 : ∀ c, c < 256 → c ≠ 0 → c % 4 = 0 → cs_ok 4 c = false := by decide +kernel
theorem cx_u3 {w : Nat} (h0 : 1 ≤ w) (hw : w < 121) : (nI w - 1) / 3 = nI ((w - 1) / 3) ∧ (nI w - 1) - (nI w - 1) / 3 * 3 = nI ((w - 1) % 3) := by
  rw [cy_s1 h0, show (3 : Int32) = nI 3 from rfl]
  exact ⟨pk_div (by omega) (by decide) (by decide), pk_rem (by omega) (by decide) (by decide)⟩
theorem cs_2p {a : Nat} (ha : a < 3) : (1 : Int32) <<< (nI a &&& 31) = nI (2 ^ a) := cy_one2 a (by omega)
theorem cs_2p8 {a : Nat} (ha : a < 3) : 2 ^ a < 8 := by
  have : a = 0 ∨ a = 1 ∨ a = 2 := by omega
  rcases this with e | e | e <;> subst e <;> decide
def cs_UX (sf : Nat → Int32) (w : Nat) : Prop := w ≠ 0 ∧ ¬ sf w = 0 ∧ bt (sf ((w - 1) / 3)) (2 ^ ((w - 1) % 3)) = true
def cs_UY (pa : Nat → Int32) (c : Nat) : Prop := c ≠ 0 ∧ ¬ pa c = 0 ∧ c % 4 ≠ 0 ∧ bt (pa (c / 4)) (2 ^ (c % 4 - 1)) = true
theorem cx_un2 {post : Int32 → Prop} (h0 : cs_F0 (cs_UX sf) 121 → post (-4)) (h1 : ∀ w, cs_F1 (cs_UX sf) 121 w → post (co w)) : ∃ n, wX_unsure_2 post f1 f2 f3 f4 f5 stk tm co le nr nf pp pr sf n 1 := by
  refine cs_search (W := fun n i => wX_unsure_2 post f1 f2 f3 f4 f5 stk tm co le nr nf pp pr sf n (nI i)) (P1 := fun w => post (co w)) 121 1 (by omega) (fun d hd g => g.1 (by omega)) h0 h1 ?_ ?_
  · intro n hp
    exact pk_le 121 121 (fun _ => hp) (fun z => absurd z (by omega))
  · intro n w hw h1w hg hn
    have hm : (w - 1) % 3 < 3 := Nat.mod_lt _ (by decide)
    have h8 := cs_2p8 hm
    refine pk_le 121 w (fun z => absurd z (by omega)) (fun _ => ⟨by decide, by decide, ?_⟩)
    rw [(cx_u3 h1w hw).2, (cx_u3 h1w hw).1, nI_clamp (show w < 2 ^ 31 by omega), nI_clamp (show (w - 1) / 3 < 2 ^ 31 by omega)]
    refine nm_r (cs_2p hm) ⟨vp_in_nI hw (by decide), br_c (fun c => nm_r (nI_1 w) (hn (fun g => g.2.1 c))) (fun c => ⟨vp_in_nI (by omega) (by decide), cx_hasBit (by omega) (fun hb => br_t rfl (nm_r (nI_1 w) (hn (fun g => ?_)))) (fun hb => br_f cx_n10 ⟨vp_in_nI hw (by decide), hg ⟨by omega, c, hb⟩⟩)⟩)⟩
    have := g.2.2
    rw [hb] at this
    exact nomatch this
theorem cy_un6 {post : Int32 → SY → Prop} (h0 : cs_F0 (cs_UY pa) 256 → post (-4) (g1, g2, g3, g4, g5, tf, tn, fr, nx, fa, pa)) (h1 : ∀ c, cs_F1 (cs_UY pa) 256 c → post (nI c) (g1, g2, g3, g4, g5, tf, tn, fr, nx, fa, pa)) : ∃ n, wY_unsure_6 post g1 g2 g3 g4 g5 tf tn fr nx fa pa n 1 := by
  refine cs_search (W := fun n i => wY_unsure_6 post g1 g2 g3 g4 g5 tf tn fr nx fa pa n (nI i)) (P1 := fun c => post (nI c) (g1, g2, g3, g4, g5, tf, tn, fr, nx, fa, pa)) 256 1 (by omega) (fun d hd g => g.1 (by omega)) h0 h1 ?_ ?_
  · intro n hp
    exact pk_le 256 256 (fun _ => hp) (fun z => absurd z (by omega))
  · intro n c hc h1c hg hn
    refine pk_le 256 c (fun z => absurd z (by omega)) (fun _ => ?_)
    rw [pk_andN (by omega) 2 (by decide), pk_shrN (by omega) _ 2 (by decide), nI_clamp (show c < 2 ^ 31 by omega), nI_clamp (show c / 2 ^ 2 < 2 ^ 31 by omega)]
    show ∀ x, x = nI (c % 4) - 1 → _
    by_cases z : c % 4 = 0
    · rw [z]
      exact nm_e (br_t (by decide) (nm_r (nI_1 c) (hn (fun g => g.2.2.1 z))))
    · have hm : c % 4 - 1 < 3 := by omega
      have h8 := cs_2p8 hm
      refine nm_r (cy_s1 (by omega)) (br_f (nI_pos (by omega)) ⟨vp_in_nI hc (by decide), br_c (fun d => nm_r (nI_1 c) (hn (fun g => g.2.1 d))) (fun d => ⟨vp_in_nI (by omega) (by decide), ?_⟩)⟩)
      rw [cs_2p hm]
      refine br_c (fun e => hg ⟨by omega, d, z, (cs_hs _ (by omega)).1 e⟩) (fun e => nm_r (nI_1 c) (hn (fun g => e ((cs_hs _ (by omega)).2 g.2.2.2))))
end CSG
theorem i_vc_gap {k : Nat} {u : SX} {v : SY} (I : i_Rel k u v) (hk : k + 4 ≤ 2048) (v1 : Int32) (v2 : Int32) : wpX_gap (fun r => wpY_gap (fun r' v' => r' = r ∧ i_Rel (k + 4) u v') v v1 v2) u v1 v2 := by
  have I0 := I
  obtain ⟨D, i, j, A, l, stk, tm, co, le, nr, nf, pp, pr, sf, tf, tn, fr, nx, fa, pa, rfl, rfl, hD, hi, hj, hA, hl, hs, hT, hC, hF, hS⟩ := I
  unfold wpX_gap
  rcases cs_rng v1 8 (by decide) with h | ⟨h, h8⟩ | ⟨b, hb, rfl⟩
  · exact cx_isN0 h (br_t rfl (br_t h ⟨rfl, I0⟩))
  · exact cx_isN1 h h8 (br_t rfl (br_f h (br_t (cs_up h8 (by decide)) ⟨rfl, I0⟩)))
  · have hb0 : ¬ nI b < 0 := nI_pos (by omega)
    have hb7 : ¬ (7 : Int32) < nI b := nI_nlt (a := 7) (by omega) (by omega)
    refine cx_isN2 hb (br_f cx_n10 ?_)
    rcases cs_kind v2 with hv | hv
    · refine cx_isK0 hv (br_t rfl (br_f hb0 (br_f hb7 ?_)))
      rcases hv with h | ⟨h, h2⟩
      · exact br_t h ⟨rfl, I0⟩
      · exact br_f h (br_f (cs_nle h2 (by decide)) ⟨rfl, I0⟩)
    · refine cx_isK1 hv (br_f cx_n10 (cx_firstGap hb hv (fun g => br_t rfl ?_) (fun w g => br_f (cs_m4 (by have := g.1; omega)) ?_)))
      · refine br_f hb0 (br_f hb7 (br_f (cs_k0 hv) (br_t (cs_k1 hv) (cy_list hA hi hj hT (fun F P hF' hP => ?_)))))
        have hG := cs_G_XY hF hS hF' hP hb v2
        have g' := cs_XY0 hG.1 hG.2 g
        exact cy_firstGap hb hv (fun _ => ⟨rfl, cs_mkR ⟨hD, hi, hj, hA, hl, hs, hT, hC, hF, hS⟩⟩) (fun c gc => absurd gc.2.1 (g' c gc.1))
      · have hw := g.1
        rw [nI_clamp (by omega)]
        refine ⟨vp_in_nI hw (by decide), br_f hb0 (br_f hb7 (br_f (cs_k0 hv) (br_t (cs_k1 hv) (cy_list hA hi hj hT (fun F P hF' hP => ?_)))))⟩
        have hG := cs_G_XY hF hS hF' hP hb v2
        have g' := cs_XY1 hG.1 hG.2 g
        refine cy_firstGap hb hv (fun g0 => absurd g'.2.1 (g0 _ g'.1)) (fun c gc => ⟨?_, cs_mkR ⟨hD, hi, hj, hA, hl, hs, hT, hC, hF, hS⟩⟩)
        rw [cs_F1_u gc g', (cs_eqCw hC hw).1]
theorem i_vc_gapRefusal {k : Nat} {u : SX} {v : SY} (I : i_Rel k u v) (hk : k + 4 ≤ 2048) (v1 : Int32) : wpX_gapRefusal (fun r => wpY_gapRefusal (fun r' v' => r' = r ∧ i_Rel (k + 4) u v') v v1) u v1 := by
  have I0 := I
  obtain ⟨D, i, j, A, l, stk, tm, co, le, nr, nf, pp, pr, sf, tf, tn, fr, nx, fa, pa, rfl, rfl, hD, hi, hj, hA, hl, hs, hT, hC, hF, hS⟩ := I
  unfold wpX_gapRefusal
  rcases cs_rng v1 8 (by decide) with h | ⟨h, h8⟩ | ⟨b, hb, rfl⟩
  · exact cx_isN0 h (br_t rfl (br_t h ⟨rfl, I0⟩))
  · exact cx_isN1 h h8 (br_t rfl (br_f h (br_f (cs_nle h8 (by decide)) ⟨rfl, I0⟩)))
  · have hb0 : ¬ nI b < 0 := nI_pos (by omega)
    have hb7 : nI b ≤ (7 : Int32) := nI_le (b := 7) (by omega) (by decide)
    refine cx_isN2 hb (br_f cx_n10 (cx_firstGap hb (Or.inr rfl) (fun g => br_t rfl ?_) (fun w g => br_f (cs_m4 (by have := g.1; omega)) ?_)))
    · refine br_f hb0 (br_t hb7 (cy_list hA hi hj hT (fun F P hF' hP => ?_)))
      have hG := cs_G_XY hF hS hF' hP hb 1
      have g' := cs_XY0 hG.1 hG.2 g
      exact cy_firstGap hb (Or.inr rfl) (fun _ => br_f (by decide) ⟨rfl, cs_mkR ⟨hD, hi, hj, hA, hl, hs, hT, hC, hF, hS⟩⟩) (fun c gc => absurd gc.2.1 (g' c gc.1))
    · have hw := g.1
      have hx := cs_G_i1.1 g.2.1
      have h8 : ∀ R, bt (sf w &&& (nf (b * 121 + w) ^^^ (-1))) R = true → R < 8 := by
        intro R hR
        rw [b_and, Bool.and_eq_true] at hR
        have hP := hS _ (cs_wdW hw)
        rw [(cs_wd_tab w hw).2.2] at hP
        exact cs_Ps_8 hP hR.1
      refine cx_excess hb hw ?_
      rcases cs_F (fun R => bt (sf w &&& (nf (b * 121 + w) ^^^ (-1))) R = true) 8 with ⟨R, hR⟩ | h0
      · refine cx_gr35 hR (br_f hb0 (br_t hb7 (cy_list hA hi hj hT (fun F P hF' hP => ?_))))
        have hG := cs_G_XY hF hS hF' hP hb 1
        have g' := cs_XY1 hG.1 hG.2 g
        refine cy_firstGap hb (Or.inr rfl) (fun g0 => absurd g'.2.1 (g0 _ g'.1)) (fun c gc => ?_)
        have ec := cs_F1_u gc g'
        subst ec
        refine br_t (nI_pos' (by have := g'.1; omega)) (cy_gr32 hb g'.1 ?_ ⟨rfl, cs_mkR ⟨hD, hi, hj, hA, hl, hs, hT, hC, hF, hS⟩⟩)
        rw [cs_eqSw hS hP hw, cs_eqFw hF hF' hw hb]
        exact hR
      · exact absurd (cs_zero (fun R hR => h0 R (h8 R hR) hR)) hx
theorem i_vc_refined {k : Nat} {u : SX} {v : SY} (I : i_Rel k u v) (hk : k + 4 ≤ 2048) (v1 : Int32) : wpX_refined (fun r => wpY_refined (fun r' v' => r' = r ∧ i_Rel (k + 4) u v') v v1) u v1 := by
  have I0 := I
  obtain ⟨D, i, j, A, l, stk, tm, co, le, nr, nf, pp, pr, sf, tf, tn, fr, nx, fa, pa, rfl, rfl, hD, hi, hj, hA, hl, hs, hT, hC, hF, hS⟩ := I
  unfold wpX_refined
  rcases cs_kind v1 with hv | hv
  · refine cx_isK0 hv (br_t rfl ?_)
    rcases hv with h | ⟨h, h2⟩
    · exact br_t h ⟨rfl, I0⟩
    · exact br_f h (br_f (cs_nle h2 (by decide)) ⟨rfl, I0⟩)
  · refine cx_isK1 hv (br_f cx_n10 (cx_rf13 hv (br_f (cs_k0 hv) (br_t (cs_k1 hv) (cy_list hA hi hj hT (fun F P hF' hP => cy_rf19 hv ⟨congrArg nI ?_, cs_mkR ⟨hD, hi, hj, hA, hl, hs, hT, hC, hF, hS⟩⟩))))))
    refine cs_cn_c 8 (fun b hb => ?_)
    have hG := cs_G_XY hF hS hF' hP hb v1
    exact cs_q_c ⟨cs_YX0 hG.1, cs_XY0 hG.1 hG.2⟩
theorem i_vc_deadlock {k : Nat} {u : SX} {v : SY} (I : i_Rel k u v) (hk : k + 4 ≤ 2048) : wpX_deadlock (fun r => wpY_deadlock (fun r' v' => r' = r ∧ i_Rel (k + 4) u v') v) u := by
  have I0 := I
  obtain ⟨D, i, j, A, l, stk, tm, co, le, nr, nf, pp, pr, sf, tf, tn, fr, nx, fa, pa, rfl, rfl, hD, hi, hj, hA, hl, hs, hT, hC, hF, hS⟩ := I
  have hG : ∀ P, cs_YSs tm A i j P → (∀ w, w < 121 → (bt (sf w) 7 = true ↔ bt (P (cs_C w)) 7 = true)) ∧ (∀ c, c < 256 → bt (P c) 7 = true → cs_ok 4 c = true) := by
    intro P hP
    refine ⟨fun w hw => by rw [cs_eqSw hS hP hw], fun c hc g => ts_nf (fun ho => ?_)⟩
    rw [(hP c hc).2 ho, b_0] at g
    exact nomatch g
  unfold wpX_deadlock
  refine cx_dl2 (fun g => ?_) (fun w g => ?_)
  · unfold wpY_deadlock
    refine cy_list hA hi hj hT (fun F P hF' hP => ?_)
    have g' := cs_XY0 (hG P hP).1 (hG P hP).2 g
    exact cy_dl6 (fun _ => ⟨rfl, cs_mkR ⟨hD, hi, hj, hA, hl, hs, hT, hC, hF, hS⟩⟩) (fun c gc => absurd gc.2.1 (g' c gc.1))
  · unfold wpY_deadlock
    refine cy_list hA hi hj hT (fun F P hF' hP => ?_)
    have g' := cs_XY1 (hG P hP).1 (hG P hP).2 g
    refine cy_dl6 (fun g0 => absurd g'.2.1 (g0 _ g'.1)) (fun c gc => ⟨?_, cs_mkR ⟨hD, hi, hj, hA, hl, hs, hT, hC, hF, hS⟩⟩)
    rw [cs_F1_u gc g', (cs_eqCw hC g.1).1]
theorem i_vc_unsure {k : Nat} {u : SX} {v : SY} (I : i_Rel k u v) (hk : k + 4 ≤ 2048) : wpX_unsure (fun r => wpY_unsure (fun r' v' => r' = r ∧ i_Rel (k + 4) u v') v) u := by
  have I0 := I
  obtain ⟨D, i, j, A, l, stk, tm, co, le, nr, nf, pp, pr, sf, tf, tn, fr, nx, fa, pa, rfl, rfl, hD, hi, hj, hA, hl, hs, hT, hC, hF, hS⟩ := I
  have hG : ∀ P, cs_YSs tm A i j P → (∀ w, w < 121 → (cs_UX sf w ↔ cs_UY P (cs_C w))) ∧ (∀ c, c < 256 → cs_UY P c → cs_ok 4 c = true) := by
    intro P hP
    refine ⟨fun w hw => ?_, fun c hc g => ts_nf (fun ho => g.2.1 ((hP c hc).2 ho))⟩
    unfold cs_UX cs_UY
    by_cases z : w = 0
    · subst z
      exact ⟨fun g => absurd rfl g.1, fun g => absurd rfl g.1⟩
    · obtain ⟨e1, e2, e3⟩ := cs_C_tab w hw z
      rw [e1, e2, cs_eqSw hS hP hw, cs_eqSw hS hP (show (w - 1) / 3 < 121 by omega), Nat.add_sub_cancel]
      exact ⟨fun g => ⟨e3, g.2.1, by omega, g.2.2⟩, fun g => ⟨z, g.2.1, g.2.2.2⟩⟩
  unfold wpX_unsure
  refine cx_un2 (fun g => ?_) (fun w g => ?_)
  · unfold wpY_unsure
    refine cy_list hA hi hj hT (fun F P hF' hP => ?_)
    have g' := cs_XY0 (hG P hP).1 (hG P hP).2 g
    exact cy_un6 (fun _ => ⟨rfl, cs_mkR ⟨hD, hi, hj, hA, hl, hs, hT, hC, hF, hS⟩⟩) (fun c gc => absurd gc.2.1 (g' c gc.1))
  · unfold wpY_unsure
    refine cy_list hA hi hj hT (fun F P hF' hP => ?_)
    have g' := cs_XY1 (hG P hP).1 (hG P hP).2 g
    refine cy_un6 (fun g0 => absurd g'.2.1 (g0 _ g'.1)) (fun c gc => ⟨?_, cs_mkR ⟨hD, hi, hj, hA, hl, hs, hT, hC, hF, hS⟩⟩)
    rw [cs_F1_u gc g', (cs_eqCw hC g.1).1]
end
