/-! ===== the failures, by what a term's number holds: t k is the term of name k; a word is a list, its LAST event first ===== -/
def cs_nb (t : Nat → Int32) (k a b : Nat) : Prop := bt (t k) (8 + 8 * a + b) = true
def cs_Rn (t : Nat → Int32) (k : Nat) : List Nat → Nat → Prop
  | [], b => b = k
  | a :: u, b => ∃ c, c < 8 ∧ cs_Rn t k u c ∧ cs_nb t c a b
def cs_Fl (t : Nat → Int32) (k : Nat) (u : List Nat) (R : Nat) : Prop := ∃ b, b < 8 ∧ cs_Rn t k u b ∧ bt (t b) R = true
theorem cs_Rn_front (t : Nat → Int32) {k : Nat} (hk : k < 8) (a : Nat) : ∀ (u : List Nat) (c : Nat), c < 8 → (cs_Rn t k (u ++ [a]) c ↔ ∃ b, b < 8 ∧ cs_nb t k a b ∧ cs_Rn t b u c) := by
  intro u
  induction u with
  | nil =>
    intro c hc
    constructor
    · rintro ⟨d, hd, e, h⟩
      have e : d = k := e
      subst e
      exact ⟨c, hc, h, rfl⟩
    · rintro ⟨b, hb, h, e⟩
      have e : c = b := e
      subst e
      exact ⟨k, hk, rfl, h⟩
  | cons e u ih =>
    intro c hc
    show (∃ d, d < 8 ∧ cs_Rn t k (u ++ [a]) d ∧ cs_nb t d e c) ↔ _
    constructor
    · rintro ⟨d, hd, h1, h2⟩
      obtain ⟨b, hb, h3, h4⟩ := (ih d hd).1 h1
      exact ⟨b, hb, h3, d, hd, h4, h2⟩
    · rintro ⟨b, hb, h3, d, hd, h4, h2⟩
      exact ⟨d, hd, (ih d hd).2 ⟨b, hb, h3, h4⟩, h2⟩
theorem cs_Fl_front (t : Nat → Int32) {k : Nat} (hk : k < 8) (a : Nat) (u : List Nat) (R : Nat) : cs_Fl t k (u ++ [a]) R ↔ ∃ b, b < 8 ∧ cs_nb t k a b ∧ cs_Fl t b u R := by
  constructor
  · rintro ⟨c, hc, h1, h2⟩
    obtain ⟨b, hb, h3, h4⟩ := (cs_Rn_front t hk a u c hc).1 h1
    exact ⟨b, hb, h3, c, hc, h4, h2⟩
  · rintro ⟨b, hb, h3, c, hc, h4, h2⟩
    exact ⟨c, hc, (cs_Rn_front t hk a u c hc).2 ⟨b, hb, h3, h4⟩, h2⟩
def cs_St (t : Nat → Int32) (A a p' q' p q : Nat) : Prop := (A.testBit a = true ∧ cs_nb t p' a p ∧ cs_nb t q' a q) ∨ (A.testBit a = false ∧ ((cs_nb t p' a p ∧ q = q') ∨ (p = p' ∧ cs_nb t q' a q)))
def cs_Pr (t : Nat → Int32) (A i j : Nat) : List Nat → Nat → Nat → Prop
  | [], p, q => p = i ∧ q = j
  | a :: u, p, q => ∃ p' q', p' < 8 ∧ q' < 8 ∧ cs_Pr t A i j u p' q' ∧ cs_St t A a p' q' p q
def cs_ag (A m n : Nat) : Bool := (m ||| A) == (n ||| A)
def cs_Sf (t : Nat → Int32) (A i j : Nat) (u : List Nat) (R : Nat) : Prop := ∃ p q, p < 8 ∧ q < 8 ∧ cs_Pr t A i j u p q ∧ ∃ m n, m < 8 ∧ n < 8 ∧ cs_ag A m n = true ∧ bt (t p) m = true ∧ bt (t q) n = true ∧ R = m ||| n
/-- the part of a word that a parting gives to one side -/
def cs_pa (A pt : Nat) (sec : Bool) : List Nat → List Nat
  | [] => []
  | a :: u => if (A.testBit a || (pt.testBit u.length == sec)) = true then a :: cs_pa A pt sec u else cs_pa A pt sec u
theorem cs_pa_t {A pt : Nat} {sec : Bool} {a : Nat} {u : List Nat} (h : A.testBit a = true ∨ pt.testBit u.length = sec) : cs_pa A pt sec (a :: u) = a :: cs_pa A pt sec u := by
  refine if_pos ?_
  rcases h with h | h
  · rw [h]; rfl
  · rw [h]; cases sec <;> simp
theorem cs_pa_f {A pt : Nat} {sec : Bool} {a : Nat} {u : List Nat} (h : A.testBit a = false) (h2 : pt.testBit u.length = !sec) : cs_pa A pt sec (a :: u) = cs_pa A pt sec u := by
  refine if_neg ?_
  rw [h, h2]
  cases sec <;> simp
theorem cs_pa_congr (A : Nat) {pt pt' : Nat} (sec : Bool) : ∀ u : List Nat, (∀ m, m < u.length → pt.testBit m = pt'.testBit m) → cs_pa A pt sec u = cs_pa A pt' sec u := by
  intro u
  induction u with
  | nil => intro _; rfl
  | cons a u ih =>
    intro h
    have e : pt.testBit u.length = pt'.testBit u.length := h _ (by simp)
    have i := ih (fun m hm => h m (by rw [List.length_cons]; omega))
    unfold cs_pa
    rw [e, i]
theorem cs_Pr_pa (t : Nat → Int32) (A i j : Nat) : ∀ (u : List Nat) (p q : Nat), p < 8 → q < 8 → (cs_Pr t A i j u p q ↔ ∃ pt, pt < 2 ^ u.length ∧ cs_Rn t i (cs_pa A pt false u) p ∧ cs_Rn t j (cs_pa A pt true u) q) := by
  intro u
  induction u with
  | nil =>
    intro p q _ _
    constructor
    · rintro ⟨h1, h2⟩
      exact ⟨0, by simp, h1, h2⟩
    · rintro ⟨pt, _, h1, h2⟩
      exact ⟨h1, h2⟩
  | cons a u ih =>
    intro p q hp hq
    rw [List.length_cons]
    have hd : 2 ^ (u.length + 1) = 2 ^ u.length * 2 := Nat.pow_succ ..
    constructor
    · rintro ⟨p', q', hp', hq', h, hs⟩
      obtain ⟨pt, hpt, h1, h2⟩ := (ih p' q' hp' hq').1 h
      have hl : pt.testBit u.length = false := Nat.testBit_lt_two_pow hpt
      rcases hs with ⟨hA, n1, n2⟩ | ⟨hA, ⟨n1, e⟩ | ⟨e, n2⟩⟩
      · refine ⟨pt, by omega, ?_, ?_⟩
        · rw [cs_pa_t (Or.inl hA)]; exact ⟨p', hp', h1, n1⟩
        · rw [cs_pa_t (Or.inl hA)]; exact ⟨q', hq', h2, n2⟩
      · subst e
        refine ⟨pt, by omega, ?_, ?_⟩
        · rw [cs_pa_t (Or.inr hl)]; exact ⟨p', hp', h1, n1⟩
        · rw [cs_pa_f hA (by rw [hl]; rfl)]; exact h2
      · subst e
        have hb : ∀ m, m < u.length → (pt ||| 2 ^ u.length).testBit m = pt.testBit m := by
          intro m hm
          rw [Nat.testBit_or, Nat.testBit_two_pow_of_ne (by omega), Bool.or_false]
        have ht : (pt ||| 2 ^ u.length).testBit u.length = true := by
          rw [Nat.testBit_or, Nat.testBit_two_pow_self, Bool.or_true]
        refine ⟨pt ||| 2 ^ u.length, Nat.or_lt_two_pow (by omega) (by have := Nat.two_pow_pos u.length; omega), ?_, ?_⟩
        · rw [cs_pa_f hA (by rw [ht]; rfl), cs_pa_congr A false u hb]; exact h1
        · rw [cs_pa_t (Or.inr ht), cs_pa_congr A true u hb]; exact ⟨q', hq', h2, n2⟩
    · rintro ⟨pt, hpt, h1, h2⟩
      have hb : ∀ m, m < u.length → pt.testBit m = (pt % 2 ^ u.length).testBit m := by
        intro m hm
        rw [Nat.testBit_mod_two_pow, decide_eq_true hm, Bool.true_and]
      have hm : pt % 2 ^ u.length < 2 ^ u.length := Nat.mod_lt _ (Nat.two_pow_pos _)
      cases hA : A.testBit a
      · cases hl : pt.testBit u.length
        · rw [cs_pa_t (Or.inr hl), cs_pa_congr A false u hb] at h1
          rw [cs_pa_f hA (by rw [hl]; rfl), cs_pa_congr A true u hb] at h2
          obtain ⟨c, hc, h3, h4⟩ := h1
          exact ⟨c, q, hc, hq, (ih c q hc hq).2 ⟨_, hm, h3, h2⟩, Or.inr ⟨hA, Or.inl ⟨h4, rfl⟩⟩⟩
        · rw [cs_pa_f hA (by rw [hl]; rfl), cs_pa_congr A false u hb] at h1
          rw [cs_pa_t (Or.inr hl), cs_pa_congr A true u hb] at h2
          obtain ⟨c, hc, h3, h4⟩ := h2
          exact ⟨p, c, hp, hc, (ih p c hp hc).2 ⟨_, hm, h1, h3⟩, Or.inr ⟨hA, Or.inr ⟨rfl, h4⟩⟩⟩
      · rw [cs_pa_t (Or.inl hA), cs_pa_congr A false u hb] at h1
        rw [cs_pa_t (Or.inl hA), cs_pa_congr A true u hb] at h2
        obtain ⟨c, hc, h3, h4⟩ := h1
        obtain ⟨d, hd', h5, h6⟩ := h2
        exact ⟨c, d, hc, hd', (ih c d hc hd').2 ⟨_, hm, h3, h5⟩, Or.inl ⟨hA, h4, h6⟩⟩
theorem cs_Sf_pa (t : Nat → Int32) (A i j : Nat) (u : List Nat) (R : Nat) : cs_Sf t A i j u R ↔ ∃ pt, pt < 2 ^ u.length ∧ ∃ m n, m < 8 ∧ n < 8 ∧ cs_ag A m n = true ∧ cs_Fl t i (cs_pa A pt false u) m ∧ cs_Fl t j (cs_pa A pt true u) n ∧ R = m ||| n := by
  constructor
  · rintro ⟨p, q, hp, hq, h, m, n, hm, hn, hg, h1, h2, e⟩
    obtain ⟨pt, hpt, h3, h4⟩ := (cs_Pr_pa t A i j u p q hp hq).1 h
    exact ⟨pt, hpt, m, n, hm, hn, hg, ⟨p, hp, h3, h1⟩, ⟨q, hq, h4, h2⟩, e⟩
  · rintro ⟨pt, hpt, m, n, hm, hn, hg, ⟨p, hp, h3, h1⟩, ⟨q, hq, h4, h2⟩, e⟩
    exact ⟨p, q, hp, hq, (cs_Pr_pa t A i j u p q hp hq).2 ⟨pt, hpt, h3, h4⟩, m, n, hm, hn, hg, h1, h2, e⟩
/-! ===== X's numbers and what their bits say ===== -/
def cs_NA (t : Nat → Int32) (k a : Nat) : Int32 := ((t k).toUInt32 >>> ((nI (8 + 8 * a)).toUInt32 &&& Int32.toUInt32 31)).toInt32 &&& 255
theorem cs_NA_bt (t : Nat → Int32) (k : Nat) {a : Nat} (ha : a < 3) (i : Nat) : bt (cs_NA t k a) i = true ↔ i < 8 ∧ cs_nb t k a i := by
  unfold cs_NA cs_nb
  rw [b_and, b_255, b_ushr (8 + 8 * a) (by omega), Bool.and_eq_true, decide_eq_true_eq]
  exact And.comm
theorem cs_NA_hi (t : Nat → Int32) (k : Nat) {a : Nat} (ha : a < 3) (i : Nat) (hi : 8 ≤ i) : bt (cs_NA t k a) i = false := by
  apply ts_nt
  intro h
  have := ((cs_NA_bt t k ha i).1 h).1
  omega
def cs_SN (t : Nat → Int32) (x : Int32) (a : Nat) : Int32 := cs_or (fun k => cs_sel (bt x k) (cs_NA t k a)) 8
theorem cs_SN_bt (t : Nat → Int32) (x : Int32) {a : Nat} (ha : a < 3) (b : Nat) : bt (cs_SN t x a) b = true ↔ b < 8 ∧ ∃ k, k < 8 ∧ bt x k = true ∧ cs_nb t k a b := by
  rw [cs_SN, cs_or_bt]
  constructor
  · rintro ⟨k, hk, h⟩
    rw [cs_sel_bt, cs_NA_bt t k ha] at h
    exact ⟨h.2.1, k, hk, h.1, h.2.2⟩
  · rintro ⟨hb, k, hk, h1, h2⟩
    refine ⟨k, hk, ?_⟩
    rw [cs_sel_bt, cs_NA_bt t k ha]
    exact ⟨h1, hb, h2⟩
def cs_RN (t : Nat → Int32) (x : Int32) : Int32 := cs_or (fun k => cs_sel (bt x k) (t k &&& 255)) 8
theorem cs_RN_bt (t : Nat → Int32) (x : Int32) (R : Nat) : bt (cs_RN t x) R = true ↔ R < 8 ∧ ∃ k, k < 8 ∧ bt x k = true ∧ bt (t k) R = true := by
  rw [cs_RN, cs_or_bt]
  constructor
  · rintro ⟨k, hk, h⟩
    rw [cs_sel_bt, b_and, b_255, Bool.and_eq_true, decide_eq_true_eq] at h
    exact ⟨h.2.2, k, hk, h.1, h.2.1⟩
  · rintro ⟨hb, k, hk, h1, h2⟩
    refine ⟨k, hk, ?_⟩
    rw [cs_sel_bt, b_and, b_255, Bool.and_eq_true, decide_eq_true_eq]
    exact ⟨h1, h2, hb⟩
theorem cs_or8 {m n : Nat} (hm : m < 8) (hn : n < 8) : m ||| n < 8 := Nat.or_lt_two_pow (n := 3) hm hn
def cs_UR (A : Nat) (x y : Int32) : Int32 := cs_or (fun m => cs_or (fun n => cs_sel (cs_ag A m n && bt x m && bt y n) ((1 : Int32) <<< (nI (m ||| n) &&& 31))) 8) 8
theorem cs_UR_bt (A : Nat) (x y : Int32) (R : Nat) : bt (cs_UR A x y) R = true ↔ ∃ m n, m < 8 ∧ n < 8 ∧ cs_ag A m n = true ∧ bt x m = true ∧ bt y n = true ∧ R = m ||| n := by
  rw [cs_UR, cs_or_bt]
  constructor
  · rintro ⟨m, hm, h⟩
    obtain ⟨n, hn, h⟩ := (cs_or_bt _ _ _).1 h
    have h8 := cs_or8 hm hn
    rw [cs_sel_bt, cs_one _ (by omega), decide_eq_true_eq, Bool.and_eq_true, Bool.and_eq_true] at h
    exact ⟨m, n, hm, hn, h.1.1.1, h.1.1.2, h.1.2, h.2⟩
  · rintro ⟨m, n, hm, hn, h1, h2, h3, e⟩
    have h8 := cs_or8 hm hn
    refine ⟨m, hm, (cs_or_bt _ _ _).2 ⟨n, hn, ?_⟩⟩
    rw [cs_sel_bt, cs_one _ (by omega), decide_eq_true_eq, Bool.and_eq_true, Bool.and_eq_true]
    exact ⟨⟨⟨h1, h2⟩, h3⟩, e⟩
theorem cs_UR_l0 (A : Nat) (y : Int32) : cs_UR A 0 y = 0 := by
  apply cs_zero
  intro i h
  obtain ⟨m, n, _, _, _, h, _⟩ := (cs_UR_bt A 0 y i).1 h
  rw [b_0] at h
  exact nomatch h
theorem cs_UR_r0 (A : Nat) (x : Int32) : cs_UR A x 0 = 0 := by
  apply cs_zero
  intro i h
  obtain ⟨m, n, _, _, _, _, h, _⟩ := (cs_UR_bt A x 0 i).1 h
  rw [b_0] at h
  exact nomatch h
def cs_AP (ps qs : Int32) : Int64 := cs_orL (fun p => cs_selL (bt ps p) (qs.toInt64 <<< ((nI (8 * p)).toInt64 &&& 63))) 8
theorem cs_AP_bl (ps qs : Int32) (hq8 : ∀ i, 8 ≤ i → bt qs i = false) {p q : Nat} (hp : p < 8) (hq : q < 8) : cs_bl (cs_AP ps qs) (8 * p + q) = true ↔ bt ps p = true ∧ bt qs q = true := by
  rw [cs_AP, cs_orL_bl]
  constructor
  · rintro ⟨p', hp', h⟩
    rw [cs_selL_bl, cs_shL _ (8 * p') (by omega) _ (by omega), cs_b64 _ hq8, Bool.and_eq_true, decide_eq_true_eq] at h
    obtain ⟨h1, h2, h3⟩ := h
    by_cases z : 8 * p + q - 8 * p' < 8
    · have e : p' = p := by omega
      subst e
      rw [show 8 * p' + q - 8 * p' = q by omega] at h3
      exact ⟨h1, h3⟩
    · rw [hq8 _ (by omega)] at h3
      exact nomatch h3
  · rintro ⟨h1, h2⟩
    refine ⟨p, hp, ?_⟩
    rw [cs_selL_bl, cs_shL _ (8 * p) (by omega) _ (by omega), cs_b64 _ hq8, Bool.and_eq_true, decide_eq_true_eq, show 8 * p + q - 8 * p = q by omega]
    exact ⟨h1, by omega, h2⟩
theorem cs_one_hi {n : Nat} (hn : n < 8) (i : Nat) (hi : 8 ≤ i) : bt ((1 : Int32) <<< (nI n &&& 31)) i = false := by
  rw [cs_one n (by omega), decide_eq_false (by omega)]
def cs_PA (t : Nat → Int32) (A p q a : Nat) : Int64 := cond (A.testBit a) (cs_AP (cs_NA t p a) (cs_NA t q a)) (cs_AP (cs_NA t p a) ((1 : Int32) <<< (nI q &&& 31)) ||| cs_AP ((1 : Int32) <<< (nI p &&& 31)) (cs_NA t q a))
theorem cs_PA_bl (t : Nat → Int32) (A : Nat) {a p' q' p q : Nat} (ha : a < 3) (hp' : p' < 8) (hq' : q' < 8) (hp : p < 8) (hq : q < 8) : cs_bl (cs_PA t A p' q' a) (8 * p + q) = true ↔ cs_St t A a p' q' p q := by
  unfold cs_PA cs_St
  cases hA : A.testBit a
  · rw [cond_false, cs_bl_or, Bool.or_eq_true, cs_AP_bl _ _ (cs_one_hi hq') hp hq, cs_AP_bl _ _ (cs_NA_hi t q' ha) hp hq, cs_NA_bt t p' ha, cs_NA_bt t q' ha, cs_one q' (by omega), cs_one p' (by omega), decide_eq_true_eq, decide_eq_true_eq]
    constructor
    · rintro (⟨⟨_, h1⟩, h2⟩ | ⟨h1, _, h2⟩)
      · exact Or.inr ⟨rfl, Or.inl ⟨h1, h2⟩⟩
      · exact Or.inr ⟨rfl, Or.inr ⟨h1, h2⟩⟩
    · rintro (⟨h, _⟩ | ⟨_, ⟨h1, h2⟩ | ⟨h1, h2⟩⟩)
      · exact nomatch h
      · exact Or.inl ⟨⟨hp, h1⟩, h2⟩
      · exact Or.inr ⟨h1, hq, h2⟩
  · rw [cond_true, cs_AP_bl _ _ (cs_NA_hi t q' ha) hp hq, cs_NA_bt t p' ha, cs_NA_bt t q' ha]
    constructor
    · rintro ⟨⟨_, h1⟩, _, h2⟩
      exact Or.inl ⟨rfl, h1, h2⟩
    · rintro (⟨_, h1, h2⟩ | ⟨h, _⟩)
      · exact ⟨⟨hp, h1⟩, hq, h2⟩
      · exact nomatch h
def cs_SP (t : Nat → Int32) (A : Nat) (x : Int64) (a : Nat) : Int64 := cs_orL (fun p => cs_orL (fun q => cs_selL (cs_bl x (8 * p + q)) (cs_PA t A p q a)) 8) 8
theorem cs_SP_bl (t : Nat → Int32) (A : Nat) (x : Int64) {a p q : Nat} (ha : a < 3) (hp : p < 8) (hq : q < 8) : cs_bl (cs_SP t A x a) (8 * p + q) = true ↔ ∃ p' q', p' < 8 ∧ q' < 8 ∧ cs_bl x (8 * p' + q') = true ∧ cs_St t A a p' q' p q := by
  rw [cs_SP, cs_orL_bl]
  constructor
  · rintro ⟨p', hp', h⟩
    obtain ⟨q', hq', h⟩ := (cs_orL_bl _ _ _).1 h
    rw [cs_selL_bl, cs_PA_bl t A ha hp' hq' hp hq] at h
    exact ⟨p', q', hp', hq', h⟩
  · rintro ⟨p', q', hp', hq', h⟩
    refine ⟨p', hp', (cs_orL_bl _ _ _).2 ⟨q', hq', ?_⟩⟩
    rw [cs_selL_bl, cs_PA_bl t A ha hp' hq' hp hq]
    exact h
def cs_RP (pr : Nat → Int32) (x : Int64) : Int32 := cs_or (fun p => cs_or (fun q => cs_sel (cs_bl x (8 * p + q)) (pr (8 * p + q))) 8) 8
theorem cs_RP_bt (pr : Nat → Int32) (x : Int64) (R : Nat) : bt (cs_RP pr x) R = true ↔ ∃ p q, p < 8 ∧ q < 8 ∧ cs_bl x (8 * p + q) = true ∧ bt (pr (8 * p + q)) R = true := by
  rw [cs_RP, cs_or_bt]
  constructor
  · rintro ⟨p, hp, h⟩
    obtain ⟨q, hq, h⟩ := (cs_or_bt _ _ _).1 h
    rw [cs_sel_bt] at h
    exact ⟨p, q, hp, hq, h⟩
  · rintro ⟨p, q, hp, hq, h⟩
    refine ⟨p, hp, (cs_or_bt _ _ _).2 ⟨q, hq, ?_⟩⟩
    rw [cs_sel_bt]
    exact h
/-! ===== what a cell of a table says of a word ===== -/
def cs_Pn (t : Nat → Int32) (k : Nat) (u : List Nat) (x : Int32) : Prop := ∀ b, bt x b = true ↔ b < 8 ∧ cs_Rn t k u b
def cs_Pf (t : Nat → Int32) (k : Nat) (u : List Nat) (x : Int32) : Prop := ∀ R, bt x R = true ↔ R < 8 ∧ cs_Fl t k u R
def cs_Pp (t : Nat → Int32) (A i j : Nat) (u : List Nat) (x : Int64) : Prop := ∀ p q, p < 8 → q < 8 → (cs_bl x (8 * p + q) = true ↔ cs_Pr t A i j u p q)
def cs_Ps (t : Nat → Int32) (A i j : Nat) (u : List Nat) (x : Int32) : Prop := ∀ R, bt x R = true ↔ cs_Sf t A i j u R
theorem cs_Pn_0 (t : Nat → Int32) {k : Nat} (hk : k < 8) : cs_Pn t k [] ((1 : Int32) <<< (nI k &&& 31)) := by
  intro b
  rw [cs_one k (by omega), decide_eq_true_eq]
  show b = k ↔ b < 8 ∧ b = k
  omega
theorem cs_Pn_s {t : Nat → Int32} {k : Nat} {u : List Nat} {x : Int32} (h : cs_Pn t k u x) {a : Nat} (ha : a < 3) : cs_Pn t k (a :: u) (cs_SN t x a) := by
  intro b
  rw [cs_SN_bt t x ha]
  show _ ↔ b < 8 ∧ ∃ c, c < 8 ∧ cs_Rn t k u c ∧ cs_nb t c a b
  constructor
  · rintro ⟨hb, c, hc, h1, h2⟩
    exact ⟨hb, c, hc, ((h c).1 h1).2, h2⟩
  · rintro ⟨hb, c, hc, h1, h2⟩
    exact ⟨hb, c, hc, (h c).2 ⟨hc, h1⟩, h2⟩
theorem cs_Pf_n {t : Nat → Int32} {k : Nat} {u : List Nat} {x : Int32} (h : cs_Pn t k u x) : cs_Pf t k u (cs_RN t x) := by
  intro R
  rw [cs_RN_bt]
  constructor
  · rintro ⟨hR, c, hc, h1, h2⟩
    exact ⟨hR, c, hc, ((h c).1 h1).2, h2⟩
  · rintro ⟨hR, c, hc, h1, h2⟩
    exact ⟨hR, c, hc, (h c).2 ⟨hc, h1⟩, h2⟩
theorem cs_Pp_0 (t : Nat → Int32) (A : Nat) {i j : Nat} (hi : i < 8) (hj : j < 8) : cs_Pp t A i j [] ((1 : Int64) <<< ((nI (8 * i + j)).toInt64 &&& 63)) := by
  intro p q hp hq
  rw [cs_oneL _ (by omega) _ (by omega), decide_eq_true_eq]
  show 8 * p + q = 8 * i + j ↔ p = i ∧ q = j
  omega
theorem cs_Pp_s {t : Nat → Int32} {A i j : Nat} {u : List Nat} {x : Int64} (h : cs_Pp t A i j u x) {a : Nat} (ha : a < 3) : cs_Pp t A i j (a :: u) (cs_SP t A x a) := by
  intro p q hp hq
  rw [cs_SP_bl t A x ha hp hq]
  show _ ↔ ∃ p' q', p' < 8 ∧ q' < 8 ∧ cs_Pr t A i j u p' q' ∧ cs_St t A a p' q' p q
  constructor
  · rintro ⟨p', q', hp', hq', h1, h2⟩
    exact ⟨p', q', hp', hq', (h p' q' hp' hq').1 h1, h2⟩
  · rintro ⟨p', q', hp', hq', h1, h2⟩
    exact ⟨p', q', hp', hq', (h p' q' hp' hq').2 h1, h2⟩
theorem cs_Ps_p {t : Nat → Int32} {A i j : Nat} {u : List Nat} {x : Int64} (h : cs_Pp t A i j u x) {pr : Nat → Int32} (hr : ∀ p q, p < 8 → q < 8 → pr (8 * p + q) = cs_UR A (t p) (t q)) : cs_Ps t A i j u (cs_RP pr x) := by
  intro R
  rw [cs_RP_bt]
  constructor
  · rintro ⟨p, q, hp, hq, h1, h2⟩
    rw [hr p q hp hq, cs_UR_bt] at h2
    exact ⟨p, q, hp, hq, (h p q hp hq).1 h1, h2⟩
  · rintro ⟨p, q, hp, hq, h1, h2⟩
    refine ⟨p, q, hp, hq, (h p q hp hq).2 h1, ?_⟩
    rw [hr p q hp hq, cs_UR_bt]
    exact h2
/-! ===== Y's numbers: first, next against a term; its partings ===== -/
def cs_TR (x f : Int32) (g : Nat → Int32) : Prop := (∀ R, bt f R = true ↔ R < 8 ∧ bt x R = true) ∧ ∀ a, a < 3 → ∀ b, bt (g a) b = true ↔ b < 8 ∧ bt x (8 + 8 * a + b) = true
theorem cs_Pf_0 {t : Nat → Int32} {k : Nat} (hk : k < 8) {f : Int32} {g : Nat → Int32} (h : cs_TR (t k) f g) : cs_Pf t k [] f := by
  intro R
  rw [h.1 R]
  constructor
  · rintro ⟨hR, h1⟩
    exact ⟨hR, k, hk, rfl, h1⟩
  · rintro ⟨hR, c, hc, e, h1⟩
    have e : c = k := e
    subst e
    exact ⟨hR, h1⟩
def cs_YR (x : Int32) (fr : Nat → Int32) : Int32 := cs_or (fun b => cs_sel (bt x b) (fr b)) 8
theorem cs_Pf_s {t : Nat → Int32} {k : Nat} (hk : k < 8) {f : Int32} {g : Nat → Int32} (h : cs_TR (t k) f g) {a : Nat} (ha : a < 3) {u : List Nat} {fr : Nat → Int32} (hf : ∀ b, b < 8 → cs_Pf t b u (fr b)) : cs_Pf t k (u ++ [a]) (cs_YR (g a) fr) := by
  intro R
  rw [cs_YR, cs_or_bt, cs_Fl_front t hk]
  constructor
  · rintro ⟨b, hb, h1⟩
    rw [cs_sel_bt, h.2 a ha b, hf b hb R] at h1
    exact ⟨h1.2.1, b, hb, h1.1.2, h1.2.2⟩
  · rintro ⟨hR, b, hb, h1, h2⟩
    refine ⟨b, hb, ?_⟩
    rw [cs_sel_bt, h.2 a ha b, hf b hb R]
    exact ⟨⟨hb, h1⟩, hR, h2⟩
def cs_YP (A : Nat) (l r : Nat → Int32) (n : Nat) : Int32 := cs_or (fun pt => cs_UR A (l pt) (r pt)) n
theorem cs_Ps_y {t : Nat → Int32} {A i j : Nat} {u : List Nat} {l r : Nat → Int32} (hl : ∀ pt, pt < 2 ^ u.length → cs_Pf t i (cs_pa A pt false u) (l pt)) (hr : ∀ pt, pt < 2 ^ u.length → cs_Pf t j (cs_pa A pt true u) (r pt)) : cs_Ps t A i j u (cs_YP A l r (2 ^ u.length)) := by
  intro R
  rw [cs_YP, cs_or_bt, cs_Sf_pa]
  constructor
  · rintro ⟨pt, hpt, h⟩
    obtain ⟨m, n, hm, hn, hg, h1, h2, e⟩ := (cs_UR_bt _ _ _ _).1 h
    exact ⟨pt, hpt, m, n, hm, hn, hg, ((hl pt hpt m).1 h1).2, ((hr pt hpt n).1 h2).2, e⟩
  · rintro ⟨pt, hpt, m, n, hm, hn, hg, h1, h2, e⟩
    exact ⟨pt, hpt, (cs_UR_bt _ _ _ _).2 ⟨m, n, hm, hn, hg, (hl pt hpt m).2 ⟨hm, h1⟩, (hr pt hpt n).2 ⟨hn, h2⟩, e⟩⟩
