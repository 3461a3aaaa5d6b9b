/-! ===== both sides' tables ===== -/
theorem cs_pa_len (A pt : Nat) (sec : Bool) : ∀ u : List Nat, (cs_pa A pt sec u).length ≤ u.length := by
  intro u
  induction u with
  | nil => exact Nat.le_refl 0
  | cons a u ih =>
    unfold cs_pa
    split
    · rw [List.length_cons, List.length_cons]; omega
    · rw [List.length_cons]; omega
theorem cs_pa_Ev (A pt : Nat) (sec : Bool) : ∀ u : List Nat, cs_Ev u → cs_Ev (cs_pa A pt sec u) := by
  intro u
  induction u with
  | nil => intro h; exact h
  | cons a u ih =>
    intro h
    unfold cs_pa
    split
    · exact cs_Ev_s (cs_Ev_h h) (ih (cs_Ev_t h))
    · exact ih (cs_Ev_t h)
theorem cs_pa_W (A pt : Nat) (sec : Bool) {u : List Nat} (h : cs_Wd u) : cs_Wd (cs_pa A pt sec u) :=
  ⟨Nat.le_trans (cs_pa_len A pt sec u) h.1, cs_pa_Ev A pt sec u h.2⟩
def cs_YF (t : Nat → Int32) (k c : Nat) (x : Int32) : Prop := (cs_ok 4 c = true → cs_Pf t k (cs_dw 4 c) x) ∧ (cs_ok 4 c = false → x = 0)
def cs_YS (t : Nat → Int32) (A i j c : Nat) (x : Int32) : Prop := (cs_ok 4 c = true → cs_Ps t A i j (cs_dw 4 c) x) ∧ (cs_ok 4 c = false → x = 0)
def cs_YV (fr nx fa : Nat → Int32) (k c : Nat) : Int32 := if c = 0 then fr k else cs_YR (nx (k * 3 + (cs_dg c 0 - 1))) (fun b => fa (b * 256 + cs_rs c))
theorem cs_YF_v {t fr nx fa : Nat → Int32} {k c : Nat} (hk : k < 8) (hT : cs_TR (t k) (fr k) (fun a => nx (k * 3 + a))) (hc : c < 256) (ho : cs_ok 4 c = true) (hf : ∀ c', c' < c → ∀ b, b < 8 → cs_YF t b c' (fa (b * 256 + c'))) : cs_Pf t k (cs_dw 4 c) (cs_YV fr nx fa k c) := by
  unfold cs_YV
  by_cases z : c = 0
  · rw [if_pos z, z]
    exact cs_Pf_0 hk hT
  · rw [if_neg z]
    obtain ⟨e, hr, hl, h1, h3, _⟩ := cs_rs_tab c hc ho z
    rw [e]
    exact cs_Pf_s hk hT (a := cs_dg c 0 - 1) (by omega) (fun b hb => (hf _ hl b hb).1 hr)
def cs_YW (A i j : Nat) (fa : Nat → Int32) (c : Nat) : Int32 := cs_YP A (fun pt => fa (i * 256 + cs_cd (cs_pa A pt false (cs_dw 4 c)))) (fun pt => fa (j * 256 + cs_cd (cs_pa A pt true (cs_dw 4 c)))) (2 ^ (cs_dw 4 c).length)
theorem cs_YS_v {t fa : Nat → Int32} {A i j c : Nat} (hi : i < 8) (hj : j < 8) (hc : c < 256) (ho : cs_ok 4 c = true) (hf : ∀ c', c' < 256 → ∀ b, b < 8 → cs_YF t b c' (fa (b * 256 + c'))) : cs_Ps t A i j (cs_dw 4 c) (cs_YW A i j fa c) := by
  have hW := cs_dwW hc ho
  have key : ∀ (k : Nat), k < 8 → ∀ (pt : Nat) (sec : Bool), cs_Pf t k (cs_pa A pt sec (cs_dw 4 c)) (fa (k * 256 + cs_cd (cs_pa A pt sec (cs_dw 4 c)))) := by
    intro k hk pt sec
    have hP := cs_pa_W A pt sec hW
    have h := (hf _ (cs_cd_lt hP) k hk).1 (cs_cdok hP)
    rw [cs_cddw hP] at h
    exact h
  exact cs_Ps_y (fun pt _ => key i hi pt false) (fun pt _ => key j hj pt true)
/-- what X's tables hold -/
def cs_XF (t nf : Nat → Int32) : Prop := ∀ u, cs_Wd u → ∀ k, k < 8 → cs_Pf t k u (nf (k * 121 + cs_ix u))
def cs_XS (t : Nat → Int32) (A i j : Nat) (sf : Nat → Int32) : Prop := ∀ u, cs_Wd u → cs_Ps t A i j u (sf (cs_ix u))
def cs_XC (co le : Nat → Int32) : Prop := ∀ u, cs_Wd u → co (cs_ix u) = nI (cs_cd u) ∧ le (cs_ix u) = nI u.length
/-- what Y's tables hold once they are listed -/
def cs_YFs (t fa : Nat → Int32) : Prop := ∀ c, c < 256 → ∀ k, k < 8 → cs_YF t k c (fa (k * 256 + c))
def cs_YSs (t : Nat → Int32) (A i j : Nat) (pa : Nat → Int32) : Prop := ∀ c, c < 256 → cs_YS t A i j c (pa c)
theorem cs_eqF {t nf fa : Nat → Int32} (hX : cs_XF t nf) (hY : cs_YFs t fa) {u : List Nat} (hu : cs_Wd u) {k : Nat} (hk : k < 8) : fa (k * 256 + cs_cd u) = nf (k * 121 + cs_ix u) := by
  have h := (hY _ (cs_cd_lt hu) k hk).1 (cs_cdok hu)
  rw [cs_cddw hu] at h
  exact cs_uniq h (hX u hu k hk)
theorem cs_eqS {t sf pa : Nat → Int32} {A i j : Nat} (hX : cs_XS t A i j sf) (hY : cs_YSs t A i j pa) {u : List Nat} (hu : cs_Wd u) : pa (cs_cd u) = sf (cs_ix u) := by
  have h := (hY _ (cs_cd_lt hu)).1 (cs_cdok hu)
  rw [cs_cddw hu] at h
  exact cs_uniq h (hX u hu)
theorem cs_eqFw {t nf fa : Nat → Int32} (hX : cs_XF t nf) (hY : cs_YFs t fa) {w : Nat} (hw : w < 121) {k : Nat} (hk : k < 8) : fa (k * 256 + cs_C w) = nf (k * 121 + w) := by
  have h := cs_eqF hX hY (cs_wdW hw) hk
  rw [(cs_wd_tab w hw).2.2] at h
  exact h
theorem cs_eqSw {t sf pa : Nat → Int32} {A i j : Nat} (hX : cs_XS t A i j sf) (hY : cs_YSs t A i j pa) {w : Nat} (hw : w < 121) : pa (cs_C w) = sf w := by
  have h := cs_eqS hX hY (cs_wdW hw)
  rw [(cs_wd_tab w hw).2.2] at h
  exact h
theorem cs_eqCw {co le : Nat → Int32} (h : cs_XC co le) {w : Nat} (hw : w < 121) : co w = nI (cs_C w) ∧ le w = nI (cs_le (cs_C w)) := by
  have e := h _ (cs_wdW hw)
  rw [(cs_wd_tab w hw).2.2, ← cs_le_cd (cs_wdW hw)] at e
  exact e
/-! ===== terms: stop, pre, ext, hid ===== -/
theorem cs_TR_stop : cs_TR 255 255 (fun _ => 0) := by
  refine ⟨fun R => ?_, fun a _ b => ?_⟩
  · rw [b_255, decide_eq_true_eq]; omega
  · rw [b_0, b_255]
    constructor
    · intro h; exact nomatch h
    · rintro ⟨_, h⟩
      rw [decide_eq_true_eq] at h
      omega
theorem cs_b255n (i : Nat) : bt ((255 : Int32) ^^^ (-1)) i = (decide (8 ≤ i) && decide (i < 32)) := by
  rcases Nat.lt_or_ge i 32 with h | h
  · exact (by decide +kernel : ∀ i, i < 32 → bt ((255 : Int32) ^^^ (-1)) i = (decide (8 ≤ i) && decide (i < 32))) i h
  · rw [b_big h, decide_eq_false (p := i < 32) (by omega), Bool.and_false]
theorem cs_b256m (i : Nat) : bt (-256) i = (decide (8 ≤ i) && decide (i < 32)) := by
  rcases Nat.lt_or_ge i 32 with h | h
  · exact (by decide +kernel : ∀ i, i < 32 → bt (-256) i = (decide (8 ≤ i) && decide (i < 32))) i h
  · rw [b_big h, decide_eq_false (p := i < 32) (by omega), Bool.and_false]
theorem cs_TR_hid {x y f g : Int32} {F G : Nat → Int32} (hx : cs_TR x f F) (hy : cs_TR y g G) : cs_TR (x ||| y) (g ||| f) (fun a => G a ||| F a) := by
  refine ⟨fun R => ?_, fun a ha b => ?_⟩
  · rw [b_or, b_or, Bool.or_eq_true, Bool.or_eq_true, hx.1, hy.1]
    constructor
    · rintro (⟨h, h1⟩ | ⟨h, h1⟩)
      · exact ⟨h, Or.inr h1⟩
      · exact ⟨h, Or.inl h1⟩
    · rintro ⟨h, h1 | h1⟩
      · exact Or.inr ⟨h, h1⟩
      · exact Or.inl ⟨h, h1⟩
  · show bt (G a ||| F a) b = true ↔ _
    rw [b_or, b_or, Bool.or_eq_true, Bool.or_eq_true, hx.2 a ha, hy.2 a ha]
    constructor
    · rintro (⟨h, h1⟩ | ⟨h, h1⟩)
      · exact ⟨h, Or.inr h1⟩
      · exact ⟨h, Or.inl h1⟩
    · rintro ⟨h, h1 | h1⟩
      · exact Or.inr ⟨h, h1⟩
      · exact Or.inl ⟨h, h1⟩
theorem cs_TR_ext {x y f g : Int32} {F G : Nat → Int32} (hx : cs_TR x f F) (hy : cs_TR y g G) : cs_TR (((x &&& y) &&& 255) ||| ((x ||| y) &&& (-256))) (g &&& f) (fun a => G a ||| F a) := by
  refine ⟨fun R => ?_, fun a ha b => ?_⟩
  · rw [b_and g f, b_or, b_and _ 255, b_and x y, b_and _ (-256), b_or, b_255, cs_b256m, Bool.and_eq_true, hx.1, hy.1]
    constructor
    · rintro ⟨⟨h, h1⟩, _, h2⟩
      exact ⟨h, by rw [h1, h2, decide_eq_true h]; rfl⟩
    · rintro ⟨h, h1⟩
      rw [decide_eq_true h, decide_eq_false (p := 8 ≤ R) (by omega), Bool.false_and, Bool.and_false, Bool.or_false, Bool.and_true, Bool.and_eq_true] at h1
      exact ⟨⟨h, h1.2⟩, h, h1.1⟩
  · show bt (G a ||| F a) b = true ↔ _
    rw [b_or, Bool.or_eq_true, hx.2 a ha, hy.2 a ha, b_or, b_and _ 255, b_and x y, b_and _ (-256), b_or, b_255, cs_b256m, decide_eq_false (p := 8 + 8 * a + b < 8) (by omega), Bool.and_false, Bool.false_or, decide_eq_true (p := 8 ≤ 8 + 8 * a + b) (by omega), Bool.true_and, Bool.and_eq_true, Bool.or_eq_true, decide_eq_true_eq]
    constructor
    · rintro (⟨h, h1⟩ | ⟨h, h1⟩)
      · exact ⟨h, Or.inr h1, by omega⟩
      · exact ⟨h, Or.inl h1, by omega⟩
    · rintro ⟨h, h1 | h1, _⟩
      · exact Or.inr ⟨h, h1⟩
      · exact Or.inl ⟨h, h1⟩
/-- the refusals of pre a: 85, 51, 15 -/
def cs_pf (a : Nat) : Int32 := if a = 0 then 85 else if a = 1 then 51 else 15
theorem cs_pf_bt : ∀ a, a < 3 → ∀ R, R < 32 → bt (cs_pf a) R = (decide (R < 8) && !(R.testBit a)) := by decide +kernel
theorem cs_TR_pre {a k : Nat} (ha : a < 3) (hk : k < 8) {F : Nat → Int32} (hF : ∀ e, e < 3 → F e = if e = a then (1 : Int32) <<< (nI k &&& 31) else 0) : cs_TR (cs_pf a ||| ((1 : Int32) <<< (nI (8 + 8 * a + k) &&& 31))) (cs_pf a) F := by
  refine ⟨fun R => ?_, fun e he b => ?_⟩
  · rw [b_or, cs_one _ (by omega)]
    rcases Nat.lt_or_ge R 32 with h | h
    · rw [cs_pf_bt a ha R h]
      by_cases z : R < 8
      · rw [decide_eq_false (p := R = 8 + 8 * a + k) (by omega), Bool.or_false]
        exact ⟨fun h => ⟨z, h⟩, fun h => h.2⟩
      · rw [decide_eq_false z, Bool.false_and]
        exact ⟨(fun h => nomatch h), fun h => absurd h.1 z⟩
    · rw [b_big h]
      exact ⟨(fun h => nomatch h), fun h => by have := h.1; omega⟩
  · rw [hF e he, b_or, cs_one _ (by omega)]
    have hp : bt (cs_pf a) (8 + 8 * e + b) = false := by
      rcases Nat.lt_or_ge (8 + 8 * e + b) 32 with h | h
      · rw [cs_pf_bt a ha _ h, decide_eq_false (by omega), Bool.false_and]
      · exact b_big h
    rw [hp, Bool.false_or, decide_eq_true_eq]
    by_cases z : e = a
    · rw [if_pos z, cs_one k (by omega), decide_eq_true_eq]
      omega
    · rw [if_neg z, b_0]
      exact ⟨(fun h => nomatch h), fun h => by have := h.1; have := h.2; omega⟩
