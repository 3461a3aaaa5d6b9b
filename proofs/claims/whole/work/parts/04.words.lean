/-! ===== words: their index in X's order, their code, and back ===== -/
def cs_ix : List Nat → Nat
  | [] => 0
  | a :: u => 3 * cs_ix u + 1 + a
def cs_cd : List Nat → Nat
  | [] => 0
  | a :: u => cs_cd u * 4 + a + 1
def cs_Ev (u : List Nat) : Prop := ∀ a, a ∈ u → a < 3
def cs_Wd (u : List Nat) : Prop := u.length ≤ 4 ∧ cs_Ev u
def cs_wd : Nat → Nat → List Nat
  | 0, _ => []
  | n + 1, w => if w = 0 then [] else ((w - 1) % 3) :: cs_wd n ((w - 1) / 3)
def cs_dw : Nat → Nat → List Nat
  | 0, _ => []
  | n + 1, c => if c = 0 then [] else (c % 4 - 1) :: cs_dw n (c / 4)
def cs_ok : Nat → Nat → Bool
  | 0, c => c == 0
  | n + 1, c => c == 0 || (c % 4 != 0 && cs_ok n (c / 4))
theorem cs_Ev_0 : cs_Ev [] := fun _ h => nomatch h
theorem cs_Ev_s {a : Nat} {u : List Nat} (ha : a < 3) (h : cs_Ev u) : cs_Ev (a :: u) := by
  intro b hb
  rcases List.mem_cons.mp hb with e | e
  · omega
  · exact h b e
theorem cs_Ev_h {a : Nat} {u : List Nat} (h : cs_Ev (a :: u)) : a < 3 := h a (List.mem_cons_self ..)
theorem cs_Ev_t {a : Nat} {u : List Nat} (h : cs_Ev (a :: u)) : cs_Ev u := fun b hb => h b (List.mem_cons_of_mem _ hb)
theorem cs_Wd_0 : cs_Wd [] := ⟨by decide, cs_Ev_0⟩
theorem cs_Wd_t {a : Nat} {u : List Nat} (h : cs_Wd (a :: u)) : cs_Wd u := ⟨by have := h.1; rw [List.length_cons] at this; omega, cs_Ev_t h.2⟩
theorem cs_dw_cd : ∀ (n : Nat) (u : List Nat), u.length ≤ n → cs_Ev u → cs_dw n (cs_cd u) = u := by
  intro n
  induction n with
  | zero =>
    intro u h _
    have e : u = [] := List.eq_nil_of_length_eq_zero (by omega)
    subst e
    rfl
  | succ n ih =>
    intro u h hu
    cases u with
    | nil => rfl
    | cons a u =>
      have ha := cs_Ev_h hu
      show (if cs_cd u * 4 + a + 1 = 0 then [] else ((cs_cd u * 4 + a + 1) % 4 - 1) :: cs_dw n ((cs_cd u * 4 + a + 1) / 4)) = _
      rw [if_neg (by omega), show (cs_cd u * 4 + a + 1) % 4 - 1 = a by omega, show (cs_cd u * 4 + a + 1) / 4 = cs_cd u by omega, ih u (by rw [List.length_cons] at h; omega) (cs_Ev_t hu)]
theorem cs_ok_cd : ∀ (n : Nat) (u : List Nat), u.length ≤ n → cs_Ev u → cs_ok n (cs_cd u) = true := by
  intro n
  induction n with
  | zero =>
    intro u h _
    have e : u = [] := List.eq_nil_of_length_eq_zero (by omega)
    subst e
    rfl
  | succ n ih =>
    intro u h hu
    cases u with
    | nil => rfl
    | cons a u =>
      have ha := cs_Ev_h hu
      show (cs_cd u * 4 + a + 1 == 0 || ((cs_cd u * 4 + a + 1) % 4 != 0 && cs_ok n ((cs_cd u * 4 + a + 1) / 4))) = true
      rw [show (cs_cd u * 4 + a + 1) / 4 = cs_cd u by omega, ih u (by rw [List.length_cons] at h; omega) (cs_Ev_t hu), show (cs_cd u * 4 + a + 1) % 4 = a + 1 by omega]
      simp
theorem cs_wd_ix : ∀ (n : Nat) (u : List Nat), u.length ≤ n → cs_Ev u → cs_wd n (cs_ix u) = u := by
  intro n
  induction n with
  | zero =>
    intro u h _
    have e : u = [] := List.eq_nil_of_length_eq_zero (by omega)
    subst e
    rfl
  | succ n ih =>
    intro u h hu
    cases u with
    | nil => rfl
    | cons a u =>
      have ha := cs_Ev_h hu
      show (if 3 * cs_ix u + 1 + a = 0 then [] else ((3 * cs_ix u + 1 + a - 1) % 3) :: cs_wd n ((3 * cs_ix u + 1 + a - 1) / 3)) = _
      rw [if_neg (by omega), show (3 * cs_ix u + 1 + a - 1) % 3 = a by omega, show (3 * cs_ix u + 1 + a - 1) / 3 = cs_ix u by omega, ih u (by rw [List.length_cons] at h; omega) (cs_Ev_t hu)]
theorem cs_cd_pow : ∀ u : List Nat, cs_Ev u → cs_cd u + 1 ≤ 4 ^ u.length := by
  intro u
  induction u with
  | nil => intro _; exact Nat.le_refl 1
  | cons a u ih =>
    intro h
    have ha := cs_Ev_h h
    have hi := ih (cs_Ev_t h)
    rw [List.length_cons, Nat.pow_succ]
    show cs_cd u * 4 + a + 1 + 1 ≤ _
    omega
theorem cs_ix_pow : ∀ u : List Nat, cs_Ev u → 2 * cs_ix u + 3 ≤ 3 ^ (u.length + 1) := by
  intro u
  induction u with
  | nil => intro _; exact Nat.le_refl 3
  | cons a u ih =>
    intro h
    have ha := cs_Ev_h h
    have hi := ih (cs_Ev_t h)
    rw [List.length_cons, Nat.pow_succ]
    show 2 * (3 * cs_ix u + 1 + a) + 3 ≤ _
    omega
theorem cs_cd_lt {u : List Nat} (h : cs_Wd u) : cs_cd u < 256 := by
  have h1 := cs_cd_pow u h.2
  have h2 : 4 ^ u.length ≤ 4 ^ 4 := Nat.pow_le_pow_right (by decide) h.1
  omega
theorem cs_ix_lt {u : List Nat} (h : cs_Wd u) : cs_ix u < 121 := by
  have h1 := cs_ix_pow u h.2
  have h2 : 3 ^ (u.length + 1) ≤ 3 ^ 5 := Nat.pow_le_pow_right (by decide) (by have := h.1; omega)
  omega
theorem cs_cdok {u : List Nat} (h : cs_Wd u) : cs_ok 4 (cs_cd u) = true := cs_ok_cd 4 u h.1 h.2
theorem cs_cddw {u : List Nat} (h : cs_Wd u) : cs_dw 4 (cs_cd u) = u := cs_dw_cd 4 u h.1 h.2
theorem cs_ixwd {u : List Nat} (h : cs_Wd u) : cs_wd 4 (cs_ix u) = u := cs_wd_ix 4 u h.1 h.2
/-! finite tables -/
theorem cs_wd_tab : ∀ w, w < 121 → (cs_wd 4 w).length ≤ 4 ∧ (∀ a, a ∈ cs_wd 4 w → a < 3) ∧ cs_ix (cs_wd 4 w) = w := by decide +kernel
theorem cs_wd_40 : ∀ w, w < 121 → (40 ≤ w ↔ (cs_wd 4 w).length = 4) := by decide +kernel
theorem cs_dw_tab : ∀ c, c < 256 → cs_ok 4 c = true → (cs_dw 4 c).length ≤ 4 ∧ (∀ a, a ∈ cs_dw 4 c → a < 3) ∧ cs_cd (cs_dw 4 c) = c := by decide +kernel
theorem cs_dw_64 : ∀ c, c < 256 → cs_ok 4 c = true → (64 ≤ c ↔ (cs_dw 4 c).length = 4) := by decide +kernel
theorem cs_wdW {w : Nat} (h : w < 121) : cs_Wd (cs_wd 4 w) := ⟨(cs_wd_tab w h).1, (cs_wd_tab w h).2.1⟩
theorem cs_dwW {c : Nat} (h : c < 256) (ho : cs_ok 4 c = true) : cs_Wd (cs_dw 4 c) := ⟨(cs_dw_tab c h ho).1, (cs_dw_tab c h ho).2.1⟩
theorem cs_ix40 {u : List Nat} (h : cs_Wd u) : 40 ≤ cs_ix u ↔ u.length = 4 := by
  have e := cs_wd_40 (cs_ix u) (cs_ix_lt h)
  rw [cs_ixwd h] at e
  exact e
theorem cs_cd64 {u : List Nat} (h : cs_Wd u) : 64 ≤ cs_cd u ↔ u.length = 4 := by
  have e := cs_dw_64 (cs_cd u) (cs_cd_lt h) (cs_cdok h)
  rw [cs_cddw h] at e
  exact e
/-- the code of the word of an index -/
def cs_C (w : Nat) : Nat := cs_cd (cs_wd 4 w)
theorem cs_C_up : ∀ w, w < 120 → cs_C w < cs_C (w + 1) := by decide +kernel
theorem cs_C_lt {w : Nat} (h : w < 121) : cs_C w < 256 := cs_cd_lt (cs_wdW h)
theorem cs_C_ok {w : Nat} (h : w < 121) : cs_ok 4 (cs_C w) = true := cs_cdok (cs_wdW h)
theorem cs_C_mono : ∀ v w, w < v → v < 121 → cs_C w < cs_C v := by
  intro v
  induction v with
  | zero => intro w h; omega
  | succ v ih =>
    intro w h hv
    have h1 := cs_C_up v (by omega)
    rcases Nat.lt_or_ge w v with z | z
    · have := ih w z (by omega); omega
    · have e : w = v := by omega
      subst e
      exact h1
theorem cs_C_inv {c : Nat} (h : c < 256) (ho : cs_ok 4 c = true) : ∃ w, w < 121 ∧ c = cs_C w := by
  have hW := cs_dwW h ho
  refine ⟨cs_ix (cs_dw 4 c), cs_ix_lt hW, ?_⟩
  rw [cs_C, cs_ixwd hW, (cs_dw_tab c h ho).2.2]
/-! Y's arithmetic on codes -/
def cs_le (c : Nat) : Nat := if c = 0 then 0 else if c < 4 then 1 else if c < 16 then 2 else if c < 64 then 3 else 4
def cs_dg (c p : Nat) : Nat := c / 4 ^ (cs_le c - 1 - p) % 4
def cs_px (c p : Nat) : Nat := c / 4 ^ (cs_le c - p)
theorem cs_le_tab : ∀ c, c < 256 → cs_ok 4 c = true → cs_le c = (cs_dw 4 c).length := by decide +kernel
theorem cs_le_4 (c : Nat) : cs_le c ≤ 4 := by
  unfold cs_le
  split
  · omega
  · split
    · omega
    · split
      · omega
      · split <;> omega
theorem cs_isw_tab : ∀ c, c < 256 → ((∀ p, p < cs_le c → cs_dg c p ≠ 0) ↔ cs_ok 4 c = true) := by decide +kernel
theorem cs_px_tab : ∀ c, c < 256 → cs_ok 4 c = true → ∀ p, p < cs_le c → cs_dw 4 (cs_px c (p + 1)) = (cs_dg c p - 1) :: cs_dw 4 (cs_px c p) ∧ (cs_dw 4 (cs_px c p)).length = p ∧ 1 ≤ cs_dg c p ∧ cs_dg c p ≤ 3 := by decide +kernel
theorem cs_px_0 : ∀ c, c < 256 → cs_px c 0 = 0 := by decide +kernel
theorem cs_px_l (c : Nat) : cs_px c (cs_le c) = c := by rw [cs_px, Nat.sub_self, Nat.pow_zero, Nat.div_one]
def cs_rs (c : Nat) : Nat := c - cs_dg c 0 * 4 ^ (cs_le c - 1)
theorem cs_rs_tab : ∀ c, c < 256 → cs_ok 4 c = true → c ≠ 0 → cs_dw 4 c = cs_dw 4 (cs_rs c) ++ [cs_dg c 0 - 1] ∧ cs_ok 4 (cs_rs c) = true ∧ cs_rs c < c ∧ 1 ≤ cs_dg c 0 ∧ cs_dg c 0 ≤ 3 ∧ 1 ≤ cs_le c := by decide +kernel
theorem cs_le_cd {u : List Nat} (h : cs_Wd u) : cs_le (cs_cd u) = u.length := by
  rw [cs_le_tab _ (cs_cd_lt h) (cs_cdok h), cs_cddw h]
/-! the first that has a property; how many have it -/
def cs_F1 (Q : Nat → Prop) (n c : Nat) : Prop := c < n ∧ Q c ∧ ∀ d, d < c → ¬ Q d
def cs_F0 (Q : Nat → Prop) (n : Nat) : Prop := ∀ d, d < n → ¬ Q d
theorem cs_F (Q : Nat → Prop) : ∀ n, (∃ c, cs_F1 Q n c) ∨ cs_F0 Q n := by
  intro n
  induction n with
  | zero => exact Or.inr (fun d hd => absurd hd (by omega))
  | succ n ih =>
    rcases ih with ⟨c, h1, h2, h3⟩ | h
    · exact Or.inl ⟨c, by omega, h2, h3⟩
    · rcases Classical.em (Q n) with z | z
      · exact Or.inl ⟨n, by omega, z, h⟩
      · refine Or.inr (fun d hd => ?_)
        rcases Nat.lt_or_ge d n with y | y
        · exact h d y
        · have e : d = n := by omega
          subst e
          exact z
theorem cs_F1_C {Q : Nat → Prop} (hQ : ∀ c, c < 256 → Q c → cs_ok 4 c = true) {w : Nat} (h : cs_F1 (fun w => Q (cs_C w)) 121 w) : cs_F1 Q 256 (cs_C w) := by
  refine ⟨cs_C_lt h.1, h.2.1, fun d hd hq => ?_⟩
  have h8 := cs_C_lt h.1
  obtain ⟨v, hv, rfl⟩ := cs_C_inv (c := d) (by omega) (hQ d (by omega) hq)
  rcases Nat.lt_or_ge v w with z | z
  · exact h.2.2 v z hq
  · rcases Nat.lt_or_ge w v with y | y
    · have := cs_C_mono v w y hv; omega
    · have e : v = w := by omega
      subst e
      omega
theorem cs_F0_C {Q : Nat → Prop} (hQ : ∀ c, c < 256 → Q c → cs_ok 4 c = true) (h : cs_F0 (fun w => Q (cs_C w)) 121) : cs_F0 Q 256 := by
  intro d hd hq
  obtain ⟨v, hv, rfl⟩ := cs_C_inv hd (hQ d hd hq)
  exact h v hv hq
def cs_cn (Q : Nat → Bool) : Nat → Nat
  | 0 => 0
  | n + 1 => cs_cn Q n + cond (Q n) 1 0
theorem cs_cn_le (Q : Nat → Bool) : ∀ n, cs_cn Q n ≤ n := by
  intro n
  induction n with
  | zero => exact Nat.le_refl 0
  | succ n ih =>
    show cs_cn Q n + cond (Q n) 1 0 ≤ n + 1
    cases Q n
    · rw [cond_false]; omega
    · rw [cond_true]; omega
theorem cs_cn_gap (Q : Nat → Bool) {m : Nat} : ∀ d, (∀ c, m ≤ c → c < m + d → Q c = false) → cs_cn Q (m + d) = cs_cn Q m := by
  intro d
  induction d with
  | zero => intro _; rfl
  | succ d ih =>
    intro h
    show cs_cn Q (m + d) + cond (Q (m + d)) 1 0 = _
    rw [h (m + d) (by omega) (by omega), ih (fun c h1 h2 => h c h1 (by omega))]
    rfl
def cs_B (w : Nat) : Nat := if w < 121 then cs_C w else 256
theorem cs_cn_B {Q : Nat → Bool} (hQ : ∀ c, c < 256 → Q c = true → cs_ok 4 c = true) : ∀ w, w ≤ 121 → cs_cn Q (cs_B w) = cs_cn (fun w => Q (cs_C w)) w := by
  intro w
  induction w with
  | zero => intro _; rfl
  | succ w ih =>
    intro hw
    have i := ih (by omega)
    have e : cs_B w = cs_C w := if_pos (by omega)
    have h8 := cs_C_lt (w := w) (by omega)
    have hB : cs_C w < cs_B (w + 1) ∧ cs_B (w + 1) ≤ 256 ∧ ∀ c, cs_C w < c → c < cs_B (w + 1) → Q c = false := by
      unfold cs_B
      split
      · rename_i z
        have h9 := cs_C_lt z
        refine ⟨cs_C_up w (by omega), by omega, fun c h1 h2 => ts_nt (fun hq => ?_)⟩
        obtain ⟨v, hv, rfl⟩ := cs_C_inv (c := c) (by omega) (hQ c (by omega) hq)
        rcases Nat.lt_or_ge w v with y | y
        · rcases Nat.lt_or_ge (w + 1) v with x | x
          · have := cs_C_mono v (w + 1) x hv; omega
          · have e : v = w + 1 := by omega
            subst e
            omega
        · rcases Nat.lt_or_ge v w with x | x
          · have := cs_C_mono w v x (by omega); omega
          · have e : v = w := by omega
            subst e
            omega
      · refine ⟨h8, by omega, fun c h1 h2 => ts_nt (fun hq => ?_)⟩
        obtain ⟨v, hv, rfl⟩ := cs_C_inv (c := c) (by omega) (hQ c (by omega) hq)
        rcases Nat.lt_or_ge v w with x | x
        · have := cs_C_mono w v x (by omega); omega
        · have e : v = w := by omega
          subst e
          omega
    have g := cs_cn_gap Q (m := cs_C w + 1) (cs_B (w + 1) - (cs_C w + 1)) (fun c h1 h2 => hB.2.2 c (by omega) (by omega))
    rw [show cs_C w + 1 + (cs_B (w + 1) - (cs_C w + 1)) = cs_B (w + 1) by omega] at g
    rw [g]
    show cs_cn Q (cs_C w) + cond (Q (cs_C w)) 1 0 = cs_cn (fun w => Q (cs_C w)) w + cond (Q (cs_C w)) 1 0
    rw [← i, e]
theorem cs_cn_C {Q : Nat → Bool} (hQ : ∀ c, c < 256 → Q c = true → cs_ok 4 c = true) : cs_cn Q 256 = cs_cn (fun w => Q (cs_C w)) 121 := cs_cn_B hQ 121 (Nat.le_refl _)
/-! a table filled word by word, from a word to its three extensions -/
theorem cs_tab_s {α : Type} {P : List Nat → α → Prop} {T T' : Nat → α} {w a : Nat} (ha : a < 3) (h : ∀ u, cs_Ev u → cs_ix u < 3 * w + 1 + a → P u (T (cs_ix u))) (ho : ∀ n, n ≠ 3 * w + 1 + a → T' n = T n) (hn : ∀ u, cs_Ev u → cs_ix u = w → P u (T w) → P (a :: u) (T' (3 * w + 1 + a))) : ∀ u, cs_Ev u → cs_ix u < 3 * w + 1 + (a + 1) → P u (T' (cs_ix u)) := by
  intro u hu hi
  rcases Nat.lt_or_ge (cs_ix u) (3 * w + 1 + a) with z | z
  · rw [ho _ (by omega)]
    exact h u hu z
  · have e : cs_ix u = 3 * w + 1 + a := by omega
    cases u with
    | nil => exact absurd e (by show ¬ 0 = _; omega)
    | cons b u =>
      have hb := cs_Ev_h hu
      have e' : 3 * cs_ix u + 1 + b = 3 * w + 1 + a := e
      have e1 : b = a := by omega
      have e2 : cs_ix u = w := by omega
      subst e1
      rw [e]
      refine hn u (cs_Ev_t hu) e2 ?_
      have := h u (cs_Ev_t hu) (by omega)
      rw [e2] at this
      exact this
