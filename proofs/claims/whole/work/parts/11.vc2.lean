/-! ===== feed, undo, log, offers, refuses, traces ===== -/
theorem cx_last {w a : Nat} (hw : w < 1000) (ha : a < 3) : (nI (3 * w + 1 + a) - 1) - (nI (3 * w + 1 + a) - 1) / 3 * 3 = nI a := by
  rw [cy_s1 (by omega), show (3 : Int32) = nI 3 from rfl, pk_rem (by omega) (by decide) (by decide), show (3 * w + 1 + a - 1) % 3 = a by omega]
theorem cx_wo {w a : Nat} (hw : w < 1000) (ha : a < 3) : (nI (3 * w + 1 + a) - 1) / 3 = nI w := by
  rw [cy_s1 (by omega), show (3 : Int32) = nI 3 from rfl, pk_div (by omega) (by decide) (by decide), show (3 * w + 1 + a - 1) / 3 = w by omega]
theorem cy_last {c a : Nat} (hc : c < 1000) (ha : a < 3) : (nI (c * 4 + a + 1) &&& 3) - 1 = nI a := by
  rw [pk_andN (by omega) 2 (by decide), show (c * 4 + a + 1) % 2 ^ 2 = a + 1 by omega, nI_pred]
theorem cy_wo {c a : Nat} (hc : c < 1000) (ha : a < 3) : nI (c * 4 + a + 1) >>> ((2 : Int32) &&& 31) = nI c := by
  rw [pk_shrN (by omega) _ 2 (by decide), show (c * 4 + a + 1) / 2 ^ 2 = c by omega]
theorem cs_or_c {f g : Nat → Int32} : ∀ n, (∀ i, i < n → f i = g i) → cs_or f n = cs_or g n := by
  intro n
  induction n with
  | zero => intro _; rfl
  | succ n ih =>
    intro h
    show cs_or f n ||| f n = cs_or g n ||| g n
    rw [ih (fun i hi => h i (by omega)), h n (by omega)]
theorem cs_cn_c {f g : Nat → Bool} : ∀ n, (∀ i, i < n → f i = g i) → cs_cn f n = cs_cn g n := by
  intro n
  induction n with
  | zero => intro _; rfl
  | succ n ih =>
    intro h
    show cs_cn f n + cond (f n) 1 0 = cs_cn g n + cond (g n) 1 0
    rw [ih (fun i hi => h i (by omega)), h n (by omega)]
def cs_of (b : Nat → Bool) (a : Nat) : Int32 := cs_sel (b a) ((1 : Int32) <<< (nI a &&& 31))
theorem cs_of_d : ∀ x y : Bool, ((0 : Int32) + ((1 : Int32) <<< (nI 0 &&& 31)) = 0 ||| ((1 : Int32) <<< (nI 0 &&& 31))) ∧ ((0 ||| cs_sel x ((1 : Int32) <<< (nI 0 &&& 31))) + ((1 : Int32) <<< (nI 1 &&& 31)) = (0 ||| cs_sel x ((1 : Int32) <<< (nI 0 &&& 31))) ||| ((1 : Int32) <<< (nI 1 &&& 31))) ∧ (((0 ||| cs_sel x ((1 : Int32) <<< (nI 0 &&& 31))) ||| cs_sel y ((1 : Int32) <<< (nI 1 &&& 31))) + ((1 : Int32) <<< (nI 2 &&& 31)) = ((0 ||| cs_sel x ((1 : Int32) <<< (nI 0 &&& 31))) ||| cs_sel y ((1 : Int32) <<< (nI 1 &&& 31))) ||| ((1 : Int32) <<< (nI 2 &&& 31))) := by decide +kernel
theorem cs_of_a (b : Nat → Bool) {i : Nat} (hi : i < 3) : cs_or (cs_of b) i + ((1 : Int32) <<< (nI i &&& 31)) = cs_or (cs_of b) i ||| ((1 : Int32) <<< (nI i &&& 31)) := by
  have h := cs_of_d (b 0) (b 1)
  have : i = 0 ∨ i = 1 ∨ i = 2 := by omega
  rcases this with e | e | e
  · subst e; exact h.1
  · subst e; exact h.2.1
  · subst e; exact h.2.2
theorem cs_nd {p : Prop} (d : Decidable p) (h : p) : (!(@decide p d)) = false := by rw [decide_eq_true h]; rfl
theorem cs_nd' {p : Prop} (d : Decidable p) (h : ¬ p) : (!(@decide p d)) = true := by rw [decide_eq_false h]; rfl
section CSQ
variable {f1 f2 f3 f4 f5 : Int32} {stk tm co le nr nf : Nat → Int32} {pp : Nat → Int64} {pr sf : Nat → Int32}
variable {g1 g2 g3 g4 g5 : Int32} {tf tn fr nx fa pa : Nat → Int32}
theorem cx_of15 {post : Int32 → Prop} {w : Nat} (hw : w < 40) (h : post (cs_or (cs_of (fun a => !(decide (sf (3 * w + 1 + a) = 0)))) 3)) : ∃ n, wX_offers_15 post f1 f2 f3 f4 (nI w) stk tm co le nr nf pp pr sf n 0 0 := by
  refine pk_loop (fun n i s => wX_offers_15 post f1 f2 f3 f4 (nI w) stk tm co le nr nf pp pr sf n s (nI i)) (fun i s => s = cs_or (cs_of (fun a => !(decide (sf (3 * w + 1 + a) = 0)))) i) 3 0 0 (by omega) rfl ?_ ?_
  · intro n s e
    refine pk_le 3 3 (fun _ => ?_) (fun z => absurd z (by omega))
    rw [show s = _ from e]
    exact h
  · intro n a s ha e ih
    refine pk_le 3 a (fun z => absurd z (by omega)) (fun _ => cx_append ?_)
    rw [nI_clamp (by omega)]
    refine ⟨vp_in_nI (by omega) (by decide), br_c (fun c => ?_) (fun c => ?_)⟩
    · exact nm_r (nI_1 a) (ih _ (Eq.trans e (cs_or_f _ a (cs_sel_f _ (cs_nd _ c)))))
    · refine nm_e (nm_r (nI_1 a) (ih _ ?_))
      rw [show s = _ from e]
      exact cs_or_t _ a (cs_sel_t _ (cs_nd' _ c))
theorem cy_of19 {post : Int32 → SY → Prop} {c : Nat} (hc : c < 64) (hl : c * 4 + 3 < 256) (h : post (cs_or (cs_of (fun a => !(decide (pa (c * 4 + a + 1) = 0)))) 3) (g1, g2, g3, g4, (nI c), tf, tn, fr, nx, fa, pa)) : ∃ n, wY_offers_19 post g1 g2 g3 g4 (nI c) tf tn fr nx fa pa n 0 0 := by
  refine pk_loop (fun n i s => wY_offers_19 post g1 g2 g3 g4 (nI c) tf tn fr nx fa pa n s (nI i)) (fun i s => s = cs_or (cs_of (fun a => !(decide (pa (c * 4 + a + 1) = 0)))) i) 3 0 0 (by omega) rfl ?_ ?_
  · intro n s e
    refine pk_le 3 3 (fun _ => ?_) (fun z => absurd z (by omega))
    rw [show s = _ from e]
    exact h
  · intro n a s ha e ih
    refine pk_le 3 a (fun z => absurd z (by omega)) (fun _ => ?_)
    rw [cx_code, nI_clamp (by omega)]
    refine ⟨vp_in_nI (by omega) (by decide), br_c (fun c => ?_) (fun c => ?_)⟩
    · exact nm_r (nI_1 a) (ih _ (Eq.trans e (cs_or_f _ a (cs_sel_f _ (cs_nd _ c)))))
    · refine nm_e (nm_r (nI_1 a) (ih _ ?_))
      rw [show s = _ from e, cs_of_a _ ha]
      exact cs_or_t _ a (cs_sel_t _ (cs_nd' _ c))
theorem cx_tr15 {post : Int32 → Prop} {L : Nat} (h : post (nI (cs_cn (fun w => decide (le w = nI L) && !(decide (sf w = 0))) 121))) : ∃ n, wX_traces_15 post (nI L) f1 f2 f3 f4 f5 stk tm co le nr nf pp pr sf n 0 0 := by
  refine pk_loop (fun n i s => wX_traces_15 post (nI L) f1 f2 f3 f4 f5 stk tm co le nr nf pp pr sf n s (nI i)) (fun i s => s = nI (cs_cn (fun w => decide (le w = nI L) && !(decide (sf w = 0))) i)) 121 0 0 (by omega) rfl ?_ ?_
  · intro n s e
    refine pk_le 121 121 (fun _ => ?_) (fun z => absurd z (by omega))
    rw [show s = _ from e]
    exact h
  · intro n w s hw e ih
    have hf : (decide (le w = nI L) && !(decide (sf w = 0))) = false → wX_traces_15 post (nI L) f1 f2 f3 f4 f5 stk tm co le nr nf pp pr sf n s (nI (w + 1)) := by
      intro hb
      refine ih _ (Eq.trans e (congrArg nI ?_))
      show _ = cs_cn _ w + cond (decide (le w = nI L) && !(decide (sf w = 0))) 1 0
      rw [hb]
      rfl
    refine pk_le 121 w (fun z => absurd z (by omega)) (fun _ => ?_)
    rw [nI_clamp (by omega)]
    refine ⟨vp_in_nI hw (by decide), br_c (fun c => ⟨vp_in_nI hw (by decide), br_c (fun d => ?_) (fun d => ?_)⟩) (fun c => ?_)⟩
    · exact nm_r (nI_1 w) (hf (by rw [cs_nd _ d, Bool.and_false]))
    · refine nm_r (e' := nI (cs_cn (fun w => decide (le w = nI L) && !(decide (sf w = 0))) (w + 1))) ?_ (nm_r (nI_1 w) (ih _ rfl))
      rw [show s = _ from e, nI_1]
      refine congrArg nI ?_
      show _ = cs_cn _ w + cond (decide (le w = nI L) && !(decide (sf w = 0))) 1 0
      rw [cs_nd' _ d, decide_eq_true c]
      rfl
    · exact nm_r (nI_1 w) (hf (by rw [decide_eq_false c, Bool.false_and]))
theorem cy_tr19 {post : Int32 → SY → Prop} {L : Nat} (hL : L < 5) (h : post (nI (cs_cn (fun c => decide (cs_le c = L) && !(decide (pa c = 0))) 256)) (g1, g2, g3, g4, g5, tf, tn, fr, nx, fa, pa)) : ∃ n, wY_traces_19 post (nI L) g1 g2 g3 g4 g5 tf tn fr nx fa pa n 0 0 := by
  refine pk_loop (fun n i s => wY_traces_19 post (nI L) g1 g2 g3 g4 g5 tf tn fr nx fa pa n s (nI i)) (fun i s => s = nI (cs_cn (fun c => decide (cs_le c = L) && !(decide (pa c = 0))) i)) 256 0 0 (by omega) rfl ?_ ?_
  · intro n s e
    refine pk_le 256 256 (fun _ => ?_) (fun z => absurd z (by omega))
    rw [show s = _ from e]
    exact h
  · intro n w s hw e ih
    have h4 := cs_le_4 w
    have hf : (decide (cs_le w = L) && !(decide (pa w = 0))) = false → wY_traces_19 post (nI L) g1 g2 g3 g4 g5 tf tn fr nx fa pa n s (nI (w + 1)) := by
      intro hb
      refine ih _ (Eq.trans e (congrArg nI ?_))
      show _ = cs_cn _ w + cond (decide (cs_le w = L) && !(decide (pa w = 0))) 1 0
      rw [hb]
      rfl
    refine pk_le 256 w (fun z => absurd z (by omega)) (fun _ => cy_lengthOf hw (pk_eq (cs_le w) L (fun c => ?_) (fun c => ?_)))
    · rw [nI_clamp (by omega)]
      refine ⟨vp_in_nI hw (by decide), br_c (fun d => ?_) (fun d => ?_)⟩
      · exact nm_r (nI_1 w) (hf (by rw [cs_nd _ d, Bool.and_false]))
      · refine nm_r (e' := nI (cs_cn (fun c => decide (cs_le c = L) && !(decide (pa c = 0))) (w + 1))) ?_ (nm_r (nI_1 w) (ih _ rfl))
        rw [show s = _ from e, nI_1]
        refine congrArg nI ?_
        show _ = cs_cn _ w + cond (decide (cs_le w = L) && !(decide (pa w = 0))) 1 0
        rw [cs_nd' _ d, decide_eq_true c]
        rfl
    · exact nm_r (nI_1 w) (hf (by rw [decide_eq_false c, Bool.false_and]))
end CSQ
theorem i_vc_feed {k : Nat} {u : SX} {v : SY} (I : i_Rel k u v) (hk : k + 4 ≤ 2048) (v1 : Int32) : wpX_feed (fun r u' => wpY_feed (fun r' v' => r' = r ∧ i_Rel (k + 4) u' v') v v1) u v1 := by
  have I0 := I
  obtain ⟨D, i, j, A, l, stk, tm, co, le, nr, nf, pp, pr, sf, tf, tn, fr, nx, fa, pa, rfl, rfl, hD, hi, hj, hA, hl, hs, hT, hC, hF, hS⟩ := I
  have h121 := cs_ix_lt hl
  have h256 := cs_cd_lt hl
  unfold wpX_feed
  rcases cs_rng v1 3 (by decide) with h | ⟨h, h3⟩ | ⟨a, ha, rfl⟩
  · exact cx_isE0 h (br_t rfl (br_t h ⟨rfl, I0⟩))
  · exact cx_isE1 h h3 (br_t rfl (br_f h (br_f (cs_nle h3 (by decide)) ⟨rfl, I0⟩)))
  · have ha0 : ¬ nI a < 0 := nI_pos (by omega)
    have ha2 : nI a ≤ (2 : Int32) := nI_le (b := 2) (by omega) (by decide)
    refine cx_isE2 ha (br_f cx_n10 (pk_lt (cs_ix l) 40 (fun z => ?_) (fun z => ?_)))
    · have hlen : ¬ l.length = 4 := fun e => by have := (cs_ix40 hl).2 e; omega
      have hc64 : cs_cd l < 64 := by
        rcases Nat.lt_or_ge (cs_cd l) 64 with y | y
        · exact y
        · exact absurd ((cs_cd64 hl).1 y) hlen
      have hla : cs_Wd (a :: l) := ⟨by have := hl.1; rw [List.length_cons]; omega, cs_Ev_s ha hl.2⟩
      have h121' : 3 * cs_ix l + 1 + a < 121 := cs_ix_lt hla
      have h256' : cs_cd l * 4 + a + 1 < 256 := cs_cd_lt hla
      refine cx_append ?_
      rw [nI_clamp (by omega)]
      refine ⟨vp_in_nI h121' (by decide), br_c (fun c => ?_) (fun c => ⟨vp_in_nI h121' (by decide), ?_⟩)⟩
      · refine br_f ha0 (br_t ha2 (pk_lt (cs_cd l) 64 (fun _ => cy_list hA hi hj hT (fun F P hF' hP => ?_)) (fun y => absurd y (by omega))))
        have e : P (cs_cd l * 4 + a + 1) = sf (3 * cs_ix l + 1 + a) := cs_eqS hS hP hla
        dsimp only
        rw [cx_code, nI_clamp (by omega)]
        exact ⟨vp_in_nI h256' (by decide), br_t (e.trans c) ⟨rfl, cs_mkR ⟨hD, hi, hj, hA, hl, hs, hT, hC, hF, hS⟩⟩⟩
      · refine br_f ha0 (br_t ha2 (pk_lt (cs_cd l) 64 (fun _ => cy_list hA hi hj hT (fun F P hF' hP => ?_)) (fun y => absurd y (by omega))))
        have e : P (cs_cd l * 4 + a + 1) = sf (3 * cs_ix l + 1 + a) := cs_eqS hS hP hla
        dsimp only
        rw [cx_code, nI_clamp (by omega)]
        refine ⟨vp_in_nI h256' (by decide), br_f (by rw [e]; exact c) (nm_e (cy_lengthOf h256' ⟨?_, cs_mkR (l := a :: l) ⟨hD, hi, hj, hA, hla, hs, hT, hC, hF, hS⟩⟩))⟩
        exact (congrArg nI (cs_le_cd hla)).trans (hC _ hla).2.symm
    · have h64 : 64 ≤ cs_cd l := (cs_cd64 hl).2 ((cs_ix40 hl).1 z)
      exact br_f ha0 (br_t ha2 (pk_lt (cs_cd l) 64 (fun y => absurd y (by omega)) (fun _ => ⟨rfl, I0⟩)))
theorem i_vc_undo {k : Nat} {u : SX} {v : SY} (I : i_Rel k u v) (hk : k + 4 ≤ 2048) : wpX_undo (fun r u' => wpY_undo (fun r' v' => r' = r ∧ i_Rel (k + 4) u' v') v) u := by
  have I0 := I
  obtain ⟨D, i, j, A, l, stk, tm, co, le, nr, nf, pp, pr, sf, tf, tn, fr, nx, fa, pa, rfl, rfl, hD, hi, hj, hA, hl, hs, hT, hC, hF, hS⟩ := I
  unfold wpX_undo
  cases l with
  | nil => exact br_t rfl (br_t rfl ⟨rfl, I0⟩)
  | cons a l =>
    have ha := cs_Ev_h hl.2
    have hl' := cs_Wd_t hl
    have h1 := cs_ix_lt hl'
    have h2 := cs_cd_lt hl'
    refine br_f (nI_ne0 (n := 3 * cs_ix l + 1 + a) (by omega) (by omega)) ⟨by decide, by decide, ?_⟩
    refine br_f (nI_ne0 (n := cs_cd l * 4 + a + 1) (by omega) (by omega)) ?_
    refine nm_r (cy_last (c := cs_cd l) (a := a) (by omega) ha) (nm_r (cy_wo (c := cs_cd l) (a := a) (by omega) ha) ⟨(cx_last (by omega) ha).symm, ?_⟩)
    have e : (nI (cs_ix (a :: l)) - 1) / 3 = nI (cs_ix l) := cx_wo (by omega) ha
    rw [e]
    exact cs_mkR ⟨hD, hi, hj, hA, hl', hs, hT, hC, hF, hS⟩
theorem i_vc_log {k : Nat} {u : SX} {v : SY} (I : i_Rel k u v) (hk : k + 4 ≤ 2048) : wpX_log (fun r => wpY_log (fun r' => r' = r ∧ i_Rel (k + 4) u v) v) u := by
  have I0 := I
  obtain ⟨D, i, j, A, l, stk, tm, co, le, nr, nf, pp, pr, sf, tf, tn, fr, nx, fa, pa, rfl, rfl, hD, hi, hj, hA, hl, hs, hT, hC, hF, hS⟩ := I
  have h1 := cs_ix_lt hl
  unfold wpX_log
  dsimp only
  rw [nI_clamp (by omega)]
  exact ⟨vp_in_nI h1 (by decide), (hC l hl).1.symm, I0⟩
theorem i_vc_offers {k : Nat} {u : SX} {v : SY} (I : i_Rel k u v) (hk : k + 4 ≤ 2048) : wpX_offers (fun r => wpY_offers (fun r' v' => r' = r ∧ i_Rel (k + 4) u v') v) u := by
  have I0 := I
  obtain ⟨D, i, j, A, l, stk, tm, co, le, nr, nf, pp, pr, sf, tf, tn, fr, nx, fa, pa, rfl, rfl, hD, hi, hj, hA, hl, hs, hT, hC, hF, hS⟩ := I
  have h121 := cs_ix_lt hl
  have h256 := cs_cd_lt hl
  unfold wpX_offers
  refine pk_lt (cs_ix l) 40 (fun z => cx_of15 z ?_) (fun z => ?_)
  · have hlen : ¬ l.length = 4 := fun e => by have := (cs_ix40 hl).2 e; omega
    have hc64 : cs_cd l < 64 := by
      rcases Nat.lt_or_ge (cs_cd l) 64 with y | y
      · exact y
      · exact absurd ((cs_cd64 hl).1 y) hlen
    have hla : ∀ a, a < 3 → cs_Wd (a :: l) := fun a ha => ⟨by have := hl.1; rw [List.length_cons]; omega, cs_Ev_s ha hl.2⟩
    have h2 : cs_cd l * 4 + 2 + 1 < 256 := cs_cd_lt (hla 2 (by decide))
    refine pk_lt (cs_cd l) 64 (fun _ => cy_list hA hi hj hT (fun F P hF' hP => cy_of19 hc64 (by omega) ⟨?_, cs_mkR ⟨hD, hi, hj, hA, hl, hs, hT, hC, hF, hS⟩⟩)) (fun y => absurd y (by omega))
    refine cs_or_c 3 (fun a ha => ?_)
    have e : P (cs_cd l * 4 + a + 1) = sf (3 * cs_ix l + 1 + a) := cs_eqS hS hP (hla a ha)
    unfold cs_of
    dsimp only
    rw [e]
  · have h64 : 64 ≤ cs_cd l := (cs_cd64 hl).2 ((cs_ix40 hl).1 z)
    exact pk_lt (cs_cd l) 64 (fun y => absurd y (by omega)) (fun _ => ⟨rfl, I0⟩)
theorem i_vc_refuses {k : Nat} {u : SX} {v : SY} (I : i_Rel k u v) (hk : k + 4 ≤ 2048) (v1 : Int32) : wpX_refuses (fun r => wpY_refuses (fun r' v' => r' = r ∧ i_Rel (k + 4) u v') v v1) u v1 := by
  have I0 := I
  obtain ⟨D, i, j, A, l, stk, tm, co, le, nr, nf, pp, pr, sf, tf, tn, fr, nx, fa, pa, rfl, rfl, hD, hi, hj, hA, hl, hs, hT, hC, hF, hS⟩ := I
  have h121 := cs_ix_lt hl
  have h256 := cs_cd_lt hl
  unfold wpX_refuses
  rcases cs_rng v1 8 (by decide) with h | ⟨h, h8⟩ | ⟨b, hb, rfl⟩
  · exact cx_isS0 h (br_t rfl (br_t h ⟨rfl, I0⟩))
  · exact cx_isS1 h h8 (br_t rfl (br_f h (br_f (cs_nle h8 (by decide)) ⟨rfl, I0⟩)))
  · have hb0 : ¬ nI b < 0 := nI_pos (by omega)
    have hb7 : nI b ≤ (7 : Int32) := nI_le (b := 7) (by omega) (by decide)
    refine cx_isS2 hb (br_f cx_n10 ⟨vp_in_nI h121 (by decide), ?_⟩)
    rw [nI_clamp (by omega)]
    refine cx_hasBit (by omega) (fun hc => br_t rfl ?_) (fun hc => br_f cx_n10 ?_)
    · refine br_f hb0 (br_t hb7 (cy_list hA hi hj hT (fun F P hF' hP => ?_)))
      dsimp only
      rw [nI_clamp (by omega)]
      have e := cs_eqS hS hP hl
      refine ⟨vp_in_nI h256 (by decide), br_f (fun g => ?_) ⟨rfl, cs_mkR ⟨hD, hi, hj, hA, hl, hs, hT, hC, hF, hS⟩⟩⟩
      rw [e, cs_hs _ (by omega), hc] at g
      exact nomatch g
    · refine br_f hb0 (br_t hb7 (cy_list hA hi hj hT (fun F P hF' hP => ?_)))
      dsimp only
      rw [nI_clamp (by omega)]
      have e := cs_eqS hS hP hl
      refine ⟨vp_in_nI h256 (by decide), br_t ?_ ⟨rfl, cs_mkR ⟨hD, hi, hj, hA, hl, hs, hT, hC, hF, hS⟩⟩⟩
      rw [e, cs_hs _ (by omega), hc]
theorem i_vc_traces {k : Nat} {u : SX} {v : SY} (I : i_Rel k u v) (hk : k + 4 ≤ 2048) (v1 : Int32) : wpX_traces (fun r => wpY_traces (fun r' v' => r' = r ∧ i_Rel (k + 4) u v') v v1) u v1 := by
  have I0 := I
  obtain ⟨D, i, j, A, l, stk, tm, co, le, nr, nf, pp, pr, sf, tf, tn, fr, nx, fa, pa, rfl, rfl, hD, hi, hj, hA, hl, hs, hT, hC, hF, hS⟩ := I
  unfold wpX_traces
  rcases cs_rng v1 5 (by decide) with h | ⟨h, h8⟩ | ⟨L, hL, rfl⟩
  · exact br_t h (br_t h ⟨rfl, I0⟩)
  · exact br_f h (br_f (cs_nle h8 (by decide)) (br_f h (br_f (cs_nle h8 (by decide)) ⟨rfl, I0⟩)))
  · have hb0 : ¬ nI L < 0 := nI_pos (by omega)
    have hb4 : nI L ≤ (4 : Int32) := nI_le (b := 4) (by omega) (by decide)
    refine br_f hb0 (br_t hb4 (cx_tr15 ?_))
    refine br_f hb0 (br_t hb4 (cy_list hA hi hj hT (fun F P hF' hP => cy_tr19 hL ⟨congrArg nI ?_, cs_mkR ⟨hD, hi, hj, hA, hl, hs, hT, hC, hF, hS⟩⟩)))
    rw [cs_cn_C]
    · refine cs_cn_c 121 (fun w hw => ?_)
      have h4 := cs_le_4 (cs_C w)
      rw [cs_eqSw hS hP hw, (cs_eqCw hC hw).2]
      congr 1
      exact decide_eq_decide.mpr (nI_eq (by omega) (by omega)).symm
    · intro c hc hq
      refine ts_nf (fun ho => ?_)
      rw [(hP c hc).2 ho] at hq
      simp at hq
