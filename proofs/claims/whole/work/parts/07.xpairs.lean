/-! ===== X's walks: pairs ===== -/
theorem cs_agX : ∀ m, m < 8 → ∀ n, n < 8 → ∀ A, A < 8 → (((nI m ^^^ nI n) &&& (nI A ^^^ (-1))) = 0 ↔ cs_ag A m n = true) := by decide +kernel
theorem cs_agY : ∀ m, m < 8 → ∀ n, n < 8 → ∀ A, A < 8 → ((nI m ||| nI A) = (nI n ||| nI A) ↔ cs_ag A m n = true) := by decide +kernel
theorem cs_orN : ∀ m, m < 8 → ∀ n, n < 8 → nI m ||| nI n = nI (m ||| n) := by decide +kernel
theorem cs_btN : ∀ A, A < 8 → ∀ a, a < 8 → bt (nI A) a = A.testBit a := by decide +kernel
theorem cx_hasPair {post : Int32 → Prop} {x : Int64} {p q : Nat} (hp : p < 8) (hq : q < 8) (h0 : cs_bl x (8 * p + q) = false → post 0) (h1 : cs_bl x (8 * p + q) = true → post 1) : wpX_hasPair post x (nI p) (nI q) := by
  unfold wpX_hasPair
  rw [cx_8p]
  exact br_c (fun c => h0 ((cs_hp x (by omega)).1 c)) (fun c => h1 (ts_nf (fun e => c ((cs_hp x (by omega)).2 e))))
theorem cx_allPairs {post : Int64 → Prop} {x y : Int32} (h : post (cs_AP x y)) : wpX_allPairs post x y := by
  refine pk_loop (fun n i s => wX_allPairs_5 post x y n s (nI i)) (fun i s => s = cs_orL (fun p => cs_selL (bt x p) (y.toInt64 <<< ((nI (8 * p)).toInt64 &&& 63))) i) 8 0 0 (by omega) rfl ?_ ?_
  · intro n s e
    refine pk_le 8 8 (fun _ => ?_) (fun z => absurd z (by omega))
    rw [show s = cs_AP x y from e]
    exact h
  · intro n i s hi e ih
    refine pk_le 8 i (fun z => absurd z (by omega)) (fun _ => br_c (fun c => ?_) (fun c => ?_))
    · refine nm_r (nI_1 i) (ih _ ?_)
      exact Eq.trans e (cs_orL_f _ i (cs_selL_f _ ((cs_mk x (by omega)).1 c)))
    · refine nm_e (nm_r (nI_1 i) (ih _ ?_))
      rw [show s = cs_orL (fun p => cs_selL (bt x p) (y.toInt64 <<< ((nI (8 * p)).toInt64 &&& 63))) i from e, cx_8]
      exact cs_orL_t _ i (cs_selL_t _ (ts_nf (fun hb => c ((cs_mk x (by omega)).2 hb))))
section CXP
variable {f1 f2 f3 f4 f5 : Int32} {stk tm co le nr nf : Nat → Int32} {pp : Nat → Int64} {pr sf : Nat → Int32}
theorem cx_un15 {post : Int32 → Prop} {J5 : Int32 → Int32 → Prop} {x y : Int32} {A m : Nat} (hA : A < 8) (hm : m < 8) (acc : Int32) (hJ : J5 (acc ||| cs_or (fun n => cs_sel (cs_ag A m n && bt x m && bt y n) ((1 : Int32) <<< (nI (m ||| n) &&& 31))) 8) (nI (m + 1))) : ∃ n, wX_unitedRefusals_15 post J5 x y (nI m) f1 f2 f3 (nI A) f5 stk tm co le nr nf pp pr sf n acc 0 := by
  refine pk_loop (fun n i s => wX_unitedRefusals_15 post J5 x y (nI m) f1 f2 f3 (nI A) f5 stk tm co le nr nf pp pr sf n s (nI i)) (fun i s => s = acc ||| cs_or (fun n => cs_sel (cs_ag A m n && bt x m && bt y n) ((1 : Int32) <<< (nI (m ||| n) &&& 31))) i) 8 0 acc (by omega) (cs_or0 acc).symm ?_ ?_
  · intro n s e
    refine pk_le 8 8 (fun _ => nm_r (nI_1 m) ?_) (fun z => absurd z (by omega))
    rw [show s = _ from e]
    exact hJ
  · intro n i s hi e ih
    have hf : (cs_ag A m i && bt x m && bt y i) = false → wX_unitedRefusals_15 post J5 x y (nI m) f1 f2 f3 (nI A) f5 stk tm co le nr nf pp pr sf n s (nI (i + 1)) :=
      fun hb => ih _ (cs_ac_f acc _ i e (cs_sel_f _ hb))
    refine pk_le 8 i (fun z => absurd z (by omega)) (fun _ => br_c (fun c => ?_) (fun c => ?_))
    · have hg := (cs_agX m hm i hi A hA).1 c
      refine br_f cx_n10 (cx_hasBit (by omega) (fun hb => ?_) (fun hb => ?_))
      · exact br_t rfl (nm_r (nI_1 i) (hf (by rw [hb, Bool.and_false, Bool.false_and])))
      · refine br_f cx_n10 (cx_hasBit (by omega) (fun hc => ?_) (fun hc => ?_))
        · exact br_t rfl (nm_r (nI_1 i) (hf (by rw [hc, Bool.and_false])))
        · refine br_f cx_n10 (nm_r (e' := s ||| ((1 : Int32) <<< (nI (m ||| i) &&& 31))) (by rw [cs_orN m hm i hi]) (nm_r (nI_1 i) (ih _ ?_)))
          exact cs_ac_t acc _ i e (cs_sel_t _ (by rw [hg, hb, hc]; rfl))
    · have hg : cs_ag A m i = false := ts_nt (fun g => c ((cs_agX m hm i hi A hA).2 g))
      exact br_t rfl (nm_r (nI_1 i) (hf (by rw [hg, Bool.false_and, Bool.false_and])))
theorem cx_united {post : Int32 → Prop} {x y : Int32} {A : Nat} (hA : A < 8) (h : post (cs_UR A x y)) : wpX_unitedRefusals post (f1, f2, f3, (nI A), f5, stk, tm, co, le, nr, nf, pp, pr, sf) x y := by
  refine pk_loop (fun n i s => wX_unitedRefusals_5 post x y f1 f2 f3 (nI A) f5 stk tm co le nr nf pp pr sf n s (nI i)) (fun i s => s = cs_or (fun m => cs_or (fun n => cs_sel (cs_ag A m n && bt x m && bt y n) ((1 : Int32) <<< (nI (m ||| n) &&& 31))) 8) i) 8 0 0 (by omega) rfl ?_ ?_
  · intro n s e
    refine pk_le 8 8 (fun _ => ?_) (fun z => absurd z (by omega))
    rw [show s = cs_UR A x y from e]
    exact h
  · intro n i s hi e ih
    refine pk_le 8 i (fun z => absurd z (by omega)) (fun _ => cx_un15 hA hi s (ih _ ?_))
    rw [show s = _ from e]
    exact cs_or_t _ i rfl
theorem cx_jr10 {post : SX → Prop} {J2 : Int32 → (Nat → Int32) → (Nat → Int32) → (Nat → Int32) → (Nat → Int32) → (Nat → Int32) → (Nat → Int32) → (Nat → Int64) → (Nat → Int32) → (Nat → Int32) → Prop} {A p : Nat} (hA : A < 8) (hp : p < 8) (h0 : ∀ a b, a < p → b < 8 → pr (8 * a + b) = cs_UR A (tm a) (tm b)) (hJ : ∀ T, (∀ a b, a < p + 1 → b < 8 → T (8 * a + b) = cs_UR A (tm a) (tm b)) → J2 (nI (p + 1)) stk tm co le nr nf pp T sf) : ∃ n, wX_joinRefusals_10 post J2 (nI p) f1 f2 f3 (nI A) f5 n 0 stk tm co le nr nf pp pr sf := by
  refine pk_loop (fun n i s => wX_joinRefusals_10 post J2 (nI p) f1 f2 f3 (nI A) f5 n (nI i) stk tm co le nr nf pp s sf) (fun i s => (∀ a b, a < p → b < 8 → s (8 * a + b) = cs_UR A (tm a) (tm b)) ∧ ∀ b, b < i → s (8 * p + b) = cs_UR A (tm p) (tm b)) 8 0 pr (by omega) ⟨h0, fun b hb => absurd hb (by omega)⟩ ?_ ?_
  · intro n s e
    refine pk_le 8 8 (fun _ => nm_r (nI_1 p) (hJ s ?_)) (fun z => absurd z (by omega))
    intro a b ha hb
    rcases Nat.lt_or_ge a p with z | z
    · exact e.1 a b z hb
    · have ea : a = p := by omega
      subst ea
      exact e.2 b hb
  · intro n q s hq e ih
    refine pk_le 8 q (fun z => absurd z (by omega)) (fun _ => ?_)
    refine ⟨vp_in_nI hp (by decide), vp_in_nI hq (by decide), cx_united hA ?_⟩
    rw [cx_8p]
    refine ⟨vp_in_nI (by omega) (by decide), nm_r (e' := upd s (8 * p + q) (cs_UR A (tm p) (tm q))) (by rw [nI_clamp (by omega), nI_clamp (by omega), nI_clamp (by omega)]) (nm_r (nI_1 q) (ih _ ⟨?_, ?_⟩))⟩
    · intro a b ha hb
      rw [pk_un (by omega)]
      exact e.1 a b ha hb
    · intro b hb
      rcases Nat.lt_or_ge b q with z | z
      · rw [pk_un (by omega)]
        exact e.2 b z
      · have eb : b = q := by omega
        subst eb
        exact pk_us
theorem cx_join {post : SX → Prop} {A : Nat} (hA : A < 8) (h : ∀ T, (∀ a b, a < 8 → b < 8 → T (8 * a + b) = cs_UR A (tm a) (tm b)) → post (f1, f2, f3, (nI A), f5, stk, tm, co, le, nr, nf, pp, T, sf)) : wpX_joinRefusals post (f1, f2, f3, (nI A), f5, stk, tm, co, le, nr, nf, pp, pr, sf) := by
  refine pk_loop (fun n i s => wX_joinRefusals_2 post f1 f2 f3 (nI A) f5 n (nI i) stk tm co le nr nf pp s sf) (fun i s => ∀ a b, a < i → b < 8 → s (8 * a + b) = cs_UR A (tm a) (tm b)) 8 0 pr (by omega) (fun a b ha => absurd ha (by omega)) ?_ ?_
  · intro n s e
    exact pk_le 8 8 (fun _ => h s e) (fun z => absurd z (by omega))
  · intro n p s hp e ih
    exact pk_le 8 p (fun z => absurd z (by omega)) (fun _ => cx_jr10 hA hp e (fun T hT => ih T hT))
theorem cx_pairsAfter {post : Int64 → Prop} {A p q a : Nat} (hA : A < 8) (hp : p < 8) (hq : q < 8) (ha : a < 3) (h : post (cs_PA tm A p q a)) : wpX_pairsAfter post (f1, f2, f3, (nI A), f5, stk, tm, co, le, nr, nf, pp, pr, sf) (nI p) (nI q) (nI a) := by
  unfold wpX_pairsAfter
  refine cx_namesAfter hp (cx_namesAfter hq (cx_hasBit (by omega) (fun hb => ?_) (fun hb => ?_)))
  · rw [cs_btN A hA a (by omega)] at hb
    refine br_t rfl (cx_allPairs (cx_allPairs ?_))
    rw [show cs_PA tm A p q a = _ from by unfold cs_PA; rw [hb, cond_false]] at h
    exact h
  · rw [cs_btN A hA a (by omega)] at hb
    refine br_f cx_n10 (cx_allPairs ?_)
    rw [show cs_PA tm A p q a = _ from by unfold cs_PA; rw [hb, cond_true]] at h
    exact h
theorem cx_sp16 {post : Int64 → Prop} {J6 : Int64 → Int32 → Prop} {x : Int64} {A a p : Nat} (hA : A < 8) (ha : a < 3) (hp : p < 8) (acc : Int64) (hJ : J6 (acc ||| cs_orL (fun q => cs_selL (cs_bl x (8 * p + q)) (cs_PA tm A p q a)) 8) (nI (p + 1))) : ∃ n, wX_stepPairs_16 post J6 x (nI a) (nI p) f1 f2 f3 (nI A) f5 stk tm co le nr nf pp pr sf n acc 0 := by
  refine pk_loop (fun n i s => wX_stepPairs_16 post J6 x (nI a) (nI p) f1 f2 f3 (nI A) f5 stk tm co le nr nf pp pr sf n s (nI i)) (fun i s => s = acc ||| cs_orL (fun q => cs_selL (cs_bl x (8 * p + q)) (cs_PA tm A p q a)) i) 8 0 acc (by omega) (cs_or0L acc).symm ?_ ?_
  · intro n s e
    refine pk_le 8 8 (fun _ => nm_r (nI_1 p) ?_) (fun z => absurd z (by omega))
    rw [show s = _ from e]
    exact hJ
  · intro n q s hq e ih
    refine pk_le 8 q (fun z => absurd z (by omega)) (fun _ => cx_hasPair hp hq (fun hb => ?_) (fun hb => ?_))
    · exact br_t rfl (nm_r (nI_1 q) (ih _ (cs_acL_f acc _ q e (cs_selL_f _ hb))))
    · exact br_f cx_n10 (cx_pairsAfter hA hp hq ha (nm_e (nm_r (nI_1 q) (ih _ (cs_acL_t acc _ q e (cs_selL_t _ hb))))))
theorem cx_stepPairs {post : Int64 → Prop} {x : Int64} {A a : Nat} (hA : A < 8) (ha : a < 3) (h : post (cs_SP tm A x a)) : wpX_stepPairs post (f1, f2, f3, (nI A), f5, stk, tm, co, le, nr, nf, pp, pr, sf) x (nI a) := by
  refine pk_loop (fun n i s => wX_stepPairs_6 post x (nI a) f1 f2 f3 (nI A) f5 stk tm co le nr nf pp pr sf n s (nI i)) (fun i s => s = cs_orL (fun p => cs_orL (fun q => cs_selL (cs_bl x (8 * p + q)) (cs_PA tm A p q a)) 8) i) 8 0 0 (by omega) rfl ?_ ?_
  · intro n s e
    refine pk_le 8 8 (fun _ => ?_) (fun z => absurd z (by omega))
    rw [show s = cs_SP tm A x a from e]
    exact h
  · intro n p s hp e ih
    refine pk_le 8 p (fun z => absurd z (by omega)) (fun _ => cx_sp16 hA ha hp s (ih _ ?_))
    rw [show s = _ from e]
    exact cs_orL_t _ p rfl
theorem cx_rp15 {post : Int32 → Prop} {J5 : Int32 → Int32 → Prop} {x : Int64} {p : Nat} (hp : p < 8) (acc : Int32) (hJ : J5 (acc ||| cs_or (fun q => cs_sel (cs_bl x (8 * p + q)) (pr (8 * p + q))) 8) (nI (p + 1))) : ∃ n, wX_refusalsOfPairs_15 post J5 x (nI p) f1 f2 f3 f4 f5 stk tm co le nr nf pp pr sf n acc 0 := by
  refine pk_loop (fun n i s => wX_refusalsOfPairs_15 post J5 x (nI p) f1 f2 f3 f4 f5 stk tm co le nr nf pp pr sf n s (nI i)) (fun i s => s = acc ||| cs_or (fun q => cs_sel (cs_bl x (8 * p + q)) (pr (8 * p + q))) i) 8 0 acc (by omega) (cs_or0 acc).symm ?_ ?_
  · intro n s e
    refine pk_le 8 8 (fun _ => nm_r (nI_1 p) ?_) (fun z => absurd z (by omega))
    rw [show s = _ from e]
    exact hJ
  · intro n q s hq e ih
    refine pk_le 8 q (fun z => absurd z (by omega)) (fun _ => cx_hasPair hp hq (fun hb => ?_) (fun hb => ?_))
    · exact br_t rfl (nm_r (nI_1 q) (ih _ (cs_ac_f acc _ q e (cs_sel_f _ hb))))
    · refine br_f cx_n10 ?_
      rw [cx_8p]
      refine ⟨vp_in_nI (by omega) (by decide), nm_r (e' := s ||| pr (8 * p + q)) (by rw [nI_clamp (by omega)]) (nm_r (nI_1 q) (ih _ (cs_ac_t acc _ q e (cs_sel_t _ hb))))⟩
theorem cx_refP {post : Int32 → Prop} {x : Int64} (h : post (cs_RP pr x)) : wpX_refusalsOfPairs post (f1, f2, f3, f4, f5, stk, tm, co, le, nr, nf, pp, pr, sf) x := by
  refine pk_loop (fun n i s => wX_refusalsOfPairs_5 post x f1 f2 f3 f4 f5 stk tm co le nr nf pp pr sf n s (nI i)) (fun i s => s = cs_or (fun p => cs_or (fun q => cs_sel (cs_bl x (8 * p + q)) (pr (8 * p + q))) 8) i) 8 0 0 (by omega) rfl ?_ ?_
  · intro n s e
    refine pk_le 8 8 (fun _ => ?_) (fun z => absurd z (by omega))
    rw [show s = cs_RP pr x from e]
    exact h
  · intro n p s hp e ih
    refine pk_le 8 p (fun z => absurd z (by omega)) (fun _ => cx_rp15 hp s (ih _ ?_))
    rw [show s = _ from e]
    exact cs_or_t _ p rfl
def cx_Tp (t : Nat → Int32) (A i j b : Nat) (T : Nat → Int64) : Prop := ∀ u, cs_Ev u → cs_ix u < b → cs_Pp t A i j u (T (cs_ix u))
theorem cx_fs34 {post : SX → Prop} {J26 : Int32 → (Nat → Int32) → (Nat → Int32) → (Nat → Int32) → (Nat → Int32) → (Nat → Int32) → (Nat → Int32) → (Nat → Int64) → (Nat → Int32) → (Nat → Int32) → Prop} {A i j w : Nat} (hA : A < 8) (hw : w < 40) (h0 : cx_Tp tm A i j (3 * w + 1) pp) (hJ : ∀ T, cx_Tp tm A i j (3 * (w + 1) + 1) T → J26 (nI (w + 1)) stk tm co le nr nf T pr sf) : ∃ n, wX_followSystem_34 post J26 (nI w) f1 f2 f3 (nI A) f5 n 0 stk tm co le nr nf pp pr sf := by
  refine pk_loop (fun n i s => wX_followSystem_34 post J26 (nI w) f1 f2 f3 (nI A) f5 n (nI i) stk tm co le nr nf s pr sf) (fun a s => cx_Tp tm A i j (3 * w + 1 + a) s) 3 0 pp (by omega) h0 ?_ ?_
  · intro n s e
    refine pk_le 3 3 (fun _ => nm_r (nI_1 w) (hJ s ?_)) (fun z => absurd z (by omega))
    intro u hu hi
    exact e u hu (by omega)
  · intro n a s ha e ih
    refine pk_le 3 a (fun z => absurd z (by omega)) (fun _ => ?_)
    refine cx_append ⟨vp_in_nI (by omega) (by decide), cx_stepPairs hA ha ⟨vp_in_nI (by omega) (by decide), ?_⟩⟩
    refine nm_r (e' := vp_updL s (3 * w + 1 + a) (cs_SP tm A (s w) a)) (by rw [nI_clamp (by omega), nI_clamp (by omega)]) (nm_r (nI_1 a) (ih _ ?_))
    exact cs_tab_s (P := fun u x => cs_Pp tm A i j u x) ha e (fun m hm => pk_uLn hm) (fun u hu _ hP => by rw [pk_uLs]; exact cs_Pp_s hP ha)
theorem cx_fs76 {post : SX → Prop} {A i j : Nat} (h0 : cx_Tp tm A i j 121 pp) (hr : ∀ a b, a < 8 → b < 8 → pr (8 * a + b) = cs_UR A (tm a) (tm b)) (h : ∀ T, cs_XS tm A i j T → post (f1, f2, f3, f4, f5, stk, tm, co, le, nr, nf, pp, pr, T)) : ∃ n, wX_followSystem_76 post f1 f2 f3 f4 f5 n 0 stk tm co le nr nf pp pr sf := by
  refine pk_loop (fun n i s => wX_followSystem_76 post f1 f2 f3 f4 f5 n (nI i) stk tm co le nr nf pp pr s) (fun w s => ∀ u, cs_Wd u → cs_ix u < w → cs_Ps tm A i j u (s (cs_ix u))) 121 0 sf (by omega) (fun u _ h => absurd h (by omega)) ?_ ?_
  · intro n s e
    exact pk_le 121 121 (fun _ => h s (fun u hu => e u hu (cs_ix_lt hu))) (fun z => absurd z (by omega))
  · intro n w s hw e ih
    refine pk_le 121 w (fun z => absurd z (by omega)) (fun _ => ?_)
    refine ⟨vp_in_nI (by omega) (by decide), cx_refP ⟨vp_in_nI (by omega) (by decide), nm_r (e' := upd s w (cs_RP pr (pp w))) (by rw [nI_clamp (by omega)]) (nm_r (nI_1 w) (ih _ ?_))⟩⟩
    intro u hu hi
    rcases Nat.lt_or_ge (cs_ix u) w with z | z
    · rw [pk_un (by omega)]
      exact e u hu z
    · have ew : cs_ix u = w := by omega
      subst ew
      rw [pk_us]
      exact cs_Ps_p (h0 u hu.2 hw) hr
theorem cx_followSystem {post : SX → Prop} {A i j : Nat} (hA : A < 8) (hi : i < 8) (hj : j < 8) (h : ∀ P Q T, cs_XS tm A i j T → post (f1, (nI i), (nI j), (nI A), f5, stk, tm, co, le, nr, nf, P, Q, T)) : wpX_followSystem post (f1, (nI i), (nI j), (nI A), f5, stk, tm, co, le, nr, nf, pp, pr, sf) := by
  unfold wpX_followSystem
  refine cx_join hA (fun Q hQ => ?_)
  refine nm_r (e' := vp_updL pp 0 ((1 : Int64) <<< ((nI (8 * i + j)).toInt64 &&& 63))) (by rw [cx_8p]) ?_
  refine pk_loop (fun n w s => wX_followSystem_26 post f1 (nI i) (nI j) (nI A) f5 n (nI w) stk tm co le nr nf s Q sf) (fun w s => cx_Tp tm A i j (3 * w + 1) s) 40 0 _ (by omega) ?_ ?_ ?_
  · intro u hu hu1
    have e := cx_ix0 hu1
    subst e
    show cs_Pp tm A i j [] (vp_updL pp 0 _ 0)
    rw [pk_uLs]
    exact cs_Pp_0 tm A hi hj
  · intro n s e
    exact pk_le 40 40 (fun _ => cx_fs76 e hQ (fun T hT => h s Q T hT)) (fun z => absurd z (by omega))
  · intro n w s hw e ih
    exact pk_le 40 w (fun z => absurd z (by omega)) (fun _ => cx_fs34 hA hw e (fun T hT => ih T hT))
/-! the words measured -/
def cx_Tm (b : Nat) (s : (Nat → Int32) × (Nat → Int32)) : Prop := (∀ u, cs_Ev u → cs_ix u < b → s.1 (cs_ix u) = nI (cs_cd u)) ∧ (∀ u, cs_Ev u → cs_ix u < b → s.2 (cs_ix u) = nI u.length)
theorem cx_code (c a : Nat) : ((nI c * 4) + nI a) + 1 = nI (c * 4 + a + 1) := by
  rw [show (4 : Int32) = nI 4 from rfl, pk_mul, nI_add, nI_1]
theorem cx_mw10 {post : SX → Prop} {J2 : Int32 → (Nat → Int32) → (Nat → Int32) → (Nat → Int32) → (Nat → Int32) → (Nat → Int32) → (Nat → Int32) → (Nat → Int64) → (Nat → Int32) → (Nat → Int32) → Prop} {w : Nat} (hw : w < 40) (h0 : cx_Tm (3 * w + 1) (co, le)) (hJ : ∀ s, cx_Tm (3 * (w + 1) + 1) s → J2 (nI (w + 1)) stk tm s.1 s.2 nr nf pp pr sf) : ∃ n, wX_measureWords_10 post J2 (nI w) f1 f2 f3 f4 f5 n 0 stk tm co le nr nf pp pr sf := by
  refine pk_loop (fun n i (s : (Nat → Int32) × (Nat → Int32)) => wX_measureWords_10 post J2 (nI w) f1 f2 f3 f4 f5 n (nI i) stk tm s.1 s.2 nr nf pp pr sf) (fun a s => cx_Tm (3 * w + 1 + a) s) 3 0 (co, le) (by omega) h0 ?_ ?_
  · intro n s e
    refine pk_le 3 3 (fun _ => nm_r (nI_1 w) (hJ s ⟨?_, ?_⟩)) (fun z => absurd z (by omega))
    · intro u hu hi
      exact e.1 u hu (by omega)
    · intro u hu hi
      exact e.2 u hu (by omega)
  · intro n a s ha e ih
    refine pk_le 3 a (fun z => absurd z (by omega)) (fun _ => ?_)
    refine cx_append ⟨vp_in_nI (by omega) (by decide), vp_in_nI (by omega) (by decide), ?_⟩
    refine nm_r (e' := upd s.1 (3 * w + 1 + a) (((s.1 w * 4) + nI a) + 1)) (by rw [nI_clamp (by omega), nI_clamp (by omega)]) ⟨vp_in_nI (by omega) (by decide), vp_in_nI (by omega) (by decide), ?_⟩
    refine nm_r (e' := upd s.2 (3 * w + 1 + a) (s.2 w + 1)) (by rw [nI_clamp (by omega), nI_clamp (by omega)]) (nm_r (nI_1 a) (ih (upd s.1 (3 * w + 1 + a) (((s.1 w * 4) + nI a) + 1), upd s.2 (3 * w + 1 + a) (s.2 w + 1)) ⟨?_, ?_⟩))
    · exact cs_tab_s (P := fun u x => x = nI (cs_cd u)) ha e.1 (fun m hm => pk_un hm) (fun u hu _ hP => by show upd s.1 _ _ _ = _; rw [pk_us, hP]; exact cx_code _ _)
    · exact cs_tab_s (P := fun u x => x = nI u.length) ha e.2 (fun m hm => pk_un hm) (fun u hu _ hP => by show upd s.2 _ _ _ = _; rw [pk_us, hP, nI_1]; rfl)
theorem cx_measure {post : SX → Prop} (hc : co 0 = 0) (hl : le 0 = 0) (h : ∀ C L, cs_XC C L → post (f1, f2, f3, f4, f5, stk, tm, C, L, nr, nf, pp, pr, sf)) : wpX_measureWords post (f1, f2, f3, f4, f5, stk, tm, co, le, nr, nf, pp, pr, sf) := by
  refine pk_loop (fun n i (s : (Nat → Int32) × (Nat → Int32)) => wX_measureWords_2 post f1 f2 f3 f4 f5 n (nI i) stk tm s.1 s.2 nr nf pp pr sf) (fun w s => cx_Tm (3 * w + 1) s) 40 0 (co, le) (by omega) ⟨?_, ?_⟩ ?_ ?_
  · intro u hu hu1
    have e := cx_ix0 hu1
    subst e
    exact hc
  · intro u hu hu1
    have e := cx_ix0 hu1
    subst e
    exact hl
  · intro n s e
    refine pk_le 40 40 (fun _ => h s.1 s.2 (fun u hu => ⟨e.1 u hu.2 (cs_ix_lt hu), e.2 u hu.2 (cs_ix_lt hu)⟩)) (fun z => absurd z (by omega))
  · intro n w s hw e ih
    exact pk_le 40 w (fun z => absurd z (by omega)) (fun _ => cx_mw10 hw e (fun T hT => ih T hT))
end CXP
