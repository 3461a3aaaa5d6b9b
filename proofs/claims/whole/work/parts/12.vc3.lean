/-! ===== gap, gapRefusal, refined, deadlock, unsure ===== -/
theorem cs_search {W : Nat → Nat → Prop} {G : Nat → Prop} {P0 : Prop} {P1 : Nat → Prop} (N i0 : Nat) (hi : i0 ≤ N) (h00 : ∀ d, d < i0 → ¬ G d) (h0 : cs_F0 G N → P0) (h1 : ∀ c, cs_F1 G N c → P1 c) (hx : ∀ n, P0 → W (n + 1) N) (hs : ∀ n i, i < N → i0 ≤ i → (G i → P1 i) → (¬ G i → W n (i + 1)) → W (n + 1) i) : ∃ n, W n i0 := by
  refine pk_loop (fun n i (_ : Unit) => W n i) (fun i _ => i0 ≤ i ∧ ∀ d, d < i → ¬ G d) N i0 () hi ⟨Nat.le_refl _, h00⟩ (fun n _ e => hx n (h0 e.2)) ?_
  intro n i _ hi e ih
  refine hs n i hi e.1 (fun g => h1 i ⟨hi, g, e.2⟩) (fun g => ih () ⟨by omega, fun d hd => ?_⟩)
  rcases Nat.lt_or_ge d i with z | z
  · exact e.2 d z
  · have ed : d = i := by omega
    subst ed
    exact g
theorem cs_F1_u {Q : Nat → Prop} {n a b : Nat} (ha : cs_F1 Q n a) (hb : cs_F1 Q n b) : a = b := by
  rcases Nat.lt_or_ge a b with z | z
  · exact absurd ha.2.1 (hb.2.2 a z)
  · rcases Nat.lt_or_ge b a with y | y
    · exact absurd hb.2.1 (ha.2.2 b y)
    · omega
theorem cs_XY0 {X Y : Nat → Prop} (hG : ∀ w, w < 121 → (X w ↔ Y (cs_C w))) (hQ : ∀ c, c < 256 → Y c → cs_ok 4 c = true) (h : cs_F0 X 121) : cs_F0 Y 256 :=
  cs_F0_C hQ (fun d hd g => h d hd ((hG d hd).2 g))
theorem cs_XY1 {X Y : Nat → Prop} (hG : ∀ w, w < 121 → (X w ↔ Y (cs_C w))) (hQ : ∀ c, c < 256 → Y c → cs_ok 4 c = true) {w : Nat} (h : cs_F1 X 121 w) : cs_F1 Y 256 (cs_C w) :=
  cs_F1_C hQ ⟨h.1, (hG w h.1).1 h.2.1, fun d hd g => h.2.2 d hd ((hG d (Nat.lt_trans hd h.1)).2 g)⟩
theorem cs_YX0 {X Y : Nat → Prop} (hG : ∀ w, w < 121 → (X w ↔ Y (cs_C w))) (h : cs_F0 Y 256) : cs_F0 X 121 :=
  fun d hd g => h _ (cs_C_lt hd) ((hG d hd).1 g)
theorem cs_m4 {w : Nat} (h : w < 2 ^ 31) : ¬ nI w = -4 := by
  intro e
  have := nI_pos h
  rw [e] at this
  exact this (by decide)
def cs_G (kd s n : Int32) : Prop := (kd = 0 ∧ ¬ s = 0 ∧ n = 0) ∨ (kd = 1 ∧ ¬ (s &&& (n ^^^ (-1))) = 0)
theorem cs_G_0 {kd n : Int32} : ¬ cs_G kd 0 n := by
  rintro (⟨_, h, _⟩ | ⟨_, h⟩)
  · exact h rfl
  · exact h Int32.zero_and
theorem cs_G_i0 {s n : Int32} : cs_G 0 s n ↔ ¬ s = 0 ∧ n = 0 :=
  ⟨fun h => h.elim (fun h => h.2) (fun h => absurd h.1 (by decide)), fun h => Or.inl ⟨rfl, h⟩⟩
theorem cs_G_i1 {s n : Int32} : cs_G 1 s n ↔ ¬ (s &&& (n ^^^ (-1))) = 0 :=
  ⟨fun h => h.elim (fun h => absurd h.1 (by decide)) (fun h => h.2), fun h => Or.inr ⟨rfl, h⟩⟩
theorem cx_isK1 {post : Int32 → Prop} {v : Int32} (h : v = 0 ∨ v = 1) (hp : post 1) : wpX_isKind post v := by
  rcases h with h | h
  · exact br_t h hp
  · exact br_f (by rw [h]; decide) (br_t h hp)
theorem cx_isK0 {post : Int32 → Prop} {v : Int32} (h : v < 0 ∨ (¬ v < 0 ∧ nI 2 ≤ v)) (hp : post 0) : wpX_isKind post v := by
  refine br_f ?_ (br_f ?_ hp)
  · intro e
    rw [e] at h
    exact absurd h (by decide)
  · intro e
    rw [e] at h
    exact absurd h (by decide)
theorem cs_kind (v : Int32) : (v < 0 ∨ (¬ v < 0 ∧ nI 2 ≤ v)) ∨ (v = 0 ∨ v = 1) := by
  rcases cs_rng v 2 (by decide) with h | h | ⟨j, hj, rfl⟩
  · exact Or.inl (Or.inl h)
  · exact Or.inl (Or.inr h)
  · have : j = 0 ∨ j = 1 := by omega
    rcases this with e | e
    · subst e; exact Or.inr (Or.inl rfl)
    · subst e; exact Or.inr (Or.inr rfl)
theorem cs_k0 {v : Int32} (h : v = 0 ∨ v = 1) : ¬ v < 0 := by rcases h with h | h <;> rw [h] <;> decide
theorem cs_k1 {v : Int32} (h : v = 0 ∨ v = 1) : v ≤ 1 := by rcases h with h | h <;> rw [h] <;> decide
section CSG
variable {f1 f2 f3 f4 f5 : Int32} {stk tm co le nr nf : Nat → Int32} {pp : Nat → Int64} {pr sf : Nat → Int32}
variable {g1 g2 g3 g4 g5 : Int32} {tf tn fr nx fa pa : Nat → Int32}
theorem cx_excess {post : Int32 → Prop} {k w : Nat} (hk : k < 8) (hw : w < 121) (h : post (sf w &&& (nf (k * 121 + w) ^^^ (-1)))) : wpX_excessFailures post (f1, f2, f3, f4, f5, stk, tm, co, le, nr, nf, pp, pr, sf) (nI k) (nI w) := by
  unfold wpX_excessFailures
  dsimp only
  rw [cx_121, nI_clamp (by omega), nI_clamp (by omega)]
  exact ⟨vp_in_nI hw (by decide), vp_in_nI (by omega) (by decide), h⟩
theorem cx_firstGap {post : Int32 → Prop} {k : Nat} {kd : Int32} (hk : k < 8) (hd : kd = 0 ∨ kd = 1) (h0 : cs_F0 (fun w => cs_G kd (sf w) (nf (k * 121 + w))) 121 → post (-4)) (h1 : ∀ w, cs_F1 (fun w => cs_G kd (sf w) (nf (k * 121 + w))) 121 w → post (nI w)) : wpX_firstGap post (f1, f2, f3, f4, f5, stk, tm, co, le, nr, nf, pp, pr, sf) (nI k) kd := by
  refine cs_search (W := fun n i => wX_firstGap_2 post (nI k) kd f1 f2 f3 f4 f5 stk tm co le nr nf pp pr sf n (nI i)) (P1 := fun w => post (nI w)) 121 0 (by omega) (fun d hd => absurd hd (by omega)) h0 h1 ?_ ?_
  · intro n hp
    exact pk_le 121 121 (fun _ => hp) (fun z => absurd z (by omega))
  · intro n w hw _ hg hn
    refine pk_le 121 w (fun z => absurd z (by omega)) (fun _ => ?_)
    rcases hd with rfl | rfl
    · rw [cx_121, nI_clamp (show w < 2 ^ 31 by omega), nI_clamp (show k * 121 + w < 2 ^ 31 by omega)]
      refine br_t rfl ⟨vp_in_nI hw (by decide), br_c (fun c => ?_) (fun c => ⟨vp_in_nI (by omega) (by decide), br_c (fun d => ?_) (fun d => ?_)⟩)⟩
      · exact br_t rfl (nm_r (nI_1 w) (hn (fun g => (cs_G_i0.1 g).1 c)))
      · exact br_f cx_n10 (hg (cs_G_i0.2 ⟨c, d⟩))
      · exact br_t rfl (nm_r (nI_1 w) (hn (fun g => d (cs_G_i0.1 g).2)))
    · refine br_f cx_n10 (cx_excess hk hw (br_c (fun c => ?_) (fun c => ?_)))
      · exact br_t rfl (nm_r (nI_1 w) (hn (fun g => cs_G_i1.1 g c)))
      · exact br_f cx_n10 (hg (cs_G_i1.2 c))
theorem cy_firstGap {post : Int32 → Prop} {k : Nat} {kd : Int32} (hk : k < 8) (hd : kd = 0 ∨ kd = 1) (h0 : cs_F0 (fun c => cs_G kd (pa c) (fa (k * 256 + c))) 256 → post (-4)) (h1 : ∀ c, cs_F1 (fun c => cs_G kd (pa c) (fa (k * 256 + c))) 256 c → post (nI c)) : wpY_firstGap post (g1, g2, g3, g4, g5, tf, tn, fr, nx, fa, pa) (nI k) kd := by
  refine cs_search (W := fun n i => wY_firstGap_2 post (nI k) kd g1 g2 g3 g4 g5 tf tn fr nx fa pa n (nI i)) (P1 := fun w => post (nI w)) 256 0 (by omega) (fun d hd => absurd hd (by omega)) h0 h1 ?_ ?_
  · intro n hp
    exact pk_le 256 256 (fun _ => hp) (fun z => absurd z (by omega))
  · intro n w hw _ hg hn
    refine pk_le 256 w (fun z => absurd z (by omega)) (fun _ => ?_)
    rw [cy_256]
    refine ⟨vp_in_nI hw (by decide), nm_r (congrArg pa (nI_clamp (by omega))) ⟨vp_in_nI (by omega) (by decide), nm_r (congrArg fa (nI_clamp (by omega))) ?_⟩⟩
    rcases hd with rfl | rfl
    · refine br_t rfl (br_c (fun c => ?_) (fun c => br_c (fun d => ?_) (fun d => ?_)))
      · exact br_f cy_n01 (nm_r (nI_1 w) (hn (fun g => (cs_G_i0.1 g).1 c)))
      · exact hg (cs_G_i0.2 ⟨c, d⟩)
      · exact br_f cy_n01 (nm_r (nI_1 w) (hn (fun g => d (cs_G_i0.1 g).2)))
    · refine br_f cx_n10 (br_t rfl (br_c (fun c => ?_) (fun c => ?_)))
      · exact nm_r (nI_1 w) (hn (fun g => cs_G_i1.1 g c))
      · exact hg (cs_G_i1.2 c)
theorem cs_G_XY {t : Nat → Int32} {A i j : Nat} (hF : cs_XF t nf) (hS : cs_XS t A i j sf) (hF' : cs_YFs t fa) (hP : cs_YSs t A i j pa) {k : Nat} (hk : k < 8) (kd : Int32) : (∀ w, w < 121 → (cs_G kd (sf w) (nf (k * 121 + w)) ↔ cs_G kd (pa (cs_C w)) (fa (k * 256 + cs_C w)))) ∧ (∀ c, c < 256 → cs_G kd (pa c) (fa (k * 256 + c)) → cs_ok 4 c = true) := by
  constructor
  · intro w hw
    rw [cs_eqSw hS hP hw, cs_eqFw hF hF' hw hk]
  · intro c hc g
    refine ts_nf (fun ho => ?_)
    rw [(hP c hc).2 ho] at g
    exact cs_G_0 g
theorem cx_gr35 {post : Int32 → Prop} {x : Int32} {R : Nat} (hR : cs_F1 (fun R => bt x R = true) 8 R) (h : post (nI R)) : ∃ n, wX_gapRefusal_35 post x f1 f2 f3 f4 f5 stk tm co le nr nf pp pr sf n 0 := by
  have hR8 := hR.1
  refine pk_loop (fun n i (_ : Unit) => wX_gapRefusal_35 post x f1 f2 f3 f4 f5 stk tm co le nr nf pp pr sf n (nI i)) (fun _ _ => True) R 0 () (by omega) trivial ?_ ?_
  · intro n _ _
    refine pk_le 8 R (fun z => absurd z (by omega)) (fun _ => cx_hasBit (by omega) (fun hb => ?_) (fun hb => br_f cx_n10 h))
    rw [show bt x R = true from hR.2.1] at hb
    exact nomatch hb
  · intro n i _ hi _ ih
    refine pk_le 8 i (fun z => absurd z (by omega)) (fun _ => cx_hasBit (by omega) (fun hb => br_t rfl (nm_r (nI_1 i) (ih () trivial))) (fun hb => ?_))
    exact absurd hb (hR.2.2 i hi)
theorem cy_gr32 {post : Int32 → SY → Prop} {k c R : Nat} (hk : k < 8) (hc : c < 256) (hR : cs_F1 (fun R => bt (pa c &&& (fa (k * 256 + c) ^^^ (-1))) R = true) 8 R) (h : post (nI R) (g1, g2, g3, g4, g5, tf, tn, fr, nx, fa, pa)) : ∃ n, wY_gapRefusal_32 post (nI k) (nI c) g1 g2 g3 g4 g5 tf tn fr nx fa pa n 0 := by
  have hR8 := hR.1
  refine pk_loop (fun n i (_ : Unit) => wY_gapRefusal_32 post (nI k) (nI c) g1 g2 g3 g4 g5 tf tn fr nx fa pa n (nI i)) (fun _ _ => True) R 0 () (by omega) trivial ?_ ?_
  · intro n _ _
    refine pk_le 7 R (fun _ => h) (fun _ => ?_)
    rw [cy_256, nI_clamp (show c < 2 ^ 31 by omega), nI_clamp (show k * 256 + c < 2 ^ 31 by omega)]
    refine ⟨vp_in_nI hc (by decide), vp_in_nI (by omega) (by decide), br_f (fun g => ?_) h⟩
    rw [cs_hs0 _ (by omega), show bt (pa c &&& (fa (k * 256 + c) ^^^ (-1))) R = true from hR.2.1] at g
    exact nomatch g
  · intro n i _ hi _ ih
    refine pk_le 7 i (fun z => absurd z (by omega)) (fun _ => ?_)
    rw [cy_256, nI_clamp (show c < 2 ^ 31 by omega), nI_clamp (show k * 256 + c < 2 ^ 31 by omega)]
    refine ⟨vp_in_nI hc (by decide), vp_in_nI (by omega) (by decide), br_t ?_ (nm_r (nI_1 i) (ih () trivial))⟩
    rw [cs_hs0 _ (by omega)]
    exact ts_nt (hR.2.2 i hi)
theorem cs_Ps_8 {t : Nat → Int32} {A i j : Nat} {u : List Nat} {x : Int32} (h : cs_Ps t A i j u x) {R : Nat} (hR : bt x R = true) : R < 8 := by
  obtain ⟨p, q, _, _, _, m, n, hm, hn, _, _, _, e⟩ := (h R).1 hR
  rw [e]
  exact cs_or8 hm hn
noncomputable def cs_q (P : Prop) : Bool := @decide P (Classical.propDecidable P)
theorem cs_q_t {P : Prop} (h : P) : cs_q P = true := @decide_eq_true P (Classical.propDecidable P) h
theorem cs_q_f {P : Prop} (h : ¬ P) : cs_q P = false := @decide_eq_false P (Classical.propDecidable P) h
theorem cs_q_c {P Q : Prop} (h : P ↔ Q) : cs_q P = cs_q Q := by rw [propext h]
theorem cx_rf13 {post : Int32 → Prop} {kd : Int32} (hd : kd = 0 ∨ kd = 1) (h : post (nI (cs_cn (fun k => cs_q (cs_F0 (fun w => cs_G kd (sf w) (nf (k * 121 + w))) 121)) 8))) : ∃ n, wX_refined_13 post kd f1 f2 f3 f4 f5 stk tm co le nr nf pp pr sf n 0 0 := by
  refine pk_loop (fun n i s => wX_refined_13 post kd f1 f2 f3 f4 f5 stk tm co le nr nf pp pr sf n s (nI i)) (fun i s => s = nI (cs_cn (fun k => cs_q (cs_F0 (fun w => cs_G kd (sf w) (nf (k * 121 + w))) 121)) i)) 8 0 0 (by omega) rfl ?_ ?_
  · intro n s e
    refine pk_le 8 8 (fun _ => ?_) (fun z => absurd z (by omega))
    rw [show s = _ from e]
    exact h
  · intro n k s hk e ih
    refine pk_le 8 k (fun z => absurd z (by omega)) (fun _ => cx_firstGap hk hd (fun g => br_t rfl ?_) (fun w g => br_f (cs_m4 (by have := g.1; omega)) ?_))
    · refine nm_r (e' := nI (cs_cn (fun k => cs_q (cs_F0 (fun w => cs_G kd (sf w) (nf (k * 121 + w))) 121)) (k + 1))) ?_ (nm_r (nI_1 k) (ih _ rfl))
      rw [show s = _ from e, nI_1]
      refine congrArg nI ?_
      show _ = cs_cn _ k + cond (cs_q _) 1 0
      rw [cs_q_t g]
      rfl
    · refine nm_r (nI_1 k) (ih _ (Eq.trans e (congrArg nI ?_)))
      show _ = cs_cn _ k + cond (cs_q _) 1 0
      rw [cs_q_f (fun h0 => h0 w g.1 g.2.1)]
      rfl
theorem cy_rf19 {post : Int32 → SY → Prop} {kd : Int32} (hd : kd = 0 ∨ kd = 1) (h : post (nI (cs_cn (fun k => cs_q (cs_F0 (fun c => cs_G kd (pa c) (fa (k * 256 + c))) 256)) 8)) (g1, g2, g3, g4, g5, tf, tn, fr, nx, fa, pa)) : ∃ n, wY_refined_19 post kd g1 g2 g3 g4 g5 tf tn fr nx fa pa n 0 0 := by
  refine pk_loop (fun n i s => wY_refined_19 post kd g1 g2 g3 g4 g5 tf tn fr nx fa pa n s (nI i)) (fun i s => s = nI (cs_cn (fun k => cs_q (cs_F0 (fun c => cs_G kd (pa c) (fa (k * 256 + c))) 256)) i)) 8 0 0 (by omega) rfl ?_ ?_
  · intro n s e
    refine pk_le 8 8 (fun _ => ?_) (fun z => absurd z (by omega))
    rw [show s = _ from e]
    exact h
  · intro n k s hk e ih
    refine pk_le 8 k (fun z => absurd z (by omega)) (fun _ => cy_firstGap hk hd (fun g => br_t rfl ?_) (fun w g => br_f (cs_m4 (by have := g.1; omega)) ?_))
    · refine nm_r (e' := nI (cs_cn (fun k => cs_q (cs_F0 (fun c => cs_G kd (pa c) (fa (k * 256 + c))) 256)) (k + 1))) ?_ (nm_r (nI_1 k) (ih _ rfl))
      rw [show s = _ from e, nI_1]
      refine congrArg nI ?_
      show _ = cs_cn _ k + cond (cs_q _) 1 0
      rw [cs_q_t g]
      rfl
    · refine nm_r (nI_1 k) (ih _ (Eq.trans e (congrArg nI ?_)))
      show _ = cs_cn _ k + cond (cs_q _) 1 0
      rw [cs_q_f (fun h0 => h0 w g.1 g.2.1)]
      rfl
theorem cx_dl2 {post : Int32 → Prop} (h0 : cs_F0 (fun w => bt (sf w) 7 = true) 121 → post (-4)) (h1 : ∀ w, cs_F1 (fun w => bt (sf w) 7 = true) 121 w → post (co w)) : ∃ n, wX_deadlock_2 post f1 f2 f3 f4 f5 stk tm co le nr nf pp pr sf n 0 := by
  refine cs_search (W := fun n i => wX_deadlock_2 post f1 f2 f3 f4 f5 stk tm co le nr nf pp pr sf n (nI i)) (P1 := fun w => post (co w)) 121 0 (by omega) (fun d hd => absurd hd (by omega)) h0 h1 ?_ ?_
  · intro n hp
    exact pk_le 121 121 (fun _ => hp) (fun z => absurd z (by omega))
  · intro n w hw _ hg hn
    refine pk_le 121 w (fun z => absurd z (by omega)) (fun _ => ?_)
    rw [nI_clamp (by omega)]
    refine ⟨vp_in_nI hw (by decide), cx_hasBit (n := 7) (by decide) (fun hb => br_t rfl (nm_r (nI_1 w) (hn (fun g => ?_)))) (fun hb => br_f cx_n10 ⟨vp_in_nI hw (by decide), hg hb⟩)⟩
    rw [hb] at g
    exact nomatch g
theorem cy_dl6 {post : Int32 → SY → Prop} (h0 : cs_F0 (fun c => bt (pa c) 7 = true) 256 → post (-4) (g1, g2, g3, g4, g5, tf, tn, fr, nx, fa, pa)) (h1 : ∀ c, cs_F1 (fun c => bt (pa c) 7 = true) 256 c → post (nI c) (g1, g2, g3, g4, g5, tf, tn, fr, nx, fa, pa)) : ∃ n, wY_deadlock_6 post g1 g2 g3 g4 g5 tf tn fr nx fa pa n 0 := by
  refine cs_search (W := fun n i => wY_deadlock_6 post g1 g2 g3 g4 g5 tf tn fr nx fa pa n (nI i)) (P1 := fun c => post (nI c) (g1, g2, g3, g4, g5, tf, tn, fr, nx, fa, pa)) 256 0 (by omega) (fun d hd => absurd hd (by omega)) h0 h1 ?_ ?_
  · intro n hp
    exact pk_le 256 256 (fun _ => hp) (fun z => absurd z (by omega))
  · intro n w hw _ hg hn
    refine pk_le 256 w (fun z => absurd z (by omega)) (fun _ => ?_)
    rw [nI_clamp (by omega)]
    exact ⟨vp_in_nI hw (by decide), br_c (fun c => hg ((cs_hs (n := 7) _ (by decide)).1 c)) (fun c => nm_r (nI_1 w) (hn (fun g => c ((cs_hs (n := 7) _ (by decide)).2 g))))⟩
/-! unsure -/
theorem cs_C_tab : ∀ w, w < 121 → w ≠ 0 → cs_C w / 4 = cs_C ((w - 1) / 3) ∧ cs_C w % 4 = (w - 1) % 3 + 1 ∧ cs_C w ≠ 0 := by decide +kernel
theorem cs_ok_m4 : ∀ c, c < 256 → c ≠ 0 → c % 4 = 0 → cs_ok 4 c = false := by decide +kernel
theorem cx_u3 {w : Nat} (h0 : 1 ≤ w) (hw : w < 121) : (nI w - 1) / 3 = nI ((w - 1) / 3) ∧ (nI w - 1) - (nI w - 1) / 3 * 3 = nI ((w - 1) % 3) := by
  rw [cy_s1 h0, show (3 : Int32) = nI 3 from rfl]
  exact ⟨pk_div (by omega) (by decide) (by decide), pk_rem (by omega) (by decide) (by decide)⟩
theorem cs_2p {a : Nat} (ha : a < 3) : (1 : Int32) <<< (nI a &&& 31) = nI (2 ^ a) := cy_one2 a (by omega)
theorem cs_2p8 {a : Nat} (ha : a < 3) : 2 ^ a < 8 := by
  have : a = 0 ∨ a = 1 ∨ a = 2 := by omega
  rcases this with e | e | e <;> subst e <;> decide
def cs_UX (sf : Nat → Int32) (w : Nat) : Prop := w ≠ 0 ∧ ¬ sf w = 0 ∧ bt (sf ((w - 1) / 3)) (2 ^ ((w - 1) % 3)) = true
def cs_UY (pa : Nat → Int32) (c : Nat) : Prop := c ≠ 0 ∧ ¬ pa c = 0 ∧ c % 4 ≠ 0 ∧ bt (pa (c / 4)) (2 ^ (c % 4 - 1)) = true
theorem cx_un2 {post : Int32 → Prop} (h0 : cs_F0 (cs_UX sf) 121 → post (-4)) (h1 : ∀ w, cs_F1 (cs_UX sf) 121 w → post (co w)) : ∃ n, wX_unsure_2 post f1 f2 f3 f4 f5 stk tm co le nr nf pp pr sf n 1 := by
  refine cs_search (W := fun n i => wX_unsure_2 post f1 f2 f3 f4 f5 stk tm co le nr nf pp pr sf n (nI i)) (P1 := fun w => post (co w)) 121 1 (by omega) (fun d hd g => g.1 (by omega)) h0 h1 ?_ ?_
  · intro n hp
    exact pk_le 121 121 (fun _ => hp) (fun z => absurd z (by omega))
  · intro n w hw h1w hg hn
    have hm : (w - 1) % 3 < 3 := Nat.mod_lt _ (by decide)
    have h8 := cs_2p8 hm
    refine pk_le 121 w (fun z => absurd z (by omega)) (fun _ => ⟨by decide, by decide, ?_⟩)
    rw [(cx_u3 h1w hw).2, (cx_u3 h1w hw).1, nI_clamp (show w < 2 ^ 31 by omega), nI_clamp (show (w - 1) / 3 < 2 ^ 31 by omega)]
    refine nm_r (cs_2p hm) ⟨vp_in_nI hw (by decide), br_c (fun c => nm_r (nI_1 w) (hn (fun g => g.2.1 c))) (fun c => ⟨vp_in_nI (by omega) (by decide), cx_hasBit (by omega) (fun hb => br_t rfl (nm_r (nI_1 w) (hn (fun g => ?_)))) (fun hb => br_f cx_n10 ⟨vp_in_nI hw (by decide), hg ⟨by omega, c, hb⟩⟩)⟩)⟩
    have := g.2.2
    rw [hb] at this
    exact nomatch this
theorem cy_un6 {post : Int32 → SY → Prop} (h0 : cs_F0 (cs_UY pa) 256 → post (-4) (g1, g2, g3, g4, g5, tf, tn, fr, nx, fa, pa)) (h1 : ∀ c, cs_F1 (cs_UY pa) 256 c → post (nI c) (g1, g2, g3, g4, g5, tf, tn, fr, nx, fa, pa)) : ∃ n, wY_unsure_6 post g1 g2 g3 g4 g5 tf tn fr nx fa pa n 1 := by
  refine cs_search (W := fun n i => wY_unsure_6 post g1 g2 g3 g4 g5 tf tn fr nx fa pa n (nI i)) (P1 := fun c => post (nI c) (g1, g2, g3, g4, g5, tf, tn, fr, nx, fa, pa)) 256 1 (by omega) (fun d hd g => g.1 (by omega)) h0 h1 ?_ ?_
  · intro n hp
    exact pk_le 256 256 (fun _ => hp) (fun z => absurd z (by omega))
  · intro n c hc h1c hg hn
    refine pk_le 256 c (fun z => absurd z (by omega)) (fun _ => ?_)
    rw [pk_andN (by omega) 2 (by decide), pk_shrN (by omega) _ 2 (by decide), nI_clamp (show c < 2 ^ 31 by omega), nI_clamp (show c / 2 ^ 2 < 2 ^ 31 by omega)]
    show ∀ x, x = nI (c % 4) - 1 → _
    by_cases z : c % 4 = 0
    · rw [z]
      exact nm_e (br_t (by decide) (nm_r (nI_1 c) (hn (fun g => g.2.2.1 z))))
    · have hm : c % 4 - 1 < 3 := by omega
      have h8 := cs_2p8 hm
      refine nm_r (cy_s1 (by omega)) (br_f (nI_pos (by omega)) ⟨vp_in_nI hc (by decide), br_c (fun d => nm_r (nI_1 c) (hn (fun g => g.2.1 d))) (fun d => ⟨vp_in_nI (by omega) (by decide), ?_⟩)⟩)
      rw [cs_2p hm]
      refine br_c (fun e => hg ⟨by omega, d, z, (cs_hs _ (by omega)).1 e⟩) (fun e => nm_r (nI_1 c) (hn (fun g => e ((cs_hs _ (by omega)).2 g.2.2.2))))
end CSG
theorem i_vc_gap {k : Nat} {u : SX} {v : SY} (I : i_Rel k u v) (hk : k + 4 ≤ 2048) (v1 : Int32) (v2 : Int32) : wpX_gap (fun r => wpY_gap (fun r' v' => r' = r ∧ i_Rel (k + 4) u v') v v1 v2) u v1 v2 := by
  have I0 := I
  obtain ⟨D, i, j, A, l, stk, tm, co, le, nr, nf, pp, pr, sf, tf, tn, fr, nx, fa, pa, rfl, rfl, hD, hi, hj, hA, hl, hs, hT, hC, hF, hS⟩ := I
  unfold wpX_gap
  rcases cs_rng v1 8 (by decide) with h | ⟨h, h8⟩ | ⟨b, hb, rfl⟩
  · exact cx_isN0 h (br_t rfl (br_t h ⟨rfl, I0⟩))
  · exact cx_isN1 h h8 (br_t rfl (br_f h (br_t (cs_up h8 (by decide)) ⟨rfl, I0⟩)))
  · have hb0 : ¬ nI b < 0 := nI_pos (by omega)
    have hb7 : ¬ (7 : Int32) < nI b := nI_nlt (a := 7) (by omega) (by omega)
    refine cx_isN2 hb (br_f cx_n10 ?_)
    rcases cs_kind v2 with hv | hv
    · refine cx_isK0 hv (br_t rfl (br_f hb0 (br_f hb7 ?_)))
      rcases hv with h | ⟨h, h2⟩
      · exact br_t h ⟨rfl, I0⟩
      · exact br_f h (br_f (cs_nle h2 (by decide)) ⟨rfl, I0⟩)
    · refine cx_isK1 hv (br_f cx_n10 (cx_firstGap hb hv (fun g => br_t rfl ?_) (fun w g => br_f (cs_m4 (by have := g.1; omega)) ?_)))
      · refine br_f hb0 (br_f hb7 (br_f (cs_k0 hv) (br_t (cs_k1 hv) (cy_list hA hi hj hT (fun F P hF' hP => ?_)))))
        have hG := cs_G_XY hF hS hF' hP hb v2
        have g' := cs_XY0 hG.1 hG.2 g
        exact cy_firstGap hb hv (fun _ => ⟨rfl, cs_mkR ⟨hD, hi, hj, hA, hl, hs, hT, hC, hF, hS⟩⟩) (fun c gc => absurd gc.2.1 (g' c gc.1))
      · have hw := g.1
        rw [nI_clamp (by omega)]
        refine ⟨vp_in_nI hw (by decide), br_f hb0 (br_f hb7 (br_f (cs_k0 hv) (br_t (cs_k1 hv) (cy_list hA hi hj hT (fun F P hF' hP => ?_)))))⟩
        have hG := cs_G_XY hF hS hF' hP hb v2
        have g' := cs_XY1 hG.1 hG.2 g
        refine cy_firstGap hb hv (fun g0 => absurd g'.2.1 (g0 _ g'.1)) (fun c gc => ⟨?_, cs_mkR ⟨hD, hi, hj, hA, hl, hs, hT, hC, hF, hS⟩⟩)
        rw [cs_F1_u gc g', (cs_eqCw hC hw).1]
theorem i_vc_gapRefusal {k : Nat} {u : SX} {v : SY} (I : i_Rel k u v) (hk : k + 4 ≤ 2048) (v1 : Int32) : wpX_gapRefusal (fun r => wpY_gapRefusal (fun r' v' => r' = r ∧ i_Rel (k + 4) u v') v v1) u v1 := by
  have I0 := I
  obtain ⟨D, i, j, A, l, stk, tm, co, le, nr, nf, pp, pr, sf, tf, tn, fr, nx, fa, pa, rfl, rfl, hD, hi, hj, hA, hl, hs, hT, hC, hF, hS⟩ := I
  unfold wpX_gapRefusal
  rcases cs_rng v1 8 (by decide) with h | ⟨h, h8⟩ | ⟨b, hb, rfl⟩
  · exact cx_isN0 h (br_t rfl (br_t h ⟨rfl, I0⟩))
  · exact cx_isN1 h h8 (br_t rfl (br_f h (br_f (cs_nle h8 (by decide)) ⟨rfl, I0⟩)))
  · have hb0 : ¬ nI b < 0 := nI_pos (by omega)
    have hb7 : nI b ≤ (7 : Int32) := nI_le (b := 7) (by omega) (by decide)
    refine cx_isN2 hb (br_f cx_n10 (cx_firstGap hb (Or.inr rfl) (fun g => br_t rfl ?_) (fun w g => br_f (cs_m4 (by have := g.1; omega)) ?_)))
    · refine br_f hb0 (br_t hb7 (cy_list hA hi hj hT (fun F P hF' hP => ?_)))
      have hG := cs_G_XY hF hS hF' hP hb 1
      have g' := cs_XY0 hG.1 hG.2 g
      exact cy_firstGap hb (Or.inr rfl) (fun _ => br_f (by decide) ⟨rfl, cs_mkR ⟨hD, hi, hj, hA, hl, hs, hT, hC, hF, hS⟩⟩) (fun c gc => absurd gc.2.1 (g' c gc.1))
    · have hw := g.1
      have hx := cs_G_i1.1 g.2.1
      have h8 : ∀ R, bt (sf w &&& (nf (b * 121 + w) ^^^ (-1))) R = true → R < 8 := by
        intro R hR
        rw [b_and, Bool.and_eq_true] at hR
        have hP := hS _ (cs_wdW hw)
        rw [(cs_wd_tab w hw).2.2] at hP
        exact cs_Ps_8 hP hR.1
      refine cx_excess hb hw ?_
      rcases cs_F (fun R => bt (sf w &&& (nf (b * 121 + w) ^^^ (-1))) R = true) 8 with ⟨R, hR⟩ | h0
      · refine cx_gr35 hR (br_f hb0 (br_t hb7 (cy_list hA hi hj hT (fun F P hF' hP => ?_))))
        have hG := cs_G_XY hF hS hF' hP hb 1
        have g' := cs_XY1 hG.1 hG.2 g
        refine cy_firstGap hb (Or.inr rfl) (fun g0 => absurd g'.2.1 (g0 _ g'.1)) (fun c gc => ?_)
        have ec := cs_F1_u gc g'
        subst ec
        refine br_t (nI_pos' (by have := g'.1; omega)) (cy_gr32 hb g'.1 ?_ ⟨rfl, cs_mkR ⟨hD, hi, hj, hA, hl, hs, hT, hC, hF, hS⟩⟩)
        rw [cs_eqSw hS hP hw, cs_eqFw hF hF' hw hb]
        exact hR
      · exact absurd (cs_zero (fun R hR => h0 R (h8 R hR) hR)) hx
theorem i_vc_refined {k : Nat} {u : SX} {v : SY} (I : i_Rel k u v) (hk : k + 4 ≤ 2048) (v1 : Int32) : wpX_refined (fun r => wpY_refined (fun r' v' => r' = r ∧ i_Rel (k + 4) u v') v v1) u v1 := by
  have I0 := I
  obtain ⟨D, i, j, A, l, stk, tm, co, le, nr, nf, pp, pr, sf, tf, tn, fr, nx, fa, pa, rfl, rfl, hD, hi, hj, hA, hl, hs, hT, hC, hF, hS⟩ := I
  unfold wpX_refined
  rcases cs_kind v1 with hv | hv
  · refine cx_isK0 hv (br_t rfl ?_)
    rcases hv with h | ⟨h, h2⟩
    · exact br_t h ⟨rfl, I0⟩
    · exact br_f h (br_f (cs_nle h2 (by decide)) ⟨rfl, I0⟩)
  · refine cx_isK1 hv (br_f cx_n10 (cx_rf13 hv (br_f (cs_k0 hv) (br_t (cs_k1 hv) (cy_list hA hi hj hT (fun F P hF' hP => cy_rf19 hv ⟨congrArg nI ?_, cs_mkR ⟨hD, hi, hj, hA, hl, hs, hT, hC, hF, hS⟩⟩))))))
    refine cs_cn_c 8 (fun b hb => ?_)
    have hG := cs_G_XY hF hS hF' hP hb v1
    exact cs_q_c ⟨cs_YX0 hG.1, cs_XY0 hG.1 hG.2⟩
theorem i_vc_deadlock {k : Nat} {u : SX} {v : SY} (I : i_Rel k u v) (hk : k + 4 ≤ 2048) : wpX_deadlock (fun r => wpY_deadlock (fun r' v' => r' = r ∧ i_Rel (k + 4) u v') v) u := by
  have I0 := I
  obtain ⟨D, i, j, A, l, stk, tm, co, le, nr, nf, pp, pr, sf, tf, tn, fr, nx, fa, pa, rfl, rfl, hD, hi, hj, hA, hl, hs, hT, hC, hF, hS⟩ := I
  have hG : ∀ P, cs_YSs tm A i j P → (∀ w, w < 121 → (bt (sf w) 7 = true ↔ bt (P (cs_C w)) 7 = true)) ∧ (∀ c, c < 256 → bt (P c) 7 = true → cs_ok 4 c = true) := by
    intro P hP
    refine ⟨fun w hw => by rw [cs_eqSw hS hP hw], fun c hc g => ts_nf (fun ho => ?_)⟩
    rw [(hP c hc).2 ho, b_0] at g
    exact nomatch g
  unfold wpX_deadlock
  refine cx_dl2 (fun g => ?_) (fun w g => ?_)
  · unfold wpY_deadlock
    refine cy_list hA hi hj hT (fun F P hF' hP => ?_)
    have g' := cs_XY0 (hG P hP).1 (hG P hP).2 g
    exact cy_dl6 (fun _ => ⟨rfl, cs_mkR ⟨hD, hi, hj, hA, hl, hs, hT, hC, hF, hS⟩⟩) (fun c gc => absurd gc.2.1 (g' c gc.1))
  · unfold wpY_deadlock
    refine cy_list hA hi hj hT (fun F P hF' hP => ?_)
    have g' := cs_XY1 (hG P hP).1 (hG P hP).2 g
    refine cy_dl6 (fun g0 => absurd g'.2.1 (g0 _ g'.1)) (fun c gc => ⟨?_, cs_mkR ⟨hD, hi, hj, hA, hl, hs, hT, hC, hF, hS⟩⟩)
    rw [cs_F1_u gc g', (cs_eqCw hC g.1).1]
theorem i_vc_unsure {k : Nat} {u : SX} {v : SY} (I : i_Rel k u v) (hk : k + 4 ≤ 2048) : wpX_unsure (fun r => wpY_unsure (fun r' v' => r' = r ∧ i_Rel (k + 4) u v') v) u := by
  have I0 := I
  obtain ⟨D, i, j, A, l, stk, tm, co, le, nr, nf, pp, pr, sf, tf, tn, fr, nx, fa, pa, rfl, rfl, hD, hi, hj, hA, hl, hs, hT, hC, hF, hS⟩ := I
  have hG : ∀ P, cs_YSs tm A i j P → (∀ w, w < 121 → (cs_UX sf w ↔ cs_UY P (cs_C w))) ∧ (∀ c, c < 256 → cs_UY P c → cs_ok 4 c = true) := by
    intro P hP
    refine ⟨fun w hw => ?_, fun c hc g => ts_nf (fun ho => g.2.1 ((hP c hc).2 ho))⟩
    unfold cs_UX cs_UY
    by_cases z : w = 0
    · subst z
      exact ⟨fun g => absurd rfl g.1, fun g => absurd rfl g.1⟩
    · obtain ⟨e1, e2, e3⟩ := cs_C_tab w hw z
      rw [e1, e2, cs_eqSw hS hP hw, cs_eqSw hS hP (show (w - 1) / 3 < 121 by omega), Nat.add_sub_cancel]
      exact ⟨fun g => ⟨e3, g.2.1, by omega, g.2.2⟩, fun g => ⟨z, g.2.1, g.2.2.2⟩⟩
  unfold wpX_unsure
  refine cx_un2 (fun g => ?_) (fun w g => ?_)
  · unfold wpY_unsure
    refine cy_list hA hi hj hT (fun F P hF' hP => ?_)
    have g' := cs_XY0 (hG P hP).1 (hG P hP).2 g
    exact cy_un6 (fun _ => ⟨rfl, cs_mkR ⟨hD, hi, hj, hA, hl, hs, hT, hC, hF, hS⟩⟩) (fun c gc => absurd gc.2.1 (g' c gc.1))
  · unfold wpY_unsure
    refine cy_list hA hi hj hT (fun F P hF' hP => ?_)
    have g' := cs_XY1 (hG P hP).1 (hG P hP).2 g
    refine cy_un6 (fun g0 => absurd g'.2.1 (g0 _ g'.1)) (fun c gc => ⟨?_, cs_mkR ⟨hD, hi, hj, hA, hl, hs, hT, hC, hF, hS⟩⟩)
    rw [cs_F1_u gc g', (cs_eqCw hC g.1).1]
