/-! ===== pre, ext, hid, depth, define, system ===== -/
theorem cx_isE0 {post : Int32 → Prop} {v : Int32} (h : v < 0) (hp : post 0) : wpX_isEvent post v := br_t h hp
theorem cx_isE1 {post : Int32 → Prop} {v : Int32} (h : ¬ v < 0) (h3 : nI 3 ≤ v) (hp : post 0) : wpX_isEvent post v := br_f h (br_t h3 hp)
theorem cx_isE2 {post : Int32 → Prop} {a : Nat} (h : a < 3) (hp : post 1) : wpX_isEvent post (nI a) := br_f (nI_pos (by omega)) (br_f (nI_ge (b := 3) h (by decide)) hp)
theorem cx_isN0 {post : Int32 → Prop} {v : Int32} (h : v < 0) (hp : post 0) : wpX_isName post v := br_t h hp
theorem cx_isN1 {post : Int32 → Prop} {v : Int32} (h : ¬ v < 0) (h3 : nI 8 ≤ v) (hp : post 0) : wpX_isName post v := br_f h (br_t h3 hp)
theorem cx_isN2 {post : Int32 → Prop} {a : Nat} (h : a < 8) (hp : post 1) : wpX_isName post (nI a) := br_f (nI_pos (by omega)) (br_f (nI_ge (b := 8) h (by decide)) hp)
theorem cx_isS0 {post : Int32 → Prop} {v : Int32} (h : v < 0) (hp : post 0) : wpX_isSet post v := br_t h hp
theorem cx_isS1 {post : Int32 → Prop} {v : Int32} (h : ¬ v < 0) (h3 : nI 8 ≤ v) (hp : post 0) : wpX_isSet post v := br_f h (br_t h3 hp)
theorem cx_isS2 {post : Int32 → Prop} {a : Nat} (h : a < 8) (hp : post 1) : wpX_isSet post (nI a) := br_f (nI_pos (by omega)) (br_f (nI_ge (b := 8) h (by decide)) hp)
def cs_pre (a : Nat) (R : Nat) : Int32 := cs_sel (!(bt (nI R) a)) ((1 : Int32) <<< (nI R &&& 31))
theorem cs_pre_8 : ∀ a, a < 3 → cs_or (cs_pre a) 8 = cs_pf a := by decide +kernel
theorem cs_pre_a : ∀ a, a < 3 → ∀ i, i < 8 → cs_or (cs_pre a) i + ((1 : Int32) <<< (nI i &&& 31)) = cs_or (cs_pre a) i ||| ((1 : Int32) <<< (nI i &&& 31)) := by decide +kernel
theorem cx_8ak (a k : Nat) : ((8 : Int32) + 8 * nI a) + nI k = nI (8 + 8 * a + k) := by rw [cx_88, nI_add]
section CSW
variable {f1 f2 f3 f4 f5 : Int32} {stk tm co le nr nf : Nat → Int32} {pp : Nat → Int64} {pr sf : Nat → Int32}
variable {g1 g2 g3 g4 g5 : Int32} {tf tn fr nx fa pa : Nat → Int32}
theorem cx_pre21 {post : Int32 → SX → Prop} {a k : Nat} (ha : a < 3) (h : wpX_push post (f1, f2, f3, f4, f5, stk, tm, co, le, nr, nf, pp, pr, sf) (cs_pf a ||| ((1 : Int32) <<< (nI (8 + 8 * a + k) &&& 31)))) : ∃ n, wX_pre_21 post (nI a) (nI k) f1 f2 f3 f4 f5 stk tm co le nr nf pp pr sf n 0 0 := by
  refine pk_loop (fun n i s => wX_pre_21 post (nI a) (nI k) f1 f2 f3 f4 f5 stk tm co le nr nf pp pr sf n s (nI i)) (fun i s => s = cs_or (cs_pre a) i) 8 0 0 (by omega) rfl ?_ ?_
  · intro n s e
    refine pk_le 8 8 (fun _ => nm_r (e' := (1 : Int32) <<< (nI (8 + 8 * a + k) &&& 31)) (by rw [cx_8ak]) ?_) (fun z => absurd z (by omega))
    rw [show s = _ from e, cs_pre_8 a ha]
    exact h
  · intro n i s hi e ih
    refine pk_le 8 i (fun z => absurd z (by omega)) (fun _ => cx_hasBit (by omega) (fun hb => ?_) (fun hb => ?_))
    · refine br_t rfl (nm_e (nm_r (nI_1 i) (ih _ ?_)))
      rw [show s = _ from e]
      exact cs_or_t _ i (cs_sel_t _ (by rw [hb]; rfl))
    · refine br_f cx_n10 (nm_r (nI_1 i) (ih _ ?_))
      exact Eq.trans e (cs_or_f _ i (cs_sel_f _ (by rw [hb]; rfl)))
theorem cy_pre38 {post : Int32 → SY → Prop} {a k D : Nat} (ha : a < 3) (hD : D < 6) (h : post (nI (D + 1)) ((nI (D + 1)), g2, g3, g4, g5, (upd tf D (cs_pf a)), (upd (cy_p3 tn D) (D * 3 + a) ((1 : Int32) <<< (nI k &&& 31))), fr, nx, fa, pa)) : ∃ n, wY_pre_38 post (nI a) (nI k) (nI D) g2 g3 g4 g5 tf tn fr nx fa pa n 0 0 := by
  refine pk_loop (fun n i s => wY_pre_38 post (nI a) (nI k) (nI D) g2 g3 g4 g5 tf tn fr nx fa pa n s (nI i)) (fun i s => s = cs_or (cs_pre a) i) 8 0 0 (by omega) rfl ?_ ?_
  · intro n s e
    refine pk_le 8 8 (fun _ => cy_push hD ?_) (fun z => absurd z (by omega))
    dsimp only
    rw [nI_pred, cy_k3, nI_clamp (by omega), show s = _ from e, cs_pre_8 a ha]
    exact ⟨vp_in_nI (by omega) (by decide), nm_e h⟩
  · intro n i s hi e ih
    refine pk_le 8 i (fun z => absurd z (by omega)) (fun _ => br_c (fun c => ?_) (fun c => ?_))
    · have hb := (cs_hs0 _ (by omega)).1 c
      refine nm_e (nm_r (nI_1 i) (ih _ ?_))
      rw [show s = _ from e, cs_pre_a a ha i hi]
      exact cs_or_t _ i (cs_sel_t _ (by rw [hb]; rfl))
    · have hb := ts_nf (fun g => c ((cs_hs0 (nI i) (by omega)).2 g))
      refine nm_r (nI_1 i) (ih _ ?_)
      exact Eq.trans e (cs_or_f _ i (cs_sel_f _ (by rw [hb]; rfl)))
/-! two terms joined -/
theorem cx_replace {post : Int32 → SX → Prop} {E : Nat} {x : Int32} (hE : E + 2 ≤ 6) (h : post (nI (E + 1)) ((nI (E + 1)), f2, f3, f4, f5, (upd stk E x), tm, co, le, nr, nf, pp, pr, sf)) : wpX_replaceTopTwo post ((nI (E + 2)), f2, f3, f4, f5, stk, tm, co, le, nr, nf, pp, pr, sf) x := by
  unfold wpX_replaceTopTwo
  refine nm_r (nI_pred (E + 1)) ?_
  rw [nI_pred, nI_clamp (by omega)]
  exact ⟨vp_in_nI (by omega) (by decide), nm_e h⟩
theorem cx_m2 (E : Nat) : nI (E + 2) - 2 = nI E := pk_sub (a := E + 2) (b := 2) (by omega)
theorem cx_m1 (E : Nat) : nI (E + 2) - 1 = nI (E + 1) := nI_pred (E + 1)
theorem cy_join {post : Int32 → SY → Prop} {E : Nat} {x : Int32} (hE : E + 2 ≤ 6) (h : ∀ T, (∀ m, m < E * 3 → T m = tn m) → (∀ a, a < 3 → T (E * 3 + a) = tn (E * 3 + a) ||| tn ((E + 1) * 3 + a)) → post (nI (E + 1)) ((nI (E + 1)), g2, g3, g4, g5, (upd tf E x), T, fr, nx, fa, pa)) : wpY_join post ((nI (E + 2)), g2, g3, g4, g5, tf, tn, fr, nx, fa, pa) x := by
  unfold wpY_join
  dsimp only
  rw [cx_m2, nI_clamp (by omega)]
  refine ⟨vp_in_nI (by omega) (by decide), nm_e ?_⟩
  refine pk_loop (fun n i s => wY_join_14 post (nI (E + 2)) g2 g3 g4 g5 n (nI i) (upd tf E x) s fr nx fa pa) (fun a s => (∀ m, m < E * 3 ∨ E * 3 + a ≤ m → s m = tn m) ∧ ∀ b, b < a → s (E * 3 + b) = tn (E * 3 + b) ||| tn ((E + 1) * 3 + b)) 3 0 tn (by omega) ⟨fun m _ => rfl, fun b hb => absurd hb (by omega)⟩ ?_ ?_
  · intro n s e
    exact pk_le 3 3 (fun _ => nm_r (cx_m1 E) (h s (fun m hm => e.1 m (Or.inl hm)) e.2)) (fun z => absurd z (by omega))
  · intro n a s ha e ih
    refine pk_le 3 a (fun z => absurd z (by omega)) (fun _ => ?_)
    refine nm_r (e' := nI (E * 3 + a)) (by rw [cx_m2, cy_k3]) ?_
    rw [show nI (E * 3 + a) + 3 = nI ((E + 1) * 3 + a) from (nI_add _ 3).trans (congrArg nI (by omega))]
    refine ⟨vp_in_nI (by omega) (by decide), vp_in_nI (by omega) (by decide), vp_in_nI (by omega) (by decide), ?_⟩
    refine nm_r (e' := upd s (E * 3 + a) (tn (E * 3 + a) ||| tn ((E + 1) * 3 + a))) ?_ (nm_r (nI_1 a) (ih _ ⟨?_, ?_⟩))
    · rw [nI_clamp (by omega), nI_clamp (by omega), e.1 (E * 3 + a) (Or.inr (by omega)), e.1 ((E + 1) * 3 + a) (Or.inr (by omega))]
    · intro m hm
      rw [pk_un (by omega)]
      exact e.1 m (by omega)
    · intro b hb
      rcases Nat.lt_or_ge b a with z | z
      · rw [pk_un (by omega)]
        exact e.2 b z
      · have eb : b = a := by omega
        subst eb
        exact pk_us
theorem cs_stk2 {E : Nat} (h : ∀ s, s < E + 2 → cs_TR (stk s) (tf s) (fun a => tn (s * 3 + a))) {x f : Int32} {tn' : Nat → Int32} (ho : ∀ m, m < E * 3 → tn' m = tn m) (hn : cs_TR x f (fun a => tn' (E * 3 + a))) : ∀ s, s < E + 1 → cs_TR (upd stk E x s) (upd tf E f s) (fun a => tn' (s * 3 + a)) :=
  cs_stk (fun s hs => h s (by omega)) ho hn
/-! a name defined -/
theorem cy_def49 {post : Int32 → SY → Prop} {k E : Nat} (hk : k < 8) (hE : E < 6) (h : ∀ T, (∀ m, m < k * 3 ∨ k * 3 + 3 ≤ m → T m = nx m) → (∀ a, a < 3 → T (k * 3 + a) = tn (E * 3 + a)) → post (nI E) ((nI E), g2, g3, g4, 0, tf, tn, fr, T, fa, pa)) : ∃ n, wY_define_49 post (nI k) (nI E) g2 g3 g4 g5 n 0 tf tn fr nx fa pa := by
  refine pk_loop (fun n i s => wY_define_49 post (nI k) (nI E) g2 g3 g4 g5 n (nI i) tf tn fr s fa pa) (fun a s => (∀ m, m < k * 3 ∨ k * 3 + a ≤ m → s m = nx m) ∧ ∀ b, b < a → s (k * 3 + b) = tn (E * 3 + b)) 3 0 nx (by omega) ⟨fun m _ => rfl, fun b hb => absurd hb (by omega)⟩ ?_ ?_
  · intro n s e
    exact pk_le 3 3 (fun _ => h s e.1 e.2) (fun z => absurd z (by omega))
  · intro n a s ha e ih
    refine pk_le 3 a (fun z => absurd z (by omega)) (fun _ => ?_)
    rw [cy_k3, cy_k3, nI_clamp (by omega), nI_clamp (by omega)]
    refine ⟨vp_in_nI (by omega) (by decide), vp_in_nI (by omega) (by decide), nm_e (nm_r (nI_1 a) (ih _ ⟨?_, ?_⟩))⟩
    · intro m hm
      rw [pk_un (by omega)]
      exact e.1 m (by omega)
    · intro b hb
      rcases Nat.lt_or_ge b a with z | z
      · rw [pk_un (by omega)]
        exact e.2 b z
      · have eb : b = a := by omega
        subst eb
        exact pk_us
end CSW
theorem i_vc_pre {k : Nat} {u : SX} {v : SY} (I : i_Rel k u v) (hk : k + 4 ≤ 2048) (v1 : Int32) (v2 : Int32) : wpX_pre (fun r u' => wpY_pre (fun r' v' => r' = r ∧ i_Rel (k + 4) u' v') v v1 v2) u v1 v2 := by
  have I0 := I
  obtain ⟨D, i, j, A, l, stk, tm, co, le, nr, nf, pp, pr, sf, tf, tn, fr, nx, fa, pa, rfl, rfl, hD, hi, hj, hA, hl, hs, hT, hC, hF, hS⟩ := I
  unfold wpX_pre
  rcases cs_rng v1 3 (by decide) with h | ⟨h, h3⟩ | ⟨a, ha, rfl⟩
  · exact cx_isE0 h (br_t rfl (br_t h ⟨rfl, I0⟩))
  · exact cx_isE1 h h3 (br_t rfl (br_f h (br_t (cs_up h3 (by decide)) ⟨rfl, I0⟩)))
  · have ha0 : ¬ nI a < 0 := nI_pos (by omega)
    have ha2 : ¬ (2 : Int32) < nI a := nI_nlt (a := 2) (by omega) (by omega)
    refine cx_isE2 ha (br_f cx_n10 ?_)
    rcases cs_rng v2 8 (by decide) with h | ⟨h, h8⟩ | ⟨b, hb, rfl⟩
    · exact cx_isN0 h (br_t rfl (br_f ha0 (br_f ha2 (br_t h ⟨rfl, I0⟩))))
    · exact cx_isN1 h h8 (br_t rfl (br_f ha0 (br_f ha2 (br_f h (br_f (cs_nle h8 (by decide)) ⟨rfl, I0⟩)))))
    · have hb0 : ¬ nI b < 0 := nI_pos (by omega)
      have hb7 : nI b ≤ (7 : Int32) := nI_le (b := 7) (by omega) (by decide)
      refine cx_isN2 hb (br_f cx_n10 (cx_pre21 ha (cx_push hD (fun z => ?_) (fun z => ?_))))
      · refine br_f ha0 (br_f ha2 (br_f hb0 (br_t hb7 (pk_eq D 6 (fun y => absurd y (by omega)) (fun _ => cy_pre38 ha z ⟨rfl, cs_mkR ⟨by omega, hi, hj, hA, hl, ?_, hT, hC, hF, hS⟩⟩)))))
        refine cs_stk hs (fun m hm => ?_) (cs_TR_pre ha hb (fun e he => ?_))
        · rw [pk_un (by omega)]
          exact cy_p3_o hm
        · by_cases y : e = a
          · rw [if_pos y, y]
            exact pk_us
          · rw [if_neg y, pk_un (by omega)]
            exact cy_p3_n he
      · exact br_f ha0 (br_f ha2 (br_f hb0 (br_t hb7 (pk_eq D 6 (fun _ => ⟨rfl, I0⟩) (fun y => absurd z y)))))
theorem i_vc_ext {k : Nat} {u : SX} {v : SY} (I : i_Rel k u v) (hk : k + 4 ≤ 2048) : wpX_ext (fun r u' => wpY_ext (fun r' v' => r' = r ∧ i_Rel (k + 4) u' v') v) u := by
  have I0 := I
  obtain ⟨D, i, j, A, l, stk, tm, co, le, nr, nf, pp, pr, sf, tf, tn, fr, nx, fa, pa, rfl, rfl, hD, hi, hj, hA, hl, hs, hT, hC, hF, hS⟩ := I
  unfold wpX_ext
  refine pk_le 2 D (fun z => ?_) (fun z => pk_le 2 D (fun y => absurd y (by omega)) (fun _ => ⟨rfl, I0⟩))
  obtain ⟨E, rfl⟩ : ∃ E, D = E + 2 := ⟨D - 2, by omega⟩
  rw [cx_m1, cx_m2, nI_clamp (by omega), nI_clamp (by omega)]
  refine ⟨vp_in_nI (by omega) (by decide), nm_e ⟨vp_in_nI (by omega) (by decide), nm_e (nm_e (nm_e (cx_replace (by omega) ?_)))⟩⟩
  refine br_t (nI_le (a := 2) (by omega) (by omega)) ?_
  rw [cx_m1, cx_m2, nI_clamp (by omega), nI_clamp (by omega)]
  refine ⟨vp_in_nI (by omega) (by decide), vp_in_nI (by omega) (by decide), cy_join (by omega) (fun T ho hn => ⟨rfl, cs_mkR ⟨by omega, hi, hj, hA, hl, ?_, hT, hC, hF, hS⟩⟩)⟩
  exact cs_stk2 hs ho (cs_TR_c (cs_TR_ext (hs (E + 1) (by omega)) (hs E (by omega))) hn)
theorem i_vc_hid {k : Nat} {u : SX} {v : SY} (I : i_Rel k u v) (hk : k + 4 ≤ 2048) : wpX_hid (fun r u' => wpY_hid (fun r' v' => r' = r ∧ i_Rel (k + 4) u' v') v) u := by
  have I0 := I
  obtain ⟨D, i, j, A, l, stk, tm, co, le, nr, nf, pp, pr, sf, tf, tn, fr, nx, fa, pa, rfl, rfl, hD, hi, hj, hA, hl, hs, hT, hC, hF, hS⟩ := I
  unfold wpX_hid
  refine pk_le 2 D (fun z => ?_) (fun z => pk_le 2 D (fun y => absurd y (by omega)) (fun _ => ⟨rfl, I0⟩))
  obtain ⟨E, rfl⟩ : ∃ E, D = E + 2 := ⟨D - 2, by omega⟩
  rw [cx_m1, cx_m2, nI_clamp (by omega), nI_clamp (by omega)]
  refine ⟨vp_in_nI (by omega) (by decide), nm_e ⟨vp_in_nI (by omega) (by decide), nm_e (cx_replace (by omega) ?_)⟩⟩
  refine br_t (nI_le (a := 2) (by omega) (by omega)) ?_
  rw [cx_m1, cx_m2, nI_clamp (by omega), nI_clamp (by omega)]
  refine ⟨vp_in_nI (by omega) (by decide), vp_in_nI (by omega) (by decide), cy_join (by omega) (fun T ho hn => ⟨rfl, cs_mkR ⟨by omega, hi, hj, hA, hl, ?_, hT, hC, hF, hS⟩⟩)⟩
  exact cs_stk2 hs ho (cs_TR_c (cs_TR_hid (hs (E + 1) (by omega)) (hs E (by omega))) hn)
theorem i_vc_depth {k : Nat} {u : SX} {v : SY} (I : i_Rel k u v) (hk : k + 4 ≤ 2048) : wpX_depth (fun r => wpY_depth (fun r' => r' = r ∧ i_Rel (k + 4) u v) v) u := by
  have I0 := I
  obtain ⟨D, i, j, A, l, stk, tm, co, le, nr, nf, pp, pr, sf, tf, tn, fr, nx, fa, pa, rfl, rfl, hK⟩ := I
  exact ⟨rfl, I0⟩
theorem i_vc_define {k : Nat} {u : SX} {v : SY} (I : i_Rel k u v) (hk : k + 4 ≤ 2048) (v1 : Int32) : wpX_define (fun r u' => wpY_define (fun r' v' => r' = r ∧ i_Rel (k + 4) u' v') v v1) u v1 := by
  have I0 := I
  obtain ⟨D, i, j, A, l, stk, tm, co, le, nr, nf, pp, pr, sf, tf, tn, fr, nx, fa, pa, rfl, rfl, hD, hi, hj, hA, hl, hs, hT, hC, hF, hS⟩ := I
  unfold wpX_define
  rcases cs_rng v1 8 (by decide) with h | ⟨h, h8⟩ | ⟨b, hb, rfl⟩
  · exact cx_isN0 h (br_t rfl (br_t h ⟨rfl, I0⟩))
  · exact cx_isN1 h h8 (br_t rfl (br_f h (br_f (cs_nle h8 (by decide)) ⟨rfl, I0⟩)))
  · have hb0 : ¬ nI b < 0 := nI_pos (by omega)
    have hb7 : nI b ≤ (7 : Int32) := nI_le (b := 7) (by omega) (by decide)
    refine cx_isN2 hb (br_f cx_n10 (pk_le 1 D (fun z => ?_) (fun z => ?_)))
    · obtain ⟨E, rfl⟩ : ∃ E, D = E + 1 := ⟨D - 1, by omega⟩
      refine nm_r (nI_pred E) ⟨vp_in_nI (by omega) (by decide), vp_in_nI hb (by decide), nm_r (e' := upd tm b (stk E)) (by rw [nI_clamp (by omega), nI_clamp (by omega)]) ?_⟩
      refine cx_followNames (fun N T hT' => cx_followSystem hA hi hj (fun P Q S hS' => ?_))
      refine br_f hb0 (br_t hb7 (pk_eq (E + 1) 0 (fun y => absurd y (by omega)) (fun _ => nm_r (nI_pred E) ⟨vp_in_nI (by omega) (by decide), vp_in_nI hb (by decide), nm_r (e' := upd fr b (tf E)) (by rw [nI_clamp (by omega), nI_clamp (by omega)]) ?_⟩)))
      refine cy_def49 hb (by omega) (fun X ho hn => ⟨rfl, cs_mkR (l := []) ⟨by omega, hi, hj, hA, cs_Wd_0, fun s hs' => hs s (by omega), ?_, hC, hT', hS'⟩⟩)
      intro d hd
      by_cases y : d = b
      · subst y
        rw [pk_us, pk_us]
        exact cs_TR_c (hs E (by omega)) hn
      · rw [pk_un y, pk_un y]
        exact cs_TR_c (hT d hd) (fun a ha => ho _ (by omega))
    · exact br_f hb0 (br_t hb7 (pk_eq D 0 (fun _ => ⟨rfl, I0⟩) (fun y => absurd z (by omega))))
theorem i_vc_system {k : Nat} {u : SX} {v : SY} (I : i_Rel k u v) (hk : k + 4 ≤ 2048) (v1 : Int32) (v2 : Int32) (v3 : Int32) : wpX_system (fun r u' => wpY_system (fun r' v' => r' = r ∧ i_Rel (k + 4) u' v') v v1 v2 v3) u v1 v2 v3 := by
  have I0 := I
  obtain ⟨D, i, j, A, l, stk, tm, co, le, nr, nf, pp, pr, sf, tf, tn, fr, nx, fa, pa, rfl, rfl, hD, hi, hj, hA, hl, hs, hT, hC, hF, hS⟩ := I
  unfold wpX_system
  rcases cs_rng v1 8 (by decide) with h | ⟨h, h8⟩ | ⟨a, ha, rfl⟩
  · exact cx_isN0 h (br_t rfl (br_t h ⟨rfl, I0⟩))
  · exact cx_isN1 h h8 (br_t rfl (br_f h (br_t (cs_up h8 (by decide)) ⟨rfl, I0⟩)))
  · have ha0 : ¬ nI a < 0 := nI_pos (by omega)
    have ha7 : ¬ (7 : Int32) < nI a := nI_nlt (a := 7) (by omega) (by omega)
    refine cx_isN2 ha (br_f cx_n10 ?_)
    rcases cs_rng v2 8 (by decide) with h | ⟨h, h8⟩ | ⟨b, hb, rfl⟩
    · exact cx_isN0 h (br_t rfl (br_f ha0 (br_f ha7 (br_t h ⟨rfl, I0⟩))))
    · exact cx_isN1 h h8 (br_t rfl (br_f ha0 (br_f ha7 (br_f h (br_t (cs_up h8 (by decide)) ⟨rfl, I0⟩)))))
    · have hb0 : ¬ nI b < 0 := nI_pos (by omega)
      have hb7 : ¬ (7 : Int32) < nI b := nI_nlt (a := 7) (by omega) (by omega)
      refine cx_isN2 hb (br_f cx_n10 ?_)
      rcases cs_rng v3 8 (by decide) with h | ⟨h, h8⟩ | ⟨c, hc, rfl⟩
      · exact cx_isS0 h (br_t rfl (br_f ha0 (br_f ha7 (br_f hb0 (br_f hb7 (br_t h ⟨rfl, I0⟩))))))
      · exact cx_isS1 h h8 (br_t rfl (br_f ha0 (br_f ha7 (br_f hb0 (br_f hb7 (br_f h (br_f (cs_nle h8 (by decide)) ⟨rfl, I0⟩)))))))
      · have hc0 : ¬ nI c < 0 := nI_pos (by omega)
        have hc7 : nI c ≤ (7 : Int32) := nI_le (b := 7) (by omega) (by decide)
        refine cx_isS2 hc (br_f cx_n10 (cx_followSystem hc ha hb (fun P Q S hS' => ?_)))
        exact br_f ha0 (br_f ha7 (br_f hb0 (br_f hb7 (br_f hc0 (br_t hc7 ⟨rfl, cs_mkR (l := []) ⟨hD, ha, hb, hc, cs_Wd_0, hs, hT, hC, hF, hS'⟩⟩)))))
