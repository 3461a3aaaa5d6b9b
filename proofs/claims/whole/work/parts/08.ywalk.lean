/-! ===== Y's walks up to its list ===== -/
theorem cy_pow (m : Nat) : 2 ^ (2 * m) = 4 ^ m := by rw [Nat.pow_mul]
theorem cy_s1 {n : Nat} (h : 1 ≤ n) : nI n - 1 = nI (n - 1) := pk_sub (b := 1) h
theorem cy_ev {c p : Nat} (hc : c < 256) (hp : p < cs_le c) : (((nI c >>> ((2 * ((nI (cs_le c) - 1) - nI p)) &&& 31)) &&& 3) - 1) = nI (cs_dg c p) - 1 := by
  have h4 := cs_le_4 c
  rw [cy_s1 (by omega), pk_sub (by omega), show (2 : Int32) = nI 2 from rfl, pk_mul, pk_shrN (by omega) _ (2 * (cs_le c - 1 - p)) (s_l _ (by omega)), pk_andN (Nat.lt_of_le_of_lt (Nat.div_le_self _ _) (by omega)) 2 (by decide), cy_pow]
  rfl
theorem cy_rs_tab : ∀ c, c < 256 → cs_ok 4 c = true → c ≠ 0 → cs_dg c 0 * 4 ^ (cs_le c - 1) ≤ c := by decide +kernel
theorem cy_code (c a : Nat) : ((nI c * 4) + nI a) + 1 = nI (c * 4 + a + 1) := cx_code c a
theorem cy_k3 (k a : Nat) : nI k * 3 + nI a = nI (k * 3 + a) := by
  rw [show (3 : Int32) = nI 3 from rfl, pk_mul, nI_add]
theorem cy_256 (k c : Nat) : nI k * 256 + nI c = nI (k * 256 + c) := by
  rw [show (256 : Int32) = nI 256 from rfl, pk_mul, nI_add]
theorem cy_one2 : ∀ l, l < 5 → (1 : Int32) <<< (nI l &&& 31) = nI (2 ^ l) := by decide +kernel
theorem cy_btP : ∀ p, p < 16 → ∀ a, a < 8 → bt (nI p) a = p.testBit a := by decide +kernel
theorem cy_n01 : ¬ (0 : Int32) = 1 := by decide
section CYW
variable {g1 g2 g3 g4 g5 : Int32} {tf tn fr nx fa pa : Nat → Int32}
theorem cy_lengthOf {post : Int32 → Prop} {c : Nat} (hc : c < 256) (h : post (nI (cs_le c))) : wpY_lengthOf post (g1, g2, g3, g4, g5, tf, tn, fr, nx, fa, pa) (nI c) := by
  refine pk_eq c 0 (fun z => ?_) (fun z => pk_le 4 c (fun z4 => pk_le 16 c (fun z16 => pk_le 64 c (fun z64 => ?_) (fun z64 => ?_)) (fun z16 => ?_)) (fun z4 => ?_))
  · rw [show cs_le c = 0 from if_pos z] at h
    exact h
  · rw [show cs_le c = 4 from by unfold cs_le; rw [if_neg z, if_neg (by omega), if_neg (by omega), if_neg (by omega)]] at h
    exact h
  · rw [show cs_le c = 3 from by unfold cs_le; rw [if_neg z, if_neg (by omega), if_neg (by omega), if_pos (by omega)]] at h
    exact h
  · rw [show cs_le c = 2 from by unfold cs_le; rw [if_neg z, if_neg (by omega), if_pos (by omega)]] at h
    exact h
  · rw [show cs_le c = 1 from by unfold cs_le; rw [if_neg z, if_pos (by omega)]] at h
    exact h
theorem cy_eventAt {post : Int32 → Prop} {c p : Nat} (hc : c < 256) (hp : p < cs_le c) (h : post (nI (cs_dg c p) - 1)) : wpY_eventAt post (g1, g2, g3, g4, g5, tf, tn, fr, nx, fa, pa) (nI c) (nI p) := by
  unfold wpY_eventAt
  refine cy_lengthOf hc ?_
  rw [cy_ev hc hp]
  exact h
theorem cy_isWord {post : Int32 → Prop} {c : Nat} (hc : c < 256) (h1 : cs_ok 4 c = true → post 1) (h0 : cs_ok 4 c = false → post 0) : wpY_isWord post (g1, g2, g3, g4, g5, tf, tn, fr, nx, fa, pa) (nI c) := by
  unfold wpY_isWord
  refine cy_lengthOf hc ?_
  have h4 := cs_le_4 c
  refine pk_loop (fun n i (_ : Unit) => wY_isWord_8 post (nI c) (nI (cs_le c)) g1 g2 g3 g4 g5 tf tn fr nx fa pa n (nI i)) (fun i _ => ∀ q, q < i → cs_dg c q ≠ 0) (cs_le c) 0 () (by omega) (fun q hq => absurd hq (by omega)) ?_ ?_
  · intro n s e
    exact pk_le (cs_le c) (cs_le c) (fun _ => h1 ((cs_isw_tab c hc).1 e)) (fun z => absurd z (by omega))
  · intro n p s hp e ih
    refine pk_le (cs_le c) p (fun z => absurd z (by omega)) (fun _ => cy_eventAt hc hp ?_)
    have hd : cs_dg c p < 4 := Nat.mod_lt _ (by decide)
    by_cases z : cs_dg c p = 0
    · rw [z]
      refine br_f (by decide) (h0 (ts_nt (fun ho => (cs_isw_tab c hc).2 ho p hp z)))
    · rw [cy_s1 (by omega)]
      refine br_t (nI_pos' (by omega)) (nm_r (nI_1 p) (ih () ?_))
      intro q hq
      rcases Nat.lt_or_ge q p with y | y
      · exact e q y
      · have eq : q = p := by omega
        subst eq
        exact z
theorem cy_ro45 {post : Int32 → Prop} {k a r : Nat} (hk : k < 8) (ha : a < 3) (hr : r < 256) (h : post (cs_YR (nx (k * 3 + a)) (fun b => fa (b * 256 + r)))) : ∃ n, wY_refusalsOf_45 post (nI k) (nI a) (nI r) g1 g2 g3 g4 g5 tf tn fr nx fa pa n 0 0 := by
  refine pk_loop (fun n i s => wY_refusalsOf_45 post (nI k) (nI a) (nI r) g1 g2 g3 g4 g5 tf tn fr nx fa pa n s (nI i)) (fun i s => s = cs_or (fun b => cs_sel (bt (nx (k * 3 + a)) b) (fa (b * 256 + r))) i) 8 0 0 (by omega) rfl ?_ ?_
  · intro n s e
    refine pk_le 8 8 (fun _ => ?_) (fun z => absurd z (by omega))
    rw [show s = cs_YR (nx (k * 3 + a)) (fun b => fa (b * 256 + r)) from e]
    exact h
  · intro n b s hb e ih
    refine pk_le 8 b (fun z => absurd z (by omega)) (fun _ => ?_)
    rw [cy_k3, cy_256, nI_clamp (by omega), nI_clamp (by omega)]
    refine ⟨vp_in_nI (by omega) (by decide), br_c (fun c => ?_) (fun c => ?_)⟩
    · have hc := (cs_hs _ (by omega)).1 c
      exact ⟨vp_in_nI (by omega) (by decide), nm_e (nm_r (nI_1 b) (ih _ (by rw [show s = _ from e]; exact cs_or_t _ b (cs_sel_t _ hc))))⟩
    · have hc := ts_nt (fun g => c ((cs_hs (nx (k * 3 + a)) (by omega)).2 g))
      exact nm_r (nI_1 b) (ih _ (Eq.trans e (cs_or_f _ b (cs_sel_f _ hc))))
theorem cy_refusalsOf {post : Int32 → Prop} {k c : Nat} (hk : k < 8) (hc : c < 256) (ho : cs_ok 4 c = true) (h : post (cs_YV fr nx fa k c)) : wpY_refusalsOf post (g1, g2, g3, g4, g5, tf, tn, fr, nx, fa, pa) (nI k) (nI c) := by
  unfold wpY_refusalsOf
  refine pk_eq c 0 (fun z => ?_) (fun z => ?_)
  · rw [show cs_YV fr nx fa k c = fr k from if_pos z] at h
    refine ⟨vp_in_nI hk (by decide), ?_⟩
    rw [nI_clamp (by omega)]
    exact h
  · rw [show cs_YV fr nx fa k c = _ from if_neg z] at h
    obtain ⟨_, _, hl, hd1, hd3, hle⟩ := cs_rs_tab c hc ho z
    have h4 := cs_le_4 c
    have ht := cy_rs_tab c hc ho z
    refine cy_lengthOf hc (cy_eventAt (p := 0) hc (by omega) ?_)
    rw [cy_s1 hd1]
    refine nm_r (e' := nI (cs_rs c)) ?_ (cy_ro45 hk (by omega) (by omega) h)
    have e4 : cs_dg c 0 * 2 ^ (2 * (cs_le c - 1)) = cs_dg c 0 * 4 ^ (cs_le c - 1) := by rw [cy_pow]
    rw [nI_1, Nat.sub_add_cancel hd1, cy_s1 hle, show (2 : Int32) = nI 2 from rfl, pk_mul, pk_shlN _ (2 * (cs_le c - 1)) (s_l _ (by omega)) (by omega), e4, pk_sub ht]
    rfl
theorem cy_un15 {post : Int32 → Prop} {J5 : Int32 → Int32 → Prop} {x y : Int32} {A m : Nat} (hA : A < 8) (hm : m < 8) (acc : Int32) (hJ : J5 (acc ||| cs_or (fun n => cs_sel (cs_ag A m n && bt x m && bt y n) ((1 : Int32) <<< (nI (m ||| n) &&& 31))) 8) (nI (m + 1))) : ∃ n, wY_united_15 post J5 x y (nI m) g1 g2 g3 (nI A) g5 tf tn fr nx fa pa n acc 0 := by
  refine pk_loop (fun n i s => wY_united_15 post J5 x y (nI m) g1 g2 g3 (nI A) g5 tf tn fr nx fa pa n s (nI i)) (fun i s => s = acc ||| cs_or (fun n => cs_sel (cs_ag A m n && bt x m && bt y n) ((1 : Int32) <<< (nI (m ||| n) &&& 31))) i) 8 0 acc (by omega) (cs_or0 acc).symm ?_ ?_
  · intro n s e
    refine pk_le 8 8 (fun _ => nm_r (nI_1 m) ?_) (fun z => absurd z (by omega))
    rw [show s = _ from e]
    exact hJ
  · intro n i s hi e ih
    have hf : (cs_ag A m i && bt x m && bt y i) = false → wY_united_15 post J5 x y (nI m) g1 g2 g3 (nI A) g5 tf tn fr nx fa pa n s (nI (i + 1)) :=
      fun hb => ih _ (cs_ac_f acc _ i e (cs_sel_f _ hb))
    refine pk_le 8 i (fun z => absurd z (by omega)) (fun _ => br_c (fun c => ?_) (fun c => ?_))
    · have hb := (cs_hs x (by omega)).1 c
      refine br_c (fun d => ?_) (fun d => ?_)
      · have hc := (cs_hs y (by omega)).1 d
        refine br_f cx_n10 (br_c (fun g => ?_) (fun g => ?_))
        · have hg := (cs_agY m hm i hi A hA).1 g
          refine nm_r (e' := s ||| ((1 : Int32) <<< (nI (m ||| i) &&& 31))) (by rw [cs_orN m hm i hi]) (nm_r (nI_1 i) (ih _ ?_))
          exact cs_ac_t acc _ i e (cs_sel_t _ (by rw [hg, hb, hc]; rfl))
        · have hg : cs_ag A m i = false := ts_nt (fun q => g ((cs_agY m hm i hi A hA).2 q))
          exact nm_r (nI_1 i) (hf (by rw [hg, Bool.false_and, Bool.false_and]))
      · have hc := ts_nt (fun g => d ((cs_hs y (by omega)).2 g))
        exact br_t rfl (nm_r (nI_1 i) (hf (by rw [hc, Bool.and_false])))
    · have hb := ts_nt (fun g => c ((cs_hs x (by omega)).2 g))
      exact br_t rfl (nm_r (nI_1 i) (hf (by rw [hb, Bool.and_false, Bool.false_and])))
theorem cy_united {post : Int32 → Prop} {x y : Int32} {A : Nat} (hA : A < 8) (h : post (cs_UR A x y)) : wpY_united post (g1, g2, g3, (nI A), g5, tf, tn, fr, nx, fa, pa) x y := by
  refine pk_loop (fun n i s => wY_united_5 post x y g1 g2 g3 (nI A) g5 tf tn fr nx fa pa n s (nI i)) (fun i s => s = cs_or (fun m => cs_or (fun n => cs_sel (cs_ag A m n && bt x m && bt y n) ((1 : Int32) <<< (nI (m ||| n) &&& 31))) 8) i) 8 0 0 (by omega) rfl ?_ ?_
  · intro n s e
    refine pk_le 8 8 (fun _ => ?_) (fun z => absurd z (by omega))
    rw [show s = cs_UR A x y from e]
    exact h
  · intro n i s hi e ih
    refine pk_le 8 i (fun z => absurd z (by omega)) (fun _ => cy_un15 hA hi s (ih _ ?_))
    rw [show s = _ from e]
    exact cs_or_t _ i rfl
def cy_sec (sec : Bool) : Int32 := cond sec 1 0
theorem cy_partOf {post : Int32 → Prop} {A c pt : Nat} (sec : Bool) (hA : A < 8) (hc : c < 256) (ho : cs_ok 4 c = true) (hpt : pt < 16) (h : post (nI (cs_cd (cs_pa A pt sec (cs_dw 4 c))))) : wpY_partOf post (g1, g2, g3, (nI A), g5, tf, tn, fr, nx, fa, pa) (nI c) (nI pt) (cy_sec sec) := by
  unfold wpY_partOf
  refine cy_lengthOf hc ?_
  have h4 := cs_le_4 c
  refine pk_loop (fun n i s => wY_partOf_13 post (nI c) (nI pt) (cy_sec sec) (nI (cs_le c)) g1 g2 g3 (nI A) g5 tf tn fr nx fa pa n s (nI i)) (fun i s => s = nI (cs_cd (cs_pa A pt sec (cs_dw 4 (cs_px c i))))) (cs_le c) 0 0 (by omega) ?_ ?_ ?_
  · rw [cs_px_0 c hc]
    rfl
  · intro n s e
    refine pk_le (cs_le c) (cs_le c) (fun _ => ?_) (fun z => absurd z (by omega))
    rw [show s = _ from e, cs_px_l]
    exact h
  · intro n p s hp e ih
    obtain ⟨e1, e2, hd1, hd3⟩ := cs_px_tab c hc ho p hp
    have hin : A.testBit (cs_dg c p - 1) = true ∨ pt.testBit (cs_dw 4 (cs_px c p)).length = sec → wY_partOf_73 post (wY_partOf_13 post (nI c) (nI pt) (cy_sec sec) (nI (cs_le c)) g1 g2 g3 (nI A) g5 tf tn fr nx fa pa n) (nI c) (nI pt) (cy_sec sec) (nI (cs_le c)) s (nI p) (nI (cs_dg c p - 1)) g1 g2 g3 (nI A) g5 tf tn fr nx fa pa := by
      intro hb
      refine nm_r (e' := nI (cs_cd (cs_pa A pt sec (cs_dw 4 (cs_px c (p + 1)))))) ?_ (nm_r (nI_1 p) (ih _ rfl))
      rw [e1, cs_pa_t hb, show s = _ from e, cx_code]
      rfl
    have hout : A.testBit (cs_dg c p - 1) = false → pt.testBit (cs_dw 4 (cs_px c p)).length = (!sec) → wY_partOf_13 post (nI c) (nI pt) (cy_sec sec) (nI (cs_le c)) g1 g2 g3 (nI A) g5 tf tn fr nx fa pa n s (nI (p + 1)) := by
      intro h1 h2
      refine ih _ ?_
      rw [e1, cs_pa_f h1 h2]
      exact e
    rw [e2] at hin hout
    refine pk_le (cs_le c) p (fun z => absurd z (by omega)) (fun _ => cy_eventAt hc hp ?_)
    rw [cy_s1 hd1]
    refine br_c (fun g => ?_) (fun g => ?_)
    · have hb := (cs_hs (nI A) (by omega)).1 g
      rw [cs_btN A hA _ (by omega)] at hb
      exact br_f cx_n10 (hin (Or.inl hb))
    · have hb := ts_nt (fun q => g ((cs_hs (nI A) (by omega)).2 q))
      rw [cs_btN A hA _ (by omega)] at hb
      refine br_t rfl (br_c (fun g2 => ?_) (fun g2 => ?_))
      · have hp2 := (cs_hs (nI pt) (by omega)).1 g2
        rw [cy_btP pt hpt p (by omega)] at hp2
        cases sec
        · exact br_f cx_n10 (nm_r (nI_1 p) (hout hb hp2))
        · exact br_t rfl (hin (Or.inr hp2))
      · have hp2 := ts_nt (fun q => g2 ((cs_hs (nI pt) (by omega)).2 q))
        rw [cy_btP pt hpt p (by omega)] at hp2
        cases sec
        · exact br_t rfl (hin (Or.inr hp2))
        · exact br_f cy_n01 (nm_r (nI_1 p) (hout hb hp2))
theorem cy_pairRef {post : Int32 → Prop} {A i j c : Nat} (hA : A < 8) (hi : i < 8) (hj : j < 8) (hc : c < 256) (ho : cs_ok 4 c = true) (h : post (cs_YW A i j fa c)) : wpY_pairRefusals post (g1, (nI i), (nI j), (nI A), g5, tf, tn, fr, nx, fa, pa) (nI c) := by
  unfold wpY_pairRefusals
  refine cy_lengthOf hc ?_
  have h4 := cs_le_4 c
  have hW := cs_dwW hc ho
  have hl := cs_le_tab c hc ho
  have h16 : 2 ^ cs_le c ≤ 2 ^ 4 := Nat.pow_le_pow_right (by decide) h4
  refine pk_loop (fun n i' s => wY_pairRefusals_11 post (nI c) (nI (cs_le c)) g1 (nI i) (nI j) (nI A) g5 tf tn fr nx fa pa n s (nI i')) (fun pt s => s = cs_or (fun pt => cs_UR A (fa (i * 256 + cs_cd (cs_pa A pt false (cs_dw 4 c)))) (fa (j * 256 + cs_cd (cs_pa A pt true (cs_dw 4 c))))) pt) (2 ^ cs_le c) 0 0 (Nat.zero_le _) rfl ?_ ?_
  · intro n s e
    refine pk_le (2 ^ cs_le c) (2 ^ cs_le c) (fun _ => ?_) (fun z => absurd z (by omega)) (cy_one2 _ (by omega))
    rw [show s = _ from e, hl]
    exact h
  · intro n pt s hpt e ih
    have hs1 := cs_cd_lt (cs_pa_W A pt false hW)
    have hs2 := cs_cd_lt (cs_pa_W A pt true hW)
    refine pk_le (2 ^ cs_le c) pt (fun z => absurd z (by omega)) (fun _ => ?_) (cy_one2 _ (by omega))
    refine cy_partOf false hA hc ho (by omega) (cy_partOf true hA hc ho (by omega) ?_)
    rw [cy_256, cy_256]
    refine ⟨vp_in_nI (by omega) (by decide), nm_r (congrArg fa (nI_clamp (by omega))) ⟨vp_in_nI (by omega) (by decide), nm_r (congrArg fa (nI_clamp (by omega))) (br_c (fun z => ?_) (fun _ => br_c (fun z => ?_) (fun _ => ?_)))⟩⟩
    · refine nm_r (nI_1 pt) (ih _ (Eq.trans e (cs_or_f _ pt ?_)))
      show cs_UR A _ _ = 0
      rw [z, cs_UR_l0]
    · refine nm_r (nI_1 pt) (ih _ (Eq.trans e (cs_or_f _ pt ?_)))
      show cs_UR A _ _ = 0
      rw [z, cs_UR_r0]
    · refine cy_united hA (nm_e (nm_r (nI_1 pt) (ih _ ?_)))
      rw [show s = _ from e]
      exact cs_or_t _ pt rfl
theorem cy_li17 {post : SY → Prop} {J2 : Int32 → (Nat → Int32) → (Nat → Int32) → (Nat → Int32) → (Nat → Int32) → (Nat → Int32) → (Nat → Int32) → Prop} {t : Nat → Int32} {c : Nat} {r : Int32} (hT : ∀ k, k < 8 → cs_TR (t k) (fr k) (fun a => nx (k * 3 + a))) (hc : c < 256) (hr : (r = 0 ∧ cs_ok 4 c = false) ∨ (r = 1 ∧ cs_ok 4 c = true)) (h0 : ∀ c', c' < c → ∀ b, b < 8 → cs_YF t b c' (fa (b * 256 + c'))) (hJ : ∀ F, (∀ c', c' < c + 1 → ∀ b, b < 8 → cs_YF t b c' (F (b * 256 + c'))) → J2 (nI (c + 1)) tf tn fr nx F pa) : ∃ n, wY_list_17 post J2 (nI c) r g1 g2 g3 g4 g5 n 0 tf tn fr nx fa pa := by
  refine pk_loop (fun n i s => wY_list_17 post J2 (nI c) r g1 g2 g3 g4 g5 n (nI i) tf tn fr nx s pa) (fun k s => (∀ c', c' < c → ∀ b, b < 8 → cs_YF t b c' (s (b * 256 + c'))) ∧ ∀ b, b < k → cs_YF t b c (s (b * 256 + c))) 8 0 fa (by omega) ⟨h0, fun b hb => absurd hb (by omega)⟩ ?_ ?_
  · intro n s e
    refine pk_le 8 8 (fun _ => nm_r (nI_1 c) (hJ s ?_)) (fun z => absurd z (by omega))
    intro c' hc' b hb
    rcases Nat.lt_or_ge c' c with z | z
    · exact e.1 c' z b hb
    · have ec : c' = c := by omega
      subst ec
      exact e.2 b hb
  · intro n k s hk e ih
    have key : ∀ v, cs_YF t k c v → wY_list_17 post J2 (nI c) r g1 g2 g3 g4 g5 n (nI (k + 1)) tf tn fr nx (upd s (k * 256 + c) v) pa := by
      intro v hv
      refine ih _ ⟨?_, ?_⟩
      · intro c' hc' b hb
        rw [pk_un (by omega)]
        exact e.1 c' hc' b hb
      · intro b hb
        rcases Nat.lt_or_ge b k with z | z
        · rw [pk_un (by omega)]
          exact e.2 b z
        · have eb : b = k := by omega
          subst eb
          rw [pk_us]
          exact hv
    refine pk_le 8 k (fun z => absurd z (by omega)) (fun _ => ?_)
    rw [cy_256]
    rcases hr with ⟨hr, ho⟩ | ⟨hr, ho⟩
    · refine br_t hr ⟨vp_in_nI (by omega) (by decide), nm_r (e' := upd s (k * 256 + c) 0) (by rw [nI_clamp (by omega)]) (nm_r (nI_1 k) (key 0 ⟨fun z => ?_, fun _ => rfl⟩))⟩
      rw [ho] at z
      exact nomatch z
    · refine br_f (by rw [hr]; exact cx_n10) (cy_refusalsOf hk hc ho ⟨vp_in_nI (by omega) (by decide), nm_r (e' := upd s (k * 256 + c) (cs_YV fr nx s k c)) (by rw [nI_clamp (by omega)]) (nm_r (nI_1 k) (key _ ⟨fun _ => ?_, fun z => ?_⟩))⟩)
      · exact cs_YF_v hk (hT k hk) hc ho e.1
      · rw [ho] at z
        exact nomatch z
theorem cy_li63 {post : SY → Prop} {t : Nat → Int32} {A i j : Nat} (hA : A < 8) (hi : i < 8) (hj : j < 8) (hF : cs_YFs t fa) (h : ∀ P, cs_YSs t A i j P → post (g1, (nI i), (nI j), (nI A), g5, tf, tn, fr, nx, fa, P)) : ∃ n, wY_list_63 post g1 (nI i) (nI j) (nI A) g5 n 0 tf tn fr nx fa pa := by
  refine pk_loop (fun n i' s => wY_list_63 post g1 (nI i) (nI j) (nI A) g5 n (nI i') tf tn fr nx fa s) (fun c s => ∀ c', c' < c → cs_YS t A i j c' (s c')) 256 0 pa (by omega) (fun c' hc' => absurd hc' (by omega)) ?_ ?_
  · intro n s e
    exact pk_le 256 256 (fun _ => h s e) (fun z => absurd z (by omega))
  · intro n c s hc e ih
    have key : ∀ v, cs_YS t A i j c v → wY_list_63 post g1 (nI i) (nI j) (nI A) g5 n (nI (c + 1)) tf tn fr nx fa (upd s c v) := by
      intro v hv
      refine ih _ ?_
      intro c' hc'
      rcases Nat.lt_or_ge c' c with z | z
      · rw [pk_un (by omega)]
        exact e c' z
      · have ec : c' = c := by omega
        subst ec
        rw [pk_us]
        exact hv
    refine pk_le 256 c (fun z => absurd z (by omega)) (fun _ => cy_isWord hc (fun ho => ?_) (fun ho => ?_))
    · refine br_f cx_n10 (cy_pairRef hA hi hj hc ho ⟨vp_in_nI (by omega) (by decide), nm_r (e' := upd s c (cs_YW A i j fa c)) (by rw [nI_clamp (by omega)]) (nm_r (nI_1 c) (key _ ⟨fun _ => cs_YS_v hi hj hc ho hF, fun z => ?_⟩))⟩)
      rw [ho] at z
      exact nomatch z
    · refine br_t rfl ⟨vp_in_nI (by omega) (by decide), nm_r (e' := upd s c 0) (by rw [nI_clamp (by omega)]) (nm_r (nI_1 c) (key 0 ⟨fun z => ?_, fun _ => rfl⟩))⟩
      rw [ho] at z
      exact nomatch z
theorem cy_list {post : SY → Prop} {t : Nat → Int32} {A i j : Nat} (hA : A < 8) (hi : i < 8) (hj : j < 8) (hT : ∀ k, k < 8 → cs_TR (t k) (fr k) (fun a => nx (k * 3 + a))) (h : ∀ F P, cs_YFs t F → cs_YSs t A i j P → post (g1, (nI i), (nI j), (nI A), g5, tf, tn, fr, nx, F, P)) : wpY_list post (g1, (nI i), (nI j), (nI A), g5, tf, tn, fr, nx, fa, pa) := by
  refine pk_loop (fun n i' s => wY_list_2 post g1 (nI i) (nI j) (nI A) g5 n (nI i') tf tn fr nx s pa) (fun c s => ∀ c', c' < c → ∀ b, b < 8 → cs_YF t b c' (s (b * 256 + c'))) 256 0 fa (by omega) (fun c' hc' => absurd hc' (by omega)) ?_ ?_
  · intro n s e
    exact pk_le 256 256 (fun _ => cy_li63 hA hi hj e (fun P hP => h s P e hP)) (fun z => absurd z (by omega))
  · intro n c s hc e ih
    refine pk_le 256 c (fun z => absurd z (by omega)) (fun _ => cy_isWord hc (fun ho => ?_) (fun ho => ?_))
    · exact cy_li17 hT hc (Or.inr ⟨rfl, ho⟩) e (fun F hF => ih F hF)
    · exact cy_li17 hT hc (Or.inl ⟨rfl, ho⟩) e (fun F hF => ih F hF)
end CYW
