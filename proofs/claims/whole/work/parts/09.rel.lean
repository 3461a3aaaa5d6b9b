/-! ===== the relation ===== -/
def cs_K (D i j A : Nat) (l : List Nat) (stk tm co le nf sf tf tn fr nx : Nat → Int32) : Prop :=
  D ≤ 6 ∧ i < 8 ∧ j < 8 ∧ A < 8 ∧ cs_Wd l ∧ (∀ s, s < D → cs_TR (stk s) (tf s) (fun a => tn (s * 3 + a))) ∧ (∀ k, k < 8 → cs_TR (tm k) (fr k) (fun a => nx (k * 3 + a))) ∧ cs_XC co le ∧ cs_XF tm nf ∧ cs_XS tm A i j sf
/-- the same stack, names, system and log; X's tables hold the failures; nothing of Y's tables, it lists them anew -/
def i_Rel (_ : Nat) (u : SX) (v : SY) : Prop :=
  ∃ (D i j A : Nat) (l : List Nat) (stk tm co le nr nf : Nat → Int32) (pp : Nat → Int64) (pr sf tf tn fr nx fa pa : Nat → Int32),
    u = ((nI D), (nI i), (nI j), (nI A), (nI (cs_ix l)), stk, tm, co, le, nr, nf, pp, pr, sf) ∧ v = ((nI D), (nI i), (nI j), (nI A), (nI (cs_cd l)), tf, tn, fr, nx, fa, pa) ∧ cs_K D i j A l stk tm co le nf sf tf tn fr nx
theorem i_up {k : Nat} {u : SX} {v : SY} (h : i_Rel k u v) : i_Rel (k + 4) u v := h
theorem cs_mkR {k D i j A : Nat} {l : List Nat} {stk tm co le nr nf : Nat → Int32} {pp : Nat → Int64} {pr sf tf tn fr nx fa pa : Nat → Int32} (h : cs_K D i j A l stk tm co le nf sf tf tn fr nx) : i_Rel k ((nI D), (nI i), (nI j), (nI A), (nI (cs_ix l)), stk, tm, co, le, nr, nf, pp, pr, sf) ((nI D), (nI i), (nI j), (nI A), (nI (cs_cd l)), tf, tn, fr, nx, fa, pa) :=
  ⟨D, i, j, A, l, stk, tm, co, le, nr, nf, pp, pr, sf, tf, tn, fr, nx, fa, pa, rfl, rfl, h⟩
theorem cs_TR_c {x f : Int32} {F G : Nat → Int32} (h : cs_TR x f F) (e : ∀ a, a < 3 → G a = F a) : cs_TR x f G :=
  ⟨h.1, fun a ha b => by rw [e a ha]; exact h.2 a ha b⟩
/-- an argument: below, above, or within -/
theorem cs_rng (v : Int32) (n : Nat) (hn : n < 2 ^ 31) : v < 0 ∨ (¬ v < 0 ∧ nI n ≤ v) ∨ ∃ j : Nat, j < n ∧ v = nI j := by
  rcases pk_ix v hn with h | h | h
  · exact Or.inl h
  · exact Or.inr (Or.inl ⟨Int32.not_lt.mpr (Int32.le_trans (nI_pos' hn) h), h⟩)
  · exact Or.inr (Or.inr h)
theorem cs_up {v : Int32} {m : Int32} {n : Nat} (h : nI n ≤ v) (hm : m < nI n) : m < v := by
  rw [Int32.lt_iff_toInt_lt] at *
  rw [Int32.le_iff_toInt_le] at h
  omega
theorem cs_nle {v : Int32} {m : Int32} {n : Nat} (h : nI n ≤ v) (hm : m < nI n) : ¬ v ≤ m := by
  have := cs_up h hm
  rw [Int32.lt_iff_toInt_lt] at this
  rw [Int32.le_iff_toInt_le]
  omega
/-! ===== making both ===== -/
theorem cx_init {post : SX → Prop} (h : ∀ (tm C L N T : Nat → Int32) (P : Nat → Int64) (Q S : Nat → Int32), (∀ k, k < 8 → tm k = 255) → cs_XC C L → cs_XF tm T → cs_XS tm 7 0 0 S → post (0, 0, 0, 7, 0, (fun _ => 0), tm, C, L, N, T, P, Q, S)) : wpX_init post := by
  refine pk_loop (fun n i s => wX_init_84 post 0 0 0 0 0 n (nI i) (fun _ => 0) s (fun _ => 0) (fun _ => 0) (fun _ => 0) (fun _ => 0) (fun _ => 0) (fun _ => 0) (fun _ => 0)) (fun i s => ∀ k, k < i → s k = 255) 8 0 (fun _ => 0) (by omega) (fun k hk => absurd hk (by omega)) ?_ ?_
  · intro n s e
    refine pk_le 8 8 (fun _ => ?_) (fun z => absurd z (by omega))
    refine cx_measure rfl rfl (fun C L hC => cx_followNames (fun N T hT => ?_))
    exact cx_followSystem (A := 7) (i := 0) (j := 0) (by decide) (by decide) (by decide) (fun P Q S hS => h s C L N T P Q S e hC hT hS)
  · intro n k s hk e ih
    refine pk_le 8 k (fun z => absurd z (by omega)) (fun _ => ⟨vp_in_nI hk (by decide), nm_r (e' := upd s k 255) (by rw [nI_clamp (by omega)]) (nm_r (nI_1 k) (ih _ ?_))⟩)
    intro d hd
    rcases Nat.lt_or_ge d k with z | z
    · rw [pk_un (by omega)]
      exact e d z
    · have ed : d = k := by omega
      subst ed
      exact pk_us
theorem cy_init {post : SY → Prop} (h : ∀ fr : Nat → Int32, (∀ k, k < 8 → fr k = 255) → post (0, 0, 0, 7, 0, (fun _ => 0), (fun _ => 0), fr, (fun _ => 0), (fun _ => 0), (fun _ => 0))) : wpY_init post := by
  refine pk_loop (fun n i s => wY_init_56 post 0 0 0 0 0 n (nI i) (fun _ => 0) (fun _ => 0) s (fun _ => 0) (fun _ => 0) (fun _ => 0)) (fun i s => ∀ k, k < i → s k = 255) 8 0 (fun _ => 0) (by omega) (fun k hk => absurd hk (by omega)) ?_ ?_
  · intro n s e
    exact pk_le 8 8 (fun _ => h s e) (fun z => absurd z (by omega))
  · intro n k s hk e ih
    refine pk_le 8 k (fun z => absurd z (by omega)) (fun _ => ⟨vp_in_nI hk (by decide), nm_r (e' := upd s k 255) (by rw [nI_clamp (by omega)]) (nm_r (nI_1 k) (ih _ ?_))⟩)
    intro d hd
    rcases Nat.lt_or_ge d k with z | z
    · rw [pk_un (by omega)]
      exact e d z
    · have ed : d = k := by omega
      subst ed
      exact pk_us
theorem i_vc0 : wpX_init (fun u => wpY_init (fun v => i_Rel 0 u v)) := by
  refine cx_init (fun tm C L N T P Q S h1 hC hT hS => cy_init (fun fr h2 => ?_))
  refine cs_mkR (k := 0) (D := 0) (i := 0) (j := 0) (A := 7) (l := []) ⟨by decide, by decide, by decide, by decide, cs_Wd_0, fun s hs => absurd hs (by omega), fun k hk => ?_, hC, hT, hS⟩
  rw [h1 k hk, h2 k hk]
  exact cs_TR_stop
section CSV
variable {f1 f2 f3 f4 f5 : Int32} {stk tm co le nr nf : Nat → Int32} {pp : Nat → Int64} {pr sf : Nat → Int32}
variable {g1 g2 g3 g4 g5 : Int32} {tf tn fr nx fa pa : Nat → Int32}
/-! ===== the stack ===== -/
theorem cx_push {post : Int32 → SX → Prop} {D : Nat} {x : Int32} (hD : D ≤ 6) (h1 : D < 6 → post (nI (D + 1)) ((nI (D + 1)), f2, f3, f4, f5, (upd stk D x), tm, co, le, nr, nf, pp, pr, sf)) (h2 : D = 6 → post (-2) ((nI D), f2, f3, f4, f5, stk, tm, co, le, nr, nf, pp, pr, sf)) : wpX_push post ((nI D), f2, f3, f4, f5, stk, tm, co, le, nr, nf, pp, pr, sf) x :=
  pk_lt D 6 (fun z => ⟨vp_in_nI z (by decide), nm_r (e' := upd stk D x) (by rw [nI_clamp (by omega)]) (nm_r (nI_1 D) (h1 z))⟩) (fun z => h2 (by omega))
def cy_p3 (tn : Nat → Int32) (D : Nat) : Nat → Int32 := upd (upd (upd tn (D * 3) 0) (D * 3 + 1) 0) (D * 3 + 2) 0
theorem cy_p3_o {tn : Nat → Int32} {D m : Nat} (h : m < D * 3) : cy_p3 tn D m = tn m := by
  unfold cy_p3
  rw [pk_un (by omega), pk_un (by omega), pk_un (by omega)]
theorem cy_p3_n {tn : Nat → Int32} {D a : Nat} (h : a < 3) : cy_p3 tn D (D * 3 + a) = 0 := by
  unfold cy_p3
  have : a = 0 ∨ a = 1 ∨ a = 2 := by omega
  rcases this with e | e | e
  · subst e
    rw [pk_un (by omega), pk_un (by omega)]
    exact pk_us
  · subst e
    rw [pk_un (by omega)]
    exact pk_us
  · subst e
    exact pk_us
theorem cy_m3 (D : Nat) : nI D * 3 = nI (D * 3) := by rw [show (3 : Int32) = nI 3 from rfl, pk_mul]
theorem cy_push {post : Int32 → SY → Prop} {D : Nat} {x : Int32} (hD : D < 6) (h : post (nI (D + 1)) ((nI (D + 1)), g2, g3, g4, g5, (upd tf D x), (cy_p3 tn D), fr, nx, fa, pa)) : wpY_push post ((nI D), g2, g3, g4, g5, tf, tn, fr, nx, fa, pa) x := by
  unfold wpY_push
  dsimp only
  rw [cy_m3, nI_1 (D * 3), show nI (D * 3) + 2 = nI (D * 3 + 2) from nI_add _ 2, nI_clamp (show D < 2 ^ 31 by omega), nI_clamp (show D * 3 < 2 ^ 31 by omega), nI_clamp (show D * 3 + 1 < 2 ^ 31 by omega), nI_clamp (show D * 3 + 2 < 2 ^ 31 by omega)]
  exact ⟨vp_in_nI hD (by decide), nm_e ⟨vp_in_nI (by omega) (by decide), nm_e ⟨vp_in_nI (by omega) (by decide), nm_e ⟨vp_in_nI (by omega) (by decide), nm_e (nm_r (nI_1 D) h)⟩⟩⟩⟩
theorem cs_stk {D : Nat} (h : ∀ s, s < D → cs_TR (stk s) (tf s) (fun a => tn (s * 3 + a))) {x f : Int32} {tn' : Nat → Int32} (ho : ∀ m, m < D * 3 → tn' m = tn m) (hn : cs_TR x f (fun a => tn' (D * 3 + a))) : ∀ s, s < D + 1 → cs_TR (upd stk D x s) (upd tf D f s) (fun a => tn' (s * 3 + a)) := by
  intro s hs
  rcases Nat.lt_or_ge s D with z | z
  · rw [pk_un (by omega), pk_un (by omega)]
    exact cs_TR_c (h s z) (fun a ha => ho _ (by omega))
  · have e : s = D := by omega
    subst e
    rw [pk_us, pk_us]
    exact hn
end CSV
theorem i_vc_stop {k : Nat} {u : SX} {v : SY} (I : i_Rel k u v) (hk : k + 4 ≤ 2048) : wpX_stop (fun r u' => wpY_stop (fun r' v' => r' = r ∧ i_Rel (k + 4) u' v') v) u := by
  obtain ⟨D, i, j, A, l, stk, tm, co, le, nr, nf, pp, pr, sf, tf, tn, fr, nx, fa, pa, rfl, rfl, hD, hi, hj, hA, hl, hs, hT, hC, hF, hS⟩ := I
  unfold wpX_stop
  refine cx_push hD (fun z => ?_) (fun z => ?_)
  · refine pk_eq D 6 (fun y => absurd y (by omega)) (fun _ => cy_push z ⟨rfl, cs_mkR ⟨by omega, hi, hj, hA, hl, ?_, hT, hC, hF, hS⟩⟩)
    refine cs_stk hs (fun m hm => cy_p3_o hm) (cs_TR_c cs_TR_stop (fun a ha => cy_p3_n ha))
  · refine pk_eq D 6 (fun y => ⟨rfl, cs_mkR ⟨hD, hi, hj, hA, hl, hs, hT, hC, hF, hS⟩⟩) (fun y => absurd z y)
