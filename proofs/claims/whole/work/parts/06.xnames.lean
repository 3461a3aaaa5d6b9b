/-! ===== X's walks: names ===== -/
theorem cs_or_f (f : Nat → Int32) (i : Nat) (h : f i = 0) : cs_or f i = cs_or f (i + 1) := by
  show _ = cs_or f i ||| f i
  rw [h, cs_or0]
theorem cs_or_t (f : Nat → Int32) (i : Nat) {v : Int32} (h : f i = v) : cs_or f i ||| v = cs_or f (i + 1) := by
  rw [← h]; rfl
theorem cs_ac_f (acc : Int32) (f : Nat → Int32) (i : Nat) {s : Int32} (e : s = acc ||| cs_or f i) (h : f i = 0) : s = acc ||| cs_or f (i + 1) := by
  rw [e, cs_or_f f i h]
theorem cs_ac_t (acc : Int32) (f : Nat → Int32) (i : Nat) {s v : Int32} (e : s = acc ||| cs_or f i) (h : f i = v) : s ||| v = acc ||| cs_or f (i + 1) := by
  rw [e, ← h]; exact cs_acc acc f i
theorem cs_orL_f (f : Nat → Int64) (i : Nat) (h : f i = 0) : cs_orL f i = cs_orL f (i + 1) := by
  show _ = cs_orL f i ||| f i
  rw [h, cs_or0L]
theorem cs_orL_t (f : Nat → Int64) (i : Nat) {v : Int64} (h : f i = v) : cs_orL f i ||| v = cs_orL f (i + 1) := by
  rw [← h]; rfl
theorem cs_acL_f (acc : Int64) (f : Nat → Int64) (i : Nat) {s : Int64} (e : s = acc ||| cs_orL f i) (h : f i = 0) : s = acc ||| cs_orL f (i + 1) := by
  rw [e, cs_orL_f f i h]
theorem cs_acL_t (acc : Int64) (f : Nat → Int64) (i : Nat) {s v : Int64} (e : s = acc ||| cs_orL f i) (h : f i = v) : s ||| v = acc ||| cs_orL f (i + 1) := by
  rw [e, ← h]; exact cs_accL acc f i
theorem cx_n10 : ¬ (1 : Int32) = 0 := by decide
theorem cx_app (w a : Nat) : ((3 * nI w) + 1) + nI a = nI (3 * w + 1 + a) := by
  rw [show (3 : Int32) = nI 3 from rfl, pk_mul, nI_1, nI_add]
theorem cx_88 (a : Nat) : (8 : Int32) + 8 * nI a = nI (8 + 8 * a) := by
  rw [show (8 : Int32) = nI 8 from rfl, pk_mul, nI_add]
theorem cx_8p (p q : Nat) : (8 : Int32) * nI p + nI q = nI (8 * p + q) := by
  rw [show (8 : Int32) = nI 8 from rfl, pk_mul, nI_add]
theorem cx_8 (p : Nat) : (8 : Int32) * nI p = nI (8 * p) := by
  rw [show (8 : Int32) = nI 8 from rfl, pk_mul]
theorem cx_121 (k w : Nat) : nI k * 121 + nI w = nI (k * 121 + w) := by
  rw [show (121 : Int32) = nI 121 from rfl, pk_mul, nI_add]
theorem cx_hasBit {post : Int32 → Prop} {x : Int32} {n : Nat} (hn : n < 32) (h0 : bt x n = false → post 0) (h1 : bt x n = true → post 1) : wpX_hasBit post x (nI n) :=
  br_c (fun c => h0 ((cs_hb x hn).1 c)) (fun c => h1 (ts_nf (fun e => c ((cs_hb x hn).2 e))))
theorem cx_append {post : Int32 → Prop} {w a : Nat} (h : post (nI (3 * w + 1 + a))) : wpX_append post (nI w) (nI a) := by
  unfold wpX_append
  rw [cx_app]
  exact h
section CXN
variable {f1 f2 f3 f4 f5 : Int32} {stk tm co le nr nf : Nat → Int32} {pp : Nat → Int64} {pr sf : Nat → Int32}
theorem cx_namesAfter {post : Int32 → Prop} {k a : Nat} (hk : k < 8) (h : post (cs_NA tm k a)) : wpX_namesAfter post (f1, f2, f3, f4, f5, stk, tm, co, le, nr, nf, pp, pr, sf) (nI k) (nI a) := by
  refine ⟨vp_in_nI hk (by decide), ?_⟩
  rw [nI_clamp (by omega), cx_88]
  exact h
theorem cx_stepNames {post : Int32 → Prop} {x : Int32} {a : Nat} (h : post (cs_SN tm x a)) : wpX_stepNames post (f1, f2, f3, f4, f5, stk, tm, co, le, nr, nf, pp, pr, sf) x (nI a) := by
  refine pk_loop (fun n i s => wX_stepNames_5 post x (nI a) f1 f2 f3 f4 f5 stk tm co le nr nf pp pr sf n s (nI i)) (fun i s => s = cs_or (fun k => cs_sel (bt x k) (cs_NA tm k a)) i) 8 0 0 (by omega) rfl ?_ ?_
  · intro n s e
    refine pk_le 8 8 (fun _ => ?_) (fun z => absurd z (by omega))
    rw [show s = cs_SN tm x a from e]
    exact h
  · intro n i s hi e ih
    refine pk_le 8 i (fun z => absurd z (by omega)) (fun _ => ?_)
    refine cx_hasBit (by omega) (fun hb => ?_) (fun hb => ?_)
    · refine br_t rfl (nm_r (nI_1 i) (ih _ ?_))
      exact Eq.trans e (cs_or_f _ i (cs_sel_f _ hb))
    · refine br_f cx_n10 (cx_namesAfter hi (nm_e (nm_r (nI_1 i) (ih _ ?_))))
      rw [show s = cs_or (fun k => cs_sel (bt x k) (cs_NA tm k a)) i from e]
      exact cs_or_t _ i (cs_sel_t _ hb)
theorem cx_refN {post : Int32 → Prop} {x : Int32} (h : post (cs_RN tm x)) : wpX_refusalsOfNames post (f1, f2, f3, f4, f5, stk, tm, co, le, nr, nf, pp, pr, sf) x := by
  refine pk_loop (fun n i s => wX_refusalsOfNames_4 post x f1 f2 f3 f4 f5 stk tm co le nr nf pp pr sf n s (nI i)) (fun i s => s = cs_or (fun k => cs_sel (bt x k) (tm k &&& 255)) i) 8 0 0 (by omega) rfl ?_ ?_
  · intro n s e
    refine pk_le 8 8 (fun _ => ?_) (fun z => absurd z (by omega))
    rw [show s = cs_RN tm x from e]
    exact h
  · intro n i s hi e ih
    refine pk_le 8 i (fun z => absurd z (by omega)) (fun _ => ?_)
    refine cx_hasBit (by omega) (fun hb => ?_) (fun hb => ?_)
    · refine br_t rfl (nm_r (nI_1 i) (ih _ ?_))
      exact Eq.trans e (cs_or_f _ i (cs_sel_f _ hb))
    · refine br_f cx_n10 ⟨vp_in_nI hi (by decide), nm_e (nm_r (nI_1 i) (ih _ ?_))⟩
      rw [show s = cs_or (fun k => cs_sel (bt x k) (tm k &&& 255)) i from e, nI_clamp (by omega)]
      exact cs_or_t _ i (cs_sel_t _ hb)
def cx_Tn (t : Nat → Int32) (k b : Nat) (T : Nat → Int32) : Prop := ∀ u, cs_Ev u → cs_ix u < b → cs_Pn t k u (T (cs_ix u))
theorem cx_fn27 {post : SX → Prop} {J2 J19 : Int32 → (Nat → Int32) → (Nat → Int32) → (Nat → Int32) → (Nat → Int32) → (Nat → Int32) → (Nat → Int32) → (Nat → Int64) → (Nat → Int32) → (Nat → Int32) → Prop} {k w : Nat} (hw : w < 40) (h0 : cx_Tn tm k (3 * w + 1) nr) (hJ : ∀ T, cx_Tn tm k (3 * (w + 1) + 1) T → J19 (nI (w + 1)) stk tm co le T nf pp pr sf) : ∃ n, wX_followNames_27 post J2 J19 (nI k) (nI w) f1 f2 f3 f4 f5 n 0 stk tm co le nr nf pp pr sf := by
  refine pk_loop (fun n i s => wX_followNames_27 post J2 J19 (nI k) (nI w) f1 f2 f3 f4 f5 n (nI i) stk tm co le s nf pp pr sf) (fun i s => cx_Tn tm k (3 * w + 1 + i) s) 3 0 nr (by omega) h0 ?_ ?_
  · intro n s e
    refine pk_le 3 3 (fun _ => nm_r (nI_1 w) (hJ s ?_)) (fun z => absurd z (by omega))
    intro u hu hi
    exact e u hu (by omega)
  · intro n a s ha e ih
    refine pk_le 3 a (fun z => absurd z (by omega)) (fun _ => ?_)
    refine cx_append ⟨vp_in_nI (by omega) (by decide), cx_stepNames ⟨vp_in_nI (by omega) (by decide), ?_⟩⟩
    refine nm_r (e' := upd s (3 * w + 1 + a) (cs_SN tm (s w) a)) (by rw [nI_clamp (by omega), nI_clamp (by omega)]) (nm_r (nI_1 a) (ih _ ?_))
    exact cs_tab_s (P := fun u x => cs_Pn tm k u x) ha e (fun m hm => pk_un hm) (fun u hu _ hP => by rw [pk_us]; exact cs_Pn_s hP ha)
theorem cx_fn71 {post : SX → Prop} {J2 : Int32 → (Nat → Int32) → (Nat → Int32) → (Nat → Int32) → (Nat → Int32) → (Nat → Int32) → (Nat → Int32) → (Nat → Int64) → (Nat → Int32) → (Nat → Int32) → Prop} {k : Nat} (hk : k < 8) (h0 : cx_Tn tm k 121 nr) (hF : ∀ u, cs_Wd u → ∀ e, e < k → cs_Pf tm e u (nf (e * 121 + cs_ix u))) (hJ : ∀ T, (∀ u, cs_Wd u → ∀ e, e < k + 1 → cs_Pf tm e u (T (e * 121 + cs_ix u))) → J2 (nI (k + 1)) stk tm co le nr T pp pr sf) : ∃ n, wX_followNames_71 post J2 (nI k) f1 f2 f3 f4 f5 n 0 stk tm co le nr nf pp pr sf := by
  refine pk_loop (fun n i s => wX_followNames_71 post J2 (nI k) f1 f2 f3 f4 f5 n (nI i) stk tm co le nr s pp pr sf) (fun i s => (∀ u, cs_Wd u → ∀ e, e < k → cs_Pf tm e u (s (e * 121 + cs_ix u))) ∧ ∀ u, cs_Wd u → cs_ix u < i → cs_Pf tm k u (s (k * 121 + cs_ix u))) 121 0 nf (by omega) ⟨hF, fun u _ h => absurd h (by omega)⟩ ?_ ?_
  · intro n s e
    refine pk_le 121 121 (fun _ => nm_r (nI_1 k) (hJ s ?_)) (fun z => absurd z (by omega))
    intro u hu d hd
    rcases Nat.lt_or_ge d k with z | z
    · exact e.1 u hu d z
    · have ed : d = k := by omega
      subst ed
      exact e.2 u hu (cs_ix_lt hu)
  · intro n w s hw e ih
    refine pk_le 121 w (fun z => absurd z (by omega)) (fun _ => ?_)
    refine ⟨vp_in_nI (by omega) (by decide), cx_refN ?_⟩
    rw [cx_121]
    refine ⟨vp_in_nI (by omega) (by decide), nm_r (e' := upd s (k * 121 + w) (cs_RN tm (nr w))) (by rw [nI_clamp (by omega), nI_clamp (by omega)]) (nm_r (nI_1 w) (ih _ ⟨?_, ?_⟩))⟩
    · intro u hu d hd
      have := cs_ix_lt hu
      rw [pk_un (by omega)]
      exact e.1 u hu d hd
    · intro u hu hi
      rcases Nat.lt_or_ge (cs_ix u) w with z | z
      · rw [pk_un (by omega)]
        exact e.2 u hu z
      · have ew : cs_ix u = w := by omega
        subst ew
        rw [pk_us]
        exact cs_Pf_n (h0 u hu.2 hw)
theorem cx_ix0 {u : List Nat} (h : cs_ix u < 1) : u = [] := by
  cases u with
  | nil => rfl
  | cons a u => exact absurd h (by show ¬ 3 * cs_ix u + 1 + a < 1; omega)
theorem cx_fn19 {post : SX → Prop} {J2 : Int32 → (Nat → Int32) → (Nat → Int32) → (Nat → Int32) → (Nat → Int32) → (Nat → Int32) → (Nat → Int32) → (Nat → Int64) → (Nat → Int32) → (Nat → Int32) → Prop} {k : Nat} (hk : k < 8) (h0 : nr 0 = (1 : Int32) <<< (nI k &&& 31)) (hF : ∀ u, cs_Wd u → ∀ e, e < k → cs_Pf tm e u (nf (e * 121 + cs_ix u))) (hJ : ∀ N T, (∀ u, cs_Wd u → ∀ e, e < k + 1 → cs_Pf tm e u (T (e * 121 + cs_ix u))) → J2 (nI (k + 1)) stk tm co le N T pp pr sf) : ∃ n, wX_followNames_19 post J2 (nI k) f1 f2 f3 f4 f5 n 0 stk tm co le nr nf pp pr sf := by
  refine pk_loop (fun n i s => wX_followNames_19 post J2 (nI k) f1 f2 f3 f4 f5 n (nI i) stk tm co le s nf pp pr sf) (fun i s => cx_Tn tm k (3 * i + 1) s) 40 0 nr (by omega) ?_ ?_ ?_
  · intro u hu hi
    have e := cx_ix0 hi
    subst e
    show cs_Pn tm k [] (nr 0)
    rw [h0]
    exact cs_Pn_0 tm hk
  · intro n s e
    refine pk_le 40 40 (fun _ => cx_fn71 hk e hF (fun T hT => hJ s T hT)) (fun z => absurd z (by omega))
  · intro n w s hw e ih
    refine pk_le 40 w (fun z => absurd z (by omega)) (fun _ => cx_fn27 hw e (fun T hT => ih T hT))
theorem cx_followNames {post : SX → Prop} (h : ∀ N T, cs_XF tm T → post (f1, f2, f3, f4, f5, stk, tm, co, le, N, T, pp, pr, sf)) : wpX_followNames post (f1, f2, f3, f4, f5, stk, tm, co, le, nr, nf, pp, pr, sf) := by
  refine pk_loop (fun n i (s : (Nat → Int32) × (Nat → Int32)) => wX_followNames_2 post f1 f2 f3 f4 f5 n (nI i) stk tm co le s.1 s.2 pp pr sf) (fun i s => ∀ u, cs_Wd u → ∀ e, e < i → cs_Pf tm e u (s.2 (e * 121 + cs_ix u))) 8 0 (nr, nf) (by omega) (fun u _ e he => absurd he (by omega)) ?_ ?_
  · intro n s e
    exact pk_le 8 8 (fun _ => h s.1 s.2 e) (fun z => absurd z (by omega))
  · intro n k s hk e ih
    refine pk_le 8 k (fun z => absurd z (by omega)) (fun _ => nm_e ?_)
    exact cx_fn19 hk pk_us e (fun N T hT => ih (N, T) hT)
end CXN
