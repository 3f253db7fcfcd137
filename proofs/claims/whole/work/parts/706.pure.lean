abbrev pz_SC (B : Int) (F : Int → Int) (k : Nat) (E : Nat → Int → Int) (hist : Nat → TS) (old : Nat) (past : Nat → Int32) : Prop :=(pz_Inv B F) ∧ (k ≤ 6) ∧ (pz_HC hist old k E) ∧ (pz_PR past k E) ∧ (∀ i, i < k → pz_Inv B (E i))
theorem pz_SC.iv {B : Int} {F : Int → Int} {k : Nat} {E : Nat → Int → Int} {hist : Nat → TS} {old : Nat} {past : Nat → Int32} (h : pz_SC B F k E hist old past) : pz_Inv B F := h.1
theorem pz_SC.k6 {B : Int} {F : Int → Int} {k : Nat} {E : Nat → Int → Int} {hist : Nat → TS} {old : Nat} {past : Nat → Int32} (h : pz_SC B F k E hist old past) : k ≤ 6 := h.2.1
theorem pz_SC.hc {B : Int} {F : Int → Int} {k : Nat} {E : Nat → Int → Int} {hist : Nat → TS} {old : Nat} {past : Nat → Int32} (h : pz_SC B F k E hist old past) : pz_HC hist old k E := h.2.2.1
theorem pz_SC.pr {B : Int} {F : Int → Int} {k : Nat} {E : Nat → Int → Int} {hist : Nat → TS} {old : Nat} {past : Nat → Int32} (h : pz_SC B F k E hist old past) : pz_PR past k E := h.2.2.2.1
theorem pz_SC.ie {B : Int} {F : Int → Int} {k : Nat} {E : Nat → Int → Int} {hist : Nat → TS} {old : Nat} {past : Nat → Int32} (h : pz_SC B F k E hist old past) : ∀ i, i < k → pz_Inv B (E i) := h.2.2.2.2
theorem pz_SC.mono {B C : Int} {F : Int → Int} {k : Nat} {E : Nat → Int → Int} {hist : Nat → TS} {old : Nat} {past : Nat → Int32} (h : pz_SC B F k E hist old past) (hc : B ≤ C) : pz_SC C F k E hist old past := ⟨h.iv.mono hc, h.k6, h.hc, h.pr, fun i hi => (h.ie i hi).mono hc⟩
theorem pz_SC.save {B C : Int} {F G : Int → Int} {k : Nat} {E : Nat → Int → Int} {hist hist2 : Nat → TS} {old : Nat} {past past2 : Nat → Int32} (h : pz_SC B F k E hist old past) (h1 : pz_HC hist2 (pz_oup old k) (pz_kup k) (pz_pushE E k F)) (h2 : pz_PR past2 (pz_kup k) (pz_pushE E k F)) (hG : pz_Inv C G) (hc : B ≤ C) : pz_SC C G (pz_kup k) (pz_pushE E k F) hist2 (pz_oup old k) past2 := by
  refine ⟨hG, by have := h.k6; unfold pz_kup; split <;> omega, h1, h2, ?_⟩
  intro i hi
  have k6 := h.k6
  unfold pz_kup at hi
  unfold pz_pushE
  by_cases d : k = 6
  · rw [if_pos d] at hi ⊢
    by_cases e : i < 5
    · rw [if_pos e]; exact (h.ie (i + 1) (by omega)).mono hc
    · rw [if_neg e]; exact h.iv.mono hc
  · rw [if_neg d] at hi ⊢
    by_cases e : i < k
    · rw [if_pos e]; exact (h.ie i e).mono hc
    · rw [if_neg e]; exact h.iv.mono hc
theorem pz_isBelow_T {z b : Int} (h : 0 ≤ z) (h2 : z < b) (hb : b < 1000000) : s_X6_isBelow (iI z) (iI b) = some (iI 1) := by
  unfold s_X6_isBelow
  simp (disch := omega) only [pz_iI_add, pz_iI_sub, pz_iI_mul, pz_iI_div, pz_iI_0, pz_nI_iI, pz_gd_T, pz_iI_lt_T, pz_iI_lt_F, pz_iI_le_T, pz_iI_le_F, pz_iI_eq_F, if_true, if_false, Option.bind_some, pz_ar_at, pz_ar_upd, pz_setF_at, pz_setF_ne, pz_setR_ne]
theorem pz_isBelow_F {z b : Int} (h0 : -2147483648 ≤ z) (h1 : z < 2147483648) (h : ¬ (0 ≤ z ∧ z < b)) (hb0 : 0 ≤ b) (hb : b < 1000000) : s_X6_isBelow (iI z) (iI b) = some (iI 0) := by
  unfold s_X6_isBelow
  by_cases d : z < 0
  · simp (disch := omega) only [pz_iI_add, pz_iI_sub, pz_iI_mul, pz_iI_div, pz_iI_0, pz_nI_iI, pz_gd_T, pz_iI_lt_T, pz_iI_lt_F, pz_iI_le_T, pz_iI_le_F, pz_iI_eq_F, if_true, if_false, Option.bind_some, pz_ar_at, pz_ar_upd, pz_setF_at, pz_setF_ne, pz_setR_ne]
  · simp (disch := omega) only [pz_iI_add, pz_iI_sub, pz_iI_mul, pz_iI_div, pz_iI_0, pz_nI_iI, pz_gd_T, pz_iI_lt_T, pz_iI_lt_F, pz_iI_le_T, pz_iI_le_F, pz_iI_eq_F, if_true, if_false, Option.bind_some, pz_ar_at, pz_ar_upd, pz_setF_at, pz_setF_ne, pz_setR_ne]
theorem pz_in_T {z a b : Int} (h : a ≤ z) (h2 : z ≤ b) (ha : -1000000 ≤ a) (hb : b < 1000000) : s_X7_in (iI z) (iI a) (iI b) = some (iI 1) := by
  unfold s_X7_in
  simp (disch := omega) only [pz_iI_add, pz_iI_sub, pz_iI_mul, pz_iI_div, pz_iI_0, pz_nI_iI, pz_gd_T, pz_iI_lt_T, pz_iI_lt_F, pz_iI_le_T, pz_iI_le_F, pz_iI_eq_F, if_true, if_false, Option.bind_some, pz_ar_at, pz_ar_upd, pz_setF_at, pz_setF_ne, pz_setR_ne]
theorem pz_in_F {z a b : Int} (h0 : -2147483648 ≤ z) (h1 : z < 2147483648) (h : ¬ (a ≤ z ∧ z ≤ b)) (ha : -1000000 ≤ a) (ha2 : a < 1000000) (hb0 : -1000000 ≤ b) (hb : b < 1000000) : s_X7_in (iI z) (iI a) (iI b) = some (iI 0) := by
  unfold s_X7_in
  by_cases d : z < a
  · simp (disch := omega) only [pz_iI_add, pz_iI_sub, pz_iI_mul, pz_iI_div, pz_iI_0, pz_nI_iI, pz_gd_T, pz_iI_lt_T, pz_iI_lt_F, pz_iI_le_T, pz_iI_le_F, pz_iI_eq_F, if_true, if_false, Option.bind_some, pz_ar_at, pz_ar_upd, pz_setF_at, pz_setF_ne, pz_setR_ne]
  · simp (disch := omega) only [pz_iI_add, pz_iI_sub, pz_iI_mul, pz_iI_div, pz_iI_0, pz_nI_iI, pz_gd_T, pz_iI_lt_T, pz_iI_lt_F, pz_iI_le_T, pz_iI_le_F, pz_iI_eq_F, if_true, if_false, Option.bind_some, pz_ar_at, pz_ar_upd, pz_setF_at, pz_setF_ne, pz_setR_ne]
theorem pz_way_c {f t : Int} (h : pz_okWay f t) : s_X6_requireWay (iI f) (iI t) = some 0 := by
  unfold pz_okWay at h
  unfold s_X6_requireWay
  rw [pz_isBelow_T (by omega) (by omega) (by omega), Option.bind_some, if_neg (by decide)]
  simp (disch := omega) only [pz_iI_add, pz_iI_sub, pz_iI_mul, pz_iI_div, pz_iI_0, pz_nI_iI, pz_gd_T, pz_iI_lt_T, pz_iI_lt_F, pz_iI_le_T, pz_iI_le_F, pz_iI_eq_F, if_true, if_false, Option.bind_some, pz_ar_at, pz_ar_upd, pz_setF_at, pz_setF_ne, pz_setR_ne]
theorem pz_way_cF {f t : Int} (h0 : -2147483648 ≤ f) (h1 : f < 2147483648) (h2 : -2147483648 ≤ t) (h3 : t < 2147483648) (h : ¬ pz_okWay f t) : s_X6_requireWay (iI f) (iI t) = some 1 := by
  unfold pz_okWay at h
  unfold s_X6_requireWay
  by_cases d : 0 ≤ f ∧ f < 9
  · rw [pz_isBelow_T d.1 d.2 (by omega), Option.bind_some, if_neg (by decide)]
    by_cases e : t ≤ f
    · simp (disch := omega) only [pz_iI_add, pz_iI_sub, pz_iI_mul, pz_iI_div, pz_iI_0, pz_nI_iI, pz_gd_T, pz_iI_lt_T, pz_iI_lt_F, pz_iI_le_T, pz_iI_le_F, pz_iI_eq_F, if_true, if_false, Option.bind_some, pz_ar_at, pz_ar_upd, pz_setF_at, pz_setF_ne, pz_setR_ne]
    · simp (disch := omega) only [pz_iI_add, pz_iI_sub, pz_iI_mul, pz_iI_div, pz_iI_0, pz_nI_iI, pz_gd_T, pz_iI_lt_T, pz_iI_lt_F, pz_iI_le_T, pz_iI_le_F, pz_iI_eq_F, if_true, if_false, Option.bind_some, pz_ar_at, pz_ar_upd, pz_setF_at, pz_setF_ne, pz_setR_ne]
  · rw [pz_isBelow_F h0 h1 d (by omega) (by omega), Option.bind_some, if_pos (by decide)]
theorem pz_way_m {f t : Int} (h : pz_okWay f t) : s_X7_isWay (iI f) (iI t) = some (iI 1) := by
  unfold pz_okWay at h
  unfold s_X7_isWay
  rw [pz_in_T (by omega) (by omega) (by omega) (by omega), Option.bind_some, if_neg (by decide)]
  simp (disch := omega) only [pz_iI_add, pz_iI_sub, pz_iI_mul, pz_iI_div, pz_iI_0, pz_nI_iI, pz_gd_T, pz_iI_lt_T, pz_iI_lt_F, pz_iI_le_T, pz_iI_le_F, pz_iI_eq_F, if_true, if_false, Option.bind_some, pz_ar_at, pz_ar_upd, pz_setF_at, pz_setF_ne, pz_setR_ne]
theorem pz_way_mF {f t : Int} (h0 : -2147483648 ≤ f) (h1 : f < 2147483648) (h2 : -2147483648 ≤ t) (h3 : t < 2147483648) (h : ¬ pz_okWay f t) : s_X7_isWay (iI f) (iI t) = some (iI 0) := by
  unfold pz_okWay at h
  unfold s_X7_isWay
  by_cases d : 0 ≤ f ∧ f ≤ 8
  · rw [pz_in_T d.1 d.2 (by omega) (by omega), Option.bind_some, if_neg (by decide)]
    by_cases e : t ≤ f
    · simp (disch := omega) only [pz_iI_add, pz_iI_sub, pz_iI_mul, pz_iI_div, pz_iI_0, pz_nI_iI, pz_gd_T, pz_iI_lt_T, pz_iI_lt_F, pz_iI_le_T, pz_iI_le_F, pz_iI_eq_F, if_true, if_false, Option.bind_some, pz_ar_at, pz_ar_upd, pz_setF_at, pz_setF_ne, pz_setR_ne]
    · simp (disch := omega) only [pz_iI_add, pz_iI_sub, pz_iI_mul, pz_iI_div, pz_iI_0, pz_nI_iI, pz_gd_T, pz_iI_lt_T, pz_iI_lt_F, pz_iI_le_T, pz_iI_le_F, pz_iI_eq_F, if_true, if_false, Option.bind_some, pz_ar_at, pz_ar_upd, pz_setF_at, pz_setF_ne, pz_setR_ne]
  · rw [pz_in_F h0 h1 d (by omega) (by omega) (by omega) (by omega), Option.bind_some, if_pos (by decide)]
theorem pz_refused_T : s_X2_isRefused (iI (-1)) = some (iI 1) := by unfold s_X2_isRefused; rw [if_pos rfl]
theorem pz_refused_F {z : Int} (h : z ≠ -1) (h0 : -1000 ≤ z) (h1 : z < 1000) : s_X2_isRefused (iI z) = some (iI 0) := by
  unfold s_X2_isRefused
  rw [if_neg (by rw [pz_iI_eq (by omega) (by omega) (by omega) (by omega)]; exact h)]
theorem pz_full_c {F : Int → Int} (h0 : 0 ≤ F 6) (h1 : F 6 < 40) : s_X3_isFull (iI (F 6)) = some (iI 0) := by
  unfold s_X3_isFull
  simp (disch := omega) only [pz_iI_add, pz_iI_sub, pz_iI_mul, pz_iI_div, pz_iI_0, pz_nI_iI, pz_gd_T, pz_iI_lt_T, pz_iI_lt_F, pz_iI_le_T, pz_iI_le_F, pz_iI_eq_F, if_true, if_false, Option.bind_some, pz_ar_at, pz_ar_upd, pz_setF_at, pz_setF_ne, pz_setR_ne]
theorem pz_full_cF {F : Int → Int} (h1 : F 6 = 40) : s_X3_isFull (iI (F 6)) = some (iI 1) := by
  unfold s_X3_isFull
  rw [h1]
  simp (disch := omega) only [pz_iI_add, pz_iI_sub, pz_iI_mul, pz_iI_div, pz_iI_0, pz_nI_iI, pz_gd_T, pz_iI_lt_T, pz_iI_lt_F, pz_iI_le_T, pz_iI_le_F, pz_iI_eq_F, if_true, if_false, Option.bind_some, pz_ar_at, pz_ar_upd, pz_setF_at, pz_setF_ne, pz_setR_ne]
theorem pz_updL_0 (u : Nat → Int64) (v : Int64) : vp_updL u (iI 0).toNatClampNeg v 0 = v := if_pos (by decide)
theorem pz_lg_self (x : Int64) : lg_cmp x x = 0 := by
  unfold lg_cmp
  rw [if_neg (by show ¬ x < x; exact Int64.lt_irrefl), if_pos rfl]
theorem pz_gd01 : gd (iI 0) 1 = true := by decide
theorem pz_find_c {F : Int → Int} (hr : pz_rng F) {n : Nat} (hn : 3000 ≤ n) {f t : Int} (hw : pz_okWay f t) (pz_thr : Int32) : s_X5_findBerths n (pz_ar F 3 3) (pz_ar F 290 162) (pz_ar F 0 3) (iI f) (iI t) pz_thr = some (iI (pz_fnd F f t (!decide (pz_thr = 0))).1, iI (pz_fnd F f t (!decide (pz_thr = 0))).2.1, iI (pz_fnd F f t (!decide (pz_thr = 0))).2.2) := by
  unfold pz_okWay at hw
  exact pz_findBerths_s (pz_ar_row F 3 3) (pz_ar_row F 290 162) (pz_ar_row F 0 3) hr (by omega) hw.1 hw.2.1 hw.2.2
theorem pz_fnd_rg {F : Int → Int} {f t : Int} (hw : pz_okWay f t) (pz_thr : Bool) : -1 ≤ (pz_fnd F f t pz_thr).1 ∧ (pz_fnd F f t pz_thr).1 < 18 := by
  by_cases d : (pz_fnd F f t pz_thr).1 = -1
  · rw [d]; omega
  · have c := (pz_fnd_can hw d).ok
    unfold pz_okO at c
    omega
theorem pz_find_m {F : Int → Int} (hr : pz_rng F) {n : Nat} (hn : 3000 ≤ n) {f t : Int} (hw : pz_okWay f t) (on ot ch wo pz_thr : Int32) :
    ∃ o1 o2 o3 o4, s_X7_finds n on ot ch wo (pz_ar F 0 452) (iI f) (iI t) pz_thr = some (iI (pz_bi (pz_isB (pz_fnd F f t (!decide (pz_thr = 0))).1)), o1, o2, o3, o4) ∧
      ((pz_fnd F f t (!decide (pz_thr = 0))).1 ≠ -1 → o1 = iI (pz_fnd F f t (!decide (pz_thr = 0))).1 ∧ o2 = iI (pz_fnd F f t (!decide (pz_thr = 0))).2.1 ∧ o3 = iI (pz_fnd F f t (!decide (pz_thr = 0))).2.2 ∧ o4 = iI (pz_fwk F f t (pz_fnd F f t (!decide (pz_thr = 0))))) := by
  obtain ⟨w, rfl, hw1, hw2⟩ := pz_iI_surj wo
  unfold pz_okWay at hw
  obtain ⟨o1, o2, o3, w2, e, _, h⟩ := pz_finds_m (pz_ar_row F 0 452) hr (n := n) (by omega) hw.1 hw.2.1 hw.2.2 on ot ch hw1 hw2 pz_thr
  exact ⟨o1, o2, o3, iI w2, e, fun x => by have q := h x; exact ⟨q.1, q.2.1, q.2.2.1, by rw [q.2.2.2]⟩⟩
theorem pz_book_p {B : Int} {F : Int → Int} {k : Nat} {E : Nat → Int → Int} {hist : Nat → TS} {old : Nat} {past : Nat → Int32} (h : pz_SC B F k E hist old past) (hB : B < 900000) {n : Nat} (hn : 3000 ≤ n) (th on ot ch wo a1 a2 a3 : Int32) (u : Nat → Int64) :
    ∃ (r b on2 ot2 ch2 wo2 : Int32) (G : Int → Int) (k2 : Nat) (E2 : Nat → Int → Int) (hist2 : Nat → TS) (old2 : Nat) (past2 : Nat → Int32) (u2 : Nat → Int64),
      s_L_book n (iI old) (iI k) (iI (F 7)) (iI (F 8)) (iI (F 9)) (pz_ar F 3 3) (pz_ar F 290 162) (iI (F 6)) (pz_ar F 10 280) (pz_ar F 0 3) u hist a1 a2 a3 = some (r, iI old2, iI k2, iI (G 7), iI (G 8), pz_ar G 290 162, iI (G 6), pz_ar G 10 280, u2, hist2) ∧
      s_X7_book n (iI k) th on ot ch wo (pz_ar F 0 452) past a1 a2 a3 = some (b, iI k2, r, on2, ot2, ch2, wo2, pz_ar G 0 452, past2) ∧
      (r = 0 → lg_cmp (u2 0) b.toInt64 = 0) ∧ pz_SC (B + 1) G k2 E2 hist2 old2 past2 ∧ iI (F 9) = iI (G 9) ∧ pz_ar F 3 3 = pz_ar G 3 3 ∧ pz_ar F 0 3 = pz_ar G 0 3 := by
  obtain ⟨f, rfl, f1, f2⟩ := pz_iI_surj a1
  obtain ⟨t, rfl, t1, t2⟩ := pz_iI_surj a2
  have iv := h.iv
  have sz := iv.sz
  have ct := iv.ct
  unfold s_L_book s_X6_book s_X7_book
  by_cases hw : pz_okWay f t
  · rw [pz_way_c hw, pz_way_m hw, Option.bind_some, if_pos rfl, pz_find_c iv.rg hn hw, Option.bind_some, Option.bind_some, if_neg (by decide)]
    obtain ⟨o1, o2, o3, o4, fe, fo⟩ := pz_find_m iv.rg hn hw on ot ch wo a3
    rw [fe, if_pos (by decide), pz_ar_at (by omega) (by omega) (by omega)]
    have rg := pz_fnd_rg (F := F) hw (!decide (a3 = 0))
    have can := pz_fnd_can (F := F) (pz_thr := !decide (a3 = 0)) hw
    generalize pz_fnd F f t (!decide (a3 = 0)) = O at *
    obtain ⟨a, b, c⟩ := O
    dsimp only at *
    rw [show (0 : Int) + 6 = 6 from rfl]
    by_cases g : F 6 = 40
    · rw [pz_full_cF g, if_pos (by rw [g])]
      exact ⟨_, _, _, _, _, _, F, k, E, hist, old, past, _, rfl, rfl, fun q => absurd q (by decide), h.mono (by omega), rfl, rfl, rfl⟩
    · rw [pz_full_c sz.1 (by omega), if_neg (by rw [pz_iI_eq (by omega) (by omega) (by omega) (by omega)]; exact g)]
      by_cases e : a = -1
      · rw [e, pz_refused_T, pz_isB_no rfl]
        exact ⟨_, _, _, _, _, _, F, k, E, hist, old, past, _, rfl, rfl, fun q => absurd q (by decide), h.mono (by omega), rfl, rfl, rfl⟩
      · have cc := can e
        have fo2 := fo e
        have tr := pz_thI_rg a3
        obtain ⟨hist2, k1, k2⟩ := pz_keep_a F hn h.hc
        obtain ⟨past2, p1, p2⟩ := pz_saves_a F hn h.k6 h.pr
        rw [pz_refused_F e (by omega) (by omega), pz_isB_yes e, k1, p1, fo2.1, fo2.2.1, fo2.2.2.1, pz_admit_a iv.rg hn sz.1 (by omega) hw cc.ok]
        simp only [Option.bind_some]
        rw [pz_comes_a iv.rg hn sz.1 (by omega) hw cc.ok]
        have lo := fun z hz => pz_admitF_lo F (th := pz_thI a3) sz.1 (by omega) hw cc.ok (z := z) hz
        have e6 : pz_admitF F f t (pz_thI a3) a b c 6 = F 6 + 1 := by rw [lo 6 (by omega), if_pos rfl]
        have e7 : pz_admitF F f t (pz_thI a3) a b c 7 = F 7 + 1 := by rw [lo 7 (by omega), if_neg (by omega), if_pos rfl]
        have e8 : pz_admitF F f t (pz_thI a3) a b c 8 = F 8 + 1 := by rw [lo 8 (by omega), if_neg (by omega), if_neg (by omega), if_pos rfl]
        have e9 : ∀ z : Int, z < 10 → z ≠ 6 → z ≠ 7 → z ≠ 8 → F z = pz_admitF F f t (pz_thI a3) a b c z := fun z h1 h2 h3 h4 => by rw [lo z h1, if_neg h2, if_neg h3, if_neg h4]
        refine ⟨iI 0, iI (F 7), _, _, _, _, pz_admitF F f t (pz_thI a3) a b c, _, _, hist2, _, past2, vp_updL u (iI 0).toNatClampNeg (iI (F 7)).toInt64, ?_, rfl, ?_, h.save k2 p2 (pz_inv_admit iv hB (by omega) hw tr cc) (by omega), by rw [e9 9 (by omega) (by omega) (by omega) (by omega)], pz_ar_congr (fun z x1 x2 => e9 z (by omega) (by omega) (by omega) (by omega)), pz_ar_congr (fun z x1 x2 => e9 z (by omega) (by omega) (by omega) (by omega))⟩
        · rw [e6, e7, e8]; rfl
        · intro _; rw [pz_updL_0]; exact pz_lg_self _
  · rw [pz_way_cF f1 f2 t1 t2 hw, pz_way_mF f1 f2 t1 t2 hw]
    exact ⟨_, _, _, _, _, _, F, k, E, hist, old, past, _, rfl, rfl, fun q => absurd q (by decide), h.mono (by omega), rfl, rfl, rfl⟩
theorem pz_iI_inj {a b : Int} (h1 : -2147483648 ≤ a) (h2 : a < 2147483648) (h3 : -2147483648 ≤ b) (h4 : b < 2147483648) (h : iI a = iI b) : a = b := by rwa [pz_iI_eq h1 h2 h3 h4] at h
theorem pz_reqRow_T {F : Int → Int} (hr : pz_rng F) (h0 : 0 ≤ F 6) (h6 : F 6 ≤ 40) {n : Nat} (hn : 3000 ≤ n) {v : Int} (h1 : -2147483648 ≤ v) (h2 : v < 2147483648) (h : pz_rowN F v ≠ -1) : s_X6_requireRow n (iI (F 6)) (pz_ar F 10 280) (iI v) = some (0, iI (pz_rowN F v)) := by
  have s := (pz_rowN_spec F v h0).resolve_left h
  unfold s_X6_requireRow
  rw [pz_rowOf_a hr h0 h6 hn h1 h2, Option.bind_some, if_neg (by rw [pz_iI_eq (by omega) (by omega) (by omega) (by omega)]; exact h)]
theorem pz_reqRow_F {F : Int → Int} (hr : pz_rng F) (h0 : 0 ≤ F 6) (h6 : F 6 ≤ 40) {n : Nat} (hn : 3000 ≤ n) {v : Int} (h1 : -2147483648 ≤ v) (h2 : v < 2147483648) (h : pz_rowN F v = -1) : s_X6_requireRow n (iI (F 6)) (pz_ar F 10 280) (iI v) = some (3, 0) := by
  unfold s_X6_requireRow
  rw [pz_rowOf_a hr h0 h6 hn h1 h2, Option.bind_some, if_pos (by rw [h])]
theorem pz_cancel_p {B : Int} {F : Int → Int} {k : Nat} {E : Nat → Int → Int} {hist : Nat → TS} {old : Nat} {past : Nat → Int32} (h : pz_SC B F k E hist old past) {n : Nat} (hn : 3000 ≤ n) (th a1 : Int32) (u : Nat → Int64) :
    ∃ (r b : Int32) (G : Int → Int) (k2 : Nat) (E2 : Nat → Int → Int) (hist2 : Nat → TS) (old2 : Nat) (past2 : Nat → Int32) (u2 : Nat → Int64),
      s_L_cancel n (iI old) (iI k) (iI (F 7)) (iI (F 8)) (iI (F 9)) (pz_ar F 3 3) (pz_ar F 290 162) (iI (F 6)) (pz_ar F 10 280) (pz_ar F 0 3) u hist a1 = some (r, iI old2, iI k2, pz_ar G 290 162, iI (G 6), pz_ar G 10 280, u2, hist2) ∧
      s_X7_cancel n (iI k) th (pz_ar F 0 452) past a1 = some (b, iI k2, r, pz_ar G 0 452, past2) ∧
      (r = 0 → lg_cmp (u2 0) b.toInt64 = 0) ∧ pz_SC B G k2 E2 hist2 old2 past2 ∧ F 7 = G 7 ∧ F 8 = G 8 ∧ F 9 = G 9 ∧ pz_ar F 3 3 = pz_ar G 3 3 ∧ pz_ar F 0 3 = pz_ar G 0 3 := by
  obtain ⟨v, rfl, v1, v2⟩ := pz_iI_surj a1
  have iv := h.iv
  have sz := iv.sz
  have st := iv.st
  unfold s_L_cancel s_X6_cancel s_X7_cancel
  rw [pz_placeOf_a iv.rg sz.1 sz.2 hn v1 v2]
  simp only [Option.bind_some]
  by_cases g : pz_rowN F v = -1
  · rw [pz_reqRow_F iv.rg sz.1 sz.2 hn v1 v2 g, if_pos (by rw [g])]
    exact ⟨_, _, F, k, E, hist, old, past, _, rfl, rfl, fun q => absurd q (by decide), h, rfl, rfl, rfl, rfl, rfl⟩
  · have s := (pz_rowN_spec F v sz.1).resolve_left g
    rw [pz_reqRow_T iv.rg sz.1 sz.2 hn v1 v2 g, if_neg (by rw [pz_iI_eq (by omega) (by omega) (by omega) (by omega)]; exact g)]
    generalize pz_rowN F v = p at *
    simp only [Option.bind_some, if_true]
    have pp := iv.ps p s.1 s.2.1
    have lo : ∀ z : Int, z < 10 → _ := fun z hz => pz_dropF_lo pp.1 s.1 (z := z) hz
    have e6 : pz_dropF F p 6 = F 6 - 1 := by rw [lo 6 (by omega), if_pos rfl]
    have e9 : ∀ z : Int, z < 10 → z ≠ 6 → F z = pz_dropF F p z := fun z x1 x2 => by rw [lo z x1, if_neg x2]
    obtain ⟨hist2, k1, k2⟩ := pz_keep_a F hn h.hc
    obtain ⟨past2, p1, p2⟩ := pz_saves_a F hn h.k6 h.pr
    have e : pz_ar (pz_freeF F v) 0 452 = pz_ar (pz_wayF F p (-1)) 0 452 := by rw [← s.2.2, pz_free_way iv s.1 s.2.1]
    have w6 : pz_wayF F p (-1) 6 = F 6 := pz_way_out pp.1 (by omega)
    have cl := pz_cancel_L (G := pz_setF (pz_wayF F p (-1)) 6 (F 6 - 1)) n s.1 (show F 6 - 1 < 40 by omega) (show p ≤ F 6 - 1 by omega) (pz_setF_eq _ _ _) (iI (pz_kup k)) (iI 0) past2 (iI (pz_tipF F p)) (7 * (F 6 - 1) - 7 * p).toNat (10 + 7 * p) (by omega) (by omega) n (by omega)
    have d0 : pz_ar (pz_setF (pz_wayF F p (-1)) 6 (F 6 - 1)) 0 452 = pz_ar (pz_drc (pz_setF (pz_wayF F p (-1)) 6 (F 6 - 1)) p (10 + 7 * p)) 0 452 := pz_ar_congr (fun z _ _ => by rw [pz_drc_hi (by omega)])
    rw [pz_property_a iv.rg hn s.1 (by omega) pp.1 ⟨st.2.2.2.2.1, st.2.2.2.2.2⟩ (by omega) (by omega), show pz_prp F p 8 = pz_tipF F p from rfl, k1, pz_dismiss_a iv.rg hn s.1 s.2.1 sz.2 pp.1, p1, pz_tip_m iv.rg hn s.1 (by omega) pp.1 ⟨st.2.2.2.2.1, st.2.2.2.2.2⟩, pz_frees_a iv.rg hn v1 v2, e]
    simp only [Option.bind_some]
    rw [if_pos (by decide), if_pos (by decide), pz_ar_at (by omega) (by omega) (by omega), pz_iI_sub, show (0 : Int) + 6 = 6 from rfl, w6, pz_ar_upd (by omega) (by omega) (by omega), show (0 : Int) + 6 = 6 from rfl, pz_iI_mul, pz_iI_add, d0, cl]
    refine ⟨iI 0, iI (pz_tipF F p), pz_dropF F p, _, _, hist2, _, past2, vp_updL u (iI 0).toNatClampNeg (iI (pz_tipF F p)).toInt64, ?_, rfl, ?_, h.save k2 p2 (pz_inv_drop iv s.1 s.2.1) (by omega), e9 7 (by omega) (by omega), e9 8 (by omega) (by omega), e9 9 (by omega) (by omega), pz_ar_congr (fun z x1 x2 => e9 z (by omega) (by omega)), pz_ar_congr (fun z x1 x2 => e9 z (by omega) (by omega))⟩
    · rw [e6]
    · intro _; rw [pz_updL_0]; exact pz_lg_self _
theorem pz_setR_setF {F : Int → Int} {a b v k w : Int} (h : k < a ∨ b ≤ k) : pz_setF (pz_setR F a b v) k w = pz_setR (pz_setF F k w) a b v := by
  funext z
  by_cases e : z = k
  · rw [pz_setF_at e, pz_setR_ne (by omega), pz_setF_at e]
  · rw [pz_setF_ne e]
    by_cases d : a ≤ z ∧ z < b
    · rw [pz_setR_in d, pz_setR_in d]
    · rw [pz_setR_ne d, pz_setR_ne d, pz_setF_ne e]
theorem pz_re_place (W : Int → Int) {p b v : Int} (hp : 0 ≤ p) (hp2 : p < 40) (hb : 0 ≤ b) (hf : 0 ≤ pz_fld W p 1) : pz_setF (pz_setF (pz_setF (pz_setR W (290 + (9 * b + pz_fld W p 1)) (290 + (9 * b + pz_fld W p 2)) v) (10 + (7 * p + 4)) b) (10 + (7 * p + 5)) b) (10 + (7 * p + 6)) (-1) = pz_wayF (pz_setB W p b b (-1)) p v := by
  have m : pz_mid (pz_setB W p b b (-1)) p = pz_fld W p 2 := by
    unfold pz_mid
    rw [pz_setB_6, if_pos rfl, pz_setB_lo _ _ _ _ _ (by omega) (by omega) hp hp]
  unfold pz_wayF
  rw [m, pz_setB_4, pz_setB_5, pz_setB_lo _ _ _ _ _ (by omega) (by omega) hp hp, pz_setB_lo _ _ _ _ _ (by omega) (by omega) hp hp, pz_setR_no (a := 290 + (9 * b + pz_fld W p 2)) (by omega), pz_setR_setF (by omega), pz_setR_setF (by omega), pz_setR_setF (by omega)]
  rfl
theorem pz_place_p {B : Int} {F : Int → Int} {k : Nat} {E : Nat → Int → Int} {hist : Nat → TS} {old : Nat} {past : Nat → Int32} (h : pz_SC B F k E hist old past) {n : Nat} (hn : 3000 ≤ n) (th a1 a2 : Int32) (u : Nat → Int64) :
    ∃ (r b : Int32) (G : Int → Int) (k2 : Nat) (E2 : Nat → Int → Int) (hist2 : Nat → TS) (old2 : Nat) (past2 : Nat → Int32) (u2 : Nat → Int64),
      s_L_place n (iI old) (iI k) (iI (F 7)) (iI (F 8)) (iI (F 9)) (pz_ar F 3 3) (pz_ar F 290 162) (iI (F 6)) (pz_ar F 10 280) (pz_ar F 0 3) u hist a1 a2 = some (r, iI old2, iI k2, pz_ar G 290 162, pz_ar G 10 280, u2, hist2) ∧
      s_X7_place n (iI k) th (pz_ar F 0 452) past a1 a2 = some (b, iI k2, r, pz_ar G 0 452, past2) ∧
      (r = 0 → lg_cmp (u2 0) b.toInt64 = 0) ∧ pz_SC B G k2 E2 hist2 old2 past2 ∧ F 6 = G 6 ∧ F 7 = G 7 ∧ F 8 = G 8 ∧ F 9 = G 9 ∧ pz_ar F 3 3 = pz_ar G 3 3 ∧ pz_ar F 0 3 = pz_ar G 0 3 := by
  obtain ⟨v, rfl, v1, v2⟩ := pz_iI_surj a1
  obtain ⟨b, rfl, b1, b2⟩ := pz_iI_surj a2
  have iv := h.iv
  have sz := iv.sz
  have st := iv.st
  unfold s_L_place s_X6_place s_X7_place
  rw [pz_placeOf_a iv.rg sz.1 sz.2 hn v1 v2]
  simp only [Option.bind_some]
  by_cases g : pz_rowN F v = -1
  · rw [pz_reqRow_F iv.rg sz.1 sz.2 hn v1 v2 g, if_pos (by rw [g])]
    exact ⟨_, _, F, k, E, hist, old, past, _, rfl, rfl, fun q => absurd q (by decide), h, rfl, rfl, rfl, rfl, rfl, rfl⟩
  · have s := (pz_rowN_spec F v sz.1).resolve_left g
    rw [pz_reqRow_T iv.rg sz.1 sz.2 hn v1 v2 g, if_neg (by rw [pz_iI_eq (by omega) (by omega) (by omega) (by omega)]; exact g)]
    generalize pz_rowN F v = p at *
    by_cases gb : 0 ≤ b ∧ b < 18
    · rw [pz_isBelow_T gb.1 gb.2 (by omega), pz_in_T gb.1 (show b ≤ 17 by omega) (by omega) (by omega)]
      have pp := iv.ps p s.1 s.2.1
      have ok := pp.1
      unfold pz_okw at ok
      simp only [Option.bind_some]
      rw [pz_mayHave_a iv.rg hn s.1 (by omega) gb.1 gb.2 pp.1 pp.2.2.2, pz_canHave_a iv.rg hn s.1 (by omega) gb.1 gb.2 pp.1 pp.2.2.2]
      cases hm : pz_mhB F p b with
      | false => exact ⟨_, _, F, k, E, hist, old, past, _, rfl, rfl, fun q => absurd q (by decide), h, rfl, rfl, rfl, rfl, rfl, rfl⟩
      | true =>
        have cc := pz_mhB_can gb.1 gb.2 hm
        have o := pz_okw_re iv s.1 s.2.1 cc.ok
        have lo : ∀ z : Int, z < 10 → F z = pz_reF F p b b (-1) z := fun z hz => (pz_reF_lo iv s.1 s.2.1 cc.ok hz).symm
        obtain ⟨hist2, k1, k2⟩ := pz_keep_a F hn h.hc
        obtain ⟨past2, p1, p2⟩ := pz_saves_a F hn h.k6 h.pr
        have e : pz_ar (pz_freeF F v) 0 452 = pz_ar (pz_wayF F p (-1)) 0 452 := by rw [← s.2.2, pz_free_way iv s.1 s.2.1]
        have f1 : pz_fld (pz_wayF F p (-1)) p 1 = pz_fld F p 1 := pz_way_fld pp.1 (by omega) (by omega)
        have f2 : pz_fld (pz_wayF F p (-1)) p 2 = pz_fld F p 2 := pz_way_fld pp.1 (by omega) (by omega)
        rw [pz_property_a iv.rg hn s.1 (by omega) pp.1 ⟨st.2.2.2.2.1, st.2.2.2.2.2⟩ (by omega) (by omega), show pz_prp F p 4 = pz_fld F p 4 from rfl, k1, p1, pz_of_a s.1 (by omega) (by omega) (by omega), pz_frees_a iv.rg hn v1 v2, e]
        unfold s_X2_init
        simp only [Option.bind_some]
        rw [pz_of_a s.1 (by omega) (by omega) (by omega), pz_of_a s.1 (by omega) (by omega) (by omega), f1, f2, pz_reseat_a iv hn s.1 s.2.1 cc]
        simp only [Option.bind_some]
        rw [pz_has_a hn gb.1 gb.2 (by omega) (by omega) (by omega)]
        have e2 : pz_ar (pz_setF (pz_setF (pz_setF (pz_setR (pz_wayF F p (-1)) (290 + (9 * b + pz_fld F p 1)) (290 + (9 * b + pz_fld F p 2)) v) (10 + (7 * p + 4)) b) (10 + (7 * p + 5)) b) (10 + (7 * p + 6)) (-1)) 0 452 = pz_ar (pz_reF F p b b (-1)) 0 452 := by
          have q := pz_re_place (pz_wayF F p (-1)) (v := v) s.1 (show p < 40 by omega) gb.1 (by rw [f1]; omega)
          rw [f1, f2] at q
          rw [q]
          unfold pz_reF
          rw [s.2.2]
        simp (disch := omega) only [pz_iI_add, pz_iI_sub, pz_iI_mul, pz_iI_div, pz_iI_0, pz_nI_iI, pz_gd_T, pz_iI_lt_T, pz_iI_lt_F, pz_iI_le_T, pz_iI_le_F, pz_iI_eq_F, if_true, if_false, Option.bind_some, pz_ar_at, pz_ar_upd, pz_setF_at, pz_setF_ne, pz_setR_ne, Int.zero_add, Int.add_assoc, e2]
        refine ⟨iI 0, iI (pz_fld F p 4), pz_reF F p b b (-1), _, _, hist2, _, past2, vp_updL u (iI 0).toNatClampNeg (iI (pz_fld F p 4)).toInt64, ?_, rfl, ?_, h.save k2 p2 (pz_inv_re iv s.1 s.2.1 cc) (by omega), lo 6 (by omega), lo 7 (by omega), lo 8 (by omega), lo 9 (by omega), pz_ar_congr (fun z x1 x2 => lo z (by omega)), pz_ar_congr (fun z x1 x2 => lo z (by omega))⟩
        · rfl
        · intro _; rw [pz_updL_0]; exact pz_lg_self _
    · rw [pz_isBelow_F b1 b2 gb (by omega) (by omega), pz_in_F b1 b2 (show ¬ (0 ≤ b ∧ b ≤ 17) by omega) (by omega) (by omega) (by omega) (by omega)]
      exact ⟨_, _, F, k, E, hist, old, past, _, rfl, rfl, fun q => absurd q (by decide), h, rfl, rfl, rfl, rfl, rfl, rfl⟩
theorem pz_okw_way {F : Int → Int} {p h : Int} (ok : pz_okw F p) (hp : p < 40) : pz_okw (pz_wayF F p h) p := (pz_okw_congr (fun d _ h4 => pz_way_fld ok hp h4)).mpr ok
theorem pz_findAnew_a {B : Int} {F : Int → Int} (h : pz_Inv B F) {n : Nat} (hn : 3000 ≤ n) {p : Int} (h0 : 0 ≤ p) (h1 : p < F 6) : s_X5_findAnew n (pz_ar F 3 3) (pz_ar F 290 162) (pz_ar F 10 280) (pz_ar F 0 3) (iI p) = some (iI (pz_fnd (pz_wayF F p (-1)) (pz_fld F p 1) (pz_fld F p 2) false).1, iI (pz_fnd (pz_wayF F p (-1)) (pz_fld F p 1) (pz_fld F p 2) false).2.1, iI (pz_fnd (pz_wayF F p (-1)) (pz_fld F p 1) (pz_fld F p 2) false).2.2, pz_ar F 290 162) := by
  have sz := h.sz
  have ok := (h.ps p h0 h1).1
  have ok2 := ok
  unfold pz_okw at ok2
  have rW : pz_rng (pz_wayF F p (-1)) := pz_rng_way h.rg (by omega) (by omega)
  have e1 : pz_ar F 3 3 = pz_ar (pz_wayF F p (-1)) 3 3 := (pz_ar_way (by omega) ok).symm
  have e2 : pz_ar F 0 3 = pz_ar (pz_wayF F p (-1)) 0 3 := (pz_ar_way (by omega) ok).symm
  have e3 : pz_ar F 10 280 = pz_ar (pz_wayF F p (-1)) 10 280 := (pz_ar_way (by omega) ok).symm
  have hw : pz_okWay (pz_fld F p 1) (pz_fld F p 2) := ⟨ok2.1, ok2.2.1, ok2.2.2.1⟩
  have fc := pz_find_c rW hn hw (iI 0)
  rw [show (!decide (iI 0 = (0 : Int32))) = false from rfl] at fc
  unfold s_X5_findAnew
  rw [pz_giveBerths_a h.rg hn h0 (by omega) ok, pz_at_a h0 (by omega) (by omega) (by omega), pz_at_a h0 (by omega) (by omega) (by omega), pz_at_a h0 (by omega) (by omega) (by omega)]
  simp only [Option.bind_some]
  rw [e1, e2, fc, e3]
  simp only [Option.bind_some]
  rw [pz_giveBerths_a rW hn h0 (by omega) (pz_okw_way ok (by omega)), pz_way_back h h0 h1]
  rfl
theorem pz_isAnew_a {B : Int} {F H : Int → Int} (h : pz_Inv B F) {n : Nat} (hn : 3000 ≤ n) {p : Int} (h0 : 0 ≤ p) (h1 : p < F 6) (on ot ch wo : Int32) :
    ∃ o1 o2 o3 o4, s_X7_isAnew n on ot ch wo (pz_ar F 0 452) (pz_ar H 0 452) (iI p) = some (iI (pz_bi (decide (pz_fld F p 3 = 0) && pz_isB (pz_fnd (pz_wayF F p (-1)) (pz_fld F p 1) (pz_fld F p 2) false).1)), o1, o2, o3, o4, pz_ar (pz_wayF F p (-1)) 0 452) ∧
      (pz_fld F p 3 = 0 → (pz_fnd (pz_wayF F p (-1)) (pz_fld F p 1) (pz_fld F p 2) false).1 ≠ -1 → o1 = iI (pz_fnd (pz_wayF F p (-1)) (pz_fld F p 1) (pz_fld F p 2) false).1 ∧ o2 = iI (pz_fnd (pz_wayF F p (-1)) (pz_fld F p 1) (pz_fld F p 2) false).2.1 ∧ o3 = iI (pz_fnd (pz_wayF F p (-1)) (pz_fld F p 1) (pz_fld F p 2) false).2.2) := by
  have sz := h.sz
  have pp := h.ps p h0 h1
  have ok := pp.1
  have ok2 := ok
  unfold pz_okw at ok2
  have rW : pz_rng (pz_wayF F p (-1)) := pz_rng_way h.rg (by omega) (by omega)
  have hw : pz_okWay (pz_fld F p 1) (pz_fld F p 2) := ⟨ok2.1, ok2.2.1, ok2.2.2.1⟩
  have c := pz_copies_a (A := pz_ar F 0 452) (B := pz_ar H 0 452) hn (v1 := 452) (v2 := 452) (a := 0) (c := 0) (by omega) (by omega) (by omega) (by omega)
  have ce : pz_cpy (pz_ar F 0 452) (pz_ar H 0 452) 0 0 452 = pz_ar F 0 452 := by
    funext j
    unfold pz_cpy pz_ar
    by_cases d : j < 452
    · rw [if_pos (by omega), show j - 0 + 0 = j by omega, if_pos d]
    · rw [if_neg (by omega), if_neg d, if_neg d]
  rw [ce, show iI ((0 : Nat) : Int) = iI 0 from rfl] at c
  obtain ⟨o1, o2, o3, o4, fe, fo⟩ := pz_find_m rW hn hw on ot ch wo (iI 0)
  rw [show (!decide (iI 0 = (0 : Int32))) = false from rfl] at fe fo
  unfold s_X7_isAnew
  rw [c, pz_of_a h0 (by omega) (by omega) (by omega), pz_of_a h0 (by omega) (by omega) (by omega), pz_of_a h0 (by omega) (by omega) (by omega), pz_of_a h0 (by omega) (by omega) (by omega)]
  simp only [Option.bind_some]
  rw [pz_frees_a h.rg hn (by omega) (by have := h.rg (10 + (7 * p + 0)); unfold pz_fld; omega), pz_free_way h h0 h1]
  simp only [Option.bind_some]
  by_cases d : pz_fld F p 3 = 0
  · rw [if_pos (by rw [d]; rfl), fe, decide_eq_true d, Bool.true_and]
    cases e : pz_isB (pz_fnd (pz_wayF F p (-1)) (pz_fld F p 1) (pz_fld F p 2) false).1 with
    | true => exact ⟨_, _, _, _, rfl, fun _ x => by have q := fo x; exact ⟨q.1, q.2.1, q.2.2.1⟩⟩
    | false => exact ⟨_, _, _, _, rfl, fun _ x => by have q := fo x; exact ⟨q.1, q.2.1, q.2.2.1⟩⟩
  · rw [if_neg (by rw [pz_iI_0, pz_iI_eq (by omega) (by omega) (by omega) (by omega)]; exact d), decide_eq_false d, Bool.false_and]
    exact ⟨_, _, _, _, rfl, fun x => absurd x d⟩
theorem pz_can_re {B : Int} {F : Int → Int} (h : pz_Inv B F) {p a b c : Int} (h0 : 0 ≤ p) (h1 : p < F 6) (hc : pz_Can (pz_wayF F p (-1)) (pz_fld F p 1) (pz_fld F p 2) a b c) : pz_Can2 F p (pz_fld F p 1) (pz_fld F p 2) a b c := by
  have ok := (h.ps p h0 h1).1
  have ok2 := ok
  unfold pz_okw at ok2
  have ho := hc.ok
  unfold pz_okO at ho
  have key : ∀ bq l : Int, 0 ≤ bq → 0 ≤ l → l < 9 → pz_wayF F p (-1) (290 + (bq * 9 + l)) = -1 → F (290 + (bq * 9 + l)) = -1 ∨ F (290 + (bq * 9 + l)) = pz_fld F p 0 := by
    intro bq l x0 x2 x3 e
    by_cases d : pz_cov F p bq l
    · exact Or.inr (h.h1 p bq l h0 h1 d)
    · rw [pz_way_not ok x0 x2 x3 d] at e; exact Or.inl e
  refine ⟨hc.ok, ?_, ?_⟩
  · intro l x1 x2
    refine key a l (by omega) (by omega) ?_ (hc.o1 l x1 x2)
    split at x2 <;> omega
  · intro l x1 x2
    refine key b l (by omega) ?_ (by omega) (hc.o2 l x1 x2)
    split at x1 <;> omega
def pz_rbF (F : Int → Int) (p a b c : Int) : Int → Int := pz_setF (pz_reF F p a b c) 8 (F 8 + 1)
theorem pz_inv_rb {B : Int} {F : Int → Int} (h : pz_Inv B F) (hB : B < 900000) {p a b c : Int} (h0 : 0 ≤ p) (h1 : p < F 6) (hc : pz_Can2 F p (pz_fld F p 1) (pz_fld F p 2) a b c) : pz_Inv (B + 1) (pz_rbF F p a b c) := by
  have r := pz_inv_re h h0 h1 hc
  have ct := h.ct
  have lo : ∀ z : Int, z < 10 → pz_reF F p a b c z = F z := fun z hz => pz_reF_lo h h0 h1 hc.ok hz
  have st := r.st
  have en := r.en
  have c2 := r.ct
  unfold pz_rbF
  refine pz_inv_low r (by omega) (by omega) (by omega) (by omega) (by omega) ?_ ?_ ?_
  · rw [pz_setF_ne (by omega), pz_setF_ne (by omega), pz_setF_ne (by omega)]; exact st
  · intro x x0 x1; rw [pz_setF_ne (by omega)]; exact en x x0 x1
  · rw [pz_setF_ne (by omega), pz_setF_eq, pz_setF_ne (by omega)]; omega
theorem pz_rebook_p {B : Int} {F : Int → Int} {k : Nat} {E : Nat → Int → Int} {hist : Nat → TS} {old : Nat} {past : Nat → Int32} (h : pz_SC B F k E hist old past) (hB : B < 900000) {n : Nat} (hn : 3000 ≤ n) (th on ot ch wo a1 : Int32) (H : Int → Int) (u : Nat → Int64) :
    ∃ (r b on2 ot2 ch2 wo2 : Int32) (G H2 : Int → Int) (k2 : Nat) (E2 : Nat → Int → Int) (hist2 : Nat → TS) (old2 : Nat) (past2 : Nat → Int32) (u2 : Nat → Int64),
      s_L_rebook n (iI old) (iI k) (iI (F 7)) (iI (F 8)) (iI (F 9)) (pz_ar F 3 3) (pz_ar F 290 162) (iI (F 6)) (pz_ar F 10 280) (pz_ar F 0 3) u hist a1 = some (r, iI old2, iI k2, iI (G 8), pz_ar G 290 162, pz_ar G 10 280, u2, hist2) ∧
      s_X7_rebook n (iI k) th on ot ch wo (pz_ar F 0 452) past (pz_ar H 0 452) a1 = some (b, iI k2, r, on2, ot2, ch2, wo2, pz_ar G 0 452, past2, pz_ar H2 0 452) ∧
      (r = 0 → lg_cmp (u2 0) b.toInt64 = 0) ∧ pz_SC (B + 1) G k2 E2 hist2 old2 past2 ∧ F 6 = G 6 ∧ F 7 = G 7 ∧ F 9 = G 9 ∧ pz_ar F 3 3 = pz_ar G 3 3 ∧ pz_ar F 0 3 = pz_ar G 0 3 := by
  obtain ⟨v, rfl, v1, v2⟩ := pz_iI_surj a1
  have iv := h.iv
  have sz := iv.sz
  have st := iv.st
  have ct := iv.ct
  unfold s_L_rebook s_X6_rebook s_X7_rebook
  rw [pz_placeOf_a iv.rg sz.1 sz.2 hn v1 v2]
  simp only [Option.bind_some]
  by_cases g : pz_rowN F v = -1
  · rw [pz_reqRow_F iv.rg sz.1 sz.2 hn v1 v2 g, if_pos (by rw [g])]
    exact ⟨_, _, _, _, _, _, F, H, k, E, hist, old, past, _, rfl, rfl, fun q => absurd q (by decide), h.mono (by omega), rfl, rfl, rfl, rfl, rfl⟩
  · have s := (pz_rowN_spec F v sz.1).resolve_left g
    rw [pz_reqRow_T iv.rg sz.1 sz.2 hn v1 v2 g, if_neg (by rw [pz_iI_eq (by omega) (by omega) (by omega) (by omega)]; exact g)]
    generalize pz_rowN F v = p at *
    simp only [Option.bind_some, if_true]
    have pp := iv.ps p s.1 s.2.1
    have ok := pp.1
    unfold pz_okw at ok
    have hw : pz_okWay (pz_fld F p 1) (pz_fld F p 2) := ⟨ok.1, ok.2.1, ok.2.2.1⟩
    have rW : pz_rng (pz_wayF F p (-1)) := pz_rng_way iv.rg (by omega) (by omega)
    obtain ⟨o1, o2, o3, o4, ia, io⟩ := pz_isAnew_a (H := H) iv hn s.1 s.2.1 on ot ch wo
    have fa := pz_findAnew_a iv hn s.1 s.2.1
    have can := pz_fnd_can (F := pz_wayF F p (-1)) (pz_thr := false) hw
    have rg := pz_fnd_rg (F := pz_wayF F p (-1)) hw false
    rw [pz_property_a iv.rg hn s.1 (by omega) pp.1 ⟨st.2.2.2.2.1, st.2.2.2.2.2⟩ (by omega) (by omega), show pz_prp F p 3 = pz_fld F p 3 from rfl, ia, fa]
    generalize pz_fnd (pz_wayF F p (-1)) (pz_fld F p 1) (pz_fld F p 2) false = O at *
    obtain ⟨a, b, c⟩ := O
    dsimp only at *
    simp only [Option.bind_some]
    by_cases d : pz_fld F p 3 = 1
    · rw [if_pos (by rw [d]), decide_eq_false (show ¬ pz_fld F p 3 = 0 by omega), Bool.false_and]
      exact ⟨_, _, _, _, _, _, F, pz_wayF F p (-1), k, E, hist, old, past, _, rfl, rfl, fun q => absurd q (by decide), h.mono (by omega), rfl, rfl, rfl, rfl, rfl⟩
    · rw [if_neg (by rw [pz_iI_eq (by omega) (by omega) (by omega) (by omega)]; exact d), decide_eq_true (show pz_fld F p 3 = 0 by omega), Bool.true_and]
      by_cases e : a = -1
      · rw [e, pz_refused_T, pz_isB_no rfl]
        exact ⟨_, _, _, _, _, _, F, pz_wayF F p (-1), k, E, hist, old, past, _, rfl, rfl, fun q => absurd q (by decide), h.mono (by omega), rfl, rfl, rfl, rfl, rfl⟩
      · have cc := pz_can_re iv s.1 s.2.1 (can e)
        have fo := io (by omega) e
        have o := pz_okw_re iv s.1 s.2.1 cc.ok
        have ivG := pz_inv_rb iv hB s.1 s.2.1 cc
        have lo : ∀ z : Int, z < 10 → z ≠ 8 → F z = pz_rbF F p a b c z := fun z hz h8 => by
          unfold pz_rbF
          rw [pz_setF_ne h8, pz_reF_lo iv s.1 s.2.1 cc.ok hz]
        have e8 : pz_rbF F p a b c 8 = F 8 + 1 := pz_setF_eq _ _ _
        obtain ⟨hist2, k1, k2⟩ := pz_keep_a F hn h.hc
        obtain ⟨past2, p1, p2⟩ := pz_saves_a F hn h.k6 h.pr
        have eW : pz_ar (pz_freeF F v) 0 452 = pz_ar (pz_wayF F p (-1)) 0 452 := by rw [← s.2.2, pz_free_way iv s.1 s.2.1]
        have eL : pz_layF (pz_wayF F p (-1)) p a b c = pz_rbF F p a b c := by
          unfold pz_layF pz_rbF pz_reF
          rw [pz_way_fld pp.1 (by omega) (by omega), pz_way_out (z := 8) pp.1 (by omega)]
        have e1 : pz_ar (pz_reF F p a b c) 290 162 = pz_ar (pz_rbF F p a b c) 290 162 := (pz_ar_out (by omega)).symm
        have e2 : pz_ar (pz_reF F p a b c) 10 280 = pz_ar (pz_rbF F p a b c) 10 280 := (pz_ar_out (by omega)).symm
        have e3 : pz_ar F 0 3 = pz_ar (pz_rbF F p a b c) 0 3 := pz_ar_congr (fun z x1 x2 => lo z (by omega) (by omega))
        have ppG := ivG.ps p s.1 (by rw [← lo 6 (by omega) (by omega)]; exact s.2.1)
        have stG := ivG.st
        rw [pz_refused_F e (by omega) (by omega), pz_isB_yes e, pz_property_a iv.rg hn s.1 (by omega) pp.1 ⟨st.2.2.2.2.1, st.2.2.2.2.2⟩ (by omega) (by omega), show pz_prp F p 7 = pz_wok F p from rfl, k1, p1, pz_wakesOf_a iv.rg hn s.1 (by omega) pp.1, pz_frees_a iv.rg hn v1 v2, eW, fo.1, fo.2.1, fo.2.2, pz_reseat_a iv hn s.1 s.2.1 cc]
        simp only [Option.bind_some]
        rw [pz_lays_a rW hn s.1 (by omega) o, eL, e1, e2]
        simp only [Option.bind_some]
        rw [pz_wakesOf_a ivG.rg hn s.1 (by omega) ppG.1]
        have pG := pz_property_a (d := 7) ivG.rg hn s.1 (by omega) ppG.1 ⟨stG.2.2.2.2.1, stG.2.2.2.2.2⟩ (by omega) (by omega)
        rw [show pz_prp (pz_rbF F p a b c) p 7 = pz_wok (pz_rbF F p a b c) p from rfl] at pG
        rw [e3, pG]
        simp only [Option.bind_some]
        refine ⟨iI 0, iI (pz_wok F p) - iI (pz_wok (pz_rbF F p a b c) p), _, _, _, _, pz_rbF F p a b c, pz_wayF F p (-1), _, _, hist2, _, past2, vp_updL u (iI 0).toNatClampNeg (iI (pz_wok F p) - iI (pz_wok (pz_rbF F p a b c) p)).toInt64, ?_, rfl, ?_, h.save k2 p2 ivG (by omega), lo 6 (by omega) (by omega), lo 7 (by omega) (by omega), lo 9 (by omega) (by omega), pz_ar_congr (fun z x1 x2 => lo z (by omega) (by omega)), rfl⟩
        · rw [e8, ← pz_iI_add]; rfl
        · intro _; rw [pz_updL_0]; exact pz_lg_self _
def pz_hbc (F : Int → Int) (c s : Int) : Nat → Int → Bool
  | 0, _ => false
  | m + 1, k => (decide (s ≤ k % 9) && !decide (F (290 + ((6 * c + k / 9) * 9 + k % 9)) = -1)) || pz_hbc F c s m (k + 1)
theorem pz_hbc_s (F : Int → Int) (c s : Int) (m : Nat) (k : Int) : pz_hbc F c s (m + 1) k = ((decide (s ≤ k % 9) && !decide (F (290 + ((6 * c + k / 9) * 9 + k % 9)) = -1)) || pz_hbc F c s m (k + 1)) := rfl
theorem pz_hbc_skip (F : Int → Int) (c s : Int) : ∀ (d m : Nat) (k : Int), 0 ≤ k → k % 9 + d ≤ s → s ≤ 9 → pz_hbc F c s (m + d) k = pz_hbc F c s m (k + d) := by
  intro d
  induction d with
  | zero => intro m k h1 h2 h3; rw [show k + ((0 : Nat) : Int) = k by omega]; rfl
  | succ d ih =>
    intro m k h1 h2 h3
    rw [show m + (d + 1) = (m + d) + 1 by omega, pz_hbc_s, decide_eq_false (show ¬ s ≤ k % 9 by omega), Bool.false_and, Bool.false_or]
    by_cases e : d = 0
    · subst e; rfl
    · rw [ih m (k + 1) (by omega) (by omega) h3]
      congr 1; omega
theorem pz_isHad_L {F : Int → Int} (hr : pz_rng F) (n : Nat) {c s : Int} (h0 : 0 ≤ c) (h1 : c < 3) (hs : 0 ≤ s) (hs2 : s ≤ 9) : ∀ (m : Nat) (x : Int) (w : Bool), 0 ≤ x → x + m = 54 → ∀ k, m < k → s_X7_isHadBehind_L5 n (pz_ar F 0 452) (iI c) (iI s) k (iI (pz_bi w)) (iI x) = some (iI (pz_bi (w || pz_hbc F c s m x))) := by
  intro m
  induction m with
  | zero =>
    intro x w hx hc k hk
    obtain ⟨k, rfl⟩ : ∃ z, k = z + 1 := ⟨k - 1, by omega⟩
    rw [s_X7_isHadBehind_L5]
    simp (disch := omega) only [pz_iI_add, pz_iI_sub, pz_iI_mul, pz_iI_div, pz_iI_0, pz_nI_iI, pz_gd_T, pz_iI_lt_T, pz_iI_lt_F, pz_iI_le_T, pz_iI_le_F, pz_iI_eq_F, if_true, if_false, Option.bind_some, pz_ar_at, pz_ar_upd, pz_setF_at, pz_setF_ne, pz_setR_ne, pz_hbc]
    rw [if_pos (pz_zb_bi w), Bool.or_false]
  | succ m ih =>
    intro x w hx hc k hk
    obtain ⟨k, rfl⟩ : ∃ z, k = z + 1 := ⟨k - 1, by omega⟩
    have go := fun w => ih (x + 1) w (by omega) (by omega) k (by omega)
    have go0 := go false
    have go1 := go true
    rw [show pz_bi false = 0 from rfl, Bool.false_or] at go0
    rw [show pz_bi true = 1 from rfl, Bool.true_or] at go1
    have r := hr (290 + ((6 * c + x / 9) * 9 + x % 9))
    have e : x - x / 9 * 9 = x % 9 := by omega
    rw [s_X7_isHadBehind_L5, pz_hbc_s]
    cases w with
    | true =>
      rw [show pz_bi true = 1 from rfl]
      simp (disch := omega) only [pz_iI_add, pz_iI_sub, pz_iI_mul, pz_iI_div, pz_iI_0, pz_nI_iI, pz_gd_T, pz_iI_lt_T, pz_iI_lt_F, pz_iI_le_T, pz_iI_le_F, pz_iI_eq_F, if_true, if_false, Option.bind_some, pz_ar_at, pz_ar_upd, pz_setF_at, pz_setF_ne, pz_setR_ne, go1, Bool.true_or]
    | false =>
      rw [show pz_bi false = 0 from rfl]
      simp (disch := omega) only [pz_iI_add, pz_iI_sub, pz_iI_mul, pz_iI_div, pz_iI_0, pz_nI_iI, pz_gd_T, pz_iI_lt_T, pz_iI_lt_F, pz_iI_le_T, pz_iI_le_F, pz_iI_eq_F, if_true, if_false, Option.bind_some, pz_ar_at, pz_ar_upd, pz_setF_at, pz_setF_ne, pz_setR_ne, go0, go1, Bool.false_or, e]
      rw [pz_holds_s (pz_ar_row F 0 452) hr (by omega) (by omega) (by omega) (by omega)]
      simp (disch := omega) only [pz_iI_add, pz_iI_sub, pz_iI_mul, pz_iI_div, pz_iI_0, pz_iI_lt, pz_iI_le, pz_iI_eq, pz_gd_iI, pz_nI_iI, if_true, if_false, Option.bind_some, ite_self, reduceCtorEq, go0, go1]
      by_cases d : x % 9 < s
      · rw [if_pos d, decide_eq_false (show ¬ s ≤ x % 9 by omega), Bool.false_and, Bool.false_or]
      · rw [if_neg d, decide_eq_true (show s ≤ x % 9 by omega), Bool.true_and]
        by_cases g : F (290 + ((6 * c + x / 9) * 9 + x % 9)) = -1
        · rw [if_pos g, decide_eq_true g]; rfl
        · rw [if_neg g, decide_eq_false g]; rfl
theorem pz_isHad_a {F : Int → Int} (hr : pz_rng F) {n : Nat} (hn : 3000 ≤ n) {c s : Int} (h0 : 0 ≤ c) (h1 : c < 3) (hs : 0 ≤ s) (hs2 : s ≤ 9) : s_X7_isHadBehind n (pz_ar F 0 452) (iI c) (iI s) = some (iI (pz_bi (pz_hbc F c s 54 0))) := by
  unfold s_X7_isHadBehind
  exact pz_isHad_L hr n h0 h1 hs hs2 54 0 false (by omega) (by omega) n (by omega)
theorem pz_hadB_in {F : Int → Int} (hr : pz_rng F) (n m : Nat) {c s : Int} (h0 : 0 ≤ c) (h1 : c < 3) (hs : 0 ≤ s) (j : Int) (hj : 0 ≤ j) (hj6 : j < 6) (N : Nat) (hN : 9 * j + 9 + N = 54)
    (go : (s_X0_areHadBehind_L8 n (pz_ar F 290 162) (iI s) m).1 (iI (6 * c)) (iI (6 * c + j + 1)) = some (iI (pz_bi (pz_hbc F c s N (9 * j + 9))))) : ∀ (d : Nat) (x : Int), s ≤ x → x + d = 9 → (s_X0_areHadBehind_L8 n (pz_ar F 290 162) (iI s) (m + 1 + d)).2 (iI (6 * c)) (iI (6 * c + j)) (iI x) = some (iI (pz_bi (pz_hbc F c s (N + d) (9 * j + x)))) := by
  intro d
  induction d with
  | zero =>
    intro x hx hd
    rw [show m + 1 + 0 = m + 1 from rfl, s_X0_areHadBehind_L8]
    dsimp only
    rw [if_pos (by rw [pz_iI_le (by omega) (by omega) (by omega) (by omega)]; omega), pz_iI_add, go, show 9 * j + x = 9 * j + 9 by omega]
    rfl
  | succ d ih =>
    intro x hx hd
    have r := hr (290 + ((6 * c + j) * 9 + x))
    rw [show m + 1 + (d + 1) = (m + 1 + d) + 1 by omega, s_X0_areHadBehind_L8]
    dsimp only
    rw [if_neg (by rw [pz_iI_le (by omega) (by omega) (by omega) (by omega)]; omega), pz_holderOn_a (by omega) (by omega) (by omega) (by omega), pz_iI_add, ih (x + 1) (by omega) (by omega)]
    simp (disch := omega) only [pz_iI_add, pz_iI_sub, pz_iI_mul, pz_iI_div, pz_iI_0, pz_iI_lt, pz_iI_le, pz_iI_eq, pz_gd_iI, pz_nI_iI, if_true, if_false, Option.bind_some, ite_self, reduceCtorEq]
    rw [show N + (d + 1) = (N + d) + 1 by omega, pz_hbc_s, show (9 * j + x) % 9 = x by omega, show (9 * j + x) / 9 = j by omega, decide_eq_true (show s ≤ x by omega), Bool.true_and, show 9 * j + (x + 1) = 9 * j + x + 1 by omega]
    by_cases g : F (290 + ((6 * c + j) * 9 + x)) = -1
    · rw [if_pos g, decide_eq_true g]; rfl
    · rw [if_neg g, decide_eq_false g]; rfl
theorem pz_hadB_L {F : Int → Int} (hr : pz_rng F) (n : Nat) {c s : Int} (h0 : 0 ≤ c) (h1 : c < 3) (hs : 0 ≤ s) (hs2 : s ≤ 9) : ∀ (d : Nat) (j : Int), 0 ≤ j → j + d = 6 → ∀ k, 11 * d < k → (s_X0_areHadBehind_L8 n (pz_ar F 290 162) (iI s) k).1 (iI (6 * c)) (iI (6 * c + j)) = some (iI (pz_bi (pz_hbc F c s (9 * d) (9 * j)))) := by
  intro d
  induction d with
  | zero =>
    intro j hj hd k hk
    obtain ⟨k, rfl⟩ : ∃ z, k = z + 1 := ⟨k - 1, by omega⟩
    rw [s_X0_areHadBehind_L8]
    dsimp only
    rw [pz_iI_add, if_pos (by rw [pz_iI_le (by omega) (by omega) (by omega) (by omega)]; omega)]
    rfl
  | succ d ih =>
    intro j hj hd k hk
    obtain ⟨k, rfl⟩ : ∃ z, k = z + 2 + (9 - s).toNat := ⟨k - 2 - (9 - s).toNat, by omega⟩
    have go := ih (j + 1) (by omega) (by omega) k (by omega)
    rw [show 6 * c + (j + 1) = 6 * c + j + 1 by omega, show 9 * (j + 1) = 9 * j + 9 by omega] at go
    have i := pz_hadB_in hr n k h0 h1 hs j hj (by omega) (9 * d) (by omega) go (9 - s).toNat s (by omega) (by omega)
    have pz_sk := pz_hbc_skip F c s s.toNat (9 * d + (9 - s).toNat) (9 * j) (by omega) (by omega) hs2
    rw [show k + 2 + (9 - s).toNat = (k + 1 + (9 - s).toNat) + 1 by omega, s_X0_areHadBehind_L8]
    dsimp only
    rw [pz_iI_add, if_neg (by rw [pz_iI_le (by omega) (by omega) (by omega) (by omega)]; omega), i, show 9 * (d + 1) = 9 * d + (9 - s).toNat + s.toNat by omega, pz_sk, show 9 * j + ((s.toNat : Nat) : Int) = 9 * j + s by omega]
theorem pz_hadB_a {F : Int → Int} (hr : pz_rng F) {n : Nat} (hn : 3000 ≤ n) {c s : Int} (h0 : 0 ≤ c) (h1 : c < 3) (hs : 0 ≤ s) (hs2 : s ≤ 9) : s_X0_areHadBehind n (pz_ar F 290 162) (iI c) (iI s) = some (iI (pz_bi (pz_hbc F c s 54 0))) := by
  have q := pz_hadB_L hr n h0 h1 hs hs2 6 0 (by omega) (by omega) n (by omega)
  unfold s_X0_areHadBehind
  rw [pz_iI_mul, show c * 6 = 6 * c by omega]
  rw [show 6 * c + 0 = 6 * c by omega] at q
  exact q
theorem pz_one0 : (iI 1 = (0 : Int32)) = False := eq_false (by decide)
theorem pz_zero0 : (iI 0 = (0 : Int32)) = True := eq_true (by decide)
theorem pz_cut_p {B : Int} {F : Int → Int} {k : Nat} {E : Nat → Int → Int} {hist : Nat → TS} {old : Nat} {past : Nat → Int32} (h : pz_SC B F k E hist old past) {n : Nat} (hn : 3000 ≤ n) (th a1 a2 : Int32) (u : Nat → Int64) :
    ∃ (r b : Int32) (G : Int → Int) (k2 : Nat) (E2 : Nat → Int → Int) (hist2 : Nat → TS) (old2 : Nat) (past2 : Nat → Int32) (u2 : Nat → Int64),
      s_L_cut n (iI old) (iI k) (iI (F 7)) (iI (F 8)) (iI (F 9)) (pz_ar F 3 3) (pz_ar F 290 162) (iI (F 6)) (pz_ar F 10 280) (pz_ar F 0 3) u hist a1 a2 = some (r, iI old2, iI k2, pz_ar G 3 3, u2, hist2) ∧
      s_X7_cut n (iI k) th (pz_ar F 0 452) past a1 a2 = some (b, iI k2, r, pz_ar G 0 452, past2) ∧
      (r = 0 → lg_cmp (u2 0) b.toInt64 = 0) ∧ pz_SC B G k2 E2 hist2 old2 past2 ∧ F 6 = G 6 ∧ F 7 = G 7 ∧ F 8 = G 8 ∧ F 9 = G 9 ∧ pz_ar F 290 162 = pz_ar G 290 162 ∧ pz_ar F 10 280 = pz_ar G 10 280 ∧ pz_ar F 0 3 = pz_ar G 0 3 := by
  obtain ⟨c, rfl, c1, c2⟩ := pz_iI_surj a1
  obtain ⟨s, rfl, s1, s2⟩ := pz_iI_surj a2
  have iv := h.iv
  have st := iv.st
  have ct := iv.ct
  unfold s_L_cut s_X6_cut s_X7_cut s_X6_requireCoach
  by_cases g : 0 ≤ c ∧ c < 3
  · rw [pz_isBelow_T g.1 g.2 (by omega), pz_in_T g.1 (show c ≤ 2 by omega) (by omega) (by omega)]
    simp only [Option.bind_some, pz_one0, if_false, if_true]
    by_cases d : 1 ≤ s ∧ s ≤ 9
    · have r := iv.en c g.1 g.2
      obtain ⟨hist2, k1, k2⟩ := pz_keep_a F hn h.hc
      obtain ⟨past2, p1, p2⟩ := pz_saves_a F hn h.k6 h.pr
      rw [pz_in_T d.1 d.2 (by omega) (by omega), pz_hadB_a iv.rg hn g.1 g.2 (by omega) d.2, pz_isHad_a iv.rg hn g.1 g.2 (by omega) d.2]
      simp (disch := omega) only [pz_iI_add, pz_iI_sub, pz_iI_mul, pz_iI_div, pz_iI_0, pz_nI_iI, pz_gd_T, pz_iI_lt_T, pz_iI_lt_F, pz_iI_le_T, pz_iI_le_F, pz_iI_eq_F, if_true, if_false, Option.bind_some, pz_ar_at, pz_ar_upd, pz_setF_at, pz_setF_ne, pz_setR_ne]
      cases e : pz_hbc F c s 54 0 with
      | true => exact ⟨_, _, F, k, E, hist, old, past, _, rfl, rfl, fun q => absurd q (by decide), h, rfl, rfl, rfl, rfl, rfl, rfl, rfl⟩
      | false =>
        unfold s_X0_end s_X7_changes
        rw [k1, p1, pz_endOf_a g.1 g.2, pz_write_a (by decide) g.1 g.2, show pz_bi false = 0 from rfl]
        simp (disch := omega) only [pz_iI_add, pz_iI_sub, pz_iI_mul, pz_iI_div, pz_iI_0, pz_nI_iI, pz_gd_T, pz_iI_lt_T, pz_iI_lt_F, pz_iI_le_T, pz_iI_le_F, pz_iI_eq_F, if_true, if_false, Option.bind_some, pz_ar_at, pz_ar_upd, pz_setF_at, pz_setF_ne, pz_setR_ne, Int.zero_add]
        refine ⟨iI 0, iI (F (3 + c)), pz_setF F (3 + c) s, _, _, hist2, _, past2, vp_updL u (iI 0).toNatClampNeg (iI (F (3 + c))).toInt64, rfl, rfl, ?_, h.save k2 p2 ?_ (Int.le_refl B), (pz_setF_ne (by omega)).symm, (pz_setF_ne (by omega)).symm, (pz_setF_ne (by omega)).symm, (pz_setF_ne (by omega)).symm, (pz_ar_out (by omega)).symm, (pz_ar_out (by omega)).symm, (pz_ar_out (by omega)).symm⟩
        · intro _; rw [pz_updL_0]; exact pz_lg_self _
        · refine pz_inv_low iv (by omega) (by omega) (by omega) (by omega) (by omega) ?_ ?_ ?_
          · rw [pz_setF_ne (by omega), pz_setF_ne (by omega), pz_setF_ne (by omega)]; exact st
          · intro x x0 x1
            by_cases w : x = c
            · rw [pz_setF_at (by omega)]; exact d
            · rw [pz_setF_ne (by omega)]; exact iv.en x x0 x1
          · rw [pz_setF_ne (by omega), pz_setF_ne (by omega), pz_setF_ne (by omega)]; exact ct
    · rw [pz_in_F s1 s2 d (by omega) (by omega) (by omega) (by omega)]
      by_cases e : s < 1
      · simp (disch := omega) only [pz_iI_add, pz_iI_sub, pz_iI_mul, pz_iI_div, pz_iI_0, pz_nI_iI, pz_gd_T, pz_iI_lt_T, pz_iI_lt_F, pz_iI_le_T, pz_iI_le_F, pz_iI_eq_F, if_true, if_false, Option.bind_some, pz_ar_at, pz_ar_upd, pz_setF_at, pz_setF_ne, pz_setR_ne]
        exact ⟨_, _, F, k, E, hist, old, past, _, rfl, rfl, fun q => absurd q (by decide), h, rfl, rfl, rfl, rfl, rfl, rfl, rfl⟩
      · simp (disch := omega) only [pz_iI_add, pz_iI_sub, pz_iI_mul, pz_iI_div, pz_iI_0, pz_nI_iI, pz_gd_T, pz_iI_lt_T, pz_iI_lt_F, pz_iI_le_T, pz_iI_le_F, pz_iI_eq_F, if_true, if_false, Option.bind_some, pz_ar_at, pz_ar_upd, pz_setF_at, pz_setF_ne, pz_setR_ne]
        exact ⟨_, _, F, k, E, hist, old, past, _, rfl, rfl, fun q => absurd q (by decide), h, rfl, rfl, rfl, rfl, rfl, rfl, rfl⟩
  · rw [pz_isBelow_F c1 c2 g (by omega) (by omega), pz_in_F c1 c2 (show ¬ (0 ≤ c ∧ c ≤ 2) by omega) (by omega) (by omega) (by omega) (by omega)]
    exact ⟨_, _, F, k, E, hist, old, past, _, rfl, rfl, fun q => absurd q (by decide), h, rfl, rfl, rfl, rfl, rfl, rfl, rfl⟩
theorem pz_set_p {B : Int} {F : Int → Int} {k : Nat} {E : Nat → Int → Int} {hist : Nat → TS} {old : Nat} {past : Nat → Int32} (h : pz_SC B F k E hist old past) {n : Nat} (hn : 3000 ≤ n) (th a1 a2 : Int32) (u : Nat → Int64) :
    ∃ (r b : Int32) (G : Int → Int) (k2 : Nat) (E2 : Nat → Int → Int) (hist2 : Nat → TS) (old2 : Nat) (past2 : Nat → Int32) (u2 : Nat → Int64),
      s_L_set n (iI old) (iI k) (iI (F 7)) (iI (F 8)) (iI (F 9)) (pz_ar F 3 3) (pz_ar F 290 162) (iI (F 6)) (pz_ar F 10 280) (pz_ar F 0 3) u hist a1 a2 = some (r, iI old2, iI k2, pz_ar G 0 3, u2, hist2) ∧
      s_X7_set n (iI k) th (pz_ar F 0 452) past a1 a2 = some (b, iI k2, r, pz_ar G 0 452, past2) ∧
      (r = 0 → lg_cmp (u2 0) b.toInt64 = 0) ∧ pz_SC B G k2 E2 hist2 old2 past2 ∧ F 6 = G 6 ∧ F 7 = G 7 ∧ F 8 = G 8 ∧ F 9 = G 9 ∧ pz_ar F 290 162 = pz_ar G 290 162 ∧ pz_ar F 10 280 = pz_ar G 10 280 ∧ pz_ar F 3 3 = pz_ar G 3 3 := by
  obtain ⟨c, rfl, c1, c2⟩ := pz_iI_surj a1
  obtain ⟨v, rfl, v1, v2⟩ := pz_iI_surj a2
  have iv := h.iv
  have st := iv.st
  have ct := iv.ct
  unfold s_L_set s_X6_set s_X7_set s_X6_requireSetting s_X6_greatestValue
  by_cases g : 0 ≤ c ∧ c < 3
  · rw [pz_isBelow_T g.1 g.2 (by omega), pz_in_T g.1 (show c ≤ 2 by omega) (by omega) (by omega)]
    simp only [Option.bind_some, pz_one0, if_false, if_true]
    obtain ⟨hist2, k1, k2⟩ := pz_keep_a F hn h.hc
    obtain ⟨past2, p1, p2⟩ := pz_saves_a F hn h.k6 h.pr
    have fin : (0 ≤ v ∧ v ≤ if c = 2 then 50 else 9) → pz_SC B (pz_setF F c v) (pz_kup k) (pz_pushE E k F) hist2 (pz_oup old k) past2 := by
      intro d
      refine h.save k2 p2 ?_ (Int.le_refl B)
      refine pz_inv_low iv (by omega) (by omega) (by omega) (by omega) (by split at d <;> omega) ?_ ?_ ?_
      · unfold pz_setF; split at d <;> split <;> split <;> split <;> omega
      · intro x x0 x1; rw [pz_setF_ne (by omega)]; exact iv.en x x0 x1
      · rw [pz_setF_ne (by omega), pz_setF_ne (by omega), pz_setF_ne (by omega)]; exact ct
    unfold s_X7_changes
    rw [k1, p1, pz_read_a (by decide) g.1 g.2, show 0 + c = c by omega]
    by_cases e : c = 2
    · rw [if_pos e] at fin
      by_cases d : 0 ≤ v ∧ v ≤ 50
      · rw [pz_in_T d.1 d.2 (by omega) (by omega), pz_write_a (by decide) g.1 g.2, show 0 + c = c by omega]
        have ec : (iI c = iI 2) = True := by rw [e]; exact eq_true rfl
        simp (disch := omega) only [pz_iI_add, pz_iI_sub, pz_iI_mul, pz_iI_div, pz_iI_0, pz_nI_iI, pz_gd_T, pz_iI_lt_T, pz_iI_lt_F, pz_iI_le_T, pz_iI_le_F, pz_iI_eq_F, if_true, if_false, Option.bind_some, pz_ar_at, pz_ar_upd, pz_setF_at, pz_setF_ne, pz_setR_ne, ec, Int.zero_add]
        exact ⟨iI 0, iI (F c), pz_setF F c v, _, _, hist2, _, past2, vp_updL u (iI 0).toNatClampNeg (iI (F c)).toInt64, rfl, rfl, fun _ => by rw [pz_updL_0]; exact pz_lg_self _, fin d, (pz_setF_ne (by omega)).symm, (pz_setF_ne (by omega)).symm, (pz_setF_ne (by omega)).symm, (pz_setF_ne (by omega)).symm, (pz_ar_out (by omega)).symm, (pz_ar_out (by omega)).symm, (pz_ar_out (by omega)).symm⟩
      · have ec : (iI c = iI 2) = True := by rw [e]; exact eq_true rfl
        rw [pz_in_F v1 v2 d (by omega) (by omega) (by omega) (by omega)]
        by_cases w : v < 0
        · simp (disch := omega) only [pz_iI_add, pz_iI_sub, pz_iI_mul, pz_iI_div, pz_iI_0, pz_nI_iI, pz_gd_T, pz_iI_lt_T, pz_iI_lt_F, pz_iI_le_T, pz_iI_le_F, pz_iI_eq_F, if_true, if_false, Option.bind_some, pz_ar_at, pz_ar_upd, pz_setF_at, pz_setF_ne, pz_setR_ne, ec, Int.zero_add]
          exact ⟨_, _, F, k, E, hist, old, past, _, rfl, rfl, fun q => absurd q (by decide), h, rfl, rfl, rfl, rfl, rfl, rfl, rfl⟩
        · simp (disch := omega) only [pz_iI_add, pz_iI_sub, pz_iI_mul, pz_iI_div, pz_iI_0, pz_nI_iI, pz_gd_T, pz_iI_lt_T, pz_iI_lt_F, pz_iI_le_T, pz_iI_le_F, pz_iI_eq_F, if_true, if_false, Option.bind_some, pz_ar_at, pz_ar_upd, pz_setF_at, pz_setF_ne, pz_setR_ne, ec, Int.zero_add]
          exact ⟨_, _, F, k, E, hist, old, past, _, rfl, rfl, fun q => absurd q (by decide), h, rfl, rfl, rfl, rfl, rfl, rfl, rfl⟩
    · rw [if_neg e] at fin
      by_cases d : 0 ≤ v ∧ v ≤ 9
      · rw [pz_in_T d.1 d.2 (by omega) (by omega), pz_write_a (by decide) g.1 g.2, show 0 + c = c by omega]
        simp (disch := omega) only [pz_iI_add, pz_iI_sub, pz_iI_mul, pz_iI_div, pz_iI_0, pz_nI_iI, pz_gd_T, pz_iI_lt_T, pz_iI_lt_F, pz_iI_le_T, pz_iI_le_F, pz_iI_eq_F, if_true, if_false, Option.bind_some, pz_ar_at, pz_ar_upd, pz_setF_at, pz_setF_ne, pz_setR_ne, Int.zero_add]
        exact ⟨iI 0, iI (F c), pz_setF F c v, _, _, hist2, _, past2, vp_updL u (iI 0).toNatClampNeg (iI (F c)).toInt64, rfl, rfl, fun _ => by rw [pz_updL_0]; exact pz_lg_self _, fin d, (pz_setF_ne (by omega)).symm, (pz_setF_ne (by omega)).symm, (pz_setF_ne (by omega)).symm, (pz_setF_ne (by omega)).symm, (pz_ar_out (by omega)).symm, (pz_ar_out (by omega)).symm, (pz_ar_out (by omega)).symm⟩
      · rw [pz_in_F v1 v2 d (by omega) (by omega) (by omega) (by omega)]
        by_cases w : v < 0
        · simp (disch := omega) only [pz_iI_add, pz_iI_sub, pz_iI_mul, pz_iI_div, pz_iI_0, pz_nI_iI, pz_gd_T, pz_iI_lt_T, pz_iI_lt_F, pz_iI_le_T, pz_iI_le_F, pz_iI_eq_F, if_true, if_false, Option.bind_some, pz_ar_at, pz_ar_upd, pz_setF_at, pz_setF_ne, pz_setR_ne, Int.zero_add]
          exact ⟨_, _, F, k, E, hist, old, past, _, rfl, rfl, fun q => absurd q (by decide), h, rfl, rfl, rfl, rfl, rfl, rfl, rfl⟩
        · simp (disch := omega) only [pz_iI_add, pz_iI_sub, pz_iI_mul, pz_iI_div, pz_iI_0, pz_nI_iI, pz_gd_T, pz_iI_lt_T, pz_iI_lt_F, pz_iI_le_T, pz_iI_le_F, pz_iI_eq_F, if_true, if_false, Option.bind_some, pz_ar_at, pz_ar_upd, pz_setF_at, pz_setF_ne, pz_setR_ne, Int.zero_add]
          exact ⟨_, _, F, k, E, hist, old, past, _, rfl, rfl, fun q => absurd q (by decide), h, rfl, rfl, rfl, rfl, rfl, rfl, rfl⟩
  · rw [pz_isBelow_F c1 c2 g (by omega) (by omega), pz_in_F c1 c2 (show ¬ (0 ≤ c ∧ c ≤ 2) by omega) (by omega) (by omega) (by omega) (by omega)]
    exact ⟨_, _, F, k, E, hist, old, past, _, rfl, rfl, fun q => absurd q (by decide), h, rfl, rfl, rfl, rfl, rfl, rfl, rfl⟩
theorem pz_undo_p {B : Int} {F : Int → Int} {k : Nat} {E : Nat → Int → Int} {hist : Nat → TS} {old : Nat} {past : Nat → Int32} (h : pz_SC B F k E hist old past) {n : Nat} (hn : 3000 ≤ n) (th : Int32) (u : Nat → Int64) :
    ∃ (r b : Int32) (G : Int → Int) (k2 : Nat) (u2 : Nat → Int64),
      s_L_undo n (iI old) (iI k) (iI (F 7)) (iI (F 8)) (iI (F 9)) (pz_ar F 3 3) (pz_ar F 290 162) (iI (F 6)) (pz_ar F 10 280) (pz_ar F 0 3) u hist = some (r, iI k2, iI (G 7), iI (G 8), iI (G 9), pz_ar G 3 3, pz_ar G 290 162, iI (G 6), pz_ar G 10 280, pz_ar G 0 3, u2) ∧
      s_X7_undo n (iI k) th (pz_ar F 0 452) past = some (b, iI k2, r, pz_ar G 0 452) ∧
      (r = 0 → lg_cmp (u2 0) b.toInt64 = 0) ∧ pz_SC B G k2 E hist old past := by
  unfold s_L_undo s_X6_undo s_X7_undo
  cases k with
  | zero =>
    exact ⟨_, _, F, 0, _, rfl, rfl, fun q => absurd q (by decide), h⟩
  | succ k =>
    have k6 := h.k6
    have ne : ¬ iI ((k + 1 : Nat) : Int) = 0 := by rw [pz_iI_0, pz_iI_eq (by omega) (by omega) (by omega) (by omega)]; omega
    have ek : iI ((k + 1 : Nat) : Int) - iI 1 = iI (k : Int) := by rw [pz_iI_sub]; congr 1; omega
    rw [if_neg ne, if_neg ne, pz_restore_a F hn h.hc, pz_undo_m hn k6 h.pr, ek]
    refine ⟨iI 0, iI k, E k, k, vp_updL u (iI 0).toNatClampNeg (iI k).toInt64, rfl, rfl, fun _ => by rw [pz_updL_0]; exact pz_lg_self _, h.ie k (by omega), by omega, ?_, fun i hi z hz => h.pr i (by omega) z hz, fun i hi => h.ie i (by omega)⟩
    obtain ⟨ho, _, H, hH, hE⟩ := h.hc
    exact ⟨ho, by omega, H, hH, fun i hi => hE i (by omega)⟩
