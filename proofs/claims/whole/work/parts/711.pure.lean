def pz_LR (B : Int) (x : XST) (m : MST) : Prop := ∃ (F : Int → Int) (k : Nat) (E : Nat → Int → Int) (hist : Nat → TS) (old : Nat) (past : Nat → Int32) (X : Int → Int) (t : Int) (H D : Int → Int) (th a fl tl on ot ch wo : Int32), pz_SC B F k E hist old past ∧ pz_okT X t ∧ x = (iI old, iI k, iI t, pz_ar X 0 60, iI (F 7), iI (F 8), iI (F 9), pz_ar F 3 3, pz_ar F 290 162, iI (F 6), pz_ar F 10 280, pz_ar F 0 3, hist) ∧ m = (iI k, iI t, th, a, fl, tl, on, ot, ch, wo, pz_ar F 0 452, past, pz_ar X 0 60, pz_ar H 0 452, pz_ar D 0 48)
theorem pz_fin_case {r b : Int32} {u2 : Nat → Int64} {S : XST × MST × (Nat → Int64)} (hl : r = 0 → lg_cmp (u2 0) b.toInt64 = 0) : (if r = 0 then (if gd (iI 0) 1 = true then (if lg_cmp (u2 (iI 0).toNatClampNeg) b.toInt64 = 0 then (some (some S)) else (some none)) else none) else (some (some S)) : Option (Option (XST × MST × (Nat → Int64)))) = some (some S) := by
  by_cases c : r = 0
  · rw [if_pos c, if_pos pz_gd01, show (iI 0).toNatClampNeg = 0 by decide, if_pos (hl c)]
  · rw [if_neg c]
theorem pz_thr_s (v : Int32) : s_X7_thrown v = some v := rfl
theorem pz_gd_L {i z : Int} {L : Nat} (h0 : 0 ≤ i) (h1 : 0 ≤ z) (h2 : i + z < L) (hL : L ≤ 2560) : (gd (iI i + iI z) L = true) = True := by
  rw [pz_iI_add]; exact pz_gd_T (by omega) (by omega) (by omega)
theorem pz_case_0 {B i : Int} {L : Nat} {xs : Nat → Int32} {x : XST} {m : MST} (u : Nat → Int64) (hr : pz_LR B x m) (hB : B < 800000) (hi : 0 ≤ i) (hL : i + 5 ≤ L) (hL2 : L ≤ 2560) : ∃ r, s_lawc_0 3000 L xs x m u (iI i) = some (some r) ∧ pz_LR (B + 16) r.1 r.2.1 := by
  obtain ⟨F, k, E, hist, old, past, X, t, H, D, th, a, fl, tl, on, ot, ch, wo, h, hT, rfl, rfl⟩ := hr
  have hn : 3000 ≤ 3000 := Nat.le_refl _
  have G1 : (gd (iI i + iI 1) L = true) = True := pz_gd_L hi (by omega) (by omega) hL2
  have G2 : (gd (iI i + iI 2) L = true) = True := pz_gd_L hi (by omega) (by omega) hL2
  have G3 : (gd (iI i + iI 3) L = true) = True := pz_gd_L hi (by omega) (by omega) hL2
  by_cases c : (xs (iI i + iI 3).toNatClampNeg) = 0
  · have c2 : ((xs (iI i + iI 3).toNatClampNeg) = 0) = True := eq_true c
    obtain ⟨r, b, on2, ot2, ch2, wo2, G, k2, E2, hist2, old2, past2, u2, e1, e2, hl, sc, q9, q33, q03⟩ := pz_book_p h (by omega) hn th on ot ch wo (xs (iI i + iI 1).toNatClampNeg) (xs (iI i + iI 2).toNatClampNeg) (iI 0) u
    unfold s_lawc_0
    simp only [G1, G2, G3, c2, e1, e2, if_true, if_false, Option.bind_some, pz_thr_s]
    exact ⟨_, pz_fin_case hl, G, k2, E2, hist2, old2, past2, X, t, H, D, _, a, fl, tl, on2, ot2, ch2, wo2, sc.mono (by omega), hT, by rw [q9, q33, q03], rfl⟩
  · have c2 : ((xs (iI i + iI 3).toNatClampNeg) = 0) = False := eq_false c
    obtain ⟨r, b, on2, ot2, ch2, wo2, G, k2, E2, hist2, old2, past2, u2, e1, e2, hl, sc, q9, q33, q03⟩ := pz_book_p h (by omega) hn th on ot ch wo (xs (iI i + iI 1).toNatClampNeg) (xs (iI i + iI 2).toNatClampNeg) (iI 1) u
    unfold s_lawc_0
    simp only [G1, G2, G3, c2, e1, e2, if_true, if_false, Option.bind_some, pz_thr_s]
    exact ⟨_, pz_fin_case hl, G, k2, E2, hist2, old2, past2, X, t, H, D, _, a, fl, tl, on2, ot2, ch2, wo2, sc.mono (by omega), hT, by rw [q9, q33, q03], rfl⟩
theorem pz_case_1 {B i : Int} {L : Nat} {xs : Nat → Int32} {x : XST} {m : MST} (u : Nat → Int64) (hr : pz_LR B x m) (hB : B < 800000) (hi : 0 ≤ i) (hL : i + 5 ≤ L) (hL2 : L ≤ 2560) : ∃ r, s_lawc_1 3000 L xs x m u (iI i) = some (some r) ∧ pz_LR (B + 16) r.1 r.2.1 := by
  obtain ⟨F, k, E, hist, old, past, X, t, H, D, th, a, fl, tl, on, ot, ch, wo, h, hT, rfl, rfl⟩ := hr
  have hn : 3000 ≤ 3000 := Nat.le_refl _
  have G1 : (gd (iI i + iI 1) L = true) = True := pz_gd_L hi (by omega) (by omega) hL2
  obtain ⟨r, b, G, k2, E2, hist2, old2, past2, u2, e1, e2, hl, sc, q7, q8, q9, q33, q03⟩ := pz_cancel_p h hn th (xs (iI i + iI 1).toNatClampNeg) u
  unfold s_lawc_1
  simp only [G1, e1, e2, if_true, if_false, Option.bind_some, pz_thr_s]
  exact ⟨_, pz_fin_case hl, G, k2, E2, hist2, old2, past2, X, t, H, D, _, a, fl, tl, on, ot, ch, wo, sc.mono (by omega), hT, by rw [q7, q8, q9, q33, q03], rfl⟩
theorem pz_case_2 {B i : Int} {L : Nat} {xs : Nat → Int32} {x : XST} {m : MST} (u : Nat → Int64) (hr : pz_LR B x m) (hB : B < 800000) (hi : 0 ≤ i) (hL : i + 5 ≤ L) (hL2 : L ≤ 2560) : ∃ r, s_lawc_2 3000 L xs x m u (iI i) = some (some r) ∧ pz_LR (B + 16) r.1 r.2.1 := by
  obtain ⟨F, k, E, hist, old, past, X, t, H, D, th, a, fl, tl, on, ot, ch, wo, h, hT, rfl, rfl⟩ := hr
  have hn : 3000 ≤ 3000 := Nat.le_refl _
  have G1 : (gd (iI i + iI 1) L = true) = True := pz_gd_L hi (by omega) (by omega) hL2
  have G2 : (gd (iI i + iI 2) L = true) = True := pz_gd_L hi (by omega) (by omega) hL2
  obtain ⟨r, b, G, k2, E2, hist2, old2, past2, u2, e1, e2, hl, sc, q6, q7, q8, q9, q33, q03⟩ := pz_place_p h hn th (xs (iI i + iI 1).toNatClampNeg) (xs (iI i + iI 2).toNatClampNeg) u
  unfold s_lawc_2
  simp only [G1, G2, e1, e2, if_true, if_false, Option.bind_some, pz_thr_s]
  exact ⟨_, pz_fin_case hl, G, k2, E2, hist2, old2, past2, X, t, H, D, _, a, fl, tl, on, ot, ch, wo, sc.mono (by omega), hT, by rw [q6, q7, q8, q9, q33, q03], rfl⟩
theorem pz_case_3 {B i : Int} {L : Nat} {xs : Nat → Int32} {x : XST} {m : MST} (u : Nat → Int64) (hr : pz_LR B x m) (hB : B < 800000) (hi : 0 ≤ i) (hL : i + 5 ≤ L) (hL2 : L ≤ 2560) : ∃ r, s_lawc_3 3000 L xs x m u (iI i) = some (some r) ∧ pz_LR (B + 16) r.1 r.2.1 := by
  obtain ⟨F, k, E, hist, old, past, X, t, H, D, th, a, fl, tl, on, ot, ch, wo, h, hT, rfl, rfl⟩ := hr
  have hn : 3000 ≤ 3000 := Nat.le_refl _
  have G1 : (gd (iI i + iI 1) L = true) = True := pz_gd_L hi (by omega) (by omega) hL2
  obtain ⟨r, b, on2, ot2, ch2, wo2, G, H2, k2, E2, hist2, old2, past2, u2, e1, e2, hl, sc, q6, q7, q9, q33, q03⟩ := pz_rebook_p h (by omega) hn th on ot ch wo (xs (iI i + iI 1).toNatClampNeg) H u
  unfold s_lawc_3
  simp only [G1, e1, e2, if_true, if_false, Option.bind_some, pz_thr_s]
  exact ⟨_, pz_fin_case hl, G, k2, E2, hist2, old2, past2, X, t, H2, D, _, a, fl, tl, on2, ot2, ch2, wo2, sc.mono (by omega), hT, by rw [q6, q7, q9, q33, q03], rfl⟩
theorem pz_case_4 {B i : Int} {L : Nat} {xs : Nat → Int32} {x : XST} {m : MST} (u : Nat → Int64) (hr : pz_LR B x m) (hB : B < 800000) (hi : 0 ≤ i) (hL : i + 5 ≤ L) (hL2 : L ≤ 2560) : ∃ r, s_lawc_4 3000 L xs x m u (iI i) = some (some r) ∧ pz_LR (B + 16) r.1 r.2.1 := by
  obtain ⟨F, k, E, hist, old, past, X, t, H, D, th, a, fl, tl, on, ot, ch, wo, h, hT, rfl, rfl⟩ := hr
  have hn : 3000 ≤ 3000 := Nat.le_refl _
  have G1 : (gd (iI i + iI 1) L = true) = True := pz_gd_L hi (by omega) (by omega) hL2
  have G2 : (gd (iI i + iI 2) L = true) = True := pz_gd_L hi (by omega) (by omega) hL2
  obtain ⟨r, b, G, k2, E2, hist2, old2, past2, u2, e1, e2, hl, sc, q6, q7, q8, q9, qh, qc, q03⟩ := pz_cut_p h hn th (xs (iI i + iI 1).toNatClampNeg) (xs (iI i + iI 2).toNatClampNeg) u
  unfold s_lawc_4
  simp only [G1, G2, e1, e2, if_true, if_false, Option.bind_some, pz_thr_s]
  exact ⟨_, pz_fin_case hl, G, k2, E2, hist2, old2, past2, X, t, H, D, _, a, fl, tl, on, ot, ch, wo, sc.mono (by omega), hT, by rw [q6, q7, q8, q9, qh, qc, q03], rfl⟩
theorem pz_case_5 {B i : Int} {L : Nat} {xs : Nat → Int32} {x : XST} {m : MST} (u : Nat → Int64) (hr : pz_LR B x m) (hB : B < 800000) (hi : 0 ≤ i) (hL : i + 5 ≤ L) (hL2 : L ≤ 2560) : ∃ r, s_lawc_5 3000 L xs x m u (iI i) = some (some r) ∧ pz_LR (B + 16) r.1 r.2.1 := by
  obtain ⟨F, k, E, hist, old, past, X, t, H, D, th, a, fl, tl, on, ot, ch, wo, h, hT, rfl, rfl⟩ := hr
  have hn : 3000 ≤ 3000 := Nat.le_refl _
  have G1 : (gd (iI i + iI 1) L = true) = True := pz_gd_L hi (by omega) (by omega) hL2
  have G2 : (gd (iI i + iI 2) L = true) = True := pz_gd_L hi (by omega) (by omega) hL2
  obtain ⟨r, b, G, k2, E2, hist2, old2, past2, u2, e1, e2, hl, sc, q6, q7, q8, q9, qh, qc, q33⟩ := pz_set_p h hn th (xs (iI i + iI 1).toNatClampNeg) (xs (iI i + iI 2).toNatClampNeg) u
  unfold s_lawc_5
  simp only [G1, G2, e1, e2, if_true, if_false, Option.bind_some, pz_thr_s]
  exact ⟨_, pz_fin_case hl, G, k2, E2, hist2, old2, past2, X, t, H, D, _, a, fl, tl, on, ot, ch, wo, sc.mono (by omega), hT, by rw [q6, q7, q8, q9, qh, qc, q33], rfl⟩
theorem pz_case_6 {B i : Int} {L : Nat} {xs : Nat → Int32} {x : XST} {m : MST} (u : Nat → Int64) (hr : pz_LR B x m) (hB : B < 800000) (hi : 0 ≤ i) (hL : i + 5 ≤ L) (hL2 : L ≤ 2560) : ∃ r, s_lawc_6 3000 L xs x m u (iI i) = some (some r) ∧ pz_LR (B + 16) r.1 r.2.1 := by
  obtain ⟨F, k, E, hist, old, past, X, t, H, D, th, a, fl, tl, on, ot, ch, wo, h, hT, rfl, rfl⟩ := hr
  have hn : 3000 ≤ 3000 := Nat.le_refl _
  have G1 : (gd (iI i + iI 1) L = true) = True := pz_gd_L hi (by omega) (by omega) hL2
  obtain ⟨r, b, X2, t2, u2, e1, e2, hl, hT2⟩ := pz_append_p hT th (xs (iI i + iI 1).toNatClampNeg) u
  unfold s_lawc_6
  simp only [G1, e1, e2, if_true, if_false, Option.bind_some, pz_thr_s]
  exact ⟨_, pz_fin_case hl, F, k, E, hist, old, past, X2, t2, H, D, _, a, fl, tl, on, ot, ch, wo, h.mono (by omega), hT2, rfl, rfl⟩
theorem pz_case_7 {B i : Int} {L : Nat} {xs : Nat → Int32} {x : XST} {m : MST} (u : Nat → Int64) (hr : pz_LR B x m) (hB : B < 800000) (hi : 0 ≤ i) (hL : i + 5 ≤ L) (hL2 : L ≤ 2560) : ∃ r, s_lawc_7 3000 L xs x m u (iI i) = some (some r) ∧ pz_LR (B + 16) r.1 r.2.1 := by
  obtain ⟨F, k, E, hist, old, past, X, t, H, D, th, a, fl, tl, on, ot, ch, wo, h, hT, rfl, rfl⟩ := hr
  have hn : 3000 ≤ 3000 := Nat.le_refl _
  unfold s_lawc_7 s_X6_clearBuffer s_X7_clearBuffer s_X4_empty
  simp only [Option.bind_some, if_true]
  exact ⟨_, rfl, F, k, E, hist, old, past, X, 0, H, D, _, a, fl, tl, on, ot, ch, wo, h.mono (by omega), ⟨by omega, by omega, fun j j0 j1 => by omega⟩, rfl, rfl⟩
theorem pz_case_8 {B i : Int} {L : Nat} {xs : Nat → Int32} {x : XST} {m : MST} (u : Nat → Int64) (hr : pz_LR B x m) (hB : B < 800000) (hi : 0 ≤ i) (hL : i + 5 ≤ L) (hL2 : L ≤ 2560) : ∃ r, s_lawc_8 3000 L xs x m u (iI i) = some (some r) ∧ pz_LR (B + 16) r.1 r.2.1 := by
  obtain ⟨F, k, E, hist, old, past, X, t, H, D, th, a, fl, tl, on, ot, ch, wo, h, hT, rfl, rfl⟩ := hr
  have hn : 3000 ≤ 3000 := Nat.le_refl _
  obtain ⟨r, a2, f2, l2, D2, e1, e2⟩ := pz_firstError_p (D := D) hT hn th a fl tl
  unfold s_lawc_8
  simp only [e1, e2, if_true, if_false, Option.bind_some, pz_thr_s]
  exact ⟨_, rfl, F, k, E, hist, old, past, X, t, H, D2, _, a2, f2, l2, on, ot, ch, wo, h.mono (by omega), hT, rfl, rfl⟩
theorem pz_case_9 {B i : Int} {L : Nat} {xs : Nat → Int32} {x : XST} {m : MST} (u : Nat → Int64) (hr : pz_LR B x m) (hB : B < 800000) (hi : 0 ≤ i) (hL : i + 5 ≤ L) (hL2 : L ≤ 2560) : ∃ r, s_lawc_9 3000 L xs x m u (iI i) = some (some r) ∧ pz_LR (B + 16) r.1 r.2.1 := by
  obtain ⟨F, k, E, hist, old, past, X, t, H, D, th, a, fl, tl, on, ot, ch, wo, h, hT, rfl, rfl⟩ := hr
  have hn : 3000 ≤ 3000 := Nat.le_refl _
  obtain ⟨r, b, at2, fl2, tl2, on2, ot2, ch2, wo2, G, D2, t2, k2, E2, hist2, old2, past2, u2, e1, e2, hl, sc, hT2, q33, q03⟩ := pz_bookAll_p (D := D) h hT (by omega) hn th a fl tl on ot ch wo u
  unfold s_lawc_9
  simp only [e1, e2, if_true, if_false, Option.bind_some, pz_thr_s]
  exact ⟨_, pz_fin_case hl, G, k2, E2, hist2, old2, past2, X, t2, H, D2, _, at2, fl2, tl2, on2, ot2, ch2, wo2, sc.mono (by omega), hT2, by rw [q33, q03], rfl⟩
theorem pz_case_10 {B i : Int} {L : Nat} {xs : Nat → Int32} {x : XST} {m : MST} (u : Nat → Int64) (hr : pz_LR B x m) (hB : B < 800000) (hi : 0 ≤ i) (hL : i + 5 ≤ L) (hL2 : L ≤ 2560) : ∃ r, s_lawc_10 3000 L xs x m u (iI i) = some (some r) ∧ pz_LR (B + 16) r.1 r.2.1 := by
  obtain ⟨F, k, E, hist, old, past, X, t, H, D, th, a, fl, tl, on, ot, ch, wo, h, hT, rfl, rfl⟩ := hr
  have hn : 3000 ≤ 3000 := Nat.le_refl _
  obtain ⟨r, b, G, k2, u2, e1, e2, hl, sc⟩ := pz_undo_p h hn th u
  unfold s_lawc_10
  simp only [e1, e2, if_true, if_false, Option.bind_some, pz_thr_s]
  exact ⟨_, pz_fin_case hl, G, k2, E, hist, old, past, X, t, H, D, _, a, fl, tl, on, ot, ch, wo, sc.mono (by omega), hT, rfl, rfl⟩
theorem pz_case_11 {B i : Int} {L : Nat} {xs : Nat → Int32} {x : XST} {m : MST} (u : Nat → Int64) (hr : pz_LR B x m) (hB : B < 800000) (hi : 0 ≤ i) (hL : i + 5 ≤ L) (hL2 : L ≤ 2560) : ∃ r, s_lawc_11 3000 L xs x m u (iI i) = some (some r) ∧ pz_LR (B + 16) r.1 r.2.1 := by
  obtain ⟨F, k, E, hist, old, past, X, t, H, D, th, a, fl, tl, on, ot, ch, wo, h, hT, rfl, rfl⟩ := hr
  have hn : 3000 ≤ 3000 := Nat.le_refl _
  have G1 : (gd (iI i + iI 1) L = true) = True := pz_gd_L hi (by omega) (by omega) hL2
  have G2 : (gd (iI i + iI 2) L = true) = True := pz_gd_L hi (by omega) (by omega) hL2
  obtain ⟨r, b, u2, e1, e2, hl⟩ := pz_holder_p h.iv th (xs (iI i + iI 1).toNatClampNeg) (xs (iI i + iI 2).toNatClampNeg) u
  unfold s_lawc_11
  simp only [G1, G2, e1, e2, if_true, if_false, Option.bind_some, pz_thr_s]
  exact ⟨_, pz_fin_case hl, F, k, E, hist, old, past, X, t, H, D, _, a, fl, tl, on, ot, ch, wo, h.mono (by omega), hT, rfl, rfl⟩
theorem pz_case_12 {B i : Int} {L : Nat} {xs : Nat → Int32} {x : XST} {m : MST} (u : Nat → Int64) (hr : pz_LR B x m) (hB : B < 800000) (hi : 0 ≤ i) (hL : i + 5 ≤ L) (hL2 : L ≤ 2560) : ∃ r, s_lawc_12 3000 L xs x m u (iI i) = some (some r) ∧ pz_LR (B + 16) r.1 r.2.1 := by
  obtain ⟨F, k, E, hist, old, past, X, t, H, D, th, a, fl, tl, on, ot, ch, wo, h, hT, rfl, rfl⟩ := hr
  have hn : 3000 ≤ 3000 := Nat.le_refl _
  have G1 : (gd (iI i + iI 1) L = true) = True := pz_gd_L hi (by omega) (by omega) hL2
  have G2 : (gd (iI i + iI 2) L = true) = True := pz_gd_L hi (by omega) (by omega) hL2
  obtain ⟨r, b, u2, e1, e2, hl⟩ := pz_passenger_p h.iv hn th (xs (iI i + iI 1).toNatClampNeg) (xs (iI i + iI 2).toNatClampNeg) u
  unfold s_lawc_12
  simp only [G1, G2, e1, e2, if_true, if_false, Option.bind_some, pz_thr_s]
  exact ⟨_, pz_fin_case hl, F, k, E, hist, old, past, X, t, H, D, _, a, fl, tl, on, ot, ch, wo, h.mono (by omega), hT, rfl, rfl⟩
theorem pz_case_13 {B i : Int} {L : Nat} {xs : Nat → Int32} {x : XST} {m : MST} (u : Nat → Int64) (hr : pz_LR B x m) (hB : B < 800000) (hi : 0 ≤ i) (hL : i + 5 ≤ L) (hL2 : L ≤ 2560) : ∃ r, s_lawc_13 3000 L xs x m u (iI i) = some (some r) ∧ pz_LR (B + 16) r.1 r.2.1 := by
  obtain ⟨F, k, E, hist, old, past, X, t, H, D, th, a, fl, tl, on, ot, ch, wo, h, hT, rfl, rfl⟩ := hr
  have hn : 3000 ≤ 3000 := Nat.le_refl _
  have G1 : (gd (iI i + iI 1) L = true) = True := pz_gd_L hi (by omega) (by omega) hL2
  obtain ⟨r, b, u2, e1, e2, hl⟩ := pz_count_p h.iv hn (k : Int) th (xs (iI i + iI 1).toNatClampNeg) u
  unfold s_lawc_13
  simp only [G1, e1, e2, if_true, if_false, Option.bind_some, pz_thr_s]
  exact ⟨_, pz_fin_case hl, F, k, E, hist, old, past, X, t, H, D, _, a, fl, tl, on, ot, ch, wo, h.mono (by omega), hT, rfl, rfl⟩
theorem pz_case_14 {B i : Int} {L : Nat} {xs : Nat → Int32} {x : XST} {m : MST} (u : Nat → Int64) (hr : pz_LR B x m) (hB : B < 800000) (hi : 0 ≤ i) (hL : i + 5 ≤ L) (hL2 : L ≤ 2560) : ∃ r, s_lawc_14 3000 L xs x m u (iI i) = some (some r) ∧ pz_LR (B + 16) r.1 r.2.1 := by
  obtain ⟨F, k, E, hist, old, past, X, t, H, D, th, a, fl, tl, on, ot, ch, wo, h, hT, rfl, rfl⟩ := hr
  have hn : 3000 ≤ 3000 := Nat.le_refl _
  have G1 : (gd (iI i + iI 1) L = true) = True := pz_gd_L hi (by omega) (by omega) hL2
  have G2 : (gd (iI i + iI 2) L = true) = True := pz_gd_L hi (by omega) (by omega) hL2
  obtain ⟨r, b, u2, e1, e2, hl⟩ := pz_free_p h.iv hn th (xs (iI i + iI 1).toNatClampNeg) (xs (iI i + iI 2).toNatClampNeg) u
  unfold s_lawc_14
  simp only [G1, G2, e1, e2, if_true, if_false, Option.bind_some, pz_thr_s]
  exact ⟨_, pz_fin_case hl, F, k, E, hist, old, past, X, t, H, D, _, a, fl, tl, on, ot, ch, wo, h.mono (by omega), hT, rfl, rfl⟩
theorem pz_case_15 {B i : Int} {L : Nat} {xs : Nat → Int32} {x : XST} {m : MST} (u : Nat → Int64) (hr : pz_LR B x m) (hB : B < 800000) (hi : 0 ≤ i) (hL : i + 5 ≤ L) (hL2 : L ≤ 2560) : ∃ r, s_lawc_15 3000 L xs x m u (iI i) = some (some r) ∧ pz_LR (B + 16) r.1 r.2.1 := by
  obtain ⟨F, k, E, hist, old, past, X, t, H, D, th, a, fl, tl, on, ot, ch, wo, h, hT, rfl, rfl⟩ := hr
  have hn : 3000 ≤ 3000 := Nat.le_refl _
  have G1 : (gd (iI i + iI 1) L = true) = True := pz_gd_L hi (by omega) (by omega) hL2
  obtain ⟨r, b, u2, e1, e2, hl⟩ := pz_goesTo_p h.iv th (xs (iI i + iI 1).toNatClampNeg) u
  unfold s_lawc_15
  simp only [G1, e1, e2, if_true, if_false, Option.bind_some, pz_thr_s]
  exact ⟨_, pz_fin_case hl, F, k, E, hist, old, past, X, t, H, D, _, a, fl, tl, on, ot, ch, wo, h.mono (by omega), hT, rfl, rfl⟩
theorem pz_case_16 {B i : Int} {L : Nat} {xs : Nat → Int32} {x : XST} {m : MST} (u : Nat → Int64) (hr : pz_LR B x m) (hB : B < 800000) (hi : 0 ≤ i) (hL : i + 5 ≤ L) (hL2 : L ≤ 2560) : ∃ r, s_lawc_16 3000 L xs x m u (iI i) = some (some r) ∧ pz_LR (B + 16) r.1 r.2.1 := by
  obtain ⟨F, k, E, hist, old, past, X, t, H, D, th, a, fl, tl, on, ot, ch, wo, h, hT, rfl, rfl⟩ := hr
  have hn : 3000 ≤ 3000 := Nat.le_refl _
  have G1 : (gd (iI i + iI 1) L = true) = True := pz_gd_L hi (by omega) (by omega) hL2
  obtain ⟨r, b, u2, e1, e2, hl⟩ := pz_setting_p h.iv th (xs (iI i + iI 1).toNatClampNeg) u
  unfold s_lawc_16
  simp only [G1, e1, e2, if_true, if_false, Option.bind_some, pz_thr_s]
  exact ⟨_, pz_fin_case hl, F, k, E, hist, old, past, X, t, H, D, _, a, fl, tl, on, ot, ch, wo, h.mono (by omega), hT, rfl, rfl⟩
theorem pz_case_17 {B i : Int} {L : Nat} {xs : Nat → Int32} {x : XST} {m : MST} (u : Nat → Int64) (hr : pz_LR B x m) (hB : B < 800000) (hi : 0 ≤ i) (hL : i + 5 ≤ L) (hL2 : L ≤ 2560) : ∃ r, s_lawc_17 3000 L xs x m u (iI i) = some (some r) ∧ pz_LR (B + 16) r.1 r.2.1 := by
  obtain ⟨F, k, E, hist, old, past, X, t, H, D, th, a, fl, tl, on, ot, ch, wo, h, hT, rfl, rfl⟩ := hr
  have hn : 3000 ≤ 3000 := Nat.le_refl _
  have G1 : (gd (iI i + iI 1) L = true) = True := pz_gd_L hi (by omega) (by omega) hL2
  have G2 : (gd (iI i + iI 2) L = true) = True := pz_gd_L hi (by omega) (by omega) hL2
  have G3 : (gd (iI i + iI 3) L = true) = True := pz_gd_L hi (by omega) (by omega) hL2
  have G4 : (gd (iI i + iI 4) L = true) = True := pz_gd_L hi (by omega) (by omega) hL2
  by_cases c : (xs (iI i + iI 3).toNatClampNeg) = 0
  · have c2 : ((xs (iI i + iI 3).toNatClampNeg) = 0) = True := eq_true c
    obtain ⟨r, b, o1, o2, o3, o4, u2, e1, e2, hl⟩ := pz_ifBooked_p h.iv hn th on ot ch wo (xs (iI i + iI 1).toNatClampNeg) (xs (iI i + iI 2).toNatClampNeg) (iI 0) (xs (iI i + iI 4).toNatClampNeg) u
    unfold s_lawc_17
    simp only [G1, G2, G3, G4, c2, e1, e2, if_true, if_false, Option.bind_some, pz_thr_s]
    exact ⟨_, pz_fin_case hl, F, k, E, hist, old, past, X, t, H, D, _, a, fl, tl, o1, o2, o3, o4, h.mono (by omega), hT, rfl, rfl⟩
  · have c2 : ((xs (iI i + iI 3).toNatClampNeg) = 0) = False := eq_false c
    obtain ⟨r, b, o1, o2, o3, o4, u2, e1, e2, hl⟩ := pz_ifBooked_p h.iv hn th on ot ch wo (xs (iI i + iI 1).toNatClampNeg) (xs (iI i + iI 2).toNatClampNeg) (iI 1) (xs (iI i + iI 4).toNatClampNeg) u
    unfold s_lawc_17
    simp only [G1, G2, G3, G4, c2, e1, e2, if_true, if_false, Option.bind_some, pz_thr_s]
    exact ⟨_, pz_fin_case hl, F, k, E, hist, old, past, X, t, H, D, _, a, fl, tl, o1, o2, o3, o4, h.mono (by omega), hT, rfl, rfl⟩
theorem pz_case_18 {B i : Int} {L : Nat} {xs : Nat → Int32} {x : XST} {m : MST} (u : Nat → Int64) (hr : pz_LR B x m) (hB : B < 800000) (hi : 0 ≤ i) (hL : i + 5 ≤ L) (hL2 : L ≤ 2560) : ∃ r, s_lawc_18 3000 L xs x m u (iI i) = some (some r) ∧ pz_LR (B + 16) r.1 r.2.1 := by
  obtain ⟨F, k, E, hist, old, past, X, t, H, D, th, a, fl, tl, on, ot, ch, wo, h, hT, rfl, rfl⟩ := hr
  have hn : 3000 ≤ 3000 := Nat.le_refl _
  have G1 : (gd (iI i + iI 1) L = true) = True := pz_gd_L hi (by omega) (by omega) hL2
  have G2 : (gd (iI i + iI 2) L = true) = True := pz_gd_L hi (by omega) (by omega) hL2
  obtain ⟨r, b, o1, o2, o3, o4, u2, e1, e2, hl⟩ := pz_whyNot_p h.iv hn th on ot ch wo (xs (iI i + iI 1).toNatClampNeg) (xs (iI i + iI 2).toNatClampNeg) u
  unfold s_lawc_18
  simp only [G1, G2, e1, e2, if_true, if_false, Option.bind_some, pz_thr_s]
  exact ⟨_, pz_fin_case hl, F, k, E, hist, old, past, X, t, H, D, _, a, fl, tl, o1, o2, o3, o4, h.mono (by omega), hT, rfl, rfl⟩
theorem pz_case_19 {B i : Int} {L : Nat} {xs : Nat → Int32} {x : XST} {m : MST} (u : Nat → Int64) (hr : pz_LR B x m) (hB : B < 800000) (hi : 0 ≤ i) (hL : i + 5 ≤ L) (hL2 : L ≤ 2560) : ∃ r, s_lawc_19 3000 L xs x m u (iI i) = some (some r) ∧ pz_LR (B + 16) r.1 r.2.1 := by
  obtain ⟨F, k, E, hist, old, past, X, t, H, D, th, a, fl, tl, on, ot, ch, wo, h, hT, rfl, rfl⟩ := hr
  have hn : 3000 ≤ 3000 := Nat.le_refl _
  have G1 : (gd (iI i + iI 1) L = true) = True := pz_gd_L hi (by omega) (by omega) hL2
  obtain ⟨r, b, o1, o2, o3, o4, u2, e1, e2, hl⟩ := pz_farthest_p h.iv hn th on ot ch wo (xs (iI i + iI 1).toNatClampNeg) u
  unfold s_lawc_19
  simp only [G1, e1, e2, if_true, if_false, Option.bind_some, pz_thr_s]
  exact ⟨_, pz_fin_case hl, F, k, E, hist, old, past, X, t, H, D, _, a, fl, tl, o1, o2, o3, o4, h.mono (by omega), hT, rfl, rfl⟩
theorem pz_case_20 {B i : Int} {L : Nat} {xs : Nat → Int32} {x : XST} {m : MST} (u : Nat → Int64) (hr : pz_LR B x m) (hB : B < 800000) (hi : 0 ≤ i) (hL : i + 5 ≤ L) (hL2 : L ≤ 2560) : ∃ r, s_lawc_20 3000 L xs x m u (iI i) = some (some r) ∧ pz_LR (B + 16) r.1 r.2.1 := by
  obtain ⟨F, k, E, hist, old, past, X, t, H, D, th, a, fl, tl, on, ot, ch, wo, h, hT, rfl, rfl⟩ := hr
  have hn : 3000 ≤ 3000 := Nat.le_refl _
  have q := (pz_shr_chk h.iv).2.2
  unfold s_lawc_20 s_X7_fullness
  dsimp only
  rw [pz_full_c6 h.iv hn, pz_full_m h.iv hn]
  simp only [Option.bind_some]
  exact ⟨_, if_pos q, F, k, E, hist, old, past, X, t, H, D, _, a, fl, tl, on, ot, ch, wo, h.mono (by omega), hT, rfl, rfl⟩
theorem pz_case_21 {B i : Int} {L : Nat} {xs : Nat → Int32} {x : XST} {m : MST} (u : Nat → Int64) (hr : pz_LR B x m) (hB : B < 800000) (hi : 0 ≤ i) (hL : i + 5 ≤ L) (hL2 : L ≤ 2560) : ∃ r, s_lawc_21 3000 L xs x m u (iI i) = some (some r) ∧ pz_LR (B + 16) r.1 r.2.1 := by
  obtain ⟨F, k, E, hist, old, past, X, t, H, D, th, a, fl, tl, on, ot, ch, wo, h, hT, rfl, rfl⟩ := hr
  have hn : 3000 ≤ 3000 := Nat.le_refl _
  obtain ⟨o1, o2, o3, o4, e⟩ := pz_digest_m h.iv hT hn (k : Int) th on ot ch wo
  unfold s_lawc_21
  dsimp only
  rw [pz_digest_c h.iv hT (k : Int) hn, Option.bind_some, if_pos rfl, e, Option.bind_some]
  exact ⟨_, if_pos (pz_lg_self _), F, k, E, hist, old, past, X, t, H, D, _, a, fl, tl, o1, o2, o3, o4, h.mono (by omega), hT, rfl, rfl⟩
theorem pz_LR.mono {B C : Int} {x : XST} {m : MST} (h : pz_LR B x m) (hc : B ≤ C) : pz_LR C x m := by
  obtain ⟨F, k, E, hist, old, past, X, t, H, D, th, a, fl, tl, on, ot, ch, wo, h, hT, e1, e2⟩ := h
  exact ⟨F, k, E, hist, old, past, X, t, H, D, th, a, fl, tl, on, ot, ch, wo, h.mono hc, hT, e1, e2⟩
theorem pz_law_L {L : Nat} {xs : Nat → Int32} (hL : L ≤ 2560) : ∀ (c : Nat) (i B : Int) (x : XST) (m : MST) (u : Nat → Int64), pz_LR B x m → 0 ≤ i → i ≤ 3000 → (L : Int) < i + 5 * c → B + 16 * c < 800000 → ∀ k, c < k → s_law23 3000 L xs k x m u (iI i) = some (iI 1) := by
  intro c
  induction c with
  | zero =>
    intro i B x m u hr h0 h00 h1 hB k hk
    obtain ⟨k, rfl⟩ : ∃ z, k = z + 1 := ⟨k - 1, by omega⟩
    rw [s_law23, pz_nI_iI, pz_iI_sub, if_pos (by rw [pz_iI_lt (by omega) (by omega) (by omega) (by omega)]; omega)]
  | succ c ih =>
    intro i B x m u hr h0 h00 h1 hB k hk
    obtain ⟨k, rfl⟩ : ∃ z, k = z + 1 := ⟨k - 1, by omega⟩
    rw [s_law23, pz_nI_iI, pz_iI_sub]
    by_cases e : (L : Int) - 5 < i
    · rw [if_pos (by rw [pz_iI_lt (by omega) (by omega) (by omega) (by omega)]; exact e)]
    · rw [if_neg (by rw [pz_iI_lt (by omega) (by omega) (by omega) (by omega)]; exact e), if_pos (pz_gd_Y (by omega) (by omega) (by omega)), pz_iI_add]
      have go : ∀ (r : XST × MST × (Nat → Int64)), pz_LR (B + 16) r.1 r.2.1 → s_law23 3000 L xs k r.1 r.2.1 r.2.2 (iI (i + 5)) = some (iI 1) := fun r hr2 => ih (i + 5) (B + 16) _ _ _ hr2 (by omega) (by omega) (by omega) (by omega) k (by omega)
      by_cases q0 : (xs (iI i).toNatClampNeg &&& iI 31) = iI 0
      · obtain ⟨r, e1, e2⟩ := pz_case_0 (xs := xs) u hr (by omega) h0 (by omega) hL
        rw [if_pos q0, e1]
        exact go r e2
      rw [if_neg q0]
      by_cases q1 : (xs (iI i).toNatClampNeg &&& iI 31) = iI 1
      · obtain ⟨r, e1, e2⟩ := pz_case_1 (xs := xs) u hr (by omega) h0 (by omega) hL
        rw [if_pos q1, e1]
        exact go r e2
      rw [if_neg q1]
      by_cases q2 : (xs (iI i).toNatClampNeg &&& iI 31) = iI 2
      · obtain ⟨r, e1, e2⟩ := pz_case_2 (xs := xs) u hr (by omega) h0 (by omega) hL
        rw [if_pos q2, e1]
        exact go r e2
      rw [if_neg q2]
      by_cases q3 : (xs (iI i).toNatClampNeg &&& iI 31) = iI 3
      · obtain ⟨r, e1, e2⟩ := pz_case_3 (xs := xs) u hr (by omega) h0 (by omega) hL
        rw [if_pos q3, e1]
        exact go r e2
      rw [if_neg q3]
      by_cases q4 : (xs (iI i).toNatClampNeg &&& iI 31) = iI 4
      · obtain ⟨r, e1, e2⟩ := pz_case_4 (xs := xs) u hr (by omega) h0 (by omega) hL
        rw [if_pos q4, e1]
        exact go r e2
      rw [if_neg q4]
      by_cases q5 : (xs (iI i).toNatClampNeg &&& iI 31) = iI 5
      · obtain ⟨r, e1, e2⟩ := pz_case_5 (xs := xs) u hr (by omega) h0 (by omega) hL
        rw [if_pos q5, e1]
        exact go r e2
      rw [if_neg q5]
      by_cases q6 : (xs (iI i).toNatClampNeg &&& iI 31) = iI 6
      · obtain ⟨r, e1, e2⟩ := pz_case_6 (xs := xs) u hr (by omega) h0 (by omega) hL
        rw [if_pos q6, e1]
        exact go r e2
      rw [if_neg q6]
      by_cases q7 : (xs (iI i).toNatClampNeg &&& iI 31) = iI 7
      · obtain ⟨r, e1, e2⟩ := pz_case_7 (xs := xs) u hr (by omega) h0 (by omega) hL
        rw [if_pos q7, e1]
        exact go r e2
      rw [if_neg q7]
      by_cases q8 : (xs (iI i).toNatClampNeg &&& iI 31) = iI 8
      · obtain ⟨r, e1, e2⟩ := pz_case_8 (xs := xs) u hr (by omega) h0 (by omega) hL
        rw [if_pos q8, e1]
        exact go r e2
      rw [if_neg q8]
      by_cases q9 : (xs (iI i).toNatClampNeg &&& iI 31) = iI 9
      · obtain ⟨r, e1, e2⟩ := pz_case_9 (xs := xs) u hr (by omega) h0 (by omega) hL
        rw [if_pos q9, e1]
        exact go r e2
      rw [if_neg q9]
      by_cases q10 : (xs (iI i).toNatClampNeg &&& iI 31) = iI 10
      · obtain ⟨r, e1, e2⟩ := pz_case_10 (xs := xs) u hr (by omega) h0 (by omega) hL
        rw [if_pos q10, e1]
        exact go r e2
      rw [if_neg q10]
      by_cases q11 : (xs (iI i).toNatClampNeg &&& iI 31) = iI 11
      · obtain ⟨r, e1, e2⟩ := pz_case_11 (xs := xs) u hr (by omega) h0 (by omega) hL
        rw [if_pos q11, e1]
        exact go r e2
      rw [if_neg q11]
      by_cases q12 : (xs (iI i).toNatClampNeg &&& iI 31) = iI 12
      · obtain ⟨r, e1, e2⟩ := pz_case_12 (xs := xs) u hr (by omega) h0 (by omega) hL
        rw [if_pos q12, e1]
        exact go r e2
      rw [if_neg q12]
      by_cases q13 : (xs (iI i).toNatClampNeg &&& iI 31) = iI 13
      · obtain ⟨r, e1, e2⟩ := pz_case_13 (xs := xs) u hr (by omega) h0 (by omega) hL
        rw [if_pos q13, e1]
        exact go r e2
      rw [if_neg q13]
      by_cases q14 : (xs (iI i).toNatClampNeg &&& iI 31) = iI 14
      · obtain ⟨r, e1, e2⟩ := pz_case_14 (xs := xs) u hr (by omega) h0 (by omega) hL
        rw [if_pos q14, e1]
        exact go r e2
      rw [if_neg q14]
      by_cases q15 : (xs (iI i).toNatClampNeg &&& iI 31) = iI 15
      · obtain ⟨r, e1, e2⟩ := pz_case_15 (xs := xs) u hr (by omega) h0 (by omega) hL
        rw [if_pos q15, e1]
        exact go r e2
      rw [if_neg q15]
      by_cases q16 : (xs (iI i).toNatClampNeg &&& iI 31) = iI 16
      · obtain ⟨r, e1, e2⟩ := pz_case_16 (xs := xs) u hr (by omega) h0 (by omega) hL
        rw [if_pos q16, e1]
        exact go r e2
      rw [if_neg q16]
      by_cases q17 : (xs (iI i).toNatClampNeg &&& iI 31) = iI 17
      · obtain ⟨r, e1, e2⟩ := pz_case_17 (xs := xs) u hr (by omega) h0 (by omega) hL
        rw [if_pos q17, e1]
        exact go r e2
      rw [if_neg q17]
      by_cases q18 : (xs (iI i).toNatClampNeg &&& iI 31) = iI 18
      · obtain ⟨r, e1, e2⟩ := pz_case_18 (xs := xs) u hr (by omega) h0 (by omega) hL
        rw [if_pos q18, e1]
        exact go r e2
      rw [if_neg q18]
      by_cases q19 : (xs (iI i).toNatClampNeg &&& iI 31) = iI 19
      · obtain ⟨r, e1, e2⟩ := pz_case_19 (xs := xs) u hr (by omega) h0 (by omega) hL
        rw [if_pos q19, e1]
        exact go r e2
      rw [if_neg q19]
      by_cases q20 : (xs (iI i).toNatClampNeg &&& iI 31) = iI 20
      · obtain ⟨r, e1, e2⟩ := pz_case_20 (xs := xs) u hr (by omega) h0 (by omega) hL
        rw [if_pos q20, e1]
        exact go r e2
      rw [if_neg q20]
      by_cases q21 : (xs (iI i).toNatClampNeg &&& iI 31) = iI 21
      · obtain ⟨r, e1, e2⟩ := pz_case_21 (xs := xs) u hr (by omega) h0 (by omega) hL
        rw [if_pos q21, e1]
        exact go r e2
      rw [if_neg q21]
      exact ih (i + 5) (B + 16) _ _ _ (hr.mono (by omega)) (by omega) (by omega) (by omega) (by omega) k (by omega)
def pz_F0 : Int → Int := fun z => if z = 0 then 3 else if z = 1 then 6 else if z = 2 then 10 else if 3 ≤ z ∧ z < 6 then 9 else if 290 ≤ z ∧ z < 452 then -1 else 0
def pz_Z0 : Int → Int := fun _ => 0
theorem pz_ar_Z (o : Int) (n : Nat) : (fun _ => 0 : Nat → Int32) = pz_ar pz_Z0 o n := by
  funext k
  unfold pz_ar pz_Z0
  split
  · exact pz_iI_0
  · rfl
theorem pz_init_ends (n : Nat) (A : Nat → Int32) : ∀ (c : Nat) (x : Int), 0 ≤ x → x + c = 3 → ∀ k, c < k → s_X0_init_L46 n k (pz_ar (pz_setR pz_Z0 3 (3 + x) 9) 3 3) A (iI x) = some (pz_ar (pz_setR pz_Z0 3 6 9) 3 3, A) := by
  intro c
  induction c with
  | zero =>
    intro x hx hc k hk
    obtain ⟨k, rfl⟩ : ∃ z, k = z + 1 := ⟨k - 1, by omega⟩
    rw [s_X0_init_L46, if_pos (by rw [pz_iI_le (by omega) (by omega) (by omega) (by omega)]; omega), show 3 + x = 6 by omega]
  | succ c ih =>
    intro x hx hc k hk
    obtain ⟨k, rfl⟩ : ∃ z, k = z + 1 := ⟨k - 1, by omega⟩
    rw [s_X0_init_L46, if_neg (by rw [pz_iI_le (by omega) (by omega) (by omega) (by omega)]; omega), if_pos (pz_gd_Y (by omega) (by omega) (by omega)), pz_ar_upd hx (by omega) (by omega), pz_setR_step (by omega), pz_iI_add, show 3 + x + 1 = 3 + (x + 1) by omega, ih (x + 1) (by omega) (by omega) k (by omega)]
theorem pz_init_hold {n : Nat} (hn : 3000 ≤ n) : ∀ (c : Nat) (x : Int), 0 ≤ x → x + c = 162 → ∀ k, c < k → s_X0_init_L22 n k (pz_ar (pz_setR pz_Z0 3 3 9) 3 3) (pz_ar (pz_setR pz_Z0 290 (290 + x) (-1)) 290 162) (iI x) = some (pz_ar (pz_setR pz_Z0 3 6 9) 3 3, pz_ar (pz_setR pz_Z0 290 452 (-1)) 290 162) := by
  intro c
  induction c with
  | zero =>
    intro x hx hc k hk
    obtain ⟨k, rfl⟩ : ∃ z, k = z + 1 := ⟨k - 1, by omega⟩
    rw [s_X0_init_L22, if_pos (by rw [pz_iI_le (by omega) (by omega) (by omega) (by omega)]; omega), show 290 + x = 452 by omega]
    exact pz_init_ends n _ 3 0 (by omega) (by omega) n (by omega)
  | succ c ih =>
    intro x hx hc k hk
    obtain ⟨k, rfl⟩ : ∃ z, k = z + 1 := ⟨k - 1, by omega⟩
    rw [s_X0_init_L22, if_neg (by rw [pz_iI_le (by omega) (by omega) (by omega) (by omega)]; omega), if_pos (pz_gd_Y (by omega) (by omega) (by omega)), pz_ar_upd hx (by omega) (by omega), pz_setR_step (by omega), pz_iI_add, show 290 + x + 1 = 290 + (x + 1) by omega, ih (x + 1) (by omega) (by omega) k (by omega)]
theorem pz_F0_ends : pz_ar (pz_setR pz_Z0 3 6 9) 3 3 = pz_ar pz_F0 3 3 := pz_ar_congr (fun z h1 h2 => by
  unfold pz_setR pz_F0 pz_Z0
  rw [if_pos (by omega), if_neg (by omega), if_neg (by omega), if_neg (by omega), if_pos (by omega)])
theorem pz_F0_hold : pz_ar (pz_setR pz_Z0 290 452 (-1)) 290 162 = pz_ar pz_F0 290 162 := pz_ar_congr (fun z h1 h2 => by
  unfold pz_setR pz_F0 pz_Z0
  rw [if_pos (by omega), if_neg (by omega), if_neg (by omega), if_neg (by omega), if_neg (by omega)])
theorem pz_F0_cells : pz_ar pz_Z0 10 280 = pz_ar pz_F0 10 280 := pz_ar_congr (fun z h1 h2 => by
  unfold pz_F0 pz_Z0
  rw [if_neg (by omega), if_neg (by omega), if_neg (by omega), if_neg (by omega), if_neg (by omega)])
theorem pz_X0_init_a {n : Nat} (hn : 3000 ≤ n) : s_X0_init n = some (pz_ar pz_F0 3 3, pz_ar pz_F0 290 162) := by
  unfold s_X0_init
  have e := pz_init_hold hn 162 0 (by omega) (by omega) n (by omega)
  rw [pz_setR_no (by omega), pz_setR_no (by omega), pz_F0_ends, pz_F0_hold, ← pz_ar_Z, ← pz_ar_Z] at e
  exact e
theorem pz_set3 (A : Int → Int) (n : Nat) (hn : 3 ≤ n) (hn2 : n ≤ 452) : upd (upd (upd (pz_ar A 0 n) (iI 0).toNatClampNeg (iI 3)) (iI 1).toNatClampNeg (iI 6)) (iI 2).toNatClampNeg (iI 10) = pz_ar (pz_setF (pz_setF (pz_setF A (0 + 0) 3) (0 + 1) 6) (0 + 2) 10) 0 n := by
  rw [pz_ar_upd (by omega) (by omega) (by omega), pz_ar_upd (by omega) (by omega) (by omega), pz_ar_upd (by omega) (by omega) (by omega)]
theorem pz_F0_set : pz_ar (pz_setF (pz_setF (pz_setF pz_Z0 (0 + 0) 3) (0 + 1) 6) (0 + 2) 10) 0 3 = pz_ar pz_F0 0 3 := pz_ar_congr (fun z h1 h2 => by
  have e : z = 0 ∨ z = 1 ∨ z = 2 := by omega
  rcases e with rfl | rfl | rfl <;> rfl)
theorem pz_X5_init_a {n : Nat} (hn : 3000 ≤ n) : s_X5_init n = some (iI (pz_F0 7), iI (pz_F0 8), iI (pz_F0 9), pz_ar pz_F0 3 3, pz_ar pz_F0 290 162, iI (pz_F0 6), pz_ar pz_F0 10 280, pz_ar pz_F0 0 3) := by
  unfold s_X5_init s_X3_init
  rw [pz_X0_init_a hn, Option.bind_some, Option.bind_some, if_pos (by decide), if_pos (by decide), if_pos (by decide), pz_ar_Z 0 3, pz_set3 pz_Z0 3 (by omega) (by omega), pz_F0_set, ← pz_ar_Z 0 3, pz_ar_Z 10 280, pz_F0_cells]
  rfl
theorem pz_X6_init_a {n : Nat} (hn : 3000 ≤ n) : ∃ hist, s_X6_init n = some (iI ((0 : Nat) : Int), iI ((0 : Nat) : Int), iI 0, pz_ar pz_Z0 0 60, iI (pz_F0 7), iI (pz_F0 8), iI (pz_F0 9), pz_ar pz_F0 3 3, pz_ar pz_F0 290 162, iI (pz_F0 6), pz_ar pz_F0 10 280, pz_ar pz_F0 0 3, hist) ∧ ∀ j, j < 6 → hist j = pz_tsF pz_F0 := by
  unfold s_X6_init s_X1_init s_X4_init
  rw [pz_X5_init_a hn]
  simp only [Option.bind_some]
  rw [pz_ar_Z 0 60]
  refine ⟨_, rfl, ?_⟩
  intro j hj
  match j, hj with
  | 0, _ => rfl
  | 1, _ => rfl
  | 2, _ => rfl
  | 3, _ => rfl
  | 4, _ => rfl
  | 5, _ => rfl
theorem pz_minit_hold (n : Nat) (A : Int → Int) : ∀ (c : Nat) (x : Int), 0 ≤ x → x + c = 162 → ∀ k, c < k → s_X7_init_L95 n k (pz_ar (pz_setR A 290 (290 + x) (-1)) 0 452) (iI x) = some (0, 0, 0, 0, 0, 0, 0, 0, 0, 0, pz_ar (pz_setR A 290 452 (-1)) 0 452, (fun _ => 0), (fun _ => 0), (fun _ => 0), (fun _ => 0)) := by
  intro c
  induction c with
  | zero =>
    intro x hx hc k hk
    obtain ⟨k, rfl⟩ : ∃ z, k = z + 1 := ⟨k - 1, by omega⟩
    rw [s_X7_init_L95, if_pos (by rw [pz_iI_le (by omega) (by omega) (by omega) (by omega)]; omega), show 290 + x = 452 by omega]
  | succ c ih =>
    intro x hx hc k hk
    obtain ⟨k, rfl⟩ : ∃ z, k = z + 1 := ⟨k - 1, by omega⟩
    rw [s_X7_init_L95, if_neg (by rw [pz_iI_le (by omega) (by omega) (by omega) (by omega)]; omega), pz_iI_add, if_pos (pz_gd_Y (by omega) (by omega) (by omega)), pz_ar_upd (by omega) (by omega) (by omega), show 0 + (290 + x) = 290 + x by omega, pz_setR_step (by omega), pz_iI_add, show 290 + x + 1 = 290 + (x + 1) by omega, ih (x + 1) (by omega) (by omega) k (by omega)]
theorem pz_minit_ends {n : Nat} (hn : 3000 ≤ n) (A : Int → Int) : ∀ (c : Nat) (x : Int), 0 ≤ x → x + c = 3 → ∀ k, c < k → s_X7_init_L72 n k (pz_ar (pz_setR A 3 (3 + x) 9) 0 452) (iI x) = some (0, 0, 0, 0, 0, 0, 0, 0, 0, 0, pz_ar (pz_setR (pz_setR A 3 6 9) 290 452 (-1)) 0 452, (fun _ => 0), (fun _ => 0), (fun _ => 0), (fun _ => 0)) := by
  intro c
  induction c with
  | zero =>
    intro x hx hc k hk
    obtain ⟨k, rfl⟩ : ∃ z, k = z + 1 := ⟨k - 1, by omega⟩
    have e := pz_minit_hold n (pz_setR A 3 6 9) 162 0 (by omega) (by omega) n (by omega)
    rw [pz_setR_no (by omega)] at e
    rw [s_X7_init_L72, if_pos (by rw [pz_iI_le (by omega) (by omega) (by omega) (by omega)]; omega), show 3 + x = 6 by omega, e]
  | succ c ih =>
    intro x hx hc k hk
    obtain ⟨k, rfl⟩ : ∃ z, k = z + 1 := ⟨k - 1, by omega⟩
    rw [s_X7_init_L72, if_neg (by rw [pz_iI_le (by omega) (by omega) (by omega) (by omega)]; omega), pz_iI_add, if_pos (pz_gd_Y (by omega) (by omega) (by omega)), pz_ar_upd (by omega) (by omega) (by omega), show 0 + (3 + x) = 3 + x by omega, pz_setR_step (by omega), pz_iI_add, show 3 + x + 1 = 3 + (x + 1) by omega, ih (x + 1) (by omega) (by omega) k (by omega)]
theorem pz_X7_init_a {n : Nat} (hn : 3000 ≤ n) : s_X7_init n = some (iI ((0 : Nat) : Int), iI 0, 0, 0, 0, 0, 0, 0, 0, 0, pz_ar pz_F0 0 452, (fun _ => 0), pz_ar pz_Z0 0 60, pz_ar pz_Z0 0 452, pz_ar pz_Z0 0 48) := by
  unfold s_X7_init
  have e := pz_minit_ends hn (pz_setF (pz_setF (pz_setF pz_Z0 (0 + 0) 3) (0 + 1) 6) (0 + 2) 10) 3 0 (by omega) (by omega) n (by omega)
  rw [pz_setR_no (a := 3) (by omega)] at e
  rw [if_pos (by decide), if_pos (by decide), if_pos (by decide), pz_ar_Z 0 452, pz_set3 pz_Z0 452 (by omega) (by omega), e]
  have f : pz_ar (pz_setR (pz_setR (pz_setF (pz_setF (pz_setF pz_Z0 (0 + 0) 3) (0 + 1) 6) (0 + 2) 10) 3 6 9) 290 452 (-1)) 0 452 = pz_ar pz_F0 0 452 := pz_ar_congr (fun z h1 h2 => by
    unfold pz_setR pz_setF pz_F0 pz_Z0
    by_cases a : 290 ≤ z ∧ z < 452
    · rw [if_pos a, if_neg (by omega), if_neg (by omega), if_neg (by omega), if_neg (by omega), if_pos a]
    · rw [if_neg a]
      by_cases b : 3 ≤ z ∧ z < 6
      · rw [if_pos b, if_neg (by omega), if_neg (by omega), if_neg (by omega), if_pos b]
      · rw [if_neg b]
        by_cases c2 : z = 2
        · subst c2; rfl
        · by_cases c1 : z = 1
          · subst c1; rfl
          · by_cases c0 : z = 0
            · subst c0; rfl
            · rw [if_neg (by omega), if_neg (by omega), if_neg (by omega), if_neg c0, if_neg c1, if_neg c2, if_neg b, if_neg a])
  rw [f, ← pz_ar_Z 0 60, ← pz_ar_Z 0 452, ← pz_ar_Z 0 48]
  rfl
theorem pz_inv_0 : pz_Inv 0 pz_F0 := by
  have lo : pz_F0 0 = 3 ∧ pz_F0 1 = 6 ∧ pz_F0 2 = 10 ∧ pz_F0 6 = 0 ∧ pz_F0 7 = 0 ∧ pz_F0 8 = 0 ∧ pz_F0 9 = 0 := ⟨rfl, rfl, rfl, rfl, rfl, rfl, rfl⟩
  refine ⟨?_, by omega, ?_, by omega, by omega, fun p h0 h1 => by omega, fun p q h0 h1 => by omega, fun p b l h0 h1 => by omega, ?_⟩
  · intro z
    unfold pz_F0
    split
    · decide
    · split
      · decide
      · split
        · decide
        · split
          · decide
          · split <;> decide
  · intro c h0 h1
    have e : pz_F0 (3 + c) = 9 := by
      unfold pz_F0
      rw [if_neg (by omega), if_neg (by omega), if_neg (by omega), if_pos (by omega)]
    rw [e]; decide
  · intro b l h0 h1 h2 h3
    left
    unfold pz_F0
    rw [if_neg (by omega), if_neg (by omega), if_neg (by omega), if_neg (by omega), if_pos (by omega)]
theorem pz_law_pure (L : Nat) (xs : Nat → Int32) (hL : L ≤ 2560) : s_L_law 3000 L xs = some (iI 1) := by
  obtain ⟨hist, e1, e2⟩ := pz_X6_init_a (n := 3000) (Nat.le_refl _)
  unfold s_L_law
  rw [e1, Option.bind_some, pz_X7_init_a (Nat.le_refl _), Option.bind_some]
  refine pz_law_L hL 514 0 0 _ _ _ ?_ (by omega) (by omega) (by omega) (by omega) 520 (by omega)
  refine ⟨pz_F0, 0, fun _ => pz_F0, hist, 0, (fun _ => 0), pz_Z0, 0, pz_Z0, pz_Z0, _, _, _, _, _, _, _, _, ⟨pz_inv_0, by omega, ⟨by omega, by omega, fun _ => pz_F0, e2, fun i hi => by omega⟩, fun i hi => by omega, fun i hi => by omega⟩, ⟨by omega, by omega, fun j j0 j1 => by omega⟩, rfl, rfl⟩
