def s_X7_lays (n : Nat) (v_one : Int32) (v_other : Int32) (v_change : Int32) (v_now : Nat → Int32) (a1 : Int32) : Option ((Nat → Int32)) := (if gd ((iI 10 + (iI 7 * a1)) + iI 4) 452 = true then (if gd ((iI 10 + (iI 7 * a1)) + iI 5) 452 = true then (if gd ((iI 10 + (iI 7 * a1)) + iI 6) 452 = true then (if v_change = iI (-1) then (if gd ((iI 10 + (iI 7 * a1)) + iI 2) 452 = true then (if gd (iI 10 + (iI 7 * a1)) 452 = true then (if gd ((iI 10 + (iI 7 * a1)) + iI 1) 452 = true then ((s_X7_has n (upd (upd (upd v_now ((iI 10 + (iI 7 * a1)) + iI 4).toNatClampNeg v_one) ((iI 10 + (iI 7 * a1)) + iI 5).toNatClampNeg v_other) ((iI 10 + (iI 7 * a1)) + iI 6).toNatClampNeg v_change) ((upd (upd (upd v_now ((iI 10 + (iI 7 * a1)) + iI 4).toNatClampNeg v_one) ((iI 10 + (iI 7 * a1)) + iI 5).toNatClampNeg v_other) ((iI 10 + (iI 7 * a1)) + iI 6).toNatClampNeg v_change) (iI 10 + (iI 7 * a1)).toNatClampNeg) v_one ((upd (upd (upd v_now ((iI 10 + (iI 7 * a1)) + iI 4).toNatClampNeg v_one) ((iI 10 + (iI 7 * a1)) + iI 5).toNatClampNeg v_other) ((iI 10 + (iI 7 * a1)) + iI 6).toNatClampNeg v_change) ((iI 10 + (iI 7 * a1)) + iI 1).toNatClampNeg) ((upd (upd (upd v_now ((iI 10 + (iI 7 * a1)) + iI 4).toNatClampNeg v_one) ((iI 10 + (iI 7 * a1)) + iI 5).toNatClampNeg v_other) ((iI 10 + (iI 7 * a1)) + iI 6).toNatClampNeg v_change) ((iI 10 + (iI 7 * a1)) + iI 2).toNatClampNeg)).bind fun r20 => (if gd (iI 10 + (iI 7 * a1)) 452 = true then (if gd ((iI 10 + (iI 7 * a1)) + iI 2) 452 = true then ((s_X7_has n r20 (r20 (iI 10 + (iI 7 * a1)).toNatClampNeg) v_other ((upd (upd (upd v_now ((iI 10 + (iI 7 * a1)) + iI 4).toNatClampNeg v_one) ((iI 10 + (iI 7 * a1)) + iI 5).toNatClampNeg v_other) ((iI 10 + (iI 7 * a1)) + iI 6).toNatClampNeg v_change) ((iI 10 + (iI 7 * a1)) + iI 2).toNatClampNeg) (r20 ((iI 10 + (iI 7 * a1)) + iI 2).toNatClampNeg)).bind fun r25 => (if gd (iI 8) 452 = true then (if gd (iI 8) 452 = true then (some ((upd r25 (iI 8).toNatClampNeg ((r25 (iI 8).toNatClampNeg) + iI 1)))) else none) else none)) else none) else none)) else none) else none) else none) else (if gd (iI 10 + (iI 7 * a1)) 452 = true then (if gd ((iI 10 + (iI 7 * a1)) + iI 1) 452 = true then ((s_X7_has n (upd (upd (upd v_now ((iI 10 + (iI 7 * a1)) + iI 4).toNatClampNeg v_one) ((iI 10 + (iI 7 * a1)) + iI 5).toNatClampNeg v_other) ((iI 10 + (iI 7 * a1)) + iI 6).toNatClampNeg v_change) ((upd (upd (upd v_now ((iI 10 + (iI 7 * a1)) + iI 4).toNatClampNeg v_one) ((iI 10 + (iI 7 * a1)) + iI 5).toNatClampNeg v_other) ((iI 10 + (iI 7 * a1)) + iI 6).toNatClampNeg v_change) (iI 10 + (iI 7 * a1)).toNatClampNeg) v_one ((upd (upd (upd v_now ((iI 10 + (iI 7 * a1)) + iI 4).toNatClampNeg v_one) ((iI 10 + (iI 7 * a1)) + iI 5).toNatClampNeg v_other) ((iI 10 + (iI 7 * a1)) + iI 6).toNatClampNeg v_change) ((iI 10 + (iI 7 * a1)) + iI 1).toNatClampNeg) v_change).bind fun r7 => (if gd (iI 10 + (iI 7 * a1)) 452 = true then (if gd ((iI 10 + (iI 7 * a1)) + iI 2) 452 = true then ((s_X7_has n r7 (r7 (iI 10 + (iI 7 * a1)).toNatClampNeg) v_other v_change (r7 ((iI 10 + (iI 7 * a1)) + iI 2).toNatClampNeg)).bind fun r12 => (if gd (iI 8) 452 = true then (if gd (iI 8) 452 = true then (some ((upd r12 (iI 8).toNatClampNeg ((r12 (iI 8).toNatClampNeg) + iI 1)))) else none) else none)) else none) else none)) else none) else none)) else none) else none) else none)
set_option maxRecDepth 20000 in
theorem m_X7_lays_0 : ∀ w ∈ u_ws RX7 TX7 15, w ∈ wsX7_lays := by decide +kernel
set_option maxRecDepth 20000 in
theorem m_X7_lays_1 : (.fieldLink RX7 7 "SleeperBerthsModel" "now" "[I" : Cond) ∈ wsX7_lays := by decide +kernel
set_option maxRecDepth 20000 in
theorem m_X7_lays_2 : (.fieldLink RX7 52 "SleeperBerthsModel" "one" "I" : Cond) ∈ wsX7_lays := by decide +kernel
set_option maxRecDepth 20000 in
theorem m_X7_lays_3 : (.fieldLink RX7 69 "SleeperBerthsModel" "other" "I" : Cond) ∈ wsX7_lays := by decide +kernel
set_option maxRecDepth 20000 in
theorem m_X7_lays_4 : (.fieldLink RX7 55 "SleeperBerthsModel" "change" "I" : Cond) ∈ wsX7_lays := by decide +kernel
set_option maxHeartbeats 4000000 in
set_option maxRecDepth 100000 in
theorem c_X7_lays (l : Launch) (dC : Nat → ClassId) (dI : Nat → Nat → Nat) (cyI cyJ cyT : ClassId) (h_p0 : Nat) (h_p0_now : Nat) (h_p0_then : Nat) (h_p0_past : Nat) (h_p0_text : Nat) (h_p0_told : Nat) (sz : Nat) (v_kept : Int32) (v_typed : Int32) (v_thrown : Int32) (v_at : Int32) (v_isFault : Int32) (v_tolds : Int32) (v_one : Int32) (v_other : Int32) (v_change : Int32) (v_woken : Int32) (v_now : Nat → Int32) (a1 : Int32) (n : Nat) (o : (Nat → Int32)) (h : s_X7_lays n v_one v_other v_change v_now a1 = some o) : Met l yX7_lays wsX7_lays ({ frames := 1, cells := 0, slots := 0, locals := 25 }) (va_Pc [.ref h_p0, .int a1] (PRE (dC, dI) (TYS cyI cyJ cyT) sz [(h_p0, .inr (7, [.ref h_p0_now, .ref h_p0_then, .ref h_p0_past, .int v_kept, .ref h_p0_text, .int v_typed, .int v_thrown, .int v_at, .int v_isFault, .ref h_p0_told, .int v_tolds, .int v_one, .int v_other, .int v_change, .int v_woken])), (h_p0_now, .inl (cyI, 452, .inl v_now))])) (va_Qv (S := Unit) (fun _ => True) (fun _ t => WLD (dC, dI) (va_A [(h_p0, .inr (7, [.ref h_p0_now, .ref h_p0_then, .ref h_p0_past, .int v_kept, .ref h_p0_text, .int v_typed, .int v_thrown, .int v_at, .int v_isFault, .ref h_p0_told, .int v_tolds, .int v_one, .int v_other, .int v_change, .int v_woken])), (h_p0_now, .inl (cyI, 452, .inl v_now))] sz) [(h_p0, .inr (7, [.ref h_p0_now, .ref h_p0_then, .ref h_p0_past, .int v_kept, .ref h_p0_text, .int v_typed, .int v_thrown, .int v_at, .int v_isFault, .ref h_p0_told, .int v_tolds, .int v_one, .int v_other, .int v_change, .int v_woken])), (h_p0_now, .inl (cyI, 452, .inl o))] t) (va_A [(h_p0, .inr (7, [.ref h_p0_now, .ref h_p0_then, .ref h_p0_past, .int v_kept, .ref h_p0_text, .int v_typed, .int v_thrown, .int v_at, .int v_isFault, .ref h_p0_told, .int v_tolds, .int v_one, .int v_other, .int v_change, .int v_woken])), (h_p0_now, .inl (cyI, 452, .inl v_now))] sz)) 0 0 (va_A [(h_p0, .inr (7, [.ref h_p0_now, .ref h_p0_then, .ref h_p0_past, .int v_kept, .ref h_p0_text, .int v_typed, .int v_thrown, .int v_at, .int v_isFault, .ref h_p0_told, .int v_tolds, .int v_one, .int v_other, .int v_change, .int v_woken])), (h_p0_now, .inl (cyI, 452, .inl v_now))] sz) := by
  refine Met.ofW (cc := cX7_lays) (maxL := 4) (ret := none) (by decide) rfl ?_
  intro p e s m args below meth c s₁ B hml hv
  obtain ⟨rfl, hsz, hP, hK, hD0, hNW⟩ := hv
  have hx := B.exec
  have hb := B.bytes
  have hr := B.returns
  have hts := atoms_spec (ws := wsX7_lays) B.pre
  have hown : s.vm.findClass RX7 = some m.cls := findClass_of_methodNamed B.named
  have hlocks := B.notSynchronized
  subst hsz
  have hD := hD0.self (sz := s.heap.size)
  generalize hAe : va_A [(h_p0, .inr (7, [.ref h_p0_now, .ref h_p0_then, .ref h_p0_past, .int v_kept, .ref h_p0_text, .int v_typed, .int v_thrown, .int v_at, .int v_isFault, .ref h_p0_told, .int v_tolds, .int v_one, .int v_other, .int v_change, .int v_woken])), (h_p0_now, .inl (cyI, 452, .inl v_now))] s.heap.size = A at hD ⊢
  have hA : ∀ q : Nat, s.heap.size ≤ q → A q := fun q h => by rw [← hAe]; exact Or.inr h
  have hS : va_S A s.heap s.heap [] := va_S.rf
  have hP : va_P (dC, dI) vwCl [(h_p0, .inr (7, [.ref h_p0_now, .ref h_p0_then, .ref h_p0_past, .int v_kept, .ref h_p0_text, .int v_typed, .int v_thrown, .int v_at, .int v_isFault, .ref h_p0_told, .int v_tolds, .int v_one, .int v_other, .int v_change, .int v_woken])), (h_p0_now, .inl (cyI, 452, .inl v_now))] s.heap := hP
  have hl := lv_entry ([.ref h_p0, .int a1]) (n := 4) (Nat.le_of_ble_eq_true rfl)
  rw [lg_entry_eq]
  generalize (lg_sl ([.ref h_p0, .int a1]) ++ List.replicate (4 - (lg_sl ([.ref h_p0, .int a1])).length) Slot.unset).toArray = ls at hl ⊢
  have hl : lv_has ls 4 [(0, .ref h_p0), (1, .int a1)] := hl
  unfold s_X7_lays at h
  refine lv_bipush (v := iI 10) hx hb dX7_lays_0 (by decide) ?_
  refine lv_bipush (v := iI 7) hx hb dX7_lays_2 (by decide) ?_
  refine lv_iload_n hx hb dX7_lays_4 rfl (lv_at hl 1 rfl) ?_
  refine lv_imul hx hb dX7_lays_5 ?_
  refine lv_iadd hx hb dX7_lays_6 ?_
  refine lv_istore_n hx hb dX7_lays_7 rfl hl (by decide) (rfl : _ = ([(2, .int (iI 10 + (iI 7 * a1))), (0, .ref h_p0), (1, .int a1)] : List (Nat × Value))) (fun ls hl => ?_)
  refine lv_aload_n hx hb dX7_lays_8 rfl (lv_at hl 1 rfl) ?_
  refine va_get (D := (dC, dI)) (ci := 7) (v := .ref h_p0_now) (C := RX7) (T := TX7) (N := 15) hx hb hts m_X7_lays_0 hown hK hP 0 rfl rfl 0 (by decide) (hts (.fieldLink RX7 7 "SleeperBerthsModel" "now" "[I") m_X7_lays_1) (fun _ h9 => h9) rfl dX7_lays_9 ?_
  refine lv_iload_n hx hb dX7_lays_12 rfl (lv_at hl 0 rfl) ?_
  refine lv_iconst (v := iI 4) hx hb dX7_lays_13 rfl ?_
  refine lv_iadd hx hb dX7_lays_14 ?_
  refine lv_aload_n hx hb dX7_lays_15 rfl (lv_at hl 1 rfl) ?_
  refine va_get (D := (dC, dI)) (ci := 7) (v := .int v_one) (C := RX7) (T := TX7) (N := 15) hx hb hts m_X7_lays_0 hown hK hP 0 rfl rfl 11 (by decide) (hts (.fieldLink RX7 52 "SleeperBerthsModel" "one" "I") m_X7_lays_2) (fun _ h9 => h9) rfl dX7_lays_16 ?_
  obtain ⟨g1, h⟩ := gsome h
  refine va_iast (D := (dC, dI)) hx hb hK hP hD hS 1 0 rfl rfl g1 dX7_lays_19 (fun H locs hP hD hS => ?_)
  have hP : va_P (dC, dI) vwCl [(h_p0, .inr (7, [.ref h_p0_now, .ref h_p0_then, .ref h_p0_past, .int v_kept, .ref h_p0_text, .int v_typed, .int v_thrown, .int v_at, .int v_isFault, .ref h_p0_told, .int v_tolds, .int v_one, .int v_other, .int v_change, .int v_woken])), (h_p0_now, .inl (cyI, 452, .inl (upd v_now ((iI 10 + (iI 7 * a1)) + iI 4).toNatClampNeg v_one)))] H := hP
  have hD : va_D A [(h_p0, .inr (7, [.ref h_p0_now, .ref h_p0_then, .ref h_p0_past, .int v_kept, .ref h_p0_text, .int v_typed, .int v_thrown, .int v_at, .int v_isFault, .ref h_p0_told, .int v_tolds, .int v_one, .int v_other, .int v_change, .int v_woken])), (h_p0_now, .inl (cyI, 452, .inl (upd v_now ((iI 10 + (iI 7 * a1)) + iI 4).toNatClampNeg v_one)))] := hD
  refine lv_aload_n hx hb dX7_lays_20 rfl (lv_at hl 1 rfl) ?_
  refine va_get (D := (dC, dI)) (ci := 7) (v := .ref h_p0_now) (C := RX7) (T := TX7) (N := 15) hx hb hts m_X7_lays_0 hown hK hP 0 rfl rfl 0 (by decide) (hts (.fieldLink RX7 7 "SleeperBerthsModel" "now" "[I") m_X7_lays_1) (fun _ h9 => h9) rfl dX7_lays_21 ?_
  refine lv_iload_n hx hb dX7_lays_24 rfl (lv_at hl 0 rfl) ?_
  refine lv_iconst (v := iI 5) hx hb dX7_lays_25 rfl ?_
  refine lv_iadd hx hb dX7_lays_26 ?_
  refine lv_aload_n hx hb dX7_lays_27 rfl (lv_at hl 1 rfl) ?_
  refine va_get (D := (dC, dI)) (ci := 7) (v := .int v_other) (C := RX7) (T := TX7) (N := 15) hx hb hts m_X7_lays_0 hown hK hP 0 rfl rfl 12 (by decide) (hts (.fieldLink RX7 69 "SleeperBerthsModel" "other" "I") m_X7_lays_3) (fun _ h9 => h9) rfl dX7_lays_28 ?_
  obtain ⟨g2, h⟩ := gsome h
  refine va_iast (D := (dC, dI)) hx hb hK hP hD hS 1 0 rfl rfl g2 dX7_lays_31 (fun H locs hP hD hS => ?_)
  have hP : va_P (dC, dI) vwCl [(h_p0, .inr (7, [.ref h_p0_now, .ref h_p0_then, .ref h_p0_past, .int v_kept, .ref h_p0_text, .int v_typed, .int v_thrown, .int v_at, .int v_isFault, .ref h_p0_told, .int v_tolds, .int v_one, .int v_other, .int v_change, .int v_woken])), (h_p0_now, .inl (cyI, 452, .inl (upd (upd v_now ((iI 10 + (iI 7 * a1)) + iI 4).toNatClampNeg v_one) ((iI 10 + (iI 7 * a1)) + iI 5).toNatClampNeg v_other)))] H := hP
  have hD : va_D A [(h_p0, .inr (7, [.ref h_p0_now, .ref h_p0_then, .ref h_p0_past, .int v_kept, .ref h_p0_text, .int v_typed, .int v_thrown, .int v_at, .int v_isFault, .ref h_p0_told, .int v_tolds, .int v_one, .int v_other, .int v_change, .int v_woken])), (h_p0_now, .inl (cyI, 452, .inl (upd (upd v_now ((iI 10 + (iI 7 * a1)) + iI 4).toNatClampNeg v_one) ((iI 10 + (iI 7 * a1)) + iI 5).toNatClampNeg v_other)))] := hD
  refine lv_aload_n hx hb dX7_lays_32 rfl (lv_at hl 1 rfl) ?_
  refine va_get (D := (dC, dI)) (ci := 7) (v := .ref h_p0_now) (C := RX7) (T := TX7) (N := 15) hx hb hts m_X7_lays_0 hown hK hP 0 rfl rfl 0 (by decide) (hts (.fieldLink RX7 7 "SleeperBerthsModel" "now" "[I") m_X7_lays_1) (fun _ h9 => h9) rfl dX7_lays_33 ?_
  refine lv_iload_n hx hb dX7_lays_36 rfl (lv_at hl 0 rfl) ?_
  refine lv_bipush (v := iI 6) hx hb dX7_lays_37 (by decide) ?_
  refine lv_iadd hx hb dX7_lays_39 ?_
  refine lv_aload_n hx hb dX7_lays_40 rfl (lv_at hl 1 rfl) ?_
  refine va_get (D := (dC, dI)) (ci := 7) (v := .int v_change) (C := RX7) (T := TX7) (N := 15) hx hb hts m_X7_lays_0 hown hK hP 0 rfl rfl 13 (by decide) (hts (.fieldLink RX7 55 "SleeperBerthsModel" "change" "I") m_X7_lays_4) (fun _ h9 => h9) rfl dX7_lays_41 ?_
  obtain ⟨g3, h⟩ := gsome h
  refine va_iast (D := (dC, dI)) hx hb hK hP hD hS 1 0 rfl rfl g3 dX7_lays_44 (fun H locs hP hD hS => ?_)
  have hP : va_P (dC, dI) vwCl [(h_p0, .inr (7, [.ref h_p0_now, .ref h_p0_then, .ref h_p0_past, .int v_kept, .ref h_p0_text, .int v_typed, .int v_thrown, .int v_at, .int v_isFault, .ref h_p0_told, .int v_tolds, .int v_one, .int v_other, .int v_change, .int v_woken])), (h_p0_now, .inl (cyI, 452, .inl (upd (upd (upd v_now ((iI 10 + (iI 7 * a1)) + iI 4).toNatClampNeg v_one) ((iI 10 + (iI 7 * a1)) + iI 5).toNatClampNeg v_other) ((iI 10 + (iI 7 * a1)) + iI 6).toNatClampNeg v_change)))] H := hP
  have hD : va_D A [(h_p0, .inr (7, [.ref h_p0_now, .ref h_p0_then, .ref h_p0_past, .int v_kept, .ref h_p0_text, .int v_typed, .int v_thrown, .int v_at, .int v_isFault, .ref h_p0_told, .int v_tolds, .int v_one, .int v_other, .int v_change, .int v_woken])), (h_p0_now, .inl (cyI, 452, .inl (upd (upd (upd v_now ((iI 10 + (iI 7 * a1)) + iI 4).toNatClampNeg v_one) ((iI 10 + (iI 7 * a1)) + iI 5).toNatClampNeg v_other) ((iI 10 + (iI 7 * a1)) + iI 6).toNatClampNeg v_change)))] := hD
  refine lv_aload_n hx hb dX7_lays_45 rfl (lv_at hl 1 rfl) ?_
  refine va_get (D := (dC, dI)) (ci := 7) (v := .int v_change) (C := RX7) (T := TX7) (N := 15) hx hb hts m_X7_lays_0 hown hK hP 0 rfl rfl 13 (by decide) (hts (.fieldLink RX7 55 "SleeperBerthsModel" "change" "I") m_X7_lays_4) (fun _ h9 => h9) rfl dX7_lays_46 ?_
  refine lv_iconst (v := iI (-1)) hx hb dX7_lays_49 rfl ?_
  refine lv_icmp_ne (tgt := 64) hx hb dX7_lays_50 (by decide) (fun c4 => ?_) (fun c4 => ?_)
  · have h := ineg c4 h
    refine lv_aload_n hx hb dX7_lays_64 rfl (lv_at hl 1 rfl) ?_
    refine va_get (D := (dC, dI)) (ci := 7) (v := .int v_change) (C := RX7) (T := TX7) (N := 15) hx hb hts m_X7_lays_0 hown hK hP 0 rfl rfl 13 (by decide) (hts (.fieldLink RX7 55 "SleeperBerthsModel" "change" "I") m_X7_lays_4) (fun _ h9 => h9) rfl dX7_lays_65 ?_
    refine lv_istore_n hx hb dX7_lays_68 rfl hl (by decide) (rfl : _ = ([(3, .int v_change), (2, .int (iI 10 + (iI 7 * a1))), (0, .ref h_p0), (1, .int a1)] : List (Nat × Value))) (fun ls hl => ?_)
    refine lv_aload_n hx hb dX7_lays_69 rfl (lv_at hl 2 rfl) ?_
    refine va_get (D := (dC, dI)) (ci := 7) (v := .ref h_p0_now) (C := RX7) (T := TX7) (N := 15) hx hb hts m_X7_lays_0 hown hK hP 0 rfl rfl 0 (by decide) (hts (.fieldLink RX7 7 "SleeperBerthsModel" "now" "[I") m_X7_lays_1) (fun _ h9 => h9) rfl dX7_lays_70 ?_
    refine lv_aload_n hx hb dX7_lays_73 rfl (lv_at hl 2 rfl) ?_
    refine va_get (D := (dC, dI)) (ci := 7) (v := .ref h_p0_now) (C := RX7) (T := TX7) (N := 15) hx hb hts m_X7_lays_0 hown hK hP 0 rfl rfl 0 (by decide) (hts (.fieldLink RX7 7 "SleeperBerthsModel" "now" "[I") m_X7_lays_1) (fun _ h9 => h9) rfl dX7_lays_74 ?_
    refine lv_iload_n hx hb dX7_lays_77 rfl (lv_at hl 1 rfl) ?_
    obtain ⟨g5, h⟩ := gsome h
    refine va_iald (D := (dC, dI)) hx hb hK hP 1 0 rfl rfl g5 dX7_lays_78 ?_
    refine lv_aload_n hx hb dX7_lays_79 rfl (lv_at hl 2 rfl) ?_
    refine va_get (D := (dC, dI)) (ci := 7) (v := .int v_one) (C := RX7) (T := TX7) (N := 15) hx hb hts m_X7_lays_0 hown hK hP 0 rfl rfl 11 (by decide) (hts (.fieldLink RX7 52 "SleeperBerthsModel" "one" "I") m_X7_lays_2) (fun _ h9 => h9) rfl dX7_lays_80 ?_
    refine lv_aload_n hx hb dX7_lays_83 rfl (lv_at hl 2 rfl) ?_
    refine va_get (D := (dC, dI)) (ci := 7) (v := .ref h_p0_now) (C := RX7) (T := TX7) (N := 15) hx hb hts m_X7_lays_0 hown hK hP 0 rfl rfl 0 (by decide) (hts (.fieldLink RX7 7 "SleeperBerthsModel" "now" "[I") m_X7_lays_1) (fun _ h9 => h9) rfl dX7_lays_84 ?_
    refine lv_iload_n hx hb dX7_lays_87 rfl (lv_at hl 1 rfl) ?_
    refine lv_iconst (v := iI 1) hx hb dX7_lays_88 rfl ?_
    refine lv_iadd hx hb dX7_lays_89 ?_
    obtain ⟨g6, h⟩ := gsome h
    refine va_iald (D := (dC, dI)) hx hb hK hP 1 0 rfl rfl g6 dX7_lays_90 ?_
    refine lv_iload_n hx hb dX7_lays_91 rfl (lv_at hl 0 rfl) ?_
    obtain ⟨r7, e8, h⟩ := bsome h
    have hPc := sb_P [(h_p0_now, .inl (cyI, 452, .inl (upd (upd (upd v_now ((iI 10 + (iI 7 * a1)) + iI 4).toNatClampNeg v_one) ((iI 10 + (iI 7 * a1)) + iI 5).toNatClampNeg v_other) ((iI 10 + (iI 7 * a1)) + iI 6).toNatClampNeg v_change)))] hP [1] rfl
    have hDc := sb_D [(h_p0_now, .inl (cyI, 452, .inl (upd (upd (upd v_now ((iI 10 + (iI 7 * a1)) + iI 4).toNatClampNeg v_one) ((iI 10 + (iI 7 * a1)) + iI 5).toNatClampNeg v_other) ((iI 10 + (iI 7 * a1)) + iI 6).toNatClampNeg v_change)))] hD [1] (by decide) rfl
    have hFc := va_free (wc := [(h_p0_now, .inl (cyI, 452, .inl (upd (upd (upd v_now ((iI 10 + (iI 7 * a1)) + iI 4).toNatClampNeg v_one) ((iI 10 + (iI 7 * a1)) + iI 5).toNatClampNeg v_other) ((iI 10 + (iI 7 * a1)) + iI 6).toNatClampNeg v_change)))]) hD hS hA [1] rfl
    refine va_callv (va_runS (As := [.ref h_p0_now, .int ((upd (upd (upd v_now ((iI 10 + (iI 7 * a1)) + iI 4).toNatClampNeg v_one) ((iI 10 + (iI 7 * a1)) + iI 5).toNatClampNeg v_other) ((iI 10 + (iI 7 * a1)) + iI 6).toNatClampNeg v_change) (iI 10 + (iI 7 * a1)).toNatClampNeg), .int v_one, .int ((upd (upd (upd v_now ((iI 10 + (iI 7 * a1)) + iI 4).toNatClampNeg v_one) ((iI 10 + (iI 7 * a1)) + iI 5).toNatClampNeg v_other) ((iI 10 + (iI 7 * a1)) + iI 6).toNatClampNeg v_change) ((iI 10 + (iI 7 * a1)) + iI 1).toNatClampNeg), .int v_change]) (rest := []) ⟨hx, hb, hml, hown, hts⟩ (c_X7_has l dC dI cyI cyJ cyT h_p0_now H.size (upd (upd (upd v_now ((iI 10 + (iI 7 * a1)) + iI 4).toNatClampNeg v_one) ((iI 10 + (iI 7 * a1)) + iI 5).toNatClampNeg v_other) ((iI 10 + (iI 7 * a1)) + iI 6).toNatClampNeg v_change) ((upd (upd (upd v_now ((iI 10 + (iI 7 * a1)) + iI 4).toNatClampNeg v_one) ((iI 10 + (iI 7 * a1)) + iI 5).toNatClampNeg v_other) ((iI 10 + (iI 7 * a1)) + iI 6).toNatClampNeg v_change) (iI 10 + (iI 7 * a1)).toNatClampNeg) v_one ((upd (upd (upd v_now ((iI 10 + (iI 7 * a1)) + iI 4).toNatClampNeg v_one) ((iI 10 + (iI 7 * a1)) + iI 5).toNatClampNeg v_other) ((iI 10 + (iI 7 * a1)) + iI 6).toNatClampNeg v_change) ((iI 10 + (iI 7 * a1)) + iI 1).toNatClampNeg) v_change n r7 e8) (va_cwS 5 hts gX7_lays_X7_has rfl rfl rfl (by decide +kernel) ⟨Nat.le_of_ble_eq_true rfl, Nat.le_of_ble_eq_true rfl⟩) ⟨PRE.blind, PRE.go hK hPc hDc hNW⟩ rfl rfl hl.1 rfl (lv_room (Nat.le_of_ble_eq_true rfl)) dX7_lays_92 ⟨Nat.zero_le _, Nat.zero_le _⟩) hS (fun q _ h => hFc q h) hFc (fun u t H locs ht hvm hw hB hz1 hk1 hS => ?_)
    obtain ⟨hP, hD⟩ := va_join (wr := [(h_p0, .inr (7, [.ref h_p0_now, .ref h_p0_then, .ref h_p0_past, .int v_kept, .ref h_p0_text, .int v_typed, .int v_thrown, .int v_at, .int v_isFault, .ref h_p0_told, .int v_tolds, .int v_one, .int v_other, .int v_change, .int v_woken]))]) (w1 := [(h_p0_now, .inl (cyI, 452, .inl r7))]) hP hD [1] [0] rfl rfl (by decide) (by decide) hk1 hFc (WLD.P hB ht) hB.2
    have hP : va_P (dC, dI) vwCl [(h_p0, .inr (7, [.ref h_p0_now, .ref h_p0_then, .ref h_p0_past, .int v_kept, .ref h_p0_text, .int v_typed, .int v_thrown, .int v_at, .int v_isFault, .ref h_p0_told, .int v_tolds, .int v_one, .int v_other, .int v_change, .int v_woken])), (h_p0_now, .inl (cyI, 452, .inl r7))] H := hP
    have hD : va_D A [(h_p0, .inr (7, [.ref h_p0_now, .ref h_p0_then, .ref h_p0_past, .int v_kept, .ref h_p0_text, .int v_typed, .int v_thrown, .int v_at, .int v_isFault, .ref h_p0_told, .int v_tolds, .int v_one, .int v_other, .int v_change, .int v_woken])), (h_p0_now, .inl (cyI, 452, .inl r7))] := hD
    refine lv_aload_n hx hb dX7_lays_95 rfl (lv_at hl 2 rfl) ?_
    refine va_get (D := (dC, dI)) (ci := 7) (v := .ref h_p0_now) (C := RX7) (T := TX7) (N := 15) hx hb hts m_X7_lays_0 hown hK hP 0 rfl rfl 0 (by decide) (hts (.fieldLink RX7 7 "SleeperBerthsModel" "now" "[I") m_X7_lays_1) (fun _ h9 => h9) rfl dX7_lays_96 ?_
    refine lv_aload_n hx hb dX7_lays_99 rfl (lv_at hl 2 rfl) ?_
    refine va_get (D := (dC, dI)) (ci := 7) (v := .ref h_p0_now) (C := RX7) (T := TX7) (N := 15) hx hb hts m_X7_lays_0 hown hK hP 0 rfl rfl 0 (by decide) (hts (.fieldLink RX7 7 "SleeperBerthsModel" "now" "[I") m_X7_lays_1) (fun _ h9 => h9) rfl dX7_lays_100 ?_
    refine lv_iload_n hx hb dX7_lays_103 rfl (lv_at hl 1 rfl) ?_
    obtain ⟨g10, h⟩ := gsome h
    refine va_iald (D := (dC, dI)) hx hb hK hP 1 0 rfl rfl g10 dX7_lays_104 ?_
    refine lv_aload_n hx hb dX7_lays_105 rfl (lv_at hl 2 rfl) ?_
    refine va_get (D := (dC, dI)) (ci := 7) (v := .int v_other) (C := RX7) (T := TX7) (N := 15) hx hb hts m_X7_lays_0 hown hK hP 0 rfl rfl 12 (by decide) (hts (.fieldLink RX7 69 "SleeperBerthsModel" "other" "I") m_X7_lays_3) (fun _ h9 => h9) rfl dX7_lays_106 ?_
    refine lv_iload_n hx hb dX7_lays_109 rfl (lv_at hl 0 rfl) ?_
    refine lv_aload_n hx hb dX7_lays_110 rfl (lv_at hl 2 rfl) ?_
    refine va_get (D := (dC, dI)) (ci := 7) (v := .ref h_p0_now) (C := RX7) (T := TX7) (N := 15) hx hb hts m_X7_lays_0 hown hK hP 0 rfl rfl 0 (by decide) (hts (.fieldLink RX7 7 "SleeperBerthsModel" "now" "[I") m_X7_lays_1) (fun _ h9 => h9) rfl dX7_lays_111 ?_
    refine lv_iload_n hx hb dX7_lays_114 rfl (lv_at hl 1 rfl) ?_
    refine lv_iconst (v := iI 2) hx hb dX7_lays_115 rfl ?_
    refine lv_iadd hx hb dX7_lays_116 ?_
    obtain ⟨g11, h⟩ := gsome h
    refine va_iald (D := (dC, dI)) hx hb hK hP 1 0 rfl rfl g11 dX7_lays_117 ?_
    obtain ⟨r12, e13, h⟩ := bsome h
    have hPc := sb_P [(h_p0_now, .inl (cyI, 452, .inl r7))] hP [1] rfl
    have hDc := sb_D [(h_p0_now, .inl (cyI, 452, .inl r7))] hD [1] (by decide) rfl
    have hFc := va_free (wc := [(h_p0_now, .inl (cyI, 452, .inl r7))]) hD hS hA [1] rfl
    refine va_callv (va_runS (As := [.ref h_p0_now, .int (r7 (iI 10 + (iI 7 * a1)).toNatClampNeg), .int v_other, .int v_change, .int (r7 ((iI 10 + (iI 7 * a1)) + iI 2).toNatClampNeg)]) (rest := []) ⟨hx, hb, hml, hown, hts⟩ (c_X7_has l dC dI cyI cyJ cyT h_p0_now H.size r7 (r7 (iI 10 + (iI 7 * a1)).toNatClampNeg) v_other v_change (r7 ((iI 10 + (iI 7 * a1)) + iI 2).toNatClampNeg) n r12 e13) (va_cwS 5 hts gX7_lays_X7_has rfl rfl rfl (by decide +kernel) ⟨Nat.le_of_ble_eq_true rfl, Nat.le_of_ble_eq_true rfl⟩) ⟨PRE.blind, PRE.go hK hPc hDc hNW⟩ rfl rfl hl.1 rfl (lv_room (Nat.le_of_ble_eq_true rfl)) dX7_lays_118 ⟨Nat.zero_le _, Nat.zero_le _⟩) hS (fun q _ h => hFc q h) hFc (fun u t H locs ht hvm hw hB hz1 hk1 hS => ?_)
    obtain ⟨hP, hD⟩ := va_join (wr := [(h_p0, .inr (7, [.ref h_p0_now, .ref h_p0_then, .ref h_p0_past, .int v_kept, .ref h_p0_text, .int v_typed, .int v_thrown, .int v_at, .int v_isFault, .ref h_p0_told, .int v_tolds, .int v_one, .int v_other, .int v_change, .int v_woken]))]) (w1 := [(h_p0_now, .inl (cyI, 452, .inl r12))]) hP hD [1] [0] rfl rfl (by decide) (by decide) hk1 hFc (WLD.P hB ht) hB.2
    have hP : va_P (dC, dI) vwCl [(h_p0, .inr (7, [.ref h_p0_now, .ref h_p0_then, .ref h_p0_past, .int v_kept, .ref h_p0_text, .int v_typed, .int v_thrown, .int v_at, .int v_isFault, .ref h_p0_told, .int v_tolds, .int v_one, .int v_other, .int v_change, .int v_woken])), (h_p0_now, .inl (cyI, 452, .inl r12))] H := hP
    have hD : va_D A [(h_p0, .inr (7, [.ref h_p0_now, .ref h_p0_then, .ref h_p0_past, .int v_kept, .ref h_p0_text, .int v_typed, .int v_thrown, .int v_at, .int v_isFault, .ref h_p0_told, .int v_tolds, .int v_one, .int v_other, .int v_change, .int v_woken])), (h_p0_now, .inl (cyI, 452, .inl r12))] := hD
    refine lv_aload_n hx hb dX7_lays_121 rfl (lv_at hl 2 rfl) ?_
    refine va_get (D := (dC, dI)) (ci := 7) (v := .ref h_p0_now) (C := RX7) (T := TX7) (N := 15) hx hb hts m_X7_lays_0 hown hK hP 0 rfl rfl 0 (by decide) (hts (.fieldLink RX7 7 "SleeperBerthsModel" "now" "[I") m_X7_lays_1) (fun _ h9 => h9) rfl dX7_lays_122 ?_
    refine lv_bipush (v := iI 8) hx hb dX7_lays_125 (by decide) ?_
    refine lv_dup2_11 hx hb dX7_lays_127 rfl rfl ?_
    obtain ⟨g15, h⟩ := gsome h
    refine va_iald (D := (dC, dI)) hx hb hK hP 1 0 rfl rfl g15 dX7_lays_128 ?_
    refine lv_iconst (v := iI 1) hx hb dX7_lays_129 rfl ?_
    refine lv_iadd hx hb dX7_lays_130 ?_
    obtain ⟨g16, h⟩ := gsome h
    refine va_iast (D := (dC, dI)) hx hb hK hP hD hS 1 0 rfl rfl g16 dX7_lays_131 (fun H locs hP hD hS => ?_)
    have hP : va_P (dC, dI) vwCl [(h_p0, .inr (7, [.ref h_p0_now, .ref h_p0_then, .ref h_p0_past, .int v_kept, .ref h_p0_text, .int v_typed, .int v_thrown, .int v_at, .int v_isFault, .ref h_p0_told, .int v_tolds, .int v_one, .int v_other, .int v_change, .int v_woken])), (h_p0_now, .inl (cyI, 452, .inl (upd r12 (iI 8).toNatClampNeg ((r12 (iI 8).toNatClampNeg) + iI 1))))] H := hP
    have hD : va_D A [(h_p0, .inr (7, [.ref h_p0_now, .ref h_p0_then, .ref h_p0_past, .int v_kept, .ref h_p0_text, .int v_typed, .int v_thrown, .int v_at, .int v_isFault, .ref h_p0_told, .int v_tolds, .int v_one, .int v_other, .int v_change, .int v_woken])), (h_p0_now, .inl (cyI, 452, .inl (upd r12 (iI 8).toNatClampNeg ((r12 (iI 8).toNatClampNeg) + iI 1))))] := hD
    obtain rfl := Option.some.inj h
    exact W.vret hx hb hr (fun t ht hW => ⟨⟨(), rfl, trivial, WLD.of ht hP hD⟩, hS.F ht⟩) hS.2.2 dX7_lays_132
  · have h := ipos c4 h
    refine lv_aload_n hx hb dX7_lays_53 rfl (lv_at hl 1 rfl) ?_
    refine va_get (D := (dC, dI)) (ci := 7) (v := .ref h_p0_now) (C := RX7) (T := TX7) (N := 15) hx hb hts m_X7_lays_0 hown hK hP 0 rfl rfl 0 (by decide) (hts (.fieldLink RX7 7 "SleeperBerthsModel" "now" "[I") m_X7_lays_1) (fun _ h9 => h9) rfl dX7_lays_54 ?_
    refine lv_iload_n hx hb dX7_lays_57 rfl (lv_at hl 0 rfl) ?_
    refine lv_iconst (v := iI 2) hx hb dX7_lays_58 rfl ?_
    refine lv_iadd hx hb dX7_lays_59 ?_
    obtain ⟨g17, h⟩ := gsome h
    refine va_iald (D := (dC, dI)) hx hb hK hP 1 0 rfl rfl g17 dX7_lays_60 ?_
    refine lv_goto (tgt := 68) hx hb dX7_lays_61 (by decide) ?_
    refine lv_istore_n hx hb dX7_lays_68 rfl hl (by decide) (rfl : _ = ([(3, .int ((upd (upd (upd v_now ((iI 10 + (iI 7 * a1)) + iI 4).toNatClampNeg v_one) ((iI 10 + (iI 7 * a1)) + iI 5).toNatClampNeg v_other) ((iI 10 + (iI 7 * a1)) + iI 6).toNatClampNeg v_change) ((iI 10 + (iI 7 * a1)) + iI 2).toNatClampNeg)), (2, .int (iI 10 + (iI 7 * a1))), (0, .ref h_p0), (1, .int a1)] : List (Nat × Value))) (fun ls hl => ?_)
    refine lv_aload_n hx hb dX7_lays_69 rfl (lv_at hl 2 rfl) ?_
    refine va_get (D := (dC, dI)) (ci := 7) (v := .ref h_p0_now) (C := RX7) (T := TX7) (N := 15) hx hb hts m_X7_lays_0 hown hK hP 0 rfl rfl 0 (by decide) (hts (.fieldLink RX7 7 "SleeperBerthsModel" "now" "[I") m_X7_lays_1) (fun _ h9 => h9) rfl dX7_lays_70 ?_
    refine lv_aload_n hx hb dX7_lays_73 rfl (lv_at hl 2 rfl) ?_
    refine va_get (D := (dC, dI)) (ci := 7) (v := .ref h_p0_now) (C := RX7) (T := TX7) (N := 15) hx hb hts m_X7_lays_0 hown hK hP 0 rfl rfl 0 (by decide) (hts (.fieldLink RX7 7 "SleeperBerthsModel" "now" "[I") m_X7_lays_1) (fun _ h9 => h9) rfl dX7_lays_74 ?_
    refine lv_iload_n hx hb dX7_lays_77 rfl (lv_at hl 1 rfl) ?_
    obtain ⟨g18, h⟩ := gsome h
    refine va_iald (D := (dC, dI)) hx hb hK hP 1 0 rfl rfl g18 dX7_lays_78 ?_
    refine lv_aload_n hx hb dX7_lays_79 rfl (lv_at hl 2 rfl) ?_
    refine va_get (D := (dC, dI)) (ci := 7) (v := .int v_one) (C := RX7) (T := TX7) (N := 15) hx hb hts m_X7_lays_0 hown hK hP 0 rfl rfl 11 (by decide) (hts (.fieldLink RX7 52 "SleeperBerthsModel" "one" "I") m_X7_lays_2) (fun _ h9 => h9) rfl dX7_lays_80 ?_
    refine lv_aload_n hx hb dX7_lays_83 rfl (lv_at hl 2 rfl) ?_
    refine va_get (D := (dC, dI)) (ci := 7) (v := .ref h_p0_now) (C := RX7) (T := TX7) (N := 15) hx hb hts m_X7_lays_0 hown hK hP 0 rfl rfl 0 (by decide) (hts (.fieldLink RX7 7 "SleeperBerthsModel" "now" "[I") m_X7_lays_1) (fun _ h9 => h9) rfl dX7_lays_84 ?_
    refine lv_iload_n hx hb dX7_lays_87 rfl (lv_at hl 1 rfl) ?_
    refine lv_iconst (v := iI 1) hx hb dX7_lays_88 rfl ?_
    refine lv_iadd hx hb dX7_lays_89 ?_
    obtain ⟨g19, h⟩ := gsome h
    refine va_iald (D := (dC, dI)) hx hb hK hP 1 0 rfl rfl g19 dX7_lays_90 ?_
    refine lv_iload_n hx hb dX7_lays_91 rfl (lv_at hl 0 rfl) ?_
    obtain ⟨r20, e21, h⟩ := bsome h
    have hPc := sb_P [(h_p0_now, .inl (cyI, 452, .inl (upd (upd (upd v_now ((iI 10 + (iI 7 * a1)) + iI 4).toNatClampNeg v_one) ((iI 10 + (iI 7 * a1)) + iI 5).toNatClampNeg v_other) ((iI 10 + (iI 7 * a1)) + iI 6).toNatClampNeg v_change)))] hP [1] rfl
    have hDc := sb_D [(h_p0_now, .inl (cyI, 452, .inl (upd (upd (upd v_now ((iI 10 + (iI 7 * a1)) + iI 4).toNatClampNeg v_one) ((iI 10 + (iI 7 * a1)) + iI 5).toNatClampNeg v_other) ((iI 10 + (iI 7 * a1)) + iI 6).toNatClampNeg v_change)))] hD [1] (by decide) rfl
    have hFc := va_free (wc := [(h_p0_now, .inl (cyI, 452, .inl (upd (upd (upd v_now ((iI 10 + (iI 7 * a1)) + iI 4).toNatClampNeg v_one) ((iI 10 + (iI 7 * a1)) + iI 5).toNatClampNeg v_other) ((iI 10 + (iI 7 * a1)) + iI 6).toNatClampNeg v_change)))]) hD hS hA [1] rfl
    refine va_callv (va_runS (As := [.ref h_p0_now, .int ((upd (upd (upd v_now ((iI 10 + (iI 7 * a1)) + iI 4).toNatClampNeg v_one) ((iI 10 + (iI 7 * a1)) + iI 5).toNatClampNeg v_other) ((iI 10 + (iI 7 * a1)) + iI 6).toNatClampNeg v_change) (iI 10 + (iI 7 * a1)).toNatClampNeg), .int v_one, .int ((upd (upd (upd v_now ((iI 10 + (iI 7 * a1)) + iI 4).toNatClampNeg v_one) ((iI 10 + (iI 7 * a1)) + iI 5).toNatClampNeg v_other) ((iI 10 + (iI 7 * a1)) + iI 6).toNatClampNeg v_change) ((iI 10 + (iI 7 * a1)) + iI 1).toNatClampNeg), .int ((upd (upd (upd v_now ((iI 10 + (iI 7 * a1)) + iI 4).toNatClampNeg v_one) ((iI 10 + (iI 7 * a1)) + iI 5).toNatClampNeg v_other) ((iI 10 + (iI 7 * a1)) + iI 6).toNatClampNeg v_change) ((iI 10 + (iI 7 * a1)) + iI 2).toNatClampNeg)]) (rest := []) ⟨hx, hb, hml, hown, hts⟩ (c_X7_has l dC dI cyI cyJ cyT h_p0_now H.size (upd (upd (upd v_now ((iI 10 + (iI 7 * a1)) + iI 4).toNatClampNeg v_one) ((iI 10 + (iI 7 * a1)) + iI 5).toNatClampNeg v_other) ((iI 10 + (iI 7 * a1)) + iI 6).toNatClampNeg v_change) ((upd (upd (upd v_now ((iI 10 + (iI 7 * a1)) + iI 4).toNatClampNeg v_one) ((iI 10 + (iI 7 * a1)) + iI 5).toNatClampNeg v_other) ((iI 10 + (iI 7 * a1)) + iI 6).toNatClampNeg v_change) (iI 10 + (iI 7 * a1)).toNatClampNeg) v_one ((upd (upd (upd v_now ((iI 10 + (iI 7 * a1)) + iI 4).toNatClampNeg v_one) ((iI 10 + (iI 7 * a1)) + iI 5).toNatClampNeg v_other) ((iI 10 + (iI 7 * a1)) + iI 6).toNatClampNeg v_change) ((iI 10 + (iI 7 * a1)) + iI 1).toNatClampNeg) ((upd (upd (upd v_now ((iI 10 + (iI 7 * a1)) + iI 4).toNatClampNeg v_one) ((iI 10 + (iI 7 * a1)) + iI 5).toNatClampNeg v_other) ((iI 10 + (iI 7 * a1)) + iI 6).toNatClampNeg v_change) ((iI 10 + (iI 7 * a1)) + iI 2).toNatClampNeg) n r20 e21) (va_cwS 5 hts gX7_lays_X7_has rfl rfl rfl (by decide +kernel) ⟨Nat.le_of_ble_eq_true rfl, Nat.le_of_ble_eq_true rfl⟩) ⟨PRE.blind, PRE.go hK hPc hDc hNW⟩ rfl rfl hl.1 rfl (lv_room (Nat.le_of_ble_eq_true rfl)) dX7_lays_92 ⟨Nat.zero_le _, Nat.zero_le _⟩) hS (fun q _ h => hFc q h) hFc (fun u t H locs ht hvm hw hB hz1 hk1 hS => ?_)
    obtain ⟨hP, hD⟩ := va_join (wr := [(h_p0, .inr (7, [.ref h_p0_now, .ref h_p0_then, .ref h_p0_past, .int v_kept, .ref h_p0_text, .int v_typed, .int v_thrown, .int v_at, .int v_isFault, .ref h_p0_told, .int v_tolds, .int v_one, .int v_other, .int v_change, .int v_woken]))]) (w1 := [(h_p0_now, .inl (cyI, 452, .inl r20))]) hP hD [1] [0] rfl rfl (by decide) (by decide) hk1 hFc (WLD.P hB ht) hB.2
    have hP : va_P (dC, dI) vwCl [(h_p0, .inr (7, [.ref h_p0_now, .ref h_p0_then, .ref h_p0_past, .int v_kept, .ref h_p0_text, .int v_typed, .int v_thrown, .int v_at, .int v_isFault, .ref h_p0_told, .int v_tolds, .int v_one, .int v_other, .int v_change, .int v_woken])), (h_p0_now, .inl (cyI, 452, .inl r20))] H := hP
    have hD : va_D A [(h_p0, .inr (7, [.ref h_p0_now, .ref h_p0_then, .ref h_p0_past, .int v_kept, .ref h_p0_text, .int v_typed, .int v_thrown, .int v_at, .int v_isFault, .ref h_p0_told, .int v_tolds, .int v_one, .int v_other, .int v_change, .int v_woken])), (h_p0_now, .inl (cyI, 452, .inl r20))] := hD
    refine lv_aload_n hx hb dX7_lays_95 rfl (lv_at hl 2 rfl) ?_
    refine va_get (D := (dC, dI)) (ci := 7) (v := .ref h_p0_now) (C := RX7) (T := TX7) (N := 15) hx hb hts m_X7_lays_0 hown hK hP 0 rfl rfl 0 (by decide) (hts (.fieldLink RX7 7 "SleeperBerthsModel" "now" "[I") m_X7_lays_1) (fun _ h9 => h9) rfl dX7_lays_96 ?_
    refine lv_aload_n hx hb dX7_lays_99 rfl (lv_at hl 2 rfl) ?_
    refine va_get (D := (dC, dI)) (ci := 7) (v := .ref h_p0_now) (C := RX7) (T := TX7) (N := 15) hx hb hts m_X7_lays_0 hown hK hP 0 rfl rfl 0 (by decide) (hts (.fieldLink RX7 7 "SleeperBerthsModel" "now" "[I") m_X7_lays_1) (fun _ h9 => h9) rfl dX7_lays_100 ?_
    refine lv_iload_n hx hb dX7_lays_103 rfl (lv_at hl 1 rfl) ?_
    obtain ⟨g23, h⟩ := gsome h
    refine va_iald (D := (dC, dI)) hx hb hK hP 1 0 rfl rfl g23 dX7_lays_104 ?_
    refine lv_aload_n hx hb dX7_lays_105 rfl (lv_at hl 2 rfl) ?_
    refine va_get (D := (dC, dI)) (ci := 7) (v := .int v_other) (C := RX7) (T := TX7) (N := 15) hx hb hts m_X7_lays_0 hown hK hP 0 rfl rfl 12 (by decide) (hts (.fieldLink RX7 69 "SleeperBerthsModel" "other" "I") m_X7_lays_3) (fun _ h9 => h9) rfl dX7_lays_106 ?_
    refine lv_iload_n hx hb dX7_lays_109 rfl (lv_at hl 0 rfl) ?_
    refine lv_aload_n hx hb dX7_lays_110 rfl (lv_at hl 2 rfl) ?_
    refine va_get (D := (dC, dI)) (ci := 7) (v := .ref h_p0_now) (C := RX7) (T := TX7) (N := 15) hx hb hts m_X7_lays_0 hown hK hP 0 rfl rfl 0 (by decide) (hts (.fieldLink RX7 7 "SleeperBerthsModel" "now" "[I") m_X7_lays_1) (fun _ h9 => h9) rfl dX7_lays_111 ?_
    refine lv_iload_n hx hb dX7_lays_114 rfl (lv_at hl 1 rfl) ?_
    refine lv_iconst (v := iI 2) hx hb dX7_lays_115 rfl ?_
    refine lv_iadd hx hb dX7_lays_116 ?_
    obtain ⟨g24, h⟩ := gsome h
    refine va_iald (D := (dC, dI)) hx hb hK hP 1 0 rfl rfl g24 dX7_lays_117 ?_
    obtain ⟨r25, e26, h⟩ := bsome h
    have hPc := sb_P [(h_p0_now, .inl (cyI, 452, .inl r20))] hP [1] rfl
    have hDc := sb_D [(h_p0_now, .inl (cyI, 452, .inl r20))] hD [1] (by decide) rfl
    have hFc := va_free (wc := [(h_p0_now, .inl (cyI, 452, .inl r20))]) hD hS hA [1] rfl
    refine va_callv (va_runS (As := [.ref h_p0_now, .int (r20 (iI 10 + (iI 7 * a1)).toNatClampNeg), .int v_other, .int ((upd (upd (upd v_now ((iI 10 + (iI 7 * a1)) + iI 4).toNatClampNeg v_one) ((iI 10 + (iI 7 * a1)) + iI 5).toNatClampNeg v_other) ((iI 10 + (iI 7 * a1)) + iI 6).toNatClampNeg v_change) ((iI 10 + (iI 7 * a1)) + iI 2).toNatClampNeg), .int (r20 ((iI 10 + (iI 7 * a1)) + iI 2).toNatClampNeg)]) (rest := []) ⟨hx, hb, hml, hown, hts⟩ (c_X7_has l dC dI cyI cyJ cyT h_p0_now H.size r20 (r20 (iI 10 + (iI 7 * a1)).toNatClampNeg) v_other ((upd (upd (upd v_now ((iI 10 + (iI 7 * a1)) + iI 4).toNatClampNeg v_one) ((iI 10 + (iI 7 * a1)) + iI 5).toNatClampNeg v_other) ((iI 10 + (iI 7 * a1)) + iI 6).toNatClampNeg v_change) ((iI 10 + (iI 7 * a1)) + iI 2).toNatClampNeg) (r20 ((iI 10 + (iI 7 * a1)) + iI 2).toNatClampNeg) n r25 e26) (va_cwS 5 hts gX7_lays_X7_has rfl rfl rfl (by decide +kernel) ⟨Nat.le_of_ble_eq_true rfl, Nat.le_of_ble_eq_true rfl⟩) ⟨PRE.blind, PRE.go hK hPc hDc hNW⟩ rfl rfl hl.1 rfl (lv_room (Nat.le_of_ble_eq_true rfl)) dX7_lays_118 ⟨Nat.zero_le _, Nat.zero_le _⟩) hS (fun q _ h => hFc q h) hFc (fun u t H locs ht hvm hw hB hz1 hk1 hS => ?_)
    obtain ⟨hP, hD⟩ := va_join (wr := [(h_p0, .inr (7, [.ref h_p0_now, .ref h_p0_then, .ref h_p0_past, .int v_kept, .ref h_p0_text, .int v_typed, .int v_thrown, .int v_at, .int v_isFault, .ref h_p0_told, .int v_tolds, .int v_one, .int v_other, .int v_change, .int v_woken]))]) (w1 := [(h_p0_now, .inl (cyI, 452, .inl r25))]) hP hD [1] [0] rfl rfl (by decide) (by decide) hk1 hFc (WLD.P hB ht) hB.2
    have hP : va_P (dC, dI) vwCl [(h_p0, .inr (7, [.ref h_p0_now, .ref h_p0_then, .ref h_p0_past, .int v_kept, .ref h_p0_text, .int v_typed, .int v_thrown, .int v_at, .int v_isFault, .ref h_p0_told, .int v_tolds, .int v_one, .int v_other, .int v_change, .int v_woken])), (h_p0_now, .inl (cyI, 452, .inl r25))] H := hP
    have hD : va_D A [(h_p0, .inr (7, [.ref h_p0_now, .ref h_p0_then, .ref h_p0_past, .int v_kept, .ref h_p0_text, .int v_typed, .int v_thrown, .int v_at, .int v_isFault, .ref h_p0_told, .int v_tolds, .int v_one, .int v_other, .int v_change, .int v_woken])), (h_p0_now, .inl (cyI, 452, .inl r25))] := hD
    refine lv_aload_n hx hb dX7_lays_121 rfl (lv_at hl 2 rfl) ?_
    refine va_get (D := (dC, dI)) (ci := 7) (v := .ref h_p0_now) (C := RX7) (T := TX7) (N := 15) hx hb hts m_X7_lays_0 hown hK hP 0 rfl rfl 0 (by decide) (hts (.fieldLink RX7 7 "SleeperBerthsModel" "now" "[I") m_X7_lays_1) (fun _ h9 => h9) rfl dX7_lays_122 ?_
    refine lv_bipush (v := iI 8) hx hb dX7_lays_125 (by decide) ?_
    refine lv_dup2_11 hx hb dX7_lays_127 rfl rfl ?_
    obtain ⟨g28, h⟩ := gsome h
    refine va_iald (D := (dC, dI)) hx hb hK hP 1 0 rfl rfl g28 dX7_lays_128 ?_
    refine lv_iconst (v := iI 1) hx hb dX7_lays_129 rfl ?_
    refine lv_iadd hx hb dX7_lays_130 ?_
    obtain ⟨g29, h⟩ := gsome h
    refine va_iast (D := (dC, dI)) hx hb hK hP hD hS 1 0 rfl rfl g29 dX7_lays_131 (fun H locs hP hD hS => ?_)
    have hP : va_P (dC, dI) vwCl [(h_p0, .inr (7, [.ref h_p0_now, .ref h_p0_then, .ref h_p0_past, .int v_kept, .ref h_p0_text, .int v_typed, .int v_thrown, .int v_at, .int v_isFault, .ref h_p0_told, .int v_tolds, .int v_one, .int v_other, .int v_change, .int v_woken])), (h_p0_now, .inl (cyI, 452, .inl (upd r25 (iI 8).toNatClampNeg ((r25 (iI 8).toNatClampNeg) + iI 1))))] H := hP
    have hD : va_D A [(h_p0, .inr (7, [.ref h_p0_now, .ref h_p0_then, .ref h_p0_past, .int v_kept, .ref h_p0_text, .int v_typed, .int v_thrown, .int v_at, .int v_isFault, .ref h_p0_told, .int v_tolds, .int v_one, .int v_other, .int v_change, .int v_woken])), (h_p0_now, .inl (cyI, 452, .inl (upd r25 (iI 8).toNatClampNeg ((r25 (iI 8).toNatClampNeg) + iI 1))))] := hD
    obtain rfl := Option.some.inj h
    exact W.vret hx hb hr (fun t ht hW => ⟨⟨(), rfl, trivial, WLD.of ht hP hD⟩, hS.F ht⟩) hS.2.2 dX7_lays_132
def s_X7_comes (n : Nat) (v_one : Int32) (v_other : Int32) (v_change : Int32) (v_now : Nat → Int32) (a1 : Int32) (a2 : Int32) (a3 : Int32) : Option (Int32 × (Nat → Int32)) := (if gd (iI 6) 452 = true then (if gd (iI 7) 452 = true then (if gd (iI 10 + (iI 7 * (v_now (iI 6).toNatClampNeg))) 452 = true then (if gd ((iI 10 + (iI 7 * (v_now (iI 6).toNatClampNeg))) + iI 1) 452 = true then (if gd ((iI 10 + (iI 7 * (v_now (iI 6).toNatClampNeg))) + iI 2) 452 = true then (if a3 = 0 then (if gd ((iI 10 + (iI 7 * (v_now (iI 6).toNatClampNeg))) + iI 3) 452 = true then (if gd (iI 6) 452 = true then ((s_X7_lays n v_one v_other v_change (upd (upd (upd (upd v_now (iI 10 + (iI 7 * (v_now (iI 6).toNatClampNeg))).toNatClampNeg (v_now (iI 7).toNatClampNeg)) ((iI 10 + (iI 7 * (v_now (iI 6).toNatClampNeg))) + iI 1).toNatClampNeg a1) ((iI 10 + (iI 7 * (v_now (iI 6).toNatClampNeg))) + iI 2).toNatClampNeg a2) ((iI 10 + (iI 7 * (v_now (iI 6).toNatClampNeg))) + iI 3).toNatClampNeg (iI 0)) ((upd (upd (upd (upd v_now (iI 10 + (iI 7 * (v_now (iI 6).toNatClampNeg))).toNatClampNeg (v_now (iI 7).toNatClampNeg)) ((iI 10 + (iI 7 * (v_now (iI 6).toNatClampNeg))) + iI 1).toNatClampNeg a1) ((iI 10 + (iI 7 * (v_now (iI 6).toNatClampNeg))) + iI 2).toNatClampNeg a2) ((iI 10 + (iI 7 * (v_now (iI 6).toNatClampNeg))) + iI 3).toNatClampNeg (iI 0)) (iI 6).toNatClampNeg)).bind fun r9 => (if gd (iI 6) 452 = true then (if gd (iI 6) 452 = true then (if gd (iI 7) 452 = true then (if gd (iI 7) 452 = true then (if gd (iI 7) 452 = true then (some ((((upd (upd r9 (iI 6).toNatClampNeg ((r9 (iI 6).toNatClampNeg) + iI 1)) (iI 7).toNatClampNeg (((upd r9 (iI 6).toNatClampNeg ((r9 (iI 6).toNatClampNeg) + iI 1)) (iI 7).toNatClampNeg) + iI 1)) (iI 7).toNatClampNeg) - iI 1), (upd (upd r9 (iI 6).toNatClampNeg ((r9 (iI 6).toNatClampNeg) + iI 1)) (iI 7).toNatClampNeg (((upd r9 (iI 6).toNatClampNeg ((r9 (iI 6).toNatClampNeg) + iI 1)) (iI 7).toNatClampNeg) + iI 1)))) else none) else none) else none) else none) else none)) else none) else none) else (if gd ((iI 10 + (iI 7 * (v_now (iI 6).toNatClampNeg))) + iI 3) 452 = true then (if gd (iI 6) 452 = true then ((s_X7_lays n v_one v_other v_change (upd (upd (upd (upd v_now (iI 10 + (iI 7 * (v_now (iI 6).toNatClampNeg))).toNatClampNeg (v_now (iI 7).toNatClampNeg)) ((iI 10 + (iI 7 * (v_now (iI 6).toNatClampNeg))) + iI 1).toNatClampNeg a1) ((iI 10 + (iI 7 * (v_now (iI 6).toNatClampNeg))) + iI 2).toNatClampNeg a2) ((iI 10 + (iI 7 * (v_now (iI 6).toNatClampNeg))) + iI 3).toNatClampNeg (iI 1)) ((upd (upd (upd (upd v_now (iI 10 + (iI 7 * (v_now (iI 6).toNatClampNeg))).toNatClampNeg (v_now (iI 7).toNatClampNeg)) ((iI 10 + (iI 7 * (v_now (iI 6).toNatClampNeg))) + iI 1).toNatClampNeg a1) ((iI 10 + (iI 7 * (v_now (iI 6).toNatClampNeg))) + iI 2).toNatClampNeg a2) ((iI 10 + (iI 7 * (v_now (iI 6).toNatClampNeg))) + iI 3).toNatClampNeg (iI 1)) (iI 6).toNatClampNeg)).bind fun r19 => (if gd (iI 6) 452 = true then (if gd (iI 6) 452 = true then (if gd (iI 7) 452 = true then (if gd (iI 7) 452 = true then (if gd (iI 7) 452 = true then (some ((((upd (upd r19 (iI 6).toNatClampNeg ((r19 (iI 6).toNatClampNeg) + iI 1)) (iI 7).toNatClampNeg (((upd r19 (iI 6).toNatClampNeg ((r19 (iI 6).toNatClampNeg) + iI 1)) (iI 7).toNatClampNeg) + iI 1)) (iI 7).toNatClampNeg) - iI 1), (upd (upd r19 (iI 6).toNatClampNeg ((r19 (iI 6).toNatClampNeg) + iI 1)) (iI 7).toNatClampNeg (((upd r19 (iI 6).toNatClampNeg ((r19 (iI 6).toNatClampNeg) + iI 1)) (iI 7).toNatClampNeg) + iI 1)))) else none) else none) else none) else none) else none)) else none) else none)) else none) else none) else none) else none) else none)
set_option maxRecDepth 20000 in
theorem m_X7_comes_0 : ∀ w ∈ u_ws RX7 TX7 15, w ∈ wsX7_comes := by decide +kernel
set_option maxRecDepth 20000 in
theorem m_X7_comes_1 : (.fieldLink RX7 7 "SleeperBerthsModel" "now" "[I" : Cond) ∈ wsX7_comes := by decide +kernel
set_option maxHeartbeats 4000000 in
set_option maxRecDepth 100000 in
theorem c_X7_comes (l : Launch) (dC : Nat → ClassId) (dI : Nat → Nat → Nat) (cyI cyJ cyT : ClassId) (h_p0 : Nat) (h_p0_now : Nat) (h_p0_then : Nat) (h_p0_past : Nat) (h_p0_text : Nat) (h_p0_told : Nat) (sz : Nat) (v_kept : Int32) (v_typed : Int32) (v_thrown : Int32) (v_at : Int32) (v_isFault : Int32) (v_tolds : Int32) (v_one : Int32) (v_other : Int32) (v_change : Int32) (v_woken : Int32) (v_now : Nat → Int32) (a1 : Int32) (a2 : Int32) (a3 : Int32) (n : Nat) (o : Int32 × (Nat → Int32)) (h : s_X7_comes n v_one v_other v_change v_now a1 a2 a3 = some o) : Met l yX7_comes wsX7_comes ({ frames := 2, cells := 0, slots := 0, locals := 48 }) (va_Pc [.ref h_p0, .int a1, .int a2, .int a3] (PRE (dC, dI) (TYS cyI cyJ cyT) sz [(h_p0, .inr (7, [.ref h_p0_now, .ref h_p0_then, .ref h_p0_past, .int v_kept, .ref h_p0_text, .int v_typed, .int v_thrown, .int v_at, .int v_isFault, .ref h_p0_told, .int v_tolds, .int v_one, .int v_other, .int v_change, .int v_woken])), (h_p0_now, .inl (cyI, 452, .inl v_now))])) (va_Qi (S := Unit) (fun r _ => r = o.1) (fun _ t => WLD (dC, dI) (va_A [(h_p0, .inr (7, [.ref h_p0_now, .ref h_p0_then, .ref h_p0_past, .int v_kept, .ref h_p0_text, .int v_typed, .int v_thrown, .int v_at, .int v_isFault, .ref h_p0_told, .int v_tolds, .int v_one, .int v_other, .int v_change, .int v_woken])), (h_p0_now, .inl (cyI, 452, .inl v_now))] sz) [(h_p0, .inr (7, [.ref h_p0_now, .ref h_p0_then, .ref h_p0_past, .int v_kept, .ref h_p0_text, .int v_typed, .int v_thrown, .int v_at, .int v_isFault, .ref h_p0_told, .int v_tolds, .int v_one, .int v_other, .int v_change, .int v_woken])), (h_p0_now, .inl (cyI, 452, .inl o.2))] t) (va_A [(h_p0, .inr (7, [.ref h_p0_now, .ref h_p0_then, .ref h_p0_past, .int v_kept, .ref h_p0_text, .int v_typed, .int v_thrown, .int v_at, .int v_isFault, .ref h_p0_told, .int v_tolds, .int v_one, .int v_other, .int v_change, .int v_woken])), (h_p0_now, .inl (cyI, 452, .inl v_now))] sz)) 0 0 (va_A [(h_p0, .inr (7, [.ref h_p0_now, .ref h_p0_then, .ref h_p0_past, .int v_kept, .ref h_p0_text, .int v_typed, .int v_thrown, .int v_at, .int v_isFault, .ref h_p0_told, .int v_tolds, .int v_one, .int v_other, .int v_change, .int v_woken])), (h_p0_now, .inl (cyI, 452, .inl v_now))] sz) := by
  refine Met.ofW (cc := cX7_comes) (maxL := 5) (ret := (some .int)) (by decide) rfl ?_
  intro p e s m args below meth c s₁ B hml hv
  obtain ⟨rfl, hsz, hP, hK, hD0, hNW⟩ := hv
  have hx := B.exec
  have hb := B.bytes
  have hr := B.returns
  have hts := atoms_spec (ws := wsX7_comes) B.pre
  have hown : s.vm.findClass RX7 = some m.cls := findClass_of_methodNamed B.named
  have hlocks := B.notSynchronized
  subst hsz
  have hD := hD0.self (sz := s.heap.size)
  generalize hAe : va_A [(h_p0, .inr (7, [.ref h_p0_now, .ref h_p0_then, .ref h_p0_past, .int v_kept, .ref h_p0_text, .int v_typed, .int v_thrown, .int v_at, .int v_isFault, .ref h_p0_told, .int v_tolds, .int v_one, .int v_other, .int v_change, .int v_woken])), (h_p0_now, .inl (cyI, 452, .inl v_now))] s.heap.size = A at hD ⊢
  have hA : ∀ q : Nat, s.heap.size ≤ q → A q := fun q h => by rw [← hAe]; exact Or.inr h
  have hS : va_S A s.heap s.heap [] := va_S.rf
  have hP : va_P (dC, dI) vwCl [(h_p0, .inr (7, [.ref h_p0_now, .ref h_p0_then, .ref h_p0_past, .int v_kept, .ref h_p0_text, .int v_typed, .int v_thrown, .int v_at, .int v_isFault, .ref h_p0_told, .int v_tolds, .int v_one, .int v_other, .int v_change, .int v_woken])), (h_p0_now, .inl (cyI, 452, .inl v_now))] s.heap := hP
  have hl := lv_entry ([.ref h_p0, .int a1, .int a2, .int a3]) (n := 5) (Nat.le_of_ble_eq_true rfl)
  rw [lg_entry_eq]
  generalize (lg_sl ([.ref h_p0, .int a1, .int a2, .int a3]) ++ List.replicate (5 - (lg_sl ([.ref h_p0, .int a1, .int a2, .int a3])).length) Slot.unset).toArray = ls at hl ⊢
  have hl : lv_has ls 5 [(0, .ref h_p0), (1, .int a1), (2, .int a2), (3, .int a3)] := hl
  unfold s_X7_comes at h
  refine lv_bipush (v := iI 10) hx hb dX7_comes_0 (by decide) ?_
  refine lv_bipush (v := iI 7) hx hb dX7_comes_2 (by decide) ?_
  refine lv_aload_n hx hb dX7_comes_4 rfl (lv_at hl 0 rfl) ?_
  refine va_get (D := (dC, dI)) (ci := 7) (v := .ref h_p0_now) (C := RX7) (T := TX7) (N := 15) hx hb hts m_X7_comes_0 hown hK hP 0 rfl rfl 0 (by decide) (hts (.fieldLink RX7 7 "SleeperBerthsModel" "now" "[I") m_X7_comes_1) (fun _ h9 => h9) rfl dX7_comes_5 ?_
  refine lv_bipush (v := iI 6) hx hb dX7_comes_8 (by decide) ?_
  obtain ⟨g1, h⟩ := gsome h
  refine va_iald (D := (dC, dI)) hx hb hK hP 1 0 rfl rfl g1 dX7_comes_10 ?_
  refine lv_imul hx hb dX7_comes_11 ?_
  refine lv_iadd hx hb dX7_comes_12 ?_
  refine lv_istore hx hb dX7_comes_13 hl (by decide) (rfl : _ = ([(4, .int (iI 10 + (iI 7 * (v_now (iI 6).toNatClampNeg)))), (0, .ref h_p0), (1, .int a1), (2, .int a2), (3, .int a3)] : List (Nat × Value))) (fun ls hl => ?_)
  refine lv_aload_n hx hb dX7_comes_15 rfl (lv_at hl 1 rfl) ?_
  refine va_get (D := (dC, dI)) (ci := 7) (v := .ref h_p0_now) (C := RX7) (T := TX7) (N := 15) hx hb hts m_X7_comes_0 hown hK hP 0 rfl rfl 0 (by decide) (hts (.fieldLink RX7 7 "SleeperBerthsModel" "now" "[I") m_X7_comes_1) (fun _ h9 => h9) rfl dX7_comes_16 ?_
  refine lv_iload hx hb dX7_comes_19 (lv_at hl 0 rfl) ?_
  refine lv_aload_n hx hb dX7_comes_21 rfl (lv_at hl 1 rfl) ?_
  refine va_get (D := (dC, dI)) (ci := 7) (v := .ref h_p0_now) (C := RX7) (T := TX7) (N := 15) hx hb hts m_X7_comes_0 hown hK hP 0 rfl rfl 0 (by decide) (hts (.fieldLink RX7 7 "SleeperBerthsModel" "now" "[I") m_X7_comes_1) (fun _ h9 => h9) rfl dX7_comes_22 ?_
  refine lv_bipush (v := iI 7) hx hb dX7_comes_25 (by decide) ?_
  obtain ⟨g2, h⟩ := gsome h
  refine va_iald (D := (dC, dI)) hx hb hK hP 1 0 rfl rfl g2 dX7_comes_27 ?_
  obtain ⟨g3, h⟩ := gsome h
  refine va_iast (D := (dC, dI)) hx hb hK hP hD hS 1 0 rfl rfl g3 dX7_comes_28 (fun H locs hP hD hS => ?_)
  have hP : va_P (dC, dI) vwCl [(h_p0, .inr (7, [.ref h_p0_now, .ref h_p0_then, .ref h_p0_past, .int v_kept, .ref h_p0_text, .int v_typed, .int v_thrown, .int v_at, .int v_isFault, .ref h_p0_told, .int v_tolds, .int v_one, .int v_other, .int v_change, .int v_woken])), (h_p0_now, .inl (cyI, 452, .inl (upd v_now (iI 10 + (iI 7 * (v_now (iI 6).toNatClampNeg))).toNatClampNeg (v_now (iI 7).toNatClampNeg))))] H := hP
  have hD : va_D A [(h_p0, .inr (7, [.ref h_p0_now, .ref h_p0_then, .ref h_p0_past, .int v_kept, .ref h_p0_text, .int v_typed, .int v_thrown, .int v_at, .int v_isFault, .ref h_p0_told, .int v_tolds, .int v_one, .int v_other, .int v_change, .int v_woken])), (h_p0_now, .inl (cyI, 452, .inl (upd v_now (iI 10 + (iI 7 * (v_now (iI 6).toNatClampNeg))).toNatClampNeg (v_now (iI 7).toNatClampNeg))))] := hD
  refine lv_aload_n hx hb dX7_comes_29 rfl (lv_at hl 1 rfl) ?_
  refine va_get (D := (dC, dI)) (ci := 7) (v := .ref h_p0_now) (C := RX7) (T := TX7) (N := 15) hx hb hts m_X7_comes_0 hown hK hP 0 rfl rfl 0 (by decide) (hts (.fieldLink RX7 7 "SleeperBerthsModel" "now" "[I") m_X7_comes_1) (fun _ h9 => h9) rfl dX7_comes_30 ?_
  refine lv_iload hx hb dX7_comes_33 (lv_at hl 0 rfl) ?_
  refine lv_iconst (v := iI 1) hx hb dX7_comes_35 rfl ?_
  refine lv_iadd hx hb dX7_comes_36 ?_
  refine lv_iload_n hx hb dX7_comes_37 rfl (lv_at hl 2 rfl) ?_
  obtain ⟨g4, h⟩ := gsome h
  refine va_iast (D := (dC, dI)) hx hb hK hP hD hS 1 0 rfl rfl g4 dX7_comes_38 (fun H locs hP hD hS => ?_)
  have hP : va_P (dC, dI) vwCl [(h_p0, .inr (7, [.ref h_p0_now, .ref h_p0_then, .ref h_p0_past, .int v_kept, .ref h_p0_text, .int v_typed, .int v_thrown, .int v_at, .int v_isFault, .ref h_p0_told, .int v_tolds, .int v_one, .int v_other, .int v_change, .int v_woken])), (h_p0_now, .inl (cyI, 452, .inl (upd (upd v_now (iI 10 + (iI 7 * (v_now (iI 6).toNatClampNeg))).toNatClampNeg (v_now (iI 7).toNatClampNeg)) ((iI 10 + (iI 7 * (v_now (iI 6).toNatClampNeg))) + iI 1).toNatClampNeg a1)))] H := hP
  have hD : va_D A [(h_p0, .inr (7, [.ref h_p0_now, .ref h_p0_then, .ref h_p0_past, .int v_kept, .ref h_p0_text, .int v_typed, .int v_thrown, .int v_at, .int v_isFault, .ref h_p0_told, .int v_tolds, .int v_one, .int v_other, .int v_change, .int v_woken])), (h_p0_now, .inl (cyI, 452, .inl (upd (upd v_now (iI 10 + (iI 7 * (v_now (iI 6).toNatClampNeg))).toNatClampNeg (v_now (iI 7).toNatClampNeg)) ((iI 10 + (iI 7 * (v_now (iI 6).toNatClampNeg))) + iI 1).toNatClampNeg a1)))] := hD
  refine lv_aload_n hx hb dX7_comes_39 rfl (lv_at hl 1 rfl) ?_
  refine va_get (D := (dC, dI)) (ci := 7) (v := .ref h_p0_now) (C := RX7) (T := TX7) (N := 15) hx hb hts m_X7_comes_0 hown hK hP 0 rfl rfl 0 (by decide) (hts (.fieldLink RX7 7 "SleeperBerthsModel" "now" "[I") m_X7_comes_1) (fun _ h9 => h9) rfl dX7_comes_40 ?_
  refine lv_iload hx hb dX7_comes_43 (lv_at hl 0 rfl) ?_
  refine lv_iconst (v := iI 2) hx hb dX7_comes_45 rfl ?_
  refine lv_iadd hx hb dX7_comes_46 ?_
  refine lv_iload_n hx hb dX7_comes_47 rfl (lv_at hl 3 rfl) ?_
  obtain ⟨g5, h⟩ := gsome h
  refine va_iast (D := (dC, dI)) hx hb hK hP hD hS 1 0 rfl rfl g5 dX7_comes_48 (fun H locs hP hD hS => ?_)
  have hP : va_P (dC, dI) vwCl [(h_p0, .inr (7, [.ref h_p0_now, .ref h_p0_then, .ref h_p0_past, .int v_kept, .ref h_p0_text, .int v_typed, .int v_thrown, .int v_at, .int v_isFault, .ref h_p0_told, .int v_tolds, .int v_one, .int v_other, .int v_change, .int v_woken])), (h_p0_now, .inl (cyI, 452, .inl (upd (upd (upd v_now (iI 10 + (iI 7 * (v_now (iI 6).toNatClampNeg))).toNatClampNeg (v_now (iI 7).toNatClampNeg)) ((iI 10 + (iI 7 * (v_now (iI 6).toNatClampNeg))) + iI 1).toNatClampNeg a1) ((iI 10 + (iI 7 * (v_now (iI 6).toNatClampNeg))) + iI 2).toNatClampNeg a2)))] H := hP
  have hD : va_D A [(h_p0, .inr (7, [.ref h_p0_now, .ref h_p0_then, .ref h_p0_past, .int v_kept, .ref h_p0_text, .int v_typed, .int v_thrown, .int v_at, .int v_isFault, .ref h_p0_told, .int v_tolds, .int v_one, .int v_other, .int v_change, .int v_woken])), (h_p0_now, .inl (cyI, 452, .inl (upd (upd (upd v_now (iI 10 + (iI 7 * (v_now (iI 6).toNatClampNeg))).toNatClampNeg (v_now (iI 7).toNatClampNeg)) ((iI 10 + (iI 7 * (v_now (iI 6).toNatClampNeg))) + iI 1).toNatClampNeg a1) ((iI 10 + (iI 7 * (v_now (iI 6).toNatClampNeg))) + iI 2).toNatClampNeg a2)))] := hD
  refine lv_aload_n hx hb dX7_comes_49 rfl (lv_at hl 1 rfl) ?_
  refine va_get (D := (dC, dI)) (ci := 7) (v := .ref h_p0_now) (C := RX7) (T := TX7) (N := 15) hx hb hts m_X7_comes_0 hown hK hP 0 rfl rfl 0 (by decide) (hts (.fieldLink RX7 7 "SleeperBerthsModel" "now" "[I") m_X7_comes_1) (fun _ h9 => h9) rfl dX7_comes_50 ?_
  refine lv_iload hx hb dX7_comes_53 (lv_at hl 0 rfl) ?_
  refine lv_iconst (v := iI 3) hx hb dX7_comes_55 rfl ?_
  refine lv_iadd hx hb dX7_comes_56 ?_
  refine lv_iload_n hx hb dX7_comes_57 rfl (lv_at hl 4 rfl) ?_
  refine lv_if_eq (tgt := 65) hx hb dX7_comes_58 (by decide) (fun c6 => ?_) (fun c6 => ?_)
  · have h := ipos c6 h
    refine lv_iconst (v := iI 0) hx hb dX7_comes_65 rfl ?_
    obtain ⟨g7, h⟩ := gsome h
    refine va_iast (D := (dC, dI)) hx hb hK hP hD hS 1 0 rfl rfl g7 dX7_comes_66 (fun H locs hP hD hS => ?_)
    have hP : va_P (dC, dI) vwCl [(h_p0, .inr (7, [.ref h_p0_now, .ref h_p0_then, .ref h_p0_past, .int v_kept, .ref h_p0_text, .int v_typed, .int v_thrown, .int v_at, .int v_isFault, .ref h_p0_told, .int v_tolds, .int v_one, .int v_other, .int v_change, .int v_woken])), (h_p0_now, .inl (cyI, 452, .inl (upd (upd (upd (upd v_now (iI 10 + (iI 7 * (v_now (iI 6).toNatClampNeg))).toNatClampNeg (v_now (iI 7).toNatClampNeg)) ((iI 10 + (iI 7 * (v_now (iI 6).toNatClampNeg))) + iI 1).toNatClampNeg a1) ((iI 10 + (iI 7 * (v_now (iI 6).toNatClampNeg))) + iI 2).toNatClampNeg a2) ((iI 10 + (iI 7 * (v_now (iI 6).toNatClampNeg))) + iI 3).toNatClampNeg (iI 0))))] H := hP
    have hD : va_D A [(h_p0, .inr (7, [.ref h_p0_now, .ref h_p0_then, .ref h_p0_past, .int v_kept, .ref h_p0_text, .int v_typed, .int v_thrown, .int v_at, .int v_isFault, .ref h_p0_told, .int v_tolds, .int v_one, .int v_other, .int v_change, .int v_woken])), (h_p0_now, .inl (cyI, 452, .inl (upd (upd (upd (upd v_now (iI 10 + (iI 7 * (v_now (iI 6).toNatClampNeg))).toNatClampNeg (v_now (iI 7).toNatClampNeg)) ((iI 10 + (iI 7 * (v_now (iI 6).toNatClampNeg))) + iI 1).toNatClampNeg a1) ((iI 10 + (iI 7 * (v_now (iI 6).toNatClampNeg))) + iI 2).toNatClampNeg a2) ((iI 10 + (iI 7 * (v_now (iI 6).toNatClampNeg))) + iI 3).toNatClampNeg (iI 0))))] := hD
    refine lv_aload_n hx hb dX7_comes_67 rfl (lv_at hl 1 rfl) ?_
    refine lv_aload_n hx hb dX7_comes_68 rfl (lv_at hl 1 rfl) ?_
    refine va_get (D := (dC, dI)) (ci := 7) (v := .ref h_p0_now) (C := RX7) (T := TX7) (N := 15) hx hb hts m_X7_comes_0 hown hK hP 0 rfl rfl 0 (by decide) (hts (.fieldLink RX7 7 "SleeperBerthsModel" "now" "[I") m_X7_comes_1) (fun _ h9 => h9) rfl dX7_comes_69 ?_
    refine lv_bipush (v := iI 6) hx hb dX7_comes_72 (by decide) ?_
    obtain ⟨g8, h⟩ := gsome h
    refine va_iald (D := (dC, dI)) hx hb hK hP 1 0 rfl rfl g8 dX7_comes_74 ?_
    obtain ⟨r9, e10, h⟩ := bsome h
    have hPc := sb_P [(h_p0, .inr (7, [.ref h_p0_now, .ref h_p0_then, .ref h_p0_past, .int v_kept, .ref h_p0_text, .int v_typed, .int v_thrown, .int v_at, .int v_isFault, .ref h_p0_told, .int v_tolds, .int v_one, .int v_other, .int v_change, .int v_woken])), (h_p0_now, .inl (cyI, 452, .inl (upd (upd (upd (upd v_now (iI 10 + (iI 7 * (v_now (iI 6).toNatClampNeg))).toNatClampNeg (v_now (iI 7).toNatClampNeg)) ((iI 10 + (iI 7 * (v_now (iI 6).toNatClampNeg))) + iI 1).toNatClampNeg a1) ((iI 10 + (iI 7 * (v_now (iI 6).toNatClampNeg))) + iI 2).toNatClampNeg a2) ((iI 10 + (iI 7 * (v_now (iI 6).toNatClampNeg))) + iI 3).toNatClampNeg (iI 0))))] hP [0, 1] rfl
    have hDc := sb_D [(h_p0, .inr (7, [.ref h_p0_now, .ref h_p0_then, .ref h_p0_past, .int v_kept, .ref h_p0_text, .int v_typed, .int v_thrown, .int v_at, .int v_isFault, .ref h_p0_told, .int v_tolds, .int v_one, .int v_other, .int v_change, .int v_woken])), (h_p0_now, .inl (cyI, 452, .inl (upd (upd (upd (upd v_now (iI 10 + (iI 7 * (v_now (iI 6).toNatClampNeg))).toNatClampNeg (v_now (iI 7).toNatClampNeg)) ((iI 10 + (iI 7 * (v_now (iI 6).toNatClampNeg))) + iI 1).toNatClampNeg a1) ((iI 10 + (iI 7 * (v_now (iI 6).toNatClampNeg))) + iI 2).toNatClampNeg a2) ((iI 10 + (iI 7 * (v_now (iI 6).toNatClampNeg))) + iI 3).toNatClampNeg (iI 0))))] hD [0, 1] (by decide) rfl
    have hFc := va_free (wc := [(h_p0, .inr (7, [.ref h_p0_now, .ref h_p0_then, .ref h_p0_past, .int v_kept, .ref h_p0_text, .int v_typed, .int v_thrown, .int v_at, .int v_isFault, .ref h_p0_told, .int v_tolds, .int v_one, .int v_other, .int v_change, .int v_woken])), (h_p0_now, .inl (cyI, 452, .inl (upd (upd (upd (upd v_now (iI 10 + (iI 7 * (v_now (iI 6).toNatClampNeg))).toNatClampNeg (v_now (iI 7).toNatClampNeg)) ((iI 10 + (iI 7 * (v_now (iI 6).toNatClampNeg))) + iI 1).toNatClampNeg a1) ((iI 10 + (iI 7 * (v_now (iI 6).toNatClampNeg))) + iI 2).toNatClampNeg a2) ((iI 10 + (iI 7 * (v_now (iI 6).toNatClampNeg))) + iI 3).toNatClampNeg (iI 0))))]) hD hS hA [0, 1] rfl
    refine va_callv (va_runV (As := [.int ((upd (upd (upd (upd v_now (iI 10 + (iI 7 * (v_now (iI 6).toNatClampNeg))).toNatClampNeg (v_now (iI 7).toNatClampNeg)) ((iI 10 + (iI 7 * (v_now (iI 6).toNatClampNeg))) + iI 1).toNatClampNeg a1) ((iI 10 + (iI 7 * (v_now (iI 6).toNatClampNeg))) + iI 2).toNatClampNeg a2) ((iI 10 + (iI 7 * (v_now (iI 6).toNatClampNeg))) + iI 3).toNatClampNeg (iI 0)) (iI 6).toNatClampNeg)]) (rest := []) ⟨hx, hb, hml, hown, hts⟩ (c_X7_lays l dC dI cyI cyJ cyT h_p0 h_p0_now h_p0_then h_p0_past h_p0_text h_p0_told H.size v_kept v_typed v_thrown v_at v_isFault v_tolds v_one v_other v_change v_woken (upd (upd (upd (upd v_now (iI 10 + (iI 7 * (v_now (iI 6).toNatClampNeg))).toNatClampNeg (v_now (iI 7).toNatClampNeg)) ((iI 10 + (iI 7 * (v_now (iI 6).toNatClampNeg))) + iI 1).toNatClampNeg a1) ((iI 10 + (iI 7 * (v_now (iI 6).toNatClampNeg))) + iI 2).toNatClampNeg a2) ((iI 10 + (iI 7 * (v_now (iI 6).toNatClampNeg))) + iI 3).toNatClampNeg (iI 0)) ((upd (upd (upd (upd v_now (iI 10 + (iI 7 * (v_now (iI 6).toNatClampNeg))).toNatClampNeg (v_now (iI 7).toNatClampNeg)) ((iI 10 + (iI 7 * (v_now (iI 6).toNatClampNeg))) + iI 1).toNatClampNeg a1) ((iI 10 + (iI 7 * (v_now (iI 6).toNatClampNeg))) + iI 2).toNatClampNeg a2) ((iI 10 + (iI 7 * (v_now (iI 6).toNatClampNeg))) + iI 3).toNatClampNeg (iI 0)) (iI 6).toNatClampNeg) n r9 e10) (cwV 1 hts gX7_comes_X7_lays rfl rfl rfl (by decide +kernel) ⟨Nat.le_of_ble_eq_true rfl, Nat.le_of_ble_eq_true rfl⟩) ⟨PRE.blind, va_recv hK hPc (ci := 7) (q0 := 0) rfl rfl, PRE.go hK hPc hDc hNW⟩ rfl rfl hl.1 rfl (lv_room (Nat.le_of_ble_eq_true rfl)) dX7_comes_75 ⟨Nat.zero_le _, Nat.zero_le _⟩) hS (fun q _ h => hFc q h) hFc (fun u t H locs ht hvm hw hB hz1 hk1 hS => ?_)
    obtain ⟨hP, hD⟩ := va_join (wr := []) (w1 := [(h_p0, .inr (7, [.ref h_p0_now, .ref h_p0_then, .ref h_p0_past, .int v_kept, .ref h_p0_text, .int v_typed, .int v_thrown, .int v_at, .int v_isFault, .ref h_p0_told, .int v_tolds, .int v_one, .int v_other, .int v_change, .int v_woken])), (h_p0_now, .inl (cyI, 452, .inl r9))]) hP hD [0, 1] [] rfl rfl (by decide) (by decide) hk1 hFc (WLD.P hB ht) hB.2
    have hP : va_P (dC, dI) vwCl [(h_p0, .inr (7, [.ref h_p0_now, .ref h_p0_then, .ref h_p0_past, .int v_kept, .ref h_p0_text, .int v_typed, .int v_thrown, .int v_at, .int v_isFault, .ref h_p0_told, .int v_tolds, .int v_one, .int v_other, .int v_change, .int v_woken])), (h_p0_now, .inl (cyI, 452, .inl r9))] H := hP
    have hD : va_D A [(h_p0, .inr (7, [.ref h_p0_now, .ref h_p0_then, .ref h_p0_past, .int v_kept, .ref h_p0_text, .int v_typed, .int v_thrown, .int v_at, .int v_isFault, .ref h_p0_told, .int v_tolds, .int v_one, .int v_other, .int v_change, .int v_woken])), (h_p0_now, .inl (cyI, 452, .inl r9))] := hD
    refine lv_aload_n hx hb dX7_comes_78 rfl (lv_at hl 1 rfl) ?_
    refine va_get (D := (dC, dI)) (ci := 7) (v := .ref h_p0_now) (C := RX7) (T := TX7) (N := 15) hx hb hts m_X7_comes_0 hown hK hP 0 rfl rfl 0 (by decide) (hts (.fieldLink RX7 7 "SleeperBerthsModel" "now" "[I") m_X7_comes_1) (fun _ h9 => h9) rfl dX7_comes_79 ?_
    refine lv_bipush (v := iI 6) hx hb dX7_comes_82 (by decide) ?_
    refine lv_dup2_11 hx hb dX7_comes_84 rfl rfl ?_
    obtain ⟨g12, h⟩ := gsome h
    refine va_iald (D := (dC, dI)) hx hb hK hP 1 0 rfl rfl g12 dX7_comes_85 ?_
    refine lv_iconst (v := iI 1) hx hb dX7_comes_86 rfl ?_
    refine lv_iadd hx hb dX7_comes_87 ?_
    obtain ⟨g13, h⟩ := gsome h
    refine va_iast (D := (dC, dI)) hx hb hK hP hD hS 1 0 rfl rfl g13 dX7_comes_88 (fun H locs hP hD hS => ?_)
    have hP : va_P (dC, dI) vwCl [(h_p0, .inr (7, [.ref h_p0_now, .ref h_p0_then, .ref h_p0_past, .int v_kept, .ref h_p0_text, .int v_typed, .int v_thrown, .int v_at, .int v_isFault, .ref h_p0_told, .int v_tolds, .int v_one, .int v_other, .int v_change, .int v_woken])), (h_p0_now, .inl (cyI, 452, .inl (upd r9 (iI 6).toNatClampNeg ((r9 (iI 6).toNatClampNeg) + iI 1))))] H := hP
    have hD : va_D A [(h_p0, .inr (7, [.ref h_p0_now, .ref h_p0_then, .ref h_p0_past, .int v_kept, .ref h_p0_text, .int v_typed, .int v_thrown, .int v_at, .int v_isFault, .ref h_p0_told, .int v_tolds, .int v_one, .int v_other, .int v_change, .int v_woken])), (h_p0_now, .inl (cyI, 452, .inl (upd r9 (iI 6).toNatClampNeg ((r9 (iI 6).toNatClampNeg) + iI 1))))] := hD
    refine lv_aload_n hx hb dX7_comes_89 rfl (lv_at hl 1 rfl) ?_
    refine va_get (D := (dC, dI)) (ci := 7) (v := .ref h_p0_now) (C := RX7) (T := TX7) (N := 15) hx hb hts m_X7_comes_0 hown hK hP 0 rfl rfl 0 (by decide) (hts (.fieldLink RX7 7 "SleeperBerthsModel" "now" "[I") m_X7_comes_1) (fun _ h9 => h9) rfl dX7_comes_90 ?_
    refine lv_bipush (v := iI 7) hx hb dX7_comes_93 (by decide) ?_
    refine lv_dup2_11 hx hb dX7_comes_95 rfl rfl ?_
    obtain ⟨g14, h⟩ := gsome h
    refine va_iald (D := (dC, dI)) hx hb hK hP 1 0 rfl rfl g14 dX7_comes_96 ?_
    refine lv_iconst (v := iI 1) hx hb dX7_comes_97 rfl ?_
    refine lv_iadd hx hb dX7_comes_98 ?_
    obtain ⟨g15, h⟩ := gsome h
    refine va_iast (D := (dC, dI)) hx hb hK hP hD hS 1 0 rfl rfl g15 dX7_comes_99 (fun H locs hP hD hS => ?_)
    have hP : va_P (dC, dI) vwCl [(h_p0, .inr (7, [.ref h_p0_now, .ref h_p0_then, .ref h_p0_past, .int v_kept, .ref h_p0_text, .int v_typed, .int v_thrown, .int v_at, .int v_isFault, .ref h_p0_told, .int v_tolds, .int v_one, .int v_other, .int v_change, .int v_woken])), (h_p0_now, .inl (cyI, 452, .inl (upd (upd r9 (iI 6).toNatClampNeg ((r9 (iI 6).toNatClampNeg) + iI 1)) (iI 7).toNatClampNeg (((upd r9 (iI 6).toNatClampNeg ((r9 (iI 6).toNatClampNeg) + iI 1)) (iI 7).toNatClampNeg) + iI 1))))] H := hP
    have hD : va_D A [(h_p0, .inr (7, [.ref h_p0_now, .ref h_p0_then, .ref h_p0_past, .int v_kept, .ref h_p0_text, .int v_typed, .int v_thrown, .int v_at, .int v_isFault, .ref h_p0_told, .int v_tolds, .int v_one, .int v_other, .int v_change, .int v_woken])), (h_p0_now, .inl (cyI, 452, .inl (upd (upd r9 (iI 6).toNatClampNeg ((r9 (iI 6).toNatClampNeg) + iI 1)) (iI 7).toNatClampNeg (((upd r9 (iI 6).toNatClampNeg ((r9 (iI 6).toNatClampNeg) + iI 1)) (iI 7).toNatClampNeg) + iI 1))))] := hD
    refine lv_aload_n hx hb dX7_comes_100 rfl (lv_at hl 1 rfl) ?_
    refine va_get (D := (dC, dI)) (ci := 7) (v := .ref h_p0_now) (C := RX7) (T := TX7) (N := 15) hx hb hts m_X7_comes_0 hown hK hP 0 rfl rfl 0 (by decide) (hts (.fieldLink RX7 7 "SleeperBerthsModel" "now" "[I") m_X7_comes_1) (fun _ h9 => h9) rfl dX7_comes_101 ?_
    refine lv_bipush (v := iI 7) hx hb dX7_comes_104 (by decide) ?_
    obtain ⟨g16, h⟩ := gsome h
    refine va_iald (D := (dC, dI)) hx hb hK hP 1 0 rfl rfl g16 dX7_comes_106 ?_
    refine lv_iconst (v := iI 1) hx hb dX7_comes_107 rfl ?_
    refine lv_isub hx hb dX7_comes_108 ?_
    obtain rfl := Option.some.inj h
    exact W.iret (v := (((upd (upd r9 (iI 6).toNatClampNeg ((r9 (iI 6).toNatClampNeg) + iI 1)) (iI 7).toNatClampNeg (((upd r9 (iI 6).toNatClampNeg ((r9 (iI 6).toNatClampNeg) + iI 1)) (iI 7).toNatClampNeg) + iI 1)) (iI 7).toNatClampNeg) - iI 1)) hx hb hr (fun t ht hW => ⟨⟨(((upd (upd r9 (iI 6).toNatClampNeg ((r9 (iI 6).toNatClampNeg) + iI 1)) (iI 7).toNatClampNeg (((upd r9 (iI 6).toNatClampNeg ((r9 (iI 6).toNatClampNeg) + iI 1)) (iI 7).toNatClampNeg) + iI 1)) (iI 7).toNatClampNeg) - iI 1), (), rfl, rfl, WLD.of ht hP hD⟩, hS.F ht⟩) hS.2.2 dX7_comes_109
  · have h := ineg c6 h
    refine lv_iconst (v := iI 1) hx hb dX7_comes_61 rfl ?_
    refine lv_goto (tgt := 66) hx hb dX7_comes_62 (by decide) ?_
    obtain ⟨g17, h⟩ := gsome h
    refine va_iast (D := (dC, dI)) hx hb hK hP hD hS 1 0 rfl rfl g17 dX7_comes_66 (fun H locs hP hD hS => ?_)
    have hP : va_P (dC, dI) vwCl [(h_p0, .inr (7, [.ref h_p0_now, .ref h_p0_then, .ref h_p0_past, .int v_kept, .ref h_p0_text, .int v_typed, .int v_thrown, .int v_at, .int v_isFault, .ref h_p0_told, .int v_tolds, .int v_one, .int v_other, .int v_change, .int v_woken])), (h_p0_now, .inl (cyI, 452, .inl (upd (upd (upd (upd v_now (iI 10 + (iI 7 * (v_now (iI 6).toNatClampNeg))).toNatClampNeg (v_now (iI 7).toNatClampNeg)) ((iI 10 + (iI 7 * (v_now (iI 6).toNatClampNeg))) + iI 1).toNatClampNeg a1) ((iI 10 + (iI 7 * (v_now (iI 6).toNatClampNeg))) + iI 2).toNatClampNeg a2) ((iI 10 + (iI 7 * (v_now (iI 6).toNatClampNeg))) + iI 3).toNatClampNeg (iI 1))))] H := hP
    have hD : va_D A [(h_p0, .inr (7, [.ref h_p0_now, .ref h_p0_then, .ref h_p0_past, .int v_kept, .ref h_p0_text, .int v_typed, .int v_thrown, .int v_at, .int v_isFault, .ref h_p0_told, .int v_tolds, .int v_one, .int v_other, .int v_change, .int v_woken])), (h_p0_now, .inl (cyI, 452, .inl (upd (upd (upd (upd v_now (iI 10 + (iI 7 * (v_now (iI 6).toNatClampNeg))).toNatClampNeg (v_now (iI 7).toNatClampNeg)) ((iI 10 + (iI 7 * (v_now (iI 6).toNatClampNeg))) + iI 1).toNatClampNeg a1) ((iI 10 + (iI 7 * (v_now (iI 6).toNatClampNeg))) + iI 2).toNatClampNeg a2) ((iI 10 + (iI 7 * (v_now (iI 6).toNatClampNeg))) + iI 3).toNatClampNeg (iI 1))))] := hD
    refine lv_aload_n hx hb dX7_comes_67 rfl (lv_at hl 1 rfl) ?_
    refine lv_aload_n hx hb dX7_comes_68 rfl (lv_at hl 1 rfl) ?_
    refine va_get (D := (dC, dI)) (ci := 7) (v := .ref h_p0_now) (C := RX7) (T := TX7) (N := 15) hx hb hts m_X7_comes_0 hown hK hP 0 rfl rfl 0 (by decide) (hts (.fieldLink RX7 7 "SleeperBerthsModel" "now" "[I") m_X7_comes_1) (fun _ h9 => h9) rfl dX7_comes_69 ?_
    refine lv_bipush (v := iI 6) hx hb dX7_comes_72 (by decide) ?_
    obtain ⟨g18, h⟩ := gsome h
    refine va_iald (D := (dC, dI)) hx hb hK hP 1 0 rfl rfl g18 dX7_comes_74 ?_
    obtain ⟨r19, e20, h⟩ := bsome h
    have hPc := sb_P [(h_p0, .inr (7, [.ref h_p0_now, .ref h_p0_then, .ref h_p0_past, .int v_kept, .ref h_p0_text, .int v_typed, .int v_thrown, .int v_at, .int v_isFault, .ref h_p0_told, .int v_tolds, .int v_one, .int v_other, .int v_change, .int v_woken])), (h_p0_now, .inl (cyI, 452, .inl (upd (upd (upd (upd v_now (iI 10 + (iI 7 * (v_now (iI 6).toNatClampNeg))).toNatClampNeg (v_now (iI 7).toNatClampNeg)) ((iI 10 + (iI 7 * (v_now (iI 6).toNatClampNeg))) + iI 1).toNatClampNeg a1) ((iI 10 + (iI 7 * (v_now (iI 6).toNatClampNeg))) + iI 2).toNatClampNeg a2) ((iI 10 + (iI 7 * (v_now (iI 6).toNatClampNeg))) + iI 3).toNatClampNeg (iI 1))))] hP [0, 1] rfl
    have hDc := sb_D [(h_p0, .inr (7, [.ref h_p0_now, .ref h_p0_then, .ref h_p0_past, .int v_kept, .ref h_p0_text, .int v_typed, .int v_thrown, .int v_at, .int v_isFault, .ref h_p0_told, .int v_tolds, .int v_one, .int v_other, .int v_change, .int v_woken])), (h_p0_now, .inl (cyI, 452, .inl (upd (upd (upd (upd v_now (iI 10 + (iI 7 * (v_now (iI 6).toNatClampNeg))).toNatClampNeg (v_now (iI 7).toNatClampNeg)) ((iI 10 + (iI 7 * (v_now (iI 6).toNatClampNeg))) + iI 1).toNatClampNeg a1) ((iI 10 + (iI 7 * (v_now (iI 6).toNatClampNeg))) + iI 2).toNatClampNeg a2) ((iI 10 + (iI 7 * (v_now (iI 6).toNatClampNeg))) + iI 3).toNatClampNeg (iI 1))))] hD [0, 1] (by decide) rfl
    have hFc := va_free (wc := [(h_p0, .inr (7, [.ref h_p0_now, .ref h_p0_then, .ref h_p0_past, .int v_kept, .ref h_p0_text, .int v_typed, .int v_thrown, .int v_at, .int v_isFault, .ref h_p0_told, .int v_tolds, .int v_one, .int v_other, .int v_change, .int v_woken])), (h_p0_now, .inl (cyI, 452, .inl (upd (upd (upd (upd v_now (iI 10 + (iI 7 * (v_now (iI 6).toNatClampNeg))).toNatClampNeg (v_now (iI 7).toNatClampNeg)) ((iI 10 + (iI 7 * (v_now (iI 6).toNatClampNeg))) + iI 1).toNatClampNeg a1) ((iI 10 + (iI 7 * (v_now (iI 6).toNatClampNeg))) + iI 2).toNatClampNeg a2) ((iI 10 + (iI 7 * (v_now (iI 6).toNatClampNeg))) + iI 3).toNatClampNeg (iI 1))))]) hD hS hA [0, 1] rfl
    refine va_callv (va_runV (As := [.int ((upd (upd (upd (upd v_now (iI 10 + (iI 7 * (v_now (iI 6).toNatClampNeg))).toNatClampNeg (v_now (iI 7).toNatClampNeg)) ((iI 10 + (iI 7 * (v_now (iI 6).toNatClampNeg))) + iI 1).toNatClampNeg a1) ((iI 10 + (iI 7 * (v_now (iI 6).toNatClampNeg))) + iI 2).toNatClampNeg a2) ((iI 10 + (iI 7 * (v_now (iI 6).toNatClampNeg))) + iI 3).toNatClampNeg (iI 1)) (iI 6).toNatClampNeg)]) (rest := []) ⟨hx, hb, hml, hown, hts⟩ (c_X7_lays l dC dI cyI cyJ cyT h_p0 h_p0_now h_p0_then h_p0_past h_p0_text h_p0_told H.size v_kept v_typed v_thrown v_at v_isFault v_tolds v_one v_other v_change v_woken (upd (upd (upd (upd v_now (iI 10 + (iI 7 * (v_now (iI 6).toNatClampNeg))).toNatClampNeg (v_now (iI 7).toNatClampNeg)) ((iI 10 + (iI 7 * (v_now (iI 6).toNatClampNeg))) + iI 1).toNatClampNeg a1) ((iI 10 + (iI 7 * (v_now (iI 6).toNatClampNeg))) + iI 2).toNatClampNeg a2) ((iI 10 + (iI 7 * (v_now (iI 6).toNatClampNeg))) + iI 3).toNatClampNeg (iI 1)) ((upd (upd (upd (upd v_now (iI 10 + (iI 7 * (v_now (iI 6).toNatClampNeg))).toNatClampNeg (v_now (iI 7).toNatClampNeg)) ((iI 10 + (iI 7 * (v_now (iI 6).toNatClampNeg))) + iI 1).toNatClampNeg a1) ((iI 10 + (iI 7 * (v_now (iI 6).toNatClampNeg))) + iI 2).toNatClampNeg a2) ((iI 10 + (iI 7 * (v_now (iI 6).toNatClampNeg))) + iI 3).toNatClampNeg (iI 1)) (iI 6).toNatClampNeg) n r19 e20) (cwV 1 hts gX7_comes_X7_lays rfl rfl rfl (by decide +kernel) ⟨Nat.le_of_ble_eq_true rfl, Nat.le_of_ble_eq_true rfl⟩) ⟨PRE.blind, va_recv hK hPc (ci := 7) (q0 := 0) rfl rfl, PRE.go hK hPc hDc hNW⟩ rfl rfl hl.1 rfl (lv_room (Nat.le_of_ble_eq_true rfl)) dX7_comes_75 ⟨Nat.zero_le _, Nat.zero_le _⟩) hS (fun q _ h => hFc q h) hFc (fun u t H locs ht hvm hw hB hz1 hk1 hS => ?_)
    obtain ⟨hP, hD⟩ := va_join (wr := []) (w1 := [(h_p0, .inr (7, [.ref h_p0_now, .ref h_p0_then, .ref h_p0_past, .int v_kept, .ref h_p0_text, .int v_typed, .int v_thrown, .int v_at, .int v_isFault, .ref h_p0_told, .int v_tolds, .int v_one, .int v_other, .int v_change, .int v_woken])), (h_p0_now, .inl (cyI, 452, .inl r19))]) hP hD [0, 1] [] rfl rfl (by decide) (by decide) hk1 hFc (WLD.P hB ht) hB.2
    have hP : va_P (dC, dI) vwCl [(h_p0, .inr (7, [.ref h_p0_now, .ref h_p0_then, .ref h_p0_past, .int v_kept, .ref h_p0_text, .int v_typed, .int v_thrown, .int v_at, .int v_isFault, .ref h_p0_told, .int v_tolds, .int v_one, .int v_other, .int v_change, .int v_woken])), (h_p0_now, .inl (cyI, 452, .inl r19))] H := hP
    have hD : va_D A [(h_p0, .inr (7, [.ref h_p0_now, .ref h_p0_then, .ref h_p0_past, .int v_kept, .ref h_p0_text, .int v_typed, .int v_thrown, .int v_at, .int v_isFault, .ref h_p0_told, .int v_tolds, .int v_one, .int v_other, .int v_change, .int v_woken])), (h_p0_now, .inl (cyI, 452, .inl r19))] := hD
    refine lv_aload_n hx hb dX7_comes_78 rfl (lv_at hl 1 rfl) ?_
    refine va_get (D := (dC, dI)) (ci := 7) (v := .ref h_p0_now) (C := RX7) (T := TX7) (N := 15) hx hb hts m_X7_comes_0 hown hK hP 0 rfl rfl 0 (by decide) (hts (.fieldLink RX7 7 "SleeperBerthsModel" "now" "[I") m_X7_comes_1) (fun _ h9 => h9) rfl dX7_comes_79 ?_
    refine lv_bipush (v := iI 6) hx hb dX7_comes_82 (by decide) ?_
    refine lv_dup2_11 hx hb dX7_comes_84 rfl rfl ?_
    obtain ⟨g22, h⟩ := gsome h
    refine va_iald (D := (dC, dI)) hx hb hK hP 1 0 rfl rfl g22 dX7_comes_85 ?_
    refine lv_iconst (v := iI 1) hx hb dX7_comes_86 rfl ?_
    refine lv_iadd hx hb dX7_comes_87 ?_
    obtain ⟨g23, h⟩ := gsome h
    refine va_iast (D := (dC, dI)) hx hb hK hP hD hS 1 0 rfl rfl g23 dX7_comes_88 (fun H locs hP hD hS => ?_)
    have hP : va_P (dC, dI) vwCl [(h_p0, .inr (7, [.ref h_p0_now, .ref h_p0_then, .ref h_p0_past, .int v_kept, .ref h_p0_text, .int v_typed, .int v_thrown, .int v_at, .int v_isFault, .ref h_p0_told, .int v_tolds, .int v_one, .int v_other, .int v_change, .int v_woken])), (h_p0_now, .inl (cyI, 452, .inl (upd r19 (iI 6).toNatClampNeg ((r19 (iI 6).toNatClampNeg) + iI 1))))] H := hP
    have hD : va_D A [(h_p0, .inr (7, [.ref h_p0_now, .ref h_p0_then, .ref h_p0_past, .int v_kept, .ref h_p0_text, .int v_typed, .int v_thrown, .int v_at, .int v_isFault, .ref h_p0_told, .int v_tolds, .int v_one, .int v_other, .int v_change, .int v_woken])), (h_p0_now, .inl (cyI, 452, .inl (upd r19 (iI 6).toNatClampNeg ((r19 (iI 6).toNatClampNeg) + iI 1))))] := hD
    refine lv_aload_n hx hb dX7_comes_89 rfl (lv_at hl 1 rfl) ?_
    refine va_get (D := (dC, dI)) (ci := 7) (v := .ref h_p0_now) (C := RX7) (T := TX7) (N := 15) hx hb hts m_X7_comes_0 hown hK hP 0 rfl rfl 0 (by decide) (hts (.fieldLink RX7 7 "SleeperBerthsModel" "now" "[I") m_X7_comes_1) (fun _ h9 => h9) rfl dX7_comes_90 ?_
    refine lv_bipush (v := iI 7) hx hb dX7_comes_93 (by decide) ?_
    refine lv_dup2_11 hx hb dX7_comes_95 rfl rfl ?_
    obtain ⟨g24, h⟩ := gsome h
    refine va_iald (D := (dC, dI)) hx hb hK hP 1 0 rfl rfl g24 dX7_comes_96 ?_
    refine lv_iconst (v := iI 1) hx hb dX7_comes_97 rfl ?_
    refine lv_iadd hx hb dX7_comes_98 ?_
    obtain ⟨g25, h⟩ := gsome h
    refine va_iast (D := (dC, dI)) hx hb hK hP hD hS 1 0 rfl rfl g25 dX7_comes_99 (fun H locs hP hD hS => ?_)
    have hP : va_P (dC, dI) vwCl [(h_p0, .inr (7, [.ref h_p0_now, .ref h_p0_then, .ref h_p0_past, .int v_kept, .ref h_p0_text, .int v_typed, .int v_thrown, .int v_at, .int v_isFault, .ref h_p0_told, .int v_tolds, .int v_one, .int v_other, .int v_change, .int v_woken])), (h_p0_now, .inl (cyI, 452, .inl (upd (upd r19 (iI 6).toNatClampNeg ((r19 (iI 6).toNatClampNeg) + iI 1)) (iI 7).toNatClampNeg (((upd r19 (iI 6).toNatClampNeg ((r19 (iI 6).toNatClampNeg) + iI 1)) (iI 7).toNatClampNeg) + iI 1))))] H := hP
    have hD : va_D A [(h_p0, .inr (7, [.ref h_p0_now, .ref h_p0_then, .ref h_p0_past, .int v_kept, .ref h_p0_text, .int v_typed, .int v_thrown, .int v_at, .int v_isFault, .ref h_p0_told, .int v_tolds, .int v_one, .int v_other, .int v_change, .int v_woken])), (h_p0_now, .inl (cyI, 452, .inl (upd (upd r19 (iI 6).toNatClampNeg ((r19 (iI 6).toNatClampNeg) + iI 1)) (iI 7).toNatClampNeg (((upd r19 (iI 6).toNatClampNeg ((r19 (iI 6).toNatClampNeg) + iI 1)) (iI 7).toNatClampNeg) + iI 1))))] := hD
    refine lv_aload_n hx hb dX7_comes_100 rfl (lv_at hl 1 rfl) ?_
    refine va_get (D := (dC, dI)) (ci := 7) (v := .ref h_p0_now) (C := RX7) (T := TX7) (N := 15) hx hb hts m_X7_comes_0 hown hK hP 0 rfl rfl 0 (by decide) (hts (.fieldLink RX7 7 "SleeperBerthsModel" "now" "[I") m_X7_comes_1) (fun _ h9 => h9) rfl dX7_comes_101 ?_
    refine lv_bipush (v := iI 7) hx hb dX7_comes_104 (by decide) ?_
    obtain ⟨g26, h⟩ := gsome h
    refine va_iald (D := (dC, dI)) hx hb hK hP 1 0 rfl rfl g26 dX7_comes_106 ?_
    refine lv_iconst (v := iI 1) hx hb dX7_comes_107 rfl ?_
    refine lv_isub hx hb dX7_comes_108 ?_
    obtain rfl := Option.some.inj h
    exact W.iret (v := (((upd (upd r19 (iI 6).toNatClampNeg ((r19 (iI 6).toNatClampNeg) + iI 1)) (iI 7).toNatClampNeg (((upd r19 (iI 6).toNatClampNeg ((r19 (iI 6).toNatClampNeg) + iI 1)) (iI 7).toNatClampNeg) + iI 1)) (iI 7).toNatClampNeg) - iI 1)) hx hb hr (fun t ht hW => ⟨⟨(((upd (upd r19 (iI 6).toNatClampNeg ((r19 (iI 6).toNatClampNeg) + iI 1)) (iI 7).toNatClampNeg (((upd r19 (iI 6).toNatClampNeg ((r19 (iI 6).toNatClampNeg) + iI 1)) (iI 7).toNatClampNeg) + iI 1)) (iI 7).toNatClampNeg) - iI 1), (), rfl, rfl, WLD.of ht hP hD⟩, hS.F ht⟩) hS.2.2 dX7_comes_109
def s_X7_placeOf_L2 (n : Nat) (arr_0 : Nat → Int32) (a1 : Int32) : Nat → Int32 → Option (Int32)
  | 0, _ => none
  | k + 1, x2 => (if gd (iI 6) 452 = true then (if (arr_0 (iI 6).toNatClampNeg) ≤ x2 then (some (iI (-1))) else ((s_X7_of arr_0 x2 (iI 0)).bind fun r3 => (if r3 = a1 then (some (x2)) else (s_X7_placeOf_L2 n arr_0 a1 k (x2 + iI 1))))) else none)
def s_X7_placeOf (n : Nat) (arr_0 : Nat → Int32) (a1 : Int32) : Option (Int32) := (s_X7_placeOf_L2 n arr_0 a1 n (iI 0))
set_option maxHeartbeats 4000000 in
set_option maxRecDepth 100000 in
theorem c_X7_placeOf (l : Launch) (dC : Nat → ClassId) (dI : Nat → Nat → Nat) (cyI cyJ cyT : ClassId) (h_p0 : Nat) (sz : Nat) (arr_0 : Nat → Int32) (a1 : Int32) (n : Nat) (o : Int32) (h : s_X7_placeOf n arr_0 a1 = some o) : Met l yX7_placeOf wsX7_placeOf ({ frames := 1, cells := 0, slots := 0, locals := 22 }) (va_Pc [.ref h_p0, .int a1] (PRE (dC, dI) (TYS cyI cyJ cyT) sz [(h_p0, .inl (cyI, 452, .inl arr_0))])) (va_Qi (S := Unit) (fun r _ => r = o) (fun _ t => WLD (dC, dI) (va_A [(h_p0, .inl (cyI, 452, .inl arr_0))] sz) [(h_p0, .inl (cyI, 452, .inl arr_0))] t) (va_A [(h_p0, .inl (cyI, 452, .inl arr_0))] sz)) 0 0 (va_A [(h_p0, .inl (cyI, 452, .inl arr_0))] sz) := by
  refine Met.ofW (cc := cX7_placeOf) (maxL := 3) (ret := (some .int)) (by decide) rfl ?_
  intro p e s m args below meth c s₁ B hml hv
  obtain ⟨rfl, hsz, hP, hK, hD0, hNW⟩ := hv
  have hx := B.exec
  have hb := B.bytes
  have hr := B.returns
  have hts := atoms_spec (ws := wsX7_placeOf) B.pre
  have hown : s.vm.findClass RX7 = some m.cls := findClass_of_methodNamed B.named
  have hlocks := B.notSynchronized
  subst hsz
  have hD := hD0.self (sz := s.heap.size)
  generalize hAe : va_A [(h_p0, .inl (cyI, 452, .inl arr_0))] s.heap.size = A at hD ⊢
  have hA : ∀ q : Nat, s.heap.size ≤ q → A q := fun q h => by rw [← hAe]; exact Or.inr h
  have hS : va_S A s.heap s.heap [] := va_S.rf
  have hP : va_P (dC, dI) vwCl [(h_p0, .inl (cyI, 452, .inl arr_0))] s.heap := hP
  have L2 : ∀ (k : Nat), (∀ (x2 : Int32) (H : Heap) (locs : List Loc), va_P (dC, dI) vwCl [(h_p0, .inl (cyI, 452, .inl arr_0))] H → va_D A [(h_p0, .inl (cyI, 452, .inl arr_0))] → va_S A s.heap H locs → ∀ (ls : Array Slot), lv_has ls 3 [(0, .ref h_p0), (1, .int a1), (2, .int x2)] →  s_X7_placeOf_L2 n arr_0 a1 k x2 = some o → W p l e (headSpec wsX7_placeOf ({ frames := 1, cells := 0, slots := 0, locals := 22 })).room s m (([.ref h_p0, .int a1] : List Value).toArray) below meth c H locs 0 0 (MQ below (va_Qi (S := Unit) (fun r _ => r = o) (fun _ t => WLD (dC, dI) A [(h_p0, .inl (cyI, 452, .inl arr_0))] t) A) (([.ref h_p0, .int a1] : List Value).toArray) s 0 0 A) (F0 m 2 ls [])) := by
    intro k
    induction k with
    | zero =>
      intro  x2 H locs hP hD hS ls hl h
      rw [s_X7_placeOf_L2] at h
      cases h
    | succ k ih =>
      intro  x2 H locs hP hD hS ls hl h
      rw [s_X7_placeOf_L2] at h
      refine lv_iload_n hx hb dX7_placeOf_2 rfl (lv_at hl 2 rfl) ?_
      refine lv_aload_n hx hb dX7_placeOf_3 rfl (lv_at hl 0 rfl) ?_
      refine lv_bipush (v := iI 6) hx hb dX7_placeOf_4 (by decide) ?_
      obtain ⟨g1, h⟩ := gsome h
      refine va_iald (D := (dC, dI)) hx hb hK hP 0 0 rfl rfl g1 dX7_placeOf_6 ?_
      refine lv_icmp_ge (tgt := 28) hx hb dX7_placeOf_7 (by decide) (fun c2 => ?_) (fun c2 => ?_)
      · have h := ipos c2 h
        refine lv_iconst (v := iI (-1)) hx hb dX7_placeOf_28 rfl ?_
        obtain rfl := Option.some.inj h
        exact W.iret (v := iI (-1)) hx hb hr (fun t ht hW => ⟨⟨iI (-1), (), rfl, rfl, WLD.of ht hP hD⟩, hS.F ht⟩) hS.2.2 dX7_placeOf_29
      · have h := ineg c2 h
        refine lv_aload_n hx hb dX7_placeOf_10 rfl (lv_at hl 0 rfl) ?_
        refine lv_iload_n hx hb dX7_placeOf_11 rfl (lv_at hl 2 rfl) ?_
        refine lv_iconst (v := iI 0) hx hb dX7_placeOf_12 rfl ?_
        obtain ⟨r3, e4, h⟩ := bsome h
        have hPc := sb_P [(h_p0, .inl (cyI, 452, .inl arr_0))] hP [0] rfl
        have hDc := sb_D [(h_p0, .inl (cyI, 452, .inl arr_0))] hD [0] (by decide) rfl
        have hFc := va_free (wc := [(h_p0, .inl (cyI, 452, .inl arr_0))]) hD hS hA [0] rfl
        refine va_calli (va_runS (As := [.ref h_p0, .int x2, .int (iI 0)]) (rest := []) ⟨hx, hb, hml, hown, hts⟩ (c_X7_of l dC dI cyI cyJ cyT h_p0 H.size arr_0 x2 (iI 0) r3 e4) (va_cwS 3 hts gX7_placeOf_X7_of rfl rfl rfl (by decide +kernel) ⟨Nat.le_of_ble_eq_true rfl, Nat.le_of_ble_eq_true rfl⟩) ⟨PRE.blind, PRE.go hK hPc hDc hNW⟩ rfl rfl hl.1 rfl (lv_room (Nat.le_of_ble_eq_true rfl)) dX7_placeOf_13 ⟨Nat.zero_le _, Nat.zero_le _⟩) hS (fun q _ h => hFc q h) hFc (fun z5 u t H locs ht hvm hw hB hz1 hk1 hS => ?_)
        subst z5
        obtain ⟨hP, hD⟩ := va_join (wr := []) (w1 := [(h_p0, .inl (cyI, 452, .inl arr_0))]) hP hD [0] [] rfl rfl (by decide) (by decide) hk1 hFc (WLD.P hB ht) hB.2
        have hP : va_P (dC, dI) vwCl [(h_p0, .inl (cyI, 452, .inl arr_0))] H := hP
        have hD : va_D A [(h_p0, .inl (cyI, 452, .inl arr_0))] := hD
        refine lv_iload_n hx hb dX7_placeOf_16 rfl (lv_at hl 1 rfl) ?_
        refine lv_icmp_ne (tgt := 22) hx hb dX7_placeOf_17 (by decide) (fun c6 => ?_) (fun c6 => ?_)
        · have h := ineg c6 h
          refine lv_iinc (v := (x2 + iI 1)) hx hb dX7_placeOf_22 hl (k := 2) rfl rfl (by decide) (rfl : _ = ([(2, .int (x2 + iI 1)), (0, .ref h_p0), (1, .int a1)] : List (Nat × Value))) (fun ls hl => ?_)
          refine lv_goto (tgt := 2) hx hb dX7_placeOf_25 (by decide) ?_
          exact ih (x2 + iI 1) _ _ hP hD hS ls (lv_sub hl [1, 2, 0] rfl) h
        · have h := ipos c6 h
          refine lv_iload_n hx hb dX7_placeOf_20 rfl (lv_at hl 2 rfl) ?_
          obtain rfl := Option.some.inj h
          exact W.iret (v := x2) hx hb hr (fun t ht hW => ⟨⟨x2, (), rfl, rfl, WLD.of ht hP hD⟩, hS.F ht⟩) hS.2.2 dX7_placeOf_21
  have hl := lv_entry ([.ref h_p0, .int a1]) (n := 3) (Nat.le_of_ble_eq_true rfl)
  rw [lg_entry_eq]
  generalize (lg_sl ([.ref h_p0, .int a1]) ++ List.replicate (3 - (lg_sl ([.ref h_p0, .int a1])).length) Slot.unset).toArray = ls at hl ⊢
  have hl : lv_has ls 3 [(0, .ref h_p0), (1, .int a1)] := hl
  unfold s_X7_placeOf at h
  refine lv_iconst (v := iI 0) hx hb dX7_placeOf_0 rfl ?_
  refine lv_istore_n hx hb dX7_placeOf_1 rfl hl (by decide) (rfl : _ = ([(2, .int (iI 0)), (0, .ref h_p0), (1, .int a1)] : List (Nat × Value))) (fun ls hl => ?_)
  exact L2 n (iI 0) _ _ hP hD hS ls (lv_sub hl [1, 2, 0] rfl) h
def s_X7_wakesOf (n : Nat) (arr_0 : Nat → Int32) (a1 : Int32) : Option (Int32) := ((s_X7_of arr_0 a1 (iI 6)).bind fun r1 => (if r1 = iI (-1) then ((s_X7_of arr_0 a1 (iI 2)).bind fun r26 => ((s_X7_of arr_0 a1 (iI 4)).bind fun r29 => ((s_X7_of arr_0 a1 (iI 1)).bind fun r32 => ((s_X7_wakes n arr_0 r29 r32 r26).bind fun r35 => ((s_X7_of arr_0 a1 (iI 5)).bind fun r38 => ((s_X7_of arr_0 a1 (iI 2)).bind fun r41 => ((s_X7_wakes n arr_0 r38 r26 r41).bind fun r44 => (some ((r35 + r44)))))))))) else ((s_X7_of arr_0 a1 (iI 6)).bind fun r5 => ((s_X7_of arr_0 a1 (iI 4)).bind fun r8 => ((s_X7_of arr_0 a1 (iI 1)).bind fun r11 => ((s_X7_wakes n arr_0 r8 r11 r5).bind fun r14 => ((s_X7_of arr_0 a1 (iI 5)).bind fun r17 => ((s_X7_of arr_0 a1 (iI 2)).bind fun r20 => ((s_X7_wakes n arr_0 r17 r5 r20).bind fun r23 => (some ((r14 + r23))))))))))))
set_option maxHeartbeats 4000000 in
set_option maxRecDepth 100000 in
theorem c_X7_wakesOf (l : Launch) (dC : Nat → ClassId) (dI : Nat → Nat → Nat) (cyI cyJ cyT : ClassId) (h_p0 : Nat) (sz : Nat) (arr_0 : Nat → Int32) (a1 : Int32) (n : Nat) (o : Int32) (h : s_X7_wakesOf n arr_0 a1 = some o) : Met l yX7_wakesOf wsX7_wakesOf ({ frames := 2, cells := 0, slots := 0, locals := 48 }) (va_Pc [.ref h_p0, .int a1] (PRE (dC, dI) (TYS cyI cyJ cyT) sz [(h_p0, .inl (cyI, 452, .inl arr_0))])) (va_Qi (S := Unit) (fun r _ => r = o) (fun _ t => WLD (dC, dI) (va_A [(h_p0, .inl (cyI, 452, .inl arr_0))] sz) [(h_p0, .inl (cyI, 452, .inl arr_0))] t) (va_A [(h_p0, .inl (cyI, 452, .inl arr_0))] sz)) 0 0 (va_A [(h_p0, .inl (cyI, 452, .inl arr_0))] sz) := by
  refine Met.ofW (cc := cX7_wakesOf) (maxL := 3) (ret := (some .int)) (by decide) rfl ?_
  intro p e s m args below meth c s₁ B hml hv
  obtain ⟨rfl, hsz, hP, hK, hD0, hNW⟩ := hv
  have hx := B.exec
  have hb := B.bytes
  have hr := B.returns
  have hts := atoms_spec (ws := wsX7_wakesOf) B.pre
  have hown : s.vm.findClass RX7 = some m.cls := findClass_of_methodNamed B.named
  have hlocks := B.notSynchronized
  subst hsz
  have hD := hD0.self (sz := s.heap.size)
  generalize hAe : va_A [(h_p0, .inl (cyI, 452, .inl arr_0))] s.heap.size = A at hD ⊢
  have hA : ∀ q : Nat, s.heap.size ≤ q → A q := fun q h => by rw [← hAe]; exact Or.inr h
  have hS : va_S A s.heap s.heap [] := va_S.rf
  have hP : va_P (dC, dI) vwCl [(h_p0, .inl (cyI, 452, .inl arr_0))] s.heap := hP
  have hl := lv_entry ([.ref h_p0, .int a1]) (n := 3) (Nat.le_of_ble_eq_true rfl)
  rw [lg_entry_eq]
  generalize (lg_sl ([.ref h_p0, .int a1]) ++ List.replicate (3 - (lg_sl ([.ref h_p0, .int a1])).length) Slot.unset).toArray = ls at hl ⊢
  have hl : lv_has ls 3 [(0, .ref h_p0), (1, .int a1)] := hl
  unfold s_X7_wakesOf at h
  refine lv_aload_n hx hb dX7_wakesOf_0 rfl (lv_at hl 0 rfl) ?_
  refine lv_iload_n hx hb dX7_wakesOf_1 rfl (lv_at hl 1 rfl) ?_
  refine lv_bipush (v := iI 6) hx hb dX7_wakesOf_2 (by decide) ?_
  obtain ⟨r1, e2, h⟩ := bsome h
  have hPc := sb_P [(h_p0, .inl (cyI, 452, .inl arr_0))] hP [0] rfl
  have hDc := sb_D [(h_p0, .inl (cyI, 452, .inl arr_0))] hD [0] (by decide) rfl
  have hFc := va_free (wc := [(h_p0, .inl (cyI, 452, .inl arr_0))]) hD hS hA [0] rfl
  refine va_calli (va_runS (As := [.ref h_p0, .int a1, .int (iI 6)]) (rest := []) ⟨hx, hb, hml, hown, hts⟩ (c_X7_of l dC dI cyI cyJ cyT h_p0 s.heap.size arr_0 a1 (iI 6) r1 e2) (va_cwS 3 hts gX7_wakesOf_X7_of rfl rfl rfl (by decide +kernel) ⟨Nat.le_of_ble_eq_true rfl, Nat.le_of_ble_eq_true rfl⟩) ⟨PRE.blind, PRE.go hK hPc hDc hNW⟩ rfl rfl hl.1 rfl (lv_room (Nat.le_of_ble_eq_true rfl)) dX7_wakesOf_4 ⟨Nat.zero_le _, Nat.zero_le _⟩) hS (fun q _ h => hFc q h) hFc (fun z3 u t H locs ht hvm hw hB hz1 hk1 hS => ?_)
  subst z3
  obtain ⟨hP, hD⟩ := va_join (wr := []) (w1 := [(h_p0, .inl (cyI, 452, .inl arr_0))]) hP hD [0] [] rfl rfl (by decide) (by decide) hk1 hFc (WLD.P hB ht) hB.2
  have hP : va_P (dC, dI) vwCl [(h_p0, .inl (cyI, 452, .inl arr_0))] H := hP
  have hD : va_D A [(h_p0, .inl (cyI, 452, .inl arr_0))] := hD
  refine lv_iconst (v := iI (-1)) hx hb dX7_wakesOf_7 rfl ?_
  refine lv_icmp_ne (tgt := 20) hx hb dX7_wakesOf_8 (by decide) (fun c4 => ?_) (fun c4 => ?_)
  · have h := ineg c4 h
    refine lv_aload_n hx hb dX7_wakesOf_20 rfl (lv_at hl 0 rfl) ?_
    refine lv_iload_n hx hb dX7_wakesOf_21 rfl (lv_at hl 1 rfl) ?_
    refine lv_bipush (v := iI 6) hx hb dX7_wakesOf_22 (by decide) ?_
    obtain ⟨r5, e6, h⟩ := bsome h
    have hPc := sb_P [(h_p0, .inl (cyI, 452, .inl arr_0))] hP [0] rfl
    have hDc := sb_D [(h_p0, .inl (cyI, 452, .inl arr_0))] hD [0] (by decide) rfl
    have hFc := va_free (wc := [(h_p0, .inl (cyI, 452, .inl arr_0))]) hD hS hA [0] rfl
    refine va_calli (va_runS (As := [.ref h_p0, .int a1, .int (iI 6)]) (rest := []) ⟨hx, hb, hml, hown, hts⟩ (c_X7_of l dC dI cyI cyJ cyT h_p0 H.size arr_0 a1 (iI 6) r5 e6) (va_cwS 3 hts gX7_wakesOf_X7_of rfl rfl rfl (by decide +kernel) ⟨Nat.le_of_ble_eq_true rfl, Nat.le_of_ble_eq_true rfl⟩) ⟨PRE.blind, PRE.go hK hPc hDc hNW⟩ rfl rfl hl.1 rfl (lv_room (Nat.le_of_ble_eq_true rfl)) dX7_wakesOf_24 ⟨Nat.zero_le _, Nat.zero_le _⟩) hS (fun q _ h => hFc q h) hFc (fun z7 u t H locs ht hvm hw hB hz1 hk1 hS => ?_)
    subst z7
    obtain ⟨hP, hD⟩ := va_join (wr := []) (w1 := [(h_p0, .inl (cyI, 452, .inl arr_0))]) hP hD [0] [] rfl rfl (by decide) (by decide) hk1 hFc (WLD.P hB ht) hB.2
    have hP : va_P (dC, dI) vwCl [(h_p0, .inl (cyI, 452, .inl arr_0))] H := hP
    have hD : va_D A [(h_p0, .inl (cyI, 452, .inl arr_0))] := hD
    refine lv_istore_n hx hb dX7_wakesOf_27 rfl hl (by decide) (rfl : _ = ([(2, .int r5), (0, .ref h_p0), (1, .int a1)] : List (Nat × Value))) (fun ls hl => ?_)
    refine lv_aload_n hx hb dX7_wakesOf_28 rfl (lv_at hl 1 rfl) ?_
    refine lv_aload_n hx hb dX7_wakesOf_29 rfl (lv_at hl 1 rfl) ?_
    refine lv_iload_n hx hb dX7_wakesOf_30 rfl (lv_at hl 2 rfl) ?_
    refine lv_iconst (v := iI 4) hx hb dX7_wakesOf_31 rfl ?_
    obtain ⟨r8, e9, h⟩ := bsome h
    have hPc := sb_P [(h_p0, .inl (cyI, 452, .inl arr_0))] hP [0] rfl
    have hDc := sb_D [(h_p0, .inl (cyI, 452, .inl arr_0))] hD [0] (by decide) rfl
    have hFc := va_free (wc := [(h_p0, .inl (cyI, 452, .inl arr_0))]) hD hS hA [0] rfl
    refine va_calli (va_runS (As := [.ref h_p0, .int a1, .int (iI 4)]) (rest := [.ref h_p0]) ⟨hx, hb, hml, hown, hts⟩ (c_X7_of l dC dI cyI cyJ cyT h_p0 H.size arr_0 a1 (iI 4) r8 e9) (va_cwS 3 hts gX7_wakesOf_X7_of rfl rfl rfl (by decide +kernel) ⟨Nat.le_of_ble_eq_true rfl, Nat.le_of_ble_eq_true rfl⟩) ⟨PRE.blind, PRE.go hK hPc hDc hNW⟩ rfl rfl hl.1 rfl (lv_room (Nat.le_of_ble_eq_true rfl)) dX7_wakesOf_32 ⟨Nat.zero_le _, Nat.zero_le _⟩) hS (fun q _ h => hFc q h) hFc (fun z10 u t H locs ht hvm hw hB hz1 hk1 hS => ?_)
    subst z10
    obtain ⟨hP, hD⟩ := va_join (wr := []) (w1 := [(h_p0, .inl (cyI, 452, .inl arr_0))]) hP hD [0] [] rfl rfl (by decide) (by decide) hk1 hFc (WLD.P hB ht) hB.2
    have hP : va_P (dC, dI) vwCl [(h_p0, .inl (cyI, 452, .inl arr_0))] H := hP
    have hD : va_D A [(h_p0, .inl (cyI, 452, .inl arr_0))] := hD
    refine lv_aload_n hx hb dX7_wakesOf_35 rfl (lv_at hl 1 rfl) ?_
    refine lv_iload_n hx hb dX7_wakesOf_36 rfl (lv_at hl 2 rfl) ?_
    refine lv_iconst (v := iI 1) hx hb dX7_wakesOf_37 rfl ?_
    obtain ⟨r11, e12, h⟩ := bsome h
    have hPc := sb_P [(h_p0, .inl (cyI, 452, .inl arr_0))] hP [0] rfl
    have hDc := sb_D [(h_p0, .inl (cyI, 452, .inl arr_0))] hD [0] (by decide) rfl
    have hFc := va_free (wc := [(h_p0, .inl (cyI, 452, .inl arr_0))]) hD hS hA [0] rfl
    refine va_calli (va_runS (As := [.ref h_p0, .int a1, .int (iI 1)]) (rest := [.int r8, .ref h_p0]) ⟨hx, hb, hml, hown, hts⟩ (c_X7_of l dC dI cyI cyJ cyT h_p0 H.size arr_0 a1 (iI 1) r11 e12) (va_cwS 3 hts gX7_wakesOf_X7_of rfl rfl rfl (by decide +kernel) ⟨Nat.le_of_ble_eq_true rfl, Nat.le_of_ble_eq_true rfl⟩) ⟨PRE.blind, PRE.go hK hPc hDc hNW⟩ rfl rfl hl.1 rfl (lv_room (Nat.le_of_ble_eq_true rfl)) dX7_wakesOf_38 ⟨Nat.zero_le _, Nat.zero_le _⟩) hS (fun q _ h => hFc q h) hFc (fun z13 u t H locs ht hvm hw hB hz1 hk1 hS => ?_)
    subst z13
    obtain ⟨hP, hD⟩ := va_join (wr := []) (w1 := [(h_p0, .inl (cyI, 452, .inl arr_0))]) hP hD [0] [] rfl rfl (by decide) (by decide) hk1 hFc (WLD.P hB ht) hB.2
    have hP : va_P (dC, dI) vwCl [(h_p0, .inl (cyI, 452, .inl arr_0))] H := hP
    have hD : va_D A [(h_p0, .inl (cyI, 452, .inl arr_0))] := hD
    refine lv_iload_n hx hb dX7_wakesOf_41 rfl (lv_at hl 0 rfl) ?_
    obtain ⟨r14, e15, h⟩ := bsome h
    have hPc := sb_P [(h_p0, .inl (cyI, 452, .inl arr_0))] hP [0] rfl
    have hDc := sb_D [(h_p0, .inl (cyI, 452, .inl arr_0))] hD [0] (by decide) rfl
    have hFc := va_free (wc := [(h_p0, .inl (cyI, 452, .inl arr_0))]) hD hS hA [0] rfl
    refine va_calli (va_runS (As := [.ref h_p0, .int r8, .int r11, .int r5]) (rest := []) ⟨hx, hb, hml, hown, hts⟩ (c_X7_wakes l dC dI cyI cyJ cyT h_p0 H.size arr_0 r8 r11 r5 n r14 e15) (va_cwS 4 hts gX7_wakesOf_X7_wakes rfl rfl rfl (by decide +kernel) ⟨Nat.le_of_ble_eq_true rfl, Nat.le_of_ble_eq_true rfl⟩) ⟨PRE.blind, PRE.go hK hPc hDc hNW⟩ rfl rfl hl.1 rfl (lv_room (Nat.le_of_ble_eq_true rfl)) dX7_wakesOf_42 ⟨Nat.zero_le _, Nat.zero_le _⟩) hS (fun q _ h => hFc q h) hFc (fun z16 u t H locs ht hvm hw hB hz1 hk1 hS => ?_)
    subst z16
    obtain ⟨hP, hD⟩ := va_join (wr := []) (w1 := [(h_p0, .inl (cyI, 452, .inl arr_0))]) hP hD [0] [] rfl rfl (by decide) (by decide) hk1 hFc (WLD.P hB ht) hB.2
    have hP : va_P (dC, dI) vwCl [(h_p0, .inl (cyI, 452, .inl arr_0))] H := hP
    have hD : va_D A [(h_p0, .inl (cyI, 452, .inl arr_0))] := hD
    refine lv_aload_n hx hb dX7_wakesOf_45 rfl (lv_at hl 1 rfl) ?_
    refine lv_aload_n hx hb dX7_wakesOf_46 rfl (lv_at hl 1 rfl) ?_
    refine lv_iload_n hx hb dX7_wakesOf_47 rfl (lv_at hl 2 rfl) ?_
    refine lv_iconst (v := iI 5) hx hb dX7_wakesOf_48 rfl ?_
    obtain ⟨r17, e18, h⟩ := bsome h
    have hPc := sb_P [(h_p0, .inl (cyI, 452, .inl arr_0))] hP [0] rfl
    have hDc := sb_D [(h_p0, .inl (cyI, 452, .inl arr_0))] hD [0] (by decide) rfl
    have hFc := va_free (wc := [(h_p0, .inl (cyI, 452, .inl arr_0))]) hD hS hA [0] rfl
    refine va_calli (va_runS (As := [.ref h_p0, .int a1, .int (iI 5)]) (rest := [.ref h_p0, .int r14]) ⟨hx, hb, hml, hown, hts⟩ (c_X7_of l dC dI cyI cyJ cyT h_p0 H.size arr_0 a1 (iI 5) r17 e18) (va_cwS 3 hts gX7_wakesOf_X7_of rfl rfl rfl (by decide +kernel) ⟨Nat.le_of_ble_eq_true rfl, Nat.le_of_ble_eq_true rfl⟩) ⟨PRE.blind, PRE.go hK hPc hDc hNW⟩ rfl rfl hl.1 rfl (lv_room (Nat.le_of_ble_eq_true rfl)) dX7_wakesOf_49 ⟨Nat.zero_le _, Nat.zero_le _⟩) hS (fun q _ h => hFc q h) hFc (fun z19 u t H locs ht hvm hw hB hz1 hk1 hS => ?_)
    subst z19
    obtain ⟨hP, hD⟩ := va_join (wr := []) (w1 := [(h_p0, .inl (cyI, 452, .inl arr_0))]) hP hD [0] [] rfl rfl (by decide) (by decide) hk1 hFc (WLD.P hB ht) hB.2
    have hP : va_P (dC, dI) vwCl [(h_p0, .inl (cyI, 452, .inl arr_0))] H := hP
    have hD : va_D A [(h_p0, .inl (cyI, 452, .inl arr_0))] := hD
    refine lv_iload_n hx hb dX7_wakesOf_52 rfl (lv_at hl 0 rfl) ?_
    refine lv_aload_n hx hb dX7_wakesOf_53 rfl (lv_at hl 1 rfl) ?_
    refine lv_iload_n hx hb dX7_wakesOf_54 rfl (lv_at hl 2 rfl) ?_
    refine lv_iconst (v := iI 2) hx hb dX7_wakesOf_55 rfl ?_
    obtain ⟨r20, e21, h⟩ := bsome h
    have hPc := sb_P [(h_p0, .inl (cyI, 452, .inl arr_0))] hP [0] rfl
    have hDc := sb_D [(h_p0, .inl (cyI, 452, .inl arr_0))] hD [0] (by decide) rfl
    have hFc := va_free (wc := [(h_p0, .inl (cyI, 452, .inl arr_0))]) hD hS hA [0] rfl
    refine va_calli (va_runS (As := [.ref h_p0, .int a1, .int (iI 2)]) (rest := [.int r5, .int r17, .ref h_p0, .int r14]) ⟨hx, hb, hml, hown, hts⟩ (c_X7_of l dC dI cyI cyJ cyT h_p0 H.size arr_0 a1 (iI 2) r20 e21) (va_cwS 3 hts gX7_wakesOf_X7_of rfl rfl rfl (by decide +kernel) ⟨Nat.le_of_ble_eq_true rfl, Nat.le_of_ble_eq_true rfl⟩) ⟨PRE.blind, PRE.go hK hPc hDc hNW⟩ rfl rfl hl.1 rfl (lv_room (Nat.le_of_ble_eq_true rfl)) dX7_wakesOf_56 ⟨Nat.zero_le _, Nat.zero_le _⟩) hS (fun q _ h => hFc q h) hFc (fun z22 u t H locs ht hvm hw hB hz1 hk1 hS => ?_)
    subst z22
    obtain ⟨hP, hD⟩ := va_join (wr := []) (w1 := [(h_p0, .inl (cyI, 452, .inl arr_0))]) hP hD [0] [] rfl rfl (by decide) (by decide) hk1 hFc (WLD.P hB ht) hB.2
    have hP : va_P (dC, dI) vwCl [(h_p0, .inl (cyI, 452, .inl arr_0))] H := hP
    have hD : va_D A [(h_p0, .inl (cyI, 452, .inl arr_0))] := hD
    obtain ⟨r23, e24, h⟩ := bsome h
    have hPc := sb_P [(h_p0, .inl (cyI, 452, .inl arr_0))] hP [0] rfl
    have hDc := sb_D [(h_p0, .inl (cyI, 452, .inl arr_0))] hD [0] (by decide) rfl
    have hFc := va_free (wc := [(h_p0, .inl (cyI, 452, .inl arr_0))]) hD hS hA [0] rfl
    refine va_calli (va_runS (As := [.ref h_p0, .int r17, .int r5, .int r20]) (rest := [.int r14]) ⟨hx, hb, hml, hown, hts⟩ (c_X7_wakes l dC dI cyI cyJ cyT h_p0 H.size arr_0 r17 r5 r20 n r23 e24) (va_cwS 4 hts gX7_wakesOf_X7_wakes rfl rfl rfl (by decide +kernel) ⟨Nat.le_of_ble_eq_true rfl, Nat.le_of_ble_eq_true rfl⟩) ⟨PRE.blind, PRE.go hK hPc hDc hNW⟩ rfl rfl hl.1 rfl (lv_room (Nat.le_of_ble_eq_true rfl)) dX7_wakesOf_59 ⟨Nat.zero_le _, Nat.zero_le _⟩) hS (fun q _ h => hFc q h) hFc (fun z25 u t H locs ht hvm hw hB hz1 hk1 hS => ?_)
    subst z25
    obtain ⟨hP, hD⟩ := va_join (wr := []) (w1 := [(h_p0, .inl (cyI, 452, .inl arr_0))]) hP hD [0] [] rfl rfl (by decide) (by decide) hk1 hFc (WLD.P hB ht) hB.2
    have hP : va_P (dC, dI) vwCl [(h_p0, .inl (cyI, 452, .inl arr_0))] H := hP
    have hD : va_D A [(h_p0, .inl (cyI, 452, .inl arr_0))] := hD
    refine lv_iadd hx hb dX7_wakesOf_62 ?_
    obtain rfl := Option.some.inj h
    exact W.iret (v := (r14 + r23)) hx hb hr (fun t ht hW => ⟨⟨(r14 + r23), (), rfl, rfl, WLD.of ht hP hD⟩, hS.F ht⟩) hS.2.2 dX7_wakesOf_63
  · have h := ipos c4 h
    refine lv_aload_n hx hb dX7_wakesOf_11 rfl (lv_at hl 0 rfl) ?_
    refine lv_iload_n hx hb dX7_wakesOf_12 rfl (lv_at hl 1 rfl) ?_
    refine lv_iconst (v := iI 2) hx hb dX7_wakesOf_13 rfl ?_
    obtain ⟨r26, e27, h⟩ := bsome h
    have hPc := sb_P [(h_p0, .inl (cyI, 452, .inl arr_0))] hP [0] rfl
    have hDc := sb_D [(h_p0, .inl (cyI, 452, .inl arr_0))] hD [0] (by decide) rfl
    have hFc := va_free (wc := [(h_p0, .inl (cyI, 452, .inl arr_0))]) hD hS hA [0] rfl
    refine va_calli (va_runS (As := [.ref h_p0, .int a1, .int (iI 2)]) (rest := []) ⟨hx, hb, hml, hown, hts⟩ (c_X7_of l dC dI cyI cyJ cyT h_p0 H.size arr_0 a1 (iI 2) r26 e27) (va_cwS 3 hts gX7_wakesOf_X7_of rfl rfl rfl (by decide +kernel) ⟨Nat.le_of_ble_eq_true rfl, Nat.le_of_ble_eq_true rfl⟩) ⟨PRE.blind, PRE.go hK hPc hDc hNW⟩ rfl rfl hl.1 rfl (lv_room (Nat.le_of_ble_eq_true rfl)) dX7_wakesOf_14 ⟨Nat.zero_le _, Nat.zero_le _⟩) hS (fun q _ h => hFc q h) hFc (fun z28 u t H locs ht hvm hw hB hz1 hk1 hS => ?_)
    subst z28
    obtain ⟨hP, hD⟩ := va_join (wr := []) (w1 := [(h_p0, .inl (cyI, 452, .inl arr_0))]) hP hD [0] [] rfl rfl (by decide) (by decide) hk1 hFc (WLD.P hB ht) hB.2
    have hP : va_P (dC, dI) vwCl [(h_p0, .inl (cyI, 452, .inl arr_0))] H := hP
    have hD : va_D A [(h_p0, .inl (cyI, 452, .inl arr_0))] := hD
    refine lv_goto (tgt := 27) hx hb dX7_wakesOf_17 (by decide) ?_
    refine lv_istore_n hx hb dX7_wakesOf_27 rfl hl (by decide) (rfl : _ = ([(2, .int r26), (0, .ref h_p0), (1, .int a1)] : List (Nat × Value))) (fun ls hl => ?_)
    refine lv_aload_n hx hb dX7_wakesOf_28 rfl (lv_at hl 1 rfl) ?_
    refine lv_aload_n hx hb dX7_wakesOf_29 rfl (lv_at hl 1 rfl) ?_
    refine lv_iload_n hx hb dX7_wakesOf_30 rfl (lv_at hl 2 rfl) ?_
    refine lv_iconst (v := iI 4) hx hb dX7_wakesOf_31 rfl ?_
    obtain ⟨r29, e30, h⟩ := bsome h
    have hPc := sb_P [(h_p0, .inl (cyI, 452, .inl arr_0))] hP [0] rfl
    have hDc := sb_D [(h_p0, .inl (cyI, 452, .inl arr_0))] hD [0] (by decide) rfl
    have hFc := va_free (wc := [(h_p0, .inl (cyI, 452, .inl arr_0))]) hD hS hA [0] rfl
    refine va_calli (va_runS (As := [.ref h_p0, .int a1, .int (iI 4)]) (rest := [.ref h_p0]) ⟨hx, hb, hml, hown, hts⟩ (c_X7_of l dC dI cyI cyJ cyT h_p0 H.size arr_0 a1 (iI 4) r29 e30) (va_cwS 3 hts gX7_wakesOf_X7_of rfl rfl rfl (by decide +kernel) ⟨Nat.le_of_ble_eq_true rfl, Nat.le_of_ble_eq_true rfl⟩) ⟨PRE.blind, PRE.go hK hPc hDc hNW⟩ rfl rfl hl.1 rfl (lv_room (Nat.le_of_ble_eq_true rfl)) dX7_wakesOf_32 ⟨Nat.zero_le _, Nat.zero_le _⟩) hS (fun q _ h => hFc q h) hFc (fun z31 u t H locs ht hvm hw hB hz1 hk1 hS => ?_)
    subst z31
    obtain ⟨hP, hD⟩ := va_join (wr := []) (w1 := [(h_p0, .inl (cyI, 452, .inl arr_0))]) hP hD [0] [] rfl rfl (by decide) (by decide) hk1 hFc (WLD.P hB ht) hB.2
    have hP : va_P (dC, dI) vwCl [(h_p0, .inl (cyI, 452, .inl arr_0))] H := hP
    have hD : va_D A [(h_p0, .inl (cyI, 452, .inl arr_0))] := hD
    refine lv_aload_n hx hb dX7_wakesOf_35 rfl (lv_at hl 1 rfl) ?_
    refine lv_iload_n hx hb dX7_wakesOf_36 rfl (lv_at hl 2 rfl) ?_
    refine lv_iconst (v := iI 1) hx hb dX7_wakesOf_37 rfl ?_
    obtain ⟨r32, e33, h⟩ := bsome h
    have hPc := sb_P [(h_p0, .inl (cyI, 452, .inl arr_0))] hP [0] rfl
    have hDc := sb_D [(h_p0, .inl (cyI, 452, .inl arr_0))] hD [0] (by decide) rfl
    have hFc := va_free (wc := [(h_p0, .inl (cyI, 452, .inl arr_0))]) hD hS hA [0] rfl
    refine va_calli (va_runS (As := [.ref h_p0, .int a1, .int (iI 1)]) (rest := [.int r29, .ref h_p0]) ⟨hx, hb, hml, hown, hts⟩ (c_X7_of l dC dI cyI cyJ cyT h_p0 H.size arr_0 a1 (iI 1) r32 e33) (va_cwS 3 hts gX7_wakesOf_X7_of rfl rfl rfl (by decide +kernel) ⟨Nat.le_of_ble_eq_true rfl, Nat.le_of_ble_eq_true rfl⟩) ⟨PRE.blind, PRE.go hK hPc hDc hNW⟩ rfl rfl hl.1 rfl (lv_room (Nat.le_of_ble_eq_true rfl)) dX7_wakesOf_38 ⟨Nat.zero_le _, Nat.zero_le _⟩) hS (fun q _ h => hFc q h) hFc (fun z34 u t H locs ht hvm hw hB hz1 hk1 hS => ?_)
    subst z34
    obtain ⟨hP, hD⟩ := va_join (wr := []) (w1 := [(h_p0, .inl (cyI, 452, .inl arr_0))]) hP hD [0] [] rfl rfl (by decide) (by decide) hk1 hFc (WLD.P hB ht) hB.2
    have hP : va_P (dC, dI) vwCl [(h_p0, .inl (cyI, 452, .inl arr_0))] H := hP
    have hD : va_D A [(h_p0, .inl (cyI, 452, .inl arr_0))] := hD
    refine lv_iload_n hx hb dX7_wakesOf_41 rfl (lv_at hl 0 rfl) ?_
    obtain ⟨r35, e36, h⟩ := bsome h
    have hPc := sb_P [(h_p0, .inl (cyI, 452, .inl arr_0))] hP [0] rfl
    have hDc := sb_D [(h_p0, .inl (cyI, 452, .inl arr_0))] hD [0] (by decide) rfl
    have hFc := va_free (wc := [(h_p0, .inl (cyI, 452, .inl arr_0))]) hD hS hA [0] rfl
    refine va_calli (va_runS (As := [.ref h_p0, .int r29, .int r32, .int r26]) (rest := []) ⟨hx, hb, hml, hown, hts⟩ (c_X7_wakes l dC dI cyI cyJ cyT h_p0 H.size arr_0 r29 r32 r26 n r35 e36) (va_cwS 4 hts gX7_wakesOf_X7_wakes rfl rfl rfl (by decide +kernel) ⟨Nat.le_of_ble_eq_true rfl, Nat.le_of_ble_eq_true rfl⟩) ⟨PRE.blind, PRE.go hK hPc hDc hNW⟩ rfl rfl hl.1 rfl (lv_room (Nat.le_of_ble_eq_true rfl)) dX7_wakesOf_42 ⟨Nat.zero_le _, Nat.zero_le _⟩) hS (fun q _ h => hFc q h) hFc (fun z37 u t H locs ht hvm hw hB hz1 hk1 hS => ?_)
    subst z37
    obtain ⟨hP, hD⟩ := va_join (wr := []) (w1 := [(h_p0, .inl (cyI, 452, .inl arr_0))]) hP hD [0] [] rfl rfl (by decide) (by decide) hk1 hFc (WLD.P hB ht) hB.2
    have hP : va_P (dC, dI) vwCl [(h_p0, .inl (cyI, 452, .inl arr_0))] H := hP
    have hD : va_D A [(h_p0, .inl (cyI, 452, .inl arr_0))] := hD
    refine lv_aload_n hx hb dX7_wakesOf_45 rfl (lv_at hl 1 rfl) ?_
    refine lv_aload_n hx hb dX7_wakesOf_46 rfl (lv_at hl 1 rfl) ?_
    refine lv_iload_n hx hb dX7_wakesOf_47 rfl (lv_at hl 2 rfl) ?_
    refine lv_iconst (v := iI 5) hx hb dX7_wakesOf_48 rfl ?_
    obtain ⟨r38, e39, h⟩ := bsome h
    have hPc := sb_P [(h_p0, .inl (cyI, 452, .inl arr_0))] hP [0] rfl
    have hDc := sb_D [(h_p0, .inl (cyI, 452, .inl arr_0))] hD [0] (by decide) rfl
    have hFc := va_free (wc := [(h_p0, .inl (cyI, 452, .inl arr_0))]) hD hS hA [0] rfl
    refine va_calli (va_runS (As := [.ref h_p0, .int a1, .int (iI 5)]) (rest := [.ref h_p0, .int r35]) ⟨hx, hb, hml, hown, hts⟩ (c_X7_of l dC dI cyI cyJ cyT h_p0 H.size arr_0 a1 (iI 5) r38 e39) (va_cwS 3 hts gX7_wakesOf_X7_of rfl rfl rfl (by decide +kernel) ⟨Nat.le_of_ble_eq_true rfl, Nat.le_of_ble_eq_true rfl⟩) ⟨PRE.blind, PRE.go hK hPc hDc hNW⟩ rfl rfl hl.1 rfl (lv_room (Nat.le_of_ble_eq_true rfl)) dX7_wakesOf_49 ⟨Nat.zero_le _, Nat.zero_le _⟩) hS (fun q _ h => hFc q h) hFc (fun z40 u t H locs ht hvm hw hB hz1 hk1 hS => ?_)
    subst z40
    obtain ⟨hP, hD⟩ := va_join (wr := []) (w1 := [(h_p0, .inl (cyI, 452, .inl arr_0))]) hP hD [0] [] rfl rfl (by decide) (by decide) hk1 hFc (WLD.P hB ht) hB.2
    have hP : va_P (dC, dI) vwCl [(h_p0, .inl (cyI, 452, .inl arr_0))] H := hP
    have hD : va_D A [(h_p0, .inl (cyI, 452, .inl arr_0))] := hD
    refine lv_iload_n hx hb dX7_wakesOf_52 rfl (lv_at hl 0 rfl) ?_
    refine lv_aload_n hx hb dX7_wakesOf_53 rfl (lv_at hl 1 rfl) ?_
    refine lv_iload_n hx hb dX7_wakesOf_54 rfl (lv_at hl 2 rfl) ?_
    refine lv_iconst (v := iI 2) hx hb dX7_wakesOf_55 rfl ?_
    obtain ⟨r41, e42, h⟩ := bsome h
    have hPc := sb_P [(h_p0, .inl (cyI, 452, .inl arr_0))] hP [0] rfl
    have hDc := sb_D [(h_p0, .inl (cyI, 452, .inl arr_0))] hD [0] (by decide) rfl
    have hFc := va_free (wc := [(h_p0, .inl (cyI, 452, .inl arr_0))]) hD hS hA [0] rfl
    refine va_calli (va_runS (As := [.ref h_p0, .int a1, .int (iI 2)]) (rest := [.int r26, .int r38, .ref h_p0, .int r35]) ⟨hx, hb, hml, hown, hts⟩ (c_X7_of l dC dI cyI cyJ cyT h_p0 H.size arr_0 a1 (iI 2) r41 e42) (va_cwS 3 hts gX7_wakesOf_X7_of rfl rfl rfl (by decide +kernel) ⟨Nat.le_of_ble_eq_true rfl, Nat.le_of_ble_eq_true rfl⟩) ⟨PRE.blind, PRE.go hK hPc hDc hNW⟩ rfl rfl hl.1 rfl (lv_room (Nat.le_of_ble_eq_true rfl)) dX7_wakesOf_56 ⟨Nat.zero_le _, Nat.zero_le _⟩) hS (fun q _ h => hFc q h) hFc (fun z43 u t H locs ht hvm hw hB hz1 hk1 hS => ?_)
    subst z43
    obtain ⟨hP, hD⟩ := va_join (wr := []) (w1 := [(h_p0, .inl (cyI, 452, .inl arr_0))]) hP hD [0] [] rfl rfl (by decide) (by decide) hk1 hFc (WLD.P hB ht) hB.2
    have hP : va_P (dC, dI) vwCl [(h_p0, .inl (cyI, 452, .inl arr_0))] H := hP
    have hD : va_D A [(h_p0, .inl (cyI, 452, .inl arr_0))] := hD
    obtain ⟨r44, e45, h⟩ := bsome h
    have hPc := sb_P [(h_p0, .inl (cyI, 452, .inl arr_0))] hP [0] rfl
    have hDc := sb_D [(h_p0, .inl (cyI, 452, .inl arr_0))] hD [0] (by decide) rfl
    have hFc := va_free (wc := [(h_p0, .inl (cyI, 452, .inl arr_0))]) hD hS hA [0] rfl
    refine va_calli (va_runS (As := [.ref h_p0, .int r38, .int r26, .int r41]) (rest := [.int r35]) ⟨hx, hb, hml, hown, hts⟩ (c_X7_wakes l dC dI cyI cyJ cyT h_p0 H.size arr_0 r38 r26 r41 n r44 e45) (va_cwS 4 hts gX7_wakesOf_X7_wakes rfl rfl rfl (by decide +kernel) ⟨Nat.le_of_ble_eq_true rfl, Nat.le_of_ble_eq_true rfl⟩) ⟨PRE.blind, PRE.go hK hPc hDc hNW⟩ rfl rfl hl.1 rfl (lv_room (Nat.le_of_ble_eq_true rfl)) dX7_wakesOf_59 ⟨Nat.zero_le _, Nat.zero_le _⟩) hS (fun q _ h => hFc q h) hFc (fun z46 u t H locs ht hvm hw hB hz1 hk1 hS => ?_)
    subst z46
    obtain ⟨hP, hD⟩ := va_join (wr := []) (w1 := [(h_p0, .inl (cyI, 452, .inl arr_0))]) hP hD [0] [] rfl rfl (by decide) (by decide) hk1 hFc (WLD.P hB ht) hB.2
    have hP : va_P (dC, dI) vwCl [(h_p0, .inl (cyI, 452, .inl arr_0))] H := hP
    have hD : va_D A [(h_p0, .inl (cyI, 452, .inl arr_0))] := hD
    refine lv_iadd hx hb dX7_wakesOf_62 ?_
    obtain rfl := Option.some.inj h
    exact W.iret (v := (r35 + r44)) hx hb hr (fun t ht hW => ⟨⟨(r35 + r44), (), rfl, rfl, WLD.of ht hP hD⟩, hS.F ht⟩) hS.2.2 dX7_wakesOf_63
def s_X7_tip (n : Nat) (arr_0 : Nat → Int32) (a1 : Int32) : Option (Int32) := (if gd (iI 2) 452 = true then ((s_X7_wakesOf n arr_0 a1).bind fun r2 => ((s_X7_of arr_0 a1 (iI 6)).bind fun r5 => (if r5 = iI (-1) then (if 0 ≤ (((arr_0 (iI 2).toNatClampNeg) - r2) - iI 0) then (some ((((arr_0 (iI 2).toNatClampNeg) - r2) - iI 0))) else (some (iI 0))) else (if 0 ≤ (((arr_0 (iI 2).toNatClampNeg) - r2) - iI 3) then (some ((((arr_0 (iI 2).toNatClampNeg) - r2) - iI 3))) else (some (iI 0)))))) else none)
set_option maxHeartbeats 4000000 in
set_option maxRecDepth 100000 in
theorem c_X7_tip (l : Launch) (dC : Nat → ClassId) (dI : Nat → Nat → Nat) (cyI cyJ cyT : ClassId) (h_p0 : Nat) (sz : Nat) (arr_0 : Nat → Int32) (a1 : Int32) (n : Nat) (o : Int32) (h : s_X7_tip n arr_0 a1 = some o) : Met l yX7_tip wsX7_tip ({ frames := 3, cells := 0, slots := 0, locals := 70 }) (va_Pc [.ref h_p0, .int a1] (PRE (dC, dI) (TYS cyI cyJ cyT) sz [(h_p0, .inl (cyI, 452, .inl arr_0))])) (va_Qi (S := Unit) (fun r _ => r = o) (fun _ t => WLD (dC, dI) (va_A [(h_p0, .inl (cyI, 452, .inl arr_0))] sz) [(h_p0, .inl (cyI, 452, .inl arr_0))] t) (va_A [(h_p0, .inl (cyI, 452, .inl arr_0))] sz)) 0 0 (va_A [(h_p0, .inl (cyI, 452, .inl arr_0))] sz) := by
  refine Met.ofW (cc := cX7_tip) (maxL := 3) (ret := (some .int)) (by decide) rfl ?_
  intro p e s m args below meth c s₁ B hml hv
  obtain ⟨rfl, hsz, hP, hK, hD0, hNW⟩ := hv
  have hx := B.exec
  have hb := B.bytes
  have hr := B.returns
  have hts := atoms_spec (ws := wsX7_tip) B.pre
  have hown : s.vm.findClass RX7 = some m.cls := findClass_of_methodNamed B.named
  have hlocks := B.notSynchronized
  subst hsz
  have hD := hD0.self (sz := s.heap.size)
  generalize hAe : va_A [(h_p0, .inl (cyI, 452, .inl arr_0))] s.heap.size = A at hD ⊢
  have hA : ∀ q : Nat, s.heap.size ≤ q → A q := fun q h => by rw [← hAe]; exact Or.inr h
  have hS : va_S A s.heap s.heap [] := va_S.rf
  have hP : va_P (dC, dI) vwCl [(h_p0, .inl (cyI, 452, .inl arr_0))] s.heap := hP
  have hl := lv_entry ([.ref h_p0, .int a1]) (n := 3) (Nat.le_of_ble_eq_true rfl)
  rw [lg_entry_eq]
  generalize (lg_sl ([.ref h_p0, .int a1]) ++ List.replicate (3 - (lg_sl ([.ref h_p0, .int a1])).length) Slot.unset).toArray = ls at hl ⊢
  have hl : lv_has ls 3 [(0, .ref h_p0), (1, .int a1)] := hl
  unfold s_X7_tip at h
  refine lv_aload_n hx hb dX7_tip_0 rfl (lv_at hl 0 rfl) ?_
  refine lv_iconst (v := iI 2) hx hb dX7_tip_1 rfl ?_
  obtain ⟨g1, h⟩ := gsome h
  refine va_iald (D := (dC, dI)) hx hb hK hP 0 0 rfl rfl g1 dX7_tip_2 ?_
  refine lv_aload_n hx hb dX7_tip_3 rfl (lv_at hl 0 rfl) ?_
  refine lv_iload_n hx hb dX7_tip_4 rfl (lv_at hl 1 rfl) ?_
  obtain ⟨r2, e3, h⟩ := bsome h
  have hPc := sb_P [(h_p0, .inl (cyI, 452, .inl arr_0))] hP [0] rfl
  have hDc := sb_D [(h_p0, .inl (cyI, 452, .inl arr_0))] hD [0] (by decide) rfl
  have hFc := va_free (wc := [(h_p0, .inl (cyI, 452, .inl arr_0))]) hD hS hA [0] rfl
  refine va_calli (va_runS (As := [.ref h_p0, .int a1]) (rest := [.int (arr_0 (iI 2).toNatClampNeg)]) ⟨hx, hb, hml, hown, hts⟩ (c_X7_wakesOf l dC dI cyI cyJ cyT h_p0 s.heap.size arr_0 a1 n r2 e3) (va_cwS 2 hts gX7_tip_X7_wakesOf rfl rfl rfl (by decide +kernel) ⟨Nat.le_of_ble_eq_true rfl, Nat.le_of_ble_eq_true rfl⟩) ⟨PRE.blind, PRE.go hK hPc hDc hNW⟩ rfl rfl hl.1 rfl (lv_room (Nat.le_of_ble_eq_true rfl)) dX7_tip_5 ⟨Nat.zero_le _, Nat.zero_le _⟩) hS (fun q _ h => hFc q h) hFc (fun z4 u t H locs ht hvm hw hB hz1 hk1 hS => ?_)
  subst z4
  obtain ⟨hP, hD⟩ := va_join (wr := []) (w1 := [(h_p0, .inl (cyI, 452, .inl arr_0))]) hP hD [0] [] rfl rfl (by decide) (by decide) hk1 hFc (WLD.P hB ht) hB.2
  have hP : va_P (dC, dI) vwCl [(h_p0, .inl (cyI, 452, .inl arr_0))] H := hP
  have hD : va_D A [(h_p0, .inl (cyI, 452, .inl arr_0))] := hD
  refine lv_isub hx hb dX7_tip_8 ?_
  refine lv_aload_n hx hb dX7_tip_9 rfl (lv_at hl 0 rfl) ?_
  refine lv_iload_n hx hb dX7_tip_10 rfl (lv_at hl 1 rfl) ?_
  refine lv_bipush (v := iI 6) hx hb dX7_tip_11 (by decide) ?_
  obtain ⟨r5, e6, h⟩ := bsome h
  have hPc := sb_P [(h_p0, .inl (cyI, 452, .inl arr_0))] hP [0] rfl
  have hDc := sb_D [(h_p0, .inl (cyI, 452, .inl arr_0))] hD [0] (by decide) rfl
  have hFc := va_free (wc := [(h_p0, .inl (cyI, 452, .inl arr_0))]) hD hS hA [0] rfl
  refine va_calli (va_runS (As := [.ref h_p0, .int a1, .int (iI 6)]) (rest := [.int ((arr_0 (iI 2).toNatClampNeg) - r2)]) ⟨hx, hb, hml, hown, hts⟩ (c_X7_of l dC dI cyI cyJ cyT h_p0 H.size arr_0 a1 (iI 6) r5 e6) (va_cwS 3 hts gX7_tip_X7_of rfl rfl rfl (by decide +kernel) ⟨Nat.le_of_ble_eq_true rfl, Nat.le_of_ble_eq_true rfl⟩) ⟨PRE.blind, PRE.go hK hPc hDc hNW⟩ rfl rfl hl.1 rfl (lv_room (Nat.le_of_ble_eq_true rfl)) dX7_tip_13 ⟨Nat.zero_le _, Nat.zero_le _⟩) hS (fun q _ h => hFc q h) hFc (fun z7 u t H locs ht hvm hw hB hz1 hk1 hS => ?_)
  subst z7
  obtain ⟨hP, hD⟩ := va_join (wr := []) (w1 := [(h_p0, .inl (cyI, 452, .inl arr_0))]) hP hD [0] [] rfl rfl (by decide) (by decide) hk1 hFc (WLD.P hB ht) hB.2
  have hP : va_P (dC, dI) vwCl [(h_p0, .inl (cyI, 452, .inl arr_0))] H := hP
  have hD : va_D A [(h_p0, .inl (cyI, 452, .inl arr_0))] := hD
  refine lv_iconst (v := iI (-1)) hx hb dX7_tip_16 rfl ?_
  refine lv_icmp_ne (tgt := 24) hx hb dX7_tip_17 (by decide) (fun c8 => ?_) (fun c8 => ?_)
  · have h := ineg c8 h
    refine lv_iconst (v := iI 3) hx hb dX7_tip_24 rfl ?_
    refine lv_isub hx hb dX7_tip_25 ?_
    refine lv_istore_n hx hb dX7_tip_26 rfl hl (by decide) (rfl : _ = ([(2, .int (((arr_0 (iI 2).toNatClampNeg) - r2) - iI 3)), (0, .ref h_p0), (1, .int a1)] : List (Nat × Value))) (fun ls hl => ?_)
    refine lv_iload_n hx hb dX7_tip_27 rfl (lv_at hl 0 rfl) ?_
    refine lv_if_ge (tgt := 35) hx hb dX7_tip_28 (by decide) (fun c9 => ?_) (fun c9 => ?_)
    · have h := ipos c9 h
      refine lv_iload_n hx hb dX7_tip_35 rfl (lv_at hl 0 rfl) ?_
      obtain rfl := Option.some.inj h
      exact W.iret (v := (((arr_0 (iI 2).toNatClampNeg) - r2) - iI 3)) hx hb hr (fun t ht hW => ⟨⟨(((arr_0 (iI 2).toNatClampNeg) - r2) - iI 3), (), rfl, rfl, WLD.of ht hP hD⟩, hS.F ht⟩) hS.2.2 dX7_tip_36
    · have h := ineg c9 h
      refine lv_iconst (v := iI 0) hx hb dX7_tip_31 rfl ?_
      refine lv_goto (tgt := 36) hx hb dX7_tip_32 (by decide) ?_
      obtain rfl := Option.some.inj h
      exact W.iret (v := iI 0) hx hb hr (fun t ht hW => ⟨⟨iI 0, (), rfl, rfl, WLD.of ht hP hD⟩, hS.F ht⟩) hS.2.2 dX7_tip_36
  · have h := ipos c8 h
    refine lv_iconst (v := iI 0) hx hb dX7_tip_20 rfl ?_
    refine lv_goto (tgt := 25) hx hb dX7_tip_21 (by decide) ?_
    refine lv_isub hx hb dX7_tip_25 ?_
    refine lv_istore_n hx hb dX7_tip_26 rfl hl (by decide) (rfl : _ = ([(2, .int (((arr_0 (iI 2).toNatClampNeg) - r2) - iI 0)), (0, .ref h_p0), (1, .int a1)] : List (Nat × Value))) (fun ls hl => ?_)
    refine lv_iload_n hx hb dX7_tip_27 rfl (lv_at hl 0 rfl) ?_
    refine lv_if_ge (tgt := 35) hx hb dX7_tip_28 (by decide) (fun c10 => ?_) (fun c10 => ?_)
    · have h := ipos c10 h
      refine lv_iload_n hx hb dX7_tip_35 rfl (lv_at hl 0 rfl) ?_
      obtain rfl := Option.some.inj h
      exact W.iret (v := (((arr_0 (iI 2).toNatClampNeg) - r2) - iI 0)) hx hb hr (fun t ht hW => ⟨⟨(((arr_0 (iI 2).toNatClampNeg) - r2) - iI 0), (), rfl, rfl, WLD.of ht hP hD⟩, hS.F ht⟩) hS.2.2 dX7_tip_36
    · have h := ineg c10 h
      refine lv_iconst (v := iI 0) hx hb dX7_tip_31 rfl ?_
      refine lv_goto (tgt := 36) hx hb dX7_tip_32 (by decide) ?_
      obtain rfl := Option.some.inj h
      exact W.iret (v := iI 0) hx hb hr (fun t ht hW => ⟨⟨iI 0, (), rfl, rfl, WLD.of ht hP hD⟩, hS.F ht⟩) hS.2.2 dX7_tip_36
