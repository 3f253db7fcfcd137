def s_X7_isAt (v_typed : Int32) (v_at : Int32) (v_text : Nat → Int32) (a1 : Int32) (a2 : Int32) : Option (Int32) := (if v_typed ≤ v_at then (some (iI 0)) else (if gd v_at 60 = true then ((s_X7_in (v_text v_at.toNatClampNeg) a1 a2).bind fun r3 => (if r3 = 0 then (some (iI 0)) else (some (iI 1)))) else none))
set_option maxRecDepth 20000 in
theorem m_X7_isAt_0 : ∀ w ∈ u_ws RX7 TX7 15, w ∈ wsX7_isAt := by decide +kernel
set_option maxRecDepth 20000 in
theorem m_X7_isAt_1 : (.fieldLink RX7 142 "SleeperBerthsModel" "at" "I" : Cond) ∈ wsX7_isAt := by decide +kernel
set_option maxRecDepth 20000 in
theorem m_X7_isAt_2 : (.fieldLink RX7 139 "SleeperBerthsModel" "typed" "I" : Cond) ∈ wsX7_isAt := by decide +kernel
set_option maxRecDepth 20000 in
theorem m_X7_isAt_3 : (.fieldLink RX7 19 "SleeperBerthsModel" "text" "[I" : Cond) ∈ wsX7_isAt := by decide +kernel
set_option maxHeartbeats 4000000 in
set_option maxRecDepth 100000 in
theorem c_X7_isAt (l : Launch) (dC : Nat → ClassId) (dI : Nat → Nat → Nat) (cyI cyJ cyT : ClassId) (h_p0 : Nat) (h_p0_now : Nat) (h_p0_then : Nat) (h_p0_past : Nat) (h_p0_text : Nat) (h_p0_told : Nat) (sz : Nat) (v_kept : Int32) (v_typed : Int32) (v_thrown : Int32) (v_at : Int32) (v_isFault : Int32) (v_tolds : Int32) (v_one : Int32) (v_other : Int32) (v_change : Int32) (v_woken : Int32) (v_text : Nat → Int32) (a1 : Int32) (a2 : Int32) (o : Int32) (h : s_X7_isAt v_typed v_at v_text a1 a2 = some o) : Met l yX7_isAt wsX7_isAt ({ frames := 1, cells := 0, slots := 0, locals := 22 }) (va_Pc [.ref h_p0, .int a1, .int a2] (PRE (dC, dI) (TYS cyI cyJ cyT) sz [(h_p0, .inr (7, [.ref h_p0_now, .ref h_p0_then, .ref h_p0_past, .int v_kept, .ref h_p0_text, .int v_typed, .int v_thrown, .int v_at, .int v_isFault, .ref h_p0_told, .int v_tolds, .int v_one, .int v_other, .int v_change, .int v_woken])), (h_p0_text, .inl (cyI, 60, .inl v_text))])) (va_Qi (S := Unit) (fun r _ => r = o) (fun _ t => WLD (dC, dI) (va_A [(h_p0, .inr (7, [.ref h_p0_now, .ref h_p0_then, .ref h_p0_past, .int v_kept, .ref h_p0_text, .int v_typed, .int v_thrown, .int v_at, .int v_isFault, .ref h_p0_told, .int v_tolds, .int v_one, .int v_other, .int v_change, .int v_woken])), (h_p0_text, .inl (cyI, 60, .inl v_text))] sz) [(h_p0, .inr (7, [.ref h_p0_now, .ref h_p0_then, .ref h_p0_past, .int v_kept, .ref h_p0_text, .int v_typed, .int v_thrown, .int v_at, .int v_isFault, .ref h_p0_told, .int v_tolds, .int v_one, .int v_other, .int v_change, .int v_woken])), (h_p0_text, .inl (cyI, 60, .inl v_text))] t) (va_A [(h_p0, .inr (7, [.ref h_p0_now, .ref h_p0_then, .ref h_p0_past, .int v_kept, .ref h_p0_text, .int v_typed, .int v_thrown, .int v_at, .int v_isFault, .ref h_p0_told, .int v_tolds, .int v_one, .int v_other, .int v_change, .int v_woken])), (h_p0_text, .inl (cyI, 60, .inl v_text))] sz)) 0 0 (va_A [(h_p0, .inr (7, [.ref h_p0_now, .ref h_p0_then, .ref h_p0_past, .int v_kept, .ref h_p0_text, .int v_typed, .int v_thrown, .int v_at, .int v_isFault, .ref h_p0_told, .int v_tolds, .int v_one, .int v_other, .int v_change, .int v_woken])), (h_p0_text, .inl (cyI, 60, .inl v_text))] sz) := by
  refine Met.ofW (cc := cX7_isAt) (maxL := 3) (ret := (some .boolean)) (by decide) rfl ?_
  intro p e s m args below meth c s₁ B hml hv
  obtain ⟨rfl, hsz, hP, hK, hD0, hNW⟩ := hv
  have hx := B.exec
  have hb := B.bytes
  have hr := B.returns
  have hts := atoms_spec (ws := wsX7_isAt) B.pre
  have hown : s.vm.findClass RX7 = some m.cls := findClass_of_methodNamed B.named
  have hlocks := B.notSynchronized
  subst hsz
  have hD := hD0.self (sz := s.heap.size)
  generalize hAe : va_A [(h_p0, .inr (7, [.ref h_p0_now, .ref h_p0_then, .ref h_p0_past, .int v_kept, .ref h_p0_text, .int v_typed, .int v_thrown, .int v_at, .int v_isFault, .ref h_p0_told, .int v_tolds, .int v_one, .int v_other, .int v_change, .int v_woken])), (h_p0_text, .inl (cyI, 60, .inl v_text))] s.heap.size = A at hD ⊢
  have hA : ∀ q : Nat, s.heap.size ≤ q → A q := fun q h => by rw [← hAe]; exact Or.inr h
  have hS : va_S A s.heap s.heap [] := va_S.rf
  have hP : va_P (dC, dI) vwCl [(h_p0, .inr (7, [.ref h_p0_now, .ref h_p0_then, .ref h_p0_past, .int v_kept, .ref h_p0_text, .int v_typed, .int v_thrown, .int v_at, .int v_isFault, .ref h_p0_told, .int v_tolds, .int v_one, .int v_other, .int v_change, .int v_woken])), (h_p0_text, .inl (cyI, 60, .inl v_text))] s.heap := hP
  have hl := lv_entry ([.ref h_p0, .int a1, .int a2]) (n := 3) (Nat.le_of_ble_eq_true rfl)
  rw [lg_entry_eq]
  generalize (lg_sl ([.ref h_p0, .int a1, .int a2]) ++ List.replicate (3 - (lg_sl ([.ref h_p0, .int a1, .int a2])).length) Slot.unset).toArray = ls at hl ⊢
  have hl : lv_has ls 3 [(0, .ref h_p0), (1, .int a1), (2, .int a2)] := hl
  unfold s_X7_isAt at h
  refine lv_aload_n hx hb dX7_isAt_0 rfl (lv_at hl 0 rfl) ?_
  refine va_get (D := (dC, dI)) (ci := 7) (v := .int v_at) (C := RX7) (T := TX7) (N := 15) hx hb hts m_X7_isAt_0 hown hK hP 0 rfl rfl 7 (by decide) (hts (.fieldLink RX7 142 "SleeperBerthsModel" "at" "I") m_X7_isAt_1) (fun _ h9 => h9) rfl dX7_isAt_1 ?_
  refine lv_aload_n hx hb dX7_isAt_4 rfl (lv_at hl 0 rfl) ?_
  refine va_get (D := (dC, dI)) (ci := 7) (v := .int v_typed) (C := RX7) (T := TX7) (N := 15) hx hb hts m_X7_isAt_0 hown hK hP 0 rfl rfl 5 (by decide) (hts (.fieldLink RX7 139 "SleeperBerthsModel" "typed" "I") m_X7_isAt_2) (fun _ h9 => h9) rfl dX7_isAt_5 ?_
  refine lv_icmp_ge (tgt := 32) hx hb dX7_isAt_8 (by decide) (fun c1 => ?_) (fun c1 => ?_)
  · have h := ipos c1 h
    refine lv_iconst (v := iI 0) hx hb dX7_isAt_32 rfl ?_
    obtain rfl := Option.some.inj h
    exact W.zret (v := iI 0) hx hb hr (by decide) (fun t ht hW => ⟨⟨iI 0, (), rfl, rfl, WLD.of ht hP hD⟩, hS.F ht⟩) hS.2.2 dX7_isAt_33
  · have h := ineg c1 h
    refine lv_aload_n hx hb dX7_isAt_11 rfl (lv_at hl 0 rfl) ?_
    refine va_get (D := (dC, dI)) (ci := 7) (v := .ref h_p0_text) (C := RX7) (T := TX7) (N := 15) hx hb hts m_X7_isAt_0 hown hK hP 0 rfl rfl 4 (by decide) (hts (.fieldLink RX7 19 "SleeperBerthsModel" "text" "[I") m_X7_isAt_3) (fun _ h9 => h9) rfl dX7_isAt_12 ?_
    refine lv_aload_n hx hb dX7_isAt_15 rfl (lv_at hl 0 rfl) ?_
    refine va_get (D := (dC, dI)) (ci := 7) (v := .int v_at) (C := RX7) (T := TX7) (N := 15) hx hb hts m_X7_isAt_0 hown hK hP 0 rfl rfl 7 (by decide) (hts (.fieldLink RX7 142 "SleeperBerthsModel" "at" "I") m_X7_isAt_1) (fun _ h9 => h9) rfl dX7_isAt_16 ?_
    obtain ⟨g2, h⟩ := gsome h
    refine va_iald (D := (dC, dI)) hx hb hK hP 1 0 rfl rfl g2 dX7_isAt_19 ?_
    refine lv_iload_n hx hb dX7_isAt_20 rfl (lv_at hl 1 rfl) ?_
    refine lv_iload_n hx hb dX7_isAt_21 rfl (lv_at hl 2 rfl) ?_
    obtain ⟨r3, e4, h⟩ := bsome h
    have hPc := sb_P [] hP [] rfl
    have hDc := sb_D [] hD [] (by decide) rfl
    have hFc := va_free (wc := []) hD hS hA [] rfl
    refine va_calli (va_runS (As := [.int (v_text v_at.toNatClampNeg), .int a1, .int a2]) (rest := []) ⟨hx, hb, hml, hown, hts⟩ (c_X7_in l dC dI cyI cyJ cyT s.heap.size (v_text v_at.toNatClampNeg) a1 a2 r3 e4) (va_cwS 3 hts gX7_isAt_X7_in rfl rfl rfl (by decide +kernel) ⟨Nat.le_of_ble_eq_true rfl, Nat.le_of_ble_eq_true rfl⟩) ⟨PRE.blind, PRE.go hK hPc hDc hNW⟩ rfl rfl hl.1 rfl (lv_room (Nat.le_of_ble_eq_true rfl)) dX7_isAt_22 ⟨Nat.zero_le _, Nat.zero_le _⟩) hS (fun q _ h => hFc q h) hFc (fun z5 u t H locs ht hvm hw hB hz1 hk1 hS => ?_)
    subst z5
    obtain ⟨hP, hD⟩ := va_join (wr := [(h_p0, .inr (7, [.ref h_p0_now, .ref h_p0_then, .ref h_p0_past, .int v_kept, .ref h_p0_text, .int v_typed, .int v_thrown, .int v_at, .int v_isFault, .ref h_p0_told, .int v_tolds, .int v_one, .int v_other, .int v_change, .int v_woken])), (h_p0_text, .inl (cyI, 60, .inl v_text))]) (w1 := []) hP hD [] [0, 1] rfl rfl (by decide) (by decide) hk1 hFc (WLD.P hB ht) hB.2
    have hP : va_P (dC, dI) vwCl [(h_p0, .inr (7, [.ref h_p0_now, .ref h_p0_then, .ref h_p0_past, .int v_kept, .ref h_p0_text, .int v_typed, .int v_thrown, .int v_at, .int v_isFault, .ref h_p0_told, .int v_tolds, .int v_one, .int v_other, .int v_change, .int v_woken])), (h_p0_text, .inl (cyI, 60, .inl v_text))] H := hP
    have hD : va_D A [(h_p0, .inr (7, [.ref h_p0_now, .ref h_p0_then, .ref h_p0_past, .int v_kept, .ref h_p0_text, .int v_typed, .int v_thrown, .int v_at, .int v_isFault, .ref h_p0_told, .int v_tolds, .int v_one, .int v_other, .int v_change, .int v_woken])), (h_p0_text, .inl (cyI, 60, .inl v_text))] := hD
    refine lv_if_eq (tgt := 32) hx hb dX7_isAt_25 (by decide) (fun c6 => ?_) (fun c6 => ?_)
    · have h := ipos c6 h
      refine lv_iconst (v := iI 0) hx hb dX7_isAt_32 rfl ?_
      obtain rfl := Option.some.inj h
      exact W.zret (v := iI 0) hx hb hr (by decide) (fun t ht hW => ⟨⟨iI 0, (), rfl, rfl, WLD.of ht hP hD⟩, hS.F ht⟩) hS.2.2 dX7_isAt_33
    · have h := ineg c6 h
      refine lv_iconst (v := iI 1) hx hb dX7_isAt_28 rfl ?_
      refine lv_goto (tgt := 33) hx hb dX7_isAt_29 (by decide) ?_
      obtain rfl := Option.some.inj h
      exact W.zret (v := iI 1) hx hb hr (by decide) (fun t ht hW => ⟨⟨iI 1, (), rfl, rfl, WLD.of ht hP hD⟩, hS.F ht⟩) hS.2.2 dX7_isAt_33
def s_X7_stops (v_typed : Int32) (v_at : Int32) (v_isFault : Int32) : Option (Int32 × Int32) := (if v_typed ≤ v_at then (some (iI 0, iI 0)) else (some (iI 0, iI 1)))
set_option maxRecDepth 20000 in
theorem m_X7_stops_0 : ∀ w ∈ u_ws RX7 TX7 15, w ∈ wsX7_stops := by decide +kernel
set_option maxRecDepth 20000 in
theorem m_X7_stops_1 : (.fieldLink RX7 142 "SleeperBerthsModel" "at" "I" : Cond) ∈ wsX7_stops := by decide +kernel
set_option maxRecDepth 20000 in
theorem m_X7_stops_2 : (.fieldLink RX7 139 "SleeperBerthsModel" "typed" "I" : Cond) ∈ wsX7_stops := by decide +kernel
set_option maxRecDepth 20000 in
theorem m_X7_stops_3 : (.fieldLink RX7 145 "SleeperBerthsModel" "isFault" "Z" : Cond) ∈ wsX7_stops := by decide +kernel
set_option maxHeartbeats 4000000 in
set_option maxRecDepth 100000 in
theorem c_X7_stops (l : Launch) (dC : Nat → ClassId) (dI : Nat → Nat → Nat) (cyI cyJ cyT : ClassId) (h_p0 : Nat) (h_p0_now : Nat) (h_p0_then : Nat) (h_p0_past : Nat) (h_p0_text : Nat) (h_p0_told : Nat) (sz : Nat) (v_kept : Int32) (v_typed : Int32) (v_thrown : Int32) (v_at : Int32) (v_isFault : Int32) (v_tolds : Int32) (v_one : Int32) (v_other : Int32) (v_change : Int32) (v_woken : Int32) (o : Int32 × Int32) (h : s_X7_stops v_typed v_at v_isFault = some o) : Met l yX7_stops wsX7_stops ({ frames := 0, cells := 0, slots := 0, locals := 0 }) (va_Pc [.ref h_p0] (PRE (dC, dI) (TYS cyI cyJ cyT) sz [(h_p0, .inr (7, [.ref h_p0_now, .ref h_p0_then, .ref h_p0_past, .int v_kept, .ref h_p0_text, .int v_typed, .int v_thrown, .int v_at, .int v_isFault, .ref h_p0_told, .int v_tolds, .int v_one, .int v_other, .int v_change, .int v_woken]))])) (va_Qi (S := Unit) (fun r _ => r = o.1) (fun _ t => WLD (dC, dI) (va_A [(h_p0, .inr (7, [.ref h_p0_now, .ref h_p0_then, .ref h_p0_past, .int v_kept, .ref h_p0_text, .int v_typed, .int v_thrown, .int v_at, .int v_isFault, .ref h_p0_told, .int v_tolds, .int v_one, .int v_other, .int v_change, .int v_woken]))] sz) [(h_p0, .inr (7, [.ref h_p0_now, .ref h_p0_then, .ref h_p0_past, .int v_kept, .ref h_p0_text, .int v_typed, .int v_thrown, .int v_at, .int o.2, .ref h_p0_told, .int v_tolds, .int v_one, .int v_other, .int v_change, .int v_woken]))] t) (va_A [(h_p0, .inr (7, [.ref h_p0_now, .ref h_p0_then, .ref h_p0_past, .int v_kept, .ref h_p0_text, .int v_typed, .int v_thrown, .int v_at, .int v_isFault, .ref h_p0_told, .int v_tolds, .int v_one, .int v_other, .int v_change, .int v_woken]))] sz)) 0 0 (va_A [(h_p0, .inr (7, [.ref h_p0_now, .ref h_p0_then, .ref h_p0_past, .int v_kept, .ref h_p0_text, .int v_typed, .int v_thrown, .int v_at, .int v_isFault, .ref h_p0_told, .int v_tolds, .int v_one, .int v_other, .int v_change, .int v_woken]))] sz) := by
  refine Met.ofW (cc := cX7_stops) (maxL := 1) (ret := (some .boolean)) (by decide) rfl ?_
  intro p e s m args below meth c s₁ B hml hv
  obtain ⟨rfl, hsz, hP, hK, hD0, hNW⟩ := hv
  have hx := B.exec
  have hb := B.bytes
  have hr := B.returns
  have hts := atoms_spec (ws := wsX7_stops) B.pre
  have hown : s.vm.findClass RX7 = some m.cls := findClass_of_methodNamed B.named
  have hlocks := B.notSynchronized
  subst hsz
  have hD := hD0.self (sz := s.heap.size)
  generalize hAe : va_A [(h_p0, .inr (7, [.ref h_p0_now, .ref h_p0_then, .ref h_p0_past, .int v_kept, .ref h_p0_text, .int v_typed, .int v_thrown, .int v_at, .int v_isFault, .ref h_p0_told, .int v_tolds, .int v_one, .int v_other, .int v_change, .int v_woken]))] s.heap.size = A at hD ⊢
  have hA : ∀ q : Nat, s.heap.size ≤ q → A q := fun q h => by rw [← hAe]; exact Or.inr h
  have hS : va_S A s.heap s.heap [] := va_S.rf
  have hP : va_P (dC, dI) vwCl [(h_p0, .inr (7, [.ref h_p0_now, .ref h_p0_then, .ref h_p0_past, .int v_kept, .ref h_p0_text, .int v_typed, .int v_thrown, .int v_at, .int v_isFault, .ref h_p0_told, .int v_tolds, .int v_one, .int v_other, .int v_change, .int v_woken]))] s.heap := hP
  have hl := lv_entry ([.ref h_p0]) (n := 1) (Nat.le_of_ble_eq_true rfl)
  rw [lg_entry_eq]
  generalize (lg_sl ([.ref h_p0]) ++ List.replicate (1 - (lg_sl ([.ref h_p0])).length) Slot.unset).toArray = ls at hl ⊢
  have hl : lv_has ls 1 [(0, .ref h_p0)] := hl
  unfold s_X7_stops at h
  refine lv_aload_n hx hb dX7_stops_0 rfl (lv_at hl 0 rfl) ?_
  refine lv_aload_n hx hb dX7_stops_1 rfl (lv_at hl 0 rfl) ?_
  refine va_get (D := (dC, dI)) (ci := 7) (v := .int v_at) (C := RX7) (T := TX7) (N := 15) hx hb hts m_X7_stops_0 hown hK hP 0 rfl rfl 7 (by decide) (hts (.fieldLink RX7 142 "SleeperBerthsModel" "at" "I") m_X7_stops_1) (fun _ h9 => h9) rfl dX7_stops_2 ?_
  refine lv_aload_n hx hb dX7_stops_5 rfl (lv_at hl 0 rfl) ?_
  refine va_get (D := (dC, dI)) (ci := 7) (v := .int v_typed) (C := RX7) (T := TX7) (N := 15) hx hb hts m_X7_stops_0 hown hK hP 0 rfl rfl 5 (by decide) (hts (.fieldLink RX7 139 "SleeperBerthsModel" "typed" "I") m_X7_stops_2) (fun _ h9 => h9) rfl dX7_stops_6 ?_
  refine lv_icmp_ge (tgt := 16) hx hb dX7_stops_9 (by decide) (fun c1 => ?_) (fun c1 => ?_)
  · have h := ipos c1 h
    refine lv_iconst (v := iI 0) hx hb dX7_stops_16 rfl ?_
    refine va_put (D := (dC, dI)) (ci := 7) (v := .int (iI 0)) (ty := .boolean) (C := RX7) (T := TX7) (N := 15) hx hb hts m_X7_stops_0 tyX7 tyX7_ok nmX7 hown hK hP hD hS 0 rfl rfl 8 (by decide) (hts (.fieldLink RX7 145 "SleeperBerthsModel" "isFault" "Z") m_X7_stops_3) (fun _ h9 => h9) rfl (by decide +kernel) (by decide) rfl (Nat.le_of_ble_eq_true rfl) dX7_stops_17 (fun H locs hP hD hS => ?_)
    have hP : va_P (dC, dI) vwCl [(h_p0, .inr (7, [.ref h_p0_now, .ref h_p0_then, .ref h_p0_past, .int v_kept, .ref h_p0_text, .int v_typed, .int v_thrown, .int v_at, .int (iI 0), .ref h_p0_told, .int v_tolds, .int v_one, .int v_other, .int v_change, .int v_woken]))] H := hP
    have hD : va_D A [(h_p0, .inr (7, [.ref h_p0_now, .ref h_p0_then, .ref h_p0_past, .int v_kept, .ref h_p0_text, .int v_typed, .int v_thrown, .int v_at, .int (iI 0), .ref h_p0_told, .int v_tolds, .int v_one, .int v_other, .int v_change, .int v_woken]))] := hD
    refine lv_iconst (v := iI 0) hx hb dX7_stops_20 rfl ?_
    obtain rfl := Option.some.inj h
    exact W.zret (v := iI 0) hx hb hr (by decide) (fun t ht hW => ⟨⟨iI 0, (), rfl, rfl, WLD.of ht hP hD⟩, hS.F ht⟩) hS.2.2 dX7_stops_21
  · have h := ineg c1 h
    refine lv_iconst (v := iI 1) hx hb dX7_stops_12 rfl ?_
    refine lv_goto (tgt := 17) hx hb dX7_stops_13 (by decide) ?_
    refine va_put (D := (dC, dI)) (ci := 7) (v := .int (iI 1)) (ty := .boolean) (C := RX7) (T := TX7) (N := 15) hx hb hts m_X7_stops_0 tyX7 tyX7_ok nmX7 hown hK hP hD hS 0 rfl rfl 8 (by decide) (hts (.fieldLink RX7 145 "SleeperBerthsModel" "isFault" "Z") m_X7_stops_3) (fun _ h9 => h9) rfl (by decide +kernel) (by decide) rfl (Nat.le_of_ble_eq_true rfl) dX7_stops_17 (fun H locs hP hD hS => ?_)
    have hP : va_P (dC, dI) vwCl [(h_p0, .inr (7, [.ref h_p0_now, .ref h_p0_then, .ref h_p0_past, .int v_kept, .ref h_p0_text, .int v_typed, .int v_thrown, .int v_at, .int (iI 1), .ref h_p0_told, .int v_tolds, .int v_one, .int v_other, .int v_change, .int v_woken]))] H := hP
    have hD : va_D A [(h_p0, .inr (7, [.ref h_p0_now, .ref h_p0_then, .ref h_p0_past, .int v_kept, .ref h_p0_text, .int v_typed, .int v_thrown, .int v_at, .int (iI 1), .ref h_p0_told, .int v_tolds, .int v_one, .int v_other, .int v_change, .int v_woken]))] := hD
    refine lv_iconst (v := iI 0) hx hb dX7_stops_20 rfl ?_
    obtain rfl := Option.some.inj h
    exact W.zret (v := iI 0) hx hb hr (by decide) (fun t ht hW => ⟨⟨iI 0, (), rfl, rfl, WLD.of ht hP hD⟩, hS.F ht⟩) hS.2.2 dX7_stops_21
def s_X7_isPart (v_typed : Int32) (v_at : Int32) (v_isFault : Int32) (v_tolds : Int32) (v_text : Nat → Int32) (v_told : Nat → Int32) : Option (Int32 × Int32 × Int32 × (Nat → Int32)) := ((s_X7_isAt v_typed v_at v_text (iI 48) (iI 56)).bind fun r1 => (if r1 = 0 then ((s_X7_stops v_typed v_at v_isFault).bind fun r33 => ((if zb r33.1 = true then some (r33.1, v_at, r33.2, v_told) else none))) else (if gd v_at 60 = true then ((s_X7_isAt v_typed (v_at + iI 1) v_text (iI 45) (iI 45)).bind fun r6 => (if r6 = 0 then ((s_X7_stops v_typed (v_at + iI 1) v_isFault).bind fun r29 => ((if zb r29.1 = true then some (r29.1, (v_at + iI 1), r29.2, v_told) else none))) else ((s_X7_isAt v_typed ((v_at + iI 1) + iI 1) v_text ((v_text v_at.toNatClampNeg) + iI 1) (iI 57)).bind fun r10 => (if r10 = 0 then ((s_X7_stops v_typed ((v_at + iI 1) + iI 1) v_isFault).bind fun r25 => ((if zb r25.1 = true then some (r25.1, ((v_at + iI 1) + iI 1), r25.2, v_told) else none))) else (if gd (iI 3 * v_tolds) 48 = true then (if gd ((v_at + iI 1) + iI 1) 60 = true then (if gd ((iI 3 * v_tolds) + iI 1) 48 = true then ((s_X7_isAt v_typed (((v_at + iI 1) + iI 1) + iI 1) v_text (iI 33) (iI 33)).bind fun r17 => (if r17 = 0 then (if gd ((iI 3 * v_tolds) + iI 2) 48 = true then (if gd ((iI 3 * v_tolds) + iI 2) 48 = true then (some (iI 1, ((((v_at + iI 1) + iI 1) + iI 1) + ((upd (upd (upd v_told (iI 3 * v_tolds).toNatClampNeg ((v_text v_at.toNatClampNeg) - iI 48)) ((iI 3 * v_tolds) + iI 1).toNatClampNeg ((v_text ((v_at + iI 1) + iI 1).toNatClampNeg) - iI 48)) ((iI 3 * v_tolds) + iI 2).toNatClampNeg (iI 0)) ((iI 3 * v_tolds) + iI 2).toNatClampNeg)), v_isFault, (upd (upd (upd v_told (iI 3 * v_tolds).toNatClampNeg ((v_text v_at.toNatClampNeg) - iI 48)) ((iI 3 * v_tolds) + iI 1).toNatClampNeg ((v_text ((v_at + iI 1) + iI 1).toNatClampNeg) - iI 48)) ((iI 3 * v_tolds) + iI 2).toNatClampNeg (iI 0)))) else none) else none) else (if gd ((iI 3 * v_tolds) + iI 2) 48 = true then (if gd ((iI 3 * v_tolds) + iI 2) 48 = true then (some (iI 1, ((((v_at + iI 1) + iI 1) + iI 1) + ((upd (upd (upd v_told (iI 3 * v_tolds).toNatClampNeg ((v_text v_at.toNatClampNeg) - iI 48)) ((iI 3 * v_tolds) + iI 1).toNatClampNeg ((v_text ((v_at + iI 1) + iI 1).toNatClampNeg) - iI 48)) ((iI 3 * v_tolds) + iI 2).toNatClampNeg (iI 1)) ((iI 3 * v_tolds) + iI 2).toNatClampNeg)), v_isFault, (upd (upd (upd v_told (iI 3 * v_tolds).toNatClampNeg ((v_text v_at.toNatClampNeg) - iI 48)) ((iI 3 * v_tolds) + iI 1).toNatClampNeg ((v_text ((v_at + iI 1) + iI 1).toNatClampNeg) - iI 48)) ((iI 3 * v_tolds) + iI 2).toNatClampNeg (iI 1)))) else none) else none))) else none) else none) else none))))) else none)))
set_option maxRecDepth 20000 in
theorem m_X7_isPart_0 : ∀ w ∈ u_ws RX7 TX7 15, w ∈ wsX7_isPart := by decide +kernel
set_option maxRecDepth 20000 in
theorem m_X7_isPart_1 : (.fieldLink RX7 19 "SleeperBerthsModel" "text" "[I" : Cond) ∈ wsX7_isPart := by decide +kernel
set_option maxRecDepth 20000 in
theorem m_X7_isPart_2 : (.fieldLink RX7 142 "SleeperBerthsModel" "at" "I" : Cond) ∈ wsX7_isPart := by decide +kernel
set_option maxRecDepth 20000 in
theorem m_X7_isPart_3 : (.fieldLink RX7 22 "SleeperBerthsModel" "told" "[I" : Cond) ∈ wsX7_isPart := by decide +kernel
set_option maxRecDepth 20000 in
theorem m_X7_isPart_4 : (.fieldLink RX7 156 "SleeperBerthsModel" "tolds" "I" : Cond) ∈ wsX7_isPart := by decide +kernel
set_option maxHeartbeats 4000000 in
set_option maxRecDepth 100000 in
theorem c_X7_isPart (l : Launch) (dC : Nat → ClassId) (dI : Nat → Nat → Nat) (cyI cyJ cyT : ClassId) (h_p0 : Nat) (h_p0_now : Nat) (h_p0_then : Nat) (h_p0_past : Nat) (h_p0_text : Nat) (h_p0_told : Nat) (sz : Nat) (v_kept : Int32) (v_typed : Int32) (v_thrown : Int32) (v_at : Int32) (v_isFault : Int32) (v_tolds : Int32) (v_one : Int32) (v_other : Int32) (v_change : Int32) (v_woken : Int32) (v_text : Nat → Int32) (v_told : Nat → Int32) (o : Int32 × Int32 × Int32 × (Nat → Int32)) (h : s_X7_isPart v_typed v_at v_isFault v_tolds v_text v_told = some o) : Met l yX7_isPart wsX7_isPart ({ frames := 2, cells := 0, slots := 0, locals := 44 }) (va_Pc [.ref h_p0] (PRE (dC, dI) (TYS cyI cyJ cyT) sz [(h_p0, .inr (7, [.ref h_p0_now, .ref h_p0_then, .ref h_p0_past, .int v_kept, .ref h_p0_text, .int v_typed, .int v_thrown, .int v_at, .int v_isFault, .ref h_p0_told, .int v_tolds, .int v_one, .int v_other, .int v_change, .int v_woken])), (h_p0_text, .inl (cyI, 60, .inl v_text)), (h_p0_told, .inl (cyI, 48, .inl v_told))])) (va_Qi (S := Unit) (fun r _ => r = o.1) (fun _ t => WLD (dC, dI) (va_A [(h_p0, .inr (7, [.ref h_p0_now, .ref h_p0_then, .ref h_p0_past, .int v_kept, .ref h_p0_text, .int v_typed, .int v_thrown, .int v_at, .int v_isFault, .ref h_p0_told, .int v_tolds, .int v_one, .int v_other, .int v_change, .int v_woken])), (h_p0_text, .inl (cyI, 60, .inl v_text)), (h_p0_told, .inl (cyI, 48, .inl v_told))] sz) [(h_p0, .inr (7, [.ref h_p0_now, .ref h_p0_then, .ref h_p0_past, .int v_kept, .ref h_p0_text, .int v_typed, .int v_thrown, .int o.2.1, .int o.2.2.1, .ref h_p0_told, .int v_tolds, .int v_one, .int v_other, .int v_change, .int v_woken])), (h_p0_text, .inl (cyI, 60, .inl v_text)), (h_p0_told, .inl (cyI, 48, .inl o.2.2.2))] t) (va_A [(h_p0, .inr (7, [.ref h_p0_now, .ref h_p0_then, .ref h_p0_past, .int v_kept, .ref h_p0_text, .int v_typed, .int v_thrown, .int v_at, .int v_isFault, .ref h_p0_told, .int v_tolds, .int v_one, .int v_other, .int v_change, .int v_woken])), (h_p0_text, .inl (cyI, 60, .inl v_text)), (h_p0_told, .inl (cyI, 48, .inl v_told))] sz)) 0 0 (va_A [(h_p0, .inr (7, [.ref h_p0_now, .ref h_p0_then, .ref h_p0_past, .int v_kept, .ref h_p0_text, .int v_typed, .int v_thrown, .int v_at, .int v_isFault, .ref h_p0_told, .int v_tolds, .int v_one, .int v_other, .int v_change, .int v_woken])), (h_p0_text, .inl (cyI, 60, .inl v_text)), (h_p0_told, .inl (cyI, 48, .inl v_told))] sz) := by
  refine Met.ofW (cc := cX7_isPart) (maxL := 2) (ret := (some .boolean)) (by decide) rfl ?_
  intro p e s m args below meth c s₁ B hml hv
  obtain ⟨rfl, hsz, hP, hK, hD0, hNW⟩ := hv
  have hx := B.exec
  have hb := B.bytes
  have hr := B.returns
  have hts := atoms_spec (ws := wsX7_isPart) B.pre
  have hown : s.vm.findClass RX7 = some m.cls := findClass_of_methodNamed B.named
  have hlocks := B.notSynchronized
  subst hsz
  have hD := hD0.self (sz := s.heap.size)
  generalize hAe : va_A [(h_p0, .inr (7, [.ref h_p0_now, .ref h_p0_then, .ref h_p0_past, .int v_kept, .ref h_p0_text, .int v_typed, .int v_thrown, .int v_at, .int v_isFault, .ref h_p0_told, .int v_tolds, .int v_one, .int v_other, .int v_change, .int v_woken])), (h_p0_text, .inl (cyI, 60, .inl v_text)), (h_p0_told, .inl (cyI, 48, .inl v_told))] s.heap.size = A at hD ⊢
  have hA : ∀ q : Nat, s.heap.size ≤ q → A q := fun q h => by rw [← hAe]; exact Or.inr h
  have hS : va_S A s.heap s.heap [] := va_S.rf
  have hP : va_P (dC, dI) vwCl [(h_p0, .inr (7, [.ref h_p0_now, .ref h_p0_then, .ref h_p0_past, .int v_kept, .ref h_p0_text, .int v_typed, .int v_thrown, .int v_at, .int v_isFault, .ref h_p0_told, .int v_tolds, .int v_one, .int v_other, .int v_change, .int v_woken])), (h_p0_text, .inl (cyI, 60, .inl v_text)), (h_p0_told, .inl (cyI, 48, .inl v_told))] s.heap := hP
  have hl := lv_entry ([.ref h_p0]) (n := 2) (Nat.le_of_ble_eq_true rfl)
  rw [lg_entry_eq]
  generalize (lg_sl ([.ref h_p0]) ++ List.replicate (2 - (lg_sl ([.ref h_p0])).length) Slot.unset).toArray = ls at hl ⊢
  have hl : lv_has ls 2 [(0, .ref h_p0)] := hl
  unfold s_X7_isPart at h
  refine lv_aload_n hx hb dX7_isPart_0 rfl (lv_at hl 0 rfl) ?_
  refine lv_bipush (v := iI 48) hx hb dX7_isPart_1 (by decide) ?_
  refine lv_bipush (v := iI 56) hx hb dX7_isPart_3 (by decide) ?_
  obtain ⟨r1, e2, h⟩ := bsome h
  have hPc := sb_P [(h_p0, .inr (7, [.ref h_p0_now, .ref h_p0_then, .ref h_p0_past, .int v_kept, .ref h_p0_text, .int v_typed, .int v_thrown, .int v_at, .int v_isFault, .ref h_p0_told, .int v_tolds, .int v_one, .int v_other, .int v_change, .int v_woken])), (h_p0_text, .inl (cyI, 60, .inl v_text))] hP [0, 1] rfl
  have hDc := sb_D [(h_p0, .inr (7, [.ref h_p0_now, .ref h_p0_then, .ref h_p0_past, .int v_kept, .ref h_p0_text, .int v_typed, .int v_thrown, .int v_at, .int v_isFault, .ref h_p0_told, .int v_tolds, .int v_one, .int v_other, .int v_change, .int v_woken])), (h_p0_text, .inl (cyI, 60, .inl v_text))] hD [0, 1] (by decide) rfl
  have hFc := va_free (wc := [(h_p0, .inr (7, [.ref h_p0_now, .ref h_p0_then, .ref h_p0_past, .int v_kept, .ref h_p0_text, .int v_typed, .int v_thrown, .int v_at, .int v_isFault, .ref h_p0_told, .int v_tolds, .int v_one, .int v_other, .int v_change, .int v_woken])), (h_p0_text, .inl (cyI, 60, .inl v_text))]) hD hS hA [0, 1] rfl
  refine va_calli (va_runV (As := [.int (iI 48), .int (iI 56)]) (rest := []) ⟨hx, hb, hml, hown, hts⟩ (c_X7_isAt l dC dI cyI cyJ cyT h_p0 h_p0_now h_p0_then h_p0_past h_p0_text h_p0_told s.heap.size v_kept v_typed v_thrown v_at v_isFault v_tolds v_one v_other v_change v_woken v_text (iI 48) (iI 56) r1 e2) (cwV 2 hts gX7_isPart_X7_isAt rfl rfl rfl (by decide +kernel) ⟨Nat.le_of_ble_eq_true rfl, Nat.le_of_ble_eq_true rfl⟩) ⟨PRE.blind, va_recv hK hPc (ci := 7) (q0 := 0) rfl rfl, PRE.go hK hPc hDc hNW⟩ rfl rfl hl.1 rfl (lv_room (Nat.le_of_ble_eq_true rfl)) dX7_isPart_5 ⟨Nat.zero_le _, Nat.zero_le _⟩) hS (fun q _ h => hFc q h) hFc (fun z3 u t H locs ht hvm hw hB hz1 hk1 hS => ?_)
  subst z3
  obtain ⟨hP, hD⟩ := va_join (wr := [(h_p0_told, .inl (cyI, 48, .inl v_told))]) (w1 := [(h_p0, .inr (7, [.ref h_p0_now, .ref h_p0_then, .ref h_p0_past, .int v_kept, .ref h_p0_text, .int v_typed, .int v_thrown, .int v_at, .int v_isFault, .ref h_p0_told, .int v_tolds, .int v_one, .int v_other, .int v_change, .int v_woken])), (h_p0_text, .inl (cyI, 60, .inl v_text))]) hP hD [0, 1] [2] rfl rfl (by decide) (by decide) hk1 hFc (WLD.P hB ht) hB.2
  have hP : va_P (dC, dI) vwCl [(h_p0_told, .inl (cyI, 48, .inl v_told)), (h_p0, .inr (7, [.ref h_p0_now, .ref h_p0_then, .ref h_p0_past, .int v_kept, .ref h_p0_text, .int v_typed, .int v_thrown, .int v_at, .int v_isFault, .ref h_p0_told, .int v_tolds, .int v_one, .int v_other, .int v_change, .int v_woken])), (h_p0_text, .inl (cyI, 60, .inl v_text))] H := hP
  have hD : va_D A [(h_p0_told, .inl (cyI, 48, .inl v_told)), (h_p0, .inr (7, [.ref h_p0_now, .ref h_p0_then, .ref h_p0_past, .int v_kept, .ref h_p0_text, .int v_typed, .int v_thrown, .int v_at, .int v_isFault, .ref h_p0_told, .int v_tolds, .int v_one, .int v_other, .int v_change, .int v_woken])), (h_p0_text, .inl (cyI, 60, .inl v_text))] := hD
  refine lv_if_ne (tgt := 16) hx hb dX7_isPart_8 (by decide) (fun c4 => ?_) (fun c4 => ?_)
  · have h := ineg c4 h
    refine lv_aload_n hx hb dX7_isPart_16 rfl (lv_at hl 0 rfl) ?_
    refine va_get (D := (dC, dI)) (ci := 7) (v := .ref h_p0_text) (C := RX7) (T := TX7) (N := 15) hx hb hts m_X7_isPart_0 hown hK hP 1 rfl rfl 4 (by decide) (hts (.fieldLink RX7 19 "SleeperBerthsModel" "text" "[I") m_X7_isPart_1) (fun _ h9 => h9) rfl dX7_isPart_17 ?_
    refine lv_aload_n hx hb dX7_isPart_20 rfl (lv_at hl 0 rfl) ?_
    refine va_get (D := (dC, dI)) (ci := 7) (v := .int v_at) (C := RX7) (T := TX7) (N := 15) hx hb hts m_X7_isPart_0 hown hK hP 1 rfl rfl 7 (by decide) (hts (.fieldLink RX7 142 "SleeperBerthsModel" "at" "I") m_X7_isPart_2) (fun _ h9 => h9) rfl dX7_isPart_21 ?_
    obtain ⟨g5, h⟩ := gsome h
    refine va_iald (D := (dC, dI)) hx hb hK hP 2 0 rfl rfl g5 dX7_isPart_24 ?_
    refine lv_istore_n hx hb dX7_isPart_25 rfl hl (by decide) (rfl : _ = ([(1, .int (v_text v_at.toNatClampNeg)), (0, .ref h_p0)] : List (Nat × Value))) (fun ls hl => ?_)
    refine lv_aload_n hx hb dX7_isPart_26 rfl (lv_at hl 1 rfl) ?_
    refine lv_dup hx hb dX7_isPart_27 rfl ?_
    refine va_get (D := (dC, dI)) (ci := 7) (v := .int v_at) (C := RX7) (T := TX7) (N := 15) hx hb hts m_X7_isPart_0 hown hK hP 1 rfl rfl 7 (by decide) (hts (.fieldLink RX7 142 "SleeperBerthsModel" "at" "I") m_X7_isPart_2) (fun _ h9 => h9) rfl dX7_isPart_28 ?_
    refine lv_iconst (v := iI 1) hx hb dX7_isPart_31 rfl ?_
    refine lv_iadd hx hb dX7_isPart_32 ?_
    refine va_put (D := (dC, dI)) (ci := 7) (v := .int (v_at + iI 1)) (ty := .int) (C := RX7) (T := TX7) (N := 15) hx hb hts m_X7_isPart_0 tyX7 tyX7_ok nmX7 hown hK hP hD hS 1 rfl rfl 7 (by decide) (hts (.fieldLink RX7 142 "SleeperBerthsModel" "at" "I") m_X7_isPart_2) (fun _ h9 => h9) rfl (by decide +kernel) rfl rfl (Nat.le_of_ble_eq_true rfl) dX7_isPart_33 (fun H locs hP hD hS => ?_)
    have hP : va_P (dC, dI) vwCl [(h_p0_told, .inl (cyI, 48, .inl v_told)), (h_p0, .inr (7, [.ref h_p0_now, .ref h_p0_then, .ref h_p0_past, .int v_kept, .ref h_p0_text, .int v_typed, .int v_thrown, .int (v_at + iI 1), .int v_isFault, .ref h_p0_told, .int v_tolds, .int v_one, .int v_other, .int v_change, .int v_woken])), (h_p0_text, .inl (cyI, 60, .inl v_text))] H := hP
    have hD : va_D A [(h_p0_told, .inl (cyI, 48, .inl v_told)), (h_p0, .inr (7, [.ref h_p0_now, .ref h_p0_then, .ref h_p0_past, .int v_kept, .ref h_p0_text, .int v_typed, .int v_thrown, .int (v_at + iI 1), .int v_isFault, .ref h_p0_told, .int v_tolds, .int v_one, .int v_other, .int v_change, .int v_woken])), (h_p0_text, .inl (cyI, 60, .inl v_text))] := hD
    refine lv_aload_n hx hb dX7_isPart_36 rfl (lv_at hl 1 rfl) ?_
    refine lv_bipush (v := iI 45) hx hb dX7_isPart_37 (by decide) ?_
    refine lv_bipush (v := iI 45) hx hb dX7_isPart_39 (by decide) ?_
    obtain ⟨r6, e7, h⟩ := bsome h
    have hPc := sb_P [(h_p0, .inr (7, [.ref h_p0_now, .ref h_p0_then, .ref h_p0_past, .int v_kept, .ref h_p0_text, .int v_typed, .int v_thrown, .int (v_at + iI 1), .int v_isFault, .ref h_p0_told, .int v_tolds, .int v_one, .int v_other, .int v_change, .int v_woken])), (h_p0_text, .inl (cyI, 60, .inl v_text))] hP [1, 2] rfl
    have hDc := sb_D [(h_p0, .inr (7, [.ref h_p0_now, .ref h_p0_then, .ref h_p0_past, .int v_kept, .ref h_p0_text, .int v_typed, .int v_thrown, .int (v_at + iI 1), .int v_isFault, .ref h_p0_told, .int v_tolds, .int v_one, .int v_other, .int v_change, .int v_woken])), (h_p0_text, .inl (cyI, 60, .inl v_text))] hD [1, 2] (by decide) rfl
    have hFc := va_free (wc := [(h_p0, .inr (7, [.ref h_p0_now, .ref h_p0_then, .ref h_p0_past, .int v_kept, .ref h_p0_text, .int v_typed, .int v_thrown, .int (v_at + iI 1), .int v_isFault, .ref h_p0_told, .int v_tolds, .int v_one, .int v_other, .int v_change, .int v_woken])), (h_p0_text, .inl (cyI, 60, .inl v_text))]) hD hS hA [1, 2] rfl
    refine va_calli (va_runV (As := [.int (iI 45), .int (iI 45)]) (rest := []) ⟨hx, hb, hml, hown, hts⟩ (c_X7_isAt l dC dI cyI cyJ cyT h_p0 h_p0_now h_p0_then h_p0_past h_p0_text h_p0_told H.size v_kept v_typed v_thrown (v_at + iI 1) v_isFault v_tolds v_one v_other v_change v_woken v_text (iI 45) (iI 45) r6 e7) (cwV 2 hts gX7_isPart_X7_isAt rfl rfl rfl (by decide +kernel) ⟨Nat.le_of_ble_eq_true rfl, Nat.le_of_ble_eq_true rfl⟩) ⟨PRE.blind, va_recv hK hPc (ci := 7) (q0 := 0) rfl rfl, PRE.go hK hPc hDc hNW⟩ rfl rfl hl.1 rfl (lv_room (Nat.le_of_ble_eq_true rfl)) dX7_isPart_41 ⟨Nat.zero_le _, Nat.zero_le _⟩) hS (fun q _ h => hFc q h) hFc (fun z8 u t H locs ht hvm hw hB hz1 hk1 hS => ?_)
    subst z8
    obtain ⟨hP, hD⟩ := va_join (wr := [(h_p0_told, .inl (cyI, 48, .inl v_told))]) (w1 := [(h_p0, .inr (7, [.ref h_p0_now, .ref h_p0_then, .ref h_p0_past, .int v_kept, .ref h_p0_text, .int v_typed, .int v_thrown, .int (v_at + iI 1), .int v_isFault, .ref h_p0_told, .int v_tolds, .int v_one, .int v_other, .int v_change, .int v_woken])), (h_p0_text, .inl (cyI, 60, .inl v_text))]) hP hD [1, 2] [0] rfl rfl (by decide) (by decide) hk1 hFc (WLD.P hB ht) hB.2
    have hP : va_P (dC, dI) vwCl [(h_p0_told, .inl (cyI, 48, .inl v_told)), (h_p0, .inr (7, [.ref h_p0_now, .ref h_p0_then, .ref h_p0_past, .int v_kept, .ref h_p0_text, .int v_typed, .int v_thrown, .int (v_at + iI 1), .int v_isFault, .ref h_p0_told, .int v_tolds, .int v_one, .int v_other, .int v_change, .int v_woken])), (h_p0_text, .inl (cyI, 60, .inl v_text))] H := hP
    have hD : va_D A [(h_p0_told, .inl (cyI, 48, .inl v_told)), (h_p0, .inr (7, [.ref h_p0_now, .ref h_p0_then, .ref h_p0_past, .int v_kept, .ref h_p0_text, .int v_typed, .int v_thrown, .int (v_at + iI 1), .int v_isFault, .ref h_p0_told, .int v_tolds, .int v_one, .int v_other, .int v_change, .int v_woken])), (h_p0_text, .inl (cyI, 60, .inl v_text))] := hD
    refine lv_if_ne (tgt := 52) hx hb dX7_isPart_44 (by decide) (fun c9 => ?_) (fun c9 => ?_)
    · have h := ineg c9 h
      refine lv_aload_n hx hb dX7_isPart_52 rfl (lv_at hl 1 rfl) ?_
      refine lv_dup hx hb dX7_isPart_53 rfl ?_
      refine va_get (D := (dC, dI)) (ci := 7) (v := .int (v_at + iI 1)) (C := RX7) (T := TX7) (N := 15) hx hb hts m_X7_isPart_0 hown hK hP 1 rfl rfl 7 (by decide) (hts (.fieldLink RX7 142 "SleeperBerthsModel" "at" "I") m_X7_isPart_2) (fun _ h9 => h9) rfl dX7_isPart_54 ?_
      refine lv_iconst (v := iI 1) hx hb dX7_isPart_57 rfl ?_
      refine lv_iadd hx hb dX7_isPart_58 ?_
      refine va_put (D := (dC, dI)) (ci := 7) (v := .int ((v_at + iI 1) + iI 1)) (ty := .int) (C := RX7) (T := TX7) (N := 15) hx hb hts m_X7_isPart_0 tyX7 tyX7_ok nmX7 hown hK hP hD hS 1 rfl rfl 7 (by decide) (hts (.fieldLink RX7 142 "SleeperBerthsModel" "at" "I") m_X7_isPart_2) (fun _ h9 => h9) rfl (by decide +kernel) rfl rfl (Nat.le_of_ble_eq_true rfl) dX7_isPart_59 (fun H locs hP hD hS => ?_)
      have hP : va_P (dC, dI) vwCl [(h_p0_told, .inl (cyI, 48, .inl v_told)), (h_p0, .inr (7, [.ref h_p0_now, .ref h_p0_then, .ref h_p0_past, .int v_kept, .ref h_p0_text, .int v_typed, .int v_thrown, .int ((v_at + iI 1) + iI 1), .int v_isFault, .ref h_p0_told, .int v_tolds, .int v_one, .int v_other, .int v_change, .int v_woken])), (h_p0_text, .inl (cyI, 60, .inl v_text))] H := hP
      have hD : va_D A [(h_p0_told, .inl (cyI, 48, .inl v_told)), (h_p0, .inr (7, [.ref h_p0_now, .ref h_p0_then, .ref h_p0_past, .int v_kept, .ref h_p0_text, .int v_typed, .int v_thrown, .int ((v_at + iI 1) + iI 1), .int v_isFault, .ref h_p0_told, .int v_tolds, .int v_one, .int v_other, .int v_change, .int v_woken])), (h_p0_text, .inl (cyI, 60, .inl v_text))] := hD
      refine lv_aload_n hx hb dX7_isPart_62 rfl (lv_at hl 1 rfl) ?_
      refine lv_iload_n hx hb dX7_isPart_63 rfl (lv_at hl 0 rfl) ?_
      refine lv_iconst (v := iI 1) hx hb dX7_isPart_64 rfl ?_
      refine lv_iadd hx hb dX7_isPart_65 ?_
      refine lv_bipush (v := iI 57) hx hb dX7_isPart_66 (by decide) ?_
      obtain ⟨r10, e11, h⟩ := bsome h
      have hPc := sb_P [(h_p0, .inr (7, [.ref h_p0_now, .ref h_p0_then, .ref h_p0_past, .int v_kept, .ref h_p0_text, .int v_typed, .int v_thrown, .int ((v_at + iI 1) + iI 1), .int v_isFault, .ref h_p0_told, .int v_tolds, .int v_one, .int v_other, .int v_change, .int v_woken])), (h_p0_text, .inl (cyI, 60, .inl v_text))] hP [1, 2] rfl
      have hDc := sb_D [(h_p0, .inr (7, [.ref h_p0_now, .ref h_p0_then, .ref h_p0_past, .int v_kept, .ref h_p0_text, .int v_typed, .int v_thrown, .int ((v_at + iI 1) + iI 1), .int v_isFault, .ref h_p0_told, .int v_tolds, .int v_one, .int v_other, .int v_change, .int v_woken])), (h_p0_text, .inl (cyI, 60, .inl v_text))] hD [1, 2] (by decide) rfl
      have hFc := va_free (wc := [(h_p0, .inr (7, [.ref h_p0_now, .ref h_p0_then, .ref h_p0_past, .int v_kept, .ref h_p0_text, .int v_typed, .int v_thrown, .int ((v_at + iI 1) + iI 1), .int v_isFault, .ref h_p0_told, .int v_tolds, .int v_one, .int v_other, .int v_change, .int v_woken])), (h_p0_text, .inl (cyI, 60, .inl v_text))]) hD hS hA [1, 2] rfl
      refine va_calli (va_runV (As := [.int ((v_text v_at.toNatClampNeg) + iI 1), .int (iI 57)]) (rest := []) ⟨hx, hb, hml, hown, hts⟩ (c_X7_isAt l dC dI cyI cyJ cyT h_p0 h_p0_now h_p0_then h_p0_past h_p0_text h_p0_told H.size v_kept v_typed v_thrown ((v_at + iI 1) + iI 1) v_isFault v_tolds v_one v_other v_change v_woken v_text ((v_text v_at.toNatClampNeg) + iI 1) (iI 57) r10 e11) (cwV 2 hts gX7_isPart_X7_isAt rfl rfl rfl (by decide +kernel) ⟨Nat.le_of_ble_eq_true rfl, Nat.le_of_ble_eq_true rfl⟩) ⟨PRE.blind, va_recv hK hPc (ci := 7) (q0 := 0) rfl rfl, PRE.go hK hPc hDc hNW⟩ rfl rfl hl.1 rfl (lv_room (Nat.le_of_ble_eq_true rfl)) dX7_isPart_68 ⟨Nat.zero_le _, Nat.zero_le _⟩) hS (fun q _ h => hFc q h) hFc (fun z12 u t H locs ht hvm hw hB hz1 hk1 hS => ?_)
      subst z12
      obtain ⟨hP, hD⟩ := va_join (wr := [(h_p0_told, .inl (cyI, 48, .inl v_told))]) (w1 := [(h_p0, .inr (7, [.ref h_p0_now, .ref h_p0_then, .ref h_p0_past, .int v_kept, .ref h_p0_text, .int v_typed, .int v_thrown, .int ((v_at + iI 1) + iI 1), .int v_isFault, .ref h_p0_told, .int v_tolds, .int v_one, .int v_other, .int v_change, .int v_woken])), (h_p0_text, .inl (cyI, 60, .inl v_text))]) hP hD [1, 2] [0] rfl rfl (by decide) (by decide) hk1 hFc (WLD.P hB ht) hB.2
      have hP : va_P (dC, dI) vwCl [(h_p0_told, .inl (cyI, 48, .inl v_told)), (h_p0, .inr (7, [.ref h_p0_now, .ref h_p0_then, .ref h_p0_past, .int v_kept, .ref h_p0_text, .int v_typed, .int v_thrown, .int ((v_at + iI 1) + iI 1), .int v_isFault, .ref h_p0_told, .int v_tolds, .int v_one, .int v_other, .int v_change, .int v_woken])), (h_p0_text, .inl (cyI, 60, .inl v_text))] H := hP
      have hD : va_D A [(h_p0_told, .inl (cyI, 48, .inl v_told)), (h_p0, .inr (7, [.ref h_p0_now, .ref h_p0_then, .ref h_p0_past, .int v_kept, .ref h_p0_text, .int v_typed, .int v_thrown, .int ((v_at + iI 1) + iI 1), .int v_isFault, .ref h_p0_told, .int v_tolds, .int v_one, .int v_other, .int v_change, .int v_woken])), (h_p0_text, .inl (cyI, 60, .inl v_text))] := hD
      refine lv_if_ne (tgt := 79) hx hb dX7_isPart_71 (by decide) (fun c13 => ?_) (fun c13 => ?_)
      · have h := ineg c13 h
        refine lv_aload_n hx hb dX7_isPart_79 rfl (lv_at hl 1 rfl) ?_
        refine va_get (D := (dC, dI)) (ci := 7) (v := .ref h_p0_told) (C := RX7) (T := TX7) (N := 15) hx hb hts m_X7_isPart_0 hown hK hP 1 rfl rfl 9 (by decide) (hts (.fieldLink RX7 22 "SleeperBerthsModel" "told" "[I") m_X7_isPart_3) (fun _ h9 => h9) rfl dX7_isPart_80 ?_
        refine lv_iconst (v := iI 3) hx hb dX7_isPart_83 rfl ?_
        refine lv_aload_n hx hb dX7_isPart_84 rfl (lv_at hl 1 rfl) ?_
        refine va_get (D := (dC, dI)) (ci := 7) (v := .int v_tolds) (C := RX7) (T := TX7) (N := 15) hx hb hts m_X7_isPart_0 hown hK hP 1 rfl rfl 10 (by decide) (hts (.fieldLink RX7 156 "SleeperBerthsModel" "tolds" "I") m_X7_isPart_4) (fun _ h9 => h9) rfl dX7_isPart_85 ?_
        refine lv_imul hx hb dX7_isPart_88 ?_
        refine lv_iload_n hx hb dX7_isPart_89 rfl (lv_at hl 0 rfl) ?_
        refine lv_bipush (v := iI 48) hx hb dX7_isPart_90 (by decide) ?_
        refine lv_isub hx hb dX7_isPart_92 ?_
        obtain ⟨g14, h⟩ := gsome h
        refine va_iast (D := (dC, dI)) hx hb hK hP hD hS 0 0 rfl rfl g14 dX7_isPart_93 (fun H locs hP hD hS => ?_)
        have hP : va_P (dC, dI) vwCl [(h_p0_told, .inl (cyI, 48, .inl (upd v_told (iI 3 * v_tolds).toNatClampNeg ((v_text v_at.toNatClampNeg) - iI 48)))), (h_p0, .inr (7, [.ref h_p0_now, .ref h_p0_then, .ref h_p0_past, .int v_kept, .ref h_p0_text, .int v_typed, .int v_thrown, .int ((v_at + iI 1) + iI 1), .int v_isFault, .ref h_p0_told, .int v_tolds, .int v_one, .int v_other, .int v_change, .int v_woken])), (h_p0_text, .inl (cyI, 60, .inl v_text))] H := hP
        have hD : va_D A [(h_p0_told, .inl (cyI, 48, .inl (upd v_told (iI 3 * v_tolds).toNatClampNeg ((v_text v_at.toNatClampNeg) - iI 48)))), (h_p0, .inr (7, [.ref h_p0_now, .ref h_p0_then, .ref h_p0_past, .int v_kept, .ref h_p0_text, .int v_typed, .int v_thrown, .int ((v_at + iI 1) + iI 1), .int v_isFault, .ref h_p0_told, .int v_tolds, .int v_one, .int v_other, .int v_change, .int v_woken])), (h_p0_text, .inl (cyI, 60, .inl v_text))] := hD
        refine lv_aload_n hx hb dX7_isPart_94 rfl (lv_at hl 1 rfl) ?_
        refine va_get (D := (dC, dI)) (ci := 7) (v := .ref h_p0_told) (C := RX7) (T := TX7) (N := 15) hx hb hts m_X7_isPart_0 hown hK hP 1 rfl rfl 9 (by decide) (hts (.fieldLink RX7 22 "SleeperBerthsModel" "told" "[I") m_X7_isPart_3) (fun _ h9 => h9) rfl dX7_isPart_95 ?_
        refine lv_iconst (v := iI 3) hx hb dX7_isPart_98 rfl ?_
        refine lv_aload_n hx hb dX7_isPart_99 rfl (lv_at hl 1 rfl) ?_
        refine va_get (D := (dC, dI)) (ci := 7) (v := .int v_tolds) (C := RX7) (T := TX7) (N := 15) hx hb hts m_X7_isPart_0 hown hK hP 1 rfl rfl 10 (by decide) (hts (.fieldLink RX7 156 "SleeperBerthsModel" "tolds" "I") m_X7_isPart_4) (fun _ h9 => h9) rfl dX7_isPart_100 ?_
        refine lv_imul hx hb dX7_isPart_103 ?_
        refine lv_iconst (v := iI 1) hx hb dX7_isPart_104 rfl ?_
        refine lv_iadd hx hb dX7_isPart_105 ?_
        refine lv_aload_n hx hb dX7_isPart_106 rfl (lv_at hl 1 rfl) ?_
        refine va_get (D := (dC, dI)) (ci := 7) (v := .ref h_p0_text) (C := RX7) (T := TX7) (N := 15) hx hb hts m_X7_isPart_0 hown hK hP 1 rfl rfl 4 (by decide) (hts (.fieldLink RX7 19 "SleeperBerthsModel" "text" "[I") m_X7_isPart_1) (fun _ h9 => h9) rfl dX7_isPart_107 ?_
        refine lv_aload_n hx hb dX7_isPart_110 rfl (lv_at hl 1 rfl) ?_
        refine va_get (D := (dC, dI)) (ci := 7) (v := .int ((v_at + iI 1) + iI 1)) (C := RX7) (T := TX7) (N := 15) hx hb hts m_X7_isPart_0 hown hK hP 1 rfl rfl 7 (by decide) (hts (.fieldLink RX7 142 "SleeperBerthsModel" "at" "I") m_X7_isPart_2) (fun _ h9 => h9) rfl dX7_isPart_111 ?_
        obtain ⟨g15, h⟩ := gsome h
        refine va_iald (D := (dC, dI)) hx hb hK hP 2 0 rfl rfl g15 dX7_isPart_114 ?_
        refine lv_bipush (v := iI 48) hx hb dX7_isPart_115 (by decide) ?_
        refine lv_isub hx hb dX7_isPart_117 ?_
        obtain ⟨g16, h⟩ := gsome h
        refine va_iast (D := (dC, dI)) hx hb hK hP hD hS 0 0 rfl rfl g16 dX7_isPart_118 (fun H locs hP hD hS => ?_)
        have hP : va_P (dC, dI) vwCl [(h_p0_told, .inl (cyI, 48, .inl (upd (upd v_told (iI 3 * v_tolds).toNatClampNeg ((v_text v_at.toNatClampNeg) - iI 48)) ((iI 3 * v_tolds) + iI 1).toNatClampNeg ((v_text ((v_at + iI 1) + iI 1).toNatClampNeg) - iI 48)))), (h_p0, .inr (7, [.ref h_p0_now, .ref h_p0_then, .ref h_p0_past, .int v_kept, .ref h_p0_text, .int v_typed, .int v_thrown, .int ((v_at + iI 1) + iI 1), .int v_isFault, .ref h_p0_told, .int v_tolds, .int v_one, .int v_other, .int v_change, .int v_woken])), (h_p0_text, .inl (cyI, 60, .inl v_text))] H := hP
        have hD : va_D A [(h_p0_told, .inl (cyI, 48, .inl (upd (upd v_told (iI 3 * v_tolds).toNatClampNeg ((v_text v_at.toNatClampNeg) - iI 48)) ((iI 3 * v_tolds) + iI 1).toNatClampNeg ((v_text ((v_at + iI 1) + iI 1).toNatClampNeg) - iI 48)))), (h_p0, .inr (7, [.ref h_p0_now, .ref h_p0_then, .ref h_p0_past, .int v_kept, .ref h_p0_text, .int v_typed, .int v_thrown, .int ((v_at + iI 1) + iI 1), .int v_isFault, .ref h_p0_told, .int v_tolds, .int v_one, .int v_other, .int v_change, .int v_woken])), (h_p0_text, .inl (cyI, 60, .inl v_text))] := hD
        refine lv_aload_n hx hb dX7_isPart_119 rfl (lv_at hl 1 rfl) ?_
        refine lv_dup hx hb dX7_isPart_120 rfl ?_
        refine va_get (D := (dC, dI)) (ci := 7) (v := .int ((v_at + iI 1) + iI 1)) (C := RX7) (T := TX7) (N := 15) hx hb hts m_X7_isPart_0 hown hK hP 1 rfl rfl 7 (by decide) (hts (.fieldLink RX7 142 "SleeperBerthsModel" "at" "I") m_X7_isPart_2) (fun _ h9 => h9) rfl dX7_isPart_121 ?_
        refine lv_iconst (v := iI 1) hx hb dX7_isPart_124 rfl ?_
        refine lv_iadd hx hb dX7_isPart_125 ?_
        refine va_put (D := (dC, dI)) (ci := 7) (v := .int (((v_at + iI 1) + iI 1) + iI 1)) (ty := .int) (C := RX7) (T := TX7) (N := 15) hx hb hts m_X7_isPart_0 tyX7 tyX7_ok nmX7 hown hK hP hD hS 1 rfl rfl 7 (by decide) (hts (.fieldLink RX7 142 "SleeperBerthsModel" "at" "I") m_X7_isPart_2) (fun _ h9 => h9) rfl (by decide +kernel) rfl rfl (Nat.le_of_ble_eq_true rfl) dX7_isPart_126 (fun H locs hP hD hS => ?_)
        have hP : va_P (dC, dI) vwCl [(h_p0_told, .inl (cyI, 48, .inl (upd (upd v_told (iI 3 * v_tolds).toNatClampNeg ((v_text v_at.toNatClampNeg) - iI 48)) ((iI 3 * v_tolds) + iI 1).toNatClampNeg ((v_text ((v_at + iI 1) + iI 1).toNatClampNeg) - iI 48)))), (h_p0, .inr (7, [.ref h_p0_now, .ref h_p0_then, .ref h_p0_past, .int v_kept, .ref h_p0_text, .int v_typed, .int v_thrown, .int (((v_at + iI 1) + iI 1) + iI 1), .int v_isFault, .ref h_p0_told, .int v_tolds, .int v_one, .int v_other, .int v_change, .int v_woken])), (h_p0_text, .inl (cyI, 60, .inl v_text))] H := hP
        have hD : va_D A [(h_p0_told, .inl (cyI, 48, .inl (upd (upd v_told (iI 3 * v_tolds).toNatClampNeg ((v_text v_at.toNatClampNeg) - iI 48)) ((iI 3 * v_tolds) + iI 1).toNatClampNeg ((v_text ((v_at + iI 1) + iI 1).toNatClampNeg) - iI 48)))), (h_p0, .inr (7, [.ref h_p0_now, .ref h_p0_then, .ref h_p0_past, .int v_kept, .ref h_p0_text, .int v_typed, .int v_thrown, .int (((v_at + iI 1) + iI 1) + iI 1), .int v_isFault, .ref h_p0_told, .int v_tolds, .int v_one, .int v_other, .int v_change, .int v_woken])), (h_p0_text, .inl (cyI, 60, .inl v_text))] := hD
        refine lv_aload_n hx hb dX7_isPart_129 rfl (lv_at hl 1 rfl) ?_
        refine va_get (D := (dC, dI)) (ci := 7) (v := .ref h_p0_told) (C := RX7) (T := TX7) (N := 15) hx hb hts m_X7_isPart_0 hown hK hP 1 rfl rfl 9 (by decide) (hts (.fieldLink RX7 22 "SleeperBerthsModel" "told" "[I") m_X7_isPart_3) (fun _ h9 => h9) rfl dX7_isPart_130 ?_
        refine lv_iconst (v := iI 3) hx hb dX7_isPart_133 rfl ?_
        refine lv_aload_n hx hb dX7_isPart_134 rfl (lv_at hl 1 rfl) ?_
        refine va_get (D := (dC, dI)) (ci := 7) (v := .int v_tolds) (C := RX7) (T := TX7) (N := 15) hx hb hts m_X7_isPart_0 hown hK hP 1 rfl rfl 10 (by decide) (hts (.fieldLink RX7 156 "SleeperBerthsModel" "tolds" "I") m_X7_isPart_4) (fun _ h9 => h9) rfl dX7_isPart_135 ?_
        refine lv_imul hx hb dX7_isPart_138 ?_
        refine lv_iconst (v := iI 2) hx hb dX7_isPart_139 rfl ?_
        refine lv_iadd hx hb dX7_isPart_140 ?_
        refine lv_aload_n hx hb dX7_isPart_141 rfl (lv_at hl 1 rfl) ?_
        refine lv_bipush (v := iI 33) hx hb dX7_isPart_142 (by decide) ?_
        refine lv_bipush (v := iI 33) hx hb dX7_isPart_144 (by decide) ?_
        obtain ⟨r17, e18, h⟩ := bsome h
        have hPc := sb_P [(h_p0, .inr (7, [.ref h_p0_now, .ref h_p0_then, .ref h_p0_past, .int v_kept, .ref h_p0_text, .int v_typed, .int v_thrown, .int (((v_at + iI 1) + iI 1) + iI 1), .int v_isFault, .ref h_p0_told, .int v_tolds, .int v_one, .int v_other, .int v_change, .int v_woken])), (h_p0_text, .inl (cyI, 60, .inl v_text))] hP [1, 2] rfl
        have hDc := sb_D [(h_p0, .inr (7, [.ref h_p0_now, .ref h_p0_then, .ref h_p0_past, .int v_kept, .ref h_p0_text, .int v_typed, .int v_thrown, .int (((v_at + iI 1) + iI 1) + iI 1), .int v_isFault, .ref h_p0_told, .int v_tolds, .int v_one, .int v_other, .int v_change, .int v_woken])), (h_p0_text, .inl (cyI, 60, .inl v_text))] hD [1, 2] (by decide) rfl
        have hFc := va_free (wc := [(h_p0, .inr (7, [.ref h_p0_now, .ref h_p0_then, .ref h_p0_past, .int v_kept, .ref h_p0_text, .int v_typed, .int v_thrown, .int (((v_at + iI 1) + iI 1) + iI 1), .int v_isFault, .ref h_p0_told, .int v_tolds, .int v_one, .int v_other, .int v_change, .int v_woken])), (h_p0_text, .inl (cyI, 60, .inl v_text))]) hD hS hA [1, 2] rfl
        refine va_calli (va_runV (As := [.int (iI 33), .int (iI 33)]) (rest := [.int ((iI 3 * v_tolds) + iI 2), .ref h_p0_told]) ⟨hx, hb, hml, hown, hts⟩ (c_X7_isAt l dC dI cyI cyJ cyT h_p0 h_p0_now h_p0_then h_p0_past h_p0_text h_p0_told H.size v_kept v_typed v_thrown (((v_at + iI 1) + iI 1) + iI 1) v_isFault v_tolds v_one v_other v_change v_woken v_text (iI 33) (iI 33) r17 e18) (cwV 2 hts gX7_isPart_X7_isAt rfl rfl rfl (by decide +kernel) ⟨Nat.le_of_ble_eq_true rfl, Nat.le_of_ble_eq_true rfl⟩) ⟨PRE.blind, va_recv hK hPc (ci := 7) (q0 := 0) rfl rfl, PRE.go hK hPc hDc hNW⟩ rfl rfl hl.1 rfl (lv_room (Nat.le_of_ble_eq_true rfl)) dX7_isPart_146 ⟨Nat.zero_le _, Nat.zero_le _⟩) hS (fun q _ h => hFc q h) hFc (fun z19 u t H locs ht hvm hw hB hz1 hk1 hS => ?_)
        subst z19
        obtain ⟨hP, hD⟩ := va_join (wr := [(h_p0_told, .inl (cyI, 48, .inl (upd (upd v_told (iI 3 * v_tolds).toNatClampNeg ((v_text v_at.toNatClampNeg) - iI 48)) ((iI 3 * v_tolds) + iI 1).toNatClampNeg ((v_text ((v_at + iI 1) + iI 1).toNatClampNeg) - iI 48))))]) (w1 := [(h_p0, .inr (7, [.ref h_p0_now, .ref h_p0_then, .ref h_p0_past, .int v_kept, .ref h_p0_text, .int v_typed, .int v_thrown, .int (((v_at + iI 1) + iI 1) + iI 1), .int v_isFault, .ref h_p0_told, .int v_tolds, .int v_one, .int v_other, .int v_change, .int v_woken])), (h_p0_text, .inl (cyI, 60, .inl v_text))]) hP hD [1, 2] [0] rfl rfl (by decide) (by decide) hk1 hFc (WLD.P hB ht) hB.2
        have hP : va_P (dC, dI) vwCl [(h_p0_told, .inl (cyI, 48, .inl (upd (upd v_told (iI 3 * v_tolds).toNatClampNeg ((v_text v_at.toNatClampNeg) - iI 48)) ((iI 3 * v_tolds) + iI 1).toNatClampNeg ((v_text ((v_at + iI 1) + iI 1).toNatClampNeg) - iI 48)))), (h_p0, .inr (7, [.ref h_p0_now, .ref h_p0_then, .ref h_p0_past, .int v_kept, .ref h_p0_text, .int v_typed, .int v_thrown, .int (((v_at + iI 1) + iI 1) + iI 1), .int v_isFault, .ref h_p0_told, .int v_tolds, .int v_one, .int v_other, .int v_change, .int v_woken])), (h_p0_text, .inl (cyI, 60, .inl v_text))] H := hP
        have hD : va_D A [(h_p0_told, .inl (cyI, 48, .inl (upd (upd v_told (iI 3 * v_tolds).toNatClampNeg ((v_text v_at.toNatClampNeg) - iI 48)) ((iI 3 * v_tolds) + iI 1).toNatClampNeg ((v_text ((v_at + iI 1) + iI 1).toNatClampNeg) - iI 48)))), (h_p0, .inr (7, [.ref h_p0_now, .ref h_p0_then, .ref h_p0_past, .int v_kept, .ref h_p0_text, .int v_typed, .int v_thrown, .int (((v_at + iI 1) + iI 1) + iI 1), .int v_isFault, .ref h_p0_told, .int v_tolds, .int v_one, .int v_other, .int v_change, .int v_woken])), (h_p0_text, .inl (cyI, 60, .inl v_text))] := hD
        refine lv_if_eq (tgt := 156) hx hb dX7_isPart_149 (by decide) (fun c20 => ?_) (fun c20 => ?_)
        · have h := ipos c20 h
          refine lv_iconst (v := iI 0) hx hb dX7_isPart_156 rfl ?_
          obtain ⟨g21, h⟩ := gsome h
          refine va_iast (D := (dC, dI)) hx hb hK hP hD hS 0 0 rfl rfl g21 dX7_isPart_157 (fun H locs hP hD hS => ?_)
          have hP : va_P (dC, dI) vwCl [(h_p0_told, .inl (cyI, 48, .inl (upd (upd (upd v_told (iI 3 * v_tolds).toNatClampNeg ((v_text v_at.toNatClampNeg) - iI 48)) ((iI 3 * v_tolds) + iI 1).toNatClampNeg ((v_text ((v_at + iI 1) + iI 1).toNatClampNeg) - iI 48)) ((iI 3 * v_tolds) + iI 2).toNatClampNeg (iI 0)))), (h_p0, .inr (7, [.ref h_p0_now, .ref h_p0_then, .ref h_p0_past, .int v_kept, .ref h_p0_text, .int v_typed, .int v_thrown, .int (((v_at + iI 1) + iI 1) + iI 1), .int v_isFault, .ref h_p0_told, .int v_tolds, .int v_one, .int v_other, .int v_change, .int v_woken])), (h_p0_text, .inl (cyI, 60, .inl v_text))] H := hP
          have hD : va_D A [(h_p0_told, .inl (cyI, 48, .inl (upd (upd (upd v_told (iI 3 * v_tolds).toNatClampNeg ((v_text v_at.toNatClampNeg) - iI 48)) ((iI 3 * v_tolds) + iI 1).toNatClampNeg ((v_text ((v_at + iI 1) + iI 1).toNatClampNeg) - iI 48)) ((iI 3 * v_tolds) + iI 2).toNatClampNeg (iI 0)))), (h_p0, .inr (7, [.ref h_p0_now, .ref h_p0_then, .ref h_p0_past, .int v_kept, .ref h_p0_text, .int v_typed, .int v_thrown, .int (((v_at + iI 1) + iI 1) + iI 1), .int v_isFault, .ref h_p0_told, .int v_tolds, .int v_one, .int v_other, .int v_change, .int v_woken])), (h_p0_text, .inl (cyI, 60, .inl v_text))] := hD
          refine lv_aload_n hx hb dX7_isPart_158 rfl (lv_at hl 1 rfl) ?_
          refine lv_dup hx hb dX7_isPart_159 rfl ?_
          refine va_get (D := (dC, dI)) (ci := 7) (v := .int (((v_at + iI 1) + iI 1) + iI 1)) (C := RX7) (T := TX7) (N := 15) hx hb hts m_X7_isPart_0 hown hK hP 1 rfl rfl 7 (by decide) (hts (.fieldLink RX7 142 "SleeperBerthsModel" "at" "I") m_X7_isPart_2) (fun _ h9 => h9) rfl dX7_isPart_160 ?_
          refine lv_aload_n hx hb dX7_isPart_163 rfl (lv_at hl 1 rfl) ?_
          refine va_get (D := (dC, dI)) (ci := 7) (v := .ref h_p0_told) (C := RX7) (T := TX7) (N := 15) hx hb hts m_X7_isPart_0 hown hK hP 1 rfl rfl 9 (by decide) (hts (.fieldLink RX7 22 "SleeperBerthsModel" "told" "[I") m_X7_isPart_3) (fun _ h9 => h9) rfl dX7_isPart_164 ?_
          refine lv_iconst (v := iI 3) hx hb dX7_isPart_167 rfl ?_
          refine lv_aload_n hx hb dX7_isPart_168 rfl (lv_at hl 1 rfl) ?_
          refine va_get (D := (dC, dI)) (ci := 7) (v := .int v_tolds) (C := RX7) (T := TX7) (N := 15) hx hb hts m_X7_isPart_0 hown hK hP 1 rfl rfl 10 (by decide) (hts (.fieldLink RX7 156 "SleeperBerthsModel" "tolds" "I") m_X7_isPart_4) (fun _ h9 => h9) rfl dX7_isPart_169 ?_
          refine lv_imul hx hb dX7_isPart_172 ?_
          refine lv_iconst (v := iI 2) hx hb dX7_isPart_173 rfl ?_
          refine lv_iadd hx hb dX7_isPart_174 ?_
          obtain ⟨g22, h⟩ := gsome h
          refine va_iald (D := (dC, dI)) hx hb hK hP 0 0 rfl rfl g22 dX7_isPart_175 ?_
          refine lv_iadd hx hb dX7_isPart_176 ?_
          refine va_put (D := (dC, dI)) (ci := 7) (v := .int ((((v_at + iI 1) + iI 1) + iI 1) + ((upd (upd (upd v_told (iI 3 * v_tolds).toNatClampNeg ((v_text v_at.toNatClampNeg) - iI 48)) ((iI 3 * v_tolds) + iI 1).toNatClampNeg ((v_text ((v_at + iI 1) + iI 1).toNatClampNeg) - iI 48)) ((iI 3 * v_tolds) + iI 2).toNatClampNeg (iI 0)) ((iI 3 * v_tolds) + iI 2).toNatClampNeg))) (ty := .int) (C := RX7) (T := TX7) (N := 15) hx hb hts m_X7_isPart_0 tyX7 tyX7_ok nmX7 hown hK hP hD hS 1 rfl rfl 7 (by decide) (hts (.fieldLink RX7 142 "SleeperBerthsModel" "at" "I") m_X7_isPart_2) (fun _ h9 => h9) rfl (by decide +kernel) rfl rfl (Nat.le_of_ble_eq_true rfl) dX7_isPart_177 (fun H locs hP hD hS => ?_)
          have hP : va_P (dC, dI) vwCl [(h_p0_told, .inl (cyI, 48, .inl (upd (upd (upd v_told (iI 3 * v_tolds).toNatClampNeg ((v_text v_at.toNatClampNeg) - iI 48)) ((iI 3 * v_tolds) + iI 1).toNatClampNeg ((v_text ((v_at + iI 1) + iI 1).toNatClampNeg) - iI 48)) ((iI 3 * v_tolds) + iI 2).toNatClampNeg (iI 0)))), (h_p0, .inr (7, [.ref h_p0_now, .ref h_p0_then, .ref h_p0_past, .int v_kept, .ref h_p0_text, .int v_typed, .int v_thrown, .int ((((v_at + iI 1) + iI 1) + iI 1) + ((upd (upd (upd v_told (iI 3 * v_tolds).toNatClampNeg ((v_text v_at.toNatClampNeg) - iI 48)) ((iI 3 * v_tolds) + iI 1).toNatClampNeg ((v_text ((v_at + iI 1) + iI 1).toNatClampNeg) - iI 48)) ((iI 3 * v_tolds) + iI 2).toNatClampNeg (iI 0)) ((iI 3 * v_tolds) + iI 2).toNatClampNeg)), .int v_isFault, .ref h_p0_told, .int v_tolds, .int v_one, .int v_other, .int v_change, .int v_woken])), (h_p0_text, .inl (cyI, 60, .inl v_text))] H := hP
          have hD : va_D A [(h_p0_told, .inl (cyI, 48, .inl (upd (upd (upd v_told (iI 3 * v_tolds).toNatClampNeg ((v_text v_at.toNatClampNeg) - iI 48)) ((iI 3 * v_tolds) + iI 1).toNatClampNeg ((v_text ((v_at + iI 1) + iI 1).toNatClampNeg) - iI 48)) ((iI 3 * v_tolds) + iI 2).toNatClampNeg (iI 0)))), (h_p0, .inr (7, [.ref h_p0_now, .ref h_p0_then, .ref h_p0_past, .int v_kept, .ref h_p0_text, .int v_typed, .int v_thrown, .int ((((v_at + iI 1) + iI 1) + iI 1) + ((upd (upd (upd v_told (iI 3 * v_tolds).toNatClampNeg ((v_text v_at.toNatClampNeg) - iI 48)) ((iI 3 * v_tolds) + iI 1).toNatClampNeg ((v_text ((v_at + iI 1) + iI 1).toNatClampNeg) - iI 48)) ((iI 3 * v_tolds) + iI 2).toNatClampNeg (iI 0)) ((iI 3 * v_tolds) + iI 2).toNatClampNeg)), .int v_isFault, .ref h_p0_told, .int v_tolds, .int v_one, .int v_other, .int v_change, .int v_woken])), (h_p0_text, .inl (cyI, 60, .inl v_text))] := hD
          refine lv_iconst (v := iI 1) hx hb dX7_isPart_180 rfl ?_
          obtain rfl := Option.some.inj h
          exact W.zret (v := iI 1) hx hb hr (by decide) (fun t ht hW => ⟨⟨iI 1, (), rfl, rfl, WLD.of ht (sb_P [(h_p0, .inr (7, [.ref h_p0_now, .ref h_p0_then, .ref h_p0_past, .int v_kept, .ref h_p0_text, .int v_typed, .int v_thrown, .int ((((v_at + iI 1) + iI 1) + iI 1) + ((upd (upd (upd v_told (iI 3 * v_tolds).toNatClampNeg ((v_text v_at.toNatClampNeg) - iI 48)) ((iI 3 * v_tolds) + iI 1).toNatClampNeg ((v_text ((v_at + iI 1) + iI 1).toNatClampNeg) - iI 48)) ((iI 3 * v_tolds) + iI 2).toNatClampNeg (iI 0)) ((iI 3 * v_tolds) + iI 2).toNatClampNeg)), .int v_isFault, .ref h_p0_told, .int v_tolds, .int v_one, .int v_other, .int v_change, .int v_woken])), (h_p0_text, .inl (cyI, 60, .inl v_text)), (h_p0_told, .inl (cyI, 48, .inl (upd (upd (upd v_told (iI 3 * v_tolds).toNatClampNeg ((v_text v_at.toNatClampNeg) - iI 48)) ((iI 3 * v_tolds) + iI 1).toNatClampNeg ((v_text ((v_at + iI 1) + iI 1).toNatClampNeg) - iI 48)) ((iI 3 * v_tolds) + iI 2).toNatClampNeg (iI 0))))] hP [1, 2, 0] rfl) (sb_D [(h_p0, .inr (7, [.ref h_p0_now, .ref h_p0_then, .ref h_p0_past, .int v_kept, .ref h_p0_text, .int v_typed, .int v_thrown, .int ((((v_at + iI 1) + iI 1) + iI 1) + ((upd (upd (upd v_told (iI 3 * v_tolds).toNatClampNeg ((v_text v_at.toNatClampNeg) - iI 48)) ((iI 3 * v_tolds) + iI 1).toNatClampNeg ((v_text ((v_at + iI 1) + iI 1).toNatClampNeg) - iI 48)) ((iI 3 * v_tolds) + iI 2).toNatClampNeg (iI 0)) ((iI 3 * v_tolds) + iI 2).toNatClampNeg)), .int v_isFault, .ref h_p0_told, .int v_tolds, .int v_one, .int v_other, .int v_change, .int v_woken])), (h_p0_text, .inl (cyI, 60, .inl v_text)), (h_p0_told, .inl (cyI, 48, .inl (upd (upd (upd v_told (iI 3 * v_tolds).toNatClampNeg ((v_text v_at.toNatClampNeg) - iI 48)) ((iI 3 * v_tolds) + iI 1).toNatClampNeg ((v_text ((v_at + iI 1) + iI 1).toNatClampNeg) - iI 48)) ((iI 3 * v_tolds) + iI 2).toNatClampNeg (iI 0))))] hD [1, 2, 0] (by decide) rfl)⟩, hS.F ht⟩) hS.2.2 dX7_isPart_181
        · have h := ineg c20 h
          refine lv_iconst (v := iI 1) hx hb dX7_isPart_152 rfl ?_
          refine lv_goto (tgt := 157) hx hb dX7_isPart_153 (by decide) ?_
          obtain ⟨g23, h⟩ := gsome h
          refine va_iast (D := (dC, dI)) hx hb hK hP hD hS 0 0 rfl rfl g23 dX7_isPart_157 (fun H locs hP hD hS => ?_)
          have hP : va_P (dC, dI) vwCl [(h_p0_told, .inl (cyI, 48, .inl (upd (upd (upd v_told (iI 3 * v_tolds).toNatClampNeg ((v_text v_at.toNatClampNeg) - iI 48)) ((iI 3 * v_tolds) + iI 1).toNatClampNeg ((v_text ((v_at + iI 1) + iI 1).toNatClampNeg) - iI 48)) ((iI 3 * v_tolds) + iI 2).toNatClampNeg (iI 1)))), (h_p0, .inr (7, [.ref h_p0_now, .ref h_p0_then, .ref h_p0_past, .int v_kept, .ref h_p0_text, .int v_typed, .int v_thrown, .int (((v_at + iI 1) + iI 1) + iI 1), .int v_isFault, .ref h_p0_told, .int v_tolds, .int v_one, .int v_other, .int v_change, .int v_woken])), (h_p0_text, .inl (cyI, 60, .inl v_text))] H := hP
          have hD : va_D A [(h_p0_told, .inl (cyI, 48, .inl (upd (upd (upd v_told (iI 3 * v_tolds).toNatClampNeg ((v_text v_at.toNatClampNeg) - iI 48)) ((iI 3 * v_tolds) + iI 1).toNatClampNeg ((v_text ((v_at + iI 1) + iI 1).toNatClampNeg) - iI 48)) ((iI 3 * v_tolds) + iI 2).toNatClampNeg (iI 1)))), (h_p0, .inr (7, [.ref h_p0_now, .ref h_p0_then, .ref h_p0_past, .int v_kept, .ref h_p0_text, .int v_typed, .int v_thrown, .int (((v_at + iI 1) + iI 1) + iI 1), .int v_isFault, .ref h_p0_told, .int v_tolds, .int v_one, .int v_other, .int v_change, .int v_woken])), (h_p0_text, .inl (cyI, 60, .inl v_text))] := hD
          refine lv_aload_n hx hb dX7_isPart_158 rfl (lv_at hl 1 rfl) ?_
          refine lv_dup hx hb dX7_isPart_159 rfl ?_
          refine va_get (D := (dC, dI)) (ci := 7) (v := .int (((v_at + iI 1) + iI 1) + iI 1)) (C := RX7) (T := TX7) (N := 15) hx hb hts m_X7_isPart_0 hown hK hP 1 rfl rfl 7 (by decide) (hts (.fieldLink RX7 142 "SleeperBerthsModel" "at" "I") m_X7_isPart_2) (fun _ h9 => h9) rfl dX7_isPart_160 ?_
          refine lv_aload_n hx hb dX7_isPart_163 rfl (lv_at hl 1 rfl) ?_
          refine va_get (D := (dC, dI)) (ci := 7) (v := .ref h_p0_told) (C := RX7) (T := TX7) (N := 15) hx hb hts m_X7_isPart_0 hown hK hP 1 rfl rfl 9 (by decide) (hts (.fieldLink RX7 22 "SleeperBerthsModel" "told" "[I") m_X7_isPart_3) (fun _ h9 => h9) rfl dX7_isPart_164 ?_
          refine lv_iconst (v := iI 3) hx hb dX7_isPart_167 rfl ?_
          refine lv_aload_n hx hb dX7_isPart_168 rfl (lv_at hl 1 rfl) ?_
          refine va_get (D := (dC, dI)) (ci := 7) (v := .int v_tolds) (C := RX7) (T := TX7) (N := 15) hx hb hts m_X7_isPart_0 hown hK hP 1 rfl rfl 10 (by decide) (hts (.fieldLink RX7 156 "SleeperBerthsModel" "tolds" "I") m_X7_isPart_4) (fun _ h9 => h9) rfl dX7_isPart_169 ?_
          refine lv_imul hx hb dX7_isPart_172 ?_
          refine lv_iconst (v := iI 2) hx hb dX7_isPart_173 rfl ?_
          refine lv_iadd hx hb dX7_isPart_174 ?_
          obtain ⟨g24, h⟩ := gsome h
          refine va_iald (D := (dC, dI)) hx hb hK hP 0 0 rfl rfl g24 dX7_isPart_175 ?_
          refine lv_iadd hx hb dX7_isPart_176 ?_
          refine va_put (D := (dC, dI)) (ci := 7) (v := .int ((((v_at + iI 1) + iI 1) + iI 1) + ((upd (upd (upd v_told (iI 3 * v_tolds).toNatClampNeg ((v_text v_at.toNatClampNeg) - iI 48)) ((iI 3 * v_tolds) + iI 1).toNatClampNeg ((v_text ((v_at + iI 1) + iI 1).toNatClampNeg) - iI 48)) ((iI 3 * v_tolds) + iI 2).toNatClampNeg (iI 1)) ((iI 3 * v_tolds) + iI 2).toNatClampNeg))) (ty := .int) (C := RX7) (T := TX7) (N := 15) hx hb hts m_X7_isPart_0 tyX7 tyX7_ok nmX7 hown hK hP hD hS 1 rfl rfl 7 (by decide) (hts (.fieldLink RX7 142 "SleeperBerthsModel" "at" "I") m_X7_isPart_2) (fun _ h9 => h9) rfl (by decide +kernel) rfl rfl (Nat.le_of_ble_eq_true rfl) dX7_isPart_177 (fun H locs hP hD hS => ?_)
          have hP : va_P (dC, dI) vwCl [(h_p0_told, .inl (cyI, 48, .inl (upd (upd (upd v_told (iI 3 * v_tolds).toNatClampNeg ((v_text v_at.toNatClampNeg) - iI 48)) ((iI 3 * v_tolds) + iI 1).toNatClampNeg ((v_text ((v_at + iI 1) + iI 1).toNatClampNeg) - iI 48)) ((iI 3 * v_tolds) + iI 2).toNatClampNeg (iI 1)))), (h_p0, .inr (7, [.ref h_p0_now, .ref h_p0_then, .ref h_p0_past, .int v_kept, .ref h_p0_text, .int v_typed, .int v_thrown, .int ((((v_at + iI 1) + iI 1) + iI 1) + ((upd (upd (upd v_told (iI 3 * v_tolds).toNatClampNeg ((v_text v_at.toNatClampNeg) - iI 48)) ((iI 3 * v_tolds) + iI 1).toNatClampNeg ((v_text ((v_at + iI 1) + iI 1).toNatClampNeg) - iI 48)) ((iI 3 * v_tolds) + iI 2).toNatClampNeg (iI 1)) ((iI 3 * v_tolds) + iI 2).toNatClampNeg)), .int v_isFault, .ref h_p0_told, .int v_tolds, .int v_one, .int v_other, .int v_change, .int v_woken])), (h_p0_text, .inl (cyI, 60, .inl v_text))] H := hP
          have hD : va_D A [(h_p0_told, .inl (cyI, 48, .inl (upd (upd (upd v_told (iI 3 * v_tolds).toNatClampNeg ((v_text v_at.toNatClampNeg) - iI 48)) ((iI 3 * v_tolds) + iI 1).toNatClampNeg ((v_text ((v_at + iI 1) + iI 1).toNatClampNeg) - iI 48)) ((iI 3 * v_tolds) + iI 2).toNatClampNeg (iI 1)))), (h_p0, .inr (7, [.ref h_p0_now, .ref h_p0_then, .ref h_p0_past, .int v_kept, .ref h_p0_text, .int v_typed, .int v_thrown, .int ((((v_at + iI 1) + iI 1) + iI 1) + ((upd (upd (upd v_told (iI 3 * v_tolds).toNatClampNeg ((v_text v_at.toNatClampNeg) - iI 48)) ((iI 3 * v_tolds) + iI 1).toNatClampNeg ((v_text ((v_at + iI 1) + iI 1).toNatClampNeg) - iI 48)) ((iI 3 * v_tolds) + iI 2).toNatClampNeg (iI 1)) ((iI 3 * v_tolds) + iI 2).toNatClampNeg)), .int v_isFault, .ref h_p0_told, .int v_tolds, .int v_one, .int v_other, .int v_change, .int v_woken])), (h_p0_text, .inl (cyI, 60, .inl v_text))] := hD
          refine lv_iconst (v := iI 1) hx hb dX7_isPart_180 rfl ?_
          obtain rfl := Option.some.inj h
          exact W.zret (v := iI 1) hx hb hr (by decide) (fun t ht hW => ⟨⟨iI 1, (), rfl, rfl, WLD.of ht (sb_P [(h_p0, .inr (7, [.ref h_p0_now, .ref h_p0_then, .ref h_p0_past, .int v_kept, .ref h_p0_text, .int v_typed, .int v_thrown, .int ((((v_at + iI 1) + iI 1) + iI 1) + ((upd (upd (upd v_told (iI 3 * v_tolds).toNatClampNeg ((v_text v_at.toNatClampNeg) - iI 48)) ((iI 3 * v_tolds) + iI 1).toNatClampNeg ((v_text ((v_at + iI 1) + iI 1).toNatClampNeg) - iI 48)) ((iI 3 * v_tolds) + iI 2).toNatClampNeg (iI 1)) ((iI 3 * v_tolds) + iI 2).toNatClampNeg)), .int v_isFault, .ref h_p0_told, .int v_tolds, .int v_one, .int v_other, .int v_change, .int v_woken])), (h_p0_text, .inl (cyI, 60, .inl v_text)), (h_p0_told, .inl (cyI, 48, .inl (upd (upd (upd v_told (iI 3 * v_tolds).toNatClampNeg ((v_text v_at.toNatClampNeg) - iI 48)) ((iI 3 * v_tolds) + iI 1).toNatClampNeg ((v_text ((v_at + iI 1) + iI 1).toNatClampNeg) - iI 48)) ((iI 3 * v_tolds) + iI 2).toNatClampNeg (iI 1))))] hP [1, 2, 0] rfl) (sb_D [(h_p0, .inr (7, [.ref h_p0_now, .ref h_p0_then, .ref h_p0_past, .int v_kept, .ref h_p0_text, .int v_typed, .int v_thrown, .int ((((v_at + iI 1) + iI 1) + iI 1) + ((upd (upd (upd v_told (iI 3 * v_tolds).toNatClampNeg ((v_text v_at.toNatClampNeg) - iI 48)) ((iI 3 * v_tolds) + iI 1).toNatClampNeg ((v_text ((v_at + iI 1) + iI 1).toNatClampNeg) - iI 48)) ((iI 3 * v_tolds) + iI 2).toNatClampNeg (iI 1)) ((iI 3 * v_tolds) + iI 2).toNatClampNeg)), .int v_isFault, .ref h_p0_told, .int v_tolds, .int v_one, .int v_other, .int v_change, .int v_woken])), (h_p0_text, .inl (cyI, 60, .inl v_text)), (h_p0_told, .inl (cyI, 48, .inl (upd (upd (upd v_told (iI 3 * v_tolds).toNatClampNeg ((v_text v_at.toNatClampNeg) - iI 48)) ((iI 3 * v_tolds) + iI 1).toNatClampNeg ((v_text ((v_at + iI 1) + iI 1).toNatClampNeg) - iI 48)) ((iI 3 * v_tolds) + iI 2).toNatClampNeg (iI 1))))] hD [1, 2, 0] (by decide) rfl)⟩, hS.F ht⟩) hS.2.2 dX7_isPart_181
      · have h := ipos c13 h
        refine lv_aload_n hx hb dX7_isPart_74 rfl (lv_at hl 1 rfl) ?_
        obtain ⟨r25, e26, h⟩ := bsome h
        have hPc := sb_P [(h_p0, .inr (7, [.ref h_p0_now, .ref h_p0_then, .ref h_p0_past, .int v_kept, .ref h_p0_text, .int v_typed, .int v_thrown, .int ((v_at + iI 1) + iI 1), .int v_isFault, .ref h_p0_told, .int v_tolds, .int v_one, .int v_other, .int v_change, .int v_woken]))] hP [1] rfl
        have hDc := sb_D [(h_p0, .inr (7, [.ref h_p0_now, .ref h_p0_then, .ref h_p0_past, .int v_kept, .ref h_p0_text, .int v_typed, .int v_thrown, .int ((v_at + iI 1) + iI 1), .int v_isFault, .ref h_p0_told, .int v_tolds, .int v_one, .int v_other, .int v_change, .int v_woken]))] hD [1] (by decide) rfl
        have hFc := va_free (wc := [(h_p0, .inr (7, [.ref h_p0_now, .ref h_p0_then, .ref h_p0_past, .int v_kept, .ref h_p0_text, .int v_typed, .int v_thrown, .int ((v_at + iI 1) + iI 1), .int v_isFault, .ref h_p0_told, .int v_tolds, .int v_one, .int v_other, .int v_change, .int v_woken]))]) hD hS hA [1] rfl
        refine va_calli (va_runV (As := []) (rest := []) ⟨hx, hb, hml, hown, hts⟩ (c_X7_stops l dC dI cyI cyJ cyT h_p0 h_p0_now h_p0_then h_p0_past h_p0_text h_p0_told H.size v_kept v_typed v_thrown ((v_at + iI 1) + iI 1) v_isFault v_tolds v_one v_other v_change v_woken r25 e26) (cwV 0 hts gX7_isPart_X7_stops rfl rfl rfl (by decide +kernel) ⟨Nat.le_of_ble_eq_true rfl, Nat.le_of_ble_eq_true rfl⟩) ⟨PRE.blind, va_recv hK hPc (ci := 7) (q0 := 0) rfl rfl, PRE.go hK hPc hDc hNW⟩ rfl rfl hl.1 rfl (lv_room (Nat.le_of_ble_eq_true rfl)) dX7_isPart_75 ⟨Nat.zero_le _, Nat.zero_le _⟩) hS (fun q _ h => hFc q h) hFc (fun z27 u t H locs ht hvm hw hB hz1 hk1 hS => ?_)
        subst z27
        obtain ⟨hP, hD⟩ := va_join (wr := [(h_p0_told, .inl (cyI, 48, .inl v_told)), (h_p0_text, .inl (cyI, 60, .inl v_text))]) (w1 := [(h_p0, .inr (7, [.ref h_p0_now, .ref h_p0_then, .ref h_p0_past, .int v_kept, .ref h_p0_text, .int v_typed, .int v_thrown, .int ((v_at + iI 1) + iI 1), .int r25.2, .ref h_p0_told, .int v_tolds, .int v_one, .int v_other, .int v_change, .int v_woken]))]) hP hD [1] [0, 2] rfl rfl (by decide) (by decide) hk1 hFc (WLD.P hB ht) hB.2
        have hP : va_P (dC, dI) vwCl [(h_p0_told, .inl (cyI, 48, .inl v_told)), (h_p0_text, .inl (cyI, 60, .inl v_text)), (h_p0, .inr (7, [.ref h_p0_now, .ref h_p0_then, .ref h_p0_past, .int v_kept, .ref h_p0_text, .int v_typed, .int v_thrown, .int ((v_at + iI 1) + iI 1), .int r25.2, .ref h_p0_told, .int v_tolds, .int v_one, .int v_other, .int v_change, .int v_woken]))] H := hP
        have hD : va_D A [(h_p0_told, .inl (cyI, 48, .inl v_told)), (h_p0_text, .inl (cyI, 60, .inl v_text)), (h_p0, .inr (7, [.ref h_p0_now, .ref h_p0_then, .ref h_p0_past, .int v_kept, .ref h_p0_text, .int v_typed, .int v_thrown, .int ((v_at + iI 1) + iI 1), .int r25.2, .ref h_p0_told, .int v_tolds, .int v_one, .int v_other, .int v_change, .int v_woken]))] := hD
        obtain ⟨g28, h⟩ := zsome h
        obtain rfl := Option.some.inj h
        exact W.zret (v := r25.1) hx hb hr (zb_nar g28) (fun t ht hW => ⟨⟨r25.1, (), rfl, rfl, WLD.of ht (sb_P [(h_p0, .inr (7, [.ref h_p0_now, .ref h_p0_then, .ref h_p0_past, .int v_kept, .ref h_p0_text, .int v_typed, .int v_thrown, .int ((v_at + iI 1) + iI 1), .int r25.2, .ref h_p0_told, .int v_tolds, .int v_one, .int v_other, .int v_change, .int v_woken])), (h_p0_text, .inl (cyI, 60, .inl v_text)), (h_p0_told, .inl (cyI, 48, .inl v_told))] hP [2, 1, 0] rfl) (sb_D [(h_p0, .inr (7, [.ref h_p0_now, .ref h_p0_then, .ref h_p0_past, .int v_kept, .ref h_p0_text, .int v_typed, .int v_thrown, .int ((v_at + iI 1) + iI 1), .int r25.2, .ref h_p0_told, .int v_tolds, .int v_one, .int v_other, .int v_change, .int v_woken])), (h_p0_text, .inl (cyI, 60, .inl v_text)), (h_p0_told, .inl (cyI, 48, .inl v_told))] hD [2, 1, 0] (by decide) rfl)⟩, hS.F ht⟩) hS.2.2 dX7_isPart_78
    · have h := ipos c9 h
      refine lv_aload_n hx hb dX7_isPart_47 rfl (lv_at hl 1 rfl) ?_
      obtain ⟨r29, e30, h⟩ := bsome h
      have hPc := sb_P [(h_p0, .inr (7, [.ref h_p0_now, .ref h_p0_then, .ref h_p0_past, .int v_kept, .ref h_p0_text, .int v_typed, .int v_thrown, .int (v_at + iI 1), .int v_isFault, .ref h_p0_told, .int v_tolds, .int v_one, .int v_other, .int v_change, .int v_woken]))] hP [1] rfl
      have hDc := sb_D [(h_p0, .inr (7, [.ref h_p0_now, .ref h_p0_then, .ref h_p0_past, .int v_kept, .ref h_p0_text, .int v_typed, .int v_thrown, .int (v_at + iI 1), .int v_isFault, .ref h_p0_told, .int v_tolds, .int v_one, .int v_other, .int v_change, .int v_woken]))] hD [1] (by decide) rfl
      have hFc := va_free (wc := [(h_p0, .inr (7, [.ref h_p0_now, .ref h_p0_then, .ref h_p0_past, .int v_kept, .ref h_p0_text, .int v_typed, .int v_thrown, .int (v_at + iI 1), .int v_isFault, .ref h_p0_told, .int v_tolds, .int v_one, .int v_other, .int v_change, .int v_woken]))]) hD hS hA [1] rfl
      refine va_calli (va_runV (As := []) (rest := []) ⟨hx, hb, hml, hown, hts⟩ (c_X7_stops l dC dI cyI cyJ cyT h_p0 h_p0_now h_p0_then h_p0_past h_p0_text h_p0_told H.size v_kept v_typed v_thrown (v_at + iI 1) v_isFault v_tolds v_one v_other v_change v_woken r29 e30) (cwV 0 hts gX7_isPart_X7_stops rfl rfl rfl (by decide +kernel) ⟨Nat.le_of_ble_eq_true rfl, Nat.le_of_ble_eq_true rfl⟩) ⟨PRE.blind, va_recv hK hPc (ci := 7) (q0 := 0) rfl rfl, PRE.go hK hPc hDc hNW⟩ rfl rfl hl.1 rfl (lv_room (Nat.le_of_ble_eq_true rfl)) dX7_isPart_48 ⟨Nat.zero_le _, Nat.zero_le _⟩) hS (fun q _ h => hFc q h) hFc (fun z31 u t H locs ht hvm hw hB hz1 hk1 hS => ?_)
      subst z31
      obtain ⟨hP, hD⟩ := va_join (wr := [(h_p0_told, .inl (cyI, 48, .inl v_told)), (h_p0_text, .inl (cyI, 60, .inl v_text))]) (w1 := [(h_p0, .inr (7, [.ref h_p0_now, .ref h_p0_then, .ref h_p0_past, .int v_kept, .ref h_p0_text, .int v_typed, .int v_thrown, .int (v_at + iI 1), .int r29.2, .ref h_p0_told, .int v_tolds, .int v_one, .int v_other, .int v_change, .int v_woken]))]) hP hD [1] [0, 2] rfl rfl (by decide) (by decide) hk1 hFc (WLD.P hB ht) hB.2
      have hP : va_P (dC, dI) vwCl [(h_p0_told, .inl (cyI, 48, .inl v_told)), (h_p0_text, .inl (cyI, 60, .inl v_text)), (h_p0, .inr (7, [.ref h_p0_now, .ref h_p0_then, .ref h_p0_past, .int v_kept, .ref h_p0_text, .int v_typed, .int v_thrown, .int (v_at + iI 1), .int r29.2, .ref h_p0_told, .int v_tolds, .int v_one, .int v_other, .int v_change, .int v_woken]))] H := hP
      have hD : va_D A [(h_p0_told, .inl (cyI, 48, .inl v_told)), (h_p0_text, .inl (cyI, 60, .inl v_text)), (h_p0, .inr (7, [.ref h_p0_now, .ref h_p0_then, .ref h_p0_past, .int v_kept, .ref h_p0_text, .int v_typed, .int v_thrown, .int (v_at + iI 1), .int r29.2, .ref h_p0_told, .int v_tolds, .int v_one, .int v_other, .int v_change, .int v_woken]))] := hD
      obtain ⟨g32, h⟩ := zsome h
      obtain rfl := Option.some.inj h
      exact W.zret (v := r29.1) hx hb hr (zb_nar g32) (fun t ht hW => ⟨⟨r29.1, (), rfl, rfl, WLD.of ht (sb_P [(h_p0, .inr (7, [.ref h_p0_now, .ref h_p0_then, .ref h_p0_past, .int v_kept, .ref h_p0_text, .int v_typed, .int v_thrown, .int (v_at + iI 1), .int r29.2, .ref h_p0_told, .int v_tolds, .int v_one, .int v_other, .int v_change, .int v_woken])), (h_p0_text, .inl (cyI, 60, .inl v_text)), (h_p0_told, .inl (cyI, 48, .inl v_told))] hP [2, 1, 0] rfl) (sb_D [(h_p0, .inr (7, [.ref h_p0_now, .ref h_p0_then, .ref h_p0_past, .int v_kept, .ref h_p0_text, .int v_typed, .int v_thrown, .int (v_at + iI 1), .int r29.2, .ref h_p0_told, .int v_tolds, .int v_one, .int v_other, .int v_change, .int v_woken])), (h_p0_text, .inl (cyI, 60, .inl v_text)), (h_p0_told, .inl (cyI, 48, .inl v_told))] hD [2, 1, 0] (by decide) rfl)⟩, hS.F ht⟩) hS.2.2 dX7_isPart_51
  · have h := ipos c4 h
    refine lv_aload_n hx hb dX7_isPart_11 rfl (lv_at hl 0 rfl) ?_
    obtain ⟨r33, e34, h⟩ := bsome h
    have hPc := sb_P [(h_p0, .inr (7, [.ref h_p0_now, .ref h_p0_then, .ref h_p0_past, .int v_kept, .ref h_p0_text, .int v_typed, .int v_thrown, .int v_at, .int v_isFault, .ref h_p0_told, .int v_tolds, .int v_one, .int v_other, .int v_change, .int v_woken]))] hP [1] rfl
    have hDc := sb_D [(h_p0, .inr (7, [.ref h_p0_now, .ref h_p0_then, .ref h_p0_past, .int v_kept, .ref h_p0_text, .int v_typed, .int v_thrown, .int v_at, .int v_isFault, .ref h_p0_told, .int v_tolds, .int v_one, .int v_other, .int v_change, .int v_woken]))] hD [1] (by decide) rfl
    have hFc := va_free (wc := [(h_p0, .inr (7, [.ref h_p0_now, .ref h_p0_then, .ref h_p0_past, .int v_kept, .ref h_p0_text, .int v_typed, .int v_thrown, .int v_at, .int v_isFault, .ref h_p0_told, .int v_tolds, .int v_one, .int v_other, .int v_change, .int v_woken]))]) hD hS hA [1] rfl
    refine va_calli (va_runV (As := []) (rest := []) ⟨hx, hb, hml, hown, hts⟩ (c_X7_stops l dC dI cyI cyJ cyT h_p0 h_p0_now h_p0_then h_p0_past h_p0_text h_p0_told H.size v_kept v_typed v_thrown v_at v_isFault v_tolds v_one v_other v_change v_woken r33 e34) (cwV 0 hts gX7_isPart_X7_stops rfl rfl rfl (by decide +kernel) ⟨Nat.le_of_ble_eq_true rfl, Nat.le_of_ble_eq_true rfl⟩) ⟨PRE.blind, va_recv hK hPc (ci := 7) (q0 := 0) rfl rfl, PRE.go hK hPc hDc hNW⟩ rfl rfl hl.1 rfl (lv_room (Nat.le_of_ble_eq_true rfl)) dX7_isPart_12 ⟨Nat.zero_le _, Nat.zero_le _⟩) hS (fun q _ h => hFc q h) hFc (fun z35 u t H locs ht hvm hw hB hz1 hk1 hS => ?_)
    subst z35
    obtain ⟨hP, hD⟩ := va_join (wr := [(h_p0_told, .inl (cyI, 48, .inl v_told)), (h_p0_text, .inl (cyI, 60, .inl v_text))]) (w1 := [(h_p0, .inr (7, [.ref h_p0_now, .ref h_p0_then, .ref h_p0_past, .int v_kept, .ref h_p0_text, .int v_typed, .int v_thrown, .int v_at, .int r33.2, .ref h_p0_told, .int v_tolds, .int v_one, .int v_other, .int v_change, .int v_woken]))]) hP hD [1] [0, 2] rfl rfl (by decide) (by decide) hk1 hFc (WLD.P hB ht) hB.2
    have hP : va_P (dC, dI) vwCl [(h_p0_told, .inl (cyI, 48, .inl v_told)), (h_p0_text, .inl (cyI, 60, .inl v_text)), (h_p0, .inr (7, [.ref h_p0_now, .ref h_p0_then, .ref h_p0_past, .int v_kept, .ref h_p0_text, .int v_typed, .int v_thrown, .int v_at, .int r33.2, .ref h_p0_told, .int v_tolds, .int v_one, .int v_other, .int v_change, .int v_woken]))] H := hP
    have hD : va_D A [(h_p0_told, .inl (cyI, 48, .inl v_told)), (h_p0_text, .inl (cyI, 60, .inl v_text)), (h_p0, .inr (7, [.ref h_p0_now, .ref h_p0_then, .ref h_p0_past, .int v_kept, .ref h_p0_text, .int v_typed, .int v_thrown, .int v_at, .int r33.2, .ref h_p0_told, .int v_tolds, .int v_one, .int v_other, .int v_change, .int v_woken]))] := hD
    obtain ⟨g36, h⟩ := zsome h
    obtain rfl := Option.some.inj h
    exact W.zret (v := r33.1) hx hb hr (zb_nar g36) (fun t ht hW => ⟨⟨r33.1, (), rfl, rfl, WLD.of ht (sb_P [(h_p0, .inr (7, [.ref h_p0_now, .ref h_p0_then, .ref h_p0_past, .int v_kept, .ref h_p0_text, .int v_typed, .int v_thrown, .int v_at, .int r33.2, .ref h_p0_told, .int v_tolds, .int v_one, .int v_other, .int v_change, .int v_woken])), (h_p0_text, .inl (cyI, 60, .inl v_text)), (h_p0_told, .inl (cyI, 48, .inl v_told))] hP [2, 1, 0] rfl) (sb_D [(h_p0, .inr (7, [.ref h_p0_now, .ref h_p0_then, .ref h_p0_past, .int v_kept, .ref h_p0_text, .int v_typed, .int v_thrown, .int v_at, .int r33.2, .ref h_p0_told, .int v_tolds, .int v_one, .int v_other, .int v_change, .int v_woken])), (h_p0_text, .inl (cyI, 60, .inl v_text)), (h_p0_told, .inl (cyI, 48, .inl v_told))] hD [2, 1, 0] (by decide) rfl)⟩, hS.F ht⟩) hS.2.2 dX7_isPart_15
def s_X7_isText_L17 (n : Nat) (v_typed : Int32) (v_text : Nat → Int32) : Nat → Int32 → Int32 → Int32 → (Nat → Int32) → Int32 → Option (Int32 × Int32 × Int32 × Int32 × (Nat → Int32))
  | 0, _, _, _, _, _ => none
  | k + 1, v_at, v_isFault, v_tolds, v_told, x1 => (if x1 = 0 then (if v_typed ≤ v_at then (if v_at = v_typed then (some (iI 1, v_at, iI 0, v_tolds, v_told)) else (some (iI 0, v_at, iI 0, v_tolds, v_told))) else (if v_at = v_typed then (some (iI 1, v_at, iI 1, v_tolds, v_told)) else (some (iI 0, v_at, iI 1, v_tolds, v_told)))) else ((s_X7_isPart v_typed v_at v_isFault v_tolds v_text v_told).bind fun r5 => (if r5.1 = 0 then (some (iI 0, r5.2.1, r5.2.2.1, v_tolds, r5.2.2.2)) else ((s_X7_isAt v_typed r5.2.1 v_text (iI 59) (iI 59)).bind fun r9 => (if r9 = 0 then (s_X7_isText_L17 n v_typed v_text k (r5.2.1 + iI 0) r5.2.2.1 (v_tolds + iI 1) r5.2.2.2 r9) else (s_X7_isText_L17 n v_typed v_text k (r5.2.1 + iI 1) r5.2.2.1 (v_tolds + iI 1) r5.2.2.2 r9))))))
def s_X7_isText (n : Nat) (v_typed : Int32) (v_at : Int32) (v_isFault : Int32) (v_tolds : Int32) (v_text : Nat → Int32) (v_told : Nat → Int32) : Option (Int32 × Int32 × Int32 × Int32 × (Nat → Int32)) := (s_X7_isText_L17 n v_typed v_text n (iI 0) (iI 0) (iI 0) v_told (iI 1))
set_option maxRecDepth 20000 in
theorem m_X7_isText_0 : ∀ w ∈ u_ws RX7 TX7 15, w ∈ wsX7_isText := by decide +kernel
set_option maxRecDepth 20000 in
theorem m_X7_isText_1 : (.fieldLink RX7 142 "SleeperBerthsModel" "at" "I" : Cond) ∈ wsX7_isText := by decide +kernel
set_option maxRecDepth 20000 in
theorem m_X7_isText_2 : (.fieldLink RX7 139 "SleeperBerthsModel" "typed" "I" : Cond) ∈ wsX7_isText := by decide +kernel
set_option maxRecDepth 20000 in
theorem m_X7_isText_3 : (.fieldLink RX7 145 "SleeperBerthsModel" "isFault" "Z" : Cond) ∈ wsX7_isText := by decide +kernel
set_option maxRecDepth 20000 in
theorem m_X7_isText_4 : (.fieldLink RX7 156 "SleeperBerthsModel" "tolds" "I" : Cond) ∈ wsX7_isText := by decide +kernel
set_option maxHeartbeats 4000000 in
set_option maxRecDepth 100000 in
theorem c_X7_isText (l : Launch) (dC : Nat → ClassId) (dI : Nat → Nat → Nat) (cyI cyJ cyT : ClassId) (h_p0 : Nat) (h_p0_now : Nat) (h_p0_then : Nat) (h_p0_past : Nat) (h_p0_text : Nat) (h_p0_told : Nat) (sz : Nat) (v_kept : Int32) (v_typed : Int32) (v_thrown : Int32) (v_at : Int32) (v_isFault : Int32) (v_tolds : Int32) (v_one : Int32) (v_other : Int32) (v_change : Int32) (v_woken : Int32) (v_text : Nat → Int32) (v_told : Nat → Int32) (n : Nat) (o : Int32 × Int32 × Int32 × Int32 × (Nat → Int32)) (h : s_X7_isText n v_typed v_at v_isFault v_tolds v_text v_told = some o) : Met l yX7_isText wsX7_isText ({ frames := 3, cells := 0, slots := 0, locals := 65 }) (va_Pc [.ref h_p0] (PRE (dC, dI) (TYS cyI cyJ cyT) sz [(h_p0, .inr (7, [.ref h_p0_now, .ref h_p0_then, .ref h_p0_past, .int v_kept, .ref h_p0_text, .int v_typed, .int v_thrown, .int v_at, .int v_isFault, .ref h_p0_told, .int v_tolds, .int v_one, .int v_other, .int v_change, .int v_woken])), (h_p0_text, .inl (cyI, 60, .inl v_text)), (h_p0_told, .inl (cyI, 48, .inl v_told))])) (va_Qi (S := Unit) (fun r _ => r = o.1) (fun _ t => WLD (dC, dI) (va_A [(h_p0, .inr (7, [.ref h_p0_now, .ref h_p0_then, .ref h_p0_past, .int v_kept, .ref h_p0_text, .int v_typed, .int v_thrown, .int v_at, .int v_isFault, .ref h_p0_told, .int v_tolds, .int v_one, .int v_other, .int v_change, .int v_woken])), (h_p0_text, .inl (cyI, 60, .inl v_text)), (h_p0_told, .inl (cyI, 48, .inl v_told))] sz) [(h_p0, .inr (7, [.ref h_p0_now, .ref h_p0_then, .ref h_p0_past, .int v_kept, .ref h_p0_text, .int v_typed, .int v_thrown, .int o.2.1, .int o.2.2.1, .ref h_p0_told, .int o.2.2.2.1, .int v_one, .int v_other, .int v_change, .int v_woken])), (h_p0_text, .inl (cyI, 60, .inl v_text)), (h_p0_told, .inl (cyI, 48, .inl o.2.2.2.2))] t) (va_A [(h_p0, .inr (7, [.ref h_p0_now, .ref h_p0_then, .ref h_p0_past, .int v_kept, .ref h_p0_text, .int v_typed, .int v_thrown, .int v_at, .int v_isFault, .ref h_p0_told, .int v_tolds, .int v_one, .int v_other, .int v_change, .int v_woken])), (h_p0_text, .inl (cyI, 60, .inl v_text)), (h_p0_told, .inl (cyI, 48, .inl v_told))] sz)) 0 0 (va_A [(h_p0, .inr (7, [.ref h_p0_now, .ref h_p0_then, .ref h_p0_past, .int v_kept, .ref h_p0_text, .int v_typed, .int v_thrown, .int v_at, .int v_isFault, .ref h_p0_told, .int v_tolds, .int v_one, .int v_other, .int v_change, .int v_woken])), (h_p0_text, .inl (cyI, 60, .inl v_text)), (h_p0_told, .inl (cyI, 48, .inl v_told))] sz) := by
  refine Met.ofW (cc := cX7_isText) (maxL := 2) (ret := (some .boolean)) (by decide) rfl ?_
  intro p e s m args below meth c s₁ B hml hv
  obtain ⟨rfl, hsz, hP, hK, hD0, hNW⟩ := hv
  have hx := B.exec
  have hb := B.bytes
  have hr := B.returns
  have hts := atoms_spec (ws := wsX7_isText) B.pre
  have hown : s.vm.findClass RX7 = some m.cls := findClass_of_methodNamed B.named
  have hlocks := B.notSynchronized
  subst hsz
  have hD := hD0.self (sz := s.heap.size)
  generalize hAe : va_A [(h_p0, .inr (7, [.ref h_p0_now, .ref h_p0_then, .ref h_p0_past, .int v_kept, .ref h_p0_text, .int v_typed, .int v_thrown, .int v_at, .int v_isFault, .ref h_p0_told, .int v_tolds, .int v_one, .int v_other, .int v_change, .int v_woken])), (h_p0_text, .inl (cyI, 60, .inl v_text)), (h_p0_told, .inl (cyI, 48, .inl v_told))] s.heap.size = A at hD ⊢
  have hA : ∀ q : Nat, s.heap.size ≤ q → A q := fun q h => by rw [← hAe]; exact Or.inr h
  have hS : va_S A s.heap s.heap [] := va_S.rf
  have hP : va_P (dC, dI) vwCl [(h_p0, .inr (7, [.ref h_p0_now, .ref h_p0_then, .ref h_p0_past, .int v_kept, .ref h_p0_text, .int v_typed, .int v_thrown, .int v_at, .int v_isFault, .ref h_p0_told, .int v_tolds, .int v_one, .int v_other, .int v_change, .int v_woken])), (h_p0_text, .inl (cyI, 60, .inl v_text)), (h_p0_told, .inl (cyI, 48, .inl v_told))] s.heap := hP
  have L17 : ∀ (k : Nat), (∀ (v_at : Int32) (v_isFault : Int32) (v_tolds : Int32) (v_told : Nat → Int32) (x1 : Int32) (H : Heap) (locs : List Loc), va_P (dC, dI) vwCl [(h_p0, .inr (7, [.ref h_p0_now, .ref h_p0_then, .ref h_p0_past, .int v_kept, .ref h_p0_text, .int v_typed, .int v_thrown, .int v_at, .int v_isFault, .ref h_p0_told, .int v_tolds, .int v_one, .int v_other, .int v_change, .int v_woken])), (h_p0_text, .inl (cyI, 60, .inl v_text)), (h_p0_told, .inl (cyI, 48, .inl v_told))] H → va_D A [(h_p0, .inr (7, [.ref h_p0_now, .ref h_p0_then, .ref h_p0_past, .int v_kept, .ref h_p0_text, .int v_typed, .int v_thrown, .int v_at, .int v_isFault, .ref h_p0_told, .int v_tolds, .int v_one, .int v_other, .int v_change, .int v_woken])), (h_p0_text, .inl (cyI, 60, .inl v_text)), (h_p0_told, .inl (cyI, 48, .inl v_told))] → va_S A s.heap H locs → ∀ (ls : Array Slot), lv_has ls 2 [(0, .ref h_p0), (1, .int x1)] →  s_X7_isText_L17 n v_typed v_text k v_at v_isFault v_tolds v_told x1 = some o → W p l e (headSpec wsX7_isText ({ frames := 3, cells := 0, slots := 0, locals := 65 })).room s m (([.ref h_p0] : List Value).toArray) below meth c H locs 0 0 (MQ below (va_Qi (S := Unit) (fun r _ => r = o.1) (fun _ t => WLD (dC, dI) A [(h_p0, .inr (7, [.ref h_p0_now, .ref h_p0_then, .ref h_p0_past, .int v_kept, .ref h_p0_text, .int v_typed, .int v_thrown, .int o.2.1, .int o.2.2.1, .ref h_p0_told, .int o.2.2.2.1, .int v_one, .int v_other, .int v_change, .int v_woken])), (h_p0_text, .inl (cyI, 60, .inl v_text)), (h_p0_told, .inl (cyI, 48, .inl o.2.2.2.2))] t) A) (([.ref h_p0] : List Value).toArray) s 0 0 A) (F0 m 17 ls [])) := by
    intro k
    induction k with
    | zero =>
      intro  v_at v_isFault v_tolds v_told x1 H locs hP hD hS ls hl h
      rw [s_X7_isText_L17] at h
      cases h
    | succ k ih =>
      intro  v_at v_isFault v_tolds v_told x1 H locs hP hD hS ls hl h
      rw [s_X7_isText_L17] at h
      refine lv_iload_n hx hb dX7_isText_17 rfl (lv_at hl 1 rfl) ?_
      refine lv_if_eq (tgt := 70) hx hb dX7_isText_18 (by decide) (fun c1 => ?_) (fun c1 => ?_)
      · have h := ipos c1 h
        refine lv_aload_n hx hb dX7_isText_70 rfl (lv_at hl 0 rfl) ?_
        refine lv_aload_n hx hb dX7_isText_71 rfl (lv_at hl 0 rfl) ?_
        refine va_get (D := (dC, dI)) (ci := 7) (v := .int v_at) (C := RX7) (T := TX7) (N := 15) hx hb hts m_X7_isText_0 hown hK hP 0 rfl rfl 7 (by decide) (hts (.fieldLink RX7 142 "SleeperBerthsModel" "at" "I") m_X7_isText_1) (fun _ h9 => h9) rfl dX7_isText_72 ?_
        refine lv_aload_n hx hb dX7_isText_75 rfl (lv_at hl 0 rfl) ?_
        refine va_get (D := (dC, dI)) (ci := 7) (v := .int v_typed) (C := RX7) (T := TX7) (N := 15) hx hb hts m_X7_isText_0 hown hK hP 0 rfl rfl 5 (by decide) (hts (.fieldLink RX7 139 "SleeperBerthsModel" "typed" "I") m_X7_isText_2) (fun _ h9 => h9) rfl dX7_isText_76 ?_
        refine lv_icmp_ge (tgt := 86) hx hb dX7_isText_79 (by decide) (fun c2 => ?_) (fun c2 => ?_)
        · have h := ipos c2 h
          refine lv_iconst (v := iI 0) hx hb dX7_isText_86 rfl ?_
          refine va_put (D := (dC, dI)) (ci := 7) (v := .int (iI 0)) (ty := .boolean) (C := RX7) (T := TX7) (N := 15) hx hb hts m_X7_isText_0 tyX7 tyX7_ok nmX7 hown hK hP hD hS 0 rfl rfl 8 (by decide) (hts (.fieldLink RX7 145 "SleeperBerthsModel" "isFault" "Z") m_X7_isText_3) (fun _ h9 => h9) rfl (by decide +kernel) (by decide) rfl (Nat.le_of_ble_eq_true rfl) dX7_isText_87 (fun H locs hP hD hS => ?_)
          have hP : va_P (dC, dI) vwCl [(h_p0, .inr (7, [.ref h_p0_now, .ref h_p0_then, .ref h_p0_past, .int v_kept, .ref h_p0_text, .int v_typed, .int v_thrown, .int v_at, .int (iI 0), .ref h_p0_told, .int v_tolds, .int v_one, .int v_other, .int v_change, .int v_woken])), (h_p0_text, .inl (cyI, 60, .inl v_text)), (h_p0_told, .inl (cyI, 48, .inl v_told))] H := hP
          have hD : va_D A [(h_p0, .inr (7, [.ref h_p0_now, .ref h_p0_then, .ref h_p0_past, .int v_kept, .ref h_p0_text, .int v_typed, .int v_thrown, .int v_at, .int (iI 0), .ref h_p0_told, .int v_tolds, .int v_one, .int v_other, .int v_change, .int v_woken])), (h_p0_text, .inl (cyI, 60, .inl v_text)), (h_p0_told, .inl (cyI, 48, .inl v_told))] := hD
          refine lv_aload_n hx hb dX7_isText_90 rfl (lv_at hl 0 rfl) ?_
          refine va_get (D := (dC, dI)) (ci := 7) (v := .int v_at) (C := RX7) (T := TX7) (N := 15) hx hb hts m_X7_isText_0 hown hK hP 0 rfl rfl 7 (by decide) (hts (.fieldLink RX7 142 "SleeperBerthsModel" "at" "I") m_X7_isText_1) (fun _ h9 => h9) rfl dX7_isText_91 ?_
          refine lv_aload_n hx hb dX7_isText_94 rfl (lv_at hl 0 rfl) ?_
          refine va_get (D := (dC, dI)) (ci := 7) (v := .int v_typed) (C := RX7) (T := TX7) (N := 15) hx hb hts m_X7_isText_0 hown hK hP 0 rfl rfl 5 (by decide) (hts (.fieldLink RX7 139 "SleeperBerthsModel" "typed" "I") m_X7_isText_2) (fun _ h9 => h9) rfl dX7_isText_95 ?_
          refine lv_icmp_ne (tgt := 105) hx hb dX7_isText_98 (by decide) (fun c3 => ?_) (fun c3 => ?_)
          · have h := ineg c3 h
            refine lv_iconst (v := iI 0) hx hb dX7_isText_105 rfl ?_
            obtain rfl := Option.some.inj h
            exact W.zret (v := iI 0) hx hb hr (by decide) (fun t ht hW => ⟨⟨iI 0, (), rfl, rfl, WLD.of ht hP hD⟩, hS.F ht⟩) hS.2.2 dX7_isText_106
          · have h := ipos c3 h
            refine lv_iconst (v := iI 1) hx hb dX7_isText_101 rfl ?_
            refine lv_goto (tgt := 106) hx hb dX7_isText_102 (by decide) ?_
            obtain rfl := Option.some.inj h
            exact W.zret (v := iI 1) hx hb hr (by decide) (fun t ht hW => ⟨⟨iI 1, (), rfl, rfl, WLD.of ht hP hD⟩, hS.F ht⟩) hS.2.2 dX7_isText_106
        · have h := ineg c2 h
          refine lv_iconst (v := iI 1) hx hb dX7_isText_82 rfl ?_
          refine lv_goto (tgt := 87) hx hb dX7_isText_83 (by decide) ?_
          refine va_put (D := (dC, dI)) (ci := 7) (v := .int (iI 1)) (ty := .boolean) (C := RX7) (T := TX7) (N := 15) hx hb hts m_X7_isText_0 tyX7 tyX7_ok nmX7 hown hK hP hD hS 0 rfl rfl 8 (by decide) (hts (.fieldLink RX7 145 "SleeperBerthsModel" "isFault" "Z") m_X7_isText_3) (fun _ h9 => h9) rfl (by decide +kernel) (by decide) rfl (Nat.le_of_ble_eq_true rfl) dX7_isText_87 (fun H locs hP hD hS => ?_)
          have hP : va_P (dC, dI) vwCl [(h_p0, .inr (7, [.ref h_p0_now, .ref h_p0_then, .ref h_p0_past, .int v_kept, .ref h_p0_text, .int v_typed, .int v_thrown, .int v_at, .int (iI 1), .ref h_p0_told, .int v_tolds, .int v_one, .int v_other, .int v_change, .int v_woken])), (h_p0_text, .inl (cyI, 60, .inl v_text)), (h_p0_told, .inl (cyI, 48, .inl v_told))] H := hP
          have hD : va_D A [(h_p0, .inr (7, [.ref h_p0_now, .ref h_p0_then, .ref h_p0_past, .int v_kept, .ref h_p0_text, .int v_typed, .int v_thrown, .int v_at, .int (iI 1), .ref h_p0_told, .int v_tolds, .int v_one, .int v_other, .int v_change, .int v_woken])), (h_p0_text, .inl (cyI, 60, .inl v_text)), (h_p0_told, .inl (cyI, 48, .inl v_told))] := hD
          refine lv_aload_n hx hb dX7_isText_90 rfl (lv_at hl 0 rfl) ?_
          refine va_get (D := (dC, dI)) (ci := 7) (v := .int v_at) (C := RX7) (T := TX7) (N := 15) hx hb hts m_X7_isText_0 hown hK hP 0 rfl rfl 7 (by decide) (hts (.fieldLink RX7 142 "SleeperBerthsModel" "at" "I") m_X7_isText_1) (fun _ h9 => h9) rfl dX7_isText_91 ?_
          refine lv_aload_n hx hb dX7_isText_94 rfl (lv_at hl 0 rfl) ?_
          refine va_get (D := (dC, dI)) (ci := 7) (v := .int v_typed) (C := RX7) (T := TX7) (N := 15) hx hb hts m_X7_isText_0 hown hK hP 0 rfl rfl 5 (by decide) (hts (.fieldLink RX7 139 "SleeperBerthsModel" "typed" "I") m_X7_isText_2) (fun _ h9 => h9) rfl dX7_isText_95 ?_
          refine lv_icmp_ne (tgt := 105) hx hb dX7_isText_98 (by decide) (fun c4 => ?_) (fun c4 => ?_)
          · have h := ineg c4 h
            refine lv_iconst (v := iI 0) hx hb dX7_isText_105 rfl ?_
            obtain rfl := Option.some.inj h
            exact W.zret (v := iI 0) hx hb hr (by decide) (fun t ht hW => ⟨⟨iI 0, (), rfl, rfl, WLD.of ht hP hD⟩, hS.F ht⟩) hS.2.2 dX7_isText_106
          · have h := ipos c4 h
            refine lv_iconst (v := iI 1) hx hb dX7_isText_101 rfl ?_
            refine lv_goto (tgt := 106) hx hb dX7_isText_102 (by decide) ?_
            obtain rfl := Option.some.inj h
            exact W.zret (v := iI 1) hx hb hr (by decide) (fun t ht hW => ⟨⟨iI 1, (), rfl, rfl, WLD.of ht hP hD⟩, hS.F ht⟩) hS.2.2 dX7_isText_106
      · have h := ineg c1 h
        refine lv_aload_n hx hb dX7_isText_21 rfl (lv_at hl 0 rfl) ?_
        obtain ⟨r5, e6, h⟩ := bsome h
        have hPc := sb_P [(h_p0, .inr (7, [.ref h_p0_now, .ref h_p0_then, .ref h_p0_past, .int v_kept, .ref h_p0_text, .int v_typed, .int v_thrown, .int v_at, .int v_isFault, .ref h_p0_told, .int v_tolds, .int v_one, .int v_other, .int v_change, .int v_woken])), (h_p0_text, .inl (cyI, 60, .inl v_text)), (h_p0_told, .inl (cyI, 48, .inl v_told))] hP [0, 1, 2] rfl
        have hDc := sb_D [(h_p0, .inr (7, [.ref h_p0_now, .ref h_p0_then, .ref h_p0_past, .int v_kept, .ref h_p0_text, .int v_typed, .int v_thrown, .int v_at, .int v_isFault, .ref h_p0_told, .int v_tolds, .int v_one, .int v_other, .int v_change, .int v_woken])), (h_p0_text, .inl (cyI, 60, .inl v_text)), (h_p0_told, .inl (cyI, 48, .inl v_told))] hD [0, 1, 2] (by decide) rfl
        have hFc := va_free (wc := [(h_p0, .inr (7, [.ref h_p0_now, .ref h_p0_then, .ref h_p0_past, .int v_kept, .ref h_p0_text, .int v_typed, .int v_thrown, .int v_at, .int v_isFault, .ref h_p0_told, .int v_tolds, .int v_one, .int v_other, .int v_change, .int v_woken])), (h_p0_text, .inl (cyI, 60, .inl v_text)), (h_p0_told, .inl (cyI, 48, .inl v_told))]) hD hS hA [0, 1, 2] rfl
        refine va_calli (va_runV (As := []) (rest := []) ⟨hx, hb, hml, hown, hts⟩ (c_X7_isPart l dC dI cyI cyJ cyT h_p0 h_p0_now h_p0_then h_p0_past h_p0_text h_p0_told H.size v_kept v_typed v_thrown v_at v_isFault v_tolds v_one v_other v_change v_woken v_text v_told r5 e6) (cwV 0 hts gX7_isText_X7_isPart rfl rfl rfl (by decide +kernel) ⟨Nat.le_of_ble_eq_true rfl, Nat.le_of_ble_eq_true rfl⟩) ⟨PRE.blind, va_recv hK hPc (ci := 7) (q0 := 0) rfl rfl, PRE.go hK hPc hDc hNW⟩ rfl rfl hl.1 rfl (lv_room (Nat.le_of_ble_eq_true rfl)) dX7_isText_22 ⟨Nat.zero_le _, Nat.zero_le _⟩) hS (fun q _ h => hFc q h) hFc (fun z7 u t H locs ht hvm hw hB hz1 hk1 hS => ?_)
        subst z7
        obtain ⟨hP, hD⟩ := va_join (wr := []) (w1 := [(h_p0, .inr (7, [.ref h_p0_now, .ref h_p0_then, .ref h_p0_past, .int v_kept, .ref h_p0_text, .int v_typed, .int v_thrown, .int r5.2.1, .int r5.2.2.1, .ref h_p0_told, .int v_tolds, .int v_one, .int v_other, .int v_change, .int v_woken])), (h_p0_text, .inl (cyI, 60, .inl v_text)), (h_p0_told, .inl (cyI, 48, .inl r5.2.2.2))]) hP hD [0, 1, 2] [] rfl rfl (by decide) (by decide) hk1 hFc (WLD.P hB ht) hB.2
        have hP : va_P (dC, dI) vwCl [(h_p0, .inr (7, [.ref h_p0_now, .ref h_p0_then, .ref h_p0_past, .int v_kept, .ref h_p0_text, .int v_typed, .int v_thrown, .int r5.2.1, .int r5.2.2.1, .ref h_p0_told, .int v_tolds, .int v_one, .int v_other, .int v_change, .int v_woken])), (h_p0_text, .inl (cyI, 60, .inl v_text)), (h_p0_told, .inl (cyI, 48, .inl r5.2.2.2))] H := hP
        have hD : va_D A [(h_p0, .inr (7, [.ref h_p0_now, .ref h_p0_then, .ref h_p0_past, .int v_kept, .ref h_p0_text, .int v_typed, .int v_thrown, .int r5.2.1, .int r5.2.2.1, .ref h_p0_told, .int v_tolds, .int v_one, .int v_other, .int v_change, .int v_woken])), (h_p0_text, .inl (cyI, 60, .inl v_text)), (h_p0_told, .inl (cyI, 48, .inl r5.2.2.2))] := hD
        refine lv_if_ne (tgt := 30) hx hb dX7_isText_25 (by decide) (fun c8 => ?_) (fun c8 => ?_)
        · have h := ineg c8 h
          refine lv_aload_n hx hb dX7_isText_30 rfl (lv_at hl 0 rfl) ?_
          refine lv_dup hx hb dX7_isText_31 rfl ?_
          refine va_get (D := (dC, dI)) (ci := 7) (v := .int v_tolds) (C := RX7) (T := TX7) (N := 15) hx hb hts m_X7_isText_0 hown hK hP 0 rfl rfl 10 (by decide) (hts (.fieldLink RX7 156 "SleeperBerthsModel" "tolds" "I") m_X7_isText_4) (fun _ h9 => h9) rfl dX7_isText_32 ?_
          refine lv_iconst (v := iI 1) hx hb dX7_isText_35 rfl ?_
          refine lv_iadd hx hb dX7_isText_36 ?_
          refine va_put (D := (dC, dI)) (ci := 7) (v := .int (v_tolds + iI 1)) (ty := .int) (C := RX7) (T := TX7) (N := 15) hx hb hts m_X7_isText_0 tyX7 tyX7_ok nmX7 hown hK hP hD hS 0 rfl rfl 10 (by decide) (hts (.fieldLink RX7 156 "SleeperBerthsModel" "tolds" "I") m_X7_isText_4) (fun _ h9 => h9) rfl (by decide +kernel) rfl rfl (Nat.le_of_ble_eq_true rfl) dX7_isText_37 (fun H locs hP hD hS => ?_)
          have hP : va_P (dC, dI) vwCl [(h_p0, .inr (7, [.ref h_p0_now, .ref h_p0_then, .ref h_p0_past, .int v_kept, .ref h_p0_text, .int v_typed, .int v_thrown, .int r5.2.1, .int r5.2.2.1, .ref h_p0_told, .int (v_tolds + iI 1), .int v_one, .int v_other, .int v_change, .int v_woken])), (h_p0_text, .inl (cyI, 60, .inl v_text)), (h_p0_told, .inl (cyI, 48, .inl r5.2.2.2))] H := hP
          have hD : va_D A [(h_p0, .inr (7, [.ref h_p0_now, .ref h_p0_then, .ref h_p0_past, .int v_kept, .ref h_p0_text, .int v_typed, .int v_thrown, .int r5.2.1, .int r5.2.2.1, .ref h_p0_told, .int (v_tolds + iI 1), .int v_one, .int v_other, .int v_change, .int v_woken])), (h_p0_text, .inl (cyI, 60, .inl v_text)), (h_p0_told, .inl (cyI, 48, .inl r5.2.2.2))] := hD
          refine lv_aload_n hx hb dX7_isText_40 rfl (lv_at hl 0 rfl) ?_
          refine lv_bipush (v := iI 59) hx hb dX7_isText_41 (by decide) ?_
          refine lv_bipush (v := iI 59) hx hb dX7_isText_43 (by decide) ?_
          obtain ⟨r9, e10, h⟩ := bsome h
          have hPc := sb_P [(h_p0, .inr (7, [.ref h_p0_now, .ref h_p0_then, .ref h_p0_past, .int v_kept, .ref h_p0_text, .int v_typed, .int v_thrown, .int r5.2.1, .int r5.2.2.1, .ref h_p0_told, .int (v_tolds + iI 1), .int v_one, .int v_other, .int v_change, .int v_woken])), (h_p0_text, .inl (cyI, 60, .inl v_text))] hP [0, 1] rfl
          have hDc := sb_D [(h_p0, .inr (7, [.ref h_p0_now, .ref h_p0_then, .ref h_p0_past, .int v_kept, .ref h_p0_text, .int v_typed, .int v_thrown, .int r5.2.1, .int r5.2.2.1, .ref h_p0_told, .int (v_tolds + iI 1), .int v_one, .int v_other, .int v_change, .int v_woken])), (h_p0_text, .inl (cyI, 60, .inl v_text))] hD [0, 1] (by decide) rfl
          have hFc := va_free (wc := [(h_p0, .inr (7, [.ref h_p0_now, .ref h_p0_then, .ref h_p0_past, .int v_kept, .ref h_p0_text, .int v_typed, .int v_thrown, .int r5.2.1, .int r5.2.2.1, .ref h_p0_told, .int (v_tolds + iI 1), .int v_one, .int v_other, .int v_change, .int v_woken])), (h_p0_text, .inl (cyI, 60, .inl v_text))]) hD hS hA [0, 1] rfl
          refine va_calli (va_runV (As := [.int (iI 59), .int (iI 59)]) (rest := []) ⟨hx, hb, hml, hown, hts⟩ (c_X7_isAt l dC dI cyI cyJ cyT h_p0 h_p0_now h_p0_then h_p0_past h_p0_text h_p0_told H.size v_kept v_typed v_thrown r5.2.1 r5.2.2.1 (v_tolds + iI 1) v_one v_other v_change v_woken v_text (iI 59) (iI 59) r9 e10) (cwV 2 hts gX7_isText_X7_isAt rfl rfl rfl (by decide +kernel) ⟨Nat.le_of_ble_eq_true rfl, Nat.le_of_ble_eq_true rfl⟩) ⟨PRE.blind, va_recv hK hPc (ci := 7) (q0 := 0) rfl rfl, PRE.go hK hPc hDc hNW⟩ rfl rfl hl.1 rfl (lv_room (Nat.le_of_ble_eq_true rfl)) dX7_isText_45 ⟨Nat.zero_le _, Nat.zero_le _⟩) hS (fun q _ h => hFc q h) hFc (fun z11 u t H locs ht hvm hw hB hz1 hk1 hS => ?_)
          subst z11
          obtain ⟨hP, hD⟩ := va_join (wr := [(h_p0_told, .inl (cyI, 48, .inl r5.2.2.2))]) (w1 := [(h_p0, .inr (7, [.ref h_p0_now, .ref h_p0_then, .ref h_p0_past, .int v_kept, .ref h_p0_text, .int v_typed, .int v_thrown, .int r5.2.1, .int r5.2.2.1, .ref h_p0_told, .int (v_tolds + iI 1), .int v_one, .int v_other, .int v_change, .int v_woken])), (h_p0_text, .inl (cyI, 60, .inl v_text))]) hP hD [0, 1] [2] rfl rfl (by decide) (by decide) hk1 hFc (WLD.P hB ht) hB.2
          have hP : va_P (dC, dI) vwCl [(h_p0_told, .inl (cyI, 48, .inl r5.2.2.2)), (h_p0, .inr (7, [.ref h_p0_now, .ref h_p0_then, .ref h_p0_past, .int v_kept, .ref h_p0_text, .int v_typed, .int v_thrown, .int r5.2.1, .int r5.2.2.1, .ref h_p0_told, .int (v_tolds + iI 1), .int v_one, .int v_other, .int v_change, .int v_woken])), (h_p0_text, .inl (cyI, 60, .inl v_text))] H := hP
          have hD : va_D A [(h_p0_told, .inl (cyI, 48, .inl r5.2.2.2)), (h_p0, .inr (7, [.ref h_p0_now, .ref h_p0_then, .ref h_p0_past, .int v_kept, .ref h_p0_text, .int v_typed, .int v_thrown, .int r5.2.1, .int r5.2.2.1, .ref h_p0_told, .int (v_tolds + iI 1), .int v_one, .int v_other, .int v_change, .int v_woken])), (h_p0_text, .inl (cyI, 60, .inl v_text))] := hD
          refine lv_istore_n hx hb dX7_isText_48 rfl hl (by decide) (rfl : _ = ([(1, .int r9), (0, .ref h_p0)] : List (Nat × Value))) (fun ls hl => ?_)
          refine lv_aload_n hx hb dX7_isText_49 rfl (lv_at hl 1 rfl) ?_
          refine lv_dup hx hb dX7_isText_50 rfl ?_
          refine va_get (D := (dC, dI)) (ci := 7) (v := .int r5.2.1) (C := RX7) (T := TX7) (N := 15) hx hb hts m_X7_isText_0 hown hK hP 1 rfl rfl 7 (by decide) (hts (.fieldLink RX7 142 "SleeperBerthsModel" "at" "I") m_X7_isText_1) (fun _ h9 => h9) rfl dX7_isText_51 ?_
          refine lv_iload_n hx hb dX7_isText_54 rfl (lv_at hl 0 rfl) ?_
          refine lv_if_eq (tgt := 62) hx hb dX7_isText_55 (by decide) (fun c12 => ?_) (fun c12 => ?_)
          · have h := ipos c12 h
            refine lv_iconst (v := iI 0) hx hb dX7_isText_62 rfl ?_
            refine lv_iadd hx hb dX7_isText_63 ?_
            refine va_put (D := (dC, dI)) (ci := 7) (v := .int (r5.2.1 + iI 0)) (ty := .int) (C := RX7) (T := TX7) (N := 15) hx hb hts m_X7_isText_0 tyX7 tyX7_ok nmX7 hown hK hP hD hS 1 rfl rfl 7 (by decide) (hts (.fieldLink RX7 142 "SleeperBerthsModel" "at" "I") m_X7_isText_1) (fun _ h9 => h9) rfl (by decide +kernel) rfl rfl (Nat.le_of_ble_eq_true rfl) dX7_isText_64 (fun H locs hP hD hS => ?_)
            have hP : va_P (dC, dI) vwCl [(h_p0_told, .inl (cyI, 48, .inl r5.2.2.2)), (h_p0, .inr (7, [.ref h_p0_now, .ref h_p0_then, .ref h_p0_past, .int v_kept, .ref h_p0_text, .int v_typed, .int v_thrown, .int (r5.2.1 + iI 0), .int r5.2.2.1, .ref h_p0_told, .int (v_tolds + iI 1), .int v_one, .int v_other, .int v_change, .int v_woken])), (h_p0_text, .inl (cyI, 60, .inl v_text))] H := hP
            have hD : va_D A [(h_p0_told, .inl (cyI, 48, .inl r5.2.2.2)), (h_p0, .inr (7, [.ref h_p0_now, .ref h_p0_then, .ref h_p0_past, .int v_kept, .ref h_p0_text, .int v_typed, .int v_thrown, .int (r5.2.1 + iI 0), .int r5.2.2.1, .ref h_p0_told, .int (v_tolds + iI 1), .int v_one, .int v_other, .int v_change, .int v_woken])), (h_p0_text, .inl (cyI, 60, .inl v_text))] := hD
            refine lv_goto (tgt := 17) hx hb dX7_isText_67 (by decide) ?_
            exact ih (r5.2.1 + iI 0) r5.2.2.1 (v_tolds + iI 1) r5.2.2.2 r9 _ _ (sb_P [(h_p0, .inr (7, [.ref h_p0_now, .ref h_p0_then, .ref h_p0_past, .int v_kept, .ref h_p0_text, .int v_typed, .int v_thrown, .int (r5.2.1 + iI 0), .int r5.2.2.1, .ref h_p0_told, .int (v_tolds + iI 1), .int v_one, .int v_other, .int v_change, .int v_woken])), (h_p0_text, .inl (cyI, 60, .inl v_text)), (h_p0_told, .inl (cyI, 48, .inl r5.2.2.2))] hP [1, 2, 0] rfl) (sb_D [(h_p0, .inr (7, [.ref h_p0_now, .ref h_p0_then, .ref h_p0_past, .int v_kept, .ref h_p0_text, .int v_typed, .int v_thrown, .int (r5.2.1 + iI 0), .int r5.2.2.1, .ref h_p0_told, .int (v_tolds + iI 1), .int v_one, .int v_other, .int v_change, .int v_woken])), (h_p0_text, .inl (cyI, 60, .inl v_text)), (h_p0_told, .inl (cyI, 48, .inl r5.2.2.2))] hD [1, 2, 0] (by decide) rfl) hS ls (lv_sub hl [1, 0] rfl) h
          · have h := ineg c12 h
            refine lv_iconst (v := iI 1) hx hb dX7_isText_58 rfl ?_
            refine lv_goto (tgt := 63) hx hb dX7_isText_59 (by decide) ?_
            refine lv_iadd hx hb dX7_isText_63 ?_
            refine va_put (D := (dC, dI)) (ci := 7) (v := .int (r5.2.1 + iI 1)) (ty := .int) (C := RX7) (T := TX7) (N := 15) hx hb hts m_X7_isText_0 tyX7 tyX7_ok nmX7 hown hK hP hD hS 1 rfl rfl 7 (by decide) (hts (.fieldLink RX7 142 "SleeperBerthsModel" "at" "I") m_X7_isText_1) (fun _ h9 => h9) rfl (by decide +kernel) rfl rfl (Nat.le_of_ble_eq_true rfl) dX7_isText_64 (fun H locs hP hD hS => ?_)
            have hP : va_P (dC, dI) vwCl [(h_p0_told, .inl (cyI, 48, .inl r5.2.2.2)), (h_p0, .inr (7, [.ref h_p0_now, .ref h_p0_then, .ref h_p0_past, .int v_kept, .ref h_p0_text, .int v_typed, .int v_thrown, .int (r5.2.1 + iI 1), .int r5.2.2.1, .ref h_p0_told, .int (v_tolds + iI 1), .int v_one, .int v_other, .int v_change, .int v_woken])), (h_p0_text, .inl (cyI, 60, .inl v_text))] H := hP
            have hD : va_D A [(h_p0_told, .inl (cyI, 48, .inl r5.2.2.2)), (h_p0, .inr (7, [.ref h_p0_now, .ref h_p0_then, .ref h_p0_past, .int v_kept, .ref h_p0_text, .int v_typed, .int v_thrown, .int (r5.2.1 + iI 1), .int r5.2.2.1, .ref h_p0_told, .int (v_tolds + iI 1), .int v_one, .int v_other, .int v_change, .int v_woken])), (h_p0_text, .inl (cyI, 60, .inl v_text))] := hD
            refine lv_goto (tgt := 17) hx hb dX7_isText_67 (by decide) ?_
            exact ih (r5.2.1 + iI 1) r5.2.2.1 (v_tolds + iI 1) r5.2.2.2 r9 _ _ (sb_P [(h_p0, .inr (7, [.ref h_p0_now, .ref h_p0_then, .ref h_p0_past, .int v_kept, .ref h_p0_text, .int v_typed, .int v_thrown, .int (r5.2.1 + iI 1), .int r5.2.2.1, .ref h_p0_told, .int (v_tolds + iI 1), .int v_one, .int v_other, .int v_change, .int v_woken])), (h_p0_text, .inl (cyI, 60, .inl v_text)), (h_p0_told, .inl (cyI, 48, .inl r5.2.2.2))] hP [1, 2, 0] rfl) (sb_D [(h_p0, .inr (7, [.ref h_p0_now, .ref h_p0_then, .ref h_p0_past, .int v_kept, .ref h_p0_text, .int v_typed, .int v_thrown, .int (r5.2.1 + iI 1), .int r5.2.2.1, .ref h_p0_told, .int (v_tolds + iI 1), .int v_one, .int v_other, .int v_change, .int v_woken])), (h_p0_text, .inl (cyI, 60, .inl v_text)), (h_p0_told, .inl (cyI, 48, .inl r5.2.2.2))] hD [1, 2, 0] (by decide) rfl) hS ls (lv_sub hl [1, 0] rfl) h
        · have h := ipos c8 h
          refine lv_iconst (v := iI 0) hx hb dX7_isText_28 rfl ?_
          obtain rfl := Option.some.inj h
          exact W.zret (v := iI 0) hx hb hr (by decide) (fun t ht hW => ⟨⟨iI 0, (), rfl, rfl, WLD.of ht hP hD⟩, hS.F ht⟩) hS.2.2 dX7_isText_29
  have hl := lv_entry ([.ref h_p0]) (n := 2) (Nat.le_of_ble_eq_true rfl)
  rw [lg_entry_eq]
  generalize (lg_sl ([.ref h_p0]) ++ List.replicate (2 - (lg_sl ([.ref h_p0])).length) Slot.unset).toArray = ls at hl ⊢
  have hl : lv_has ls 2 [(0, .ref h_p0)] := hl
  unfold s_X7_isText at h
  refine lv_aload_n hx hb dX7_isText_0 rfl (lv_at hl 0 rfl) ?_
  refine lv_iconst (v := iI 0) hx hb dX7_isText_1 rfl ?_
  refine va_put (D := (dC, dI)) (ci := 7) (v := .int (iI 0)) (ty := .int) (C := RX7) (T := TX7) (N := 15) hx hb hts m_X7_isText_0 tyX7 tyX7_ok nmX7 hown hK hP hD hS 0 rfl rfl 7 (by decide) (hts (.fieldLink RX7 142 "SleeperBerthsModel" "at" "I") m_X7_isText_1) (fun _ h9 => h9) rfl (by decide +kernel) rfl rfl (Nat.le_of_ble_eq_true rfl) dX7_isText_2 (fun H locs hP hD hS => ?_)
  have hP : va_P (dC, dI) vwCl [(h_p0, .inr (7, [.ref h_p0_now, .ref h_p0_then, .ref h_p0_past, .int v_kept, .ref h_p0_text, .int v_typed, .int v_thrown, .int (iI 0), .int v_isFault, .ref h_p0_told, .int v_tolds, .int v_one, .int v_other, .int v_change, .int v_woken])), (h_p0_text, .inl (cyI, 60, .inl v_text)), (h_p0_told, .inl (cyI, 48, .inl v_told))] H := hP
  have hD : va_D A [(h_p0, .inr (7, [.ref h_p0_now, .ref h_p0_then, .ref h_p0_past, .int v_kept, .ref h_p0_text, .int v_typed, .int v_thrown, .int (iI 0), .int v_isFault, .ref h_p0_told, .int v_tolds, .int v_one, .int v_other, .int v_change, .int v_woken])), (h_p0_text, .inl (cyI, 60, .inl v_text)), (h_p0_told, .inl (cyI, 48, .inl v_told))] := hD
  refine lv_aload_n hx hb dX7_isText_5 rfl (lv_at hl 0 rfl) ?_
  refine lv_iconst (v := iI 0) hx hb dX7_isText_6 rfl ?_
  refine va_put (D := (dC, dI)) (ci := 7) (v := .int (iI 0)) (ty := .int) (C := RX7) (T := TX7) (N := 15) hx hb hts m_X7_isText_0 tyX7 tyX7_ok nmX7 hown hK hP hD hS 0 rfl rfl 10 (by decide) (hts (.fieldLink RX7 156 "SleeperBerthsModel" "tolds" "I") m_X7_isText_4) (fun _ h9 => h9) rfl (by decide +kernel) rfl rfl (Nat.le_of_ble_eq_true rfl) dX7_isText_7 (fun H locs hP hD hS => ?_)
  have hP : va_P (dC, dI) vwCl [(h_p0, .inr (7, [.ref h_p0_now, .ref h_p0_then, .ref h_p0_past, .int v_kept, .ref h_p0_text, .int v_typed, .int v_thrown, .int (iI 0), .int v_isFault, .ref h_p0_told, .int (iI 0), .int v_one, .int v_other, .int v_change, .int v_woken])), (h_p0_text, .inl (cyI, 60, .inl v_text)), (h_p0_told, .inl (cyI, 48, .inl v_told))] H := hP
  have hD : va_D A [(h_p0, .inr (7, [.ref h_p0_now, .ref h_p0_then, .ref h_p0_past, .int v_kept, .ref h_p0_text, .int v_typed, .int v_thrown, .int (iI 0), .int v_isFault, .ref h_p0_told, .int (iI 0), .int v_one, .int v_other, .int v_change, .int v_woken])), (h_p0_text, .inl (cyI, 60, .inl v_text)), (h_p0_told, .inl (cyI, 48, .inl v_told))] := hD
  refine lv_aload_n hx hb dX7_isText_10 rfl (lv_at hl 0 rfl) ?_
  refine lv_iconst (v := iI 0) hx hb dX7_isText_11 rfl ?_
  refine va_put (D := (dC, dI)) (ci := 7) (v := .int (iI 0)) (ty := .boolean) (C := RX7) (T := TX7) (N := 15) hx hb hts m_X7_isText_0 tyX7 tyX7_ok nmX7 hown hK hP hD hS 0 rfl rfl 8 (by decide) (hts (.fieldLink RX7 145 "SleeperBerthsModel" "isFault" "Z") m_X7_isText_3) (fun _ h9 => h9) rfl (by decide +kernel) (by decide) rfl (Nat.le_of_ble_eq_true rfl) dX7_isText_12 (fun H locs hP hD hS => ?_)
  have hP : va_P (dC, dI) vwCl [(h_p0, .inr (7, [.ref h_p0_now, .ref h_p0_then, .ref h_p0_past, .int v_kept, .ref h_p0_text, .int v_typed, .int v_thrown, .int (iI 0), .int (iI 0), .ref h_p0_told, .int (iI 0), .int v_one, .int v_other, .int v_change, .int v_woken])), (h_p0_text, .inl (cyI, 60, .inl v_text)), (h_p0_told, .inl (cyI, 48, .inl v_told))] H := hP
  have hD : va_D A [(h_p0, .inr (7, [.ref h_p0_now, .ref h_p0_then, .ref h_p0_past, .int v_kept, .ref h_p0_text, .int v_typed, .int v_thrown, .int (iI 0), .int (iI 0), .ref h_p0_told, .int (iI 0), .int v_one, .int v_other, .int v_change, .int v_woken])), (h_p0_text, .inl (cyI, 60, .inl v_text)), (h_p0_told, .inl (cyI, 48, .inl v_told))] := hD
  refine lv_iconst (v := iI 1) hx hb dX7_isText_15 rfl ?_
  refine lv_istore_n hx hb dX7_isText_16 rfl hl (by decide) (rfl : _ = ([(1, .int (iI 1)), (0, .ref h_p0)] : List (Nat × Value))) (fun ls hl => ?_)
  exact L17 n (iI 0) (iI 0) (iI 0) v_told (iI 1) _ _ hP hD hS ls (lv_sub hl [1, 0] rfl) h
