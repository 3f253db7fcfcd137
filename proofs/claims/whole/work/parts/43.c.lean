def s_X7_passenger (n : Nat) (v_thrown : Int32) (v_now : Nat → Int32) (a1 : Int32) (a2 : Int32) : Option (Int32 × Int32) := (if a1 < 0 then ((s_X7_fails (iI 0) (iI 1)).bind fun r2 => (some (r2.1, r2.2))) else ((s_X7_in a2 (iI 0) (iI 8)).bind fun r5 => (if r5 = 0 then ((s_X7_fails (iI 0) (iI 1)).bind fun r14 => (some (r14.1, r14.2))) else (if gd (iI 6) 452 = true then (if (v_now (iI 6).toNatClampNeg) ≤ a1 then (some (iI (-1), iI 0)) else ((s_X7_ofPassenger n v_now a1 a2).bind fun r11 => (some (r11, iI 0)))) else none))))
set_option maxRecDepth 20000 in
theorem m_X7_passenger_0 : ∀ w ∈ u_ws RX7 TX7 15, w ∈ wsX7_passenger := by decide +kernel
set_option maxRecDepth 20000 in
theorem m_X7_passenger_1 : (.fieldLink RX7 25 "SleeperBerthsModel" "thrown" "I" : Cond) ∈ wsX7_passenger := by decide +kernel
set_option maxRecDepth 20000 in
theorem m_X7_passenger_2 : (.fieldLink RX7 7 "SleeperBerthsModel" "now" "[I" : Cond) ∈ wsX7_passenger := by decide +kernel
set_option maxHeartbeats 4000000 in
set_option maxRecDepth 100000 in
theorem c_X7_passenger (l : Launch) (dC : Nat → ClassId) (dI : Nat → Nat → Nat) (cyI cyJ cyT : ClassId) (h_p0 : Nat) (h_p0_now : Nat) (h_p0_then : Nat) (h_p0_past : Nat) (h_p0_text : Nat) (h_p0_told : Nat) (sz : Nat) (v_kept : Int32) (v_typed : Int32) (v_thrown : Int32) (v_at : Int32) (v_isFault : Int32) (v_tolds : Int32) (v_one : Int32) (v_other : Int32) (v_change : Int32) (v_woken : Int32) (v_now : Nat → Int32) (a1 : Int32) (a2 : Int32) (n : Nat) (o : Int32 × Int32) (h : s_X7_passenger n v_thrown v_now a1 a2 = some o) : Met l yX7_passenger wsX7_passenger ({ frames := 5, cells := 0, slots := 0, locals := 114 }) (va_Pc [.ref h_p0, .int a1, .int a2] (PRE (dC, dI) (TYS cyI cyJ cyT) sz [(h_p0, .inr (7, [.ref h_p0_now, .ref h_p0_then, .ref h_p0_past, .int v_kept, .ref h_p0_text, .int v_typed, .int v_thrown, .int v_at, .int v_isFault, .ref h_p0_told, .int v_tolds, .int v_one, .int v_other, .int v_change, .int v_woken])), (h_p0_now, .inl (cyI, 452, .inl v_now))])) (va_Qi (S := Unit) (fun r _ => r = o.1) (fun _ t => WLD (dC, dI) (va_A [(h_p0, .inr (7, [.ref h_p0_now, .ref h_p0_then, .ref h_p0_past, .int v_kept, .ref h_p0_text, .int v_typed, .int v_thrown, .int v_at, .int v_isFault, .ref h_p0_told, .int v_tolds, .int v_one, .int v_other, .int v_change, .int v_woken])), (h_p0_now, .inl (cyI, 452, .inl v_now))] sz) [(h_p0, .inr (7, [.ref h_p0_now, .ref h_p0_then, .ref h_p0_past, .int v_kept, .ref h_p0_text, .int v_typed, .int o.2, .int v_at, .int v_isFault, .ref h_p0_told, .int v_tolds, .int v_one, .int v_other, .int v_change, .int v_woken])), (h_p0_now, .inl (cyI, 452, .inl v_now))] t) (va_A [(h_p0, .inr (7, [.ref h_p0_now, .ref h_p0_then, .ref h_p0_past, .int v_kept, .ref h_p0_text, .int v_typed, .int v_thrown, .int v_at, .int v_isFault, .ref h_p0_told, .int v_tolds, .int v_one, .int v_other, .int v_change, .int v_woken])), (h_p0_now, .inl (cyI, 452, .inl v_now))] sz)) 0 0 (va_A [(h_p0, .inr (7, [.ref h_p0_now, .ref h_p0_then, .ref h_p0_past, .int v_kept, .ref h_p0_text, .int v_typed, .int v_thrown, .int v_at, .int v_isFault, .ref h_p0_told, .int v_tolds, .int v_one, .int v_other, .int v_change, .int v_woken])), (h_p0_now, .inl (cyI, 452, .inl v_now))] sz) := by
  refine Met.ofW (cc := cX7_passenger) (maxL := 3) (ret := (some .int)) (by decide) rfl ?_
  intro p e s m args below meth c s₁ B hml hv
  obtain ⟨rfl, hsz, hP, hK, hD0, hNW⟩ := hv
  have hx := B.exec
  have hb := B.bytes
  have hr := B.returns
  have hts := atoms_spec (ws := wsX7_passenger) B.pre
  have hown : s.vm.findClass RX7 = some m.cls := findClass_of_methodNamed B.named
  have hlocks := B.notSynchronized
  subst hsz
  have hD := hD0.self (sz := s.heap.size)
  generalize hAe : va_A [(h_p0, .inr (7, [.ref h_p0_now, .ref h_p0_then, .ref h_p0_past, .int v_kept, .ref h_p0_text, .int v_typed, .int v_thrown, .int v_at, .int v_isFault, .ref h_p0_told, .int v_tolds, .int v_one, .int v_other, .int v_change, .int v_woken])), (h_p0_now, .inl (cyI, 452, .inl v_now))] s.heap.size = A at hD ⊢
  have hA : ∀ q : Nat, s.heap.size ≤ q → A q := fun q h => by rw [← hAe]; exact Or.inr h
  have hS : va_S A s.heap s.heap [] := va_S.rf
  have hP : va_P (dC, dI) vwCl [(h_p0, .inr (7, [.ref h_p0_now, .ref h_p0_then, .ref h_p0_past, .int v_kept, .ref h_p0_text, .int v_typed, .int v_thrown, .int v_at, .int v_isFault, .ref h_p0_told, .int v_tolds, .int v_one, .int v_other, .int v_change, .int v_woken])), (h_p0_now, .inl (cyI, 452, .inl v_now))] s.heap := hP
  have hl := lv_entry ([.ref h_p0, .int a1, .int a2]) (n := 3) (Nat.le_of_ble_eq_true rfl)
  rw [lg_entry_eq]
  generalize (lg_sl ([.ref h_p0, .int a1, .int a2]) ++ List.replicate (3 - (lg_sl ([.ref h_p0, .int a1, .int a2])).length) Slot.unset).toArray = ls at hl ⊢
  have hl : lv_has ls 3 [(0, .ref h_p0), (1, .int a1), (2, .int a2)] := hl
  unfold s_X7_passenger at h
  refine lv_aload_n hx hb dX7_passenger_0 rfl (lv_at hl 0 rfl) ?_
  refine lv_iconst (v := iI 0) hx hb dX7_passenger_1 rfl ?_
  refine va_put (D := (dC, dI)) (ci := 7) (v := .int (iI 0)) (ty := .int) (C := RX7) (T := TX7) (N := 15) hx hb hts m_X7_passenger_0 tyX7 tyX7_ok nmX7 hown hK hP hD hS 0 rfl rfl 6 (by decide) (hts (.fieldLink RX7 25 "SleeperBerthsModel" "thrown" "I") m_X7_passenger_1) (fun _ h9 => h9) rfl (by decide +kernel) rfl rfl (Nat.le_of_ble_eq_true rfl) dX7_passenger_2 (fun H locs hP hD hS => ?_)
  have hP : va_P (dC, dI) vwCl [(h_p0, .inr (7, [.ref h_p0_now, .ref h_p0_then, .ref h_p0_past, .int v_kept, .ref h_p0_text, .int v_typed, .int (iI 0), .int v_at, .int v_isFault, .ref h_p0_told, .int v_tolds, .int v_one, .int v_other, .int v_change, .int v_woken])), (h_p0_now, .inl (cyI, 452, .inl v_now))] H := hP
  have hD : va_D A [(h_p0, .inr (7, [.ref h_p0_now, .ref h_p0_then, .ref h_p0_past, .int v_kept, .ref h_p0_text, .int v_typed, .int (iI 0), .int v_at, .int v_isFault, .ref h_p0_told, .int v_tolds, .int v_one, .int v_other, .int v_change, .int v_woken])), (h_p0_now, .inl (cyI, 452, .inl v_now))] := hD
  refine lv_iload_n hx hb dX7_passenger_5 rfl (lv_at hl 1 rfl) ?_
  refine lv_if_lt (tgt := 19) hx hb dX7_passenger_6 (by decide) (fun c1 => ?_) (fun c1 => ?_)
  · have h := ipos c1 h
    refine lv_aload_n hx hb dX7_passenger_19 rfl (lv_at hl 0 rfl) ?_
    refine lv_iconst (v := iI 1) hx hb dX7_passenger_20 rfl ?_
    obtain ⟨r2, e3, h⟩ := bsome h
    have hPc := sb_P [(h_p0, .inr (7, [.ref h_p0_now, .ref h_p0_then, .ref h_p0_past, .int v_kept, .ref h_p0_text, .int v_typed, .int (iI 0), .int v_at, .int v_isFault, .ref h_p0_told, .int v_tolds, .int v_one, .int v_other, .int v_change, .int v_woken]))] hP [0] rfl
    have hDc := sb_D [(h_p0, .inr (7, [.ref h_p0_now, .ref h_p0_then, .ref h_p0_past, .int v_kept, .ref h_p0_text, .int v_typed, .int (iI 0), .int v_at, .int v_isFault, .ref h_p0_told, .int v_tolds, .int v_one, .int v_other, .int v_change, .int v_woken]))] hD [0] (by decide) rfl
    have hFc := va_free (wc := [(h_p0, .inr (7, [.ref h_p0_now, .ref h_p0_then, .ref h_p0_past, .int v_kept, .ref h_p0_text, .int v_typed, .int (iI 0), .int v_at, .int v_isFault, .ref h_p0_told, .int v_tolds, .int v_one, .int v_other, .int v_change, .int v_woken]))]) hD hS hA [0] rfl
    refine va_calli (va_runV (As := [.int (iI 1)]) (rest := []) ⟨hx, hb, hml, hown, hts⟩ (c_X7_fails l dC dI cyI cyJ cyT h_p0 h_p0_now h_p0_then h_p0_past h_p0_text h_p0_told H.size v_kept v_typed (iI 0) v_at v_isFault v_tolds v_one v_other v_change v_woken (iI 1) r2 e3) (cwV 1 hts gX7_passenger_X7_fails rfl rfl rfl (by decide +kernel) ⟨Nat.le_of_ble_eq_true rfl, Nat.le_of_ble_eq_true rfl⟩) ⟨PRE.blind, va_recv hK hPc (ci := 7) (q0 := 0) rfl rfl, PRE.go hK hPc hDc hNW⟩ rfl rfl hl.1 rfl (lv_room (Nat.le_of_ble_eq_true rfl)) dX7_passenger_21 ⟨Nat.zero_le _, Nat.zero_le _⟩) hS (fun q _ h => hFc q h) hFc (fun z4 u t H locs ht hvm hw hB hz1 hk1 hS => ?_)
    subst z4
    obtain ⟨hP, hD⟩ := va_join (wr := [(h_p0_now, .inl (cyI, 452, .inl v_now))]) (w1 := [(h_p0, .inr (7, [.ref h_p0_now, .ref h_p0_then, .ref h_p0_past, .int v_kept, .ref h_p0_text, .int v_typed, .int r2.2, .int v_at, .int v_isFault, .ref h_p0_told, .int v_tolds, .int v_one, .int v_other, .int v_change, .int v_woken]))]) hP hD [0] [1] rfl rfl (by decide) (by decide) hk1 hFc (WLD.P hB ht) hB.2
    have hP : va_P (dC, dI) vwCl [(h_p0_now, .inl (cyI, 452, .inl v_now)), (h_p0, .inr (7, [.ref h_p0_now, .ref h_p0_then, .ref h_p0_past, .int v_kept, .ref h_p0_text, .int v_typed, .int r2.2, .int v_at, .int v_isFault, .ref h_p0_told, .int v_tolds, .int v_one, .int v_other, .int v_change, .int v_woken]))] H := hP
    have hD : va_D A [(h_p0_now, .inl (cyI, 452, .inl v_now)), (h_p0, .inr (7, [.ref h_p0_now, .ref h_p0_then, .ref h_p0_past, .int v_kept, .ref h_p0_text, .int v_typed, .int r2.2, .int v_at, .int v_isFault, .ref h_p0_told, .int v_tolds, .int v_one, .int v_other, .int v_change, .int v_woken]))] := hD
    obtain rfl := Option.some.inj h
    exact W.iret (v := r2.1) hx hb hr (fun t ht hW => ⟨⟨r2.1, (), rfl, rfl, WLD.of ht (sb_P [(h_p0, .inr (7, [.ref h_p0_now, .ref h_p0_then, .ref h_p0_past, .int v_kept, .ref h_p0_text, .int v_typed, .int r2.2, .int v_at, .int v_isFault, .ref h_p0_told, .int v_tolds, .int v_one, .int v_other, .int v_change, .int v_woken])), (h_p0_now, .inl (cyI, 452, .inl v_now))] hP [1, 0] rfl) (sb_D [(h_p0, .inr (7, [.ref h_p0_now, .ref h_p0_then, .ref h_p0_past, .int v_kept, .ref h_p0_text, .int v_typed, .int r2.2, .int v_at, .int v_isFault, .ref h_p0_told, .int v_tolds, .int v_one, .int v_other, .int v_change, .int v_woken])), (h_p0_now, .inl (cyI, 452, .inl v_now))] hD [1, 0] (by decide) rfl)⟩, hS.F ht⟩) hS.2.2 dX7_passenger_24
  · have h := ineg c1 h
    refine lv_iload_n hx hb dX7_passenger_9 rfl (lv_at hl 2 rfl) ?_
    refine lv_iconst (v := iI 0) hx hb dX7_passenger_10 rfl ?_
    refine lv_bipush (v := iI 8) hx hb dX7_passenger_11 (by decide) ?_
    obtain ⟨r5, e6, h⟩ := bsome h
    have hPc := sb_P [] hP [] rfl
    have hDc := sb_D [] hD [] (by decide) rfl
    have hFc := va_free (wc := []) hD hS hA [] rfl
    refine va_calli (va_runS (As := [.int a2, .int (iI 0), .int (iI 8)]) (rest := []) ⟨hx, hb, hml, hown, hts⟩ (c_X7_in l dC dI cyI cyJ cyT H.size a2 (iI 0) (iI 8) r5 e6) (va_cwS 3 hts gX7_passenger_X7_in rfl rfl rfl (by decide +kernel) ⟨Nat.le_of_ble_eq_true rfl, Nat.le_of_ble_eq_true rfl⟩) ⟨PRE.blind, PRE.go hK hPc hDc hNW⟩ rfl rfl hl.1 rfl (lv_room (Nat.le_of_ble_eq_true rfl)) dX7_passenger_13 ⟨Nat.zero_le _, Nat.zero_le _⟩) hS (fun q _ h => hFc q h) hFc (fun z7 u t H locs ht hvm hw hB hz1 hk1 hS => ?_)
    subst z7
    obtain ⟨hP, hD⟩ := va_join (wr := [(h_p0, .inr (7, [.ref h_p0_now, .ref h_p0_then, .ref h_p0_past, .int v_kept, .ref h_p0_text, .int v_typed, .int (iI 0), .int v_at, .int v_isFault, .ref h_p0_told, .int v_tolds, .int v_one, .int v_other, .int v_change, .int v_woken])), (h_p0_now, .inl (cyI, 452, .inl v_now))]) (w1 := []) hP hD [] [0, 1] rfl rfl (by decide) (by decide) hk1 hFc (WLD.P hB ht) hB.2
    have hP : va_P (dC, dI) vwCl [(h_p0, .inr (7, [.ref h_p0_now, .ref h_p0_then, .ref h_p0_past, .int v_kept, .ref h_p0_text, .int v_typed, .int (iI 0), .int v_at, .int v_isFault, .ref h_p0_told, .int v_tolds, .int v_one, .int v_other, .int v_change, .int v_woken])), (h_p0_now, .inl (cyI, 452, .inl v_now))] H := hP
    have hD : va_D A [(h_p0, .inr (7, [.ref h_p0_now, .ref h_p0_then, .ref h_p0_past, .int v_kept, .ref h_p0_text, .int v_typed, .int (iI 0), .int v_at, .int v_isFault, .ref h_p0_told, .int v_tolds, .int v_one, .int v_other, .int v_change, .int v_woken])), (h_p0_now, .inl (cyI, 452, .inl v_now))] := hD
    refine lv_if_ne (tgt := 25) hx hb dX7_passenger_16 (by decide) (fun c8 => ?_) (fun c8 => ?_)
    · have h := ineg c8 h
      refine lv_iload_n hx hb dX7_passenger_25 rfl (lv_at hl 1 rfl) ?_
      refine lv_aload_n hx hb dX7_passenger_26 rfl (lv_at hl 0 rfl) ?_
      refine va_get (D := (dC, dI)) (ci := 7) (v := .ref h_p0_now) (C := RX7) (T := TX7) (N := 15) hx hb hts m_X7_passenger_0 hown hK hP 0 rfl rfl 0 (by decide) (hts (.fieldLink RX7 7 "SleeperBerthsModel" "now" "[I") m_X7_passenger_2) (fun _ h9 => h9) rfl dX7_passenger_27 ?_
      refine lv_bipush (v := iI 6) hx hb dX7_passenger_30 (by decide) ?_
      obtain ⟨g9, h⟩ := gsome h
      refine va_iald (D := (dC, dI)) hx hb hK hP 1 0 rfl rfl g9 dX7_passenger_32 ?_
      refine lv_icmp_ge (tgt := 45) hx hb dX7_passenger_33 (by decide) (fun c10 => ?_) (fun c10 => ?_)
      · have h := ipos c10 h
        refine lv_iconst (v := iI (-1)) hx hb dX7_passenger_45 rfl ?_
        obtain rfl := Option.some.inj h
        exact W.iret (v := iI (-1)) hx hb hr (fun t ht hW => ⟨⟨iI (-1), (), rfl, rfl, WLD.of ht hP hD⟩, hS.F ht⟩) hS.2.2 dX7_passenger_46
      · have h := ineg c10 h
        refine lv_aload_n hx hb dX7_passenger_36 rfl (lv_at hl 0 rfl) ?_
        refine lv_iload_n hx hb dX7_passenger_37 rfl (lv_at hl 1 rfl) ?_
        refine lv_iload_n hx hb dX7_passenger_38 rfl (lv_at hl 2 rfl) ?_
        obtain ⟨r11, e12, h⟩ := bsome h
        have hPc := sb_P [(h_p0, .inr (7, [.ref h_p0_now, .ref h_p0_then, .ref h_p0_past, .int v_kept, .ref h_p0_text, .int v_typed, .int (iI 0), .int v_at, .int v_isFault, .ref h_p0_told, .int v_tolds, .int v_one, .int v_other, .int v_change, .int v_woken])), (h_p0_now, .inl (cyI, 452, .inl v_now))] hP [0, 1] rfl
        have hDc := sb_D [(h_p0, .inr (7, [.ref h_p0_now, .ref h_p0_then, .ref h_p0_past, .int v_kept, .ref h_p0_text, .int v_typed, .int (iI 0), .int v_at, .int v_isFault, .ref h_p0_told, .int v_tolds, .int v_one, .int v_other, .int v_change, .int v_woken])), (h_p0_now, .inl (cyI, 452, .inl v_now))] hD [0, 1] (by decide) rfl
        have hFc := va_free (wc := [(h_p0, .inr (7, [.ref h_p0_now, .ref h_p0_then, .ref h_p0_past, .int v_kept, .ref h_p0_text, .int v_typed, .int (iI 0), .int v_at, .int v_isFault, .ref h_p0_told, .int v_tolds, .int v_one, .int v_other, .int v_change, .int v_woken])), (h_p0_now, .inl (cyI, 452, .inl v_now))]) hD hS hA [0, 1] rfl
        refine va_calli (va_runV (As := [.int a1, .int a2]) (rest := []) ⟨hx, hb, hml, hown, hts⟩ (c_X7_ofPassenger l dC dI cyI cyJ cyT h_p0 h_p0_now h_p0_then h_p0_past h_p0_text h_p0_told H.size v_kept v_typed (iI 0) v_at v_isFault v_tolds v_one v_other v_change v_woken v_now a1 a2 n r11 e12) (cwV 2 hts gX7_passenger_X7_ofPassenger rfl rfl rfl (by decide +kernel) ⟨Nat.le_of_ble_eq_true rfl, Nat.le_of_ble_eq_true rfl⟩) ⟨PRE.blind, va_recv hK hPc (ci := 7) (q0 := 0) rfl rfl, PRE.go hK hPc hDc hNW⟩ rfl rfl hl.1 rfl (lv_room (Nat.le_of_ble_eq_true rfl)) dX7_passenger_39 ⟨Nat.zero_le _, Nat.zero_le _⟩) hS (fun q _ h => hFc q h) hFc (fun z13 u t H locs ht hvm hw hB hz1 hk1 hS => ?_)
        subst z13
        obtain ⟨hP, hD⟩ := va_join (wr := []) (w1 := [(h_p0, .inr (7, [.ref h_p0_now, .ref h_p0_then, .ref h_p0_past, .int v_kept, .ref h_p0_text, .int v_typed, .int (iI 0), .int v_at, .int v_isFault, .ref h_p0_told, .int v_tolds, .int v_one, .int v_other, .int v_change, .int v_woken])), (h_p0_now, .inl (cyI, 452, .inl v_now))]) hP hD [0, 1] [] rfl rfl (by decide) (by decide) hk1 hFc (WLD.P hB ht) hB.2
        have hP : va_P (dC, dI) vwCl [(h_p0, .inr (7, [.ref h_p0_now, .ref h_p0_then, .ref h_p0_past, .int v_kept, .ref h_p0_text, .int v_typed, .int (iI 0), .int v_at, .int v_isFault, .ref h_p0_told, .int v_tolds, .int v_one, .int v_other, .int v_change, .int v_woken])), (h_p0_now, .inl (cyI, 452, .inl v_now))] H := hP
        have hD : va_D A [(h_p0, .inr (7, [.ref h_p0_now, .ref h_p0_then, .ref h_p0_past, .int v_kept, .ref h_p0_text, .int v_typed, .int (iI 0), .int v_at, .int v_isFault, .ref h_p0_told, .int v_tolds, .int v_one, .int v_other, .int v_change, .int v_woken])), (h_p0_now, .inl (cyI, 452, .inl v_now))] := hD
        refine lv_goto (tgt := 46) hx hb dX7_passenger_42 (by decide) ?_
        obtain rfl := Option.some.inj h
        exact W.iret (v := r11) hx hb hr (fun t ht hW => ⟨⟨r11, (), rfl, rfl, WLD.of ht hP hD⟩, hS.F ht⟩) hS.2.2 dX7_passenger_46
    · have h := ipos c8 h
      refine lv_aload_n hx hb dX7_passenger_19 rfl (lv_at hl 0 rfl) ?_
      refine lv_iconst (v := iI 1) hx hb dX7_passenger_20 rfl ?_
      obtain ⟨r14, e15, h⟩ := bsome h
      have hPc := sb_P [(h_p0, .inr (7, [.ref h_p0_now, .ref h_p0_then, .ref h_p0_past, .int v_kept, .ref h_p0_text, .int v_typed, .int (iI 0), .int v_at, .int v_isFault, .ref h_p0_told, .int v_tolds, .int v_one, .int v_other, .int v_change, .int v_woken]))] hP [0] rfl
      have hDc := sb_D [(h_p0, .inr (7, [.ref h_p0_now, .ref h_p0_then, .ref h_p0_past, .int v_kept, .ref h_p0_text, .int v_typed, .int (iI 0), .int v_at, .int v_isFault, .ref h_p0_told, .int v_tolds, .int v_one, .int v_other, .int v_change, .int v_woken]))] hD [0] (by decide) rfl
      have hFc := va_free (wc := [(h_p0, .inr (7, [.ref h_p0_now, .ref h_p0_then, .ref h_p0_past, .int v_kept, .ref h_p0_text, .int v_typed, .int (iI 0), .int v_at, .int v_isFault, .ref h_p0_told, .int v_tolds, .int v_one, .int v_other, .int v_change, .int v_woken]))]) hD hS hA [0] rfl
      refine va_calli (va_runV (As := [.int (iI 1)]) (rest := []) ⟨hx, hb, hml, hown, hts⟩ (c_X7_fails l dC dI cyI cyJ cyT h_p0 h_p0_now h_p0_then h_p0_past h_p0_text h_p0_told H.size v_kept v_typed (iI 0) v_at v_isFault v_tolds v_one v_other v_change v_woken (iI 1) r14 e15) (cwV 1 hts gX7_passenger_X7_fails rfl rfl rfl (by decide +kernel) ⟨Nat.le_of_ble_eq_true rfl, Nat.le_of_ble_eq_true rfl⟩) ⟨PRE.blind, va_recv hK hPc (ci := 7) (q0 := 0) rfl rfl, PRE.go hK hPc hDc hNW⟩ rfl rfl hl.1 rfl (lv_room (Nat.le_of_ble_eq_true rfl)) dX7_passenger_21 ⟨Nat.zero_le _, Nat.zero_le _⟩) hS (fun q _ h => hFc q h) hFc (fun z16 u t H locs ht hvm hw hB hz1 hk1 hS => ?_)
      subst z16
      obtain ⟨hP, hD⟩ := va_join (wr := [(h_p0_now, .inl (cyI, 452, .inl v_now))]) (w1 := [(h_p0, .inr (7, [.ref h_p0_now, .ref h_p0_then, .ref h_p0_past, .int v_kept, .ref h_p0_text, .int v_typed, .int r14.2, .int v_at, .int v_isFault, .ref h_p0_told, .int v_tolds, .int v_one, .int v_other, .int v_change, .int v_woken]))]) hP hD [0] [1] rfl rfl (by decide) (by decide) hk1 hFc (WLD.P hB ht) hB.2
      have hP : va_P (dC, dI) vwCl [(h_p0_now, .inl (cyI, 452, .inl v_now)), (h_p0, .inr (7, [.ref h_p0_now, .ref h_p0_then, .ref h_p0_past, .int v_kept, .ref h_p0_text, .int v_typed, .int r14.2, .int v_at, .int v_isFault, .ref h_p0_told, .int v_tolds, .int v_one, .int v_other, .int v_change, .int v_woken]))] H := hP
      have hD : va_D A [(h_p0_now, .inl (cyI, 452, .inl v_now)), (h_p0, .inr (7, [.ref h_p0_now, .ref h_p0_then, .ref h_p0_past, .int v_kept, .ref h_p0_text, .int v_typed, .int r14.2, .int v_at, .int v_isFault, .ref h_p0_told, .int v_tolds, .int v_one, .int v_other, .int v_change, .int v_woken]))] := hD
      obtain rfl := Option.some.inj h
      exact W.iret (v := r14.1) hx hb hr (fun t ht hW => ⟨⟨r14.1, (), rfl, rfl, WLD.of ht (sb_P [(h_p0, .inr (7, [.ref h_p0_now, .ref h_p0_then, .ref h_p0_past, .int v_kept, .ref h_p0_text, .int v_typed, .int r14.2, .int v_at, .int v_isFault, .ref h_p0_told, .int v_tolds, .int v_one, .int v_other, .int v_change, .int v_woken])), (h_p0_now, .inl (cyI, 452, .inl v_now))] hP [1, 0] rfl) (sb_D [(h_p0, .inr (7, [.ref h_p0_now, .ref h_p0_then, .ref h_p0_past, .int v_kept, .ref h_p0_text, .int v_typed, .int r14.2, .int v_at, .int v_isFault, .ref h_p0_told, .int v_tolds, .int v_one, .int v_other, .int v_change, .int v_woken])), (h_p0_now, .inl (cyI, 452, .inl v_now))] hD [1, 0] (by decide) rfl)⟩, hS.F ht⟩) hS.2.2 dX7_passenger_24
def s_X7_overAll_L4 (n : Nat) (v_now : Nat → Int32) (a1 : Int32) : Nat → Int32 → Int32 → Option (Int32)
  | 0, _, _ => none
  | k + 1, x2, x3 => (if gd (iI 6) 452 = true then (if (v_now (iI 6).toNatClampNeg) ≤ x3 then (some (x2)) else (if a1 = iI 1 then ((s_X7_of v_now x3 (iI 3)).bind fun r23 => (s_X7_overAll_L4 n v_now a1 k (x2 + r23) (x3 + iI 1))) else (if a1 = iI 2 then ((s_X7_of v_now x3 (iI 6)).bind fun r19 => (if r19 = iI (-1) then (s_X7_overAll_L4 n v_now a1 k (x2 + iI 0) (x3 + iI 1)) else (s_X7_overAll_L4 n v_now a1 k (x2 + iI 1) (x3 + iI 1)))) else (if a1 = iI 3 then ((s_X7_wakesOf n v_now x3).bind fun r16 => (s_X7_overAll_L4 n v_now a1 k (x2 + r16) (x3 + iI 1))) else (if a1 = iI 4 then ((s_X7_tip n v_now x3).bind fun r13 => (s_X7_overAll_L4 n v_now a1 k (x2 + r13) (x3 + iI 1))) else ((s_X7_of v_now x3 (iI 2)).bind fun r7 => ((s_X7_of v_now x3 (iI 1)).bind fun r10 => (s_X7_overAll_L4 n v_now a1 k (x2 + (r7 - r10)) (x3 + iI 1))))))))) else none)
def s_X7_overAll (n : Nat) (v_now : Nat → Int32) (a1 : Int32) : Option (Int32) := (s_X7_overAll_L4 n v_now a1 n (iI 0) (iI 0))
set_option maxRecDepth 20000 in
theorem m_X7_overAll_0 : ∀ w ∈ u_ws RX7 TX7 15, w ∈ wsX7_overAll := by decide +kernel
set_option maxRecDepth 20000 in
theorem m_X7_overAll_1 : (.fieldLink RX7 7 "SleeperBerthsModel" "now" "[I" : Cond) ∈ wsX7_overAll := by decide +kernel
set_option maxHeartbeats 4000000 in
set_option maxRecDepth 100000 in
theorem c_X7_overAll (l : Launch) (dC : Nat → ClassId) (dI : Nat → Nat → Nat) (cyI cyJ cyT : ClassId) (h_p0 : Nat) (h_p0_now : Nat) (h_p0_then : Nat) (h_p0_past : Nat) (h_p0_text : Nat) (h_p0_told : Nat) (sz : Nat) (v_kept : Int32) (v_typed : Int32) (v_thrown : Int32) (v_at : Int32) (v_isFault : Int32) (v_tolds : Int32) (v_one : Int32) (v_other : Int32) (v_change : Int32) (v_woken : Int32) (v_now : Nat → Int32) (a1 : Int32) (n : Nat) (o : Int32) (h : s_X7_overAll n v_now a1 = some o) : Met l yX7_overAll wsX7_overAll ({ frames := 4, cells := 0, slots := 0, locals := 92 }) (va_Pc [.ref h_p0, .int a1] (PRE (dC, dI) (TYS cyI cyJ cyT) sz [(h_p0, .inr (7, [.ref h_p0_now, .ref h_p0_then, .ref h_p0_past, .int v_kept, .ref h_p0_text, .int v_typed, .int v_thrown, .int v_at, .int v_isFault, .ref h_p0_told, .int v_tolds, .int v_one, .int v_other, .int v_change, .int v_woken])), (h_p0_now, .inl (cyI, 452, .inl v_now))])) (va_Qi (S := Unit) (fun r _ => r = o) (fun _ t => WLD (dC, dI) (va_A [(h_p0, .inr (7, [.ref h_p0_now, .ref h_p0_then, .ref h_p0_past, .int v_kept, .ref h_p0_text, .int v_typed, .int v_thrown, .int v_at, .int v_isFault, .ref h_p0_told, .int v_tolds, .int v_one, .int v_other, .int v_change, .int v_woken])), (h_p0_now, .inl (cyI, 452, .inl v_now))] sz) [(h_p0, .inr (7, [.ref h_p0_now, .ref h_p0_then, .ref h_p0_past, .int v_kept, .ref h_p0_text, .int v_typed, .int v_thrown, .int v_at, .int v_isFault, .ref h_p0_told, .int v_tolds, .int v_one, .int v_other, .int v_change, .int v_woken])), (h_p0_now, .inl (cyI, 452, .inl v_now))] t) (va_A [(h_p0, .inr (7, [.ref h_p0_now, .ref h_p0_then, .ref h_p0_past, .int v_kept, .ref h_p0_text, .int v_typed, .int v_thrown, .int v_at, .int v_isFault, .ref h_p0_told, .int v_tolds, .int v_one, .int v_other, .int v_change, .int v_woken])), (h_p0_now, .inl (cyI, 452, .inl v_now))] sz)) 0 0 (va_A [(h_p0, .inr (7, [.ref h_p0_now, .ref h_p0_then, .ref h_p0_past, .int v_kept, .ref h_p0_text, .int v_typed, .int v_thrown, .int v_at, .int v_isFault, .ref h_p0_told, .int v_tolds, .int v_one, .int v_other, .int v_change, .int v_woken])), (h_p0_now, .inl (cyI, 452, .inl v_now))] sz) := by
  refine Met.ofW (cc := cX7_overAll) (maxL := 4) (ret := (some .int)) (by decide) rfl ?_
  intro p e s m args below meth c s₁ B hml hv
  obtain ⟨rfl, hsz, hP, hK, hD0, hNW⟩ := hv
  have hx := B.exec
  have hb := B.bytes
  have hr := B.returns
  have hts := atoms_spec (ws := wsX7_overAll) B.pre
  have hown : s.vm.findClass RX7 = some m.cls := findClass_of_methodNamed B.named
  have hlocks := B.notSynchronized
  subst hsz
  have hD := hD0.self (sz := s.heap.size)
  generalize hAe : va_A [(h_p0, .inr (7, [.ref h_p0_now, .ref h_p0_then, .ref h_p0_past, .int v_kept, .ref h_p0_text, .int v_typed, .int v_thrown, .int v_at, .int v_isFault, .ref h_p0_told, .int v_tolds, .int v_one, .int v_other, .int v_change, .int v_woken])), (h_p0_now, .inl (cyI, 452, .inl v_now))] s.heap.size = A at hD ⊢
  have hA : ∀ q : Nat, s.heap.size ≤ q → A q := fun q h => by rw [← hAe]; exact Or.inr h
  have hS : va_S A s.heap s.heap [] := va_S.rf
  have hP : va_P (dC, dI) vwCl [(h_p0, .inr (7, [.ref h_p0_now, .ref h_p0_then, .ref h_p0_past, .int v_kept, .ref h_p0_text, .int v_typed, .int v_thrown, .int v_at, .int v_isFault, .ref h_p0_told, .int v_tolds, .int v_one, .int v_other, .int v_change, .int v_woken])), (h_p0_now, .inl (cyI, 452, .inl v_now))] s.heap := hP
  have L4 : ∀ (k : Nat), (∀ (x2 : Int32) (x3 : Int32) (H : Heap) (locs : List Loc), va_P (dC, dI) vwCl [(h_p0, .inr (7, [.ref h_p0_now, .ref h_p0_then, .ref h_p0_past, .int v_kept, .ref h_p0_text, .int v_typed, .int v_thrown, .int v_at, .int v_isFault, .ref h_p0_told, .int v_tolds, .int v_one, .int v_other, .int v_change, .int v_woken])), (h_p0_now, .inl (cyI, 452, .inl v_now))] H → va_D A [(h_p0, .inr (7, [.ref h_p0_now, .ref h_p0_then, .ref h_p0_past, .int v_kept, .ref h_p0_text, .int v_typed, .int v_thrown, .int v_at, .int v_isFault, .ref h_p0_told, .int v_tolds, .int v_one, .int v_other, .int v_change, .int v_woken])), (h_p0_now, .inl (cyI, 452, .inl v_now))] → va_S A s.heap H locs → ∀ (ls : Array Slot), lv_has ls 4 [(0, .ref h_p0), (1, .int a1), (2, .int x2), (3, .int x3)] →  s_X7_overAll_L4 n v_now a1 k x2 x3 = some o → W p l e (headSpec wsX7_overAll ({ frames := 4, cells := 0, slots := 0, locals := 92 })).room s m (([.ref h_p0, .int a1] : List Value).toArray) below meth c H locs 0 0 (MQ below (va_Qi (S := Unit) (fun r _ => r = o) (fun _ t => WLD (dC, dI) A [(h_p0, .inr (7, [.ref h_p0_now, .ref h_p0_then, .ref h_p0_past, .int v_kept, .ref h_p0_text, .int v_typed, .int v_thrown, .int v_at, .int v_isFault, .ref h_p0_told, .int v_tolds, .int v_one, .int v_other, .int v_change, .int v_woken])), (h_p0_now, .inl (cyI, 452, .inl v_now))] t) A) (([.ref h_p0, .int a1] : List Value).toArray) s 0 0 A) (F0 m 4 ls [])) := by
    intro k
    induction k with
    | zero =>
      intro  x2 x3 H locs hP hD hS ls hl h
      rw [s_X7_overAll_L4] at h
      cases h
    | succ k ih =>
      intro  x2 x3 H locs hP hD hS ls hl h
      rw [s_X7_overAll_L4] at h
      refine lv_iload_n hx hb dX7_overAll_4 rfl (lv_at hl 3 rfl) ?_
      refine lv_aload_n hx hb dX7_overAll_5 rfl (lv_at hl 0 rfl) ?_
      refine va_get (D := (dC, dI)) (ci := 7) (v := .ref h_p0_now) (C := RX7) (T := TX7) (N := 15) hx hb hts m_X7_overAll_0 hown hK hP 0 rfl rfl 0 (by decide) (hts (.fieldLink RX7 7 "SleeperBerthsModel" "now" "[I") m_X7_overAll_1) (fun _ h9 => h9) rfl dX7_overAll_6 ?_
      refine lv_bipush (v := iI 6) hx hb dX7_overAll_9 (by decide) ?_
      obtain ⟨g1, h⟩ := gsome h
      refine va_iald (D := (dC, dI)) hx hb hK hP 1 0 rfl rfl g1 dX7_overAll_11 ?_
      refine lv_icmp_ge (tgt := 119) hx hb dX7_overAll_12 (by decide) (fun c2 => ?_) (fun c2 => ?_)
      · have h := ipos c2 h
        refine lv_iload_n hx hb dX7_overAll_119 rfl (lv_at hl 2 rfl) ?_
        obtain rfl := Option.some.inj h
        exact W.iret (v := x2) hx hb hr (fun t ht hW => ⟨⟨x2, (), rfl, rfl, WLD.of ht hP hD⟩, hS.F ht⟩) hS.2.2 dX7_overAll_120
      · have h := ineg c2 h
        refine lv_iload_n hx hb dX7_overAll_15 rfl (lv_at hl 2 rfl) ?_
        refine lv_iload_n hx hb dX7_overAll_16 rfl (lv_at hl 1 rfl) ?_
        refine lv_iconst (v := iI 1) hx hb dX7_overAll_17 rfl ?_
        refine lv_icmp_ne (tgt := 33) hx hb dX7_overAll_18 (by decide) (fun c3 => ?_) (fun c3 => ?_)
        · have h := ineg c3 h
          refine lv_iload_n hx hb dX7_overAll_33 rfl (lv_at hl 1 rfl) ?_
          refine lv_iconst (v := iI 2) hx hb dX7_overAll_34 rfl ?_
          refine lv_icmp_ne (tgt := 60) hx hb dX7_overAll_35 (by decide) (fun c4 => ?_) (fun c4 => ?_)
          · have h := ineg c4 h
            refine lv_iload_n hx hb dX7_overAll_60 rfl (lv_at hl 1 rfl) ?_
            refine lv_iconst (v := iI 3) hx hb dX7_overAll_61 rfl ?_
            refine lv_icmp_ne (tgt := 76) hx hb dX7_overAll_62 (by decide) (fun c5 => ?_) (fun c5 => ?_)
            · have h := ineg c5 h
              refine lv_iload_n hx hb dX7_overAll_76 rfl (lv_at hl 1 rfl) ?_
              refine lv_iconst (v := iI 4) hx hb dX7_overAll_77 rfl ?_
              refine lv_icmp_ne (tgt := 92) hx hb dX7_overAll_78 (by decide) (fun c6 => ?_) (fun c6 => ?_)
              · have h := ineg c6 h
                refine lv_aload_n hx hb dX7_overAll_92 rfl (lv_at hl 0 rfl) ?_
                refine va_get (D := (dC, dI)) (ci := 7) (v := .ref h_p0_now) (C := RX7) (T := TX7) (N := 15) hx hb hts m_X7_overAll_0 hown hK hP 0 rfl rfl 0 (by decide) (hts (.fieldLink RX7 7 "SleeperBerthsModel" "now" "[I") m_X7_overAll_1) (fun _ h9 => h9) rfl dX7_overAll_93 ?_
                refine lv_iload_n hx hb dX7_overAll_96 rfl (lv_at hl 3 rfl) ?_
                refine lv_iconst (v := iI 2) hx hb dX7_overAll_97 rfl ?_
                obtain ⟨r7, e8, h⟩ := bsome h
                have hPc := sb_P [(h_p0_now, .inl (cyI, 452, .inl v_now))] hP [1] rfl
                have hDc := sb_D [(h_p0_now, .inl (cyI, 452, .inl v_now))] hD [1] (by decide) rfl
                have hFc := va_free (wc := [(h_p0_now, .inl (cyI, 452, .inl v_now))]) hD hS hA [1] rfl
                refine va_calli (va_runS (As := [.ref h_p0_now, .int x3, .int (iI 2)]) (rest := [.int x2]) ⟨hx, hb, hml, hown, hts⟩ (c_X7_of l dC dI cyI cyJ cyT h_p0_now H.size v_now x3 (iI 2) r7 e8) (va_cwS 3 hts gX7_overAll_X7_of rfl rfl rfl (by decide +kernel) ⟨Nat.le_of_ble_eq_true rfl, Nat.le_of_ble_eq_true rfl⟩) ⟨PRE.blind, PRE.go hK hPc hDc hNW⟩ rfl rfl hl.1 rfl (lv_room (Nat.le_of_ble_eq_true rfl)) dX7_overAll_98 ⟨Nat.zero_le _, Nat.zero_le _⟩) hS (fun q _ h => hFc q h) hFc (fun z9 u t H locs ht hvm hw hB hz1 hk1 hS => ?_)
                subst z9
                obtain ⟨hP, hD⟩ := va_join (wr := [(h_p0, .inr (7, [.ref h_p0_now, .ref h_p0_then, .ref h_p0_past, .int v_kept, .ref h_p0_text, .int v_typed, .int v_thrown, .int v_at, .int v_isFault, .ref h_p0_told, .int v_tolds, .int v_one, .int v_other, .int v_change, .int v_woken]))]) (w1 := [(h_p0_now, .inl (cyI, 452, .inl v_now))]) hP hD [1] [0] rfl rfl (by decide) (by decide) hk1 hFc (WLD.P hB ht) hB.2
                have hP : va_P (dC, dI) vwCl [(h_p0, .inr (7, [.ref h_p0_now, .ref h_p0_then, .ref h_p0_past, .int v_kept, .ref h_p0_text, .int v_typed, .int v_thrown, .int v_at, .int v_isFault, .ref h_p0_told, .int v_tolds, .int v_one, .int v_other, .int v_change, .int v_woken])), (h_p0_now, .inl (cyI, 452, .inl v_now))] H := hP
                have hD : va_D A [(h_p0, .inr (7, [.ref h_p0_now, .ref h_p0_then, .ref h_p0_past, .int v_kept, .ref h_p0_text, .int v_typed, .int v_thrown, .int v_at, .int v_isFault, .ref h_p0_told, .int v_tolds, .int v_one, .int v_other, .int v_change, .int v_woken])), (h_p0_now, .inl (cyI, 452, .inl v_now))] := hD
                refine lv_aload_n hx hb dX7_overAll_101 rfl (lv_at hl 0 rfl) ?_
                refine va_get (D := (dC, dI)) (ci := 7) (v := .ref h_p0_now) (C := RX7) (T := TX7) (N := 15) hx hb hts m_X7_overAll_0 hown hK hP 0 rfl rfl 0 (by decide) (hts (.fieldLink RX7 7 "SleeperBerthsModel" "now" "[I") m_X7_overAll_1) (fun _ h9 => h9) rfl dX7_overAll_102 ?_
                refine lv_iload_n hx hb dX7_overAll_105 rfl (lv_at hl 3 rfl) ?_
                refine lv_iconst (v := iI 1) hx hb dX7_overAll_106 rfl ?_
                obtain ⟨r10, e11, h⟩ := bsome h
                have hPc := sb_P [(h_p0_now, .inl (cyI, 452, .inl v_now))] hP [1] rfl
                have hDc := sb_D [(h_p0_now, .inl (cyI, 452, .inl v_now))] hD [1] (by decide) rfl
                have hFc := va_free (wc := [(h_p0_now, .inl (cyI, 452, .inl v_now))]) hD hS hA [1] rfl
                refine va_calli (va_runS (As := [.ref h_p0_now, .int x3, .int (iI 1)]) (rest := [.int r7, .int x2]) ⟨hx, hb, hml, hown, hts⟩ (c_X7_of l dC dI cyI cyJ cyT h_p0_now H.size v_now x3 (iI 1) r10 e11) (va_cwS 3 hts gX7_overAll_X7_of rfl rfl rfl (by decide +kernel) ⟨Nat.le_of_ble_eq_true rfl, Nat.le_of_ble_eq_true rfl⟩) ⟨PRE.blind, PRE.go hK hPc hDc hNW⟩ rfl rfl hl.1 rfl (lv_room (Nat.le_of_ble_eq_true rfl)) dX7_overAll_107 ⟨Nat.zero_le _, Nat.zero_le _⟩) hS (fun q _ h => hFc q h) hFc (fun z12 u t H locs ht hvm hw hB hz1 hk1 hS => ?_)
                subst z12
                obtain ⟨hP, hD⟩ := va_join (wr := [(h_p0, .inr (7, [.ref h_p0_now, .ref h_p0_then, .ref h_p0_past, .int v_kept, .ref h_p0_text, .int v_typed, .int v_thrown, .int v_at, .int v_isFault, .ref h_p0_told, .int v_tolds, .int v_one, .int v_other, .int v_change, .int v_woken]))]) (w1 := [(h_p0_now, .inl (cyI, 452, .inl v_now))]) hP hD [1] [0] rfl rfl (by decide) (by decide) hk1 hFc (WLD.P hB ht) hB.2
                have hP : va_P (dC, dI) vwCl [(h_p0, .inr (7, [.ref h_p0_now, .ref h_p0_then, .ref h_p0_past, .int v_kept, .ref h_p0_text, .int v_typed, .int v_thrown, .int v_at, .int v_isFault, .ref h_p0_told, .int v_tolds, .int v_one, .int v_other, .int v_change, .int v_woken])), (h_p0_now, .inl (cyI, 452, .inl v_now))] H := hP
                have hD : va_D A [(h_p0, .inr (7, [.ref h_p0_now, .ref h_p0_then, .ref h_p0_past, .int v_kept, .ref h_p0_text, .int v_typed, .int v_thrown, .int v_at, .int v_isFault, .ref h_p0_told, .int v_tolds, .int v_one, .int v_other, .int v_change, .int v_woken])), (h_p0_now, .inl (cyI, 452, .inl v_now))] := hD
                refine lv_isub hx hb dX7_overAll_110 ?_
                refine lv_iadd hx hb dX7_overAll_111 ?_
                refine lv_istore_n hx hb dX7_overAll_112 rfl hl (by decide) (rfl : _ = ([(2, .int (x2 + (r7 - r10))), (0, .ref h_p0), (1, .int a1), (3, .int x3)] : List (Nat × Value))) (fun ls hl => ?_)
                refine lv_iinc (v := (x3 + iI 1)) hx hb dX7_overAll_113 hl (k := 3) rfl rfl (by decide) (rfl : _ = ([(3, .int (x3 + iI 1)), (2, .int (x2 + (r7 - r10))), (0, .ref h_p0), (1, .int a1)] : List (Nat × Value))) (fun ls hl => ?_)
                refine lv_goto (tgt := 4) hx hb dX7_overAll_116 (by decide) ?_
                exact ih (x2 + (r7 - r10)) (x3 + iI 1) _ _ hP hD hS ls (lv_sub hl [2, 3, 1, 0] rfl) h
              · have h := ipos c6 h
                refine lv_aload_n hx hb dX7_overAll_81 rfl (lv_at hl 0 rfl) ?_
                refine va_get (D := (dC, dI)) (ci := 7) (v := .ref h_p0_now) (C := RX7) (T := TX7) (N := 15) hx hb hts m_X7_overAll_0 hown hK hP 0 rfl rfl 0 (by decide) (hts (.fieldLink RX7 7 "SleeperBerthsModel" "now" "[I") m_X7_overAll_1) (fun _ h9 => h9) rfl dX7_overAll_82 ?_
                refine lv_iload_n hx hb dX7_overAll_85 rfl (lv_at hl 3 rfl) ?_
                obtain ⟨r13, e14, h⟩ := bsome h
                have hPc := sb_P [(h_p0_now, .inl (cyI, 452, .inl v_now))] hP [1] rfl
                have hDc := sb_D [(h_p0_now, .inl (cyI, 452, .inl v_now))] hD [1] (by decide) rfl
                have hFc := va_free (wc := [(h_p0_now, .inl (cyI, 452, .inl v_now))]) hD hS hA [1] rfl
                refine va_calli (va_runS (As := [.ref h_p0_now, .int x3]) (rest := [.int x2]) ⟨hx, hb, hml, hown, hts⟩ (c_X7_tip l dC dI cyI cyJ cyT h_p0_now H.size v_now x3 n r13 e14) (va_cwS 2 hts gX7_overAll_X7_tip rfl rfl rfl (by decide +kernel) ⟨Nat.le_of_ble_eq_true rfl, Nat.le_of_ble_eq_true rfl⟩) ⟨PRE.blind, PRE.go hK hPc hDc hNW⟩ rfl rfl hl.1 rfl (lv_room (Nat.le_of_ble_eq_true rfl)) dX7_overAll_86 ⟨Nat.zero_le _, Nat.zero_le _⟩) hS (fun q _ h => hFc q h) hFc (fun z15 u t H locs ht hvm hw hB hz1 hk1 hS => ?_)
                subst z15
                obtain ⟨hP, hD⟩ := va_join (wr := [(h_p0, .inr (7, [.ref h_p0_now, .ref h_p0_then, .ref h_p0_past, .int v_kept, .ref h_p0_text, .int v_typed, .int v_thrown, .int v_at, .int v_isFault, .ref h_p0_told, .int v_tolds, .int v_one, .int v_other, .int v_change, .int v_woken]))]) (w1 := [(h_p0_now, .inl (cyI, 452, .inl v_now))]) hP hD [1] [0] rfl rfl (by decide) (by decide) hk1 hFc (WLD.P hB ht) hB.2
                have hP : va_P (dC, dI) vwCl [(h_p0, .inr (7, [.ref h_p0_now, .ref h_p0_then, .ref h_p0_past, .int v_kept, .ref h_p0_text, .int v_typed, .int v_thrown, .int v_at, .int v_isFault, .ref h_p0_told, .int v_tolds, .int v_one, .int v_other, .int v_change, .int v_woken])), (h_p0_now, .inl (cyI, 452, .inl v_now))] H := hP
                have hD : va_D A [(h_p0, .inr (7, [.ref h_p0_now, .ref h_p0_then, .ref h_p0_past, .int v_kept, .ref h_p0_text, .int v_typed, .int v_thrown, .int v_at, .int v_isFault, .ref h_p0_told, .int v_tolds, .int v_one, .int v_other, .int v_change, .int v_woken])), (h_p0_now, .inl (cyI, 452, .inl v_now))] := hD
                refine lv_goto (tgt := 111) hx hb dX7_overAll_89 (by decide) ?_
                refine lv_iadd hx hb dX7_overAll_111 ?_
                refine lv_istore_n hx hb dX7_overAll_112 rfl hl (by decide) (rfl : _ = ([(2, .int (x2 + r13)), (0, .ref h_p0), (1, .int a1), (3, .int x3)] : List (Nat × Value))) (fun ls hl => ?_)
                refine lv_iinc (v := (x3 + iI 1)) hx hb dX7_overAll_113 hl (k := 3) rfl rfl (by decide) (rfl : _ = ([(3, .int (x3 + iI 1)), (2, .int (x2 + r13)), (0, .ref h_p0), (1, .int a1)] : List (Nat × Value))) (fun ls hl => ?_)
                refine lv_goto (tgt := 4) hx hb dX7_overAll_116 (by decide) ?_
                exact ih (x2 + r13) (x3 + iI 1) _ _ hP hD hS ls (lv_sub hl [2, 3, 1, 0] rfl) h
            · have h := ipos c5 h
              refine lv_aload_n hx hb dX7_overAll_65 rfl (lv_at hl 0 rfl) ?_
              refine va_get (D := (dC, dI)) (ci := 7) (v := .ref h_p0_now) (C := RX7) (T := TX7) (N := 15) hx hb hts m_X7_overAll_0 hown hK hP 0 rfl rfl 0 (by decide) (hts (.fieldLink RX7 7 "SleeperBerthsModel" "now" "[I") m_X7_overAll_1) (fun _ h9 => h9) rfl dX7_overAll_66 ?_
              refine lv_iload_n hx hb dX7_overAll_69 rfl (lv_at hl 3 rfl) ?_
              obtain ⟨r16, e17, h⟩ := bsome h
              have hPc := sb_P [(h_p0_now, .inl (cyI, 452, .inl v_now))] hP [1] rfl
              have hDc := sb_D [(h_p0_now, .inl (cyI, 452, .inl v_now))] hD [1] (by decide) rfl
              have hFc := va_free (wc := [(h_p0_now, .inl (cyI, 452, .inl v_now))]) hD hS hA [1] rfl
              refine va_calli (va_runS (As := [.ref h_p0_now, .int x3]) (rest := [.int x2]) ⟨hx, hb, hml, hown, hts⟩ (c_X7_wakesOf l dC dI cyI cyJ cyT h_p0_now H.size v_now x3 n r16 e17) (va_cwS 2 hts gX7_overAll_X7_wakesOf rfl rfl rfl (by decide +kernel) ⟨Nat.le_of_ble_eq_true rfl, Nat.le_of_ble_eq_true rfl⟩) ⟨PRE.blind, PRE.go hK hPc hDc hNW⟩ rfl rfl hl.1 rfl (lv_room (Nat.le_of_ble_eq_true rfl)) dX7_overAll_70 ⟨Nat.zero_le _, Nat.zero_le _⟩) hS (fun q _ h => hFc q h) hFc (fun z18 u t H locs ht hvm hw hB hz1 hk1 hS => ?_)
              subst z18
              obtain ⟨hP, hD⟩ := va_join (wr := [(h_p0, .inr (7, [.ref h_p0_now, .ref h_p0_then, .ref h_p0_past, .int v_kept, .ref h_p0_text, .int v_typed, .int v_thrown, .int v_at, .int v_isFault, .ref h_p0_told, .int v_tolds, .int v_one, .int v_other, .int v_change, .int v_woken]))]) (w1 := [(h_p0_now, .inl (cyI, 452, .inl v_now))]) hP hD [1] [0] rfl rfl (by decide) (by decide) hk1 hFc (WLD.P hB ht) hB.2
              have hP : va_P (dC, dI) vwCl [(h_p0, .inr (7, [.ref h_p0_now, .ref h_p0_then, .ref h_p0_past, .int v_kept, .ref h_p0_text, .int v_typed, .int v_thrown, .int v_at, .int v_isFault, .ref h_p0_told, .int v_tolds, .int v_one, .int v_other, .int v_change, .int v_woken])), (h_p0_now, .inl (cyI, 452, .inl v_now))] H := hP
              have hD : va_D A [(h_p0, .inr (7, [.ref h_p0_now, .ref h_p0_then, .ref h_p0_past, .int v_kept, .ref h_p0_text, .int v_typed, .int v_thrown, .int v_at, .int v_isFault, .ref h_p0_told, .int v_tolds, .int v_one, .int v_other, .int v_change, .int v_woken])), (h_p0_now, .inl (cyI, 452, .inl v_now))] := hD
              refine lv_goto (tgt := 111) hx hb dX7_overAll_73 (by decide) ?_
              refine lv_iadd hx hb dX7_overAll_111 ?_
              refine lv_istore_n hx hb dX7_overAll_112 rfl hl (by decide) (rfl : _ = ([(2, .int (x2 + r16)), (0, .ref h_p0), (1, .int a1), (3, .int x3)] : List (Nat × Value))) (fun ls hl => ?_)
              refine lv_iinc (v := (x3 + iI 1)) hx hb dX7_overAll_113 hl (k := 3) rfl rfl (by decide) (rfl : _ = ([(3, .int (x3 + iI 1)), (2, .int (x2 + r16)), (0, .ref h_p0), (1, .int a1)] : List (Nat × Value))) (fun ls hl => ?_)
              refine lv_goto (tgt := 4) hx hb dX7_overAll_116 (by decide) ?_
              exact ih (x2 + r16) (x3 + iI 1) _ _ hP hD hS ls (lv_sub hl [2, 3, 1, 0] rfl) h
          · have h := ipos c4 h
            refine lv_aload_n hx hb dX7_overAll_38 rfl (lv_at hl 0 rfl) ?_
            refine va_get (D := (dC, dI)) (ci := 7) (v := .ref h_p0_now) (C := RX7) (T := TX7) (N := 15) hx hb hts m_X7_overAll_0 hown hK hP 0 rfl rfl 0 (by decide) (hts (.fieldLink RX7 7 "SleeperBerthsModel" "now" "[I") m_X7_overAll_1) (fun _ h9 => h9) rfl dX7_overAll_39 ?_
            refine lv_iload_n hx hb dX7_overAll_42 rfl (lv_at hl 3 rfl) ?_
            refine lv_bipush (v := iI 6) hx hb dX7_overAll_43 (by decide) ?_
            obtain ⟨r19, e20, h⟩ := bsome h
            have hPc := sb_P [(h_p0_now, .inl (cyI, 452, .inl v_now))] hP [1] rfl
            have hDc := sb_D [(h_p0_now, .inl (cyI, 452, .inl v_now))] hD [1] (by decide) rfl
            have hFc := va_free (wc := [(h_p0_now, .inl (cyI, 452, .inl v_now))]) hD hS hA [1] rfl
            refine va_calli (va_runS (As := [.ref h_p0_now, .int x3, .int (iI 6)]) (rest := [.int x2]) ⟨hx, hb, hml, hown, hts⟩ (c_X7_of l dC dI cyI cyJ cyT h_p0_now H.size v_now x3 (iI 6) r19 e20) (va_cwS 3 hts gX7_overAll_X7_of rfl rfl rfl (by decide +kernel) ⟨Nat.le_of_ble_eq_true rfl, Nat.le_of_ble_eq_true rfl⟩) ⟨PRE.blind, PRE.go hK hPc hDc hNW⟩ rfl rfl hl.1 rfl (lv_room (Nat.le_of_ble_eq_true rfl)) dX7_overAll_45 ⟨Nat.zero_le _, Nat.zero_le _⟩) hS (fun q _ h => hFc q h) hFc (fun z21 u t H locs ht hvm hw hB hz1 hk1 hS => ?_)
            subst z21
            obtain ⟨hP, hD⟩ := va_join (wr := [(h_p0, .inr (7, [.ref h_p0_now, .ref h_p0_then, .ref h_p0_past, .int v_kept, .ref h_p0_text, .int v_typed, .int v_thrown, .int v_at, .int v_isFault, .ref h_p0_told, .int v_tolds, .int v_one, .int v_other, .int v_change, .int v_woken]))]) (w1 := [(h_p0_now, .inl (cyI, 452, .inl v_now))]) hP hD [1] [0] rfl rfl (by decide) (by decide) hk1 hFc (WLD.P hB ht) hB.2
            have hP : va_P (dC, dI) vwCl [(h_p0, .inr (7, [.ref h_p0_now, .ref h_p0_then, .ref h_p0_past, .int v_kept, .ref h_p0_text, .int v_typed, .int v_thrown, .int v_at, .int v_isFault, .ref h_p0_told, .int v_tolds, .int v_one, .int v_other, .int v_change, .int v_woken])), (h_p0_now, .inl (cyI, 452, .inl v_now))] H := hP
            have hD : va_D A [(h_p0, .inr (7, [.ref h_p0_now, .ref h_p0_then, .ref h_p0_past, .int v_kept, .ref h_p0_text, .int v_typed, .int v_thrown, .int v_at, .int v_isFault, .ref h_p0_told, .int v_tolds, .int v_one, .int v_other, .int v_change, .int v_woken])), (h_p0_now, .inl (cyI, 452, .inl v_now))] := hD
            refine lv_iconst (v := iI (-1)) hx hb dX7_overAll_48 rfl ?_
            refine lv_icmp_ne (tgt := 56) hx hb dX7_overAll_49 (by decide) (fun c22 => ?_) (fun c22 => ?_)
            · have h := ineg c22 h
              refine lv_iconst (v := iI 1) hx hb dX7_overAll_56 rfl ?_
              refine lv_goto (tgt := 111) hx hb dX7_overAll_57 (by decide) ?_
              refine lv_iadd hx hb dX7_overAll_111 ?_
              refine lv_istore_n hx hb dX7_overAll_112 rfl hl (by decide) (rfl : _ = ([(2, .int (x2 + iI 1)), (0, .ref h_p0), (1, .int a1), (3, .int x3)] : List (Nat × Value))) (fun ls hl => ?_)
              refine lv_iinc (v := (x3 + iI 1)) hx hb dX7_overAll_113 hl (k := 3) rfl rfl (by decide) (rfl : _ = ([(3, .int (x3 + iI 1)), (2, .int (x2 + iI 1)), (0, .ref h_p0), (1, .int a1)] : List (Nat × Value))) (fun ls hl => ?_)
              refine lv_goto (tgt := 4) hx hb dX7_overAll_116 (by decide) ?_
              exact ih (x2 + iI 1) (x3 + iI 1) _ _ hP hD hS ls (lv_sub hl [2, 3, 1, 0] rfl) h
            · have h := ipos c22 h
              refine lv_iconst (v := iI 0) hx hb dX7_overAll_52 rfl ?_
              refine lv_goto (tgt := 111) hx hb dX7_overAll_53 (by decide) ?_
              refine lv_iadd hx hb dX7_overAll_111 ?_
              refine lv_istore_n hx hb dX7_overAll_112 rfl hl (by decide) (rfl : _ = ([(2, .int (x2 + iI 0)), (0, .ref h_p0), (1, .int a1), (3, .int x3)] : List (Nat × Value))) (fun ls hl => ?_)
              refine lv_iinc (v := (x3 + iI 1)) hx hb dX7_overAll_113 hl (k := 3) rfl rfl (by decide) (rfl : _ = ([(3, .int (x3 + iI 1)), (2, .int (x2 + iI 0)), (0, .ref h_p0), (1, .int a1)] : List (Nat × Value))) (fun ls hl => ?_)
              refine lv_goto (tgt := 4) hx hb dX7_overAll_116 (by decide) ?_
              exact ih (x2 + iI 0) (x3 + iI 1) _ _ hP hD hS ls (lv_sub hl [2, 3, 1, 0] rfl) h
        · have h := ipos c3 h
          refine lv_aload_n hx hb dX7_overAll_21 rfl (lv_at hl 0 rfl) ?_
          refine va_get (D := (dC, dI)) (ci := 7) (v := .ref h_p0_now) (C := RX7) (T := TX7) (N := 15) hx hb hts m_X7_overAll_0 hown hK hP 0 rfl rfl 0 (by decide) (hts (.fieldLink RX7 7 "SleeperBerthsModel" "now" "[I") m_X7_overAll_1) (fun _ h9 => h9) rfl dX7_overAll_22 ?_
          refine lv_iload_n hx hb dX7_overAll_25 rfl (lv_at hl 3 rfl) ?_
          refine lv_iconst (v := iI 3) hx hb dX7_overAll_26 rfl ?_
          obtain ⟨r23, e24, h⟩ := bsome h
          have hPc := sb_P [(h_p0_now, .inl (cyI, 452, .inl v_now))] hP [1] rfl
          have hDc := sb_D [(h_p0_now, .inl (cyI, 452, .inl v_now))] hD [1] (by decide) rfl
          have hFc := va_free (wc := [(h_p0_now, .inl (cyI, 452, .inl v_now))]) hD hS hA [1] rfl
          refine va_calli (va_runS (As := [.ref h_p0_now, .int x3, .int (iI 3)]) (rest := [.int x2]) ⟨hx, hb, hml, hown, hts⟩ (c_X7_of l dC dI cyI cyJ cyT h_p0_now H.size v_now x3 (iI 3) r23 e24) (va_cwS 3 hts gX7_overAll_X7_of rfl rfl rfl (by decide +kernel) ⟨Nat.le_of_ble_eq_true rfl, Nat.le_of_ble_eq_true rfl⟩) ⟨PRE.blind, PRE.go hK hPc hDc hNW⟩ rfl rfl hl.1 rfl (lv_room (Nat.le_of_ble_eq_true rfl)) dX7_overAll_27 ⟨Nat.zero_le _, Nat.zero_le _⟩) hS (fun q _ h => hFc q h) hFc (fun z25 u t H locs ht hvm hw hB hz1 hk1 hS => ?_)
          subst z25
          obtain ⟨hP, hD⟩ := va_join (wr := [(h_p0, .inr (7, [.ref h_p0_now, .ref h_p0_then, .ref h_p0_past, .int v_kept, .ref h_p0_text, .int v_typed, .int v_thrown, .int v_at, .int v_isFault, .ref h_p0_told, .int v_tolds, .int v_one, .int v_other, .int v_change, .int v_woken]))]) (w1 := [(h_p0_now, .inl (cyI, 452, .inl v_now))]) hP hD [1] [0] rfl rfl (by decide) (by decide) hk1 hFc (WLD.P hB ht) hB.2
          have hP : va_P (dC, dI) vwCl [(h_p0, .inr (7, [.ref h_p0_now, .ref h_p0_then, .ref h_p0_past, .int v_kept, .ref h_p0_text, .int v_typed, .int v_thrown, .int v_at, .int v_isFault, .ref h_p0_told, .int v_tolds, .int v_one, .int v_other, .int v_change, .int v_woken])), (h_p0_now, .inl (cyI, 452, .inl v_now))] H := hP
          have hD : va_D A [(h_p0, .inr (7, [.ref h_p0_now, .ref h_p0_then, .ref h_p0_past, .int v_kept, .ref h_p0_text, .int v_typed, .int v_thrown, .int v_at, .int v_isFault, .ref h_p0_told, .int v_tolds, .int v_one, .int v_other, .int v_change, .int v_woken])), (h_p0_now, .inl (cyI, 452, .inl v_now))] := hD
          refine lv_goto (tgt := 111) hx hb dX7_overAll_30 (by decide) ?_
          refine lv_iadd hx hb dX7_overAll_111 ?_
          refine lv_istore_n hx hb dX7_overAll_112 rfl hl (by decide) (rfl : _ = ([(2, .int (x2 + r23)), (0, .ref h_p0), (1, .int a1), (3, .int x3)] : List (Nat × Value))) (fun ls hl => ?_)
          refine lv_iinc (v := (x3 + iI 1)) hx hb dX7_overAll_113 hl (k := 3) rfl rfl (by decide) (rfl : _ = ([(3, .int (x3 + iI 1)), (2, .int (x2 + r23)), (0, .ref h_p0), (1, .int a1)] : List (Nat × Value))) (fun ls hl => ?_)
          refine lv_goto (tgt := 4) hx hb dX7_overAll_116 (by decide) ?_
          exact ih (x2 + r23) (x3 + iI 1) _ _ hP hD hS ls (lv_sub hl [2, 3, 1, 0] rfl) h
  have hl := lv_entry ([.ref h_p0, .int a1]) (n := 4) (Nat.le_of_ble_eq_true rfl)
  rw [lg_entry_eq]
  generalize (lg_sl ([.ref h_p0, .int a1]) ++ List.replicate (4 - (lg_sl ([.ref h_p0, .int a1])).length) Slot.unset).toArray = ls at hl ⊢
  have hl : lv_has ls 4 [(0, .ref h_p0), (1, .int a1)] := hl
  unfold s_X7_overAll at h
  refine lv_iconst (v := iI 0) hx hb dX7_overAll_0 rfl ?_
  refine lv_istore_n hx hb dX7_overAll_1 rfl hl (by decide) (rfl : _ = ([(2, .int (iI 0)), (0, .ref h_p0), (1, .int a1)] : List (Nat × Value))) (fun ls hl => ?_)
  refine lv_iconst (v := iI 0) hx hb dX7_overAll_2 rfl ?_
  refine lv_istore_n hx hb dX7_overAll_3 rfl hl (by decide) (rfl : _ = ([(3, .int (iI 0)), (2, .int (iI 0)), (0, .ref h_p0), (1, .int a1)] : List (Nat × Value))) (fun ls hl => ?_)
  exact L4 n (iI 0) (iI 0) _ _ hP hD hS ls (lv_sub hl [2, 3, 1, 0] rfl) h
def s_X7_counted (n : Nat) (v_kept : Int32) (v_now : Nat → Int32) (a1 : Int32) : Option (Int32) := (if a1 = 0 then (if gd (iI 6) 452 = true then (some ((v_now (iI 6).toNatClampNeg))) else none) else (if iI 6 ≤ a1 then (if iI 8 ≤ a1 then (some (v_kept)) else (if gd ((iI 8 + a1) - iI 6) 452 = true then (some ((v_now ((iI 8 + a1) - iI 6).toNatClampNeg))) else none)) else ((s_X7_overAll n v_now a1).bind fun r5 => (some (r5)))))
set_option maxRecDepth 20000 in
theorem m_X7_counted_0 : ∀ w ∈ u_ws RX7 TX7 15, w ∈ wsX7_counted := by decide +kernel
set_option maxRecDepth 20000 in
theorem m_X7_counted_1 : (.fieldLink RX7 33 "SleeperBerthsModel" "kept" "I" : Cond) ∈ wsX7_counted := by decide +kernel
set_option maxRecDepth 20000 in
theorem m_X7_counted_2 : (.fieldLink RX7 7 "SleeperBerthsModel" "now" "[I" : Cond) ∈ wsX7_counted := by decide +kernel
set_option maxHeartbeats 4000000 in
set_option maxRecDepth 100000 in
theorem c_X7_counted (l : Launch) (dC : Nat → ClassId) (dI : Nat → Nat → Nat) (cyI cyJ cyT : ClassId) (h_p0 : Nat) (h_p0_now : Nat) (h_p0_then : Nat) (h_p0_past : Nat) (h_p0_text : Nat) (h_p0_told : Nat) (sz : Nat) (v_kept : Int32) (v_typed : Int32) (v_thrown : Int32) (v_at : Int32) (v_isFault : Int32) (v_tolds : Int32) (v_one : Int32) (v_other : Int32) (v_change : Int32) (v_woken : Int32) (v_now : Nat → Int32) (a1 : Int32) (n : Nat) (o : Int32) (h : s_X7_counted n v_kept v_now a1 = some o) : Met l yX7_counted wsX7_counted ({ frames := 5, cells := 0, slots := 0, locals := 115 }) (va_Pc [.ref h_p0, .int a1] (PRE (dC, dI) (TYS cyI cyJ cyT) sz [(h_p0, .inr (7, [.ref h_p0_now, .ref h_p0_then, .ref h_p0_past, .int v_kept, .ref h_p0_text, .int v_typed, .int v_thrown, .int v_at, .int v_isFault, .ref h_p0_told, .int v_tolds, .int v_one, .int v_other, .int v_change, .int v_woken])), (h_p0_now, .inl (cyI, 452, .inl v_now))])) (va_Qi (S := Unit) (fun r _ => r = o) (fun _ t => WLD (dC, dI) (va_A [(h_p0, .inr (7, [.ref h_p0_now, .ref h_p0_then, .ref h_p0_past, .int v_kept, .ref h_p0_text, .int v_typed, .int v_thrown, .int v_at, .int v_isFault, .ref h_p0_told, .int v_tolds, .int v_one, .int v_other, .int v_change, .int v_woken])), (h_p0_now, .inl (cyI, 452, .inl v_now))] sz) [(h_p0, .inr (7, [.ref h_p0_now, .ref h_p0_then, .ref h_p0_past, .int v_kept, .ref h_p0_text, .int v_typed, .int v_thrown, .int v_at, .int v_isFault, .ref h_p0_told, .int v_tolds, .int v_one, .int v_other, .int v_change, .int v_woken])), (h_p0_now, .inl (cyI, 452, .inl v_now))] t) (va_A [(h_p0, .inr (7, [.ref h_p0_now, .ref h_p0_then, .ref h_p0_past, .int v_kept, .ref h_p0_text, .int v_typed, .int v_thrown, .int v_at, .int v_isFault, .ref h_p0_told, .int v_tolds, .int v_one, .int v_other, .int v_change, .int v_woken])), (h_p0_now, .inl (cyI, 452, .inl v_now))] sz)) 0 0 (va_A [(h_p0, .inr (7, [.ref h_p0_now, .ref h_p0_then, .ref h_p0_past, .int v_kept, .ref h_p0_text, .int v_typed, .int v_thrown, .int v_at, .int v_isFault, .ref h_p0_told, .int v_tolds, .int v_one, .int v_other, .int v_change, .int v_woken])), (h_p0_now, .inl (cyI, 452, .inl v_now))] sz) := by
  refine Met.ofW (cc := cX7_counted) (maxL := 2) (ret := (some .int)) (by decide) rfl ?_
  intro p e s m args below meth c s₁ B hml hv
  obtain ⟨rfl, hsz, hP, hK, hD0, hNW⟩ := hv
  have hx := B.exec
  have hb := B.bytes
  have hr := B.returns
  have hts := atoms_spec (ws := wsX7_counted) B.pre
  have hown : s.vm.findClass RX7 = some m.cls := findClass_of_methodNamed B.named
  have hlocks := B.notSynchronized
  subst hsz
  have hD := hD0.self (sz := s.heap.size)
  generalize hAe : va_A [(h_p0, .inr (7, [.ref h_p0_now, .ref h_p0_then, .ref h_p0_past, .int v_kept, .ref h_p0_text, .int v_typed, .int v_thrown, .int v_at, .int v_isFault, .ref h_p0_told, .int v_tolds, .int v_one, .int v_other, .int v_change, .int v_woken])), (h_p0_now, .inl (cyI, 452, .inl v_now))] s.heap.size = A at hD ⊢
  have hA : ∀ q : Nat, s.heap.size ≤ q → A q := fun q h => by rw [← hAe]; exact Or.inr h
  have hS : va_S A s.heap s.heap [] := va_S.rf
  have hP : va_P (dC, dI) vwCl [(h_p0, .inr (7, [.ref h_p0_now, .ref h_p0_then, .ref h_p0_past, .int v_kept, .ref h_p0_text, .int v_typed, .int v_thrown, .int v_at, .int v_isFault, .ref h_p0_told, .int v_tolds, .int v_one, .int v_other, .int v_change, .int v_woken])), (h_p0_now, .inl (cyI, 452, .inl v_now))] s.heap := hP
  have hl := lv_entry ([.ref h_p0, .int a1]) (n := 2) (Nat.le_of_ble_eq_true rfl)
  rw [lg_entry_eq]
  generalize (lg_sl ([.ref h_p0, .int a1]) ++ List.replicate (2 - (lg_sl ([.ref h_p0, .int a1])).length) Slot.unset).toArray = ls at hl ⊢
  have hl : lv_has ls 2 [(0, .ref h_p0), (1, .int a1)] := hl
  unfold s_X7_counted at h
  refine lv_iload_n hx hb dX7_counted_0 rfl (lv_at hl 1 rfl) ?_
  refine lv_if_ne (tgt := 14) hx hb dX7_counted_1 (by decide) (fun c1 => ?_) (fun c1 => ?_)
  · have h := ineg c1 h
    refine lv_iload_n hx hb dX7_counted_14 rfl (lv_at hl 1 rfl) ?_
    refine lv_bipush (v := iI 6) hx hb dX7_counted_15 (by decide) ?_
    refine lv_icmp_ge (tgt := 28) hx hb dX7_counted_17 (by decide) (fun c2 => ?_) (fun c2 => ?_)
    · have h := ipos c2 h
      refine lv_iload_n hx hb dX7_counted_28 rfl (lv_at hl 1 rfl) ?_
      refine lv_bipush (v := iI 8) hx hb dX7_counted_29 (by decide) ?_
      refine lv_icmp_ge (tgt := 49) hx hb dX7_counted_31 (by decide) (fun c3 => ?_) (fun c3 => ?_)
      · have h := ipos c3 h
        refine lv_aload_n hx hb dX7_counted_49 rfl (lv_at hl 0 rfl) ?_
        refine va_get (D := (dC, dI)) (ci := 7) (v := .int v_kept) (C := RX7) (T := TX7) (N := 15) hx hb hts m_X7_counted_0 hown hK hP 0 rfl rfl 3 (by decide) (hts (.fieldLink RX7 33 "SleeperBerthsModel" "kept" "I") m_X7_counted_1) (fun _ h9 => h9) rfl dX7_counted_50 ?_
        obtain rfl := Option.some.inj h
        exact W.iret (v := v_kept) hx hb hr (fun t ht hW => ⟨⟨v_kept, (), rfl, rfl, WLD.of ht hP hD⟩, hS.F ht⟩) hS.2.2 dX7_counted_53
      · have h := ineg c3 h
        refine lv_aload_n hx hb dX7_counted_34 rfl (lv_at hl 0 rfl) ?_
        refine va_get (D := (dC, dI)) (ci := 7) (v := .ref h_p0_now) (C := RX7) (T := TX7) (N := 15) hx hb hts m_X7_counted_0 hown hK hP 0 rfl rfl 0 (by decide) (hts (.fieldLink RX7 7 "SleeperBerthsModel" "now" "[I") m_X7_counted_2) (fun _ h9 => h9) rfl dX7_counted_35 ?_
        refine lv_bipush (v := iI 8) hx hb dX7_counted_38 (by decide) ?_
        refine lv_iload_n hx hb dX7_counted_40 rfl (lv_at hl 1 rfl) ?_
        refine lv_iadd hx hb dX7_counted_41 ?_
        refine lv_bipush (v := iI 6) hx hb dX7_counted_42 (by decide) ?_
        refine lv_isub hx hb dX7_counted_44 ?_
        obtain ⟨g4, h⟩ := gsome h
        refine va_iald (D := (dC, dI)) hx hb hK hP 1 0 rfl rfl g4 dX7_counted_45 ?_
        refine lv_goto (tgt := 53) hx hb dX7_counted_46 (by decide) ?_
        obtain rfl := Option.some.inj h
        exact W.iret (v := (v_now ((iI 8 + a1) - iI 6).toNatClampNeg)) hx hb hr (fun t ht hW => ⟨⟨(v_now ((iI 8 + a1) - iI 6).toNatClampNeg), (), rfl, rfl, WLD.of ht hP hD⟩, hS.F ht⟩) hS.2.2 dX7_counted_53
    · have h := ineg c2 h
      refine lv_aload_n hx hb dX7_counted_20 rfl (lv_at hl 0 rfl) ?_
      refine lv_iload_n hx hb dX7_counted_21 rfl (lv_at hl 1 rfl) ?_
      obtain ⟨r5, e6, h⟩ := bsome h
      have hPc := sb_P [(h_p0, .inr (7, [.ref h_p0_now, .ref h_p0_then, .ref h_p0_past, .int v_kept, .ref h_p0_text, .int v_typed, .int v_thrown, .int v_at, .int v_isFault, .ref h_p0_told, .int v_tolds, .int v_one, .int v_other, .int v_change, .int v_woken])), (h_p0_now, .inl (cyI, 452, .inl v_now))] hP [0, 1] rfl
      have hDc := sb_D [(h_p0, .inr (7, [.ref h_p0_now, .ref h_p0_then, .ref h_p0_past, .int v_kept, .ref h_p0_text, .int v_typed, .int v_thrown, .int v_at, .int v_isFault, .ref h_p0_told, .int v_tolds, .int v_one, .int v_other, .int v_change, .int v_woken])), (h_p0_now, .inl (cyI, 452, .inl v_now))] hD [0, 1] (by decide) rfl
      have hFc := va_free (wc := [(h_p0, .inr (7, [.ref h_p0_now, .ref h_p0_then, .ref h_p0_past, .int v_kept, .ref h_p0_text, .int v_typed, .int v_thrown, .int v_at, .int v_isFault, .ref h_p0_told, .int v_tolds, .int v_one, .int v_other, .int v_change, .int v_woken])), (h_p0_now, .inl (cyI, 452, .inl v_now))]) hD hS hA [0, 1] rfl
      refine va_calli (va_runV (As := [.int a1]) (rest := []) ⟨hx, hb, hml, hown, hts⟩ (c_X7_overAll l dC dI cyI cyJ cyT h_p0 h_p0_now h_p0_then h_p0_past h_p0_text h_p0_told s.heap.size v_kept v_typed v_thrown v_at v_isFault v_tolds v_one v_other v_change v_woken v_now a1 n r5 e6) (cwV 1 hts gX7_counted_X7_overAll rfl rfl rfl (by decide +kernel) ⟨Nat.le_of_ble_eq_true rfl, Nat.le_of_ble_eq_true rfl⟩) ⟨PRE.blind, va_recv hK hPc (ci := 7) (q0 := 0) rfl rfl, PRE.go hK hPc hDc hNW⟩ rfl rfl hl.1 rfl (lv_room (Nat.le_of_ble_eq_true rfl)) dX7_counted_22 ⟨Nat.zero_le _, Nat.zero_le _⟩) hS (fun q _ h => hFc q h) hFc (fun z7 u t H locs ht hvm hw hB hz1 hk1 hS => ?_)
      subst z7
      obtain ⟨hP, hD⟩ := va_join (wr := []) (w1 := [(h_p0, .inr (7, [.ref h_p0_now, .ref h_p0_then, .ref h_p0_past, .int v_kept, .ref h_p0_text, .int v_typed, .int v_thrown, .int v_at, .int v_isFault, .ref h_p0_told, .int v_tolds, .int v_one, .int v_other, .int v_change, .int v_woken])), (h_p0_now, .inl (cyI, 452, .inl v_now))]) hP hD [0, 1] [] rfl rfl (by decide) (by decide) hk1 hFc (WLD.P hB ht) hB.2
      have hP : va_P (dC, dI) vwCl [(h_p0, .inr (7, [.ref h_p0_now, .ref h_p0_then, .ref h_p0_past, .int v_kept, .ref h_p0_text, .int v_typed, .int v_thrown, .int v_at, .int v_isFault, .ref h_p0_told, .int v_tolds, .int v_one, .int v_other, .int v_change, .int v_woken])), (h_p0_now, .inl (cyI, 452, .inl v_now))] H := hP
      have hD : va_D A [(h_p0, .inr (7, [.ref h_p0_now, .ref h_p0_then, .ref h_p0_past, .int v_kept, .ref h_p0_text, .int v_typed, .int v_thrown, .int v_at, .int v_isFault, .ref h_p0_told, .int v_tolds, .int v_one, .int v_other, .int v_change, .int v_woken])), (h_p0_now, .inl (cyI, 452, .inl v_now))] := hD
      refine lv_goto (tgt := 53) hx hb dX7_counted_25 (by decide) ?_
      obtain rfl := Option.some.inj h
      exact W.iret (v := r5) hx hb hr (fun t ht hW => ⟨⟨r5, (), rfl, rfl, WLD.of ht hP hD⟩, hS.F ht⟩) hS.2.2 dX7_counted_53
  · have h := ipos c1 h
    refine lv_aload_n hx hb dX7_counted_4 rfl (lv_at hl 0 rfl) ?_
    refine va_get (D := (dC, dI)) (ci := 7) (v := .ref h_p0_now) (C := RX7) (T := TX7) (N := 15) hx hb hts m_X7_counted_0 hown hK hP 0 rfl rfl 0 (by decide) (hts (.fieldLink RX7 7 "SleeperBerthsModel" "now" "[I") m_X7_counted_2) (fun _ h9 => h9) rfl dX7_counted_5 ?_
    refine lv_bipush (v := iI 6) hx hb dX7_counted_8 (by decide) ?_
    obtain ⟨g8, h⟩ := gsome h
    refine va_iald (D := (dC, dI)) hx hb hK hP 1 0 rfl rfl g8 dX7_counted_10 ?_
    refine lv_goto (tgt := 53) hx hb dX7_counted_11 (by decide) ?_
    obtain rfl := Option.some.inj h
    exact W.iret (v := (v_now (iI 6).toNatClampNeg)) hx hb hr (fun t ht hW => ⟨⟨(v_now (iI 6).toNatClampNeg), (), rfl, rfl, WLD.of ht hP hD⟩, hS.F ht⟩) hS.2.2 dX7_counted_53
def s_X7_count (n : Nat) (v_kept : Int32) (v_thrown : Int32) (v_now : Nat → Int32) (a1 : Int32) : Option (Int32 × Int32) := ((s_X7_in a1 (iI 0) (iI 8)).bind fun r1 => (if r1 = 0 then ((s_X7_fails (iI 0) (iI 1)).bind fun r5 => (some (r5.1, r5.2))) else ((s_X7_counted n v_kept v_now a1).bind fun r8 => (some (r8, iI 0)))))
set_option maxRecDepth 20000 in
theorem m_X7_count_0 : ∀ w ∈ u_ws RX7 TX7 15, w ∈ wsX7_count := by decide +kernel
set_option maxRecDepth 20000 in
theorem m_X7_count_1 : (.fieldLink RX7 25 "SleeperBerthsModel" "thrown" "I" : Cond) ∈ wsX7_count := by decide +kernel
set_option maxHeartbeats 4000000 in
set_option maxRecDepth 100000 in
theorem c_X7_count (l : Launch) (dC : Nat → ClassId) (dI : Nat → Nat → Nat) (cyI cyJ cyT : ClassId) (h_p0 : Nat) (h_p0_now : Nat) (h_p0_then : Nat) (h_p0_past : Nat) (h_p0_text : Nat) (h_p0_told : Nat) (sz : Nat) (v_kept : Int32) (v_typed : Int32) (v_thrown : Int32) (v_at : Int32) (v_isFault : Int32) (v_tolds : Int32) (v_one : Int32) (v_other : Int32) (v_change : Int32) (v_woken : Int32) (v_now : Nat → Int32) (a1 : Int32) (n : Nat) (o : Int32 × Int32) (h : s_X7_count n v_kept v_thrown v_now a1 = some o) : Met l yX7_count wsX7_count ({ frames := 6, cells := 0, slots := 0, locals := 136 }) (va_Pc [.ref h_p0, .int a1] (PRE (dC, dI) (TYS cyI cyJ cyT) sz [(h_p0, .inr (7, [.ref h_p0_now, .ref h_p0_then, .ref h_p0_past, .int v_kept, .ref h_p0_text, .int v_typed, .int v_thrown, .int v_at, .int v_isFault, .ref h_p0_told, .int v_tolds, .int v_one, .int v_other, .int v_change, .int v_woken])), (h_p0_now, .inl (cyI, 452, .inl v_now))])) (va_Qi (S := Unit) (fun r _ => r = o.1) (fun _ t => WLD (dC, dI) (va_A [(h_p0, .inr (7, [.ref h_p0_now, .ref h_p0_then, .ref h_p0_past, .int v_kept, .ref h_p0_text, .int v_typed, .int v_thrown, .int v_at, .int v_isFault, .ref h_p0_told, .int v_tolds, .int v_one, .int v_other, .int v_change, .int v_woken])), (h_p0_now, .inl (cyI, 452, .inl v_now))] sz) [(h_p0, .inr (7, [.ref h_p0_now, .ref h_p0_then, .ref h_p0_past, .int v_kept, .ref h_p0_text, .int v_typed, .int o.2, .int v_at, .int v_isFault, .ref h_p0_told, .int v_tolds, .int v_one, .int v_other, .int v_change, .int v_woken])), (h_p0_now, .inl (cyI, 452, .inl v_now))] t) (va_A [(h_p0, .inr (7, [.ref h_p0_now, .ref h_p0_then, .ref h_p0_past, .int v_kept, .ref h_p0_text, .int v_typed, .int v_thrown, .int v_at, .int v_isFault, .ref h_p0_told, .int v_tolds, .int v_one, .int v_other, .int v_change, .int v_woken])), (h_p0_now, .inl (cyI, 452, .inl v_now))] sz)) 0 0 (va_A [(h_p0, .inr (7, [.ref h_p0_now, .ref h_p0_then, .ref h_p0_past, .int v_kept, .ref h_p0_text, .int v_typed, .int v_thrown, .int v_at, .int v_isFault, .ref h_p0_told, .int v_tolds, .int v_one, .int v_other, .int v_change, .int v_woken])), (h_p0_now, .inl (cyI, 452, .inl v_now))] sz) := by
  refine Met.ofW (cc := cX7_count) (maxL := 2) (ret := (some .int)) (by decide) rfl ?_
  intro p e s m args below meth c s₁ B hml hv
  obtain ⟨rfl, hsz, hP, hK, hD0, hNW⟩ := hv
  have hx := B.exec
  have hb := B.bytes
  have hr := B.returns
  have hts := atoms_spec (ws := wsX7_count) B.pre
  have hown : s.vm.findClass RX7 = some m.cls := findClass_of_methodNamed B.named
  have hlocks := B.notSynchronized
  subst hsz
  have hD := hD0.self (sz := s.heap.size)
  generalize hAe : va_A [(h_p0, .inr (7, [.ref h_p0_now, .ref h_p0_then, .ref h_p0_past, .int v_kept, .ref h_p0_text, .int v_typed, .int v_thrown, .int v_at, .int v_isFault, .ref h_p0_told, .int v_tolds, .int v_one, .int v_other, .int v_change, .int v_woken])), (h_p0_now, .inl (cyI, 452, .inl v_now))] s.heap.size = A at hD ⊢
  have hA : ∀ q : Nat, s.heap.size ≤ q → A q := fun q h => by rw [← hAe]; exact Or.inr h
  have hS : va_S A s.heap s.heap [] := va_S.rf
  have hP : va_P (dC, dI) vwCl [(h_p0, .inr (7, [.ref h_p0_now, .ref h_p0_then, .ref h_p0_past, .int v_kept, .ref h_p0_text, .int v_typed, .int v_thrown, .int v_at, .int v_isFault, .ref h_p0_told, .int v_tolds, .int v_one, .int v_other, .int v_change, .int v_woken])), (h_p0_now, .inl (cyI, 452, .inl v_now))] s.heap := hP
  have hl := lv_entry ([.ref h_p0, .int a1]) (n := 2) (Nat.le_of_ble_eq_true rfl)
  rw [lg_entry_eq]
  generalize (lg_sl ([.ref h_p0, .int a1]) ++ List.replicate (2 - (lg_sl ([.ref h_p0, .int a1])).length) Slot.unset).toArray = ls at hl ⊢
  have hl : lv_has ls 2 [(0, .ref h_p0), (1, .int a1)] := hl
  unfold s_X7_count at h
  refine lv_aload_n hx hb dX7_count_0 rfl (lv_at hl 0 rfl) ?_
  refine lv_iconst (v := iI 0) hx hb dX7_count_1 rfl ?_
  refine va_put (D := (dC, dI)) (ci := 7) (v := .int (iI 0)) (ty := .int) (C := RX7) (T := TX7) (N := 15) hx hb hts m_X7_count_0 tyX7 tyX7_ok nmX7 hown hK hP hD hS 0 rfl rfl 6 (by decide) (hts (.fieldLink RX7 25 "SleeperBerthsModel" "thrown" "I") m_X7_count_1) (fun _ h9 => h9) rfl (by decide +kernel) rfl rfl (Nat.le_of_ble_eq_true rfl) dX7_count_2 (fun H locs hP hD hS => ?_)
  have hP : va_P (dC, dI) vwCl [(h_p0, .inr (7, [.ref h_p0_now, .ref h_p0_then, .ref h_p0_past, .int v_kept, .ref h_p0_text, .int v_typed, .int (iI 0), .int v_at, .int v_isFault, .ref h_p0_told, .int v_tolds, .int v_one, .int v_other, .int v_change, .int v_woken])), (h_p0_now, .inl (cyI, 452, .inl v_now))] H := hP
  have hD : va_D A [(h_p0, .inr (7, [.ref h_p0_now, .ref h_p0_then, .ref h_p0_past, .int v_kept, .ref h_p0_text, .int v_typed, .int (iI 0), .int v_at, .int v_isFault, .ref h_p0_told, .int v_tolds, .int v_one, .int v_other, .int v_change, .int v_woken])), (h_p0_now, .inl (cyI, 452, .inl v_now))] := hD
  refine lv_iload_n hx hb dX7_count_5 rfl (lv_at hl 1 rfl) ?_
  refine lv_iconst (v := iI 0) hx hb dX7_count_6 rfl ?_
  refine lv_bipush (v := iI 8) hx hb dX7_count_7 (by decide) ?_
  obtain ⟨r1, e2, h⟩ := bsome h
  have hPc := sb_P [] hP [] rfl
  have hDc := sb_D [] hD [] (by decide) rfl
  have hFc := va_free (wc := []) hD hS hA [] rfl
  refine va_calli (va_runS (As := [.int a1, .int (iI 0), .int (iI 8)]) (rest := []) ⟨hx, hb, hml, hown, hts⟩ (c_X7_in l dC dI cyI cyJ cyT H.size a1 (iI 0) (iI 8) r1 e2) (va_cwS 3 hts gX7_count_X7_in rfl rfl rfl (by decide +kernel) ⟨Nat.le_of_ble_eq_true rfl, Nat.le_of_ble_eq_true rfl⟩) ⟨PRE.blind, PRE.go hK hPc hDc hNW⟩ rfl rfl hl.1 rfl (lv_room (Nat.le_of_ble_eq_true rfl)) dX7_count_9 ⟨Nat.zero_le _, Nat.zero_le _⟩) hS (fun q _ h => hFc q h) hFc (fun z3 u t H locs ht hvm hw hB hz1 hk1 hS => ?_)
  subst z3
  obtain ⟨hP, hD⟩ := va_join (wr := [(h_p0, .inr (7, [.ref h_p0_now, .ref h_p0_then, .ref h_p0_past, .int v_kept, .ref h_p0_text, .int v_typed, .int (iI 0), .int v_at, .int v_isFault, .ref h_p0_told, .int v_tolds, .int v_one, .int v_other, .int v_change, .int v_woken])), (h_p0_now, .inl (cyI, 452, .inl v_now))]) (w1 := []) hP hD [] [0, 1] rfl rfl (by decide) (by decide) hk1 hFc (WLD.P hB ht) hB.2
  have hP : va_P (dC, dI) vwCl [(h_p0, .inr (7, [.ref h_p0_now, .ref h_p0_then, .ref h_p0_past, .int v_kept, .ref h_p0_text, .int v_typed, .int (iI 0), .int v_at, .int v_isFault, .ref h_p0_told, .int v_tolds, .int v_one, .int v_other, .int v_change, .int v_woken])), (h_p0_now, .inl (cyI, 452, .inl v_now))] H := hP
  have hD : va_D A [(h_p0, .inr (7, [.ref h_p0_now, .ref h_p0_then, .ref h_p0_past, .int v_kept, .ref h_p0_text, .int v_typed, .int (iI 0), .int v_at, .int v_isFault, .ref h_p0_told, .int v_tolds, .int v_one, .int v_other, .int v_change, .int v_woken])), (h_p0_now, .inl (cyI, 452, .inl v_now))] := hD
  refine lv_if_eq (tgt := 23) hx hb dX7_count_12 (by decide) (fun c4 => ?_) (fun c4 => ?_)
  · have h := ipos c4 h
    refine lv_aload_n hx hb dX7_count_23 rfl (lv_at hl 0 rfl) ?_
    refine lv_iconst (v := iI 1) hx hb dX7_count_24 rfl ?_
    obtain ⟨r5, e6, h⟩ := bsome h
    have hPc := sb_P [(h_p0, .inr (7, [.ref h_p0_now, .ref h_p0_then, .ref h_p0_past, .int v_kept, .ref h_p0_text, .int v_typed, .int (iI 0), .int v_at, .int v_isFault, .ref h_p0_told, .int v_tolds, .int v_one, .int v_other, .int v_change, .int v_woken]))] hP [0] rfl
    have hDc := sb_D [(h_p0, .inr (7, [.ref h_p0_now, .ref h_p0_then, .ref h_p0_past, .int v_kept, .ref h_p0_text, .int v_typed, .int (iI 0), .int v_at, .int v_isFault, .ref h_p0_told, .int v_tolds, .int v_one, .int v_other, .int v_change, .int v_woken]))] hD [0] (by decide) rfl
    have hFc := va_free (wc := [(h_p0, .inr (7, [.ref h_p0_now, .ref h_p0_then, .ref h_p0_past, .int v_kept, .ref h_p0_text, .int v_typed, .int (iI 0), .int v_at, .int v_isFault, .ref h_p0_told, .int v_tolds, .int v_one, .int v_other, .int v_change, .int v_woken]))]) hD hS hA [0] rfl
    refine va_calli (va_runV (As := [.int (iI 1)]) (rest := []) ⟨hx, hb, hml, hown, hts⟩ (c_X7_fails l dC dI cyI cyJ cyT h_p0 h_p0_now h_p0_then h_p0_past h_p0_text h_p0_told H.size v_kept v_typed (iI 0) v_at v_isFault v_tolds v_one v_other v_change v_woken (iI 1) r5 e6) (cwV 1 hts gX7_count_X7_fails rfl rfl rfl (by decide +kernel) ⟨Nat.le_of_ble_eq_true rfl, Nat.le_of_ble_eq_true rfl⟩) ⟨PRE.blind, va_recv hK hPc (ci := 7) (q0 := 0) rfl rfl, PRE.go hK hPc hDc hNW⟩ rfl rfl hl.1 rfl (lv_room (Nat.le_of_ble_eq_true rfl)) dX7_count_25 ⟨Nat.zero_le _, Nat.zero_le _⟩) hS (fun q _ h => hFc q h) hFc (fun z7 u t H locs ht hvm hw hB hz1 hk1 hS => ?_)
    subst z7
    obtain ⟨hP, hD⟩ := va_join (wr := [(h_p0_now, .inl (cyI, 452, .inl v_now))]) (w1 := [(h_p0, .inr (7, [.ref h_p0_now, .ref h_p0_then, .ref h_p0_past, .int v_kept, .ref h_p0_text, .int v_typed, .int r5.2, .int v_at, .int v_isFault, .ref h_p0_told, .int v_tolds, .int v_one, .int v_other, .int v_change, .int v_woken]))]) hP hD [0] [1] rfl rfl (by decide) (by decide) hk1 hFc (WLD.P hB ht) hB.2
    have hP : va_P (dC, dI) vwCl [(h_p0_now, .inl (cyI, 452, .inl v_now)), (h_p0, .inr (7, [.ref h_p0_now, .ref h_p0_then, .ref h_p0_past, .int v_kept, .ref h_p0_text, .int v_typed, .int r5.2, .int v_at, .int v_isFault, .ref h_p0_told, .int v_tolds, .int v_one, .int v_other, .int v_change, .int v_woken]))] H := hP
    have hD : va_D A [(h_p0_now, .inl (cyI, 452, .inl v_now)), (h_p0, .inr (7, [.ref h_p0_now, .ref h_p0_then, .ref h_p0_past, .int v_kept, .ref h_p0_text, .int v_typed, .int r5.2, .int v_at, .int v_isFault, .ref h_p0_told, .int v_tolds, .int v_one, .int v_other, .int v_change, .int v_woken]))] := hD
    obtain rfl := Option.some.inj h
    exact W.iret (v := r5.1) hx hb hr (fun t ht hW => ⟨⟨r5.1, (), rfl, rfl, WLD.of ht (sb_P [(h_p0, .inr (7, [.ref h_p0_now, .ref h_p0_then, .ref h_p0_past, .int v_kept, .ref h_p0_text, .int v_typed, .int r5.2, .int v_at, .int v_isFault, .ref h_p0_told, .int v_tolds, .int v_one, .int v_other, .int v_change, .int v_woken])), (h_p0_now, .inl (cyI, 452, .inl v_now))] hP [1, 0] rfl) (sb_D [(h_p0, .inr (7, [.ref h_p0_now, .ref h_p0_then, .ref h_p0_past, .int v_kept, .ref h_p0_text, .int v_typed, .int r5.2, .int v_at, .int v_isFault, .ref h_p0_told, .int v_tolds, .int v_one, .int v_other, .int v_change, .int v_woken])), (h_p0_now, .inl (cyI, 452, .inl v_now))] hD [1, 0] (by decide) rfl)⟩, hS.F ht⟩) hS.2.2 dX7_count_28
  · have h := ineg c4 h
    refine lv_aload_n hx hb dX7_count_15 rfl (lv_at hl 0 rfl) ?_
    refine lv_iload_n hx hb dX7_count_16 rfl (lv_at hl 1 rfl) ?_
    obtain ⟨r8, e9, h⟩ := bsome h
    have hPc := sb_P [(h_p0, .inr (7, [.ref h_p0_now, .ref h_p0_then, .ref h_p0_past, .int v_kept, .ref h_p0_text, .int v_typed, .int (iI 0), .int v_at, .int v_isFault, .ref h_p0_told, .int v_tolds, .int v_one, .int v_other, .int v_change, .int v_woken])), (h_p0_now, .inl (cyI, 452, .inl v_now))] hP [0, 1] rfl
    have hDc := sb_D [(h_p0, .inr (7, [.ref h_p0_now, .ref h_p0_then, .ref h_p0_past, .int v_kept, .ref h_p0_text, .int v_typed, .int (iI 0), .int v_at, .int v_isFault, .ref h_p0_told, .int v_tolds, .int v_one, .int v_other, .int v_change, .int v_woken])), (h_p0_now, .inl (cyI, 452, .inl v_now))] hD [0, 1] (by decide) rfl
    have hFc := va_free (wc := [(h_p0, .inr (7, [.ref h_p0_now, .ref h_p0_then, .ref h_p0_past, .int v_kept, .ref h_p0_text, .int v_typed, .int (iI 0), .int v_at, .int v_isFault, .ref h_p0_told, .int v_tolds, .int v_one, .int v_other, .int v_change, .int v_woken])), (h_p0_now, .inl (cyI, 452, .inl v_now))]) hD hS hA [0, 1] rfl
    refine va_calli (va_runV (As := [.int a1]) (rest := []) ⟨hx, hb, hml, hown, hts⟩ (c_X7_counted l dC dI cyI cyJ cyT h_p0 h_p0_now h_p0_then h_p0_past h_p0_text h_p0_told H.size v_kept v_typed (iI 0) v_at v_isFault v_tolds v_one v_other v_change v_woken v_now a1 n r8 e9) (cwV 1 hts gX7_count_X7_counted rfl rfl rfl (by decide +kernel) ⟨Nat.le_of_ble_eq_true rfl, Nat.le_of_ble_eq_true rfl⟩) ⟨PRE.blind, va_recv hK hPc (ci := 7) (q0 := 0) rfl rfl, PRE.go hK hPc hDc hNW⟩ rfl rfl hl.1 rfl (lv_room (Nat.le_of_ble_eq_true rfl)) dX7_count_17 ⟨Nat.zero_le _, Nat.zero_le _⟩) hS (fun q _ h => hFc q h) hFc (fun z10 u t H locs ht hvm hw hB hz1 hk1 hS => ?_)
    subst z10
    obtain ⟨hP, hD⟩ := va_join (wr := []) (w1 := [(h_p0, .inr (7, [.ref h_p0_now, .ref h_p0_then, .ref h_p0_past, .int v_kept, .ref h_p0_text, .int v_typed, .int (iI 0), .int v_at, .int v_isFault, .ref h_p0_told, .int v_tolds, .int v_one, .int v_other, .int v_change, .int v_woken])), (h_p0_now, .inl (cyI, 452, .inl v_now))]) hP hD [0, 1] [] rfl rfl (by decide) (by decide) hk1 hFc (WLD.P hB ht) hB.2
    have hP : va_P (dC, dI) vwCl [(h_p0, .inr (7, [.ref h_p0_now, .ref h_p0_then, .ref h_p0_past, .int v_kept, .ref h_p0_text, .int v_typed, .int (iI 0), .int v_at, .int v_isFault, .ref h_p0_told, .int v_tolds, .int v_one, .int v_other, .int v_change, .int v_woken])), (h_p0_now, .inl (cyI, 452, .inl v_now))] H := hP
    have hD : va_D A [(h_p0, .inr (7, [.ref h_p0_now, .ref h_p0_then, .ref h_p0_past, .int v_kept, .ref h_p0_text, .int v_typed, .int (iI 0), .int v_at, .int v_isFault, .ref h_p0_told, .int v_tolds, .int v_one, .int v_other, .int v_change, .int v_woken])), (h_p0_now, .inl (cyI, 452, .inl v_now))] := hD
    refine lv_goto (tgt := 28) hx hb dX7_count_20 (by decide) ?_
    obtain rfl := Option.some.inj h
    exact W.iret (v := r8) hx hb hr (fun t ht hW => ⟨⟨r8, (), rfl, rfl, WLD.of ht hP hD⟩, hS.F ht⟩) hS.2.2 dX7_count_28
def s_X7_freeOn_L9 (n : Nat) (v_now : Nat → Int32) (a1 : Int32) (a2 : Int32) : Nat → Int32 → Int32 → Int32 → Option (Int32)
  | 0, _, _, _ => none
  | k + 1, x3, x4, x5 => (if x5 < 0 then (if a2 = 0 then (some (x3)) else (some (x4))) else ((s_X7_canBeHad v_now x5 a1).bind fun r3 => (if r3 = 0 then ((s_X7_canBeHad v_now x5 a1).bind fun r7 => (if r7 = 0 then (s_X7_freeOn_L9 n v_now a1 a2 k (x3 + iI 0) x4 (x5 + iI (-1))) else (s_X7_freeOn_L9 n v_now a1 a2 k (x3 + iI 0) x5 (x5 + iI (-1))))) else ((s_X7_canBeHad v_now x5 a1).bind fun r11 => (if r11 = 0 then (s_X7_freeOn_L9 n v_now a1 a2 k (x3 + iI 1) x4 (x5 + iI (-1))) else (s_X7_freeOn_L9 n v_now a1 a2 k (x3 + iI 1) x5 (x5 + iI (-1))))))))
def s_X7_freeOn (n : Nat) (v_now : Nat → Int32) (a1 : Int32) (a2 : Int32) : Option (Int32) := (s_X7_freeOn_L9 n v_now a1 a2 n (iI 0) (iI (-1)) (iI 17))
set_option maxRecDepth 20000 in
theorem m_X7_freeOn_0 : ∀ w ∈ u_ws RX7 TX7 15, w ∈ wsX7_freeOn := by decide +kernel
set_option maxRecDepth 20000 in
theorem m_X7_freeOn_1 : (.fieldLink RX7 7 "SleeperBerthsModel" "now" "[I" : Cond) ∈ wsX7_freeOn := by decide +kernel
set_option maxHeartbeats 4000000 in
set_option maxRecDepth 100000 in
theorem c_X7_freeOn (l : Launch) (dC : Nat → ClassId) (dI : Nat → Nat → Nat) (cyI cyJ cyT : ClassId) (h_p0 : Nat) (h_p0_now : Nat) (h_p0_then : Nat) (h_p0_past : Nat) (h_p0_text : Nat) (h_p0_told : Nat) (sz : Nat) (v_kept : Int32) (v_typed : Int32) (v_thrown : Int32) (v_at : Int32) (v_isFault : Int32) (v_tolds : Int32) (v_one : Int32) (v_other : Int32) (v_change : Int32) (v_woken : Int32) (v_now : Nat → Int32) (a1 : Int32) (a2 : Int32) (n : Nat) (o : Int32) (h : s_X7_freeOn n v_now a1 a2 = some o) : Met l yX7_freeOn wsX7_freeOn ({ frames := 2, cells := 0, slots := 0, locals := 44 }) (va_Pc [.ref h_p0, .int a1, .int a2] (PRE (dC, dI) (TYS cyI cyJ cyT) sz [(h_p0, .inr (7, [.ref h_p0_now, .ref h_p0_then, .ref h_p0_past, .int v_kept, .ref h_p0_text, .int v_typed, .int v_thrown, .int v_at, .int v_isFault, .ref h_p0_told, .int v_tolds, .int v_one, .int v_other, .int v_change, .int v_woken])), (h_p0_now, .inl (cyI, 452, .inl v_now))])) (va_Qi (S := Unit) (fun r _ => r = o) (fun _ t => WLD (dC, dI) (va_A [(h_p0, .inr (7, [.ref h_p0_now, .ref h_p0_then, .ref h_p0_past, .int v_kept, .ref h_p0_text, .int v_typed, .int v_thrown, .int v_at, .int v_isFault, .ref h_p0_told, .int v_tolds, .int v_one, .int v_other, .int v_change, .int v_woken])), (h_p0_now, .inl (cyI, 452, .inl v_now))] sz) [(h_p0, .inr (7, [.ref h_p0_now, .ref h_p0_then, .ref h_p0_past, .int v_kept, .ref h_p0_text, .int v_typed, .int v_thrown, .int v_at, .int v_isFault, .ref h_p0_told, .int v_tolds, .int v_one, .int v_other, .int v_change, .int v_woken])), (h_p0_now, .inl (cyI, 452, .inl v_now))] t) (va_A [(h_p0, .inr (7, [.ref h_p0_now, .ref h_p0_then, .ref h_p0_past, .int v_kept, .ref h_p0_text, .int v_typed, .int v_thrown, .int v_at, .int v_isFault, .ref h_p0_told, .int v_tolds, .int v_one, .int v_other, .int v_change, .int v_woken])), (h_p0_now, .inl (cyI, 452, .inl v_now))] sz)) 0 0 (va_A [(h_p0, .inr (7, [.ref h_p0_now, .ref h_p0_then, .ref h_p0_past, .int v_kept, .ref h_p0_text, .int v_typed, .int v_thrown, .int v_at, .int v_isFault, .ref h_p0_told, .int v_tolds, .int v_one, .int v_other, .int v_change, .int v_woken])), (h_p0_now, .inl (cyI, 452, .inl v_now))] sz) := by
  refine Met.ofW (cc := cX7_freeOn) (maxL := 6) (ret := (some .int)) (by decide) rfl ?_
  intro p e s m args below meth c s₁ B hml hv
  obtain ⟨rfl, hsz, hP, hK, hD0, hNW⟩ := hv
  have hx := B.exec
  have hb := B.bytes
  have hr := B.returns
  have hts := atoms_spec (ws := wsX7_freeOn) B.pre
  have hown : s.vm.findClass RX7 = some m.cls := findClass_of_methodNamed B.named
  have hlocks := B.notSynchronized
  subst hsz
  have hD := hD0.self (sz := s.heap.size)
  generalize hAe : va_A [(h_p0, .inr (7, [.ref h_p0_now, .ref h_p0_then, .ref h_p0_past, .int v_kept, .ref h_p0_text, .int v_typed, .int v_thrown, .int v_at, .int v_isFault, .ref h_p0_told, .int v_tolds, .int v_one, .int v_other, .int v_change, .int v_woken])), (h_p0_now, .inl (cyI, 452, .inl v_now))] s.heap.size = A at hD ⊢
  have hA : ∀ q : Nat, s.heap.size ≤ q → A q := fun q h => by rw [← hAe]; exact Or.inr h
  have hS : va_S A s.heap s.heap [] := va_S.rf
  have hP : va_P (dC, dI) vwCl [(h_p0, .inr (7, [.ref h_p0_now, .ref h_p0_then, .ref h_p0_past, .int v_kept, .ref h_p0_text, .int v_typed, .int v_thrown, .int v_at, .int v_isFault, .ref h_p0_told, .int v_tolds, .int v_one, .int v_other, .int v_change, .int v_woken])), (h_p0_now, .inl (cyI, 452, .inl v_now))] s.heap := hP
  have L9 : ∀ (k : Nat), (∀ (x3 : Int32) (x4 : Int32) (x5 : Int32) (H : Heap) (locs : List Loc), va_P (dC, dI) vwCl [(h_p0, .inr (7, [.ref h_p0_now, .ref h_p0_then, .ref h_p0_past, .int v_kept, .ref h_p0_text, .int v_typed, .int v_thrown, .int v_at, .int v_isFault, .ref h_p0_told, .int v_tolds, .int v_one, .int v_other, .int v_change, .int v_woken])), (h_p0_now, .inl (cyI, 452, .inl v_now))] H → va_D A [(h_p0, .inr (7, [.ref h_p0_now, .ref h_p0_then, .ref h_p0_past, .int v_kept, .ref h_p0_text, .int v_typed, .int v_thrown, .int v_at, .int v_isFault, .ref h_p0_told, .int v_tolds, .int v_one, .int v_other, .int v_change, .int v_woken])), (h_p0_now, .inl (cyI, 452, .inl v_now))] → va_S A s.heap H locs → ∀ (ls : Array Slot), lv_has ls 6 [(0, .ref h_p0), (1, .int a1), (2, .int a2), (3, .int x3), (4, .int x4), (5, .int x5)] →  s_X7_freeOn_L9 n v_now a1 a2 k x3 x4 x5 = some o → W p l e (headSpec wsX7_freeOn ({ frames := 2, cells := 0, slots := 0, locals := 44 })).room s m (([.ref h_p0, .int a1, .int a2] : List Value).toArray) below meth c H locs 0 0 (MQ below (va_Qi (S := Unit) (fun r _ => r = o) (fun _ t => WLD (dC, dI) A [(h_p0, .inr (7, [.ref h_p0_now, .ref h_p0_then, .ref h_p0_past, .int v_kept, .ref h_p0_text, .int v_typed, .int v_thrown, .int v_at, .int v_isFault, .ref h_p0_told, .int v_tolds, .int v_one, .int v_other, .int v_change, .int v_woken])), (h_p0_now, .inl (cyI, 452, .inl v_now))] t) A) (([.ref h_p0, .int a1, .int a2] : List Value).toArray) s 0 0 A) (F0 m 9 ls [])) := by
    intro k
    induction k with
    | zero =>
      intro  x3 x4 x5 H locs hP hD hS ls hl h
      rw [s_X7_freeOn_L9] at h
      cases h
    | succ k ih =>
      intro  x3 x4 x5 H locs hP hD hS ls hl h
      rw [s_X7_freeOn_L9] at h
      refine lv_iload hx hb dX7_freeOn_9 (lv_at hl 5 rfl) ?_
      refine lv_if_lt (tgt := 63) hx hb dX7_freeOn_11 (by decide) (fun c1 => ?_) (fun c1 => ?_)
      · have h := ipos c1 h
        refine lv_iload_n hx hb dX7_freeOn_63 rfl (lv_at hl 2 rfl) ?_
        refine lv_if_ne (tgt := 71) hx hb dX7_freeOn_64 (by decide) (fun c2 => ?_) (fun c2 => ?_)
        · have h := ineg c2 h
          refine lv_iload hx hb dX7_freeOn_71 (lv_at hl 4 rfl) ?_
          obtain rfl := Option.some.inj h
          exact W.iret (v := x4) hx hb hr (fun t ht hW => ⟨⟨x4, (), rfl, rfl, WLD.of ht hP hD⟩, hS.F ht⟩) hS.2.2 dX7_freeOn_73
        · have h := ipos c2 h
          refine lv_iload_n hx hb dX7_freeOn_67 rfl (lv_at hl 3 rfl) ?_
          refine lv_goto (tgt := 73) hx hb dX7_freeOn_68 (by decide) ?_
          obtain rfl := Option.some.inj h
          exact W.iret (v := x3) hx hb hr (fun t ht hW => ⟨⟨x3, (), rfl, rfl, WLD.of ht hP hD⟩, hS.F ht⟩) hS.2.2 dX7_freeOn_73
      · have h := ineg c1 h
        refine lv_iload_n hx hb dX7_freeOn_14 rfl (lv_at hl 3 rfl) ?_
        refine lv_aload_n hx hb dX7_freeOn_15 rfl (lv_at hl 0 rfl) ?_
        refine va_get (D := (dC, dI)) (ci := 7) (v := .ref h_p0_now) (C := RX7) (T := TX7) (N := 15) hx hb hts m_X7_freeOn_0 hown hK hP 0 rfl rfl 0 (by decide) (hts (.fieldLink RX7 7 "SleeperBerthsModel" "now" "[I") m_X7_freeOn_1) (fun _ h9 => h9) rfl dX7_freeOn_16 ?_
        refine lv_iload hx hb dX7_freeOn_19 (lv_at hl 5 rfl) ?_
        refine lv_iload_n hx hb dX7_freeOn_21 rfl (lv_at hl 1 rfl) ?_
        obtain ⟨r3, e4, h⟩ := bsome h
        have hPc := sb_P [(h_p0_now, .inl (cyI, 452, .inl v_now))] hP [1] rfl
        have hDc := sb_D [(h_p0_now, .inl (cyI, 452, .inl v_now))] hD [1] (by decide) rfl
        have hFc := va_free (wc := [(h_p0_now, .inl (cyI, 452, .inl v_now))]) hD hS hA [1] rfl
        refine va_calli (va_runS (As := [.ref h_p0_now, .int x5, .int a1]) (rest := [.int x3]) ⟨hx, hb, hml, hown, hts⟩ (c_X7_canBeHad l dC dI cyI cyJ cyT h_p0_now H.size v_now x5 a1 r3 e4) (va_cwS 3 hts gX7_freeOn_X7_canBeHad rfl rfl rfl (by decide +kernel) ⟨Nat.le_of_ble_eq_true rfl, Nat.le_of_ble_eq_true rfl⟩) ⟨PRE.blind, PRE.go hK hPc hDc hNW⟩ rfl rfl hl.1 rfl (lv_room (Nat.le_of_ble_eq_true rfl)) dX7_freeOn_22 ⟨Nat.zero_le _, Nat.zero_le _⟩) hS (fun q _ h => hFc q h) hFc (fun z5 u t H locs ht hvm hw hB hz1 hk1 hS => ?_)
        subst z5
        obtain ⟨hP, hD⟩ := va_join (wr := [(h_p0, .inr (7, [.ref h_p0_now, .ref h_p0_then, .ref h_p0_past, .int v_kept, .ref h_p0_text, .int v_typed, .int v_thrown, .int v_at, .int v_isFault, .ref h_p0_told, .int v_tolds, .int v_one, .int v_other, .int v_change, .int v_woken]))]) (w1 := [(h_p0_now, .inl (cyI, 452, .inl v_now))]) hP hD [1] [0] rfl rfl (by decide) (by decide) hk1 hFc (WLD.P hB ht) hB.2
        have hP : va_P (dC, dI) vwCl [(h_p0, .inr (7, [.ref h_p0_now, .ref h_p0_then, .ref h_p0_past, .int v_kept, .ref h_p0_text, .int v_typed, .int v_thrown, .int v_at, .int v_isFault, .ref h_p0_told, .int v_tolds, .int v_one, .int v_other, .int v_change, .int v_woken])), (h_p0_now, .inl (cyI, 452, .inl v_now))] H := hP
        have hD : va_D A [(h_p0, .inr (7, [.ref h_p0_now, .ref h_p0_then, .ref h_p0_past, .int v_kept, .ref h_p0_text, .int v_typed, .int v_thrown, .int v_at, .int v_isFault, .ref h_p0_told, .int v_tolds, .int v_one, .int v_other, .int v_change, .int v_woken])), (h_p0_now, .inl (cyI, 452, .inl v_now))] := hD
        refine lv_if_eq (tgt := 32) hx hb dX7_freeOn_25 (by decide) (fun c6 => ?_) (fun c6 => ?_)
        · have h := ipos c6 h
          refine lv_iconst (v := iI 0) hx hb dX7_freeOn_32 rfl ?_
          refine lv_iadd hx hb dX7_freeOn_33 ?_
          refine lv_istore_n hx hb dX7_freeOn_34 rfl hl (by decide) (rfl : _ = ([(3, .int (x3 + iI 0)), (0, .ref h_p0), (1, .int a1), (2, .int a2), (4, .int x4), (5, .int x5)] : List (Nat × Value))) (fun ls hl => ?_)
          refine lv_aload_n hx hb dX7_freeOn_35 rfl (lv_at hl 1 rfl) ?_
          refine va_get (D := (dC, dI)) (ci := 7) (v := .ref h_p0_now) (C := RX7) (T := TX7) (N := 15) hx hb hts m_X7_freeOn_0 hown hK hP 0 rfl rfl 0 (by decide) (hts (.fieldLink RX7 7 "SleeperBerthsModel" "now" "[I") m_X7_freeOn_1) (fun _ h9 => h9) rfl dX7_freeOn_36 ?_
          refine lv_iload hx hb dX7_freeOn_39 (lv_at hl 5 rfl) ?_
          refine lv_iload_n hx hb dX7_freeOn_41 rfl (lv_at hl 2 rfl) ?_
          obtain ⟨r7, e8, h⟩ := bsome h
          have hPc := sb_P [(h_p0_now, .inl (cyI, 452, .inl v_now))] hP [1] rfl
          have hDc := sb_D [(h_p0_now, .inl (cyI, 452, .inl v_now))] hD [1] (by decide) rfl
          have hFc := va_free (wc := [(h_p0_now, .inl (cyI, 452, .inl v_now))]) hD hS hA [1] rfl
          refine va_calli (va_runS (As := [.ref h_p0_now, .int x5, .int a1]) (rest := []) ⟨hx, hb, hml, hown, hts⟩ (c_X7_canBeHad l dC dI cyI cyJ cyT h_p0_now H.size v_now x5 a1 r7 e8) (va_cwS 3 hts gX7_freeOn_X7_canBeHad rfl rfl rfl (by decide +kernel) ⟨Nat.le_of_ble_eq_true rfl, Nat.le_of_ble_eq_true rfl⟩) ⟨PRE.blind, PRE.go hK hPc hDc hNW⟩ rfl rfl hl.1 rfl (lv_room (Nat.le_of_ble_eq_true rfl)) dX7_freeOn_42 ⟨Nat.zero_le _, Nat.zero_le _⟩) hS (fun q _ h => hFc q h) hFc (fun z9 u t H locs ht hvm hw hB hz1 hk1 hS => ?_)
          subst z9
          obtain ⟨hP, hD⟩ := va_join (wr := [(h_p0, .inr (7, [.ref h_p0_now, .ref h_p0_then, .ref h_p0_past, .int v_kept, .ref h_p0_text, .int v_typed, .int v_thrown, .int v_at, .int v_isFault, .ref h_p0_told, .int v_tolds, .int v_one, .int v_other, .int v_change, .int v_woken]))]) (w1 := [(h_p0_now, .inl (cyI, 452, .inl v_now))]) hP hD [1] [0] rfl rfl (by decide) (by decide) hk1 hFc (WLD.P hB ht) hB.2
          have hP : va_P (dC, dI) vwCl [(h_p0, .inr (7, [.ref h_p0_now, .ref h_p0_then, .ref h_p0_past, .int v_kept, .ref h_p0_text, .int v_typed, .int v_thrown, .int v_at, .int v_isFault, .ref h_p0_told, .int v_tolds, .int v_one, .int v_other, .int v_change, .int v_woken])), (h_p0_now, .inl (cyI, 452, .inl v_now))] H := hP
          have hD : va_D A [(h_p0, .inr (7, [.ref h_p0_now, .ref h_p0_then, .ref h_p0_past, .int v_kept, .ref h_p0_text, .int v_typed, .int v_thrown, .int v_at, .int v_isFault, .ref h_p0_told, .int v_tolds, .int v_one, .int v_other, .int v_change, .int v_woken])), (h_p0_now, .inl (cyI, 452, .inl v_now))] := hD
          refine lv_if_eq (tgt := 53) hx hb dX7_freeOn_45 (by decide) (fun c10 => ?_) (fun c10 => ?_)
          · have h := ipos c10 h
            refine lv_iload hx hb dX7_freeOn_53 (lv_at hl 4 rfl) ?_
            refine lv_istore hx hb dX7_freeOn_55 hl (by decide) (rfl : _ = ([(4, .int x4), (3, .int (x3 + iI 0)), (0, .ref h_p0), (1, .int a1), (2, .int a2), (5, .int x5)] : List (Nat × Value))) (fun ls hl => ?_)
            refine lv_iinc (v := (x5 + iI (-1))) hx hb dX7_freeOn_57 hl (k := 5) rfl rfl (by decide) (rfl : _ = ([(5, .int (x5 + iI (-1))), (4, .int x4), (3, .int (x3 + iI 0)), (0, .ref h_p0), (1, .int a1), (2, .int a2)] : List (Nat × Value))) (fun ls hl => ?_)
            refine lv_goto (tgt := 9) hx hb dX7_freeOn_60 (by decide) ?_
            exact ih (x3 + iI 0) x4 (x5 + iI (-1)) _ _ hP hD hS ls (lv_sub hl [3, 4, 5, 2, 1, 0] rfl) h
          · have h := ineg c10 h
            refine lv_iload hx hb dX7_freeOn_48 (lv_at hl 5 rfl) ?_
            refine lv_goto (tgt := 55) hx hb dX7_freeOn_50 (by decide) ?_
            refine lv_istore hx hb dX7_freeOn_55 hl (by decide) (rfl : _ = ([(4, .int x5), (3, .int (x3 + iI 0)), (0, .ref h_p0), (1, .int a1), (2, .int a2), (5, .int x5)] : List (Nat × Value))) (fun ls hl => ?_)
            refine lv_iinc (v := (x5 + iI (-1))) hx hb dX7_freeOn_57 hl (k := 5) rfl rfl (by decide) (rfl : _ = ([(5, .int (x5 + iI (-1))), (4, .int x5), (3, .int (x3 + iI 0)), (0, .ref h_p0), (1, .int a1), (2, .int a2)] : List (Nat × Value))) (fun ls hl => ?_)
            refine lv_goto (tgt := 9) hx hb dX7_freeOn_60 (by decide) ?_
            exact ih (x3 + iI 0) x5 (x5 + iI (-1)) _ _ hP hD hS ls (lv_sub hl [3, 4, 5, 2, 1, 0] rfl) h
        · have h := ineg c6 h
          refine lv_iconst (v := iI 1) hx hb dX7_freeOn_28 rfl ?_
          refine lv_goto (tgt := 33) hx hb dX7_freeOn_29 (by decide) ?_
          refine lv_iadd hx hb dX7_freeOn_33 ?_
          refine lv_istore_n hx hb dX7_freeOn_34 rfl hl (by decide) (rfl : _ = ([(3, .int (x3 + iI 1)), (0, .ref h_p0), (1, .int a1), (2, .int a2), (4, .int x4), (5, .int x5)] : List (Nat × Value))) (fun ls hl => ?_)
          refine lv_aload_n hx hb dX7_freeOn_35 rfl (lv_at hl 1 rfl) ?_
          refine va_get (D := (dC, dI)) (ci := 7) (v := .ref h_p0_now) (C := RX7) (T := TX7) (N := 15) hx hb hts m_X7_freeOn_0 hown hK hP 0 rfl rfl 0 (by decide) (hts (.fieldLink RX7 7 "SleeperBerthsModel" "now" "[I") m_X7_freeOn_1) (fun _ h9 => h9) rfl dX7_freeOn_36 ?_
          refine lv_iload hx hb dX7_freeOn_39 (lv_at hl 5 rfl) ?_
          refine lv_iload_n hx hb dX7_freeOn_41 rfl (lv_at hl 2 rfl) ?_
          obtain ⟨r11, e12, h⟩ := bsome h
          have hPc := sb_P [(h_p0_now, .inl (cyI, 452, .inl v_now))] hP [1] rfl
          have hDc := sb_D [(h_p0_now, .inl (cyI, 452, .inl v_now))] hD [1] (by decide) rfl
          have hFc := va_free (wc := [(h_p0_now, .inl (cyI, 452, .inl v_now))]) hD hS hA [1] rfl
          refine va_calli (va_runS (As := [.ref h_p0_now, .int x5, .int a1]) (rest := []) ⟨hx, hb, hml, hown, hts⟩ (c_X7_canBeHad l dC dI cyI cyJ cyT h_p0_now H.size v_now x5 a1 r11 e12) (va_cwS 3 hts gX7_freeOn_X7_canBeHad rfl rfl rfl (by decide +kernel) ⟨Nat.le_of_ble_eq_true rfl, Nat.le_of_ble_eq_true rfl⟩) ⟨PRE.blind, PRE.go hK hPc hDc hNW⟩ rfl rfl hl.1 rfl (lv_room (Nat.le_of_ble_eq_true rfl)) dX7_freeOn_42 ⟨Nat.zero_le _, Nat.zero_le _⟩) hS (fun q _ h => hFc q h) hFc (fun z13 u t H locs ht hvm hw hB hz1 hk1 hS => ?_)
          subst z13
          obtain ⟨hP, hD⟩ := va_join (wr := [(h_p0, .inr (7, [.ref h_p0_now, .ref h_p0_then, .ref h_p0_past, .int v_kept, .ref h_p0_text, .int v_typed, .int v_thrown, .int v_at, .int v_isFault, .ref h_p0_told, .int v_tolds, .int v_one, .int v_other, .int v_change, .int v_woken]))]) (w1 := [(h_p0_now, .inl (cyI, 452, .inl v_now))]) hP hD [1] [0] rfl rfl (by decide) (by decide) hk1 hFc (WLD.P hB ht) hB.2
          have hP : va_P (dC, dI) vwCl [(h_p0, .inr (7, [.ref h_p0_now, .ref h_p0_then, .ref h_p0_past, .int v_kept, .ref h_p0_text, .int v_typed, .int v_thrown, .int v_at, .int v_isFault, .ref h_p0_told, .int v_tolds, .int v_one, .int v_other, .int v_change, .int v_woken])), (h_p0_now, .inl (cyI, 452, .inl v_now))] H := hP
          have hD : va_D A [(h_p0, .inr (7, [.ref h_p0_now, .ref h_p0_then, .ref h_p0_past, .int v_kept, .ref h_p0_text, .int v_typed, .int v_thrown, .int v_at, .int v_isFault, .ref h_p0_told, .int v_tolds, .int v_one, .int v_other, .int v_change, .int v_woken])), (h_p0_now, .inl (cyI, 452, .inl v_now))] := hD
          refine lv_if_eq (tgt := 53) hx hb dX7_freeOn_45 (by decide) (fun c14 => ?_) (fun c14 => ?_)
          · have h := ipos c14 h
            refine lv_iload hx hb dX7_freeOn_53 (lv_at hl 4 rfl) ?_
            refine lv_istore hx hb dX7_freeOn_55 hl (by decide) (rfl : _ = ([(4, .int x4), (3, .int (x3 + iI 1)), (0, .ref h_p0), (1, .int a1), (2, .int a2), (5, .int x5)] : List (Nat × Value))) (fun ls hl => ?_)
            refine lv_iinc (v := (x5 + iI (-1))) hx hb dX7_freeOn_57 hl (k := 5) rfl rfl (by decide) (rfl : _ = ([(5, .int (x5 + iI (-1))), (4, .int x4), (3, .int (x3 + iI 1)), (0, .ref h_p0), (1, .int a1), (2, .int a2)] : List (Nat × Value))) (fun ls hl => ?_)
            refine lv_goto (tgt := 9) hx hb dX7_freeOn_60 (by decide) ?_
            exact ih (x3 + iI 1) x4 (x5 + iI (-1)) _ _ hP hD hS ls (lv_sub hl [3, 4, 5, 2, 1, 0] rfl) h
          · have h := ineg c14 h
            refine lv_iload hx hb dX7_freeOn_48 (lv_at hl 5 rfl) ?_
            refine lv_goto (tgt := 55) hx hb dX7_freeOn_50 (by decide) ?_
            refine lv_istore hx hb dX7_freeOn_55 hl (by decide) (rfl : _ = ([(4, .int x5), (3, .int (x3 + iI 1)), (0, .ref h_p0), (1, .int a1), (2, .int a2), (5, .int x5)] : List (Nat × Value))) (fun ls hl => ?_)
            refine lv_iinc (v := (x5 + iI (-1))) hx hb dX7_freeOn_57 hl (k := 5) rfl rfl (by decide) (rfl : _ = ([(5, .int (x5 + iI (-1))), (4, .int x5), (3, .int (x3 + iI 1)), (0, .ref h_p0), (1, .int a1), (2, .int a2)] : List (Nat × Value))) (fun ls hl => ?_)
            refine lv_goto (tgt := 9) hx hb dX7_freeOn_60 (by decide) ?_
            exact ih (x3 + iI 1) x5 (x5 + iI (-1)) _ _ hP hD hS ls (lv_sub hl [3, 4, 5, 2, 1, 0] rfl) h
  have hl := lv_entry ([.ref h_p0, .int a1, .int a2]) (n := 6) (Nat.le_of_ble_eq_true rfl)
  rw [lg_entry_eq]
  generalize (lg_sl ([.ref h_p0, .int a1, .int a2]) ++ List.replicate (6 - (lg_sl ([.ref h_p0, .int a1, .int a2])).length) Slot.unset).toArray = ls at hl ⊢
  have hl : lv_has ls 6 [(0, .ref h_p0), (1, .int a1), (2, .int a2)] := hl
  unfold s_X7_freeOn at h
  refine lv_iconst (v := iI 0) hx hb dX7_freeOn_0 rfl ?_
  refine lv_istore_n hx hb dX7_freeOn_1 rfl hl (by decide) (rfl : _ = ([(3, .int (iI 0)), (0, .ref h_p0), (1, .int a1), (2, .int a2)] : List (Nat × Value))) (fun ls hl => ?_)
  refine lv_iconst (v := iI (-1)) hx hb dX7_freeOn_2 rfl ?_
  refine lv_istore hx hb dX7_freeOn_3 hl (by decide) (rfl : _ = ([(4, .int (iI (-1))), (3, .int (iI 0)), (0, .ref h_p0), (1, .int a1), (2, .int a2)] : List (Nat × Value))) (fun ls hl => ?_)
  refine lv_bipush (v := iI 17) hx hb dX7_freeOn_5 (by decide) ?_
  refine lv_istore hx hb dX7_freeOn_7 hl (by decide) (rfl : _ = ([(5, .int (iI 17)), (4, .int (iI (-1))), (3, .int (iI 0)), (0, .ref h_p0), (1, .int a1), (2, .int a2)] : List (Nat × Value))) (fun ls hl => ?_)
  exact L9 n (iI 0) (iI (-1)) (iI 17) _ _ hP hD hS ls (lv_sub hl [3, 4, 5, 2, 1, 0] rfl) h
def s_X7_free (n : Nat) (v_thrown : Int32) (v_now : Nat → Int32) (a1 : Int32) (a2 : Int32) : Option (Int32 × Int32) := ((s_X7_in a1 (iI 0) (iI 8)).bind fun r1 => (if r1 = 0 then ((s_X7_fails (iI 0) (iI 1)).bind fun r15 => (some (r15.1, r15.2))) else ((s_X7_in a2 (iI 0) (iI 1)).bind fun r5 => (if r5 = 0 then ((s_X7_fails (iI 0) (iI 2)).bind fun r9 => (some (r9.1, r9.2))) else ((s_X7_freeOn n v_now a1 a2).bind fun r12 => (some (r12, iI 0)))))))
set_option maxRecDepth 20000 in
theorem m_X7_free_0 : ∀ w ∈ u_ws RX7 TX7 15, w ∈ wsX7_free := by decide +kernel
set_option maxRecDepth 20000 in
theorem m_X7_free_1 : (.fieldLink RX7 25 "SleeperBerthsModel" "thrown" "I" : Cond) ∈ wsX7_free := by decide +kernel
set_option maxHeartbeats 4000000 in
set_option maxRecDepth 100000 in
theorem c_X7_free (l : Launch) (dC : Nat → ClassId) (dI : Nat → Nat → Nat) (cyI cyJ cyT : ClassId) (h_p0 : Nat) (h_p0_now : Nat) (h_p0_then : Nat) (h_p0_past : Nat) (h_p0_text : Nat) (h_p0_told : Nat) (sz : Nat) (v_kept : Int32) (v_typed : Int32) (v_thrown : Int32) (v_at : Int32) (v_isFault : Int32) (v_tolds : Int32) (v_one : Int32) (v_other : Int32) (v_change : Int32) (v_woken : Int32) (v_now : Nat → Int32) (a1 : Int32) (a2 : Int32) (n : Nat) (o : Int32 × Int32) (h : s_X7_free n v_thrown v_now a1 a2 = some o) : Met l yX7_free wsX7_free ({ frames := 3, cells := 0, slots := 0, locals := 69 }) (va_Pc [.ref h_p0, .int a1, .int a2] (PRE (dC, dI) (TYS cyI cyJ cyT) sz [(h_p0, .inr (7, [.ref h_p0_now, .ref h_p0_then, .ref h_p0_past, .int v_kept, .ref h_p0_text, .int v_typed, .int v_thrown, .int v_at, .int v_isFault, .ref h_p0_told, .int v_tolds, .int v_one, .int v_other, .int v_change, .int v_woken])), (h_p0_now, .inl (cyI, 452, .inl v_now))])) (va_Qi (S := Unit) (fun r _ => r = o.1) (fun _ t => WLD (dC, dI) (va_A [(h_p0, .inr (7, [.ref h_p0_now, .ref h_p0_then, .ref h_p0_past, .int v_kept, .ref h_p0_text, .int v_typed, .int v_thrown, .int v_at, .int v_isFault, .ref h_p0_told, .int v_tolds, .int v_one, .int v_other, .int v_change, .int v_woken])), (h_p0_now, .inl (cyI, 452, .inl v_now))] sz) [(h_p0, .inr (7, [.ref h_p0_now, .ref h_p0_then, .ref h_p0_past, .int v_kept, .ref h_p0_text, .int v_typed, .int o.2, .int v_at, .int v_isFault, .ref h_p0_told, .int v_tolds, .int v_one, .int v_other, .int v_change, .int v_woken])), (h_p0_now, .inl (cyI, 452, .inl v_now))] t) (va_A [(h_p0, .inr (7, [.ref h_p0_now, .ref h_p0_then, .ref h_p0_past, .int v_kept, .ref h_p0_text, .int v_typed, .int v_thrown, .int v_at, .int v_isFault, .ref h_p0_told, .int v_tolds, .int v_one, .int v_other, .int v_change, .int v_woken])), (h_p0_now, .inl (cyI, 452, .inl v_now))] sz)) 0 0 (va_A [(h_p0, .inr (7, [.ref h_p0_now, .ref h_p0_then, .ref h_p0_past, .int v_kept, .ref h_p0_text, .int v_typed, .int v_thrown, .int v_at, .int v_isFault, .ref h_p0_told, .int v_tolds, .int v_one, .int v_other, .int v_change, .int v_woken])), (h_p0_now, .inl (cyI, 452, .inl v_now))] sz) := by
  refine Met.ofW (cc := cX7_free) (maxL := 3) (ret := (some .int)) (by decide) rfl ?_
  intro p e s m args below meth c s₁ B hml hv
  obtain ⟨rfl, hsz, hP, hK, hD0, hNW⟩ := hv
  have hx := B.exec
  have hb := B.bytes
  have hr := B.returns
  have hts := atoms_spec (ws := wsX7_free) B.pre
  have hown : s.vm.findClass RX7 = some m.cls := findClass_of_methodNamed B.named
  have hlocks := B.notSynchronized
  subst hsz
  have hD := hD0.self (sz := s.heap.size)
  generalize hAe : va_A [(h_p0, .inr (7, [.ref h_p0_now, .ref h_p0_then, .ref h_p0_past, .int v_kept, .ref h_p0_text, .int v_typed, .int v_thrown, .int v_at, .int v_isFault, .ref h_p0_told, .int v_tolds, .int v_one, .int v_other, .int v_change, .int v_woken])), (h_p0_now, .inl (cyI, 452, .inl v_now))] s.heap.size = A at hD ⊢
  have hA : ∀ q : Nat, s.heap.size ≤ q → A q := fun q h => by rw [← hAe]; exact Or.inr h
  have hS : va_S A s.heap s.heap [] := va_S.rf
  have hP : va_P (dC, dI) vwCl [(h_p0, .inr (7, [.ref h_p0_now, .ref h_p0_then, .ref h_p0_past, .int v_kept, .ref h_p0_text, .int v_typed, .int v_thrown, .int v_at, .int v_isFault, .ref h_p0_told, .int v_tolds, .int v_one, .int v_other, .int v_change, .int v_woken])), (h_p0_now, .inl (cyI, 452, .inl v_now))] s.heap := hP
  have hl := lv_entry ([.ref h_p0, .int a1, .int a2]) (n := 3) (Nat.le_of_ble_eq_true rfl)
  rw [lg_entry_eq]
  generalize (lg_sl ([.ref h_p0, .int a1, .int a2]) ++ List.replicate (3 - (lg_sl ([.ref h_p0, .int a1, .int a2])).length) Slot.unset).toArray = ls at hl ⊢
  have hl : lv_has ls 3 [(0, .ref h_p0), (1, .int a1), (2, .int a2)] := hl
  unfold s_X7_free at h
  refine lv_aload_n hx hb dX7_free_0 rfl (lv_at hl 0 rfl) ?_
  refine lv_iconst (v := iI 0) hx hb dX7_free_1 rfl ?_
  refine va_put (D := (dC, dI)) (ci := 7) (v := .int (iI 0)) (ty := .int) (C := RX7) (T := TX7) (N := 15) hx hb hts m_X7_free_0 tyX7 tyX7_ok nmX7 hown hK hP hD hS 0 rfl rfl 6 (by decide) (hts (.fieldLink RX7 25 "SleeperBerthsModel" "thrown" "I") m_X7_free_1) (fun _ h9 => h9) rfl (by decide +kernel) rfl rfl (Nat.le_of_ble_eq_true rfl) dX7_free_2 (fun H locs hP hD hS => ?_)
  have hP : va_P (dC, dI) vwCl [(h_p0, .inr (7, [.ref h_p0_now, .ref h_p0_then, .ref h_p0_past, .int v_kept, .ref h_p0_text, .int v_typed, .int (iI 0), .int v_at, .int v_isFault, .ref h_p0_told, .int v_tolds, .int v_one, .int v_other, .int v_change, .int v_woken])), (h_p0_now, .inl (cyI, 452, .inl v_now))] H := hP
  have hD : va_D A [(h_p0, .inr (7, [.ref h_p0_now, .ref h_p0_then, .ref h_p0_past, .int v_kept, .ref h_p0_text, .int v_typed, .int (iI 0), .int v_at, .int v_isFault, .ref h_p0_told, .int v_tolds, .int v_one, .int v_other, .int v_change, .int v_woken])), (h_p0_now, .inl (cyI, 452, .inl v_now))] := hD
  refine lv_iload_n hx hb dX7_free_5 rfl (lv_at hl 1 rfl) ?_
  refine lv_iconst (v := iI 0) hx hb dX7_free_6 rfl ?_
  refine lv_bipush (v := iI 8) hx hb dX7_free_7 (by decide) ?_
  obtain ⟨r1, e2, h⟩ := bsome h
  have hPc := sb_P [] hP [] rfl
  have hDc := sb_D [] hD [] (by decide) rfl
  have hFc := va_free (wc := []) hD hS hA [] rfl
  refine va_calli (va_runS (As := [.int a1, .int (iI 0), .int (iI 8)]) (rest := []) ⟨hx, hb, hml, hown, hts⟩ (c_X7_in l dC dI cyI cyJ cyT H.size a1 (iI 0) (iI 8) r1 e2) (va_cwS 3 hts gX7_free_X7_in rfl rfl rfl (by decide +kernel) ⟨Nat.le_of_ble_eq_true rfl, Nat.le_of_ble_eq_true rfl⟩) ⟨PRE.blind, PRE.go hK hPc hDc hNW⟩ rfl rfl hl.1 rfl (lv_room (Nat.le_of_ble_eq_true rfl)) dX7_free_9 ⟨Nat.zero_le _, Nat.zero_le _⟩) hS (fun q _ h => hFc q h) hFc (fun z3 u t H locs ht hvm hw hB hz1 hk1 hS => ?_)
  subst z3
  obtain ⟨hP, hD⟩ := va_join (wr := [(h_p0, .inr (7, [.ref h_p0_now, .ref h_p0_then, .ref h_p0_past, .int v_kept, .ref h_p0_text, .int v_typed, .int (iI 0), .int v_at, .int v_isFault, .ref h_p0_told, .int v_tolds, .int v_one, .int v_other, .int v_change, .int v_woken])), (h_p0_now, .inl (cyI, 452, .inl v_now))]) (w1 := []) hP hD [] [0, 1] rfl rfl (by decide) (by decide) hk1 hFc (WLD.P hB ht) hB.2
  have hP : va_P (dC, dI) vwCl [(h_p0, .inr (7, [.ref h_p0_now, .ref h_p0_then, .ref h_p0_past, .int v_kept, .ref h_p0_text, .int v_typed, .int (iI 0), .int v_at, .int v_isFault, .ref h_p0_told, .int v_tolds, .int v_one, .int v_other, .int v_change, .int v_woken])), (h_p0_now, .inl (cyI, 452, .inl v_now))] H := hP
  have hD : va_D A [(h_p0, .inr (7, [.ref h_p0_now, .ref h_p0_then, .ref h_p0_past, .int v_kept, .ref h_p0_text, .int v_typed, .int (iI 0), .int v_at, .int v_isFault, .ref h_p0_told, .int v_tolds, .int v_one, .int v_other, .int v_change, .int v_woken])), (h_p0_now, .inl (cyI, 452, .inl v_now))] := hD
  refine lv_if_ne (tgt := 21) hx hb dX7_free_12 (by decide) (fun c4 => ?_) (fun c4 => ?_)
  · have h := ineg c4 h
    refine lv_iload_n hx hb dX7_free_21 rfl (lv_at hl 2 rfl) ?_
    refine lv_iconst (v := iI 0) hx hb dX7_free_22 rfl ?_
    refine lv_iconst (v := iI 1) hx hb dX7_free_23 rfl ?_
    obtain ⟨r5, e6, h⟩ := bsome h
    have hPc := sb_P [] hP [] rfl
    have hDc := sb_D [] hD [] (by decide) rfl
    have hFc := va_free (wc := []) hD hS hA [] rfl
    refine va_calli (va_runS (As := [.int a2, .int (iI 0), .int (iI 1)]) (rest := []) ⟨hx, hb, hml, hown, hts⟩ (c_X7_in l dC dI cyI cyJ cyT H.size a2 (iI 0) (iI 1) r5 e6) (va_cwS 3 hts gX7_free_X7_in rfl rfl rfl (by decide +kernel) ⟨Nat.le_of_ble_eq_true rfl, Nat.le_of_ble_eq_true rfl⟩) ⟨PRE.blind, PRE.go hK hPc hDc hNW⟩ rfl rfl hl.1 rfl (lv_room (Nat.le_of_ble_eq_true rfl)) dX7_free_24 ⟨Nat.zero_le _, Nat.zero_le _⟩) hS (fun q _ h => hFc q h) hFc (fun z7 u t H locs ht hvm hw hB hz1 hk1 hS => ?_)
    subst z7
    obtain ⟨hP, hD⟩ := va_join (wr := [(h_p0, .inr (7, [.ref h_p0_now, .ref h_p0_then, .ref h_p0_past, .int v_kept, .ref h_p0_text, .int v_typed, .int (iI 0), .int v_at, .int v_isFault, .ref h_p0_told, .int v_tolds, .int v_one, .int v_other, .int v_change, .int v_woken])), (h_p0_now, .inl (cyI, 452, .inl v_now))]) (w1 := []) hP hD [] [0, 1] rfl rfl (by decide) (by decide) hk1 hFc (WLD.P hB ht) hB.2
    have hP : va_P (dC, dI) vwCl [(h_p0, .inr (7, [.ref h_p0_now, .ref h_p0_then, .ref h_p0_past, .int v_kept, .ref h_p0_text, .int v_typed, .int (iI 0), .int v_at, .int v_isFault, .ref h_p0_told, .int v_tolds, .int v_one, .int v_other, .int v_change, .int v_woken])), (h_p0_now, .inl (cyI, 452, .inl v_now))] H := hP
    have hD : va_D A [(h_p0, .inr (7, [.ref h_p0_now, .ref h_p0_then, .ref h_p0_past, .int v_kept, .ref h_p0_text, .int v_typed, .int (iI 0), .int v_at, .int v_isFault, .ref h_p0_told, .int v_tolds, .int v_one, .int v_other, .int v_change, .int v_woken])), (h_p0_now, .inl (cyI, 452, .inl v_now))] := hD
    refine lv_if_eq (tgt := 39) hx hb dX7_free_27 (by decide) (fun c8 => ?_) (fun c8 => ?_)
    · have h := ipos c8 h
      refine lv_aload_n hx hb dX7_free_39 rfl (lv_at hl 0 rfl) ?_
      refine lv_iconst (v := iI 2) hx hb dX7_free_40 rfl ?_
      obtain ⟨r9, e10, h⟩ := bsome h
      have hPc := sb_P [(h_p0, .inr (7, [.ref h_p0_now, .ref h_p0_then, .ref h_p0_past, .int v_kept, .ref h_p0_text, .int v_typed, .int (iI 0), .int v_at, .int v_isFault, .ref h_p0_told, .int v_tolds, .int v_one, .int v_other, .int v_change, .int v_woken]))] hP [0] rfl
      have hDc := sb_D [(h_p0, .inr (7, [.ref h_p0_now, .ref h_p0_then, .ref h_p0_past, .int v_kept, .ref h_p0_text, .int v_typed, .int (iI 0), .int v_at, .int v_isFault, .ref h_p0_told, .int v_tolds, .int v_one, .int v_other, .int v_change, .int v_woken]))] hD [0] (by decide) rfl
      have hFc := va_free (wc := [(h_p0, .inr (7, [.ref h_p0_now, .ref h_p0_then, .ref h_p0_past, .int v_kept, .ref h_p0_text, .int v_typed, .int (iI 0), .int v_at, .int v_isFault, .ref h_p0_told, .int v_tolds, .int v_one, .int v_other, .int v_change, .int v_woken]))]) hD hS hA [0] rfl
      refine va_calli (va_runV (As := [.int (iI 2)]) (rest := []) ⟨hx, hb, hml, hown, hts⟩ (c_X7_fails l dC dI cyI cyJ cyT h_p0 h_p0_now h_p0_then h_p0_past h_p0_text h_p0_told H.size v_kept v_typed (iI 0) v_at v_isFault v_tolds v_one v_other v_change v_woken (iI 2) r9 e10) (cwV 1 hts gX7_free_X7_fails rfl rfl rfl (by decide +kernel) ⟨Nat.le_of_ble_eq_true rfl, Nat.le_of_ble_eq_true rfl⟩) ⟨PRE.blind, va_recv hK hPc (ci := 7) (q0 := 0) rfl rfl, PRE.go hK hPc hDc hNW⟩ rfl rfl hl.1 rfl (lv_room (Nat.le_of_ble_eq_true rfl)) dX7_free_41 ⟨Nat.zero_le _, Nat.zero_le _⟩) hS (fun q _ h => hFc q h) hFc (fun z11 u t H locs ht hvm hw hB hz1 hk1 hS => ?_)
      subst z11
      obtain ⟨hP, hD⟩ := va_join (wr := [(h_p0_now, .inl (cyI, 452, .inl v_now))]) (w1 := [(h_p0, .inr (7, [.ref h_p0_now, .ref h_p0_then, .ref h_p0_past, .int v_kept, .ref h_p0_text, .int v_typed, .int r9.2, .int v_at, .int v_isFault, .ref h_p0_told, .int v_tolds, .int v_one, .int v_other, .int v_change, .int v_woken]))]) hP hD [0] [1] rfl rfl (by decide) (by decide) hk1 hFc (WLD.P hB ht) hB.2
      have hP : va_P (dC, dI) vwCl [(h_p0_now, .inl (cyI, 452, .inl v_now)), (h_p0, .inr (7, [.ref h_p0_now, .ref h_p0_then, .ref h_p0_past, .int v_kept, .ref h_p0_text, .int v_typed, .int r9.2, .int v_at, .int v_isFault, .ref h_p0_told, .int v_tolds, .int v_one, .int v_other, .int v_change, .int v_woken]))] H := hP
      have hD : va_D A [(h_p0_now, .inl (cyI, 452, .inl v_now)), (h_p0, .inr (7, [.ref h_p0_now, .ref h_p0_then, .ref h_p0_past, .int v_kept, .ref h_p0_text, .int v_typed, .int r9.2, .int v_at, .int v_isFault, .ref h_p0_told, .int v_tolds, .int v_one, .int v_other, .int v_change, .int v_woken]))] := hD
      obtain rfl := Option.some.inj h
      exact W.iret (v := r9.1) hx hb hr (fun t ht hW => ⟨⟨r9.1, (), rfl, rfl, WLD.of ht (sb_P [(h_p0, .inr (7, [.ref h_p0_now, .ref h_p0_then, .ref h_p0_past, .int v_kept, .ref h_p0_text, .int v_typed, .int r9.2, .int v_at, .int v_isFault, .ref h_p0_told, .int v_tolds, .int v_one, .int v_other, .int v_change, .int v_woken])), (h_p0_now, .inl (cyI, 452, .inl v_now))] hP [1, 0] rfl) (sb_D [(h_p0, .inr (7, [.ref h_p0_now, .ref h_p0_then, .ref h_p0_past, .int v_kept, .ref h_p0_text, .int v_typed, .int r9.2, .int v_at, .int v_isFault, .ref h_p0_told, .int v_tolds, .int v_one, .int v_other, .int v_change, .int v_woken])), (h_p0_now, .inl (cyI, 452, .inl v_now))] hD [1, 0] (by decide) rfl)⟩, hS.F ht⟩) hS.2.2 dX7_free_44
    · have h := ineg c8 h
      refine lv_aload_n hx hb dX7_free_30 rfl (lv_at hl 0 rfl) ?_
      refine lv_iload_n hx hb dX7_free_31 rfl (lv_at hl 1 rfl) ?_
      refine lv_iload_n hx hb dX7_free_32 rfl (lv_at hl 2 rfl) ?_
      obtain ⟨r12, e13, h⟩ := bsome h
      have hPc := sb_P [(h_p0, .inr (7, [.ref h_p0_now, .ref h_p0_then, .ref h_p0_past, .int v_kept, .ref h_p0_text, .int v_typed, .int (iI 0), .int v_at, .int v_isFault, .ref h_p0_told, .int v_tolds, .int v_one, .int v_other, .int v_change, .int v_woken])), (h_p0_now, .inl (cyI, 452, .inl v_now))] hP [0, 1] rfl
      have hDc := sb_D [(h_p0, .inr (7, [.ref h_p0_now, .ref h_p0_then, .ref h_p0_past, .int v_kept, .ref h_p0_text, .int v_typed, .int (iI 0), .int v_at, .int v_isFault, .ref h_p0_told, .int v_tolds, .int v_one, .int v_other, .int v_change, .int v_woken])), (h_p0_now, .inl (cyI, 452, .inl v_now))] hD [0, 1] (by decide) rfl
      have hFc := va_free (wc := [(h_p0, .inr (7, [.ref h_p0_now, .ref h_p0_then, .ref h_p0_past, .int v_kept, .ref h_p0_text, .int v_typed, .int (iI 0), .int v_at, .int v_isFault, .ref h_p0_told, .int v_tolds, .int v_one, .int v_other, .int v_change, .int v_woken])), (h_p0_now, .inl (cyI, 452, .inl v_now))]) hD hS hA [0, 1] rfl
      refine va_calli (va_runV (As := [.int a1, .int a2]) (rest := []) ⟨hx, hb, hml, hown, hts⟩ (c_X7_freeOn l dC dI cyI cyJ cyT h_p0 h_p0_now h_p0_then h_p0_past h_p0_text h_p0_told H.size v_kept v_typed (iI 0) v_at v_isFault v_tolds v_one v_other v_change v_woken v_now a1 a2 n r12 e13) (cwV 2 hts gX7_free_X7_freeOn rfl rfl rfl (by decide +kernel) ⟨Nat.le_of_ble_eq_true rfl, Nat.le_of_ble_eq_true rfl⟩) ⟨PRE.blind, va_recv hK hPc (ci := 7) (q0 := 0) rfl rfl, PRE.go hK hPc hDc hNW⟩ rfl rfl hl.1 rfl (lv_room (Nat.le_of_ble_eq_true rfl)) dX7_free_33 ⟨Nat.zero_le _, Nat.zero_le _⟩) hS (fun q _ h => hFc q h) hFc (fun z14 u t H locs ht hvm hw hB hz1 hk1 hS => ?_)
      subst z14
      obtain ⟨hP, hD⟩ := va_join (wr := []) (w1 := [(h_p0, .inr (7, [.ref h_p0_now, .ref h_p0_then, .ref h_p0_past, .int v_kept, .ref h_p0_text, .int v_typed, .int (iI 0), .int v_at, .int v_isFault, .ref h_p0_told, .int v_tolds, .int v_one, .int v_other, .int v_change, .int v_woken])), (h_p0_now, .inl (cyI, 452, .inl v_now))]) hP hD [0, 1] [] rfl rfl (by decide) (by decide) hk1 hFc (WLD.P hB ht) hB.2
      have hP : va_P (dC, dI) vwCl [(h_p0, .inr (7, [.ref h_p0_now, .ref h_p0_then, .ref h_p0_past, .int v_kept, .ref h_p0_text, .int v_typed, .int (iI 0), .int v_at, .int v_isFault, .ref h_p0_told, .int v_tolds, .int v_one, .int v_other, .int v_change, .int v_woken])), (h_p0_now, .inl (cyI, 452, .inl v_now))] H := hP
      have hD : va_D A [(h_p0, .inr (7, [.ref h_p0_now, .ref h_p0_then, .ref h_p0_past, .int v_kept, .ref h_p0_text, .int v_typed, .int (iI 0), .int v_at, .int v_isFault, .ref h_p0_told, .int v_tolds, .int v_one, .int v_other, .int v_change, .int v_woken])), (h_p0_now, .inl (cyI, 452, .inl v_now))] := hD
      refine lv_goto (tgt := 44) hx hb dX7_free_36 (by decide) ?_
      obtain rfl := Option.some.inj h
      exact W.iret (v := r12) hx hb hr (fun t ht hW => ⟨⟨r12, (), rfl, rfl, WLD.of ht hP hD⟩, hS.F ht⟩) hS.2.2 dX7_free_44
  · have h := ipos c4 h
    refine lv_aload_n hx hb dX7_free_15 rfl (lv_at hl 0 rfl) ?_
    refine lv_iconst (v := iI 1) hx hb dX7_free_16 rfl ?_
    obtain ⟨r15, e16, h⟩ := bsome h
    have hPc := sb_P [(h_p0, .inr (7, [.ref h_p0_now, .ref h_p0_then, .ref h_p0_past, .int v_kept, .ref h_p0_text, .int v_typed, .int (iI 0), .int v_at, .int v_isFault, .ref h_p0_told, .int v_tolds, .int v_one, .int v_other, .int v_change, .int v_woken]))] hP [0] rfl
    have hDc := sb_D [(h_p0, .inr (7, [.ref h_p0_now, .ref h_p0_then, .ref h_p0_past, .int v_kept, .ref h_p0_text, .int v_typed, .int (iI 0), .int v_at, .int v_isFault, .ref h_p0_told, .int v_tolds, .int v_one, .int v_other, .int v_change, .int v_woken]))] hD [0] (by decide) rfl
    have hFc := va_free (wc := [(h_p0, .inr (7, [.ref h_p0_now, .ref h_p0_then, .ref h_p0_past, .int v_kept, .ref h_p0_text, .int v_typed, .int (iI 0), .int v_at, .int v_isFault, .ref h_p0_told, .int v_tolds, .int v_one, .int v_other, .int v_change, .int v_woken]))]) hD hS hA [0] rfl
    refine va_calli (va_runV (As := [.int (iI 1)]) (rest := []) ⟨hx, hb, hml, hown, hts⟩ (c_X7_fails l dC dI cyI cyJ cyT h_p0 h_p0_now h_p0_then h_p0_past h_p0_text h_p0_told H.size v_kept v_typed (iI 0) v_at v_isFault v_tolds v_one v_other v_change v_woken (iI 1) r15 e16) (cwV 1 hts gX7_free_X7_fails rfl rfl rfl (by decide +kernel) ⟨Nat.le_of_ble_eq_true rfl, Nat.le_of_ble_eq_true rfl⟩) ⟨PRE.blind, va_recv hK hPc (ci := 7) (q0 := 0) rfl rfl, PRE.go hK hPc hDc hNW⟩ rfl rfl hl.1 rfl (lv_room (Nat.le_of_ble_eq_true rfl)) dX7_free_17 ⟨Nat.zero_le _, Nat.zero_le _⟩) hS (fun q _ h => hFc q h) hFc (fun z17 u t H locs ht hvm hw hB hz1 hk1 hS => ?_)
    subst z17
    obtain ⟨hP, hD⟩ := va_join (wr := [(h_p0_now, .inl (cyI, 452, .inl v_now))]) (w1 := [(h_p0, .inr (7, [.ref h_p0_now, .ref h_p0_then, .ref h_p0_past, .int v_kept, .ref h_p0_text, .int v_typed, .int r15.2, .int v_at, .int v_isFault, .ref h_p0_told, .int v_tolds, .int v_one, .int v_other, .int v_change, .int v_woken]))]) hP hD [0] [1] rfl rfl (by decide) (by decide) hk1 hFc (WLD.P hB ht) hB.2
    have hP : va_P (dC, dI) vwCl [(h_p0_now, .inl (cyI, 452, .inl v_now)), (h_p0, .inr (7, [.ref h_p0_now, .ref h_p0_then, .ref h_p0_past, .int v_kept, .ref h_p0_text, .int v_typed, .int r15.2, .int v_at, .int v_isFault, .ref h_p0_told, .int v_tolds, .int v_one, .int v_other, .int v_change, .int v_woken]))] H := hP
    have hD : va_D A [(h_p0_now, .inl (cyI, 452, .inl v_now)), (h_p0, .inr (7, [.ref h_p0_now, .ref h_p0_then, .ref h_p0_past, .int v_kept, .ref h_p0_text, .int v_typed, .int r15.2, .int v_at, .int v_isFault, .ref h_p0_told, .int v_tolds, .int v_one, .int v_other, .int v_change, .int v_woken]))] := hD
    obtain rfl := Option.some.inj h
    exact W.iret (v := r15.1) hx hb hr (fun t ht hW => ⟨⟨r15.1, (), rfl, rfl, WLD.of ht (sb_P [(h_p0, .inr (7, [.ref h_p0_now, .ref h_p0_then, .ref h_p0_past, .int v_kept, .ref h_p0_text, .int v_typed, .int r15.2, .int v_at, .int v_isFault, .ref h_p0_told, .int v_tolds, .int v_one, .int v_other, .int v_change, .int v_woken])), (h_p0_now, .inl (cyI, 452, .inl v_now))] hP [1, 0] rfl) (sb_D [(h_p0, .inr (7, [.ref h_p0_now, .ref h_p0_then, .ref h_p0_past, .int v_kept, .ref h_p0_text, .int v_typed, .int r15.2, .int v_at, .int v_isFault, .ref h_p0_told, .int v_tolds, .int v_one, .int v_other, .int v_change, .int v_woken])), (h_p0_now, .inl (cyI, 452, .inl v_now))] hD [1, 0] (by decide) rfl)⟩, hS.F ht⟩) hS.2.2 dX7_free_20
