def s_X6_holder (v_holders : Nat → Int32) (a1 : Int32) (a2 : Int32) : Option (Nat × Int32) := ((s_X6_isBelow a1 (iI 18)).bind fun r1 => (if r1 = 0 then (some (3, 0)) else ((s_X6_isBelow a2 (iI 9)).bind fun r6 => (if r6 = 0 then (some (3, 0)) else ((s_X0_holderOn v_holders a1 a2).bind fun r10 => (some (0, r10)))))))
set_option maxRecDepth 20000 in
theorem m_X6_holder_0 : ∀ w ∈ (vx_atS RX6 88 "java/lang/IndexOutOfBoundsException" ["java/lang/RuntimeException", "java/lang/Exception"]).filter goodWord, w ∈ wsX6_holder := by decide +kernel
set_option maxRecDepth 20000 in
theorem m_X6_holder_1 : (.classLink RX6 84 "java/lang/IndexOutOfBoundsException" : Cond) ∈ wsX6_holder := by decide +kernel
set_option maxRecDepth 20000 in
theorem m_X6_holder_2 : (.initialized "java/lang/IndexOutOfBoundsException" : Cond) ∈ wsX6_holder := by decide +kernel
set_option maxRecDepth 20000 in
theorem m_X6_holder_3 : ∀ w ∈ u_ws RX6 TX6 3, w ∈ wsX6_holder := by decide +kernel
set_option maxRecDepth 20000 in
theorem m_X6_holder_4 : (.fieldLink RX6 12 "SleeperBerths" "train" "LSleeperBerths$Train;" : Cond) ∈ wsX6_holder := by decide +kernel
set_option maxRecDepth 20000 in
theorem m_X6_holder_5 : ∀ w ∈ u_ws RX5 TX5 6, w ∈ wsX6_holder := by decide +kernel
set_option maxRecDepth 20000 in
theorem m_X6_holder_6 : (.fieldLink RX6 121 "SleeperBerths$Train" "berths" "LSleeperBerths$Berths;" : Cond) ∈ wsX6_holder := by decide +kernel
set_option maxHeartbeats 4000000 in
set_option maxRecDepth 100000 in
theorem c_X6_holder (l : Launch) (hl0 : l.stackTraces = false) (dC : Nat → ClassId) (dI : Nat → Nat → Nat) (cyI cyJ cyT : ClassId) (h_p0 : Nat) (h_p0_train : Nat) (h_p0_history : Nat) (h_p0_text : Nat) (h_p0_train_berths : Nat) (h_p0_train_roster : Nat) (h_p0_train_settings : Nat) (h_p0_train_berths_holders : Nat) (h_p0_train_berths_ends : Nat) (sz : Nat) (v_nextNumber : Int32) (v_bookings : Int32) (v_leftOut : Int32) (v_holders : Nat → Int32) (a1 : Int32) (a2 : Int32) (o : Nat × Int32) (h : s_X6_holder v_holders a1 a2 = some o) : vx_Met l yX6_holder wsX6_holder ({ frames := 6, cells := 1, slots := 6, locals := 90 }) (va_Pc [.ref h_p0, .int a1, .int a2] (PREX (dC, dI) (TYS cyI cyJ cyT) sz [(h_p0, .inr (6, [.ref h_p0_train, .ref h_p0_history, .ref h_p0_text])), (h_p0_train, .inr (5, [.ref h_p0_train_berths, .ref h_p0_train_roster, .ref h_p0_train_settings, .int v_nextNumber, .int v_bookings, .int v_leftOut])), (h_p0_train_berths, .inr (0, [.ref h_p0_train_berths_holders, .ref h_p0_train_berths_ends])), (h_p0_train_berths_holders, .inl (cyI, 162, .inl v_holders))])) (va_Qi (S := Unit) (fun r _ => o.1 = 0 ∧ r = o.2) (fun _ t => WLD (dC, dI) (va_A [(h_p0, .inr (6, [.ref h_p0_train, .ref h_p0_history, .ref h_p0_text])), (h_p0_train, .inr (5, [.ref h_p0_train_berths, .ref h_p0_train_roster, .ref h_p0_train_settings, .int v_nextNumber, .int v_bookings, .int v_leftOut])), (h_p0_train_berths, .inr (0, [.ref h_p0_train_berths_holders, .ref h_p0_train_berths_ends])), (h_p0_train_berths_holders, .inl (cyI, 162, .inl v_holders))] sz) [(h_p0, .inr (6, [.ref h_p0_train, .ref h_p0_history, .ref h_p0_text])), (h_p0_train, .inr (5, [.ref h_p0_train_berths, .ref h_p0_train_roster, .ref h_p0_train_settings, .int v_nextNumber, .int v_bookings, .int v_leftOut])), (h_p0_train_berths, .inr (0, [.ref h_p0_train_berths_holders, .ref h_p0_train_berths_ends])), (h_p0_train_berths_holders, .inl (cyI, 162, .inl v_holders))] t) (va_A [(h_p0, .inr (6, [.ref h_p0_train, .ref h_p0_history, .ref h_p0_text])), (h_p0_train, .inr (5, [.ref h_p0_train_berths, .ref h_p0_train_roster, .ref h_p0_train_settings, .int v_nextNumber, .int v_bookings, .int v_leftOut])), (h_p0_train_berths, .inr (0, [.ref h_p0_train_berths_holders, .ref h_p0_train_berths_ends])), (h_p0_train_berths_holders, .inl (cyI, 162, .inl v_holders))] sz)) (vx_X (S := Unit) (fun _ => True) (fun E _ t => XWL (dC, dI) (va_A [(h_p0, .inr (6, [.ref h_p0_train, .ref h_p0_history, .ref h_p0_text])), (h_p0_train, .inr (5, [.ref h_p0_train_berths, .ref h_p0_train_roster, .ref h_p0_train_settings, .int v_nextNumber, .int v_bookings, .int v_leftOut])), (h_p0_train_berths, .inr (0, [.ref h_p0_train_berths_holders, .ref h_p0_train_berths_ends])), (h_p0_train_berths_holders, .inl (cyI, 162, .inl v_holders))] sz) o.1 E [(h_p0, .inr (6, [.ref h_p0_train, .ref h_p0_history, .ref h_p0_text])), (h_p0_train, .inr (5, [.ref h_p0_train_berths, .ref h_p0_train_roster, .ref h_p0_train_settings, .int v_nextNumber, .int v_bookings, .int v_leftOut])), (h_p0_train_berths, .inr (0, [.ref h_p0_train_berths_holders, .ref h_p0_train_berths_ends])), (h_p0_train_berths_holders, .inl (cyI, 162, .inl v_holders))] t) (va_A [(h_p0, .inr (6, [.ref h_p0_train, .ref h_p0_history, .ref h_p0_text])), (h_p0_train, .inr (5, [.ref h_p0_train_berths, .ref h_p0_train_roster, .ref h_p0_train_settings, .int v_nextNumber, .int v_bookings, .int v_leftOut])), (h_p0_train_berths, .inr (0, [.ref h_p0_train_berths_holders, .ref h_p0_train_berths_ends])), (h_p0_train_berths_holders, .inl (cyI, 162, .inl v_holders))] sz)) 1 6 (va_A [(h_p0, .inr (6, [.ref h_p0_train, .ref h_p0_history, .ref h_p0_text])), (h_p0_train, .inr (5, [.ref h_p0_train_berths, .ref h_p0_train_roster, .ref h_p0_train_settings, .int v_nextNumber, .int v_bookings, .int v_leftOut])), (h_p0_train_berths, .inr (0, [.ref h_p0_train_berths_holders, .ref h_p0_train_berths_ends])), (h_p0_train_berths_holders, .inl (cyI, 162, .inl v_holders))] sz) := by
  refine vx_ofW (cc := cX6_holder) (maxL := 3) (ret := (some .int)) (by decide) rfl ?_
  intro p e s m args below meth c s₁ B hml hno hv
  obtain ⟨rfl, ⟨hsz, hP, hK, hD0, hNW⟩, hXR, hXS⟩ := hv
  have hx := B.exec
  have hb := B.bytes
  have hr := B.returns
  have hts := atoms_spec (ws := wsX6_holder) B.pre
  have hown : s.vm.findClass RX6 = some m.cls := findClass_of_methodNamed B.named
  have hlocks := B.notSynchronized
  subst hsz
  have hD := hD0.self (sz := s.heap.size)
  generalize hAe : va_A [(h_p0, .inr (6, [.ref h_p0_train, .ref h_p0_history, .ref h_p0_text])), (h_p0_train, .inr (5, [.ref h_p0_train_berths, .ref h_p0_train_roster, .ref h_p0_train_settings, .int v_nextNumber, .int v_bookings, .int v_leftOut])), (h_p0_train_berths, .inr (0, [.ref h_p0_train_berths_holders, .ref h_p0_train_berths_ends])), (h_p0_train_berths_holders, .inl (cyI, 162, .inl v_holders))] s.heap.size = A at hD hXS ⊢
  have hA : ∀ q : Nat, s.heap.size ≤ q → A q := fun q h => by rw [← hAe]; exact Or.inr h
  have hS : va_S A s.heap s.heap [] := va_S.rf
  have hP : va_P (dC, dI) vwCl [(h_p0, .inr (6, [.ref h_p0_train, .ref h_p0_history, .ref h_p0_text])), (h_p0_train, .inr (5, [.ref h_p0_train_berths, .ref h_p0_train_roster, .ref h_p0_train_settings, .int v_nextNumber, .int v_bookings, .int v_leftOut])), (h_p0_train_berths, .inr (0, [.ref h_p0_train_berths_holders, .ref h_p0_train_berths_ends])), (h_p0_train_berths_holders, .inl (cyI, 162, .inl v_holders))] s.heap := hP
  have hl := lv_entry ([.ref h_p0, .int a1, .int a2]) (n := 3) (Nat.le_of_ble_eq_true rfl)
  rw [lg_entry_eq]
  generalize (lg_sl ([.ref h_p0, .int a1, .int a2]) ++ List.replicate (3 - (lg_sl ([.ref h_p0, .int a1, .int a2])).length) Slot.unset).toArray = ls at hl ⊢
  have hl : lv_has ls 3 [(0, .ref h_p0), (1, .int a1), (2, .int a2)] := hl
  unfold s_X6_holder at h
  refine lv_iload_n hx hb dX6_holder_0 rfl (lv_at hl 1 rfl) ?_
  refine lv_bipush (v := iI 18) hx hb dX6_holder_1 (by decide) ?_
  obtain ⟨r1, e2, h⟩ := bsome h
  have hPc := sb_P [] hP [] rfl
  have hDc := sb_D [] hD [] (by decide) rfl
  have hFc := va_free (wc := []) hD hS hA [] rfl
  refine va_calli (va_runS (As := [.int a1, .int (iI 18)]) (rest := []) ⟨hx, hb, hml, hown, hts⟩ (c_X6_isBelow l dC dI cyI cyJ cyT s.heap.size a1 (iI 18) r1 e2) (va_cwS 2 hts gX6_holder_X6_isBelow rfl rfl rfl (by decide +kernel) ⟨Nat.le_of_ble_eq_true rfl, Nat.le_of_ble_eq_true rfl⟩) ⟨PRE.blind, PRE.go hK hPc hDc hNW⟩ rfl rfl hl.1 rfl (lv_room (Nat.le_of_ble_eq_true rfl)) dX6_holder_3 ⟨Nat.zero_le _, Nat.zero_le _⟩) hS (fun q _ h => hFc q h) hFc (fun z3 u t H locs ht hvm hw hB hz1 hk1 hS => ?_)
  subst z3
  obtain ⟨hP, hD⟩ := va_join (wr := [(h_p0, .inr (6, [.ref h_p0_train, .ref h_p0_history, .ref h_p0_text])), (h_p0_train, .inr (5, [.ref h_p0_train_berths, .ref h_p0_train_roster, .ref h_p0_train_settings, .int v_nextNumber, .int v_bookings, .int v_leftOut])), (h_p0_train_berths, .inr (0, [.ref h_p0_train_berths_holders, .ref h_p0_train_berths_ends])), (h_p0_train_berths_holders, .inl (cyI, 162, .inl v_holders))]) (w1 := []) hP hD [] [0, 1, 2, 3] rfl rfl (by decide) (by decide) hk1 hFc (WLD.P hB ht) hB.2
  have hP : va_P (dC, dI) vwCl [(h_p0, .inr (6, [.ref h_p0_train, .ref h_p0_history, .ref h_p0_text])), (h_p0_train, .inr (5, [.ref h_p0_train_berths, .ref h_p0_train_roster, .ref h_p0_train_settings, .int v_nextNumber, .int v_bookings, .int v_leftOut])), (h_p0_train_berths, .inr (0, [.ref h_p0_train_berths_holders, .ref h_p0_train_berths_ends])), (h_p0_train_berths_holders, .inl (cyI, 162, .inl v_holders))] H := hP
  have hD : va_D A [(h_p0, .inr (6, [.ref h_p0_train, .ref h_p0_history, .ref h_p0_text])), (h_p0_train, .inr (5, [.ref h_p0_train_berths, .ref h_p0_train_roster, .ref h_p0_train_settings, .int v_nextNumber, .int v_bookings, .int v_leftOut])), (h_p0_train_berths, .inr (0, [.ref h_p0_train_berths_holders, .ref h_p0_train_berths_ends])), (h_p0_train_berths_holders, .inl (cyI, 162, .inl v_holders))] := hD
  refine lv_if_eq (tgt := 18) hx hb dX6_holder_6 (by decide) (fun c4 => ?_) (fun c4 => ?_)
  · have h := ipos c4 h
    obtain rfl := Option.some.inj h
    obtain ⟨sa5, hstr⟩ := hXR.2.2 12 rfl
    exact vx_throwS (names := ["java/lang/RuntimeException", "java/lang/Exception"]) (sa := sa5) hx hb hl0 hown (by decide +kernel) (by decide +kernel) (hts (.classLink RX6 84 "java/lang/IndexOutOfBoundsException") m_X6_holder_1) (hts (.initialized "java/lang/IndexOutOfBoundsException") m_X6_holder_2) hstr (xhat hts m_X6_holder_0 hXR (by decide +kernel)) (by decide +kernel) hXS.1 hXS.2 hS (hl.1.trans hml.symm) dX6_holder_18 dX6_holder_21 dX6_holder_22 dX6_holder_24 dX6_holder_27 (fun x hx9 => (hno x hx9).elim) (Nat.le_of_ble_eq_true rfl) (Nat.le_of_ble_eq_true rfl) (Nat.le_of_ble_eq_true rfl) (Nat.le_of_ble_eq_true rfl) hlocks (fun t _ h1 h2 => XWL.of (show ¬ (3 : Nat) = 0 by decide) rfl hP hD hS h1 h2) hS.2.2 (Nat.le_of_ble_eq_true rfl) (Nat.le_of_ble_eq_true rfl)
  · have h := ineg c4 h
    refine lv_iload_n hx hb dX6_holder_9 rfl (lv_at hl 2 rfl) ?_
    refine lv_bipush (v := iI 9) hx hb dX6_holder_10 (by decide) ?_
    obtain ⟨r6, e7, h⟩ := bsome h
    have hPc := sb_P [] hP [] rfl
    have hDc := sb_D [] hD [] (by decide) rfl
    have hFc := va_free (wc := []) hD hS hA [] rfl
    refine va_calli (va_runS (As := [.int a2, .int (iI 9)]) (rest := []) ⟨hx, hb, hml, hown, hts⟩ (c_X6_isBelow l dC dI cyI cyJ cyT H.size a2 (iI 9) r6 e7) (va_cwS 2 hts gX6_holder_X6_isBelow rfl rfl rfl (by decide +kernel) ⟨Nat.le_of_ble_eq_true rfl, Nat.le_of_ble_eq_true rfl⟩) ⟨PRE.blind, PRE.go hK hPc hDc hNW⟩ rfl rfl hl.1 rfl (lv_room (Nat.le_of_ble_eq_true rfl)) dX6_holder_12 ⟨Nat.zero_le _, Nat.zero_le _⟩) hS (fun q _ h => hFc q h) hFc (fun z8 u t H locs ht hvm hw hB hz1 hk1 hS => ?_)
    subst z8
    obtain ⟨hP, hD⟩ := va_join (wr := [(h_p0, .inr (6, [.ref h_p0_train, .ref h_p0_history, .ref h_p0_text])), (h_p0_train, .inr (5, [.ref h_p0_train_berths, .ref h_p0_train_roster, .ref h_p0_train_settings, .int v_nextNumber, .int v_bookings, .int v_leftOut])), (h_p0_train_berths, .inr (0, [.ref h_p0_train_berths_holders, .ref h_p0_train_berths_ends])), (h_p0_train_berths_holders, .inl (cyI, 162, .inl v_holders))]) (w1 := []) hP hD [] [0, 1, 2, 3] rfl rfl (by decide) (by decide) hk1 hFc (WLD.P hB ht) hB.2
    have hP : va_P (dC, dI) vwCl [(h_p0, .inr (6, [.ref h_p0_train, .ref h_p0_history, .ref h_p0_text])), (h_p0_train, .inr (5, [.ref h_p0_train_berths, .ref h_p0_train_roster, .ref h_p0_train_settings, .int v_nextNumber, .int v_bookings, .int v_leftOut])), (h_p0_train_berths, .inr (0, [.ref h_p0_train_berths_holders, .ref h_p0_train_berths_ends])), (h_p0_train_berths_holders, .inl (cyI, 162, .inl v_holders))] H := hP
    have hD : va_D A [(h_p0, .inr (6, [.ref h_p0_train, .ref h_p0_history, .ref h_p0_text])), (h_p0_train, .inr (5, [.ref h_p0_train_berths, .ref h_p0_train_roster, .ref h_p0_train_settings, .int v_nextNumber, .int v_bookings, .int v_leftOut])), (h_p0_train_berths, .inr (0, [.ref h_p0_train_berths_holders, .ref h_p0_train_berths_ends])), (h_p0_train_berths_holders, .inl (cyI, 162, .inl v_holders))] := hD
    refine lv_if_ne (tgt := 28) hx hb dX6_holder_15 (by decide) (fun c9 => ?_) (fun c9 => ?_)
    · have h := ineg c9 h
      refine lv_aload_n hx hb dX6_holder_28 rfl (lv_at hl 0 rfl) ?_
      refine va_get (D := (dC, dI)) (ci := 6) (v := .ref h_p0_train) (C := RX6) (T := TX6) (N := 3) hx hb hts m_X6_holder_3 hown hK hP 0 rfl rfl 0 (by decide) (hts (.fieldLink RX6 12 "SleeperBerths" "train" "LSleeperBerths$Train;") m_X6_holder_4) (fun _ h9 => h9) rfl dX6_holder_29 ?_
      refine va_get (D := (dC, dI)) (ci := 5) (v := .ref h_p0_train_berths) (C := RX5) (T := TX5) (N := 6) hx hb hts m_X6_holder_5 hown hK hP 1 rfl rfl 0 (by decide) (hts (.fieldLink RX6 121 "SleeperBerths$Train" "berths" "LSleeperBerths$Berths;") m_X6_holder_6) (fun _ h9 => h9) rfl dX6_holder_32 ?_
      refine lv_iload_n hx hb dX6_holder_35 rfl (lv_at hl 1 rfl) ?_
      refine lv_iload_n hx hb dX6_holder_36 rfl (lv_at hl 2 rfl) ?_
      obtain ⟨r10, e11, h⟩ := bsome h
      have hPc := sb_P [(h_p0_train_berths, .inr (0, [.ref h_p0_train_berths_holders, .ref h_p0_train_berths_ends])), (h_p0_train_berths_holders, .inl (cyI, 162, .inl v_holders))] hP [2, 3] rfl
      have hDc := sb_D [(h_p0_train_berths, .inr (0, [.ref h_p0_train_berths_holders, .ref h_p0_train_berths_ends])), (h_p0_train_berths_holders, .inl (cyI, 162, .inl v_holders))] hD [2, 3] (by decide) rfl
      have hFc := va_free (wc := [(h_p0_train_berths, .inr (0, [.ref h_p0_train_berths_holders, .ref h_p0_train_berths_ends])), (h_p0_train_berths_holders, .inl (cyI, 162, .inl v_holders))]) hD hS hA [2, 3] rfl
      refine va_calli (va_runV (As := [.int a1, .int a2]) (rest := []) ⟨hx, hb, hml, hown, hts⟩ (c_X0_holderOn l dC dI cyI cyJ cyT h_p0_train_berths h_p0_train_berths_holders h_p0_train_berths_ends H.size v_holders a1 a2 r10 e11) (cwV 2 hts gX6_holder_X0_holderOn rfl rfl rfl (by decide +kernel) ⟨Nat.le_of_ble_eq_true rfl, Nat.le_of_ble_eq_true rfl⟩) ⟨PRE.blind, va_recv hK hPc (ci := 0) (q0 := 0) rfl rfl, PRE.go hK hPc hDc hNW⟩ rfl rfl hl.1 rfl (lv_room (Nat.le_of_ble_eq_true rfl)) dX6_holder_37 ⟨Nat.zero_le _, Nat.zero_le _⟩) hS (fun q _ h => hFc q h) hFc (fun z12 u t H locs ht hvm hw hB hz1 hk1 hS => ?_)
      subst z12
      obtain ⟨hP, hD⟩ := va_join (wr := [(h_p0, .inr (6, [.ref h_p0_train, .ref h_p0_history, .ref h_p0_text])), (h_p0_train, .inr (5, [.ref h_p0_train_berths, .ref h_p0_train_roster, .ref h_p0_train_settings, .int v_nextNumber, .int v_bookings, .int v_leftOut]))]) (w1 := [(h_p0_train_berths, .inr (0, [.ref h_p0_train_berths_holders, .ref h_p0_train_berths_ends])), (h_p0_train_berths_holders, .inl (cyI, 162, .inl v_holders))]) hP hD [2, 3] [0, 1] rfl rfl (by decide) (by decide) hk1 hFc (WLD.P hB ht) hB.2
      have hP : va_P (dC, dI) vwCl [(h_p0, .inr (6, [.ref h_p0_train, .ref h_p0_history, .ref h_p0_text])), (h_p0_train, .inr (5, [.ref h_p0_train_berths, .ref h_p0_train_roster, .ref h_p0_train_settings, .int v_nextNumber, .int v_bookings, .int v_leftOut])), (h_p0_train_berths, .inr (0, [.ref h_p0_train_berths_holders, .ref h_p0_train_berths_ends])), (h_p0_train_berths_holders, .inl (cyI, 162, .inl v_holders))] H := hP
      have hD : va_D A [(h_p0, .inr (6, [.ref h_p0_train, .ref h_p0_history, .ref h_p0_text])), (h_p0_train, .inr (5, [.ref h_p0_train_berths, .ref h_p0_train_roster, .ref h_p0_train_settings, .int v_nextNumber, .int v_bookings, .int v_leftOut])), (h_p0_train_berths, .inr (0, [.ref h_p0_train_berths_holders, .ref h_p0_train_berths_ends])), (h_p0_train_berths_holders, .inl (cyI, 162, .inl v_holders))] := hD
      obtain rfl := Option.some.inj h
      refine W.widen (k := 1) (n := 6) (Nat.le_of_ble_eq_true rfl) (Nat.le_of_ble_eq_true rfl) ?_
      refine vx_ret ?_
      exact W.iret (v := r10) hx hb hr (fun t ht hW => ⟨⟨r10, (), rfl, ⟨rfl, rfl⟩, WLD.of ht hP hD⟩, hS.F ht⟩) hS.2.2 dX6_holder_40
    · have h := ipos c9 h
      obtain rfl := Option.some.inj h
      obtain ⟨sa13, hstr⟩ := hXR.2.2 12 rfl
      exact vx_throwS (names := ["java/lang/RuntimeException", "java/lang/Exception"]) (sa := sa13) hx hb hl0 hown (by decide +kernel) (by decide +kernel) (hts (.classLink RX6 84 "java/lang/IndexOutOfBoundsException") m_X6_holder_1) (hts (.initialized "java/lang/IndexOutOfBoundsException") m_X6_holder_2) hstr (xhat hts m_X6_holder_0 hXR (by decide +kernel)) (by decide +kernel) hXS.1 hXS.2 hS (hl.1.trans hml.symm) dX6_holder_18 dX6_holder_21 dX6_holder_22 dX6_holder_24 dX6_holder_27 (fun x hx9 => (hno x hx9).elim) (Nat.le_of_ble_eq_true rfl) (Nat.le_of_ble_eq_true rfl) (Nat.le_of_ble_eq_true rfl) (Nat.le_of_ble_eq_true rfl) hlocks (fun t _ h1 h2 => XWL.of (show ¬ (3 : Nat) = 0 by decide) rfl hP hD hS h1 h2) hS.2.2 (Nat.le_of_ble_eq_true rfl) (Nat.le_of_ble_eq_true rfl)
def s_X6_passenger (n : Nat) (v_holders : Nat → Int32) (v_size : Int32) (v_cells : Nat → Int32) (v_settings : Nat → Int32) (a1 : Int32) (a2 : Int32) : Option (Nat × Int32) := (if a1 < 0 then (some (1, 0)) else ((s_X6_isBelow a2 (iI 9)).bind fun r3 => (if r3 = 0 then (some (1, 0)) else (if v_size ≤ a1 then (some (0, iI (-1))) else ((s_X5_property n v_holders v_cells v_settings a1 a2).bind fun r8 => (some (0, r8)))))))
set_option maxRecDepth 20000 in
theorem m_X6_passenger_0 : ∀ w ∈ (vx_atS RX6 120 "java/lang/IllegalArgumentException" ["java/lang/RuntimeException", "java/lang/Exception"]).filter goodWord, w ∈ wsX6_passenger := by decide +kernel
set_option maxRecDepth 20000 in
theorem m_X6_passenger_1 : (.classLink RX6 116 "java/lang/IllegalArgumentException" : Cond) ∈ wsX6_passenger := by decide +kernel
set_option maxRecDepth 20000 in
theorem m_X6_passenger_2 : (.initialized "java/lang/IllegalArgumentException" : Cond) ∈ wsX6_passenger := by decide +kernel
set_option maxRecDepth 20000 in
theorem m_X6_passenger_3 : ∀ w ∈ u_ws RX6 TX6 3, w ∈ wsX6_passenger := by decide +kernel
set_option maxRecDepth 20000 in
theorem m_X6_passenger_4 : (.fieldLink RX6 12 "SleeperBerths" "train" "LSleeperBerths$Train;" : Cond) ∈ wsX6_passenger := by decide +kernel
set_option maxRecDepth 20000 in
theorem m_X6_passenger_5 : ∀ w ∈ u_ws RX5 TX5 6, w ∈ wsX6_passenger := by decide +kernel
set_option maxRecDepth 20000 in
theorem m_X6_passenger_6 : (.fieldLink RX6 38 "SleeperBerths$Train" "roster" "LSleeperBerths$Roster;" : Cond) ∈ wsX6_passenger := by decide +kernel
set_option maxRecDepth 20000 in
theorem m_X6_passenger_7 : ∀ w ∈ u_ws RX3 TX3 2, w ∈ wsX6_passenger := by decide +kernel
set_option maxRecDepth 20000 in
theorem m_X6_passenger_8 : (.fieldLink RX6 210 "SleeperBerths$Roster" "size" "I" : Cond) ∈ wsX6_passenger := by decide +kernel
set_option maxHeartbeats 4000000 in
set_option maxRecDepth 100000 in
theorem c_X6_passenger (l : Launch) (hl0 : l.stackTraces = false) (dC : Nat → ClassId) (dI : Nat → Nat → Nat) (cyI cyJ cyT : ClassId) (h_p0 : Nat) (h_p0_train : Nat) (h_p0_history : Nat) (h_p0_text : Nat) (h_p0_train_berths : Nat) (h_p0_train_roster : Nat) (h_p0_train_settings : Nat) (h_p0_train_berths_holders : Nat) (h_p0_train_berths_ends : Nat) (h_p0_train_roster_cells : Nat) (sz : Nat) (v_nextNumber : Int32) (v_bookings : Int32) (v_leftOut : Int32) (v_holders : Nat → Int32) (v_size : Int32) (v_cells : Nat → Int32) (v_settings : Nat → Int32) (a1 : Int32) (a2 : Int32) (n : Nat) (o : Nat × Int32) (h : s_X6_passenger n v_holders v_size v_cells v_settings a1 a2 = some o) : vx_Met l yX6_passenger wsX6_passenger ({ frames := 6, cells := 1, slots := 6, locals := 90 }) (va_Pc [.ref h_p0, .int a1, .int a2] (PREX (dC, dI) (TYS cyI cyJ cyT) sz [(h_p0, .inr (6, [.ref h_p0_train, .ref h_p0_history, .ref h_p0_text])), (h_p0_train, .inr (5, [.ref h_p0_train_berths, .ref h_p0_train_roster, .ref h_p0_train_settings, .int v_nextNumber, .int v_bookings, .int v_leftOut])), (h_p0_train_berths, .inr (0, [.ref h_p0_train_berths_holders, .ref h_p0_train_berths_ends])), (h_p0_train_berths_holders, .inl (cyI, 162, .inl v_holders)), (h_p0_train_roster, .inr (3, [.ref h_p0_train_roster_cells, .int v_size])), (h_p0_train_roster_cells, .inl (cyI, 280, .inl v_cells)), (h_p0_train_settings, .inl (cyI, 3, .inl v_settings))])) (va_Qi (S := Unit) (fun r _ => o.1 = 0 ∧ r = o.2) (fun _ t => WLD (dC, dI) (va_A [(h_p0, .inr (6, [.ref h_p0_train, .ref h_p0_history, .ref h_p0_text])), (h_p0_train, .inr (5, [.ref h_p0_train_berths, .ref h_p0_train_roster, .ref h_p0_train_settings, .int v_nextNumber, .int v_bookings, .int v_leftOut])), (h_p0_train_berths, .inr (0, [.ref h_p0_train_berths_holders, .ref h_p0_train_berths_ends])), (h_p0_train_berths_holders, .inl (cyI, 162, .inl v_holders)), (h_p0_train_roster, .inr (3, [.ref h_p0_train_roster_cells, .int v_size])), (h_p0_train_roster_cells, .inl (cyI, 280, .inl v_cells)), (h_p0_train_settings, .inl (cyI, 3, .inl v_settings))] sz) [(h_p0, .inr (6, [.ref h_p0_train, .ref h_p0_history, .ref h_p0_text])), (h_p0_train, .inr (5, [.ref h_p0_train_berths, .ref h_p0_train_roster, .ref h_p0_train_settings, .int v_nextNumber, .int v_bookings, .int v_leftOut])), (h_p0_train_berths, .inr (0, [.ref h_p0_train_berths_holders, .ref h_p0_train_berths_ends])), (h_p0_train_berths_holders, .inl (cyI, 162, .inl v_holders)), (h_p0_train_roster, .inr (3, [.ref h_p0_train_roster_cells, .int v_size])), (h_p0_train_roster_cells, .inl (cyI, 280, .inl v_cells)), (h_p0_train_settings, .inl (cyI, 3, .inl v_settings))] t) (va_A [(h_p0, .inr (6, [.ref h_p0_train, .ref h_p0_history, .ref h_p0_text])), (h_p0_train, .inr (5, [.ref h_p0_train_berths, .ref h_p0_train_roster, .ref h_p0_train_settings, .int v_nextNumber, .int v_bookings, .int v_leftOut])), (h_p0_train_berths, .inr (0, [.ref h_p0_train_berths_holders, .ref h_p0_train_berths_ends])), (h_p0_train_berths_holders, .inl (cyI, 162, .inl v_holders)), (h_p0_train_roster, .inr (3, [.ref h_p0_train_roster_cells, .int v_size])), (h_p0_train_roster_cells, .inl (cyI, 280, .inl v_cells)), (h_p0_train_settings, .inl (cyI, 3, .inl v_settings))] sz)) (vx_X (S := Unit) (fun _ => True) (fun E _ t => XWL (dC, dI) (va_A [(h_p0, .inr (6, [.ref h_p0_train, .ref h_p0_history, .ref h_p0_text])), (h_p0_train, .inr (5, [.ref h_p0_train_berths, .ref h_p0_train_roster, .ref h_p0_train_settings, .int v_nextNumber, .int v_bookings, .int v_leftOut])), (h_p0_train_berths, .inr (0, [.ref h_p0_train_berths_holders, .ref h_p0_train_berths_ends])), (h_p0_train_berths_holders, .inl (cyI, 162, .inl v_holders)), (h_p0_train_roster, .inr (3, [.ref h_p0_train_roster_cells, .int v_size])), (h_p0_train_roster_cells, .inl (cyI, 280, .inl v_cells)), (h_p0_train_settings, .inl (cyI, 3, .inl v_settings))] sz) o.1 E [(h_p0, .inr (6, [.ref h_p0_train, .ref h_p0_history, .ref h_p0_text])), (h_p0_train, .inr (5, [.ref h_p0_train_berths, .ref h_p0_train_roster, .ref h_p0_train_settings, .int v_nextNumber, .int v_bookings, .int v_leftOut])), (h_p0_train_berths, .inr (0, [.ref h_p0_train_berths_holders, .ref h_p0_train_berths_ends])), (h_p0_train_berths_holders, .inl (cyI, 162, .inl v_holders)), (h_p0_train_roster, .inr (3, [.ref h_p0_train_roster_cells, .int v_size])), (h_p0_train_roster_cells, .inl (cyI, 280, .inl v_cells)), (h_p0_train_settings, .inl (cyI, 3, .inl v_settings))] t) (va_A [(h_p0, .inr (6, [.ref h_p0_train, .ref h_p0_history, .ref h_p0_text])), (h_p0_train, .inr (5, [.ref h_p0_train_berths, .ref h_p0_train_roster, .ref h_p0_train_settings, .int v_nextNumber, .int v_bookings, .int v_leftOut])), (h_p0_train_berths, .inr (0, [.ref h_p0_train_berths_holders, .ref h_p0_train_berths_ends])), (h_p0_train_berths_holders, .inl (cyI, 162, .inl v_holders)), (h_p0_train_roster, .inr (3, [.ref h_p0_train_roster_cells, .int v_size])), (h_p0_train_roster_cells, .inl (cyI, 280, .inl v_cells)), (h_p0_train_settings, .inl (cyI, 3, .inl v_settings))] sz)) 1 6 (va_A [(h_p0, .inr (6, [.ref h_p0_train, .ref h_p0_history, .ref h_p0_text])), (h_p0_train, .inr (5, [.ref h_p0_train_berths, .ref h_p0_train_roster, .ref h_p0_train_settings, .int v_nextNumber, .int v_bookings, .int v_leftOut])), (h_p0_train_berths, .inr (0, [.ref h_p0_train_berths_holders, .ref h_p0_train_berths_ends])), (h_p0_train_berths_holders, .inl (cyI, 162, .inl v_holders)), (h_p0_train_roster, .inr (3, [.ref h_p0_train_roster_cells, .int v_size])), (h_p0_train_roster_cells, .inl (cyI, 280, .inl v_cells)), (h_p0_train_settings, .inl (cyI, 3, .inl v_settings))] sz) := by
  refine vx_ofW (cc := cX6_passenger) (maxL := 3) (ret := (some .int)) (by decide) rfl ?_
  intro p e s m args below meth c s₁ B hml hno hv
  obtain ⟨rfl, ⟨hsz, hP, hK, hD0, hNW⟩, hXR, hXS⟩ := hv
  have hx := B.exec
  have hb := B.bytes
  have hr := B.returns
  have hts := atoms_spec (ws := wsX6_passenger) B.pre
  have hown : s.vm.findClass RX6 = some m.cls := findClass_of_methodNamed B.named
  have hlocks := B.notSynchronized
  subst hsz
  have hD := hD0.self (sz := s.heap.size)
  generalize hAe : va_A [(h_p0, .inr (6, [.ref h_p0_train, .ref h_p0_history, .ref h_p0_text])), (h_p0_train, .inr (5, [.ref h_p0_train_berths, .ref h_p0_train_roster, .ref h_p0_train_settings, .int v_nextNumber, .int v_bookings, .int v_leftOut])), (h_p0_train_berths, .inr (0, [.ref h_p0_train_berths_holders, .ref h_p0_train_berths_ends])), (h_p0_train_berths_holders, .inl (cyI, 162, .inl v_holders)), (h_p0_train_roster, .inr (3, [.ref h_p0_train_roster_cells, .int v_size])), (h_p0_train_roster_cells, .inl (cyI, 280, .inl v_cells)), (h_p0_train_settings, .inl (cyI, 3, .inl v_settings))] s.heap.size = A at hD hXS ⊢
  have hA : ∀ q : Nat, s.heap.size ≤ q → A q := fun q h => by rw [← hAe]; exact Or.inr h
  have hS : va_S A s.heap s.heap [] := va_S.rf
  have hP : va_P (dC, dI) vwCl [(h_p0, .inr (6, [.ref h_p0_train, .ref h_p0_history, .ref h_p0_text])), (h_p0_train, .inr (5, [.ref h_p0_train_berths, .ref h_p0_train_roster, .ref h_p0_train_settings, .int v_nextNumber, .int v_bookings, .int v_leftOut])), (h_p0_train_berths, .inr (0, [.ref h_p0_train_berths_holders, .ref h_p0_train_berths_ends])), (h_p0_train_berths_holders, .inl (cyI, 162, .inl v_holders)), (h_p0_train_roster, .inr (3, [.ref h_p0_train_roster_cells, .int v_size])), (h_p0_train_roster_cells, .inl (cyI, 280, .inl v_cells)), (h_p0_train_settings, .inl (cyI, 3, .inl v_settings))] s.heap := hP
  have hl := lv_entry ([.ref h_p0, .int a1, .int a2]) (n := 3) (Nat.le_of_ble_eq_true rfl)
  rw [lg_entry_eq]
  generalize (lg_sl ([.ref h_p0, .int a1, .int a2]) ++ List.replicate (3 - (lg_sl ([.ref h_p0, .int a1, .int a2])).length) Slot.unset).toArray = ls at hl ⊢
  have hl : lv_has ls 3 [(0, .ref h_p0), (1, .int a1), (2, .int a2)] := hl
  unfold s_X6_passenger at h
  refine lv_iload_n hx hb dX6_passenger_0 rfl (lv_at hl 1 rfl) ?_
  refine lv_if_lt (tgt := 13) hx hb dX6_passenger_1 (by decide) (fun c1 => ?_) (fun c1 => ?_)
  · have h := ipos c1 h
    obtain rfl := Option.some.inj h
    obtain ⟨sa2, hstr⟩ := hXR.2.2 13 rfl
    exact vx_throwS (names := ["java/lang/RuntimeException", "java/lang/Exception"]) (sa := sa2) hx hb hl0 hown (by decide +kernel) (by decide +kernel) (hts (.classLink RX6 116 "java/lang/IllegalArgumentException") m_X6_passenger_1) (hts (.initialized "java/lang/IllegalArgumentException") m_X6_passenger_2) hstr (xhat hts m_X6_passenger_0 hXR (by decide +kernel)) (by decide +kernel) hXS.1 hXS.2 hS (hl.1.trans hml.symm) dX6_passenger_13 dX6_passenger_16 dX6_passenger_17 dX6_passenger_19 dX6_passenger_22 (fun x hx9 => (hno x hx9).elim) (Nat.le_of_ble_eq_true rfl) (Nat.le_of_ble_eq_true rfl) (Nat.le_of_ble_eq_true rfl) (Nat.le_of_ble_eq_true rfl) hlocks (fun t _ h1 h2 => XWL.of (show ¬ (1 : Nat) = 0 by decide) rfl hP hD hS h1 h2) hS.2.2 (Nat.le_of_ble_eq_true rfl) (Nat.le_of_ble_eq_true rfl)
  · have h := ineg c1 h
    refine lv_iload_n hx hb dX6_passenger_4 rfl (lv_at hl 2 rfl) ?_
    refine lv_bipush (v := iI 9) hx hb dX6_passenger_5 (by decide) ?_
    obtain ⟨r3, e4, h⟩ := bsome h
    have hPc := sb_P [] hP [] rfl
    have hDc := sb_D [] hD [] (by decide) rfl
    have hFc := va_free (wc := []) hD hS hA [] rfl
    refine va_calli (va_runS (As := [.int a2, .int (iI 9)]) (rest := []) ⟨hx, hb, hml, hown, hts⟩ (c_X6_isBelow l dC dI cyI cyJ cyT s.heap.size a2 (iI 9) r3 e4) (va_cwS 2 hts gX6_passenger_X6_isBelow rfl rfl rfl (by decide +kernel) ⟨Nat.le_of_ble_eq_true rfl, Nat.le_of_ble_eq_true rfl⟩) ⟨PRE.blind, PRE.go hK hPc hDc hNW⟩ rfl rfl hl.1 rfl (lv_room (Nat.le_of_ble_eq_true rfl)) dX6_passenger_7 ⟨Nat.zero_le _, Nat.zero_le _⟩) hS (fun q _ h => hFc q h) hFc (fun z5 u t H locs ht hvm hw hB hz1 hk1 hS => ?_)
    subst z5
    obtain ⟨hP, hD⟩ := va_join (wr := [(h_p0, .inr (6, [.ref h_p0_train, .ref h_p0_history, .ref h_p0_text])), (h_p0_train, .inr (5, [.ref h_p0_train_berths, .ref h_p0_train_roster, .ref h_p0_train_settings, .int v_nextNumber, .int v_bookings, .int v_leftOut])), (h_p0_train_berths, .inr (0, [.ref h_p0_train_berths_holders, .ref h_p0_train_berths_ends])), (h_p0_train_berths_holders, .inl (cyI, 162, .inl v_holders)), (h_p0_train_roster, .inr (3, [.ref h_p0_train_roster_cells, .int v_size])), (h_p0_train_roster_cells, .inl (cyI, 280, .inl v_cells)), (h_p0_train_settings, .inl (cyI, 3, .inl v_settings))]) (w1 := []) hP hD [] [0, 1, 2, 3, 4, 5, 6] rfl rfl (by decide) (by decide) hk1 hFc (WLD.P hB ht) hB.2
    have hP : va_P (dC, dI) vwCl [(h_p0, .inr (6, [.ref h_p0_train, .ref h_p0_history, .ref h_p0_text])), (h_p0_train, .inr (5, [.ref h_p0_train_berths, .ref h_p0_train_roster, .ref h_p0_train_settings, .int v_nextNumber, .int v_bookings, .int v_leftOut])), (h_p0_train_berths, .inr (0, [.ref h_p0_train_berths_holders, .ref h_p0_train_berths_ends])), (h_p0_train_berths_holders, .inl (cyI, 162, .inl v_holders)), (h_p0_train_roster, .inr (3, [.ref h_p0_train_roster_cells, .int v_size])), (h_p0_train_roster_cells, .inl (cyI, 280, .inl v_cells)), (h_p0_train_settings, .inl (cyI, 3, .inl v_settings))] H := hP
    have hD : va_D A [(h_p0, .inr (6, [.ref h_p0_train, .ref h_p0_history, .ref h_p0_text])), (h_p0_train, .inr (5, [.ref h_p0_train_berths, .ref h_p0_train_roster, .ref h_p0_train_settings, .int v_nextNumber, .int v_bookings, .int v_leftOut])), (h_p0_train_berths, .inr (0, [.ref h_p0_train_berths_holders, .ref h_p0_train_berths_ends])), (h_p0_train_berths_holders, .inl (cyI, 162, .inl v_holders)), (h_p0_train_roster, .inr (3, [.ref h_p0_train_roster_cells, .int v_size])), (h_p0_train_roster_cells, .inl (cyI, 280, .inl v_cells)), (h_p0_train_settings, .inl (cyI, 3, .inl v_settings))] := hD
    refine lv_if_ne (tgt := 23) hx hb dX6_passenger_10 (by decide) (fun c6 => ?_) (fun c6 => ?_)
    · have h := ineg c6 h
      refine lv_iload_n hx hb dX6_passenger_23 rfl (lv_at hl 1 rfl) ?_
      refine lv_aload_n hx hb dX6_passenger_24 rfl (lv_at hl 0 rfl) ?_
      refine va_get (D := (dC, dI)) (ci := 6) (v := .ref h_p0_train) (C := RX6) (T := TX6) (N := 3) hx hb hts m_X6_passenger_3 hown hK hP 0 rfl rfl 0 (by decide) (hts (.fieldLink RX6 12 "SleeperBerths" "train" "LSleeperBerths$Train;") m_X6_passenger_4) (fun _ h9 => h9) rfl dX6_passenger_25 ?_
      refine va_get (D := (dC, dI)) (ci := 5) (v := .ref h_p0_train_roster) (C := RX5) (T := TX5) (N := 6) hx hb hts m_X6_passenger_5 hown hK hP 1 rfl rfl 1 (by decide) (hts (.fieldLink RX6 38 "SleeperBerths$Train" "roster" "LSleeperBerths$Roster;") m_X6_passenger_6) (fun _ h9 => h9) rfl dX6_passenger_28 ?_
      refine va_get (D := (dC, dI)) (ci := 3) (v := .int v_size) (C := RX3) (T := TX3) (N := 2) hx hb hts m_X6_passenger_7 hown hK hP 4 rfl rfl 1 (by decide) (hts (.fieldLink RX6 210 "SleeperBerths$Roster" "size" "I") m_X6_passenger_8) (fun _ h9 => h9) rfl dX6_passenger_31 ?_
      refine lv_icmp_ge (tgt := 49) hx hb dX6_passenger_34 (by decide) (fun c7 => ?_) (fun c7 => ?_)
      · have h := ipos c7 h
        refine lv_iconst (v := iI (-1)) hx hb dX6_passenger_49 rfl ?_
        obtain rfl := Option.some.inj h
        refine W.widen (k := 1) (n := 6) (Nat.le_of_ble_eq_true rfl) (Nat.le_of_ble_eq_true rfl) ?_
        refine vx_ret ?_
        exact W.iret (v := iI (-1)) hx hb hr (fun t ht hW => ⟨⟨iI (-1), (), rfl, ⟨rfl, rfl⟩, WLD.of ht hP hD⟩, hS.F ht⟩) hS.2.2 dX6_passenger_50
      · have h := ineg c7 h
        refine lv_aload_n hx hb dX6_passenger_37 rfl (lv_at hl 0 rfl) ?_
        refine va_get (D := (dC, dI)) (ci := 6) (v := .ref h_p0_train) (C := RX6) (T := TX6) (N := 3) hx hb hts m_X6_passenger_3 hown hK hP 0 rfl rfl 0 (by decide) (hts (.fieldLink RX6 12 "SleeperBerths" "train" "LSleeperBerths$Train;") m_X6_passenger_4) (fun _ h9 => h9) rfl dX6_passenger_38 ?_
        refine lv_iload_n hx hb dX6_passenger_41 rfl (lv_at hl 1 rfl) ?_
        refine lv_iload_n hx hb dX6_passenger_42 rfl (lv_at hl 2 rfl) ?_
        obtain ⟨r8, e9, h⟩ := bsome h
        have hPc := sb_P [(h_p0_train, .inr (5, [.ref h_p0_train_berths, .ref h_p0_train_roster, .ref h_p0_train_settings, .int v_nextNumber, .int v_bookings, .int v_leftOut])), (h_p0_train_berths, .inr (0, [.ref h_p0_train_berths_holders, .ref h_p0_train_berths_ends])), (h_p0_train_berths_holders, .inl (cyI, 162, .inl v_holders)), (h_p0_train_roster, .inr (3, [.ref h_p0_train_roster_cells, .int v_size])), (h_p0_train_roster_cells, .inl (cyI, 280, .inl v_cells)), (h_p0_train_settings, .inl (cyI, 3, .inl v_settings))] hP [1, 2, 3, 4, 5, 6] rfl
        have hDc := sb_D [(h_p0_train, .inr (5, [.ref h_p0_train_berths, .ref h_p0_train_roster, .ref h_p0_train_settings, .int v_nextNumber, .int v_bookings, .int v_leftOut])), (h_p0_train_berths, .inr (0, [.ref h_p0_train_berths_holders, .ref h_p0_train_berths_ends])), (h_p0_train_berths_holders, .inl (cyI, 162, .inl v_holders)), (h_p0_train_roster, .inr (3, [.ref h_p0_train_roster_cells, .int v_size])), (h_p0_train_roster_cells, .inl (cyI, 280, .inl v_cells)), (h_p0_train_settings, .inl (cyI, 3, .inl v_settings))] hD [1, 2, 3, 4, 5, 6] (by decide) rfl
        have hFc := va_free (wc := [(h_p0_train, .inr (5, [.ref h_p0_train_berths, .ref h_p0_train_roster, .ref h_p0_train_settings, .int v_nextNumber, .int v_bookings, .int v_leftOut])), (h_p0_train_berths, .inr (0, [.ref h_p0_train_berths_holders, .ref h_p0_train_berths_ends])), (h_p0_train_berths_holders, .inl (cyI, 162, .inl v_holders)), (h_p0_train_roster, .inr (3, [.ref h_p0_train_roster_cells, .int v_size])), (h_p0_train_roster_cells, .inl (cyI, 280, .inl v_cells)), (h_p0_train_settings, .inl (cyI, 3, .inl v_settings))]) hD hS hA [1, 2, 3, 4, 5, 6] rfl
        refine va_calli (va_runV (As := [.int a1, .int a2]) (rest := []) ⟨hx, hb, hml, hown, hts⟩ (c_X5_property l dC dI cyI cyJ cyT h_p0_train h_p0_train_berths h_p0_train_roster h_p0_train_settings h_p0_train_berths_holders h_p0_train_berths_ends h_p0_train_roster_cells H.size v_nextNumber v_bookings v_leftOut v_holders v_size v_cells v_settings a1 a2 n r8 e9) (cwV 2 hts gX6_passenger_X5_property rfl rfl rfl (by decide +kernel) ⟨Nat.le_of_ble_eq_true rfl, Nat.le_of_ble_eq_true rfl⟩) ⟨PRE.blind, va_recv hK hPc (ci := 5) (q0 := 0) rfl rfl, PRE.go hK hPc hDc hNW⟩ rfl rfl hl.1 rfl (lv_room (Nat.le_of_ble_eq_true rfl)) dX6_passenger_43 ⟨Nat.zero_le _, Nat.zero_le _⟩) hS (fun q _ h => hFc q h) hFc (fun z10 u t H locs ht hvm hw hB hz1 hk1 hS => ?_)
        subst z10
        obtain ⟨hP, hD⟩ := va_join (wr := [(h_p0, .inr (6, [.ref h_p0_train, .ref h_p0_history, .ref h_p0_text]))]) (w1 := [(h_p0_train, .inr (5, [.ref h_p0_train_berths, .ref h_p0_train_roster, .ref h_p0_train_settings, .int v_nextNumber, .int v_bookings, .int v_leftOut])), (h_p0_train_berths, .inr (0, [.ref h_p0_train_berths_holders, .ref h_p0_train_berths_ends])), (h_p0_train_berths_holders, .inl (cyI, 162, .inl v_holders)), (h_p0_train_roster, .inr (3, [.ref h_p0_train_roster_cells, .int v_size])), (h_p0_train_roster_cells, .inl (cyI, 280, .inl v_cells)), (h_p0_train_settings, .inl (cyI, 3, .inl v_settings))]) hP hD [1, 2, 3, 4, 5, 6] [0] rfl rfl (by decide) (by decide) hk1 hFc (WLD.P hB ht) hB.2
        have hP : va_P (dC, dI) vwCl [(h_p0, .inr (6, [.ref h_p0_train, .ref h_p0_history, .ref h_p0_text])), (h_p0_train, .inr (5, [.ref h_p0_train_berths, .ref h_p0_train_roster, .ref h_p0_train_settings, .int v_nextNumber, .int v_bookings, .int v_leftOut])), (h_p0_train_berths, .inr (0, [.ref h_p0_train_berths_holders, .ref h_p0_train_berths_ends])), (h_p0_train_berths_holders, .inl (cyI, 162, .inl v_holders)), (h_p0_train_roster, .inr (3, [.ref h_p0_train_roster_cells, .int v_size])), (h_p0_train_roster_cells, .inl (cyI, 280, .inl v_cells)), (h_p0_train_settings, .inl (cyI, 3, .inl v_settings))] H := hP
        have hD : va_D A [(h_p0, .inr (6, [.ref h_p0_train, .ref h_p0_history, .ref h_p0_text])), (h_p0_train, .inr (5, [.ref h_p0_train_berths, .ref h_p0_train_roster, .ref h_p0_train_settings, .int v_nextNumber, .int v_bookings, .int v_leftOut])), (h_p0_train_berths, .inr (0, [.ref h_p0_train_berths_holders, .ref h_p0_train_berths_ends])), (h_p0_train_berths_holders, .inl (cyI, 162, .inl v_holders)), (h_p0_train_roster, .inr (3, [.ref h_p0_train_roster_cells, .int v_size])), (h_p0_train_roster_cells, .inl (cyI, 280, .inl v_cells)), (h_p0_train_settings, .inl (cyI, 3, .inl v_settings))] := hD
        refine lv_goto (tgt := 50) hx hb dX6_passenger_46 (by decide) ?_
        obtain rfl := Option.some.inj h
        refine W.widen (k := 1) (n := 6) (Nat.le_of_ble_eq_true rfl) (Nat.le_of_ble_eq_true rfl) ?_
        refine vx_ret ?_
        exact W.iret (v := r8) hx hb hr (fun t ht hW => ⟨⟨r8, (), rfl, ⟨rfl, rfl⟩, WLD.of ht hP hD⟩, hS.F ht⟩) hS.2.2 dX6_passenger_50
    · have h := ipos c6 h
      obtain rfl := Option.some.inj h
      obtain ⟨sa11, hstr⟩ := hXR.2.2 13 rfl
      exact vx_throwS (names := ["java/lang/RuntimeException", "java/lang/Exception"]) (sa := sa11) hx hb hl0 hown (by decide +kernel) (by decide +kernel) (hts (.classLink RX6 116 "java/lang/IllegalArgumentException") m_X6_passenger_1) (hts (.initialized "java/lang/IllegalArgumentException") m_X6_passenger_2) hstr (xhat hts m_X6_passenger_0 hXR (by decide +kernel)) (by decide +kernel) hXS.1 hXS.2 hS (hl.1.trans hml.symm) dX6_passenger_13 dX6_passenger_16 dX6_passenger_17 dX6_passenger_19 dX6_passenger_22 (fun x hx9 => (hno x hx9).elim) (Nat.le_of_ble_eq_true rfl) (Nat.le_of_ble_eq_true rfl) (Nat.le_of_ble_eq_true rfl) (Nat.le_of_ble_eq_true rfl) hlocks (fun t _ h1 h2 => XWL.of (show ¬ (1 : Nat) = 0 by decide) rfl hP hD hS h1 h2) hS.2.2 (Nat.le_of_ble_eq_true rfl) (Nat.le_of_ble_eq_true rfl)
def s_X5_sumOf_L4 (n : Nat) (v_holders : Nat → Int32) (v_size : Int32) (v_cells : Nat → Int32) (v_settings : Nat → Int32) (a1 : Int32) : Nat → Int32 → Int32 → Option (Int32)
  | 0, _, _ => none
  | k + 1, x2, x3 => (if v_size ≤ x3 then (some (x2)) else ((s_X5_property n v_holders v_cells v_settings x3 a1).bind fun r2 => (s_X5_sumOf_L4 n v_holders v_size v_cells v_settings a1 k (x2 + r2) (x3 + iI 1))))
def s_X5_sumOf (n : Nat) (v_holders : Nat → Int32) (v_size : Int32) (v_cells : Nat → Int32) (v_settings : Nat → Int32) (a1 : Int32) : Option (Int32) := (s_X5_sumOf_L4 n v_holders v_size v_cells v_settings a1 n (iI 0) (iI 0))
set_option maxRecDepth 20000 in
theorem m_X5_sumOf_0 : ∀ w ∈ u_ws RX5 TX5 6, w ∈ wsX5_sumOf := by decide +kernel
set_option maxRecDepth 20000 in
theorem m_X5_sumOf_1 : (.fieldLink RX5 21 "SleeperBerths$Train" "roster" "LSleeperBerths$Roster;" : Cond) ∈ wsX5_sumOf := by decide +kernel
set_option maxRecDepth 20000 in
theorem m_X5_sumOf_2 : ∀ w ∈ u_ws RX3 TX3 2, w ∈ wsX5_sumOf := by decide +kernel
set_option maxRecDepth 20000 in
theorem m_X5_sumOf_3 : (.fieldLink RX5 133 "SleeperBerths$Roster" "size" "I" : Cond) ∈ wsX5_sumOf := by decide +kernel
set_option maxHeartbeats 4000000 in
set_option maxRecDepth 100000 in
theorem c_X5_sumOf (l : Launch) (dC : Nat → ClassId) (dI : Nat → Nat → Nat) (cyI cyJ cyT : ClassId) (h_p0 : Nat) (h_p0_berths : Nat) (h_p0_roster : Nat) (h_p0_settings : Nat) (h_p0_berths_holders : Nat) (h_p0_berths_ends : Nat) (h_p0_roster_cells : Nat) (sz : Nat) (v_nextNumber : Int32) (v_bookings : Int32) (v_leftOut : Int32) (v_holders : Nat → Int32) (v_size : Int32) (v_cells : Nat → Int32) (v_settings : Nat → Int32) (a1 : Int32) (n : Nat) (o : Int32) (h : s_X5_sumOf n v_holders v_size v_cells v_settings a1 = some o) : Met l yX5_sumOf wsX5_sumOf ({ frames := 4, cells := 0, slots := 0, locals := 89 }) (va_Pc [.ref h_p0, .int a1] (PRE (dC, dI) (TYS cyI cyJ cyT) sz [(h_p0, .inr (5, [.ref h_p0_berths, .ref h_p0_roster, .ref h_p0_settings, .int v_nextNumber, .int v_bookings, .int v_leftOut])), (h_p0_berths, .inr (0, [.ref h_p0_berths_holders, .ref h_p0_berths_ends])), (h_p0_berths_holders, .inl (cyI, 162, .inl v_holders)), (h_p0_roster, .inr (3, [.ref h_p0_roster_cells, .int v_size])), (h_p0_roster_cells, .inl (cyI, 280, .inl v_cells)), (h_p0_settings, .inl (cyI, 3, .inl v_settings))])) (va_Qi (S := Unit) (fun r _ => r = o) (fun _ t => WLD (dC, dI) (va_A [(h_p0, .inr (5, [.ref h_p0_berths, .ref h_p0_roster, .ref h_p0_settings, .int v_nextNumber, .int v_bookings, .int v_leftOut])), (h_p0_berths, .inr (0, [.ref h_p0_berths_holders, .ref h_p0_berths_ends])), (h_p0_berths_holders, .inl (cyI, 162, .inl v_holders)), (h_p0_roster, .inr (3, [.ref h_p0_roster_cells, .int v_size])), (h_p0_roster_cells, .inl (cyI, 280, .inl v_cells)), (h_p0_settings, .inl (cyI, 3, .inl v_settings))] sz) [(h_p0, .inr (5, [.ref h_p0_berths, .ref h_p0_roster, .ref h_p0_settings, .int v_nextNumber, .int v_bookings, .int v_leftOut])), (h_p0_berths, .inr (0, [.ref h_p0_berths_holders, .ref h_p0_berths_ends])), (h_p0_berths_holders, .inl (cyI, 162, .inl v_holders)), (h_p0_roster, .inr (3, [.ref h_p0_roster_cells, .int v_size])), (h_p0_roster_cells, .inl (cyI, 280, .inl v_cells)), (h_p0_settings, .inl (cyI, 3, .inl v_settings))] t) (va_A [(h_p0, .inr (5, [.ref h_p0_berths, .ref h_p0_roster, .ref h_p0_settings, .int v_nextNumber, .int v_bookings, .int v_leftOut])), (h_p0_berths, .inr (0, [.ref h_p0_berths_holders, .ref h_p0_berths_ends])), (h_p0_berths_holders, .inl (cyI, 162, .inl v_holders)), (h_p0_roster, .inr (3, [.ref h_p0_roster_cells, .int v_size])), (h_p0_roster_cells, .inl (cyI, 280, .inl v_cells)), (h_p0_settings, .inl (cyI, 3, .inl v_settings))] sz)) 0 0 (va_A [(h_p0, .inr (5, [.ref h_p0_berths, .ref h_p0_roster, .ref h_p0_settings, .int v_nextNumber, .int v_bookings, .int v_leftOut])), (h_p0_berths, .inr (0, [.ref h_p0_berths_holders, .ref h_p0_berths_ends])), (h_p0_berths_holders, .inl (cyI, 162, .inl v_holders)), (h_p0_roster, .inr (3, [.ref h_p0_roster_cells, .int v_size])), (h_p0_roster_cells, .inl (cyI, 280, .inl v_cells)), (h_p0_settings, .inl (cyI, 3, .inl v_settings))] sz) := by
  refine Met.ofW (cc := cX5_sumOf) (maxL := 4) (ret := (some .int)) (by decide) rfl ?_
  intro p e s m args below meth c s₁ B hml hv
  obtain ⟨rfl, hsz, hP, hK, hD0, hNW⟩ := hv
  have hx := B.exec
  have hb := B.bytes
  have hr := B.returns
  have hts := atoms_spec (ws := wsX5_sumOf) B.pre
  have hown : s.vm.findClass RX5 = some m.cls := findClass_of_methodNamed B.named
  have hlocks := B.notSynchronized
  subst hsz
  have hD := hD0.self (sz := s.heap.size)
  generalize hAe : va_A [(h_p0, .inr (5, [.ref h_p0_berths, .ref h_p0_roster, .ref h_p0_settings, .int v_nextNumber, .int v_bookings, .int v_leftOut])), (h_p0_berths, .inr (0, [.ref h_p0_berths_holders, .ref h_p0_berths_ends])), (h_p0_berths_holders, .inl (cyI, 162, .inl v_holders)), (h_p0_roster, .inr (3, [.ref h_p0_roster_cells, .int v_size])), (h_p0_roster_cells, .inl (cyI, 280, .inl v_cells)), (h_p0_settings, .inl (cyI, 3, .inl v_settings))] s.heap.size = A at hD ⊢
  have hA : ∀ q : Nat, s.heap.size ≤ q → A q := fun q h => by rw [← hAe]; exact Or.inr h
  have hS : va_S A s.heap s.heap [] := va_S.rf
  have hP : va_P (dC, dI) vwCl [(h_p0, .inr (5, [.ref h_p0_berths, .ref h_p0_roster, .ref h_p0_settings, .int v_nextNumber, .int v_bookings, .int v_leftOut])), (h_p0_berths, .inr (0, [.ref h_p0_berths_holders, .ref h_p0_berths_ends])), (h_p0_berths_holders, .inl (cyI, 162, .inl v_holders)), (h_p0_roster, .inr (3, [.ref h_p0_roster_cells, .int v_size])), (h_p0_roster_cells, .inl (cyI, 280, .inl v_cells)), (h_p0_settings, .inl (cyI, 3, .inl v_settings))] s.heap := hP
  have L4 : ∀ (k : Nat), (∀ (x2 : Int32) (x3 : Int32) (H : Heap) (locs : List Loc), va_P (dC, dI) vwCl [(h_p0, .inr (5, [.ref h_p0_berths, .ref h_p0_roster, .ref h_p0_settings, .int v_nextNumber, .int v_bookings, .int v_leftOut])), (h_p0_berths, .inr (0, [.ref h_p0_berths_holders, .ref h_p0_berths_ends])), (h_p0_berths_holders, .inl (cyI, 162, .inl v_holders)), (h_p0_roster, .inr (3, [.ref h_p0_roster_cells, .int v_size])), (h_p0_roster_cells, .inl (cyI, 280, .inl v_cells)), (h_p0_settings, .inl (cyI, 3, .inl v_settings))] H → va_D A [(h_p0, .inr (5, [.ref h_p0_berths, .ref h_p0_roster, .ref h_p0_settings, .int v_nextNumber, .int v_bookings, .int v_leftOut])), (h_p0_berths, .inr (0, [.ref h_p0_berths_holders, .ref h_p0_berths_ends])), (h_p0_berths_holders, .inl (cyI, 162, .inl v_holders)), (h_p0_roster, .inr (3, [.ref h_p0_roster_cells, .int v_size])), (h_p0_roster_cells, .inl (cyI, 280, .inl v_cells)), (h_p0_settings, .inl (cyI, 3, .inl v_settings))] → va_S A s.heap H locs → ∀ (ls : Array Slot), lv_has ls 4 [(0, .ref h_p0), (1, .int a1), (2, .int x2), (3, .int x3)] →  s_X5_sumOf_L4 n v_holders v_size v_cells v_settings a1 k x2 x3 = some o → W p l e (headSpec wsX5_sumOf ({ frames := 4, cells := 0, slots := 0, locals := 89 })).room s m (([.ref h_p0, .int a1] : List Value).toArray) below meth c H locs 0 0 (MQ below (va_Qi (S := Unit) (fun r _ => r = o) (fun _ t => WLD (dC, dI) A [(h_p0, .inr (5, [.ref h_p0_berths, .ref h_p0_roster, .ref h_p0_settings, .int v_nextNumber, .int v_bookings, .int v_leftOut])), (h_p0_berths, .inr (0, [.ref h_p0_berths_holders, .ref h_p0_berths_ends])), (h_p0_berths_holders, .inl (cyI, 162, .inl v_holders)), (h_p0_roster, .inr (3, [.ref h_p0_roster_cells, .int v_size])), (h_p0_roster_cells, .inl (cyI, 280, .inl v_cells)), (h_p0_settings, .inl (cyI, 3, .inl v_settings))] t) A) (([.ref h_p0, .int a1] : List Value).toArray) s 0 0 A) (F0 m 4 ls [])) := by
    intro k
    induction k with
    | zero =>
      intro  x2 x3 H locs hP hD hS ls hl h
      rw [s_X5_sumOf_L4] at h
      cases h
    | succ k ih =>
      intro  x2 x3 H locs hP hD hS ls hl h
      rw [s_X5_sumOf_L4] at h
      refine lv_iload_n hx hb dX5_sumOf_4 rfl (lv_at hl 3 rfl) ?_
      refine lv_aload_n hx hb dX5_sumOf_5 rfl (lv_at hl 0 rfl) ?_
      refine va_get (D := (dC, dI)) (ci := 5) (v := .ref h_p0_roster) (C := RX5) (T := TX5) (N := 6) hx hb hts m_X5_sumOf_0 hown hK hP 0 rfl rfl 1 (by decide) (hts (.fieldLink RX5 21 "SleeperBerths$Train" "roster" "LSleeperBerths$Roster;") m_X5_sumOf_1) (fun _ h9 => h9) rfl dX5_sumOf_6 ?_
      refine va_get (D := (dC, dI)) (ci := 3) (v := .int v_size) (C := RX3) (T := TX3) (N := 2) hx hb hts m_X5_sumOf_2 hown hK hP 3 rfl rfl 1 (by decide) (hts (.fieldLink RX5 133 "SleeperBerths$Roster" "size" "I") m_X5_sumOf_3) (fun _ h9 => h9) rfl dX5_sumOf_9 ?_
      refine lv_icmp_ge (tgt := 30) hx hb dX5_sumOf_12 (by decide) (fun c1 => ?_) (fun c1 => ?_)
      · have h := ipos c1 h
        refine lv_iload_n hx hb dX5_sumOf_30 rfl (lv_at hl 2 rfl) ?_
        obtain rfl := Option.some.inj h
        exact W.iret (v := x2) hx hb hr (fun t ht hW => ⟨⟨x2, (), rfl, rfl, WLD.of ht hP hD⟩, hS.F ht⟩) hS.2.2 dX5_sumOf_31
      · have h := ineg c1 h
        refine lv_iload_n hx hb dX5_sumOf_15 rfl (lv_at hl 2 rfl) ?_
        refine lv_aload_n hx hb dX5_sumOf_16 rfl (lv_at hl 0 rfl) ?_
        refine lv_iload_n hx hb dX5_sumOf_17 rfl (lv_at hl 3 rfl) ?_
        refine lv_iload_n hx hb dX5_sumOf_18 rfl (lv_at hl 1 rfl) ?_
        obtain ⟨r2, e3, h⟩ := bsome h
        have hPc := sb_P [(h_p0, .inr (5, [.ref h_p0_berths, .ref h_p0_roster, .ref h_p0_settings, .int v_nextNumber, .int v_bookings, .int v_leftOut])), (h_p0_berths, .inr (0, [.ref h_p0_berths_holders, .ref h_p0_berths_ends])), (h_p0_berths_holders, .inl (cyI, 162, .inl v_holders)), (h_p0_roster, .inr (3, [.ref h_p0_roster_cells, .int v_size])), (h_p0_roster_cells, .inl (cyI, 280, .inl v_cells)), (h_p0_settings, .inl (cyI, 3, .inl v_settings))] hP [0, 1, 2, 3, 4, 5] rfl
        have hDc := sb_D [(h_p0, .inr (5, [.ref h_p0_berths, .ref h_p0_roster, .ref h_p0_settings, .int v_nextNumber, .int v_bookings, .int v_leftOut])), (h_p0_berths, .inr (0, [.ref h_p0_berths_holders, .ref h_p0_berths_ends])), (h_p0_berths_holders, .inl (cyI, 162, .inl v_holders)), (h_p0_roster, .inr (3, [.ref h_p0_roster_cells, .int v_size])), (h_p0_roster_cells, .inl (cyI, 280, .inl v_cells)), (h_p0_settings, .inl (cyI, 3, .inl v_settings))] hD [0, 1, 2, 3, 4, 5] (by decide) rfl
        have hFc := va_free (wc := [(h_p0, .inr (5, [.ref h_p0_berths, .ref h_p0_roster, .ref h_p0_settings, .int v_nextNumber, .int v_bookings, .int v_leftOut])), (h_p0_berths, .inr (0, [.ref h_p0_berths_holders, .ref h_p0_berths_ends])), (h_p0_berths_holders, .inl (cyI, 162, .inl v_holders)), (h_p0_roster, .inr (3, [.ref h_p0_roster_cells, .int v_size])), (h_p0_roster_cells, .inl (cyI, 280, .inl v_cells)), (h_p0_settings, .inl (cyI, 3, .inl v_settings))]) hD hS hA [0, 1, 2, 3, 4, 5] rfl
        refine va_calli (va_runV (As := [.int x3, .int a1]) (rest := [.int x2]) ⟨hx, hb, hml, hown, hts⟩ (c_X5_property l dC dI cyI cyJ cyT h_p0 h_p0_berths h_p0_roster h_p0_settings h_p0_berths_holders h_p0_berths_ends h_p0_roster_cells H.size v_nextNumber v_bookings v_leftOut v_holders v_size v_cells v_settings x3 a1 n r2 e3) (cwV 2 hts gX5_sumOf_X5_property rfl rfl rfl (by decide +kernel) ⟨Nat.le_of_ble_eq_true rfl, Nat.le_of_ble_eq_true rfl⟩) ⟨PRE.blind, va_recv hK hPc (ci := 5) (q0 := 0) rfl rfl, PRE.go hK hPc hDc hNW⟩ rfl rfl hl.1 rfl (lv_room (Nat.le_of_ble_eq_true rfl)) dX5_sumOf_19 ⟨Nat.zero_le _, Nat.zero_le _⟩) hS (fun q _ h => hFc q h) hFc (fun z4 u t H locs ht hvm hw hB hz1 hk1 hS => ?_)
        subst z4
        obtain ⟨hP, hD⟩ := va_join (wr := []) (w1 := [(h_p0, .inr (5, [.ref h_p0_berths, .ref h_p0_roster, .ref h_p0_settings, .int v_nextNumber, .int v_bookings, .int v_leftOut])), (h_p0_berths, .inr (0, [.ref h_p0_berths_holders, .ref h_p0_berths_ends])), (h_p0_berths_holders, .inl (cyI, 162, .inl v_holders)), (h_p0_roster, .inr (3, [.ref h_p0_roster_cells, .int v_size])), (h_p0_roster_cells, .inl (cyI, 280, .inl v_cells)), (h_p0_settings, .inl (cyI, 3, .inl v_settings))]) hP hD [0, 1, 2, 3, 4, 5] [] rfl rfl (by decide) (by decide) hk1 hFc (WLD.P hB ht) hB.2
        have hP : va_P (dC, dI) vwCl [(h_p0, .inr (5, [.ref h_p0_berths, .ref h_p0_roster, .ref h_p0_settings, .int v_nextNumber, .int v_bookings, .int v_leftOut])), (h_p0_berths, .inr (0, [.ref h_p0_berths_holders, .ref h_p0_berths_ends])), (h_p0_berths_holders, .inl (cyI, 162, .inl v_holders)), (h_p0_roster, .inr (3, [.ref h_p0_roster_cells, .int v_size])), (h_p0_roster_cells, .inl (cyI, 280, .inl v_cells)), (h_p0_settings, .inl (cyI, 3, .inl v_settings))] H := hP
        have hD : va_D A [(h_p0, .inr (5, [.ref h_p0_berths, .ref h_p0_roster, .ref h_p0_settings, .int v_nextNumber, .int v_bookings, .int v_leftOut])), (h_p0_berths, .inr (0, [.ref h_p0_berths_holders, .ref h_p0_berths_ends])), (h_p0_berths_holders, .inl (cyI, 162, .inl v_holders)), (h_p0_roster, .inr (3, [.ref h_p0_roster_cells, .int v_size])), (h_p0_roster_cells, .inl (cyI, 280, .inl v_cells)), (h_p0_settings, .inl (cyI, 3, .inl v_settings))] := hD
        refine lv_iadd hx hb dX5_sumOf_22 ?_
        refine lv_istore_n hx hb dX5_sumOf_23 rfl hl (by decide) (rfl : _ = ([(2, .int (x2 + r2)), (0, .ref h_p0), (1, .int a1), (3, .int x3)] : List (Nat × Value))) (fun ls hl => ?_)
        refine lv_iinc (v := (x3 + iI 1)) hx hb dX5_sumOf_24 hl (k := 3) rfl rfl (by decide) (rfl : _ = ([(3, .int (x3 + iI 1)), (2, .int (x2 + r2)), (0, .ref h_p0), (1, .int a1)] : List (Nat × Value))) (fun ls hl => ?_)
        refine lv_goto (tgt := 4) hx hb dX5_sumOf_27 (by decide) ?_
        exact ih (x2 + r2) (x3 + iI 1) _ _ hP hD hS ls (lv_sub hl [2, 3, 1, 0] rfl) h
  have hl := lv_entry ([.ref h_p0, .int a1]) (n := 4) (Nat.le_of_ble_eq_true rfl)
  rw [lg_entry_eq]
  generalize (lg_sl ([.ref h_p0, .int a1]) ++ List.replicate (4 - (lg_sl ([.ref h_p0, .int a1])).length) Slot.unset).toArray = ls at hl ⊢
  have hl : lv_has ls 4 [(0, .ref h_p0), (1, .int a1)] := hl
  unfold s_X5_sumOf at h
  refine lv_iconst (v := iI 0) hx hb dX5_sumOf_0 rfl ?_
  refine lv_istore_n hx hb dX5_sumOf_1 rfl hl (by decide) (rfl : _ = ([(2, .int (iI 0)), (0, .ref h_p0), (1, .int a1)] : List (Nat × Value))) (fun ls hl => ?_)
  refine lv_iconst (v := iI 0) hx hb dX5_sumOf_2 rfl ?_
  refine lv_istore_n hx hb dX5_sumOf_3 rfl hl (by decide) (rfl : _ = ([(3, .int (iI 0)), (2, .int (iI 0)), (0, .ref h_p0), (1, .int a1)] : List (Nat × Value))) (fun ls hl => ?_)
  exact L4 n (iI 0) (iI 0) _ _ hP hD hS ls (lv_sub hl [2, 3, 1, 0] rfl) h
def s_X3_changing_L4 (n : Nat) (v_size : Int32) (v_cells : Nat → Int32) : Nat → Int32 → Int32 → Option (Int32)
  | 0, _, _ => none
  | k + 1, x1, x2 => (if v_size ≤ x2 then (some (x1)) else ((s_X3_at v_cells x2 (iI 6)).bind fun r2 => (if r2 = iI (-1) then (s_X3_changing_L4 n v_size v_cells k x1 (x2 + iI 1)) else (s_X3_changing_L4 n v_size v_cells k (x1 + iI 1) (x2 + iI 1)))))
def s_X3_changing (n : Nat) (v_size : Int32) (v_cells : Nat → Int32) : Option (Int32) := (s_X3_changing_L4 n v_size v_cells n (iI 0) (iI 0))
set_option maxRecDepth 20000 in
theorem m_X3_changing_0 : ∀ w ∈ u_ws RX3 TX3 2, w ∈ wsX3_changing := by decide +kernel
set_option maxRecDepth 20000 in
theorem m_X3_changing_1 : (.fieldLink RX3 19 "SleeperBerths$Roster" "size" "I" : Cond) ∈ wsX3_changing := by decide +kernel
set_option maxHeartbeats 4000000 in
set_option maxRecDepth 100000 in
theorem c_X3_changing (l : Launch) (dC : Nat → ClassId) (dI : Nat → Nat → Nat) (cyI cyJ cyT : ClassId) (h_p0 : Nat) (h_p0_cells : Nat) (sz : Nat) (v_size : Int32) (v_cells : Nat → Int32) (n : Nat) (o : Int32) (h : s_X3_changing n v_size v_cells = some o) : Met l yX3_changing wsX3_changing ({ frames := 1, cells := 0, slots := 0, locals := 23 }) (va_Pc [.ref h_p0] (PRE (dC, dI) (TYS cyI cyJ cyT) sz [(h_p0, .inr (3, [.ref h_p0_cells, .int v_size])), (h_p0_cells, .inl (cyI, 280, .inl v_cells))])) (va_Qi (S := Unit) (fun r _ => r = o) (fun _ t => WLD (dC, dI) (va_A [(h_p0, .inr (3, [.ref h_p0_cells, .int v_size])), (h_p0_cells, .inl (cyI, 280, .inl v_cells))] sz) [(h_p0, .inr (3, [.ref h_p0_cells, .int v_size])), (h_p0_cells, .inl (cyI, 280, .inl v_cells))] t) (va_A [(h_p0, .inr (3, [.ref h_p0_cells, .int v_size])), (h_p0_cells, .inl (cyI, 280, .inl v_cells))] sz)) 0 0 (va_A [(h_p0, .inr (3, [.ref h_p0_cells, .int v_size])), (h_p0_cells, .inl (cyI, 280, .inl v_cells))] sz) := by
  refine Met.ofW (cc := cX3_changing) (maxL := 3) (ret := (some .int)) (by decide) rfl ?_
  intro p e s m args below meth c s₁ B hml hv
  obtain ⟨rfl, hsz, hP, hK, hD0, hNW⟩ := hv
  have hx := B.exec
  have hb := B.bytes
  have hr := B.returns
  have hts := atoms_spec (ws := wsX3_changing) B.pre
  have hown : s.vm.findClass RX3 = some m.cls := findClass_of_methodNamed B.named
  have hlocks := B.notSynchronized
  subst hsz
  have hD := hD0.self (sz := s.heap.size)
  generalize hAe : va_A [(h_p0, .inr (3, [.ref h_p0_cells, .int v_size])), (h_p0_cells, .inl (cyI, 280, .inl v_cells))] s.heap.size = A at hD ⊢
  have hA : ∀ q : Nat, s.heap.size ≤ q → A q := fun q h => by rw [← hAe]; exact Or.inr h
  have hS : va_S A s.heap s.heap [] := va_S.rf
  have hP : va_P (dC, dI) vwCl [(h_p0, .inr (3, [.ref h_p0_cells, .int v_size])), (h_p0_cells, .inl (cyI, 280, .inl v_cells))] s.heap := hP
  have L4 : ∀ (k : Nat), (∀ (x1 : Int32) (x2 : Int32) (H : Heap) (locs : List Loc), va_P (dC, dI) vwCl [(h_p0, .inr (3, [.ref h_p0_cells, .int v_size])), (h_p0_cells, .inl (cyI, 280, .inl v_cells))] H → va_D A [(h_p0, .inr (3, [.ref h_p0_cells, .int v_size])), (h_p0_cells, .inl (cyI, 280, .inl v_cells))] → va_S A s.heap H locs → ∀ (ls : Array Slot), lv_has ls 3 [(0, .ref h_p0), (1, .int x1), (2, .int x2)] →  s_X3_changing_L4 n v_size v_cells k x1 x2 = some o → W p l e (headSpec wsX3_changing ({ frames := 1, cells := 0, slots := 0, locals := 23 })).room s m (([.ref h_p0] : List Value).toArray) below meth c H locs 0 0 (MQ below (va_Qi (S := Unit) (fun r _ => r = o) (fun _ t => WLD (dC, dI) A [(h_p0, .inr (3, [.ref h_p0_cells, .int v_size])), (h_p0_cells, .inl (cyI, 280, .inl v_cells))] t) A) (([.ref h_p0] : List Value).toArray) s 0 0 A) (F0 m 4 ls [])) := by
    intro k
    induction k with
    | zero =>
      intro  x1 x2 H locs hP hD hS ls hl h
      rw [s_X3_changing_L4] at h
      cases h
    | succ k ih =>
      intro  x1 x2 H locs hP hD hS ls hl h
      rw [s_X3_changing_L4] at h
      refine lv_iload_n hx hb dX3_changing_4 rfl (lv_at hl 2 rfl) ?_
      refine lv_aload_n hx hb dX3_changing_5 rfl (lv_at hl 0 rfl) ?_
      refine va_get (D := (dC, dI)) (ci := 3) (v := .int v_size) (C := RX3) (T := TX3) (N := 2) hx hb hts m_X3_changing_0 hown hK hP 0 rfl rfl 1 (by decide) (hts (.fieldLink RX3 19 "SleeperBerths$Roster" "size" "I") m_X3_changing_1) (fun _ h9 => h9) rfl dX3_changing_6 ?_
      refine lv_icmp_ge (tgt := 32) hx hb dX3_changing_9 (by decide) (fun c1 => ?_) (fun c1 => ?_)
      · have h := ipos c1 h
        refine lv_iload_n hx hb dX3_changing_32 rfl (lv_at hl 1 rfl) ?_
        obtain rfl := Option.some.inj h
        exact W.iret (v := x1) hx hb hr (fun t ht hW => ⟨⟨x1, (), rfl, rfl, WLD.of ht hP hD⟩, hS.F ht⟩) hS.2.2 dX3_changing_33
      · have h := ineg c1 h
        refine lv_aload_n hx hb dX3_changing_12 rfl (lv_at hl 0 rfl) ?_
        refine lv_iload_n hx hb dX3_changing_13 rfl (lv_at hl 2 rfl) ?_
        refine lv_bipush (v := iI 6) hx hb dX3_changing_14 (by decide) ?_
        obtain ⟨r2, e3, h⟩ := bsome h
        have hPc := sb_P [(h_p0, .inr (3, [.ref h_p0_cells, .int v_size])), (h_p0_cells, .inl (cyI, 280, .inl v_cells))] hP [0, 1] rfl
        have hDc := sb_D [(h_p0, .inr (3, [.ref h_p0_cells, .int v_size])), (h_p0_cells, .inl (cyI, 280, .inl v_cells))] hD [0, 1] (by decide) rfl
        have hFc := va_free (wc := [(h_p0, .inr (3, [.ref h_p0_cells, .int v_size])), (h_p0_cells, .inl (cyI, 280, .inl v_cells))]) hD hS hA [0, 1] rfl
        refine va_calli (va_runV (As := [.int x2, .int (iI 6)]) (rest := []) ⟨hx, hb, hml, hown, hts⟩ (c_X3_at l dC dI cyI cyJ cyT h_p0 h_p0_cells H.size v_size v_cells x2 (iI 6) r2 e3) (cwV 2 hts gX3_changing_X3_at rfl rfl rfl (by decide +kernel) ⟨Nat.le_of_ble_eq_true rfl, Nat.le_of_ble_eq_true rfl⟩) ⟨PRE.blind, va_recv hK hPc (ci := 3) (q0 := 0) rfl rfl, PRE.go hK hPc hDc hNW⟩ rfl rfl hl.1 rfl (lv_room (Nat.le_of_ble_eq_true rfl)) dX3_changing_16 ⟨Nat.zero_le _, Nat.zero_le _⟩) hS (fun q _ h => hFc q h) hFc (fun z4 u t H locs ht hvm hw hB hz1 hk1 hS => ?_)
        subst z4
        obtain ⟨hP, hD⟩ := va_join (wr := []) (w1 := [(h_p0, .inr (3, [.ref h_p0_cells, .int v_size])), (h_p0_cells, .inl (cyI, 280, .inl v_cells))]) hP hD [0, 1] [] rfl rfl (by decide) (by decide) hk1 hFc (WLD.P hB ht) hB.2
        have hP : va_P (dC, dI) vwCl [(h_p0, .inr (3, [.ref h_p0_cells, .int v_size])), (h_p0_cells, .inl (cyI, 280, .inl v_cells))] H := hP
        have hD : va_D A [(h_p0, .inr (3, [.ref h_p0_cells, .int v_size])), (h_p0_cells, .inl (cyI, 280, .inl v_cells))] := hD
        refine lv_iconst (v := iI (-1)) hx hb dX3_changing_19 rfl ?_
        refine lv_icmp_eq (tgt := 26) hx hb dX3_changing_20 (by decide) (fun c5 => ?_) (fun c5 => ?_)
        · have h := ipos c5 h
          refine lv_iinc (v := (x2 + iI 1)) hx hb dX3_changing_26 hl (k := 2) rfl rfl (by decide) (rfl : _ = ([(2, .int (x2 + iI 1)), (0, .ref h_p0), (1, .int x1)] : List (Nat × Value))) (fun ls hl => ?_)
          refine lv_goto (tgt := 4) hx hb dX3_changing_29 (by decide) ?_
          exact ih x1 (x2 + iI 1) _ _ hP hD hS ls (lv_sub hl [1, 2, 0] rfl) h
        · have h := ineg c5 h
          refine lv_iinc (v := (x1 + iI 1)) hx hb dX3_changing_23 hl (k := 1) rfl rfl (by decide) (rfl : _ = ([(1, .int (x1 + iI 1)), (0, .ref h_p0), (2, .int x2)] : List (Nat × Value))) (fun ls hl => ?_)
          refine lv_iinc (v := (x2 + iI 1)) hx hb dX3_changing_26 hl (k := 2) rfl rfl (by decide) (rfl : _ = ([(2, .int (x2 + iI 1)), (1, .int (x1 + iI 1)), (0, .ref h_p0)] : List (Nat × Value))) (fun ls hl => ?_)
          refine lv_goto (tgt := 4) hx hb dX3_changing_29 (by decide) ?_
          exact ih (x1 + iI 1) (x2 + iI 1) _ _ hP hD hS ls (lv_sub hl [2, 1, 0] rfl) h
  have hl := lv_entry ([.ref h_p0]) (n := 3) (Nat.le_of_ble_eq_true rfl)
  rw [lg_entry_eq]
  generalize (lg_sl ([.ref h_p0]) ++ List.replicate (3 - (lg_sl ([.ref h_p0])).length) Slot.unset).toArray = ls at hl ⊢
  have hl : lv_has ls 3 [(0, .ref h_p0)] := hl
  unfold s_X3_changing at h
  refine lv_iconst (v := iI 0) hx hb dX3_changing_0 rfl ?_
  refine lv_istore_n hx hb dX3_changing_1 rfl hl (by decide) (rfl : _ = ([(1, .int (iI 0)), (0, .ref h_p0)] : List (Nat × Value))) (fun ls hl => ?_)
  refine lv_iconst (v := iI 0) hx hb dX3_changing_2 rfl ?_
  refine lv_istore_n hx hb dX3_changing_3 rfl hl (by decide) (rfl : _ = ([(2, .int (iI 0)), (1, .int (iI 0)), (0, .ref h_p0)] : List (Nat × Value))) (fun ls hl => ?_)
  exact L4 n (iI 0) (iI 0) _ _ hP hD hS ls (lv_sub hl [2, 1, 0] rfl) h
def s_X0_allHad_L4 (n : Nat) (v_holders : Nat → Int32) : Nat → Int32 → Int32 → Option (Int32)
  | 0, _, _ => none
  | k + 1, x1, x2 => (if iI 162 ≤ x2 then (some (x1)) else (if gd x2 162 = true then (if (v_holders x2.toNatClampNeg) = iI (-1) then (s_X0_allHad_L4 n v_holders k x1 (x2 + iI 1)) else (s_X0_allHad_L4 n v_holders k (x1 + iI 1) (x2 + iI 1))) else none))
def s_X0_allHad (n : Nat) (v_holders : Nat → Int32) : Option (Int32) := (s_X0_allHad_L4 n v_holders n (iI 0) (iI 0))
set_option maxRecDepth 20000 in
theorem m_X0_allHad_0 : ∀ w ∈ u_ws RX0 TX0 2, w ∈ wsX0_allHad := by decide +kernel
set_option maxRecDepth 20000 in
theorem m_X0_allHad_1 : (.fieldLink RX0 9 "SleeperBerths$Berths" "holders" "[I" : Cond) ∈ wsX0_allHad := by decide +kernel
set_option maxHeartbeats 4000000 in
set_option maxRecDepth 100000 in
theorem c_X0_allHad (l : Launch) (dC : Nat → ClassId) (dI : Nat → Nat → Nat) (cyI cyJ cyT : ClassId) (h_p0 : Nat) (h_p0_holders : Nat) (h_p0_ends : Nat) (sz : Nat) (v_holders : Nat → Int32) (n : Nat) (o : Int32) (h : s_X0_allHad n v_holders = some o) : Met l yX0_allHad wsX0_allHad ({ frames := 0, cells := 0, slots := 0, locals := 0 }) (va_Pc [.ref h_p0] (PRE (dC, dI) (TYS cyI cyJ cyT) sz [(h_p0, .inr (0, [.ref h_p0_holders, .ref h_p0_ends])), (h_p0_holders, .inl (cyI, 162, .inl v_holders))])) (va_Qi (S := Unit) (fun r _ => r = o) (fun _ t => WLD (dC, dI) (va_A [(h_p0, .inr (0, [.ref h_p0_holders, .ref h_p0_ends])), (h_p0_holders, .inl (cyI, 162, .inl v_holders))] sz) [(h_p0, .inr (0, [.ref h_p0_holders, .ref h_p0_ends])), (h_p0_holders, .inl (cyI, 162, .inl v_holders))] t) (va_A [(h_p0, .inr (0, [.ref h_p0_holders, .ref h_p0_ends])), (h_p0_holders, .inl (cyI, 162, .inl v_holders))] sz)) 0 0 (va_A [(h_p0, .inr (0, [.ref h_p0_holders, .ref h_p0_ends])), (h_p0_holders, .inl (cyI, 162, .inl v_holders))] sz) := by
  refine Met.ofW (cc := cX0_allHad) (maxL := 3) (ret := (some .int)) (by decide) rfl ?_
  intro p e s m args below meth c s₁ B hml hv
  obtain ⟨rfl, hsz, hP, hK, hD0, hNW⟩ := hv
  have hx := B.exec
  have hb := B.bytes
  have hr := B.returns
  have hts := atoms_spec (ws := wsX0_allHad) B.pre
  have hown : s.vm.findClass RX0 = some m.cls := findClass_of_methodNamed B.named
  have hlocks := B.notSynchronized
  subst hsz
  have hD := hD0.self (sz := s.heap.size)
  generalize hAe : va_A [(h_p0, .inr (0, [.ref h_p0_holders, .ref h_p0_ends])), (h_p0_holders, .inl (cyI, 162, .inl v_holders))] s.heap.size = A at hD ⊢
  have hA : ∀ q : Nat, s.heap.size ≤ q → A q := fun q h => by rw [← hAe]; exact Or.inr h
  have hS : va_S A s.heap s.heap [] := va_S.rf
  have hP : va_P (dC, dI) vwCl [(h_p0, .inr (0, [.ref h_p0_holders, .ref h_p0_ends])), (h_p0_holders, .inl (cyI, 162, .inl v_holders))] s.heap := hP
  have L4 : ∀ (k : Nat), (∀ (x1 : Int32) (x2 : Int32) (H : Heap) (locs : List Loc), va_P (dC, dI) vwCl [(h_p0, .inr (0, [.ref h_p0_holders, .ref h_p0_ends])), (h_p0_holders, .inl (cyI, 162, .inl v_holders))] H → va_D A [(h_p0, .inr (0, [.ref h_p0_holders, .ref h_p0_ends])), (h_p0_holders, .inl (cyI, 162, .inl v_holders))] → va_S A s.heap H locs → ∀ (ls : Array Slot), lv_has ls 3 [(0, .ref h_p0), (1, .int x1), (2, .int x2)] →  s_X0_allHad_L4 n v_holders k x1 x2 = some o → W p l e (headSpec wsX0_allHad ({ frames := 0, cells := 0, slots := 0, locals := 0 })).room s m (([.ref h_p0] : List Value).toArray) below meth c H locs 0 0 (MQ below (va_Qi (S := Unit) (fun r _ => r = o) (fun _ t => WLD (dC, dI) A [(h_p0, .inr (0, [.ref h_p0_holders, .ref h_p0_ends])), (h_p0_holders, .inl (cyI, 162, .inl v_holders))] t) A) (([.ref h_p0] : List Value).toArray) s 0 0 A) (F0 m 4 ls [])) := by
    intro k
    induction k with
    | zero =>
      intro  x1 x2 H locs hP hD hS ls hl h
      rw [s_X0_allHad_L4] at h
      cases h
    | succ k ih =>
      intro  x1 x2 H locs hP hD hS ls hl h
      rw [s_X0_allHad_L4] at h
      refine lv_iload_n hx hb dX0_allHad_4 rfl (lv_at hl 2 rfl) ?_
      refine lv_aload_n hx hb dX0_allHad_5 rfl (lv_at hl 0 rfl) ?_
      refine va_get (D := (dC, dI)) (ci := 0) (v := .ref h_p0_holders) (C := RX0) (T := TX0) (N := 2) hx hb hts m_X0_allHad_0 hown hK hP 0 rfl rfl 0 (by decide) (hts (.fieldLink RX0 9 "SleeperBerths$Berths" "holders" "[I") m_X0_allHad_1) (fun _ h9 => h9) rfl dX0_allHad_6 ?_
      refine va_alen (D := (dC, dI)) (v := iI 162) hx hb hK hP 1 0 rfl rfl (show Int32.ofNat 162 = iI 162 by decide) dX0_allHad_9 ?_
      refine lv_icmp_ge (tgt := 32) hx hb dX0_allHad_10 (by decide) (fun c1 => ?_) (fun c1 => ?_)
      · have h := ipos c1 h
        refine lv_iload_n hx hb dX0_allHad_32 rfl (lv_at hl 1 rfl) ?_
        obtain rfl := Option.some.inj h
        exact W.iret (v := x1) hx hb hr (fun t ht hW => ⟨⟨x1, (), rfl, rfl, WLD.of ht hP hD⟩, hS.F ht⟩) hS.2.2 dX0_allHad_33
      · have h := ineg c1 h
        refine lv_aload_n hx hb dX0_allHad_13 rfl (lv_at hl 0 rfl) ?_
        refine va_get (D := (dC, dI)) (ci := 0) (v := .ref h_p0_holders) (C := RX0) (T := TX0) (N := 2) hx hb hts m_X0_allHad_0 hown hK hP 0 rfl rfl 0 (by decide) (hts (.fieldLink RX0 9 "SleeperBerths$Berths" "holders" "[I") m_X0_allHad_1) (fun _ h9 => h9) rfl dX0_allHad_14 ?_
        refine lv_iload_n hx hb dX0_allHad_17 rfl (lv_at hl 2 rfl) ?_
        obtain ⟨g2, h⟩ := gsome h
        refine va_iald (D := (dC, dI)) hx hb hK hP 1 0 rfl rfl g2 dX0_allHad_18 ?_
        refine lv_iconst (v := iI (-1)) hx hb dX0_allHad_19 rfl ?_
        refine lv_icmp_eq (tgt := 26) hx hb dX0_allHad_20 (by decide) (fun c3 => ?_) (fun c3 => ?_)
        · have h := ipos c3 h
          refine lv_iinc (v := (x2 + iI 1)) hx hb dX0_allHad_26 hl (k := 2) rfl rfl (by decide) (rfl : _ = ([(2, .int (x2 + iI 1)), (0, .ref h_p0), (1, .int x1)] : List (Nat × Value))) (fun ls hl => ?_)
          refine lv_goto (tgt := 4) hx hb dX0_allHad_29 (by decide) ?_
          exact ih x1 (x2 + iI 1) _ _ hP hD hS ls (lv_sub hl [1, 2, 0] rfl) h
        · have h := ineg c3 h
          refine lv_iinc (v := (x1 + iI 1)) hx hb dX0_allHad_23 hl (k := 1) rfl rfl (by decide) (rfl : _ = ([(1, .int (x1 + iI 1)), (0, .ref h_p0), (2, .int x2)] : List (Nat × Value))) (fun ls hl => ?_)
          refine lv_iinc (v := (x2 + iI 1)) hx hb dX0_allHad_26 hl (k := 2) rfl rfl (by decide) (rfl : _ = ([(2, .int (x2 + iI 1)), (1, .int (x1 + iI 1)), (0, .ref h_p0)] : List (Nat × Value))) (fun ls hl => ?_)
          refine lv_goto (tgt := 4) hx hb dX0_allHad_29 (by decide) ?_
          exact ih (x1 + iI 1) (x2 + iI 1) _ _ hP hD hS ls (lv_sub hl [2, 1, 0] rfl) h
  have hl := lv_entry ([.ref h_p0]) (n := 3) (Nat.le_of_ble_eq_true rfl)
  rw [lg_entry_eq]
  generalize (lg_sl ([.ref h_p0]) ++ List.replicate (3 - (lg_sl ([.ref h_p0])).length) Slot.unset).toArray = ls at hl ⊢
  have hl : lv_has ls 3 [(0, .ref h_p0)] := hl
  unfold s_X0_allHad at h
  refine lv_iconst (v := iI 0) hx hb dX0_allHad_0 rfl ?_
  refine lv_istore_n hx hb dX0_allHad_1 rfl hl (by decide) (rfl : _ = ([(1, .int (iI 0)), (0, .ref h_p0)] : List (Nat × Value))) (fun ls hl => ?_)
  refine lv_iconst (v := iI 0) hx hb dX0_allHad_2 rfl ?_
  refine lv_istore_n hx hb dX0_allHad_3 rfl hl (by decide) (rfl : _ = ([(2, .int (iI 0)), (1, .int (iI 0)), (0, .ref h_p0)] : List (Nat × Value))) (fun ls hl => ?_)
  exact L4 n (iI 0) (iI 0) _ _ hP hD hS ls (lv_sub hl [2, 1, 0] rfl) h
def s_X6_count (n : Nat) (v_hsize : Int32) (v_bookings : Int32) (v_leftOut : Int32) (v_holders : Nat → Int32) (v_size : Int32) (v_cells : Nat → Int32) (v_settings : Nat → Int32) (a1 : Int32) : Option (Nat × Int32) := (if a1 = iI 0 then (some (0, v_size)) else (if a1 = iI 1 then ((s_X5_sumOf n v_holders v_size v_cells v_settings (iI 3)).bind fun r3 => (some (0, r3))) else (if a1 = iI 2 then ((s_X3_changing n v_size v_cells).bind fun r7 => (some (0, r7))) else (if a1 = iI 3 then ((s_X5_sumOf n v_holders v_size v_cells v_settings (iI 7)).bind fun r11 => (some (0, r11))) else (if a1 = iI 4 then ((s_X5_sumOf n v_holders v_size v_cells v_settings (iI 8)).bind fun r15 => (some (0, r15))) else (if a1 = iI 5 then ((s_X0_allHad n v_holders).bind fun r19 => (some (0, r19))) else (if a1 = iI 6 then (some (0, v_bookings)) else (if a1 = iI 7 then (some (0, v_leftOut)) else (if a1 = iI 8 then (some (0, v_hsize)) else (some (1, 0)))))))))))
set_option maxRecDepth 20000 in
theorem m_X6_count_0 : ∀ w ∈ u_ws RX6 TX6 3, w ∈ wsX6_count := by decide +kernel
set_option maxRecDepth 20000 in
theorem m_X6_count_1 : (.fieldLink RX6 12 "SleeperBerths" "train" "LSleeperBerths$Train;" : Cond) ∈ wsX6_count := by decide +kernel
set_option maxRecDepth 20000 in
theorem m_X6_count_2 : ∀ w ∈ u_ws RX5 TX5 6, w ∈ wsX6_count := by decide +kernel
set_option maxRecDepth 20000 in
theorem m_X6_count_3 : (.fieldLink RX6 38 "SleeperBerths$Train" "roster" "LSleeperBerths$Roster;" : Cond) ∈ wsX6_count := by decide +kernel
set_option maxRecDepth 20000 in
theorem m_X6_count_4 : ∀ w ∈ u_ws RX3 TX3 2, w ∈ wsX6_count := by decide +kernel
set_option maxRecDepth 20000 in
theorem m_X6_count_5 : (.fieldLink RX6 210 "SleeperBerths$Roster" "size" "I" : Cond) ∈ wsX6_count := by decide +kernel
set_option maxRecDepth 20000 in
theorem m_X6_count_6 : (.fieldLink RX6 121 "SleeperBerths$Train" "berths" "LSleeperBerths$Berths;" : Cond) ∈ wsX6_count := by decide +kernel
set_option maxRecDepth 20000 in
theorem m_X6_count_7 : (.fieldLink RX6 109 "SleeperBerths$Train" "bookings" "I" : Cond) ∈ wsX6_count := by decide +kernel
set_option maxRecDepth 20000 in
theorem m_X6_count_8 : (.fieldLink RX6 220 "SleeperBerths$Train" "leftOut" "I" : Cond) ∈ wsX6_count := by decide +kernel
set_option maxRecDepth 20000 in
theorem m_X6_count_9 : (.fieldLink RX6 19 "SleeperBerths" "history" "LSleeperBerths$History;" : Cond) ∈ wsX6_count := by decide +kernel
set_option maxRecDepth 20000 in
theorem m_X6_count_10 : ∀ w ∈ u_ws RX1 TX1 3, w ∈ wsX6_count := by decide +kernel
set_option maxRecDepth 20000 in
theorem m_X6_count_11 : (.fieldLink RX6 195 "SleeperBerths$History" "size" "I" : Cond) ∈ wsX6_count := by decide +kernel
set_option maxRecDepth 20000 in
theorem m_X6_count_12 : ∀ w ∈ (vx_atS RX6 120 "java/lang/IllegalArgumentException" ["java/lang/RuntimeException", "java/lang/Exception"]).filter goodWord, w ∈ wsX6_count := by decide +kernel
set_option maxRecDepth 20000 in
theorem m_X6_count_13 : (.classLink RX6 116 "java/lang/IllegalArgumentException" : Cond) ∈ wsX6_count := by decide +kernel
set_option maxRecDepth 20000 in
theorem m_X6_count_14 : (.initialized "java/lang/IllegalArgumentException" : Cond) ∈ wsX6_count := by decide +kernel
set_option maxHeartbeats 4000000 in
set_option maxRecDepth 100000 in
theorem c_X6_count (l : Launch) (hl0 : l.stackTraces = false) (dC : Nat → ClassId) (dI : Nat → Nat → Nat) (cyI cyJ cyT : ClassId) (h_p0 : Nat) (h_p0_train : Nat) (h_p0_history : Nat) (h_p0_text : Nat) (h_p0_history_ring : Nat) (h_p0_train_berths : Nat) (h_p0_train_roster : Nat) (h_p0_train_settings : Nat) (h_p0_train_berths_holders : Nat) (h_p0_train_berths_ends : Nat) (h_p0_train_roster_cells : Nat) (sz : Nat) (v_oldest : Int32) (v_hsize : Int32) (v_nextNumber : Int32) (v_bookings : Int32) (v_leftOut : Int32) (v_holders : Nat → Int32) (v_size : Int32) (v_cells : Nat → Int32) (v_settings : Nat → Int32) (a1 : Int32) (n : Nat) (o : Nat × Int32) (h : s_X6_count n v_hsize v_bookings v_leftOut v_holders v_size v_cells v_settings a1 = some o) : vx_Met l yX6_count wsX6_count ({ frames := 6, cells := 1, slots := 6, locals := 112 }) (va_Pc [.ref h_p0, .int a1] (PREX (dC, dI) (TYS cyI cyJ cyT) sz [(h_p0, .inr (6, [.ref h_p0_train, .ref h_p0_history, .ref h_p0_text])), (h_p0_history, .inr (1, [.ref h_p0_history_ring, .int v_oldest, .int v_hsize])), (h_p0_train, .inr (5, [.ref h_p0_train_berths, .ref h_p0_train_roster, .ref h_p0_train_settings, .int v_nextNumber, .int v_bookings, .int v_leftOut])), (h_p0_train_berths, .inr (0, [.ref h_p0_train_berths_holders, .ref h_p0_train_berths_ends])), (h_p0_train_berths_holders, .inl (cyI, 162, .inl v_holders)), (h_p0_train_roster, .inr (3, [.ref h_p0_train_roster_cells, .int v_size])), (h_p0_train_roster_cells, .inl (cyI, 280, .inl v_cells)), (h_p0_train_settings, .inl (cyI, 3, .inl v_settings))])) (va_Qi (S := Unit) (fun r _ => o.1 = 0 ∧ r = o.2) (fun _ t => WLD (dC, dI) (va_A [(h_p0, .inr (6, [.ref h_p0_train, .ref h_p0_history, .ref h_p0_text])), (h_p0_history, .inr (1, [.ref h_p0_history_ring, .int v_oldest, .int v_hsize])), (h_p0_train, .inr (5, [.ref h_p0_train_berths, .ref h_p0_train_roster, .ref h_p0_train_settings, .int v_nextNumber, .int v_bookings, .int v_leftOut])), (h_p0_train_berths, .inr (0, [.ref h_p0_train_berths_holders, .ref h_p0_train_berths_ends])), (h_p0_train_berths_holders, .inl (cyI, 162, .inl v_holders)), (h_p0_train_roster, .inr (3, [.ref h_p0_train_roster_cells, .int v_size])), (h_p0_train_roster_cells, .inl (cyI, 280, .inl v_cells)), (h_p0_train_settings, .inl (cyI, 3, .inl v_settings))] sz) [(h_p0, .inr (6, [.ref h_p0_train, .ref h_p0_history, .ref h_p0_text])), (h_p0_history, .inr (1, [.ref h_p0_history_ring, .int v_oldest, .int v_hsize])), (h_p0_train, .inr (5, [.ref h_p0_train_berths, .ref h_p0_train_roster, .ref h_p0_train_settings, .int v_nextNumber, .int v_bookings, .int v_leftOut])), (h_p0_train_berths, .inr (0, [.ref h_p0_train_berths_holders, .ref h_p0_train_berths_ends])), (h_p0_train_berths_holders, .inl (cyI, 162, .inl v_holders)), (h_p0_train_roster, .inr (3, [.ref h_p0_train_roster_cells, .int v_size])), (h_p0_train_roster_cells, .inl (cyI, 280, .inl v_cells)), (h_p0_train_settings, .inl (cyI, 3, .inl v_settings))] t) (va_A [(h_p0, .inr (6, [.ref h_p0_train, .ref h_p0_history, .ref h_p0_text])), (h_p0_history, .inr (1, [.ref h_p0_history_ring, .int v_oldest, .int v_hsize])), (h_p0_train, .inr (5, [.ref h_p0_train_berths, .ref h_p0_train_roster, .ref h_p0_train_settings, .int v_nextNumber, .int v_bookings, .int v_leftOut])), (h_p0_train_berths, .inr (0, [.ref h_p0_train_berths_holders, .ref h_p0_train_berths_ends])), (h_p0_train_berths_holders, .inl (cyI, 162, .inl v_holders)), (h_p0_train_roster, .inr (3, [.ref h_p0_train_roster_cells, .int v_size])), (h_p0_train_roster_cells, .inl (cyI, 280, .inl v_cells)), (h_p0_train_settings, .inl (cyI, 3, .inl v_settings))] sz)) (vx_X (S := Unit) (fun _ => True) (fun E _ t => XWL (dC, dI) (va_A [(h_p0, .inr (6, [.ref h_p0_train, .ref h_p0_history, .ref h_p0_text])), (h_p0_history, .inr (1, [.ref h_p0_history_ring, .int v_oldest, .int v_hsize])), (h_p0_train, .inr (5, [.ref h_p0_train_berths, .ref h_p0_train_roster, .ref h_p0_train_settings, .int v_nextNumber, .int v_bookings, .int v_leftOut])), (h_p0_train_berths, .inr (0, [.ref h_p0_train_berths_holders, .ref h_p0_train_berths_ends])), (h_p0_train_berths_holders, .inl (cyI, 162, .inl v_holders)), (h_p0_train_roster, .inr (3, [.ref h_p0_train_roster_cells, .int v_size])), (h_p0_train_roster_cells, .inl (cyI, 280, .inl v_cells)), (h_p0_train_settings, .inl (cyI, 3, .inl v_settings))] sz) o.1 E [(h_p0, .inr (6, [.ref h_p0_train, .ref h_p0_history, .ref h_p0_text])), (h_p0_history, .inr (1, [.ref h_p0_history_ring, .int v_oldest, .int v_hsize])), (h_p0_train, .inr (5, [.ref h_p0_train_berths, .ref h_p0_train_roster, .ref h_p0_train_settings, .int v_nextNumber, .int v_bookings, .int v_leftOut])), (h_p0_train_berths, .inr (0, [.ref h_p0_train_berths_holders, .ref h_p0_train_berths_ends])), (h_p0_train_berths_holders, .inl (cyI, 162, .inl v_holders)), (h_p0_train_roster, .inr (3, [.ref h_p0_train_roster_cells, .int v_size])), (h_p0_train_roster_cells, .inl (cyI, 280, .inl v_cells)), (h_p0_train_settings, .inl (cyI, 3, .inl v_settings))] t) (va_A [(h_p0, .inr (6, [.ref h_p0_train, .ref h_p0_history, .ref h_p0_text])), (h_p0_history, .inr (1, [.ref h_p0_history_ring, .int v_oldest, .int v_hsize])), (h_p0_train, .inr (5, [.ref h_p0_train_berths, .ref h_p0_train_roster, .ref h_p0_train_settings, .int v_nextNumber, .int v_bookings, .int v_leftOut])), (h_p0_train_berths, .inr (0, [.ref h_p0_train_berths_holders, .ref h_p0_train_berths_ends])), (h_p0_train_berths_holders, .inl (cyI, 162, .inl v_holders)), (h_p0_train_roster, .inr (3, [.ref h_p0_train_roster_cells, .int v_size])), (h_p0_train_roster_cells, .inl (cyI, 280, .inl v_cells)), (h_p0_train_settings, .inl (cyI, 3, .inl v_settings))] sz)) 1 6 (va_A [(h_p0, .inr (6, [.ref h_p0_train, .ref h_p0_history, .ref h_p0_text])), (h_p0_history, .inr (1, [.ref h_p0_history_ring, .int v_oldest, .int v_hsize])), (h_p0_train, .inr (5, [.ref h_p0_train_berths, .ref h_p0_train_roster, .ref h_p0_train_settings, .int v_nextNumber, .int v_bookings, .int v_leftOut])), (h_p0_train_berths, .inr (0, [.ref h_p0_train_berths_holders, .ref h_p0_train_berths_ends])), (h_p0_train_berths_holders, .inl (cyI, 162, .inl v_holders)), (h_p0_train_roster, .inr (3, [.ref h_p0_train_roster_cells, .int v_size])), (h_p0_train_roster_cells, .inl (cyI, 280, .inl v_cells)), (h_p0_train_settings, .inl (cyI, 3, .inl v_settings))] sz) := by
  refine vx_ofW (cc := cX6_count) (maxL := 2) (ret := (some .int)) (by decide) rfl ?_
  intro p e s m args below meth c s₁ B hml hno hv
  obtain ⟨rfl, ⟨hsz, hP, hK, hD0, hNW⟩, hXR, hXS⟩ := hv
  have hx := B.exec
  have hb := B.bytes
  have hr := B.returns
  have hts := atoms_spec (ws := wsX6_count) B.pre
  have hown : s.vm.findClass RX6 = some m.cls := findClass_of_methodNamed B.named
  have hlocks := B.notSynchronized
  subst hsz
  have hD := hD0.self (sz := s.heap.size)
  generalize hAe : va_A [(h_p0, .inr (6, [.ref h_p0_train, .ref h_p0_history, .ref h_p0_text])), (h_p0_history, .inr (1, [.ref h_p0_history_ring, .int v_oldest, .int v_hsize])), (h_p0_train, .inr (5, [.ref h_p0_train_berths, .ref h_p0_train_roster, .ref h_p0_train_settings, .int v_nextNumber, .int v_bookings, .int v_leftOut])), (h_p0_train_berths, .inr (0, [.ref h_p0_train_berths_holders, .ref h_p0_train_berths_ends])), (h_p0_train_berths_holders, .inl (cyI, 162, .inl v_holders)), (h_p0_train_roster, .inr (3, [.ref h_p0_train_roster_cells, .int v_size])), (h_p0_train_roster_cells, .inl (cyI, 280, .inl v_cells)), (h_p0_train_settings, .inl (cyI, 3, .inl v_settings))] s.heap.size = A at hD hXS ⊢
  have hA : ∀ q : Nat, s.heap.size ≤ q → A q := fun q h => by rw [← hAe]; exact Or.inr h
  have hS : va_S A s.heap s.heap [] := va_S.rf
  have hP : va_P (dC, dI) vwCl [(h_p0, .inr (6, [.ref h_p0_train, .ref h_p0_history, .ref h_p0_text])), (h_p0_history, .inr (1, [.ref h_p0_history_ring, .int v_oldest, .int v_hsize])), (h_p0_train, .inr (5, [.ref h_p0_train_berths, .ref h_p0_train_roster, .ref h_p0_train_settings, .int v_nextNumber, .int v_bookings, .int v_leftOut])), (h_p0_train_berths, .inr (0, [.ref h_p0_train_berths_holders, .ref h_p0_train_berths_ends])), (h_p0_train_berths_holders, .inl (cyI, 162, .inl v_holders)), (h_p0_train_roster, .inr (3, [.ref h_p0_train_roster_cells, .int v_size])), (h_p0_train_roster_cells, .inl (cyI, 280, .inl v_cells)), (h_p0_train_settings, .inl (cyI, 3, .inl v_settings))] s.heap := hP
  have hl := lv_entry ([.ref h_p0, .int a1]) (n := 2) (Nat.le_of_ble_eq_true rfl)
  rw [lg_entry_eq]
  generalize (lg_sl ([.ref h_p0, .int a1]) ++ List.replicate (2 - (lg_sl ([.ref h_p0, .int a1])).length) Slot.unset).toArray = ls at hl ⊢
  have hl : lv_has ls 2 [(0, .ref h_p0), (1, .int a1)] := hl
  unfold s_X6_count at h
  refine lv_iload_n hx hb dX6_count_0 rfl (lv_at hl 1 rfl) ?_
  by_cases c1 : a1 = iI 0
  · have h := ipos c1 h
    refine lv_tableIn (tgt := 52) (off := 51) hx hb dX6_count_1 (by rw [c1]; decide) (by rw [c1]; decide) (by rw [c1]; rfl) (by decide) ?_
    refine lv_aload_n hx hb dX6_count_52 rfl (lv_at hl 0 rfl) ?_
    refine va_get (D := (dC, dI)) (ci := 6) (v := .ref h_p0_train) (C := RX6) (T := TX6) (N := 3) hx hb hts m_X6_count_0 hown hK hP 0 rfl rfl 0 (by decide) (hts (.fieldLink RX6 12 "SleeperBerths" "train" "LSleeperBerths$Train;") m_X6_count_1) (fun _ h9 => h9) rfl dX6_count_53 ?_
    refine va_get (D := (dC, dI)) (ci := 5) (v := .ref h_p0_train_roster) (C := RX5) (T := TX5) (N := 6) hx hb hts m_X6_count_2 hown hK hP 2 rfl rfl 1 (by decide) (hts (.fieldLink RX6 38 "SleeperBerths$Train" "roster" "LSleeperBerths$Roster;") m_X6_count_3) (fun _ h9 => h9) rfl dX6_count_56 ?_
    refine va_get (D := (dC, dI)) (ci := 3) (v := .int v_size) (C := RX3) (T := TX3) (N := 2) hx hb hts m_X6_count_4 hown hK hP 5 rfl rfl 1 (by decide) (hts (.fieldLink RX6 210 "SleeperBerths$Roster" "size" "I") m_X6_count_5) (fun _ h9 => h9) rfl dX6_count_59 ?_
    obtain rfl := Option.some.inj h
    refine W.widen (k := 1) (n := 6) (Nat.le_of_ble_eq_true rfl) (Nat.le_of_ble_eq_true rfl) ?_
    refine vx_ret ?_
    exact W.iret (v := v_size) hx hb hr (fun t ht hW => ⟨⟨v_size, (), rfl, ⟨rfl, rfl⟩, WLD.of ht hP hD⟩, hS.F ht⟩) hS.2.2 dX6_count_62
  · have h := ineg c1 h
    by_cases c2 : a1 = iI 1
    · have h := ipos c2 h
      refine lv_tableIn (tgt := 63) (off := 62) hx hb dX6_count_1 (by rw [c2]; decide) (by rw [c2]; decide) (by rw [c2]; rfl) (by decide) ?_
      refine lv_aload_n hx hb dX6_count_63 rfl (lv_at hl 0 rfl) ?_
      refine va_get (D := (dC, dI)) (ci := 6) (v := .ref h_p0_train) (C := RX6) (T := TX6) (N := 3) hx hb hts m_X6_count_0 hown hK hP 0 rfl rfl 0 (by decide) (hts (.fieldLink RX6 12 "SleeperBerths" "train" "LSleeperBerths$Train;") m_X6_count_1) (fun _ h9 => h9) rfl dX6_count_64 ?_
      refine lv_iconst (v := iI 3) hx hb dX6_count_67 rfl ?_
      obtain ⟨r3, e4, h⟩ := bsome h
      have hPc := sb_P [(h_p0_train, .inr (5, [.ref h_p0_train_berths, .ref h_p0_train_roster, .ref h_p0_train_settings, .int v_nextNumber, .int v_bookings, .int v_leftOut])), (h_p0_train_berths, .inr (0, [.ref h_p0_train_berths_holders, .ref h_p0_train_berths_ends])), (h_p0_train_berths_holders, .inl (cyI, 162, .inl v_holders)), (h_p0_train_roster, .inr (3, [.ref h_p0_train_roster_cells, .int v_size])), (h_p0_train_roster_cells, .inl (cyI, 280, .inl v_cells)), (h_p0_train_settings, .inl (cyI, 3, .inl v_settings))] hP [2, 3, 4, 5, 6, 7] rfl
      have hDc := sb_D [(h_p0_train, .inr (5, [.ref h_p0_train_berths, .ref h_p0_train_roster, .ref h_p0_train_settings, .int v_nextNumber, .int v_bookings, .int v_leftOut])), (h_p0_train_berths, .inr (0, [.ref h_p0_train_berths_holders, .ref h_p0_train_berths_ends])), (h_p0_train_berths_holders, .inl (cyI, 162, .inl v_holders)), (h_p0_train_roster, .inr (3, [.ref h_p0_train_roster_cells, .int v_size])), (h_p0_train_roster_cells, .inl (cyI, 280, .inl v_cells)), (h_p0_train_settings, .inl (cyI, 3, .inl v_settings))] hD [2, 3, 4, 5, 6, 7] (by decide) rfl
      have hFc := va_free (wc := [(h_p0_train, .inr (5, [.ref h_p0_train_berths, .ref h_p0_train_roster, .ref h_p0_train_settings, .int v_nextNumber, .int v_bookings, .int v_leftOut])), (h_p0_train_berths, .inr (0, [.ref h_p0_train_berths_holders, .ref h_p0_train_berths_ends])), (h_p0_train_berths_holders, .inl (cyI, 162, .inl v_holders)), (h_p0_train_roster, .inr (3, [.ref h_p0_train_roster_cells, .int v_size])), (h_p0_train_roster_cells, .inl (cyI, 280, .inl v_cells)), (h_p0_train_settings, .inl (cyI, 3, .inl v_settings))]) hD hS hA [2, 3, 4, 5, 6, 7] rfl
      refine va_calli (va_runV (As := [.int (iI 3)]) (rest := []) ⟨hx, hb, hml, hown, hts⟩ (c_X5_sumOf l dC dI cyI cyJ cyT h_p0_train h_p0_train_berths h_p0_train_roster h_p0_train_settings h_p0_train_berths_holders h_p0_train_berths_ends h_p0_train_roster_cells s.heap.size v_nextNumber v_bookings v_leftOut v_holders v_size v_cells v_settings (iI 3) n r3 e4) (cwV 1 hts gX6_count_X5_sumOf rfl rfl rfl (by decide +kernel) ⟨Nat.le_of_ble_eq_true rfl, Nat.le_of_ble_eq_true rfl⟩) ⟨PRE.blind, va_recv hK hPc (ci := 5) (q0 := 0) rfl rfl, PRE.go hK hPc hDc hNW⟩ rfl rfl hl.1 rfl (lv_room (Nat.le_of_ble_eq_true rfl)) dX6_count_68 ⟨Nat.zero_le _, Nat.zero_le _⟩) hS (fun q _ h => hFc q h) hFc (fun z5 u t H locs ht hvm hw hB hz1 hk1 hS => ?_)
      subst z5
      obtain ⟨hP, hD⟩ := va_join (wr := [(h_p0, .inr (6, [.ref h_p0_train, .ref h_p0_history, .ref h_p0_text])), (h_p0_history, .inr (1, [.ref h_p0_history_ring, .int v_oldest, .int v_hsize]))]) (w1 := [(h_p0_train, .inr (5, [.ref h_p0_train_berths, .ref h_p0_train_roster, .ref h_p0_train_settings, .int v_nextNumber, .int v_bookings, .int v_leftOut])), (h_p0_train_berths, .inr (0, [.ref h_p0_train_berths_holders, .ref h_p0_train_berths_ends])), (h_p0_train_berths_holders, .inl (cyI, 162, .inl v_holders)), (h_p0_train_roster, .inr (3, [.ref h_p0_train_roster_cells, .int v_size])), (h_p0_train_roster_cells, .inl (cyI, 280, .inl v_cells)), (h_p0_train_settings, .inl (cyI, 3, .inl v_settings))]) hP hD [2, 3, 4, 5, 6, 7] [0, 1] rfl rfl (by decide) (by decide) hk1 hFc (WLD.P hB ht) hB.2
      have hP : va_P (dC, dI) vwCl [(h_p0, .inr (6, [.ref h_p0_train, .ref h_p0_history, .ref h_p0_text])), (h_p0_history, .inr (1, [.ref h_p0_history_ring, .int v_oldest, .int v_hsize])), (h_p0_train, .inr (5, [.ref h_p0_train_berths, .ref h_p0_train_roster, .ref h_p0_train_settings, .int v_nextNumber, .int v_bookings, .int v_leftOut])), (h_p0_train_berths, .inr (0, [.ref h_p0_train_berths_holders, .ref h_p0_train_berths_ends])), (h_p0_train_berths_holders, .inl (cyI, 162, .inl v_holders)), (h_p0_train_roster, .inr (3, [.ref h_p0_train_roster_cells, .int v_size])), (h_p0_train_roster_cells, .inl (cyI, 280, .inl v_cells)), (h_p0_train_settings, .inl (cyI, 3, .inl v_settings))] H := hP
      have hD : va_D A [(h_p0, .inr (6, [.ref h_p0_train, .ref h_p0_history, .ref h_p0_text])), (h_p0_history, .inr (1, [.ref h_p0_history_ring, .int v_oldest, .int v_hsize])), (h_p0_train, .inr (5, [.ref h_p0_train_berths, .ref h_p0_train_roster, .ref h_p0_train_settings, .int v_nextNumber, .int v_bookings, .int v_leftOut])), (h_p0_train_berths, .inr (0, [.ref h_p0_train_berths_holders, .ref h_p0_train_berths_ends])), (h_p0_train_berths_holders, .inl (cyI, 162, .inl v_holders)), (h_p0_train_roster, .inr (3, [.ref h_p0_train_roster_cells, .int v_size])), (h_p0_train_roster_cells, .inl (cyI, 280, .inl v_cells)), (h_p0_train_settings, .inl (cyI, 3, .inl v_settings))] := hD
      obtain rfl := Option.some.inj h
      refine W.widen (k := 1) (n := 6) (Nat.le_of_ble_eq_true rfl) (Nat.le_of_ble_eq_true rfl) ?_
      refine vx_ret ?_
      exact W.iret (v := r3) hx hb hr (fun t ht hW => ⟨⟨r3, (), rfl, ⟨rfl, rfl⟩, WLD.of ht hP hD⟩, hS.F ht⟩) hS.2.2 dX6_count_71
    · have h := ineg c2 h
      by_cases c6 : a1 = iI 2
      · have h := ipos c6 h
        refine lv_tableIn (tgt := 72) (off := 71) hx hb dX6_count_1 (by rw [c6]; decide) (by rw [c6]; decide) (by rw [c6]; rfl) (by decide) ?_
        refine lv_aload_n hx hb dX6_count_72 rfl (lv_at hl 0 rfl) ?_
        refine va_get (D := (dC, dI)) (ci := 6) (v := .ref h_p0_train) (C := RX6) (T := TX6) (N := 3) hx hb hts m_X6_count_0 hown hK hP 0 rfl rfl 0 (by decide) (hts (.fieldLink RX6 12 "SleeperBerths" "train" "LSleeperBerths$Train;") m_X6_count_1) (fun _ h9 => h9) rfl dX6_count_73 ?_
        refine va_get (D := (dC, dI)) (ci := 5) (v := .ref h_p0_train_roster) (C := RX5) (T := TX5) (N := 6) hx hb hts m_X6_count_2 hown hK hP 2 rfl rfl 1 (by decide) (hts (.fieldLink RX6 38 "SleeperBerths$Train" "roster" "LSleeperBerths$Roster;") m_X6_count_3) (fun _ h9 => h9) rfl dX6_count_76 ?_
        obtain ⟨r7, e8, h⟩ := bsome h
        have hPc := sb_P [(h_p0_train_roster, .inr (3, [.ref h_p0_train_roster_cells, .int v_size])), (h_p0_train_roster_cells, .inl (cyI, 280, .inl v_cells))] hP [5, 6] rfl
        have hDc := sb_D [(h_p0_train_roster, .inr (3, [.ref h_p0_train_roster_cells, .int v_size])), (h_p0_train_roster_cells, .inl (cyI, 280, .inl v_cells))] hD [5, 6] (by decide) rfl
        have hFc := va_free (wc := [(h_p0_train_roster, .inr (3, [.ref h_p0_train_roster_cells, .int v_size])), (h_p0_train_roster_cells, .inl (cyI, 280, .inl v_cells))]) hD hS hA [5, 6] rfl
        refine va_calli (va_runV (As := []) (rest := []) ⟨hx, hb, hml, hown, hts⟩ (c_X3_changing l dC dI cyI cyJ cyT h_p0_train_roster h_p0_train_roster_cells s.heap.size v_size v_cells n r7 e8) (cwV 0 hts gX6_count_X3_changing rfl rfl rfl (by decide +kernel) ⟨Nat.le_of_ble_eq_true rfl, Nat.le_of_ble_eq_true rfl⟩) ⟨PRE.blind, va_recv hK hPc (ci := 3) (q0 := 0) rfl rfl, PRE.go hK hPc hDc hNW⟩ rfl rfl hl.1 rfl (lv_room (Nat.le_of_ble_eq_true rfl)) dX6_count_79 ⟨Nat.zero_le _, Nat.zero_le _⟩) hS (fun q _ h => hFc q h) hFc (fun z9 u t H locs ht hvm hw hB hz1 hk1 hS => ?_)
        subst z9
        obtain ⟨hP, hD⟩ := va_join (wr := [(h_p0, .inr (6, [.ref h_p0_train, .ref h_p0_history, .ref h_p0_text])), (h_p0_history, .inr (1, [.ref h_p0_history_ring, .int v_oldest, .int v_hsize])), (h_p0_train, .inr (5, [.ref h_p0_train_berths, .ref h_p0_train_roster, .ref h_p0_train_settings, .int v_nextNumber, .int v_bookings, .int v_leftOut])), (h_p0_train_berths, .inr (0, [.ref h_p0_train_berths_holders, .ref h_p0_train_berths_ends])), (h_p0_train_berths_holders, .inl (cyI, 162, .inl v_holders)), (h_p0_train_settings, .inl (cyI, 3, .inl v_settings))]) (w1 := [(h_p0_train_roster, .inr (3, [.ref h_p0_train_roster_cells, .int v_size])), (h_p0_train_roster_cells, .inl (cyI, 280, .inl v_cells))]) hP hD [5, 6] [0, 1, 2, 3, 4, 7] rfl rfl (by decide) (by decide) hk1 hFc (WLD.P hB ht) hB.2
        have hP : va_P (dC, dI) vwCl [(h_p0, .inr (6, [.ref h_p0_train, .ref h_p0_history, .ref h_p0_text])), (h_p0_history, .inr (1, [.ref h_p0_history_ring, .int v_oldest, .int v_hsize])), (h_p0_train, .inr (5, [.ref h_p0_train_berths, .ref h_p0_train_roster, .ref h_p0_train_settings, .int v_nextNumber, .int v_bookings, .int v_leftOut])), (h_p0_train_berths, .inr (0, [.ref h_p0_train_berths_holders, .ref h_p0_train_berths_ends])), (h_p0_train_berths_holders, .inl (cyI, 162, .inl v_holders)), (h_p0_train_settings, .inl (cyI, 3, .inl v_settings)), (h_p0_train_roster, .inr (3, [.ref h_p0_train_roster_cells, .int v_size])), (h_p0_train_roster_cells, .inl (cyI, 280, .inl v_cells))] H := hP
        have hD : va_D A [(h_p0, .inr (6, [.ref h_p0_train, .ref h_p0_history, .ref h_p0_text])), (h_p0_history, .inr (1, [.ref h_p0_history_ring, .int v_oldest, .int v_hsize])), (h_p0_train, .inr (5, [.ref h_p0_train_berths, .ref h_p0_train_roster, .ref h_p0_train_settings, .int v_nextNumber, .int v_bookings, .int v_leftOut])), (h_p0_train_berths, .inr (0, [.ref h_p0_train_berths_holders, .ref h_p0_train_berths_ends])), (h_p0_train_berths_holders, .inl (cyI, 162, .inl v_holders)), (h_p0_train_settings, .inl (cyI, 3, .inl v_settings)), (h_p0_train_roster, .inr (3, [.ref h_p0_train_roster_cells, .int v_size])), (h_p0_train_roster_cells, .inl (cyI, 280, .inl v_cells))] := hD
        obtain rfl := Option.some.inj h
        refine W.widen (k := 1) (n := 6) (Nat.le_of_ble_eq_true rfl) (Nat.le_of_ble_eq_true rfl) ?_
        refine vx_ret ?_
        exact W.iret (v := r7) hx hb hr (fun t ht hW => ⟨⟨r7, (), rfl, ⟨rfl, rfl⟩, WLD.of ht (sb_P [(h_p0, .inr (6, [.ref h_p0_train, .ref h_p0_history, .ref h_p0_text])), (h_p0_history, .inr (1, [.ref h_p0_history_ring, .int v_oldest, .int v_hsize])), (h_p0_train, .inr (5, [.ref h_p0_train_berths, .ref h_p0_train_roster, .ref h_p0_train_settings, .int v_nextNumber, .int v_bookings, .int v_leftOut])), (h_p0_train_berths, .inr (0, [.ref h_p0_train_berths_holders, .ref h_p0_train_berths_ends])), (h_p0_train_berths_holders, .inl (cyI, 162, .inl v_holders)), (h_p0_train_roster, .inr (3, [.ref h_p0_train_roster_cells, .int v_size])), (h_p0_train_roster_cells, .inl (cyI, 280, .inl v_cells)), (h_p0_train_settings, .inl (cyI, 3, .inl v_settings))] hP [0, 1, 2, 3, 4, 6, 7, 5] rfl) (sb_D [(h_p0, .inr (6, [.ref h_p0_train, .ref h_p0_history, .ref h_p0_text])), (h_p0_history, .inr (1, [.ref h_p0_history_ring, .int v_oldest, .int v_hsize])), (h_p0_train, .inr (5, [.ref h_p0_train_berths, .ref h_p0_train_roster, .ref h_p0_train_settings, .int v_nextNumber, .int v_bookings, .int v_leftOut])), (h_p0_train_berths, .inr (0, [.ref h_p0_train_berths_holders, .ref h_p0_train_berths_ends])), (h_p0_train_berths_holders, .inl (cyI, 162, .inl v_holders)), (h_p0_train_roster, .inr (3, [.ref h_p0_train_roster_cells, .int v_size])), (h_p0_train_roster_cells, .inl (cyI, 280, .inl v_cells)), (h_p0_train_settings, .inl (cyI, 3, .inl v_settings))] hD [0, 1, 2, 3, 4, 6, 7, 5] (by decide) rfl)⟩, hS.F ht⟩) hS.2.2 dX6_count_82
      · have h := ineg c6 h
        by_cases c10 : a1 = iI 3
        · have h := ipos c10 h
          refine lv_tableIn (tgt := 83) (off := 82) hx hb dX6_count_1 (by rw [c10]; decide) (by rw [c10]; decide) (by rw [c10]; rfl) (by decide) ?_
          refine lv_aload_n hx hb dX6_count_83 rfl (lv_at hl 0 rfl) ?_
          refine va_get (D := (dC, dI)) (ci := 6) (v := .ref h_p0_train) (C := RX6) (T := TX6) (N := 3) hx hb hts m_X6_count_0 hown hK hP 0 rfl rfl 0 (by decide) (hts (.fieldLink RX6 12 "SleeperBerths" "train" "LSleeperBerths$Train;") m_X6_count_1) (fun _ h9 => h9) rfl dX6_count_84 ?_
          refine lv_bipush (v := iI 7) hx hb dX6_count_87 (by decide) ?_
          obtain ⟨r11, e12, h⟩ := bsome h
          have hPc := sb_P [(h_p0_train, .inr (5, [.ref h_p0_train_berths, .ref h_p0_train_roster, .ref h_p0_train_settings, .int v_nextNumber, .int v_bookings, .int v_leftOut])), (h_p0_train_berths, .inr (0, [.ref h_p0_train_berths_holders, .ref h_p0_train_berths_ends])), (h_p0_train_berths_holders, .inl (cyI, 162, .inl v_holders)), (h_p0_train_roster, .inr (3, [.ref h_p0_train_roster_cells, .int v_size])), (h_p0_train_roster_cells, .inl (cyI, 280, .inl v_cells)), (h_p0_train_settings, .inl (cyI, 3, .inl v_settings))] hP [2, 3, 4, 5, 6, 7] rfl
          have hDc := sb_D [(h_p0_train, .inr (5, [.ref h_p0_train_berths, .ref h_p0_train_roster, .ref h_p0_train_settings, .int v_nextNumber, .int v_bookings, .int v_leftOut])), (h_p0_train_berths, .inr (0, [.ref h_p0_train_berths_holders, .ref h_p0_train_berths_ends])), (h_p0_train_berths_holders, .inl (cyI, 162, .inl v_holders)), (h_p0_train_roster, .inr (3, [.ref h_p0_train_roster_cells, .int v_size])), (h_p0_train_roster_cells, .inl (cyI, 280, .inl v_cells)), (h_p0_train_settings, .inl (cyI, 3, .inl v_settings))] hD [2, 3, 4, 5, 6, 7] (by decide) rfl
          have hFc := va_free (wc := [(h_p0_train, .inr (5, [.ref h_p0_train_berths, .ref h_p0_train_roster, .ref h_p0_train_settings, .int v_nextNumber, .int v_bookings, .int v_leftOut])), (h_p0_train_berths, .inr (0, [.ref h_p0_train_berths_holders, .ref h_p0_train_berths_ends])), (h_p0_train_berths_holders, .inl (cyI, 162, .inl v_holders)), (h_p0_train_roster, .inr (3, [.ref h_p0_train_roster_cells, .int v_size])), (h_p0_train_roster_cells, .inl (cyI, 280, .inl v_cells)), (h_p0_train_settings, .inl (cyI, 3, .inl v_settings))]) hD hS hA [2, 3, 4, 5, 6, 7] rfl
          refine va_calli (va_runV (As := [.int (iI 7)]) (rest := []) ⟨hx, hb, hml, hown, hts⟩ (c_X5_sumOf l dC dI cyI cyJ cyT h_p0_train h_p0_train_berths h_p0_train_roster h_p0_train_settings h_p0_train_berths_holders h_p0_train_berths_ends h_p0_train_roster_cells s.heap.size v_nextNumber v_bookings v_leftOut v_holders v_size v_cells v_settings (iI 7) n r11 e12) (cwV 1 hts gX6_count_X5_sumOf rfl rfl rfl (by decide +kernel) ⟨Nat.le_of_ble_eq_true rfl, Nat.le_of_ble_eq_true rfl⟩) ⟨PRE.blind, va_recv hK hPc (ci := 5) (q0 := 0) rfl rfl, PRE.go hK hPc hDc hNW⟩ rfl rfl hl.1 rfl (lv_room (Nat.le_of_ble_eq_true rfl)) dX6_count_89 ⟨Nat.zero_le _, Nat.zero_le _⟩) hS (fun q _ h => hFc q h) hFc (fun z13 u t H locs ht hvm hw hB hz1 hk1 hS => ?_)
          subst z13
          obtain ⟨hP, hD⟩ := va_join (wr := [(h_p0, .inr (6, [.ref h_p0_train, .ref h_p0_history, .ref h_p0_text])), (h_p0_history, .inr (1, [.ref h_p0_history_ring, .int v_oldest, .int v_hsize]))]) (w1 := [(h_p0_train, .inr (5, [.ref h_p0_train_berths, .ref h_p0_train_roster, .ref h_p0_train_settings, .int v_nextNumber, .int v_bookings, .int v_leftOut])), (h_p0_train_berths, .inr (0, [.ref h_p0_train_berths_holders, .ref h_p0_train_berths_ends])), (h_p0_train_berths_holders, .inl (cyI, 162, .inl v_holders)), (h_p0_train_roster, .inr (3, [.ref h_p0_train_roster_cells, .int v_size])), (h_p0_train_roster_cells, .inl (cyI, 280, .inl v_cells)), (h_p0_train_settings, .inl (cyI, 3, .inl v_settings))]) hP hD [2, 3, 4, 5, 6, 7] [0, 1] rfl rfl (by decide) (by decide) hk1 hFc (WLD.P hB ht) hB.2
          have hP : va_P (dC, dI) vwCl [(h_p0, .inr (6, [.ref h_p0_train, .ref h_p0_history, .ref h_p0_text])), (h_p0_history, .inr (1, [.ref h_p0_history_ring, .int v_oldest, .int v_hsize])), (h_p0_train, .inr (5, [.ref h_p0_train_berths, .ref h_p0_train_roster, .ref h_p0_train_settings, .int v_nextNumber, .int v_bookings, .int v_leftOut])), (h_p0_train_berths, .inr (0, [.ref h_p0_train_berths_holders, .ref h_p0_train_berths_ends])), (h_p0_train_berths_holders, .inl (cyI, 162, .inl v_holders)), (h_p0_train_roster, .inr (3, [.ref h_p0_train_roster_cells, .int v_size])), (h_p0_train_roster_cells, .inl (cyI, 280, .inl v_cells)), (h_p0_train_settings, .inl (cyI, 3, .inl v_settings))] H := hP
          have hD : va_D A [(h_p0, .inr (6, [.ref h_p0_train, .ref h_p0_history, .ref h_p0_text])), (h_p0_history, .inr (1, [.ref h_p0_history_ring, .int v_oldest, .int v_hsize])), (h_p0_train, .inr (5, [.ref h_p0_train_berths, .ref h_p0_train_roster, .ref h_p0_train_settings, .int v_nextNumber, .int v_bookings, .int v_leftOut])), (h_p0_train_berths, .inr (0, [.ref h_p0_train_berths_holders, .ref h_p0_train_berths_ends])), (h_p0_train_berths_holders, .inl (cyI, 162, .inl v_holders)), (h_p0_train_roster, .inr (3, [.ref h_p0_train_roster_cells, .int v_size])), (h_p0_train_roster_cells, .inl (cyI, 280, .inl v_cells)), (h_p0_train_settings, .inl (cyI, 3, .inl v_settings))] := hD
          obtain rfl := Option.some.inj h
          refine W.widen (k := 1) (n := 6) (Nat.le_of_ble_eq_true rfl) (Nat.le_of_ble_eq_true rfl) ?_
          refine vx_ret ?_
          exact W.iret (v := r11) hx hb hr (fun t ht hW => ⟨⟨r11, (), rfl, ⟨rfl, rfl⟩, WLD.of ht hP hD⟩, hS.F ht⟩) hS.2.2 dX6_count_92
        · have h := ineg c10 h
          by_cases c14 : a1 = iI 4
          · have h := ipos c14 h
            refine lv_tableIn (tgt := 93) (off := 92) hx hb dX6_count_1 (by rw [c14]; decide) (by rw [c14]; decide) (by rw [c14]; rfl) (by decide) ?_
            refine lv_aload_n hx hb dX6_count_93 rfl (lv_at hl 0 rfl) ?_
            refine va_get (D := (dC, dI)) (ci := 6) (v := .ref h_p0_train) (C := RX6) (T := TX6) (N := 3) hx hb hts m_X6_count_0 hown hK hP 0 rfl rfl 0 (by decide) (hts (.fieldLink RX6 12 "SleeperBerths" "train" "LSleeperBerths$Train;") m_X6_count_1) (fun _ h9 => h9) rfl dX6_count_94 ?_
            refine lv_bipush (v := iI 8) hx hb dX6_count_97 (by decide) ?_
            obtain ⟨r15, e16, h⟩ := bsome h
            have hPc := sb_P [(h_p0_train, .inr (5, [.ref h_p0_train_berths, .ref h_p0_train_roster, .ref h_p0_train_settings, .int v_nextNumber, .int v_bookings, .int v_leftOut])), (h_p0_train_berths, .inr (0, [.ref h_p0_train_berths_holders, .ref h_p0_train_berths_ends])), (h_p0_train_berths_holders, .inl (cyI, 162, .inl v_holders)), (h_p0_train_roster, .inr (3, [.ref h_p0_train_roster_cells, .int v_size])), (h_p0_train_roster_cells, .inl (cyI, 280, .inl v_cells)), (h_p0_train_settings, .inl (cyI, 3, .inl v_settings))] hP [2, 3, 4, 5, 6, 7] rfl
            have hDc := sb_D [(h_p0_train, .inr (5, [.ref h_p0_train_berths, .ref h_p0_train_roster, .ref h_p0_train_settings, .int v_nextNumber, .int v_bookings, .int v_leftOut])), (h_p0_train_berths, .inr (0, [.ref h_p0_train_berths_holders, .ref h_p0_train_berths_ends])), (h_p0_train_berths_holders, .inl (cyI, 162, .inl v_holders)), (h_p0_train_roster, .inr (3, [.ref h_p0_train_roster_cells, .int v_size])), (h_p0_train_roster_cells, .inl (cyI, 280, .inl v_cells)), (h_p0_train_settings, .inl (cyI, 3, .inl v_settings))] hD [2, 3, 4, 5, 6, 7] (by decide) rfl
            have hFc := va_free (wc := [(h_p0_train, .inr (5, [.ref h_p0_train_berths, .ref h_p0_train_roster, .ref h_p0_train_settings, .int v_nextNumber, .int v_bookings, .int v_leftOut])), (h_p0_train_berths, .inr (0, [.ref h_p0_train_berths_holders, .ref h_p0_train_berths_ends])), (h_p0_train_berths_holders, .inl (cyI, 162, .inl v_holders)), (h_p0_train_roster, .inr (3, [.ref h_p0_train_roster_cells, .int v_size])), (h_p0_train_roster_cells, .inl (cyI, 280, .inl v_cells)), (h_p0_train_settings, .inl (cyI, 3, .inl v_settings))]) hD hS hA [2, 3, 4, 5, 6, 7] rfl
            refine va_calli (va_runV (As := [.int (iI 8)]) (rest := []) ⟨hx, hb, hml, hown, hts⟩ (c_X5_sumOf l dC dI cyI cyJ cyT h_p0_train h_p0_train_berths h_p0_train_roster h_p0_train_settings h_p0_train_berths_holders h_p0_train_berths_ends h_p0_train_roster_cells s.heap.size v_nextNumber v_bookings v_leftOut v_holders v_size v_cells v_settings (iI 8) n r15 e16) (cwV 1 hts gX6_count_X5_sumOf rfl rfl rfl (by decide +kernel) ⟨Nat.le_of_ble_eq_true rfl, Nat.le_of_ble_eq_true rfl⟩) ⟨PRE.blind, va_recv hK hPc (ci := 5) (q0 := 0) rfl rfl, PRE.go hK hPc hDc hNW⟩ rfl rfl hl.1 rfl (lv_room (Nat.le_of_ble_eq_true rfl)) dX6_count_99 ⟨Nat.zero_le _, Nat.zero_le _⟩) hS (fun q _ h => hFc q h) hFc (fun z17 u t H locs ht hvm hw hB hz1 hk1 hS => ?_)
            subst z17
            obtain ⟨hP, hD⟩ := va_join (wr := [(h_p0, .inr (6, [.ref h_p0_train, .ref h_p0_history, .ref h_p0_text])), (h_p0_history, .inr (1, [.ref h_p0_history_ring, .int v_oldest, .int v_hsize]))]) (w1 := [(h_p0_train, .inr (5, [.ref h_p0_train_berths, .ref h_p0_train_roster, .ref h_p0_train_settings, .int v_nextNumber, .int v_bookings, .int v_leftOut])), (h_p0_train_berths, .inr (0, [.ref h_p0_train_berths_holders, .ref h_p0_train_berths_ends])), (h_p0_train_berths_holders, .inl (cyI, 162, .inl v_holders)), (h_p0_train_roster, .inr (3, [.ref h_p0_train_roster_cells, .int v_size])), (h_p0_train_roster_cells, .inl (cyI, 280, .inl v_cells)), (h_p0_train_settings, .inl (cyI, 3, .inl v_settings))]) hP hD [2, 3, 4, 5, 6, 7] [0, 1] rfl rfl (by decide) (by decide) hk1 hFc (WLD.P hB ht) hB.2
            have hP : va_P (dC, dI) vwCl [(h_p0, .inr (6, [.ref h_p0_train, .ref h_p0_history, .ref h_p0_text])), (h_p0_history, .inr (1, [.ref h_p0_history_ring, .int v_oldest, .int v_hsize])), (h_p0_train, .inr (5, [.ref h_p0_train_berths, .ref h_p0_train_roster, .ref h_p0_train_settings, .int v_nextNumber, .int v_bookings, .int v_leftOut])), (h_p0_train_berths, .inr (0, [.ref h_p0_train_berths_holders, .ref h_p0_train_berths_ends])), (h_p0_train_berths_holders, .inl (cyI, 162, .inl v_holders)), (h_p0_train_roster, .inr (3, [.ref h_p0_train_roster_cells, .int v_size])), (h_p0_train_roster_cells, .inl (cyI, 280, .inl v_cells)), (h_p0_train_settings, .inl (cyI, 3, .inl v_settings))] H := hP
            have hD : va_D A [(h_p0, .inr (6, [.ref h_p0_train, .ref h_p0_history, .ref h_p0_text])), (h_p0_history, .inr (1, [.ref h_p0_history_ring, .int v_oldest, .int v_hsize])), (h_p0_train, .inr (5, [.ref h_p0_train_berths, .ref h_p0_train_roster, .ref h_p0_train_settings, .int v_nextNumber, .int v_bookings, .int v_leftOut])), (h_p0_train_berths, .inr (0, [.ref h_p0_train_berths_holders, .ref h_p0_train_berths_ends])), (h_p0_train_berths_holders, .inl (cyI, 162, .inl v_holders)), (h_p0_train_roster, .inr (3, [.ref h_p0_train_roster_cells, .int v_size])), (h_p0_train_roster_cells, .inl (cyI, 280, .inl v_cells)), (h_p0_train_settings, .inl (cyI, 3, .inl v_settings))] := hD
            obtain rfl := Option.some.inj h
            refine W.widen (k := 1) (n := 6) (Nat.le_of_ble_eq_true rfl) (Nat.le_of_ble_eq_true rfl) ?_
            refine vx_ret ?_
            exact W.iret (v := r15) hx hb hr (fun t ht hW => ⟨⟨r15, (), rfl, ⟨rfl, rfl⟩, WLD.of ht hP hD⟩, hS.F ht⟩) hS.2.2 dX6_count_102
          · have h := ineg c14 h
            by_cases c18 : a1 = iI 5
            · have h := ipos c18 h
              refine lv_tableIn (tgt := 103) (off := 102) hx hb dX6_count_1 (by rw [c18]; decide) (by rw [c18]; decide) (by rw [c18]; rfl) (by decide) ?_
              refine lv_aload_n hx hb dX6_count_103 rfl (lv_at hl 0 rfl) ?_
              refine va_get (D := (dC, dI)) (ci := 6) (v := .ref h_p0_train) (C := RX6) (T := TX6) (N := 3) hx hb hts m_X6_count_0 hown hK hP 0 rfl rfl 0 (by decide) (hts (.fieldLink RX6 12 "SleeperBerths" "train" "LSleeperBerths$Train;") m_X6_count_1) (fun _ h9 => h9) rfl dX6_count_104 ?_
              refine va_get (D := (dC, dI)) (ci := 5) (v := .ref h_p0_train_berths) (C := RX5) (T := TX5) (N := 6) hx hb hts m_X6_count_2 hown hK hP 2 rfl rfl 0 (by decide) (hts (.fieldLink RX6 121 "SleeperBerths$Train" "berths" "LSleeperBerths$Berths;") m_X6_count_6) (fun _ h9 => h9) rfl dX6_count_107 ?_
              obtain ⟨r19, e20, h⟩ := bsome h
              have hPc := sb_P [(h_p0_train_berths, .inr (0, [.ref h_p0_train_berths_holders, .ref h_p0_train_berths_ends])), (h_p0_train_berths_holders, .inl (cyI, 162, .inl v_holders))] hP [3, 4] rfl
              have hDc := sb_D [(h_p0_train_berths, .inr (0, [.ref h_p0_train_berths_holders, .ref h_p0_train_berths_ends])), (h_p0_train_berths_holders, .inl (cyI, 162, .inl v_holders))] hD [3, 4] (by decide) rfl
              have hFc := va_free (wc := [(h_p0_train_berths, .inr (0, [.ref h_p0_train_berths_holders, .ref h_p0_train_berths_ends])), (h_p0_train_berths_holders, .inl (cyI, 162, .inl v_holders))]) hD hS hA [3, 4] rfl
              refine va_calli (va_runV (As := []) (rest := []) ⟨hx, hb, hml, hown, hts⟩ (c_X0_allHad l dC dI cyI cyJ cyT h_p0_train_berths h_p0_train_berths_holders h_p0_train_berths_ends s.heap.size v_holders n r19 e20) (cwV 0 hts gX6_count_X0_allHad rfl rfl rfl (by decide +kernel) ⟨Nat.le_of_ble_eq_true rfl, Nat.le_of_ble_eq_true rfl⟩) ⟨PRE.blind, va_recv hK hPc (ci := 0) (q0 := 0) rfl rfl, PRE.go hK hPc hDc hNW⟩ rfl rfl hl.1 rfl (lv_room (Nat.le_of_ble_eq_true rfl)) dX6_count_110 ⟨Nat.zero_le _, Nat.zero_le _⟩) hS (fun q _ h => hFc q h) hFc (fun z21 u t H locs ht hvm hw hB hz1 hk1 hS => ?_)
              subst z21
              obtain ⟨hP, hD⟩ := va_join (wr := [(h_p0, .inr (6, [.ref h_p0_train, .ref h_p0_history, .ref h_p0_text])), (h_p0_history, .inr (1, [.ref h_p0_history_ring, .int v_oldest, .int v_hsize])), (h_p0_train, .inr (5, [.ref h_p0_train_berths, .ref h_p0_train_roster, .ref h_p0_train_settings, .int v_nextNumber, .int v_bookings, .int v_leftOut])), (h_p0_train_roster, .inr (3, [.ref h_p0_train_roster_cells, .int v_size])), (h_p0_train_roster_cells, .inl (cyI, 280, .inl v_cells)), (h_p0_train_settings, .inl (cyI, 3, .inl v_settings))]) (w1 := [(h_p0_train_berths, .inr (0, [.ref h_p0_train_berths_holders, .ref h_p0_train_berths_ends])), (h_p0_train_berths_holders, .inl (cyI, 162, .inl v_holders))]) hP hD [3, 4] [0, 1, 2, 5, 6, 7] rfl rfl (by decide) (by decide) hk1 hFc (WLD.P hB ht) hB.2
              have hP : va_P (dC, dI) vwCl [(h_p0, .inr (6, [.ref h_p0_train, .ref h_p0_history, .ref h_p0_text])), (h_p0_history, .inr (1, [.ref h_p0_history_ring, .int v_oldest, .int v_hsize])), (h_p0_train, .inr (5, [.ref h_p0_train_berths, .ref h_p0_train_roster, .ref h_p0_train_settings, .int v_nextNumber, .int v_bookings, .int v_leftOut])), (h_p0_train_roster, .inr (3, [.ref h_p0_train_roster_cells, .int v_size])), (h_p0_train_roster_cells, .inl (cyI, 280, .inl v_cells)), (h_p0_train_settings, .inl (cyI, 3, .inl v_settings)), (h_p0_train_berths, .inr (0, [.ref h_p0_train_berths_holders, .ref h_p0_train_berths_ends])), (h_p0_train_berths_holders, .inl (cyI, 162, .inl v_holders))] H := hP
              have hD : va_D A [(h_p0, .inr (6, [.ref h_p0_train, .ref h_p0_history, .ref h_p0_text])), (h_p0_history, .inr (1, [.ref h_p0_history_ring, .int v_oldest, .int v_hsize])), (h_p0_train, .inr (5, [.ref h_p0_train_berths, .ref h_p0_train_roster, .ref h_p0_train_settings, .int v_nextNumber, .int v_bookings, .int v_leftOut])), (h_p0_train_roster, .inr (3, [.ref h_p0_train_roster_cells, .int v_size])), (h_p0_train_roster_cells, .inl (cyI, 280, .inl v_cells)), (h_p0_train_settings, .inl (cyI, 3, .inl v_settings)), (h_p0_train_berths, .inr (0, [.ref h_p0_train_berths_holders, .ref h_p0_train_berths_ends])), (h_p0_train_berths_holders, .inl (cyI, 162, .inl v_holders))] := hD
              obtain rfl := Option.some.inj h
              refine W.widen (k := 1) (n := 6) (Nat.le_of_ble_eq_true rfl) (Nat.le_of_ble_eq_true rfl) ?_
              refine vx_ret ?_
              exact W.iret (v := r19) hx hb hr (fun t ht hW => ⟨⟨r19, (), rfl, ⟨rfl, rfl⟩, WLD.of ht (sb_P [(h_p0, .inr (6, [.ref h_p0_train, .ref h_p0_history, .ref h_p0_text])), (h_p0_history, .inr (1, [.ref h_p0_history_ring, .int v_oldest, .int v_hsize])), (h_p0_train, .inr (5, [.ref h_p0_train_berths, .ref h_p0_train_roster, .ref h_p0_train_settings, .int v_nextNumber, .int v_bookings, .int v_leftOut])), (h_p0_train_berths, .inr (0, [.ref h_p0_train_berths_holders, .ref h_p0_train_berths_ends])), (h_p0_train_berths_holders, .inl (cyI, 162, .inl v_holders)), (h_p0_train_roster, .inr (3, [.ref h_p0_train_roster_cells, .int v_size])), (h_p0_train_roster_cells, .inl (cyI, 280, .inl v_cells)), (h_p0_train_settings, .inl (cyI, 3, .inl v_settings))] hP [0, 1, 2, 6, 7, 3, 4, 5] rfl) (sb_D [(h_p0, .inr (6, [.ref h_p0_train, .ref h_p0_history, .ref h_p0_text])), (h_p0_history, .inr (1, [.ref h_p0_history_ring, .int v_oldest, .int v_hsize])), (h_p0_train, .inr (5, [.ref h_p0_train_berths, .ref h_p0_train_roster, .ref h_p0_train_settings, .int v_nextNumber, .int v_bookings, .int v_leftOut])), (h_p0_train_berths, .inr (0, [.ref h_p0_train_berths_holders, .ref h_p0_train_berths_ends])), (h_p0_train_berths_holders, .inl (cyI, 162, .inl v_holders)), (h_p0_train_roster, .inr (3, [.ref h_p0_train_roster_cells, .int v_size])), (h_p0_train_roster_cells, .inl (cyI, 280, .inl v_cells)), (h_p0_train_settings, .inl (cyI, 3, .inl v_settings))] hD [0, 1, 2, 6, 7, 3, 4, 5] (by decide) rfl)⟩, hS.F ht⟩) hS.2.2 dX6_count_113
            · have h := ineg c18 h
              by_cases c22 : a1 = iI 6
              · have h := ipos c22 h
                refine lv_tableIn (tgt := 114) (off := 113) hx hb dX6_count_1 (by rw [c22]; decide) (by rw [c22]; decide) (by rw [c22]; rfl) (by decide) ?_
                refine lv_aload_n hx hb dX6_count_114 rfl (lv_at hl 0 rfl) ?_
                refine va_get (D := (dC, dI)) (ci := 6) (v := .ref h_p0_train) (C := RX6) (T := TX6) (N := 3) hx hb hts m_X6_count_0 hown hK hP 0 rfl rfl 0 (by decide) (hts (.fieldLink RX6 12 "SleeperBerths" "train" "LSleeperBerths$Train;") m_X6_count_1) (fun _ h9 => h9) rfl dX6_count_115 ?_
                refine va_get (D := (dC, dI)) (ci := 5) (v := .int v_bookings) (C := RX5) (T := TX5) (N := 6) hx hb hts m_X6_count_2 hown hK hP 2 rfl rfl 4 (by decide) (hts (.fieldLink RX6 109 "SleeperBerths$Train" "bookings" "I") m_X6_count_7) (fun _ h9 => h9) rfl dX6_count_118 ?_
                obtain rfl := Option.some.inj h
                refine W.widen (k := 1) (n := 6) (Nat.le_of_ble_eq_true rfl) (Nat.le_of_ble_eq_true rfl) ?_
                refine vx_ret ?_
                exact W.iret (v := v_bookings) hx hb hr (fun t ht hW => ⟨⟨v_bookings, (), rfl, ⟨rfl, rfl⟩, WLD.of ht hP hD⟩, hS.F ht⟩) hS.2.2 dX6_count_121
              · have h := ineg c22 h
                by_cases c23 : a1 = iI 7
                · have h := ipos c23 h
                  refine lv_tableIn (tgt := 122) (off := 121) hx hb dX6_count_1 (by rw [c23]; decide) (by rw [c23]; decide) (by rw [c23]; rfl) (by decide) ?_
                  refine lv_aload_n hx hb dX6_count_122 rfl (lv_at hl 0 rfl) ?_
                  refine va_get (D := (dC, dI)) (ci := 6) (v := .ref h_p0_train) (C := RX6) (T := TX6) (N := 3) hx hb hts m_X6_count_0 hown hK hP 0 rfl rfl 0 (by decide) (hts (.fieldLink RX6 12 "SleeperBerths" "train" "LSleeperBerths$Train;") m_X6_count_1) (fun _ h9 => h9) rfl dX6_count_123 ?_
                  refine va_get (D := (dC, dI)) (ci := 5) (v := .int v_leftOut) (C := RX5) (T := TX5) (N := 6) hx hb hts m_X6_count_2 hown hK hP 2 rfl rfl 5 (by decide) (hts (.fieldLink RX6 220 "SleeperBerths$Train" "leftOut" "I") m_X6_count_8) (fun _ h9 => h9) rfl dX6_count_126 ?_
                  obtain rfl := Option.some.inj h
                  refine W.widen (k := 1) (n := 6) (Nat.le_of_ble_eq_true rfl) (Nat.le_of_ble_eq_true rfl) ?_
                  refine vx_ret ?_
                  exact W.iret (v := v_leftOut) hx hb hr (fun t ht hW => ⟨⟨v_leftOut, (), rfl, ⟨rfl, rfl⟩, WLD.of ht hP hD⟩, hS.F ht⟩) hS.2.2 dX6_count_129
                · have h := ineg c23 h
                  by_cases c24 : a1 = iI 8
                  · have h := ipos c24 h
                    refine lv_tableIn (tgt := 130) (off := 129) hx hb dX6_count_1 (by rw [c24]; decide) (by rw [c24]; decide) (by rw [c24]; rfl) (by decide) ?_
                    refine lv_aload_n hx hb dX6_count_130 rfl (lv_at hl 0 rfl) ?_
                    refine va_get (D := (dC, dI)) (ci := 6) (v := .ref h_p0_history) (C := RX6) (T := TX6) (N := 3) hx hb hts m_X6_count_0 hown hK hP 0 rfl rfl 1 (by decide) (hts (.fieldLink RX6 19 "SleeperBerths" "history" "LSleeperBerths$History;") m_X6_count_9) (fun _ h9 => h9) rfl dX6_count_131 ?_
                    refine va_get (D := (dC, dI)) (ci := 1) (v := .int v_hsize) (C := RX1) (T := TX1) (N := 3) hx hb hts m_X6_count_10 hown hK hP 1 rfl rfl 2 (by decide) (hts (.fieldLink RX6 195 "SleeperBerths$History" "size" "I") m_X6_count_11) (fun _ h9 => h9) rfl dX6_count_134 ?_
                    obtain rfl := Option.some.inj h
                    refine W.widen (k := 1) (n := 6) (Nat.le_of_ble_eq_true rfl) (Nat.le_of_ble_eq_true rfl) ?_
                    refine vx_ret ?_
                    exact W.iret (v := v_hsize) hx hb hr (fun t ht hW => ⟨⟨v_hsize, (), rfl, ⟨rfl, rfl⟩, WLD.of ht hP hD⟩, hS.F ht⟩) hS.2.2 dX6_count_137
                  · have h := ineg c24 h
                    refine lv_tableOut (tgt := 138) hx hb dX6_count_1 (tsw_out 0 8 (fun k h1 h2 => by rcases (show k = 0 ∨ k = 1 ∨ k = 2 ∨ k = 3 ∨ k = 4 ∨ k = 5 ∨ k = 6 ∨ k = 7 ∨ k = 8 by omega) with rfl | rfl | rfl | rfl | rfl | rfl | rfl | rfl | rfl <;> assumption)) (by decide) ?_
                    obtain rfl := Option.some.inj h
                    obtain ⟨sa25, hstr⟩ := hXR.2.2 14 rfl
                    exact vx_throwS (names := ["java/lang/RuntimeException", "java/lang/Exception"]) (sa := sa25) hx hb hl0 hown (by decide +kernel) (by decide +kernel) (hts (.classLink RX6 116 "java/lang/IllegalArgumentException") m_X6_count_13) (hts (.initialized "java/lang/IllegalArgumentException") m_X6_count_14) hstr (xhat hts m_X6_count_12 hXR (by decide +kernel)) (by decide +kernel) hXS.1 hXS.2 hS (hl.1.trans hml.symm) dX6_count_138 dX6_count_141 dX6_count_142 dX6_count_144 dX6_count_147 (fun x hx9 => (hno x hx9).elim) (Nat.le_of_ble_eq_true rfl) (Nat.le_of_ble_eq_true rfl) (Nat.le_of_ble_eq_true rfl) (Nat.le_of_ble_eq_true rfl) hlocks (fun t _ h1 h2 => XWL.of (show ¬ (1 : Nat) = 0 by decide) rfl hP hD hS h1 h2) hS.2.2 (Nat.le_of_ble_eq_true rfl) (Nat.le_of_ble_eq_true rfl)
