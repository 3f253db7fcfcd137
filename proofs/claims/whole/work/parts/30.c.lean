def s_X6_ifBooked (n : Nat) (v_ends : Nat → Int32) (v_holders : Nat → Int32) (v_settings : Nat → Int32) (a1 : Int32) (a2 : Int32) (a3 : Int32) (a4 : Int32) : Option (Nat × Int32) := ((s_X6_requireWay a1 a2).bind fun r1 => (if r1 = 0 then ((s_X6_isBelow a4 (iI 4)).bind fun r4 => (if r4 = 0 then (some (1, 0)) else ((s_X5_findBerths n v_ends v_holders v_settings a1 a2 a3).bind fun r8 => ((s_X6_tell n v_holders r8.1 r8.2.1 r8.2.2 a1 a2 a4).bind fun r12 => (some (0, r12)))))) else (some (r1, 0))))
set_option maxRecDepth 20000 in
theorem m_X6_ifBooked_0 : ∀ w ∈ u_ws RX6 TX6 3, w ∈ wsX6_ifBooked := by decide +kernel
set_option maxRecDepth 20000 in
theorem m_X6_ifBooked_1 : (.fieldLink RX6 12 "SleeperBerths" "train" "LSleeperBerths$Train;" : Cond) ∈ wsX6_ifBooked := by decide +kernel
set_option maxRecDepth 20000 in
theorem m_X6_ifBooked_2 : ∀ w ∈ (vx_atS RX6 120 "java/lang/IllegalArgumentException" ["java/lang/RuntimeException", "java/lang/Exception"]).filter goodWord, w ∈ wsX6_ifBooked := by decide +kernel
set_option maxRecDepth 20000 in
theorem m_X6_ifBooked_3 : (.classLink RX6 116 "java/lang/IllegalArgumentException" : Cond) ∈ wsX6_ifBooked := by decide +kernel
set_option maxRecDepth 20000 in
theorem m_X6_ifBooked_4 : (.initialized "java/lang/IllegalArgumentException" : Cond) ∈ wsX6_ifBooked := by decide +kernel
set_option maxHeartbeats 4000000 in
set_option maxRecDepth 100000 in
theorem c_X6_ifBooked (l : Launch) (hl0 : l.stackTraces = false) (dC : Nat → ClassId) (dI : Nat → Nat → Nat) (cyI cyJ cyT : ClassId) (h_p0 : Nat) (h_p0_train : Nat) (h_p0_history : Nat) (h_p0_text : Nat) (h_p0_train_berths : Nat) (h_p0_train_roster : Nat) (h_p0_train_settings : Nat) (h_p0_train_berths_holders : Nat) (h_p0_train_berths_ends : Nat) (sz : Nat) (v_nextNumber : Int32) (v_bookings : Int32) (v_leftOut : Int32) (v_ends : Nat → Int32) (v_holders : Nat → Int32) (v_settings : Nat → Int32) (a1 : Int32) (a2 : Int32) (a3 : Int32) (a4 : Int32) (n : Nat) (o : Nat × Int32) (h : s_X6_ifBooked n v_ends v_holders v_settings a1 a2 a3 a4 = some o) : vx_Met l yX6_ifBooked wsX6_ifBooked ({ frames := 7, cells := 5, slots := 21, locals := 126 }) (va_Pc [.ref h_p0, .int a1, .int a2, .int a3, .int a4] (PREX (dC, dI) (TYS cyI cyJ cyT) sz [(h_p0, .inr (6, [.ref h_p0_train, .ref h_p0_history, .ref h_p0_text])), (h_p0_train, .inr (5, [.ref h_p0_train_berths, .ref h_p0_train_roster, .ref h_p0_train_settings, .int v_nextNumber, .int v_bookings, .int v_leftOut])), (h_p0_train_berths, .inr (0, [.ref h_p0_train_berths_holders, .ref h_p0_train_berths_ends])), (h_p0_train_berths_ends, .inl (cyI, 3, .inl v_ends)), (h_p0_train_berths_holders, .inl (cyI, 162, .inl v_holders)), (h_p0_train_settings, .inl (cyI, 3, .inl v_settings))])) (va_Qi (S := Unit) (fun r _ => o.1 = 0 ∧ r = o.2) (fun _ t => WLD (dC, dI) (va_A [(h_p0, .inr (6, [.ref h_p0_train, .ref h_p0_history, .ref h_p0_text])), (h_p0_train, .inr (5, [.ref h_p0_train_berths, .ref h_p0_train_roster, .ref h_p0_train_settings, .int v_nextNumber, .int v_bookings, .int v_leftOut])), (h_p0_train_berths, .inr (0, [.ref h_p0_train_berths_holders, .ref h_p0_train_berths_ends])), (h_p0_train_berths_ends, .inl (cyI, 3, .inl v_ends)), (h_p0_train_berths_holders, .inl (cyI, 162, .inl v_holders)), (h_p0_train_settings, .inl (cyI, 3, .inl v_settings))] sz) [(h_p0, .inr (6, [.ref h_p0_train, .ref h_p0_history, .ref h_p0_text])), (h_p0_train, .inr (5, [.ref h_p0_train_berths, .ref h_p0_train_roster, .ref h_p0_train_settings, .int v_nextNumber, .int v_bookings, .int v_leftOut])), (h_p0_train_berths, .inr (0, [.ref h_p0_train_berths_holders, .ref h_p0_train_berths_ends])), (h_p0_train_berths_ends, .inl (cyI, 3, .inl v_ends)), (h_p0_train_berths_holders, .inl (cyI, 162, .inl v_holders)), (h_p0_train_settings, .inl (cyI, 3, .inl v_settings))] t) (va_A [(h_p0, .inr (6, [.ref h_p0_train, .ref h_p0_history, .ref h_p0_text])), (h_p0_train, .inr (5, [.ref h_p0_train_berths, .ref h_p0_train_roster, .ref h_p0_train_settings, .int v_nextNumber, .int v_bookings, .int v_leftOut])), (h_p0_train_berths, .inr (0, [.ref h_p0_train_berths_holders, .ref h_p0_train_berths_ends])), (h_p0_train_berths_ends, .inl (cyI, 3, .inl v_ends)), (h_p0_train_berths_holders, .inl (cyI, 162, .inl v_holders)), (h_p0_train_settings, .inl (cyI, 3, .inl v_settings))] sz)) (vx_X (S := Unit) (fun _ => True) (fun E _ t => XWL (dC, dI) (va_A [(h_p0, .inr (6, [.ref h_p0_train, .ref h_p0_history, .ref h_p0_text])), (h_p0_train, .inr (5, [.ref h_p0_train_berths, .ref h_p0_train_roster, .ref h_p0_train_settings, .int v_nextNumber, .int v_bookings, .int v_leftOut])), (h_p0_train_berths, .inr (0, [.ref h_p0_train_berths_holders, .ref h_p0_train_berths_ends])), (h_p0_train_berths_ends, .inl (cyI, 3, .inl v_ends)), (h_p0_train_berths_holders, .inl (cyI, 162, .inl v_holders)), (h_p0_train_settings, .inl (cyI, 3, .inl v_settings))] sz) o.1 E [(h_p0, .inr (6, [.ref h_p0_train, .ref h_p0_history, .ref h_p0_text])), (h_p0_train, .inr (5, [.ref h_p0_train_berths, .ref h_p0_train_roster, .ref h_p0_train_settings, .int v_nextNumber, .int v_bookings, .int v_leftOut])), (h_p0_train_berths, .inr (0, [.ref h_p0_train_berths_holders, .ref h_p0_train_berths_ends])), (h_p0_train_berths_ends, .inl (cyI, 3, .inl v_ends)), (h_p0_train_berths_holders, .inl (cyI, 162, .inl v_holders)), (h_p0_train_settings, .inl (cyI, 3, .inl v_settings))] t) (va_A [(h_p0, .inr (6, [.ref h_p0_train, .ref h_p0_history, .ref h_p0_text])), (h_p0_train, .inr (5, [.ref h_p0_train_berths, .ref h_p0_train_roster, .ref h_p0_train_settings, .int v_nextNumber, .int v_bookings, .int v_leftOut])), (h_p0_train_berths, .inr (0, [.ref h_p0_train_berths_holders, .ref h_p0_train_berths_ends])), (h_p0_train_berths_ends, .inl (cyI, 3, .inl v_ends)), (h_p0_train_berths_holders, .inl (cyI, 162, .inl v_holders)), (h_p0_train_settings, .inl (cyI, 3, .inl v_settings))] sz)) 5 21 (va_A [(h_p0, .inr (6, [.ref h_p0_train, .ref h_p0_history, .ref h_p0_text])), (h_p0_train, .inr (5, [.ref h_p0_train_berths, .ref h_p0_train_roster, .ref h_p0_train_settings, .int v_nextNumber, .int v_bookings, .int v_leftOut])), (h_p0_train_berths, .inr (0, [.ref h_p0_train_berths_holders, .ref h_p0_train_berths_ends])), (h_p0_train_berths_ends, .inl (cyI, 3, .inl v_ends)), (h_p0_train_berths_holders, .inl (cyI, 162, .inl v_holders)), (h_p0_train_settings, .inl (cyI, 3, .inl v_settings))] sz) := by
  refine vx_ofW (cc := cX6_ifBooked) (maxL := 5) (ret := (some .int)) (by decide) rfl ?_
  intro p e s m args below meth c s₁ B hml hno hv
  obtain ⟨rfl, ⟨hsz, hP, hK, hD0, hNW⟩, hXR, hXS⟩ := hv
  have hx := B.exec
  have hb := B.bytes
  have hr := B.returns
  have hts := atoms_spec (ws := wsX6_ifBooked) B.pre
  have hown : s.vm.findClass RX6 = some m.cls := findClass_of_methodNamed B.named
  have hlocks := B.notSynchronized
  subst hsz
  have hD := hD0.self (sz := s.heap.size)
  generalize hAe : va_A [(h_p0, .inr (6, [.ref h_p0_train, .ref h_p0_history, .ref h_p0_text])), (h_p0_train, .inr (5, [.ref h_p0_train_berths, .ref h_p0_train_roster, .ref h_p0_train_settings, .int v_nextNumber, .int v_bookings, .int v_leftOut])), (h_p0_train_berths, .inr (0, [.ref h_p0_train_berths_holders, .ref h_p0_train_berths_ends])), (h_p0_train_berths_ends, .inl (cyI, 3, .inl v_ends)), (h_p0_train_berths_holders, .inl (cyI, 162, .inl v_holders)), (h_p0_train_settings, .inl (cyI, 3, .inl v_settings))] s.heap.size = A at hD hXS ⊢
  have hA : ∀ q : Nat, s.heap.size ≤ q → A q := fun q h => by rw [← hAe]; exact Or.inr h
  have hS : va_S A s.heap s.heap [] := va_S.rf
  have hP : va_P (dC, dI) vwCl [(h_p0, .inr (6, [.ref h_p0_train, .ref h_p0_history, .ref h_p0_text])), (h_p0_train, .inr (5, [.ref h_p0_train_berths, .ref h_p0_train_roster, .ref h_p0_train_settings, .int v_nextNumber, .int v_bookings, .int v_leftOut])), (h_p0_train_berths, .inr (0, [.ref h_p0_train_berths_holders, .ref h_p0_train_berths_ends])), (h_p0_train_berths_ends, .inl (cyI, 3, .inl v_ends)), (h_p0_train_berths_holders, .inl (cyI, 162, .inl v_holders)), (h_p0_train_settings, .inl (cyI, 3, .inl v_settings))] s.heap := hP
  have hl := lv_entry ([.ref h_p0, .int a1, .int a2, .int a3, .int a4]) (n := 5) (Nat.le_of_ble_eq_true rfl)
  rw [lg_entry_eq]
  generalize (lg_sl ([.ref h_p0, .int a1, .int a2, .int a3, .int a4]) ++ List.replicate (5 - (lg_sl ([.ref h_p0, .int a1, .int a2, .int a3, .int a4])).length) Slot.unset).toArray = ls at hl ⊢
  have hl : lv_has ls 5 [(0, .ref h_p0), (1, .int a1), (2, .int a2), (3, .int a3), (4, .int a4)] := hl
  unfold s_X6_ifBooked at h
  refine lv_iload_n hx hb dX6_ifBooked_0 rfl (lv_at hl 1 rfl) ?_
  refine lv_iload_n hx hb dX6_ifBooked_1 rfl (lv_at hl 2 rfl) ?_
  obtain ⟨r1, e2, h⟩ := bsome h
  have hPc := sb_P [] hP [] rfl
  have hDc := sb_D [] hD [] (by decide) rfl
  have hFc := va_free (wc := []) hD hS hA [] rfl
  refine vx_callv (vx_runS (As := [.int a1, .int a2]) (rest := []) ⟨hx, hb, hml, hown, hts⟩ (c_X6_requireWay l hl0 dC dI cyI cyJ cyT s.heap.size a1 a2 r1 e2) (va_cwS 2 hts gX6_ifBooked_X6_requireWay rfl rfl rfl (by decide +kernel) ⟨Nat.le_of_ble_eq_true rfl, Nat.le_of_ble_eq_true rfl⟩) ⟨PREX.blind, PREX.go hK hPc hDc hNW hXR hXS hS hFc⟩ rfl rfl hl.1 rfl (lv_room (Nat.le_of_ble_eq_true rfl)) dX6_ifBooked_2 ⟨(Nat.le_of_ble_eq_true rfl), (Nat.le_of_ble_eq_true rfl)⟩) hS (fun q _ h => hFc q h) hFc (fun q _ h => hFc q h) (fun E9 ce9 q9 u t H locs ht hvm _ hB hz1 hk1 hS hce hcv hcl => by
      have h := ineg hB.1 h
      obtain ⟨hP, hD⟩ := va_join (wr := [(h_p0, .inr (6, [.ref h_p0_train, .ref h_p0_history, .ref h_p0_text])), (h_p0_train, .inr (5, [.ref h_p0_train_berths, .ref h_p0_train_roster, .ref h_p0_train_settings, .int v_nextNumber, .int v_bookings, .int v_leftOut])), (h_p0_train_berths, .inr (0, [.ref h_p0_train_berths_holders, .ref h_p0_train_berths_ends])), (h_p0_train_berths_ends, .inl (cyI, 3, .inl v_ends)), (h_p0_train_berths_holders, .inl (cyI, 162, .inl v_holders)), (h_p0_train_settings, .inl (cyI, 3, .inl v_settings))]) (w1 := []) hP hD [] [0, 1, 2, 3, 4, 5] rfl rfl (by decide) (by decide) hk1 hFc (WLD.P hB.2.2 ht) hB.2.2.2
      have hP : va_P (dC, dI) vwCl [(h_p0, .inr (6, [.ref h_p0_train, .ref h_p0_history, .ref h_p0_text])), (h_p0_train, .inr (5, [.ref h_p0_train_berths, .ref h_p0_train_roster, .ref h_p0_train_settings, .int v_nextNumber, .int v_bookings, .int v_leftOut])), (h_p0_train_berths, .inr (0, [.ref h_p0_train_berths_holders, .ref h_p0_train_berths_ends])), (h_p0_train_berths_ends, .inl (cyI, 3, .inl v_ends)), (h_p0_train_berths_holders, .inl (cyI, 162, .inl v_holders)), (h_p0_train_settings, .inl (cyI, 3, .inl v_settings))] H := hP
      have hD : va_D A [(h_p0, .inr (6, [.ref h_p0_train, .ref h_p0_history, .ref h_p0_text])), (h_p0_train, .inr (5, [.ref h_p0_train_berths, .ref h_p0_train_roster, .ref h_p0_train_settings, .int v_nextNumber, .int v_bookings, .int v_leftOut])), (h_p0_train_berths, .inr (0, [.ref h_p0_train_berths_holders, .ref h_p0_train_berths_ends])), (h_p0_train_berths_ends, .inl (cyI, 3, .inl v_ends)), (h_p0_train_berths_holders, .inl (cyI, 162, .inl v_holders)), (h_p0_train_settings, .inl (cyI, 3, .inl v_settings))] := hD
      obtain rfl := Option.some.inj h
      exact vx_out (fun x hx9 => (hno x hx9).elim) hlocks hce hcv hcl (fun t ht _ => XWL.of2 hB.1 hB.2.1 hP hD hS ht) hS.2.2 (Nat.le_of_ble_eq_true rfl) (Nat.le_of_ble_eq_true rfl)) (fun u t H locs ht hvm hw hB hz1 hk1 hS => ?_)
  have h := ipos hw h
  obtain ⟨hP, hD⟩ := va_join (wr := [(h_p0, .inr (6, [.ref h_p0_train, .ref h_p0_history, .ref h_p0_text])), (h_p0_train, .inr (5, [.ref h_p0_train_berths, .ref h_p0_train_roster, .ref h_p0_train_settings, .int v_nextNumber, .int v_bookings, .int v_leftOut])), (h_p0_train_berths, .inr (0, [.ref h_p0_train_berths_holders, .ref h_p0_train_berths_ends])), (h_p0_train_berths_ends, .inl (cyI, 3, .inl v_ends)), (h_p0_train_berths_holders, .inl (cyI, 162, .inl v_holders)), (h_p0_train_settings, .inl (cyI, 3, .inl v_settings))]) (w1 := []) hP hD [] [0, 1, 2, 3, 4, 5] rfl rfl (by decide) (by decide) hk1 hFc (WLD.P hB ht) hB.2
  have hP : va_P (dC, dI) vwCl [(h_p0, .inr (6, [.ref h_p0_train, .ref h_p0_history, .ref h_p0_text])), (h_p0_train, .inr (5, [.ref h_p0_train_berths, .ref h_p0_train_roster, .ref h_p0_train_settings, .int v_nextNumber, .int v_bookings, .int v_leftOut])), (h_p0_train_berths, .inr (0, [.ref h_p0_train_berths_holders, .ref h_p0_train_berths_ends])), (h_p0_train_berths_ends, .inl (cyI, 3, .inl v_ends)), (h_p0_train_berths_holders, .inl (cyI, 162, .inl v_holders)), (h_p0_train_settings, .inl (cyI, 3, .inl v_settings))] H := hP
  have hD : va_D A [(h_p0, .inr (6, [.ref h_p0_train, .ref h_p0_history, .ref h_p0_text])), (h_p0_train, .inr (5, [.ref h_p0_train_berths, .ref h_p0_train_roster, .ref h_p0_train_settings, .int v_nextNumber, .int v_bookings, .int v_leftOut])), (h_p0_train_berths, .inr (0, [.ref h_p0_train_berths_holders, .ref h_p0_train_berths_ends])), (h_p0_train_berths_ends, .inl (cyI, 3, .inl v_ends)), (h_p0_train_berths_holders, .inl (cyI, 162, .inl v_holders)), (h_p0_train_settings, .inl (cyI, 3, .inl v_settings))] := hD
  refine lv_iload hx hb dX6_ifBooked_5 (lv_at hl 4 rfl) ?_
  refine lv_iconst (v := iI 4) hx hb dX6_ifBooked_7 rfl ?_
  obtain ⟨r4, e5, h⟩ := bsome h
  have hPc := sb_P [] hP [] rfl
  have hDc := sb_D [] hD [] (by decide) rfl
  have hFc := va_free (wc := []) hD hS hA [] rfl
  refine va_calli (va_runS (As := [.int a4, .int (iI 4)]) (rest := []) ⟨hx, hb, hml, hown, hts⟩ (c_X6_isBelow l dC dI cyI cyJ cyT H.size a4 (iI 4) r4 e5) (va_cwS 2 hts gX6_ifBooked_X6_isBelow rfl rfl rfl (by decide +kernel) ⟨Nat.le_of_ble_eq_true rfl, Nat.le_of_ble_eq_true rfl⟩) ⟨PRE.blind, PRE.go hK hPc hDc hNW⟩ rfl rfl hl.1 rfl (lv_room (Nat.le_of_ble_eq_true rfl)) dX6_ifBooked_8 ⟨(Nat.le_of_ble_eq_true rfl), (Nat.le_of_ble_eq_true rfl)⟩) hS (fun q _ h => hFc q h) hFc (fun z6 u t H locs ht hvm hw hB hz1 hk1 hS => ?_)
  subst z6
  obtain ⟨hP, hD⟩ := va_join (wr := [(h_p0, .inr (6, [.ref h_p0_train, .ref h_p0_history, .ref h_p0_text])), (h_p0_train, .inr (5, [.ref h_p0_train_berths, .ref h_p0_train_roster, .ref h_p0_train_settings, .int v_nextNumber, .int v_bookings, .int v_leftOut])), (h_p0_train_berths, .inr (0, [.ref h_p0_train_berths_holders, .ref h_p0_train_berths_ends])), (h_p0_train_berths_ends, .inl (cyI, 3, .inl v_ends)), (h_p0_train_berths_holders, .inl (cyI, 162, .inl v_holders)), (h_p0_train_settings, .inl (cyI, 3, .inl v_settings))]) (w1 := []) hP hD [] [0, 1, 2, 3, 4, 5] rfl rfl (by decide) (by decide) hk1 hFc (WLD.P hB ht) hB.2
  have hP : va_P (dC, dI) vwCl [(h_p0, .inr (6, [.ref h_p0_train, .ref h_p0_history, .ref h_p0_text])), (h_p0_train, .inr (5, [.ref h_p0_train_berths, .ref h_p0_train_roster, .ref h_p0_train_settings, .int v_nextNumber, .int v_bookings, .int v_leftOut])), (h_p0_train_berths, .inr (0, [.ref h_p0_train_berths_holders, .ref h_p0_train_berths_ends])), (h_p0_train_berths_ends, .inl (cyI, 3, .inl v_ends)), (h_p0_train_berths_holders, .inl (cyI, 162, .inl v_holders)), (h_p0_train_settings, .inl (cyI, 3, .inl v_settings))] H := hP
  have hD : va_D A [(h_p0, .inr (6, [.ref h_p0_train, .ref h_p0_history, .ref h_p0_text])), (h_p0_train, .inr (5, [.ref h_p0_train_berths, .ref h_p0_train_roster, .ref h_p0_train_settings, .int v_nextNumber, .int v_bookings, .int v_leftOut])), (h_p0_train_berths, .inr (0, [.ref h_p0_train_berths_holders, .ref h_p0_train_berths_ends])), (h_p0_train_berths_ends, .inl (cyI, 3, .inl v_ends)), (h_p0_train_berths_holders, .inl (cyI, 162, .inl v_holders)), (h_p0_train_settings, .inl (cyI, 3, .inl v_settings))] := hD
  refine lv_if_ne (tgt := 24) hx hb dX6_ifBooked_11 (by decide) (fun c7 => ?_) (fun c7 => ?_)
  · have h := ineg c7 h
    refine lv_aload_n hx hb dX6_ifBooked_24 rfl (lv_at hl 0 rfl) ?_
    refine lv_aload_n hx hb dX6_ifBooked_25 rfl (lv_at hl 0 rfl) ?_
    refine va_get (D := (dC, dI)) (ci := 6) (v := .ref h_p0_train) (C := RX6) (T := TX6) (N := 3) hx hb hts m_X6_ifBooked_0 hown hK hP 0 rfl rfl 0 (by decide) (hts (.fieldLink RX6 12 "SleeperBerths" "train" "LSleeperBerths$Train;") m_X6_ifBooked_1) (fun _ h9 => h9) rfl dX6_ifBooked_26 ?_
    refine lv_iload_n hx hb dX6_ifBooked_29 rfl (lv_at hl 1 rfl) ?_
    refine lv_iload_n hx hb dX6_ifBooked_30 rfl (lv_at hl 2 rfl) ?_
    refine lv_iload_n hx hb dX6_ifBooked_31 rfl (lv_at hl 3 rfl) ?_
    obtain ⟨r8, e9, h⟩ := bsome h
    have hPc := sb_P [(h_p0_train, .inr (5, [.ref h_p0_train_berths, .ref h_p0_train_roster, .ref h_p0_train_settings, .int v_nextNumber, .int v_bookings, .int v_leftOut])), (h_p0_train_berths, .inr (0, [.ref h_p0_train_berths_holders, .ref h_p0_train_berths_ends])), (h_p0_train_berths_ends, .inl (cyI, 3, .inl v_ends)), (h_p0_train_berths_holders, .inl (cyI, 162, .inl v_holders)), (h_p0_train_settings, .inl (cyI, 3, .inl v_settings))] hP [1, 2, 3, 4, 5] rfl
    have hDc := sb_D [(h_p0_train, .inr (5, [.ref h_p0_train_berths, .ref h_p0_train_roster, .ref h_p0_train_settings, .int v_nextNumber, .int v_bookings, .int v_leftOut])), (h_p0_train_berths, .inr (0, [.ref h_p0_train_berths_holders, .ref h_p0_train_berths_ends])), (h_p0_train_berths_ends, .inl (cyI, 3, .inl v_ends)), (h_p0_train_berths_holders, .inl (cyI, 162, .inl v_holders)), (h_p0_train_settings, .inl (cyI, 3, .inl v_settings))] hD [1, 2, 3, 4, 5] (by decide) rfl
    have hFc := va_free (wc := [(h_p0_train, .inr (5, [.ref h_p0_train_berths, .ref h_p0_train_roster, .ref h_p0_train_settings, .int v_nextNumber, .int v_bookings, .int v_leftOut])), (h_p0_train_berths, .inr (0, [.ref h_p0_train_berths_holders, .ref h_p0_train_berths_ends])), (h_p0_train_berths_ends, .inl (cyI, 3, .inl v_ends)), (h_p0_train_berths_holders, .inl (cyI, 162, .inl v_holders)), (h_p0_train_settings, .inl (cyI, 3, .inl v_settings))]) hD hS hA [1, 2, 3, 4, 5] rfl
    refine va_callr (va_runV (As := [.int a1, .int a2, .int a3]) (rest := [.ref h_p0]) ⟨hx, hb, hml, hown, hts⟩ (c_X5_findBerths l dC dI cyI cyJ cyT h_p0_train h_p0_train_berths h_p0_train_roster h_p0_train_settings h_p0_train_berths_holders h_p0_train_berths_ends H.size v_nextNumber v_bookings v_leftOut v_ends v_holders v_settings a1 a2 a3 n r8 e9) (cwV 3 hts gX6_ifBooked_X5_findBerths rfl rfl rfl (by decide +kernel) ⟨Nat.le_of_ble_eq_true rfl, Nat.le_of_ble_eq_true rfl⟩) ⟨PRE.blind, va_recv hK hPc (ci := 5) (q0 := 0) rfl rfl, PRE.go hK hPc hDc hNW⟩ rfl rfl hl.1 rfl (lv_room (Nat.le_of_ble_eq_true rfl)) dX6_ifBooked_32 ⟨(Nat.le_of_ble_eq_true rfl), (Nat.le_of_ble_eq_true rfl)⟩) hS (fun q _ h => hFc q h) hFc (fun u q10 t H locs ht hvm hw hB hz1 hk1 hS => ?_)
    obtain ⟨hP, hD⟩ := va_join (wr := [(h_p0, .inr (6, [.ref h_p0_train, .ref h_p0_history, .ref h_p0_text]))]) (w1 := [(h_p0_train, .inr (5, [.ref h_p0_train_berths, .ref h_p0_train_roster, .ref h_p0_train_settings, .int v_nextNumber, .int v_bookings, .int v_leftOut])), (h_p0_train_berths, .inr (0, [.ref h_p0_train_berths_holders, .ref h_p0_train_berths_ends])), (h_p0_train_berths_ends, .inl (cyI, 3, .inl v_ends)), (h_p0_train_berths_holders, .inl (cyI, 162, .inl v_holders)), (h_p0_train_settings, .inl (cyI, 3, .inl v_settings)), (q10, .inr (2, [.int r8.1, .int r8.2.1, .int r8.2.2]))]) hP hD [1, 2, 3, 4, 5] [0] rfl rfl (by decide) (by decide) hk1 hFc (WLD.P hB ht) hB.2
    have hP : va_P (dC, dI) vwCl [(h_p0, .inr (6, [.ref h_p0_train, .ref h_p0_history, .ref h_p0_text])), (h_p0_train, .inr (5, [.ref h_p0_train_berths, .ref h_p0_train_roster, .ref h_p0_train_settings, .int v_nextNumber, .int v_bookings, .int v_leftOut])), (h_p0_train_berths, .inr (0, [.ref h_p0_train_berths_holders, .ref h_p0_train_berths_ends])), (h_p0_train_berths_ends, .inl (cyI, 3, .inl v_ends)), (h_p0_train_berths_holders, .inl (cyI, 162, .inl v_holders)), (h_p0_train_settings, .inl (cyI, 3, .inl v_settings)), (q10, .inr (2, [.int r8.1, .int r8.2.1, .int r8.2.2]))] H := hP
    have hD : va_D A [(h_p0, .inr (6, [.ref h_p0_train, .ref h_p0_history, .ref h_p0_text])), (h_p0_train, .inr (5, [.ref h_p0_train_berths, .ref h_p0_train_roster, .ref h_p0_train_settings, .int v_nextNumber, .int v_bookings, .int v_leftOut])), (h_p0_train_berths, .inr (0, [.ref h_p0_train_berths_holders, .ref h_p0_train_berths_ends])), (h_p0_train_berths_ends, .inl (cyI, 3, .inl v_ends)), (h_p0_train_berths_holders, .inl (cyI, 162, .inl v_holders)), (h_p0_train_settings, .inl (cyI, 3, .inl v_settings)), (q10, .inr (2, [.int r8.1, .int r8.2.1, .int r8.2.2]))] := hD
    refine lv_iload_n hx hb dX6_ifBooked_35 rfl (lv_at hl 1 rfl) ?_
    refine lv_iload_n hx hb dX6_ifBooked_36 rfl (lv_at hl 2 rfl) ?_
    refine lv_iload hx hb dX6_ifBooked_37 (lv_at hl 4 rfl) ?_
    obtain ⟨r12, e13, h⟩ := bsome h
    have hPc := sb_P [(h_p0, .inr (6, [.ref h_p0_train, .ref h_p0_history, .ref h_p0_text])), (h_p0_train, .inr (5, [.ref h_p0_train_berths, .ref h_p0_train_roster, .ref h_p0_train_settings, .int v_nextNumber, .int v_bookings, .int v_leftOut])), (h_p0_train_berths, .inr (0, [.ref h_p0_train_berths_holders, .ref h_p0_train_berths_ends])), (h_p0_train_berths_holders, .inl (cyI, 162, .inl v_holders)), (q10, .inr (2, [.int r8.1, .int r8.2.1, .int r8.2.2]))] hP [0, 1, 2, 4, 6] rfl
    have hDc := sb_D [(h_p0, .inr (6, [.ref h_p0_train, .ref h_p0_history, .ref h_p0_text])), (h_p0_train, .inr (5, [.ref h_p0_train_berths, .ref h_p0_train_roster, .ref h_p0_train_settings, .int v_nextNumber, .int v_bookings, .int v_leftOut])), (h_p0_train_berths, .inr (0, [.ref h_p0_train_berths_holders, .ref h_p0_train_berths_ends])), (h_p0_train_berths_holders, .inl (cyI, 162, .inl v_holders)), (q10, .inr (2, [.int r8.1, .int r8.2.1, .int r8.2.2]))] hD [0, 1, 2, 4, 6] (by decide) rfl
    have hFc := va_free (wc := [(h_p0, .inr (6, [.ref h_p0_train, .ref h_p0_history, .ref h_p0_text])), (h_p0_train, .inr (5, [.ref h_p0_train_berths, .ref h_p0_train_roster, .ref h_p0_train_settings, .int v_nextNumber, .int v_bookings, .int v_leftOut])), (h_p0_train_berths, .inr (0, [.ref h_p0_train_berths_holders, .ref h_p0_train_berths_ends])), (h_p0_train_berths_holders, .inl (cyI, 162, .inl v_holders)), (q10, .inr (2, [.int r8.1, .int r8.2.1, .int r8.2.2]))]) hD hS hA [0, 1, 2, 4, 6] rfl
    refine va_calli (va_runV (As := [.ref q10, .int a1, .int a2, .int a4]) (rest := []) ⟨hx, hb, hml, hown, hts⟩ (c_X6_tell l dC dI cyI cyJ cyT h_p0 h_p0_train h_p0_history h_p0_text h_p0_train_berths h_p0_train_roster h_p0_train_settings h_p0_train_berths_holders h_p0_train_berths_ends q10 H.size v_nextNumber v_bookings v_leftOut v_holders r8.1 r8.2.1 r8.2.2 a1 a2 a4 n r12 e13) (cwV 4 hts gX6_ifBooked_X6_tell rfl rfl rfl (by decide +kernel) ⟨Nat.le_of_ble_eq_true rfl, Nat.le_of_ble_eq_true rfl⟩) ⟨PRE.blind, va_recv hK hPc (ci := 6) (q0 := 0) rfl rfl, PRE.go hK hPc hDc hNW⟩ rfl rfl hl.1 rfl (lv_room (Nat.le_of_ble_eq_true rfl)) dX6_ifBooked_39 ⟨(Nat.le_of_ble_eq_true rfl), (Nat.le_of_ble_eq_true rfl)⟩) hS (fun q _ h => hFc q h) hFc (fun z14 u t H locs ht hvm hw hB hz1 hk1 hS => ?_)
    subst z14
    obtain ⟨hP, hD⟩ := va_join (wr := [(h_p0_train_berths_ends, .inl (cyI, 3, .inl v_ends)), (h_p0_train_settings, .inl (cyI, 3, .inl v_settings))]) (w1 := [(h_p0, .inr (6, [.ref h_p0_train, .ref h_p0_history, .ref h_p0_text])), (h_p0_train, .inr (5, [.ref h_p0_train_berths, .ref h_p0_train_roster, .ref h_p0_train_settings, .int v_nextNumber, .int v_bookings, .int v_leftOut])), (h_p0_train_berths, .inr (0, [.ref h_p0_train_berths_holders, .ref h_p0_train_berths_ends])), (h_p0_train_berths_holders, .inl (cyI, 162, .inl v_holders)), (q10, .inr (2, [.int r8.1, .int r8.2.1, .int r8.2.2]))]) hP hD [0, 1, 2, 4, 6] [3, 5] rfl rfl (by decide) (by decide) hk1 hFc (WLD.P hB ht) hB.2
    have hP : va_P (dC, dI) vwCl [(h_p0_train_berths_ends, .inl (cyI, 3, .inl v_ends)), (h_p0_train_settings, .inl (cyI, 3, .inl v_settings)), (h_p0, .inr (6, [.ref h_p0_train, .ref h_p0_history, .ref h_p0_text])), (h_p0_train, .inr (5, [.ref h_p0_train_berths, .ref h_p0_train_roster, .ref h_p0_train_settings, .int v_nextNumber, .int v_bookings, .int v_leftOut])), (h_p0_train_berths, .inr (0, [.ref h_p0_train_berths_holders, .ref h_p0_train_berths_ends])), (h_p0_train_berths_holders, .inl (cyI, 162, .inl v_holders)), (q10, .inr (2, [.int r8.1, .int r8.2.1, .int r8.2.2]))] H := hP
    have hD : va_D A [(h_p0_train_berths_ends, .inl (cyI, 3, .inl v_ends)), (h_p0_train_settings, .inl (cyI, 3, .inl v_settings)), (h_p0, .inr (6, [.ref h_p0_train, .ref h_p0_history, .ref h_p0_text])), (h_p0_train, .inr (5, [.ref h_p0_train_berths, .ref h_p0_train_roster, .ref h_p0_train_settings, .int v_nextNumber, .int v_bookings, .int v_leftOut])), (h_p0_train_berths, .inr (0, [.ref h_p0_train_berths_holders, .ref h_p0_train_berths_ends])), (h_p0_train_berths_holders, .inl (cyI, 162, .inl v_holders)), (q10, .inr (2, [.int r8.1, .int r8.2.1, .int r8.2.2]))] := hD
    obtain rfl := Option.some.inj h
    refine W.widen (k := 5) (n := 21) (Nat.le_of_ble_eq_true rfl) (Nat.le_of_ble_eq_true rfl) ?_
    refine vx_ret ?_
    exact W.iret (v := r12) hx hb hr (fun t ht hW => ⟨⟨r12, (), rfl, ⟨rfl, rfl⟩, WLD.of ht (sb_P [(h_p0, .inr (6, [.ref h_p0_train, .ref h_p0_history, .ref h_p0_text])), (h_p0_train, .inr (5, [.ref h_p0_train_berths, .ref h_p0_train_roster, .ref h_p0_train_settings, .int v_nextNumber, .int v_bookings, .int v_leftOut])), (h_p0_train_berths, .inr (0, [.ref h_p0_train_berths_holders, .ref h_p0_train_berths_ends])), (h_p0_train_berths_ends, .inl (cyI, 3, .inl v_ends)), (h_p0_train_berths_holders, .inl (cyI, 162, .inl v_holders)), (h_p0_train_settings, .inl (cyI, 3, .inl v_settings))] hP [2, 3, 4, 0, 5, 1] rfl) (sb_D [(h_p0, .inr (6, [.ref h_p0_train, .ref h_p0_history, .ref h_p0_text])), (h_p0_train, .inr (5, [.ref h_p0_train_berths, .ref h_p0_train_roster, .ref h_p0_train_settings, .int v_nextNumber, .int v_bookings, .int v_leftOut])), (h_p0_train_berths, .inr (0, [.ref h_p0_train_berths_holders, .ref h_p0_train_berths_ends])), (h_p0_train_berths_ends, .inl (cyI, 3, .inl v_ends)), (h_p0_train_berths_holders, .inl (cyI, 162, .inl v_holders)), (h_p0_train_settings, .inl (cyI, 3, .inl v_settings))] hD [2, 3, 4, 0, 5, 1] (by decide) rfl)⟩, hS.F ht⟩) hS.2.2 dX6_ifBooked_42
  · have h := ipos c7 h
    obtain rfl := Option.some.inj h
    obtain ⟨sa15, hstr⟩ := hXR.2.2 17 rfl
    exact vx_throwS (names := ["java/lang/RuntimeException", "java/lang/Exception"]) (sa := sa15) hx hb hl0 hown (by decide +kernel) (by decide +kernel) (hts (.classLink RX6 116 "java/lang/IllegalArgumentException") m_X6_ifBooked_3) (hts (.initialized "java/lang/IllegalArgumentException") m_X6_ifBooked_4) hstr (xhat hts m_X6_ifBooked_2 hXR (by decide +kernel)) (by decide +kernel) hXS.1 hXS.2 hS (hl.1.trans hml.symm) dX6_ifBooked_14 dX6_ifBooked_17 dX6_ifBooked_18 dX6_ifBooked_20 dX6_ifBooked_23 (fun x hx9 => (hno x hx9).elim) (Nat.le_of_ble_eq_true rfl) (Nat.le_of_ble_eq_true rfl) (Nat.le_of_ble_eq_true rfl) (Nat.le_of_ble_eq_true rfl) hlocks (fun t _ h1 h2 => XWL.of (show ¬ (1 : Nat) = 0 by decide) rfl hP hD hS h1 h2) hS.2.2 (Nat.le_of_ble_eq_true rfl) (Nat.le_of_ble_eq_true rfl)
def s_X0_farthestOpen_L4 (n : Nat) (v_ends : Nat → Int32) (v_holders : Nat → Int32) (a1 : Int32) : Nat → Int32 → Int32 → Option (Int32)
  | 0, _, _ => none
  | k + 1, x2, x3 => (if iI 18 ≤ x3 then (some (x2)) else ((s_X0_openTill n v_ends v_holders x3 a1).bind fun r2 => (s_X0_farthestOpen_L4 n v_ends v_holders a1 k (if x2 < r2 then r2 else x2) (x3 + iI 1))))
def s_X0_farthestOpen (n : Nat) (v_ends : Nat → Int32) (v_holders : Nat → Int32) (a1 : Int32) : Option (Int32) := (s_X0_farthestOpen_L4 n v_ends v_holders a1 n a1 (iI 0))
set_option maxRecDepth 20000 in
theorem m_X0_farthestOpen_0 : (.methodLink RX0 38 Lib.Math.max.name : Cond) ∈ wsX0_farthestOpen := by decide +kernel
set_option maxRecDepth 20000 in
theorem m_X0_farthestOpen_1 : (.static Lib.Math.max.name : Cond) ∈ wsX0_farthestOpen := by decide +kernel
set_option maxRecDepth 20000 in
theorem m_X0_farthestOpen_2 : (.initialized "java/lang/Math" : Cond) ∈ wsX0_farthestOpen := by decide +kernel
set_option maxRecDepth 20000 in
theorem m_X0_farthestOpen_3 : (.code Lib.Math.max.name Lib.Math.max.code 2 (some .int) : Cond) ∈ wsX0_farthestOpen := by decide +kernel
set_option maxHeartbeats 4000000 in
set_option maxRecDepth 100000 in
theorem c_X0_farthestOpen (l : Launch) (dC : Nat → ClassId) (dI : Nat → Nat → Nat) (cyI cyJ cyT : ClassId) (h_p0 : Nat) (h_p0_holders : Nat) (h_p0_ends : Nat) (sz : Nat) (v_ends : Nat → Int32) (v_holders : Nat → Int32) (a1 : Int32) (n : Nat) (o : Int32) (h : s_X0_farthestOpen n v_ends v_holders a1 = some o) : Met l yX0_farthestOpen wsX0_farthestOpen ({ frames := 2, cells := 0, slots := 0, locals := 47 }) (va_Pc [.ref h_p0, .int a1] (PRE (dC, dI) (TYS cyI cyJ cyT) sz [(h_p0, .inr (0, [.ref h_p0_holders, .ref h_p0_ends])), (h_p0_ends, .inl (cyI, 3, .inl v_ends)), (h_p0_holders, .inl (cyI, 162, .inl v_holders))])) (va_Qi (S := Unit) (fun r _ => r = o) (fun _ t => WLD (dC, dI) (va_A [(h_p0, .inr (0, [.ref h_p0_holders, .ref h_p0_ends])), (h_p0_ends, .inl (cyI, 3, .inl v_ends)), (h_p0_holders, .inl (cyI, 162, .inl v_holders))] sz) [(h_p0, .inr (0, [.ref h_p0_holders, .ref h_p0_ends])), (h_p0_ends, .inl (cyI, 3, .inl v_ends)), (h_p0_holders, .inl (cyI, 162, .inl v_holders))] t) (va_A [(h_p0, .inr (0, [.ref h_p0_holders, .ref h_p0_ends])), (h_p0_ends, .inl (cyI, 3, .inl v_ends)), (h_p0_holders, .inl (cyI, 162, .inl v_holders))] sz)) 0 0 (va_A [(h_p0, .inr (0, [.ref h_p0_holders, .ref h_p0_ends])), (h_p0_ends, .inl (cyI, 3, .inl v_ends)), (h_p0_holders, .inl (cyI, 162, .inl v_holders))] sz) := by
  refine Met.ofW (cc := cX0_farthestOpen) (maxL := 4) (ret := (some .int)) (by decide) rfl ?_
  intro p e s m args below meth c s₁ B hml hv
  obtain ⟨rfl, hsz, hP, hK, hD0, hNW⟩ := hv
  have hx := B.exec
  have hb := B.bytes
  have hr := B.returns
  have hts := atoms_spec (ws := wsX0_farthestOpen) B.pre
  have hown : s.vm.findClass RX0 = some m.cls := findClass_of_methodNamed B.named
  have hlocks := B.notSynchronized
  subst hsz
  have hD := hD0.self (sz := s.heap.size)
  generalize hAe : va_A [(h_p0, .inr (0, [.ref h_p0_holders, .ref h_p0_ends])), (h_p0_ends, .inl (cyI, 3, .inl v_ends)), (h_p0_holders, .inl (cyI, 162, .inl v_holders))] s.heap.size = A at hD ⊢
  have hA : ∀ q : Nat, s.heap.size ≤ q → A q := fun q h => by rw [← hAe]; exact Or.inr h
  have hS : va_S A s.heap s.heap [] := va_S.rf
  have hP : va_P (dC, dI) vwCl [(h_p0, .inr (0, [.ref h_p0_holders, .ref h_p0_ends])), (h_p0_ends, .inl (cyI, 3, .inl v_ends)), (h_p0_holders, .inl (cyI, 162, .inl v_holders))] s.heap := hP
  have L4 : ∀ (k : Nat), (∀ (x2 : Int32) (x3 : Int32) (H : Heap) (locs : List Loc), va_P (dC, dI) vwCl [(h_p0, .inr (0, [.ref h_p0_holders, .ref h_p0_ends])), (h_p0_ends, .inl (cyI, 3, .inl v_ends)), (h_p0_holders, .inl (cyI, 162, .inl v_holders))] H → va_D A [(h_p0, .inr (0, [.ref h_p0_holders, .ref h_p0_ends])), (h_p0_ends, .inl (cyI, 3, .inl v_ends)), (h_p0_holders, .inl (cyI, 162, .inl v_holders))] → va_S A s.heap H locs → ∀ (ls : Array Slot), lv_has ls 4 [(0, .ref h_p0), (1, .int a1), (2, .int x2), (3, .int x3)] →  s_X0_farthestOpen_L4 n v_ends v_holders a1 k x2 x3 = some o → W p l e (headSpec wsX0_farthestOpen ({ frames := 2, cells := 0, slots := 0, locals := 47 })).room s m (([.ref h_p0, .int a1] : List Value).toArray) below meth c H locs 0 0 (MQ below (va_Qi (S := Unit) (fun r _ => r = o) (fun _ t => WLD (dC, dI) A [(h_p0, .inr (0, [.ref h_p0_holders, .ref h_p0_ends])), (h_p0_ends, .inl (cyI, 3, .inl v_ends)), (h_p0_holders, .inl (cyI, 162, .inl v_holders))] t) A) (([.ref h_p0, .int a1] : List Value).toArray) s 0 0 A) (F0 m 4 ls [])) := by
    intro k
    induction k with
    | zero =>
      intro  x2 x3 H locs hP hD hS ls hl h
      rw [s_X0_farthestOpen_L4] at h
      cases h
    | succ k ih =>
      intro  x2 x3 H locs hP hD hS ls hl h
      rw [s_X0_farthestOpen_L4] at h
      refine lv_iload_n hx hb dX0_farthestOpen_4 rfl (lv_at hl 3 rfl) ?_
      refine lv_bipush (v := iI 18) hx hb dX0_farthestOpen_5 (by decide) ?_
      refine lv_icmp_ge (tgt := 27) hx hb dX0_farthestOpen_7 (by decide) (fun c1 => ?_) (fun c1 => ?_)
      · have h := ipos c1 h
        refine lv_iload_n hx hb dX0_farthestOpen_27 rfl (lv_at hl 2 rfl) ?_
        obtain rfl := Option.some.inj h
        exact W.iret (v := x2) hx hb hr (fun t ht hW => ⟨⟨x2, (), rfl, rfl, WLD.of ht hP hD⟩, hS.F ht⟩) hS.2.2 dX0_farthestOpen_28
      · have h := ineg c1 h
        refine lv_iload_n hx hb dX0_farthestOpen_10 rfl (lv_at hl 2 rfl) ?_
        refine lv_aload_n hx hb dX0_farthestOpen_11 rfl (lv_at hl 0 rfl) ?_
        refine lv_iload_n hx hb dX0_farthestOpen_12 rfl (lv_at hl 3 rfl) ?_
        refine lv_iload_n hx hb dX0_farthestOpen_13 rfl (lv_at hl 1 rfl) ?_
        obtain ⟨r2, e3, h⟩ := bsome h
        have hPc := sb_P [(h_p0, .inr (0, [.ref h_p0_holders, .ref h_p0_ends])), (h_p0_ends, .inl (cyI, 3, .inl v_ends)), (h_p0_holders, .inl (cyI, 162, .inl v_holders))] hP [0, 1, 2] rfl
        have hDc := sb_D [(h_p0, .inr (0, [.ref h_p0_holders, .ref h_p0_ends])), (h_p0_ends, .inl (cyI, 3, .inl v_ends)), (h_p0_holders, .inl (cyI, 162, .inl v_holders))] hD [0, 1, 2] (by decide) rfl
        have hFc := va_free (wc := [(h_p0, .inr (0, [.ref h_p0_holders, .ref h_p0_ends])), (h_p0_ends, .inl (cyI, 3, .inl v_ends)), (h_p0_holders, .inl (cyI, 162, .inl v_holders))]) hD hS hA [0, 1, 2] rfl
        refine va_calli (va_runV (As := [.int x3, .int a1]) (rest := [.int x2]) ⟨hx, hb, hml, hown, hts⟩ (c_X0_openTill l dC dI cyI cyJ cyT h_p0 h_p0_holders h_p0_ends H.size v_ends v_holders x3 a1 n r2 e3) (cwV 2 hts gX0_farthestOpen_X0_openTill rfl rfl rfl (by decide +kernel) ⟨Nat.le_of_ble_eq_true rfl, Nat.le_of_ble_eq_true rfl⟩) ⟨PRE.blind, va_recv hK hPc (ci := 0) (q0 := 0) rfl rfl, PRE.go hK hPc hDc hNW⟩ rfl rfl hl.1 rfl (lv_room (Nat.le_of_ble_eq_true rfl)) dX0_farthestOpen_14 ⟨Nat.zero_le _, Nat.zero_le _⟩) hS (fun q _ h => hFc q h) hFc (fun z4 u t H locs ht hvm hw hB hz1 hk1 hS => ?_)
        subst z4
        obtain ⟨hP, hD⟩ := va_join (wr := []) (w1 := [(h_p0, .inr (0, [.ref h_p0_holders, .ref h_p0_ends])), (h_p0_ends, .inl (cyI, 3, .inl v_ends)), (h_p0_holders, .inl (cyI, 162, .inl v_holders))]) hP hD [0, 1, 2] [] rfl rfl (by decide) (by decide) hk1 hFc (WLD.P hB ht) hB.2
        have hP : va_P (dC, dI) vwCl [(h_p0, .inr (0, [.ref h_p0_holders, .ref h_p0_ends])), (h_p0_ends, .inl (cyI, 3, .inl v_ends)), (h_p0_holders, .inl (cyI, 162, .inl v_holders))] H := hP
        have hD : va_D A [(h_p0, .inr (0, [.ref h_p0_holders, .ref h_p0_ends])), (h_p0_ends, .inl (cyI, 3, .inl v_ends)), (h_p0_holders, .inl (cyI, 162, .inl v_holders))] := hD
        refine va_mmax hx hb (hml.trans hl.1.symm) hown (hts (.methodLink RX0 38 Lib.Math.max.name) m_X0_farthestOpen_0) (hts (.static Lib.Math.max.name) m_X0_farthestOpen_1) (hts (.initialized "java/lang/Math") m_X0_farthestOpen_2) (hts (.code Lib.Math.max.name Lib.Math.max.code 2 (some .int)) m_X0_farthestOpen_3) (Nat.le_of_ble_eq_true rfl) (Nat.le_of_ble_eq_true rfl) (Nat.zero_le _) (Nat.zero_le _) dX0_farthestOpen_17 ?_
        refine lv_istore_n hx hb dX0_farthestOpen_20 rfl hl (by decide) (rfl : _ = ([(2, .int (if x2 < r2 then r2 else x2)), (0, .ref h_p0), (1, .int a1), (3, .int x3)] : List (Nat × Value))) (fun ls hl => ?_)
        refine lv_iinc (v := (x3 + iI 1)) hx hb dX0_farthestOpen_21 hl (k := 3) rfl rfl (by decide) (rfl : _ = ([(3, .int (x3 + iI 1)), (2, .int (if x2 < r2 then r2 else x2)), (0, .ref h_p0), (1, .int a1)] : List (Nat × Value))) (fun ls hl => ?_)
        refine lv_goto (tgt := 4) hx hb dX0_farthestOpen_24 (by decide) ?_
        exact ih (if x2 < r2 then r2 else x2) (x3 + iI 1) _ _ hP hD hS ls (lv_sub hl [2, 3, 1, 0] rfl) h
  have hl := lv_entry ([.ref h_p0, .int a1]) (n := 4) (Nat.le_of_ble_eq_true rfl)
  rw [lg_entry_eq]
  generalize (lg_sl ([.ref h_p0, .int a1]) ++ List.replicate (4 - (lg_sl ([.ref h_p0, .int a1])).length) Slot.unset).toArray = ls at hl ⊢
  have hl : lv_has ls 4 [(0, .ref h_p0), (1, .int a1)] := hl
  unfold s_X0_farthestOpen at h
  refine lv_iload_n hx hb dX0_farthestOpen_0 rfl (lv_at hl 1 rfl) ?_
  refine lv_istore_n hx hb dX0_farthestOpen_1 rfl hl (by decide) (rfl : _ = ([(2, .int a1), (0, .ref h_p0), (1, .int a1)] : List (Nat × Value))) (fun ls hl => ?_)
  refine lv_iconst (v := iI 0) hx hb dX0_farthestOpen_2 rfl ?_
  refine lv_istore_n hx hb dX0_farthestOpen_3 rfl hl (by decide) (rfl : _ = ([(3, .int (iI 0)), (2, .int a1), (0, .ref h_p0), (1, .int a1)] : List (Nat × Value))) (fun ls hl => ?_)
  exact L4 n a1 (iI 0) _ _ hP hD hS ls (lv_sub hl [2, 3, 1, 0] rfl) h
def s_X0_farthestEnd_L4 (n : Nat) (v_ends : Nat → Int32) : Nat → Int32 → Int32 → Option (Int32)
  | 0, _, _ => none
  | k + 1, x1, x2 => (if iI 3 ≤ x2 then (some (x1)) else ((s_X0_endOf v_ends x2).bind fun r2 => (s_X0_farthestEnd_L4 n v_ends k (if x1 < r2 then r2 else x1) (x2 + iI 1))))
def s_X0_farthestEnd (n : Nat) (v_ends : Nat → Int32) : Option (Int32) := (s_X0_farthestEnd_L4 n v_ends n (iI 0) (iI 0))
set_option maxRecDepth 20000 in
theorem m_X0_farthestEnd_0 : (.methodLink RX0 38 Lib.Math.max.name : Cond) ∈ wsX0_farthestEnd := by decide +kernel
set_option maxRecDepth 20000 in
theorem m_X0_farthestEnd_1 : (.static Lib.Math.max.name : Cond) ∈ wsX0_farthestEnd := by decide +kernel
set_option maxRecDepth 20000 in
theorem m_X0_farthestEnd_2 : (.initialized "java/lang/Math" : Cond) ∈ wsX0_farthestEnd := by decide +kernel
set_option maxRecDepth 20000 in
theorem m_X0_farthestEnd_3 : (.code Lib.Math.max.name Lib.Math.max.code 2 (some .int) : Cond) ∈ wsX0_farthestEnd := by decide +kernel
set_option maxHeartbeats 4000000 in
set_option maxRecDepth 100000 in
theorem c_X0_farthestEnd (l : Launch) (dC : Nat → ClassId) (dI : Nat → Nat → Nat) (cyI cyJ cyT : ClassId) (h_p0 : Nat) (h_p0_holders : Nat) (h_p0_ends : Nat) (sz : Nat) (v_ends : Nat → Int32) (n : Nat) (o : Int32) (h : s_X0_farthestEnd n v_ends = some o) : Met l yX0_farthestEnd wsX0_farthestEnd ({ frames := 2, cells := 0, slots := 0, locals := 42 }) (va_Pc [.ref h_p0] (PRE (dC, dI) (TYS cyI cyJ cyT) sz [(h_p0, .inr (0, [.ref h_p0_holders, .ref h_p0_ends])), (h_p0_ends, .inl (cyI, 3, .inl v_ends))])) (va_Qi (S := Unit) (fun r _ => r = o) (fun _ t => WLD (dC, dI) (va_A [(h_p0, .inr (0, [.ref h_p0_holders, .ref h_p0_ends])), (h_p0_ends, .inl (cyI, 3, .inl v_ends))] sz) [(h_p0, .inr (0, [.ref h_p0_holders, .ref h_p0_ends])), (h_p0_ends, .inl (cyI, 3, .inl v_ends))] t) (va_A [(h_p0, .inr (0, [.ref h_p0_holders, .ref h_p0_ends])), (h_p0_ends, .inl (cyI, 3, .inl v_ends))] sz)) 0 0 (va_A [(h_p0, .inr (0, [.ref h_p0_holders, .ref h_p0_ends])), (h_p0_ends, .inl (cyI, 3, .inl v_ends))] sz) := by
  refine Met.ofW (cc := cX0_farthestEnd) (maxL := 3) (ret := (some .int)) (by decide) rfl ?_
  intro p e s m args below meth c s₁ B hml hv
  obtain ⟨rfl, hsz, hP, hK, hD0, hNW⟩ := hv
  have hx := B.exec
  have hb := B.bytes
  have hr := B.returns
  have hts := atoms_spec (ws := wsX0_farthestEnd) B.pre
  have hown : s.vm.findClass RX0 = some m.cls := findClass_of_methodNamed B.named
  have hlocks := B.notSynchronized
  subst hsz
  have hD := hD0.self (sz := s.heap.size)
  generalize hAe : va_A [(h_p0, .inr (0, [.ref h_p0_holders, .ref h_p0_ends])), (h_p0_ends, .inl (cyI, 3, .inl v_ends))] s.heap.size = A at hD ⊢
  have hA : ∀ q : Nat, s.heap.size ≤ q → A q := fun q h => by rw [← hAe]; exact Or.inr h
  have hS : va_S A s.heap s.heap [] := va_S.rf
  have hP : va_P (dC, dI) vwCl [(h_p0, .inr (0, [.ref h_p0_holders, .ref h_p0_ends])), (h_p0_ends, .inl (cyI, 3, .inl v_ends))] s.heap := hP
  have L4 : ∀ (k : Nat), (∀ (x1 : Int32) (x2 : Int32) (H : Heap) (locs : List Loc), va_P (dC, dI) vwCl [(h_p0, .inr (0, [.ref h_p0_holders, .ref h_p0_ends])), (h_p0_ends, .inl (cyI, 3, .inl v_ends))] H → va_D A [(h_p0, .inr (0, [.ref h_p0_holders, .ref h_p0_ends])), (h_p0_ends, .inl (cyI, 3, .inl v_ends))] → va_S A s.heap H locs → ∀ (ls : Array Slot), lv_has ls 3 [(0, .ref h_p0), (1, .int x1), (2, .int x2)] →  s_X0_farthestEnd_L4 n v_ends k x1 x2 = some o → W p l e (headSpec wsX0_farthestEnd ({ frames := 2, cells := 0, slots := 0, locals := 42 })).room s m (([.ref h_p0] : List Value).toArray) below meth c H locs 0 0 (MQ below (va_Qi (S := Unit) (fun r _ => r = o) (fun _ t => WLD (dC, dI) A [(h_p0, .inr (0, [.ref h_p0_holders, .ref h_p0_ends])), (h_p0_ends, .inl (cyI, 3, .inl v_ends))] t) A) (([.ref h_p0] : List Value).toArray) s 0 0 A) (F0 m 4 ls [])) := by
    intro k
    induction k with
    | zero =>
      intro  x1 x2 H locs hP hD hS ls hl h
      rw [s_X0_farthestEnd_L4] at h
      cases h
    | succ k ih =>
      intro  x1 x2 H locs hP hD hS ls hl h
      rw [s_X0_farthestEnd_L4] at h
      refine lv_iload_n hx hb dX0_farthestEnd_4 rfl (lv_at hl 2 rfl) ?_
      refine lv_iconst (v := iI 3) hx hb dX0_farthestEnd_5 rfl ?_
      refine lv_icmp_ge (tgt := 25) hx hb dX0_farthestEnd_6 (by decide) (fun c1 => ?_) (fun c1 => ?_)
      · have h := ipos c1 h
        refine lv_iload_n hx hb dX0_farthestEnd_25 rfl (lv_at hl 1 rfl) ?_
        obtain rfl := Option.some.inj h
        exact W.iret (v := x1) hx hb hr (fun t ht hW => ⟨⟨x1, (), rfl, rfl, WLD.of ht hP hD⟩, hS.F ht⟩) hS.2.2 dX0_farthestEnd_26
      · have h := ineg c1 h
        refine lv_iload_n hx hb dX0_farthestEnd_9 rfl (lv_at hl 1 rfl) ?_
        refine lv_aload_n hx hb dX0_farthestEnd_10 rfl (lv_at hl 0 rfl) ?_
        refine lv_iload_n hx hb dX0_farthestEnd_11 rfl (lv_at hl 2 rfl) ?_
        obtain ⟨r2, e3, h⟩ := bsome h
        have hPc := sb_P [(h_p0, .inr (0, [.ref h_p0_holders, .ref h_p0_ends])), (h_p0_ends, .inl (cyI, 3, .inl v_ends))] hP [0, 1] rfl
        have hDc := sb_D [(h_p0, .inr (0, [.ref h_p0_holders, .ref h_p0_ends])), (h_p0_ends, .inl (cyI, 3, .inl v_ends))] hD [0, 1] (by decide) rfl
        have hFc := va_free (wc := [(h_p0, .inr (0, [.ref h_p0_holders, .ref h_p0_ends])), (h_p0_ends, .inl (cyI, 3, .inl v_ends))]) hD hS hA [0, 1] rfl
        refine va_calli (va_runV (As := [.int x2]) (rest := [.int x1]) ⟨hx, hb, hml, hown, hts⟩ (c_X0_endOf l dC dI cyI cyJ cyT h_p0 h_p0_holders h_p0_ends H.size v_ends x2 r2 e3) (cwV 1 hts gX0_farthestEnd_X0_endOf rfl rfl rfl (by decide +kernel) ⟨Nat.le_of_ble_eq_true rfl, Nat.le_of_ble_eq_true rfl⟩) ⟨PRE.blind, va_recv hK hPc (ci := 0) (q0 := 0) rfl rfl, PRE.go hK hPc hDc hNW⟩ rfl rfl hl.1 rfl (lv_room (Nat.le_of_ble_eq_true rfl)) dX0_farthestEnd_12 ⟨Nat.zero_le _, Nat.zero_le _⟩) hS (fun q _ h => hFc q h) hFc (fun z4 u t H locs ht hvm hw hB hz1 hk1 hS => ?_)
        subst z4
        obtain ⟨hP, hD⟩ := va_join (wr := []) (w1 := [(h_p0, .inr (0, [.ref h_p0_holders, .ref h_p0_ends])), (h_p0_ends, .inl (cyI, 3, .inl v_ends))]) hP hD [0, 1] [] rfl rfl (by decide) (by decide) hk1 hFc (WLD.P hB ht) hB.2
        have hP : va_P (dC, dI) vwCl [(h_p0, .inr (0, [.ref h_p0_holders, .ref h_p0_ends])), (h_p0_ends, .inl (cyI, 3, .inl v_ends))] H := hP
        have hD : va_D A [(h_p0, .inr (0, [.ref h_p0_holders, .ref h_p0_ends])), (h_p0_ends, .inl (cyI, 3, .inl v_ends))] := hD
        refine va_mmax hx hb (hml.trans hl.1.symm) hown (hts (.methodLink RX0 38 Lib.Math.max.name) m_X0_farthestEnd_0) (hts (.static Lib.Math.max.name) m_X0_farthestEnd_1) (hts (.initialized "java/lang/Math") m_X0_farthestEnd_2) (hts (.code Lib.Math.max.name Lib.Math.max.code 2 (some .int)) m_X0_farthestEnd_3) (Nat.le_of_ble_eq_true rfl) (Nat.le_of_ble_eq_true rfl) (Nat.zero_le _) (Nat.zero_le _) dX0_farthestEnd_15 ?_
        refine lv_istore_n hx hb dX0_farthestEnd_18 rfl hl (by decide) (rfl : _ = ([(1, .int (if x1 < r2 then r2 else x1)), (0, .ref h_p0), (2, .int x2)] : List (Nat × Value))) (fun ls hl => ?_)
        refine lv_iinc (v := (x2 + iI 1)) hx hb dX0_farthestEnd_19 hl (k := 2) rfl rfl (by decide) (rfl : _ = ([(2, .int (x2 + iI 1)), (1, .int (if x1 < r2 then r2 else x1)), (0, .ref h_p0)] : List (Nat × Value))) (fun ls hl => ?_)
        refine lv_goto (tgt := 4) hx hb dX0_farthestEnd_22 (by decide) ?_
        exact ih (if x1 < r2 then r2 else x1) (x2 + iI 1) _ _ hP hD hS ls (lv_sub hl [2, 1, 0] rfl) h
  have hl := lv_entry ([.ref h_p0]) (n := 3) (Nat.le_of_ble_eq_true rfl)
  rw [lg_entry_eq]
  generalize (lg_sl ([.ref h_p0]) ++ List.replicate (3 - (lg_sl ([.ref h_p0])).length) Slot.unset).toArray = ls at hl ⊢
  have hl : lv_has ls 3 [(0, .ref h_p0)] := hl
  unfold s_X0_farthestEnd at h
  refine lv_iconst (v := iI 0) hx hb dX0_farthestEnd_0 rfl ?_
  refine lv_istore_n hx hb dX0_farthestEnd_1 rfl hl (by decide) (rfl : _ = ([(1, .int (iI 0)), (0, .ref h_p0)] : List (Nat × Value))) (fun ls hl => ?_)
  refine lv_iconst (v := iI 0) hx hb dX0_farthestEnd_2 rfl ?_
  refine lv_istore_n hx hb dX0_farthestEnd_3 rfl hl (by decide) (rfl : _ = ([(2, .int (iI 0)), (1, .int (iI 0)), (0, .ref h_p0)] : List (Nat × Value))) (fun ls hl => ?_)
  exact L4 n (iI 0) (iI 0) _ _ hP hD hS ls (lv_sub hl [2, 1, 0] rfl) h
def s_X0_areAllHadOnce_L2 (n : Nat) (v_ends : Nat → Int32) (v_holders : Nat → Int32) (a2 : Int32) : Nat → Int32 → Option (Int32)
  | 0, _ => none
  | k + 1, x3 => (if a2 ≤ x3 then (some (iI 0)) else ((s_X0_openOn n v_ends v_holders x3).bind fun r2 => (if r2 = 0 then (some (iI 1)) else (s_X0_areAllHadOnce_L2 n v_ends v_holders a2 k (x3 + iI 1)))))
def s_X0_areAllHadOnce (n : Nat) (v_ends : Nat → Int32) (v_holders : Nat → Int32) (a1 : Int32) (a2 : Int32) : Option (Int32) := (s_X0_areAllHadOnce_L2 n v_ends v_holders a2 n a1)
set_option maxHeartbeats 4000000 in
set_option maxRecDepth 100000 in
theorem c_X0_areAllHadOnce (l : Launch) (dC : Nat → ClassId) (dI : Nat → Nat → Nat) (cyI cyJ cyT : ClassId) (h_p0 : Nat) (h_p0_holders : Nat) (h_p0_ends : Nat) (sz : Nat) (v_ends : Nat → Int32) (v_holders : Nat → Int32) (a1 : Int32) (a2 : Int32) (n : Nat) (o : Int32) (h : s_X0_areAllHadOnce n v_ends v_holders a1 a2 = some o) : Met l yX0_areAllHadOnce wsX0_areAllHadOnce ({ frames := 2, cells := 0, slots := 0, locals := 47 }) (va_Pc [.ref h_p0, .int a1, .int a2] (PRE (dC, dI) (TYS cyI cyJ cyT) sz [(h_p0, .inr (0, [.ref h_p0_holders, .ref h_p0_ends])), (h_p0_ends, .inl (cyI, 3, .inl v_ends)), (h_p0_holders, .inl (cyI, 162, .inl v_holders))])) (va_Qi (S := Unit) (fun r _ => r = o) (fun _ t => WLD (dC, dI) (va_A [(h_p0, .inr (0, [.ref h_p0_holders, .ref h_p0_ends])), (h_p0_ends, .inl (cyI, 3, .inl v_ends)), (h_p0_holders, .inl (cyI, 162, .inl v_holders))] sz) [(h_p0, .inr (0, [.ref h_p0_holders, .ref h_p0_ends])), (h_p0_ends, .inl (cyI, 3, .inl v_ends)), (h_p0_holders, .inl (cyI, 162, .inl v_holders))] t) (va_A [(h_p0, .inr (0, [.ref h_p0_holders, .ref h_p0_ends])), (h_p0_ends, .inl (cyI, 3, .inl v_ends)), (h_p0_holders, .inl (cyI, 162, .inl v_holders))] sz)) 0 0 (va_A [(h_p0, .inr (0, [.ref h_p0_holders, .ref h_p0_ends])), (h_p0_ends, .inl (cyI, 3, .inl v_ends)), (h_p0_holders, .inl (cyI, 162, .inl v_holders))] sz) := by
  refine Met.ofW (cc := cX0_areAllHadOnce) (maxL := 4) (ret := (some .boolean)) (by decide) rfl ?_
  intro p e s m args below meth c s₁ B hml hv
  obtain ⟨rfl, hsz, hP, hK, hD0, hNW⟩ := hv
  have hx := B.exec
  have hb := B.bytes
  have hr := B.returns
  have hts := atoms_spec (ws := wsX0_areAllHadOnce) B.pre
  have hown : s.vm.findClass RX0 = some m.cls := findClass_of_methodNamed B.named
  have hlocks := B.notSynchronized
  subst hsz
  have hD := hD0.self (sz := s.heap.size)
  generalize hAe : va_A [(h_p0, .inr (0, [.ref h_p0_holders, .ref h_p0_ends])), (h_p0_ends, .inl (cyI, 3, .inl v_ends)), (h_p0_holders, .inl (cyI, 162, .inl v_holders))] s.heap.size = A at hD ⊢
  have hA : ∀ q : Nat, s.heap.size ≤ q → A q := fun q h => by rw [← hAe]; exact Or.inr h
  have hS : va_S A s.heap s.heap [] := va_S.rf
  have hP : va_P (dC, dI) vwCl [(h_p0, .inr (0, [.ref h_p0_holders, .ref h_p0_ends])), (h_p0_ends, .inl (cyI, 3, .inl v_ends)), (h_p0_holders, .inl (cyI, 162, .inl v_holders))] s.heap := hP
  have L2 : ∀ (k : Nat), (∀ (x3 : Int32) (H : Heap) (locs : List Loc), va_P (dC, dI) vwCl [(h_p0, .inr (0, [.ref h_p0_holders, .ref h_p0_ends])), (h_p0_ends, .inl (cyI, 3, .inl v_ends)), (h_p0_holders, .inl (cyI, 162, .inl v_holders))] H → va_D A [(h_p0, .inr (0, [.ref h_p0_holders, .ref h_p0_ends])), (h_p0_ends, .inl (cyI, 3, .inl v_ends)), (h_p0_holders, .inl (cyI, 162, .inl v_holders))] → va_S A s.heap H locs → ∀ (ls : Array Slot), lv_has ls 4 [(0, .ref h_p0), (2, .int a2), (3, .int x3)] →  s_X0_areAllHadOnce_L2 n v_ends v_holders a2 k x3 = some o → W p l e (headSpec wsX0_areAllHadOnce ({ frames := 2, cells := 0, slots := 0, locals := 47 })).room s m (([.ref h_p0, .int a1, .int a2] : List Value).toArray) below meth c H locs 0 0 (MQ below (va_Qi (S := Unit) (fun r _ => r = o) (fun _ t => WLD (dC, dI) A [(h_p0, .inr (0, [.ref h_p0_holders, .ref h_p0_ends])), (h_p0_ends, .inl (cyI, 3, .inl v_ends)), (h_p0_holders, .inl (cyI, 162, .inl v_holders))] t) A) (([.ref h_p0, .int a1, .int a2] : List Value).toArray) s 0 0 A) (F0 m 2 ls [])) := by
    intro k
    induction k with
    | zero =>
      intro  x3 H locs hP hD hS ls hl h
      rw [s_X0_areAllHadOnce_L2] at h
      cases h
    | succ k ih =>
      intro  x3 H locs hP hD hS ls hl h
      rw [s_X0_areAllHadOnce_L2] at h
      refine lv_iload_n hx hb dX0_areAllHadOnce_2 rfl (lv_at hl 2 rfl) ?_
      refine lv_iload_n hx hb dX0_areAllHadOnce_3 rfl (lv_at hl 1 rfl) ?_
      refine lv_icmp_ge (tgt := 23) hx hb dX0_areAllHadOnce_4 (by decide) (fun c1 => ?_) (fun c1 => ?_)
      · have h := ipos c1 h
        refine lv_iconst (v := iI 0) hx hb dX0_areAllHadOnce_23 rfl ?_
        obtain rfl := Option.some.inj h
        exact W.zret (v := iI 0) hx hb hr (by decide) (fun t ht hW => ⟨⟨iI 0, (), rfl, rfl, WLD.of ht hP hD⟩, hS.F ht⟩) hS.2.2 dX0_areAllHadOnce_24
      · have h := ineg c1 h
        refine lv_aload_n hx hb dX0_areAllHadOnce_7 rfl (lv_at hl 0 rfl) ?_
        refine lv_iload_n hx hb dX0_areAllHadOnce_8 rfl (lv_at hl 2 rfl) ?_
        obtain ⟨r2, e3, h⟩ := bsome h
        have hPc := sb_P [(h_p0, .inr (0, [.ref h_p0_holders, .ref h_p0_ends])), (h_p0_ends, .inl (cyI, 3, .inl v_ends)), (h_p0_holders, .inl (cyI, 162, .inl v_holders))] hP [0, 1, 2] rfl
        have hDc := sb_D [(h_p0, .inr (0, [.ref h_p0_holders, .ref h_p0_ends])), (h_p0_ends, .inl (cyI, 3, .inl v_ends)), (h_p0_holders, .inl (cyI, 162, .inl v_holders))] hD [0, 1, 2] (by decide) rfl
        have hFc := va_free (wc := [(h_p0, .inr (0, [.ref h_p0_holders, .ref h_p0_ends])), (h_p0_ends, .inl (cyI, 3, .inl v_ends)), (h_p0_holders, .inl (cyI, 162, .inl v_holders))]) hD hS hA [0, 1, 2] rfl
        refine va_calli (va_runV (As := [.int x3]) (rest := []) ⟨hx, hb, hml, hown, hts⟩ (c_X0_openOn l dC dI cyI cyJ cyT h_p0 h_p0_holders h_p0_ends H.size v_ends v_holders x3 n r2 e3) (cwV 1 hts gX0_areAllHadOnce_X0_openOn rfl rfl rfl (by decide +kernel) ⟨Nat.le_of_ble_eq_true rfl, Nat.le_of_ble_eq_true rfl⟩) ⟨PRE.blind, va_recv hK hPc (ci := 0) (q0 := 0) rfl rfl, PRE.go hK hPc hDc hNW⟩ rfl rfl hl.1 rfl (lv_room (Nat.le_of_ble_eq_true rfl)) dX0_areAllHadOnce_9 ⟨Nat.zero_le _, Nat.zero_le _⟩) hS (fun q _ h => hFc q h) hFc (fun z4 u t H locs ht hvm hw hB hz1 hk1 hS => ?_)
        subst z4
        obtain ⟨hP, hD⟩ := va_join (wr := []) (w1 := [(h_p0, .inr (0, [.ref h_p0_holders, .ref h_p0_ends])), (h_p0_ends, .inl (cyI, 3, .inl v_ends)), (h_p0_holders, .inl (cyI, 162, .inl v_holders))]) hP hD [0, 1, 2] [] rfl rfl (by decide) (by decide) hk1 hFc (WLD.P hB ht) hB.2
        have hP : va_P (dC, dI) vwCl [(h_p0, .inr (0, [.ref h_p0_holders, .ref h_p0_ends])), (h_p0_ends, .inl (cyI, 3, .inl v_ends)), (h_p0_holders, .inl (cyI, 162, .inl v_holders))] H := hP
        have hD : va_D A [(h_p0, .inr (0, [.ref h_p0_holders, .ref h_p0_ends])), (h_p0_ends, .inl (cyI, 3, .inl v_ends)), (h_p0_holders, .inl (cyI, 162, .inl v_holders))] := hD
        refine lv_if_ne (tgt := 17) hx hb dX0_areAllHadOnce_12 (by decide) (fun c5 => ?_) (fun c5 => ?_)
        · have h := ineg c5 h
          refine lv_iinc (v := (x3 + iI 1)) hx hb dX0_areAllHadOnce_17 hl (k := 2) rfl rfl (by decide) (rfl : _ = ([(3, .int (x3 + iI 1)), (0, .ref h_p0), (2, .int a2)] : List (Nat × Value))) (fun ls hl => ?_)
          refine lv_goto (tgt := 2) hx hb dX0_areAllHadOnce_20 (by decide) ?_
          exact ih (x3 + iI 1) _ _ hP hD hS ls (lv_sub hl [1, 2, 0] rfl) h
        · have h := ipos c5 h
          refine lv_iconst (v := iI 1) hx hb dX0_areAllHadOnce_15 rfl ?_
          obtain rfl := Option.some.inj h
          exact W.zret (v := iI 1) hx hb hr (by decide) (fun t ht hW => ⟨⟨iI 1, (), rfl, rfl, WLD.of ht hP hD⟩, hS.F ht⟩) hS.2.2 dX0_areAllHadOnce_16
  have hl := lv_entry ([.ref h_p0, .int a1, .int a2]) (n := 4) (Nat.le_of_ble_eq_true rfl)
  rw [lg_entry_eq]
  generalize (lg_sl ([.ref h_p0, .int a1, .int a2]) ++ List.replicate (4 - (lg_sl ([.ref h_p0, .int a1, .int a2])).length) Slot.unset).toArray = ls at hl ⊢
  have hl : lv_has ls 4 [(0, .ref h_p0), (1, .int a1), (2, .int a2)] := hl
  unfold s_X0_areAllHadOnce at h
  refine lv_iload_n hx hb dX0_areAllHadOnce_0 rfl (lv_at hl 1 rfl) ?_
  refine lv_istore_n hx hb dX0_areAllHadOnce_1 rfl hl (by decide) (rfl : _ = ([(3, .int a1), (0, .ref h_p0), (1, .int a1), (2, .int a2)] : List (Nat × Value))) (fun ls hl => ?_)
  exact L2 n a1 _ _ hP hD hS ls (lv_sub hl [1, 3, 0] rfl) h
def s_X6_whyNot (n : Nat) (v_ends : Nat → Int32) (v_holders : Nat → Int32) (a1 : Int32) (a2 : Int32) : Option (Nat × Int32) := ((s_X6_requireWay a1 a2).bind fun r1 => (if r1 = 0 then ((s_X0_farthestOpen n v_ends v_holders a1).bind fun r4 => (if r4 < a2 then ((s_X0_farthestEnd n v_ends).bind fun r8 => (if a2 ≤ r8 then ((s_X0_areAllHadOnce n v_ends v_holders a1 a2).bind fun r12 => (if r12 = 0 then (some (0, iI 3)) else (some (0, iI 2)))) else (some (0, iI 1)))) else (some (0, iI 0)))) else (some (r1, 0))))
set_option maxRecDepth 20000 in
theorem m_X6_whyNot_0 : ∀ w ∈ u_ws RX6 TX6 3, w ∈ wsX6_whyNot := by decide +kernel
set_option maxRecDepth 20000 in
theorem m_X6_whyNot_1 : (.fieldLink RX6 12 "SleeperBerths" "train" "LSleeperBerths$Train;" : Cond) ∈ wsX6_whyNot := by decide +kernel
set_option maxRecDepth 20000 in
theorem m_X6_whyNot_2 : ∀ w ∈ u_ws RX5 TX5 6, w ∈ wsX6_whyNot := by decide +kernel
set_option maxRecDepth 20000 in
theorem m_X6_whyNot_3 : (.fieldLink RX6 121 "SleeperBerths$Train" "berths" "LSleeperBerths$Berths;" : Cond) ∈ wsX6_whyNot := by decide +kernel
set_option maxHeartbeats 4000000 in
set_option maxRecDepth 100000 in
theorem c_X6_whyNot (l : Launch) (hl0 : l.stackTraces = false) (dC : Nat → ClassId) (dI : Nat → Nat → Nat) (cyI cyJ cyT : ClassId) (h_p0 : Nat) (h_p0_train : Nat) (h_p0_history : Nat) (h_p0_text : Nat) (h_p0_train_berths : Nat) (h_p0_train_roster : Nat) (h_p0_train_settings : Nat) (h_p0_train_berths_holders : Nat) (h_p0_train_berths_ends : Nat) (sz : Nat) (v_nextNumber : Int32) (v_bookings : Int32) (v_leftOut : Int32) (v_ends : Nat → Int32) (v_holders : Nat → Int32) (a1 : Int32) (a2 : Int32) (n : Nat) (o : Nat × Int32) (h : s_X6_whyNot n v_ends v_holders a1 a2 = some o) : vx_Met l yX6_whyNot wsX6_whyNot ({ frames := 7, cells := 1, slots := 6, locals := 111 }) (va_Pc [.ref h_p0, .int a1, .int a2] (PREX (dC, dI) (TYS cyI cyJ cyT) sz [(h_p0, .inr (6, [.ref h_p0_train, .ref h_p0_history, .ref h_p0_text])), (h_p0_train, .inr (5, [.ref h_p0_train_berths, .ref h_p0_train_roster, .ref h_p0_train_settings, .int v_nextNumber, .int v_bookings, .int v_leftOut])), (h_p0_train_berths, .inr (0, [.ref h_p0_train_berths_holders, .ref h_p0_train_berths_ends])), (h_p0_train_berths_ends, .inl (cyI, 3, .inl v_ends)), (h_p0_train_berths_holders, .inl (cyI, 162, .inl v_holders))])) (va_Qi (S := Unit) (fun r _ => o.1 = 0 ∧ r = o.2) (fun _ t => WLD (dC, dI) (va_A [(h_p0, .inr (6, [.ref h_p0_train, .ref h_p0_history, .ref h_p0_text])), (h_p0_train, .inr (5, [.ref h_p0_train_berths, .ref h_p0_train_roster, .ref h_p0_train_settings, .int v_nextNumber, .int v_bookings, .int v_leftOut])), (h_p0_train_berths, .inr (0, [.ref h_p0_train_berths_holders, .ref h_p0_train_berths_ends])), (h_p0_train_berths_ends, .inl (cyI, 3, .inl v_ends)), (h_p0_train_berths_holders, .inl (cyI, 162, .inl v_holders))] sz) [(h_p0, .inr (6, [.ref h_p0_train, .ref h_p0_history, .ref h_p0_text])), (h_p0_train, .inr (5, [.ref h_p0_train_berths, .ref h_p0_train_roster, .ref h_p0_train_settings, .int v_nextNumber, .int v_bookings, .int v_leftOut])), (h_p0_train_berths, .inr (0, [.ref h_p0_train_berths_holders, .ref h_p0_train_berths_ends])), (h_p0_train_berths_ends, .inl (cyI, 3, .inl v_ends)), (h_p0_train_berths_holders, .inl (cyI, 162, .inl v_holders))] t) (va_A [(h_p0, .inr (6, [.ref h_p0_train, .ref h_p0_history, .ref h_p0_text])), (h_p0_train, .inr (5, [.ref h_p0_train_berths, .ref h_p0_train_roster, .ref h_p0_train_settings, .int v_nextNumber, .int v_bookings, .int v_leftOut])), (h_p0_train_berths, .inr (0, [.ref h_p0_train_berths_holders, .ref h_p0_train_berths_ends])), (h_p0_train_berths_ends, .inl (cyI, 3, .inl v_ends)), (h_p0_train_berths_holders, .inl (cyI, 162, .inl v_holders))] sz)) (vx_X (S := Unit) (fun _ => True) (fun E _ t => XWL (dC, dI) (va_A [(h_p0, .inr (6, [.ref h_p0_train, .ref h_p0_history, .ref h_p0_text])), (h_p0_train, .inr (5, [.ref h_p0_train_berths, .ref h_p0_train_roster, .ref h_p0_train_settings, .int v_nextNumber, .int v_bookings, .int v_leftOut])), (h_p0_train_berths, .inr (0, [.ref h_p0_train_berths_holders, .ref h_p0_train_berths_ends])), (h_p0_train_berths_ends, .inl (cyI, 3, .inl v_ends)), (h_p0_train_berths_holders, .inl (cyI, 162, .inl v_holders))] sz) o.1 E [(h_p0, .inr (6, [.ref h_p0_train, .ref h_p0_history, .ref h_p0_text])), (h_p0_train, .inr (5, [.ref h_p0_train_berths, .ref h_p0_train_roster, .ref h_p0_train_settings, .int v_nextNumber, .int v_bookings, .int v_leftOut])), (h_p0_train_berths, .inr (0, [.ref h_p0_train_berths_holders, .ref h_p0_train_berths_ends])), (h_p0_train_berths_ends, .inl (cyI, 3, .inl v_ends)), (h_p0_train_berths_holders, .inl (cyI, 162, .inl v_holders))] t) (va_A [(h_p0, .inr (6, [.ref h_p0_train, .ref h_p0_history, .ref h_p0_text])), (h_p0_train, .inr (5, [.ref h_p0_train_berths, .ref h_p0_train_roster, .ref h_p0_train_settings, .int v_nextNumber, .int v_bookings, .int v_leftOut])), (h_p0_train_berths, .inr (0, [.ref h_p0_train_berths_holders, .ref h_p0_train_berths_ends])), (h_p0_train_berths_ends, .inl (cyI, 3, .inl v_ends)), (h_p0_train_berths_holders, .inl (cyI, 162, .inl v_holders))] sz)) 1 6 (va_A [(h_p0, .inr (6, [.ref h_p0_train, .ref h_p0_history, .ref h_p0_text])), (h_p0_train, .inr (5, [.ref h_p0_train_berths, .ref h_p0_train_roster, .ref h_p0_train_settings, .int v_nextNumber, .int v_bookings, .int v_leftOut])), (h_p0_train_berths, .inr (0, [.ref h_p0_train_berths_holders, .ref h_p0_train_berths_ends])), (h_p0_train_berths_ends, .inl (cyI, 3, .inl v_ends)), (h_p0_train_berths_holders, .inl (cyI, 162, .inl v_holders))] sz) := by
  refine vx_ofW (cc := cX6_whyNot) (maxL := 3) (ret := (some .int)) (by decide) rfl ?_
  intro p e s m args below meth c s₁ B hml hno hv
  obtain ⟨rfl, ⟨hsz, hP, hK, hD0, hNW⟩, hXR, hXS⟩ := hv
  have hx := B.exec
  have hb := B.bytes
  have hr := B.returns
  have hts := atoms_spec (ws := wsX6_whyNot) B.pre
  have hown : s.vm.findClass RX6 = some m.cls := findClass_of_methodNamed B.named
  have hlocks := B.notSynchronized
  subst hsz
  have hD := hD0.self (sz := s.heap.size)
  generalize hAe : va_A [(h_p0, .inr (6, [.ref h_p0_train, .ref h_p0_history, .ref h_p0_text])), (h_p0_train, .inr (5, [.ref h_p0_train_berths, .ref h_p0_train_roster, .ref h_p0_train_settings, .int v_nextNumber, .int v_bookings, .int v_leftOut])), (h_p0_train_berths, .inr (0, [.ref h_p0_train_berths_holders, .ref h_p0_train_berths_ends])), (h_p0_train_berths_ends, .inl (cyI, 3, .inl v_ends)), (h_p0_train_berths_holders, .inl (cyI, 162, .inl v_holders))] s.heap.size = A at hD hXS ⊢
  have hA : ∀ q : Nat, s.heap.size ≤ q → A q := fun q h => by rw [← hAe]; exact Or.inr h
  have hS : va_S A s.heap s.heap [] := va_S.rf
  have hP : va_P (dC, dI) vwCl [(h_p0, .inr (6, [.ref h_p0_train, .ref h_p0_history, .ref h_p0_text])), (h_p0_train, .inr (5, [.ref h_p0_train_berths, .ref h_p0_train_roster, .ref h_p0_train_settings, .int v_nextNumber, .int v_bookings, .int v_leftOut])), (h_p0_train_berths, .inr (0, [.ref h_p0_train_berths_holders, .ref h_p0_train_berths_ends])), (h_p0_train_berths_ends, .inl (cyI, 3, .inl v_ends)), (h_p0_train_berths_holders, .inl (cyI, 162, .inl v_holders))] s.heap := hP
  have hl := lv_entry ([.ref h_p0, .int a1, .int a2]) (n := 3) (Nat.le_of_ble_eq_true rfl)
  rw [lg_entry_eq]
  generalize (lg_sl ([.ref h_p0, .int a1, .int a2]) ++ List.replicate (3 - (lg_sl ([.ref h_p0, .int a1, .int a2])).length) Slot.unset).toArray = ls at hl ⊢
  have hl : lv_has ls 3 [(0, .ref h_p0), (1, .int a1), (2, .int a2)] := hl
  unfold s_X6_whyNot at h
  refine lv_iload_n hx hb dX6_whyNot_0 rfl (lv_at hl 1 rfl) ?_
  refine lv_iload_n hx hb dX6_whyNot_1 rfl (lv_at hl 2 rfl) ?_
  obtain ⟨r1, e2, h⟩ := bsome h
  have hPc := sb_P [] hP [] rfl
  have hDc := sb_D [] hD [] (by decide) rfl
  have hFc := va_free (wc := []) hD hS hA [] rfl
  refine vx_callv (vx_runS (As := [.int a1, .int a2]) (rest := []) ⟨hx, hb, hml, hown, hts⟩ (c_X6_requireWay l hl0 dC dI cyI cyJ cyT s.heap.size a1 a2 r1 e2) (va_cwS 2 hts gX6_whyNot_X6_requireWay rfl rfl rfl (by decide +kernel) ⟨Nat.le_of_ble_eq_true rfl, Nat.le_of_ble_eq_true rfl⟩) ⟨PREX.blind, PREX.go hK hPc hDc hNW hXR hXS hS hFc⟩ rfl rfl hl.1 rfl (lv_room (Nat.le_of_ble_eq_true rfl)) dX6_whyNot_2 ⟨(Nat.le_of_ble_eq_true rfl), (Nat.le_of_ble_eq_true rfl)⟩) hS (fun q _ h => hFc q h) hFc (fun q _ h => hFc q h) (fun E9 ce9 q9 u t H locs ht hvm _ hB hz1 hk1 hS hce hcv hcl => by
      have h := ineg hB.1 h
      obtain ⟨hP, hD⟩ := va_join (wr := [(h_p0, .inr (6, [.ref h_p0_train, .ref h_p0_history, .ref h_p0_text])), (h_p0_train, .inr (5, [.ref h_p0_train_berths, .ref h_p0_train_roster, .ref h_p0_train_settings, .int v_nextNumber, .int v_bookings, .int v_leftOut])), (h_p0_train_berths, .inr (0, [.ref h_p0_train_berths_holders, .ref h_p0_train_berths_ends])), (h_p0_train_berths_ends, .inl (cyI, 3, .inl v_ends)), (h_p0_train_berths_holders, .inl (cyI, 162, .inl v_holders))]) (w1 := []) hP hD [] [0, 1, 2, 3, 4] rfl rfl (by decide) (by decide) hk1 hFc (WLD.P hB.2.2 ht) hB.2.2.2
      have hP : va_P (dC, dI) vwCl [(h_p0, .inr (6, [.ref h_p0_train, .ref h_p0_history, .ref h_p0_text])), (h_p0_train, .inr (5, [.ref h_p0_train_berths, .ref h_p0_train_roster, .ref h_p0_train_settings, .int v_nextNumber, .int v_bookings, .int v_leftOut])), (h_p0_train_berths, .inr (0, [.ref h_p0_train_berths_holders, .ref h_p0_train_berths_ends])), (h_p0_train_berths_ends, .inl (cyI, 3, .inl v_ends)), (h_p0_train_berths_holders, .inl (cyI, 162, .inl v_holders))] H := hP
      have hD : va_D A [(h_p0, .inr (6, [.ref h_p0_train, .ref h_p0_history, .ref h_p0_text])), (h_p0_train, .inr (5, [.ref h_p0_train_berths, .ref h_p0_train_roster, .ref h_p0_train_settings, .int v_nextNumber, .int v_bookings, .int v_leftOut])), (h_p0_train_berths, .inr (0, [.ref h_p0_train_berths_holders, .ref h_p0_train_berths_ends])), (h_p0_train_berths_ends, .inl (cyI, 3, .inl v_ends)), (h_p0_train_berths_holders, .inl (cyI, 162, .inl v_holders))] := hD
      obtain rfl := Option.some.inj h
      exact vx_out (fun x hx9 => (hno x hx9).elim) hlocks hce hcv hcl (fun t ht _ => XWL.of2 hB.1 hB.2.1 hP hD hS ht) hS.2.2 (Nat.le_of_ble_eq_true rfl) (Nat.le_of_ble_eq_true rfl)) (fun u t H locs ht hvm hw hB hz1 hk1 hS => ?_)
  have h := ipos hw h
  obtain ⟨hP, hD⟩ := va_join (wr := [(h_p0, .inr (6, [.ref h_p0_train, .ref h_p0_history, .ref h_p0_text])), (h_p0_train, .inr (5, [.ref h_p0_train_berths, .ref h_p0_train_roster, .ref h_p0_train_settings, .int v_nextNumber, .int v_bookings, .int v_leftOut])), (h_p0_train_berths, .inr (0, [.ref h_p0_train_berths_holders, .ref h_p0_train_berths_ends])), (h_p0_train_berths_ends, .inl (cyI, 3, .inl v_ends)), (h_p0_train_berths_holders, .inl (cyI, 162, .inl v_holders))]) (w1 := []) hP hD [] [0, 1, 2, 3, 4] rfl rfl (by decide) (by decide) hk1 hFc (WLD.P hB ht) hB.2
  have hP : va_P (dC, dI) vwCl [(h_p0, .inr (6, [.ref h_p0_train, .ref h_p0_history, .ref h_p0_text])), (h_p0_train, .inr (5, [.ref h_p0_train_berths, .ref h_p0_train_roster, .ref h_p0_train_settings, .int v_nextNumber, .int v_bookings, .int v_leftOut])), (h_p0_train_berths, .inr (0, [.ref h_p0_train_berths_holders, .ref h_p0_train_berths_ends])), (h_p0_train_berths_ends, .inl (cyI, 3, .inl v_ends)), (h_p0_train_berths_holders, .inl (cyI, 162, .inl v_holders))] H := hP
  have hD : va_D A [(h_p0, .inr (6, [.ref h_p0_train, .ref h_p0_history, .ref h_p0_text])), (h_p0_train, .inr (5, [.ref h_p0_train_berths, .ref h_p0_train_roster, .ref h_p0_train_settings, .int v_nextNumber, .int v_bookings, .int v_leftOut])), (h_p0_train_berths, .inr (0, [.ref h_p0_train_berths_holders, .ref h_p0_train_berths_ends])), (h_p0_train_berths_ends, .inl (cyI, 3, .inl v_ends)), (h_p0_train_berths_holders, .inl (cyI, 162, .inl v_holders))] := hD
  refine lv_aload_n hx hb dX6_whyNot_5 rfl (lv_at hl 0 rfl) ?_
  refine va_get (D := (dC, dI)) (ci := 6) (v := .ref h_p0_train) (C := RX6) (T := TX6) (N := 3) hx hb hts m_X6_whyNot_0 hown hK hP 0 rfl rfl 0 (by decide) (hts (.fieldLink RX6 12 "SleeperBerths" "train" "LSleeperBerths$Train;") m_X6_whyNot_1) (fun _ h9 => h9) rfl dX6_whyNot_6 ?_
  refine va_get (D := (dC, dI)) (ci := 5) (v := .ref h_p0_train_berths) (C := RX5) (T := TX5) (N := 6) hx hb hts m_X6_whyNot_2 hown hK hP 1 rfl rfl 0 (by decide) (hts (.fieldLink RX6 121 "SleeperBerths$Train" "berths" "LSleeperBerths$Berths;") m_X6_whyNot_3) (fun _ h9 => h9) rfl dX6_whyNot_9 ?_
  refine lv_iload_n hx hb dX6_whyNot_12 rfl (lv_at hl 1 rfl) ?_
  obtain ⟨r4, e5, h⟩ := bsome h
  have hPc := sb_P [(h_p0_train_berths, .inr (0, [.ref h_p0_train_berths_holders, .ref h_p0_train_berths_ends])), (h_p0_train_berths_ends, .inl (cyI, 3, .inl v_ends)), (h_p0_train_berths_holders, .inl (cyI, 162, .inl v_holders))] hP [2, 3, 4] rfl
  have hDc := sb_D [(h_p0_train_berths, .inr (0, [.ref h_p0_train_berths_holders, .ref h_p0_train_berths_ends])), (h_p0_train_berths_ends, .inl (cyI, 3, .inl v_ends)), (h_p0_train_berths_holders, .inl (cyI, 162, .inl v_holders))] hD [2, 3, 4] (by decide) rfl
  have hFc := va_free (wc := [(h_p0_train_berths, .inr (0, [.ref h_p0_train_berths_holders, .ref h_p0_train_berths_ends])), (h_p0_train_berths_ends, .inl (cyI, 3, .inl v_ends)), (h_p0_train_berths_holders, .inl (cyI, 162, .inl v_holders))]) hD hS hA [2, 3, 4] rfl
  refine va_calli (va_runV (As := [.int a1]) (rest := []) ⟨hx, hb, hml, hown, hts⟩ (c_X0_farthestOpen l dC dI cyI cyJ cyT h_p0_train_berths h_p0_train_berths_holders h_p0_train_berths_ends H.size v_ends v_holders a1 n r4 e5) (cwV 1 hts gX6_whyNot_X0_farthestOpen rfl rfl rfl (by decide +kernel) ⟨Nat.le_of_ble_eq_true rfl, Nat.le_of_ble_eq_true rfl⟩) ⟨PRE.blind, va_recv hK hPc (ci := 0) (q0 := 0) rfl rfl, PRE.go hK hPc hDc hNW⟩ rfl rfl hl.1 rfl (lv_room (Nat.le_of_ble_eq_true rfl)) dX6_whyNot_13 ⟨(Nat.le_of_ble_eq_true rfl), (Nat.le_of_ble_eq_true rfl)⟩) hS (fun q _ h => hFc q h) hFc (fun z6 u t H locs ht hvm hw hB hz1 hk1 hS => ?_)
  subst z6
  obtain ⟨hP, hD⟩ := va_join (wr := [(h_p0, .inr (6, [.ref h_p0_train, .ref h_p0_history, .ref h_p0_text])), (h_p0_train, .inr (5, [.ref h_p0_train_berths, .ref h_p0_train_roster, .ref h_p0_train_settings, .int v_nextNumber, .int v_bookings, .int v_leftOut]))]) (w1 := [(h_p0_train_berths, .inr (0, [.ref h_p0_train_berths_holders, .ref h_p0_train_berths_ends])), (h_p0_train_berths_ends, .inl (cyI, 3, .inl v_ends)), (h_p0_train_berths_holders, .inl (cyI, 162, .inl v_holders))]) hP hD [2, 3, 4] [0, 1] rfl rfl (by decide) (by decide) hk1 hFc (WLD.P hB ht) hB.2
  have hP : va_P (dC, dI) vwCl [(h_p0, .inr (6, [.ref h_p0_train, .ref h_p0_history, .ref h_p0_text])), (h_p0_train, .inr (5, [.ref h_p0_train_berths, .ref h_p0_train_roster, .ref h_p0_train_settings, .int v_nextNumber, .int v_bookings, .int v_leftOut])), (h_p0_train_berths, .inr (0, [.ref h_p0_train_berths_holders, .ref h_p0_train_berths_ends])), (h_p0_train_berths_ends, .inl (cyI, 3, .inl v_ends)), (h_p0_train_berths_holders, .inl (cyI, 162, .inl v_holders))] H := hP
  have hD : va_D A [(h_p0, .inr (6, [.ref h_p0_train, .ref h_p0_history, .ref h_p0_text])), (h_p0_train, .inr (5, [.ref h_p0_train_berths, .ref h_p0_train_roster, .ref h_p0_train_settings, .int v_nextNumber, .int v_bookings, .int v_leftOut])), (h_p0_train_berths, .inr (0, [.ref h_p0_train_berths_holders, .ref h_p0_train_berths_ends])), (h_p0_train_berths_ends, .inl (cyI, 3, .inl v_ends)), (h_p0_train_berths_holders, .inl (cyI, 162, .inl v_holders))] := hD
  refine lv_iload_n hx hb dX6_whyNot_16 rfl (lv_at hl 2 rfl) ?_
  refine lv_icmp_lt (tgt := 22) hx hb dX6_whyNot_17 (by decide) (fun c7 => ?_) (fun c7 => ?_)
  · have h := ipos c7 h
    refine lv_aload_n hx hb dX6_whyNot_22 rfl (lv_at hl 0 rfl) ?_
    refine va_get (D := (dC, dI)) (ci := 6) (v := .ref h_p0_train) (C := RX6) (T := TX6) (N := 3) hx hb hts m_X6_whyNot_0 hown hK hP 0 rfl rfl 0 (by decide) (hts (.fieldLink RX6 12 "SleeperBerths" "train" "LSleeperBerths$Train;") m_X6_whyNot_1) (fun _ h9 => h9) rfl dX6_whyNot_23 ?_
    refine va_get (D := (dC, dI)) (ci := 5) (v := .ref h_p0_train_berths) (C := RX5) (T := TX5) (N := 6) hx hb hts m_X6_whyNot_2 hown hK hP 1 rfl rfl 0 (by decide) (hts (.fieldLink RX6 121 "SleeperBerths$Train" "berths" "LSleeperBerths$Berths;") m_X6_whyNot_3) (fun _ h9 => h9) rfl dX6_whyNot_26 ?_
    obtain ⟨r8, e9, h⟩ := bsome h
    have hPc := sb_P [(h_p0_train_berths, .inr (0, [.ref h_p0_train_berths_holders, .ref h_p0_train_berths_ends])), (h_p0_train_berths_ends, .inl (cyI, 3, .inl v_ends))] hP [2, 3] rfl
    have hDc := sb_D [(h_p0_train_berths, .inr (0, [.ref h_p0_train_berths_holders, .ref h_p0_train_berths_ends])), (h_p0_train_berths_ends, .inl (cyI, 3, .inl v_ends))] hD [2, 3] (by decide) rfl
    have hFc := va_free (wc := [(h_p0_train_berths, .inr (0, [.ref h_p0_train_berths_holders, .ref h_p0_train_berths_ends])), (h_p0_train_berths_ends, .inl (cyI, 3, .inl v_ends))]) hD hS hA [2, 3] rfl
    refine va_calli (va_runV (As := []) (rest := []) ⟨hx, hb, hml, hown, hts⟩ (c_X0_farthestEnd l dC dI cyI cyJ cyT h_p0_train_berths h_p0_train_berths_holders h_p0_train_berths_ends H.size v_ends n r8 e9) (cwV 0 hts gX6_whyNot_X0_farthestEnd rfl rfl rfl (by decide +kernel) ⟨Nat.le_of_ble_eq_true rfl, Nat.le_of_ble_eq_true rfl⟩) ⟨PRE.blind, va_recv hK hPc (ci := 0) (q0 := 0) rfl rfl, PRE.go hK hPc hDc hNW⟩ rfl rfl hl.1 rfl (lv_room (Nat.le_of_ble_eq_true rfl)) dX6_whyNot_29 ⟨(Nat.le_of_ble_eq_true rfl), (Nat.le_of_ble_eq_true rfl)⟩) hS (fun q _ h => hFc q h) hFc (fun z10 u t H locs ht hvm hw hB hz1 hk1 hS => ?_)
    subst z10
    obtain ⟨hP, hD⟩ := va_join (wr := [(h_p0, .inr (6, [.ref h_p0_train, .ref h_p0_history, .ref h_p0_text])), (h_p0_train, .inr (5, [.ref h_p0_train_berths, .ref h_p0_train_roster, .ref h_p0_train_settings, .int v_nextNumber, .int v_bookings, .int v_leftOut])), (h_p0_train_berths_holders, .inl (cyI, 162, .inl v_holders))]) (w1 := [(h_p0_train_berths, .inr (0, [.ref h_p0_train_berths_holders, .ref h_p0_train_berths_ends])), (h_p0_train_berths_ends, .inl (cyI, 3, .inl v_ends))]) hP hD [2, 3] [0, 1, 4] rfl rfl (by decide) (by decide) hk1 hFc (WLD.P hB ht) hB.2
    have hP : va_P (dC, dI) vwCl [(h_p0, .inr (6, [.ref h_p0_train, .ref h_p0_history, .ref h_p0_text])), (h_p0_train, .inr (5, [.ref h_p0_train_berths, .ref h_p0_train_roster, .ref h_p0_train_settings, .int v_nextNumber, .int v_bookings, .int v_leftOut])), (h_p0_train_berths_holders, .inl (cyI, 162, .inl v_holders)), (h_p0_train_berths, .inr (0, [.ref h_p0_train_berths_holders, .ref h_p0_train_berths_ends])), (h_p0_train_berths_ends, .inl (cyI, 3, .inl v_ends))] H := hP
    have hD : va_D A [(h_p0, .inr (6, [.ref h_p0_train, .ref h_p0_history, .ref h_p0_text])), (h_p0_train, .inr (5, [.ref h_p0_train_berths, .ref h_p0_train_roster, .ref h_p0_train_settings, .int v_nextNumber, .int v_bookings, .int v_leftOut])), (h_p0_train_berths_holders, .inl (cyI, 162, .inl v_holders)), (h_p0_train_berths, .inr (0, [.ref h_p0_train_berths_holders, .ref h_p0_train_berths_ends])), (h_p0_train_berths_ends, .inl (cyI, 3, .inl v_ends))] := hD
    refine lv_iload_n hx hb dX6_whyNot_32 rfl (lv_at hl 2 rfl) ?_
    refine lv_icmp_ge (tgt := 38) hx hb dX6_whyNot_33 (by decide) (fun c11 => ?_) (fun c11 => ?_)
    · have h := ipos c11 h
      refine lv_aload_n hx hb dX6_whyNot_38 rfl (lv_at hl 0 rfl) ?_
      refine va_get (D := (dC, dI)) (ci := 6) (v := .ref h_p0_train) (C := RX6) (T := TX6) (N := 3) hx hb hts m_X6_whyNot_0 hown hK hP 0 rfl rfl 0 (by decide) (hts (.fieldLink RX6 12 "SleeperBerths" "train" "LSleeperBerths$Train;") m_X6_whyNot_1) (fun _ h9 => h9) rfl dX6_whyNot_39 ?_
      refine va_get (D := (dC, dI)) (ci := 5) (v := .ref h_p0_train_berths) (C := RX5) (T := TX5) (N := 6) hx hb hts m_X6_whyNot_2 hown hK hP 1 rfl rfl 0 (by decide) (hts (.fieldLink RX6 121 "SleeperBerths$Train" "berths" "LSleeperBerths$Berths;") m_X6_whyNot_3) (fun _ h9 => h9) rfl dX6_whyNot_42 ?_
      refine lv_iload_n hx hb dX6_whyNot_45 rfl (lv_at hl 1 rfl) ?_
      refine lv_iload_n hx hb dX6_whyNot_46 rfl (lv_at hl 2 rfl) ?_
      obtain ⟨r12, e13, h⟩ := bsome h
      have hPc := sb_P [(h_p0_train_berths, .inr (0, [.ref h_p0_train_berths_holders, .ref h_p0_train_berths_ends])), (h_p0_train_berths_ends, .inl (cyI, 3, .inl v_ends)), (h_p0_train_berths_holders, .inl (cyI, 162, .inl v_holders))] hP [3, 4, 2] rfl
      have hDc := sb_D [(h_p0_train_berths, .inr (0, [.ref h_p0_train_berths_holders, .ref h_p0_train_berths_ends])), (h_p0_train_berths_ends, .inl (cyI, 3, .inl v_ends)), (h_p0_train_berths_holders, .inl (cyI, 162, .inl v_holders))] hD [3, 4, 2] (by decide) rfl
      have hFc := va_free (wc := [(h_p0_train_berths, .inr (0, [.ref h_p0_train_berths_holders, .ref h_p0_train_berths_ends])), (h_p0_train_berths_ends, .inl (cyI, 3, .inl v_ends)), (h_p0_train_berths_holders, .inl (cyI, 162, .inl v_holders))]) hD hS hA [3, 4, 2] rfl
      refine va_calli (va_runV (As := [.int a1, .int a2]) (rest := []) ⟨hx, hb, hml, hown, hts⟩ (c_X0_areAllHadOnce l dC dI cyI cyJ cyT h_p0_train_berths h_p0_train_berths_holders h_p0_train_berths_ends H.size v_ends v_holders a1 a2 n r12 e13) (cwV 2 hts gX6_whyNot_X0_areAllHadOnce rfl rfl rfl (by decide +kernel) ⟨Nat.le_of_ble_eq_true rfl, Nat.le_of_ble_eq_true rfl⟩) ⟨PRE.blind, va_recv hK hPc (ci := 0) (q0 := 0) rfl rfl, PRE.go hK hPc hDc hNW⟩ rfl rfl hl.1 rfl (lv_room (Nat.le_of_ble_eq_true rfl)) dX6_whyNot_47 ⟨(Nat.le_of_ble_eq_true rfl), (Nat.le_of_ble_eq_true rfl)⟩) hS (fun q _ h => hFc q h) hFc (fun z14 u t H locs ht hvm hw hB hz1 hk1 hS => ?_)
      subst z14
      obtain ⟨hP, hD⟩ := va_join (wr := [(h_p0, .inr (6, [.ref h_p0_train, .ref h_p0_history, .ref h_p0_text])), (h_p0_train, .inr (5, [.ref h_p0_train_berths, .ref h_p0_train_roster, .ref h_p0_train_settings, .int v_nextNumber, .int v_bookings, .int v_leftOut]))]) (w1 := [(h_p0_train_berths, .inr (0, [.ref h_p0_train_berths_holders, .ref h_p0_train_berths_ends])), (h_p0_train_berths_ends, .inl (cyI, 3, .inl v_ends)), (h_p0_train_berths_holders, .inl (cyI, 162, .inl v_holders))]) hP hD [3, 4, 2] [0, 1] rfl rfl (by decide) (by decide) hk1 hFc (WLD.P hB ht) hB.2
      have hP : va_P (dC, dI) vwCl [(h_p0, .inr (6, [.ref h_p0_train, .ref h_p0_history, .ref h_p0_text])), (h_p0_train, .inr (5, [.ref h_p0_train_berths, .ref h_p0_train_roster, .ref h_p0_train_settings, .int v_nextNumber, .int v_bookings, .int v_leftOut])), (h_p0_train_berths, .inr (0, [.ref h_p0_train_berths_holders, .ref h_p0_train_berths_ends])), (h_p0_train_berths_ends, .inl (cyI, 3, .inl v_ends)), (h_p0_train_berths_holders, .inl (cyI, 162, .inl v_holders))] H := hP
      have hD : va_D A [(h_p0, .inr (6, [.ref h_p0_train, .ref h_p0_history, .ref h_p0_text])), (h_p0_train, .inr (5, [.ref h_p0_train_berths, .ref h_p0_train_roster, .ref h_p0_train_settings, .int v_nextNumber, .int v_bookings, .int v_leftOut])), (h_p0_train_berths, .inr (0, [.ref h_p0_train_berths_holders, .ref h_p0_train_berths_ends])), (h_p0_train_berths_ends, .inl (cyI, 3, .inl v_ends)), (h_p0_train_berths_holders, .inl (cyI, 162, .inl v_holders))] := hD
      refine lv_if_eq (tgt := 57) hx hb dX6_whyNot_50 (by decide) (fun c15 => ?_) (fun c15 => ?_)
      · have h := ipos c15 h
        refine lv_iconst (v := iI 3) hx hb dX6_whyNot_57 rfl ?_
        obtain rfl := Option.some.inj h
        refine W.widen (k := 1) (n := 6) (Nat.le_of_ble_eq_true rfl) (Nat.le_of_ble_eq_true rfl) ?_
        refine vx_ret ?_
        exact W.iret (v := iI 3) hx hb hr (fun t ht hW => ⟨⟨iI 3, (), rfl, ⟨rfl, rfl⟩, WLD.of ht hP hD⟩, hS.F ht⟩) hS.2.2 dX6_whyNot_58
      · have h := ineg c15 h
        refine lv_iconst (v := iI 2) hx hb dX6_whyNot_53 rfl ?_
        refine lv_goto (tgt := 58) hx hb dX6_whyNot_54 (by decide) ?_
        obtain rfl := Option.some.inj h
        refine W.widen (k := 1) (n := 6) (Nat.le_of_ble_eq_true rfl) (Nat.le_of_ble_eq_true rfl) ?_
        refine vx_ret ?_
        exact W.iret (v := iI 2) hx hb hr (fun t ht hW => ⟨⟨iI 2, (), rfl, ⟨rfl, rfl⟩, WLD.of ht hP hD⟩, hS.F ht⟩) hS.2.2 dX6_whyNot_58
    · have h := ineg c11 h
      refine lv_iconst (v := iI 1) hx hb dX6_whyNot_36 rfl ?_
      obtain rfl := Option.some.inj h
      refine W.widen (k := 1) (n := 6) (Nat.le_of_ble_eq_true rfl) (Nat.le_of_ble_eq_true rfl) ?_
      refine vx_ret ?_
      exact W.iret (v := iI 1) hx hb hr (fun t ht hW => ⟨⟨iI 1, (), rfl, ⟨rfl, rfl⟩, WLD.of ht (sb_P [(h_p0, .inr (6, [.ref h_p0_train, .ref h_p0_history, .ref h_p0_text])), (h_p0_train, .inr (5, [.ref h_p0_train_berths, .ref h_p0_train_roster, .ref h_p0_train_settings, .int v_nextNumber, .int v_bookings, .int v_leftOut])), (h_p0_train_berths, .inr (0, [.ref h_p0_train_berths_holders, .ref h_p0_train_berths_ends])), (h_p0_train_berths_ends, .inl (cyI, 3, .inl v_ends)), (h_p0_train_berths_holders, .inl (cyI, 162, .inl v_holders))] hP [0, 1, 3, 4, 2] rfl) (sb_D [(h_p0, .inr (6, [.ref h_p0_train, .ref h_p0_history, .ref h_p0_text])), (h_p0_train, .inr (5, [.ref h_p0_train_berths, .ref h_p0_train_roster, .ref h_p0_train_settings, .int v_nextNumber, .int v_bookings, .int v_leftOut])), (h_p0_train_berths, .inr (0, [.ref h_p0_train_berths_holders, .ref h_p0_train_berths_ends])), (h_p0_train_berths_ends, .inl (cyI, 3, .inl v_ends)), (h_p0_train_berths_holders, .inl (cyI, 162, .inl v_holders))] hD [0, 1, 3, 4, 2] (by decide) rfl)⟩, hS.F ht⟩) hS.2.2 dX6_whyNot_37
  · have h := ineg c7 h
    refine lv_iconst (v := iI 0) hx hb dX6_whyNot_20 rfl ?_
    obtain rfl := Option.some.inj h
    refine W.widen (k := 1) (n := 6) (Nat.le_of_ble_eq_true rfl) (Nat.le_of_ble_eq_true rfl) ?_
    refine vx_ret ?_
    exact W.iret (v := iI 0) hx hb hr (fun t ht hW => ⟨⟨iI 0, (), rfl, ⟨rfl, rfl⟩, WLD.of ht hP hD⟩, hS.F ht⟩) hS.2.2 dX6_whyNot_21
def s_X6_farthest (n : Nat) (v_ends : Nat → Int32) (v_holders : Nat → Int32) (a1 : Int32) : Option (Nat × Int32) := ((s_X6_isBelow a1 (iI 9)).bind fun r1 => (if r1 = 0 then (some (1, 0)) else ((s_X0_farthestOpen n v_ends v_holders a1).bind fun r5 => (some (0, r5)))))
set_option maxRecDepth 20000 in
theorem m_X6_farthest_0 : ∀ w ∈ u_ws RX6 TX6 3, w ∈ wsX6_farthest := by decide +kernel
set_option maxRecDepth 20000 in
theorem m_X6_farthest_1 : (.fieldLink RX6 12 "SleeperBerths" "train" "LSleeperBerths$Train;" : Cond) ∈ wsX6_farthest := by decide +kernel
set_option maxRecDepth 20000 in
theorem m_X6_farthest_2 : ∀ w ∈ u_ws RX5 TX5 6, w ∈ wsX6_farthest := by decide +kernel
set_option maxRecDepth 20000 in
theorem m_X6_farthest_3 : (.fieldLink RX6 121 "SleeperBerths$Train" "berths" "LSleeperBerths$Berths;" : Cond) ∈ wsX6_farthest := by decide +kernel
set_option maxRecDepth 20000 in
theorem m_X6_farthest_4 : ∀ w ∈ (vx_atS RX6 120 "java/lang/IllegalArgumentException" ["java/lang/RuntimeException", "java/lang/Exception"]).filter goodWord, w ∈ wsX6_farthest := by decide +kernel
set_option maxRecDepth 20000 in
theorem m_X6_farthest_5 : (.classLink RX6 116 "java/lang/IllegalArgumentException" : Cond) ∈ wsX6_farthest := by decide +kernel
set_option maxRecDepth 20000 in
theorem m_X6_farthest_6 : (.initialized "java/lang/IllegalArgumentException" : Cond) ∈ wsX6_farthest := by decide +kernel
set_option maxHeartbeats 4000000 in
set_option maxRecDepth 100000 in
theorem c_X6_farthest (l : Launch) (hl0 : l.stackTraces = false) (dC : Nat → ClassId) (dI : Nat → Nat → Nat) (cyI cyJ cyT : ClassId) (h_p0 : Nat) (h_p0_train : Nat) (h_p0_history : Nat) (h_p0_text : Nat) (h_p0_train_berths : Nat) (h_p0_train_roster : Nat) (h_p0_train_settings : Nat) (h_p0_train_berths_holders : Nat) (h_p0_train_berths_ends : Nat) (sz : Nat) (v_nextNumber : Int32) (v_bookings : Int32) (v_leftOut : Int32) (v_ends : Nat → Int32) (v_holders : Nat → Int32) (a1 : Int32) (n : Nat) (o : Nat × Int32) (h : s_X6_farthest n v_ends v_holders a1 = some o) : vx_Met l yX6_farthest wsX6_farthest ({ frames := 6, cells := 1, slots := 6, locals := 90 }) (va_Pc [.ref h_p0, .int a1] (PREX (dC, dI) (TYS cyI cyJ cyT) sz [(h_p0, .inr (6, [.ref h_p0_train, .ref h_p0_history, .ref h_p0_text])), (h_p0_train, .inr (5, [.ref h_p0_train_berths, .ref h_p0_train_roster, .ref h_p0_train_settings, .int v_nextNumber, .int v_bookings, .int v_leftOut])), (h_p0_train_berths, .inr (0, [.ref h_p0_train_berths_holders, .ref h_p0_train_berths_ends])), (h_p0_train_berths_ends, .inl (cyI, 3, .inl v_ends)), (h_p0_train_berths_holders, .inl (cyI, 162, .inl v_holders))])) (va_Qi (S := Unit) (fun r _ => o.1 = 0 ∧ r = o.2) (fun _ t => WLD (dC, dI) (va_A [(h_p0, .inr (6, [.ref h_p0_train, .ref h_p0_history, .ref h_p0_text])), (h_p0_train, .inr (5, [.ref h_p0_train_berths, .ref h_p0_train_roster, .ref h_p0_train_settings, .int v_nextNumber, .int v_bookings, .int v_leftOut])), (h_p0_train_berths, .inr (0, [.ref h_p0_train_berths_holders, .ref h_p0_train_berths_ends])), (h_p0_train_berths_ends, .inl (cyI, 3, .inl v_ends)), (h_p0_train_berths_holders, .inl (cyI, 162, .inl v_holders))] sz) [(h_p0, .inr (6, [.ref h_p0_train, .ref h_p0_history, .ref h_p0_text])), (h_p0_train, .inr (5, [.ref h_p0_train_berths, .ref h_p0_train_roster, .ref h_p0_train_settings, .int v_nextNumber, .int v_bookings, .int v_leftOut])), (h_p0_train_berths, .inr (0, [.ref h_p0_train_berths_holders, .ref h_p0_train_berths_ends])), (h_p0_train_berths_ends, .inl (cyI, 3, .inl v_ends)), (h_p0_train_berths_holders, .inl (cyI, 162, .inl v_holders))] t) (va_A [(h_p0, .inr (6, [.ref h_p0_train, .ref h_p0_history, .ref h_p0_text])), (h_p0_train, .inr (5, [.ref h_p0_train_berths, .ref h_p0_train_roster, .ref h_p0_train_settings, .int v_nextNumber, .int v_bookings, .int v_leftOut])), (h_p0_train_berths, .inr (0, [.ref h_p0_train_berths_holders, .ref h_p0_train_berths_ends])), (h_p0_train_berths_ends, .inl (cyI, 3, .inl v_ends)), (h_p0_train_berths_holders, .inl (cyI, 162, .inl v_holders))] sz)) (vx_X (S := Unit) (fun _ => True) (fun E _ t => XWL (dC, dI) (va_A [(h_p0, .inr (6, [.ref h_p0_train, .ref h_p0_history, .ref h_p0_text])), (h_p0_train, .inr (5, [.ref h_p0_train_berths, .ref h_p0_train_roster, .ref h_p0_train_settings, .int v_nextNumber, .int v_bookings, .int v_leftOut])), (h_p0_train_berths, .inr (0, [.ref h_p0_train_berths_holders, .ref h_p0_train_berths_ends])), (h_p0_train_berths_ends, .inl (cyI, 3, .inl v_ends)), (h_p0_train_berths_holders, .inl (cyI, 162, .inl v_holders))] sz) o.1 E [(h_p0, .inr (6, [.ref h_p0_train, .ref h_p0_history, .ref h_p0_text])), (h_p0_train, .inr (5, [.ref h_p0_train_berths, .ref h_p0_train_roster, .ref h_p0_train_settings, .int v_nextNumber, .int v_bookings, .int v_leftOut])), (h_p0_train_berths, .inr (0, [.ref h_p0_train_berths_holders, .ref h_p0_train_berths_ends])), (h_p0_train_berths_ends, .inl (cyI, 3, .inl v_ends)), (h_p0_train_berths_holders, .inl (cyI, 162, .inl v_holders))] t) (va_A [(h_p0, .inr (6, [.ref h_p0_train, .ref h_p0_history, .ref h_p0_text])), (h_p0_train, .inr (5, [.ref h_p0_train_berths, .ref h_p0_train_roster, .ref h_p0_train_settings, .int v_nextNumber, .int v_bookings, .int v_leftOut])), (h_p0_train_berths, .inr (0, [.ref h_p0_train_berths_holders, .ref h_p0_train_berths_ends])), (h_p0_train_berths_ends, .inl (cyI, 3, .inl v_ends)), (h_p0_train_berths_holders, .inl (cyI, 162, .inl v_holders))] sz)) 1 6 (va_A [(h_p0, .inr (6, [.ref h_p0_train, .ref h_p0_history, .ref h_p0_text])), (h_p0_train, .inr (5, [.ref h_p0_train_berths, .ref h_p0_train_roster, .ref h_p0_train_settings, .int v_nextNumber, .int v_bookings, .int v_leftOut])), (h_p0_train_berths, .inr (0, [.ref h_p0_train_berths_holders, .ref h_p0_train_berths_ends])), (h_p0_train_berths_ends, .inl (cyI, 3, .inl v_ends)), (h_p0_train_berths_holders, .inl (cyI, 162, .inl v_holders))] sz) := by
  refine vx_ofW (cc := cX6_farthest) (maxL := 2) (ret := (some .int)) (by decide) rfl ?_
  intro p e s m args below meth c s₁ B hml hno hv
  obtain ⟨rfl, ⟨hsz, hP, hK, hD0, hNW⟩, hXR, hXS⟩ := hv
  have hx := B.exec
  have hb := B.bytes
  have hr := B.returns
  have hts := atoms_spec (ws := wsX6_farthest) B.pre
  have hown : s.vm.findClass RX6 = some m.cls := findClass_of_methodNamed B.named
  have hlocks := B.notSynchronized
  subst hsz
  have hD := hD0.self (sz := s.heap.size)
  generalize hAe : va_A [(h_p0, .inr (6, [.ref h_p0_train, .ref h_p0_history, .ref h_p0_text])), (h_p0_train, .inr (5, [.ref h_p0_train_berths, .ref h_p0_train_roster, .ref h_p0_train_settings, .int v_nextNumber, .int v_bookings, .int v_leftOut])), (h_p0_train_berths, .inr (0, [.ref h_p0_train_berths_holders, .ref h_p0_train_berths_ends])), (h_p0_train_berths_ends, .inl (cyI, 3, .inl v_ends)), (h_p0_train_berths_holders, .inl (cyI, 162, .inl v_holders))] s.heap.size = A at hD hXS ⊢
  have hA : ∀ q : Nat, s.heap.size ≤ q → A q := fun q h => by rw [← hAe]; exact Or.inr h
  have hS : va_S A s.heap s.heap [] := va_S.rf
  have hP : va_P (dC, dI) vwCl [(h_p0, .inr (6, [.ref h_p0_train, .ref h_p0_history, .ref h_p0_text])), (h_p0_train, .inr (5, [.ref h_p0_train_berths, .ref h_p0_train_roster, .ref h_p0_train_settings, .int v_nextNumber, .int v_bookings, .int v_leftOut])), (h_p0_train_berths, .inr (0, [.ref h_p0_train_berths_holders, .ref h_p0_train_berths_ends])), (h_p0_train_berths_ends, .inl (cyI, 3, .inl v_ends)), (h_p0_train_berths_holders, .inl (cyI, 162, .inl v_holders))] s.heap := hP
  have hl := lv_entry ([.ref h_p0, .int a1]) (n := 2) (Nat.le_of_ble_eq_true rfl)
  rw [lg_entry_eq]
  generalize (lg_sl ([.ref h_p0, .int a1]) ++ List.replicate (2 - (lg_sl ([.ref h_p0, .int a1])).length) Slot.unset).toArray = ls at hl ⊢
  have hl : lv_has ls 2 [(0, .ref h_p0), (1, .int a1)] := hl
  unfold s_X6_farthest at h
  refine lv_iload_n hx hb dX6_farthest_0 rfl (lv_at hl 1 rfl) ?_
  refine lv_bipush (v := iI 9) hx hb dX6_farthest_1 (by decide) ?_
  obtain ⟨r1, e2, h⟩ := bsome h
  have hPc := sb_P [] hP [] rfl
  have hDc := sb_D [] hD [] (by decide) rfl
  have hFc := va_free (wc := []) hD hS hA [] rfl
  refine va_calli (va_runS (As := [.int a1, .int (iI 9)]) (rest := []) ⟨hx, hb, hml, hown, hts⟩ (c_X6_isBelow l dC dI cyI cyJ cyT s.heap.size a1 (iI 9) r1 e2) (va_cwS 2 hts gX6_farthest_X6_isBelow rfl rfl rfl (by decide +kernel) ⟨Nat.le_of_ble_eq_true rfl, Nat.le_of_ble_eq_true rfl⟩) ⟨PRE.blind, PRE.go hK hPc hDc hNW⟩ rfl rfl hl.1 rfl (lv_room (Nat.le_of_ble_eq_true rfl)) dX6_farthest_3 ⟨Nat.zero_le _, Nat.zero_le _⟩) hS (fun q _ h => hFc q h) hFc (fun z3 u t H locs ht hvm hw hB hz1 hk1 hS => ?_)
  subst z3
  obtain ⟨hP, hD⟩ := va_join (wr := [(h_p0, .inr (6, [.ref h_p0_train, .ref h_p0_history, .ref h_p0_text])), (h_p0_train, .inr (5, [.ref h_p0_train_berths, .ref h_p0_train_roster, .ref h_p0_train_settings, .int v_nextNumber, .int v_bookings, .int v_leftOut])), (h_p0_train_berths, .inr (0, [.ref h_p0_train_berths_holders, .ref h_p0_train_berths_ends])), (h_p0_train_berths_ends, .inl (cyI, 3, .inl v_ends)), (h_p0_train_berths_holders, .inl (cyI, 162, .inl v_holders))]) (w1 := []) hP hD [] [0, 1, 2, 3, 4] rfl rfl (by decide) (by decide) hk1 hFc (WLD.P hB ht) hB.2
  have hP : va_P (dC, dI) vwCl [(h_p0, .inr (6, [.ref h_p0_train, .ref h_p0_history, .ref h_p0_text])), (h_p0_train, .inr (5, [.ref h_p0_train_berths, .ref h_p0_train_roster, .ref h_p0_train_settings, .int v_nextNumber, .int v_bookings, .int v_leftOut])), (h_p0_train_berths, .inr (0, [.ref h_p0_train_berths_holders, .ref h_p0_train_berths_ends])), (h_p0_train_berths_ends, .inl (cyI, 3, .inl v_ends)), (h_p0_train_berths_holders, .inl (cyI, 162, .inl v_holders))] H := hP
  have hD : va_D A [(h_p0, .inr (6, [.ref h_p0_train, .ref h_p0_history, .ref h_p0_text])), (h_p0_train, .inr (5, [.ref h_p0_train_berths, .ref h_p0_train_roster, .ref h_p0_train_settings, .int v_nextNumber, .int v_bookings, .int v_leftOut])), (h_p0_train_berths, .inr (0, [.ref h_p0_train_berths_holders, .ref h_p0_train_berths_ends])), (h_p0_train_berths_ends, .inl (cyI, 3, .inl v_ends)), (h_p0_train_berths_holders, .inl (cyI, 162, .inl v_holders))] := hD
  refine lv_if_ne (tgt := 19) hx hb dX6_farthest_6 (by decide) (fun c4 => ?_) (fun c4 => ?_)
  · have h := ineg c4 h
    refine lv_aload_n hx hb dX6_farthest_19 rfl (lv_at hl 0 rfl) ?_
    refine va_get (D := (dC, dI)) (ci := 6) (v := .ref h_p0_train) (C := RX6) (T := TX6) (N := 3) hx hb hts m_X6_farthest_0 hown hK hP 0 rfl rfl 0 (by decide) (hts (.fieldLink RX6 12 "SleeperBerths" "train" "LSleeperBerths$Train;") m_X6_farthest_1) (fun _ h9 => h9) rfl dX6_farthest_20 ?_
    refine va_get (D := (dC, dI)) (ci := 5) (v := .ref h_p0_train_berths) (C := RX5) (T := TX5) (N := 6) hx hb hts m_X6_farthest_2 hown hK hP 1 rfl rfl 0 (by decide) (hts (.fieldLink RX6 121 "SleeperBerths$Train" "berths" "LSleeperBerths$Berths;") m_X6_farthest_3) (fun _ h9 => h9) rfl dX6_farthest_23 ?_
    refine lv_iload_n hx hb dX6_farthest_26 rfl (lv_at hl 1 rfl) ?_
    obtain ⟨r5, e6, h⟩ := bsome h
    have hPc := sb_P [(h_p0_train_berths, .inr (0, [.ref h_p0_train_berths_holders, .ref h_p0_train_berths_ends])), (h_p0_train_berths_ends, .inl (cyI, 3, .inl v_ends)), (h_p0_train_berths_holders, .inl (cyI, 162, .inl v_holders))] hP [2, 3, 4] rfl
    have hDc := sb_D [(h_p0_train_berths, .inr (0, [.ref h_p0_train_berths_holders, .ref h_p0_train_berths_ends])), (h_p0_train_berths_ends, .inl (cyI, 3, .inl v_ends)), (h_p0_train_berths_holders, .inl (cyI, 162, .inl v_holders))] hD [2, 3, 4] (by decide) rfl
    have hFc := va_free (wc := [(h_p0_train_berths, .inr (0, [.ref h_p0_train_berths_holders, .ref h_p0_train_berths_ends])), (h_p0_train_berths_ends, .inl (cyI, 3, .inl v_ends)), (h_p0_train_berths_holders, .inl (cyI, 162, .inl v_holders))]) hD hS hA [2, 3, 4] rfl
    refine va_calli (va_runV (As := [.int a1]) (rest := []) ⟨hx, hb, hml, hown, hts⟩ (c_X0_farthestOpen l dC dI cyI cyJ cyT h_p0_train_berths h_p0_train_berths_holders h_p0_train_berths_ends H.size v_ends v_holders a1 n r5 e6) (cwV 1 hts gX6_farthest_X0_farthestOpen rfl rfl rfl (by decide +kernel) ⟨Nat.le_of_ble_eq_true rfl, Nat.le_of_ble_eq_true rfl⟩) ⟨PRE.blind, va_recv hK hPc (ci := 0) (q0 := 0) rfl rfl, PRE.go hK hPc hDc hNW⟩ rfl rfl hl.1 rfl (lv_room (Nat.le_of_ble_eq_true rfl)) dX6_farthest_27 ⟨Nat.zero_le _, Nat.zero_le _⟩) hS (fun q _ h => hFc q h) hFc (fun z7 u t H locs ht hvm hw hB hz1 hk1 hS => ?_)
    subst z7
    obtain ⟨hP, hD⟩ := va_join (wr := [(h_p0, .inr (6, [.ref h_p0_train, .ref h_p0_history, .ref h_p0_text])), (h_p0_train, .inr (5, [.ref h_p0_train_berths, .ref h_p0_train_roster, .ref h_p0_train_settings, .int v_nextNumber, .int v_bookings, .int v_leftOut]))]) (w1 := [(h_p0_train_berths, .inr (0, [.ref h_p0_train_berths_holders, .ref h_p0_train_berths_ends])), (h_p0_train_berths_ends, .inl (cyI, 3, .inl v_ends)), (h_p0_train_berths_holders, .inl (cyI, 162, .inl v_holders))]) hP hD [2, 3, 4] [0, 1] rfl rfl (by decide) (by decide) hk1 hFc (WLD.P hB ht) hB.2
    have hP : va_P (dC, dI) vwCl [(h_p0, .inr (6, [.ref h_p0_train, .ref h_p0_history, .ref h_p0_text])), (h_p0_train, .inr (5, [.ref h_p0_train_berths, .ref h_p0_train_roster, .ref h_p0_train_settings, .int v_nextNumber, .int v_bookings, .int v_leftOut])), (h_p0_train_berths, .inr (0, [.ref h_p0_train_berths_holders, .ref h_p0_train_berths_ends])), (h_p0_train_berths_ends, .inl (cyI, 3, .inl v_ends)), (h_p0_train_berths_holders, .inl (cyI, 162, .inl v_holders))] H := hP
    have hD : va_D A [(h_p0, .inr (6, [.ref h_p0_train, .ref h_p0_history, .ref h_p0_text])), (h_p0_train, .inr (5, [.ref h_p0_train_berths, .ref h_p0_train_roster, .ref h_p0_train_settings, .int v_nextNumber, .int v_bookings, .int v_leftOut])), (h_p0_train_berths, .inr (0, [.ref h_p0_train_berths_holders, .ref h_p0_train_berths_ends])), (h_p0_train_berths_ends, .inl (cyI, 3, .inl v_ends)), (h_p0_train_berths_holders, .inl (cyI, 162, .inl v_holders))] := hD
    obtain rfl := Option.some.inj h
    refine W.widen (k := 1) (n := 6) (Nat.le_of_ble_eq_true rfl) (Nat.le_of_ble_eq_true rfl) ?_
    refine vx_ret ?_
    exact W.iret (v := r5) hx hb hr (fun t ht hW => ⟨⟨r5, (), rfl, ⟨rfl, rfl⟩, WLD.of ht hP hD⟩, hS.F ht⟩) hS.2.2 dX6_farthest_30
  · have h := ipos c4 h
    obtain rfl := Option.some.inj h
    obtain ⟨sa8, hstr⟩ := hXR.2.2 18 rfl
    exact vx_throwS (names := ["java/lang/RuntimeException", "java/lang/Exception"]) (sa := sa8) hx hb hl0 hown (by decide +kernel) (by decide +kernel) (hts (.classLink RX6 116 "java/lang/IllegalArgumentException") m_X6_farthest_5) (hts (.initialized "java/lang/IllegalArgumentException") m_X6_farthest_6) hstr (xhat hts m_X6_farthest_4 hXR (by decide +kernel)) (by decide +kernel) hXS.1 hXS.2 hS (hl.1.trans hml.symm) dX6_farthest_9 dX6_farthest_12 dX6_farthest_13 dX6_farthest_15 dX6_farthest_18 (fun x hx9 => (hno x hx9).elim) (Nat.le_of_ble_eq_true rfl) (Nat.le_of_ble_eq_true rfl) (Nat.le_of_ble_eq_true rfl) (Nat.le_of_ble_eq_true rfl) hlocks (fun t _ h1 h2 => XWL.of (show ¬ (1 : Nat) = 0 by decide) rfl hP hD hS h1 h2) hS.2.2 (Nat.le_of_ble_eq_true rfl) (Nat.le_of_ble_eq_true rfl)
def s_X0_allOpen_L4 (n : Nat) (v_ends : Nat → Int32) (v_holders : Nat → Int32) : Nat → Int32 → Int32 → Option (Int32)
  | 0, _, _ => none
  | k + 1, x1, x2 => (if iI 9 ≤ x2 then (some (x1)) else ((s_X0_openOn n v_ends v_holders x2).bind fun r2 => (s_X0_allOpen_L4 n v_ends v_holders k (x1 + r2) (x2 + iI 1))))
def s_X0_allOpen (n : Nat) (v_ends : Nat → Int32) (v_holders : Nat → Int32) : Option (Int32) := (s_X0_allOpen_L4 n v_ends v_holders n (iI 0) (iI 0))
set_option maxHeartbeats 4000000 in
set_option maxRecDepth 100000 in
theorem c_X0_allOpen (l : Launch) (dC : Nat → ClassId) (dI : Nat → Nat → Nat) (cyI cyJ cyT : ClassId) (h_p0 : Nat) (h_p0_holders : Nat) (h_p0_ends : Nat) (sz : Nat) (v_ends : Nat → Int32) (v_holders : Nat → Int32) (n : Nat) (o : Int32) (h : s_X0_allOpen n v_ends v_holders = some o) : Met l yX0_allOpen wsX0_allOpen ({ frames := 2, cells := 0, slots := 0, locals := 47 }) (va_Pc [.ref h_p0] (PRE (dC, dI) (TYS cyI cyJ cyT) sz [(h_p0, .inr (0, [.ref h_p0_holders, .ref h_p0_ends])), (h_p0_ends, .inl (cyI, 3, .inl v_ends)), (h_p0_holders, .inl (cyI, 162, .inl v_holders))])) (va_Qi (S := Unit) (fun r _ => r = o) (fun _ t => WLD (dC, dI) (va_A [(h_p0, .inr (0, [.ref h_p0_holders, .ref h_p0_ends])), (h_p0_ends, .inl (cyI, 3, .inl v_ends)), (h_p0_holders, .inl (cyI, 162, .inl v_holders))] sz) [(h_p0, .inr (0, [.ref h_p0_holders, .ref h_p0_ends])), (h_p0_ends, .inl (cyI, 3, .inl v_ends)), (h_p0_holders, .inl (cyI, 162, .inl v_holders))] t) (va_A [(h_p0, .inr (0, [.ref h_p0_holders, .ref h_p0_ends])), (h_p0_ends, .inl (cyI, 3, .inl v_ends)), (h_p0_holders, .inl (cyI, 162, .inl v_holders))] sz)) 0 0 (va_A [(h_p0, .inr (0, [.ref h_p0_holders, .ref h_p0_ends])), (h_p0_ends, .inl (cyI, 3, .inl v_ends)), (h_p0_holders, .inl (cyI, 162, .inl v_holders))] sz) := by
  refine Met.ofW (cc := cX0_allOpen) (maxL := 3) (ret := (some .int)) (by decide) rfl ?_
  intro p e s m args below meth c s₁ B hml hv
  obtain ⟨rfl, hsz, hP, hK, hD0, hNW⟩ := hv
  have hx := B.exec
  have hb := B.bytes
  have hr := B.returns
  have hts := atoms_spec (ws := wsX0_allOpen) B.pre
  have hown : s.vm.findClass RX0 = some m.cls := findClass_of_methodNamed B.named
  have hlocks := B.notSynchronized
  subst hsz
  have hD := hD0.self (sz := s.heap.size)
  generalize hAe : va_A [(h_p0, .inr (0, [.ref h_p0_holders, .ref h_p0_ends])), (h_p0_ends, .inl (cyI, 3, .inl v_ends)), (h_p0_holders, .inl (cyI, 162, .inl v_holders))] s.heap.size = A at hD ⊢
  have hA : ∀ q : Nat, s.heap.size ≤ q → A q := fun q h => by rw [← hAe]; exact Or.inr h
  have hS : va_S A s.heap s.heap [] := va_S.rf
  have hP : va_P (dC, dI) vwCl [(h_p0, .inr (0, [.ref h_p0_holders, .ref h_p0_ends])), (h_p0_ends, .inl (cyI, 3, .inl v_ends)), (h_p0_holders, .inl (cyI, 162, .inl v_holders))] s.heap := hP
  have L4 : ∀ (k : Nat), (∀ (x1 : Int32) (x2 : Int32) (H : Heap) (locs : List Loc), va_P (dC, dI) vwCl [(h_p0, .inr (0, [.ref h_p0_holders, .ref h_p0_ends])), (h_p0_ends, .inl (cyI, 3, .inl v_ends)), (h_p0_holders, .inl (cyI, 162, .inl v_holders))] H → va_D A [(h_p0, .inr (0, [.ref h_p0_holders, .ref h_p0_ends])), (h_p0_ends, .inl (cyI, 3, .inl v_ends)), (h_p0_holders, .inl (cyI, 162, .inl v_holders))] → va_S A s.heap H locs → ∀ (ls : Array Slot), lv_has ls 3 [(0, .ref h_p0), (1, .int x1), (2, .int x2)] →  s_X0_allOpen_L4 n v_ends v_holders k x1 x2 = some o → W p l e (headSpec wsX0_allOpen ({ frames := 2, cells := 0, slots := 0, locals := 47 })).room s m (([.ref h_p0] : List Value).toArray) below meth c H locs 0 0 (MQ below (va_Qi (S := Unit) (fun r _ => r = o) (fun _ t => WLD (dC, dI) A [(h_p0, .inr (0, [.ref h_p0_holders, .ref h_p0_ends])), (h_p0_ends, .inl (cyI, 3, .inl v_ends)), (h_p0_holders, .inl (cyI, 162, .inl v_holders))] t) A) (([.ref h_p0] : List Value).toArray) s 0 0 A) (F0 m 4 ls [])) := by
    intro k
    induction k with
    | zero =>
      intro  x1 x2 H locs hP hD hS ls hl h
      rw [s_X0_allOpen_L4] at h
      cases h
    | succ k ih =>
      intro  x1 x2 H locs hP hD hS ls hl h
      rw [s_X0_allOpen_L4] at h
      refine lv_iload_n hx hb dX0_allOpen_4 rfl (lv_at hl 2 rfl) ?_
      refine lv_bipush (v := iI 9) hx hb dX0_allOpen_5 (by decide) ?_
      refine lv_icmp_ge (tgt := 24) hx hb dX0_allOpen_7 (by decide) (fun c1 => ?_) (fun c1 => ?_)
      · have h := ipos c1 h
        refine lv_iload_n hx hb dX0_allOpen_24 rfl (lv_at hl 1 rfl) ?_
        obtain rfl := Option.some.inj h
        exact W.iret (v := x1) hx hb hr (fun t ht hW => ⟨⟨x1, (), rfl, rfl, WLD.of ht hP hD⟩, hS.F ht⟩) hS.2.2 dX0_allOpen_25
      · have h := ineg c1 h
        refine lv_iload_n hx hb dX0_allOpen_10 rfl (lv_at hl 1 rfl) ?_
        refine lv_aload_n hx hb dX0_allOpen_11 rfl (lv_at hl 0 rfl) ?_
        refine lv_iload_n hx hb dX0_allOpen_12 rfl (lv_at hl 2 rfl) ?_
        obtain ⟨r2, e3, h⟩ := bsome h
        have hPc := sb_P [(h_p0, .inr (0, [.ref h_p0_holders, .ref h_p0_ends])), (h_p0_ends, .inl (cyI, 3, .inl v_ends)), (h_p0_holders, .inl (cyI, 162, .inl v_holders))] hP [0, 1, 2] rfl
        have hDc := sb_D [(h_p0, .inr (0, [.ref h_p0_holders, .ref h_p0_ends])), (h_p0_ends, .inl (cyI, 3, .inl v_ends)), (h_p0_holders, .inl (cyI, 162, .inl v_holders))] hD [0, 1, 2] (by decide) rfl
        have hFc := va_free (wc := [(h_p0, .inr (0, [.ref h_p0_holders, .ref h_p0_ends])), (h_p0_ends, .inl (cyI, 3, .inl v_ends)), (h_p0_holders, .inl (cyI, 162, .inl v_holders))]) hD hS hA [0, 1, 2] rfl
        refine va_calli (va_runV (As := [.int x2]) (rest := [.int x1]) ⟨hx, hb, hml, hown, hts⟩ (c_X0_openOn l dC dI cyI cyJ cyT h_p0 h_p0_holders h_p0_ends H.size v_ends v_holders x2 n r2 e3) (cwV 1 hts gX0_allOpen_X0_openOn rfl rfl rfl (by decide +kernel) ⟨Nat.le_of_ble_eq_true rfl, Nat.le_of_ble_eq_true rfl⟩) ⟨PRE.blind, va_recv hK hPc (ci := 0) (q0 := 0) rfl rfl, PRE.go hK hPc hDc hNW⟩ rfl rfl hl.1 rfl (lv_room (Nat.le_of_ble_eq_true rfl)) dX0_allOpen_13 ⟨Nat.zero_le _, Nat.zero_le _⟩) hS (fun q _ h => hFc q h) hFc (fun z4 u t H locs ht hvm hw hB hz1 hk1 hS => ?_)
        subst z4
        obtain ⟨hP, hD⟩ := va_join (wr := []) (w1 := [(h_p0, .inr (0, [.ref h_p0_holders, .ref h_p0_ends])), (h_p0_ends, .inl (cyI, 3, .inl v_ends)), (h_p0_holders, .inl (cyI, 162, .inl v_holders))]) hP hD [0, 1, 2] [] rfl rfl (by decide) (by decide) hk1 hFc (WLD.P hB ht) hB.2
        have hP : va_P (dC, dI) vwCl [(h_p0, .inr (0, [.ref h_p0_holders, .ref h_p0_ends])), (h_p0_ends, .inl (cyI, 3, .inl v_ends)), (h_p0_holders, .inl (cyI, 162, .inl v_holders))] H := hP
        have hD : va_D A [(h_p0, .inr (0, [.ref h_p0_holders, .ref h_p0_ends])), (h_p0_ends, .inl (cyI, 3, .inl v_ends)), (h_p0_holders, .inl (cyI, 162, .inl v_holders))] := hD
        refine lv_iadd hx hb dX0_allOpen_16 ?_
        refine lv_istore_n hx hb dX0_allOpen_17 rfl hl (by decide) (rfl : _ = ([(1, .int (x1 + r2)), (0, .ref h_p0), (2, .int x2)] : List (Nat × Value))) (fun ls hl => ?_)
        refine lv_iinc (v := (x2 + iI 1)) hx hb dX0_allOpen_18 hl (k := 2) rfl rfl (by decide) (rfl : _ = ([(2, .int (x2 + iI 1)), (1, .int (x1 + r2)), (0, .ref h_p0)] : List (Nat × Value))) (fun ls hl => ?_)
        refine lv_goto (tgt := 4) hx hb dX0_allOpen_21 (by decide) ?_
        exact ih (x1 + r2) (x2 + iI 1) _ _ hP hD hS ls (lv_sub hl [2, 1, 0] rfl) h
  have hl := lv_entry ([.ref h_p0]) (n := 3) (Nat.le_of_ble_eq_true rfl)
  rw [lg_entry_eq]
  generalize (lg_sl ([.ref h_p0]) ++ List.replicate (3 - (lg_sl ([.ref h_p0])).length) Slot.unset).toArray = ls at hl ⊢
  have hl : lv_has ls 3 [(0, .ref h_p0)] := hl
  unfold s_X0_allOpen at h
  refine lv_iconst (v := iI 0) hx hb dX0_allOpen_0 rfl ?_
  refine lv_istore_n hx hb dX0_allOpen_1 rfl hl (by decide) (rfl : _ = ([(1, .int (iI 0)), (0, .ref h_p0)] : List (Nat × Value))) (fun ls hl => ?_)
  refine lv_iconst (v := iI 0) hx hb dX0_allOpen_2 rfl ?_
  refine lv_istore_n hx hb dX0_allOpen_3 rfl hl (by decide) (rfl : _ = ([(2, .int (iI 0)), (1, .int (iI 0)), (0, .ref h_p0)] : List (Nat × Value))) (fun ls hl => ?_)
  exact L4 n (iI 0) (iI 0) _ _ hP hD hS ls (lv_sub hl [2, 1, 0] rfl) h
def s_X6_fullness (n : Nat) (v_ends : Nat → Int32) (v_holders : Nat → Int32) : Option (UInt64) := ((s_X0_allHad n v_holders).bind fun r1 => ((s_X0_allOpen n v_ends v_holders).bind fun r4 => (if (r1 + r4) = 0 then (some (FP.dconst0)) else (if nn64 (FP.ddiv (FP.i2d r1) (FP.i2d (r1 + r4))) = true then (some ((FP.ddiv (FP.i2d r1) (FP.i2d (r1 + r4))))) else none))))
set_option maxRecDepth 20000 in
theorem m_X6_fullness_0 : ∀ w ∈ u_ws RX6 TX6 3, w ∈ wsX6_fullness := by decide +kernel
set_option maxRecDepth 20000 in
theorem m_X6_fullness_1 : (.fieldLink RX6 12 "SleeperBerths" "train" "LSleeperBerths$Train;" : Cond) ∈ wsX6_fullness := by decide +kernel
set_option maxRecDepth 20000 in
theorem m_X6_fullness_2 : ∀ w ∈ u_ws RX5 TX5 6, w ∈ wsX6_fullness := by decide +kernel
set_option maxRecDepth 20000 in
theorem m_X6_fullness_3 : (.fieldLink RX6 121 "SleeperBerths$Train" "berths" "LSleeperBerths$Berths;" : Cond) ∈ wsX6_fullness := by decide +kernel
set_option maxHeartbeats 4000000 in
set_option maxRecDepth 100000 in
theorem c_X6_fullness (l : Launch) (dC : Nat → ClassId) (dI : Nat → Nat → Nat) (cyI cyJ cyT : ClassId) (h_p0 : Nat) (h_p0_train : Nat) (h_p0_history : Nat) (h_p0_text : Nat) (h_p0_train_berths : Nat) (h_p0_train_roster : Nat) (h_p0_train_settings : Nat) (h_p0_train_berths_holders : Nat) (h_p0_train_berths_ends : Nat) (sz : Nat) (v_nextNumber : Int32) (v_bookings : Int32) (v_leftOut : Int32) (v_ends : Nat → Int32) (v_holders : Nat → Int32) (n : Nat) (o : UInt64) (h : s_X6_fullness n v_ends v_holders = some o) : Met l yX6_fullness wsX6_fullness ({ frames := 3, cells := 0, slots := 0, locals := 69 }) (va_Pc [.ref h_p0] (PRE (dC, dI) (TYS cyI cyJ cyT) sz [(h_p0, .inr (6, [.ref h_p0_train, .ref h_p0_history, .ref h_p0_text])), (h_p0_train, .inr (5, [.ref h_p0_train_berths, .ref h_p0_train_roster, .ref h_p0_train_settings, .int v_nextNumber, .int v_bookings, .int v_leftOut])), (h_p0_train_berths, .inr (0, [.ref h_p0_train_berths_holders, .ref h_p0_train_berths_ends])), (h_p0_train_berths_ends, .inl (cyI, 3, .inl v_ends)), (h_p0_train_berths_holders, .inl (cyI, 162, .inl v_holders))])) (va_Qd (S := Unit) (fun r _ => r = o) (fun _ t => WLD (dC, dI) (va_A [(h_p0, .inr (6, [.ref h_p0_train, .ref h_p0_history, .ref h_p0_text])), (h_p0_train, .inr (5, [.ref h_p0_train_berths, .ref h_p0_train_roster, .ref h_p0_train_settings, .int v_nextNumber, .int v_bookings, .int v_leftOut])), (h_p0_train_berths, .inr (0, [.ref h_p0_train_berths_holders, .ref h_p0_train_berths_ends])), (h_p0_train_berths_ends, .inl (cyI, 3, .inl v_ends)), (h_p0_train_berths_holders, .inl (cyI, 162, .inl v_holders))] sz) [(h_p0, .inr (6, [.ref h_p0_train, .ref h_p0_history, .ref h_p0_text])), (h_p0_train, .inr (5, [.ref h_p0_train_berths, .ref h_p0_train_roster, .ref h_p0_train_settings, .int v_nextNumber, .int v_bookings, .int v_leftOut])), (h_p0_train_berths, .inr (0, [.ref h_p0_train_berths_holders, .ref h_p0_train_berths_ends])), (h_p0_train_berths_ends, .inl (cyI, 3, .inl v_ends)), (h_p0_train_berths_holders, .inl (cyI, 162, .inl v_holders))] t) (va_A [(h_p0, .inr (6, [.ref h_p0_train, .ref h_p0_history, .ref h_p0_text])), (h_p0_train, .inr (5, [.ref h_p0_train_berths, .ref h_p0_train_roster, .ref h_p0_train_settings, .int v_nextNumber, .int v_bookings, .int v_leftOut])), (h_p0_train_berths, .inr (0, [.ref h_p0_train_berths_holders, .ref h_p0_train_berths_ends])), (h_p0_train_berths_ends, .inl (cyI, 3, .inl v_ends)), (h_p0_train_berths_holders, .inl (cyI, 162, .inl v_holders))] sz)) 0 0 (va_A [(h_p0, .inr (6, [.ref h_p0_train, .ref h_p0_history, .ref h_p0_text])), (h_p0_train, .inr (5, [.ref h_p0_train_berths, .ref h_p0_train_roster, .ref h_p0_train_settings, .int v_nextNumber, .int v_bookings, .int v_leftOut])), (h_p0_train_berths, .inr (0, [.ref h_p0_train_berths_holders, .ref h_p0_train_berths_ends])), (h_p0_train_berths_ends, .inl (cyI, 3, .inl v_ends)), (h_p0_train_berths_holders, .inl (cyI, 162, .inl v_holders))] sz) := by
  refine Met.ofW (cc := cX6_fullness) (maxL := 3) (ret := (some .double)) (by decide) rfl ?_
  intro p e s m args below meth c s₁ B hml hv
  obtain ⟨rfl, hsz, hP, hK, hD0, hNW⟩ := hv
  have hx := B.exec
  have hb := B.bytes
  have hr := B.returns
  have hts := atoms_spec (ws := wsX6_fullness) B.pre
  have hown : s.vm.findClass RX6 = some m.cls := findClass_of_methodNamed B.named
  have hlocks := B.notSynchronized
  subst hsz
  have hD := hD0.self (sz := s.heap.size)
  generalize hAe : va_A [(h_p0, .inr (6, [.ref h_p0_train, .ref h_p0_history, .ref h_p0_text])), (h_p0_train, .inr (5, [.ref h_p0_train_berths, .ref h_p0_train_roster, .ref h_p0_train_settings, .int v_nextNumber, .int v_bookings, .int v_leftOut])), (h_p0_train_berths, .inr (0, [.ref h_p0_train_berths_holders, .ref h_p0_train_berths_ends])), (h_p0_train_berths_ends, .inl (cyI, 3, .inl v_ends)), (h_p0_train_berths_holders, .inl (cyI, 162, .inl v_holders))] s.heap.size = A at hD ⊢
  have hA : ∀ q : Nat, s.heap.size ≤ q → A q := fun q h => by rw [← hAe]; exact Or.inr h
  have hS : va_S A s.heap s.heap [] := va_S.rf
  have hP : va_P (dC, dI) vwCl [(h_p0, .inr (6, [.ref h_p0_train, .ref h_p0_history, .ref h_p0_text])), (h_p0_train, .inr (5, [.ref h_p0_train_berths, .ref h_p0_train_roster, .ref h_p0_train_settings, .int v_nextNumber, .int v_bookings, .int v_leftOut])), (h_p0_train_berths, .inr (0, [.ref h_p0_train_berths_holders, .ref h_p0_train_berths_ends])), (h_p0_train_berths_ends, .inl (cyI, 3, .inl v_ends)), (h_p0_train_berths_holders, .inl (cyI, 162, .inl v_holders))] s.heap := hP
  have hl := lv_entry ([.ref h_p0]) (n := 3) (Nat.le_of_ble_eq_true rfl)
  rw [lg_entry_eq]
  generalize (lg_sl ([.ref h_p0]) ++ List.replicate (3 - (lg_sl ([.ref h_p0])).length) Slot.unset).toArray = ls at hl ⊢
  have hl : lv_has ls 3 [(0, .ref h_p0)] := hl
  unfold s_X6_fullness at h
  refine lv_aload_n hx hb dX6_fullness_0 rfl (lv_at hl 0 rfl) ?_
  refine va_get (D := (dC, dI)) (ci := 6) (v := .ref h_p0_train) (C := RX6) (T := TX6) (N := 3) hx hb hts m_X6_fullness_0 hown hK hP 0 rfl rfl 0 (by decide) (hts (.fieldLink RX6 12 "SleeperBerths" "train" "LSleeperBerths$Train;") m_X6_fullness_1) (fun _ h9 => h9) rfl dX6_fullness_1 ?_
  refine va_get (D := (dC, dI)) (ci := 5) (v := .ref h_p0_train_berths) (C := RX5) (T := TX5) (N := 6) hx hb hts m_X6_fullness_2 hown hK hP 1 rfl rfl 0 (by decide) (hts (.fieldLink RX6 121 "SleeperBerths$Train" "berths" "LSleeperBerths$Berths;") m_X6_fullness_3) (fun _ h9 => h9) rfl dX6_fullness_4 ?_
  obtain ⟨r1, e2, h⟩ := bsome h
  have hPc := sb_P [(h_p0_train_berths, .inr (0, [.ref h_p0_train_berths_holders, .ref h_p0_train_berths_ends])), (h_p0_train_berths_holders, .inl (cyI, 162, .inl v_holders))] hP [2, 4] rfl
  have hDc := sb_D [(h_p0_train_berths, .inr (0, [.ref h_p0_train_berths_holders, .ref h_p0_train_berths_ends])), (h_p0_train_berths_holders, .inl (cyI, 162, .inl v_holders))] hD [2, 4] (by decide) rfl
  have hFc := va_free (wc := [(h_p0_train_berths, .inr (0, [.ref h_p0_train_berths_holders, .ref h_p0_train_berths_ends])), (h_p0_train_berths_holders, .inl (cyI, 162, .inl v_holders))]) hD hS hA [2, 4] rfl
  refine va_calli (va_runV (As := []) (rest := []) ⟨hx, hb, hml, hown, hts⟩ (c_X0_allHad l dC dI cyI cyJ cyT h_p0_train_berths h_p0_train_berths_holders h_p0_train_berths_ends s.heap.size v_holders n r1 e2) (cwV 0 hts gX6_fullness_X0_allHad rfl rfl rfl (by decide +kernel) ⟨Nat.le_of_ble_eq_true rfl, Nat.le_of_ble_eq_true rfl⟩) ⟨PRE.blind, va_recv hK hPc (ci := 0) (q0 := 0) rfl rfl, PRE.go hK hPc hDc hNW⟩ rfl rfl hl.1 rfl (lv_room (Nat.le_of_ble_eq_true rfl)) dX6_fullness_7 ⟨Nat.zero_le _, Nat.zero_le _⟩) hS (fun q _ h => hFc q h) hFc (fun z3 u t H locs ht hvm hw hB hz1 hk1 hS => ?_)
  subst z3
  obtain ⟨hP, hD⟩ := va_join (wr := [(h_p0, .inr (6, [.ref h_p0_train, .ref h_p0_history, .ref h_p0_text])), (h_p0_train, .inr (5, [.ref h_p0_train_berths, .ref h_p0_train_roster, .ref h_p0_train_settings, .int v_nextNumber, .int v_bookings, .int v_leftOut])), (h_p0_train_berths_ends, .inl (cyI, 3, .inl v_ends))]) (w1 := [(h_p0_train_berths, .inr (0, [.ref h_p0_train_berths_holders, .ref h_p0_train_berths_ends])), (h_p0_train_berths_holders, .inl (cyI, 162, .inl v_holders))]) hP hD [2, 4] [0, 1, 3] rfl rfl (by decide) (by decide) hk1 hFc (WLD.P hB ht) hB.2
  have hP : va_P (dC, dI) vwCl [(h_p0, .inr (6, [.ref h_p0_train, .ref h_p0_history, .ref h_p0_text])), (h_p0_train, .inr (5, [.ref h_p0_train_berths, .ref h_p0_train_roster, .ref h_p0_train_settings, .int v_nextNumber, .int v_bookings, .int v_leftOut])), (h_p0_train_berths_ends, .inl (cyI, 3, .inl v_ends)), (h_p0_train_berths, .inr (0, [.ref h_p0_train_berths_holders, .ref h_p0_train_berths_ends])), (h_p0_train_berths_holders, .inl (cyI, 162, .inl v_holders))] H := hP
  have hD : va_D A [(h_p0, .inr (6, [.ref h_p0_train, .ref h_p0_history, .ref h_p0_text])), (h_p0_train, .inr (5, [.ref h_p0_train_berths, .ref h_p0_train_roster, .ref h_p0_train_settings, .int v_nextNumber, .int v_bookings, .int v_leftOut])), (h_p0_train_berths_ends, .inl (cyI, 3, .inl v_ends)), (h_p0_train_berths, .inr (0, [.ref h_p0_train_berths_holders, .ref h_p0_train_berths_ends])), (h_p0_train_berths_holders, .inl (cyI, 162, .inl v_holders))] := hD
  refine lv_istore_n hx hb dX6_fullness_10 rfl hl (by decide) (rfl : _ = ([(1, .int r1), (0, .ref h_p0)] : List (Nat × Value))) (fun ls hl => ?_)
  refine lv_iload_n hx hb dX6_fullness_11 rfl (lv_at hl 0 rfl) ?_
  refine lv_aload_n hx hb dX6_fullness_12 rfl (lv_at hl 1 rfl) ?_
  refine va_get (D := (dC, dI)) (ci := 6) (v := .ref h_p0_train) (C := RX6) (T := TX6) (N := 3) hx hb hts m_X6_fullness_0 hown hK hP 0 rfl rfl 0 (by decide) (hts (.fieldLink RX6 12 "SleeperBerths" "train" "LSleeperBerths$Train;") m_X6_fullness_1) (fun _ h9 => h9) rfl dX6_fullness_13 ?_
  refine va_get (D := (dC, dI)) (ci := 5) (v := .ref h_p0_train_berths) (C := RX5) (T := TX5) (N := 6) hx hb hts m_X6_fullness_2 hown hK hP 1 rfl rfl 0 (by decide) (hts (.fieldLink RX6 121 "SleeperBerths$Train" "berths" "LSleeperBerths$Berths;") m_X6_fullness_3) (fun _ h9 => h9) rfl dX6_fullness_16 ?_
  obtain ⟨r4, e5, h⟩ := bsome h
  have hPc := sb_P [(h_p0_train_berths, .inr (0, [.ref h_p0_train_berths_holders, .ref h_p0_train_berths_ends])), (h_p0_train_berths_ends, .inl (cyI, 3, .inl v_ends)), (h_p0_train_berths_holders, .inl (cyI, 162, .inl v_holders))] hP [3, 2, 4] rfl
  have hDc := sb_D [(h_p0_train_berths, .inr (0, [.ref h_p0_train_berths_holders, .ref h_p0_train_berths_ends])), (h_p0_train_berths_ends, .inl (cyI, 3, .inl v_ends)), (h_p0_train_berths_holders, .inl (cyI, 162, .inl v_holders))] hD [3, 2, 4] (by decide) rfl
  have hFc := va_free (wc := [(h_p0_train_berths, .inr (0, [.ref h_p0_train_berths_holders, .ref h_p0_train_berths_ends])), (h_p0_train_berths_ends, .inl (cyI, 3, .inl v_ends)), (h_p0_train_berths_holders, .inl (cyI, 162, .inl v_holders))]) hD hS hA [3, 2, 4] rfl
  refine va_calli (va_runV (As := []) (rest := [.int r1]) ⟨hx, hb, hml, hown, hts⟩ (c_X0_allOpen l dC dI cyI cyJ cyT h_p0_train_berths h_p0_train_berths_holders h_p0_train_berths_ends H.size v_ends v_holders n r4 e5) (cwV 0 hts gX6_fullness_X0_allOpen rfl rfl rfl (by decide +kernel) ⟨Nat.le_of_ble_eq_true rfl, Nat.le_of_ble_eq_true rfl⟩) ⟨PRE.blind, va_recv hK hPc (ci := 0) (q0 := 0) rfl rfl, PRE.go hK hPc hDc hNW⟩ rfl rfl hl.1 rfl (lv_room (Nat.le_of_ble_eq_true rfl)) dX6_fullness_19 ⟨Nat.zero_le _, Nat.zero_le _⟩) hS (fun q _ h => hFc q h) hFc (fun z6 u t H locs ht hvm hw hB hz1 hk1 hS => ?_)
  subst z6
  obtain ⟨hP, hD⟩ := va_join (wr := [(h_p0, .inr (6, [.ref h_p0_train, .ref h_p0_history, .ref h_p0_text])), (h_p0_train, .inr (5, [.ref h_p0_train_berths, .ref h_p0_train_roster, .ref h_p0_train_settings, .int v_nextNumber, .int v_bookings, .int v_leftOut]))]) (w1 := [(h_p0_train_berths, .inr (0, [.ref h_p0_train_berths_holders, .ref h_p0_train_berths_ends])), (h_p0_train_berths_ends, .inl (cyI, 3, .inl v_ends)), (h_p0_train_berths_holders, .inl (cyI, 162, .inl v_holders))]) hP hD [3, 2, 4] [0, 1] rfl rfl (by decide) (by decide) hk1 hFc (WLD.P hB ht) hB.2
  have hP : va_P (dC, dI) vwCl [(h_p0, .inr (6, [.ref h_p0_train, .ref h_p0_history, .ref h_p0_text])), (h_p0_train, .inr (5, [.ref h_p0_train_berths, .ref h_p0_train_roster, .ref h_p0_train_settings, .int v_nextNumber, .int v_bookings, .int v_leftOut])), (h_p0_train_berths, .inr (0, [.ref h_p0_train_berths_holders, .ref h_p0_train_berths_ends])), (h_p0_train_berths_ends, .inl (cyI, 3, .inl v_ends)), (h_p0_train_berths_holders, .inl (cyI, 162, .inl v_holders))] H := hP
  have hD : va_D A [(h_p0, .inr (6, [.ref h_p0_train, .ref h_p0_history, .ref h_p0_text])), (h_p0_train, .inr (5, [.ref h_p0_train_berths, .ref h_p0_train_roster, .ref h_p0_train_settings, .int v_nextNumber, .int v_bookings, .int v_leftOut])), (h_p0_train_berths, .inr (0, [.ref h_p0_train_berths_holders, .ref h_p0_train_berths_ends])), (h_p0_train_berths_ends, .inl (cyI, 3, .inl v_ends)), (h_p0_train_berths_holders, .inl (cyI, 162, .inl v_holders))] := hD
  refine lv_iadd hx hb dX6_fullness_22 ?_
  refine lv_istore_n hx hb dX6_fullness_23 rfl hl (by decide) (rfl : _ = ([(2, .int (r1 + r4)), (1, .int r1), (0, .ref h_p0)] : List (Nat × Value))) (fun ls hl => ?_)
  refine lv_iload_n hx hb dX6_fullness_24 rfl (lv_at hl 0 rfl) ?_
  refine lv_if_ne (tgt := 32) hx hb dX6_fullness_25 (by decide) (fun c7 => ?_) (fun c7 => ?_)
  · have h := ineg c7 h
    refine lv_iload_n hx hb dX6_fullness_32 rfl (lv_at hl 1 rfl) ?_
    refine lv_i2d hx hb dX6_fullness_33 ?_
    refine lv_iload_n hx hb dX6_fullness_34 rfl (lv_at hl 0 rfl) ?_
    refine lv_i2d hx hb dX6_fullness_35 ?_
    obtain ⟨g8, h⟩ := nsome h
    refine lv_ddiv hx hb dX6_fullness_36 g8 ?_
    obtain rfl := Option.some.inj h
    exact W.dret (v := (FP.ddiv (FP.i2d r1) (FP.i2d (r1 + r4)))) hx hb hr (fun t ht hW => ⟨⟨(FP.ddiv (FP.i2d r1) (FP.i2d (r1 + r4))), (), rfl, rfl, WLD.of ht hP hD⟩, hS.F ht⟩) hS.2.2 dX6_fullness_37
  · have h := ipos c7 h
    refine lv_dconst0 hx hb dX6_fullness_28 ?_
    refine lv_goto (tgt := 37) hx hb dX6_fullness_29 (by decide) ?_
    obtain rfl := Option.some.inj h
    exact W.dret (v := FP.dconst0) hx hb hr (fun t ht hW => ⟨⟨FP.dconst0, (), rfl, rfl, WLD.of ht hP hD⟩, hS.F ht⟩) hS.2.2 dX6_fullness_37
def s_X6_mix (a0 : Int64) (a1 : Int64) : Option (Int64) := (some ((((31 : Int64) * a0) + a1)))
set_option maxRecDepth 20000 in
theorem m_X6_mix_0 : (.constantLong RX6 313 31 : Cond) ∈ wsX6_mix := by decide +kernel
set_option maxHeartbeats 4000000 in
set_option maxRecDepth 100000 in
theorem c_X6_mix (l : Launch) (dC : Nat → ClassId) (dI : Nat → Nat → Nat) (cyI cyJ cyT : ClassId)  (sz : Nat) (a0 : Int64) (a1 : Int64) (o : Int64) (h : s_X6_mix a0 a1 = some o) : Met l yX6_mix wsX6_mix ({ frames := 0, cells := 0, slots := 0, locals := 0 }) (va_Pc [.long a0, .long a1] (PRE (dC, dI) (TYS cyI cyJ cyT) sz [])) (va_Ql (S := Unit) (fun r _ => r = o) (fun _ t => WLD (dC, dI) (va_A [] sz) [] t) (va_A [] sz)) 0 0 (va_A [] sz) := by
  refine Met.ofW (cc := cX6_mix) (maxL := 4) (ret := (some .long)) (by decide) rfl ?_
  intro p e s m args below meth c s₁ B hml hv
  obtain ⟨rfl, hsz, hP, hK, hD0, hNW⟩ := hv
  have hx := B.exec
  have hb := B.bytes
  have hr := B.returns
  have hts := atoms_spec (ws := wsX6_mix) B.pre
  have hown : s.vm.findClass RX6 = some m.cls := findClass_of_methodNamed B.named
  have hlocks := B.notSynchronized
  subst hsz
  have hD := hD0.self (sz := s.heap.size)
  generalize hAe : va_A [] s.heap.size = A at hD ⊢
  have hA : ∀ q : Nat, s.heap.size ≤ q → A q := fun q h => by rw [← hAe]; exact Or.inr h
  have hS : va_S A s.heap s.heap [] := va_S.rf
  have hP : va_P (dC, dI) vwCl [] s.heap := hP
  have hl := lv_entry ([.long a0, .long a1]) (n := 4) (Nat.le_of_ble_eq_true rfl)
  rw [lg_entry_eq]
  generalize (lg_sl ([.long a0, .long a1]) ++ List.replicate (4 - (lg_sl ([.long a0, .long a1])).length) Slot.unset).toArray = ls at hl ⊢
  have hl : lv_has ls 4 [(0, .long a0), (2, .long a1)] := hl
  unfold s_X6_mix at h
  refine lv_ldc2 (v := 31) hx hb hown (hts (.constantLong RX6 313 31) m_X6_mix_0) dX6_mix_0 ?_
  refine lv_lload_n hx hb dX6_mix_3 rfl (lv_at hl 0 rfl) ?_
  refine lv_lmul hx hb dX6_mix_4 ?_
  refine lv_lload_n hx hb dX6_mix_5 rfl (lv_at hl 1 rfl) ?_
  refine lv_ladd hx hb dX6_mix_6 ?_
  obtain rfl := Option.some.inj h
  exact W.lret (v := (((31 : Int64) * a0) + a1)) hx hb hr (fun t ht hW => ⟨⟨(((31 : Int64) * a0) + a1), (), rfl, rfl, WLD.of ht hP hD⟩, hS.F ht⟩) hS.2.2 dX6_mix_7
