def s_X0_endOf (v_ends : Nat → Int32) (a1 : Int32) : Option (Int32) := ((s_X6_read 3 v_ends a1).bind fun r1 => (some (r1)))
set_option maxRecDepth 20000 in
theorem m_X0_endOf_0 : ∀ w ∈ u_ws RX0 TX0 2, w ∈ wsX0_endOf := by decide +kernel
set_option maxRecDepth 20000 in
theorem m_X0_endOf_1 : (.fieldLink RX0 15 "SleeperBerths$Berths" "ends" "[I" : Cond) ∈ wsX0_endOf := by decide +kernel
set_option maxRecDepth 20000 in
theorem m_X0_endOf_2 : (.initialized RX6 : Cond) ∈ wsX0_endOf := by decide +kernel
set_option maxRecDepth 20000 in
theorem m_X0_endOf_3 : (.static yX6_read : Cond) ∈ wsX0_endOf := by decide +kernel
set_option maxHeartbeats 4000000 in
set_option maxRecDepth 100000 in
theorem c_X0_endOf (l : Launch) (dC : Nat → ClassId) (dI : Nat → Nat → Nat) (cyI cyJ cyT : ClassId) (h_p0 : Nat) (h_p0_holders : Nat) (h_p0_ends : Nat) (sz : Nat) (v_ends : Nat → Int32) (a1 : Int32) (o : Int32) (h : s_X0_endOf v_ends a1 = some o) : Met l yX0_endOf wsX0_endOf ({ frames := 1, cells := 0, slots := 0, locals := 21 }) (va_Pc [.ref h_p0, .int a1] (PRE (dC, dI) (TYS cyI cyJ cyT) sz [(h_p0, .inr (0, [.ref h_p0_holders, .ref h_p0_ends])), (h_p0_ends, .inl (cyI, 3, .inl v_ends))])) (va_Qi (S := Unit) (fun r _ => r = o) (fun _ t => WLD (dC, dI) (va_A [(h_p0, .inr (0, [.ref h_p0_holders, .ref h_p0_ends])), (h_p0_ends, .inl (cyI, 3, .inl v_ends))] sz) [(h_p0, .inr (0, [.ref h_p0_holders, .ref h_p0_ends])), (h_p0_ends, .inl (cyI, 3, .inl v_ends))] t) (va_A [(h_p0, .inr (0, [.ref h_p0_holders, .ref h_p0_ends])), (h_p0_ends, .inl (cyI, 3, .inl v_ends))] sz)) 0 0 (va_A [(h_p0, .inr (0, [.ref h_p0_holders, .ref h_p0_ends])), (h_p0_ends, .inl (cyI, 3, .inl v_ends))] sz) := by
  refine Met.ofW (cc := cX0_endOf) (maxL := 2) (ret := (some .int)) (by decide) rfl ?_
  intro p e s m args below meth c s₁ B hml hv
  obtain ⟨rfl, hsz, hP, hK, hD0, hNW⟩ := hv
  have hx := B.exec
  have hb := B.bytes
  have hr := B.returns
  have hts := atoms_spec (ws := wsX0_endOf) B.pre
  have hown : s.vm.findClass RX0 = some m.cls := findClass_of_methodNamed B.named
  have hlocks := B.notSynchronized
  subst hsz
  have hD := hD0.self (sz := s.heap.size)
  generalize hAe : va_A [(h_p0, .inr (0, [.ref h_p0_holders, .ref h_p0_ends])), (h_p0_ends, .inl (cyI, 3, .inl v_ends))] s.heap.size = A at hD ⊢
  have hA : ∀ q : Nat, s.heap.size ≤ q → A q := fun q h => by rw [← hAe]; exact Or.inr h
  have hS : va_S A s.heap s.heap [] := va_S.rf
  have hP : va_P (dC, dI) vwCl [(h_p0, .inr (0, [.ref h_p0_holders, .ref h_p0_ends])), (h_p0_ends, .inl (cyI, 3, .inl v_ends))] s.heap := hP
  have hl := lv_entry ([.ref h_p0, .int a1]) (n := 2) (Nat.le_of_ble_eq_true rfl)
  rw [lg_entry_eq]
  generalize (lg_sl ([.ref h_p0, .int a1]) ++ List.replicate (2 - (lg_sl ([.ref h_p0, .int a1])).length) Slot.unset).toArray = ls at hl ⊢
  have hl : lv_has ls 2 [(0, .ref h_p0), (1, .int a1)] := hl
  unfold s_X0_endOf at h
  refine lv_aload_n hx hb dX0_endOf_0 rfl (lv_at hl 0 rfl) ?_
  refine va_get (D := (dC, dI)) (ci := 0) (v := .ref h_p0_ends) (C := RX0) (T := TX0) (N := 2) hx hb hts m_X0_endOf_0 hown hK hP 0 rfl rfl 1 (by decide) (hts (.fieldLink RX0 15 "SleeperBerths$Berths" "ends" "[I") m_X0_endOf_1) (fun _ h9 => h9) rfl dX0_endOf_1 ?_
  refine lv_iload_n hx hb dX0_endOf_4 rfl (lv_at hl 1 rfl) ?_
  obtain ⟨r1, e2, h⟩ := bsome h
  have hPc := sb_P [(h_p0_ends, .inl (cyI, 3, .inl v_ends))] hP [1] rfl
  have hDc := sb_D [(h_p0_ends, .inl (cyI, 3, .inl v_ends))] hD [1] (by decide) rfl
  have hFc := va_free (wc := [(h_p0_ends, .inl (cyI, 3, .inl v_ends))]) hD hS hA [1] rfl
  refine va_calli (va_runSN (As := [.ref h_p0_ends, .int a1]) (rest := []) ⟨hx, hb, hml, hown, hts⟩ (c_X6_read l dC dI cyI cyJ cyT h_p0_ends s.heap.size 3 v_ends a1 r1 e2) ⟨va_cnB (host := "SleeperBerths") 2 hts gX0_endOf_X6_read_n22 rfl rfl rfl (hNW 6 rfl) (hts (.initialized RX6) m_X0_endOf_2) (by decide +kernel) ⟨Nat.le_of_ble_eq_true rfl, Nat.le_of_ble_eq_true rfl⟩, (hts (.static yX6_read) m_X0_endOf_3), trivial⟩ ⟨PRE.blind, PRE.go hK hPc hDc hNW⟩ rfl rfl hl.1 rfl (lv_room (Nat.le_of_ble_eq_true rfl)) dX0_endOf_5 ⟨Nat.zero_le _, Nat.zero_le _⟩) hS (fun q _ h => hFc q h) hFc (fun z3 u t H locs ht hvm hw hB hz1 hk1 hS => ?_)
  subst z3
  obtain ⟨hP, hD⟩ := va_join (wr := [(h_p0, .inr (0, [.ref h_p0_holders, .ref h_p0_ends]))]) (w1 := [(h_p0_ends, .inl (cyI, 3, .inl v_ends))]) hP hD [1] [0] rfl rfl (by decide) (by decide) hk1 hFc (WLD.P hB ht) hB.2
  have hP : va_P (dC, dI) vwCl [(h_p0, .inr (0, [.ref h_p0_holders, .ref h_p0_ends])), (h_p0_ends, .inl (cyI, 3, .inl v_ends))] H := hP
  have hD : va_D A [(h_p0, .inr (0, [.ref h_p0_holders, .ref h_p0_ends])), (h_p0_ends, .inl (cyI, 3, .inl v_ends))] := hD
  obtain rfl := Option.some.inj h
  exact W.iret (v := r1) hx hb hr (fun t ht hW => ⟨⟨r1, (), rfl, rfl, WLD.of ht hP hD⟩, hS.F ht⟩) hS.2.2 dX0_endOf_8
def s_X6_goesTo (v_ends : Nat → Int32) (a1 : Int32) : Option (Nat × Int32) := ((s_X6_requireCoach a1).bind fun r1 => (if r1 = 0 then ((s_X0_endOf v_ends a1).bind fun r4 => (some (0, r4))) else (some (r1, 0))))
set_option maxRecDepth 20000 in
theorem m_X6_goesTo_0 : ∀ w ∈ u_ws RX6 TX6 3, w ∈ wsX6_goesTo := by decide +kernel
set_option maxRecDepth 20000 in
theorem m_X6_goesTo_1 : (.fieldLink RX6 12 "SleeperBerths" "train" "LSleeperBerths$Train;" : Cond) ∈ wsX6_goesTo := by decide +kernel
set_option maxRecDepth 20000 in
theorem m_X6_goesTo_2 : ∀ w ∈ u_ws RX5 TX5 6, w ∈ wsX6_goesTo := by decide +kernel
set_option maxRecDepth 20000 in
theorem m_X6_goesTo_3 : (.fieldLink RX6 121 "SleeperBerths$Train" "berths" "LSleeperBerths$Berths;" : Cond) ∈ wsX6_goesTo := by decide +kernel
set_option maxHeartbeats 4000000 in
set_option maxRecDepth 100000 in
theorem c_X6_goesTo (l : Launch) (hl0 : l.stackTraces = false) (dC : Nat → ClassId) (dI : Nat → Nat → Nat) (cyI cyJ cyT : ClassId) (h_p0 : Nat) (h_p0_train : Nat) (h_p0_history : Nat) (h_p0_text : Nat) (h_p0_train_berths : Nat) (h_p0_train_roster : Nat) (h_p0_train_settings : Nat) (h_p0_train_berths_holders : Nat) (h_p0_train_berths_ends : Nat) (sz : Nat) (v_nextNumber : Int32) (v_bookings : Int32) (v_leftOut : Int32) (v_ends : Nat → Int32) (a1 : Int32) (o : Nat × Int32) (h : s_X6_goesTo v_ends a1 = some o) : vx_Met l yX6_goesTo wsX6_goesTo ({ frames := 7, cells := 1, slots := 6, locals := 110 }) (va_Pc [.ref h_p0, .int a1] (PREX (dC, dI) (TYS cyI cyJ cyT) sz [(h_p0, .inr (6, [.ref h_p0_train, .ref h_p0_history, .ref h_p0_text])), (h_p0_train, .inr (5, [.ref h_p0_train_berths, .ref h_p0_train_roster, .ref h_p0_train_settings, .int v_nextNumber, .int v_bookings, .int v_leftOut])), (h_p0_train_berths, .inr (0, [.ref h_p0_train_berths_holders, .ref h_p0_train_berths_ends])), (h_p0_train_berths_ends, .inl (cyI, 3, .inl v_ends))])) (va_Qi (S := Unit) (fun r _ => o.1 = 0 ∧ r = o.2) (fun _ t => WLD (dC, dI) (va_A [(h_p0, .inr (6, [.ref h_p0_train, .ref h_p0_history, .ref h_p0_text])), (h_p0_train, .inr (5, [.ref h_p0_train_berths, .ref h_p0_train_roster, .ref h_p0_train_settings, .int v_nextNumber, .int v_bookings, .int v_leftOut])), (h_p0_train_berths, .inr (0, [.ref h_p0_train_berths_holders, .ref h_p0_train_berths_ends])), (h_p0_train_berths_ends, .inl (cyI, 3, .inl v_ends))] sz) [(h_p0, .inr (6, [.ref h_p0_train, .ref h_p0_history, .ref h_p0_text])), (h_p0_train, .inr (5, [.ref h_p0_train_berths, .ref h_p0_train_roster, .ref h_p0_train_settings, .int v_nextNumber, .int v_bookings, .int v_leftOut])), (h_p0_train_berths, .inr (0, [.ref h_p0_train_berths_holders, .ref h_p0_train_berths_ends])), (h_p0_train_berths_ends, .inl (cyI, 3, .inl v_ends))] t) (va_A [(h_p0, .inr (6, [.ref h_p0_train, .ref h_p0_history, .ref h_p0_text])), (h_p0_train, .inr (5, [.ref h_p0_train_berths, .ref h_p0_train_roster, .ref h_p0_train_settings, .int v_nextNumber, .int v_bookings, .int v_leftOut])), (h_p0_train_berths, .inr (0, [.ref h_p0_train_berths_holders, .ref h_p0_train_berths_ends])), (h_p0_train_berths_ends, .inl (cyI, 3, .inl v_ends))] sz)) (vx_X (S := Unit) (fun _ => True) (fun E _ t => XWL (dC, dI) (va_A [(h_p0, .inr (6, [.ref h_p0_train, .ref h_p0_history, .ref h_p0_text])), (h_p0_train, .inr (5, [.ref h_p0_train_berths, .ref h_p0_train_roster, .ref h_p0_train_settings, .int v_nextNumber, .int v_bookings, .int v_leftOut])), (h_p0_train_berths, .inr (0, [.ref h_p0_train_berths_holders, .ref h_p0_train_berths_ends])), (h_p0_train_berths_ends, .inl (cyI, 3, .inl v_ends))] sz) o.1 E [(h_p0, .inr (6, [.ref h_p0_train, .ref h_p0_history, .ref h_p0_text])), (h_p0_train, .inr (5, [.ref h_p0_train_berths, .ref h_p0_train_roster, .ref h_p0_train_settings, .int v_nextNumber, .int v_bookings, .int v_leftOut])), (h_p0_train_berths, .inr (0, [.ref h_p0_train_berths_holders, .ref h_p0_train_berths_ends])), (h_p0_train_berths_ends, .inl (cyI, 3, .inl v_ends))] t) (va_A [(h_p0, .inr (6, [.ref h_p0_train, .ref h_p0_history, .ref h_p0_text])), (h_p0_train, .inr (5, [.ref h_p0_train_berths, .ref h_p0_train_roster, .ref h_p0_train_settings, .int v_nextNumber, .int v_bookings, .int v_leftOut])), (h_p0_train_berths, .inr (0, [.ref h_p0_train_berths_holders, .ref h_p0_train_berths_ends])), (h_p0_train_berths_ends, .inl (cyI, 3, .inl v_ends))] sz)) 1 6 (va_A [(h_p0, .inr (6, [.ref h_p0_train, .ref h_p0_history, .ref h_p0_text])), (h_p0_train, .inr (5, [.ref h_p0_train_berths, .ref h_p0_train_roster, .ref h_p0_train_settings, .int v_nextNumber, .int v_bookings, .int v_leftOut])), (h_p0_train_berths, .inr (0, [.ref h_p0_train_berths_holders, .ref h_p0_train_berths_ends])), (h_p0_train_berths_ends, .inl (cyI, 3, .inl v_ends))] sz) := by
  refine vx_ofW (cc := cX6_goesTo) (maxL := 2) (ret := (some .int)) (by decide) rfl ?_
  intro p e s m args below meth c s₁ B hml hno hv
  obtain ⟨rfl, ⟨hsz, hP, hK, hD0, hNW⟩, hXR, hXS⟩ := hv
  have hx := B.exec
  have hb := B.bytes
  have hr := B.returns
  have hts := atoms_spec (ws := wsX6_goesTo) B.pre
  have hown : s.vm.findClass RX6 = some m.cls := findClass_of_methodNamed B.named
  have hlocks := B.notSynchronized
  subst hsz
  have hD := hD0.self (sz := s.heap.size)
  generalize hAe : va_A [(h_p0, .inr (6, [.ref h_p0_train, .ref h_p0_history, .ref h_p0_text])), (h_p0_train, .inr (5, [.ref h_p0_train_berths, .ref h_p0_train_roster, .ref h_p0_train_settings, .int v_nextNumber, .int v_bookings, .int v_leftOut])), (h_p0_train_berths, .inr (0, [.ref h_p0_train_berths_holders, .ref h_p0_train_berths_ends])), (h_p0_train_berths_ends, .inl (cyI, 3, .inl v_ends))] s.heap.size = A at hD hXS ⊢
  have hA : ∀ q : Nat, s.heap.size ≤ q → A q := fun q h => by rw [← hAe]; exact Or.inr h
  have hS : va_S A s.heap s.heap [] := va_S.rf
  have hP : va_P (dC, dI) vwCl [(h_p0, .inr (6, [.ref h_p0_train, .ref h_p0_history, .ref h_p0_text])), (h_p0_train, .inr (5, [.ref h_p0_train_berths, .ref h_p0_train_roster, .ref h_p0_train_settings, .int v_nextNumber, .int v_bookings, .int v_leftOut])), (h_p0_train_berths, .inr (0, [.ref h_p0_train_berths_holders, .ref h_p0_train_berths_ends])), (h_p0_train_berths_ends, .inl (cyI, 3, .inl v_ends))] s.heap := hP
  have hl := lv_entry ([.ref h_p0, .int a1]) (n := 2) (Nat.le_of_ble_eq_true rfl)
  rw [lg_entry_eq]
  generalize (lg_sl ([.ref h_p0, .int a1]) ++ List.replicate (2 - (lg_sl ([.ref h_p0, .int a1])).length) Slot.unset).toArray = ls at hl ⊢
  have hl : lv_has ls 2 [(0, .ref h_p0), (1, .int a1)] := hl
  unfold s_X6_goesTo at h
  refine lv_iload_n hx hb dX6_goesTo_0 rfl (lv_at hl 1 rfl) ?_
  obtain ⟨r1, e2, h⟩ := bsome h
  have hPc := sb_P [] hP [] rfl
  have hDc := sb_D [] hD [] (by decide) rfl
  have hFc := va_free (wc := []) hD hS hA [] rfl
  refine vx_callv (vx_runS (As := [.int a1]) (rest := []) ⟨hx, hb, hml, hown, hts⟩ (c_X6_requireCoach l hl0 dC dI cyI cyJ cyT s.heap.size a1 r1 e2) (va_cwS 1 hts gX6_goesTo_X6_requireCoach rfl rfl rfl (by decide +kernel) ⟨Nat.le_of_ble_eq_true rfl, Nat.le_of_ble_eq_true rfl⟩) ⟨PREX.blind, PREX.go hK hPc hDc hNW hXR hXS hS hFc⟩ rfl rfl hl.1 rfl (lv_room (Nat.le_of_ble_eq_true rfl)) dX6_goesTo_1 ⟨(Nat.le_of_ble_eq_true rfl), (Nat.le_of_ble_eq_true rfl)⟩) hS (fun q _ h => hFc q h) hFc (fun q _ h => hFc q h) (fun E9 ce9 q9 u t H locs ht hvm _ hB hz1 hk1 hS hce hcv hcl => by
      have h := ineg hB.1 h
      obtain ⟨hP, hD⟩ := va_join (wr := [(h_p0, .inr (6, [.ref h_p0_train, .ref h_p0_history, .ref h_p0_text])), (h_p0_train, .inr (5, [.ref h_p0_train_berths, .ref h_p0_train_roster, .ref h_p0_train_settings, .int v_nextNumber, .int v_bookings, .int v_leftOut])), (h_p0_train_berths, .inr (0, [.ref h_p0_train_berths_holders, .ref h_p0_train_berths_ends])), (h_p0_train_berths_ends, .inl (cyI, 3, .inl v_ends))]) (w1 := []) hP hD [] [0, 1, 2, 3] rfl rfl (by decide) (by decide) hk1 hFc (WLD.P hB.2.2 ht) hB.2.2.2
      have hP : va_P (dC, dI) vwCl [(h_p0, .inr (6, [.ref h_p0_train, .ref h_p0_history, .ref h_p0_text])), (h_p0_train, .inr (5, [.ref h_p0_train_berths, .ref h_p0_train_roster, .ref h_p0_train_settings, .int v_nextNumber, .int v_bookings, .int v_leftOut])), (h_p0_train_berths, .inr (0, [.ref h_p0_train_berths_holders, .ref h_p0_train_berths_ends])), (h_p0_train_berths_ends, .inl (cyI, 3, .inl v_ends))] H := hP
      have hD : va_D A [(h_p0, .inr (6, [.ref h_p0_train, .ref h_p0_history, .ref h_p0_text])), (h_p0_train, .inr (5, [.ref h_p0_train_berths, .ref h_p0_train_roster, .ref h_p0_train_settings, .int v_nextNumber, .int v_bookings, .int v_leftOut])), (h_p0_train_berths, .inr (0, [.ref h_p0_train_berths_holders, .ref h_p0_train_berths_ends])), (h_p0_train_berths_ends, .inl (cyI, 3, .inl v_ends))] := hD
      obtain rfl := Option.some.inj h
      exact vx_out (fun x hx9 => (hno x hx9).elim) hlocks hce hcv hcl (fun t ht _ => XWL.of2 hB.1 hB.2.1 hP hD hS ht) hS.2.2 (Nat.le_of_ble_eq_true rfl) (Nat.le_of_ble_eq_true rfl)) (fun u t H locs ht hvm hw hB hz1 hk1 hS => ?_)
  have h := ipos hw h
  obtain ⟨hP, hD⟩ := va_join (wr := [(h_p0, .inr (6, [.ref h_p0_train, .ref h_p0_history, .ref h_p0_text])), (h_p0_train, .inr (5, [.ref h_p0_train_berths, .ref h_p0_train_roster, .ref h_p0_train_settings, .int v_nextNumber, .int v_bookings, .int v_leftOut])), (h_p0_train_berths, .inr (0, [.ref h_p0_train_berths_holders, .ref h_p0_train_berths_ends])), (h_p0_train_berths_ends, .inl (cyI, 3, .inl v_ends))]) (w1 := []) hP hD [] [0, 1, 2, 3] rfl rfl (by decide) (by decide) hk1 hFc (WLD.P hB ht) hB.2
  have hP : va_P (dC, dI) vwCl [(h_p0, .inr (6, [.ref h_p0_train, .ref h_p0_history, .ref h_p0_text])), (h_p0_train, .inr (5, [.ref h_p0_train_berths, .ref h_p0_train_roster, .ref h_p0_train_settings, .int v_nextNumber, .int v_bookings, .int v_leftOut])), (h_p0_train_berths, .inr (0, [.ref h_p0_train_berths_holders, .ref h_p0_train_berths_ends])), (h_p0_train_berths_ends, .inl (cyI, 3, .inl v_ends))] H := hP
  have hD : va_D A [(h_p0, .inr (6, [.ref h_p0_train, .ref h_p0_history, .ref h_p0_text])), (h_p0_train, .inr (5, [.ref h_p0_train_berths, .ref h_p0_train_roster, .ref h_p0_train_settings, .int v_nextNumber, .int v_bookings, .int v_leftOut])), (h_p0_train_berths, .inr (0, [.ref h_p0_train_berths_holders, .ref h_p0_train_berths_ends])), (h_p0_train_berths_ends, .inl (cyI, 3, .inl v_ends))] := hD
  refine lv_aload_n hx hb dX6_goesTo_4 rfl (lv_at hl 0 rfl) ?_
  refine va_get (D := (dC, dI)) (ci := 6) (v := .ref h_p0_train) (C := RX6) (T := TX6) (N := 3) hx hb hts m_X6_goesTo_0 hown hK hP 0 rfl rfl 0 (by decide) (hts (.fieldLink RX6 12 "SleeperBerths" "train" "LSleeperBerths$Train;") m_X6_goesTo_1) (fun _ h9 => h9) rfl dX6_goesTo_5 ?_
  refine va_get (D := (dC, dI)) (ci := 5) (v := .ref h_p0_train_berths) (C := RX5) (T := TX5) (N := 6) hx hb hts m_X6_goesTo_2 hown hK hP 1 rfl rfl 0 (by decide) (hts (.fieldLink RX6 121 "SleeperBerths$Train" "berths" "LSleeperBerths$Berths;") m_X6_goesTo_3) (fun _ h9 => h9) rfl dX6_goesTo_8 ?_
  refine lv_iload_n hx hb dX6_goesTo_11 rfl (lv_at hl 1 rfl) ?_
  obtain ⟨r4, e5, h⟩ := bsome h
  have hPc := sb_P [(h_p0_train_berths, .inr (0, [.ref h_p0_train_berths_holders, .ref h_p0_train_berths_ends])), (h_p0_train_berths_ends, .inl (cyI, 3, .inl v_ends))] hP [2, 3] rfl
  have hDc := sb_D [(h_p0_train_berths, .inr (0, [.ref h_p0_train_berths_holders, .ref h_p0_train_berths_ends])), (h_p0_train_berths_ends, .inl (cyI, 3, .inl v_ends))] hD [2, 3] (by decide) rfl
  have hFc := va_free (wc := [(h_p0_train_berths, .inr (0, [.ref h_p0_train_berths_holders, .ref h_p0_train_berths_ends])), (h_p0_train_berths_ends, .inl (cyI, 3, .inl v_ends))]) hD hS hA [2, 3] rfl
  refine va_calli (va_runV (As := [.int a1]) (rest := []) ⟨hx, hb, hml, hown, hts⟩ (c_X0_endOf l dC dI cyI cyJ cyT h_p0_train_berths h_p0_train_berths_holders h_p0_train_berths_ends H.size v_ends a1 r4 e5) (cwV 1 hts gX6_goesTo_X0_endOf rfl rfl rfl (by decide +kernel) ⟨Nat.le_of_ble_eq_true rfl, Nat.le_of_ble_eq_true rfl⟩) ⟨PRE.blind, va_recv hK hPc (ci := 0) (q0 := 0) rfl rfl, PRE.go hK hPc hDc hNW⟩ rfl rfl hl.1 rfl (lv_room (Nat.le_of_ble_eq_true rfl)) dX6_goesTo_12 ⟨Nat.zero_le _, Nat.zero_le _⟩) hS (fun q _ h => hFc q h) hFc (fun z6 u t H locs ht hvm hw hB hz1 hk1 hS => ?_)
  subst z6
  obtain ⟨hP, hD⟩ := va_join (wr := [(h_p0, .inr (6, [.ref h_p0_train, .ref h_p0_history, .ref h_p0_text])), (h_p0_train, .inr (5, [.ref h_p0_train_berths, .ref h_p0_train_roster, .ref h_p0_train_settings, .int v_nextNumber, .int v_bookings, .int v_leftOut]))]) (w1 := [(h_p0_train_berths, .inr (0, [.ref h_p0_train_berths_holders, .ref h_p0_train_berths_ends])), (h_p0_train_berths_ends, .inl (cyI, 3, .inl v_ends))]) hP hD [2, 3] [0, 1] rfl rfl (by decide) (by decide) hk1 hFc (WLD.P hB ht) hB.2
  have hP : va_P (dC, dI) vwCl [(h_p0, .inr (6, [.ref h_p0_train, .ref h_p0_history, .ref h_p0_text])), (h_p0_train, .inr (5, [.ref h_p0_train_berths, .ref h_p0_train_roster, .ref h_p0_train_settings, .int v_nextNumber, .int v_bookings, .int v_leftOut])), (h_p0_train_berths, .inr (0, [.ref h_p0_train_berths_holders, .ref h_p0_train_berths_ends])), (h_p0_train_berths_ends, .inl (cyI, 3, .inl v_ends))] H := hP
  have hD : va_D A [(h_p0, .inr (6, [.ref h_p0_train, .ref h_p0_history, .ref h_p0_text])), (h_p0_train, .inr (5, [.ref h_p0_train_berths, .ref h_p0_train_roster, .ref h_p0_train_settings, .int v_nextNumber, .int v_bookings, .int v_leftOut])), (h_p0_train_berths, .inr (0, [.ref h_p0_train_berths_holders, .ref h_p0_train_berths_ends])), (h_p0_train_berths_ends, .inl (cyI, 3, .inl v_ends))] := hD
  obtain rfl := Option.some.inj h
  refine W.widen (k := 1) (n := 6) (Nat.le_of_ble_eq_true rfl) (Nat.le_of_ble_eq_true rfl) ?_
  refine vx_ret ?_
  exact W.iret (v := r4) hx hb hr (fun t ht hW => ⟨⟨r4, (), rfl, ⟨rfl, rfl⟩, WLD.of ht hP hD⟩, hS.F ht⟩) hS.2.2 dX6_goesTo_15
def s_X6_requireSetting (a0 : Int32) : Option (Nat) := ((s_X6_isBelow a0 (iI 3)).bind fun r1 => (if r1 = 0 then (some (3)) else (some (0))))
set_option maxRecDepth 20000 in
theorem m_X6_requireSetting_0 : ∀ w ∈ (vx_atS RX6 88 "java/lang/IndexOutOfBoundsException" ["java/lang/RuntimeException", "java/lang/Exception"]).filter goodWord, w ∈ wsX6_requireSetting := by decide +kernel
set_option maxRecDepth 20000 in
theorem m_X6_requireSetting_1 : (.classLink RX6 84 "java/lang/IndexOutOfBoundsException" : Cond) ∈ wsX6_requireSetting := by decide +kernel
set_option maxRecDepth 20000 in
theorem m_X6_requireSetting_2 : (.initialized "java/lang/IndexOutOfBoundsException" : Cond) ∈ wsX6_requireSetting := by decide +kernel
set_option maxHeartbeats 4000000 in
set_option maxRecDepth 100000 in
theorem c_X6_requireSetting (l : Launch) (hl0 : l.stackTraces = false) (dC : Nat → ClassId) (dI : Nat → Nat → Nat) (cyI cyJ cyT : ClassId)  (sz : Nat) (a0 : Int32) (o : Nat) (h : s_X6_requireSetting a0 = some o) : vx_Met l yX6_requireSetting wsX6_requireSetting ({ frames := 6, cells := 1, slots := 6, locals := 90 }) (va_Pc [.int a0] (PREX (dC, dI) (TYS cyI cyJ cyT) sz [])) (va_Qv (S := Unit) (fun _ => o = 0) (fun _ t => WLD (dC, dI) (va_A [] sz) [] t) (va_A [] sz)) (vx_X (S := Unit) (fun _ => True) (fun E _ t => XWL (dC, dI) (va_A [] sz) o E [] t) (va_A [] sz)) 1 6 (va_A [] sz) := by
  refine vx_ofW (cc := cX6_requireSetting) (maxL := 1) (ret := none) (by decide) rfl ?_
  intro p e s m args below meth c s₁ B hml hno hv
  obtain ⟨rfl, ⟨hsz, hP, hK, hD0, hNW⟩, hXR, hXS⟩ := hv
  have hx := B.exec
  have hb := B.bytes
  have hr := B.returns
  have hts := atoms_spec (ws := wsX6_requireSetting) B.pre
  have hown : s.vm.findClass RX6 = some m.cls := findClass_of_methodNamed B.named
  have hlocks := B.notSynchronized
  subst hsz
  have hD := hD0.self (sz := s.heap.size)
  generalize hAe : va_A [] s.heap.size = A at hD hXS ⊢
  have hA : ∀ q : Nat, s.heap.size ≤ q → A q := fun q h => by rw [← hAe]; exact Or.inr h
  have hS : va_S A s.heap s.heap [] := va_S.rf
  have hP : va_P (dC, dI) vwCl [] s.heap := hP
  have hl := lv_entry ([.int a0]) (n := 1) (Nat.le_of_ble_eq_true rfl)
  rw [lg_entry_eq]
  generalize (lg_sl ([.int a0]) ++ List.replicate (1 - (lg_sl ([.int a0])).length) Slot.unset).toArray = ls at hl ⊢
  have hl : lv_has ls 1 [(0, .int a0)] := hl
  unfold s_X6_requireSetting at h
  refine lv_iload_n hx hb dX6_requireSetting_0 rfl (lv_at hl 0 rfl) ?_
  refine lv_iconst (v := iI 3) hx hb dX6_requireSetting_1 rfl ?_
  obtain ⟨r1, e2, h⟩ := bsome h
  have hPc := sb_P [] hP [] rfl
  have hDc := sb_D [] hD [] (by decide) rfl
  have hFc := va_free (wc := []) hD hS hA [] rfl
  refine va_calli (va_runS (As := [.int a0, .int (iI 3)]) (rest := []) ⟨hx, hb, hml, hown, hts⟩ (c_X6_isBelow l dC dI cyI cyJ cyT s.heap.size a0 (iI 3) r1 e2) (va_cwS 2 hts gX6_requireSetting_X6_isBelow rfl rfl rfl (by decide +kernel) ⟨Nat.le_of_ble_eq_true rfl, Nat.le_of_ble_eq_true rfl⟩) ⟨PRE.blind, PRE.go hK hPc hDc hNW⟩ rfl rfl hl.1 rfl (lv_room (Nat.le_of_ble_eq_true rfl)) dX6_requireSetting_2 ⟨Nat.zero_le _, Nat.zero_le _⟩) hS (fun q _ h => hFc q h) hFc (fun z3 u t H locs ht hvm hw hB hz1 hk1 hS => ?_)
  subst z3
  obtain ⟨hP, hD⟩ := va_join (wr := []) (w1 := []) hP hD [] [] rfl rfl (by decide) (by decide) hk1 hFc (WLD.P hB ht) hB.2
  have hP : va_P (dC, dI) vwCl [] H := hP
  have hD : va_D A [] := hD
  refine lv_if_ne (tgt := 19) hx hb dX6_requireSetting_5 (by decide) (fun c4 => ?_) (fun c4 => ?_)
  · have h := ineg c4 h
    obtain rfl := Option.some.inj h
    refine W.widen (k := 1) (n := 6) (Nat.le_of_ble_eq_true rfl) (Nat.le_of_ble_eq_true rfl) ?_
    refine vx_ret ?_
    exact W.vret hx hb hr (fun t ht hW => ⟨⟨(), rfl, rfl, WLD.of ht hP hD⟩, hS.F ht⟩) hS.2.2 dX6_requireSetting_19
  · have h := ipos c4 h
    obtain rfl := Option.some.inj h
    obtain ⟨sa5, hstr⟩ := hXR.2.2 21 rfl
    exact vx_throwSW (names := ["java/lang/RuntimeException", "java/lang/Exception"]) (sa := sa5) hx hb hl0 hown (by decide +kernel) (by decide +kernel) (hts (.classLink RX6 84 "java/lang/IndexOutOfBoundsException") m_X6_requireSetting_1) (hts (.initialized "java/lang/IndexOutOfBoundsException") m_X6_requireSetting_2) hstr (xhat hts m_X6_requireSetting_0 hXR (by decide +kernel)) (by decide +kernel) hXS.1 hXS.2 hS (hl.1.trans hml.symm) dX6_requireSetting_8 dX6_requireSetting_11 dX6_requireSetting_12 dX6_requireSetting_15 dX6_requireSetting_18 (fun x hx9 => (hno x hx9).elim) (Nat.le_of_ble_eq_true rfl) (Nat.le_of_ble_eq_true rfl) (Nat.le_of_ble_eq_true rfl) (Nat.le_of_ble_eq_true rfl) hlocks (fun t _ h1 h2 => XWL.of (by decide) rfl hP hD hS h1 h2) hS.2.2 (Nat.le_of_ble_eq_true rfl) (Nat.le_of_ble_eq_true rfl)
def s_X6_setting (v_settings : Nat → Int32) (a1 : Int32) : Option (Nat × Int32) := ((s_X6_requireSetting a1).bind fun r1 => (if r1 = 0 then ((s_X6_read 3 v_settings a1).bind fun r4 => (some (0, r4))) else (some (r1, 0))))
set_option maxRecDepth 20000 in
theorem m_X6_setting_0 : ∀ w ∈ u_ws RX6 TX6 3, w ∈ wsX6_setting := by decide +kernel
set_option maxRecDepth 20000 in
theorem m_X6_setting_1 : (.fieldLink RX6 12 "SleeperBerths" "train" "LSleeperBerths$Train;" : Cond) ∈ wsX6_setting := by decide +kernel
set_option maxRecDepth 20000 in
theorem m_X6_setting_2 : ∀ w ∈ u_ws RX5 TX5 6, w ∈ wsX6_setting := by decide +kernel
set_option maxRecDepth 20000 in
theorem m_X6_setting_3 : (.fieldLink RX6 146 "SleeperBerths$Train" "settings" "[I" : Cond) ∈ wsX6_setting := by decide +kernel
set_option maxHeartbeats 4000000 in
set_option maxRecDepth 100000 in
theorem c_X6_setting (l : Launch) (hl0 : l.stackTraces = false) (dC : Nat → ClassId) (dI : Nat → Nat → Nat) (cyI cyJ cyT : ClassId) (h_p0 : Nat) (h_p0_train : Nat) (h_p0_history : Nat) (h_p0_text : Nat) (h_p0_train_berths : Nat) (h_p0_train_roster : Nat) (h_p0_train_settings : Nat) (sz : Nat) (v_nextNumber : Int32) (v_bookings : Int32) (v_leftOut : Int32) (v_settings : Nat → Int32) (a1 : Int32) (o : Nat × Int32) (h : s_X6_setting v_settings a1 = some o) : vx_Met l yX6_setting wsX6_setting ({ frames := 7, cells := 1, slots := 6, locals := 110 }) (va_Pc [.ref h_p0, .int a1] (PREX (dC, dI) (TYS cyI cyJ cyT) sz [(h_p0, .inr (6, [.ref h_p0_train, .ref h_p0_history, .ref h_p0_text])), (h_p0_train, .inr (5, [.ref h_p0_train_berths, .ref h_p0_train_roster, .ref h_p0_train_settings, .int v_nextNumber, .int v_bookings, .int v_leftOut])), (h_p0_train_settings, .inl (cyI, 3, .inl v_settings))])) (va_Qi (S := Unit) (fun r _ => o.1 = 0 ∧ r = o.2) (fun _ t => WLD (dC, dI) (va_A [(h_p0, .inr (6, [.ref h_p0_train, .ref h_p0_history, .ref h_p0_text])), (h_p0_train, .inr (5, [.ref h_p0_train_berths, .ref h_p0_train_roster, .ref h_p0_train_settings, .int v_nextNumber, .int v_bookings, .int v_leftOut])), (h_p0_train_settings, .inl (cyI, 3, .inl v_settings))] sz) [(h_p0, .inr (6, [.ref h_p0_train, .ref h_p0_history, .ref h_p0_text])), (h_p0_train, .inr (5, [.ref h_p0_train_berths, .ref h_p0_train_roster, .ref h_p0_train_settings, .int v_nextNumber, .int v_bookings, .int v_leftOut])), (h_p0_train_settings, .inl (cyI, 3, .inl v_settings))] t) (va_A [(h_p0, .inr (6, [.ref h_p0_train, .ref h_p0_history, .ref h_p0_text])), (h_p0_train, .inr (5, [.ref h_p0_train_berths, .ref h_p0_train_roster, .ref h_p0_train_settings, .int v_nextNumber, .int v_bookings, .int v_leftOut])), (h_p0_train_settings, .inl (cyI, 3, .inl v_settings))] sz)) (vx_X (S := Unit) (fun _ => True) (fun E _ t => XWL (dC, dI) (va_A [(h_p0, .inr (6, [.ref h_p0_train, .ref h_p0_history, .ref h_p0_text])), (h_p0_train, .inr (5, [.ref h_p0_train_berths, .ref h_p0_train_roster, .ref h_p0_train_settings, .int v_nextNumber, .int v_bookings, .int v_leftOut])), (h_p0_train_settings, .inl (cyI, 3, .inl v_settings))] sz) o.1 E [(h_p0, .inr (6, [.ref h_p0_train, .ref h_p0_history, .ref h_p0_text])), (h_p0_train, .inr (5, [.ref h_p0_train_berths, .ref h_p0_train_roster, .ref h_p0_train_settings, .int v_nextNumber, .int v_bookings, .int v_leftOut])), (h_p0_train_settings, .inl (cyI, 3, .inl v_settings))] t) (va_A [(h_p0, .inr (6, [.ref h_p0_train, .ref h_p0_history, .ref h_p0_text])), (h_p0_train, .inr (5, [.ref h_p0_train_berths, .ref h_p0_train_roster, .ref h_p0_train_settings, .int v_nextNumber, .int v_bookings, .int v_leftOut])), (h_p0_train_settings, .inl (cyI, 3, .inl v_settings))] sz)) 1 6 (va_A [(h_p0, .inr (6, [.ref h_p0_train, .ref h_p0_history, .ref h_p0_text])), (h_p0_train, .inr (5, [.ref h_p0_train_berths, .ref h_p0_train_roster, .ref h_p0_train_settings, .int v_nextNumber, .int v_bookings, .int v_leftOut])), (h_p0_train_settings, .inl (cyI, 3, .inl v_settings))] sz) := by
  refine vx_ofW (cc := cX6_setting) (maxL := 2) (ret := (some .int)) (by decide) rfl ?_
  intro p e s m args below meth c s₁ B hml hno hv
  obtain ⟨rfl, ⟨hsz, hP, hK, hD0, hNW⟩, hXR, hXS⟩ := hv
  have hx := B.exec
  have hb := B.bytes
  have hr := B.returns
  have hts := atoms_spec (ws := wsX6_setting) B.pre
  have hown : s.vm.findClass RX6 = some m.cls := findClass_of_methodNamed B.named
  have hlocks := B.notSynchronized
  subst hsz
  have hD := hD0.self (sz := s.heap.size)
  generalize hAe : va_A [(h_p0, .inr (6, [.ref h_p0_train, .ref h_p0_history, .ref h_p0_text])), (h_p0_train, .inr (5, [.ref h_p0_train_berths, .ref h_p0_train_roster, .ref h_p0_train_settings, .int v_nextNumber, .int v_bookings, .int v_leftOut])), (h_p0_train_settings, .inl (cyI, 3, .inl v_settings))] s.heap.size = A at hD hXS ⊢
  have hA : ∀ q : Nat, s.heap.size ≤ q → A q := fun q h => by rw [← hAe]; exact Or.inr h
  have hS : va_S A s.heap s.heap [] := va_S.rf
  have hP : va_P (dC, dI) vwCl [(h_p0, .inr (6, [.ref h_p0_train, .ref h_p0_history, .ref h_p0_text])), (h_p0_train, .inr (5, [.ref h_p0_train_berths, .ref h_p0_train_roster, .ref h_p0_train_settings, .int v_nextNumber, .int v_bookings, .int v_leftOut])), (h_p0_train_settings, .inl (cyI, 3, .inl v_settings))] s.heap := hP
  have hl := lv_entry ([.ref h_p0, .int a1]) (n := 2) (Nat.le_of_ble_eq_true rfl)
  rw [lg_entry_eq]
  generalize (lg_sl ([.ref h_p0, .int a1]) ++ List.replicate (2 - (lg_sl ([.ref h_p0, .int a1])).length) Slot.unset).toArray = ls at hl ⊢
  have hl : lv_has ls 2 [(0, .ref h_p0), (1, .int a1)] := hl
  unfold s_X6_setting at h
  refine lv_iload_n hx hb dX6_setting_0 rfl (lv_at hl 1 rfl) ?_
  obtain ⟨r1, e2, h⟩ := bsome h
  have hPc := sb_P [] hP [] rfl
  have hDc := sb_D [] hD [] (by decide) rfl
  have hFc := va_free (wc := []) hD hS hA [] rfl
  refine vx_callv (vx_runS (As := [.int a1]) (rest := []) ⟨hx, hb, hml, hown, hts⟩ (c_X6_requireSetting l hl0 dC dI cyI cyJ cyT s.heap.size a1 r1 e2) (va_cwS 1 hts gX6_setting_X6_requireSetting rfl rfl rfl (by decide +kernel) ⟨Nat.le_of_ble_eq_true rfl, Nat.le_of_ble_eq_true rfl⟩) ⟨PREX.blind, PREX.go hK hPc hDc hNW hXR hXS hS hFc⟩ rfl rfl hl.1 rfl (lv_room (Nat.le_of_ble_eq_true rfl)) dX6_setting_1 ⟨(Nat.le_of_ble_eq_true rfl), (Nat.le_of_ble_eq_true rfl)⟩) hS (fun q _ h => hFc q h) hFc (fun q _ h => hFc q h) (fun E9 ce9 q9 u t H locs ht hvm _ hB hz1 hk1 hS hce hcv hcl => by
      have h := ineg hB.1 h
      obtain ⟨hP, hD⟩ := va_join (wr := [(h_p0, .inr (6, [.ref h_p0_train, .ref h_p0_history, .ref h_p0_text])), (h_p0_train, .inr (5, [.ref h_p0_train_berths, .ref h_p0_train_roster, .ref h_p0_train_settings, .int v_nextNumber, .int v_bookings, .int v_leftOut])), (h_p0_train_settings, .inl (cyI, 3, .inl v_settings))]) (w1 := []) hP hD [] [0, 1, 2] rfl rfl (by decide) (by decide) hk1 hFc (WLD.P hB.2.2 ht) hB.2.2.2
      have hP : va_P (dC, dI) vwCl [(h_p0, .inr (6, [.ref h_p0_train, .ref h_p0_history, .ref h_p0_text])), (h_p0_train, .inr (5, [.ref h_p0_train_berths, .ref h_p0_train_roster, .ref h_p0_train_settings, .int v_nextNumber, .int v_bookings, .int v_leftOut])), (h_p0_train_settings, .inl (cyI, 3, .inl v_settings))] H := hP
      have hD : va_D A [(h_p0, .inr (6, [.ref h_p0_train, .ref h_p0_history, .ref h_p0_text])), (h_p0_train, .inr (5, [.ref h_p0_train_berths, .ref h_p0_train_roster, .ref h_p0_train_settings, .int v_nextNumber, .int v_bookings, .int v_leftOut])), (h_p0_train_settings, .inl (cyI, 3, .inl v_settings))] := hD
      obtain rfl := Option.some.inj h
      exact vx_out (fun x hx9 => (hno x hx9).elim) hlocks hce hcv hcl (fun t ht _ => XWL.of2 hB.1 hB.2.1 hP hD hS ht) hS.2.2 (Nat.le_of_ble_eq_true rfl) (Nat.le_of_ble_eq_true rfl)) (fun u t H locs ht hvm hw hB hz1 hk1 hS => ?_)
  have h := ipos hw h
  obtain ⟨hP, hD⟩ := va_join (wr := [(h_p0, .inr (6, [.ref h_p0_train, .ref h_p0_history, .ref h_p0_text])), (h_p0_train, .inr (5, [.ref h_p0_train_berths, .ref h_p0_train_roster, .ref h_p0_train_settings, .int v_nextNumber, .int v_bookings, .int v_leftOut])), (h_p0_train_settings, .inl (cyI, 3, .inl v_settings))]) (w1 := []) hP hD [] [0, 1, 2] rfl rfl (by decide) (by decide) hk1 hFc (WLD.P hB ht) hB.2
  have hP : va_P (dC, dI) vwCl [(h_p0, .inr (6, [.ref h_p0_train, .ref h_p0_history, .ref h_p0_text])), (h_p0_train, .inr (5, [.ref h_p0_train_berths, .ref h_p0_train_roster, .ref h_p0_train_settings, .int v_nextNumber, .int v_bookings, .int v_leftOut])), (h_p0_train_settings, .inl (cyI, 3, .inl v_settings))] H := hP
  have hD : va_D A [(h_p0, .inr (6, [.ref h_p0_train, .ref h_p0_history, .ref h_p0_text])), (h_p0_train, .inr (5, [.ref h_p0_train_berths, .ref h_p0_train_roster, .ref h_p0_train_settings, .int v_nextNumber, .int v_bookings, .int v_leftOut])), (h_p0_train_settings, .inl (cyI, 3, .inl v_settings))] := hD
  refine lv_aload_n hx hb dX6_setting_4 rfl (lv_at hl 0 rfl) ?_
  refine va_get (D := (dC, dI)) (ci := 6) (v := .ref h_p0_train) (C := RX6) (T := TX6) (N := 3) hx hb hts m_X6_setting_0 hown hK hP 0 rfl rfl 0 (by decide) (hts (.fieldLink RX6 12 "SleeperBerths" "train" "LSleeperBerths$Train;") m_X6_setting_1) (fun _ h9 => h9) rfl dX6_setting_5 ?_
  refine va_get (D := (dC, dI)) (ci := 5) (v := .ref h_p0_train_settings) (C := RX5) (T := TX5) (N := 6) hx hb hts m_X6_setting_2 hown hK hP 1 rfl rfl 2 (by decide) (hts (.fieldLink RX6 146 "SleeperBerths$Train" "settings" "[I") m_X6_setting_3) (fun _ h9 => h9) rfl dX6_setting_8 ?_
  refine lv_iload_n hx hb dX6_setting_11 rfl (lv_at hl 1 rfl) ?_
  obtain ⟨r4, e5, h⟩ := bsome h
  have hPc := sb_P [(h_p0_train_settings, .inl (cyI, 3, .inl v_settings))] hP [2] rfl
  have hDc := sb_D [(h_p0_train_settings, .inl (cyI, 3, .inl v_settings))] hD [2] (by decide) rfl
  have hFc := va_free (wc := [(h_p0_train_settings, .inl (cyI, 3, .inl v_settings))]) hD hS hA [2] rfl
  refine va_calli (va_runS (As := [.ref h_p0_train_settings, .int a1]) (rest := []) ⟨hx, hb, hml, hown, hts⟩ (c_X6_read l dC dI cyI cyJ cyT h_p0_train_settings H.size 3 v_settings a1 r4 e5) (va_cwS 2 hts gX6_setting_X6_read rfl rfl rfl (by decide +kernel) ⟨Nat.le_of_ble_eq_true rfl, Nat.le_of_ble_eq_true rfl⟩) ⟨PRE.blind, PRE.go hK hPc hDc hNW⟩ rfl rfl hl.1 rfl (lv_room (Nat.le_of_ble_eq_true rfl)) dX6_setting_12 ⟨Nat.zero_le _, Nat.zero_le _⟩) hS (fun q _ h => hFc q h) hFc (fun z6 u t H locs ht hvm hw hB hz1 hk1 hS => ?_)
  subst z6
  obtain ⟨hP, hD⟩ := va_join (wr := [(h_p0, .inr (6, [.ref h_p0_train, .ref h_p0_history, .ref h_p0_text])), (h_p0_train, .inr (5, [.ref h_p0_train_berths, .ref h_p0_train_roster, .ref h_p0_train_settings, .int v_nextNumber, .int v_bookings, .int v_leftOut]))]) (w1 := [(h_p0_train_settings, .inl (cyI, 3, .inl v_settings))]) hP hD [2] [0, 1] rfl rfl (by decide) (by decide) hk1 hFc (WLD.P hB ht) hB.2
  have hP : va_P (dC, dI) vwCl [(h_p0, .inr (6, [.ref h_p0_train, .ref h_p0_history, .ref h_p0_text])), (h_p0_train, .inr (5, [.ref h_p0_train_berths, .ref h_p0_train_roster, .ref h_p0_train_settings, .int v_nextNumber, .int v_bookings, .int v_leftOut])), (h_p0_train_settings, .inl (cyI, 3, .inl v_settings))] H := hP
  have hD : va_D A [(h_p0, .inr (6, [.ref h_p0_train, .ref h_p0_history, .ref h_p0_text])), (h_p0_train, .inr (5, [.ref h_p0_train_berths, .ref h_p0_train_roster, .ref h_p0_train_settings, .int v_nextNumber, .int v_bookings, .int v_leftOut])), (h_p0_train_settings, .inl (cyI, 3, .inl v_settings))] := hD
  obtain rfl := Option.some.inj h
  refine W.widen (k := 1) (n := 6) (Nat.le_of_ble_eq_true rfl) (Nat.le_of_ble_eq_true rfl) ?_
  refine vx_ret ?_
  exact W.iret (v := r4) hx hb hr (fun t ht hW => ⟨⟨r4, (), rfl, ⟨rfl, rfl⟩, WLD.of ht hP hD⟩, hS.F ht⟩) hS.2.2 dX6_setting_15
def s_X6_requireWay (a0 : Int32) (a1 : Int32) : Option (Nat) := ((s_X6_isBelow a0 (iI 9)).bind fun r1 => (if r1 = 0 then (some (1)) else (if a1 ≤ a0 then (some (1)) else (if a1 ≤ iI 9 then (some (0)) else (some (1))))))
set_option maxRecDepth 20000 in
theorem m_X6_requireWay_0 : ∀ w ∈ (vx_atS RX6 120 "java/lang/IllegalArgumentException" ["java/lang/RuntimeException", "java/lang/Exception"]).filter goodWord, w ∈ wsX6_requireWay := by decide +kernel
set_option maxRecDepth 20000 in
theorem m_X6_requireWay_1 : (.classLink RX6 116 "java/lang/IllegalArgumentException" : Cond) ∈ wsX6_requireWay := by decide +kernel
set_option maxRecDepth 20000 in
theorem m_X6_requireWay_2 : (.initialized "java/lang/IllegalArgumentException" : Cond) ∈ wsX6_requireWay := by decide +kernel
set_option maxHeartbeats 4000000 in
set_option maxRecDepth 100000 in
theorem c_X6_requireWay (l : Launch) (hl0 : l.stackTraces = false) (dC : Nat → ClassId) (dI : Nat → Nat → Nat) (cyI cyJ cyT : ClassId)  (sz : Nat) (a0 : Int32) (a1 : Int32) (o : Nat) (h : s_X6_requireWay a0 a1 = some o) : vx_Met l yX6_requireWay wsX6_requireWay ({ frames := 6, cells := 1, slots := 6, locals := 90 }) (va_Pc [.int a0, .int a1] (PREX (dC, dI) (TYS cyI cyJ cyT) sz [])) (va_Qv (S := Unit) (fun _ => o = 0) (fun _ t => WLD (dC, dI) (va_A [] sz) [] t) (va_A [] sz)) (vx_X (S := Unit) (fun _ => True) (fun E _ t => XWL (dC, dI) (va_A [] sz) o E [] t) (va_A [] sz)) 1 6 (va_A [] sz) := by
  refine vx_ofW (cc := cX6_requireWay) (maxL := 2) (ret := none) (by decide) rfl ?_
  intro p e s m args below meth c s₁ B hml hno hv
  obtain ⟨rfl, ⟨hsz, hP, hK, hD0, hNW⟩, hXR, hXS⟩ := hv
  have hx := B.exec
  have hb := B.bytes
  have hr := B.returns
  have hts := atoms_spec (ws := wsX6_requireWay) B.pre
  have hown : s.vm.findClass RX6 = some m.cls := findClass_of_methodNamed B.named
  have hlocks := B.notSynchronized
  subst hsz
  have hD := hD0.self (sz := s.heap.size)
  generalize hAe : va_A [] s.heap.size = A at hD hXS ⊢
  have hA : ∀ q : Nat, s.heap.size ≤ q → A q := fun q h => by rw [← hAe]; exact Or.inr h
  have hS : va_S A s.heap s.heap [] := va_S.rf
  have hP : va_P (dC, dI) vwCl [] s.heap := hP
  have hl := lv_entry ([.int a0, .int a1]) (n := 2) (Nat.le_of_ble_eq_true rfl)
  rw [lg_entry_eq]
  generalize (lg_sl ([.int a0, .int a1]) ++ List.replicate (2 - (lg_sl ([.int a0, .int a1])).length) Slot.unset).toArray = ls at hl ⊢
  have hl : lv_has ls 2 [(0, .int a0), (1, .int a1)] := hl
  unfold s_X6_requireWay at h
  refine lv_iload_n hx hb dX6_requireWay_0 rfl (lv_at hl 0 rfl) ?_
  refine lv_bipush (v := iI 9) hx hb dX6_requireWay_1 (by decide) ?_
  obtain ⟨r1, e2, h⟩ := bsome h
  have hPc := sb_P [] hP [] rfl
  have hDc := sb_D [] hD [] (by decide) rfl
  have hFc := va_free (wc := []) hD hS hA [] rfl
  refine va_calli (va_runS (As := [.int a0, .int (iI 9)]) (rest := []) ⟨hx, hb, hml, hown, hts⟩ (c_X6_isBelow l dC dI cyI cyJ cyT s.heap.size a0 (iI 9) r1 e2) (va_cwS 2 hts gX6_requireWay_X6_isBelow rfl rfl rfl (by decide +kernel) ⟨Nat.le_of_ble_eq_true rfl, Nat.le_of_ble_eq_true rfl⟩) ⟨PRE.blind, PRE.go hK hPc hDc hNW⟩ rfl rfl hl.1 rfl (lv_room (Nat.le_of_ble_eq_true rfl)) dX6_requireWay_3 ⟨Nat.zero_le _, Nat.zero_le _⟩) hS (fun q _ h => hFc q h) hFc (fun z3 u t H locs ht hvm hw hB hz1 hk1 hS => ?_)
  subst z3
  obtain ⟨hP, hD⟩ := va_join (wr := []) (w1 := []) hP hD [] [] rfl rfl (by decide) (by decide) hk1 hFc (WLD.P hB ht) hB.2
  have hP : va_P (dC, dI) vwCl [] H := hP
  have hD : va_D A [] := hD
  refine lv_if_eq (tgt := 20) hx hb dX6_requireWay_6 (by decide) (fun c4 => ?_) (fun c4 => ?_)
  · have h := ipos c4 h
    obtain rfl := Option.some.inj h
    obtain ⟨sa5, hstr⟩ := hXR.2.2 19 rfl
    exact vx_throwSW (names := ["java/lang/RuntimeException", "java/lang/Exception"]) (sa := sa5) hx hb hl0 hown (by decide +kernel) (by decide +kernel) (hts (.classLink RX6 116 "java/lang/IllegalArgumentException") m_X6_requireWay_1) (hts (.initialized "java/lang/IllegalArgumentException") m_X6_requireWay_2) hstr (xhat hts m_X6_requireWay_0 hXR (by decide +kernel)) (by decide +kernel) hXS.1 hXS.2 hS (hl.1.trans hml.symm) dX6_requireWay_20 dX6_requireWay_23 dX6_requireWay_24 dX6_requireWay_27 dX6_requireWay_30 (fun x hx9 => (hno x hx9).elim) (Nat.le_of_ble_eq_true rfl) (Nat.le_of_ble_eq_true rfl) (Nat.le_of_ble_eq_true rfl) (Nat.le_of_ble_eq_true rfl) hlocks (fun t _ h1 h2 => XWL.of (by decide) rfl hP hD hS h1 h2) hS.2.2 (Nat.le_of_ble_eq_true rfl) (Nat.le_of_ble_eq_true rfl)
  · have h := ineg c4 h
    refine lv_iload_n hx hb dX6_requireWay_9 rfl (lv_at hl 1 rfl) ?_
    refine lv_iload_n hx hb dX6_requireWay_10 rfl (lv_at hl 0 rfl) ?_
    refine lv_icmp_le (tgt := 20) hx hb dX6_requireWay_11 (by decide) (fun c6 => ?_) (fun c6 => ?_)
    · have h := ipos c6 h
      obtain rfl := Option.some.inj h
      obtain ⟨sa7, hstr⟩ := hXR.2.2 19 rfl
      exact vx_throwSW (names := ["java/lang/RuntimeException", "java/lang/Exception"]) (sa := sa7) hx hb hl0 hown (by decide +kernel) (by decide +kernel) (hts (.classLink RX6 116 "java/lang/IllegalArgumentException") m_X6_requireWay_1) (hts (.initialized "java/lang/IllegalArgumentException") m_X6_requireWay_2) hstr (xhat hts m_X6_requireWay_0 hXR (by decide +kernel)) (by decide +kernel) hXS.1 hXS.2 hS (hl.1.trans hml.symm) dX6_requireWay_20 dX6_requireWay_23 dX6_requireWay_24 dX6_requireWay_27 dX6_requireWay_30 (fun x hx9 => (hno x hx9).elim) (Nat.le_of_ble_eq_true rfl) (Nat.le_of_ble_eq_true rfl) (Nat.le_of_ble_eq_true rfl) (Nat.le_of_ble_eq_true rfl) hlocks (fun t _ h1 h2 => XWL.of (by decide) rfl hP hD hS h1 h2) hS.2.2 (Nat.le_of_ble_eq_true rfl) (Nat.le_of_ble_eq_true rfl)
    · have h := ineg c6 h
      refine lv_iload_n hx hb dX6_requireWay_14 rfl (lv_at hl 1 rfl) ?_
      refine lv_bipush (v := iI 9) hx hb dX6_requireWay_15 (by decide) ?_
      refine lv_icmp_le (tgt := 31) hx hb dX6_requireWay_17 (by decide) (fun c8 => ?_) (fun c8 => ?_)
      · have h := ipos c8 h
        obtain rfl := Option.some.inj h
        refine W.widen (k := 1) (n := 6) (Nat.le_of_ble_eq_true rfl) (Nat.le_of_ble_eq_true rfl) ?_
        refine vx_ret ?_
        exact W.vret hx hb hr (fun t ht hW => ⟨⟨(), rfl, rfl, WLD.of ht hP hD⟩, hS.F ht⟩) hS.2.2 dX6_requireWay_31
      · have h := ineg c8 h
        obtain rfl := Option.some.inj h
        obtain ⟨sa9, hstr⟩ := hXR.2.2 19 rfl
        exact vx_throwSW (names := ["java/lang/RuntimeException", "java/lang/Exception"]) (sa := sa9) hx hb hl0 hown (by decide +kernel) (by decide +kernel) (hts (.classLink RX6 116 "java/lang/IllegalArgumentException") m_X6_requireWay_1) (hts (.initialized "java/lang/IllegalArgumentException") m_X6_requireWay_2) hstr (xhat hts m_X6_requireWay_0 hXR (by decide +kernel)) (by decide +kernel) hXS.1 hXS.2 hS (hl.1.trans hml.symm) dX6_requireWay_20 dX6_requireWay_23 dX6_requireWay_24 dX6_requireWay_27 dX6_requireWay_30 (fun x hx9 => (hno x hx9).elim) (Nat.le_of_ble_eq_true rfl) (Nat.le_of_ble_eq_true rfl) (Nat.le_of_ble_eq_true rfl) (Nat.le_of_ble_eq_true rfl) hlocks (fun t _ h1 h2 => XWL.of (by decide) rfl hP hD hS h1 h2) hS.2.2 (Nat.le_of_ble_eq_true rfl) (Nat.le_of_ble_eq_true rfl)
def s_X0_openTill_L2 (n : Nat) (v_ends : Nat → Int32) (v_holders : Nat → Int32) (a1 : Int32) : Nat → Int32 → Option (Int32)
  | 0, _ => none
  | k + 1, x3 => (if iI 9 ≤ x3 then (some (x3)) else ((s_X0_isOpen v_ends v_holders a1 x3).bind fun r2 => (if r2 = 0 then (some (x3)) else (s_X0_openTill_L2 n v_ends v_holders a1 k (x3 + iI 1)))))
def s_X0_openTill (n : Nat) (v_ends : Nat → Int32) (v_holders : Nat → Int32) (a1 : Int32) (a2 : Int32) : Option (Int32) := (s_X0_openTill_L2 n v_ends v_holders a1 n a2)
set_option maxHeartbeats 4000000 in
set_option maxRecDepth 100000 in
theorem c_X0_openTill (l : Launch) (dC : Nat → ClassId) (dI : Nat → Nat → Nat) (cyI cyJ cyT : ClassId) (h_p0 : Nat) (h_p0_holders : Nat) (h_p0_ends : Nat) (sz : Nat) (v_ends : Nat → Int32) (v_holders : Nat → Int32) (a1 : Int32) (a2 : Int32) (n : Nat) (o : Int32) (h : s_X0_openTill n v_ends v_holders a1 a2 = some o) : Met l yX0_openTill wsX0_openTill ({ frames := 1, cells := 0, slots := 0, locals := 24 }) (va_Pc [.ref h_p0, .int a1, .int a2] (PRE (dC, dI) (TYS cyI cyJ cyT) sz [(h_p0, .inr (0, [.ref h_p0_holders, .ref h_p0_ends])), (h_p0_ends, .inl (cyI, 3, .inl v_ends)), (h_p0_holders, .inl (cyI, 162, .inl v_holders))])) (va_Qi (S := Unit) (fun r _ => r = o) (fun _ t => WLD (dC, dI) (va_A [(h_p0, .inr (0, [.ref h_p0_holders, .ref h_p0_ends])), (h_p0_ends, .inl (cyI, 3, .inl v_ends)), (h_p0_holders, .inl (cyI, 162, .inl v_holders))] sz) [(h_p0, .inr (0, [.ref h_p0_holders, .ref h_p0_ends])), (h_p0_ends, .inl (cyI, 3, .inl v_ends)), (h_p0_holders, .inl (cyI, 162, .inl v_holders))] t) (va_A [(h_p0, .inr (0, [.ref h_p0_holders, .ref h_p0_ends])), (h_p0_ends, .inl (cyI, 3, .inl v_ends)), (h_p0_holders, .inl (cyI, 162, .inl v_holders))] sz)) 0 0 (va_A [(h_p0, .inr (0, [.ref h_p0_holders, .ref h_p0_ends])), (h_p0_ends, .inl (cyI, 3, .inl v_ends)), (h_p0_holders, .inl (cyI, 162, .inl v_holders))] sz) := by
  refine Met.ofW (cc := cX0_openTill) (maxL := 4) (ret := (some .int)) (by decide) rfl ?_
  intro p e s m args below meth c s₁ B hml hv
  obtain ⟨rfl, hsz, hP, hK, hD0, hNW⟩ := hv
  have hx := B.exec
  have hb := B.bytes
  have hr := B.returns
  have hts := atoms_spec (ws := wsX0_openTill) B.pre
  have hown : s.vm.findClass RX0 = some m.cls := findClass_of_methodNamed B.named
  have hlocks := B.notSynchronized
  subst hsz
  have hD := hD0.self (sz := s.heap.size)
  generalize hAe : va_A [(h_p0, .inr (0, [.ref h_p0_holders, .ref h_p0_ends])), (h_p0_ends, .inl (cyI, 3, .inl v_ends)), (h_p0_holders, .inl (cyI, 162, .inl v_holders))] s.heap.size = A at hD ⊢
  have hA : ∀ q : Nat, s.heap.size ≤ q → A q := fun q h => by rw [← hAe]; exact Or.inr h
  have hS : va_S A s.heap s.heap [] := va_S.rf
  have hP : va_P (dC, dI) vwCl [(h_p0, .inr (0, [.ref h_p0_holders, .ref h_p0_ends])), (h_p0_ends, .inl (cyI, 3, .inl v_ends)), (h_p0_holders, .inl (cyI, 162, .inl v_holders))] s.heap := hP
  have L2 : ∀ (k : Nat), (∀ (x3 : Int32) (H : Heap) (locs : List Loc), va_P (dC, dI) vwCl [(h_p0, .inr (0, [.ref h_p0_holders, .ref h_p0_ends])), (h_p0_ends, .inl (cyI, 3, .inl v_ends)), (h_p0_holders, .inl (cyI, 162, .inl v_holders))] H → va_D A [(h_p0, .inr (0, [.ref h_p0_holders, .ref h_p0_ends])), (h_p0_ends, .inl (cyI, 3, .inl v_ends)), (h_p0_holders, .inl (cyI, 162, .inl v_holders))] → va_S A s.heap H locs → ∀ (ls : Array Slot), lv_has ls 4 [(0, .ref h_p0), (1, .int a1), (3, .int x3)] →  s_X0_openTill_L2 n v_ends v_holders a1 k x3 = some o → W p l e (headSpec wsX0_openTill ({ frames := 1, cells := 0, slots := 0, locals := 24 })).room s m (([.ref h_p0, .int a1, .int a2] : List Value).toArray) below meth c H locs 0 0 (MQ below (va_Qi (S := Unit) (fun r _ => r = o) (fun _ t => WLD (dC, dI) A [(h_p0, .inr (0, [.ref h_p0_holders, .ref h_p0_ends])), (h_p0_ends, .inl (cyI, 3, .inl v_ends)), (h_p0_holders, .inl (cyI, 162, .inl v_holders))] t) A) (([.ref h_p0, .int a1, .int a2] : List Value).toArray) s 0 0 A) (F0 m 2 ls [])) := by
    intro k
    induction k with
    | zero =>
      intro  x3 H locs hP hD hS ls hl h
      rw [s_X0_openTill_L2] at h
      cases h
    | succ k ih =>
      intro  x3 H locs hP hD hS ls hl h
      rw [s_X0_openTill_L2] at h
      refine lv_iload_n hx hb dX0_openTill_2 rfl (lv_at hl 2 rfl) ?_
      refine lv_bipush (v := iI 9) hx hb dX0_openTill_3 (by decide) ?_
      refine lv_icmp_ge (tgt := 23) hx hb dX0_openTill_5 (by decide) (fun c1 => ?_) (fun c1 => ?_)
      · have h := ipos c1 h
        refine lv_iload_n hx hb dX0_openTill_23 rfl (lv_at hl 2 rfl) ?_
        obtain rfl := Option.some.inj h
        exact W.iret (v := x3) hx hb hr (fun t ht hW => ⟨⟨x3, (), rfl, rfl, WLD.of ht hP hD⟩, hS.F ht⟩) hS.2.2 dX0_openTill_24
      · have h := ineg c1 h
        refine lv_aload_n hx hb dX0_openTill_8 rfl (lv_at hl 0 rfl) ?_
        refine lv_iload_n hx hb dX0_openTill_9 rfl (lv_at hl 1 rfl) ?_
        refine lv_iload_n hx hb dX0_openTill_10 rfl (lv_at hl 2 rfl) ?_
        obtain ⟨r2, e3, h⟩ := bsome h
        have hPc := sb_P [(h_p0, .inr (0, [.ref h_p0_holders, .ref h_p0_ends])), (h_p0_ends, .inl (cyI, 3, .inl v_ends)), (h_p0_holders, .inl (cyI, 162, .inl v_holders))] hP [0, 1, 2] rfl
        have hDc := sb_D [(h_p0, .inr (0, [.ref h_p0_holders, .ref h_p0_ends])), (h_p0_ends, .inl (cyI, 3, .inl v_ends)), (h_p0_holders, .inl (cyI, 162, .inl v_holders))] hD [0, 1, 2] (by decide) rfl
        have hFc := va_free (wc := [(h_p0, .inr (0, [.ref h_p0_holders, .ref h_p0_ends])), (h_p0_ends, .inl (cyI, 3, .inl v_ends)), (h_p0_holders, .inl (cyI, 162, .inl v_holders))]) hD hS hA [0, 1, 2] rfl
        refine va_calli (va_runV (As := [.int a1, .int x3]) (rest := []) ⟨hx, hb, hml, hown, hts⟩ (c_X0_isOpen l dC dI cyI cyJ cyT h_p0 h_p0_holders h_p0_ends H.size v_ends v_holders a1 x3 r2 e3) (cwV 2 hts gX0_openTill_X0_isOpen rfl rfl rfl (by decide +kernel) ⟨Nat.le_of_ble_eq_true rfl, Nat.le_of_ble_eq_true rfl⟩) ⟨PRE.blind, va_recv hK hPc (ci := 0) (q0 := 0) rfl rfl, PRE.go hK hPc hDc hNW⟩ rfl rfl hl.1 rfl (lv_room (Nat.le_of_ble_eq_true rfl)) dX0_openTill_11 ⟨Nat.zero_le _, Nat.zero_le _⟩) hS (fun q _ h => hFc q h) hFc (fun z4 u t H locs ht hvm hw hB hz1 hk1 hS => ?_)
        subst z4
        obtain ⟨hP, hD⟩ := va_join (wr := []) (w1 := [(h_p0, .inr (0, [.ref h_p0_holders, .ref h_p0_ends])), (h_p0_ends, .inl (cyI, 3, .inl v_ends)), (h_p0_holders, .inl (cyI, 162, .inl v_holders))]) hP hD [0, 1, 2] [] rfl rfl (by decide) (by decide) hk1 hFc (WLD.P hB ht) hB.2
        have hP : va_P (dC, dI) vwCl [(h_p0, .inr (0, [.ref h_p0_holders, .ref h_p0_ends])), (h_p0_ends, .inl (cyI, 3, .inl v_ends)), (h_p0_holders, .inl (cyI, 162, .inl v_holders))] H := hP
        have hD : va_D A [(h_p0, .inr (0, [.ref h_p0_holders, .ref h_p0_ends])), (h_p0_ends, .inl (cyI, 3, .inl v_ends)), (h_p0_holders, .inl (cyI, 162, .inl v_holders))] := hD
        refine lv_if_eq (tgt := 23) hx hb dX0_openTill_14 (by decide) (fun c5 => ?_) (fun c5 => ?_)
        · have h := ipos c5 h
          refine lv_iload_n hx hb dX0_openTill_23 rfl (lv_at hl 2 rfl) ?_
          obtain rfl := Option.some.inj h
          exact W.iret (v := x3) hx hb hr (fun t ht hW => ⟨⟨x3, (), rfl, rfl, WLD.of ht hP hD⟩, hS.F ht⟩) hS.2.2 dX0_openTill_24
        · have h := ineg c5 h
          refine lv_iinc (v := (x3 + iI 1)) hx hb dX0_openTill_17 hl (k := 2) rfl rfl (by decide) (rfl : _ = ([(3, .int (x3 + iI 1)), (0, .ref h_p0), (1, .int a1)] : List (Nat × Value))) (fun ls hl => ?_)
          refine lv_goto (tgt := 2) hx hb dX0_openTill_20 (by decide) ?_
          exact ih (x3 + iI 1) _ _ hP hD hS ls (lv_sub hl [1, 2, 0] rfl) h
  have hl := lv_entry ([.ref h_p0, .int a1, .int a2]) (n := 4) (Nat.le_of_ble_eq_true rfl)
  rw [lg_entry_eq]
  generalize (lg_sl ([.ref h_p0, .int a1, .int a2]) ++ List.replicate (4 - (lg_sl ([.ref h_p0, .int a1, .int a2])).length) Slot.unset).toArray = ls at hl ⊢
  have hl : lv_has ls 4 [(0, .ref h_p0), (1, .int a1), (2, .int a2)] := hl
  unfold s_X0_openTill at h
  refine lv_iload_n hx hb dX0_openTill_0 rfl (lv_at hl 2 rfl) ?_
  refine lv_istore_n hx hb dX0_openTill_1 rfl hl (by decide) (rfl : _ = ([(3, .int a2), (0, .ref h_p0), (1, .int a1), (2, .int a2)] : List (Nat × Value))) (fun ls hl => ?_)
  exact L2 n a2 _ _ hP hD hS ls (lv_sub hl [1, 2, 0] rfl) h
def s_X0_calmest_L8 (n : Nat) (v_ends : Nat → Int32) (v_holders : Nat → Int32) (a1 : Int32) (a2 : Int32) : Nat → Int32 → Int32 → Int32 → Option (Int32)
  | 0, _, _, _ => none
  | k + 1, x3, x4, x5 => (if iI 18 ≤ x5 then (some (x3)) else ((s_X0_openTill n v_ends v_holders x5 a1).bind fun r2 => (if r2 < a2 then (s_X0_calmest_L8 n v_ends v_holders a1 a2 k x3 x4 (x5 + iI 1)) else ((s_X0_wokenIn n v_holders x5 a1 a2).bind fun r6 => (if x3 = iI (-1) then (s_X0_calmest_L8 n v_ends v_holders a1 a2 k x5 r6 (x5 + iI 1)) else (if x4 ≤ r6 then (s_X0_calmest_L8 n v_ends v_holders a1 a2 k x3 x4 (x5 + iI 1)) else (s_X0_calmest_L8 n v_ends v_holders a1 a2 k x5 r6 (x5 + iI 1))))))))
def s_X0_calmest (n : Nat) (v_ends : Nat → Int32) (v_holders : Nat → Int32) (a1 : Int32) (a2 : Int32) : Option (Int32) := (s_X0_calmest_L8 n v_ends v_holders a1 a2 n (iI (-1)) (iI 0) (iI 0))
set_option maxHeartbeats 4000000 in
set_option maxRecDepth 100000 in
theorem c_X0_calmest (l : Launch) (dC : Nat → ClassId) (dI : Nat → Nat → Nat) (cyI cyJ cyT : ClassId) (h_p0 : Nat) (h_p0_holders : Nat) (h_p0_ends : Nat) (sz : Nat) (v_ends : Nat → Int32) (v_holders : Nat → Int32) (a1 : Int32) (a2 : Int32) (n : Nat) (o : Int32) (h : s_X0_calmest n v_ends v_holders a1 a2 = some o) : Met l yX0_calmest wsX0_calmest ({ frames := 2, cells := 0, slots := 0, locals := 47 }) (va_Pc [.ref h_p0, .int a1, .int a2] (PRE (dC, dI) (TYS cyI cyJ cyT) sz [(h_p0, .inr (0, [.ref h_p0_holders, .ref h_p0_ends])), (h_p0_ends, .inl (cyI, 3, .inl v_ends)), (h_p0_holders, .inl (cyI, 162, .inl v_holders))])) (va_Qi (S := Unit) (fun r _ => r = o) (fun _ t => WLD (dC, dI) (va_A [(h_p0, .inr (0, [.ref h_p0_holders, .ref h_p0_ends])), (h_p0_ends, .inl (cyI, 3, .inl v_ends)), (h_p0_holders, .inl (cyI, 162, .inl v_holders))] sz) [(h_p0, .inr (0, [.ref h_p0_holders, .ref h_p0_ends])), (h_p0_ends, .inl (cyI, 3, .inl v_ends)), (h_p0_holders, .inl (cyI, 162, .inl v_holders))] t) (va_A [(h_p0, .inr (0, [.ref h_p0_holders, .ref h_p0_ends])), (h_p0_ends, .inl (cyI, 3, .inl v_ends)), (h_p0_holders, .inl (cyI, 162, .inl v_holders))] sz)) 0 0 (va_A [(h_p0, .inr (0, [.ref h_p0_holders, .ref h_p0_ends])), (h_p0_ends, .inl (cyI, 3, .inl v_ends)), (h_p0_holders, .inl (cyI, 162, .inl v_holders))] sz) := by
  refine Met.ofW (cc := cX0_calmest) (maxL := 7) (ret := (some .int)) (by decide) rfl ?_
  intro p e s m args below meth c s₁ B hml hv
  obtain ⟨rfl, hsz, hP, hK, hD0, hNW⟩ := hv
  have hx := B.exec
  have hb := B.bytes
  have hr := B.returns
  have hts := atoms_spec (ws := wsX0_calmest) B.pre
  have hown : s.vm.findClass RX0 = some m.cls := findClass_of_methodNamed B.named
  have hlocks := B.notSynchronized
  subst hsz
  have hD := hD0.self (sz := s.heap.size)
  generalize hAe : va_A [(h_p0, .inr (0, [.ref h_p0_holders, .ref h_p0_ends])), (h_p0_ends, .inl (cyI, 3, .inl v_ends)), (h_p0_holders, .inl (cyI, 162, .inl v_holders))] s.heap.size = A at hD ⊢
  have hA : ∀ q : Nat, s.heap.size ≤ q → A q := fun q h => by rw [← hAe]; exact Or.inr h
  have hS : va_S A s.heap s.heap [] := va_S.rf
  have hP : va_P (dC, dI) vwCl [(h_p0, .inr (0, [.ref h_p0_holders, .ref h_p0_ends])), (h_p0_ends, .inl (cyI, 3, .inl v_ends)), (h_p0_holders, .inl (cyI, 162, .inl v_holders))] s.heap := hP
  have L8 : ∀ (k : Nat), (∀ (x3 : Int32) (x4 : Int32) (x5 : Int32) (H : Heap) (locs : List Loc), va_P (dC, dI) vwCl [(h_p0, .inr (0, [.ref h_p0_holders, .ref h_p0_ends])), (h_p0_ends, .inl (cyI, 3, .inl v_ends)), (h_p0_holders, .inl (cyI, 162, .inl v_holders))] H → va_D A [(h_p0, .inr (0, [.ref h_p0_holders, .ref h_p0_ends])), (h_p0_ends, .inl (cyI, 3, .inl v_ends)), (h_p0_holders, .inl (cyI, 162, .inl v_holders))] → va_S A s.heap H locs → ∀ (ls : Array Slot), lv_has ls 7 [(0, .ref h_p0), (1, .int a1), (2, .int a2), (3, .int x3), (4, .int x4), (5, .int x5)] →  s_X0_calmest_L8 n v_ends v_holders a1 a2 k x3 x4 x5 = some o → W p l e (headSpec wsX0_calmest ({ frames := 2, cells := 0, slots := 0, locals := 47 })).room s m (([.ref h_p0, .int a1, .int a2] : List Value).toArray) below meth c H locs 0 0 (MQ below (va_Qi (S := Unit) (fun r _ => r = o) (fun _ t => WLD (dC, dI) A [(h_p0, .inr (0, [.ref h_p0_holders, .ref h_p0_ends])), (h_p0_ends, .inl (cyI, 3, .inl v_ends)), (h_p0_holders, .inl (cyI, 162, .inl v_holders))] t) A) (([.ref h_p0, .int a1, .int a2] : List Value).toArray) s 0 0 A) (F0 m 8 ls [])) := by
    intro k
    induction k with
    | zero =>
      intro  x3 x4 x5 H locs hP hD hS ls hl h
      rw [s_X0_calmest_L8] at h
      cases h
    | succ k ih =>
      intro  x3 x4 x5 H locs hP hD hS ls hl h
      rw [s_X0_calmest_L8] at h
      refine lv_iload hx hb dX0_calmest_8 (lv_at hl 5 rfl) ?_
      refine lv_bipush (v := iI 18) hx hb dX0_calmest_10 (by decide) ?_
      refine lv_icmp_ge (tgt := 61) hx hb dX0_calmest_12 (by decide) (fun c1 => ?_) (fun c1 => ?_)
      · have h := ipos c1 h
        refine lv_iload_n hx hb dX0_calmest_61 rfl (lv_at hl 3 rfl) ?_
        obtain rfl := Option.some.inj h
        exact W.iret (v := x3) hx hb hr (fun t ht hW => ⟨⟨x3, (), rfl, rfl, WLD.of ht hP hD⟩, hS.F ht⟩) hS.2.2 dX0_calmest_62
      · have h := ineg c1 h
        refine lv_aload_n hx hb dX0_calmest_15 rfl (lv_at hl 0 rfl) ?_
        refine lv_iload hx hb dX0_calmest_16 (lv_at hl 5 rfl) ?_
        refine lv_iload_n hx hb dX0_calmest_18 rfl (lv_at hl 1 rfl) ?_
        obtain ⟨r2, e3, h⟩ := bsome h
        have hPc := sb_P [(h_p0, .inr (0, [.ref h_p0_holders, .ref h_p0_ends])), (h_p0_ends, .inl (cyI, 3, .inl v_ends)), (h_p0_holders, .inl (cyI, 162, .inl v_holders))] hP [0, 1, 2] rfl
        have hDc := sb_D [(h_p0, .inr (0, [.ref h_p0_holders, .ref h_p0_ends])), (h_p0_ends, .inl (cyI, 3, .inl v_ends)), (h_p0_holders, .inl (cyI, 162, .inl v_holders))] hD [0, 1, 2] (by decide) rfl
        have hFc := va_free (wc := [(h_p0, .inr (0, [.ref h_p0_holders, .ref h_p0_ends])), (h_p0_ends, .inl (cyI, 3, .inl v_ends)), (h_p0_holders, .inl (cyI, 162, .inl v_holders))]) hD hS hA [0, 1, 2] rfl
        refine va_calli (va_runV (As := [.int x5, .int a1]) (rest := []) ⟨hx, hb, hml, hown, hts⟩ (c_X0_openTill l dC dI cyI cyJ cyT h_p0 h_p0_holders h_p0_ends H.size v_ends v_holders x5 a1 n r2 e3) (cwV 2 hts gX0_calmest_X0_openTill rfl rfl rfl (by decide +kernel) ⟨Nat.le_of_ble_eq_true rfl, Nat.le_of_ble_eq_true rfl⟩) ⟨PRE.blind, va_recv hK hPc (ci := 0) (q0 := 0) rfl rfl, PRE.go hK hPc hDc hNW⟩ rfl rfl hl.1 rfl (lv_room (Nat.le_of_ble_eq_true rfl)) dX0_calmest_19 ⟨Nat.zero_le _, Nat.zero_le _⟩) hS (fun q _ h => hFc q h) hFc (fun z4 u t H locs ht hvm hw hB hz1 hk1 hS => ?_)
        subst z4
        obtain ⟨hP, hD⟩ := va_join (wr := []) (w1 := [(h_p0, .inr (0, [.ref h_p0_holders, .ref h_p0_ends])), (h_p0_ends, .inl (cyI, 3, .inl v_ends)), (h_p0_holders, .inl (cyI, 162, .inl v_holders))]) hP hD [0, 1, 2] [] rfl rfl (by decide) (by decide) hk1 hFc (WLD.P hB ht) hB.2
        have hP : va_P (dC, dI) vwCl [(h_p0, .inr (0, [.ref h_p0_holders, .ref h_p0_ends])), (h_p0_ends, .inl (cyI, 3, .inl v_ends)), (h_p0_holders, .inl (cyI, 162, .inl v_holders))] H := hP
        have hD : va_D A [(h_p0, .inr (0, [.ref h_p0_holders, .ref h_p0_ends])), (h_p0_ends, .inl (cyI, 3, .inl v_ends)), (h_p0_holders, .inl (cyI, 162, .inl v_holders))] := hD
        refine lv_iload_n hx hb dX0_calmest_22 rfl (lv_at hl 2 rfl) ?_
        refine lv_icmp_lt (tgt := 55) hx hb dX0_calmest_23 (by decide) (fun c5 => ?_) (fun c5 => ?_)
        · have h := ipos c5 h
          refine lv_iinc (v := (x5 + iI 1)) hx hb dX0_calmest_55 hl (k := 5) rfl rfl (by decide) (rfl : _ = ([(5, .int (x5 + iI 1)), (0, .ref h_p0), (1, .int a1), (2, .int a2), (3, .int x3), (4, .int x4)] : List (Nat × Value))) (fun ls hl => ?_)
          refine lv_goto (tgt := 8) hx hb dX0_calmest_58 (by decide) ?_
          exact ih x3 x4 (x5 + iI 1) _ _ hP hD hS ls (lv_sub hl [1, 2, 3, 4, 5, 0] rfl) h
        · have h := ineg c5 h
          refine lv_aload_n hx hb dX0_calmest_26 rfl (lv_at hl 0 rfl) ?_
          refine lv_iload hx hb dX0_calmest_27 (lv_at hl 5 rfl) ?_
          refine lv_iload_n hx hb dX0_calmest_29 rfl (lv_at hl 1 rfl) ?_
          refine lv_iload_n hx hb dX0_calmest_30 rfl (lv_at hl 2 rfl) ?_
          obtain ⟨r6, e7, h⟩ := bsome h
          have hPc := sb_P [(h_p0, .inr (0, [.ref h_p0_holders, .ref h_p0_ends])), (h_p0_holders, .inl (cyI, 162, .inl v_holders))] hP [0, 2] rfl
          have hDc := sb_D [(h_p0, .inr (0, [.ref h_p0_holders, .ref h_p0_ends])), (h_p0_holders, .inl (cyI, 162, .inl v_holders))] hD [0, 2] (by decide) rfl
          have hFc := va_free (wc := [(h_p0, .inr (0, [.ref h_p0_holders, .ref h_p0_ends])), (h_p0_holders, .inl (cyI, 162, .inl v_holders))]) hD hS hA [0, 2] rfl
          refine va_calli (va_runV (As := [.int x5, .int a1, .int a2]) (rest := []) ⟨hx, hb, hml, hown, hts⟩ (c_X0_wokenIn l dC dI cyI cyJ cyT h_p0 h_p0_holders h_p0_ends H.size v_holders x5 a1 a2 n r6 e7) (cwV 3 hts gX0_calmest_X0_wokenIn rfl rfl rfl (by decide +kernel) ⟨Nat.le_of_ble_eq_true rfl, Nat.le_of_ble_eq_true rfl⟩) ⟨PRE.blind, va_recv hK hPc (ci := 0) (q0 := 0) rfl rfl, PRE.go hK hPc hDc hNW⟩ rfl rfl hl.1 rfl (lv_room (Nat.le_of_ble_eq_true rfl)) dX0_calmest_31 ⟨Nat.zero_le _, Nat.zero_le _⟩) hS (fun q _ h => hFc q h) hFc (fun z8 u t H locs ht hvm hw hB hz1 hk1 hS => ?_)
          subst z8
          obtain ⟨hP, hD⟩ := va_join (wr := [(h_p0_ends, .inl (cyI, 3, .inl v_ends))]) (w1 := [(h_p0, .inr (0, [.ref h_p0_holders, .ref h_p0_ends])), (h_p0_holders, .inl (cyI, 162, .inl v_holders))]) hP hD [0, 2] [1] rfl rfl (by decide) (by decide) hk1 hFc (WLD.P hB ht) hB.2
          have hP : va_P (dC, dI) vwCl [(h_p0_ends, .inl (cyI, 3, .inl v_ends)), (h_p0, .inr (0, [.ref h_p0_holders, .ref h_p0_ends])), (h_p0_holders, .inl (cyI, 162, .inl v_holders))] H := hP
          have hD : va_D A [(h_p0_ends, .inl (cyI, 3, .inl v_ends)), (h_p0, .inr (0, [.ref h_p0_holders, .ref h_p0_ends])), (h_p0_holders, .inl (cyI, 162, .inl v_holders))] := hD
          refine lv_istore hx hb dX0_calmest_34 hl (by decide) (rfl : _ = ([(6, .int r6), (0, .ref h_p0), (1, .int a1), (2, .int a2), (3, .int x3), (4, .int x4), (5, .int x5)] : List (Nat × Value))) (fun ls hl => ?_)
          refine lv_iload_n hx hb dX0_calmest_36 rfl (lv_at hl 4 rfl) ?_
          refine lv_iconst (v := iI (-1)) hx hb dX0_calmest_37 rfl ?_
          refine lv_icmp_eq (tgt := 48) hx hb dX0_calmest_38 (by decide) (fun c9 => ?_) (fun c9 => ?_)
          · have h := ipos c9 h
            refine lv_iload hx hb dX0_calmest_48 (lv_at hl 6 rfl) ?_
            refine lv_istore_n hx hb dX0_calmest_50 rfl hl (by decide) (rfl : _ = ([(3, .int x5), (6, .int r6), (0, .ref h_p0), (1, .int a1), (2, .int a2), (4, .int x4), (5, .int x5)] : List (Nat × Value))) (fun ls hl => ?_)
            refine lv_iload hx hb dX0_calmest_51 (lv_at hl 1 rfl) ?_
            refine lv_istore hx hb dX0_calmest_53 hl (by decide) (rfl : _ = ([(4, .int r6), (3, .int x5), (6, .int r6), (0, .ref h_p0), (1, .int a1), (2, .int a2), (5, .int x5)] : List (Nat × Value))) (fun ls hl => ?_)
            refine lv_iinc (v := (x5 + iI 1)) hx hb dX0_calmest_55 hl (k := 6) rfl rfl (by decide) (rfl : _ = ([(5, .int (x5 + iI 1)), (4, .int r6), (3, .int x5), (6, .int r6), (0, .ref h_p0), (1, .int a1), (2, .int a2)] : List (Nat × Value))) (fun ls hl => ?_)
            refine lv_goto (tgt := 8) hx hb dX0_calmest_58 (by decide) ?_
            exact ih x5 r6 (x5 + iI 1) _ _ (sb_P [(h_p0, .inr (0, [.ref h_p0_holders, .ref h_p0_ends])), (h_p0_ends, .inl (cyI, 3, .inl v_ends)), (h_p0_holders, .inl (cyI, 162, .inl v_holders))] hP [1, 0, 2] rfl) (sb_D [(h_p0, .inr (0, [.ref h_p0_holders, .ref h_p0_ends])), (h_p0_ends, .inl (cyI, 3, .inl v_ends)), (h_p0_holders, .inl (cyI, 162, .inl v_holders))] hD [1, 0, 2] (by decide) rfl) hS ls (lv_sub hl [4, 5, 6, 2, 1, 0] rfl) h
          · have h := ineg c9 h
            refine lv_iload hx hb dX0_calmest_41 (lv_at hl 0 rfl) ?_
            refine lv_iload hx hb dX0_calmest_43 (lv_at hl 5 rfl) ?_
            refine lv_icmp_ge (tgt := 55) hx hb dX0_calmest_45 (by decide) (fun c10 => ?_) (fun c10 => ?_)
            · have h := ipos c10 h
              refine lv_iinc (v := (x5 + iI 1)) hx hb dX0_calmest_55 hl (k := 6) rfl rfl (by decide) (rfl : _ = ([(5, .int (x5 + iI 1)), (6, .int r6), (0, .ref h_p0), (1, .int a1), (2, .int a2), (3, .int x3), (4, .int x4)] : List (Nat × Value))) (fun ls hl => ?_)
              refine lv_goto (tgt := 8) hx hb dX0_calmest_58 (by decide) ?_
              exact ih x3 x4 (x5 + iI 1) _ _ (sb_P [(h_p0, .inr (0, [.ref h_p0_holders, .ref h_p0_ends])), (h_p0_ends, .inl (cyI, 3, .inl v_ends)), (h_p0_holders, .inl (cyI, 162, .inl v_holders))] hP [1, 0, 2] rfl) (sb_D [(h_p0, .inr (0, [.ref h_p0_holders, .ref h_p0_ends])), (h_p0_ends, .inl (cyI, 3, .inl v_ends)), (h_p0_holders, .inl (cyI, 162, .inl v_holders))] hD [1, 0, 2] (by decide) rfl) hS ls (lv_sub hl [2, 3, 4, 5, 6, 0] rfl) h
            · have h := ineg c10 h
              refine lv_iload hx hb dX0_calmest_48 (lv_at hl 6 rfl) ?_
              refine lv_istore_n hx hb dX0_calmest_50 rfl hl (by decide) (rfl : _ = ([(3, .int x5), (6, .int r6), (0, .ref h_p0), (1, .int a1), (2, .int a2), (4, .int x4), (5, .int x5)] : List (Nat × Value))) (fun ls hl => ?_)
              refine lv_iload hx hb dX0_calmest_51 (lv_at hl 1 rfl) ?_
              refine lv_istore hx hb dX0_calmest_53 hl (by decide) (rfl : _ = ([(4, .int r6), (3, .int x5), (6, .int r6), (0, .ref h_p0), (1, .int a1), (2, .int a2), (5, .int x5)] : List (Nat × Value))) (fun ls hl => ?_)
              refine lv_iinc (v := (x5 + iI 1)) hx hb dX0_calmest_55 hl (k := 6) rfl rfl (by decide) (rfl : _ = ([(5, .int (x5 + iI 1)), (4, .int r6), (3, .int x5), (6, .int r6), (0, .ref h_p0), (1, .int a1), (2, .int a2)] : List (Nat × Value))) (fun ls hl => ?_)
              refine lv_goto (tgt := 8) hx hb dX0_calmest_58 (by decide) ?_
              exact ih x5 r6 (x5 + iI 1) _ _ (sb_P [(h_p0, .inr (0, [.ref h_p0_holders, .ref h_p0_ends])), (h_p0_ends, .inl (cyI, 3, .inl v_ends)), (h_p0_holders, .inl (cyI, 162, .inl v_holders))] hP [1, 0, 2] rfl) (sb_D [(h_p0, .inr (0, [.ref h_p0_holders, .ref h_p0_ends])), (h_p0_ends, .inl (cyI, 3, .inl v_ends)), (h_p0_holders, .inl (cyI, 162, .inl v_holders))] hD [1, 0, 2] (by decide) rfl) hS ls (lv_sub hl [4, 5, 6, 2, 1, 0] rfl) h
  have hl := lv_entry ([.ref h_p0, .int a1, .int a2]) (n := 7) (Nat.le_of_ble_eq_true rfl)
  rw [lg_entry_eq]
  generalize (lg_sl ([.ref h_p0, .int a1, .int a2]) ++ List.replicate (7 - (lg_sl ([.ref h_p0, .int a1, .int a2])).length) Slot.unset).toArray = ls at hl ⊢
  have hl : lv_has ls 7 [(0, .ref h_p0), (1, .int a1), (2, .int a2)] := hl
  unfold s_X0_calmest at h
  refine lv_iconst (v := iI (-1)) hx hb dX0_calmest_0 rfl ?_
  refine lv_istore_n hx hb dX0_calmest_1 rfl hl (by decide) (rfl : _ = ([(3, .int (iI (-1))), (0, .ref h_p0), (1, .int a1), (2, .int a2)] : List (Nat × Value))) (fun ls hl => ?_)
  refine lv_iconst (v := iI 0) hx hb dX0_calmest_2 rfl ?_
  refine lv_istore hx hb dX0_calmest_3 hl (by decide) (rfl : _ = ([(4, .int (iI 0)), (3, .int (iI (-1))), (0, .ref h_p0), (1, .int a1), (2, .int a2)] : List (Nat × Value))) (fun ls hl => ?_)
  refine lv_iconst (v := iI 0) hx hb dX0_calmest_5 rfl ?_
  refine lv_istore hx hb dX0_calmest_6 hl (by decide) (rfl : _ = ([(5, .int (iI 0)), (4, .int (iI 0)), (3, .int (iI (-1))), (0, .ref h_p0), (1, .int a1), (2, .int a2)] : List (Nat × Value))) (fun ls hl => ?_)
  exact L8 n (iI (-1)) (iI 0) (iI 0) _ _ hP hD hS ls (lv_sub hl [3, 4, 5, 2, 1, 0] rfl) h
def s_X2_init (a1 : Int32) (a2 : Int32) (a3 : Int32) : Option (Int32 × Int32 × Int32) := (some (a1, a2, a3))
set_option maxRecDepth 20000 in
theorem m_X2_init_0 : (.methodLink RX2 3 objectInit : Cond) ∈ wsX2_init := by decide +kernel
set_option maxRecDepth 20000 in
theorem m_X2_init_1 : (.instanceMethod objectInit : Cond) ∈ wsX2_init := by decide +kernel
set_option maxRecDepth 20000 in
theorem m_X2_init_2 : (.code objectInit ⟨#[0xb1]⟩ 1 none : Cond) ∈ wsX2_init := by decide +kernel
set_option maxRecDepth 20000 in
theorem m_X2_init_3 : ∀ w ∈ u_ws RX2 TX2 3, w ∈ wsX2_init := by decide +kernel
set_option maxRecDepth 20000 in
theorem m_X2_init_4 : (.fieldLink RX2 9 "SleeperBerths$Offer" "first" "I" : Cond) ∈ wsX2_init := by decide +kernel
set_option maxRecDepth 20000 in
theorem m_X2_init_5 : (.fieldLink RX2 15 "SleeperBerths$Offer" "last" "I" : Cond) ∈ wsX2_init := by decide +kernel
set_option maxRecDepth 20000 in
theorem m_X2_init_6 : (.fieldLink RX2 18 "SleeperBerths$Offer" "changeAt" "I" : Cond) ∈ wsX2_init := by decide +kernel
set_option maxHeartbeats 4000000 in
set_option maxRecDepth 100000 in
theorem c_X2_init (l : Launch) (dC : Nat → ClassId) (dI : Nat → Nat → Nat) (cyI cyJ cyT : ClassId) (h_p0 : Nat) (sz : Nat) (a1 : Int32) (a2 : Int32) (a3 : Int32) (o : Int32 × Int32 × Int32) (h : s_X2_init a1 a2 a3 = some o) : Met l yX2_init wsX2_init ({ frames := 1, cells := 0, slots := 0, locals := 12 }) (va_Pc [.ref h_p0, .int a1, .int a2, .int a3] (PRE (dC, dI) (TYS cyI cyJ cyT) sz [(h_p0, .inr (2, [.int 0, .int 0, .int 0]))])) (va_Qv (S := Unit) (fun _ => True) (fun _ t => WLD (dC, dI) (va_A [(h_p0, .inr (2, [.int 0, .int 0, .int 0]))] sz) [(h_p0, .inr (2, [.int o.1, .int o.2.1, .int o.2.2]))] t) (va_A [(h_p0, .inr (2, [.int 0, .int 0, .int 0]))] sz)) 0 0 (va_A [(h_p0, .inr (2, [.int 0, .int 0, .int 0]))] sz) := by
  refine Met.ofW (cc := cX2_init) (maxL := 4) (ret := none) (by decide) rfl ?_
  intro p e s m args below meth c s₁ B hml hv
  obtain ⟨rfl, hsz, hP, hK, hD0, hNW⟩ := hv
  have hx := B.exec
  have hb := B.bytes
  have hr := B.returns
  have hts := atoms_spec (ws := wsX2_init) B.pre
  have hown : s.vm.findClass RX2 = some m.cls := findClass_of_methodNamed B.named
  have hlocks := B.notSynchronized
  have hin : meth.name = "<init>" := (name_of_methodNamed B.named B.method).1
  subst hsz
  have hD := hD0.self (sz := s.heap.size)
  generalize hAe : va_A [(h_p0, .inr (2, [.int 0, .int 0, .int 0]))] s.heap.size = A at hD ⊢
  have hA : ∀ q : Nat, s.heap.size ≤ q → A q := fun q h => by rw [← hAe]; exact Or.inr h
  have hS : va_S A s.heap s.heap [] := va_S.rf
  have hP : va_P (dC, dI) vwCl [(h_p0, .inr (2, [.int 0, .int 0, .int 0]))] s.heap := hP
  have hl := lv_entry ([.ref h_p0, .int a1, .int a2, .int a3]) (n := 4) (Nat.le_of_ble_eq_true rfl)
  rw [lg_entry_eq]
  generalize (lg_sl ([.ref h_p0, .int a1, .int a2, .int a3]) ++ List.replicate (4 - (lg_sl ([.ref h_p0, .int a1, .int a2, .int a3])).length) Slot.unset).toArray = ls at hl ⊢
  have hl : lv_has ls 4 [(0, .ref h_p0), (1, .int a1), (2, .int a2), (3, .int a3)] := hl
  unfold s_X2_init at h
  refine lv_aload_n hx hb dX2_init_0 rfl (lv_at hl 0 rfl) ?_
  refine W.objInit hx hb hown (hts (.methodLink RX2 3 objectInit) m_X2_init_0) (hts (.instanceMethod objectInit) m_X2_init_1) (hts (.code objectInit ⟨#[0xb1]⟩ 1 none) m_X2_init_2) rfl (by rw [hml]; exact hl.1) rfl dX2_init_1 (Nat.le_of_ble_eq_true rfl) (Nat.le_of_ble_eq_true rfl) ?_
  refine W.eq (g2 := F0 m 4 ls []) rfl ?_
  refine lv_aload_n hx hb dX2_init_4 rfl (lv_at hl 0 rfl) ?_
  refine lv_iload_n hx hb dX2_init_5 rfl (lv_at hl 1 rfl) ?_
  refine va_putF (D := (dC, dI)) (ci := 2) (v := .int a1) (ty := .int) (C := RX2) (T := TX2) (N := 3) hx hb hts m_X2_init_3 tyX2 tyX2_ok nmX2 hown hK hP hD hS 0 rfl rfl 0 (by decide) (hts (.fieldLink RX2 9 "SleeperBerths$Offer" "first" "I") m_X2_init_4) (fun _ h9 => h9) rfl hin rfl (by decide +kernel) rfl rfl (Nat.le_of_ble_eq_true rfl) dX2_init_6 (fun H locs hP hD hS => ?_)
  have hP : va_P (dC, dI) vwCl [(h_p0, .inr (2, [.int a1, .int 0, .int 0]))] H := hP
  have hD : va_D A [(h_p0, .inr (2, [.int a1, .int 0, .int 0]))] := hD
  refine lv_aload_n hx hb dX2_init_9 rfl (lv_at hl 0 rfl) ?_
  refine lv_iload_n hx hb dX2_init_10 rfl (lv_at hl 2 rfl) ?_
  refine va_putF (D := (dC, dI)) (ci := 2) (v := .int a2) (ty := .int) (C := RX2) (T := TX2) (N := 3) hx hb hts m_X2_init_3 tyX2 tyX2_ok nmX2 hown hK hP hD hS 0 rfl rfl 1 (by decide) (hts (.fieldLink RX2 15 "SleeperBerths$Offer" "last" "I") m_X2_init_5) (fun _ h9 => h9) rfl hin rfl (by decide +kernel) rfl rfl (Nat.le_of_ble_eq_true rfl) dX2_init_11 (fun H locs hP hD hS => ?_)
  have hP : va_P (dC, dI) vwCl [(h_p0, .inr (2, [.int a1, .int a2, .int 0]))] H := hP
  have hD : va_D A [(h_p0, .inr (2, [.int a1, .int a2, .int 0]))] := hD
  refine lv_aload_n hx hb dX2_init_14 rfl (lv_at hl 0 rfl) ?_
  refine lv_iload_n hx hb dX2_init_15 rfl (lv_at hl 3 rfl) ?_
  refine va_putF (D := (dC, dI)) (ci := 2) (v := .int a3) (ty := .int) (C := RX2) (T := TX2) (N := 3) hx hb hts m_X2_init_3 tyX2 tyX2_ok nmX2 hown hK hP hD hS 0 rfl rfl 2 (by decide) (hts (.fieldLink RX2 18 "SleeperBerths$Offer" "changeAt" "I") m_X2_init_6) (fun _ h9 => h9) rfl hin rfl (by decide +kernel) rfl rfl (Nat.le_of_ble_eq_true rfl) dX2_init_16 (fun H locs hP hD hS => ?_)
  have hP : va_P (dC, dI) vwCl [(h_p0, .inr (2, [.int a1, .int a2, .int a3]))] H := hP
  have hD : va_D A [(h_p0, .inr (2, [.int a1, .int a2, .int a3]))] := hD
  obtain rfl := Option.some.inj h
  exact W.vret hx hb hr (fun t ht hW => ⟨⟨(), rfl, trivial, WLD.of ht hP hD⟩, hS.F ht⟩) hS.2.2 dX2_init_19
def s_X5_isNight (v_settings : Nat → Int32) (a1 : Int32) : Option (Int32) := ((s_X6_read 3 v_settings (iI 0)).bind fun r1 => (if a1 < r1 then (some (iI 0)) else ((s_X6_read 3 v_settings (iI 1)).bind fun r5 => (if r5 < a1 then (some (iI 0)) else (some (iI 1))))))
set_option maxRecDepth 20000 in
theorem m_X5_isNight_0 : ∀ w ∈ u_ws RX5 TX5 6, w ∈ wsX5_isNight := by decide +kernel
set_option maxRecDepth 20000 in
theorem m_X5_isNight_1 : (.fieldLink RX5 25 "SleeperBerths$Train" "settings" "[I" : Cond) ∈ wsX5_isNight := by decide +kernel
set_option maxRecDepth 20000 in
theorem m_X5_isNight_2 : (.initialized RX6 : Cond) ∈ wsX5_isNight := by decide +kernel
set_option maxRecDepth 20000 in
theorem m_X5_isNight_3 : (.static yX6_read : Cond) ∈ wsX5_isNight := by decide +kernel
set_option maxHeartbeats 4000000 in
set_option maxRecDepth 100000 in
theorem c_X5_isNight (l : Launch) (dC : Nat → ClassId) (dI : Nat → Nat → Nat) (cyI cyJ cyT : ClassId) (h_p0 : Nat) (h_p0_berths : Nat) (h_p0_roster : Nat) (h_p0_settings : Nat) (sz : Nat) (v_nextNumber : Int32) (v_bookings : Int32) (v_leftOut : Int32) (v_settings : Nat → Int32) (a1 : Int32) (o : Int32) (h : s_X5_isNight v_settings a1 = some o) : Met l yX5_isNight wsX5_isNight ({ frames := 1, cells := 0, slots := 0, locals := 21 }) (va_Pc [.ref h_p0, .int a1] (PRE (dC, dI) (TYS cyI cyJ cyT) sz [(h_p0, .inr (5, [.ref h_p0_berths, .ref h_p0_roster, .ref h_p0_settings, .int v_nextNumber, .int v_bookings, .int v_leftOut])), (h_p0_settings, .inl (cyI, 3, .inl v_settings))])) (va_Qi (S := Unit) (fun r _ => r = o) (fun _ t => WLD (dC, dI) (va_A [(h_p0, .inr (5, [.ref h_p0_berths, .ref h_p0_roster, .ref h_p0_settings, .int v_nextNumber, .int v_bookings, .int v_leftOut])), (h_p0_settings, .inl (cyI, 3, .inl v_settings))] sz) [(h_p0, .inr (5, [.ref h_p0_berths, .ref h_p0_roster, .ref h_p0_settings, .int v_nextNumber, .int v_bookings, .int v_leftOut])), (h_p0_settings, .inl (cyI, 3, .inl v_settings))] t) (va_A [(h_p0, .inr (5, [.ref h_p0_berths, .ref h_p0_roster, .ref h_p0_settings, .int v_nextNumber, .int v_bookings, .int v_leftOut])), (h_p0_settings, .inl (cyI, 3, .inl v_settings))] sz)) 0 0 (va_A [(h_p0, .inr (5, [.ref h_p0_berths, .ref h_p0_roster, .ref h_p0_settings, .int v_nextNumber, .int v_bookings, .int v_leftOut])), (h_p0_settings, .inl (cyI, 3, .inl v_settings))] sz) := by
  refine Met.ofW (cc := cX5_isNight) (maxL := 2) (ret := (some .boolean)) (by decide) rfl ?_
  intro p e s m args below meth c s₁ B hml hv
  obtain ⟨rfl, hsz, hP, hK, hD0, hNW⟩ := hv
  have hx := B.exec
  have hb := B.bytes
  have hr := B.returns
  have hts := atoms_spec (ws := wsX5_isNight) B.pre
  have hown : s.vm.findClass RX5 = some m.cls := findClass_of_methodNamed B.named
  have hlocks := B.notSynchronized
  subst hsz
  have hD := hD0.self (sz := s.heap.size)
  generalize hAe : va_A [(h_p0, .inr (5, [.ref h_p0_berths, .ref h_p0_roster, .ref h_p0_settings, .int v_nextNumber, .int v_bookings, .int v_leftOut])), (h_p0_settings, .inl (cyI, 3, .inl v_settings))] s.heap.size = A at hD ⊢
  have hA : ∀ q : Nat, s.heap.size ≤ q → A q := fun q h => by rw [← hAe]; exact Or.inr h
  have hS : va_S A s.heap s.heap [] := va_S.rf
  have hP : va_P (dC, dI) vwCl [(h_p0, .inr (5, [.ref h_p0_berths, .ref h_p0_roster, .ref h_p0_settings, .int v_nextNumber, .int v_bookings, .int v_leftOut])), (h_p0_settings, .inl (cyI, 3, .inl v_settings))] s.heap := hP
  have hl := lv_entry ([.ref h_p0, .int a1]) (n := 2) (Nat.le_of_ble_eq_true rfl)
  rw [lg_entry_eq]
  generalize (lg_sl ([.ref h_p0, .int a1]) ++ List.replicate (2 - (lg_sl ([.ref h_p0, .int a1])).length) Slot.unset).toArray = ls at hl ⊢
  have hl : lv_has ls 2 [(0, .ref h_p0), (1, .int a1)] := hl
  unfold s_X5_isNight at h
  refine lv_iload_n hx hb dX5_isNight_0 rfl (lv_at hl 1 rfl) ?_
  refine lv_aload_n hx hb dX5_isNight_1 rfl (lv_at hl 0 rfl) ?_
  refine va_get (D := (dC, dI)) (ci := 5) (v := .ref h_p0_settings) (C := RX5) (T := TX5) (N := 6) hx hb hts m_X5_isNight_0 hown hK hP 0 rfl rfl 2 (by decide) (hts (.fieldLink RX5 25 "SleeperBerths$Train" "settings" "[I") m_X5_isNight_1) (fun _ h9 => h9) rfl dX5_isNight_2 ?_
  refine lv_iconst (v := iI 0) hx hb dX5_isNight_5 rfl ?_
  obtain ⟨r1, e2, h⟩ := bsome h
  have hPc := sb_P [(h_p0_settings, .inl (cyI, 3, .inl v_settings))] hP [1] rfl
  have hDc := sb_D [(h_p0_settings, .inl (cyI, 3, .inl v_settings))] hD [1] (by decide) rfl
  have hFc := va_free (wc := [(h_p0_settings, .inl (cyI, 3, .inl v_settings))]) hD hS hA [1] rfl
  refine va_calli (va_runSN (As := [.ref h_p0_settings, .int (iI 0)]) (rest := [.int a1]) ⟨hx, hb, hml, hown, hts⟩ (c_X6_read l dC dI cyI cyJ cyT h_p0_settings s.heap.size 3 v_settings (iI 0) r1 e2) ⟨va_cnB (host := "SleeperBerths") 2 hts gX5_isNight_X6_read_n50 rfl rfl rfl (hNW 5 rfl) (hts (.initialized RX6) m_X5_isNight_2) (by decide +kernel) ⟨Nat.le_of_ble_eq_true rfl, Nat.le_of_ble_eq_true rfl⟩, (hts (.static yX6_read) m_X5_isNight_3), trivial⟩ ⟨PRE.blind, PRE.go hK hPc hDc hNW⟩ rfl rfl hl.1 rfl (lv_room (Nat.le_of_ble_eq_true rfl)) dX5_isNight_6 ⟨Nat.zero_le _, Nat.zero_le _⟩) hS (fun q _ h => hFc q h) hFc (fun z3 u t H locs ht hvm hw hB hz1 hk1 hS => ?_)
  subst z3
  obtain ⟨hP, hD⟩ := va_join (wr := [(h_p0, .inr (5, [.ref h_p0_berths, .ref h_p0_roster, .ref h_p0_settings, .int v_nextNumber, .int v_bookings, .int v_leftOut]))]) (w1 := [(h_p0_settings, .inl (cyI, 3, .inl v_settings))]) hP hD [1] [0] rfl rfl (by decide) (by decide) hk1 hFc (WLD.P hB ht) hB.2
  have hP : va_P (dC, dI) vwCl [(h_p0, .inr (5, [.ref h_p0_berths, .ref h_p0_roster, .ref h_p0_settings, .int v_nextNumber, .int v_bookings, .int v_leftOut])), (h_p0_settings, .inl (cyI, 3, .inl v_settings))] H := hP
  have hD : va_D A [(h_p0, .inr (5, [.ref h_p0_berths, .ref h_p0_roster, .ref h_p0_settings, .int v_nextNumber, .int v_bookings, .int v_leftOut])), (h_p0_settings, .inl (cyI, 3, .inl v_settings))] := hD
  refine lv_icmp_lt (tgt := 28) hx hb dX5_isNight_9 (by decide) (fun c4 => ?_) (fun c4 => ?_)
  · have h := ipos c4 h
    refine lv_iconst (v := iI 0) hx hb dX5_isNight_28 rfl ?_
    obtain rfl := Option.some.inj h
    exact W.zret (v := iI 0) hx hb hr (by decide) (fun t ht hW => ⟨⟨iI 0, (), rfl, rfl, WLD.of ht hP hD⟩, hS.F ht⟩) hS.2.2 dX5_isNight_29
  · have h := ineg c4 h
    refine lv_iload_n hx hb dX5_isNight_12 rfl (lv_at hl 1 rfl) ?_
    refine lv_aload_n hx hb dX5_isNight_13 rfl (lv_at hl 0 rfl) ?_
    refine va_get (D := (dC, dI)) (ci := 5) (v := .ref h_p0_settings) (C := RX5) (T := TX5) (N := 6) hx hb hts m_X5_isNight_0 hown hK hP 0 rfl rfl 2 (by decide) (hts (.fieldLink RX5 25 "SleeperBerths$Train" "settings" "[I") m_X5_isNight_1) (fun _ h9 => h9) rfl dX5_isNight_14 ?_
    refine lv_iconst (v := iI 1) hx hb dX5_isNight_17 rfl ?_
    obtain ⟨r5, e6, h⟩ := bsome h
    have hPc := sb_P [(h_p0_settings, .inl (cyI, 3, .inl v_settings))] hP [1] rfl
    have hDc := sb_D [(h_p0_settings, .inl (cyI, 3, .inl v_settings))] hD [1] (by decide) rfl
    have hFc := va_free (wc := [(h_p0_settings, .inl (cyI, 3, .inl v_settings))]) hD hS hA [1] rfl
    refine va_calli (va_runSN (As := [.ref h_p0_settings, .int (iI 1)]) (rest := [.int a1]) ⟨hx, hb, hml, hown, hts⟩ (c_X6_read l dC dI cyI cyJ cyT h_p0_settings H.size 3 v_settings (iI 1) r5 e6) ⟨va_cnB (host := "SleeperBerths") 2 hts gX5_isNight_X6_read_n50 rfl rfl rfl (hNW 5 rfl) (hts (.initialized RX6) m_X5_isNight_2) (by decide +kernel) ⟨Nat.le_of_ble_eq_true rfl, Nat.le_of_ble_eq_true rfl⟩, (hts (.static yX6_read) m_X5_isNight_3), trivial⟩ ⟨PRE.blind, PRE.go hK hPc hDc hNW⟩ rfl rfl hl.1 rfl (lv_room (Nat.le_of_ble_eq_true rfl)) dX5_isNight_18 ⟨Nat.zero_le _, Nat.zero_le _⟩) hS (fun q _ h => hFc q h) hFc (fun z7 u t H locs ht hvm hw hB hz1 hk1 hS => ?_)
    subst z7
    obtain ⟨hP, hD⟩ := va_join (wr := [(h_p0, .inr (5, [.ref h_p0_berths, .ref h_p0_roster, .ref h_p0_settings, .int v_nextNumber, .int v_bookings, .int v_leftOut]))]) (w1 := [(h_p0_settings, .inl (cyI, 3, .inl v_settings))]) hP hD [1] [0] rfl rfl (by decide) (by decide) hk1 hFc (WLD.P hB ht) hB.2
    have hP : va_P (dC, dI) vwCl [(h_p0, .inr (5, [.ref h_p0_berths, .ref h_p0_roster, .ref h_p0_settings, .int v_nextNumber, .int v_bookings, .int v_leftOut])), (h_p0_settings, .inl (cyI, 3, .inl v_settings))] H := hP
    have hD : va_D A [(h_p0, .inr (5, [.ref h_p0_berths, .ref h_p0_roster, .ref h_p0_settings, .int v_nextNumber, .int v_bookings, .int v_leftOut])), (h_p0_settings, .inl (cyI, 3, .inl v_settings))] := hD
    refine lv_icmp_gt (tgt := 28) hx hb dX5_isNight_21 (by decide) (fun c8 => ?_) (fun c8 => ?_)
    · have h := ipos c8 h
      refine lv_iconst (v := iI 0) hx hb dX5_isNight_28 rfl ?_
      obtain rfl := Option.some.inj h
      exact W.zret (v := iI 0) hx hb hr (by decide) (fun t ht hW => ⟨⟨iI 0, (), rfl, rfl, WLD.of ht hP hD⟩, hS.F ht⟩) hS.2.2 dX5_isNight_29
    · have h := ineg c8 h
      refine lv_iconst (v := iI 1) hx hb dX5_isNight_24 rfl ?_
      refine lv_goto (tgt := 29) hx hb dX5_isNight_25 (by decide) ?_
      obtain rfl := Option.some.inj h
      exact W.zret (v := iI 1) hx hb hr (by decide) (fun t ht hW => ⟨⟨iI 1, (), rfl, rfl, WLD.of ht hP hD⟩, hS.F ht⟩) hS.2.2 dX5_isNight_29
