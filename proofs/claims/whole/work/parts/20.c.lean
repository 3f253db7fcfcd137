def s_X6_requireRow (n : Nat) (v_size : Int32) (v_cells : Nat → Int32) (a1 : Int32) : Option (Nat × Int32) := ((s_X3_rowOf n v_size v_cells a1).bind fun r1 => (if r1 = iI (-1) then (some (3, 0)) else (some (0, r1))))
set_option maxRecDepth 20000 in
theorem m_X6_requireRow_0 : ∀ w ∈ u_ws RX6 TX6 3, w ∈ wsX6_requireRow := by decide +kernel
set_option maxRecDepth 20000 in
theorem m_X6_requireRow_1 : (.fieldLink RX6 12 "SleeperBerths" "train" "LSleeperBerths$Train;" : Cond) ∈ wsX6_requireRow := by decide +kernel
set_option maxRecDepth 20000 in
theorem m_X6_requireRow_2 : ∀ w ∈ u_ws RX5 TX5 6, w ∈ wsX6_requireRow := by decide +kernel
set_option maxRecDepth 20000 in
theorem m_X6_requireRow_3 : (.fieldLink RX6 38 "SleeperBerths$Train" "roster" "LSleeperBerths$Roster;" : Cond) ∈ wsX6_requireRow := by decide +kernel
set_option maxRecDepth 20000 in
theorem m_X6_requireRow_4 : ∀ w ∈ (vx_atS RX6 88 "java/lang/IndexOutOfBoundsException" ["java/lang/RuntimeException", "java/lang/Exception"]).filter goodWord, w ∈ wsX6_requireRow := by decide +kernel
set_option maxRecDepth 20000 in
theorem m_X6_requireRow_5 : (.classLink RX6 84 "java/lang/IndexOutOfBoundsException" : Cond) ∈ wsX6_requireRow := by decide +kernel
set_option maxRecDepth 20000 in
theorem m_X6_requireRow_6 : (.initialized "java/lang/IndexOutOfBoundsException" : Cond) ∈ wsX6_requireRow := by decide +kernel
set_option maxHeartbeats 4000000 in
set_option maxRecDepth 100000 in
theorem c_X6_requireRow (l : Launch) (hl0 : l.stackTraces = false) (dC : Nat → ClassId) (dI : Nat → Nat → Nat) (cyI cyJ cyT : ClassId) (h_p0 : Nat) (h_p0_train : Nat) (h_p0_history : Nat) (h_p0_text : Nat) (h_p0_train_berths : Nat) (h_p0_train_roster : Nat) (h_p0_train_settings : Nat) (h_p0_train_roster_cells : Nat) (sz : Nat) (v_nextNumber : Int32) (v_bookings : Int32) (v_leftOut : Int32) (v_size : Int32) (v_cells : Nat → Int32) (a1 : Int32) (n : Nat) (o : Nat × Int32) (h : s_X6_requireRow n v_size v_cells a1 = some o) : vx_Met l yX6_requireRow wsX6_requireRow ({ frames := 6, cells := 1, slots := 6, locals := 90 }) (va_Pc [.ref h_p0, .int a1] (PREX (dC, dI) (TYS cyI cyJ cyT) sz [(h_p0, .inr (6, [.ref h_p0_train, .ref h_p0_history, .ref h_p0_text])), (h_p0_train, .inr (5, [.ref h_p0_train_berths, .ref h_p0_train_roster, .ref h_p0_train_settings, .int v_nextNumber, .int v_bookings, .int v_leftOut])), (h_p0_train_roster, .inr (3, [.ref h_p0_train_roster_cells, .int v_size])), (h_p0_train_roster_cells, .inl (cyI, 280, .inl v_cells))])) (va_Qi (S := Unit) (fun r _ => o.1 = 0 ∧ r = o.2) (fun _ t => WLD (dC, dI) (va_A [(h_p0, .inr (6, [.ref h_p0_train, .ref h_p0_history, .ref h_p0_text])), (h_p0_train, .inr (5, [.ref h_p0_train_berths, .ref h_p0_train_roster, .ref h_p0_train_settings, .int v_nextNumber, .int v_bookings, .int v_leftOut])), (h_p0_train_roster, .inr (3, [.ref h_p0_train_roster_cells, .int v_size])), (h_p0_train_roster_cells, .inl (cyI, 280, .inl v_cells))] sz) [(h_p0, .inr (6, [.ref h_p0_train, .ref h_p0_history, .ref h_p0_text])), (h_p0_train, .inr (5, [.ref h_p0_train_berths, .ref h_p0_train_roster, .ref h_p0_train_settings, .int v_nextNumber, .int v_bookings, .int v_leftOut])), (h_p0_train_roster, .inr (3, [.ref h_p0_train_roster_cells, .int v_size])), (h_p0_train_roster_cells, .inl (cyI, 280, .inl v_cells))] t) (va_A [(h_p0, .inr (6, [.ref h_p0_train, .ref h_p0_history, .ref h_p0_text])), (h_p0_train, .inr (5, [.ref h_p0_train_berths, .ref h_p0_train_roster, .ref h_p0_train_settings, .int v_nextNumber, .int v_bookings, .int v_leftOut])), (h_p0_train_roster, .inr (3, [.ref h_p0_train_roster_cells, .int v_size])), (h_p0_train_roster_cells, .inl (cyI, 280, .inl v_cells))] sz)) (vx_X (S := Unit) (fun _ => True) (fun E _ t => XWL (dC, dI) (va_A [(h_p0, .inr (6, [.ref h_p0_train, .ref h_p0_history, .ref h_p0_text])), (h_p0_train, .inr (5, [.ref h_p0_train_berths, .ref h_p0_train_roster, .ref h_p0_train_settings, .int v_nextNumber, .int v_bookings, .int v_leftOut])), (h_p0_train_roster, .inr (3, [.ref h_p0_train_roster_cells, .int v_size])), (h_p0_train_roster_cells, .inl (cyI, 280, .inl v_cells))] sz) o.1 E [(h_p0, .inr (6, [.ref h_p0_train, .ref h_p0_history, .ref h_p0_text])), (h_p0_train, .inr (5, [.ref h_p0_train_berths, .ref h_p0_train_roster, .ref h_p0_train_settings, .int v_nextNumber, .int v_bookings, .int v_leftOut])), (h_p0_train_roster, .inr (3, [.ref h_p0_train_roster_cells, .int v_size])), (h_p0_train_roster_cells, .inl (cyI, 280, .inl v_cells))] t) (va_A [(h_p0, .inr (6, [.ref h_p0_train, .ref h_p0_history, .ref h_p0_text])), (h_p0_train, .inr (5, [.ref h_p0_train_berths, .ref h_p0_train_roster, .ref h_p0_train_settings, .int v_nextNumber, .int v_bookings, .int v_leftOut])), (h_p0_train_roster, .inr (3, [.ref h_p0_train_roster_cells, .int v_size])), (h_p0_train_roster_cells, .inl (cyI, 280, .inl v_cells))] sz)) 1 6 (va_A [(h_p0, .inr (6, [.ref h_p0_train, .ref h_p0_history, .ref h_p0_text])), (h_p0_train, .inr (5, [.ref h_p0_train_berths, .ref h_p0_train_roster, .ref h_p0_train_settings, .int v_nextNumber, .int v_bookings, .int v_leftOut])), (h_p0_train_roster, .inr (3, [.ref h_p0_train_roster_cells, .int v_size])), (h_p0_train_roster_cells, .inl (cyI, 280, .inl v_cells))] sz) := by
  refine vx_ofW (cc := cX6_requireRow) (maxL := 3) (ret := (some .int)) (by decide) rfl ?_
  intro p e s m args below meth c s₁ B hml hno hv
  obtain ⟨rfl, ⟨hsz, hP, hK, hD0, hNW⟩, hXR, hXS⟩ := hv
  have hx := B.exec
  have hb := B.bytes
  have hr := B.returns
  have hts := atoms_spec (ws := wsX6_requireRow) B.pre
  have hown : s.vm.findClass RX6 = some m.cls := findClass_of_methodNamed B.named
  have hlocks := B.notSynchronized
  subst hsz
  have hD := hD0.self (sz := s.heap.size)
  generalize hAe : va_A [(h_p0, .inr (6, [.ref h_p0_train, .ref h_p0_history, .ref h_p0_text])), (h_p0_train, .inr (5, [.ref h_p0_train_berths, .ref h_p0_train_roster, .ref h_p0_train_settings, .int v_nextNumber, .int v_bookings, .int v_leftOut])), (h_p0_train_roster, .inr (3, [.ref h_p0_train_roster_cells, .int v_size])), (h_p0_train_roster_cells, .inl (cyI, 280, .inl v_cells))] s.heap.size = A at hD hXS ⊢
  have hA : ∀ q : Nat, s.heap.size ≤ q → A q := fun q h => by rw [← hAe]; exact Or.inr h
  have hS : va_S A s.heap s.heap [] := va_S.rf
  have hP : va_P (dC, dI) vwCl [(h_p0, .inr (6, [.ref h_p0_train, .ref h_p0_history, .ref h_p0_text])), (h_p0_train, .inr (5, [.ref h_p0_train_berths, .ref h_p0_train_roster, .ref h_p0_train_settings, .int v_nextNumber, .int v_bookings, .int v_leftOut])), (h_p0_train_roster, .inr (3, [.ref h_p0_train_roster_cells, .int v_size])), (h_p0_train_roster_cells, .inl (cyI, 280, .inl v_cells))] s.heap := hP
  have hl := lv_entry ([.ref h_p0, .int a1]) (n := 3) (Nat.le_of_ble_eq_true rfl)
  rw [lg_entry_eq]
  generalize (lg_sl ([.ref h_p0, .int a1]) ++ List.replicate (3 - (lg_sl ([.ref h_p0, .int a1])).length) Slot.unset).toArray = ls at hl ⊢
  have hl : lv_has ls 3 [(0, .ref h_p0), (1, .int a1)] := hl
  unfold s_X6_requireRow at h
  refine lv_aload_n hx hb dX6_requireRow_0 rfl (lv_at hl 0 rfl) ?_
  refine va_get (D := (dC, dI)) (ci := 6) (v := .ref h_p0_train) (C := RX6) (T := TX6) (N := 3) hx hb hts m_X6_requireRow_0 hown hK hP 0 rfl rfl 0 (by decide) (hts (.fieldLink RX6 12 "SleeperBerths" "train" "LSleeperBerths$Train;") m_X6_requireRow_1) (fun _ h9 => h9) rfl dX6_requireRow_1 ?_
  refine va_get (D := (dC, dI)) (ci := 5) (v := .ref h_p0_train_roster) (C := RX5) (T := TX5) (N := 6) hx hb hts m_X6_requireRow_2 hown hK hP 1 rfl rfl 1 (by decide) (hts (.fieldLink RX6 38 "SleeperBerths$Train" "roster" "LSleeperBerths$Roster;") m_X6_requireRow_3) (fun _ h9 => h9) rfl dX6_requireRow_4 ?_
  refine lv_iload_n hx hb dX6_requireRow_7 rfl (lv_at hl 1 rfl) ?_
  obtain ⟨r1, e2, h⟩ := bsome h
  have hPc := sb_P [(h_p0_train_roster, .inr (3, [.ref h_p0_train_roster_cells, .int v_size])), (h_p0_train_roster_cells, .inl (cyI, 280, .inl v_cells))] hP [2, 3] rfl
  have hDc := sb_D [(h_p0_train_roster, .inr (3, [.ref h_p0_train_roster_cells, .int v_size])), (h_p0_train_roster_cells, .inl (cyI, 280, .inl v_cells))] hD [2, 3] (by decide) rfl
  have hFc := va_free (wc := [(h_p0_train_roster, .inr (3, [.ref h_p0_train_roster_cells, .int v_size])), (h_p0_train_roster_cells, .inl (cyI, 280, .inl v_cells))]) hD hS hA [2, 3] rfl
  refine va_calli (va_runV (As := [.int a1]) (rest := []) ⟨hx, hb, hml, hown, hts⟩ (c_X3_rowOf l dC dI cyI cyJ cyT h_p0_train_roster h_p0_train_roster_cells s.heap.size v_size v_cells a1 n r1 e2) (cwV 1 hts gX6_requireRow_X3_rowOf rfl rfl rfl (by decide +kernel) ⟨Nat.le_of_ble_eq_true rfl, Nat.le_of_ble_eq_true rfl⟩) ⟨PRE.blind, va_recv hK hPc (ci := 3) (q0 := 0) rfl rfl, PRE.go hK hPc hDc hNW⟩ rfl rfl hl.1 rfl (lv_room (Nat.le_of_ble_eq_true rfl)) dX6_requireRow_8 ⟨Nat.zero_le _, Nat.zero_le _⟩) hS (fun q _ h => hFc q h) hFc (fun z3 u t H locs ht hvm hw hB hz1 hk1 hS => ?_)
  subst z3
  obtain ⟨hP, hD⟩ := va_join (wr := [(h_p0, .inr (6, [.ref h_p0_train, .ref h_p0_history, .ref h_p0_text])), (h_p0_train, .inr (5, [.ref h_p0_train_berths, .ref h_p0_train_roster, .ref h_p0_train_settings, .int v_nextNumber, .int v_bookings, .int v_leftOut]))]) (w1 := [(h_p0_train_roster, .inr (3, [.ref h_p0_train_roster_cells, .int v_size])), (h_p0_train_roster_cells, .inl (cyI, 280, .inl v_cells))]) hP hD [2, 3] [0, 1] rfl rfl (by decide) (by decide) hk1 hFc (WLD.P hB ht) hB.2
  have hP : va_P (dC, dI) vwCl [(h_p0, .inr (6, [.ref h_p0_train, .ref h_p0_history, .ref h_p0_text])), (h_p0_train, .inr (5, [.ref h_p0_train_berths, .ref h_p0_train_roster, .ref h_p0_train_settings, .int v_nextNumber, .int v_bookings, .int v_leftOut])), (h_p0_train_roster, .inr (3, [.ref h_p0_train_roster_cells, .int v_size])), (h_p0_train_roster_cells, .inl (cyI, 280, .inl v_cells))] H := hP
  have hD : va_D A [(h_p0, .inr (6, [.ref h_p0_train, .ref h_p0_history, .ref h_p0_text])), (h_p0_train, .inr (5, [.ref h_p0_train_berths, .ref h_p0_train_roster, .ref h_p0_train_settings, .int v_nextNumber, .int v_bookings, .int v_leftOut])), (h_p0_train_roster, .inr (3, [.ref h_p0_train_roster_cells, .int v_size])), (h_p0_train_roster_cells, .inl (cyI, 280, .inl v_cells))] := hD
  refine lv_istore_n hx hb dX6_requireRow_11 rfl hl (by decide) (rfl : _ = ([(2, .int r1), (0, .ref h_p0), (1, .int a1)] : List (Nat × Value))) (fun ls hl => ?_)
  refine lv_iload_n hx hb dX6_requireRow_12 rfl (lv_at hl 0 rfl) ?_
  refine lv_iconst (v := iI (-1)) hx hb dX6_requireRow_13 rfl ?_
  refine lv_icmp_ne (tgt := 28) hx hb dX6_requireRow_14 (by decide) (fun c4 => ?_) (fun c4 => ?_)
  · have h := ineg c4 h
    refine lv_iload_n hx hb dX6_requireRow_28 rfl (lv_at hl 0 rfl) ?_
    obtain rfl := Option.some.inj h
    refine W.widen (k := 1) (n := 6) (Nat.le_of_ble_eq_true rfl) (Nat.le_of_ble_eq_true rfl) ?_
    refine vx_ret ?_
    exact W.iret (v := r1) hx hb hr (fun t ht hW => ⟨⟨r1, (), rfl, ⟨rfl, rfl⟩, WLD.of ht hP hD⟩, hS.F ht⟩) hS.2.2 dX6_requireRow_29
  · have h := ipos c4 h
    obtain rfl := Option.some.inj h
    obtain ⟨sa5, hstr⟩ := hXR.2.2 22 rfl
    exact vx_throwSW (names := ["java/lang/RuntimeException", "java/lang/Exception"]) (sa := sa5) hx hb hl0 hown (by decide +kernel) (by decide +kernel) (hts (.classLink RX6 84 "java/lang/IndexOutOfBoundsException") m_X6_requireRow_5) (hts (.initialized "java/lang/IndexOutOfBoundsException") m_X6_requireRow_6) hstr (xhat hts m_X6_requireRow_4 hXR (by decide +kernel)) (by decide +kernel) hXS.1 hXS.2 hS (hl.1.trans hml.symm) dX6_requireRow_17 dX6_requireRow_20 dX6_requireRow_21 dX6_requireRow_24 dX6_requireRow_27 (fun x hx9 => (hno x hx9).elim) (Nat.le_of_ble_eq_true rfl) (Nat.le_of_ble_eq_true rfl) (Nat.le_of_ble_eq_true rfl) (Nat.le_of_ble_eq_true rfl) hlocks (fun t _ h1 h2 => XWL.of (by decide) rfl hP hD hS h1 h2) hS.2.2 (Nat.le_of_ble_eq_true rfl) (Nat.le_of_ble_eq_true rfl)
def s_X6_greatestValue (a0 : Int32) : Option (Int32) := (if a0 = iI 2 then (some (iI 50)) else (some (iI 9)))
set_option maxHeartbeats 4000000 in
set_option maxRecDepth 100000 in
theorem c_X6_greatestValue (l : Launch) (dC : Nat → ClassId) (dI : Nat → Nat → Nat) (cyI cyJ cyT : ClassId)  (sz : Nat) (a0 : Int32) (o : Int32) (h : s_X6_greatestValue a0 = some o) : Met l yX6_greatestValue wsX6_greatestValue ({ frames := 0, cells := 0, slots := 0, locals := 0 }) (va_Pc [.int a0] (PRE (dC, dI) (TYS cyI cyJ cyT) sz [])) (va_Qi (S := Unit) (fun r _ => r = o) (fun _ t => WLD (dC, dI) (va_A [] sz) [] t) (va_A [] sz)) 0 0 (va_A [] sz) := by
  refine Met.ofW (cc := cX6_greatestValue) (maxL := 1) (ret := (some .int)) (by decide) rfl ?_
  intro p e s m args below meth c s₁ B hml hv
  obtain ⟨rfl, hsz, hP, hK, hD0, hNW⟩ := hv
  have hx := B.exec
  have hb := B.bytes
  have hr := B.returns
  have hts := atoms_spec (ws := wsX6_greatestValue) B.pre
  have hown : s.vm.findClass RX6 = some m.cls := findClass_of_methodNamed B.named
  have hlocks := B.notSynchronized
  subst hsz
  have hD := hD0.self (sz := s.heap.size)
  generalize hAe : va_A [] s.heap.size = A at hD ⊢
  have hA : ∀ q : Nat, s.heap.size ≤ q → A q := fun q h => by rw [← hAe]; exact Or.inr h
  have hS : va_S A s.heap s.heap [] := va_S.rf
  have hP : va_P (dC, dI) vwCl [] s.heap := hP
  have hl := lv_entry ([.int a0]) (n := 1) (Nat.le_of_ble_eq_true rfl)
  rw [lg_entry_eq]
  generalize (lg_sl ([.int a0]) ++ List.replicate (1 - (lg_sl ([.int a0])).length) Slot.unset).toArray = ls at hl ⊢
  have hl : lv_has ls 1 [(0, .int a0)] := hl
  unfold s_X6_greatestValue at h
  refine lv_iload_n hx hb dX6_greatestValue_0 rfl (lv_at hl 0 rfl) ?_
  refine lv_iconst (v := iI 2) hx hb dX6_greatestValue_1 rfl ?_
  refine lv_icmp_ne (tgt := 10) hx hb dX6_greatestValue_2 (by decide) (fun c1 => ?_) (fun c1 => ?_)
  · have h := ineg c1 h
    refine lv_bipush (v := iI 9) hx hb dX6_greatestValue_10 (by decide) ?_
    obtain rfl := Option.some.inj h
    exact W.iret (v := iI 9) hx hb hr (fun t ht hW => ⟨⟨iI 9, (), rfl, rfl, WLD.of ht hP hD⟩, hS.F ht⟩) hS.2.2 dX6_greatestValue_12
  · have h := ipos c1 h
    refine lv_bipush (v := iI 50) hx hb dX6_greatestValue_5 (by decide) ?_
    refine lv_goto (tgt := 12) hx hb dX6_greatestValue_7 (by decide) ?_
    obtain rfl := Option.some.inj h
    exact W.iret (v := iI 50) hx hb hr (fun t ht hW => ⟨⟨iI 50, (), rfl, rfl, WLD.of ht hP hD⟩, hS.F ht⟩) hS.2.2 dX6_greatestValue_12
def s_X6_copyAll_L2 (n : Nat) (vl_0 : Nat) (arr_0 : Nat → Int32) (vl_1 : Nat) : Nat → (Nat → Int32) → Int32 → Option ((Nat → Int32))
  | 0, _, _ => none
  | k + 1, arr_1, x2 => (if (nI vl_1) ≤ x2 then (some (arr_1)) else ((s_X6_read vl_0 arr_0 x2).bind fun r2 => ((s_X6_write vl_1 arr_1 x2 r2).bind fun r5 => (s_X6_copyAll_L2 n vl_0 arr_0 vl_1 k r5 (x2 + iI 1)))))
def s_X6_copyAll (n : Nat) (vl_0 : Nat) (arr_0 : Nat → Int32) (vl_1 : Nat) (arr_1 : Nat → Int32) : Option ((Nat → Int32)) := (s_X6_copyAll_L2 n vl_0 arr_0 vl_1 n arr_1 (iI 0))
set_option maxHeartbeats 4000000 in
set_option maxRecDepth 100000 in
theorem c_X6_copyAll (l : Launch) (dC : Nat → ClassId) (dI : Nat → Nat → Nat) (cyI cyJ cyT : ClassId) (h_p0 : Nat) (h_p1 : Nat) (sz : Nat) (vl_0 : Nat) (vl_1 : Nat) (arr_0 : Nat → Int32) (arr_1 : Nat → Int32) (n : Nat) (o : (Nat → Int32)) (h : s_X6_copyAll n vl_0 arr_0 vl_1 arr_1 = some o) : Met l yX6_copyAll wsX6_copyAll ({ frames := 1, cells := 0, slots := 0, locals := 22 }) (va_Pc [.ref h_p0, .ref h_p1] (PRE (dC, dI) (TYS cyI cyJ cyT) sz [(h_p0, .inl (cyI, vl_0, .inl arr_0)), (h_p1, .inl (cyI, vl_1, .inl arr_1))])) (va_Qv (S := Unit) (fun _ => True) (fun _ t => WLD (dC, dI) (va_A [(h_p0, .inl (cyI, vl_0, .inl arr_0)), (h_p1, .inl (cyI, vl_1, .inl arr_1))] sz) [(h_p0, .inl (cyI, vl_0, .inl arr_0)), (h_p1, .inl (cyI, vl_1, .inl o))] t) (va_A [(h_p0, .inl (cyI, vl_0, .inl arr_0)), (h_p1, .inl (cyI, vl_1, .inl arr_1))] sz)) 0 0 (va_A [(h_p0, .inl (cyI, vl_0, .inl arr_0)), (h_p1, .inl (cyI, vl_1, .inl arr_1))] sz) := by
  refine Met.ofW (cc := cX6_copyAll) (maxL := 3) (ret := none) (by decide) rfl ?_
  intro p e s m args below meth c s₁ B hml hv
  obtain ⟨rfl, hsz, hP, hK, hD0, hNW⟩ := hv
  have hx := B.exec
  have hb := B.bytes
  have hr := B.returns
  have hts := atoms_spec (ws := wsX6_copyAll) B.pre
  have hown : s.vm.findClass RX6 = some m.cls := findClass_of_methodNamed B.named
  have hlocks := B.notSynchronized
  subst hsz
  have hD := hD0.self (sz := s.heap.size)
  generalize hAe : va_A [(h_p0, .inl (cyI, vl_0, .inl arr_0)), (h_p1, .inl (cyI, vl_1, .inl arr_1))] s.heap.size = A at hD ⊢
  have hA : ∀ q : Nat, s.heap.size ≤ q → A q := fun q h => by rw [← hAe]; exact Or.inr h
  have hS : va_S A s.heap s.heap [] := va_S.rf
  have hP : va_P (dC, dI) vwCl [(h_p0, .inl (cyI, vl_0, .inl arr_0)), (h_p1, .inl (cyI, vl_1, .inl arr_1))] s.heap := hP
  have L2 : ∀ (k : Nat), (∀ (arr_1 : Nat → Int32) (x2 : Int32) (H : Heap) (locs : List Loc), va_P (dC, dI) vwCl [(h_p0, .inl (cyI, vl_0, .inl arr_0)), (h_p1, .inl (cyI, vl_1, .inl arr_1))] H → va_D A [(h_p0, .inl (cyI, vl_0, .inl arr_0)), (h_p1, .inl (cyI, vl_1, .inl arr_1))] → va_S A s.heap H locs → ∀ (ls : Array Slot), lv_has ls 3 [(0, .ref h_p0), (1, .ref h_p1), (2, .int x2)] →  s_X6_copyAll_L2 n vl_0 arr_0 vl_1 k arr_1 x2 = some o → W p l e (headSpec wsX6_copyAll ({ frames := 1, cells := 0, slots := 0, locals := 22 })).room s m (([.ref h_p0, .ref h_p1] : List Value).toArray) below meth c H locs 0 0 (MQ below (va_Qv (S := Unit) (fun _ => True) (fun _ t => WLD (dC, dI) A [(h_p0, .inl (cyI, vl_0, .inl arr_0)), (h_p1, .inl (cyI, vl_1, .inl o))] t) A) (([.ref h_p0, .ref h_p1] : List Value).toArray) s 0 0 A) (F0 m 2 ls [])) := by
    intro k
    induction k with
    | zero =>
      intro  arr_1 x2 H locs hP hD hS ls hl h
      rw [s_X6_copyAll_L2] at h
      cases h
    | succ k ih =>
      intro  arr_1 x2 H locs hP hD hS ls hl h
      rw [s_X6_copyAll_L2] at h
      refine lv_iload_n hx hb dX6_copyAll_2 rfl (lv_at hl 2 rfl) ?_
      refine lv_aload_n hx hb dX6_copyAll_3 rfl (lv_at hl 1 rfl) ?_
      refine va_alen (D := (dC, dI)) (v := (nI vl_1)) hx hb hK hP 1 0 rfl rfl rfl dX6_copyAll_4 ?_
      refine lv_icmp_ge (tgt := 24) hx hb dX6_copyAll_5 (by decide) (fun c1 => ?_) (fun c1 => ?_)
      · have h := ipos c1 h
        obtain rfl := Option.some.inj h
        exact W.vret hx hb hr (fun t ht hW => ⟨⟨(), rfl, trivial, WLD.of ht hP hD⟩, hS.F ht⟩) hS.2.2 dX6_copyAll_24
      · have h := ineg c1 h
        refine lv_aload_n hx hb dX6_copyAll_8 rfl (lv_at hl 1 rfl) ?_
        refine lv_iload_n hx hb dX6_copyAll_9 rfl (lv_at hl 2 rfl) ?_
        refine lv_aload_n hx hb dX6_copyAll_10 rfl (lv_at hl 0 rfl) ?_
        refine lv_iload_n hx hb dX6_copyAll_11 rfl (lv_at hl 2 rfl) ?_
        obtain ⟨r2, e3, h⟩ := bsome h
        have hPc := sb_P [(h_p0, .inl (cyI, vl_0, .inl arr_0))] hP [0] rfl
        have hDc := sb_D [(h_p0, .inl (cyI, vl_0, .inl arr_0))] hD [0] (by decide) rfl
        have hFc := va_free (wc := [(h_p0, .inl (cyI, vl_0, .inl arr_0))]) hD hS hA [0] rfl
        refine va_calli (va_runS (As := [.ref h_p0, .int x2]) (rest := [.int x2, .ref h_p1]) ⟨hx, hb, hml, hown, hts⟩ (c_X6_read l dC dI cyI cyJ cyT h_p0 H.size vl_0 arr_0 x2 r2 e3) (va_cwS 2 hts gX6_copyAll_X6_read rfl rfl rfl (by decide +kernel) ⟨Nat.le_of_ble_eq_true rfl, Nat.le_of_ble_eq_true rfl⟩) ⟨PRE.blind, PRE.go hK hPc hDc hNW⟩ rfl rfl hl.1 rfl (lv_room (Nat.le_of_ble_eq_true rfl)) dX6_copyAll_12 ⟨Nat.zero_le _, Nat.zero_le _⟩) hS (fun q _ h => hFc q h) hFc (fun z4 u t H locs ht hvm hw hB hz1 hk1 hS => ?_)
        subst z4
        obtain ⟨hP, hD⟩ := va_join (wr := [(h_p1, .inl (cyI, vl_1, .inl arr_1))]) (w1 := [(h_p0, .inl (cyI, vl_0, .inl arr_0))]) hP hD [0] [1] rfl rfl (by decide) (by decide) hk1 hFc (WLD.P hB ht) hB.2
        have hP : va_P (dC, dI) vwCl [(h_p1, .inl (cyI, vl_1, .inl arr_1)), (h_p0, .inl (cyI, vl_0, .inl arr_0))] H := hP
        have hD : va_D A [(h_p1, .inl (cyI, vl_1, .inl arr_1)), (h_p0, .inl (cyI, vl_0, .inl arr_0))] := hD
        obtain ⟨r5, e6, h⟩ := bsome h
        have hPc := sb_P [(h_p1, .inl (cyI, vl_1, .inl arr_1))] hP [0] rfl
        have hDc := sb_D [(h_p1, .inl (cyI, vl_1, .inl arr_1))] hD [0] (by decide) rfl
        have hFc := va_free (wc := [(h_p1, .inl (cyI, vl_1, .inl arr_1))]) hD hS hA [0] rfl
        refine va_callv (va_runS (As := [.ref h_p1, .int x2, .int r2]) (rest := []) ⟨hx, hb, hml, hown, hts⟩ (c_X6_write l dC dI cyI cyJ cyT h_p1 H.size vl_1 arr_1 x2 r2 r5 e6) (va_cwS 3 hts gX6_copyAll_X6_write rfl rfl rfl (by decide +kernel) ⟨Nat.le_of_ble_eq_true rfl, Nat.le_of_ble_eq_true rfl⟩) ⟨PRE.blind, PRE.go hK hPc hDc hNW⟩ rfl rfl hl.1 rfl (lv_room (Nat.le_of_ble_eq_true rfl)) dX6_copyAll_15 ⟨Nat.zero_le _, Nat.zero_le _⟩) hS (fun q _ h => hFc q h) hFc (fun u t H locs ht hvm hw hB hz1 hk1 hS => ?_)
        obtain ⟨hP, hD⟩ := va_join (wr := [(h_p0, .inl (cyI, vl_0, .inl arr_0))]) (w1 := [(h_p1, .inl (cyI, vl_1, .inl r5))]) hP hD [0] [1] rfl rfl (by decide) (by decide) hk1 hFc (WLD.P hB ht) hB.2
        have hP : va_P (dC, dI) vwCl [(h_p0, .inl (cyI, vl_0, .inl arr_0)), (h_p1, .inl (cyI, vl_1, .inl r5))] H := hP
        have hD : va_D A [(h_p0, .inl (cyI, vl_0, .inl arr_0)), (h_p1, .inl (cyI, vl_1, .inl r5))] := hD
        refine lv_iinc (v := (x2 + iI 1)) hx hb dX6_copyAll_18 hl (k := 2) rfl rfl (by decide) (rfl : _ = ([(2, .int (x2 + iI 1)), (0, .ref h_p0), (1, .ref h_p1)] : List (Nat × Value))) (fun ls hl => ?_)
        refine lv_goto (tgt := 2) hx hb dX6_copyAll_21 (by decide) ?_
        exact ih r5 (x2 + iI 1) _ _ hP hD hS ls (lv_sub hl [1, 2, 0] rfl) h
  have hl := lv_entry ([.ref h_p0, .ref h_p1]) (n := 3) (Nat.le_of_ble_eq_true rfl)
  rw [lg_entry_eq]
  generalize (lg_sl ([.ref h_p0, .ref h_p1]) ++ List.replicate (3 - (lg_sl ([.ref h_p0, .ref h_p1])).length) Slot.unset).toArray = ls at hl ⊢
  have hl : lv_has ls 3 [(0, .ref h_p0), (1, .ref h_p1)] := hl
  unfold s_X6_copyAll at h
  refine lv_iconst (v := iI 0) hx hb dX6_copyAll_0 rfl ?_
  refine lv_istore_n hx hb dX6_copyAll_1 rfl hl (by decide) (rfl : _ = ([(2, .int (iI 0)), (0, .ref h_p0), (1, .ref h_p1)] : List (Nat × Value))) (fun ls hl => ?_)
  exact L2 n arr_1 (iI 0) _ _ hP hD hS ls (lv_sub hl [1, 2, 0] rfl) h
def s_X7_init_L95 (n : Nat) : Nat → (Nat → Int32) → Int32 → Option (Int32 × Int32 × Int32 × Int32 × Int32 × Int32 × Int32 × Int32 × Int32 × Int32 × (Nat → Int32) × (Nat → Int32) × (Nat → Int32) × (Nat → Int32) × (Nat → Int32))
  | 0, _, _ => none
  | k + 1, v_now, x1 => (if iI 162 ≤ x1 then (some (0, 0, 0, 0, 0, 0, 0, 0, 0, 0, v_now, (fun _ => 0), (fun _ => 0), (fun _ => 0), (fun _ => 0))) else (if gd (iI 290 + x1) 452 = true then (s_X7_init_L95 n k (upd v_now (iI 290 + x1).toNatClampNeg (iI (-1))) (x1 + iI 1)) else none))
def s_X7_init_L72 (n : Nat) : Nat → (Nat → Int32) → Int32 → Option (Int32 × Int32 × Int32 × Int32 × Int32 × Int32 × Int32 × Int32 × Int32 × Int32 × (Nat → Int32) × (Nat → Int32) × (Nat → Int32) × (Nat → Int32) × (Nat → Int32))
  | 0, _, _ => none
  | k + 1, v_now, x1 => (if iI 3 ≤ x1 then (s_X7_init_L95 n n v_now (iI 0)) else (if gd (iI 3 + x1) 452 = true then (s_X7_init_L72 n k (upd v_now (iI 3 + x1).toNatClampNeg (iI 9)) (x1 + iI 1)) else none))
def s_X7_init (n : Nat) : Option (Int32 × Int32 × Int32 × Int32 × Int32 × Int32 × Int32 × Int32 × Int32 × Int32 × (Nat → Int32) × (Nat → Int32) × (Nat → Int32) × (Nat → Int32) × (Nat → Int32)) := (if gd (iI 0) 452 = true then (if gd (iI 1) 452 = true then (if gd (iI 2) 452 = true then (s_X7_init_L72 n n (upd (upd (upd (fun _ => 0) (iI 0).toNatClampNeg (iI 3)) (iI 1).toNatClampNeg (iI 6)) (iI 2).toNatClampNeg (iI 10)) (iI 0)) else none) else none) else none)
set_option maxRecDepth 20000 in
theorem m_X7_init_0 : ∀ w ∈ u_ws RX7 TX7 15, w ∈ wsX7_init := by decide +kernel
set_option maxRecDepth 20000 in
theorem m_X7_init_1 : (.fieldLink RX7 7 "SleeperBerthsModel" "now" "[I" : Cond) ∈ wsX7_init := by decide +kernel
set_option maxRecDepth 20000 in
theorem m_X7_init_2 : (.methodLink RX7 1 objectInit : Cond) ∈ wsX7_init := by decide +kernel
set_option maxRecDepth 20000 in
theorem m_X7_init_3 : (.instanceMethod objectInit : Cond) ∈ wsX7_init := by decide +kernel
set_option maxRecDepth 20000 in
theorem m_X7_init_4 : (.code objectInit ⟨#[0xb1]⟩ 1 none : Cond) ∈ wsX7_init := by decide +kernel
set_option maxRecDepth 20000 in
theorem m_X7_init_5 : (.arrayClass .int : Cond) ∈ wsX7_init := by decide +kernel
set_option maxRecDepth 20000 in
theorem m_X7_init_6 : (.fieldLink RX7 13 "SleeperBerthsModel" "then" "[I" : Cond) ∈ wsX7_init := by decide +kernel
set_option maxRecDepth 20000 in
theorem m_X7_init_7 : (.fieldLink RX7 16 "SleeperBerthsModel" "past" "[I" : Cond) ∈ wsX7_init := by decide +kernel
set_option maxRecDepth 20000 in
theorem m_X7_init_8 : (.fieldLink RX7 19 "SleeperBerthsModel" "text" "[I" : Cond) ∈ wsX7_init := by decide +kernel
set_option maxRecDepth 20000 in
theorem m_X7_init_9 : (.fieldLink RX7 22 "SleeperBerthsModel" "told" "[I" : Cond) ∈ wsX7_init := by decide +kernel
set_option maxHeartbeats 4000000 in
set_option maxRecDepth 100000 in
theorem c_X7_init (l : Launch) (dC : Nat → ClassId) (dI : Nat → Nat → Nat) (cyI cyJ cyT : ClassId) (h_p0 : Nat) (sz : Nat) (n : Nat) (o : Int32 × Int32 × Int32 × Int32 × Int32 × Int32 × Int32 × Int32 × Int32 × Int32 × (Nat → Int32) × (Nat → Int32) × (Nat → Int32) × (Nat → Int32) × (Nat → Int32)) (h : s_X7_init n = some o) : Met l yX7_init wsX7_init ({ frames := 1, cells := 5, slots := 3724, locals := 12 }) (va_Pc [.ref h_p0] (PRE (dC, dI) (TYS cyI cyJ cyT) sz [(h_p0, .inr (7, [.null, .null, .null, .int 0, .null, .int 0, .int 0, .int 0, .int 0, .null, .int 0, .int 0, .int 0, .int 0, .int 0]))])) (va_Qv (S := Unit) (fun _ => True) (fun _ t => ∃ (b_now b_past b_text b_then b_told : Nat), WLD (dC, dI) (va_A [(h_p0, .inr (7, [.null, .null, .null, .int 0, .null, .int 0, .int 0, .int 0, .int 0, .null, .int 0, .int 0, .int 0, .int 0, .int 0]))] sz) [(h_p0, .inr (7, [.ref b_now, .ref b_then, .ref b_past, .int o.1, .ref b_text, .int o.2.1, .int o.2.2.1, .int o.2.2.2.1, .int o.2.2.2.2.1, .ref b_told, .int o.2.2.2.2.2.1, .int o.2.2.2.2.2.2.1, .int o.2.2.2.2.2.2.2.1, .int o.2.2.2.2.2.2.2.2.1, .int o.2.2.2.2.2.2.2.2.2.1])), (b_now, .inl (cyI, 452, .inl o.2.2.2.2.2.2.2.2.2.2.1)), (b_past, .inl (cyI, 2712, .inl o.2.2.2.2.2.2.2.2.2.2.2.1)), (b_text, .inl (cyI, 60, .inl o.2.2.2.2.2.2.2.2.2.2.2.2.1)), (b_then, .inl (cyI, 452, .inl o.2.2.2.2.2.2.2.2.2.2.2.2.2.1)), (b_told, .inl (cyI, 48, .inl o.2.2.2.2.2.2.2.2.2.2.2.2.2.2))] t) (va_A [(h_p0, .inr (7, [.null, .null, .null, .int 0, .null, .int 0, .int 0, .int 0, .int 0, .null, .int 0, .int 0, .int 0, .int 0, .int 0]))] sz)) 5 3724 (va_A [(h_p0, .inr (7, [.null, .null, .null, .int 0, .null, .int 0, .int 0, .int 0, .int 0, .null, .int 0, .int 0, .int 0, .int 0, .int 0]))] sz) := by
  refine Met.ofW (cc := cX7_init) (maxL := 2) (ret := none) (by decide) rfl ?_
  intro p e s m args below meth c s₁ B hml hv
  obtain ⟨rfl, hsz, hP, hK, hD0, hNW⟩ := hv
  have hx := B.exec
  have hb := B.bytes
  have hr := B.returns
  have hts := atoms_spec (ws := wsX7_init) B.pre
  have hown : s.vm.findClass RX7 = some m.cls := findClass_of_methodNamed B.named
  have hlocks := B.notSynchronized
  have hin : meth.name = "<init>" := (name_of_methodNamed B.named B.method).1
  subst hsz
  have hD := hD0.self (sz := s.heap.size)
  generalize hAe : va_A [(h_p0, .inr (7, [.null, .null, .null, .int 0, .null, .int 0, .int 0, .int 0, .int 0, .null, .int 0, .int 0, .int 0, .int 0, .int 0]))] s.heap.size = A at hD ⊢
  have hA : ∀ q : Nat, s.heap.size ≤ q → A q := fun q h => by rw [← hAe]; exact Or.inr h
  have hS : va_S A s.heap s.heap [] := va_S.rf
  have hP : va_P (dC, dI) vwCl [(h_p0, .inr (7, [.null, .null, .null, .int 0, .null, .int 0, .int 0, .int 0, .int 0, .null, .int 0, .int 0, .int 0, .int 0, .int 0]))] s.heap := hP
  have L95 : ∀ (k : Nat), (∀ (b_now : Nat) (b_past : Nat) (b_text : Nat) (b_then : Nat) (b_told : Nat) (v_now : Nat → Int32) (x1 : Int32) (H : Heap) (locs : List Loc), va_P (dC, dI) vwCl [(h_p0, .inr (7, [.ref b_now, .ref b_then, .ref b_past, .int 0, .ref b_text, .int 0, .int 0, .int 0, .int 0, .ref b_told, .int 0, .int 0, .int 0, .int 0, .int 0])), (b_now, .inl (cyI, 452, .inl v_now)), (b_past, .inl (cyI, 2712, .inl (fun _ => 0))), (b_text, .inl (cyI, 60, .inl (fun _ => 0))), (b_then, .inl (cyI, 452, .inl (fun _ => 0))), (b_told, .inl (cyI, 48, .inl (fun _ => 0)))] H → va_D A [(h_p0, .inr (7, [.ref b_now, .ref b_then, .ref b_past, .int 0, .ref b_text, .int 0, .int 0, .int 0, .int 0, .ref b_told, .int 0, .int 0, .int 0, .int 0, .int 0])), (b_now, .inl (cyI, 452, .inl v_now)), (b_past, .inl (cyI, 2712, .inl (fun _ => 0))), (b_text, .inl (cyI, 60, .inl (fun _ => 0))), (b_then, .inl (cyI, 452, .inl (fun _ => 0))), (b_told, .inl (cyI, 48, .inl (fun _ => 0)))] → va_S A s.heap H locs → ∀ (ls : Array Slot), lv_has ls 2 [(0, .ref h_p0), (1, .int x1)] →  s_X7_init_L95 n k v_now x1 = some o → W p l e (headSpec wsX7_init ({ frames := 1, cells := 5, slots := 3724, locals := 12 })).room s m (([.ref h_p0] : List Value).toArray) below meth c H locs 5 3724 (MQ below (va_Qv (S := Unit) (fun _ => True) (fun _ t => ∃ (b_now b_past b_text b_then b_told : Nat), WLD (dC, dI) A [(h_p0, .inr (7, [.ref b_now, .ref b_then, .ref b_past, .int o.1, .ref b_text, .int o.2.1, .int o.2.2.1, .int o.2.2.2.1, .int o.2.2.2.2.1, .ref b_told, .int o.2.2.2.2.2.1, .int o.2.2.2.2.2.2.1, .int o.2.2.2.2.2.2.2.1, .int o.2.2.2.2.2.2.2.2.1, .int o.2.2.2.2.2.2.2.2.2.1])), (b_now, .inl (cyI, 452, .inl o.2.2.2.2.2.2.2.2.2.2.1)), (b_past, .inl (cyI, 2712, .inl o.2.2.2.2.2.2.2.2.2.2.2.1)), (b_text, .inl (cyI, 60, .inl o.2.2.2.2.2.2.2.2.2.2.2.2.1)), (b_then, .inl (cyI, 452, .inl o.2.2.2.2.2.2.2.2.2.2.2.2.2.1)), (b_told, .inl (cyI, 48, .inl o.2.2.2.2.2.2.2.2.2.2.2.2.2.2))] t) A) (([.ref h_p0] : List Value).toArray) s 5 3724 A) (F0 m 95 ls [])) := by
    intro k
    induction k with
    | zero =>
      intro b_now b_past b_text b_then b_told v_now x1 H locs hP hD hS ls hl h
      rw [s_X7_init_L95] at h
      cases h
    | succ k ih =>
      intro b_now b_past b_text b_then b_told v_now x1 H locs hP hD hS ls hl h
      rw [s_X7_init_L95] at h
      refine lv_iload_n hx hb dX7_init_95 rfl (lv_at hl 1 rfl) ?_
      refine lv_sipush (v := iI 162) hx hb dX7_init_96 (by decide) ?_
      refine lv_icmp_ge (tgt := 119) hx hb dX7_init_99 (by decide) (fun c1 => ?_) (fun c1 => ?_)
      · have h := ipos c1 h
        obtain rfl := Option.some.inj h
        refine W.widen (k := 5) (n := 3724) (Nat.le_of_ble_eq_true rfl) (Nat.le_of_ble_eq_true rfl) ?_
        exact W.vret hx hb hr (fun t ht hW => ⟨⟨(), rfl, trivial, b_now, b_past, b_text, b_then, b_told, WLD.of ht hP hD⟩, hS.F ht⟩) hS.2.2 dX7_init_119
      · have h := ineg c1 h
        refine lv_aload_n hx hb dX7_init_102 rfl (lv_at hl 0 rfl) ?_
        refine va_get (D := (dC, dI)) (ci := 7) (v := .ref b_now) (C := RX7) (T := TX7) (N := 15) hx hb hts m_X7_init_0 hown hK hP 0 rfl rfl 0 (by decide) (hts (.fieldLink RX7 7 "SleeperBerthsModel" "now" "[I") m_X7_init_1) (fun _ h9 => h9) rfl dX7_init_103 ?_
        refine lv_sipush (v := iI 290) hx hb dX7_init_106 (by decide) ?_
        refine lv_iload_n hx hb dX7_init_109 rfl (lv_at hl 1 rfl) ?_
        refine lv_iadd hx hb dX7_init_110 ?_
        refine lv_iconst (v := iI (-1)) hx hb dX7_init_111 rfl ?_
        obtain ⟨g2, h⟩ := gsome h
        refine va_iast (D := (dC, dI)) hx hb hK hP hD hS 1 0 rfl rfl g2 dX7_init_112 (fun H locs hP hD hS => ?_)
        have hP : va_P (dC, dI) vwCl [(h_p0, .inr (7, [.ref b_now, .ref b_then, .ref b_past, .int 0, .ref b_text, .int 0, .int 0, .int 0, .int 0, .ref b_told, .int 0, .int 0, .int 0, .int 0, .int 0])), (b_now, .inl (cyI, 452, .inl (upd v_now (iI 290 + x1).toNatClampNeg (iI (-1))))), (b_past, .inl (cyI, 2712, .inl (fun _ => 0))), (b_text, .inl (cyI, 60, .inl (fun _ => 0))), (b_then, .inl (cyI, 452, .inl (fun _ => 0))), (b_told, .inl (cyI, 48, .inl (fun _ => 0)))] H := hP
        have hD : va_D A [(h_p0, .inr (7, [.ref b_now, .ref b_then, .ref b_past, .int 0, .ref b_text, .int 0, .int 0, .int 0, .int 0, .ref b_told, .int 0, .int 0, .int 0, .int 0, .int 0])), (b_now, .inl (cyI, 452, .inl (upd v_now (iI 290 + x1).toNatClampNeg (iI (-1))))), (b_past, .inl (cyI, 2712, .inl (fun _ => 0))), (b_text, .inl (cyI, 60, .inl (fun _ => 0))), (b_then, .inl (cyI, 452, .inl (fun _ => 0))), (b_told, .inl (cyI, 48, .inl (fun _ => 0)))] := hD
        refine lv_iinc (v := (x1 + iI 1)) hx hb dX7_init_113 hl (k := 1) rfl rfl (by decide) (rfl : _ = ([(1, .int (x1 + iI 1)), (0, .ref h_p0)] : List (Nat × Value))) (fun ls hl => ?_)
        refine lv_goto (tgt := 95) hx hb dX7_init_116 (by decide) ?_
        exact ih b_now b_past b_text b_then b_told (upd v_now (iI 290 + x1).toNatClampNeg (iI (-1))) (x1 + iI 1) _ _ hP hD hS ls (lv_sub hl [1, 0] rfl) h
  have L72 : ∀ (k : Nat), (∀ (b_now : Nat) (b_past : Nat) (b_text : Nat) (b_then : Nat) (b_told : Nat) (v_now : Nat → Int32) (x1 : Int32) (H : Heap) (locs : List Loc), va_P (dC, dI) vwCl [(h_p0, .inr (7, [.ref b_now, .ref b_then, .ref b_past, .int 0, .ref b_text, .int 0, .int 0, .int 0, .int 0, .ref b_told, .int 0, .int 0, .int 0, .int 0, .int 0])), (b_now, .inl (cyI, 452, .inl v_now)), (b_past, .inl (cyI, 2712, .inl (fun _ => 0))), (b_text, .inl (cyI, 60, .inl (fun _ => 0))), (b_then, .inl (cyI, 452, .inl (fun _ => 0))), (b_told, .inl (cyI, 48, .inl (fun _ => 0)))] H → va_D A [(h_p0, .inr (7, [.ref b_now, .ref b_then, .ref b_past, .int 0, .ref b_text, .int 0, .int 0, .int 0, .int 0, .ref b_told, .int 0, .int 0, .int 0, .int 0, .int 0])), (b_now, .inl (cyI, 452, .inl v_now)), (b_past, .inl (cyI, 2712, .inl (fun _ => 0))), (b_text, .inl (cyI, 60, .inl (fun _ => 0))), (b_then, .inl (cyI, 452, .inl (fun _ => 0))), (b_told, .inl (cyI, 48, .inl (fun _ => 0)))] → va_S A s.heap H locs → ∀ (ls : Array Slot), lv_has ls 2 [(0, .ref h_p0), (1, .int x1)] →  s_X7_init_L72 n k v_now x1 = some o → W p l e (headSpec wsX7_init ({ frames := 1, cells := 5, slots := 3724, locals := 12 })).room s m (([.ref h_p0] : List Value).toArray) below meth c H locs 5 3724 (MQ below (va_Qv (S := Unit) (fun _ => True) (fun _ t => ∃ (b_now b_past b_text b_then b_told : Nat), WLD (dC, dI) A [(h_p0, .inr (7, [.ref b_now, .ref b_then, .ref b_past, .int o.1, .ref b_text, .int o.2.1, .int o.2.2.1, .int o.2.2.2.1, .int o.2.2.2.2.1, .ref b_told, .int o.2.2.2.2.2.1, .int o.2.2.2.2.2.2.1, .int o.2.2.2.2.2.2.2.1, .int o.2.2.2.2.2.2.2.2.1, .int o.2.2.2.2.2.2.2.2.2.1])), (b_now, .inl (cyI, 452, .inl o.2.2.2.2.2.2.2.2.2.2.1)), (b_past, .inl (cyI, 2712, .inl o.2.2.2.2.2.2.2.2.2.2.2.1)), (b_text, .inl (cyI, 60, .inl o.2.2.2.2.2.2.2.2.2.2.2.2.1)), (b_then, .inl (cyI, 452, .inl o.2.2.2.2.2.2.2.2.2.2.2.2.2.1)), (b_told, .inl (cyI, 48, .inl o.2.2.2.2.2.2.2.2.2.2.2.2.2.2))] t) A) (([.ref h_p0] : List Value).toArray) s 5 3724 A) (F0 m 72 ls [])) := by
    intro k
    induction k with
    | zero =>
      intro b_now b_past b_text b_then b_told v_now x1 H locs hP hD hS ls hl h
      rw [s_X7_init_L72] at h
      cases h
    | succ k ih =>
      intro b_now b_past b_text b_then b_told v_now x1 H locs hP hD hS ls hl h
      rw [s_X7_init_L72] at h
      refine lv_iload_n hx hb dX7_init_72 rfl (lv_at hl 1 rfl) ?_
      refine lv_iconst (v := iI 3) hx hb dX7_init_73 rfl ?_
      refine lv_icmp_ge (tgt := 93) hx hb dX7_init_74 (by decide) (fun c3 => ?_) (fun c3 => ?_)
      · have h := ipos c3 h
        refine lv_iconst (v := iI 0) hx hb dX7_init_93 rfl ?_
        refine lv_istore_n hx hb dX7_init_94 rfl hl (by decide) (rfl : _ = ([(1, .int (iI 0)), (0, .ref h_p0)] : List (Nat × Value))) (fun ls hl => ?_)
        exact L95 n b_now b_past b_text b_then b_told v_now (iI 0) _ _ hP hD hS ls (lv_sub hl [1, 0] rfl) h
      · have h := ineg c3 h
        refine lv_aload_n hx hb dX7_init_77 rfl (lv_at hl 0 rfl) ?_
        refine va_get (D := (dC, dI)) (ci := 7) (v := .ref b_now) (C := RX7) (T := TX7) (N := 15) hx hb hts m_X7_init_0 hown hK hP 0 rfl rfl 0 (by decide) (hts (.fieldLink RX7 7 "SleeperBerthsModel" "now" "[I") m_X7_init_1) (fun _ h9 => h9) rfl dX7_init_78 ?_
        refine lv_iconst (v := iI 3) hx hb dX7_init_81 rfl ?_
        refine lv_iload_n hx hb dX7_init_82 rfl (lv_at hl 1 rfl) ?_
        refine lv_iadd hx hb dX7_init_83 ?_
        refine lv_bipush (v := iI 9) hx hb dX7_init_84 (by decide) ?_
        obtain ⟨g4, h⟩ := gsome h
        refine va_iast (D := (dC, dI)) hx hb hK hP hD hS 1 0 rfl rfl g4 dX7_init_86 (fun H locs hP hD hS => ?_)
        have hP : va_P (dC, dI) vwCl [(h_p0, .inr (7, [.ref b_now, .ref b_then, .ref b_past, .int 0, .ref b_text, .int 0, .int 0, .int 0, .int 0, .ref b_told, .int 0, .int 0, .int 0, .int 0, .int 0])), (b_now, .inl (cyI, 452, .inl (upd v_now (iI 3 + x1).toNatClampNeg (iI 9)))), (b_past, .inl (cyI, 2712, .inl (fun _ => 0))), (b_text, .inl (cyI, 60, .inl (fun _ => 0))), (b_then, .inl (cyI, 452, .inl (fun _ => 0))), (b_told, .inl (cyI, 48, .inl (fun _ => 0)))] H := hP
        have hD : va_D A [(h_p0, .inr (7, [.ref b_now, .ref b_then, .ref b_past, .int 0, .ref b_text, .int 0, .int 0, .int 0, .int 0, .ref b_told, .int 0, .int 0, .int 0, .int 0, .int 0])), (b_now, .inl (cyI, 452, .inl (upd v_now (iI 3 + x1).toNatClampNeg (iI 9)))), (b_past, .inl (cyI, 2712, .inl (fun _ => 0))), (b_text, .inl (cyI, 60, .inl (fun _ => 0))), (b_then, .inl (cyI, 452, .inl (fun _ => 0))), (b_told, .inl (cyI, 48, .inl (fun _ => 0)))] := hD
        refine lv_iinc (v := (x1 + iI 1)) hx hb dX7_init_87 hl (k := 1) rfl rfl (by decide) (rfl : _ = ([(1, .int (x1 + iI 1)), (0, .ref h_p0)] : List (Nat × Value))) (fun ls hl => ?_)
        refine lv_goto (tgt := 72) hx hb dX7_init_90 (by decide) ?_
        exact ih b_now b_past b_text b_then b_told (upd v_now (iI 3 + x1).toNatClampNeg (iI 9)) (x1 + iI 1) _ _ hP hD hS ls (lv_sub hl [1, 0] rfl) h
  have hl := lv_entry ([.ref h_p0]) (n := 2) (Nat.le_of_ble_eq_true rfl)
  rw [lg_entry_eq]
  generalize (lg_sl ([.ref h_p0]) ++ List.replicate (2 - (lg_sl ([.ref h_p0])).length) Slot.unset).toArray = ls at hl ⊢
  have hl : lv_has ls 2 [(0, .ref h_p0)] := hl
  unfold s_X7_init at h
  refine lv_aload_n hx hb dX7_init_0 rfl (lv_at hl 0 rfl) ?_
  refine W.objInit hx hb hown (hts (.methodLink RX7 1 objectInit) m_X7_init_2) (hts (.instanceMethod objectInit) m_X7_init_3) (hts (.code objectInit ⟨#[0xb1]⟩ 1 none) m_X7_init_4) rfl (by rw [hml]; exact hl.1) rfl dX7_init_1 (Nat.le_of_ble_eq_true rfl) (Nat.le_of_ble_eq_true rfl) ?_
  refine W.eq (g2 := F0 m 4 ls []) rfl ?_
  refine lv_aload_n hx hb dX7_init_4 rfl (lv_at hl 0 rfl) ?_
  refine lv_sipush (v := iI 452) hx hb dX7_init_5 (by decide) ?_
  refine newI hx hb (hts (.arrayClass .int) m_X7_init_5) dX7_init_8 hK hP hD hS hA (NN := 452) (by decide) (by decide) (by decide) (Nat.le_of_ble_eq_true rfl) (Nat.le_of_ble_eq_true rfl) (fun q5 H hP hD hS => ?_)
  have hP : va_P (dC, dI) vwCl [(h_p0, .inr (7, [.null, .null, .null, .int 0, .null, .int 0, .int 0, .int 0, .int 0, .null, .int 0, .int 0, .int 0, .int 0, .int 0])), (q5, .inl (cyI, 452, .inl (fun _ => 0)))] H := hP
  have hD : va_D A [(h_p0, .inr (7, [.null, .null, .null, .int 0, .null, .int 0, .int 0, .int 0, .int 0, .null, .int 0, .int 0, .int 0, .int 0, .int 0])), (q5, .inl (cyI, 452, .inl (fun _ => 0)))] := hD
  refine va_putF (D := (dC, dI)) (ci := 7) (v := .ref q5) (ty := .array .int) (C := RX7) (T := TX7) (N := 15) hx hb hts m_X7_init_0 tyX7 tyX7_ok nmX7 hown hK hP hD hS 0 rfl rfl 0 (by decide) (hts (.fieldLink RX7 7 "SleeperBerthsModel" "now" "[I") m_X7_init_1) (fun _ h9 => h9) rfl hin rfl (by decide +kernel) rfl rfl (Nat.le_of_ble_eq_true rfl) dX7_init_10 (fun H locs hP hD hS => ?_)
  have hP : va_P (dC, dI) vwCl [(h_p0, .inr (7, [.ref q5, .null, .null, .int 0, .null, .int 0, .int 0, .int 0, .int 0, .null, .int 0, .int 0, .int 0, .int 0, .int 0])), (q5, .inl (cyI, 452, .inl (fun _ => 0)))] H := hP
  have hD : va_D A [(h_p0, .inr (7, [.ref q5, .null, .null, .int 0, .null, .int 0, .int 0, .int 0, .int 0, .null, .int 0, .int 0, .int 0, .int 0, .int 0])), (q5, .inl (cyI, 452, .inl (fun _ => 0)))] := hD
  refine lv_aload_n hx hb dX7_init_13 rfl (lv_at hl 0 rfl) ?_
  refine lv_sipush (v := iI 452) hx hb dX7_init_14 (by decide) ?_
  refine newI hx hb (hts (.arrayClass .int) m_X7_init_5) dX7_init_17 hK hP hD hS hA (NN := 452) (by decide) (by decide) (by decide) (Nat.le_of_ble_eq_true rfl) (Nat.le_of_ble_eq_true rfl) (fun q6 H hP hD hS => ?_)
  have hP : va_P (dC, dI) vwCl [(h_p0, .inr (7, [.ref q5, .null, .null, .int 0, .null, .int 0, .int 0, .int 0, .int 0, .null, .int 0, .int 0, .int 0, .int 0, .int 0])), (q5, .inl (cyI, 452, .inl (fun _ => 0))), (q6, .inl (cyI, 452, .inl (fun _ => 0)))] H := hP
  have hD : va_D A [(h_p0, .inr (7, [.ref q5, .null, .null, .int 0, .null, .int 0, .int 0, .int 0, .int 0, .null, .int 0, .int 0, .int 0, .int 0, .int 0])), (q5, .inl (cyI, 452, .inl (fun _ => 0))), (q6, .inl (cyI, 452, .inl (fun _ => 0)))] := hD
  refine va_putF (D := (dC, dI)) (ci := 7) (v := .ref q6) (ty := .array .int) (C := RX7) (T := TX7) (N := 15) hx hb hts m_X7_init_0 tyX7 tyX7_ok nmX7 hown hK hP hD hS 0 rfl rfl 1 (by decide) (hts (.fieldLink RX7 13 "SleeperBerthsModel" "then" "[I") m_X7_init_6) (fun _ h9 => h9) rfl hin rfl (by decide +kernel) rfl rfl (Nat.le_of_ble_eq_true rfl) dX7_init_19 (fun H locs hP hD hS => ?_)
  have hP : va_P (dC, dI) vwCl [(h_p0, .inr (7, [.ref q5, .ref q6, .null, .int 0, .null, .int 0, .int 0, .int 0, .int 0, .null, .int 0, .int 0, .int 0, .int 0, .int 0])), (q5, .inl (cyI, 452, .inl (fun _ => 0))), (q6, .inl (cyI, 452, .inl (fun _ => 0)))] H := hP
  have hD : va_D A [(h_p0, .inr (7, [.ref q5, .ref q6, .null, .int 0, .null, .int 0, .int 0, .int 0, .int 0, .null, .int 0, .int 0, .int 0, .int 0, .int 0])), (q5, .inl (cyI, 452, .inl (fun _ => 0))), (q6, .inl (cyI, 452, .inl (fun _ => 0)))] := hD
  refine lv_aload_n hx hb dX7_init_22 rfl (lv_at hl 0 rfl) ?_
  refine lv_sipush (v := iI 2712) hx hb dX7_init_23 (by decide) ?_
  refine newI hx hb (hts (.arrayClass .int) m_X7_init_5) dX7_init_26 hK hP hD hS hA (NN := 2712) (by decide) (by decide) (by decide) (Nat.le_of_ble_eq_true rfl) (Nat.le_of_ble_eq_true rfl) (fun q7 H hP hD hS => ?_)
  have hP : va_P (dC, dI) vwCl [(h_p0, .inr (7, [.ref q5, .ref q6, .null, .int 0, .null, .int 0, .int 0, .int 0, .int 0, .null, .int 0, .int 0, .int 0, .int 0, .int 0])), (q5, .inl (cyI, 452, .inl (fun _ => 0))), (q6, .inl (cyI, 452, .inl (fun _ => 0))), (q7, .inl (cyI, 2712, .inl (fun _ => 0)))] H := hP
  have hD : va_D A [(h_p0, .inr (7, [.ref q5, .ref q6, .null, .int 0, .null, .int 0, .int 0, .int 0, .int 0, .null, .int 0, .int 0, .int 0, .int 0, .int 0])), (q5, .inl (cyI, 452, .inl (fun _ => 0))), (q6, .inl (cyI, 452, .inl (fun _ => 0))), (q7, .inl (cyI, 2712, .inl (fun _ => 0)))] := hD
  refine va_putF (D := (dC, dI)) (ci := 7) (v := .ref q7) (ty := .array .int) (C := RX7) (T := TX7) (N := 15) hx hb hts m_X7_init_0 tyX7 tyX7_ok nmX7 hown hK hP hD hS 0 rfl rfl 2 (by decide) (hts (.fieldLink RX7 16 "SleeperBerthsModel" "past" "[I") m_X7_init_7) (fun _ h9 => h9) rfl hin rfl (by decide +kernel) rfl rfl (Nat.le_of_ble_eq_true rfl) dX7_init_28 (fun H locs hP hD hS => ?_)
  have hP : va_P (dC, dI) vwCl [(h_p0, .inr (7, [.ref q5, .ref q6, .ref q7, .int 0, .null, .int 0, .int 0, .int 0, .int 0, .null, .int 0, .int 0, .int 0, .int 0, .int 0])), (q5, .inl (cyI, 452, .inl (fun _ => 0))), (q6, .inl (cyI, 452, .inl (fun _ => 0))), (q7, .inl (cyI, 2712, .inl (fun _ => 0)))] H := hP
  have hD : va_D A [(h_p0, .inr (7, [.ref q5, .ref q6, .ref q7, .int 0, .null, .int 0, .int 0, .int 0, .int 0, .null, .int 0, .int 0, .int 0, .int 0, .int 0])), (q5, .inl (cyI, 452, .inl (fun _ => 0))), (q6, .inl (cyI, 452, .inl (fun _ => 0))), (q7, .inl (cyI, 2712, .inl (fun _ => 0)))] := hD
  refine lv_aload_n hx hb dX7_init_31 rfl (lv_at hl 0 rfl) ?_
  refine lv_bipush (v := iI 60) hx hb dX7_init_32 (by decide) ?_
  refine newI hx hb (hts (.arrayClass .int) m_X7_init_5) dX7_init_34 hK hP hD hS hA (NN := 60) (by decide) (by decide) (by decide) (Nat.le_of_ble_eq_true rfl) (Nat.le_of_ble_eq_true rfl) (fun q8 H hP hD hS => ?_)
  have hP : va_P (dC, dI) vwCl [(h_p0, .inr (7, [.ref q5, .ref q6, .ref q7, .int 0, .null, .int 0, .int 0, .int 0, .int 0, .null, .int 0, .int 0, .int 0, .int 0, .int 0])), (q5, .inl (cyI, 452, .inl (fun _ => 0))), (q6, .inl (cyI, 452, .inl (fun _ => 0))), (q7, .inl (cyI, 2712, .inl (fun _ => 0))), (q8, .inl (cyI, 60, .inl (fun _ => 0)))] H := hP
  have hD : va_D A [(h_p0, .inr (7, [.ref q5, .ref q6, .ref q7, .int 0, .null, .int 0, .int 0, .int 0, .int 0, .null, .int 0, .int 0, .int 0, .int 0, .int 0])), (q5, .inl (cyI, 452, .inl (fun _ => 0))), (q6, .inl (cyI, 452, .inl (fun _ => 0))), (q7, .inl (cyI, 2712, .inl (fun _ => 0))), (q8, .inl (cyI, 60, .inl (fun _ => 0)))] := hD
  refine va_putF (D := (dC, dI)) (ci := 7) (v := .ref q8) (ty := .array .int) (C := RX7) (T := TX7) (N := 15) hx hb hts m_X7_init_0 tyX7 tyX7_ok nmX7 hown hK hP hD hS 0 rfl rfl 4 (by decide) (hts (.fieldLink RX7 19 "SleeperBerthsModel" "text" "[I") m_X7_init_8) (fun _ h9 => h9) rfl hin rfl (by decide +kernel) rfl rfl (Nat.le_of_ble_eq_true rfl) dX7_init_36 (fun H locs hP hD hS => ?_)
  have hP : va_P (dC, dI) vwCl [(h_p0, .inr (7, [.ref q5, .ref q6, .ref q7, .int 0, .ref q8, .int 0, .int 0, .int 0, .int 0, .null, .int 0, .int 0, .int 0, .int 0, .int 0])), (q5, .inl (cyI, 452, .inl (fun _ => 0))), (q6, .inl (cyI, 452, .inl (fun _ => 0))), (q7, .inl (cyI, 2712, .inl (fun _ => 0))), (q8, .inl (cyI, 60, .inl (fun _ => 0)))] H := hP
  have hD : va_D A [(h_p0, .inr (7, [.ref q5, .ref q6, .ref q7, .int 0, .ref q8, .int 0, .int 0, .int 0, .int 0, .null, .int 0, .int 0, .int 0, .int 0, .int 0])), (q5, .inl (cyI, 452, .inl (fun _ => 0))), (q6, .inl (cyI, 452, .inl (fun _ => 0))), (q7, .inl (cyI, 2712, .inl (fun _ => 0))), (q8, .inl (cyI, 60, .inl (fun _ => 0)))] := hD
  refine lv_aload_n hx hb dX7_init_39 rfl (lv_at hl 0 rfl) ?_
  refine lv_bipush (v := iI 48) hx hb dX7_init_40 (by decide) ?_
  refine newI hx hb (hts (.arrayClass .int) m_X7_init_5) dX7_init_42 hK hP hD hS hA (NN := 48) (by decide) (by decide) (by decide) (Nat.le_of_ble_eq_true rfl) (Nat.le_of_ble_eq_true rfl) (fun q9 H hP hD hS => ?_)
  have hP : va_P (dC, dI) vwCl [(h_p0, .inr (7, [.ref q5, .ref q6, .ref q7, .int 0, .ref q8, .int 0, .int 0, .int 0, .int 0, .null, .int 0, .int 0, .int 0, .int 0, .int 0])), (q5, .inl (cyI, 452, .inl (fun _ => 0))), (q6, .inl (cyI, 452, .inl (fun _ => 0))), (q7, .inl (cyI, 2712, .inl (fun _ => 0))), (q8, .inl (cyI, 60, .inl (fun _ => 0))), (q9, .inl (cyI, 48, .inl (fun _ => 0)))] H := hP
  have hD : va_D A [(h_p0, .inr (7, [.ref q5, .ref q6, .ref q7, .int 0, .ref q8, .int 0, .int 0, .int 0, .int 0, .null, .int 0, .int 0, .int 0, .int 0, .int 0])), (q5, .inl (cyI, 452, .inl (fun _ => 0))), (q6, .inl (cyI, 452, .inl (fun _ => 0))), (q7, .inl (cyI, 2712, .inl (fun _ => 0))), (q8, .inl (cyI, 60, .inl (fun _ => 0))), (q9, .inl (cyI, 48, .inl (fun _ => 0)))] := hD
  refine va_putF (D := (dC, dI)) (ci := 7) (v := .ref q9) (ty := .array .int) (C := RX7) (T := TX7) (N := 15) hx hb hts m_X7_init_0 tyX7 tyX7_ok nmX7 hown hK hP hD hS 0 rfl rfl 9 (by decide) (hts (.fieldLink RX7 22 "SleeperBerthsModel" "told" "[I") m_X7_init_9) (fun _ h9 => h9) rfl hin rfl (by decide +kernel) rfl rfl (Nat.le_of_ble_eq_true rfl) dX7_init_44 (fun H locs hP hD hS => ?_)
  have hP : va_P (dC, dI) vwCl [(h_p0, .inr (7, [.ref q5, .ref q6, .ref q7, .int 0, .ref q8, .int 0, .int 0, .int 0, .int 0, .ref q9, .int 0, .int 0, .int 0, .int 0, .int 0])), (q5, .inl (cyI, 452, .inl (fun _ => 0))), (q6, .inl (cyI, 452, .inl (fun _ => 0))), (q7, .inl (cyI, 2712, .inl (fun _ => 0))), (q8, .inl (cyI, 60, .inl (fun _ => 0))), (q9, .inl (cyI, 48, .inl (fun _ => 0)))] H := hP
  have hD : va_D A [(h_p0, .inr (7, [.ref q5, .ref q6, .ref q7, .int 0, .ref q8, .int 0, .int 0, .int 0, .int 0, .ref q9, .int 0, .int 0, .int 0, .int 0, .int 0])), (q5, .inl (cyI, 452, .inl (fun _ => 0))), (q6, .inl (cyI, 452, .inl (fun _ => 0))), (q7, .inl (cyI, 2712, .inl (fun _ => 0))), (q8, .inl (cyI, 60, .inl (fun _ => 0))), (q9, .inl (cyI, 48, .inl (fun _ => 0)))] := hD
  refine lv_aload_n hx hb dX7_init_47 rfl (lv_at hl 0 rfl) ?_
  refine va_get (D := (dC, dI)) (ci := 7) (v := .ref q5) (C := RX7) (T := TX7) (N := 15) hx hb hts m_X7_init_0 hown hK hP 0 rfl rfl 0 (by decide) (hts (.fieldLink RX7 7 "SleeperBerthsModel" "now" "[I") m_X7_init_1) (fun _ h9 => h9) rfl dX7_init_48 ?_
  refine lv_iconst (v := iI 0) hx hb dX7_init_51 rfl ?_
  refine lv_iconst (v := iI 3) hx hb dX7_init_52 rfl ?_
  obtain ⟨g10, h⟩ := gsome h
  refine va_iast (D := (dC, dI)) hx hb hK hP hD hS 1 0 rfl rfl g10 dX7_init_53 (fun H locs hP hD hS => ?_)
  have hP : va_P (dC, dI) vwCl [(h_p0, .inr (7, [.ref q5, .ref q6, .ref q7, .int 0, .ref q8, .int 0, .int 0, .int 0, .int 0, .ref q9, .int 0, .int 0, .int 0, .int 0, .int 0])), (q5, .inl (cyI, 452, .inl (upd (fun _ => 0) (iI 0).toNatClampNeg (iI 3)))), (q6, .inl (cyI, 452, .inl (fun _ => 0))), (q7, .inl (cyI, 2712, .inl (fun _ => 0))), (q8, .inl (cyI, 60, .inl (fun _ => 0))), (q9, .inl (cyI, 48, .inl (fun _ => 0)))] H := hP
  have hD : va_D A [(h_p0, .inr (7, [.ref q5, .ref q6, .ref q7, .int 0, .ref q8, .int 0, .int 0, .int 0, .int 0, .ref q9, .int 0, .int 0, .int 0, .int 0, .int 0])), (q5, .inl (cyI, 452, .inl (upd (fun _ => 0) (iI 0).toNatClampNeg (iI 3)))), (q6, .inl (cyI, 452, .inl (fun _ => 0))), (q7, .inl (cyI, 2712, .inl (fun _ => 0))), (q8, .inl (cyI, 60, .inl (fun _ => 0))), (q9, .inl (cyI, 48, .inl (fun _ => 0)))] := hD
  refine lv_aload_n hx hb dX7_init_54 rfl (lv_at hl 0 rfl) ?_
  refine va_get (D := (dC, dI)) (ci := 7) (v := .ref q5) (C := RX7) (T := TX7) (N := 15) hx hb hts m_X7_init_0 hown hK hP 0 rfl rfl 0 (by decide) (hts (.fieldLink RX7 7 "SleeperBerthsModel" "now" "[I") m_X7_init_1) (fun _ h9 => h9) rfl dX7_init_55 ?_
  refine lv_iconst (v := iI 1) hx hb dX7_init_58 rfl ?_
  refine lv_bipush (v := iI 6) hx hb dX7_init_59 (by decide) ?_
  obtain ⟨g11, h⟩ := gsome h
  refine va_iast (D := (dC, dI)) hx hb hK hP hD hS 1 0 rfl rfl g11 dX7_init_61 (fun H locs hP hD hS => ?_)
  have hP : va_P (dC, dI) vwCl [(h_p0, .inr (7, [.ref q5, .ref q6, .ref q7, .int 0, .ref q8, .int 0, .int 0, .int 0, .int 0, .ref q9, .int 0, .int 0, .int 0, .int 0, .int 0])), (q5, .inl (cyI, 452, .inl (upd (upd (fun _ => 0) (iI 0).toNatClampNeg (iI 3)) (iI 1).toNatClampNeg (iI 6)))), (q6, .inl (cyI, 452, .inl (fun _ => 0))), (q7, .inl (cyI, 2712, .inl (fun _ => 0))), (q8, .inl (cyI, 60, .inl (fun _ => 0))), (q9, .inl (cyI, 48, .inl (fun _ => 0)))] H := hP
  have hD : va_D A [(h_p0, .inr (7, [.ref q5, .ref q6, .ref q7, .int 0, .ref q8, .int 0, .int 0, .int 0, .int 0, .ref q9, .int 0, .int 0, .int 0, .int 0, .int 0])), (q5, .inl (cyI, 452, .inl (upd (upd (fun _ => 0) (iI 0).toNatClampNeg (iI 3)) (iI 1).toNatClampNeg (iI 6)))), (q6, .inl (cyI, 452, .inl (fun _ => 0))), (q7, .inl (cyI, 2712, .inl (fun _ => 0))), (q8, .inl (cyI, 60, .inl (fun _ => 0))), (q9, .inl (cyI, 48, .inl (fun _ => 0)))] := hD
  refine lv_aload_n hx hb dX7_init_62 rfl (lv_at hl 0 rfl) ?_
  refine va_get (D := (dC, dI)) (ci := 7) (v := .ref q5) (C := RX7) (T := TX7) (N := 15) hx hb hts m_X7_init_0 hown hK hP 0 rfl rfl 0 (by decide) (hts (.fieldLink RX7 7 "SleeperBerthsModel" "now" "[I") m_X7_init_1) (fun _ h9 => h9) rfl dX7_init_63 ?_
  refine lv_iconst (v := iI 2) hx hb dX7_init_66 rfl ?_
  refine lv_bipush (v := iI 10) hx hb dX7_init_67 (by decide) ?_
  obtain ⟨g12, h⟩ := gsome h
  refine va_iast (D := (dC, dI)) hx hb hK hP hD hS 1 0 rfl rfl g12 dX7_init_69 (fun H locs hP hD hS => ?_)
  have hP : va_P (dC, dI) vwCl [(h_p0, .inr (7, [.ref q5, .ref q6, .ref q7, .int 0, .ref q8, .int 0, .int 0, .int 0, .int 0, .ref q9, .int 0, .int 0, .int 0, .int 0, .int 0])), (q5, .inl (cyI, 452, .inl (upd (upd (upd (fun _ => 0) (iI 0).toNatClampNeg (iI 3)) (iI 1).toNatClampNeg (iI 6)) (iI 2).toNatClampNeg (iI 10)))), (q6, .inl (cyI, 452, .inl (fun _ => 0))), (q7, .inl (cyI, 2712, .inl (fun _ => 0))), (q8, .inl (cyI, 60, .inl (fun _ => 0))), (q9, .inl (cyI, 48, .inl (fun _ => 0)))] H := hP
  have hD : va_D A [(h_p0, .inr (7, [.ref q5, .ref q6, .ref q7, .int 0, .ref q8, .int 0, .int 0, .int 0, .int 0, .ref q9, .int 0, .int 0, .int 0, .int 0, .int 0])), (q5, .inl (cyI, 452, .inl (upd (upd (upd (fun _ => 0) (iI 0).toNatClampNeg (iI 3)) (iI 1).toNatClampNeg (iI 6)) (iI 2).toNatClampNeg (iI 10)))), (q6, .inl (cyI, 452, .inl (fun _ => 0))), (q7, .inl (cyI, 2712, .inl (fun _ => 0))), (q8, .inl (cyI, 60, .inl (fun _ => 0))), (q9, .inl (cyI, 48, .inl (fun _ => 0)))] := hD
  refine lv_iconst (v := iI 0) hx hb dX7_init_70 rfl ?_
  refine lv_istore_n hx hb dX7_init_71 rfl hl (by decide) (rfl : _ = ([(1, .int (iI 0)), (0, .ref h_p0)] : List (Nat × Value))) (fun ls hl => ?_)
  exact L72 n q5 q7 q8 q6 q9 (upd (upd (upd (fun _ => 0) (iI 0).toNatClampNeg (iI 3)) (iI 1).toNatClampNeg (iI 6)) (iI 2).toNatClampNeg (iI 10)) (iI 0) _ _ (sb_P [(h_p0, .inr (7, [.ref q5, .ref q6, .ref q7, .int 0, .ref q8, .int 0, .int 0, .int 0, .int 0, .ref q9, .int 0, .int 0, .int 0, .int 0, .int 0])), (q5, .inl (cyI, 452, .inl (upd (upd (upd (fun _ => 0) (iI 0).toNatClampNeg (iI 3)) (iI 1).toNatClampNeg (iI 6)) (iI 2).toNatClampNeg (iI 10)))), (q7, .inl (cyI, 2712, .inl (fun _ => 0))), (q8, .inl (cyI, 60, .inl (fun _ => 0))), (q6, .inl (cyI, 452, .inl (fun _ => 0))), (q9, .inl (cyI, 48, .inl (fun _ => 0)))] hP [0, 1, 3, 4, 2, 5] rfl) (sb_D [(h_p0, .inr (7, [.ref q5, .ref q6, .ref q7, .int 0, .ref q8, .int 0, .int 0, .int 0, .int 0, .ref q9, .int 0, .int 0, .int 0, .int 0, .int 0])), (q5, .inl (cyI, 452, .inl (upd (upd (upd (fun _ => 0) (iI 0).toNatClampNeg (iI 3)) (iI 1).toNatClampNeg (iI 6)) (iI 2).toNatClampNeg (iI 10)))), (q7, .inl (cyI, 2712, .inl (fun _ => 0))), (q8, .inl (cyI, 60, .inl (fun _ => 0))), (q6, .inl (cyI, 452, .inl (fun _ => 0))), (q9, .inl (cyI, 48, .inl (fun _ => 0)))] hD [0, 1, 3, 4, 2, 5] (by decide) rfl) hS ls (lv_sub hl [1, 0] rfl) h
def s_X7_thrown (v_thrown : Int32) : Option (Int32) := (some (v_thrown))
set_option maxRecDepth 20000 in
theorem m_X7_thrown_0 : ∀ w ∈ u_ws RX7 TX7 15, w ∈ wsX7_thrown := by decide +kernel
set_option maxRecDepth 20000 in
theorem m_X7_thrown_1 : (.fieldLink RX7 25 "SleeperBerthsModel" "thrown" "I" : Cond) ∈ wsX7_thrown := by decide +kernel
set_option maxHeartbeats 4000000 in
set_option maxRecDepth 100000 in
theorem c_X7_thrown (l : Launch) (dC : Nat → ClassId) (dI : Nat → Nat → Nat) (cyI cyJ cyT : ClassId) (h_p0 : Nat) (h_p0_now : Nat) (h_p0_then : Nat) (h_p0_past : Nat) (h_p0_text : Nat) (h_p0_told : Nat) (sz : Nat) (v_kept : Int32) (v_typed : Int32) (v_thrown : Int32) (v_at : Int32) (v_isFault : Int32) (v_tolds : Int32) (v_one : Int32) (v_other : Int32) (v_change : Int32) (v_woken : Int32) (o : Int32) (h : s_X7_thrown v_thrown = some o) : Met l yX7_thrown wsX7_thrown ({ frames := 0, cells := 0, slots := 0, locals := 0 }) (va_Pc [.ref h_p0] (PRE (dC, dI) (TYS cyI cyJ cyT) sz [(h_p0, .inr (7, [.ref h_p0_now, .ref h_p0_then, .ref h_p0_past, .int v_kept, .ref h_p0_text, .int v_typed, .int v_thrown, .int v_at, .int v_isFault, .ref h_p0_told, .int v_tolds, .int v_one, .int v_other, .int v_change, .int v_woken]))])) (va_Qi (S := Unit) (fun r _ => r = o) (fun _ t => WLD (dC, dI) (va_A [(h_p0, .inr (7, [.ref h_p0_now, .ref h_p0_then, .ref h_p0_past, .int v_kept, .ref h_p0_text, .int v_typed, .int v_thrown, .int v_at, .int v_isFault, .ref h_p0_told, .int v_tolds, .int v_one, .int v_other, .int v_change, .int v_woken]))] sz) [(h_p0, .inr (7, [.ref h_p0_now, .ref h_p0_then, .ref h_p0_past, .int v_kept, .ref h_p0_text, .int v_typed, .int v_thrown, .int v_at, .int v_isFault, .ref h_p0_told, .int v_tolds, .int v_one, .int v_other, .int v_change, .int v_woken]))] t) (va_A [(h_p0, .inr (7, [.ref h_p0_now, .ref h_p0_then, .ref h_p0_past, .int v_kept, .ref h_p0_text, .int v_typed, .int v_thrown, .int v_at, .int v_isFault, .ref h_p0_told, .int v_tolds, .int v_one, .int v_other, .int v_change, .int v_woken]))] sz)) 0 0 (va_A [(h_p0, .inr (7, [.ref h_p0_now, .ref h_p0_then, .ref h_p0_past, .int v_kept, .ref h_p0_text, .int v_typed, .int v_thrown, .int v_at, .int v_isFault, .ref h_p0_told, .int v_tolds, .int v_one, .int v_other, .int v_change, .int v_woken]))] sz) := by
  refine Met.ofW (cc := cX7_thrown) (maxL := 1) (ret := (some .int)) (by decide) rfl ?_
  intro p e s m args below meth c s₁ B hml hv
  obtain ⟨rfl, hsz, hP, hK, hD0, hNW⟩ := hv
  have hx := B.exec
  have hb := B.bytes
  have hr := B.returns
  have hts := atoms_spec (ws := wsX7_thrown) B.pre
  have hown : s.vm.findClass RX7 = some m.cls := findClass_of_methodNamed B.named
  have hlocks := B.notSynchronized
  subst hsz
  have hD := hD0.self (sz := s.heap.size)
  generalize hAe : va_A [(h_p0, .inr (7, [.ref h_p0_now, .ref h_p0_then, .ref h_p0_past, .int v_kept, .ref h_p0_text, .int v_typed, .int v_thrown, .int v_at, .int v_isFault, .ref h_p0_told, .int v_tolds, .int v_one, .int v_other, .int v_change, .int v_woken]))] s.heap.size = A at hD ⊢
  have hA : ∀ q : Nat, s.heap.size ≤ q → A q := fun q h => by rw [← hAe]; exact Or.inr h
  have hS : va_S A s.heap s.heap [] := va_S.rf
  have hP : va_P (dC, dI) vwCl [(h_p0, .inr (7, [.ref h_p0_now, .ref h_p0_then, .ref h_p0_past, .int v_kept, .ref h_p0_text, .int v_typed, .int v_thrown, .int v_at, .int v_isFault, .ref h_p0_told, .int v_tolds, .int v_one, .int v_other, .int v_change, .int v_woken]))] s.heap := hP
  have hl := lv_entry ([.ref h_p0]) (n := 1) (Nat.le_of_ble_eq_true rfl)
  rw [lg_entry_eq]
  generalize (lg_sl ([.ref h_p0]) ++ List.replicate (1 - (lg_sl ([.ref h_p0])).length) Slot.unset).toArray = ls at hl ⊢
  have hl : lv_has ls 1 [(0, .ref h_p0)] := hl
  unfold s_X7_thrown at h
  refine lv_aload_n hx hb dX7_thrown_0 rfl (lv_at hl 0 rfl) ?_
  refine va_get (D := (dC, dI)) (ci := 7) (v := .int v_thrown) (C := RX7) (T := TX7) (N := 15) hx hb hts m_X7_thrown_0 hown hK hP 0 rfl rfl 6 (by decide) (hts (.fieldLink RX7 25 "SleeperBerthsModel" "thrown" "I") m_X7_thrown_1) (fun _ h9 => h9) rfl dX7_thrown_1 ?_
  obtain rfl := Option.some.inj h
  exact W.iret (v := v_thrown) hx hb hr (fun t ht hW => ⟨⟨v_thrown, (), rfl, rfl, WLD.of ht hP hD⟩, hS.F ht⟩) hS.2.2 dX7_thrown_4
def s_X7_fails (v_thrown : Int32) (a1 : Int32) : Option (Int32 × Int32) := (some (iI 0, a1))
set_option maxRecDepth 20000 in
theorem m_X7_fails_0 : ∀ w ∈ u_ws RX7 TX7 15, w ∈ wsX7_fails := by decide +kernel
set_option maxRecDepth 20000 in
theorem m_X7_fails_1 : (.fieldLink RX7 25 "SleeperBerthsModel" "thrown" "I" : Cond) ∈ wsX7_fails := by decide +kernel
set_option maxHeartbeats 4000000 in
set_option maxRecDepth 100000 in
theorem c_X7_fails (l : Launch) (dC : Nat → ClassId) (dI : Nat → Nat → Nat) (cyI cyJ cyT : ClassId) (h_p0 : Nat) (h_p0_now : Nat) (h_p0_then : Nat) (h_p0_past : Nat) (h_p0_text : Nat) (h_p0_told : Nat) (sz : Nat) (v_kept : Int32) (v_typed : Int32) (v_thrown : Int32) (v_at : Int32) (v_isFault : Int32) (v_tolds : Int32) (v_one : Int32) (v_other : Int32) (v_change : Int32) (v_woken : Int32) (a1 : Int32) (o : Int32 × Int32) (h : s_X7_fails v_thrown a1 = some o) : Met l yX7_fails wsX7_fails ({ frames := 0, cells := 0, slots := 0, locals := 0 }) (va_Pc [.ref h_p0, .int a1] (PRE (dC, dI) (TYS cyI cyJ cyT) sz [(h_p0, .inr (7, [.ref h_p0_now, .ref h_p0_then, .ref h_p0_past, .int v_kept, .ref h_p0_text, .int v_typed, .int v_thrown, .int v_at, .int v_isFault, .ref h_p0_told, .int v_tolds, .int v_one, .int v_other, .int v_change, .int v_woken]))])) (va_Qi (S := Unit) (fun r _ => r = o.1) (fun _ t => WLD (dC, dI) (va_A [(h_p0, .inr (7, [.ref h_p0_now, .ref h_p0_then, .ref h_p0_past, .int v_kept, .ref h_p0_text, .int v_typed, .int v_thrown, .int v_at, .int v_isFault, .ref h_p0_told, .int v_tolds, .int v_one, .int v_other, .int v_change, .int v_woken]))] sz) [(h_p0, .inr (7, [.ref h_p0_now, .ref h_p0_then, .ref h_p0_past, .int v_kept, .ref h_p0_text, .int v_typed, .int o.2, .int v_at, .int v_isFault, .ref h_p0_told, .int v_tolds, .int v_one, .int v_other, .int v_change, .int v_woken]))] t) (va_A [(h_p0, .inr (7, [.ref h_p0_now, .ref h_p0_then, .ref h_p0_past, .int v_kept, .ref h_p0_text, .int v_typed, .int v_thrown, .int v_at, .int v_isFault, .ref h_p0_told, .int v_tolds, .int v_one, .int v_other, .int v_change, .int v_woken]))] sz)) 0 0 (va_A [(h_p0, .inr (7, [.ref h_p0_now, .ref h_p0_then, .ref h_p0_past, .int v_kept, .ref h_p0_text, .int v_typed, .int v_thrown, .int v_at, .int v_isFault, .ref h_p0_told, .int v_tolds, .int v_one, .int v_other, .int v_change, .int v_woken]))] sz) := by
  refine Met.ofW (cc := cX7_fails) (maxL := 2) (ret := (some .int)) (by decide) rfl ?_
  intro p e s m args below meth c s₁ B hml hv
  obtain ⟨rfl, hsz, hP, hK, hD0, hNW⟩ := hv
  have hx := B.exec
  have hb := B.bytes
  have hr := B.returns
  have hts := atoms_spec (ws := wsX7_fails) B.pre
  have hown : s.vm.findClass RX7 = some m.cls := findClass_of_methodNamed B.named
  have hlocks := B.notSynchronized
  subst hsz
  have hD := hD0.self (sz := s.heap.size)
  generalize hAe : va_A [(h_p0, .inr (7, [.ref h_p0_now, .ref h_p0_then, .ref h_p0_past, .int v_kept, .ref h_p0_text, .int v_typed, .int v_thrown, .int v_at, .int v_isFault, .ref h_p0_told, .int v_tolds, .int v_one, .int v_other, .int v_change, .int v_woken]))] s.heap.size = A at hD ⊢
  have hA : ∀ q : Nat, s.heap.size ≤ q → A q := fun q h => by rw [← hAe]; exact Or.inr h
  have hS : va_S A s.heap s.heap [] := va_S.rf
  have hP : va_P (dC, dI) vwCl [(h_p0, .inr (7, [.ref h_p0_now, .ref h_p0_then, .ref h_p0_past, .int v_kept, .ref h_p0_text, .int v_typed, .int v_thrown, .int v_at, .int v_isFault, .ref h_p0_told, .int v_tolds, .int v_one, .int v_other, .int v_change, .int v_woken]))] s.heap := hP
  have hl := lv_entry ([.ref h_p0, .int a1]) (n := 2) (Nat.le_of_ble_eq_true rfl)
  rw [lg_entry_eq]
  generalize (lg_sl ([.ref h_p0, .int a1]) ++ List.replicate (2 - (lg_sl ([.ref h_p0, .int a1])).length) Slot.unset).toArray = ls at hl ⊢
  have hl : lv_has ls 2 [(0, .ref h_p0), (1, .int a1)] := hl
  unfold s_X7_fails at h
  refine lv_aload_n hx hb dX7_fails_0 rfl (lv_at hl 0 rfl) ?_
  refine lv_iload_n hx hb dX7_fails_1 rfl (lv_at hl 1 rfl) ?_
  refine va_put (D := (dC, dI)) (ci := 7) (v := .int a1) (ty := .int) (C := RX7) (T := TX7) (N := 15) hx hb hts m_X7_fails_0 tyX7 tyX7_ok nmX7 hown hK hP hD hS 0 rfl rfl 6 (by decide) (hts (.fieldLink RX7 25 "SleeperBerthsModel" "thrown" "I") m_X7_fails_1) (fun _ h9 => h9) rfl (by decide +kernel) rfl rfl (Nat.le_of_ble_eq_true rfl) dX7_fails_2 (fun H locs hP hD hS => ?_)
  have hP : va_P (dC, dI) vwCl [(h_p0, .inr (7, [.ref h_p0_now, .ref h_p0_then, .ref h_p0_past, .int v_kept, .ref h_p0_text, .int v_typed, .int a1, .int v_at, .int v_isFault, .ref h_p0_told, .int v_tolds, .int v_one, .int v_other, .int v_change, .int v_woken]))] H := hP
  have hD : va_D A [(h_p0, .inr (7, [.ref h_p0_now, .ref h_p0_then, .ref h_p0_past, .int v_kept, .ref h_p0_text, .int v_typed, .int a1, .int v_at, .int v_isFault, .ref h_p0_told, .int v_tolds, .int v_one, .int v_other, .int v_change, .int v_woken]))] := hD
  refine lv_iconst (v := iI 0) hx hb dX7_fails_5 rfl ?_
  obtain rfl := Option.some.inj h
  exact W.iret (v := iI 0) hx hb hr (fun t ht hW => ⟨⟨iI 0, (), rfl, rfl, WLD.of ht hP hD⟩, hS.F ht⟩) hS.2.2 dX7_fails_6
def s_X7_in (a0 : Int32) (a1 : Int32) (a2 : Int32) : Option (Int32) := (if a0 < a1 then (some (iI 0)) else (if a2 < a0 then (some (iI 0)) else (some (iI 1))))
set_option maxHeartbeats 4000000 in
set_option maxRecDepth 100000 in
theorem c_X7_in (l : Launch) (dC : Nat → ClassId) (dI : Nat → Nat → Nat) (cyI cyJ cyT : ClassId)  (sz : Nat) (a0 : Int32) (a1 : Int32) (a2 : Int32) (o : Int32) (h : s_X7_in a0 a1 a2 = some o) : Met l yX7_in wsX7_in ({ frames := 0, cells := 0, slots := 0, locals := 0 }) (va_Pc [.int a0, .int a1, .int a2] (PRE (dC, dI) (TYS cyI cyJ cyT) sz [])) (va_Qi (S := Unit) (fun r _ => r = o) (fun _ t => WLD (dC, dI) (va_A [] sz) [] t) (va_A [] sz)) 0 0 (va_A [] sz) := by
  refine Met.ofW (cc := cX7_in) (maxL := 3) (ret := (some .boolean)) (by decide) rfl ?_
  intro p e s m args below meth c s₁ B hml hv
  obtain ⟨rfl, hsz, hP, hK, hD0, hNW⟩ := hv
  have hx := B.exec
  have hb := B.bytes
  have hr := B.returns
  have hts := atoms_spec (ws := wsX7_in) B.pre
  have hown : s.vm.findClass RX7 = some m.cls := findClass_of_methodNamed B.named
  have hlocks := B.notSynchronized
  subst hsz
  have hD := hD0.self (sz := s.heap.size)
  generalize hAe : va_A [] s.heap.size = A at hD ⊢
  have hA : ∀ q : Nat, s.heap.size ≤ q → A q := fun q h => by rw [← hAe]; exact Or.inr h
  have hS : va_S A s.heap s.heap [] := va_S.rf
  have hP : va_P (dC, dI) vwCl [] s.heap := hP
  have hl := lv_entry ([.int a0, .int a1, .int a2]) (n := 3) (Nat.le_of_ble_eq_true rfl)
  rw [lg_entry_eq]
  generalize (lg_sl ([.int a0, .int a1, .int a2]) ++ List.replicate (3 - (lg_sl ([.int a0, .int a1, .int a2])).length) Slot.unset).toArray = ls at hl ⊢
  have hl : lv_has ls 3 [(0, .int a0), (1, .int a1), (2, .int a2)] := hl
  unfold s_X7_in at h
  refine lv_iload_n hx hb dX7_in_0 rfl (lv_at hl 0 rfl) ?_
  refine lv_iload_n hx hb dX7_in_1 rfl (lv_at hl 1 rfl) ?_
  refine lv_icmp_lt (tgt := 14) hx hb dX7_in_2 (by decide) (fun c1 => ?_) (fun c1 => ?_)
  · have h := ipos c1 h
    refine lv_iconst (v := iI 0) hx hb dX7_in_14 rfl ?_
    obtain rfl := Option.some.inj h
    exact W.zret (v := iI 0) hx hb hr (by decide) (fun t ht hW => ⟨⟨iI 0, (), rfl, rfl, WLD.of ht hP hD⟩, hS.F ht⟩) hS.2.2 dX7_in_15
  · have h := ineg c1 h
    refine lv_iload_n hx hb dX7_in_5 rfl (lv_at hl 0 rfl) ?_
    refine lv_iload_n hx hb dX7_in_6 rfl (lv_at hl 2 rfl) ?_
    refine lv_icmp_gt (tgt := 14) hx hb dX7_in_7 (by decide) (fun c2 => ?_) (fun c2 => ?_)
    · have h := ipos c2 h
      refine lv_iconst (v := iI 0) hx hb dX7_in_14 rfl ?_
      obtain rfl := Option.some.inj h
      exact W.zret (v := iI 0) hx hb hr (by decide) (fun t ht hW => ⟨⟨iI 0, (), rfl, rfl, WLD.of ht hP hD⟩, hS.F ht⟩) hS.2.2 dX7_in_15
    · have h := ineg c2 h
      refine lv_iconst (v := iI 1) hx hb dX7_in_10 rfl ?_
      refine lv_goto (tgt := 15) hx hb dX7_in_11 (by decide) ?_
      obtain rfl := Option.some.inj h
      exact W.zret (v := iI 1) hx hb hr (by decide) (fun t ht hW => ⟨⟨iI 1, (), rfl, rfl, WLD.of ht hP hD⟩, hS.F ht⟩) hS.2.2 dX7_in_15
def s_X7_isWay (a0 : Int32) (a1 : Int32) : Option (Int32) := ((s_X7_in a0 (iI 0) (iI 8)).bind fun r1 => (if r1 = 0 then (some (iI 0)) else (if a1 ≤ a0 then (some (iI 0)) else (if iI 9 < a1 then (some (iI 0)) else (some (iI 1))))))
set_option maxHeartbeats 4000000 in
set_option maxRecDepth 100000 in
theorem c_X7_isWay (l : Launch) (dC : Nat → ClassId) (dI : Nat → Nat → Nat) (cyI cyJ cyT : ClassId)  (sz : Nat) (a0 : Int32) (a1 : Int32) (o : Int32) (h : s_X7_isWay a0 a1 = some o) : Met l yX7_isWay wsX7_isWay ({ frames := 1, cells := 0, slots := 0, locals := 22 }) (va_Pc [.int a0, .int a1] (PRE (dC, dI) (TYS cyI cyJ cyT) sz [])) (va_Qi (S := Unit) (fun r _ => r = o) (fun _ t => WLD (dC, dI) (va_A [] sz) [] t) (va_A [] sz)) 0 0 (va_A [] sz) := by
  refine Met.ofW (cc := cX7_isWay) (maxL := 2) (ret := (some .boolean)) (by decide) rfl ?_
  intro p e s m args below meth c s₁ B hml hv
  obtain ⟨rfl, hsz, hP, hK, hD0, hNW⟩ := hv
  have hx := B.exec
  have hb := B.bytes
  have hr := B.returns
  have hts := atoms_spec (ws := wsX7_isWay) B.pre
  have hown : s.vm.findClass RX7 = some m.cls := findClass_of_methodNamed B.named
  have hlocks := B.notSynchronized
  subst hsz
  have hD := hD0.self (sz := s.heap.size)
  generalize hAe : va_A [] s.heap.size = A at hD ⊢
  have hA : ∀ q : Nat, s.heap.size ≤ q → A q := fun q h => by rw [← hAe]; exact Or.inr h
  have hS : va_S A s.heap s.heap [] := va_S.rf
  have hP : va_P (dC, dI) vwCl [] s.heap := hP
  have hl := lv_entry ([.int a0, .int a1]) (n := 2) (Nat.le_of_ble_eq_true rfl)
  rw [lg_entry_eq]
  generalize (lg_sl ([.int a0, .int a1]) ++ List.replicate (2 - (lg_sl ([.int a0, .int a1])).length) Slot.unset).toArray = ls at hl ⊢
  have hl : lv_has ls 2 [(0, .int a0), (1, .int a1)] := hl
  unfold s_X7_isWay at h
  refine lv_iload_n hx hb dX7_isWay_0 rfl (lv_at hl 0 rfl) ?_
  refine lv_iconst (v := iI 0) hx hb dX7_isWay_1 rfl ?_
  refine lv_bipush (v := iI 8) hx hb dX7_isWay_2 (by decide) ?_
  obtain ⟨r1, e2, h⟩ := bsome h
  have hPc := sb_P [] hP [] rfl
  have hDc := sb_D [] hD [] (by decide) rfl
  have hFc := va_free (wc := []) hD hS hA [] rfl
  refine va_calli (va_runS (As := [.int a0, .int (iI 0), .int (iI 8)]) (rest := []) ⟨hx, hb, hml, hown, hts⟩ (c_X7_in l dC dI cyI cyJ cyT s.heap.size a0 (iI 0) (iI 8) r1 e2) (va_cwS 3 hts gX7_isWay_X7_in rfl rfl rfl (by decide +kernel) ⟨Nat.le_of_ble_eq_true rfl, Nat.le_of_ble_eq_true rfl⟩) ⟨PRE.blind, PRE.go hK hPc hDc hNW⟩ rfl rfl hl.1 rfl (lv_room (Nat.le_of_ble_eq_true rfl)) dX7_isWay_4 ⟨Nat.zero_le _, Nat.zero_le _⟩) hS (fun q _ h => hFc q h) hFc (fun z3 u t H locs ht hvm hw hB hz1 hk1 hS => ?_)
  subst z3
  obtain ⟨hP, hD⟩ := va_join (wr := []) (w1 := []) hP hD [] [] rfl rfl (by decide) (by decide) hk1 hFc (WLD.P hB ht) hB.2
  have hP : va_P (dC, dI) vwCl [] H := hP
  have hD : va_D A [] := hD
  refine lv_if_eq (tgt := 25) hx hb dX7_isWay_7 (by decide) (fun c4 => ?_) (fun c4 => ?_)
  · have h := ipos c4 h
    refine lv_iconst (v := iI 0) hx hb dX7_isWay_25 rfl ?_
    obtain rfl := Option.some.inj h
    exact W.zret (v := iI 0) hx hb hr (by decide) (fun t ht hW => ⟨⟨iI 0, (), rfl, rfl, WLD.of ht hP hD⟩, hS.F ht⟩) hS.2.2 dX7_isWay_26
  · have h := ineg c4 h
    refine lv_iload_n hx hb dX7_isWay_10 rfl (lv_at hl 1 rfl) ?_
    refine lv_iload_n hx hb dX7_isWay_11 rfl (lv_at hl 0 rfl) ?_
    refine lv_icmp_le (tgt := 25) hx hb dX7_isWay_12 (by decide) (fun c5 => ?_) (fun c5 => ?_)
    · have h := ipos c5 h
      refine lv_iconst (v := iI 0) hx hb dX7_isWay_25 rfl ?_
      obtain rfl := Option.some.inj h
      exact W.zret (v := iI 0) hx hb hr (by decide) (fun t ht hW => ⟨⟨iI 0, (), rfl, rfl, WLD.of ht hP hD⟩, hS.F ht⟩) hS.2.2 dX7_isWay_26
    · have h := ineg c5 h
      refine lv_iload_n hx hb dX7_isWay_15 rfl (lv_at hl 1 rfl) ?_
      refine lv_bipush (v := iI 9) hx hb dX7_isWay_16 (by decide) ?_
      refine lv_icmp_gt (tgt := 25) hx hb dX7_isWay_18 (by decide) (fun c6 => ?_) (fun c6 => ?_)
      · have h := ipos c6 h
        refine lv_iconst (v := iI 0) hx hb dX7_isWay_25 rfl ?_
        obtain rfl := Option.some.inj h
        exact W.zret (v := iI 0) hx hb hr (by decide) (fun t ht hW => ⟨⟨iI 0, (), rfl, rfl, WLD.of ht hP hD⟩, hS.F ht⟩) hS.2.2 dX7_isWay_26
      · have h := ineg c6 h
        refine lv_iconst (v := iI 1) hx hb dX7_isWay_21 rfl ?_
        refine lv_goto (tgt := 26) hx hb dX7_isWay_22 (by decide) ?_
        obtain rfl := Option.some.inj h
        exact W.zret (v := iI 1) hx hb hr (by decide) (fun t ht hW => ⟨⟨iI 1, (), rfl, rfl, WLD.of ht hP hD⟩, hS.F ht⟩) hS.2.2 dX7_isWay_26
def s_X7_holds (arr_0 : Nat → Int32) (a1 : Int32) (a2 : Int32) : Option (Int32) := (if gd ((iI 290 + (iI 9 * a1)) + a2) 452 = true then (some ((arr_0 ((iI 290 + (iI 9 * a1)) + a2).toNatClampNeg))) else none)
set_option maxHeartbeats 4000000 in
set_option maxRecDepth 100000 in
theorem c_X7_holds (l : Launch) (dC : Nat → ClassId) (dI : Nat → Nat → Nat) (cyI cyJ cyT : ClassId) (h_p0 : Nat) (sz : Nat) (arr_0 : Nat → Int32) (a1 : Int32) (a2 : Int32) (o : Int32) (h : s_X7_holds arr_0 a1 a2 = some o) : Met l yX7_holds wsX7_holds ({ frames := 0, cells := 0, slots := 0, locals := 0 }) (va_Pc [.ref h_p0, .int a1, .int a2] (PRE (dC, dI) (TYS cyI cyJ cyT) sz [(h_p0, .inl (cyI, 452, .inl arr_0))])) (va_Qi (S := Unit) (fun r _ => r = o) (fun _ t => WLD (dC, dI) (va_A [(h_p0, .inl (cyI, 452, .inl arr_0))] sz) [(h_p0, .inl (cyI, 452, .inl arr_0))] t) (va_A [(h_p0, .inl (cyI, 452, .inl arr_0))] sz)) 0 0 (va_A [(h_p0, .inl (cyI, 452, .inl arr_0))] sz) := by
  refine Met.ofW (cc := cX7_holds) (maxL := 3) (ret := (some .int)) (by decide) rfl ?_
  intro p e s m args below meth c s₁ B hml hv
  obtain ⟨rfl, hsz, hP, hK, hD0, hNW⟩ := hv
  have hx := B.exec
  have hb := B.bytes
  have hr := B.returns
  have hts := atoms_spec (ws := wsX7_holds) B.pre
  have hown : s.vm.findClass RX7 = some m.cls := findClass_of_methodNamed B.named
  have hlocks := B.notSynchronized
  subst hsz
  have hD := hD0.self (sz := s.heap.size)
  generalize hAe : va_A [(h_p0, .inl (cyI, 452, .inl arr_0))] s.heap.size = A at hD ⊢
  have hA : ∀ q : Nat, s.heap.size ≤ q → A q := fun q h => by rw [← hAe]; exact Or.inr h
  have hS : va_S A s.heap s.heap [] := va_S.rf
  have hP : va_P (dC, dI) vwCl [(h_p0, .inl (cyI, 452, .inl arr_0))] s.heap := hP
  have hl := lv_entry ([.ref h_p0, .int a1, .int a2]) (n := 3) (Nat.le_of_ble_eq_true rfl)
  rw [lg_entry_eq]
  generalize (lg_sl ([.ref h_p0, .int a1, .int a2]) ++ List.replicate (3 - (lg_sl ([.ref h_p0, .int a1, .int a2])).length) Slot.unset).toArray = ls at hl ⊢
  have hl : lv_has ls 3 [(0, .ref h_p0), (1, .int a1), (2, .int a2)] := hl
  unfold s_X7_holds at h
  refine lv_aload_n hx hb dX7_holds_0 rfl (lv_at hl 0 rfl) ?_
  refine lv_sipush (v := iI 290) hx hb dX7_holds_1 (by decide) ?_
  refine lv_bipush (v := iI 9) hx hb dX7_holds_4 (by decide) ?_
  refine lv_iload_n hx hb dX7_holds_6 rfl (lv_at hl 1 rfl) ?_
  refine lv_imul hx hb dX7_holds_7 ?_
  refine lv_iadd hx hb dX7_holds_8 ?_
  refine lv_iload_n hx hb dX7_holds_9 rfl (lv_at hl 2 rfl) ?_
  refine lv_iadd hx hb dX7_holds_10 ?_
  obtain ⟨g1, h⟩ := gsome h
  refine va_iald (D := (dC, dI)) hx hb hK hP 0 0 rfl rfl g1 dX7_holds_11 ?_
  obtain rfl := Option.some.inj h
  exact W.iret (v := (arr_0 ((iI 290 + (iI 9 * a1)) + a2).toNatClampNeg)) hx hb hr (fun t ht hW => ⟨⟨(arr_0 ((iI 290 + (iI 9 * a1)) + a2).toNatClampNeg), (), rfl, rfl, WLD.of ht hP hD⟩, hS.F ht⟩) hS.2.2 dX7_holds_12
def s_X7_of (arr_0 : Nat → Int32) (a1 : Int32) (a2 : Int32) : Option (Int32) := (if gd ((iI 10 + (iI 7 * a1)) + a2) 452 = true then (some ((arr_0 ((iI 10 + (iI 7 * a1)) + a2).toNatClampNeg))) else none)
set_option maxHeartbeats 4000000 in
set_option maxRecDepth 100000 in
theorem c_X7_of (l : Launch) (dC : Nat → ClassId) (dI : Nat → Nat → Nat) (cyI cyJ cyT : ClassId) (h_p0 : Nat) (sz : Nat) (arr_0 : Nat → Int32) (a1 : Int32) (a2 : Int32) (o : Int32) (h : s_X7_of arr_0 a1 a2 = some o) : Met l yX7_of wsX7_of ({ frames := 0, cells := 0, slots := 0, locals := 0 }) (va_Pc [.ref h_p0, .int a1, .int a2] (PRE (dC, dI) (TYS cyI cyJ cyT) sz [(h_p0, .inl (cyI, 452, .inl arr_0))])) (va_Qi (S := Unit) (fun r _ => r = o) (fun _ t => WLD (dC, dI) (va_A [(h_p0, .inl (cyI, 452, .inl arr_0))] sz) [(h_p0, .inl (cyI, 452, .inl arr_0))] t) (va_A [(h_p0, .inl (cyI, 452, .inl arr_0))] sz)) 0 0 (va_A [(h_p0, .inl (cyI, 452, .inl arr_0))] sz) := by
  refine Met.ofW (cc := cX7_of) (maxL := 3) (ret := (some .int)) (by decide) rfl ?_
  intro p e s m args below meth c s₁ B hml hv
  obtain ⟨rfl, hsz, hP, hK, hD0, hNW⟩ := hv
  have hx := B.exec
  have hb := B.bytes
  have hr := B.returns
  have hts := atoms_spec (ws := wsX7_of) B.pre
  have hown : s.vm.findClass RX7 = some m.cls := findClass_of_methodNamed B.named
  have hlocks := B.notSynchronized
  subst hsz
  have hD := hD0.self (sz := s.heap.size)
  generalize hAe : va_A [(h_p0, .inl (cyI, 452, .inl arr_0))] s.heap.size = A at hD ⊢
  have hA : ∀ q : Nat, s.heap.size ≤ q → A q := fun q h => by rw [← hAe]; exact Or.inr h
  have hS : va_S A s.heap s.heap [] := va_S.rf
  have hP : va_P (dC, dI) vwCl [(h_p0, .inl (cyI, 452, .inl arr_0))] s.heap := hP
  have hl := lv_entry ([.ref h_p0, .int a1, .int a2]) (n := 3) (Nat.le_of_ble_eq_true rfl)
  rw [lg_entry_eq]
  generalize (lg_sl ([.ref h_p0, .int a1, .int a2]) ++ List.replicate (3 - (lg_sl ([.ref h_p0, .int a1, .int a2])).length) Slot.unset).toArray = ls at hl ⊢
  have hl : lv_has ls 3 [(0, .ref h_p0), (1, .int a1), (2, .int a2)] := hl
  unfold s_X7_of at h
  refine lv_aload_n hx hb dX7_of_0 rfl (lv_at hl 0 rfl) ?_
  refine lv_bipush (v := iI 10) hx hb dX7_of_1 (by decide) ?_
  refine lv_bipush (v := iI 7) hx hb dX7_of_3 (by decide) ?_
  refine lv_iload_n hx hb dX7_of_5 rfl (lv_at hl 1 rfl) ?_
  refine lv_imul hx hb dX7_of_6 ?_
  refine lv_iadd hx hb dX7_of_7 ?_
  refine lv_iload_n hx hb dX7_of_8 rfl (lv_at hl 2 rfl) ?_
  refine lv_iadd hx hb dX7_of_9 ?_
  obtain ⟨g1, h⟩ := gsome h
  refine va_iald (D := (dC, dI)) hx hb hK hP 0 0 rfl rfl g1 dX7_of_10 ?_
  obtain rfl := Option.some.inj h
  exact W.iret (v := (arr_0 ((iI 10 + (iI 7 * a1)) + a2).toNatClampNeg)) hx hb hr (fun t ht hW => ⟨⟨(arr_0 ((iI 10 + (iI 7 * a1)) + a2).toNatClampNeg), (), rfl, rfl, WLD.of ht hP hD⟩, hS.F ht⟩) hS.2.2 dX7_of_11
def s_X7_copies_L3 (n : Nat) (vl_0 : Nat) (arr_0 : Nat → Int32) (vl_2 : Nat) (a1 : Int32) (a3 : Int32) : Nat → (Nat → Int32) → Int32 → Option ((Nat → Int32))
  | 0, _, _ => none
  | k + 1, arr_2, x4 => (if iI 452 ≤ x4 then (some (arr_2)) else (if gd (a1 + x4) vl_0 = true then (if gd (a3 + x4) vl_2 = true then (s_X7_copies_L3 n vl_0 arr_0 vl_2 a1 a3 k (upd arr_2 (a3 + x4).toNatClampNeg (arr_0 (a1 + x4).toNatClampNeg)) (x4 + iI 1)) else none) else none))
def s_X7_copies (n : Nat) (vl_0 : Nat) (arr_0 : Nat → Int32) (vl_2 : Nat) (arr_2 : Nat → Int32) (a1 : Int32) (a3 : Int32) : Option ((Nat → Int32)) := (s_X7_copies_L3 n vl_0 arr_0 vl_2 a1 a3 n arr_2 (iI 0))
set_option maxHeartbeats 4000000 in
set_option maxRecDepth 100000 in
theorem c_X7_copies (l : Launch) (dC : Nat → ClassId) (dI : Nat → Nat → Nat) (cyI cyJ cyT : ClassId) (h_p0 : Nat) (h_p2 : Nat) (sz : Nat) (vl_0 : Nat) (vl_2 : Nat) (arr_0 : Nat → Int32) (arr_2 : Nat → Int32) (a1 : Int32) (a3 : Int32) (n : Nat) (o : (Nat → Int32)) (h : s_X7_copies n vl_0 arr_0 vl_2 arr_2 a1 a3 = some o) : Met l yX7_copies wsX7_copies ({ frames := 0, cells := 0, slots := 0, locals := 0 }) (va_Pc [.ref h_p0, .int a1, .ref h_p2, .int a3] (PRE (dC, dI) (TYS cyI cyJ cyT) sz [(h_p0, .inl (cyI, vl_0, .inl arr_0)), (h_p2, .inl (cyI, vl_2, .inl arr_2))])) (va_Qv (S := Unit) (fun _ => True) (fun _ t => WLD (dC, dI) (va_A [(h_p0, .inl (cyI, vl_0, .inl arr_0)), (h_p2, .inl (cyI, vl_2, .inl arr_2))] sz) [(h_p0, .inl (cyI, vl_0, .inl arr_0)), (h_p2, .inl (cyI, vl_2, .inl o))] t) (va_A [(h_p0, .inl (cyI, vl_0, .inl arr_0)), (h_p2, .inl (cyI, vl_2, .inl arr_2))] sz)) 0 0 (va_A [(h_p0, .inl (cyI, vl_0, .inl arr_0)), (h_p2, .inl (cyI, vl_2, .inl arr_2))] sz) := by
  refine Met.ofW (cc := cX7_copies) (maxL := 5) (ret := none) (by decide) rfl ?_
  intro p e s m args below meth c s₁ B hml hv
  obtain ⟨rfl, hsz, hP, hK, hD0, hNW⟩ := hv
  have hx := B.exec
  have hb := B.bytes
  have hr := B.returns
  have hts := atoms_spec (ws := wsX7_copies) B.pre
  have hown : s.vm.findClass RX7 = some m.cls := findClass_of_methodNamed B.named
  have hlocks := B.notSynchronized
  subst hsz
  have hD := hD0.self (sz := s.heap.size)
  generalize hAe : va_A [(h_p0, .inl (cyI, vl_0, .inl arr_0)), (h_p2, .inl (cyI, vl_2, .inl arr_2))] s.heap.size = A at hD ⊢
  have hA : ∀ q : Nat, s.heap.size ≤ q → A q := fun q h => by rw [← hAe]; exact Or.inr h
  have hS : va_S A s.heap s.heap [] := va_S.rf
  have hP : va_P (dC, dI) vwCl [(h_p0, .inl (cyI, vl_0, .inl arr_0)), (h_p2, .inl (cyI, vl_2, .inl arr_2))] s.heap := hP
  have L3 : ∀ (k : Nat), (∀ (arr_2 : Nat → Int32) (x4 : Int32) (H : Heap) (locs : List Loc), va_P (dC, dI) vwCl [(h_p0, .inl (cyI, vl_0, .inl arr_0)), (h_p2, .inl (cyI, vl_2, .inl arr_2))] H → va_D A [(h_p0, .inl (cyI, vl_0, .inl arr_0)), (h_p2, .inl (cyI, vl_2, .inl arr_2))] → va_S A s.heap H locs → ∀ (ls : Array Slot), lv_has ls 5 [(0, .ref h_p0), (1, .int a1), (2, .ref h_p2), (3, .int a3), (4, .int x4)] →  s_X7_copies_L3 n vl_0 arr_0 vl_2 a1 a3 k arr_2 x4 = some o → W p l e (headSpec wsX7_copies ({ frames := 0, cells := 0, slots := 0, locals := 0 })).room s m (([.ref h_p0, .int a1, .ref h_p2, .int a3] : List Value).toArray) below meth c H locs 0 0 (MQ below (va_Qv (S := Unit) (fun _ => True) (fun _ t => WLD (dC, dI) A [(h_p0, .inl (cyI, vl_0, .inl arr_0)), (h_p2, .inl (cyI, vl_2, .inl o))] t) A) (([.ref h_p0, .int a1, .ref h_p2, .int a3] : List Value).toArray) s 0 0 A) (F0 m 3 ls [])) := by
    intro k
    induction k with
    | zero =>
      intro  arr_2 x4 H locs hP hD hS ls hl h
      rw [s_X7_copies_L3] at h
      cases h
    | succ k ih =>
      intro  arr_2 x4 H locs hP hD hS ls hl h
      rw [s_X7_copies_L3] at h
      refine lv_iload hx hb dX7_copies_3 (lv_at hl 4 rfl) ?_
      refine lv_sipush (v := iI 452) hx hb dX7_copies_5 (by decide) ?_
      refine lv_icmp_ge (tgt := 29) hx hb dX7_copies_8 (by decide) (fun c1 => ?_) (fun c1 => ?_)
      · have h := ipos c1 h
        obtain rfl := Option.some.inj h
        exact W.vret hx hb hr (fun t ht hW => ⟨⟨(), rfl, trivial, WLD.of ht hP hD⟩, hS.F ht⟩) hS.2.2 dX7_copies_29
      · have h := ineg c1 h
        refine lv_aload_n hx hb dX7_copies_11 rfl (lv_at hl 2 rfl) ?_
        refine lv_iload_n hx hb dX7_copies_12 rfl (lv_at hl 3 rfl) ?_
        refine lv_iload hx hb dX7_copies_13 (lv_at hl 4 rfl) ?_
        refine lv_iadd hx hb dX7_copies_15 ?_
        refine lv_aload_n hx hb dX7_copies_16 rfl (lv_at hl 0 rfl) ?_
        refine lv_iload_n hx hb dX7_copies_17 rfl (lv_at hl 1 rfl) ?_
        refine lv_iload hx hb dX7_copies_18 (lv_at hl 4 rfl) ?_
        refine lv_iadd hx hb dX7_copies_20 ?_
        obtain ⟨g2, h⟩ := gsome h
        refine va_iald (D := (dC, dI)) hx hb hK hP 0 0 rfl rfl g2 dX7_copies_21 ?_
        obtain ⟨g3, h⟩ := gsome h
        refine va_iast (D := (dC, dI)) hx hb hK hP hD hS 1 0 rfl rfl g3 dX7_copies_22 (fun H locs hP hD hS => ?_)
        have hP : va_P (dC, dI) vwCl [(h_p0, .inl (cyI, vl_0, .inl arr_0)), (h_p2, .inl (cyI, vl_2, .inl (upd arr_2 (a3 + x4).toNatClampNeg (arr_0 (a1 + x4).toNatClampNeg))))] H := hP
        have hD : va_D A [(h_p0, .inl (cyI, vl_0, .inl arr_0)), (h_p2, .inl (cyI, vl_2, .inl (upd arr_2 (a3 + x4).toNatClampNeg (arr_0 (a1 + x4).toNatClampNeg))))] := hD
        refine lv_iinc (v := (x4 + iI 1)) hx hb dX7_copies_23 hl (k := 4) rfl rfl (by decide) (rfl : _ = ([(4, .int (x4 + iI 1)), (0, .ref h_p0), (1, .int a1), (2, .ref h_p2), (3, .int a3)] : List (Nat × Value))) (fun ls hl => ?_)
        refine lv_goto (tgt := 3) hx hb dX7_copies_26 (by decide) ?_
        exact ih (upd arr_2 (a3 + x4).toNatClampNeg (arr_0 (a1 + x4).toNatClampNeg)) (x4 + iI 1) _ _ hP hD hS ls (lv_sub hl [1, 2, 3, 4, 0] rfl) h
  have hl := lv_entry ([.ref h_p0, .int a1, .ref h_p2, .int a3]) (n := 5) (Nat.le_of_ble_eq_true rfl)
  rw [lg_entry_eq]
  generalize (lg_sl ([.ref h_p0, .int a1, .ref h_p2, .int a3]) ++ List.replicate (5 - (lg_sl ([.ref h_p0, .int a1, .ref h_p2, .int a3])).length) Slot.unset).toArray = ls at hl ⊢
  have hl : lv_has ls 5 [(0, .ref h_p0), (1, .int a1), (2, .ref h_p2), (3, .int a3)] := hl
  unfold s_X7_copies at h
  refine lv_iconst (v := iI 0) hx hb dX7_copies_0 rfl ?_
  refine lv_istore hx hb dX7_copies_1 hl (by decide) (rfl : _ = ([(4, .int (iI 0)), (0, .ref h_p0), (1, .int a1), (2, .ref h_p2), (3, .int a3)] : List (Nat × Value))) (fun ls hl => ?_)
  exact L3 n arr_2 (iI 0) _ _ hP hD hS ls (lv_sub hl [1, 2, 3, 4, 0] rfl) h
def s_X7_saves_L11 (n : Nat) (v_now : Nat → Int32) : Nat → Int32 → (Nat → Int32) → Int32 → Option (Int32 × (Nat → Int32))
  | 0, _, _, _ => none
  | k + 1, v_kept, v_past, x1 => (if iI 2260 ≤ x1 then ((s_X7_copies n 452 v_now 2712 v_past (iI 0) (iI 452 * (v_kept - iI 1))).bind fun r2 => (some (((v_kept - iI 1) + iI 1), r2))) else (if gd (x1 + iI 452) 2712 = true then (if gd x1 2712 = true then (s_X7_saves_L11 n v_now k v_kept (upd v_past x1.toNatClampNeg (v_past (x1 + iI 452).toNatClampNeg)) (x1 + iI 1)) else none) else none))
def s_X7_saves (n : Nat) (v_kept : Int32) (v_now : Nat → Int32) (v_past : Nat → Int32) : Option (Int32 × (Nat → Int32)) := (if v_kept = iI 6 then (s_X7_saves_L11 n v_now n v_kept v_past (iI 0)) else ((s_X7_copies n 452 v_now 2712 v_past (iI 0) (iI 452 * v_kept)).bind fun r8 => (some ((v_kept + iI 1), r8))))
set_option maxRecDepth 20000 in
theorem m_X7_saves_0 : ∀ w ∈ u_ws RX7 TX7 15, w ∈ wsX7_saves := by decide +kernel
set_option maxRecDepth 20000 in
theorem m_X7_saves_1 : (.fieldLink RX7 33 "SleeperBerthsModel" "kept" "I" : Cond) ∈ wsX7_saves := by decide +kernel
set_option maxRecDepth 20000 in
theorem m_X7_saves_2 : (.fieldLink RX7 7 "SleeperBerthsModel" "now" "[I" : Cond) ∈ wsX7_saves := by decide +kernel
set_option maxRecDepth 20000 in
theorem m_X7_saves_3 : (.fieldLink RX7 16 "SleeperBerthsModel" "past" "[I" : Cond) ∈ wsX7_saves := by decide +kernel
set_option maxHeartbeats 4000000 in
set_option maxRecDepth 100000 in
theorem c_X7_saves (l : Launch) (dC : Nat → ClassId) (dI : Nat → Nat → Nat) (cyI cyJ cyT : ClassId) (h_p0 : Nat) (h_p0_now : Nat) (h_p0_then : Nat) (h_p0_past : Nat) (h_p0_text : Nat) (h_p0_told : Nat) (sz : Nat) (v_kept : Int32) (v_typed : Int32) (v_thrown : Int32) (v_at : Int32) (v_isFault : Int32) (v_tolds : Int32) (v_one : Int32) (v_other : Int32) (v_change : Int32) (v_woken : Int32) (v_now : Nat → Int32) (v_past : Nat → Int32) (n : Nat) (o : Int32 × (Nat → Int32)) (h : s_X7_saves n v_kept v_now v_past = some o) : Met l yX7_saves wsX7_saves ({ frames := 1, cells := 0, slots := 0, locals := 24 }) (va_Pc [.ref h_p0] (PRE (dC, dI) (TYS cyI cyJ cyT) sz [(h_p0, .inr (7, [.ref h_p0_now, .ref h_p0_then, .ref h_p0_past, .int v_kept, .ref h_p0_text, .int v_typed, .int v_thrown, .int v_at, .int v_isFault, .ref h_p0_told, .int v_tolds, .int v_one, .int v_other, .int v_change, .int v_woken])), (h_p0_now, .inl (cyI, 452, .inl v_now)), (h_p0_past, .inl (cyI, 2712, .inl v_past))])) (va_Qv (S := Unit) (fun _ => True) (fun _ t => WLD (dC, dI) (va_A [(h_p0, .inr (7, [.ref h_p0_now, .ref h_p0_then, .ref h_p0_past, .int v_kept, .ref h_p0_text, .int v_typed, .int v_thrown, .int v_at, .int v_isFault, .ref h_p0_told, .int v_tolds, .int v_one, .int v_other, .int v_change, .int v_woken])), (h_p0_now, .inl (cyI, 452, .inl v_now)), (h_p0_past, .inl (cyI, 2712, .inl v_past))] sz) [(h_p0, .inr (7, [.ref h_p0_now, .ref h_p0_then, .ref h_p0_past, .int o.1, .ref h_p0_text, .int v_typed, .int v_thrown, .int v_at, .int v_isFault, .ref h_p0_told, .int v_tolds, .int v_one, .int v_other, .int v_change, .int v_woken])), (h_p0_now, .inl (cyI, 452, .inl v_now)), (h_p0_past, .inl (cyI, 2712, .inl o.2))] t) (va_A [(h_p0, .inr (7, [.ref h_p0_now, .ref h_p0_then, .ref h_p0_past, .int v_kept, .ref h_p0_text, .int v_typed, .int v_thrown, .int v_at, .int v_isFault, .ref h_p0_told, .int v_tolds, .int v_one, .int v_other, .int v_change, .int v_woken])), (h_p0_now, .inl (cyI, 452, .inl v_now)), (h_p0_past, .inl (cyI, 2712, .inl v_past))] sz)) 0 0 (va_A [(h_p0, .inr (7, [.ref h_p0_now, .ref h_p0_then, .ref h_p0_past, .int v_kept, .ref h_p0_text, .int v_typed, .int v_thrown, .int v_at, .int v_isFault, .ref h_p0_told, .int v_tolds, .int v_one, .int v_other, .int v_change, .int v_woken])), (h_p0_now, .inl (cyI, 452, .inl v_now)), (h_p0_past, .inl (cyI, 2712, .inl v_past))] sz) := by
  refine Met.ofW (cc := cX7_saves) (maxL := 2) (ret := none) (by decide) rfl ?_
  intro p e s m args below meth c s₁ B hml hv
  obtain ⟨rfl, hsz, hP, hK, hD0, hNW⟩ := hv
  have hx := B.exec
  have hb := B.bytes
  have hr := B.returns
  have hts := atoms_spec (ws := wsX7_saves) B.pre
  have hown : s.vm.findClass RX7 = some m.cls := findClass_of_methodNamed B.named
  have hlocks := B.notSynchronized
  subst hsz
  have hD := hD0.self (sz := s.heap.size)
  generalize hAe : va_A [(h_p0, .inr (7, [.ref h_p0_now, .ref h_p0_then, .ref h_p0_past, .int v_kept, .ref h_p0_text, .int v_typed, .int v_thrown, .int v_at, .int v_isFault, .ref h_p0_told, .int v_tolds, .int v_one, .int v_other, .int v_change, .int v_woken])), (h_p0_now, .inl (cyI, 452, .inl v_now)), (h_p0_past, .inl (cyI, 2712, .inl v_past))] s.heap.size = A at hD ⊢
  have hA : ∀ q : Nat, s.heap.size ≤ q → A q := fun q h => by rw [← hAe]; exact Or.inr h
  have hS : va_S A s.heap s.heap [] := va_S.rf
  have hP : va_P (dC, dI) vwCl [(h_p0, .inr (7, [.ref h_p0_now, .ref h_p0_then, .ref h_p0_past, .int v_kept, .ref h_p0_text, .int v_typed, .int v_thrown, .int v_at, .int v_isFault, .ref h_p0_told, .int v_tolds, .int v_one, .int v_other, .int v_change, .int v_woken])), (h_p0_now, .inl (cyI, 452, .inl v_now)), (h_p0_past, .inl (cyI, 2712, .inl v_past))] s.heap := hP
  have L11 : ∀ (k : Nat), (∀ (v_kept : Int32) (v_past : Nat → Int32) (x1 : Int32) (H : Heap) (locs : List Loc), va_P (dC, dI) vwCl [(h_p0, .inr (7, [.ref h_p0_now, .ref h_p0_then, .ref h_p0_past, .int v_kept, .ref h_p0_text, .int v_typed, .int v_thrown, .int v_at, .int v_isFault, .ref h_p0_told, .int v_tolds, .int v_one, .int v_other, .int v_change, .int v_woken])), (h_p0_now, .inl (cyI, 452, .inl v_now)), (h_p0_past, .inl (cyI, 2712, .inl v_past))] H → va_D A [(h_p0, .inr (7, [.ref h_p0_now, .ref h_p0_then, .ref h_p0_past, .int v_kept, .ref h_p0_text, .int v_typed, .int v_thrown, .int v_at, .int v_isFault, .ref h_p0_told, .int v_tolds, .int v_one, .int v_other, .int v_change, .int v_woken])), (h_p0_now, .inl (cyI, 452, .inl v_now)), (h_p0_past, .inl (cyI, 2712, .inl v_past))] → va_S A s.heap H locs → ∀ (ls : Array Slot), lv_has ls 2 [(0, .ref h_p0), (1, .int x1)] →  s_X7_saves_L11 n v_now k v_kept v_past x1 = some o → W p l e (headSpec wsX7_saves ({ frames := 1, cells := 0, slots := 0, locals := 24 })).room s m (([.ref h_p0] : List Value).toArray) below meth c H locs 0 0 (MQ below (va_Qv (S := Unit) (fun _ => True) (fun _ t => WLD (dC, dI) A [(h_p0, .inr (7, [.ref h_p0_now, .ref h_p0_then, .ref h_p0_past, .int o.1, .ref h_p0_text, .int v_typed, .int v_thrown, .int v_at, .int v_isFault, .ref h_p0_told, .int v_tolds, .int v_one, .int v_other, .int v_change, .int v_woken])), (h_p0_now, .inl (cyI, 452, .inl v_now)), (h_p0_past, .inl (cyI, 2712, .inl o.2))] t) A) (([.ref h_p0] : List Value).toArray) s 0 0 A) (F0 m 11 ls [])) := by
    intro k
    induction k with
    | zero =>
      intro  v_kept v_past x1 H locs hP hD hS ls hl h
      rw [s_X7_saves_L11] at h
      cases h
    | succ k ih =>
      intro  v_kept v_past x1 H locs hP hD hS ls hl h
      rw [s_X7_saves_L11] at h
      refine lv_iload_n hx hb dX7_saves_11 rfl (lv_at hl 1 rfl) ?_
      refine lv_sipush (v := iI 2260) hx hb dX7_saves_12 (by decide) ?_
      refine lv_icmp_ge (tgt := 40) hx hb dX7_saves_15 (by decide) (fun c1 => ?_) (fun c1 => ?_)
      · have h := ipos c1 h
        refine lv_aload_n hx hb dX7_saves_40 rfl (lv_at hl 0 rfl) ?_
        refine lv_dup hx hb dX7_saves_41 rfl ?_
        refine va_get (D := (dC, dI)) (ci := 7) (v := .int v_kept) (C := RX7) (T := TX7) (N := 15) hx hb hts m_X7_saves_0 hown hK hP 0 rfl rfl 3 (by decide) (hts (.fieldLink RX7 33 "SleeperBerthsModel" "kept" "I") m_X7_saves_1) (fun _ h9 => h9) rfl dX7_saves_42 ?_
        refine lv_iconst (v := iI 1) hx hb dX7_saves_45 rfl ?_
        refine lv_isub hx hb dX7_saves_46 ?_
        refine va_put (D := (dC, dI)) (ci := 7) (v := .int (v_kept - iI 1)) (ty := .int) (C := RX7) (T := TX7) (N := 15) hx hb hts m_X7_saves_0 tyX7 tyX7_ok nmX7 hown hK hP hD hS 0 rfl rfl 3 (by decide) (hts (.fieldLink RX7 33 "SleeperBerthsModel" "kept" "I") m_X7_saves_1) (fun _ h9 => h9) rfl (by decide +kernel) rfl rfl (Nat.le_of_ble_eq_true rfl) dX7_saves_47 (fun H locs hP hD hS => ?_)
        have hP : va_P (dC, dI) vwCl [(h_p0, .inr (7, [.ref h_p0_now, .ref h_p0_then, .ref h_p0_past, .int (v_kept - iI 1), .ref h_p0_text, .int v_typed, .int v_thrown, .int v_at, .int v_isFault, .ref h_p0_told, .int v_tolds, .int v_one, .int v_other, .int v_change, .int v_woken])), (h_p0_now, .inl (cyI, 452, .inl v_now)), (h_p0_past, .inl (cyI, 2712, .inl v_past))] H := hP
        have hD : va_D A [(h_p0, .inr (7, [.ref h_p0_now, .ref h_p0_then, .ref h_p0_past, .int (v_kept - iI 1), .ref h_p0_text, .int v_typed, .int v_thrown, .int v_at, .int v_isFault, .ref h_p0_told, .int v_tolds, .int v_one, .int v_other, .int v_change, .int v_woken])), (h_p0_now, .inl (cyI, 452, .inl v_now)), (h_p0_past, .inl (cyI, 2712, .inl v_past))] := hD
        refine lv_aload_n hx hb dX7_saves_50 rfl (lv_at hl 0 rfl) ?_
        refine va_get (D := (dC, dI)) (ci := 7) (v := .ref h_p0_now) (C := RX7) (T := TX7) (N := 15) hx hb hts m_X7_saves_0 hown hK hP 0 rfl rfl 0 (by decide) (hts (.fieldLink RX7 7 "SleeperBerthsModel" "now" "[I") m_X7_saves_2) (fun _ h9 => h9) rfl dX7_saves_51 ?_
        refine lv_iconst (v := iI 0) hx hb dX7_saves_54 rfl ?_
        refine lv_aload_n hx hb dX7_saves_55 rfl (lv_at hl 0 rfl) ?_
        refine va_get (D := (dC, dI)) (ci := 7) (v := .ref h_p0_past) (C := RX7) (T := TX7) (N := 15) hx hb hts m_X7_saves_0 hown hK hP 0 rfl rfl 2 (by decide) (hts (.fieldLink RX7 16 "SleeperBerthsModel" "past" "[I") m_X7_saves_3) (fun _ h9 => h9) rfl dX7_saves_56 ?_
        refine lv_sipush (v := iI 452) hx hb dX7_saves_59 (by decide) ?_
        refine lv_aload_n hx hb dX7_saves_62 rfl (lv_at hl 0 rfl) ?_
        refine va_get (D := (dC, dI)) (ci := 7) (v := .int (v_kept - iI 1)) (C := RX7) (T := TX7) (N := 15) hx hb hts m_X7_saves_0 hown hK hP 0 rfl rfl 3 (by decide) (hts (.fieldLink RX7 33 "SleeperBerthsModel" "kept" "I") m_X7_saves_1) (fun _ h9 => h9) rfl dX7_saves_63 ?_
        refine lv_imul hx hb dX7_saves_66 ?_
        obtain ⟨r2, e3, h⟩ := bsome h
        have hPc := sb_P [(h_p0_now, .inl (cyI, 452, .inl v_now)), (h_p0_past, .inl (cyI, 2712, .inl v_past))] hP [1, 2] rfl
        have hDc := sb_D [(h_p0_now, .inl (cyI, 452, .inl v_now)), (h_p0_past, .inl (cyI, 2712, .inl v_past))] hD [1, 2] (by decide) rfl
        have hFc := va_free (wc := [(h_p0_now, .inl (cyI, 452, .inl v_now)), (h_p0_past, .inl (cyI, 2712, .inl v_past))]) hD hS hA [1, 2] rfl
        refine va_callv (va_runS (As := [.ref h_p0_now, .int (iI 0), .ref h_p0_past, .int (iI 452 * (v_kept - iI 1))]) (rest := []) ⟨hx, hb, hml, hown, hts⟩ (c_X7_copies l dC dI cyI cyJ cyT h_p0_now h_p0_past H.size 452 2712 v_now v_past (iI 0) (iI 452 * (v_kept - iI 1)) n r2 e3) (va_cwS 4 hts gX7_saves_X7_copies rfl rfl rfl (by decide +kernel) ⟨Nat.le_of_ble_eq_true rfl, Nat.le_of_ble_eq_true rfl⟩) ⟨PRE.blind, PRE.go hK hPc hDc hNW⟩ rfl rfl hl.1 rfl (lv_room (Nat.le_of_ble_eq_true rfl)) dX7_saves_67 ⟨Nat.zero_le _, Nat.zero_le _⟩) hS (fun q _ h => hFc q h) hFc (fun u t H locs ht hvm hw hB hz1 hk1 hS => ?_)
        obtain ⟨hP, hD⟩ := va_join (wr := [(h_p0, .inr (7, [.ref h_p0_now, .ref h_p0_then, .ref h_p0_past, .int (v_kept - iI 1), .ref h_p0_text, .int v_typed, .int v_thrown, .int v_at, .int v_isFault, .ref h_p0_told, .int v_tolds, .int v_one, .int v_other, .int v_change, .int v_woken]))]) (w1 := [(h_p0_now, .inl (cyI, 452, .inl v_now)), (h_p0_past, .inl (cyI, 2712, .inl r2))]) hP hD [1, 2] [0] rfl rfl (by decide) (by decide) hk1 hFc (WLD.P hB ht) hB.2
        have hP : va_P (dC, dI) vwCl [(h_p0, .inr (7, [.ref h_p0_now, .ref h_p0_then, .ref h_p0_past, .int (v_kept - iI 1), .ref h_p0_text, .int v_typed, .int v_thrown, .int v_at, .int v_isFault, .ref h_p0_told, .int v_tolds, .int v_one, .int v_other, .int v_change, .int v_woken])), (h_p0_now, .inl (cyI, 452, .inl v_now)), (h_p0_past, .inl (cyI, 2712, .inl r2))] H := hP
        have hD : va_D A [(h_p0, .inr (7, [.ref h_p0_now, .ref h_p0_then, .ref h_p0_past, .int (v_kept - iI 1), .ref h_p0_text, .int v_typed, .int v_thrown, .int v_at, .int v_isFault, .ref h_p0_told, .int v_tolds, .int v_one, .int v_other, .int v_change, .int v_woken])), (h_p0_now, .inl (cyI, 452, .inl v_now)), (h_p0_past, .inl (cyI, 2712, .inl r2))] := hD
        refine lv_aload_n hx hb dX7_saves_70 rfl (lv_at hl 0 rfl) ?_
        refine lv_dup hx hb dX7_saves_71 rfl ?_
        refine va_get (D := (dC, dI)) (ci := 7) (v := .int (v_kept - iI 1)) (C := RX7) (T := TX7) (N := 15) hx hb hts m_X7_saves_0 hown hK hP 0 rfl rfl 3 (by decide) (hts (.fieldLink RX7 33 "SleeperBerthsModel" "kept" "I") m_X7_saves_1) (fun _ h9 => h9) rfl dX7_saves_72 ?_
        refine lv_iconst (v := iI 1) hx hb dX7_saves_75 rfl ?_
        refine lv_iadd hx hb dX7_saves_76 ?_
        refine va_put (D := (dC, dI)) (ci := 7) (v := .int ((v_kept - iI 1) + iI 1)) (ty := .int) (C := RX7) (T := TX7) (N := 15) hx hb hts m_X7_saves_0 tyX7 tyX7_ok nmX7 hown hK hP hD hS 0 rfl rfl 3 (by decide) (hts (.fieldLink RX7 33 "SleeperBerthsModel" "kept" "I") m_X7_saves_1) (fun _ h9 => h9) rfl (by decide +kernel) rfl rfl (Nat.le_of_ble_eq_true rfl) dX7_saves_77 (fun H locs hP hD hS => ?_)
        have hP : va_P (dC, dI) vwCl [(h_p0, .inr (7, [.ref h_p0_now, .ref h_p0_then, .ref h_p0_past, .int ((v_kept - iI 1) + iI 1), .ref h_p0_text, .int v_typed, .int v_thrown, .int v_at, .int v_isFault, .ref h_p0_told, .int v_tolds, .int v_one, .int v_other, .int v_change, .int v_woken])), (h_p0_now, .inl (cyI, 452, .inl v_now)), (h_p0_past, .inl (cyI, 2712, .inl r2))] H := hP
        have hD : va_D A [(h_p0, .inr (7, [.ref h_p0_now, .ref h_p0_then, .ref h_p0_past, .int ((v_kept - iI 1) + iI 1), .ref h_p0_text, .int v_typed, .int v_thrown, .int v_at, .int v_isFault, .ref h_p0_told, .int v_tolds, .int v_one, .int v_other, .int v_change, .int v_woken])), (h_p0_now, .inl (cyI, 452, .inl v_now)), (h_p0_past, .inl (cyI, 2712, .inl r2))] := hD
        obtain rfl := Option.some.inj h
        exact W.vret hx hb hr (fun t ht hW => ⟨⟨(), rfl, trivial, WLD.of ht hP hD⟩, hS.F ht⟩) hS.2.2 dX7_saves_80
      · have h := ineg c1 h
        refine lv_aload_n hx hb dX7_saves_18 rfl (lv_at hl 0 rfl) ?_
        refine va_get (D := (dC, dI)) (ci := 7) (v := .ref h_p0_past) (C := RX7) (T := TX7) (N := 15) hx hb hts m_X7_saves_0 hown hK hP 0 rfl rfl 2 (by decide) (hts (.fieldLink RX7 16 "SleeperBerthsModel" "past" "[I") m_X7_saves_3) (fun _ h9 => h9) rfl dX7_saves_19 ?_
        refine lv_iload_n hx hb dX7_saves_22 rfl (lv_at hl 1 rfl) ?_
        refine lv_aload_n hx hb dX7_saves_23 rfl (lv_at hl 0 rfl) ?_
        refine va_get (D := (dC, dI)) (ci := 7) (v := .ref h_p0_past) (C := RX7) (T := TX7) (N := 15) hx hb hts m_X7_saves_0 hown hK hP 0 rfl rfl 2 (by decide) (hts (.fieldLink RX7 16 "SleeperBerthsModel" "past" "[I") m_X7_saves_3) (fun _ h9 => h9) rfl dX7_saves_24 ?_
        refine lv_iload_n hx hb dX7_saves_27 rfl (lv_at hl 1 rfl) ?_
        refine lv_sipush (v := iI 452) hx hb dX7_saves_28 (by decide) ?_
        refine lv_iadd hx hb dX7_saves_31 ?_
        obtain ⟨g5, h⟩ := gsome h
        refine va_iald (D := (dC, dI)) hx hb hK hP 2 0 rfl rfl g5 dX7_saves_32 ?_
        obtain ⟨g6, h⟩ := gsome h
        refine va_iast (D := (dC, dI)) hx hb hK hP hD hS 2 0 rfl rfl g6 dX7_saves_33 (fun H locs hP hD hS => ?_)
        have hP : va_P (dC, dI) vwCl [(h_p0, .inr (7, [.ref h_p0_now, .ref h_p0_then, .ref h_p0_past, .int v_kept, .ref h_p0_text, .int v_typed, .int v_thrown, .int v_at, .int v_isFault, .ref h_p0_told, .int v_tolds, .int v_one, .int v_other, .int v_change, .int v_woken])), (h_p0_now, .inl (cyI, 452, .inl v_now)), (h_p0_past, .inl (cyI, 2712, .inl (upd v_past x1.toNatClampNeg (v_past (x1 + iI 452).toNatClampNeg))))] H := hP
        have hD : va_D A [(h_p0, .inr (7, [.ref h_p0_now, .ref h_p0_then, .ref h_p0_past, .int v_kept, .ref h_p0_text, .int v_typed, .int v_thrown, .int v_at, .int v_isFault, .ref h_p0_told, .int v_tolds, .int v_one, .int v_other, .int v_change, .int v_woken])), (h_p0_now, .inl (cyI, 452, .inl v_now)), (h_p0_past, .inl (cyI, 2712, .inl (upd v_past x1.toNatClampNeg (v_past (x1 + iI 452).toNatClampNeg))))] := hD
        refine lv_iinc (v := (x1 + iI 1)) hx hb dX7_saves_34 hl (k := 1) rfl rfl (by decide) (rfl : _ = ([(1, .int (x1 + iI 1)), (0, .ref h_p0)] : List (Nat × Value))) (fun ls hl => ?_)
        refine lv_goto (tgt := 11) hx hb dX7_saves_37 (by decide) ?_
        exact ih v_kept (upd v_past x1.toNatClampNeg (v_past (x1 + iI 452).toNatClampNeg)) (x1 + iI 1) _ _ hP hD hS ls (lv_sub hl [1, 0] rfl) h
  have hl := lv_entry ([.ref h_p0]) (n := 2) (Nat.le_of_ble_eq_true rfl)
  rw [lg_entry_eq]
  generalize (lg_sl ([.ref h_p0]) ++ List.replicate (2 - (lg_sl ([.ref h_p0])).length) Slot.unset).toArray = ls at hl ⊢
  have hl : lv_has ls 2 [(0, .ref h_p0)] := hl
  unfold s_X7_saves at h
  refine lv_aload_n hx hb dX7_saves_0 rfl (lv_at hl 0 rfl) ?_
  refine va_get (D := (dC, dI)) (ci := 7) (v := .int v_kept) (C := RX7) (T := TX7) (N := 15) hx hb hts m_X7_saves_0 hown hK hP 0 rfl rfl 3 (by decide) (hts (.fieldLink RX7 33 "SleeperBerthsModel" "kept" "I") m_X7_saves_1) (fun _ h9 => h9) rfl dX7_saves_1 ?_
  refine lv_bipush (v := iI 6) hx hb dX7_saves_4 (by decide) ?_
  refine lv_icmp_ne (tgt := 50) hx hb dX7_saves_6 (by decide) (fun c7 => ?_) (fun c7 => ?_)
  · have h := ineg c7 h
    refine lv_aload_n hx hb dX7_saves_50 rfl (lv_at hl 0 rfl) ?_
    refine va_get (D := (dC, dI)) (ci := 7) (v := .ref h_p0_now) (C := RX7) (T := TX7) (N := 15) hx hb hts m_X7_saves_0 hown hK hP 0 rfl rfl 0 (by decide) (hts (.fieldLink RX7 7 "SleeperBerthsModel" "now" "[I") m_X7_saves_2) (fun _ h9 => h9) rfl dX7_saves_51 ?_
    refine lv_iconst (v := iI 0) hx hb dX7_saves_54 rfl ?_
    refine lv_aload_n hx hb dX7_saves_55 rfl (lv_at hl 0 rfl) ?_
    refine va_get (D := (dC, dI)) (ci := 7) (v := .ref h_p0_past) (C := RX7) (T := TX7) (N := 15) hx hb hts m_X7_saves_0 hown hK hP 0 rfl rfl 2 (by decide) (hts (.fieldLink RX7 16 "SleeperBerthsModel" "past" "[I") m_X7_saves_3) (fun _ h9 => h9) rfl dX7_saves_56 ?_
    refine lv_sipush (v := iI 452) hx hb dX7_saves_59 (by decide) ?_
    refine lv_aload_n hx hb dX7_saves_62 rfl (lv_at hl 0 rfl) ?_
    refine va_get (D := (dC, dI)) (ci := 7) (v := .int v_kept) (C := RX7) (T := TX7) (N := 15) hx hb hts m_X7_saves_0 hown hK hP 0 rfl rfl 3 (by decide) (hts (.fieldLink RX7 33 "SleeperBerthsModel" "kept" "I") m_X7_saves_1) (fun _ h9 => h9) rfl dX7_saves_63 ?_
    refine lv_imul hx hb dX7_saves_66 ?_
    obtain ⟨r8, e9, h⟩ := bsome h
    have hPc := sb_P [(h_p0_now, .inl (cyI, 452, .inl v_now)), (h_p0_past, .inl (cyI, 2712, .inl v_past))] hP [1, 2] rfl
    have hDc := sb_D [(h_p0_now, .inl (cyI, 452, .inl v_now)), (h_p0_past, .inl (cyI, 2712, .inl v_past))] hD [1, 2] (by decide) rfl
    have hFc := va_free (wc := [(h_p0_now, .inl (cyI, 452, .inl v_now)), (h_p0_past, .inl (cyI, 2712, .inl v_past))]) hD hS hA [1, 2] rfl
    refine va_callv (va_runS (As := [.ref h_p0_now, .int (iI 0), .ref h_p0_past, .int (iI 452 * v_kept)]) (rest := []) ⟨hx, hb, hml, hown, hts⟩ (c_X7_copies l dC dI cyI cyJ cyT h_p0_now h_p0_past s.heap.size 452 2712 v_now v_past (iI 0) (iI 452 * v_kept) n r8 e9) (va_cwS 4 hts gX7_saves_X7_copies rfl rfl rfl (by decide +kernel) ⟨Nat.le_of_ble_eq_true rfl, Nat.le_of_ble_eq_true rfl⟩) ⟨PRE.blind, PRE.go hK hPc hDc hNW⟩ rfl rfl hl.1 rfl (lv_room (Nat.le_of_ble_eq_true rfl)) dX7_saves_67 ⟨Nat.zero_le _, Nat.zero_le _⟩) hS (fun q _ h => hFc q h) hFc (fun u t H locs ht hvm hw hB hz1 hk1 hS => ?_)
    obtain ⟨hP, hD⟩ := va_join (wr := [(h_p0, .inr (7, [.ref h_p0_now, .ref h_p0_then, .ref h_p0_past, .int v_kept, .ref h_p0_text, .int v_typed, .int v_thrown, .int v_at, .int v_isFault, .ref h_p0_told, .int v_tolds, .int v_one, .int v_other, .int v_change, .int v_woken]))]) (w1 := [(h_p0_now, .inl (cyI, 452, .inl v_now)), (h_p0_past, .inl (cyI, 2712, .inl r8))]) hP hD [1, 2] [0] rfl rfl (by decide) (by decide) hk1 hFc (WLD.P hB ht) hB.2
    have hP : va_P (dC, dI) vwCl [(h_p0, .inr (7, [.ref h_p0_now, .ref h_p0_then, .ref h_p0_past, .int v_kept, .ref h_p0_text, .int v_typed, .int v_thrown, .int v_at, .int v_isFault, .ref h_p0_told, .int v_tolds, .int v_one, .int v_other, .int v_change, .int v_woken])), (h_p0_now, .inl (cyI, 452, .inl v_now)), (h_p0_past, .inl (cyI, 2712, .inl r8))] H := hP
    have hD : va_D A [(h_p0, .inr (7, [.ref h_p0_now, .ref h_p0_then, .ref h_p0_past, .int v_kept, .ref h_p0_text, .int v_typed, .int v_thrown, .int v_at, .int v_isFault, .ref h_p0_told, .int v_tolds, .int v_one, .int v_other, .int v_change, .int v_woken])), (h_p0_now, .inl (cyI, 452, .inl v_now)), (h_p0_past, .inl (cyI, 2712, .inl r8))] := hD
    refine lv_aload_n hx hb dX7_saves_70 rfl (lv_at hl 0 rfl) ?_
    refine lv_dup hx hb dX7_saves_71 rfl ?_
    refine va_get (D := (dC, dI)) (ci := 7) (v := .int v_kept) (C := RX7) (T := TX7) (N := 15) hx hb hts m_X7_saves_0 hown hK hP 0 rfl rfl 3 (by decide) (hts (.fieldLink RX7 33 "SleeperBerthsModel" "kept" "I") m_X7_saves_1) (fun _ h9 => h9) rfl dX7_saves_72 ?_
    refine lv_iconst (v := iI 1) hx hb dX7_saves_75 rfl ?_
    refine lv_iadd hx hb dX7_saves_76 ?_
    refine va_put (D := (dC, dI)) (ci := 7) (v := .int (v_kept + iI 1)) (ty := .int) (C := RX7) (T := TX7) (N := 15) hx hb hts m_X7_saves_0 tyX7 tyX7_ok nmX7 hown hK hP hD hS 0 rfl rfl 3 (by decide) (hts (.fieldLink RX7 33 "SleeperBerthsModel" "kept" "I") m_X7_saves_1) (fun _ h9 => h9) rfl (by decide +kernel) rfl rfl (Nat.le_of_ble_eq_true rfl) dX7_saves_77 (fun H locs hP hD hS => ?_)
    have hP : va_P (dC, dI) vwCl [(h_p0, .inr (7, [.ref h_p0_now, .ref h_p0_then, .ref h_p0_past, .int (v_kept + iI 1), .ref h_p0_text, .int v_typed, .int v_thrown, .int v_at, .int v_isFault, .ref h_p0_told, .int v_tolds, .int v_one, .int v_other, .int v_change, .int v_woken])), (h_p0_now, .inl (cyI, 452, .inl v_now)), (h_p0_past, .inl (cyI, 2712, .inl r8))] H := hP
    have hD : va_D A [(h_p0, .inr (7, [.ref h_p0_now, .ref h_p0_then, .ref h_p0_past, .int (v_kept + iI 1), .ref h_p0_text, .int v_typed, .int v_thrown, .int v_at, .int v_isFault, .ref h_p0_told, .int v_tolds, .int v_one, .int v_other, .int v_change, .int v_woken])), (h_p0_now, .inl (cyI, 452, .inl v_now)), (h_p0_past, .inl (cyI, 2712, .inl r8))] := hD
    obtain rfl := Option.some.inj h
    exact W.vret hx hb hr (fun t ht hW => ⟨⟨(), rfl, trivial, WLD.of ht hP hD⟩, hS.F ht⟩) hS.2.2 dX7_saves_80
  · have h := ipos c7 h
    refine lv_iconst (v := iI 0) hx hb dX7_saves_9 rfl ?_
    refine lv_istore_n hx hb dX7_saves_10 rfl hl (by decide) (rfl : _ = ([(1, .int (iI 0)), (0, .ref h_p0)] : List (Nat × Value))) (fun ls hl => ?_)
    exact L11 n v_kept v_past (iI 0) _ _ hP hD hS ls (lv_sub hl [1, 0] rfl) h
