def s_X5_findBerths (n : Nat) (v_ends : Nat → Int32) (v_holders : Nat → Int32) (v_settings : Nat → Int32) (a1 : Int32) (a2 : Int32) (a3 : Int32) : Option (Int32 × Int32 × Int32) := ((s_X0_calmest n v_ends v_holders a1 a2).bind fun r1 => (if r1 = iI (-1) then (if a3 = 0 then ((s_X5_calmestChange n v_ends v_holders v_settings a1 a2).bind fun r10 => (if r10 = iI (-1) then ((s_X2_init (iI (-1)) (iI (-1)) (iI (-1))).bind fun r25 => (some (r25.1, r25.2.1, r25.2.2))) else ((s_X0_calmest n v_ends v_holders a1 r10).bind fun r15 => ((s_X0_calmest n v_ends v_holders r10 a2).bind fun r18 => ((s_X2_init r15 r18 r10).bind fun r21 => (some (r21.1, r21.2.1, r21.2.2))))))) else ((s_X2_init r1 r1 (iI (-1))).bind fun r29 => (some (r29.1, r29.2.1, r29.2.2)))) else ((s_X2_init r1 r1 (iI (-1))).bind fun r6 => (some (r6.1, r6.2.1, r6.2.2)))))
set_option maxRecDepth 20000 in
theorem m_X5_findBerths_0 : ∀ w ∈ u_ws RX5 TX5 6, w ∈ wsX5_findBerths := by decide +kernel
set_option maxRecDepth 20000 in
theorem m_X5_findBerths_1 : (.fieldLink RX5 12 "SleeperBerths$Train" "berths" "LSleeperBerths$Berths;" : Cond) ∈ wsX5_findBerths := by decide +kernel
set_option maxRecDepth 20000 in
theorem m_X5_findBerths_2 : ∀ w ∈ u_ws RX2 TX2 3, w ∈ wsX5_findBerths := by decide +kernel
set_option maxRecDepth 20000 in
theorem m_X5_findBerths_3 : (.classLink RX5 58 RX2 : Cond) ∈ wsX5_findBerths := by decide +kernel
set_option maxRecDepth 20000 in
theorem m_X5_findBerths_4 : (.instantiable RX2 3 : Cond) ∈ wsX5_findBerths := by decide +kernel
set_option maxRecDepth 20000 in
theorem m_X5_findBerths_5 : (.initialized RX2 : Cond) ∈ wsX5_findBerths := by decide +kernel
set_option maxRecDepth 20000 in
theorem m_X5_findBerths_6 : (.methodLink RX5 60 yX2_init : Cond) ∈ wsX5_findBerths := by decide +kernel
set_option maxRecDepth 20000 in
theorem m_X5_findBerths_7 : (.instanceMethod yX2_init : Cond) ∈ wsX5_findBerths := by decide +kernel
set_option maxHeartbeats 4000000 in
set_option maxRecDepth 100000 in
theorem c_X5_findBerths (l : Launch) (dC : Nat → ClassId) (dI : Nat → Nat → Nat) (cyI cyJ cyT : ClassId) (h_p0 : Nat) (h_p0_berths : Nat) (h_p0_roster : Nat) (h_p0_settings : Nat) (h_p0_berths_holders : Nat) (h_p0_berths_ends : Nat) (sz : Nat) (v_nextNumber : Int32) (v_bookings : Int32) (v_leftOut : Int32) (v_ends : Nat → Int32) (v_holders : Nat → Int32) (v_settings : Nat → Int32) (a1 : Int32) (a2 : Int32) (a3 : Int32) (n : Nat) (o : Int32 × Int32 × Int32) (h : s_X5_findBerths n v_ends v_holders v_settings a1 a2 a3 = some o) : Met l yX5_findBerths wsX5_findBerths ({ frames := 4, cells := 3, slots := 9, locals := 101 }) (va_Pc [.ref h_p0, .int a1, .int a2, .int a3] (PRE (dC, dI) (TYS cyI cyJ cyT) sz [(h_p0, .inr (5, [.ref h_p0_berths, .ref h_p0_roster, .ref h_p0_settings, .int v_nextNumber, .int v_bookings, .int v_leftOut])), (h_p0_berths, .inr (0, [.ref h_p0_berths_holders, .ref h_p0_berths_ends])), (h_p0_berths_ends, .inl (cyI, 3, .inl v_ends)), (h_p0_berths_holders, .inl (cyI, 162, .inl v_holders)), (h_p0_settings, .inl (cyI, 3, .inl v_settings))])) (va_Qr (S := Unit) (fun _ => True) (fun _ ra t => WLD (dC, dI) (va_A [(h_p0, .inr (5, [.ref h_p0_berths, .ref h_p0_roster, .ref h_p0_settings, .int v_nextNumber, .int v_bookings, .int v_leftOut])), (h_p0_berths, .inr (0, [.ref h_p0_berths_holders, .ref h_p0_berths_ends])), (h_p0_berths_ends, .inl (cyI, 3, .inl v_ends)), (h_p0_berths_holders, .inl (cyI, 162, .inl v_holders)), (h_p0_settings, .inl (cyI, 3, .inl v_settings))] sz) [(h_p0, .inr (5, [.ref h_p0_berths, .ref h_p0_roster, .ref h_p0_settings, .int v_nextNumber, .int v_bookings, .int v_leftOut])), (h_p0_berths, .inr (0, [.ref h_p0_berths_holders, .ref h_p0_berths_ends])), (h_p0_berths_ends, .inl (cyI, 3, .inl v_ends)), (h_p0_berths_holders, .inl (cyI, 162, .inl v_holders)), (h_p0_settings, .inl (cyI, 3, .inl v_settings)), (ra, .inr (2, [.int o.1, .int o.2.1, .int o.2.2]))] t) (va_A [(h_p0, .inr (5, [.ref h_p0_berths, .ref h_p0_roster, .ref h_p0_settings, .int v_nextNumber, .int v_bookings, .int v_leftOut])), (h_p0_berths, .inr (0, [.ref h_p0_berths_holders, .ref h_p0_berths_ends])), (h_p0_berths_ends, .inl (cyI, 3, .inl v_ends)), (h_p0_berths_holders, .inl (cyI, 162, .inl v_holders)), (h_p0_settings, .inl (cyI, 3, .inl v_settings))] sz)) 3 9 (va_A [(h_p0, .inr (5, [.ref h_p0_berths, .ref h_p0_roster, .ref h_p0_settings, .int v_nextNumber, .int v_bookings, .int v_leftOut])), (h_p0_berths, .inr (0, [.ref h_p0_berths_holders, .ref h_p0_berths_ends])), (h_p0_berths_ends, .inl (cyI, 3, .inl v_ends)), (h_p0_berths_holders, .inl (cyI, 162, .inl v_holders)), (h_p0_settings, .inl (cyI, 3, .inl v_settings))] sz) := by
  refine Met.ofW (cc := cX5_findBerths) (maxL := 6) (ret := (some (.object "SleeperBerths$Offer"))) (by decide) rfl ?_
  intro p e s m args below meth c s₁ B hml hv
  obtain ⟨rfl, hsz, hP, hK, hD0, hNW⟩ := hv
  have hx := B.exec
  have hb := B.bytes
  have hr := B.returns
  have hts := atoms_spec (ws := wsX5_findBerths) B.pre
  have hown : s.vm.findClass RX5 = some m.cls := findClass_of_methodNamed B.named
  have hlocks := B.notSynchronized
  subst hsz
  have hD := hD0.self (sz := s.heap.size)
  generalize hAe : va_A [(h_p0, .inr (5, [.ref h_p0_berths, .ref h_p0_roster, .ref h_p0_settings, .int v_nextNumber, .int v_bookings, .int v_leftOut])), (h_p0_berths, .inr (0, [.ref h_p0_berths_holders, .ref h_p0_berths_ends])), (h_p0_berths_ends, .inl (cyI, 3, .inl v_ends)), (h_p0_berths_holders, .inl (cyI, 162, .inl v_holders)), (h_p0_settings, .inl (cyI, 3, .inl v_settings))] s.heap.size = A at hD ⊢
  have hA : ∀ q : Nat, s.heap.size ≤ q → A q := fun q h => by rw [← hAe]; exact Or.inr h
  have hS : va_S A s.heap s.heap [] := va_S.rf
  have hP : va_P (dC, dI) vwCl [(h_p0, .inr (5, [.ref h_p0_berths, .ref h_p0_roster, .ref h_p0_settings, .int v_nextNumber, .int v_bookings, .int v_leftOut])), (h_p0_berths, .inr (0, [.ref h_p0_berths_holders, .ref h_p0_berths_ends])), (h_p0_berths_ends, .inl (cyI, 3, .inl v_ends)), (h_p0_berths_holders, .inl (cyI, 162, .inl v_holders)), (h_p0_settings, .inl (cyI, 3, .inl v_settings))] s.heap := hP
  have hl := lv_entry ([.ref h_p0, .int a1, .int a2, .int a3]) (n := 6) (Nat.le_of_ble_eq_true rfl)
  rw [lg_entry_eq]
  generalize (lg_sl ([.ref h_p0, .int a1, .int a2, .int a3]) ++ List.replicate (6 - (lg_sl ([.ref h_p0, .int a1, .int a2, .int a3])).length) Slot.unset).toArray = ls at hl ⊢
  have hl : lv_has ls 6 [(0, .ref h_p0), (1, .int a1), (2, .int a2), (3, .int a3)] := hl
  unfold s_X5_findBerths at h
  refine lv_aload_n hx hb dX5_findBerths_0 rfl (lv_at hl 0 rfl) ?_
  refine va_get (D := (dC, dI)) (ci := 5) (v := .ref h_p0_berths) (C := RX5) (T := TX5) (N := 6) hx hb hts m_X5_findBerths_0 hown hK hP 0 rfl rfl 0 (by decide) (hts (.fieldLink RX5 12 "SleeperBerths$Train" "berths" "LSleeperBerths$Berths;") m_X5_findBerths_1) (fun _ h9 => h9) rfl dX5_findBerths_1 ?_
  refine lv_iload_n hx hb dX5_findBerths_4 rfl (lv_at hl 1 rfl) ?_
  refine lv_iload_n hx hb dX5_findBerths_5 rfl (lv_at hl 2 rfl) ?_
  obtain ⟨r1, e2, h⟩ := bsome h
  have hPc := sb_P [(h_p0_berths, .inr (0, [.ref h_p0_berths_holders, .ref h_p0_berths_ends])), (h_p0_berths_ends, .inl (cyI, 3, .inl v_ends)), (h_p0_berths_holders, .inl (cyI, 162, .inl v_holders))] hP [1, 2, 3] rfl
  have hDc := sb_D [(h_p0_berths, .inr (0, [.ref h_p0_berths_holders, .ref h_p0_berths_ends])), (h_p0_berths_ends, .inl (cyI, 3, .inl v_ends)), (h_p0_berths_holders, .inl (cyI, 162, .inl v_holders))] hD [1, 2, 3] (by decide) rfl
  have hFc := va_free (wc := [(h_p0_berths, .inr (0, [.ref h_p0_berths_holders, .ref h_p0_berths_ends])), (h_p0_berths_ends, .inl (cyI, 3, .inl v_ends)), (h_p0_berths_holders, .inl (cyI, 162, .inl v_holders))]) hD hS hA [1, 2, 3] rfl
  refine va_calli (va_runV (As := [.int a1, .int a2]) (rest := []) ⟨hx, hb, hml, hown, hts⟩ (c_X0_calmest l dC dI cyI cyJ cyT h_p0_berths h_p0_berths_holders h_p0_berths_ends s.heap.size v_ends v_holders a1 a2 n r1 e2) (cwV 2 hts gX5_findBerths_X0_calmest rfl rfl rfl (by decide +kernel) ⟨Nat.le_of_ble_eq_true rfl, Nat.le_of_ble_eq_true rfl⟩) ⟨PRE.blind, va_recv hK hPc (ci := 0) (q0 := 0) rfl rfl, PRE.go hK hPc hDc hNW⟩ rfl rfl hl.1 rfl (lv_room (Nat.le_of_ble_eq_true rfl)) dX5_findBerths_6 ⟨Nat.zero_le _, Nat.zero_le _⟩) hS (fun q _ h => hFc q h) hFc (fun z3 u t H locs ht hvm hw hB hz1 hk1 hS => ?_)
  subst z3
  obtain ⟨hP, hD⟩ := va_join (wr := [(h_p0, .inr (5, [.ref h_p0_berths, .ref h_p0_roster, .ref h_p0_settings, .int v_nextNumber, .int v_bookings, .int v_leftOut])), (h_p0_settings, .inl (cyI, 3, .inl v_settings))]) (w1 := [(h_p0_berths, .inr (0, [.ref h_p0_berths_holders, .ref h_p0_berths_ends])), (h_p0_berths_ends, .inl (cyI, 3, .inl v_ends)), (h_p0_berths_holders, .inl (cyI, 162, .inl v_holders))]) hP hD [1, 2, 3] [0, 4] rfl rfl (by decide) (by decide) hk1 hFc (WLD.P hB ht) hB.2
  have hP : va_P (dC, dI) vwCl [(h_p0, .inr (5, [.ref h_p0_berths, .ref h_p0_roster, .ref h_p0_settings, .int v_nextNumber, .int v_bookings, .int v_leftOut])), (h_p0_settings, .inl (cyI, 3, .inl v_settings)), (h_p0_berths, .inr (0, [.ref h_p0_berths_holders, .ref h_p0_berths_ends])), (h_p0_berths_ends, .inl (cyI, 3, .inl v_ends)), (h_p0_berths_holders, .inl (cyI, 162, .inl v_holders))] H := hP
  have hD : va_D A [(h_p0, .inr (5, [.ref h_p0_berths, .ref h_p0_roster, .ref h_p0_settings, .int v_nextNumber, .int v_bookings, .int v_leftOut])), (h_p0_settings, .inl (cyI, 3, .inl v_settings)), (h_p0_berths, .inr (0, [.ref h_p0_berths_holders, .ref h_p0_berths_ends])), (h_p0_berths_ends, .inl (cyI, 3, .inl v_ends)), (h_p0_berths_holders, .inl (cyI, 162, .inl v_holders))] := hD
  refine lv_istore hx hb dX5_findBerths_9 hl (by decide) (rfl : _ = ([(4, .int r1), (0, .ref h_p0), (1, .int a1), (2, .int a2), (3, .int a3)] : List (Nat × Value))) (fun ls hl => ?_)
  refine lv_iload hx hb dX5_findBerths_11 (lv_at hl 0 rfl) ?_
  refine lv_iconst (v := iI (-1)) hx hb dX5_findBerths_13 rfl ?_
  refine lv_icmp_ne (tgt := 21) hx hb dX5_findBerths_14 (by decide) (fun c4 => ?_) (fun c4 => ?_)
  · have h := ineg c4 h
    refine va_new (ci := 2) (fs := [.int 0, .int 0, .int 0]) (C := RX2) (T := TX2) (N := 3) hx hb hts m_X5_findBerths_2 tyX2 tyX2_ok hown (hts (.classLink RX5 58 RX2) m_X5_findBerths_3) (hts (.instantiable RX2 3) m_X5_findBerths_4) (hts (.initialized RX2) m_X5_findBerths_5) hK hP hD hS hA rfl (fun j hj => by rcases (show j = 0 ∨ j = 1 ∨ j = 2 by omega) with rfl | rfl | rfl <;> rfl) (Nat.le_of_ble_eq_true rfl) (Nat.le_of_ble_eq_true rfl) dX5_findBerths_21 (fun q5 H hP hD hS => ?_)
    have hP : va_P (dC, dI) vwCl [(h_p0, .inr (5, [.ref h_p0_berths, .ref h_p0_roster, .ref h_p0_settings, .int v_nextNumber, .int v_bookings, .int v_leftOut])), (h_p0_settings, .inl (cyI, 3, .inl v_settings)), (h_p0_berths, .inr (0, [.ref h_p0_berths_holders, .ref h_p0_berths_ends])), (h_p0_berths_ends, .inl (cyI, 3, .inl v_ends)), (h_p0_berths_holders, .inl (cyI, 162, .inl v_holders)), (q5, .inr (2, [.int 0, .int 0, .int 0]))] H := hP
    have hD : va_D A [(h_p0, .inr (5, [.ref h_p0_berths, .ref h_p0_roster, .ref h_p0_settings, .int v_nextNumber, .int v_bookings, .int v_leftOut])), (h_p0_settings, .inl (cyI, 3, .inl v_settings)), (h_p0_berths, .inr (0, [.ref h_p0_berths_holders, .ref h_p0_berths_ends])), (h_p0_berths_ends, .inl (cyI, 3, .inl v_ends)), (h_p0_berths_holders, .inl (cyI, 162, .inl v_holders)), (q5, .inr (2, [.int 0, .int 0, .int 0]))] := hD
    refine lv_dup hx hb dX5_findBerths_24 rfl ?_
    refine lv_iload hx hb dX5_findBerths_25 (lv_at hl 0 rfl) ?_
    refine lv_iload hx hb dX5_findBerths_27 (lv_at hl 0 rfl) ?_
    refine lv_iconst (v := iI (-1)) hx hb dX5_findBerths_29 rfl ?_
    obtain ⟨r6, e7, h⟩ := bsome h
    have hPc := sb_P [(q5, .inr (2, [.int 0, .int 0, .int 0]))] hP [5] rfl
    have hDc := sb_D [(q5, .inr (2, [.int 0, .int 0, .int 0]))] hD [5] (by decide) rfl
    have hFc := va_free (wc := [(q5, .inr (2, [.int 0, .int 0, .int 0]))]) hD hS hA [5] rfl
    refine va_callv (va_runI (As := [.int r1, .int r1, .int (iI (-1))]) (rest := [.ref q5]) ⟨hx, hb, hml, hown, hts⟩ (c_X2_init l dC dI cyI cyJ cyT q5 H.size r1 r1 (iI (-1)) r6 e7) (cwI 3 hts gX5_findBerths_X2_init rfl rfl rfl (hts (.initialized RX2) m_X5_findBerths_5) (hts (.methodLink RX5 60 yX2_init) m_X5_findBerths_6) (hts (.instanceMethod yX2_init) m_X5_findBerths_7) rfl (by decide +kernel) ⟨Nat.le_of_ble_eq_true rfl, Nat.le_of_ble_eq_true rfl⟩) ⟨PRE.blind, PRE.go hK hPc hDc hNW⟩ rfl rfl hl.1 rfl (lv_room (Nat.le_of_ble_eq_true rfl)) dX5_findBerths_30 ⟨(Nat.le_of_ble_eq_true rfl), (Nat.le_of_ble_eq_true rfl)⟩) hS (fun q _ h => hFc q h) hFc (fun u t H locs ht hvm hw hB hz1 hk1 hS => ?_)
    obtain ⟨hP, hD⟩ := va_join (wr := [(h_p0, .inr (5, [.ref h_p0_berths, .ref h_p0_roster, .ref h_p0_settings, .int v_nextNumber, .int v_bookings, .int v_leftOut])), (h_p0_settings, .inl (cyI, 3, .inl v_settings)), (h_p0_berths, .inr (0, [.ref h_p0_berths_holders, .ref h_p0_berths_ends])), (h_p0_berths_ends, .inl (cyI, 3, .inl v_ends)), (h_p0_berths_holders, .inl (cyI, 162, .inl v_holders))]) (w1 := [(q5, .inr (2, [.int r6.1, .int r6.2.1, .int r6.2.2]))]) hP hD [5] [0, 1, 2, 3, 4] rfl rfl (by decide) (by decide) hk1 hFc (WLD.P hB ht) hB.2
    have hP : va_P (dC, dI) vwCl [(h_p0, .inr (5, [.ref h_p0_berths, .ref h_p0_roster, .ref h_p0_settings, .int v_nextNumber, .int v_bookings, .int v_leftOut])), (h_p0_settings, .inl (cyI, 3, .inl v_settings)), (h_p0_berths, .inr (0, [.ref h_p0_berths_holders, .ref h_p0_berths_ends])), (h_p0_berths_ends, .inl (cyI, 3, .inl v_ends)), (h_p0_berths_holders, .inl (cyI, 162, .inl v_holders)), (q5, .inr (2, [.int r6.1, .int r6.2.1, .int r6.2.2]))] H := hP
    have hD : va_D A [(h_p0, .inr (5, [.ref h_p0_berths, .ref h_p0_roster, .ref h_p0_settings, .int v_nextNumber, .int v_bookings, .int v_leftOut])), (h_p0_settings, .inl (cyI, 3, .inl v_settings)), (h_p0_berths, .inr (0, [.ref h_p0_berths_holders, .ref h_p0_berths_ends])), (h_p0_berths_ends, .inl (cyI, 3, .inl v_ends)), (h_p0_berths_holders, .inl (cyI, 162, .inl v_holders)), (q5, .inr (2, [.int r6.1, .int r6.2.1, .int r6.2.2]))] := hD
    obtain rfl := Option.some.inj h
    refine W.widen (k := 3) (n := 9) (Nat.le_of_ble_eq_true rfl) (Nat.le_of_ble_eq_true rfl) ?_
    exact W.aret hx hb hr (Or.inl ⟨_, rfl⟩) (Or.inr ⟨_, rfl⟩) (fun t ht hW => ⟨⟨(), q5, rfl, trivial, WLD.of ht (sb_P [(h_p0, .inr (5, [.ref h_p0_berths, .ref h_p0_roster, .ref h_p0_settings, .int v_nextNumber, .int v_bookings, .int v_leftOut])), (h_p0_berths, .inr (0, [.ref h_p0_berths_holders, .ref h_p0_berths_ends])), (h_p0_berths_ends, .inl (cyI, 3, .inl v_ends)), (h_p0_berths_holders, .inl (cyI, 162, .inl v_holders)), (h_p0_settings, .inl (cyI, 3, .inl v_settings)), (q5, .inr (2, [.int r6.1, .int r6.2.1, .int r6.2.2]))] hP [0, 2, 3, 4, 1, 5] rfl) (sb_D [(h_p0, .inr (5, [.ref h_p0_berths, .ref h_p0_roster, .ref h_p0_settings, .int v_nextNumber, .int v_bookings, .int v_leftOut])), (h_p0_berths, .inr (0, [.ref h_p0_berths_holders, .ref h_p0_berths_ends])), (h_p0_berths_ends, .inl (cyI, 3, .inl v_ends)), (h_p0_berths_holders, .inl (cyI, 162, .inl v_holders)), (h_p0_settings, .inl (cyI, 3, .inl v_settings)), (q5, .inr (2, [.int r6.1, .int r6.2.1, .int r6.2.2]))] hD [0, 2, 3, 4, 1, 5] (by decide) rfl)⟩, hS.F ht⟩) hS.2.2 dX5_findBerths_33
  · have h := ipos c4 h
    refine lv_iload_n hx hb dX5_findBerths_17 rfl (lv_at hl 4 rfl) ?_
    refine lv_if_eq (tgt := 34) hx hb dX5_findBerths_18 (by decide) (fun c9 => ?_) (fun c9 => ?_)
    · have h := ipos c9 h
      refine lv_aload_n hx hb dX5_findBerths_34 rfl (lv_at hl 1 rfl) ?_
      refine lv_iload_n hx hb dX5_findBerths_35 rfl (lv_at hl 2 rfl) ?_
      refine lv_iload_n hx hb dX5_findBerths_36 rfl (lv_at hl 3 rfl) ?_
      obtain ⟨r10, e11, h⟩ := bsome h
      have hPc := sb_P [(h_p0, .inr (5, [.ref h_p0_berths, .ref h_p0_roster, .ref h_p0_settings, .int v_nextNumber, .int v_bookings, .int v_leftOut])), (h_p0_berths, .inr (0, [.ref h_p0_berths_holders, .ref h_p0_berths_ends])), (h_p0_berths_ends, .inl (cyI, 3, .inl v_ends)), (h_p0_berths_holders, .inl (cyI, 162, .inl v_holders)), (h_p0_settings, .inl (cyI, 3, .inl v_settings))] hP [0, 2, 3, 4, 1] rfl
      have hDc := sb_D [(h_p0, .inr (5, [.ref h_p0_berths, .ref h_p0_roster, .ref h_p0_settings, .int v_nextNumber, .int v_bookings, .int v_leftOut])), (h_p0_berths, .inr (0, [.ref h_p0_berths_holders, .ref h_p0_berths_ends])), (h_p0_berths_ends, .inl (cyI, 3, .inl v_ends)), (h_p0_berths_holders, .inl (cyI, 162, .inl v_holders)), (h_p0_settings, .inl (cyI, 3, .inl v_settings))] hD [0, 2, 3, 4, 1] (by decide) rfl
      have hFc := va_free (wc := [(h_p0, .inr (5, [.ref h_p0_berths, .ref h_p0_roster, .ref h_p0_settings, .int v_nextNumber, .int v_bookings, .int v_leftOut])), (h_p0_berths, .inr (0, [.ref h_p0_berths_holders, .ref h_p0_berths_ends])), (h_p0_berths_ends, .inl (cyI, 3, .inl v_ends)), (h_p0_berths_holders, .inl (cyI, 162, .inl v_holders)), (h_p0_settings, .inl (cyI, 3, .inl v_settings))]) hD hS hA [0, 2, 3, 4, 1] rfl
      refine va_calli (va_runV (As := [.int a1, .int a2]) (rest := []) ⟨hx, hb, hml, hown, hts⟩ (c_X5_calmestChange l dC dI cyI cyJ cyT h_p0 h_p0_berths h_p0_roster h_p0_settings h_p0_berths_holders h_p0_berths_ends H.size v_nextNumber v_bookings v_leftOut v_ends v_holders v_settings a1 a2 n r10 e11) (cwV 2 hts gX5_findBerths_X5_calmestChange rfl rfl rfl (by decide +kernel) ⟨Nat.le_of_ble_eq_true rfl, Nat.le_of_ble_eq_true rfl⟩) ⟨PRE.blind, va_recv hK hPc (ci := 5) (q0 := 0) rfl rfl, PRE.go hK hPc hDc hNW⟩ rfl rfl hl.1 rfl (lv_room (Nat.le_of_ble_eq_true rfl)) dX5_findBerths_37 ⟨Nat.zero_le _, Nat.zero_le _⟩) hS (fun q _ h => hFc q h) hFc (fun z12 u t H locs ht hvm hw hB hz1 hk1 hS => ?_)
      subst z12
      obtain ⟨hP, hD⟩ := va_join (wr := []) (w1 := [(h_p0, .inr (5, [.ref h_p0_berths, .ref h_p0_roster, .ref h_p0_settings, .int v_nextNumber, .int v_bookings, .int v_leftOut])), (h_p0_berths, .inr (0, [.ref h_p0_berths_holders, .ref h_p0_berths_ends])), (h_p0_berths_ends, .inl (cyI, 3, .inl v_ends)), (h_p0_berths_holders, .inl (cyI, 162, .inl v_holders)), (h_p0_settings, .inl (cyI, 3, .inl v_settings))]) hP hD [0, 2, 3, 4, 1] [] rfl rfl (by decide) (by decide) hk1 hFc (WLD.P hB ht) hB.2
      have hP : va_P (dC, dI) vwCl [(h_p0, .inr (5, [.ref h_p0_berths, .ref h_p0_roster, .ref h_p0_settings, .int v_nextNumber, .int v_bookings, .int v_leftOut])), (h_p0_berths, .inr (0, [.ref h_p0_berths_holders, .ref h_p0_berths_ends])), (h_p0_berths_ends, .inl (cyI, 3, .inl v_ends)), (h_p0_berths_holders, .inl (cyI, 162, .inl v_holders)), (h_p0_settings, .inl (cyI, 3, .inl v_settings))] H := hP
      have hD : va_D A [(h_p0, .inr (5, [.ref h_p0_berths, .ref h_p0_roster, .ref h_p0_settings, .int v_nextNumber, .int v_bookings, .int v_leftOut])), (h_p0_berths, .inr (0, [.ref h_p0_berths_holders, .ref h_p0_berths_ends])), (h_p0_berths_ends, .inl (cyI, 3, .inl v_ends)), (h_p0_berths_holders, .inl (cyI, 162, .inl v_holders)), (h_p0_settings, .inl (cyI, 3, .inl v_settings))] := hD
      refine lv_istore hx hb dX5_findBerths_40 hl (by decide) (rfl : _ = ([(5, .int r10), (4, .int r1), (0, .ref h_p0), (1, .int a1), (2, .int a2), (3, .int a3)] : List (Nat × Value))) (fun ls hl => ?_)
      refine lv_iload hx hb dX5_findBerths_42 (lv_at hl 0 rfl) ?_
      refine lv_iconst (v := iI (-1)) hx hb dX5_findBerths_44 rfl ?_
      refine lv_icmp_ne (tgt := 59) hx hb dX5_findBerths_45 (by decide) (fun c13 => ?_) (fun c13 => ?_)
      · have h := ineg c13 h
        refine va_new (ci := 2) (fs := [.int 0, .int 0, .int 0]) (C := RX2) (T := TX2) (N := 3) hx hb hts m_X5_findBerths_2 tyX2 tyX2_ok hown (hts (.classLink RX5 58 RX2) m_X5_findBerths_3) (hts (.instantiable RX2 3) m_X5_findBerths_4) (hts (.initialized RX2) m_X5_findBerths_5) hK hP hD hS hA rfl (fun j hj => by rcases (show j = 0 ∨ j = 1 ∨ j = 2 by omega) with rfl | rfl | rfl <;> rfl) (Nat.le_of_ble_eq_true rfl) (Nat.le_of_ble_eq_true rfl) dX5_findBerths_59 (fun q14 H hP hD hS => ?_)
        have hP : va_P (dC, dI) vwCl [(h_p0, .inr (5, [.ref h_p0_berths, .ref h_p0_roster, .ref h_p0_settings, .int v_nextNumber, .int v_bookings, .int v_leftOut])), (h_p0_berths, .inr (0, [.ref h_p0_berths_holders, .ref h_p0_berths_ends])), (h_p0_berths_ends, .inl (cyI, 3, .inl v_ends)), (h_p0_berths_holders, .inl (cyI, 162, .inl v_holders)), (h_p0_settings, .inl (cyI, 3, .inl v_settings)), (q14, .inr (2, [.int 0, .int 0, .int 0]))] H := hP
        have hD : va_D A [(h_p0, .inr (5, [.ref h_p0_berths, .ref h_p0_roster, .ref h_p0_settings, .int v_nextNumber, .int v_bookings, .int v_leftOut])), (h_p0_berths, .inr (0, [.ref h_p0_berths_holders, .ref h_p0_berths_ends])), (h_p0_berths_ends, .inl (cyI, 3, .inl v_ends)), (h_p0_berths_holders, .inl (cyI, 162, .inl v_holders)), (h_p0_settings, .inl (cyI, 3, .inl v_settings)), (q14, .inr (2, [.int 0, .int 0, .int 0]))] := hD
        refine lv_dup hx hb dX5_findBerths_62 rfl ?_
        refine lv_aload_n hx hb dX5_findBerths_63 rfl (lv_at hl 2 rfl) ?_
        refine va_get (D := (dC, dI)) (ci := 5) (v := .ref h_p0_berths) (C := RX5) (T := TX5) (N := 6) hx hb hts m_X5_findBerths_0 hown hK hP 0 rfl rfl 0 (by decide) (hts (.fieldLink RX5 12 "SleeperBerths$Train" "berths" "LSleeperBerths$Berths;") m_X5_findBerths_1) (fun _ h9 => h9) rfl dX5_findBerths_64 ?_
        refine lv_iload_n hx hb dX5_findBerths_67 rfl (lv_at hl 3 rfl) ?_
        refine lv_iload hx hb dX5_findBerths_68 (lv_at hl 0 rfl) ?_
        obtain ⟨r15, e16, h⟩ := bsome h
        have hPc := sb_P [(h_p0_berths, .inr (0, [.ref h_p0_berths_holders, .ref h_p0_berths_ends])), (h_p0_berths_ends, .inl (cyI, 3, .inl v_ends)), (h_p0_berths_holders, .inl (cyI, 162, .inl v_holders))] hP [1, 2, 3] rfl
        have hDc := sb_D [(h_p0_berths, .inr (0, [.ref h_p0_berths_holders, .ref h_p0_berths_ends])), (h_p0_berths_ends, .inl (cyI, 3, .inl v_ends)), (h_p0_berths_holders, .inl (cyI, 162, .inl v_holders))] hD [1, 2, 3] (by decide) rfl
        have hFc := va_free (wc := [(h_p0_berths, .inr (0, [.ref h_p0_berths_holders, .ref h_p0_berths_ends])), (h_p0_berths_ends, .inl (cyI, 3, .inl v_ends)), (h_p0_berths_holders, .inl (cyI, 162, .inl v_holders))]) hD hS hA [1, 2, 3] rfl
        refine va_calli (va_runV (As := [.int a1, .int r10]) (rest := [.ref q14, .ref q14]) ⟨hx, hb, hml, hown, hts⟩ (c_X0_calmest l dC dI cyI cyJ cyT h_p0_berths h_p0_berths_holders h_p0_berths_ends H.size v_ends v_holders a1 r10 n r15 e16) (cwV 2 hts gX5_findBerths_X0_calmest rfl rfl rfl (by decide +kernel) ⟨Nat.le_of_ble_eq_true rfl, Nat.le_of_ble_eq_true rfl⟩) ⟨PRE.blind, va_recv hK hPc (ci := 0) (q0 := 0) rfl rfl, PRE.go hK hPc hDc hNW⟩ rfl rfl hl.1 rfl (lv_room (Nat.le_of_ble_eq_true rfl)) dX5_findBerths_70 ⟨(Nat.le_of_ble_eq_true rfl), (Nat.le_of_ble_eq_true rfl)⟩) hS (fun q _ h => hFc q h) hFc (fun z17 u t H locs ht hvm hw hB hz1 hk1 hS => ?_)
        subst z17
        obtain ⟨hP, hD⟩ := va_join (wr := [(h_p0, .inr (5, [.ref h_p0_berths, .ref h_p0_roster, .ref h_p0_settings, .int v_nextNumber, .int v_bookings, .int v_leftOut])), (h_p0_settings, .inl (cyI, 3, .inl v_settings)), (q14, .inr (2, [.int 0, .int 0, .int 0]))]) (w1 := [(h_p0_berths, .inr (0, [.ref h_p0_berths_holders, .ref h_p0_berths_ends])), (h_p0_berths_ends, .inl (cyI, 3, .inl v_ends)), (h_p0_berths_holders, .inl (cyI, 162, .inl v_holders))]) hP hD [1, 2, 3] [0, 4, 5] rfl rfl (by decide) (by decide) hk1 hFc (WLD.P hB ht) hB.2
        have hP : va_P (dC, dI) vwCl [(h_p0, .inr (5, [.ref h_p0_berths, .ref h_p0_roster, .ref h_p0_settings, .int v_nextNumber, .int v_bookings, .int v_leftOut])), (h_p0_settings, .inl (cyI, 3, .inl v_settings)), (q14, .inr (2, [.int 0, .int 0, .int 0])), (h_p0_berths, .inr (0, [.ref h_p0_berths_holders, .ref h_p0_berths_ends])), (h_p0_berths_ends, .inl (cyI, 3, .inl v_ends)), (h_p0_berths_holders, .inl (cyI, 162, .inl v_holders))] H := hP
        have hD : va_D A [(h_p0, .inr (5, [.ref h_p0_berths, .ref h_p0_roster, .ref h_p0_settings, .int v_nextNumber, .int v_bookings, .int v_leftOut])), (h_p0_settings, .inl (cyI, 3, .inl v_settings)), (q14, .inr (2, [.int 0, .int 0, .int 0])), (h_p0_berths, .inr (0, [.ref h_p0_berths_holders, .ref h_p0_berths_ends])), (h_p0_berths_ends, .inl (cyI, 3, .inl v_ends)), (h_p0_berths_holders, .inl (cyI, 162, .inl v_holders))] := hD
        refine lv_aload_n hx hb dX5_findBerths_73 rfl (lv_at hl 2 rfl) ?_
        refine va_get (D := (dC, dI)) (ci := 5) (v := .ref h_p0_berths) (C := RX5) (T := TX5) (N := 6) hx hb hts m_X5_findBerths_0 hown hK hP 0 rfl rfl 0 (by decide) (hts (.fieldLink RX5 12 "SleeperBerths$Train" "berths" "LSleeperBerths$Berths;") m_X5_findBerths_1) (fun _ h9 => h9) rfl dX5_findBerths_74 ?_
        refine lv_iload hx hb dX5_findBerths_77 (lv_at hl 0 rfl) ?_
        refine lv_iload_n hx hb dX5_findBerths_79 rfl (lv_at hl 4 rfl) ?_
        obtain ⟨r18, e19, h⟩ := bsome h
        have hPc := sb_P [(h_p0_berths, .inr (0, [.ref h_p0_berths_holders, .ref h_p0_berths_ends])), (h_p0_berths_ends, .inl (cyI, 3, .inl v_ends)), (h_p0_berths_holders, .inl (cyI, 162, .inl v_holders))] hP [3, 4, 5] rfl
        have hDc := sb_D [(h_p0_berths, .inr (0, [.ref h_p0_berths_holders, .ref h_p0_berths_ends])), (h_p0_berths_ends, .inl (cyI, 3, .inl v_ends)), (h_p0_berths_holders, .inl (cyI, 162, .inl v_holders))] hD [3, 4, 5] (by decide) rfl
        have hFc := va_free (wc := [(h_p0_berths, .inr (0, [.ref h_p0_berths_holders, .ref h_p0_berths_ends])), (h_p0_berths_ends, .inl (cyI, 3, .inl v_ends)), (h_p0_berths_holders, .inl (cyI, 162, .inl v_holders))]) hD hS hA [3, 4, 5] rfl
        refine va_calli (va_runV (As := [.int r10, .int a2]) (rest := [.int r15, .ref q14, .ref q14]) ⟨hx, hb, hml, hown, hts⟩ (c_X0_calmest l dC dI cyI cyJ cyT h_p0_berths h_p0_berths_holders h_p0_berths_ends H.size v_ends v_holders r10 a2 n r18 e19) (cwV 2 hts gX5_findBerths_X0_calmest rfl rfl rfl (by decide +kernel) ⟨Nat.le_of_ble_eq_true rfl, Nat.le_of_ble_eq_true rfl⟩) ⟨PRE.blind, va_recv hK hPc (ci := 0) (q0 := 0) rfl rfl, PRE.go hK hPc hDc hNW⟩ rfl rfl hl.1 rfl (lv_room (Nat.le_of_ble_eq_true rfl)) dX5_findBerths_80 ⟨(Nat.le_of_ble_eq_true rfl), (Nat.le_of_ble_eq_true rfl)⟩) hS (fun q _ h => hFc q h) hFc (fun z20 u t H locs ht hvm hw hB hz1 hk1 hS => ?_)
        subst z20
        obtain ⟨hP, hD⟩ := va_join (wr := [(h_p0, .inr (5, [.ref h_p0_berths, .ref h_p0_roster, .ref h_p0_settings, .int v_nextNumber, .int v_bookings, .int v_leftOut])), (h_p0_settings, .inl (cyI, 3, .inl v_settings)), (q14, .inr (2, [.int 0, .int 0, .int 0]))]) (w1 := [(h_p0_berths, .inr (0, [.ref h_p0_berths_holders, .ref h_p0_berths_ends])), (h_p0_berths_ends, .inl (cyI, 3, .inl v_ends)), (h_p0_berths_holders, .inl (cyI, 162, .inl v_holders))]) hP hD [3, 4, 5] [0, 1, 2] rfl rfl (by decide) (by decide) hk1 hFc (WLD.P hB ht) hB.2
        have hP : va_P (dC, dI) vwCl [(h_p0, .inr (5, [.ref h_p0_berths, .ref h_p0_roster, .ref h_p0_settings, .int v_nextNumber, .int v_bookings, .int v_leftOut])), (h_p0_settings, .inl (cyI, 3, .inl v_settings)), (q14, .inr (2, [.int 0, .int 0, .int 0])), (h_p0_berths, .inr (0, [.ref h_p0_berths_holders, .ref h_p0_berths_ends])), (h_p0_berths_ends, .inl (cyI, 3, .inl v_ends)), (h_p0_berths_holders, .inl (cyI, 162, .inl v_holders))] H := hP
        have hD : va_D A [(h_p0, .inr (5, [.ref h_p0_berths, .ref h_p0_roster, .ref h_p0_settings, .int v_nextNumber, .int v_bookings, .int v_leftOut])), (h_p0_settings, .inl (cyI, 3, .inl v_settings)), (q14, .inr (2, [.int 0, .int 0, .int 0])), (h_p0_berths, .inr (0, [.ref h_p0_berths_holders, .ref h_p0_berths_ends])), (h_p0_berths_ends, .inl (cyI, 3, .inl v_ends)), (h_p0_berths_holders, .inl (cyI, 162, .inl v_holders))] := hD
        refine lv_iload hx hb dX5_findBerths_83 (lv_at hl 0 rfl) ?_
        obtain ⟨r21, e22, h⟩ := bsome h
        have hPc := sb_P [(q14, .inr (2, [.int 0, .int 0, .int 0]))] hP [2] rfl
        have hDc := sb_D [(q14, .inr (2, [.int 0, .int 0, .int 0]))] hD [2] (by decide) rfl
        have hFc := va_free (wc := [(q14, .inr (2, [.int 0, .int 0, .int 0]))]) hD hS hA [2] rfl
        refine va_callv (va_runI (As := [.int r15, .int r18, .int r10]) (rest := [.ref q14]) ⟨hx, hb, hml, hown, hts⟩ (c_X2_init l dC dI cyI cyJ cyT q14 H.size r15 r18 r10 r21 e22) (cwI 3 hts gX5_findBerths_X2_init rfl rfl rfl (hts (.initialized RX2) m_X5_findBerths_5) (hts (.methodLink RX5 60 yX2_init) m_X5_findBerths_6) (hts (.instanceMethod yX2_init) m_X5_findBerths_7) rfl (by decide +kernel) ⟨Nat.le_of_ble_eq_true rfl, Nat.le_of_ble_eq_true rfl⟩) ⟨PRE.blind, PRE.go hK hPc hDc hNW⟩ rfl rfl hl.1 rfl (lv_room (Nat.le_of_ble_eq_true rfl)) dX5_findBerths_85 ⟨(Nat.le_of_ble_eq_true rfl), (Nat.le_of_ble_eq_true rfl)⟩) hS (fun q _ h => hFc q h) hFc (fun u t H locs ht hvm hw hB hz1 hk1 hS => ?_)
        obtain ⟨hP, hD⟩ := va_join (wr := [(h_p0, .inr (5, [.ref h_p0_berths, .ref h_p0_roster, .ref h_p0_settings, .int v_nextNumber, .int v_bookings, .int v_leftOut])), (h_p0_settings, .inl (cyI, 3, .inl v_settings)), (h_p0_berths, .inr (0, [.ref h_p0_berths_holders, .ref h_p0_berths_ends])), (h_p0_berths_ends, .inl (cyI, 3, .inl v_ends)), (h_p0_berths_holders, .inl (cyI, 162, .inl v_holders))]) (w1 := [(q14, .inr (2, [.int r21.1, .int r21.2.1, .int r21.2.2]))]) hP hD [2] [0, 1, 3, 4, 5] rfl rfl (by decide) (by decide) hk1 hFc (WLD.P hB ht) hB.2
        have hP : va_P (dC, dI) vwCl [(h_p0, .inr (5, [.ref h_p0_berths, .ref h_p0_roster, .ref h_p0_settings, .int v_nextNumber, .int v_bookings, .int v_leftOut])), (h_p0_settings, .inl (cyI, 3, .inl v_settings)), (h_p0_berths, .inr (0, [.ref h_p0_berths_holders, .ref h_p0_berths_ends])), (h_p0_berths_ends, .inl (cyI, 3, .inl v_ends)), (h_p0_berths_holders, .inl (cyI, 162, .inl v_holders)), (q14, .inr (2, [.int r21.1, .int r21.2.1, .int r21.2.2]))] H := hP
        have hD : va_D A [(h_p0, .inr (5, [.ref h_p0_berths, .ref h_p0_roster, .ref h_p0_settings, .int v_nextNumber, .int v_bookings, .int v_leftOut])), (h_p0_settings, .inl (cyI, 3, .inl v_settings)), (h_p0_berths, .inr (0, [.ref h_p0_berths_holders, .ref h_p0_berths_ends])), (h_p0_berths_ends, .inl (cyI, 3, .inl v_ends)), (h_p0_berths_holders, .inl (cyI, 162, .inl v_holders)), (q14, .inr (2, [.int r21.1, .int r21.2.1, .int r21.2.2]))] := hD
        obtain rfl := Option.some.inj h
        refine W.widen (k := 3) (n := 9) (Nat.le_of_ble_eq_true rfl) (Nat.le_of_ble_eq_true rfl) ?_
        exact W.aret hx hb hr (Or.inl ⟨_, rfl⟩) (Or.inr ⟨_, rfl⟩) (fun t ht hW => ⟨⟨(), q14, rfl, trivial, WLD.of ht (sb_P [(h_p0, .inr (5, [.ref h_p0_berths, .ref h_p0_roster, .ref h_p0_settings, .int v_nextNumber, .int v_bookings, .int v_leftOut])), (h_p0_berths, .inr (0, [.ref h_p0_berths_holders, .ref h_p0_berths_ends])), (h_p0_berths_ends, .inl (cyI, 3, .inl v_ends)), (h_p0_berths_holders, .inl (cyI, 162, .inl v_holders)), (h_p0_settings, .inl (cyI, 3, .inl v_settings)), (q14, .inr (2, [.int r21.1, .int r21.2.1, .int r21.2.2]))] hP [0, 2, 3, 4, 1, 5] rfl) (sb_D [(h_p0, .inr (5, [.ref h_p0_berths, .ref h_p0_roster, .ref h_p0_settings, .int v_nextNumber, .int v_bookings, .int v_leftOut])), (h_p0_berths, .inr (0, [.ref h_p0_berths_holders, .ref h_p0_berths_ends])), (h_p0_berths_ends, .inl (cyI, 3, .inl v_ends)), (h_p0_berths_holders, .inl (cyI, 162, .inl v_holders)), (h_p0_settings, .inl (cyI, 3, .inl v_settings)), (q14, .inr (2, [.int r21.1, .int r21.2.1, .int r21.2.2]))] hD [0, 2, 3, 4, 1, 5] (by decide) rfl)⟩, hS.F ht⟩) hS.2.2 dX5_findBerths_88
      · have h := ipos c13 h
        refine va_new (ci := 2) (fs := [.int 0, .int 0, .int 0]) (C := RX2) (T := TX2) (N := 3) hx hb hts m_X5_findBerths_2 tyX2 tyX2_ok hown (hts (.classLink RX5 58 RX2) m_X5_findBerths_3) (hts (.instantiable RX2 3) m_X5_findBerths_4) (hts (.initialized RX2) m_X5_findBerths_5) hK hP hD hS hA rfl (fun j hj => by rcases (show j = 0 ∨ j = 1 ∨ j = 2 by omega) with rfl | rfl | rfl <;> rfl) (Nat.le_of_ble_eq_true rfl) (Nat.le_of_ble_eq_true rfl) dX5_findBerths_48 (fun q24 H hP hD hS => ?_)
        have hP : va_P (dC, dI) vwCl [(h_p0, .inr (5, [.ref h_p0_berths, .ref h_p0_roster, .ref h_p0_settings, .int v_nextNumber, .int v_bookings, .int v_leftOut])), (h_p0_berths, .inr (0, [.ref h_p0_berths_holders, .ref h_p0_berths_ends])), (h_p0_berths_ends, .inl (cyI, 3, .inl v_ends)), (h_p0_berths_holders, .inl (cyI, 162, .inl v_holders)), (h_p0_settings, .inl (cyI, 3, .inl v_settings)), (q24, .inr (2, [.int 0, .int 0, .int 0]))] H := hP
        have hD : va_D A [(h_p0, .inr (5, [.ref h_p0_berths, .ref h_p0_roster, .ref h_p0_settings, .int v_nextNumber, .int v_bookings, .int v_leftOut])), (h_p0_berths, .inr (0, [.ref h_p0_berths_holders, .ref h_p0_berths_ends])), (h_p0_berths_ends, .inl (cyI, 3, .inl v_ends)), (h_p0_berths_holders, .inl (cyI, 162, .inl v_holders)), (h_p0_settings, .inl (cyI, 3, .inl v_settings)), (q24, .inr (2, [.int 0, .int 0, .int 0]))] := hD
        refine lv_dup hx hb dX5_findBerths_51 rfl ?_
        refine lv_iconst (v := iI (-1)) hx hb dX5_findBerths_52 rfl ?_
        refine lv_iconst (v := iI (-1)) hx hb dX5_findBerths_53 rfl ?_
        refine lv_iconst (v := iI (-1)) hx hb dX5_findBerths_54 rfl ?_
        obtain ⟨r25, e26, h⟩ := bsome h
        have hPc := sb_P [(q24, .inr (2, [.int 0, .int 0, .int 0]))] hP [5] rfl
        have hDc := sb_D [(q24, .inr (2, [.int 0, .int 0, .int 0]))] hD [5] (by decide) rfl
        have hFc := va_free (wc := [(q24, .inr (2, [.int 0, .int 0, .int 0]))]) hD hS hA [5] rfl
        refine va_callv (va_runI (As := [.int (iI (-1)), .int (iI (-1)), .int (iI (-1))]) (rest := [.ref q24]) ⟨hx, hb, hml, hown, hts⟩ (c_X2_init l dC dI cyI cyJ cyT q24 H.size (iI (-1)) (iI (-1)) (iI (-1)) r25 e26) (cwI 3 hts gX5_findBerths_X2_init rfl rfl rfl (hts (.initialized RX2) m_X5_findBerths_5) (hts (.methodLink RX5 60 yX2_init) m_X5_findBerths_6) (hts (.instanceMethod yX2_init) m_X5_findBerths_7) rfl (by decide +kernel) ⟨Nat.le_of_ble_eq_true rfl, Nat.le_of_ble_eq_true rfl⟩) ⟨PRE.blind, PRE.go hK hPc hDc hNW⟩ rfl rfl hl.1 rfl (lv_room (Nat.le_of_ble_eq_true rfl)) dX5_findBerths_55 ⟨(Nat.le_of_ble_eq_true rfl), (Nat.le_of_ble_eq_true rfl)⟩) hS (fun q _ h => hFc q h) hFc (fun u t H locs ht hvm hw hB hz1 hk1 hS => ?_)
        obtain ⟨hP, hD⟩ := va_join (wr := [(h_p0, .inr (5, [.ref h_p0_berths, .ref h_p0_roster, .ref h_p0_settings, .int v_nextNumber, .int v_bookings, .int v_leftOut])), (h_p0_berths, .inr (0, [.ref h_p0_berths_holders, .ref h_p0_berths_ends])), (h_p0_berths_ends, .inl (cyI, 3, .inl v_ends)), (h_p0_berths_holders, .inl (cyI, 162, .inl v_holders)), (h_p0_settings, .inl (cyI, 3, .inl v_settings))]) (w1 := [(q24, .inr (2, [.int r25.1, .int r25.2.1, .int r25.2.2]))]) hP hD [5] [0, 1, 2, 3, 4] rfl rfl (by decide) (by decide) hk1 hFc (WLD.P hB ht) hB.2
        have hP : va_P (dC, dI) vwCl [(h_p0, .inr (5, [.ref h_p0_berths, .ref h_p0_roster, .ref h_p0_settings, .int v_nextNumber, .int v_bookings, .int v_leftOut])), (h_p0_berths, .inr (0, [.ref h_p0_berths_holders, .ref h_p0_berths_ends])), (h_p0_berths_ends, .inl (cyI, 3, .inl v_ends)), (h_p0_berths_holders, .inl (cyI, 162, .inl v_holders)), (h_p0_settings, .inl (cyI, 3, .inl v_settings)), (q24, .inr (2, [.int r25.1, .int r25.2.1, .int r25.2.2]))] H := hP
        have hD : va_D A [(h_p0, .inr (5, [.ref h_p0_berths, .ref h_p0_roster, .ref h_p0_settings, .int v_nextNumber, .int v_bookings, .int v_leftOut])), (h_p0_berths, .inr (0, [.ref h_p0_berths_holders, .ref h_p0_berths_ends])), (h_p0_berths_ends, .inl (cyI, 3, .inl v_ends)), (h_p0_berths_holders, .inl (cyI, 162, .inl v_holders)), (h_p0_settings, .inl (cyI, 3, .inl v_settings)), (q24, .inr (2, [.int r25.1, .int r25.2.1, .int r25.2.2]))] := hD
        obtain rfl := Option.some.inj h
        refine W.widen (k := 3) (n := 9) (Nat.le_of_ble_eq_true rfl) (Nat.le_of_ble_eq_true rfl) ?_
        exact W.aret hx hb hr (Or.inl ⟨_, rfl⟩) (Or.inr ⟨_, rfl⟩) (fun t ht hW => ⟨⟨(), q24, rfl, trivial, WLD.of ht hP hD⟩, hS.F ht⟩) hS.2.2 dX5_findBerths_58
    · have h := ineg c9 h
      refine va_new (ci := 2) (fs := [.int 0, .int 0, .int 0]) (C := RX2) (T := TX2) (N := 3) hx hb hts m_X5_findBerths_2 tyX2 tyX2_ok hown (hts (.classLink RX5 58 RX2) m_X5_findBerths_3) (hts (.instantiable RX2 3) m_X5_findBerths_4) (hts (.initialized RX2) m_X5_findBerths_5) hK hP hD hS hA rfl (fun j hj => by rcases (show j = 0 ∨ j = 1 ∨ j = 2 by omega) with rfl | rfl | rfl <;> rfl) (Nat.le_of_ble_eq_true rfl) (Nat.le_of_ble_eq_true rfl) dX5_findBerths_21 (fun q28 H hP hD hS => ?_)
      have hP : va_P (dC, dI) vwCl [(h_p0, .inr (5, [.ref h_p0_berths, .ref h_p0_roster, .ref h_p0_settings, .int v_nextNumber, .int v_bookings, .int v_leftOut])), (h_p0_settings, .inl (cyI, 3, .inl v_settings)), (h_p0_berths, .inr (0, [.ref h_p0_berths_holders, .ref h_p0_berths_ends])), (h_p0_berths_ends, .inl (cyI, 3, .inl v_ends)), (h_p0_berths_holders, .inl (cyI, 162, .inl v_holders)), (q28, .inr (2, [.int 0, .int 0, .int 0]))] H := hP
      have hD : va_D A [(h_p0, .inr (5, [.ref h_p0_berths, .ref h_p0_roster, .ref h_p0_settings, .int v_nextNumber, .int v_bookings, .int v_leftOut])), (h_p0_settings, .inl (cyI, 3, .inl v_settings)), (h_p0_berths, .inr (0, [.ref h_p0_berths_holders, .ref h_p0_berths_ends])), (h_p0_berths_ends, .inl (cyI, 3, .inl v_ends)), (h_p0_berths_holders, .inl (cyI, 162, .inl v_holders)), (q28, .inr (2, [.int 0, .int 0, .int 0]))] := hD
      refine lv_dup hx hb dX5_findBerths_24 rfl ?_
      refine lv_iload hx hb dX5_findBerths_25 (lv_at hl 0 rfl) ?_
      refine lv_iload hx hb dX5_findBerths_27 (lv_at hl 0 rfl) ?_
      refine lv_iconst (v := iI (-1)) hx hb dX5_findBerths_29 rfl ?_
      obtain ⟨r29, e30, h⟩ := bsome h
      have hPc := sb_P [(q28, .inr (2, [.int 0, .int 0, .int 0]))] hP [5] rfl
      have hDc := sb_D [(q28, .inr (2, [.int 0, .int 0, .int 0]))] hD [5] (by decide) rfl
      have hFc := va_free (wc := [(q28, .inr (2, [.int 0, .int 0, .int 0]))]) hD hS hA [5] rfl
      refine va_callv (va_runI (As := [.int r1, .int r1, .int (iI (-1))]) (rest := [.ref q28]) ⟨hx, hb, hml, hown, hts⟩ (c_X2_init l dC dI cyI cyJ cyT q28 H.size r1 r1 (iI (-1)) r29 e30) (cwI 3 hts gX5_findBerths_X2_init rfl rfl rfl (hts (.initialized RX2) m_X5_findBerths_5) (hts (.methodLink RX5 60 yX2_init) m_X5_findBerths_6) (hts (.instanceMethod yX2_init) m_X5_findBerths_7) rfl (by decide +kernel) ⟨Nat.le_of_ble_eq_true rfl, Nat.le_of_ble_eq_true rfl⟩) ⟨PRE.blind, PRE.go hK hPc hDc hNW⟩ rfl rfl hl.1 rfl (lv_room (Nat.le_of_ble_eq_true rfl)) dX5_findBerths_30 ⟨(Nat.le_of_ble_eq_true rfl), (Nat.le_of_ble_eq_true rfl)⟩) hS (fun q _ h => hFc q h) hFc (fun u t H locs ht hvm hw hB hz1 hk1 hS => ?_)
      obtain ⟨hP, hD⟩ := va_join (wr := [(h_p0, .inr (5, [.ref h_p0_berths, .ref h_p0_roster, .ref h_p0_settings, .int v_nextNumber, .int v_bookings, .int v_leftOut])), (h_p0_settings, .inl (cyI, 3, .inl v_settings)), (h_p0_berths, .inr (0, [.ref h_p0_berths_holders, .ref h_p0_berths_ends])), (h_p0_berths_ends, .inl (cyI, 3, .inl v_ends)), (h_p0_berths_holders, .inl (cyI, 162, .inl v_holders))]) (w1 := [(q28, .inr (2, [.int r29.1, .int r29.2.1, .int r29.2.2]))]) hP hD [5] [0, 1, 2, 3, 4] rfl rfl (by decide) (by decide) hk1 hFc (WLD.P hB ht) hB.2
      have hP : va_P (dC, dI) vwCl [(h_p0, .inr (5, [.ref h_p0_berths, .ref h_p0_roster, .ref h_p0_settings, .int v_nextNumber, .int v_bookings, .int v_leftOut])), (h_p0_settings, .inl (cyI, 3, .inl v_settings)), (h_p0_berths, .inr (0, [.ref h_p0_berths_holders, .ref h_p0_berths_ends])), (h_p0_berths_ends, .inl (cyI, 3, .inl v_ends)), (h_p0_berths_holders, .inl (cyI, 162, .inl v_holders)), (q28, .inr (2, [.int r29.1, .int r29.2.1, .int r29.2.2]))] H := hP
      have hD : va_D A [(h_p0, .inr (5, [.ref h_p0_berths, .ref h_p0_roster, .ref h_p0_settings, .int v_nextNumber, .int v_bookings, .int v_leftOut])), (h_p0_settings, .inl (cyI, 3, .inl v_settings)), (h_p0_berths, .inr (0, [.ref h_p0_berths_holders, .ref h_p0_berths_ends])), (h_p0_berths_ends, .inl (cyI, 3, .inl v_ends)), (h_p0_berths_holders, .inl (cyI, 162, .inl v_holders)), (q28, .inr (2, [.int r29.1, .int r29.2.1, .int r29.2.2]))] := hD
      obtain rfl := Option.some.inj h
      refine W.widen (k := 3) (n := 9) (Nat.le_of_ble_eq_true rfl) (Nat.le_of_ble_eq_true rfl) ?_
      exact W.aret hx hb hr (Or.inl ⟨_, rfl⟩) (Or.inr ⟨_, rfl⟩) (fun t ht hW => ⟨⟨(), q28, rfl, trivial, WLD.of ht (sb_P [(h_p0, .inr (5, [.ref h_p0_berths, .ref h_p0_roster, .ref h_p0_settings, .int v_nextNumber, .int v_bookings, .int v_leftOut])), (h_p0_berths, .inr (0, [.ref h_p0_berths_holders, .ref h_p0_berths_ends])), (h_p0_berths_ends, .inl (cyI, 3, .inl v_ends)), (h_p0_berths_holders, .inl (cyI, 162, .inl v_holders)), (h_p0_settings, .inl (cyI, 3, .inl v_settings)), (q28, .inr (2, [.int r29.1, .int r29.2.1, .int r29.2.2]))] hP [0, 2, 3, 4, 1, 5] rfl) (sb_D [(h_p0, .inr (5, [.ref h_p0_berths, .ref h_p0_roster, .ref h_p0_settings, .int v_nextNumber, .int v_bookings, .int v_leftOut])), (h_p0_berths, .inr (0, [.ref h_p0_berths_holders, .ref h_p0_berths_ends])), (h_p0_berths_ends, .inl (cyI, 3, .inl v_ends)), (h_p0_berths_holders, .inl (cyI, 162, .inl v_holders)), (h_p0_settings, .inl (cyI, 3, .inl v_settings)), (q28, .inr (2, [.int r29.1, .int r29.2.1, .int r29.2.2]))] hD [0, 2, 3, 4, 1, 5] (by decide) rfl)⟩, hS.F ht⟩) hS.2.2 dX5_findBerths_33
def s_X3_isFull (v_size : Int32) : Option (Int32) := (if v_size < iI 40 then (some (iI 0)) else (some (iI 1)))
set_option maxRecDepth 20000 in
theorem m_X3_isFull_0 : ∀ w ∈ u_ws RX3 TX3 2, w ∈ wsX3_isFull := by decide +kernel
set_option maxRecDepth 20000 in
theorem m_X3_isFull_1 : (.fieldLink RX3 19 "SleeperBerths$Roster" "size" "I" : Cond) ∈ wsX3_isFull := by decide +kernel
set_option maxHeartbeats 4000000 in
set_option maxRecDepth 100000 in
theorem c_X3_isFull (l : Launch) (dC : Nat → ClassId) (dI : Nat → Nat → Nat) (cyI cyJ cyT : ClassId) (h_p0 : Nat) (h_p0_cells : Nat) (sz : Nat) (v_size : Int32) (o : Int32) (h : s_X3_isFull v_size = some o) : Met l yX3_isFull wsX3_isFull ({ frames := 0, cells := 0, slots := 0, locals := 0 }) (va_Pc [.ref h_p0] (PRE (dC, dI) (TYS cyI cyJ cyT) sz [(h_p0, .inr (3, [.ref h_p0_cells, .int v_size]))])) (va_Qi (S := Unit) (fun r _ => r = o) (fun _ t => WLD (dC, dI) (va_A [(h_p0, .inr (3, [.ref h_p0_cells, .int v_size]))] sz) [(h_p0, .inr (3, [.ref h_p0_cells, .int v_size]))] t) (va_A [(h_p0, .inr (3, [.ref h_p0_cells, .int v_size]))] sz)) 0 0 (va_A [(h_p0, .inr (3, [.ref h_p0_cells, .int v_size]))] sz) := by
  refine Met.ofW (cc := cX3_isFull) (maxL := 1) (ret := (some .boolean)) (by decide) rfl ?_
  intro p e s m args below meth c s₁ B hml hv
  obtain ⟨rfl, hsz, hP, hK, hD0, hNW⟩ := hv
  have hx := B.exec
  have hb := B.bytes
  have hr := B.returns
  have hts := atoms_spec (ws := wsX3_isFull) B.pre
  have hown : s.vm.findClass RX3 = some m.cls := findClass_of_methodNamed B.named
  have hlocks := B.notSynchronized
  subst hsz
  have hD := hD0.self (sz := s.heap.size)
  generalize hAe : va_A [(h_p0, .inr (3, [.ref h_p0_cells, .int v_size]))] s.heap.size = A at hD ⊢
  have hA : ∀ q : Nat, s.heap.size ≤ q → A q := fun q h => by rw [← hAe]; exact Or.inr h
  have hS : va_S A s.heap s.heap [] := va_S.rf
  have hP : va_P (dC, dI) vwCl [(h_p0, .inr (3, [.ref h_p0_cells, .int v_size]))] s.heap := hP
  have hl := lv_entry ([.ref h_p0]) (n := 1) (Nat.le_of_ble_eq_true rfl)
  rw [lg_entry_eq]
  generalize (lg_sl ([.ref h_p0]) ++ List.replicate (1 - (lg_sl ([.ref h_p0])).length) Slot.unset).toArray = ls at hl ⊢
  have hl : lv_has ls 1 [(0, .ref h_p0)] := hl
  unfold s_X3_isFull at h
  refine lv_aload_n hx hb dX3_isFull_0 rfl (lv_at hl 0 rfl) ?_
  refine va_get (D := (dC, dI)) (ci := 3) (v := .int v_size) (C := RX3) (T := TX3) (N := 2) hx hb hts m_X3_isFull_0 hown hK hP 0 rfl rfl 1 (by decide) (hts (.fieldLink RX3 19 "SleeperBerths$Roster" "size" "I") m_X3_isFull_1) (fun _ h9 => h9) rfl dX3_isFull_1 ?_
  refine lv_bipush (v := iI 40) hx hb dX3_isFull_4 (by decide) ?_
  refine lv_icmp_lt (tgt := 13) hx hb dX3_isFull_6 (by decide) (fun c1 => ?_) (fun c1 => ?_)
  · have h := ipos c1 h
    refine lv_iconst (v := iI 0) hx hb dX3_isFull_13 rfl ?_
    obtain rfl := Option.some.inj h
    exact W.zret (v := iI 0) hx hb hr (by decide) (fun t ht hW => ⟨⟨iI 0, (), rfl, rfl, WLD.of ht hP hD⟩, hS.F ht⟩) hS.2.2 dX3_isFull_14
  · have h := ineg c1 h
    refine lv_iconst (v := iI 1) hx hb dX3_isFull_9 rfl ?_
    refine lv_goto (tgt := 14) hx hb dX3_isFull_10 (by decide) ?_
    obtain rfl := Option.some.inj h
    exact W.zret (v := iI 1) hx hb hr (by decide) (fun t ht hW => ⟨⟨iI 1, (), rfl, rfl, WLD.of ht hP hD⟩, hS.F ht⟩) hS.2.2 dX3_isFull_14
def s_X2_isRefused (v_first : Int32) : Option (Int32) := (if v_first = iI (-1) then (some (iI 1)) else (some (iI 0)))
set_option maxRecDepth 20000 in
theorem m_X2_isRefused_0 : ∀ w ∈ u_ws RX2 TX2 3, w ∈ wsX2_isRefused := by decide +kernel
set_option maxRecDepth 20000 in
theorem m_X2_isRefused_1 : (.fieldLink RX2 9 "SleeperBerths$Offer" "first" "I" : Cond) ∈ wsX2_isRefused := by decide +kernel
set_option maxHeartbeats 4000000 in
set_option maxRecDepth 100000 in
theorem c_X2_isRefused (l : Launch) (dC : Nat → ClassId) (dI : Nat → Nat → Nat) (cyI cyJ cyT : ClassId) (h_p0 : Nat) (sz : Nat) (v_first : Int32) (v_last : Int32) (v_changeAt : Int32) (o : Int32) (h : s_X2_isRefused v_first = some o) : Met l yX2_isRefused wsX2_isRefused ({ frames := 0, cells := 0, slots := 0, locals := 0 }) (va_Pc [.ref h_p0] (PRE (dC, dI) (TYS cyI cyJ cyT) sz [(h_p0, .inr (2, [.int v_first, .int v_last, .int v_changeAt]))])) (va_Qi (S := Unit) (fun r _ => r = o) (fun _ t => WLD (dC, dI) (va_A [(h_p0, .inr (2, [.int v_first, .int v_last, .int v_changeAt]))] sz) [(h_p0, .inr (2, [.int v_first, .int v_last, .int v_changeAt]))] t) (va_A [(h_p0, .inr (2, [.int v_first, .int v_last, .int v_changeAt]))] sz)) 0 0 (va_A [(h_p0, .inr (2, [.int v_first, .int v_last, .int v_changeAt]))] sz) := by
  refine Met.ofW (cc := cX2_isRefused) (maxL := 1) (ret := (some .boolean)) (by decide) rfl ?_
  intro p e s m args below meth c s₁ B hml hv
  obtain ⟨rfl, hsz, hP, hK, hD0, hNW⟩ := hv
  have hx := B.exec
  have hb := B.bytes
  have hr := B.returns
  have hts := atoms_spec (ws := wsX2_isRefused) B.pre
  have hown : s.vm.findClass RX2 = some m.cls := findClass_of_methodNamed B.named
  have hlocks := B.notSynchronized
  subst hsz
  have hD := hD0.self (sz := s.heap.size)
  generalize hAe : va_A [(h_p0, .inr (2, [.int v_first, .int v_last, .int v_changeAt]))] s.heap.size = A at hD ⊢
  have hA : ∀ q : Nat, s.heap.size ≤ q → A q := fun q h => by rw [← hAe]; exact Or.inr h
  have hS : va_S A s.heap s.heap [] := va_S.rf
  have hP : va_P (dC, dI) vwCl [(h_p0, .inr (2, [.int v_first, .int v_last, .int v_changeAt]))] s.heap := hP
  have hl := lv_entry ([.ref h_p0]) (n := 1) (Nat.le_of_ble_eq_true rfl)
  rw [lg_entry_eq]
  generalize (lg_sl ([.ref h_p0]) ++ List.replicate (1 - (lg_sl ([.ref h_p0])).length) Slot.unset).toArray = ls at hl ⊢
  have hl : lv_has ls 1 [(0, .ref h_p0)] := hl
  unfold s_X2_isRefused at h
  refine lv_aload_n hx hb dX2_isRefused_0 rfl (lv_at hl 0 rfl) ?_
  refine va_get (D := (dC, dI)) (ci := 2) (v := .int v_first) (C := RX2) (T := TX2) (N := 3) hx hb hts m_X2_isRefused_0 hown hK hP 0 rfl rfl 0 (by decide) (hts (.fieldLink RX2 9 "SleeperBerths$Offer" "first" "I") m_X2_isRefused_1) (fun _ h9 => h9) rfl dX2_isRefused_1 ?_
  refine lv_iconst (v := iI (-1)) hx hb dX2_isRefused_4 rfl ?_
  refine lv_icmp_ne (tgt := 12) hx hb dX2_isRefused_5 (by decide) (fun c1 => ?_) (fun c1 => ?_)
  · have h := ineg c1 h
    refine lv_iconst (v := iI 0) hx hb dX2_isRefused_12 rfl ?_
    obtain rfl := Option.some.inj h
    exact W.zret (v := iI 0) hx hb hr (by decide) (fun t ht hW => ⟨⟨iI 0, (), rfl, rfl, WLD.of ht hP hD⟩, hS.F ht⟩) hS.2.2 dX2_isRefused_13
  · have h := ipos c1 h
    refine lv_iconst (v := iI 1) hx hb dX2_isRefused_8 rfl ?_
    refine lv_goto (tgt := 13) hx hb dX2_isRefused_9 (by decide) ?_
    obtain rfl := Option.some.inj h
    exact W.zret (v := iI 1) hx hb hr (by decide) (fun t ht hW => ⟨⟨iI 1, (), rfl, rfl, WLD.of ht hP hD⟩, hS.F ht⟩) hS.2.2 dX2_isRefused_13
def s_X6_write (vl_0 : Nat) (arr_0 : Nat → Int32) (a1 : Int32) (a2 : Int32) : Option ((Nat → Int32)) := (if a1 < 0 then (some (arr_0)) else (if (nI vl_0) ≤ a1 then (some (arr_0)) else (if gd a1 vl_0 = true then (some ((upd arr_0 a1.toNatClampNeg a2))) else none)))
set_option maxHeartbeats 4000000 in
set_option maxRecDepth 100000 in
theorem c_X6_write (l : Launch) (dC : Nat → ClassId) (dI : Nat → Nat → Nat) (cyI cyJ cyT : ClassId) (h_p0 : Nat) (sz : Nat) (vl_0 : Nat) (arr_0 : Nat → Int32) (a1 : Int32) (a2 : Int32) (o : (Nat → Int32)) (h : s_X6_write vl_0 arr_0 a1 a2 = some o) : Met l yX6_write wsX6_write ({ frames := 0, cells := 0, slots := 0, locals := 0 }) (va_Pc [.ref h_p0, .int a1, .int a2] (PRE (dC, dI) (TYS cyI cyJ cyT) sz [(h_p0, .inl (cyI, vl_0, .inl arr_0))])) (va_Qv (S := Unit) (fun _ => True) (fun _ t => WLD (dC, dI) (va_A [(h_p0, .inl (cyI, vl_0, .inl arr_0))] sz) [(h_p0, .inl (cyI, vl_0, .inl o))] t) (va_A [(h_p0, .inl (cyI, vl_0, .inl arr_0))] sz)) 0 0 (va_A [(h_p0, .inl (cyI, vl_0, .inl arr_0))] sz) := by
  refine Met.ofW (cc := cX6_write) (maxL := 3) (ret := none) (by decide) rfl ?_
  intro p e s m args below meth c s₁ B hml hv
  obtain ⟨rfl, hsz, hP, hK, hD0, hNW⟩ := hv
  have hx := B.exec
  have hb := B.bytes
  have hr := B.returns
  have hts := atoms_spec (ws := wsX6_write) B.pre
  have hown : s.vm.findClass RX6 = some m.cls := findClass_of_methodNamed B.named
  have hlocks := B.notSynchronized
  subst hsz
  have hD := hD0.self (sz := s.heap.size)
  generalize hAe : va_A [(h_p0, .inl (cyI, vl_0, .inl arr_0))] s.heap.size = A at hD ⊢
  have hA : ∀ q : Nat, s.heap.size ≤ q → A q := fun q h => by rw [← hAe]; exact Or.inr h
  have hS : va_S A s.heap s.heap [] := va_S.rf
  have hP : va_P (dC, dI) vwCl [(h_p0, .inl (cyI, vl_0, .inl arr_0))] s.heap := hP
  have hl := lv_entry ([.ref h_p0, .int a1, .int a2]) (n := 3) (Nat.le_of_ble_eq_true rfl)
  rw [lg_entry_eq]
  generalize (lg_sl ([.ref h_p0, .int a1, .int a2]) ++ List.replicate (3 - (lg_sl ([.ref h_p0, .int a1, .int a2])).length) Slot.unset).toArray = ls at hl ⊢
  have hl : lv_has ls 3 [(0, .ref h_p0), (1, .int a1), (2, .int a2)] := hl
  unfold s_X6_write at h
  refine lv_iload_n hx hb dX6_write_0 rfl (lv_at hl 1 rfl) ?_
  refine lv_if_lt (tgt := 14) hx hb dX6_write_1 (by decide) (fun c1 => ?_) (fun c1 => ?_)
  · have h := ipos c1 h
    obtain rfl := Option.some.inj h
    exact W.vret hx hb hr (fun t ht hW => ⟨⟨(), rfl, trivial, WLD.of ht hP hD⟩, hS.F ht⟩) hS.2.2 dX6_write_14
  · have h := ineg c1 h
    refine lv_iload_n hx hb dX6_write_4 rfl (lv_at hl 1 rfl) ?_
    refine lv_aload_n hx hb dX6_write_5 rfl (lv_at hl 0 rfl) ?_
    refine va_alen (D := (dC, dI)) (v := (nI vl_0)) hx hb hK hP 0 0 rfl rfl rfl dX6_write_6 ?_
    refine lv_icmp_ge (tgt := 14) hx hb dX6_write_7 (by decide) (fun c2 => ?_) (fun c2 => ?_)
    · have h := ipos c2 h
      obtain rfl := Option.some.inj h
      exact W.vret hx hb hr (fun t ht hW => ⟨⟨(), rfl, trivial, WLD.of ht hP hD⟩, hS.F ht⟩) hS.2.2 dX6_write_14
    · have h := ineg c2 h
      refine lv_aload_n hx hb dX6_write_10 rfl (lv_at hl 0 rfl) ?_
      refine lv_iload_n hx hb dX6_write_11 rfl (lv_at hl 1 rfl) ?_
      refine lv_iload_n hx hb dX6_write_12 rfl (lv_at hl 2 rfl) ?_
      obtain ⟨g3, h⟩ := gsome h
      refine va_iast (D := (dC, dI)) hx hb hK hP hD hS 0 0 rfl rfl g3 dX6_write_13 (fun H locs hP hD hS => ?_)
      have hP : va_P (dC, dI) vwCl [(h_p0, .inl (cyI, vl_0, .inl (upd arr_0 a1.toNatClampNeg a2)))] H := hP
      have hD : va_D A [(h_p0, .inl (cyI, vl_0, .inl (upd arr_0 a1.toNatClampNeg a2)))] := hD
      obtain rfl := Option.some.inj h
      exact W.vret hx hb hr (fun t ht hW => ⟨⟨(), rfl, trivial, WLD.of ht hP hD⟩, hS.F ht⟩) hS.2.2 dX6_write_14
def s_X6_copyAll_L2 (n : Nat) (vl_0 : Nat) (arr_0 : Nat → Int32) (vl_1 : Nat) : Nat → (Nat → Int32) → Int32 → Option ((Nat → Int32))
  | 0, _, _ => none
  | k + 1, arr_1, x2 => (if (nI vl_1) ≤ x2 then (some (arr_1)) else ((s_X6_read vl_0 arr_0 x2).bind fun r2 => ((s_X6_write vl_1 arr_1 x2 r2).bind fun r5 => (s_X6_copyAll_L2 n vl_0 arr_0 vl_1 k r5 (x2 + iI 1)))))
def s_X6_copyAll (n : Nat) (vl_0 : Nat) (arr_0 : Nat → Int32) (vl_1 : Nat) (arr_1 : Nat → Int32) : Option ((Nat → Int32)) := (s_X6_copyAll_L2 n vl_0 arr_0 vl_1 n arr_1 (iI 0))
set_option maxHeartbeats 4000000 in
set_option maxRecDepth 100000 in
theorem c_X6_copyAll (l : Launch) (dC : Nat → ClassId) (dI : Nat → Nat → Nat) (cyI cyJ cyT : ClassId) (h_p0 : Nat) (h_p1 : Nat) (sz : Nat) (vl_0 : Nat) (vl_1 : Nat) (arr_0 : Nat → Int32) (arr_1 : Nat → Int32) (n : Nat) (o : (Nat → Int32)) (h : s_X6_copyAll n vl_0 arr_0 vl_1 arr_1 = some o) : Met l yX6_copyAll wsX6_copyAll ({ frames := 1, cells := 0, slots := 0, locals := 22 }) (va_Pc [.ref h_p0, .ref h_p1] (PRE (dC, dI) (TYS cyI cyJ cyT) sz [(h_p0, .inl (cyI, vl_0, .inl arr_0)), (h_p1, .inl (cyI, vl_1, .inl arr_1))])) (va_Qv (S := Unit) (fun _ => True) (fun _ t => WLD (dC, dI) (va_A [(h_p0, .inl (cyI, vl_0, .inl arr_0)), (h_p1, .inl (cyI, vl_1, .inl arr_1))] sz) [(h_p0, .inl (cyI, vl_0, .inl arr_0)), (h_p1, .inl (cyI, vl_1, .inl o))] t) (va_A [(h_p0, .inl (cyI, vl_0, .inl arr_0)), (h_p1, .inl (cyI, vl_1, .inl arr_1))] sz)) 0 0 (va_A [(h_p0, .inl (cyI, vl_0, .inl arr_0)), (h_p1, .inl (cyI, vl_1, .inl arr_1))] sz) := by
  refine Met.ofW (cc := cX6_copyAll) (maxL := 3) (ret := none) (by decide) rfl ?_
  intro p e s m args below meth c s₁ B hml hv
  obtain ⟨rfl, hsz, hP, hK, hD0, hNW⟩ := hv
  have hx := B.exec
  have hb := B.bytes
  have hr := B.returns
  have hts := atoms_spec (ws := wsX6_copyAll) B.pre
  have hown : s.vm.findClass RX6 = some m.cls := findClass_of_methodNamed B.named
  have hlocks := B.notSynchronized
  subst hsz
  have hD := hD0.self (sz := s.heap.size)
  generalize hAe : va_A [(h_p0, .inl (cyI, vl_0, .inl arr_0)), (h_p1, .inl (cyI, vl_1, .inl arr_1))] s.heap.size = A at hD ⊢
  have hA : ∀ q : Nat, s.heap.size ≤ q → A q := fun q h => by rw [← hAe]; exact Or.inr h
  have hS : va_S A s.heap s.heap [] := va_S.rf
  have hP : va_P (dC, dI) vwCl [(h_p0, .inl (cyI, vl_0, .inl arr_0)), (h_p1, .inl (cyI, vl_1, .inl arr_1))] s.heap := hP
  have L2 : ∀ (k : Nat), (∀ (arr_1 : Nat → Int32) (x2 : Int32) (H : Heap) (locs : List Loc), va_P (dC, dI) vwCl [(h_p0, .inl (cyI, vl_0, .inl arr_0)), (h_p1, .inl (cyI, vl_1, .inl arr_1))] H → va_D A [(h_p0, .inl (cyI, vl_0, .inl arr_0)), (h_p1, .inl (cyI, vl_1, .inl arr_1))] → va_S A s.heap H locs → ∀ (ls : Array Slot), lv_has ls 3 [(0, .ref h_p0), (1, .ref h_p1), (2, .int x2)] →  s_X6_copyAll_L2 n vl_0 arr_0 vl_1 k arr_1 x2 = some o → W p l e (headSpec wsX6_copyAll ({ frames := 1, cells := 0, slots := 0, locals := 22 })).room s m (([.ref h_p0, .ref h_p1] : List Value).toArray) below meth c H locs 0 0 (MQ below (va_Qv (S := Unit) (fun _ => True) (fun _ t => WLD (dC, dI) A [(h_p0, .inl (cyI, vl_0, .inl arr_0)), (h_p1, .inl (cyI, vl_1, .inl o))] t) A) (([.ref h_p0, .ref h_p1] : List Value).toArray) s 0 0 A) (F0 m 2 ls [])) := by
    intro k
    induction k with
    | zero =>
      intro  arr_1 x2 H locs hP hD hS ls hl h
      rw [s_X6_copyAll_L2] at h
      cases h
    | succ k ih =>
      intro  arr_1 x2 H locs hP hD hS ls hl h
      rw [s_X6_copyAll_L2] at h
      refine lv_iload_n hx hb dX6_copyAll_2 rfl (lv_at hl 2 rfl) ?_
      refine lv_aload_n hx hb dX6_copyAll_3 rfl (lv_at hl 1 rfl) ?_
      refine va_alen (D := (dC, dI)) (v := (nI vl_1)) hx hb hK hP 1 0 rfl rfl rfl dX6_copyAll_4 ?_
      refine lv_icmp_ge (tgt := 24) hx hb dX6_copyAll_5 (by decide) (fun c1 => ?_) (fun c1 => ?_)
      · have h := ipos c1 h
        obtain rfl := Option.some.inj h
        exact W.vret hx hb hr (fun t ht hW => ⟨⟨(), rfl, trivial, WLD.of ht hP hD⟩, hS.F ht⟩) hS.2.2 dX6_copyAll_24
      · have h := ineg c1 h
        refine lv_aload_n hx hb dX6_copyAll_8 rfl (lv_at hl 1 rfl) ?_
        refine lv_iload_n hx hb dX6_copyAll_9 rfl (lv_at hl 2 rfl) ?_
        refine lv_aload_n hx hb dX6_copyAll_10 rfl (lv_at hl 0 rfl) ?_
        refine lv_iload_n hx hb dX6_copyAll_11 rfl (lv_at hl 2 rfl) ?_
        obtain ⟨r2, e3, h⟩ := bsome h
        have hPc := sb_P [(h_p0, .inl (cyI, vl_0, .inl arr_0))] hP [0] rfl
        have hDc := sb_D [(h_p0, .inl (cyI, vl_0, .inl arr_0))] hD [0] (by decide) rfl
        have hFc := va_free (wc := [(h_p0, .inl (cyI, vl_0, .inl arr_0))]) hD hS hA [0] rfl
        refine va_calli (va_runS (As := [.ref h_p0, .int x2]) (rest := [.int x2, .ref h_p1]) ⟨hx, hb, hml, hown, hts⟩ (c_X6_read l dC dI cyI cyJ cyT h_p0 H.size vl_0 arr_0 x2 r2 e3) (va_cwS 2 hts gX6_copyAll_X6_read rfl rfl rfl (by decide +kernel) ⟨Nat.le_of_ble_eq_true rfl, Nat.le_of_ble_eq_true rfl⟩) ⟨PRE.blind, PRE.go hK hPc hDc hNW⟩ rfl rfl hl.1 rfl (lv_room (Nat.le_of_ble_eq_true rfl)) dX6_copyAll_12 ⟨Nat.zero_le _, Nat.zero_le _⟩) hS (fun q _ h => hFc q h) hFc (fun z4 u t H locs ht hvm hw hB hz1 hk1 hS => ?_)
        subst z4
        obtain ⟨hP, hD⟩ := va_join (wr := [(h_p1, .inl (cyI, vl_1, .inl arr_1))]) (w1 := [(h_p0, .inl (cyI, vl_0, .inl arr_0))]) hP hD [0] [1] rfl rfl (by decide) (by decide) hk1 hFc (WLD.P hB ht) hB.2
        have hP : va_P (dC, dI) vwCl [(h_p1, .inl (cyI, vl_1, .inl arr_1)), (h_p0, .inl (cyI, vl_0, .inl arr_0))] H := hP
        have hD : va_D A [(h_p1, .inl (cyI, vl_1, .inl arr_1)), (h_p0, .inl (cyI, vl_0, .inl arr_0))] := hD
        obtain ⟨r5, e6, h⟩ := bsome h
        have hPc := sb_P [(h_p1, .inl (cyI, vl_1, .inl arr_1))] hP [0] rfl
        have hDc := sb_D [(h_p1, .inl (cyI, vl_1, .inl arr_1))] hD [0] (by decide) rfl
        have hFc := va_free (wc := [(h_p1, .inl (cyI, vl_1, .inl arr_1))]) hD hS hA [0] rfl
        refine va_callv (va_runS (As := [.ref h_p1, .int x2, .int r2]) (rest := []) ⟨hx, hb, hml, hown, hts⟩ (c_X6_write l dC dI cyI cyJ cyT h_p1 H.size vl_1 arr_1 x2 r2 r5 e6) (va_cwS 3 hts gX6_copyAll_X6_write rfl rfl rfl (by decide +kernel) ⟨Nat.le_of_ble_eq_true rfl, Nat.le_of_ble_eq_true rfl⟩) ⟨PRE.blind, PRE.go hK hPc hDc hNW⟩ rfl rfl hl.1 rfl (lv_room (Nat.le_of_ble_eq_true rfl)) dX6_copyAll_15 ⟨Nat.zero_le _, Nat.zero_le _⟩) hS (fun q _ h => hFc q h) hFc (fun u t H locs ht hvm hw hB hz1 hk1 hS => ?_)
        obtain ⟨hP, hD⟩ := va_join (wr := [(h_p0, .inl (cyI, vl_0, .inl arr_0))]) (w1 := [(h_p1, .inl (cyI, vl_1, .inl r5))]) hP hD [0] [1] rfl rfl (by decide) (by decide) hk1 hFc (WLD.P hB ht) hB.2
        have hP : va_P (dC, dI) vwCl [(h_p0, .inl (cyI, vl_0, .inl arr_0)), (h_p1, .inl (cyI, vl_1, .inl r5))] H := hP
        have hD : va_D A [(h_p0, .inl (cyI, vl_0, .inl arr_0)), (h_p1, .inl (cyI, vl_1, .inl r5))] := hD
        refine lv_iinc (v := (x2 + iI 1)) hx hb dX6_copyAll_18 hl (k := 2) rfl rfl (by decide) (rfl : _ = ([(2, .int (x2 + iI 1)), (0, .ref h_p0), (1, .ref h_p1)] : List (Nat × Value))) (fun ls hl => ?_)
        refine lv_goto (tgt := 2) hx hb dX6_copyAll_21 (by decide) ?_
        exact ih r5 (x2 + iI 1) _ _ hP hD hS ls (lv_sub hl [1, 2, 0] rfl) h
  have hl := lv_entry ([.ref h_p0, .ref h_p1]) (n := 3) (Nat.le_of_ble_eq_true rfl)
  rw [lg_entry_eq]
  generalize (lg_sl ([.ref h_p0, .ref h_p1]) ++ List.replicate (3 - (lg_sl ([.ref h_p0, .ref h_p1])).length) Slot.unset).toArray = ls at hl ⊢
  have hl : lv_has ls 3 [(0, .ref h_p0), (1, .ref h_p1)] := hl
  unfold s_X6_copyAll at h
  refine lv_iconst (v := iI 0) hx hb dX6_copyAll_0 rfl ?_
  refine lv_istore_n hx hb dX6_copyAll_1 rfl hl (by decide) (rfl : _ = ([(2, .int (iI 0)), (0, .ref h_p0), (1, .ref h_p1)] : List (Nat × Value))) (fun ls hl => ?_)
  exact L2 n arr_1 (iI 0) _ _ hP hD hS ls (lv_sub hl [1, 2, 0] rfl) h
def s_X0_takeOver (n : Nat) (v_ends : Nat → Int32) (v_holders : Nat → Int32) (v_ends_1 : Nat → Int32) (v_holders_1 : Nat → Int32) : Option ((Nat → Int32) × (Nat → Int32)) := ((s_X6_copyAll n 162 v_holders_1 162 v_holders).bind fun r1 => ((s_X6_copyAll n 3 v_ends_1 3 v_ends).bind fun r4 => (some (r4, r1))))
set_option maxRecDepth 20000 in
theorem m_X0_takeOver_0 : ∀ w ∈ u_ws RX0 TX0 2, w ∈ wsX0_takeOver := by decide +kernel
set_option maxRecDepth 20000 in
theorem m_X0_takeOver_1 : (.fieldLink RX0 9 "SleeperBerths$Berths" "holders" "[I" : Cond) ∈ wsX0_takeOver := by decide +kernel
set_option maxRecDepth 20000 in
theorem m_X0_takeOver_2 : (.initialized RX6 : Cond) ∈ wsX0_takeOver := by decide +kernel
set_option maxRecDepth 20000 in
theorem m_X0_takeOver_3 : (.static yX6_copyAll : Cond) ∈ wsX0_takeOver := by decide +kernel
set_option maxRecDepth 20000 in
theorem m_X0_takeOver_4 : (.fieldLink RX0 15 "SleeperBerths$Berths" "ends" "[I" : Cond) ∈ wsX0_takeOver := by decide +kernel
set_option maxHeartbeats 4000000 in
set_option maxRecDepth 100000 in
theorem c_X0_takeOver (l : Launch) (dC : Nat → ClassId) (dI : Nat → Nat → Nat) (cyI cyJ cyT : ClassId) (h_p0 : Nat) (h_p0_holders : Nat) (h_p0_ends : Nat) (h_p1 : Nat) (h_p1_holders : Nat) (h_p1_ends : Nat) (sz : Nat) (v_ends : Nat → Int32) (v_holders : Nat → Int32) (v_ends_1 : Nat → Int32) (v_holders_1 : Nat → Int32) (n : Nat) (o : (Nat → Int32) × (Nat → Int32)) (h : s_X0_takeOver n v_ends v_holders v_ends_1 v_holders_1 = some o) : Met l yX0_takeOver wsX0_takeOver ({ frames := 2, cells := 0, slots := 0, locals := 44 }) (va_Pc [.ref h_p0, .ref h_p1] (PRE (dC, dI) (TYS cyI cyJ cyT) sz [(h_p0, .inr (0, [.ref h_p0_holders, .ref h_p0_ends])), (h_p0_ends, .inl (cyI, 3, .inl v_ends)), (h_p0_holders, .inl (cyI, 162, .inl v_holders)), (h_p1, .inr (0, [.ref h_p1_holders, .ref h_p1_ends])), (h_p1_ends, .inl (cyI, 3, .inl v_ends_1)), (h_p1_holders, .inl (cyI, 162, .inl v_holders_1))])) (va_Qv (S := Unit) (fun _ => True) (fun _ t => WLD (dC, dI) (va_A [(h_p0, .inr (0, [.ref h_p0_holders, .ref h_p0_ends])), (h_p0_ends, .inl (cyI, 3, .inl v_ends)), (h_p0_holders, .inl (cyI, 162, .inl v_holders)), (h_p1, .inr (0, [.ref h_p1_holders, .ref h_p1_ends])), (h_p1_ends, .inl (cyI, 3, .inl v_ends_1)), (h_p1_holders, .inl (cyI, 162, .inl v_holders_1))] sz) [(h_p0, .inr (0, [.ref h_p0_holders, .ref h_p0_ends])), (h_p0_ends, .inl (cyI, 3, .inl o.1)), (h_p0_holders, .inl (cyI, 162, .inl o.2)), (h_p1, .inr (0, [.ref h_p1_holders, .ref h_p1_ends])), (h_p1_ends, .inl (cyI, 3, .inl v_ends_1)), (h_p1_holders, .inl (cyI, 162, .inl v_holders_1))] t) (va_A [(h_p0, .inr (0, [.ref h_p0_holders, .ref h_p0_ends])), (h_p0_ends, .inl (cyI, 3, .inl v_ends)), (h_p0_holders, .inl (cyI, 162, .inl v_holders)), (h_p1, .inr (0, [.ref h_p1_holders, .ref h_p1_ends])), (h_p1_ends, .inl (cyI, 3, .inl v_ends_1)), (h_p1_holders, .inl (cyI, 162, .inl v_holders_1))] sz)) 0 0 (va_A [(h_p0, .inr (0, [.ref h_p0_holders, .ref h_p0_ends])), (h_p0_ends, .inl (cyI, 3, .inl v_ends)), (h_p0_holders, .inl (cyI, 162, .inl v_holders)), (h_p1, .inr (0, [.ref h_p1_holders, .ref h_p1_ends])), (h_p1_ends, .inl (cyI, 3, .inl v_ends_1)), (h_p1_holders, .inl (cyI, 162, .inl v_holders_1))] sz) := by
  refine Met.ofW (cc := cX0_takeOver) (maxL := 2) (ret := none) (by decide) rfl ?_
  intro p e s m args below meth c s₁ B hml hv
  obtain ⟨rfl, hsz, hP, hK, hD0, hNW⟩ := hv
  have hx := B.exec
  have hb := B.bytes
  have hr := B.returns
  have hts := atoms_spec (ws := wsX0_takeOver) B.pre
  have hown : s.vm.findClass RX0 = some m.cls := findClass_of_methodNamed B.named
  have hlocks := B.notSynchronized
  subst hsz
  have hD := hD0.self (sz := s.heap.size)
  generalize hAe : va_A [(h_p0, .inr (0, [.ref h_p0_holders, .ref h_p0_ends])), (h_p0_ends, .inl (cyI, 3, .inl v_ends)), (h_p0_holders, .inl (cyI, 162, .inl v_holders)), (h_p1, .inr (0, [.ref h_p1_holders, .ref h_p1_ends])), (h_p1_ends, .inl (cyI, 3, .inl v_ends_1)), (h_p1_holders, .inl (cyI, 162, .inl v_holders_1))] s.heap.size = A at hD ⊢
  have hA : ∀ q : Nat, s.heap.size ≤ q → A q := fun q h => by rw [← hAe]; exact Or.inr h
  have hS : va_S A s.heap s.heap [] := va_S.rf
  have hP : va_P (dC, dI) vwCl [(h_p0, .inr (0, [.ref h_p0_holders, .ref h_p0_ends])), (h_p0_ends, .inl (cyI, 3, .inl v_ends)), (h_p0_holders, .inl (cyI, 162, .inl v_holders)), (h_p1, .inr (0, [.ref h_p1_holders, .ref h_p1_ends])), (h_p1_ends, .inl (cyI, 3, .inl v_ends_1)), (h_p1_holders, .inl (cyI, 162, .inl v_holders_1))] s.heap := hP
  have hl := lv_entry ([.ref h_p0, .ref h_p1]) (n := 2) (Nat.le_of_ble_eq_true rfl)
  rw [lg_entry_eq]
  generalize (lg_sl ([.ref h_p0, .ref h_p1]) ++ List.replicate (2 - (lg_sl ([.ref h_p0, .ref h_p1])).length) Slot.unset).toArray = ls at hl ⊢
  have hl : lv_has ls 2 [(0, .ref h_p0), (1, .ref h_p1)] := hl
  unfold s_X0_takeOver at h
  refine lv_aload_n hx hb dX0_takeOver_0 rfl (lv_at hl 1 rfl) ?_
  refine va_get (D := (dC, dI)) (ci := 0) (v := .ref h_p1_holders) (C := RX0) (T := TX0) (N := 2) hx hb hts m_X0_takeOver_0 hown hK hP 3 rfl rfl 0 (by decide) (hts (.fieldLink RX0 9 "SleeperBerths$Berths" "holders" "[I") m_X0_takeOver_1) (fun _ h9 => h9) rfl dX0_takeOver_1 ?_
  refine lv_aload_n hx hb dX0_takeOver_4 rfl (lv_at hl 0 rfl) ?_
  refine va_get (D := (dC, dI)) (ci := 0) (v := .ref h_p0_holders) (C := RX0) (T := TX0) (N := 2) hx hb hts m_X0_takeOver_0 hown hK hP 0 rfl rfl 0 (by decide) (hts (.fieldLink RX0 9 "SleeperBerths$Berths" "holders" "[I") m_X0_takeOver_1) (fun _ h9 => h9) rfl dX0_takeOver_5 ?_
  obtain ⟨r1, e2, h⟩ := bsome h
  have hPc := sb_P [(h_p1_holders, .inl (cyI, 162, .inl v_holders_1)), (h_p0_holders, .inl (cyI, 162, .inl v_holders))] hP [5, 2] rfl
  have hDc := sb_D [(h_p1_holders, .inl (cyI, 162, .inl v_holders_1)), (h_p0_holders, .inl (cyI, 162, .inl v_holders))] hD [5, 2] (by decide) rfl
  have hFc := va_free (wc := [(h_p1_holders, .inl (cyI, 162, .inl v_holders_1)), (h_p0_holders, .inl (cyI, 162, .inl v_holders))]) hD hS hA [5, 2] rfl
  refine va_callv (va_runSN (As := [.ref h_p1_holders, .ref h_p0_holders]) (rest := []) ⟨hx, hb, hml, hown, hts⟩ (c_X6_copyAll l dC dI cyI cyJ cyT h_p1_holders h_p0_holders s.heap.size 162 162 v_holders_1 v_holders n r1 e2) ⟨va_cnB (host := "SleeperBerths") 2 hts gX0_takeOver_X6_copyAll_n18 rfl rfl rfl (hNW.1 7 rfl) (hts (.initialized RX6) m_X0_takeOver_2) (by decide +kernel) ⟨Nat.le_of_ble_eq_true rfl, Nat.le_of_ble_eq_true rfl⟩, (hts (.static yX6_copyAll) m_X0_takeOver_3), trivial⟩ ⟨PRE.blind, PRE.go hK hPc hDc hNW⟩ rfl rfl hl.1 rfl (lv_room (Nat.le_of_ble_eq_true rfl)) dX0_takeOver_8 ⟨Nat.zero_le _, Nat.zero_le _⟩) hS (fun q _ h => hFc q h) hFc (fun u t H locs ht hvm hw hB hz1 hk1 hS => ?_)
  obtain ⟨hP, hD⟩ := va_join (wr := [(h_p0, .inr (0, [.ref h_p0_holders, .ref h_p0_ends])), (h_p0_ends, .inl (cyI, 3, .inl v_ends)), (h_p1, .inr (0, [.ref h_p1_holders, .ref h_p1_ends])), (h_p1_ends, .inl (cyI, 3, .inl v_ends_1))]) (w1 := [(h_p1_holders, .inl (cyI, 162, .inl v_holders_1)), (h_p0_holders, .inl (cyI, 162, .inl r1))]) hP hD [5, 2] [0, 1, 3, 4] rfl rfl (by decide) (by decide) hk1 hFc (WLD.P hB ht) hB.2
  have hP : va_P (dC, dI) vwCl [(h_p0, .inr (0, [.ref h_p0_holders, .ref h_p0_ends])), (h_p0_ends, .inl (cyI, 3, .inl v_ends)), (h_p1, .inr (0, [.ref h_p1_holders, .ref h_p1_ends])), (h_p1_ends, .inl (cyI, 3, .inl v_ends_1)), (h_p1_holders, .inl (cyI, 162, .inl v_holders_1)), (h_p0_holders, .inl (cyI, 162, .inl r1))] H := hP
  have hD : va_D A [(h_p0, .inr (0, [.ref h_p0_holders, .ref h_p0_ends])), (h_p0_ends, .inl (cyI, 3, .inl v_ends)), (h_p1, .inr (0, [.ref h_p1_holders, .ref h_p1_ends])), (h_p1_ends, .inl (cyI, 3, .inl v_ends_1)), (h_p1_holders, .inl (cyI, 162, .inl v_holders_1)), (h_p0_holders, .inl (cyI, 162, .inl r1))] := hD
  refine lv_aload_n hx hb dX0_takeOver_11 rfl (lv_at hl 1 rfl) ?_
  refine va_get (D := (dC, dI)) (ci := 0) (v := .ref h_p1_ends) (C := RX0) (T := TX0) (N := 2) hx hb hts m_X0_takeOver_0 hown hK hP 2 rfl rfl 1 (by decide) (hts (.fieldLink RX0 15 "SleeperBerths$Berths" "ends" "[I") m_X0_takeOver_4) (fun _ h9 => h9) rfl dX0_takeOver_12 ?_
  refine lv_aload_n hx hb dX0_takeOver_15 rfl (lv_at hl 0 rfl) ?_
  refine va_get (D := (dC, dI)) (ci := 0) (v := .ref h_p0_ends) (C := RX0) (T := TX0) (N := 2) hx hb hts m_X0_takeOver_0 hown hK hP 0 rfl rfl 1 (by decide) (hts (.fieldLink RX0 15 "SleeperBerths$Berths" "ends" "[I") m_X0_takeOver_4) (fun _ h9 => h9) rfl dX0_takeOver_16 ?_
  obtain ⟨r4, e5, h⟩ := bsome h
  have hPc := sb_P [(h_p1_ends, .inl (cyI, 3, .inl v_ends_1)), (h_p0_ends, .inl (cyI, 3, .inl v_ends))] hP [3, 1] rfl
  have hDc := sb_D [(h_p1_ends, .inl (cyI, 3, .inl v_ends_1)), (h_p0_ends, .inl (cyI, 3, .inl v_ends))] hD [3, 1] (by decide) rfl
  have hFc := va_free (wc := [(h_p1_ends, .inl (cyI, 3, .inl v_ends_1)), (h_p0_ends, .inl (cyI, 3, .inl v_ends))]) hD hS hA [3, 1] rfl
  refine va_callv (va_runSN (As := [.ref h_p1_ends, .ref h_p0_ends]) (rest := []) ⟨hx, hb, hml, hown, hts⟩ (c_X6_copyAll l dC dI cyI cyJ cyT h_p1_ends h_p0_ends H.size 3 3 v_ends_1 v_ends n r4 e5) ⟨va_cnB (host := "SleeperBerths") 2 hts gX0_takeOver_X6_copyAll_n18 rfl rfl rfl (hNW.1 7 rfl) (hts (.initialized RX6) m_X0_takeOver_2) (by decide +kernel) ⟨Nat.le_of_ble_eq_true rfl, Nat.le_of_ble_eq_true rfl⟩, (hts (.static yX6_copyAll) m_X0_takeOver_3), trivial⟩ ⟨PRE.blind, PRE.go hK hPc hDc hNW⟩ rfl rfl hl.1 rfl (lv_room (Nat.le_of_ble_eq_true rfl)) dX0_takeOver_19 ⟨Nat.zero_le _, Nat.zero_le _⟩) hS (fun q _ h => hFc q h) hFc (fun u t H locs ht hvm hw hB hz1 hk1 hS => ?_)
  obtain ⟨hP, hD⟩ := va_join (wr := [(h_p0, .inr (0, [.ref h_p0_holders, .ref h_p0_ends])), (h_p1, .inr (0, [.ref h_p1_holders, .ref h_p1_ends])), (h_p1_holders, .inl (cyI, 162, .inl v_holders_1)), (h_p0_holders, .inl (cyI, 162, .inl r1))]) (w1 := [(h_p1_ends, .inl (cyI, 3, .inl v_ends_1)), (h_p0_ends, .inl (cyI, 3, .inl r4))]) hP hD [3, 1] [0, 2, 4, 5] rfl rfl (by decide) (by decide) hk1 hFc (WLD.P hB ht) hB.2
  have hP : va_P (dC, dI) vwCl [(h_p0, .inr (0, [.ref h_p0_holders, .ref h_p0_ends])), (h_p1, .inr (0, [.ref h_p1_holders, .ref h_p1_ends])), (h_p1_holders, .inl (cyI, 162, .inl v_holders_1)), (h_p0_holders, .inl (cyI, 162, .inl r1)), (h_p1_ends, .inl (cyI, 3, .inl v_ends_1)), (h_p0_ends, .inl (cyI, 3, .inl r4))] H := hP
  have hD : va_D A [(h_p0, .inr (0, [.ref h_p0_holders, .ref h_p0_ends])), (h_p1, .inr (0, [.ref h_p1_holders, .ref h_p1_ends])), (h_p1_holders, .inl (cyI, 162, .inl v_holders_1)), (h_p0_holders, .inl (cyI, 162, .inl r1)), (h_p1_ends, .inl (cyI, 3, .inl v_ends_1)), (h_p0_ends, .inl (cyI, 3, .inl r4))] := hD
  obtain rfl := Option.some.inj h
  exact W.vret hx hb hr (fun t ht hW => ⟨⟨(), rfl, trivial, WLD.of ht (sb_P [(h_p0, .inr (0, [.ref h_p0_holders, .ref h_p0_ends])), (h_p0_ends, .inl (cyI, 3, .inl r4)), (h_p0_holders, .inl (cyI, 162, .inl r1)), (h_p1, .inr (0, [.ref h_p1_holders, .ref h_p1_ends])), (h_p1_ends, .inl (cyI, 3, .inl v_ends_1)), (h_p1_holders, .inl (cyI, 162, .inl v_holders_1))] hP [0, 5, 3, 1, 4, 2] rfl) (sb_D [(h_p0, .inr (0, [.ref h_p0_holders, .ref h_p0_ends])), (h_p0_ends, .inl (cyI, 3, .inl r4)), (h_p0_holders, .inl (cyI, 162, .inl r1)), (h_p1, .inr (0, [.ref h_p1_holders, .ref h_p1_ends])), (h_p1_ends, .inl (cyI, 3, .inl v_ends_1)), (h_p1_holders, .inl (cyI, 162, .inl v_holders_1))] hD [0, 5, 3, 1, 4, 2] (by decide) rfl)⟩, hS.F ht⟩) hS.2.2 dX0_takeOver_22
def s_X3_takeOver (n : Nat) (v_size : Int32) (v_cells : Nat → Int32) (v_size_1 : Int32) (v_cells_1 : Nat → Int32) : Option (Int32 × (Nat → Int32)) := ((s_X6_copyAll n 280 v_cells_1 280 v_cells).bind fun r1 => (some (v_size_1, r1)))
set_option maxRecDepth 20000 in
theorem m_X3_takeOver_0 : ∀ w ∈ u_ws RX3 TX3 2, w ∈ wsX3_takeOver := by decide +kernel
set_option maxRecDepth 20000 in
theorem m_X3_takeOver_1 : (.fieldLink RX3 9 "SleeperBerths$Roster" "cells" "[I" : Cond) ∈ wsX3_takeOver := by decide +kernel
set_option maxRecDepth 20000 in
theorem m_X3_takeOver_2 : (.initialized RX6 : Cond) ∈ wsX3_takeOver := by decide +kernel
set_option maxRecDepth 20000 in
theorem m_X3_takeOver_3 : (.static yX6_copyAll : Cond) ∈ wsX3_takeOver := by decide +kernel
set_option maxRecDepth 20000 in
theorem m_X3_takeOver_4 : (.fieldLink RX3 19 "SleeperBerths$Roster" "size" "I" : Cond) ∈ wsX3_takeOver := by decide +kernel
set_option maxHeartbeats 4000000 in
set_option maxRecDepth 100000 in
theorem c_X3_takeOver (l : Launch) (dC : Nat → ClassId) (dI : Nat → Nat → Nat) (cyI cyJ cyT : ClassId) (h_p0 : Nat) (h_p0_cells : Nat) (h_p1 : Nat) (h_p1_cells : Nat) (sz : Nat) (v_size : Int32) (v_cells : Nat → Int32) (v_size_1 : Int32) (v_cells_1 : Nat → Int32) (n : Nat) (o : Int32 × (Nat → Int32)) (h : s_X3_takeOver n v_size v_cells v_size_1 v_cells_1 = some o) : Met l yX3_takeOver wsX3_takeOver ({ frames := 2, cells := 0, slots := 0, locals := 44 }) (va_Pc [.ref h_p0, .ref h_p1] (PRE (dC, dI) (TYS cyI cyJ cyT) sz [(h_p0, .inr (3, [.ref h_p0_cells, .int v_size])), (h_p0_cells, .inl (cyI, 280, .inl v_cells)), (h_p1, .inr (3, [.ref h_p1_cells, .int v_size_1])), (h_p1_cells, .inl (cyI, 280, .inl v_cells_1))])) (va_Qv (S := Unit) (fun _ => True) (fun _ t => WLD (dC, dI) (va_A [(h_p0, .inr (3, [.ref h_p0_cells, .int v_size])), (h_p0_cells, .inl (cyI, 280, .inl v_cells)), (h_p1, .inr (3, [.ref h_p1_cells, .int v_size_1])), (h_p1_cells, .inl (cyI, 280, .inl v_cells_1))] sz) [(h_p0, .inr (3, [.ref h_p0_cells, .int o.1])), (h_p0_cells, .inl (cyI, 280, .inl o.2)), (h_p1, .inr (3, [.ref h_p1_cells, .int v_size_1])), (h_p1_cells, .inl (cyI, 280, .inl v_cells_1))] t) (va_A [(h_p0, .inr (3, [.ref h_p0_cells, .int v_size])), (h_p0_cells, .inl (cyI, 280, .inl v_cells)), (h_p1, .inr (3, [.ref h_p1_cells, .int v_size_1])), (h_p1_cells, .inl (cyI, 280, .inl v_cells_1))] sz)) 0 0 (va_A [(h_p0, .inr (3, [.ref h_p0_cells, .int v_size])), (h_p0_cells, .inl (cyI, 280, .inl v_cells)), (h_p1, .inr (3, [.ref h_p1_cells, .int v_size_1])), (h_p1_cells, .inl (cyI, 280, .inl v_cells_1))] sz) := by
  refine Met.ofW (cc := cX3_takeOver) (maxL := 2) (ret := none) (by decide) rfl ?_
  intro p e s m args below meth c s₁ B hml hv
  obtain ⟨rfl, hsz, hP, hK, hD0, hNW⟩ := hv
  have hx := B.exec
  have hb := B.bytes
  have hr := B.returns
  have hts := atoms_spec (ws := wsX3_takeOver) B.pre
  have hown : s.vm.findClass RX3 = some m.cls := findClass_of_methodNamed B.named
  have hlocks := B.notSynchronized
  subst hsz
  have hD := hD0.self (sz := s.heap.size)
  generalize hAe : va_A [(h_p0, .inr (3, [.ref h_p0_cells, .int v_size])), (h_p0_cells, .inl (cyI, 280, .inl v_cells)), (h_p1, .inr (3, [.ref h_p1_cells, .int v_size_1])), (h_p1_cells, .inl (cyI, 280, .inl v_cells_1))] s.heap.size = A at hD ⊢
  have hA : ∀ q : Nat, s.heap.size ≤ q → A q := fun q h => by rw [← hAe]; exact Or.inr h
  have hS : va_S A s.heap s.heap [] := va_S.rf
  have hP : va_P (dC, dI) vwCl [(h_p0, .inr (3, [.ref h_p0_cells, .int v_size])), (h_p0_cells, .inl (cyI, 280, .inl v_cells)), (h_p1, .inr (3, [.ref h_p1_cells, .int v_size_1])), (h_p1_cells, .inl (cyI, 280, .inl v_cells_1))] s.heap := hP
  have hl := lv_entry ([.ref h_p0, .ref h_p1]) (n := 2) (Nat.le_of_ble_eq_true rfl)
  rw [lg_entry_eq]
  generalize (lg_sl ([.ref h_p0, .ref h_p1]) ++ List.replicate (2 - (lg_sl ([.ref h_p0, .ref h_p1])).length) Slot.unset).toArray = ls at hl ⊢
  have hl : lv_has ls 2 [(0, .ref h_p0), (1, .ref h_p1)] := hl
  unfold s_X3_takeOver at h
  refine lv_aload_n hx hb dX3_takeOver_0 rfl (lv_at hl 1 rfl) ?_
  refine va_get (D := (dC, dI)) (ci := 3) (v := .ref h_p1_cells) (C := RX3) (T := TX3) (N := 2) hx hb hts m_X3_takeOver_0 hown hK hP 2 rfl rfl 0 (by decide) (hts (.fieldLink RX3 9 "SleeperBerths$Roster" "cells" "[I") m_X3_takeOver_1) (fun _ h9 => h9) rfl dX3_takeOver_1 ?_
  refine lv_aload_n hx hb dX3_takeOver_4 rfl (lv_at hl 0 rfl) ?_
  refine va_get (D := (dC, dI)) (ci := 3) (v := .ref h_p0_cells) (C := RX3) (T := TX3) (N := 2) hx hb hts m_X3_takeOver_0 hown hK hP 0 rfl rfl 0 (by decide) (hts (.fieldLink RX3 9 "SleeperBerths$Roster" "cells" "[I") m_X3_takeOver_1) (fun _ h9 => h9) rfl dX3_takeOver_5 ?_
  obtain ⟨r1, e2, h⟩ := bsome h
  have hPc := sb_P [(h_p1_cells, .inl (cyI, 280, .inl v_cells_1)), (h_p0_cells, .inl (cyI, 280, .inl v_cells))] hP [3, 1] rfl
  have hDc := sb_D [(h_p1_cells, .inl (cyI, 280, .inl v_cells_1)), (h_p0_cells, .inl (cyI, 280, .inl v_cells))] hD [3, 1] (by decide) rfl
  have hFc := va_free (wc := [(h_p1_cells, .inl (cyI, 280, .inl v_cells_1)), (h_p0_cells, .inl (cyI, 280, .inl v_cells))]) hD hS hA [3, 1] rfl
  refine va_callv (va_runSN (As := [.ref h_p1_cells, .ref h_p0_cells]) (rest := []) ⟨hx, hb, hml, hown, hts⟩ (c_X6_copyAll l dC dI cyI cyJ cyT h_p1_cells h_p0_cells s.heap.size 280 280 v_cells_1 v_cells n r1 e2) ⟨va_cnB (host := "SleeperBerths") 2 hts gX3_takeOver_X6_copyAll_n15 rfl rfl rfl (hNW.1 8 rfl) (hts (.initialized RX6) m_X3_takeOver_2) (by decide +kernel) ⟨Nat.le_of_ble_eq_true rfl, Nat.le_of_ble_eq_true rfl⟩, (hts (.static yX6_copyAll) m_X3_takeOver_3), trivial⟩ ⟨PRE.blind, PRE.go hK hPc hDc hNW⟩ rfl rfl hl.1 rfl (lv_room (Nat.le_of_ble_eq_true rfl)) dX3_takeOver_8 ⟨Nat.zero_le _, Nat.zero_le _⟩) hS (fun q _ h => hFc q h) hFc (fun u t H locs ht hvm hw hB hz1 hk1 hS => ?_)
  obtain ⟨hP, hD⟩ := va_join (wr := [(h_p0, .inr (3, [.ref h_p0_cells, .int v_size])), (h_p1, .inr (3, [.ref h_p1_cells, .int v_size_1]))]) (w1 := [(h_p1_cells, .inl (cyI, 280, .inl v_cells_1)), (h_p0_cells, .inl (cyI, 280, .inl r1))]) hP hD [3, 1] [0, 2] rfl rfl (by decide) (by decide) hk1 hFc (WLD.P hB ht) hB.2
  have hP : va_P (dC, dI) vwCl [(h_p0, .inr (3, [.ref h_p0_cells, .int v_size])), (h_p1, .inr (3, [.ref h_p1_cells, .int v_size_1])), (h_p1_cells, .inl (cyI, 280, .inl v_cells_1)), (h_p0_cells, .inl (cyI, 280, .inl r1))] H := hP
  have hD : va_D A [(h_p0, .inr (3, [.ref h_p0_cells, .int v_size])), (h_p1, .inr (3, [.ref h_p1_cells, .int v_size_1])), (h_p1_cells, .inl (cyI, 280, .inl v_cells_1)), (h_p0_cells, .inl (cyI, 280, .inl r1))] := hD
  refine lv_aload_n hx hb dX3_takeOver_11 rfl (lv_at hl 0 rfl) ?_
  refine lv_aload_n hx hb dX3_takeOver_12 rfl (lv_at hl 1 rfl) ?_
  refine va_get (D := (dC, dI)) (ci := 3) (v := .int v_size_1) (C := RX3) (T := TX3) (N := 2) hx hb hts m_X3_takeOver_0 hown hK hP 1 rfl rfl 1 (by decide) (hts (.fieldLink RX3 19 "SleeperBerths$Roster" "size" "I") m_X3_takeOver_4) (fun _ h9 => h9) rfl dX3_takeOver_13 ?_
  refine va_put (D := (dC, dI)) (ci := 3) (v := .int v_size_1) (ty := .int) (C := RX3) (T := TX3) (N := 2) hx hb hts m_X3_takeOver_0 tyX3 tyX3_ok nmX3 hown hK hP hD hS 0 rfl rfl 1 (by decide) (hts (.fieldLink RX3 19 "SleeperBerths$Roster" "size" "I") m_X3_takeOver_4) (fun _ h9 => h9) rfl (by decide +kernel) rfl rfl (Nat.le_of_ble_eq_true rfl) dX3_takeOver_16 (fun H locs hP hD hS => ?_)
  have hP : va_P (dC, dI) vwCl [(h_p0, .inr (3, [.ref h_p0_cells, .int v_size_1])), (h_p1, .inr (3, [.ref h_p1_cells, .int v_size_1])), (h_p1_cells, .inl (cyI, 280, .inl v_cells_1)), (h_p0_cells, .inl (cyI, 280, .inl r1))] H := hP
  have hD : va_D A [(h_p0, .inr (3, [.ref h_p0_cells, .int v_size_1])), (h_p1, .inr (3, [.ref h_p1_cells, .int v_size_1])), (h_p1_cells, .inl (cyI, 280, .inl v_cells_1)), (h_p0_cells, .inl (cyI, 280, .inl r1))] := hD
  obtain rfl := Option.some.inj h
  exact W.vret hx hb hr (fun t ht hW => ⟨⟨(), rfl, trivial, WLD.of ht (sb_P [(h_p0, .inr (3, [.ref h_p0_cells, .int v_size_1])), (h_p0_cells, .inl (cyI, 280, .inl r1)), (h_p1, .inr (3, [.ref h_p1_cells, .int v_size_1])), (h_p1_cells, .inl (cyI, 280, .inl v_cells_1))] hP [0, 3, 1, 2] rfl) (sb_D [(h_p0, .inr (3, [.ref h_p0_cells, .int v_size_1])), (h_p0_cells, .inl (cyI, 280, .inl r1)), (h_p1, .inr (3, [.ref h_p1_cells, .int v_size_1])), (h_p1_cells, .inl (cyI, 280, .inl v_cells_1))] hD [0, 3, 1, 2] (by decide) rfl)⟩, hS.F ht⟩) hS.2.2 dX3_takeOver_19
def s_X5_takeOver (n : Nat) (v_nextNumber : Int32) (v_bookings : Int32) (v_leftOut : Int32) (v_ends : Nat → Int32) (v_holders : Nat → Int32) (v_size : Int32) (v_cells : Nat → Int32) (v_settings : Nat → Int32) (v_nextNumber_1 : Int32) (v_bookings_1 : Int32) (v_leftOut_1 : Int32) (v_ends_1 : Nat → Int32) (v_holders_1 : Nat → Int32) (v_size_1 : Int32) (v_cells_1 : Nat → Int32) (v_settings_1 : Nat → Int32) : Option (Int32 × Int32 × Int32 × (Nat → Int32) × (Nat → Int32) × Int32 × (Nat → Int32) × (Nat → Int32)) := ((s_X0_takeOver n v_ends v_holders v_ends_1 v_holders_1).bind fun r1 => ((s_X3_takeOver n v_size v_cells v_size_1 v_cells_1).bind fun r4 => ((s_X6_copyAll n 3 v_settings_1 3 v_settings).bind fun r7 => (some (v_nextNumber_1, v_bookings_1, v_leftOut_1, r1.1, r1.2, r4.1, r4.2, r7)))))
set_option maxRecDepth 20000 in
theorem m_X5_takeOver_0 : ∀ w ∈ u_ws RX5 TX5 6, w ∈ wsX5_takeOver := by decide +kernel
set_option maxRecDepth 20000 in
theorem m_X5_takeOver_1 : (.fieldLink RX5 12 "SleeperBerths$Train" "berths" "LSleeperBerths$Berths;" : Cond) ∈ wsX5_takeOver := by decide +kernel
set_option maxRecDepth 20000 in
theorem m_X5_takeOver_2 : (.fieldLink RX5 21 "SleeperBerths$Train" "roster" "LSleeperBerths$Roster;" : Cond) ∈ wsX5_takeOver := by decide +kernel
set_option maxRecDepth 20000 in
theorem m_X5_takeOver_3 : (.fieldLink RX5 25 "SleeperBerths$Train" "settings" "[I" : Cond) ∈ wsX5_takeOver := by decide +kernel
set_option maxRecDepth 20000 in
theorem m_X5_takeOver_4 : (.initialized RX6 : Cond) ∈ wsX5_takeOver := by decide +kernel
set_option maxRecDepth 20000 in
theorem m_X5_takeOver_5 : (.static yX6_copyAll : Cond) ∈ wsX5_takeOver := by decide +kernel
set_option maxRecDepth 20000 in
theorem m_X5_takeOver_6 : (.fieldLink RX5 40 "SleeperBerths$Train" "nextNumber" "I" : Cond) ∈ wsX5_takeOver := by decide +kernel
set_option maxRecDepth 20000 in
theorem m_X5_takeOver_7 : (.fieldLink RX5 44 "SleeperBerths$Train" "bookings" "I" : Cond) ∈ wsX5_takeOver := by decide +kernel
set_option maxRecDepth 20000 in
theorem m_X5_takeOver_8 : (.fieldLink RX5 47 "SleeperBerths$Train" "leftOut" "I" : Cond) ∈ wsX5_takeOver := by decide +kernel
set_option maxHeartbeats 4000000 in
set_option maxRecDepth 100000 in
theorem c_X5_takeOver (l : Launch) (dC : Nat → ClassId) (dI : Nat → Nat → Nat) (cyI cyJ cyT : ClassId) (h_p0 : Nat) (h_p0_berths : Nat) (h_p0_roster : Nat) (h_p0_settings : Nat) (h_p0_berths_holders : Nat) (h_p0_berths_ends : Nat) (h_p0_roster_cells : Nat) (h_p1 : Nat) (h_p1_berths : Nat) (h_p1_roster : Nat) (h_p1_settings : Nat) (h_p1_berths_holders : Nat) (h_p1_berths_ends : Nat) (h_p1_roster_cells : Nat) (sz : Nat) (v_nextNumber : Int32) (v_bookings : Int32) (v_leftOut : Int32) (v_ends : Nat → Int32) (v_holders : Nat → Int32) (v_size : Int32) (v_cells : Nat → Int32) (v_settings : Nat → Int32) (v_nextNumber_1 : Int32) (v_bookings_1 : Int32) (v_leftOut_1 : Int32) (v_ends_1 : Nat → Int32) (v_holders_1 : Nat → Int32) (v_size_1 : Int32) (v_cells_1 : Nat → Int32) (v_settings_1 : Nat → Int32) (n : Nat) (o : Int32 × Int32 × Int32 × (Nat → Int32) × (Nat → Int32) × Int32 × (Nat → Int32) × (Nat → Int32)) (h : s_X5_takeOver n v_nextNumber v_bookings v_leftOut v_ends v_holders v_size v_cells v_settings v_nextNumber_1 v_bookings_1 v_leftOut_1 v_ends_1 v_holders_1 v_size_1 v_cells_1 v_settings_1 = some o) : Met l yX5_takeOver wsX5_takeOver ({ frames := 3, cells := 0, slots := 0, locals := 65 }) (va_Pc [.ref h_p0, .ref h_p1] (PRE (dC, dI) (TYS cyI cyJ cyT) sz [(h_p0, .inr (5, [.ref h_p0_berths, .ref h_p0_roster, .ref h_p0_settings, .int v_nextNumber, .int v_bookings, .int v_leftOut])), (h_p0_berths, .inr (0, [.ref h_p0_berths_holders, .ref h_p0_berths_ends])), (h_p0_berths_ends, .inl (cyI, 3, .inl v_ends)), (h_p0_berths_holders, .inl (cyI, 162, .inl v_holders)), (h_p0_roster, .inr (3, [.ref h_p0_roster_cells, .int v_size])), (h_p0_roster_cells, .inl (cyI, 280, .inl v_cells)), (h_p0_settings, .inl (cyI, 3, .inl v_settings)), (h_p1, .inr (5, [.ref h_p1_berths, .ref h_p1_roster, .ref h_p1_settings, .int v_nextNumber_1, .int v_bookings_1, .int v_leftOut_1])), (h_p1_berths, .inr (0, [.ref h_p1_berths_holders, .ref h_p1_berths_ends])), (h_p1_berths_ends, .inl (cyI, 3, .inl v_ends_1)), (h_p1_berths_holders, .inl (cyI, 162, .inl v_holders_1)), (h_p1_roster, .inr (3, [.ref h_p1_roster_cells, .int v_size_1])), (h_p1_roster_cells, .inl (cyI, 280, .inl v_cells_1)), (h_p1_settings, .inl (cyI, 3, .inl v_settings_1))])) (va_Qv (S := Unit) (fun _ => True) (fun _ t => WLD (dC, dI) (va_A [(h_p0, .inr (5, [.ref h_p0_berths, .ref h_p0_roster, .ref h_p0_settings, .int v_nextNumber, .int v_bookings, .int v_leftOut])), (h_p0_berths, .inr (0, [.ref h_p0_berths_holders, .ref h_p0_berths_ends])), (h_p0_berths_ends, .inl (cyI, 3, .inl v_ends)), (h_p0_berths_holders, .inl (cyI, 162, .inl v_holders)), (h_p0_roster, .inr (3, [.ref h_p0_roster_cells, .int v_size])), (h_p0_roster_cells, .inl (cyI, 280, .inl v_cells)), (h_p0_settings, .inl (cyI, 3, .inl v_settings)), (h_p1, .inr (5, [.ref h_p1_berths, .ref h_p1_roster, .ref h_p1_settings, .int v_nextNumber_1, .int v_bookings_1, .int v_leftOut_1])), (h_p1_berths, .inr (0, [.ref h_p1_berths_holders, .ref h_p1_berths_ends])), (h_p1_berths_ends, .inl (cyI, 3, .inl v_ends_1)), (h_p1_berths_holders, .inl (cyI, 162, .inl v_holders_1)), (h_p1_roster, .inr (3, [.ref h_p1_roster_cells, .int v_size_1])), (h_p1_roster_cells, .inl (cyI, 280, .inl v_cells_1)), (h_p1_settings, .inl (cyI, 3, .inl v_settings_1))] sz) [(h_p0, .inr (5, [.ref h_p0_berths, .ref h_p0_roster, .ref h_p0_settings, .int o.1, .int o.2.1, .int o.2.2.1])), (h_p0_berths, .inr (0, [.ref h_p0_berths_holders, .ref h_p0_berths_ends])), (h_p0_berths_ends, .inl (cyI, 3, .inl o.2.2.2.1)), (h_p0_berths_holders, .inl (cyI, 162, .inl o.2.2.2.2.1)), (h_p0_roster, .inr (3, [.ref h_p0_roster_cells, .int o.2.2.2.2.2.1])), (h_p0_roster_cells, .inl (cyI, 280, .inl o.2.2.2.2.2.2.1)), (h_p0_settings, .inl (cyI, 3, .inl o.2.2.2.2.2.2.2)), (h_p1, .inr (5, [.ref h_p1_berths, .ref h_p1_roster, .ref h_p1_settings, .int v_nextNumber_1, .int v_bookings_1, .int v_leftOut_1])), (h_p1_berths, .inr (0, [.ref h_p1_berths_holders, .ref h_p1_berths_ends])), (h_p1_berths_ends, .inl (cyI, 3, .inl v_ends_1)), (h_p1_berths_holders, .inl (cyI, 162, .inl v_holders_1)), (h_p1_roster, .inr (3, [.ref h_p1_roster_cells, .int v_size_1])), (h_p1_roster_cells, .inl (cyI, 280, .inl v_cells_1)), (h_p1_settings, .inl (cyI, 3, .inl v_settings_1))] t) (va_A [(h_p0, .inr (5, [.ref h_p0_berths, .ref h_p0_roster, .ref h_p0_settings, .int v_nextNumber, .int v_bookings, .int v_leftOut])), (h_p0_berths, .inr (0, [.ref h_p0_berths_holders, .ref h_p0_berths_ends])), (h_p0_berths_ends, .inl (cyI, 3, .inl v_ends)), (h_p0_berths_holders, .inl (cyI, 162, .inl v_holders)), (h_p0_roster, .inr (3, [.ref h_p0_roster_cells, .int v_size])), (h_p0_roster_cells, .inl (cyI, 280, .inl v_cells)), (h_p0_settings, .inl (cyI, 3, .inl v_settings)), (h_p1, .inr (5, [.ref h_p1_berths, .ref h_p1_roster, .ref h_p1_settings, .int v_nextNumber_1, .int v_bookings_1, .int v_leftOut_1])), (h_p1_berths, .inr (0, [.ref h_p1_berths_holders, .ref h_p1_berths_ends])), (h_p1_berths_ends, .inl (cyI, 3, .inl v_ends_1)), (h_p1_berths_holders, .inl (cyI, 162, .inl v_holders_1)), (h_p1_roster, .inr (3, [.ref h_p1_roster_cells, .int v_size_1])), (h_p1_roster_cells, .inl (cyI, 280, .inl v_cells_1)), (h_p1_settings, .inl (cyI, 3, .inl v_settings_1))] sz)) 0 0 (va_A [(h_p0, .inr (5, [.ref h_p0_berths, .ref h_p0_roster, .ref h_p0_settings, .int v_nextNumber, .int v_bookings, .int v_leftOut])), (h_p0_berths, .inr (0, [.ref h_p0_berths_holders, .ref h_p0_berths_ends])), (h_p0_berths_ends, .inl (cyI, 3, .inl v_ends)), (h_p0_berths_holders, .inl (cyI, 162, .inl v_holders)), (h_p0_roster, .inr (3, [.ref h_p0_roster_cells, .int v_size])), (h_p0_roster_cells, .inl (cyI, 280, .inl v_cells)), (h_p0_settings, .inl (cyI, 3, .inl v_settings)), (h_p1, .inr (5, [.ref h_p1_berths, .ref h_p1_roster, .ref h_p1_settings, .int v_nextNumber_1, .int v_bookings_1, .int v_leftOut_1])), (h_p1_berths, .inr (0, [.ref h_p1_berths_holders, .ref h_p1_berths_ends])), (h_p1_berths_ends, .inl (cyI, 3, .inl v_ends_1)), (h_p1_berths_holders, .inl (cyI, 162, .inl v_holders_1)), (h_p1_roster, .inr (3, [.ref h_p1_roster_cells, .int v_size_1])), (h_p1_roster_cells, .inl (cyI, 280, .inl v_cells_1)), (h_p1_settings, .inl (cyI, 3, .inl v_settings_1))] sz) := by
  refine Met.ofW (cc := cX5_takeOver) (maxL := 2) (ret := none) (by decide) rfl ?_
  intro p e s m args below meth c s₁ B hml hv
  obtain ⟨rfl, hsz, hP, hK, hD0, hNW⟩ := hv
  have hx := B.exec
  have hb := B.bytes
  have hr := B.returns
  have hts := atoms_spec (ws := wsX5_takeOver) B.pre
  have hown : s.vm.findClass RX5 = some m.cls := findClass_of_methodNamed B.named
  have hlocks := B.notSynchronized
  subst hsz
  have hD := hD0.self (sz := s.heap.size)
  generalize hAe : va_A [(h_p0, .inr (5, [.ref h_p0_berths, .ref h_p0_roster, .ref h_p0_settings, .int v_nextNumber, .int v_bookings, .int v_leftOut])), (h_p0_berths, .inr (0, [.ref h_p0_berths_holders, .ref h_p0_berths_ends])), (h_p0_berths_ends, .inl (cyI, 3, .inl v_ends)), (h_p0_berths_holders, .inl (cyI, 162, .inl v_holders)), (h_p0_roster, .inr (3, [.ref h_p0_roster_cells, .int v_size])), (h_p0_roster_cells, .inl (cyI, 280, .inl v_cells)), (h_p0_settings, .inl (cyI, 3, .inl v_settings)), (h_p1, .inr (5, [.ref h_p1_berths, .ref h_p1_roster, .ref h_p1_settings, .int v_nextNumber_1, .int v_bookings_1, .int v_leftOut_1])), (h_p1_berths, .inr (0, [.ref h_p1_berths_holders, .ref h_p1_berths_ends])), (h_p1_berths_ends, .inl (cyI, 3, .inl v_ends_1)), (h_p1_berths_holders, .inl (cyI, 162, .inl v_holders_1)), (h_p1_roster, .inr (3, [.ref h_p1_roster_cells, .int v_size_1])), (h_p1_roster_cells, .inl (cyI, 280, .inl v_cells_1)), (h_p1_settings, .inl (cyI, 3, .inl v_settings_1))] s.heap.size = A at hD ⊢
  have hA : ∀ q : Nat, s.heap.size ≤ q → A q := fun q h => by rw [← hAe]; exact Or.inr h
  have hS : va_S A s.heap s.heap [] := va_S.rf
  have hP : va_P (dC, dI) vwCl [(h_p0, .inr (5, [.ref h_p0_berths, .ref h_p0_roster, .ref h_p0_settings, .int v_nextNumber, .int v_bookings, .int v_leftOut])), (h_p0_berths, .inr (0, [.ref h_p0_berths_holders, .ref h_p0_berths_ends])), (h_p0_berths_ends, .inl (cyI, 3, .inl v_ends)), (h_p0_berths_holders, .inl (cyI, 162, .inl v_holders)), (h_p0_roster, .inr (3, [.ref h_p0_roster_cells, .int v_size])), (h_p0_roster_cells, .inl (cyI, 280, .inl v_cells)), (h_p0_settings, .inl (cyI, 3, .inl v_settings)), (h_p1, .inr (5, [.ref h_p1_berths, .ref h_p1_roster, .ref h_p1_settings, .int v_nextNumber_1, .int v_bookings_1, .int v_leftOut_1])), (h_p1_berths, .inr (0, [.ref h_p1_berths_holders, .ref h_p1_berths_ends])), (h_p1_berths_ends, .inl (cyI, 3, .inl v_ends_1)), (h_p1_berths_holders, .inl (cyI, 162, .inl v_holders_1)), (h_p1_roster, .inr (3, [.ref h_p1_roster_cells, .int v_size_1])), (h_p1_roster_cells, .inl (cyI, 280, .inl v_cells_1)), (h_p1_settings, .inl (cyI, 3, .inl v_settings_1))] s.heap := hP
  have hl := lv_entry ([.ref h_p0, .ref h_p1]) (n := 2) (Nat.le_of_ble_eq_true rfl)
  rw [lg_entry_eq]
  generalize (lg_sl ([.ref h_p0, .ref h_p1]) ++ List.replicate (2 - (lg_sl ([.ref h_p0, .ref h_p1])).length) Slot.unset).toArray = ls at hl ⊢
  have hl : lv_has ls 2 [(0, .ref h_p0), (1, .ref h_p1)] := hl
  unfold s_X5_takeOver at h
  refine lv_aload_n hx hb dX5_takeOver_0 rfl (lv_at hl 0 rfl) ?_
  refine va_get (D := (dC, dI)) (ci := 5) (v := .ref h_p0_berths) (C := RX5) (T := TX5) (N := 6) hx hb hts m_X5_takeOver_0 hown hK hP 0 rfl rfl 0 (by decide) (hts (.fieldLink RX5 12 "SleeperBerths$Train" "berths" "LSleeperBerths$Berths;") m_X5_takeOver_1) (fun _ h9 => h9) rfl dX5_takeOver_1 ?_
  refine lv_aload_n hx hb dX5_takeOver_4 rfl (lv_at hl 1 rfl) ?_
  refine va_get (D := (dC, dI)) (ci := 5) (v := .ref h_p1_berths) (C := RX5) (T := TX5) (N := 6) hx hb hts m_X5_takeOver_0 hown hK hP 7 rfl rfl 0 (by decide) (hts (.fieldLink RX5 12 "SleeperBerths$Train" "berths" "LSleeperBerths$Berths;") m_X5_takeOver_1) (fun _ h9 => h9) rfl dX5_takeOver_5 ?_
  obtain ⟨r1, e2, h⟩ := bsome h
  have hPc := sb_P [(h_p0_berths, .inr (0, [.ref h_p0_berths_holders, .ref h_p0_berths_ends])), (h_p0_berths_ends, .inl (cyI, 3, .inl v_ends)), (h_p0_berths_holders, .inl (cyI, 162, .inl v_holders)), (h_p1_berths, .inr (0, [.ref h_p1_berths_holders, .ref h_p1_berths_ends])), (h_p1_berths_ends, .inl (cyI, 3, .inl v_ends_1)), (h_p1_berths_holders, .inl (cyI, 162, .inl v_holders_1))] hP [1, 2, 3, 8, 9, 10] rfl
  have hDc := sb_D [(h_p0_berths, .inr (0, [.ref h_p0_berths_holders, .ref h_p0_berths_ends])), (h_p0_berths_ends, .inl (cyI, 3, .inl v_ends)), (h_p0_berths_holders, .inl (cyI, 162, .inl v_holders)), (h_p1_berths, .inr (0, [.ref h_p1_berths_holders, .ref h_p1_berths_ends])), (h_p1_berths_ends, .inl (cyI, 3, .inl v_ends_1)), (h_p1_berths_holders, .inl (cyI, 162, .inl v_holders_1))] hD [1, 2, 3, 8, 9, 10] (by decide) rfl
  have hFc := va_free (wc := [(h_p0_berths, .inr (0, [.ref h_p0_berths_holders, .ref h_p0_berths_ends])), (h_p0_berths_ends, .inl (cyI, 3, .inl v_ends)), (h_p0_berths_holders, .inl (cyI, 162, .inl v_holders)), (h_p1_berths, .inr (0, [.ref h_p1_berths_holders, .ref h_p1_berths_ends])), (h_p1_berths_ends, .inl (cyI, 3, .inl v_ends_1)), (h_p1_berths_holders, .inl (cyI, 162, .inl v_holders_1))]) hD hS hA [1, 2, 3, 8, 9, 10] rfl
  refine va_callv (va_runV (As := [.ref h_p1_berths]) (rest := []) ⟨hx, hb, hml, hown, hts⟩ (c_X0_takeOver l dC dI cyI cyJ cyT h_p0_berths h_p0_berths_holders h_p0_berths_ends h_p1_berths h_p1_berths_holders h_p1_berths_ends s.heap.size v_ends v_holders v_ends_1 v_holders_1 n r1 e2) (cwV 1 hts gX5_takeOver_X0_takeOver rfl rfl rfl (by decide +kernel) ⟨Nat.le_of_ble_eq_true rfl, Nat.le_of_ble_eq_true rfl⟩) ⟨PRE.blind, va_recv hK hPc (ci := 0) (q0 := 0) rfl rfl, PRE.go hK hPc hDc hNW⟩ rfl rfl hl.1 rfl (lv_room (Nat.le_of_ble_eq_true rfl)) dX5_takeOver_8 ⟨Nat.zero_le _, Nat.zero_le _⟩) hS (fun q _ h => hFc q h) hFc (fun u t H locs ht hvm hw hB hz1 hk1 hS => ?_)
  obtain ⟨hP, hD⟩ := va_join (wr := [(h_p0, .inr (5, [.ref h_p0_berths, .ref h_p0_roster, .ref h_p0_settings, .int v_nextNumber, .int v_bookings, .int v_leftOut])), (h_p0_roster, .inr (3, [.ref h_p0_roster_cells, .int v_size])), (h_p0_roster_cells, .inl (cyI, 280, .inl v_cells)), (h_p0_settings, .inl (cyI, 3, .inl v_settings)), (h_p1, .inr (5, [.ref h_p1_berths, .ref h_p1_roster, .ref h_p1_settings, .int v_nextNumber_1, .int v_bookings_1, .int v_leftOut_1])), (h_p1_roster, .inr (3, [.ref h_p1_roster_cells, .int v_size_1])), (h_p1_roster_cells, .inl (cyI, 280, .inl v_cells_1)), (h_p1_settings, .inl (cyI, 3, .inl v_settings_1))]) (w1 := [(h_p0_berths, .inr (0, [.ref h_p0_berths_holders, .ref h_p0_berths_ends])), (h_p0_berths_ends, .inl (cyI, 3, .inl r1.1)), (h_p0_berths_holders, .inl (cyI, 162, .inl r1.2)), (h_p1_berths, .inr (0, [.ref h_p1_berths_holders, .ref h_p1_berths_ends])), (h_p1_berths_ends, .inl (cyI, 3, .inl v_ends_1)), (h_p1_berths_holders, .inl (cyI, 162, .inl v_holders_1))]) hP hD [1, 2, 3, 8, 9, 10] [0, 4, 5, 6, 7, 11, 12, 13] rfl rfl (by decide) (by decide) hk1 hFc (WLD.P hB ht) hB.2
  have hP : va_P (dC, dI) vwCl [(h_p0, .inr (5, [.ref h_p0_berths, .ref h_p0_roster, .ref h_p0_settings, .int v_nextNumber, .int v_bookings, .int v_leftOut])), (h_p0_roster, .inr (3, [.ref h_p0_roster_cells, .int v_size])), (h_p0_roster_cells, .inl (cyI, 280, .inl v_cells)), (h_p0_settings, .inl (cyI, 3, .inl v_settings)), (h_p1, .inr (5, [.ref h_p1_berths, .ref h_p1_roster, .ref h_p1_settings, .int v_nextNumber_1, .int v_bookings_1, .int v_leftOut_1])), (h_p1_roster, .inr (3, [.ref h_p1_roster_cells, .int v_size_1])), (h_p1_roster_cells, .inl (cyI, 280, .inl v_cells_1)), (h_p1_settings, .inl (cyI, 3, .inl v_settings_1)), (h_p0_berths, .inr (0, [.ref h_p0_berths_holders, .ref h_p0_berths_ends])), (h_p0_berths_ends, .inl (cyI, 3, .inl r1.1)), (h_p0_berths_holders, .inl (cyI, 162, .inl r1.2)), (h_p1_berths, .inr (0, [.ref h_p1_berths_holders, .ref h_p1_berths_ends])), (h_p1_berths_ends, .inl (cyI, 3, .inl v_ends_1)), (h_p1_berths_holders, .inl (cyI, 162, .inl v_holders_1))] H := hP
  have hD : va_D A [(h_p0, .inr (5, [.ref h_p0_berths, .ref h_p0_roster, .ref h_p0_settings, .int v_nextNumber, .int v_bookings, .int v_leftOut])), (h_p0_roster, .inr (3, [.ref h_p0_roster_cells, .int v_size])), (h_p0_roster_cells, .inl (cyI, 280, .inl v_cells)), (h_p0_settings, .inl (cyI, 3, .inl v_settings)), (h_p1, .inr (5, [.ref h_p1_berths, .ref h_p1_roster, .ref h_p1_settings, .int v_nextNumber_1, .int v_bookings_1, .int v_leftOut_1])), (h_p1_roster, .inr (3, [.ref h_p1_roster_cells, .int v_size_1])), (h_p1_roster_cells, .inl (cyI, 280, .inl v_cells_1)), (h_p1_settings, .inl (cyI, 3, .inl v_settings_1)), (h_p0_berths, .inr (0, [.ref h_p0_berths_holders, .ref h_p0_berths_ends])), (h_p0_berths_ends, .inl (cyI, 3, .inl r1.1)), (h_p0_berths_holders, .inl (cyI, 162, .inl r1.2)), (h_p1_berths, .inr (0, [.ref h_p1_berths_holders, .ref h_p1_berths_ends])), (h_p1_berths_ends, .inl (cyI, 3, .inl v_ends_1)), (h_p1_berths_holders, .inl (cyI, 162, .inl v_holders_1))] := hD
  refine lv_aload_n hx hb dX5_takeOver_11 rfl (lv_at hl 0 rfl) ?_
  refine va_get (D := (dC, dI)) (ci := 5) (v := .ref h_p0_roster) (C := RX5) (T := TX5) (N := 6) hx hb hts m_X5_takeOver_0 hown hK hP 0 rfl rfl 1 (by decide) (hts (.fieldLink RX5 21 "SleeperBerths$Train" "roster" "LSleeperBerths$Roster;") m_X5_takeOver_2) (fun _ h9 => h9) rfl dX5_takeOver_12 ?_
  refine lv_aload_n hx hb dX5_takeOver_15 rfl (lv_at hl 1 rfl) ?_
  refine va_get (D := (dC, dI)) (ci := 5) (v := .ref h_p1_roster) (C := RX5) (T := TX5) (N := 6) hx hb hts m_X5_takeOver_0 hown hK hP 4 rfl rfl 1 (by decide) (hts (.fieldLink RX5 21 "SleeperBerths$Train" "roster" "LSleeperBerths$Roster;") m_X5_takeOver_2) (fun _ h9 => h9) rfl dX5_takeOver_16 ?_
  obtain ⟨r4, e5, h⟩ := bsome h
  have hPc := sb_P [(h_p0_roster, .inr (3, [.ref h_p0_roster_cells, .int v_size])), (h_p0_roster_cells, .inl (cyI, 280, .inl v_cells)), (h_p1_roster, .inr (3, [.ref h_p1_roster_cells, .int v_size_1])), (h_p1_roster_cells, .inl (cyI, 280, .inl v_cells_1))] hP [1, 2, 5, 6] rfl
  have hDc := sb_D [(h_p0_roster, .inr (3, [.ref h_p0_roster_cells, .int v_size])), (h_p0_roster_cells, .inl (cyI, 280, .inl v_cells)), (h_p1_roster, .inr (3, [.ref h_p1_roster_cells, .int v_size_1])), (h_p1_roster_cells, .inl (cyI, 280, .inl v_cells_1))] hD [1, 2, 5, 6] (by decide) rfl
  have hFc := va_free (wc := [(h_p0_roster, .inr (3, [.ref h_p0_roster_cells, .int v_size])), (h_p0_roster_cells, .inl (cyI, 280, .inl v_cells)), (h_p1_roster, .inr (3, [.ref h_p1_roster_cells, .int v_size_1])), (h_p1_roster_cells, .inl (cyI, 280, .inl v_cells_1))]) hD hS hA [1, 2, 5, 6] rfl
  refine va_callv (va_runV (As := [.ref h_p1_roster]) (rest := []) ⟨hx, hb, hml, hown, hts⟩ (c_X3_takeOver l dC dI cyI cyJ cyT h_p0_roster h_p0_roster_cells h_p1_roster h_p1_roster_cells H.size v_size v_cells v_size_1 v_cells_1 n r4 e5) (cwV 1 hts gX5_takeOver_X3_takeOver rfl rfl rfl (by decide +kernel) ⟨Nat.le_of_ble_eq_true rfl, Nat.le_of_ble_eq_true rfl⟩) ⟨PRE.blind, va_recv hK hPc (ci := 3) (q0 := 0) rfl rfl, PRE.go hK hPc hDc hNW⟩ rfl rfl hl.1 rfl (lv_room (Nat.le_of_ble_eq_true rfl)) dX5_takeOver_19 ⟨Nat.zero_le _, Nat.zero_le _⟩) hS (fun q _ h => hFc q h) hFc (fun u t H locs ht hvm hw hB hz1 hk1 hS => ?_)
  obtain ⟨hP, hD⟩ := va_join (wr := [(h_p0, .inr (5, [.ref h_p0_berths, .ref h_p0_roster, .ref h_p0_settings, .int v_nextNumber, .int v_bookings, .int v_leftOut])), (h_p0_settings, .inl (cyI, 3, .inl v_settings)), (h_p1, .inr (5, [.ref h_p1_berths, .ref h_p1_roster, .ref h_p1_settings, .int v_nextNumber_1, .int v_bookings_1, .int v_leftOut_1])), (h_p1_settings, .inl (cyI, 3, .inl v_settings_1)), (h_p0_berths, .inr (0, [.ref h_p0_berths_holders, .ref h_p0_berths_ends])), (h_p0_berths_ends, .inl (cyI, 3, .inl r1.1)), (h_p0_berths_holders, .inl (cyI, 162, .inl r1.2)), (h_p1_berths, .inr (0, [.ref h_p1_berths_holders, .ref h_p1_berths_ends])), (h_p1_berths_ends, .inl (cyI, 3, .inl v_ends_1)), (h_p1_berths_holders, .inl (cyI, 162, .inl v_holders_1))]) (w1 := [(h_p0_roster, .inr (3, [.ref h_p0_roster_cells, .int r4.1])), (h_p0_roster_cells, .inl (cyI, 280, .inl r4.2)), (h_p1_roster, .inr (3, [.ref h_p1_roster_cells, .int v_size_1])), (h_p1_roster_cells, .inl (cyI, 280, .inl v_cells_1))]) hP hD [1, 2, 5, 6] [0, 3, 4, 7, 8, 9, 10, 11, 12, 13] rfl rfl (by decide) (by decide) hk1 hFc (WLD.P hB ht) hB.2
  have hP : va_P (dC, dI) vwCl [(h_p0, .inr (5, [.ref h_p0_berths, .ref h_p0_roster, .ref h_p0_settings, .int v_nextNumber, .int v_bookings, .int v_leftOut])), (h_p0_settings, .inl (cyI, 3, .inl v_settings)), (h_p1, .inr (5, [.ref h_p1_berths, .ref h_p1_roster, .ref h_p1_settings, .int v_nextNumber_1, .int v_bookings_1, .int v_leftOut_1])), (h_p1_settings, .inl (cyI, 3, .inl v_settings_1)), (h_p0_berths, .inr (0, [.ref h_p0_berths_holders, .ref h_p0_berths_ends])), (h_p0_berths_ends, .inl (cyI, 3, .inl r1.1)), (h_p0_berths_holders, .inl (cyI, 162, .inl r1.2)), (h_p1_berths, .inr (0, [.ref h_p1_berths_holders, .ref h_p1_berths_ends])), (h_p1_berths_ends, .inl (cyI, 3, .inl v_ends_1)), (h_p1_berths_holders, .inl (cyI, 162, .inl v_holders_1)), (h_p0_roster, .inr (3, [.ref h_p0_roster_cells, .int r4.1])), (h_p0_roster_cells, .inl (cyI, 280, .inl r4.2)), (h_p1_roster, .inr (3, [.ref h_p1_roster_cells, .int v_size_1])), (h_p1_roster_cells, .inl (cyI, 280, .inl v_cells_1))] H := hP
  have hD : va_D A [(h_p0, .inr (5, [.ref h_p0_berths, .ref h_p0_roster, .ref h_p0_settings, .int v_nextNumber, .int v_bookings, .int v_leftOut])), (h_p0_settings, .inl (cyI, 3, .inl v_settings)), (h_p1, .inr (5, [.ref h_p1_berths, .ref h_p1_roster, .ref h_p1_settings, .int v_nextNumber_1, .int v_bookings_1, .int v_leftOut_1])), (h_p1_settings, .inl (cyI, 3, .inl v_settings_1)), (h_p0_berths, .inr (0, [.ref h_p0_berths_holders, .ref h_p0_berths_ends])), (h_p0_berths_ends, .inl (cyI, 3, .inl r1.1)), (h_p0_berths_holders, .inl (cyI, 162, .inl r1.2)), (h_p1_berths, .inr (0, [.ref h_p1_berths_holders, .ref h_p1_berths_ends])), (h_p1_berths_ends, .inl (cyI, 3, .inl v_ends_1)), (h_p1_berths_holders, .inl (cyI, 162, .inl v_holders_1)), (h_p0_roster, .inr (3, [.ref h_p0_roster_cells, .int r4.1])), (h_p0_roster_cells, .inl (cyI, 280, .inl r4.2)), (h_p1_roster, .inr (3, [.ref h_p1_roster_cells, .int v_size_1])), (h_p1_roster_cells, .inl (cyI, 280, .inl v_cells_1))] := hD
  refine lv_aload_n hx hb dX5_takeOver_22 rfl (lv_at hl 1 rfl) ?_
  refine va_get (D := (dC, dI)) (ci := 5) (v := .ref h_p1_settings) (C := RX5) (T := TX5) (N := 6) hx hb hts m_X5_takeOver_0 hown hK hP 2 rfl rfl 2 (by decide) (hts (.fieldLink RX5 25 "SleeperBerths$Train" "settings" "[I") m_X5_takeOver_3) (fun _ h9 => h9) rfl dX5_takeOver_23 ?_
  refine lv_aload_n hx hb dX5_takeOver_26 rfl (lv_at hl 0 rfl) ?_
  refine va_get (D := (dC, dI)) (ci := 5) (v := .ref h_p0_settings) (C := RX5) (T := TX5) (N := 6) hx hb hts m_X5_takeOver_0 hown hK hP 0 rfl rfl 2 (by decide) (hts (.fieldLink RX5 25 "SleeperBerths$Train" "settings" "[I") m_X5_takeOver_3) (fun _ h9 => h9) rfl dX5_takeOver_27 ?_
  obtain ⟨r7, e8, h⟩ := bsome h
  have hPc := sb_P [(h_p1_settings, .inl (cyI, 3, .inl v_settings_1)), (h_p0_settings, .inl (cyI, 3, .inl v_settings))] hP [3, 1] rfl
  have hDc := sb_D [(h_p1_settings, .inl (cyI, 3, .inl v_settings_1)), (h_p0_settings, .inl (cyI, 3, .inl v_settings))] hD [3, 1] (by decide) rfl
  have hFc := va_free (wc := [(h_p1_settings, .inl (cyI, 3, .inl v_settings_1)), (h_p0_settings, .inl (cyI, 3, .inl v_settings))]) hD hS hA [3, 1] rfl
  refine va_callv (va_runSN (As := [.ref h_p1_settings, .ref h_p0_settings]) (rest := []) ⟨hx, hb, hml, hown, hts⟩ (c_X6_copyAll l dC dI cyI cyJ cyT h_p1_settings h_p0_settings H.size 3 3 v_settings_1 v_settings n r7 e8) ⟨va_cnB (host := "SleeperBerths") 2 hts gX5_takeOver_X6_copyAll_n36 rfl rfl rfl (hNW.1 9 rfl) (hts (.initialized RX6) m_X5_takeOver_4) (by decide +kernel) ⟨Nat.le_of_ble_eq_true rfl, Nat.le_of_ble_eq_true rfl⟩, (hts (.static yX6_copyAll) m_X5_takeOver_5), trivial⟩ ⟨PRE.blind, PRE.go hK hPc hDc hNW⟩ rfl rfl hl.1 rfl (lv_room (Nat.le_of_ble_eq_true rfl)) dX5_takeOver_30 ⟨Nat.zero_le _, Nat.zero_le _⟩) hS (fun q _ h => hFc q h) hFc (fun u t H locs ht hvm hw hB hz1 hk1 hS => ?_)
  obtain ⟨hP, hD⟩ := va_join (wr := [(h_p0, .inr (5, [.ref h_p0_berths, .ref h_p0_roster, .ref h_p0_settings, .int v_nextNumber, .int v_bookings, .int v_leftOut])), (h_p1, .inr (5, [.ref h_p1_berths, .ref h_p1_roster, .ref h_p1_settings, .int v_nextNumber_1, .int v_bookings_1, .int v_leftOut_1])), (h_p0_berths, .inr (0, [.ref h_p0_berths_holders, .ref h_p0_berths_ends])), (h_p0_berths_ends, .inl (cyI, 3, .inl r1.1)), (h_p0_berths_holders, .inl (cyI, 162, .inl r1.2)), (h_p1_berths, .inr (0, [.ref h_p1_berths_holders, .ref h_p1_berths_ends])), (h_p1_berths_ends, .inl (cyI, 3, .inl v_ends_1)), (h_p1_berths_holders, .inl (cyI, 162, .inl v_holders_1)), (h_p0_roster, .inr (3, [.ref h_p0_roster_cells, .int r4.1])), (h_p0_roster_cells, .inl (cyI, 280, .inl r4.2)), (h_p1_roster, .inr (3, [.ref h_p1_roster_cells, .int v_size_1])), (h_p1_roster_cells, .inl (cyI, 280, .inl v_cells_1))]) (w1 := [(h_p1_settings, .inl (cyI, 3, .inl v_settings_1)), (h_p0_settings, .inl (cyI, 3, .inl r7))]) hP hD [3, 1] [0, 2, 4, 5, 6, 7, 8, 9, 10, 11, 12, 13] rfl rfl (by decide) (by decide) hk1 hFc (WLD.P hB ht) hB.2
  have hP : va_P (dC, dI) vwCl [(h_p0, .inr (5, [.ref h_p0_berths, .ref h_p0_roster, .ref h_p0_settings, .int v_nextNumber, .int v_bookings, .int v_leftOut])), (h_p1, .inr (5, [.ref h_p1_berths, .ref h_p1_roster, .ref h_p1_settings, .int v_nextNumber_1, .int v_bookings_1, .int v_leftOut_1])), (h_p0_berths, .inr (0, [.ref h_p0_berths_holders, .ref h_p0_berths_ends])), (h_p0_berths_ends, .inl (cyI, 3, .inl r1.1)), (h_p0_berths_holders, .inl (cyI, 162, .inl r1.2)), (h_p1_berths, .inr (0, [.ref h_p1_berths_holders, .ref h_p1_berths_ends])), (h_p1_berths_ends, .inl (cyI, 3, .inl v_ends_1)), (h_p1_berths_holders, .inl (cyI, 162, .inl v_holders_1)), (h_p0_roster, .inr (3, [.ref h_p0_roster_cells, .int r4.1])), (h_p0_roster_cells, .inl (cyI, 280, .inl r4.2)), (h_p1_roster, .inr (3, [.ref h_p1_roster_cells, .int v_size_1])), (h_p1_roster_cells, .inl (cyI, 280, .inl v_cells_1)), (h_p1_settings, .inl (cyI, 3, .inl v_settings_1)), (h_p0_settings, .inl (cyI, 3, .inl r7))] H := hP
  have hD : va_D A [(h_p0, .inr (5, [.ref h_p0_berths, .ref h_p0_roster, .ref h_p0_settings, .int v_nextNumber, .int v_bookings, .int v_leftOut])), (h_p1, .inr (5, [.ref h_p1_berths, .ref h_p1_roster, .ref h_p1_settings, .int v_nextNumber_1, .int v_bookings_1, .int v_leftOut_1])), (h_p0_berths, .inr (0, [.ref h_p0_berths_holders, .ref h_p0_berths_ends])), (h_p0_berths_ends, .inl (cyI, 3, .inl r1.1)), (h_p0_berths_holders, .inl (cyI, 162, .inl r1.2)), (h_p1_berths, .inr (0, [.ref h_p1_berths_holders, .ref h_p1_berths_ends])), (h_p1_berths_ends, .inl (cyI, 3, .inl v_ends_1)), (h_p1_berths_holders, .inl (cyI, 162, .inl v_holders_1)), (h_p0_roster, .inr (3, [.ref h_p0_roster_cells, .int r4.1])), (h_p0_roster_cells, .inl (cyI, 280, .inl r4.2)), (h_p1_roster, .inr (3, [.ref h_p1_roster_cells, .int v_size_1])), (h_p1_roster_cells, .inl (cyI, 280, .inl v_cells_1)), (h_p1_settings, .inl (cyI, 3, .inl v_settings_1)), (h_p0_settings, .inl (cyI, 3, .inl r7))] := hD
  refine lv_aload_n hx hb dX5_takeOver_33 rfl (lv_at hl 0 rfl) ?_
  refine lv_aload_n hx hb dX5_takeOver_34 rfl (lv_at hl 1 rfl) ?_
  refine va_get (D := (dC, dI)) (ci := 5) (v := .int v_nextNumber_1) (C := RX5) (T := TX5) (N := 6) hx hb hts m_X5_takeOver_0 hown hK hP 1 rfl rfl 3 (by decide) (hts (.fieldLink RX5 40 "SleeperBerths$Train" "nextNumber" "I") m_X5_takeOver_6) (fun _ h9 => h9) rfl dX5_takeOver_35 ?_
  refine va_put (D := (dC, dI)) (ci := 5) (v := .int v_nextNumber_1) (ty := .int) (C := RX5) (T := TX5) (N := 6) hx hb hts m_X5_takeOver_0 tyX5 tyX5_ok nmX5 hown hK hP hD hS 0 rfl rfl 3 (by decide) (hts (.fieldLink RX5 40 "SleeperBerths$Train" "nextNumber" "I") m_X5_takeOver_6) (fun _ h9 => h9) rfl (by decide +kernel) rfl rfl (Nat.le_of_ble_eq_true rfl) dX5_takeOver_38 (fun H locs hP hD hS => ?_)
  have hP : va_P (dC, dI) vwCl [(h_p0, .inr (5, [.ref h_p0_berths, .ref h_p0_roster, .ref h_p0_settings, .int v_nextNumber_1, .int v_bookings, .int v_leftOut])), (h_p1, .inr (5, [.ref h_p1_berths, .ref h_p1_roster, .ref h_p1_settings, .int v_nextNumber_1, .int v_bookings_1, .int v_leftOut_1])), (h_p0_berths, .inr (0, [.ref h_p0_berths_holders, .ref h_p0_berths_ends])), (h_p0_berths_ends, .inl (cyI, 3, .inl r1.1)), (h_p0_berths_holders, .inl (cyI, 162, .inl r1.2)), (h_p1_berths, .inr (0, [.ref h_p1_berths_holders, .ref h_p1_berths_ends])), (h_p1_berths_ends, .inl (cyI, 3, .inl v_ends_1)), (h_p1_berths_holders, .inl (cyI, 162, .inl v_holders_1)), (h_p0_roster, .inr (3, [.ref h_p0_roster_cells, .int r4.1])), (h_p0_roster_cells, .inl (cyI, 280, .inl r4.2)), (h_p1_roster, .inr (3, [.ref h_p1_roster_cells, .int v_size_1])), (h_p1_roster_cells, .inl (cyI, 280, .inl v_cells_1)), (h_p1_settings, .inl (cyI, 3, .inl v_settings_1)), (h_p0_settings, .inl (cyI, 3, .inl r7))] H := hP
  have hD : va_D A [(h_p0, .inr (5, [.ref h_p0_berths, .ref h_p0_roster, .ref h_p0_settings, .int v_nextNumber_1, .int v_bookings, .int v_leftOut])), (h_p1, .inr (5, [.ref h_p1_berths, .ref h_p1_roster, .ref h_p1_settings, .int v_nextNumber_1, .int v_bookings_1, .int v_leftOut_1])), (h_p0_berths, .inr (0, [.ref h_p0_berths_holders, .ref h_p0_berths_ends])), (h_p0_berths_ends, .inl (cyI, 3, .inl r1.1)), (h_p0_berths_holders, .inl (cyI, 162, .inl r1.2)), (h_p1_berths, .inr (0, [.ref h_p1_berths_holders, .ref h_p1_berths_ends])), (h_p1_berths_ends, .inl (cyI, 3, .inl v_ends_1)), (h_p1_berths_holders, .inl (cyI, 162, .inl v_holders_1)), (h_p0_roster, .inr (3, [.ref h_p0_roster_cells, .int r4.1])), (h_p0_roster_cells, .inl (cyI, 280, .inl r4.2)), (h_p1_roster, .inr (3, [.ref h_p1_roster_cells, .int v_size_1])), (h_p1_roster_cells, .inl (cyI, 280, .inl v_cells_1)), (h_p1_settings, .inl (cyI, 3, .inl v_settings_1)), (h_p0_settings, .inl (cyI, 3, .inl r7))] := hD
  refine lv_aload_n hx hb dX5_takeOver_41 rfl (lv_at hl 0 rfl) ?_
  refine lv_aload_n hx hb dX5_takeOver_42 rfl (lv_at hl 1 rfl) ?_
  refine va_get (D := (dC, dI)) (ci := 5) (v := .int v_bookings_1) (C := RX5) (T := TX5) (N := 6) hx hb hts m_X5_takeOver_0 hown hK hP 1 rfl rfl 4 (by decide) (hts (.fieldLink RX5 44 "SleeperBerths$Train" "bookings" "I") m_X5_takeOver_7) (fun _ h9 => h9) rfl dX5_takeOver_43 ?_
  refine va_put (D := (dC, dI)) (ci := 5) (v := .int v_bookings_1) (ty := .int) (C := RX5) (T := TX5) (N := 6) hx hb hts m_X5_takeOver_0 tyX5 tyX5_ok nmX5 hown hK hP hD hS 0 rfl rfl 4 (by decide) (hts (.fieldLink RX5 44 "SleeperBerths$Train" "bookings" "I") m_X5_takeOver_7) (fun _ h9 => h9) rfl (by decide +kernel) rfl rfl (Nat.le_of_ble_eq_true rfl) dX5_takeOver_46 (fun H locs hP hD hS => ?_)
  have hP : va_P (dC, dI) vwCl [(h_p0, .inr (5, [.ref h_p0_berths, .ref h_p0_roster, .ref h_p0_settings, .int v_nextNumber_1, .int v_bookings_1, .int v_leftOut])), (h_p1, .inr (5, [.ref h_p1_berths, .ref h_p1_roster, .ref h_p1_settings, .int v_nextNumber_1, .int v_bookings_1, .int v_leftOut_1])), (h_p0_berths, .inr (0, [.ref h_p0_berths_holders, .ref h_p0_berths_ends])), (h_p0_berths_ends, .inl (cyI, 3, .inl r1.1)), (h_p0_berths_holders, .inl (cyI, 162, .inl r1.2)), (h_p1_berths, .inr (0, [.ref h_p1_berths_holders, .ref h_p1_berths_ends])), (h_p1_berths_ends, .inl (cyI, 3, .inl v_ends_1)), (h_p1_berths_holders, .inl (cyI, 162, .inl v_holders_1)), (h_p0_roster, .inr (3, [.ref h_p0_roster_cells, .int r4.1])), (h_p0_roster_cells, .inl (cyI, 280, .inl r4.2)), (h_p1_roster, .inr (3, [.ref h_p1_roster_cells, .int v_size_1])), (h_p1_roster_cells, .inl (cyI, 280, .inl v_cells_1)), (h_p1_settings, .inl (cyI, 3, .inl v_settings_1)), (h_p0_settings, .inl (cyI, 3, .inl r7))] H := hP
  have hD : va_D A [(h_p0, .inr (5, [.ref h_p0_berths, .ref h_p0_roster, .ref h_p0_settings, .int v_nextNumber_1, .int v_bookings_1, .int v_leftOut])), (h_p1, .inr (5, [.ref h_p1_berths, .ref h_p1_roster, .ref h_p1_settings, .int v_nextNumber_1, .int v_bookings_1, .int v_leftOut_1])), (h_p0_berths, .inr (0, [.ref h_p0_berths_holders, .ref h_p0_berths_ends])), (h_p0_berths_ends, .inl (cyI, 3, .inl r1.1)), (h_p0_berths_holders, .inl (cyI, 162, .inl r1.2)), (h_p1_berths, .inr (0, [.ref h_p1_berths_holders, .ref h_p1_berths_ends])), (h_p1_berths_ends, .inl (cyI, 3, .inl v_ends_1)), (h_p1_berths_holders, .inl (cyI, 162, .inl v_holders_1)), (h_p0_roster, .inr (3, [.ref h_p0_roster_cells, .int r4.1])), (h_p0_roster_cells, .inl (cyI, 280, .inl r4.2)), (h_p1_roster, .inr (3, [.ref h_p1_roster_cells, .int v_size_1])), (h_p1_roster_cells, .inl (cyI, 280, .inl v_cells_1)), (h_p1_settings, .inl (cyI, 3, .inl v_settings_1)), (h_p0_settings, .inl (cyI, 3, .inl r7))] := hD
  refine lv_aload_n hx hb dX5_takeOver_49 rfl (lv_at hl 0 rfl) ?_
  refine lv_aload_n hx hb dX5_takeOver_50 rfl (lv_at hl 1 rfl) ?_
  refine va_get (D := (dC, dI)) (ci := 5) (v := .int v_leftOut_1) (C := RX5) (T := TX5) (N := 6) hx hb hts m_X5_takeOver_0 hown hK hP 1 rfl rfl 5 (by decide) (hts (.fieldLink RX5 47 "SleeperBerths$Train" "leftOut" "I") m_X5_takeOver_8) (fun _ h9 => h9) rfl dX5_takeOver_51 ?_
  refine va_put (D := (dC, dI)) (ci := 5) (v := .int v_leftOut_1) (ty := .int) (C := RX5) (T := TX5) (N := 6) hx hb hts m_X5_takeOver_0 tyX5 tyX5_ok nmX5 hown hK hP hD hS 0 rfl rfl 5 (by decide) (hts (.fieldLink RX5 47 "SleeperBerths$Train" "leftOut" "I") m_X5_takeOver_8) (fun _ h9 => h9) rfl (by decide +kernel) rfl rfl (Nat.le_of_ble_eq_true rfl) dX5_takeOver_54 (fun H locs hP hD hS => ?_)
  have hP : va_P (dC, dI) vwCl [(h_p0, .inr (5, [.ref h_p0_berths, .ref h_p0_roster, .ref h_p0_settings, .int v_nextNumber_1, .int v_bookings_1, .int v_leftOut_1])), (h_p1, .inr (5, [.ref h_p1_berths, .ref h_p1_roster, .ref h_p1_settings, .int v_nextNumber_1, .int v_bookings_1, .int v_leftOut_1])), (h_p0_berths, .inr (0, [.ref h_p0_berths_holders, .ref h_p0_berths_ends])), (h_p0_berths_ends, .inl (cyI, 3, .inl r1.1)), (h_p0_berths_holders, .inl (cyI, 162, .inl r1.2)), (h_p1_berths, .inr (0, [.ref h_p1_berths_holders, .ref h_p1_berths_ends])), (h_p1_berths_ends, .inl (cyI, 3, .inl v_ends_1)), (h_p1_berths_holders, .inl (cyI, 162, .inl v_holders_1)), (h_p0_roster, .inr (3, [.ref h_p0_roster_cells, .int r4.1])), (h_p0_roster_cells, .inl (cyI, 280, .inl r4.2)), (h_p1_roster, .inr (3, [.ref h_p1_roster_cells, .int v_size_1])), (h_p1_roster_cells, .inl (cyI, 280, .inl v_cells_1)), (h_p1_settings, .inl (cyI, 3, .inl v_settings_1)), (h_p0_settings, .inl (cyI, 3, .inl r7))] H := hP
  have hD : va_D A [(h_p0, .inr (5, [.ref h_p0_berths, .ref h_p0_roster, .ref h_p0_settings, .int v_nextNumber_1, .int v_bookings_1, .int v_leftOut_1])), (h_p1, .inr (5, [.ref h_p1_berths, .ref h_p1_roster, .ref h_p1_settings, .int v_nextNumber_1, .int v_bookings_1, .int v_leftOut_1])), (h_p0_berths, .inr (0, [.ref h_p0_berths_holders, .ref h_p0_berths_ends])), (h_p0_berths_ends, .inl (cyI, 3, .inl r1.1)), (h_p0_berths_holders, .inl (cyI, 162, .inl r1.2)), (h_p1_berths, .inr (0, [.ref h_p1_berths_holders, .ref h_p1_berths_ends])), (h_p1_berths_ends, .inl (cyI, 3, .inl v_ends_1)), (h_p1_berths_holders, .inl (cyI, 162, .inl v_holders_1)), (h_p0_roster, .inr (3, [.ref h_p0_roster_cells, .int r4.1])), (h_p0_roster_cells, .inl (cyI, 280, .inl r4.2)), (h_p1_roster, .inr (3, [.ref h_p1_roster_cells, .int v_size_1])), (h_p1_roster_cells, .inl (cyI, 280, .inl v_cells_1)), (h_p1_settings, .inl (cyI, 3, .inl v_settings_1)), (h_p0_settings, .inl (cyI, 3, .inl r7))] := hD
  obtain rfl := Option.some.inj h
  exact W.vret hx hb hr (fun t ht hW => ⟨⟨(), rfl, trivial, WLD.of ht (sb_P [(h_p0, .inr (5, [.ref h_p0_berths, .ref h_p0_roster, .ref h_p0_settings, .int v_nextNumber_1, .int v_bookings_1, .int v_leftOut_1])), (h_p0_berths, .inr (0, [.ref h_p0_berths_holders, .ref h_p0_berths_ends])), (h_p0_berths_ends, .inl (cyI, 3, .inl r1.1)), (h_p0_berths_holders, .inl (cyI, 162, .inl r1.2)), (h_p0_roster, .inr (3, [.ref h_p0_roster_cells, .int r4.1])), (h_p0_roster_cells, .inl (cyI, 280, .inl r4.2)), (h_p0_settings, .inl (cyI, 3, .inl r7)), (h_p1, .inr (5, [.ref h_p1_berths, .ref h_p1_roster, .ref h_p1_settings, .int v_nextNumber_1, .int v_bookings_1, .int v_leftOut_1])), (h_p1_berths, .inr (0, [.ref h_p1_berths_holders, .ref h_p1_berths_ends])), (h_p1_berths_ends, .inl (cyI, 3, .inl v_ends_1)), (h_p1_berths_holders, .inl (cyI, 162, .inl v_holders_1)), (h_p1_roster, .inr (3, [.ref h_p1_roster_cells, .int v_size_1])), (h_p1_roster_cells, .inl (cyI, 280, .inl v_cells_1)), (h_p1_settings, .inl (cyI, 3, .inl v_settings_1))] hP [0, 2, 3, 4, 8, 9, 13, 1, 5, 6, 7, 10, 11, 12] rfl) (sb_D [(h_p0, .inr (5, [.ref h_p0_berths, .ref h_p0_roster, .ref h_p0_settings, .int v_nextNumber_1, .int v_bookings_1, .int v_leftOut_1])), (h_p0_berths, .inr (0, [.ref h_p0_berths_holders, .ref h_p0_berths_ends])), (h_p0_berths_ends, .inl (cyI, 3, .inl r1.1)), (h_p0_berths_holders, .inl (cyI, 162, .inl r1.2)), (h_p0_roster, .inr (3, [.ref h_p0_roster_cells, .int r4.1])), (h_p0_roster_cells, .inl (cyI, 280, .inl r4.2)), (h_p0_settings, .inl (cyI, 3, .inl r7)), (h_p1, .inr (5, [.ref h_p1_berths, .ref h_p1_roster, .ref h_p1_settings, .int v_nextNumber_1, .int v_bookings_1, .int v_leftOut_1])), (h_p1_berths, .inr (0, [.ref h_p1_berths_holders, .ref h_p1_berths_ends])), (h_p1_berths_ends, .inl (cyI, 3, .inl v_ends_1)), (h_p1_berths_holders, .inl (cyI, 162, .inl v_holders_1)), (h_p1_roster, .inr (3, [.ref h_p1_roster_cells, .int v_size_1])), (h_p1_roster_cells, .inl (cyI, 280, .inl v_cells_1)), (h_p1_settings, .inl (cyI, 3, .inl v_settings_1))] hD [0, 2, 3, 4, 8, 9, 13, 1, 5, 6, 7, 10, 11, 12] (by decide) rfl)⟩, hS.F ht⟩) hS.2.2 dX5_takeOver_57
