def s_X5_findBerths (n : Nat) (v_ends : Nat → Int32) (v_holders : Nat → Int32) (v_settings : Nat → Int32) (a1 : Int32) (a2 : Int32) (a3 : Int32) : Option (Int32 × Int32 × Int32) := ((s_X0_calmest n v_ends v_holders a1 a2).bind fun r1 => (if r1 = iI (-1) then (if a3 = 0 then ((s_X5_calmestChange n v_ends v_holders v_settings a1 a2).bind fun r10 => (if r10 = iI (-1) then ((s_X2_init (iI (-1)) (iI (-1)) (iI (-1))).bind fun r25 => (some (r25.1, r25.2.1, r25.2.2))) else ((s_X0_calmest n v_ends v_holders a1 r10).bind fun r15 => ((s_X0_calmest n v_ends v_holders r10 a2).bind fun r18 => ((s_X2_init r15 r18 r10).bind fun r21 => (some (r21.1, r21.2.1, r21.2.2))))))) else ((s_X2_init r1 r1 (iI (-1))).bind fun r29 => (some (r29.1, r29.2.1, r29.2.2)))) else ((s_X2_init r1 r1 (iI (-1))).bind fun r6 => (some (r6.1, r6.2.1, r6.2.2)))))
set_option maxRecDepth 20000 in
theorem m_X5_findBerths_0 : ∀ w ∈ u_ws RX5 TX5 6, w ∈ wsX5_findBerths := by decide +kernel
set_option maxRecDepth 20000 in
theorem m_X5_findBerths_1 : (.fieldLink RX5 12 "SleeperBerths$Train" "berths" "LSleeperBerths$Berths;" : Cond) ∈ wsX5_findBerths := by decide +kernel
set_option maxRecDepth 20000 in
theorem m_X5_findBerths_2 : ∀ w ∈ u_ws RX2 TX2 3, w ∈ wsX5_findBerths := by decide +kernel
set_option maxRecDepth 20000 in
theorem m_X5_findBerths_3 : (.classLink RX5 58 RX2 : Cond) ∈ wsX5_findBerths := by decide +kernel
set_option maxRecDepth 20000 in
theorem m_X5_findBerths_4 : (.instantiable RX2 3 : Cond) ∈ wsX5_findBerths := by decide +kernel
set_option maxRecDepth 20000 in
theorem m_X5_findBerths_5 : (.initialized RX2 : Cond) ∈ wsX5_findBerths := by decide +kernel
set_option maxRecDepth 20000 in
theorem m_X5_findBerths_6 : (.methodLink RX5 60 yX2_init : Cond) ∈ wsX5_findBerths := by decide +kernel
set_option maxRecDepth 20000 in
theorem m_X5_findBerths_7 : (.instanceMethod yX2_init : Cond) ∈ wsX5_findBerths := by decide +kernel
set_option maxHeartbeats 4000000 in
set_option maxRecDepth 100000 in
theorem c_X5_findBerths (l : Launch) (dC : Nat → ClassId) (dI : Nat → Nat → Nat) (cyI cyJ cyT : ClassId) (h_p0 : Nat) (h_p0_berths : Nat) (h_p0_roster : Nat) (h_p0_settings : Nat) (h_p0_berths_holders : Nat) (h_p0_berths_ends : Nat) (sz : Nat) (v_nextNumber : Int32) (v_bookings : Int32) (v_leftOut : Int32) (v_ends : Nat → Int32) (v_holders : Nat → Int32) (v_settings : Nat → Int32) (a1 : Int32) (a2 : Int32) (a3 : Int32) (n : Nat) (o : Int32 × Int32 × Int32) (h : s_X5_findBerths n v_ends v_holders v_settings a1 a2 a3 = some o) : Met l yX5_findBerths wsX5_findBerths ({ frames := 4, cells := 3, slots := 9, locals := 101 }) (va_Pc [.ref h_p0, .int a1, .int a2, .int a3] (PRE (dC, dI) (TYS cyI cyJ cyT) sz [(h_p0, .inr (5, [.ref h_p0_berths, .ref h_p0_roster, .ref h_p0_settings, .int v_nextNumber, .int v_bookings, .int v_leftOut])), (h_p0_berths, .inr (0, [.ref h_p0_berths_holders, .ref h_p0_berths_ends])), (h_p0_berths_ends, .inl (cyI, 3, .inl v_ends)), (h_p0_berths_holders, .inl (cyI, 162, .inl v_holders)), (h_p0_settings, .inl (cyI, 3, .inl v_settings))])) (va_Qr (S := Unit) (fun _ => True) (fun _ ra t => WLD (dC, dI) (va_A [(h_p0, .inr (5, [.ref h_p0_berths, .ref h_p0_roster, .ref h_p0_settings, .int v_nextNumber, .int v_bookings, .int v_leftOut])), (h_p0_berths, .inr (0, [.ref h_p0_berths_holders, .ref h_p0_berths_ends])), (h_p0_berths_ends, .inl (cyI, 3, .inl v_ends)), (h_p0_berths_holders, .inl (cyI, 162, .inl v_holders)), (h_p0_settings, .inl (cyI, 3, .inl v_settings))] sz) [(h_p0, .inr (5, [.ref h_p0_berths, .ref h_p0_roster, .ref h_p0_settings, .int v_nextNumber, .int v_bookings, .int v_leftOut])), (h_p0_berths, .inr (0, [.ref h_p0_berths_holders, .ref h_p0_berths_ends])), (h_p0_berths_ends, .inl (cyI, 3, .inl v_ends)), (h_p0_berths_holders, .inl (cyI, 162, .inl v_holders)), (h_p0_settings, .inl (cyI, 3, .inl v_settings)), (ra, .inr (2, [.int o.1, .int o.2.1, .int o.2.2]))] t) (va_A [(h_p0, .inr (5, [.ref h_p0_berths, .ref h_p0_roster, .ref h_p0_settings, .int v_nextNumber, .int v_bookings, .int v_leftOut])), (h_p0_berths, .inr (0, [.ref h_p0_berths_holders, .ref h_p0_berths_ends])), (h_p0_berths_ends, .inl (cyI, 3, .inl v_ends)), (h_p0_berths_holders, .inl (cyI, 162, .inl v_holders)), (h_p0_settings, .inl (cyI, 3, .inl v_settings))] sz)) 3 9 (va_A [(h_p0, .inr (5, [.ref h_p0_berths, .ref h_p0_roster, .ref h_p0_settings, .int v_nextNumber, .int v_bookings, .int v_leftOut])), (h_p0_berths, .inr (0, [.ref h_p0_berths_holders, .ref h_p0_berths_ends])), (h_p0_berths_ends, .inl (cyI, 3, .inl v_ends)), (h_p0_berths_holders, .inl (cyI, 162, .inl v_holders)), (h_p0_settings, .inl (cyI, 3, .inl v_settings))] sz) := by
  refine Met.ofW (cc := cX5_findBerths) (maxL := 6) (ret := (some (.object "SleeperBerths$Offer"))) (by decide) rfl ?_
  intro p e s m args below meth c s₁ B hml hv
  obtain ⟨rfl, hsz, hP, hK, hD0, hNW⟩ := hv
  have hx := B.exec
  have hb := B.bytes
  have hr := B.returns
  have hts := atoms_spec (ws := wsX5_findBerths) B.pre
  have hown : s.vm.findClass RX5 = some m.cls := findClass_of_methodNamed B.named
  have hlocks := B.notSynchronized
  subst hsz
  have hD := hD0.self (sz := s.heap.size)
  generalize hAe : va_A [(h_p0, .inr (5, [.ref h_p0_berths, .ref h_p0_roster, .ref h_p0_settings, .int v_nextNumber, .int v_bookings, .int v_leftOut])), (h_p0_berths, .inr (0, [.ref h_p0_berths_holders, .ref h_p0_berths_ends])), (h_p0_berths_ends, .inl (cyI, 3, .inl v_ends)), (h_p0_berths_holders, .inl (cyI, 162, .inl v_holders)), (h_p0_settings, .inl (cyI, 3, .inl v_settings))] s.heap.size = A at hD ⊢
  have hA : ∀ q : Nat, s.heap.size ≤ q → A q := fun q h => by rw [← hAe]; exact Or.inr h
  have hS : va_S A s.heap s.heap [] := va_S.rf
  have hP : va_P (dC, dI) vwCl [(h_p0, .inr (5, [.ref h_p0_berths, .ref h_p0_roster, .ref h_p0_settings, .int v_nextNumber, .int v_bookings, .int v_leftOut])), (h_p0_berths, .inr (0, [.ref h_p0_berths_holders, .ref h_p0_berths_ends])), (h_p0_berths_ends, .inl (cyI, 3, .inl v_ends)), (h_p0_berths_holders, .inl (cyI, 162, .inl v_holders)), (h_p0_settings, .inl (cyI, 3, .inl v_settings))] s.heap := hP
  have hl := lv_entry ([.ref h_p0, .int a1, .int a2, .int a3]) (n := 6) (Nat.le_of_ble_eq_true rfl)
  rw [lg_entry_eq]
  generalize (lg_sl ([.ref h_p0, .int a1, .int a2, .int a3]) ++ List.replicate (6 - (lg_sl ([.ref h_p0, .int a1, .int a2, .int a3])).length) Slot.unset).toArray = ls at hl ⊢
  have hl : lv_has ls 6 [(0, .ref h_p0), (1, .int a1), (2, .int a2), (3, .int a3)] := hl
  unfold s_X5_findBerths at h
  refine lv_aload_n hx hb dX5_findBerths_0 rfl (lv_at hl 0 rfl) ?_
  refine va_get (D := (dC, dI)) (ci := 5) (v := .ref h_p0_berths) (C := RX5) (T := TX5) (N := 6) hx hb hts m_X5_findBerths_0 hown hK hP 0 rfl rfl 0 (by decide) (hts (.fieldLink RX5 12 "SleeperBerths$Train" "berths" "LSleeperBerths$Berths;") m_X5_findBerths_1) (fun _ h9 => h9) rfl dX5_findBerths_1 ?_
  refine lv_iload_n hx hb dX5_findBerths_4 rfl (lv_at hl 1 rfl) ?_
  refine lv_iload_n hx hb dX5_findBerths_5 rfl (lv_at hl 2 rfl) ?_
  obtain ⟨r1, e2, h⟩ := bsome h
  have hPc := sb_P [(h_p0_berths, .inr (0, [.ref h_p0_berths_holders, .ref h_p0_berths_ends])), (h_p0_berths_ends, .inl (cyI, 3, .inl v_ends)), (h_p0_berths_holders, .inl (cyI, 162, .inl v_holders))] hP [1, 2, 3] rfl
  have hDc := sb_D [(h_p0_berths, .inr (0, [.ref h_p0_berths_holders, .ref h_p0_berths_ends])), (h_p0_berths_ends, .inl (cyI, 3, .inl v_ends)), (h_p0_berths_holders, .inl (cyI, 162, .inl v_holders))] hD [1, 2, 3] (by decide) rfl
  have hFc := va_free (wc := [(h_p0_berths, .inr (0, [.ref h_p0_berths_holders, .ref h_p0_berths_ends])), (h_p0_berths_ends, .inl (cyI, 3, .inl v_ends)), (h_p0_berths_holders, .inl (cyI, 162, .inl v_holders))]) hD hS hA [1, 2, 3] rfl
  refine va_calli (va_runV (As := [.int a1, .int a2]) (rest := []) ⟨hx, hb, hml, hown, hts⟩ (c_X0_calmest l dC dI cyI cyJ cyT h_p0_berths h_p0_berths_holders h_p0_berths_ends s.heap.size v_ends v_holders a1 a2 n r1 e2) (cwV 2 hts gX5_findBerths_X0_calmest rfl rfl rfl (by decide +kernel) ⟨Nat.le_of_ble_eq_true rfl, Nat.le_of_ble_eq_true rfl⟩) ⟨PRE.blind, va_recv hK hPc (ci := 0) (q0 := 0) rfl rfl, PRE.go hK hPc hDc hNW⟩ rfl rfl hl.1 rfl (lv_room (Nat.le_of_ble_eq_true rfl)) dX5_findBerths_6 ⟨Nat.zero_le _, Nat.zero_le _⟩) hS (fun q _ h => hFc q h) hFc (fun z3 u t H locs ht hvm hw hB hz1 hk1 hS => ?_)
  subst z3
  obtain ⟨hP, hD⟩ := va_join (wr := [(h_p0, .inr (5, [.ref h_p0_berths, .ref h_p0_roster, .ref h_p0_settings, .int v_nextNumber, .int v_bookings, .int v_leftOut])), (h_p0_settings, .inl (cyI, 3, .inl v_settings))]) (w1 := [(h_p0_berths, .inr (0, [.ref h_p0_berths_holders, .ref h_p0_berths_ends])), (h_p0_berths_ends, .inl (cyI, 3, .inl v_ends)), (h_p0_berths_holders, .inl (cyI, 162, .inl v_holders))]) hP hD [1, 2, 3] [0, 4] rfl rfl (by decide) (by decide) hk1 hFc (WLD.P hB ht) hB.2
  have hP : va_P (dC, dI) vwCl [(h_p0, .inr (5, [.ref h_p0_berths, .ref h_p0_roster, .ref h_p0_settings, .int v_nextNumber, .int v_bookings, .int v_leftOut])), (h_p0_settings, .inl (cyI, 3, .inl v_settings)), (h_p0_berths, .inr (0, [.ref h_p0_berths_holders, .ref h_p0_berths_ends])), (h_p0_berths_ends, .inl (cyI, 3, .inl v_ends)), (h_p0_berths_holders, .inl (cyI, 162, .inl v_holders))] H := hP
  have hD : va_D A [(h_p0, .inr (5, [.ref h_p0_berths, .ref h_p0_roster, .ref h_p0_settings, .int v_nextNumber, .int v_bookings, .int v_leftOut])), (h_p0_settings, .inl (cyI, 3, .inl v_settings)), (h_p0_berths, .inr (0, [.ref h_p0_berths_holders, .ref h_p0_berths_ends])), (h_p0_berths_ends, .inl (cyI, 3, .inl v_ends)), (h_p0_berths_holders, .inl (cyI, 162, .inl v_holders))] := hD
  refine lv_istore hx hb dX5_findBerths_9 hl (by decide) (rfl : _ = ([(4, .int r1), (0, .ref h_p0), (1, .int a1), (2, .int a2), (3, .int a3)] : List (Nat × Value))) (fun ls hl => ?_)
  refine lv_iload hx hb dX5_findBerths_11 (lv_at hl 0 rfl) ?_
  refine lv_iconst (v := iI (-1)) hx hb dX5_findBerths_13 rfl ?_
  refine lv_icmp_ne (tgt := 21) hx hb dX5_findBerths_14 (by decide) (fun c4 => ?_) (fun c4 => ?_)
  · have h := ineg c4 h
    refine va_new (ci := 2) (fs := [.int 0, .int 0, .int 0]) (C := RX2) (T := TX2) (N := 3) hx hb hts m_X5_findBerths_2 tyX2 tyX2_ok hown (hts (.classLink RX5 58 RX2) m_X5_findBerths_3) (hts (.instantiable RX2 3) m_X5_findBerths_4) (hts (.initialized RX2) m_X5_findBerths_5) hK hP hD hS hA rfl (fun j hj => by rcases (show j = 0 ∨ j = 1 ∨ j = 2 by omega) with rfl | rfl | rfl <;> rfl) (Nat.le_of_ble_eq_true rfl) (Nat.le_of_ble_eq_true rfl) dX5_findBerths_21 (fun q5 H hP hD hS => ?_)
    have hP : va_P (dC, dI) vwCl [(h_p0, .inr (5, [.ref h_p0_berths, .ref h_p0_roster, .ref h_p0_settings, .int v_nextNumber, .int v_bookings, .int v_leftOut])), (h_p0_settings, .inl (cyI, 3, .inl v_settings)), (h_p0_berths, .inr (0, [.ref h_p0_berths_holders, .ref h_p0_berths_ends])), (h_p0_berths_ends, .inl (cyI, 3, .inl v_ends)), (h_p0_berths_holders, .inl (cyI, 162, .inl v_holders)), (q5, .inr (2, [.int 0, .int 0, .int 0]))] H := hP
    have hD : va_D A [(h_p0, .inr (5, [.ref h_p0_berths, .ref h_p0_roster, .ref h_p0_settings, .int v_nextNumber, .int v_bookings, .int v_leftOut])), (h_p0_settings, .inl (cyI, 3, .inl v_settings)), (h_p0_berths, .inr (0, [.ref h_p0_berths_holders, .ref h_p0_berths_ends])), (h_p0_berths_ends, .inl (cyI, 3, .inl v_ends)), (h_p0_berths_holders, .inl (cyI, 162, .inl v_holders)), (q5, .inr (2, [.int 0, .int 0, .int 0]))] := hD
    refine lv_dup hx hb dX5_findBerths_24 rfl ?_
    refine lv_iload hx hb dX5_findBerths_25 (lv_at hl 0 rfl) ?_
    refine lv_iload hx hb dX5_findBerths_27 (lv_at hl 0 rfl) ?_
    refine lv_iconst (v := iI (-1)) hx hb dX5_findBerths_29 rfl ?_
    obtain ⟨r6, e7, h⟩ := bsome h
    have hPc := sb_P [(q5, .inr (2, [.int 0, .int 0, .int 0]))] hP [5] rfl
    have hDc := sb_D [(q5, .inr (2, [.int 0, .int 0, .int 0]))] hD [5] (by decide) rfl
    have hFc := va_free (wc := [(q5, .inr (2, [.int 0, .int 0, .int 0]))]) hD hS hA [5] rfl
    refine va_callv (va_runI (As := [.int r1, .int r1, .int (iI (-1))]) (rest := [.ref q5]) ⟨hx, hb, hml, hown, hts⟩ (c_X2_init l dC dI cyI cyJ cyT q5 H.size r1 r1 (iI (-1)) r6 e7) (cwI 3 hts gX5_findBerths_X2_init rfl rfl rfl (hts (.initialized RX2) m_X5_findBerths_5) (hts (.methodLink RX5 60 yX2_init) m_X5_findBerths_6) (hts (.instanceMethod yX2_init) m_X5_findBerths_7) rfl (by decide +kernel) ⟨Nat.le_of_ble_eq_true rfl, Nat.le_of_ble_eq_true rfl⟩) ⟨PRE.blind, PRE.go hK hPc hDc hNW⟩ rfl rfl hl.1 rfl (lv_room (Nat.le_of_ble_eq_true rfl)) dX5_findBerths_30 ⟨Nat.zero_le _, Nat.zero_le _⟩) hS (fun q _ h => hFc q h) hFc (fun u t H locs ht hvm hw hB hz1 hk1 hS => ?_)
    obtain ⟨hP, hD⟩ := va_join (wr := [(h_p0, .inr (5, [.ref h_p0_berths, .ref h_p0_roster, .ref h_p0_settings, .int v_nextNumber, .int v_bookings, .int v_leftOut])), (h_p0_settings, .inl (cyI, 3, .inl v_settings)), (h_p0_berths, .inr (0, [.ref h_p0_berths_holders, .ref h_p0_berths_ends])), (h_p0_berths_ends, .inl (cyI, 3, .inl v_ends)), (h_p0_berths_holders, .inl (cyI, 162, .inl v_holders))]) (w1 := [(q5, .inr (2, [.int r6.1, .int r6.2.1, .int r6.2.2]))]) hP hD [5] [0, 1, 2, 3, 4] rfl rfl (by decide) (by decide) hk1 hFc (WLD.P hB ht) hB.2
    have hP : va_P (dC, dI) vwCl [(h_p0, .inr (5, [.ref h_p0_berths, .ref h_p0_roster, .ref h_p0_settings, .int v_nextNumber, .int v_bookings, .int v_leftOut])), (h_p0_settings, .inl (cyI, 3, .inl v_settings)), (h_p0_berths, .inr (0, [.ref h_p0_berths_holders, .ref h_p0_berths_ends])), (h_p0_berths_ends, .inl (cyI, 3, .inl v_ends)), (h_p0_berths_holders, .inl (cyI, 162, .inl v_holders)), (q5, .inr (2, [.int r6.1, .int r6.2.1, .int r6.2.2]))] H := hP
    have hD : va_D A [(h_p0, .inr (5, [.ref h_p0_berths, .ref h_p0_roster, .ref h_p0_settings, .int v_nextNumber, .int v_bookings, .int v_leftOut])), (h_p0_settings, .inl (cyI, 3, .inl v_settings)), (h_p0_berths, .inr (0, [.ref h_p0_berths_holders, .ref h_p0_berths_ends])), (h_p0_berths_ends, .inl (cyI, 3, .inl v_ends)), (h_p0_berths_holders, .inl (cyI, 162, .inl v_holders)), (q5, .inr (2, [.int r6.1, .int r6.2.1, .int r6.2.2]))] := hD
    obtain rfl := Option.some.inj h
    refine W.widen (k := 3) (n := 9) (Nat.le_of_ble_eq_true rfl) (Nat.le_of_ble_eq_true rfl) ?_
    exact W.aret hx hb hr (Or.inl ⟨_, rfl⟩) (Or.inr ⟨_, rfl⟩) (fun t ht hW => ⟨⟨(), q5, rfl, trivial, WLD.of ht (sb_P [(h_p0, .inr (5, [.ref h_p0_berths, .ref h_p0_roster, .ref h_p0_settings, .int v_nextNumber, .int v_bookings, .int v_leftOut])), (h_p0_berths, .inr (0, [.ref h_p0_berths_holders, .ref h_p0_berths_ends])), (h_p0_berths_ends, .inl (cyI, 3, .inl v_ends)), (h_p0_berths_holders, .inl (cyI, 162, .inl v_holders)), (h_p0_settings, .inl (cyI, 3, .inl v_settings)), (q5, .inr (2, [.int r6.1, .int r6.2.1, .int r6.2.2]))] hP [0, 2, 3, 4, 1, 5] rfl) (sb_D [(h_p0, .inr (5, [.ref h_p0_berths, .ref h_p0_roster, .ref h_p0_settings, .int v_nextNumber, .int v_bookings, .int v_leftOut])), (h_p0_berths, .inr (0, [.ref h_p0_berths_holders, .ref h_p0_berths_ends])), (h_p0_berths_ends, .inl (cyI, 3, .inl v_ends)), (h_p0_berths_holders, .inl (cyI, 162, .inl v_holders)), (h_p0_settings, .inl (cyI, 3, .inl v_settings)), (q5, .inr (2, [.int r6.1, .int r6.2.1, .int r6.2.2]))] hD [0, 2, 3, 4, 1, 5] (by decide) rfl)⟩, hS.F ht⟩) hS.2.2 dX5_findBerths_33
  · have h := ipos c4 h
    refine lv_iload_n hx hb dX5_findBerths_17 rfl (lv_at hl 4 rfl) ?_
    refine lv_if_eq (tgt := 34) hx hb dX5_findBerths_18 (by decide) (fun c9 => ?_) (fun c9 => ?_)
    · have h := ipos c9 h
      refine lv_aload_n hx hb dX5_findBerths_34 rfl (lv_at hl 1 rfl) ?_
      refine lv_iload_n hx hb dX5_findBerths_35 rfl (lv_at hl 2 rfl) ?_
      refine lv_iload_n hx hb dX5_findBerths_36 rfl (lv_at hl 3 rfl) ?_
      obtain ⟨r10, e11, h⟩ := bsome h
      have hPc := sb_P [(h_p0, .inr (5, [.ref h_p0_berths, .ref h_p0_roster, .ref h_p0_settings, .int v_nextNumber, .int v_bookings, .int v_leftOut])), (h_p0_berths, .inr (0, [.ref h_p0_berths_holders, .ref h_p0_berths_ends])), (h_p0_berths_ends, .inl (cyI, 3, .inl v_ends)), (h_p0_berths_holders, .inl (cyI, 162, .inl v_holders)), (h_p0_settings, .inl (cyI, 3, .inl v_settings))] hP [0, 2, 3, 4, 1] rfl
      have hDc := sb_D [(h_p0, .inr (5, [.ref h_p0_berths, .ref h_p0_roster, .ref h_p0_settings, .int v_nextNumber, .int v_bookings, .int v_leftOut])), (h_p0_berths, .inr (0, [.ref h_p0_berths_holders, .ref h_p0_berths_ends])), (h_p0_berths_ends, .inl (cyI, 3, .inl v_ends)), (h_p0_berths_holders, .inl (cyI, 162, .inl v_holders)), (h_p0_settings, .inl (cyI, 3, .inl v_settings))] hD [0, 2, 3, 4, 1] (by decide) rfl
      have hFc := va_free (wc := [(h_p0, .inr (5, [.ref h_p0_berths, .ref h_p0_roster, .ref h_p0_settings, .int v_nextNumber, .int v_bookings, .int v_leftOut])), (h_p0_berths, .inr (0, [.ref h_p0_berths_holders, .ref h_p0_berths_ends])), (h_p0_berths_ends, .inl (cyI, 3, .inl v_ends)), (h_p0_berths_holders, .inl (cyI, 162, .inl v_holders)), (h_p0_settings, .inl (cyI, 3, .inl v_settings))]) hD hS hA [0, 2, 3, 4, 1] rfl
      refine va_calli (va_runV (As := [.int a1, .int a2]) (rest := []) ⟨hx, hb, hml, hown, hts⟩ (c_X5_calmestChange l dC dI cyI cyJ cyT h_p0 h_p0_berths h_p0_roster h_p0_settings h_p0_berths_holders h_p0_berths_ends H.size v_nextNumber v_bookings v_leftOut v_ends v_holders v_settings a1 a2 n r10 e11) (cwV 2 hts gX5_findBerths_X5_calmestChange rfl rfl rfl (by decide +kernel) ⟨Nat.le_of_ble_eq_true rfl, Nat.le_of_ble_eq_true rfl⟩) ⟨PRE.blind, va_recv hK hPc (ci := 5) (q0 := 0) rfl rfl, PRE.go hK hPc hDc hNW⟩ rfl rfl hl.1 rfl (lv_room (Nat.le_of_ble_eq_true rfl)) dX5_findBerths_37 ⟨Nat.zero_le _, Nat.zero_le _⟩) hS (fun q _ h => hFc q h) hFc (fun z12 u t H locs ht hvm hw hB hz1 hk1 hS => ?_)
      subst z12
      obtain ⟨hP, hD⟩ := va_join (wr := []) (w1 := [(h_p0, .inr (5, [.ref h_p0_berths, .ref h_p0_roster, .ref h_p0_settings, .int v_nextNumber, .int v_bookings, .int v_leftOut])), (h_p0_berths, .inr (0, [.ref h_p0_berths_holders, .ref h_p0_berths_ends])), (h_p0_berths_ends, .inl (cyI, 3, .inl v_ends)), (h_p0_berths_holders, .inl (cyI, 162, .inl v_holders)), (h_p0_settings, .inl (cyI, 3, .inl v_settings))]) hP hD [0, 2, 3, 4, 1] [] rfl rfl (by decide) (by decide) hk1 hFc (WLD.P hB ht) hB.2
      have hP : va_P (dC, dI) vwCl [(h_p0, .inr (5, [.ref h_p0_berths, .ref h_p0_roster, .ref h_p0_settings, .int v_nextNumber, .int v_bookings, .int v_leftOut])), (h_p0_berths, .inr (0, [.ref h_p0_berths_holders, .ref h_p0_berths_ends])), (h_p0_berths_ends, .inl (cyI, 3, .inl v_ends)), (h_p0_berths_holders, .inl (cyI, 162, .inl v_holders)), (h_p0_settings, .inl (cyI, 3, .inl v_settings))] H := hP
      have hD : va_D A [(h_p0, .inr (5, [.ref h_p0_berths, .ref h_p0_roster, .ref h_p0_settings, .int v_nextNumber, .int v_bookings, .int v_leftOut])), (h_p0_berths, .inr (0, [.ref h_p0_berths_holders, .ref h_p0_berths_ends])), (h_p0_berths_ends, .inl (cyI, 3, .inl v_ends)), (h_p0_berths_holders, .inl (cyI, 162, .inl v_holders)), (h_p0_settings, .inl (cyI, 3, .inl v_settings))] := hD
      refine lv_istore hx hb dX5_findBerths_40 hl (by decide) (rfl : _ = ([(5, .int r10), (4, .int r1), (0, .ref h_p0), (1, .int a1), (2, .int a2), (3, .int a3)] : List (Nat × Value))) (fun ls hl => ?_)
      refine lv_iload hx hb dX5_findBerths_42 (lv_at hl 0 rfl) ?_
      refine lv_iconst (v := iI (-1)) hx hb dX5_findBerths_44 rfl ?_
      refine lv_icmp_ne (tgt := 59) hx hb dX5_findBerths_45 (by decide) (fun c13 => ?_) (fun c13 => ?_)
      · have h := ineg c13 h
        refine va_new (ci := 2) (fs := [.int 0, .int 0, .int 0]) (C := RX2) (T := TX2) (N := 3) hx hb hts m_X5_findBerths_2 tyX2 tyX2_ok hown (hts (.classLink RX5 58 RX2) m_X5_findBerths_3) (hts (.instantiable RX2 3) m_X5_findBerths_4) (hts (.initialized RX2) m_X5_findBerths_5) hK hP hD hS hA rfl (fun j hj => by rcases (show j = 0 ∨ j = 1 ∨ j = 2 by omega) with rfl | rfl | rfl <;> rfl) (Nat.le_of_ble_eq_true rfl) (Nat.le_of_ble_eq_true rfl) dX5_findBerths_59 (fun q14 H hP hD hS => ?_)
        have hP : va_P (dC, dI) vwCl [(h_p0, .inr (5, [.ref h_p0_berths, .ref h_p0_roster, .ref h_p0_settings, .int v_nextNumber, .int v_bookings, .int v_leftOut])), (h_p0_berths, .inr (0, [.ref h_p0_berths_holders, .ref h_p0_berths_ends])), (h_p0_berths_ends, .inl (cyI, 3, .inl v_ends)), (h_p0_berths_holders, .inl (cyI, 162, .inl v_holders)), (h_p0_settings, .inl (cyI, 3, .inl v_settings)), (q14, .inr (2, [.int 0, .int 0, .int 0]))] H := hP
        have hD : va_D A [(h_p0, .inr (5, [.ref h_p0_berths, .ref h_p0_roster, .ref h_p0_settings, .int v_nextNumber, .int v_bookings, .int v_leftOut])), (h_p0_berths, .inr (0, [.ref h_p0_berths_holders, .ref h_p0_berths_ends])), (h_p0_berths_ends, .inl (cyI, 3, .inl v_ends)), (h_p0_berths_holders, .inl (cyI, 162, .inl v_holders)), (h_p0_settings, .inl (cyI, 3, .inl v_settings)), (q14, .inr (2, [.int 0, .int 0, .int 0]))] := hD
        refine lv_dup hx hb dX5_findBerths_62 rfl ?_
        refine lv_aload_n hx hb dX5_findBerths_63 rfl (lv_at hl 2 rfl) ?_
        refine va_get (D := (dC, dI)) (ci := 5) (v := .ref h_p0_berths) (C := RX5) (T := TX5) (N := 6) hx hb hts m_X5_findBerths_0 hown hK hP 0 rfl rfl 0 (by decide) (hts (.fieldLink RX5 12 "SleeperBerths$Train" "berths" "LSleeperBerths$Berths;") m_X5_findBerths_1) (fun _ h9 => h9) rfl dX5_findBerths_64 ?_
        refine lv_iload_n hx hb dX5_findBerths_67 rfl (lv_at hl 3 rfl) ?_
        refine lv_iload hx hb dX5_findBerths_68 (lv_at hl 0 rfl) ?_
        obtain ⟨r15, e16, h⟩ := bsome h
        have hPc := sb_P [(h_p0_berths, .inr (0, [.ref h_p0_berths_holders, .ref h_p0_berths_ends])), (h_p0_berths_ends, .inl (cyI, 3, .inl v_ends)), (h_p0_berths_holders, .inl (cyI, 162, .inl v_holders))] hP [1, 2, 3] rfl
        have hDc := sb_D [(h_p0_berths, .inr (0, [.ref h_p0_berths_holders, .ref h_p0_berths_ends])), (h_p0_berths_ends, .inl (cyI, 3, .inl v_ends)), (h_p0_berths_holders, .inl (cyI, 162, .inl v_holders))] hD [1, 2, 3] (by decide) rfl
        have hFc := va_free (wc := [(h_p0_berths, .inr (0, [.ref h_p0_berths_holders, .ref h_p0_berths_ends])), (h_p0_berths_ends, .inl (cyI, 3, .inl v_ends)), (h_p0_berths_holders, .inl (cyI, 162, .inl v_holders))]) hD hS hA [1, 2, 3] rfl
        refine va_calli (va_runV (As := [.int a1, .int r10]) (rest := [.ref q14, .ref q14]) ⟨hx, hb, hml, hown, hts⟩ (c_X0_calmest l dC dI cyI cyJ cyT h_p0_berths h_p0_berths_holders h_p0_berths_ends H.size v_ends v_holders a1 r10 n r15 e16) (cwV 2 hts gX5_findBerths_X0_calmest rfl rfl rfl (by decide +kernel) ⟨Nat.le_of_ble_eq_true rfl, Nat.le_of_ble_eq_true rfl⟩) ⟨PRE.blind, va_recv hK hPc (ci := 0) (q0 := 0) rfl rfl, PRE.go hK hPc hDc hNW⟩ rfl rfl hl.1 rfl (lv_room (Nat.le_of_ble_eq_true rfl)) dX5_findBerths_70 ⟨Nat.zero_le _, Nat.zero_le _⟩) hS (fun q _ h => hFc q h) hFc (fun z17 u t H locs ht hvm hw hB hz1 hk1 hS => ?_)
        subst z17
        obtain ⟨hP, hD⟩ := va_join (wr := [(h_p0, .inr (5, [.ref h_p0_berths, .ref h_p0_roster, .ref h_p0_settings, .int v_nextNumber, .int v_bookings, .int v_leftOut])), (h_p0_settings, .inl (cyI, 3, .inl v_settings)), (q14, .inr (2, [.int 0, .int 0, .int 0]))]) (w1 := [(h_p0_berths, .inr (0, [.ref h_p0_berths_holders, .ref h_p0_berths_ends])), (h_p0_berths_ends, .inl (cyI, 3, .inl v_ends)), (h_p0_berths_holders, .inl (cyI, 162, .inl v_holders))]) hP hD [1, 2, 3] [0, 4, 5] rfl rfl (by decide) (by decide) hk1 hFc (WLD.P hB ht) hB.2
        have hP : va_P (dC, dI) vwCl [(h_p0, .inr (5, [.ref h_p0_berths, .ref h_p0_roster, .ref h_p0_settings, .int v_nextNumber, .int v_bookings, .int v_leftOut])), (h_p0_settings, .inl (cyI, 3, .inl v_settings)), (q14, .inr (2, [.int 0, .int 0, .int 0])), (h_p0_berths, .inr (0, [.ref h_p0_berths_holders, .ref h_p0_berths_ends])), (h_p0_berths_ends, .inl (cyI, 3, .inl v_ends)), (h_p0_berths_holders, .inl (cyI, 162, .inl v_holders))] H := hP
        have hD : va_D A [(h_p0, .inr (5, [.ref h_p0_berths, .ref h_p0_roster, .ref h_p0_settings, .int v_nextNumber, .int v_bookings, .int v_leftOut])), (h_p0_settings, .inl (cyI, 3, .inl v_settings)), (q14, .inr (2, [.int 0, .int 0, .int 0])), (h_p0_berths, .inr (0, [.ref h_p0_berths_holders, .ref h_p0_berths_ends])), (h_p0_berths_ends, .inl (cyI, 3, .inl v_ends)), (h_p0_berths_holders, .inl (cyI, 162, .inl v_holders))] := hD
        refine lv_aload_n hx hb dX5_findBerths_73 rfl (lv_at hl 2 rfl) ?_
        refine va_get (D := (dC, dI)) (ci := 5) (v := .ref h_p0_berths) (C := RX5) (T := TX5) (N := 6) hx hb hts m_X5_findBerths_0 hown hK hP 0 rfl rfl 0 (by decide) (hts (.fieldLink RX5 12 "SleeperBerths$Train" "berths" "LSleeperBerths$Berths;") m_X5_findBerths_1) (fun _ h9 => h9) rfl dX5_findBerths_74 ?_
        refine lv_iload hx hb dX5_findBerths_77 (lv_at hl 0 rfl) ?_
        refine lv_iload_n hx hb dX5_findBerths_79 rfl (lv_at hl 4 rfl) ?_
        obtain ⟨r18, e19, h⟩ := bsome h
        have hPc := sb_P [(h_p0_berths, .inr (0, [.ref h_p0_berths_holders, .ref h_p0_berths_ends])), (h_p0_berths_ends, .inl (cyI, 3, .inl v_ends)), (h_p0_berths_holders, .inl (cyI, 162, .inl v_holders))] hP [3, 4, 5] rfl
        have hDc := sb_D [(h_p0_berths, .inr (0, [.ref h_p0_berths_holders, .ref h_p0_berths_ends])), (h_p0_berths_ends, .inl (cyI, 3, .inl v_ends)), (h_p0_berths_holders, .inl (cyI, 162, .inl v_holders))] hD [3, 4, 5] (by decide) rfl
        have hFc := va_free (wc := [(h_p0_berths, .inr (0, [.ref h_p0_berths_holders, .ref h_p0_berths_ends])), (h_p0_berths_ends, .inl (cyI, 3, .inl v_ends)), (h_p0_berths_holders, .inl (cyI, 162, .inl v_holders))]) hD hS hA [3, 4, 5] rfl
        refine va_calli (va_runV (As := [.int r10, .int a2]) (rest := [.int r15, .ref q14, .ref q14]) ⟨hx, hb, hml, hown, hts⟩ (c_X0_calmest l dC dI cyI cyJ cyT h_p0_berths h_p0_berths_holders h_p0_berths_ends H.size v_ends v_holders r10 a2 n r18 e19) (cwV 2 hts gX5_findBerths_X0_calmest rfl rfl rfl (by decide +kernel) ⟨Nat.le_of_ble_eq_true rfl, Nat.le_of_ble_eq_true rfl⟩) ⟨PRE.blind, va_recv hK hPc (ci := 0) (q0 := 0) rfl rfl, PRE.go hK hPc hDc hNW⟩ rfl rfl hl.1 rfl (lv_room (Nat.le_of_ble_eq_true rfl)) dX5_findBerths_80 ⟨Nat.zero_le _, Nat.zero_le _⟩) hS (fun q _ h => hFc q h) hFc (fun z20 u t H locs ht hvm hw hB hz1 hk1 hS => ?_)
        subst z20
        obtain ⟨hP, hD⟩ := va_join (wr := [(h_p0, .inr (5, [.ref h_p0_berths, .ref h_p0_roster, .ref h_p0_settings, .int v_nextNumber, .int v_bookings, .int v_leftOut])), (h_p0_settings, .inl (cyI, 3, .inl v_settings)), (q14, .inr (2, [.int 0, .int 0, .int 0]))]) (w1 := [(h_p0_berths, .inr (0, [.ref h_p0_berths_holders, .ref h_p0_berths_ends])), (h_p0_berths_ends, .inl (cyI, 3, .inl v_ends)), (h_p0_berths_holders, .inl (cyI, 162, .inl v_holders))]) hP hD [3, 4, 5] [0, 1, 2] rfl rfl (by decide) (by decide) hk1 hFc (WLD.P hB ht) hB.2
        have hP : va_P (dC, dI) vwCl [(h_p0, .inr (5, [.ref h_p0_berths, .ref h_p0_roster, .ref h_p0_settings, .int v_nextNumber, .int v_bookings, .int v_leftOut])), (h_p0_settings, .inl (cyI, 3, .inl v_settings)), (q14, .inr (2, [.int 0, .int 0, .int 0])), (h_p0_berths, .inr (0, [.ref h_p0_berths_holders, .ref h_p0_berths_ends])), (h_p0_berths_ends, .inl (cyI, 3, .inl v_ends)), (h_p0_berths_holders, .inl (cyI, 162, .inl v_holders))] H := hP
        have hD : va_D A [(h_p0, .inr (5, [.ref h_p0_berths, .ref h_p0_roster, .ref h_p0_settings, .int v_nextNumber, .int v_bookings, .int v_leftOut])), (h_p0_settings, .inl (cyI, 3, .inl v_settings)), (q14, .inr (2, [.int 0, .int 0, .int 0])), (h_p0_berths, .inr (0, [.ref h_p0_berths_holders, .ref h_p0_berths_ends])), (h_p0_berths_ends, .inl (cyI, 3, .inl v_ends)), (h_p0_berths_holders, .inl (cyI, 162, .inl v_holders))] := hD
        refine lv_iload hx hb dX5_findBerths_83 (lv_at hl 0 rfl) ?_
        obtain ⟨r21, e22, h⟩ := bsome h
        have hPc := sb_P [(q14, .inr (2, [.int 0, .int 0, .int 0]))] hP [2] rfl
        have hDc := sb_D [(q14, .inr (2, [.int 0, .int 0, .int 0]))] hD [2] (by decide) rfl
        have hFc := va_free (wc := [(q14, .inr (2, [.int 0, .int 0, .int 0]))]) hD hS hA [2] rfl
        refine va_callv (va_runI (As := [.int r15, .int r18, .int r10]) (rest := [.ref q14]) ⟨hx, hb, hml, hown, hts⟩ (c_X2_init l dC dI cyI cyJ cyT q14 H.size r15 r18 r10 r21 e22) (cwI 3 hts gX5_findBerths_X2_init rfl rfl rfl (hts (.initialized RX2) m_X5_findBerths_5) (hts (.methodLink RX5 60 yX2_init) m_X5_findBerths_6) (hts (.instanceMethod yX2_init) m_X5_findBerths_7) rfl (by decide +kernel) ⟨Nat.le_of_ble_eq_true rfl, Nat.le_of_ble_eq_true rfl⟩) ⟨PRE.blind, PRE.go hK hPc hDc hNW⟩ rfl rfl hl.1 rfl (lv_room (Nat.le_of_ble_eq_true rfl)) dX5_findBerths_85 ⟨Nat.zero_le _, Nat.zero_le _⟩) hS (fun q _ h => hFc q h) hFc (fun u t H locs ht hvm hw hB hz1 hk1 hS => ?_)
        obtain ⟨hP, hD⟩ := va_join (wr := [(h_p0, .inr (5, [.ref h_p0_berths, .ref h_p0_roster, .ref h_p0_settings, .int v_nextNumber, .int v_bookings, .int v_leftOut])), (h_p0_settings, .inl (cyI, 3, .inl v_settings)), (h_p0_berths, .inr (0, [.ref h_p0_berths_holders, .ref h_p0_berths_ends])), (h_p0_berths_ends, .inl (cyI, 3, .inl v_ends)), (h_p0_berths_holders, .inl (cyI, 162, .inl v_holders))]) (w1 := [(q14, .inr (2, [.int r21.1, .int r21.2.1, .int r21.2.2]))]) hP hD [2] [0, 1, 3, 4, 5] rfl rfl (by decide) (by decide) hk1 hFc (WLD.P hB ht) hB.2
        have hP : va_P (dC, dI) vwCl [(h_p0, .inr (5, [.ref h_p0_berths, .ref h_p0_roster, .ref h_p0_settings, .int v_nextNumber, .int v_bookings, .int v_leftOut])), (h_p0_settings, .inl (cyI, 3, .inl v_settings)), (h_p0_berths, .inr (0, [.ref h_p0_berths_holders, .ref h_p0_berths_ends])), (h_p0_berths_ends, .inl (cyI, 3, .inl v_ends)), (h_p0_berths_holders, .inl (cyI, 162, .inl v_holders)), (q14, .inr (2, [.int r21.1, .int r21.2.1, .int r21.2.2]))] H := hP
        have hD : va_D A [(h_p0, .inr (5, [.ref h_p0_berths, .ref h_p0_roster, .ref h_p0_settings, .int v_nextNumber, .int v_bookings, .int v_leftOut])), (h_p0_settings, .inl (cyI, 3, .inl v_settings)), (h_p0_berths, .inr (0, [.ref h_p0_berths_holders, .ref h_p0_berths_ends])), (h_p0_berths_ends, .inl (cyI, 3, .inl v_ends)), (h_p0_berths_holders, .inl (cyI, 162, .inl v_holders)), (q14, .inr (2, [.int r21.1, .int r21.2.1, .int r21.2.2]))] := hD
        obtain rfl := Option.some.inj h
        refine W.widen (k := 3) (n := 9) (Nat.le_of_ble_eq_true rfl) (Nat.le_of_ble_eq_true rfl) ?_
        exact W.aret hx hb hr (Or.inl ⟨_, rfl⟩) (Or.inr ⟨_, rfl⟩) (fun t ht hW => ⟨⟨(), q14, rfl, trivial, WLD.of ht (sb_P [(h_p0, .inr (5, [.ref h_p0_berths, .ref h_p0_roster, .ref h_p0_settings, .int v_nextNumber, .int v_bookings, .int v_leftOut])), (h_p0_berths, .inr (0, [.ref h_p0_berths_holders, .ref h_p0_berths_ends])), (h_p0_berths_ends, .inl (cyI, 3, .inl v_ends)), (h_p0_berths_holders, .inl (cyI, 162, .inl v_holders)), (h_p0_settings, .inl (cyI, 3, .inl v_settings)), (q14, .inr (2, [.int r21.1, .int r21.2.1, .int r21.2.2]))] hP [0, 2, 3, 4, 1, 5] rfl) (sb_D [(h_p0, .inr (5, [.ref h_p0_berths, .ref h_p0_roster, .ref h_p0_settings, .int v_nextNumber, .int v_bookings, .int v_leftOut])), (h_p0_berths, .inr (0, [.ref h_p0_berths_holders, .ref h_p0_berths_ends])), (h_p0_berths_ends, .inl (cyI, 3, .inl v_ends)), (h_p0_berths_holders, .inl (cyI, 162, .inl v_holders)), (h_p0_settings, .inl (cyI, 3, .inl v_settings)), (q14, .inr (2, [.int r21.1, .int r21.2.1, .int r21.2.2]))] hD [0, 2, 3, 4, 1, 5] (by decide) rfl)⟩, hS.F ht⟩) hS.2.2 dX5_findBerths_88
      · have h := ipos c13 h
        refine va_new (ci := 2) (fs := [.int 0, .int 0, .int 0]) (C := RX2) (T := TX2) (N := 3) hx hb hts m_X5_findBerths_2 tyX2 tyX2_ok hown (hts (.classLink RX5 58 RX2) m_X5_findBerths_3) (hts (.instantiable RX2 3) m_X5_findBerths_4) (hts (.initialized RX2) m_X5_findBerths_5) hK hP hD hS hA rfl (fun j hj => by rcases (show j = 0 ∨ j = 1 ∨ j = 2 by omega) with rfl | rfl | rfl <;> rfl) (Nat.le_of_ble_eq_true rfl) (Nat.le_of_ble_eq_true rfl) dX5_findBerths_48 (fun q24 H hP hD hS => ?_)
        have hP : va_P (dC, dI) vwCl [(h_p0, .inr (5, [.ref h_p0_berths, .ref h_p0_roster, .ref h_p0_settings, .int v_nextNumber, .int v_bookings, .int v_leftOut])), (h_p0_berths, .inr (0, [.ref h_p0_berths_holders, .ref h_p0_berths_ends])), (h_p0_berths_ends, .inl (cyI, 3, .inl v_ends)), (h_p0_berths_holders, .inl (cyI, 162, .inl v_holders)), (h_p0_settings, .inl (cyI, 3, .inl v_settings)), (q24, .inr (2, [.int 0, .int 0, .int 0]))] H := hP
        have hD : va_D A [(h_p0, .inr (5, [.ref h_p0_berths, .ref h_p0_roster, .ref h_p0_settings, .int v_nextNumber, .int v_bookings, .int v_leftOut])), (h_p0_berths, .inr (0, [.ref h_p0_berths_holders, .ref h_p0_berths_ends])), (h_p0_berths_ends, .inl (cyI, 3, .inl v_ends)), (h_p0_berths_holders, .inl (cyI, 162, .inl v_holders)), (h_p0_settings, .inl (cyI, 3, .inl v_settings)), (q24, .inr (2, [.int 0, .int 0, .int 0]))] := hD
        refine lv_dup hx hb dX5_findBerths_51 rfl ?_
        refine lv_iconst (v := iI (-1)) hx hb dX5_findBerths_52 rfl ?_
        refine lv_iconst (v := iI (-1)) hx hb dX5_findBerths_53 rfl ?_
        refine lv_iconst (v := iI (-1)) hx hb dX5_findBerths_54 rfl ?_
        obtain ⟨r25, e26, h⟩ := bsome h
        have hPc := sb_P [(q24, .inr (2, [.int 0, .int 0, .int 0]))] hP [5] rfl
        have hDc := sb_D [(q24, .inr (2, [.int 0, .int 0, .int 0]))] hD [5] (by decide) rfl
        have hFc := va_free (wc := [(q24, .inr (2, [.int 0, .int 0, .int 0]))]) hD hS hA [5] rfl
        refine va_callv (va_runI (As := [.int (iI (-1)), .int (iI (-1)), .int (iI (-1))]) (rest := [.ref q24]) ⟨hx, hb, hml, hown, hts⟩ (c_X2_init l dC dI cyI cyJ cyT q24 H.size (iI (-1)) (iI (-1)) (iI (-1)) r25 e26) (cwI 3 hts gX5_findBerths_X2_init rfl rfl rfl (hts (.initialized RX2) m_X5_findBerths_5) (hts (.methodLink RX5 60 yX2_init) m_X5_findBerths_6) (hts (.instanceMethod yX2_init) m_X5_findBerths_7) rfl (by decide +kernel) ⟨Nat.le_of_ble_eq_true rfl, Nat.le_of_ble_eq_true rfl⟩) ⟨PRE.blind, PRE.go hK hPc hDc hNW⟩ rfl rfl hl.1 rfl (lv_room (Nat.le_of_ble_eq_true rfl)) dX5_findBerths_55 ⟨Nat.zero_le _, Nat.zero_le _⟩) hS (fun q _ h => hFc q h) hFc (fun u t H locs ht hvm hw hB hz1 hk1 hS => ?_)
        obtain ⟨hP, hD⟩ := va_join (wr := [(h_p0, .inr (5, [.ref h_p0_berths, .ref h_p0_roster, .ref h_p0_settings, .int v_nextNumber, .int v_bookings, .int v_leftOut])), (h_p0_berths, .inr (0, [.ref h_p0_berths_holders, .ref h_p0_berths_ends])), (h_p0_berths_ends, .inl (cyI, 3, .inl v_ends)), (h_p0_berths_holders, .inl (cyI, 162, .inl v_holders)), (h_p0_settings, .inl (cyI, 3, .inl v_settings))]) (w1 := [(q24, .inr (2, [.int r25.1, .int r25.2.1, .int r25.2.2]))]) hP hD [5] [0, 1, 2, 3, 4] rfl rfl (by decide) (by decide) hk1 hFc (WLD.P hB ht) hB.2
        have hP : va_P (dC, dI) vwCl [(h_p0, .inr (5, [.ref h_p0_berths, .ref h_p0_roster, .ref h_p0_settings, .int v_nextNumber, .int v_bookings, .int v_leftOut])), (h_p0_berths, .inr (0, [.ref h_p0_berths_holders, .ref h_p0_berths_ends])), (h_p0_berths_ends, .inl (cyI, 3, .inl v_ends)), (h_p0_berths_holders, .inl (cyI, 162, .inl v_holders)), (h_p0_settings, .inl (cyI, 3, .inl v_settings)), (q24, .inr (2, [.int r25.1, .int r25.2.1, .int r25.2.2]))] H := hP
        have hD : va_D A [(h_p0, .inr (5, [.ref h_p0_berths, .ref h_p0_roster, .ref h_p0_settings, .int v_nextNumber, .int v_bookings, .int v_leftOut])), (h_p0_berths, .inr (0, [.ref h_p0_berths_holders, .ref h_p0_berths_ends])), (h_p0_berths_ends, .inl (cyI, 3, .inl v_ends)), (h_p0_berths_holders, .inl (cyI, 162, .inl v_holders)), (h_p0_settings, .inl (cyI, 3, .inl v_settings)), (q24, .inr (2, [.int r25.1, .int r25.2.1, .int r25.2.2]))] := hD
        obtain rfl := Option.some.inj h
        refine W.widen (k := 3) (n := 9) (Nat.le_of_ble_eq_true rfl) (Nat.le_of_ble_eq_true rfl) ?_
        exact W.aret hx hb hr (Or.inl ⟨_, rfl⟩) (Or.inr ⟨_, rfl⟩) (fun t ht hW => ⟨⟨(), q24, rfl, trivial, WLD.of ht hP hD⟩, hS.F ht⟩) hS.2.2 dX5_findBerths_58
    · have h := ineg c9 h
      refine va_new (ci := 2) (fs := [.int 0, .int 0, .int 0]) (C := RX2) (T := TX2) (N := 3) hx hb hts m_X5_findBerths_2 tyX2 tyX2_ok hown (hts (.classLink RX5 58 RX2) m_X5_findBerths_3) (hts (.instantiable RX2 3) m_X5_findBerths_4) (hts (.initialized RX2) m_X5_findBerths_5) hK hP hD hS hA rfl (fun j hj => by rcases (show j = 0 ∨ j = 1 ∨ j = 2 by omega) with rfl | rfl | rfl <;> rfl) (Nat.le_of_ble_eq_true rfl) (Nat.le_of_ble_eq_true rfl) dX5_findBerths_21 (fun q28 H hP hD hS => ?_)
      have hP : va_P (dC, dI) vwCl [(h_p0, .inr (5, [.ref h_p0_berths, .ref h_p0_roster, .ref h_p0_settings, .int v_nextNumber, .int v_bookings, .int v_leftOut])), (h_p0_settings, .inl (cyI, 3, .inl v_settings)), (h_p0_berths, .inr (0, [.ref h_p0_berths_holders, .ref h_p0_berths_ends])), (h_p0_berths_ends, .inl (cyI, 3, .inl v_ends)), (h_p0_berths_holders, .inl (cyI, 162, .inl v_holders)), (q28, .inr (2, [.int 0, .int 0, .int 0]))] H := hP
      have hD : va_D A [(h_p0, .inr (5, [.ref h_p0_berths, .ref h_p0_roster, .ref h_p0_settings, .int v_nextNumber, .int v_bookings, .int v_leftOut])), (h_p0_settings, .inl (cyI, 3, .inl v_settings)), (h_p0_berths, .inr (0, [.ref h_p0_berths_holders, .ref h_p0_berths_ends])), (h_p0_berths_ends, .inl (cyI, 3, .inl v_ends)), (h_p0_berths_holders, .inl (cyI, 162, .inl v_holders)), (q28, .inr (2, [.int 0, .int 0, .int 0]))] := hD
      refine lv_dup hx hb dX5_findBerths_24 rfl ?_
      refine lv_iload hx hb dX5_findBerths_25 (lv_at hl 0 rfl) ?_
      refine lv_iload hx hb dX5_findBerths_27 (lv_at hl 0 rfl) ?_
      refine lv_iconst (v := iI (-1)) hx hb dX5_findBerths_29 rfl ?_
      obtain ⟨r29, e30, h⟩ := bsome h
      have hPc := sb_P [(q28, .inr (2, [.int 0, .int 0, .int 0]))] hP [5] rfl
      have hDc := sb_D [(q28, .inr (2, [.int 0, .int 0, .int 0]))] hD [5] (by decide) rfl
      have hFc := va_free (wc := [(q28, .inr (2, [.int 0, .int 0, .int 0]))]) hD hS hA [5] rfl
      refine va_callv (va_runI (As := [.int r1, .int r1, .int (iI (-1))]) (rest := [.ref q28]) ⟨hx, hb, hml, hown, hts⟩ (c_X2_init l dC dI cyI cyJ cyT q28 H.size r1 r1 (iI (-1)) r29 e30) (cwI 3 hts gX5_findBerths_X2_init rfl rfl rfl (hts (.initialized RX2) m_X5_findBerths_5) (hts (.methodLink RX5 60 yX2_init) m_X5_findBerths_6) (hts (.instanceMethod yX2_init) m_X5_findBerths_7) rfl (by decide +kernel) ⟨Nat.le_of_ble_eq_true rfl, Nat.le_of_ble_eq_true rfl⟩) ⟨PRE.blind, PRE.go hK hPc hDc hNW⟩ rfl rfl hl.1 rfl (lv_room (Nat.le_of_ble_eq_true rfl)) dX5_findBerths_30 ⟨Nat.zero_le _, Nat.zero_le _⟩) hS (fun q _ h => hFc q h) hFc (fun u t H locs ht hvm hw hB hz1 hk1 hS => ?_)
      obtain ⟨hP, hD⟩ := va_join (wr := [(h_p0, .inr (5, [.ref h_p0_berths, .ref h_p0_roster, .ref h_p0_settings, .int v_nextNumber, .int v_bookings, .int v_leftOut])), (h_p0_settings, .inl (cyI, 3, .inl v_settings)), (h_p0_berths, .inr (0, [.ref h_p0_berths_holders, .ref h_p0_berths_ends])), (h_p0_berths_ends, .inl (cyI, 3, .inl v_ends)), (h_p0_berths_holders, .inl (cyI, 162, .inl v_holders))]) (w1 := [(q28, .inr (2, [.int r29.1, .int r29.2.1, .int r29.2.2]))]) hP hD [5] [0, 1, 2, 3, 4] rfl rfl (by decide) (by decide) hk1 hFc (WLD.P hB ht) hB.2
      have hP : va_P (dC, dI) vwCl [(h_p0, .inr (5, [.ref h_p0_berths, .ref h_p0_roster, .ref h_p0_settings, .int v_nextNumber, .int v_bookings, .int v_leftOut])), (h_p0_settings, .inl (cyI, 3, .inl v_settings)), (h_p0_berths, .inr (0, [.ref h_p0_berths_holders, .ref h_p0_berths_ends])), (h_p0_berths_ends, .inl (cyI, 3, .inl v_ends)), (h_p0_berths_holders, .inl (cyI, 162, .inl v_holders)), (q28, .inr (2, [.int r29.1, .int r29.2.1, .int r29.2.2]))] H := hP
      have hD : va_D A [(h_p0, .inr (5, [.ref h_p0_berths, .ref h_p0_roster, .ref h_p0_settings, .int v_nextNumber, .int v_bookings, .int v_leftOut])), (h_p0_settings, .inl (cyI, 3, .inl v_settings)), (h_p0_berths, .inr (0, [.ref h_p0_berths_holders, .ref h_p0_berths_ends])), (h_p0_berths_ends, .inl (cyI, 3, .inl v_ends)), (h_p0_berths_holders, .inl (cyI, 162, .inl v_holders)), (q28, .inr (2, [.int r29.1, .int r29.2.1, .int r29.2.2]))] := hD
      obtain rfl := Option.some.inj h
      refine W.widen (k := 3) (n := 9) (Nat.le_of_ble_eq_true rfl) (Nat.le_of_ble_eq_true rfl) ?_
      exact W.aret hx hb hr (Or.inl ⟨_, rfl⟩) (Or.inr ⟨_, rfl⟩) (fun t ht hW => ⟨⟨(), q28, rfl, trivial, WLD.of ht (sb_P [(h_p0, .inr (5, [.ref h_p0_berths, .ref h_p0_roster, .ref h_p0_settings, .int v_nextNumber, .int v_bookings, .int v_leftOut])), (h_p0_berths, .inr (0, [.ref h_p0_berths_holders, .ref h_p0_berths_ends])), (h_p0_berths_ends, .inl (cyI, 3, .inl v_ends)), (h_p0_berths_holders, .inl (cyI, 162, .inl v_holders)), (h_p0_settings, .inl (cyI, 3, .inl v_settings)), (q28, .inr (2, [.int r29.1, .int r29.2.1, .int r29.2.2]))] hP [0, 2, 3, 4, 1, 5] rfl) (sb_D [(h_p0, .inr (5, [.ref h_p0_berths, .ref h_p0_roster, .ref h_p0_settings, .int v_nextNumber, .int v_bookings, .int v_leftOut])), (h_p0_berths, .inr (0, [.ref h_p0_berths_holders, .ref h_p0_berths_ends])), (h_p0_berths_ends, .inl (cyI, 3, .inl v_ends)), (h_p0_berths_holders, .inl (cyI, 162, .inl v_holders)), (h_p0_settings, .inl (cyI, 3, .inl v_settings)), (q28, .inr (2, [.int r29.1, .int r29.2.1, .int r29.2.2]))] hD [0, 2, 3, 4, 1, 5] (by decide) rfl)⟩, hS.F ht⟩) hS.2.2 dX5_findBerths_33
def s_X2_isRefused (v_first : Int32) : Option (Int32) := (if v_first = iI (-1) then (some (iI 1)) else (some (iI 0)))
set_option maxRecDepth 20000 in
theorem m_X2_isRefused_0 : ∀ w ∈ u_ws RX2 TX2 3, w ∈ wsX2_isRefused := by decide +kernel
set_option maxRecDepth 20000 in
theorem m_X2_isRefused_1 : (.fieldLink RX2 9 "SleeperBerths$Offer" "first" "I" : Cond) ∈ wsX2_isRefused := by decide +kernel
set_option maxHeartbeats 4000000 in
set_option maxRecDepth 100000 in
theorem c_X2_isRefused (l : Launch) (dC : Nat → ClassId) (dI : Nat → Nat → Nat) (cyI cyJ cyT : ClassId) (h_p0 : Nat) (sz : Nat) (v_first : Int32) (v_last : Int32) (v_changeAt : Int32) (o : Int32) (h : s_X2_isRefused v_first = some o) : Met l yX2_isRefused wsX2_isRefused ({ frames := 0, cells := 0, slots := 0, locals := 0 }) (va_Pc [.ref h_p0] (PRE (dC, dI) (TYS cyI cyJ cyT) sz [(h_p0, .inr (2, [.int v_first, .int v_last, .int v_changeAt]))])) (va_Qi (S := Unit) (fun r _ => r = o) (fun _ t => WLD (dC, dI) (va_A [(h_p0, .inr (2, [.int v_first, .int v_last, .int v_changeAt]))] sz) [(h_p0, .inr (2, [.int v_first, .int v_last, .int v_changeAt]))] t) (va_A [(h_p0, .inr (2, [.int v_first, .int v_last, .int v_changeAt]))] sz)) 0 0 (va_A [(h_p0, .inr (2, [.int v_first, .int v_last, .int v_changeAt]))] sz) := by
  refine Met.ofW (cc := cX2_isRefused) (maxL := 1) (ret := (some .boolean)) (by decide) rfl ?_
  intro p e s m args below meth c s₁ B hml hv
  obtain ⟨rfl, hsz, hP, hK, hD0, hNW⟩ := hv
  have hx := B.exec
  have hb := B.bytes
  have hr := B.returns
  have hts := atoms_spec (ws := wsX2_isRefused) B.pre
  have hown : s.vm.findClass RX2 = some m.cls := findClass_of_methodNamed B.named
  have hlocks := B.notSynchronized
  subst hsz
  have hD := hD0.self (sz := s.heap.size)
  generalize hAe : va_A [(h_p0, .inr (2, [.int v_first, .int v_last, .int v_changeAt]))] s.heap.size = A at hD ⊢
  have hA : ∀ q : Nat, s.heap.size ≤ q → A q := fun q h => by rw [← hAe]; exact Or.inr h
  have hS : va_S A s.heap s.heap [] := va_S.rf
  have hP : va_P (dC, dI) vwCl [(h_p0, .inr (2, [.int v_first, .int v_last, .int v_changeAt]))] s.heap := hP
  have hl := lv_entry ([.ref h_p0]) (n := 1) (Nat.le_of_ble_eq_true rfl)
  rw [lg_entry_eq]
  generalize (lg_sl ([.ref h_p0]) ++ List.replicate (1 - (lg_sl ([.ref h_p0])).length) Slot.unset).toArray = ls at hl ⊢
  have hl : lv_has ls 1 [(0, .ref h_p0)] := hl
  unfold s_X2_isRefused at h
  refine lv_aload_n hx hb dX2_isRefused_0 rfl (lv_at hl 0 rfl) ?_
  refine va_get (D := (dC, dI)) (ci := 2) (v := .int v_first) (C := RX2) (T := TX2) (N := 3) hx hb hts m_X2_isRefused_0 hown hK hP 0 rfl rfl 0 (by decide) (hts (.fieldLink RX2 9 "SleeperBerths$Offer" "first" "I") m_X2_isRefused_1) (fun _ h9 => h9) rfl dX2_isRefused_1 ?_
  refine lv_iconst (v := iI (-1)) hx hb dX2_isRefused_4 rfl ?_
  refine lv_icmp_ne (tgt := 12) hx hb dX2_isRefused_5 (by decide) (fun c1 => ?_) (fun c1 => ?_)
  · have h := ineg c1 h
    refine lv_iconst (v := iI 0) hx hb dX2_isRefused_12 rfl ?_
    obtain rfl := Option.some.inj h
    exact W.zret (v := iI 0) hx hb hr (by decide) (fun t ht hW => ⟨⟨iI 0, (), rfl, rfl, WLD.of ht hP hD⟩, hS.F ht⟩) hS.2.2 dX2_isRefused_13
  · have h := ipos c1 h
    refine lv_iconst (v := iI 1) hx hb dX2_isRefused_8 rfl ?_
    refine lv_goto (tgt := 13) hx hb dX2_isRefused_9 (by decide) ?_
    obtain rfl := Option.some.inj h
    exact W.zret (v := iI 1) hx hb hr (by decide) (fun t ht hW => ⟨⟨iI 1, (), rfl, rfl, WLD.of ht hP hD⟩, hS.F ht⟩) hS.2.2 dX2_isRefused_13
def s_X2_middle (v_changeAt : Int32) (a1 : Int32) : Option (Int32) := (if v_changeAt = iI (-1) then (some (a1)) else (some (v_changeAt)))
set_option maxRecDepth 20000 in
theorem m_X2_middle_0 : ∀ w ∈ u_ws RX2 TX2 3, w ∈ wsX2_middle := by decide +kernel
set_option maxRecDepth 20000 in
theorem m_X2_middle_1 : (.fieldLink RX2 18 "SleeperBerths$Offer" "changeAt" "I" : Cond) ∈ wsX2_middle := by decide +kernel
set_option maxHeartbeats 4000000 in
set_option maxRecDepth 100000 in
theorem c_X2_middle (l : Launch) (dC : Nat → ClassId) (dI : Nat → Nat → Nat) (cyI cyJ cyT : ClassId) (h_p0 : Nat) (sz : Nat) (v_first : Int32) (v_last : Int32) (v_changeAt : Int32) (a1 : Int32) (o : Int32) (h : s_X2_middle v_changeAt a1 = some o) : Met l yX2_middle wsX2_middle ({ frames := 0, cells := 0, slots := 0, locals := 0 }) (va_Pc [.ref h_p0, .int a1] (PRE (dC, dI) (TYS cyI cyJ cyT) sz [(h_p0, .inr (2, [.int v_first, .int v_last, .int v_changeAt]))])) (va_Qi (S := Unit) (fun r _ => r = o) (fun _ t => WLD (dC, dI) (va_A [(h_p0, .inr (2, [.int v_first, .int v_last, .int v_changeAt]))] sz) [(h_p0, .inr (2, [.int v_first, .int v_last, .int v_changeAt]))] t) (va_A [(h_p0, .inr (2, [.int v_first, .int v_last, .int v_changeAt]))] sz)) 0 0 (va_A [(h_p0, .inr (2, [.int v_first, .int v_last, .int v_changeAt]))] sz) := by
  refine Met.ofW (cc := cX2_middle) (maxL := 2) (ret := (some .int)) (by decide) rfl ?_
  intro p e s m args below meth c s₁ B hml hv
  obtain ⟨rfl, hsz, hP, hK, hD0, hNW⟩ := hv
  have hx := B.exec
  have hb := B.bytes
  have hr := B.returns
  have hts := atoms_spec (ws := wsX2_middle) B.pre
  have hown : s.vm.findClass RX2 = some m.cls := findClass_of_methodNamed B.named
  have hlocks := B.notSynchronized
  subst hsz
  have hD := hD0.self (sz := s.heap.size)
  generalize hAe : va_A [(h_p0, .inr (2, [.int v_first, .int v_last, .int v_changeAt]))] s.heap.size = A at hD ⊢
  have hA : ∀ q : Nat, s.heap.size ≤ q → A q := fun q h => by rw [← hAe]; exact Or.inr h
  have hS : va_S A s.heap s.heap [] := va_S.rf
  have hP : va_P (dC, dI) vwCl [(h_p0, .inr (2, [.int v_first, .int v_last, .int v_changeAt]))] s.heap := hP
  have hl := lv_entry ([.ref h_p0, .int a1]) (n := 2) (Nat.le_of_ble_eq_true rfl)
  rw [lg_entry_eq]
  generalize (lg_sl ([.ref h_p0, .int a1]) ++ List.replicate (2 - (lg_sl ([.ref h_p0, .int a1])).length) Slot.unset).toArray = ls at hl ⊢
  have hl : lv_has ls 2 [(0, .ref h_p0), (1, .int a1)] := hl
  unfold s_X2_middle at h
  refine lv_aload_n hx hb dX2_middle_0 rfl (lv_at hl 0 rfl) ?_
  refine va_get (D := (dC, dI)) (ci := 2) (v := .int v_changeAt) (C := RX2) (T := TX2) (N := 3) hx hb hts m_X2_middle_0 hown hK hP 0 rfl rfl 2 (by decide) (hts (.fieldLink RX2 18 "SleeperBerths$Offer" "changeAt" "I") m_X2_middle_1) (fun _ h9 => h9) rfl dX2_middle_1 ?_
  refine lv_iconst (v := iI (-1)) hx hb dX2_middle_4 rfl ?_
  refine lv_icmp_ne (tgt := 12) hx hb dX2_middle_5 (by decide) (fun c1 => ?_) (fun c1 => ?_)
  · have h := ineg c1 h
    refine lv_aload_n hx hb dX2_middle_12 rfl (lv_at hl 0 rfl) ?_
    refine va_get (D := (dC, dI)) (ci := 2) (v := .int v_changeAt) (C := RX2) (T := TX2) (N := 3) hx hb hts m_X2_middle_0 hown hK hP 0 rfl rfl 2 (by decide) (hts (.fieldLink RX2 18 "SleeperBerths$Offer" "changeAt" "I") m_X2_middle_1) (fun _ h9 => h9) rfl dX2_middle_13 ?_
    obtain rfl := Option.some.inj h
    exact W.iret (v := v_changeAt) hx hb hr (fun t ht hW => ⟨⟨v_changeAt, (), rfl, rfl, WLD.of ht hP hD⟩, hS.F ht⟩) hS.2.2 dX2_middle_16
  · have h := ipos c1 h
    refine lv_iload_n hx hb dX2_middle_8 rfl (lv_at hl 1 rfl) ?_
    refine lv_goto (tgt := 16) hx hb dX2_middle_9 (by decide) ?_
    obtain rfl := Option.some.inj h
    exact W.iret (v := a1) hx hb hr (fun t ht hW => ⟨⟨a1, (), rfl, rfl, WLD.of ht hP hD⟩, hS.F ht⟩) hS.2.2 dX2_middle_16
def s_X6_tell (n : Nat) (v_holders : Nat → Int32) (v_first_1 : Int32) (v_last_1 : Int32) (v_changeAt_1 : Int32) (a2 : Int32) (a3 : Int32) (a4 : Int32) : Option (Int32) := ((s_X2_isRefused v_first_1).bind fun r1 => (if r1 = 0 then (if a4 = iI 0 then (if v_changeAt_1 = iI (-1) then (some (iI 1)) else (some (iI 2))) else (if a4 = iI 1 then (some (v_first_1)) else (if a4 = iI 2 then (some (v_changeAt_1)) else ((s_X2_middle v_changeAt_1 a3).bind fun r9 => ((s_X0_wokenIn n v_holders v_first_1 a2 r9).bind fun r12 => ((s_X2_middle v_changeAt_1 a3).bind fun r15 => ((s_X0_wokenIn n v_holders v_last_1 r15 a3).bind fun r18 => (some ((r12 + r18)))))))))) else (if a4 = 0 then (some (iI 0)) else (some (iI (-1))))))
set_option maxRecDepth 20000 in
theorem m_X6_tell_0 : ∀ w ∈ u_ws RX2 TX2 3, w ∈ wsX6_tell := by decide +kernel
set_option maxRecDepth 20000 in
theorem m_X6_tell_1 : (.fieldLink RX6 285 "SleeperBerths$Offer" "changeAt" "I" : Cond) ∈ wsX6_tell := by decide +kernel
set_option maxRecDepth 20000 in
theorem m_X6_tell_2 : (.fieldLink RX6 288 "SleeperBerths$Offer" "first" "I" : Cond) ∈ wsX6_tell := by decide +kernel
set_option maxRecDepth 20000 in
theorem m_X6_tell_3 : ∀ w ∈ u_ws RX6 TX6 3, w ∈ wsX6_tell := by decide +kernel
set_option maxRecDepth 20000 in
theorem m_X6_tell_4 : (.fieldLink RX6 12 "SleeperBerths" "train" "LSleeperBerths$Train;" : Cond) ∈ wsX6_tell := by decide +kernel
set_option maxRecDepth 20000 in
theorem m_X6_tell_5 : ∀ w ∈ u_ws RX5 TX5 6, w ∈ wsX6_tell := by decide +kernel
set_option maxRecDepth 20000 in
theorem m_X6_tell_6 : (.fieldLink RX6 121 "SleeperBerths$Train" "berths" "LSleeperBerths$Berths;" : Cond) ∈ wsX6_tell := by decide +kernel
set_option maxRecDepth 20000 in
theorem m_X6_tell_7 : (.fieldLink RX6 298 "SleeperBerths$Offer" "last" "I" : Cond) ∈ wsX6_tell := by decide +kernel
set_option maxHeartbeats 4000000 in
set_option maxRecDepth 100000 in
theorem c_X6_tell (l : Launch) (dC : Nat → ClassId) (dI : Nat → Nat → Nat) (cyI cyJ cyT : ClassId) (h_p0 : Nat) (h_p0_train : Nat) (h_p0_history : Nat) (h_p0_text : Nat) (h_p0_train_berths : Nat) (h_p0_train_roster : Nat) (h_p0_train_settings : Nat) (h_p0_train_berths_holders : Nat) (h_p0_train_berths_ends : Nat) (h_p1 : Nat) (sz : Nat) (v_nextNumber : Int32) (v_bookings : Int32) (v_leftOut : Int32) (v_holders : Nat → Int32) (v_first_1 : Int32) (v_last_1 : Int32) (v_changeAt_1 : Int32) (a2 : Int32) (a3 : Int32) (a4 : Int32) (n : Nat) (o : Int32) (h : s_X6_tell n v_holders v_first_1 v_last_1 v_changeAt_1 a2 a3 a4 = some o) : Met l yX6_tell wsX6_tell ({ frames := 1, cells := 0, slots := 0, locals := 27 }) (va_Pc [.ref h_p0, .ref h_p1, .int a2, .int a3, .int a4] (PRE (dC, dI) (TYS cyI cyJ cyT) sz [(h_p0, .inr (6, [.ref h_p0_train, .ref h_p0_history, .ref h_p0_text])), (h_p0_train, .inr (5, [.ref h_p0_train_berths, .ref h_p0_train_roster, .ref h_p0_train_settings, .int v_nextNumber, .int v_bookings, .int v_leftOut])), (h_p0_train_berths, .inr (0, [.ref h_p0_train_berths_holders, .ref h_p0_train_berths_ends])), (h_p0_train_berths_holders, .inl (cyI, 162, .inl v_holders)), (h_p1, .inr (2, [.int v_first_1, .int v_last_1, .int v_changeAt_1]))])) (va_Qi (S := Unit) (fun r _ => r = o) (fun _ t => WLD (dC, dI) (va_A [(h_p0, .inr (6, [.ref h_p0_train, .ref h_p0_history, .ref h_p0_text])), (h_p0_train, .inr (5, [.ref h_p0_train_berths, .ref h_p0_train_roster, .ref h_p0_train_settings, .int v_nextNumber, .int v_bookings, .int v_leftOut])), (h_p0_train_berths, .inr (0, [.ref h_p0_train_berths_holders, .ref h_p0_train_berths_ends])), (h_p0_train_berths_holders, .inl (cyI, 162, .inl v_holders)), (h_p1, .inr (2, [.int v_first_1, .int v_last_1, .int v_changeAt_1]))] sz) [(h_p0, .inr (6, [.ref h_p0_train, .ref h_p0_history, .ref h_p0_text])), (h_p0_train, .inr (5, [.ref h_p0_train_berths, .ref h_p0_train_roster, .ref h_p0_train_settings, .int v_nextNumber, .int v_bookings, .int v_leftOut])), (h_p0_train_berths, .inr (0, [.ref h_p0_train_berths_holders, .ref h_p0_train_berths_ends])), (h_p0_train_berths_holders, .inl (cyI, 162, .inl v_holders)), (h_p1, .inr (2, [.int v_first_1, .int v_last_1, .int v_changeAt_1]))] t) (va_A [(h_p0, .inr (6, [.ref h_p0_train, .ref h_p0_history, .ref h_p0_text])), (h_p0_train, .inr (5, [.ref h_p0_train_berths, .ref h_p0_train_roster, .ref h_p0_train_settings, .int v_nextNumber, .int v_bookings, .int v_leftOut])), (h_p0_train_berths, .inr (0, [.ref h_p0_train_berths_holders, .ref h_p0_train_berths_ends])), (h_p0_train_berths_holders, .inl (cyI, 162, .inl v_holders)), (h_p1, .inr (2, [.int v_first_1, .int v_last_1, .int v_changeAt_1]))] sz)) 0 0 (va_A [(h_p0, .inr (6, [.ref h_p0_train, .ref h_p0_history, .ref h_p0_text])), (h_p0_train, .inr (5, [.ref h_p0_train_berths, .ref h_p0_train_roster, .ref h_p0_train_settings, .int v_nextNumber, .int v_bookings, .int v_leftOut])), (h_p0_train_berths, .inr (0, [.ref h_p0_train_berths_holders, .ref h_p0_train_berths_ends])), (h_p0_train_berths_holders, .inl (cyI, 162, .inl v_holders)), (h_p1, .inr (2, [.int v_first_1, .int v_last_1, .int v_changeAt_1]))] sz) := by
  refine Met.ofW (cc := cX6_tell) (maxL := 5) (ret := (some .int)) (by decide) rfl ?_
  intro p e s m args below meth c s₁ B hml hv
  obtain ⟨rfl, hsz, hP, hK, hD0, hNW⟩ := hv
  have hx := B.exec
  have hb := B.bytes
  have hr := B.returns
  have hts := atoms_spec (ws := wsX6_tell) B.pre
  have hown : s.vm.findClass RX6 = some m.cls := findClass_of_methodNamed B.named
  have hlocks := B.notSynchronized
  subst hsz
  have hD := hD0.self (sz := s.heap.size)
  generalize hAe : va_A [(h_p0, .inr (6, [.ref h_p0_train, .ref h_p0_history, .ref h_p0_text])), (h_p0_train, .inr (5, [.ref h_p0_train_berths, .ref h_p0_train_roster, .ref h_p0_train_settings, .int v_nextNumber, .int v_bookings, .int v_leftOut])), (h_p0_train_berths, .inr (0, [.ref h_p0_train_berths_holders, .ref h_p0_train_berths_ends])), (h_p0_train_berths_holders, .inl (cyI, 162, .inl v_holders)), (h_p1, .inr (2, [.int v_first_1, .int v_last_1, .int v_changeAt_1]))] s.heap.size = A at hD ⊢
  have hA : ∀ q : Nat, s.heap.size ≤ q → A q := fun q h => by rw [← hAe]; exact Or.inr h
  have hS : va_S A s.heap s.heap [] := va_S.rf
  have hP : va_P (dC, dI) vwCl [(h_p0, .inr (6, [.ref h_p0_train, .ref h_p0_history, .ref h_p0_text])), (h_p0_train, .inr (5, [.ref h_p0_train_berths, .ref h_p0_train_roster, .ref h_p0_train_settings, .int v_nextNumber, .int v_bookings, .int v_leftOut])), (h_p0_train_berths, .inr (0, [.ref h_p0_train_berths_holders, .ref h_p0_train_berths_ends])), (h_p0_train_berths_holders, .inl (cyI, 162, .inl v_holders)), (h_p1, .inr (2, [.int v_first_1, .int v_last_1, .int v_changeAt_1]))] s.heap := hP
  have hl := lv_entry ([.ref h_p0, .ref h_p1, .int a2, .int a3, .int a4]) (n := 5) (Nat.le_of_ble_eq_true rfl)
  rw [lg_entry_eq]
  generalize (lg_sl ([.ref h_p0, .ref h_p1, .int a2, .int a3, .int a4]) ++ List.replicate (5 - (lg_sl ([.ref h_p0, .ref h_p1, .int a2, .int a3, .int a4])).length) Slot.unset).toArray = ls at hl ⊢
  have hl : lv_has ls 5 [(0, .ref h_p0), (1, .ref h_p1), (2, .int a2), (3, .int a3), (4, .int a4)] := hl
  unfold s_X6_tell at h
  refine lv_aload_n hx hb dX6_tell_0 rfl (lv_at hl 1 rfl) ?_
  obtain ⟨r1, e2, h⟩ := bsome h
  have hPc := sb_P [(h_p1, .inr (2, [.int v_first_1, .int v_last_1, .int v_changeAt_1]))] hP [4] rfl
  have hDc := sb_D [(h_p1, .inr (2, [.int v_first_1, .int v_last_1, .int v_changeAt_1]))] hD [4] (by decide) rfl
  have hFc := va_free (wc := [(h_p1, .inr (2, [.int v_first_1, .int v_last_1, .int v_changeAt_1]))]) hD hS hA [4] rfl
  refine va_calli (va_runV (As := []) (rest := []) ⟨hx, hb, hml, hown, hts⟩ (c_X2_isRefused l dC dI cyI cyJ cyT h_p1 s.heap.size v_first_1 v_last_1 v_changeAt_1 r1 e2) (cwV 0 hts gX6_tell_X2_isRefused rfl rfl rfl (by decide +kernel) ⟨Nat.le_of_ble_eq_true rfl, Nat.le_of_ble_eq_true rfl⟩) ⟨PRE.blind, va_recv hK hPc (ci := 2) (q0 := 0) rfl rfl, PRE.go hK hPc hDc hNW⟩ rfl rfl hl.1 rfl (lv_room (Nat.le_of_ble_eq_true rfl)) dX6_tell_1 ⟨Nat.zero_le _, Nat.zero_le _⟩) hS (fun q _ h => hFc q h) hFc (fun z3 u t H locs ht hvm hw hB hz1 hk1 hS => ?_)
  subst z3
  obtain ⟨hP, hD⟩ := va_join (wr := [(h_p0, .inr (6, [.ref h_p0_train, .ref h_p0_history, .ref h_p0_text])), (h_p0_train, .inr (5, [.ref h_p0_train_berths, .ref h_p0_train_roster, .ref h_p0_train_settings, .int v_nextNumber, .int v_bookings, .int v_leftOut])), (h_p0_train_berths, .inr (0, [.ref h_p0_train_berths_holders, .ref h_p0_train_berths_ends])), (h_p0_train_berths_holders, .inl (cyI, 162, .inl v_holders))]) (w1 := [(h_p1, .inr (2, [.int v_first_1, .int v_last_1, .int v_changeAt_1]))]) hP hD [4] [0, 1, 2, 3] rfl rfl (by decide) (by decide) hk1 hFc (WLD.P hB ht) hB.2
  have hP : va_P (dC, dI) vwCl [(h_p0, .inr (6, [.ref h_p0_train, .ref h_p0_history, .ref h_p0_text])), (h_p0_train, .inr (5, [.ref h_p0_train_berths, .ref h_p0_train_roster, .ref h_p0_train_settings, .int v_nextNumber, .int v_bookings, .int v_leftOut])), (h_p0_train_berths, .inr (0, [.ref h_p0_train_berths_holders, .ref h_p0_train_berths_ends])), (h_p0_train_berths_holders, .inl (cyI, 162, .inl v_holders)), (h_p1, .inr (2, [.int v_first_1, .int v_last_1, .int v_changeAt_1]))] H := hP
  have hD : va_D A [(h_p0, .inr (6, [.ref h_p0_train, .ref h_p0_history, .ref h_p0_text])), (h_p0_train, .inr (5, [.ref h_p0_train_berths, .ref h_p0_train_roster, .ref h_p0_train_settings, .int v_nextNumber, .int v_bookings, .int v_leftOut])), (h_p0_train_berths, .inr (0, [.ref h_p0_train_berths_holders, .ref h_p0_train_berths_ends])), (h_p0_train_berths_holders, .inl (cyI, 162, .inl v_holders)), (h_p1, .inr (2, [.int v_first_1, .int v_last_1, .int v_changeAt_1]))] := hD
  refine lv_if_eq (tgt := 18) hx hb dX6_tell_4 (by decide) (fun c4 => ?_) (fun c4 => ?_)
  · have h := ipos c4 h
    refine lv_iload hx hb dX6_tell_18 (lv_at hl 4 rfl) ?_
    by_cases c5 : a4 = iI 0
    · have h := ipos c5 h
      refine lv_tableIn (tgt := 48) (off := 28) hx hb dX6_tell_20 (by rw [c5]; decide) (by rw [c5]; decide) (by rw [c5]; rfl) (by decide) ?_
      refine lv_aload_n hx hb dX6_tell_48 rfl (lv_at hl 1 rfl) ?_
      refine va_get (D := (dC, dI)) (ci := 2) (v := .int v_changeAt_1) (C := RX2) (T := TX2) (N := 3) hx hb hts m_X6_tell_0 hown hK hP 4 rfl rfl 2 (by decide) (hts (.fieldLink RX6 285 "SleeperBerths$Offer" "changeAt" "I") m_X6_tell_1) (fun _ h9 => h9) rfl dX6_tell_49 ?_
      refine lv_iconst (v := iI (-1)) hx hb dX6_tell_52 rfl ?_
      refine lv_icmp_ne (tgt := 60) hx hb dX6_tell_53 (by decide) (fun c6 => ?_) (fun c6 => ?_)
      · have h := ineg c6 h
        refine lv_iconst (v := iI 2) hx hb dX6_tell_60 rfl ?_
        obtain rfl := Option.some.inj h
        exact W.iret (v := iI 2) hx hb hr (fun t ht hW => ⟨⟨iI 2, (), rfl, rfl, WLD.of ht hP hD⟩, hS.F ht⟩) hS.2.2 dX6_tell_61
      · have h := ipos c6 h
        refine lv_iconst (v := iI 1) hx hb dX6_tell_56 rfl ?_
        refine lv_goto (tgt := 61) hx hb dX6_tell_57 (by decide) ?_
        obtain rfl := Option.some.inj h
        exact W.iret (v := iI 1) hx hb hr (fun t ht hW => ⟨⟨iI 1, (), rfl, rfl, WLD.of ht hP hD⟩, hS.F ht⟩) hS.2.2 dX6_tell_61
    · have h := ineg c5 h
      by_cases c7 : a4 = iI 1
      · have h := ipos c7 h
        refine lv_tableIn (tgt := 62) (off := 42) hx hb dX6_tell_20 (by rw [c7]; decide) (by rw [c7]; decide) (by rw [c7]; rfl) (by decide) ?_
        refine lv_aload_n hx hb dX6_tell_62 rfl (lv_at hl 1 rfl) ?_
        refine va_get (D := (dC, dI)) (ci := 2) (v := .int v_first_1) (C := RX2) (T := TX2) (N := 3) hx hb hts m_X6_tell_0 hown hK hP 4 rfl rfl 0 (by decide) (hts (.fieldLink RX6 288 "SleeperBerths$Offer" "first" "I") m_X6_tell_2) (fun _ h9 => h9) rfl dX6_tell_63 ?_
        obtain rfl := Option.some.inj h
        exact W.iret (v := v_first_1) hx hb hr (fun t ht hW => ⟨⟨v_first_1, (), rfl, rfl, WLD.of ht hP hD⟩, hS.F ht⟩) hS.2.2 dX6_tell_66
      · have h := ineg c7 h
        by_cases c8 : a4 = iI 2
        · have h := ipos c8 h
          refine lv_tableIn (tgt := 67) (off := 47) hx hb dX6_tell_20 (by rw [c8]; decide) (by rw [c8]; decide) (by rw [c8]; rfl) (by decide) ?_
          refine lv_aload_n hx hb dX6_tell_67 rfl (lv_at hl 1 rfl) ?_
          refine va_get (D := (dC, dI)) (ci := 2) (v := .int v_changeAt_1) (C := RX2) (T := TX2) (N := 3) hx hb hts m_X6_tell_0 hown hK hP 4 rfl rfl 2 (by decide) (hts (.fieldLink RX6 285 "SleeperBerths$Offer" "changeAt" "I") m_X6_tell_1) (fun _ h9 => h9) rfl dX6_tell_68 ?_
          obtain rfl := Option.some.inj h
          exact W.iret (v := v_changeAt_1) hx hb hr (fun t ht hW => ⟨⟨v_changeAt_1, (), rfl, rfl, WLD.of ht hP hD⟩, hS.F ht⟩) hS.2.2 dX6_tell_71
        · have h := ineg c8 h
          refine lv_tableOut (tgt := 72) hx hb dX6_tell_20 (tsw_out 0 2 (fun k h1 h2 => by rcases (show k = 0 ∨ k = 1 ∨ k = 2 by omega) with rfl | rfl | rfl <;> assumption)) (by decide) ?_
          refine lv_aload_n hx hb dX6_tell_72 rfl (lv_at hl 0 rfl) ?_
          refine va_get (D := (dC, dI)) (ci := 6) (v := .ref h_p0_train) (C := RX6) (T := TX6) (N := 3) hx hb hts m_X6_tell_3 hown hK hP 0 rfl rfl 0 (by decide) (hts (.fieldLink RX6 12 "SleeperBerths" "train" "LSleeperBerths$Train;") m_X6_tell_4) (fun _ h9 => h9) rfl dX6_tell_73 ?_
          refine va_get (D := (dC, dI)) (ci := 5) (v := .ref h_p0_train_berths) (C := RX5) (T := TX5) (N := 6) hx hb hts m_X6_tell_5 hown hK hP 1 rfl rfl 0 (by decide) (hts (.fieldLink RX6 121 "SleeperBerths$Train" "berths" "LSleeperBerths$Berths;") m_X6_tell_6) (fun _ h9 => h9) rfl dX6_tell_76 ?_
          refine lv_aload_n hx hb dX6_tell_79 rfl (lv_at hl 1 rfl) ?_
          refine va_get (D := (dC, dI)) (ci := 2) (v := .int v_first_1) (C := RX2) (T := TX2) (N := 3) hx hb hts m_X6_tell_0 hown hK hP 4 rfl rfl 0 (by decide) (hts (.fieldLink RX6 288 "SleeperBerths$Offer" "first" "I") m_X6_tell_2) (fun _ h9 => h9) rfl dX6_tell_80 ?_
          refine lv_iload_n hx hb dX6_tell_83 rfl (lv_at hl 2 rfl) ?_
          refine lv_aload_n hx hb dX6_tell_84 rfl (lv_at hl 1 rfl) ?_
          refine lv_iload_n hx hb dX6_tell_85 rfl (lv_at hl 3 rfl) ?_
          obtain ⟨r9, e10, h⟩ := bsome h
          have hPc := sb_P [(h_p1, .inr (2, [.int v_first_1, .int v_last_1, .int v_changeAt_1]))] hP [4] rfl
          have hDc := sb_D [(h_p1, .inr (2, [.int v_first_1, .int v_last_1, .int v_changeAt_1]))] hD [4] (by decide) rfl
          have hFc := va_free (wc := [(h_p1, .inr (2, [.int v_first_1, .int v_last_1, .int v_changeAt_1]))]) hD hS hA [4] rfl
          refine va_calli (va_runV (As := [.int a3]) (rest := [.int a2, .int v_first_1, .ref h_p0_train_berths]) ⟨hx, hb, hml, hown, hts⟩ (c_X2_middle l dC dI cyI cyJ cyT h_p1 H.size v_first_1 v_last_1 v_changeAt_1 a3 r9 e10) (cwV 1 hts gX6_tell_X2_middle rfl rfl rfl (by decide +kernel) ⟨Nat.le_of_ble_eq_true rfl, Nat.le_of_ble_eq_true rfl⟩) ⟨PRE.blind, va_recv hK hPc (ci := 2) (q0 := 0) rfl rfl, PRE.go hK hPc hDc hNW⟩ rfl rfl hl.1 rfl (lv_room (Nat.le_of_ble_eq_true rfl)) dX6_tell_86 ⟨Nat.zero_le _, Nat.zero_le _⟩) hS (fun q _ h => hFc q h) hFc (fun z11 u t H locs ht hvm hw hB hz1 hk1 hS => ?_)
          subst z11
          obtain ⟨hP, hD⟩ := va_join (wr := [(h_p0, .inr (6, [.ref h_p0_train, .ref h_p0_history, .ref h_p0_text])), (h_p0_train, .inr (5, [.ref h_p0_train_berths, .ref h_p0_train_roster, .ref h_p0_train_settings, .int v_nextNumber, .int v_bookings, .int v_leftOut])), (h_p0_train_berths, .inr (0, [.ref h_p0_train_berths_holders, .ref h_p0_train_berths_ends])), (h_p0_train_berths_holders, .inl (cyI, 162, .inl v_holders))]) (w1 := [(h_p1, .inr (2, [.int v_first_1, .int v_last_1, .int v_changeAt_1]))]) hP hD [4] [0, 1, 2, 3] rfl rfl (by decide) (by decide) hk1 hFc (WLD.P hB ht) hB.2
          have hP : va_P (dC, dI) vwCl [(h_p0, .inr (6, [.ref h_p0_train, .ref h_p0_history, .ref h_p0_text])), (h_p0_train, .inr (5, [.ref h_p0_train_berths, .ref h_p0_train_roster, .ref h_p0_train_settings, .int v_nextNumber, .int v_bookings, .int v_leftOut])), (h_p0_train_berths, .inr (0, [.ref h_p0_train_berths_holders, .ref h_p0_train_berths_ends])), (h_p0_train_berths_holders, .inl (cyI, 162, .inl v_holders)), (h_p1, .inr (2, [.int v_first_1, .int v_last_1, .int v_changeAt_1]))] H := hP
          have hD : va_D A [(h_p0, .inr (6, [.ref h_p0_train, .ref h_p0_history, .ref h_p0_text])), (h_p0_train, .inr (5, [.ref h_p0_train_berths, .ref h_p0_train_roster, .ref h_p0_train_settings, .int v_nextNumber, .int v_bookings, .int v_leftOut])), (h_p0_train_berths, .inr (0, [.ref h_p0_train_berths_holders, .ref h_p0_train_berths_ends])), (h_p0_train_berths_holders, .inl (cyI, 162, .inl v_holders)), (h_p1, .inr (2, [.int v_first_1, .int v_last_1, .int v_changeAt_1]))] := hD
          obtain ⟨r12, e13, h⟩ := bsome h
          have hPc := sb_P [(h_p0_train_berths, .inr (0, [.ref h_p0_train_berths_holders, .ref h_p0_train_berths_ends])), (h_p0_train_berths_holders, .inl (cyI, 162, .inl v_holders))] hP [2, 3] rfl
          have hDc := sb_D [(h_p0_train_berths, .inr (0, [.ref h_p0_train_berths_holders, .ref h_p0_train_berths_ends])), (h_p0_train_berths_holders, .inl (cyI, 162, .inl v_holders))] hD [2, 3] (by decide) rfl
          have hFc := va_free (wc := [(h_p0_train_berths, .inr (0, [.ref h_p0_train_berths_holders, .ref h_p0_train_berths_ends])), (h_p0_train_berths_holders, .inl (cyI, 162, .inl v_holders))]) hD hS hA [2, 3] rfl
          refine va_calli (va_runV (As := [.int v_first_1, .int a2, .int r9]) (rest := []) ⟨hx, hb, hml, hown, hts⟩ (c_X0_wokenIn l dC dI cyI cyJ cyT h_p0_train_berths h_p0_train_berths_holders h_p0_train_berths_ends H.size v_holders v_first_1 a2 r9 n r12 e13) (cwV 3 hts gX6_tell_X0_wokenIn rfl rfl rfl (by decide +kernel) ⟨Nat.le_of_ble_eq_true rfl, Nat.le_of_ble_eq_true rfl⟩) ⟨PRE.blind, va_recv hK hPc (ci := 0) (q0 := 0) rfl rfl, PRE.go hK hPc hDc hNW⟩ rfl rfl hl.1 rfl (lv_room (Nat.le_of_ble_eq_true rfl)) dX6_tell_89 ⟨Nat.zero_le _, Nat.zero_le _⟩) hS (fun q _ h => hFc q h) hFc (fun z14 u t H locs ht hvm hw hB hz1 hk1 hS => ?_)
          subst z14
          obtain ⟨hP, hD⟩ := va_join (wr := [(h_p0, .inr (6, [.ref h_p0_train, .ref h_p0_history, .ref h_p0_text])), (h_p0_train, .inr (5, [.ref h_p0_train_berths, .ref h_p0_train_roster, .ref h_p0_train_settings, .int v_nextNumber, .int v_bookings, .int v_leftOut])), (h_p1, .inr (2, [.int v_first_1, .int v_last_1, .int v_changeAt_1]))]) (w1 := [(h_p0_train_berths, .inr (0, [.ref h_p0_train_berths_holders, .ref h_p0_train_berths_ends])), (h_p0_train_berths_holders, .inl (cyI, 162, .inl v_holders))]) hP hD [2, 3] [0, 1, 4] rfl rfl (by decide) (by decide) hk1 hFc (WLD.P hB ht) hB.2
          have hP : va_P (dC, dI) vwCl [(h_p0, .inr (6, [.ref h_p0_train, .ref h_p0_history, .ref h_p0_text])), (h_p0_train, .inr (5, [.ref h_p0_train_berths, .ref h_p0_train_roster, .ref h_p0_train_settings, .int v_nextNumber, .int v_bookings, .int v_leftOut])), (h_p1, .inr (2, [.int v_first_1, .int v_last_1, .int v_changeAt_1])), (h_p0_train_berths, .inr (0, [.ref h_p0_train_berths_holders, .ref h_p0_train_berths_ends])), (h_p0_train_berths_holders, .inl (cyI, 162, .inl v_holders))] H := hP
          have hD : va_D A [(h_p0, .inr (6, [.ref h_p0_train, .ref h_p0_history, .ref h_p0_text])), (h_p0_train, .inr (5, [.ref h_p0_train_berths, .ref h_p0_train_roster, .ref h_p0_train_settings, .int v_nextNumber, .int v_bookings, .int v_leftOut])), (h_p1, .inr (2, [.int v_first_1, .int v_last_1, .int v_changeAt_1])), (h_p0_train_berths, .inr (0, [.ref h_p0_train_berths_holders, .ref h_p0_train_berths_ends])), (h_p0_train_berths_holders, .inl (cyI, 162, .inl v_holders))] := hD
          refine lv_aload_n hx hb dX6_tell_92 rfl (lv_at hl 0 rfl) ?_
          refine va_get (D := (dC, dI)) (ci := 6) (v := .ref h_p0_train) (C := RX6) (T := TX6) (N := 3) hx hb hts m_X6_tell_3 hown hK hP 0 rfl rfl 0 (by decide) (hts (.fieldLink RX6 12 "SleeperBerths" "train" "LSleeperBerths$Train;") m_X6_tell_4) (fun _ h9 => h9) rfl dX6_tell_93 ?_
          refine va_get (D := (dC, dI)) (ci := 5) (v := .ref h_p0_train_berths) (C := RX5) (T := TX5) (N := 6) hx hb hts m_X6_tell_5 hown hK hP 1 rfl rfl 0 (by decide) (hts (.fieldLink RX6 121 "SleeperBerths$Train" "berths" "LSleeperBerths$Berths;") m_X6_tell_6) (fun _ h9 => h9) rfl dX6_tell_96 ?_
          refine lv_aload_n hx hb dX6_tell_99 rfl (lv_at hl 1 rfl) ?_
          refine va_get (D := (dC, dI)) (ci := 2) (v := .int v_last_1) (C := RX2) (T := TX2) (N := 3) hx hb hts m_X6_tell_0 hown hK hP 2 rfl rfl 1 (by decide) (hts (.fieldLink RX6 298 "SleeperBerths$Offer" "last" "I") m_X6_tell_7) (fun _ h9 => h9) rfl dX6_tell_100 ?_
          refine lv_aload_n hx hb dX6_tell_103 rfl (lv_at hl 1 rfl) ?_
          refine lv_iload_n hx hb dX6_tell_104 rfl (lv_at hl 3 rfl) ?_
          obtain ⟨r15, e16, h⟩ := bsome h
          have hPc := sb_P [(h_p1, .inr (2, [.int v_first_1, .int v_last_1, .int v_changeAt_1]))] hP [2] rfl
          have hDc := sb_D [(h_p1, .inr (2, [.int v_first_1, .int v_last_1, .int v_changeAt_1]))] hD [2] (by decide) rfl
          have hFc := va_free (wc := [(h_p1, .inr (2, [.int v_first_1, .int v_last_1, .int v_changeAt_1]))]) hD hS hA [2] rfl
          refine va_calli (va_runV (As := [.int a3]) (rest := [.int v_last_1, .ref h_p0_train_berths, .int r12]) ⟨hx, hb, hml, hown, hts⟩ (c_X2_middle l dC dI cyI cyJ cyT h_p1 H.size v_first_1 v_last_1 v_changeAt_1 a3 r15 e16) (cwV 1 hts gX6_tell_X2_middle rfl rfl rfl (by decide +kernel) ⟨Nat.le_of_ble_eq_true rfl, Nat.le_of_ble_eq_true rfl⟩) ⟨PRE.blind, va_recv hK hPc (ci := 2) (q0 := 0) rfl rfl, PRE.go hK hPc hDc hNW⟩ rfl rfl hl.1 rfl (lv_room (Nat.le_of_ble_eq_true rfl)) dX6_tell_105 ⟨Nat.zero_le _, Nat.zero_le _⟩) hS (fun q _ h => hFc q h) hFc (fun z17 u t H locs ht hvm hw hB hz1 hk1 hS => ?_)
          subst z17
          obtain ⟨hP, hD⟩ := va_join (wr := [(h_p0, .inr (6, [.ref h_p0_train, .ref h_p0_history, .ref h_p0_text])), (h_p0_train, .inr (5, [.ref h_p0_train_berths, .ref h_p0_train_roster, .ref h_p0_train_settings, .int v_nextNumber, .int v_bookings, .int v_leftOut])), (h_p0_train_berths, .inr (0, [.ref h_p0_train_berths_holders, .ref h_p0_train_berths_ends])), (h_p0_train_berths_holders, .inl (cyI, 162, .inl v_holders))]) (w1 := [(h_p1, .inr (2, [.int v_first_1, .int v_last_1, .int v_changeAt_1]))]) hP hD [2] [0, 1, 3, 4] rfl rfl (by decide) (by decide) hk1 hFc (WLD.P hB ht) hB.2
          have hP : va_P (dC, dI) vwCl [(h_p0, .inr (6, [.ref h_p0_train, .ref h_p0_history, .ref h_p0_text])), (h_p0_train, .inr (5, [.ref h_p0_train_berths, .ref h_p0_train_roster, .ref h_p0_train_settings, .int v_nextNumber, .int v_bookings, .int v_leftOut])), (h_p0_train_berths, .inr (0, [.ref h_p0_train_berths_holders, .ref h_p0_train_berths_ends])), (h_p0_train_berths_holders, .inl (cyI, 162, .inl v_holders)), (h_p1, .inr (2, [.int v_first_1, .int v_last_1, .int v_changeAt_1]))] H := hP
          have hD : va_D A [(h_p0, .inr (6, [.ref h_p0_train, .ref h_p0_history, .ref h_p0_text])), (h_p0_train, .inr (5, [.ref h_p0_train_berths, .ref h_p0_train_roster, .ref h_p0_train_settings, .int v_nextNumber, .int v_bookings, .int v_leftOut])), (h_p0_train_berths, .inr (0, [.ref h_p0_train_berths_holders, .ref h_p0_train_berths_ends])), (h_p0_train_berths_holders, .inl (cyI, 162, .inl v_holders)), (h_p1, .inr (2, [.int v_first_1, .int v_last_1, .int v_changeAt_1]))] := hD
          refine lv_iload_n hx hb dX6_tell_108 rfl (lv_at hl 3 rfl) ?_
          obtain ⟨r18, e19, h⟩ := bsome h
          have hPc := sb_P [(h_p0_train_berths, .inr (0, [.ref h_p0_train_berths_holders, .ref h_p0_train_berths_ends])), (h_p0_train_berths_holders, .inl (cyI, 162, .inl v_holders))] hP [2, 3] rfl
          have hDc := sb_D [(h_p0_train_berths, .inr (0, [.ref h_p0_train_berths_holders, .ref h_p0_train_berths_ends])), (h_p0_train_berths_holders, .inl (cyI, 162, .inl v_holders))] hD [2, 3] (by decide) rfl
          have hFc := va_free (wc := [(h_p0_train_berths, .inr (0, [.ref h_p0_train_berths_holders, .ref h_p0_train_berths_ends])), (h_p0_train_berths_holders, .inl (cyI, 162, .inl v_holders))]) hD hS hA [2, 3] rfl
          refine va_calli (va_runV (As := [.int v_last_1, .int r15, .int a3]) (rest := [.int r12]) ⟨hx, hb, hml, hown, hts⟩ (c_X0_wokenIn l dC dI cyI cyJ cyT h_p0_train_berths h_p0_train_berths_holders h_p0_train_berths_ends H.size v_holders v_last_1 r15 a3 n r18 e19) (cwV 3 hts gX6_tell_X0_wokenIn rfl rfl rfl (by decide +kernel) ⟨Nat.le_of_ble_eq_true rfl, Nat.le_of_ble_eq_true rfl⟩) ⟨PRE.blind, va_recv hK hPc (ci := 0) (q0 := 0) rfl rfl, PRE.go hK hPc hDc hNW⟩ rfl rfl hl.1 rfl (lv_room (Nat.le_of_ble_eq_true rfl)) dX6_tell_109 ⟨Nat.zero_le _, Nat.zero_le _⟩) hS (fun q _ h => hFc q h) hFc (fun z20 u t H locs ht hvm hw hB hz1 hk1 hS => ?_)
          subst z20
          obtain ⟨hP, hD⟩ := va_join (wr := [(h_p0, .inr (6, [.ref h_p0_train, .ref h_p0_history, .ref h_p0_text])), (h_p0_train, .inr (5, [.ref h_p0_train_berths, .ref h_p0_train_roster, .ref h_p0_train_settings, .int v_nextNumber, .int v_bookings, .int v_leftOut])), (h_p1, .inr (2, [.int v_first_1, .int v_last_1, .int v_changeAt_1]))]) (w1 := [(h_p0_train_berths, .inr (0, [.ref h_p0_train_berths_holders, .ref h_p0_train_berths_ends])), (h_p0_train_berths_holders, .inl (cyI, 162, .inl v_holders))]) hP hD [2, 3] [0, 1, 4] rfl rfl (by decide) (by decide) hk1 hFc (WLD.P hB ht) hB.2
          have hP : va_P (dC, dI) vwCl [(h_p0, .inr (6, [.ref h_p0_train, .ref h_p0_history, .ref h_p0_text])), (h_p0_train, .inr (5, [.ref h_p0_train_berths, .ref h_p0_train_roster, .ref h_p0_train_settings, .int v_nextNumber, .int v_bookings, .int v_leftOut])), (h_p1, .inr (2, [.int v_first_1, .int v_last_1, .int v_changeAt_1])), (h_p0_train_berths, .inr (0, [.ref h_p0_train_berths_holders, .ref h_p0_train_berths_ends])), (h_p0_train_berths_holders, .inl (cyI, 162, .inl v_holders))] H := hP
          have hD : va_D A [(h_p0, .inr (6, [.ref h_p0_train, .ref h_p0_history, .ref h_p0_text])), (h_p0_train, .inr (5, [.ref h_p0_train_berths, .ref h_p0_train_roster, .ref h_p0_train_settings, .int v_nextNumber, .int v_bookings, .int v_leftOut])), (h_p1, .inr (2, [.int v_first_1, .int v_last_1, .int v_changeAt_1])), (h_p0_train_berths, .inr (0, [.ref h_p0_train_berths_holders, .ref h_p0_train_berths_ends])), (h_p0_train_berths_holders, .inl (cyI, 162, .inl v_holders))] := hD
          refine lv_iadd hx hb dX6_tell_112 ?_
          obtain rfl := Option.some.inj h
          exact W.iret (v := (r12 + r18)) hx hb hr (fun t ht hW => ⟨⟨(r12 + r18), (), rfl, rfl, WLD.of ht (sb_P [(h_p0, .inr (6, [.ref h_p0_train, .ref h_p0_history, .ref h_p0_text])), (h_p0_train, .inr (5, [.ref h_p0_train_berths, .ref h_p0_train_roster, .ref h_p0_train_settings, .int v_nextNumber, .int v_bookings, .int v_leftOut])), (h_p0_train_berths, .inr (0, [.ref h_p0_train_berths_holders, .ref h_p0_train_berths_ends])), (h_p0_train_berths_holders, .inl (cyI, 162, .inl v_holders)), (h_p1, .inr (2, [.int v_first_1, .int v_last_1, .int v_changeAt_1]))] hP [0, 1, 3, 4, 2] rfl) (sb_D [(h_p0, .inr (6, [.ref h_p0_train, .ref h_p0_history, .ref h_p0_text])), (h_p0_train, .inr (5, [.ref h_p0_train_berths, .ref h_p0_train_roster, .ref h_p0_train_settings, .int v_nextNumber, .int v_bookings, .int v_leftOut])), (h_p0_train_berths, .inr (0, [.ref h_p0_train_berths_holders, .ref h_p0_train_berths_ends])), (h_p0_train_berths_holders, .inl (cyI, 162, .inl v_holders)), (h_p1, .inr (2, [.int v_first_1, .int v_last_1, .int v_changeAt_1]))] hD [0, 1, 3, 4, 2] (by decide) rfl)⟩, hS.F ht⟩) hS.2.2 dX6_tell_113
  · have h := ineg c4 h
    refine lv_iload hx hb dX6_tell_7 (lv_at hl 4 rfl) ?_
    refine lv_if_ne (tgt := 16) hx hb dX6_tell_9 (by decide) (fun c21 => ?_) (fun c21 => ?_)
    · have h := ineg c21 h
      refine lv_iconst (v := iI (-1)) hx hb dX6_tell_16 rfl ?_
      obtain rfl := Option.some.inj h
      exact W.iret (v := iI (-1)) hx hb hr (fun t ht hW => ⟨⟨iI (-1), (), rfl, rfl, WLD.of ht hP hD⟩, hS.F ht⟩) hS.2.2 dX6_tell_17
    · have h := ipos c21 h
      refine lv_iconst (v := iI 0) hx hb dX6_tell_12 rfl ?_
      refine lv_goto (tgt := 17) hx hb dX6_tell_13 (by decide) ?_
      obtain rfl := Option.some.inj h
      exact W.iret (v := iI 0) hx hb hr (fun t ht hW => ⟨⟨iI 0, (), rfl, rfl, WLD.of ht hP hD⟩, hS.F ht⟩) hS.2.2 dX6_tell_17
def s_X6_ifBooked (n : Nat) (v_ends : Nat → Int32) (v_holders : Nat → Int32) (v_settings : Nat → Int32) (a1 : Int32) (a2 : Int32) (a3 : Int32) (a4 : Int32) : Option (Nat × Int32) := ((s_X6_requireWay a1 a2).bind fun r1 => (if r1 = 0 then ((s_X6_isBelow a4 (iI 4)).bind fun r4 => (if r4 = 0 then (some (1, 0)) else ((s_X5_findBerths n v_ends v_holders v_settings a1 a2 a3).bind fun r8 => ((s_X6_tell n v_holders r8.1 r8.2.1 r8.2.2 a1 a2 a4).bind fun r12 => (some (0, r12)))))) else (some (r1, 0))))
set_option maxRecDepth 20000 in
theorem m_X6_ifBooked_0 : ∀ w ∈ u_ws RX6 TX6 3, w ∈ wsX6_ifBooked := by decide +kernel
set_option maxRecDepth 20000 in
theorem m_X6_ifBooked_1 : (.fieldLink RX6 12 "SleeperBerths" "train" "LSleeperBerths$Train;" : Cond) ∈ wsX6_ifBooked := by decide +kernel
set_option maxRecDepth 20000 in
theorem m_X6_ifBooked_2 : ∀ w ∈ (vx_atS RX6 120 "java/lang/IllegalArgumentException" ["java/lang/RuntimeException", "java/lang/Exception"]).filter goodWord, w ∈ wsX6_ifBooked := by decide +kernel
set_option maxRecDepth 20000 in
theorem m_X6_ifBooked_3 : (.classLink RX6 116 "java/lang/IllegalArgumentException" : Cond) ∈ wsX6_ifBooked := by decide +kernel
set_option maxRecDepth 20000 in
theorem m_X6_ifBooked_4 : (.initialized "java/lang/IllegalArgumentException" : Cond) ∈ wsX6_ifBooked := by decide +kernel
set_option maxHeartbeats 4000000 in
set_option maxRecDepth 100000 in
theorem c_X6_ifBooked (l : Launch) (hl0 : l.stackTraces = false) (dC : Nat → ClassId) (dI : Nat → Nat → Nat) (cyI cyJ cyT : ClassId) (h_p0 : Nat) (h_p0_train : Nat) (h_p0_history : Nat) (h_p0_text : Nat) (h_p0_train_berths : Nat) (h_p0_train_roster : Nat) (h_p0_train_settings : Nat) (h_p0_train_berths_holders : Nat) (h_p0_train_berths_ends : Nat) (sz : Nat) (v_nextNumber : Int32) (v_bookings : Int32) (v_leftOut : Int32) (v_ends : Nat → Int32) (v_holders : Nat → Int32) (v_settings : Nat → Int32) (a1 : Int32) (a2 : Int32) (a3 : Int32) (a4 : Int32) (n : Nat) (o : Nat × Int32) (h : s_X6_ifBooked n v_ends v_holders v_settings a1 a2 a3 a4 = some o) : vx_Met l yX6_ifBooked wsX6_ifBooked ({ frames := 7, cells := 5, slots := 21, locals := 126 }) (va_Pc [.ref h_p0, .int a1, .int a2, .int a3, .int a4] (PREX (dC, dI) (TYS cyI cyJ cyT) sz [(h_p0, .inr (6, [.ref h_p0_train, .ref h_p0_history, .ref h_p0_text])), (h_p0_train, .inr (5, [.ref h_p0_train_berths, .ref h_p0_train_roster, .ref h_p0_train_settings, .int v_nextNumber, .int v_bookings, .int v_leftOut])), (h_p0_train_berths, .inr (0, [.ref h_p0_train_berths_holders, .ref h_p0_train_berths_ends])), (h_p0_train_berths_ends, .inl (cyI, 3, .inl v_ends)), (h_p0_train_berths_holders, .inl (cyI, 162, .inl v_holders)), (h_p0_train_settings, .inl (cyI, 3, .inl v_settings))])) (va_Qi (S := Unit) (fun r _ => o.1 = 0 ∧ r = o.2) (fun _ t => WLD (dC, dI) (va_A [(h_p0, .inr (6, [.ref h_p0_train, .ref h_p0_history, .ref h_p0_text])), (h_p0_train, .inr (5, [.ref h_p0_train_berths, .ref h_p0_train_roster, .ref h_p0_train_settings, .int v_nextNumber, .int v_bookings, .int v_leftOut])), (h_p0_train_berths, .inr (0, [.ref h_p0_train_berths_holders, .ref h_p0_train_berths_ends])), (h_p0_train_berths_ends, .inl (cyI, 3, .inl v_ends)), (h_p0_train_berths_holders, .inl (cyI, 162, .inl v_holders)), (h_p0_train_settings, .inl (cyI, 3, .inl v_settings))] sz) [(h_p0, .inr (6, [.ref h_p0_train, .ref h_p0_history, .ref h_p0_text])), (h_p0_train, .inr (5, [.ref h_p0_train_berths, .ref h_p0_train_roster, .ref h_p0_train_settings, .int v_nextNumber, .int v_bookings, .int v_leftOut])), (h_p0_train_berths, .inr (0, [.ref h_p0_train_berths_holders, .ref h_p0_train_berths_ends])), (h_p0_train_berths_ends, .inl (cyI, 3, .inl v_ends)), (h_p0_train_berths_holders, .inl (cyI, 162, .inl v_holders)), (h_p0_train_settings, .inl (cyI, 3, .inl v_settings))] t) (va_A [(h_p0, .inr (6, [.ref h_p0_train, .ref h_p0_history, .ref h_p0_text])), (h_p0_train, .inr (5, [.ref h_p0_train_berths, .ref h_p0_train_roster, .ref h_p0_train_settings, .int v_nextNumber, .int v_bookings, .int v_leftOut])), (h_p0_train_berths, .inr (0, [.ref h_p0_train_berths_holders, .ref h_p0_train_berths_ends])), (h_p0_train_berths_ends, .inl (cyI, 3, .inl v_ends)), (h_p0_train_berths_holders, .inl (cyI, 162, .inl v_holders)), (h_p0_train_settings, .inl (cyI, 3, .inl v_settings))] sz)) (vx_X (S := Unit) (fun _ => True) (fun E _ t => XWL (dC, dI) (va_A [(h_p0, .inr (6, [.ref h_p0_train, .ref h_p0_history, .ref h_p0_text])), (h_p0_train, .inr (5, [.ref h_p0_train_berths, .ref h_p0_train_roster, .ref h_p0_train_settings, .int v_nextNumber, .int v_bookings, .int v_leftOut])), (h_p0_train_berths, .inr (0, [.ref h_p0_train_berths_holders, .ref h_p0_train_berths_ends])), (h_p0_train_berths_ends, .inl (cyI, 3, .inl v_ends)), (h_p0_train_berths_holders, .inl (cyI, 162, .inl v_holders)), (h_p0_train_settings, .inl (cyI, 3, .inl v_settings))] sz) o.1 E [(h_p0, .inr (6, [.ref h_p0_train, .ref h_p0_history, .ref h_p0_text])), (h_p0_train, .inr (5, [.ref h_p0_train_berths, .ref h_p0_train_roster, .ref h_p0_train_settings, .int v_nextNumber, .int v_bookings, .int v_leftOut])), (h_p0_train_berths, .inr (0, [.ref h_p0_train_berths_holders, .ref h_p0_train_berths_ends])), (h_p0_train_berths_ends, .inl (cyI, 3, .inl v_ends)), (h_p0_train_berths_holders, .inl (cyI, 162, .inl v_holders)), (h_p0_train_settings, .inl (cyI, 3, .inl v_settings))] t) (va_A [(h_p0, .inr (6, [.ref h_p0_train, .ref h_p0_history, .ref h_p0_text])), (h_p0_train, .inr (5, [.ref h_p0_train_berths, .ref h_p0_train_roster, .ref h_p0_train_settings, .int v_nextNumber, .int v_bookings, .int v_leftOut])), (h_p0_train_berths, .inr (0, [.ref h_p0_train_berths_holders, .ref h_p0_train_berths_ends])), (h_p0_train_berths_ends, .inl (cyI, 3, .inl v_ends)), (h_p0_train_berths_holders, .inl (cyI, 162, .inl v_holders)), (h_p0_train_settings, .inl (cyI, 3, .inl v_settings))] sz)) 5 21 (va_A [(h_p0, .inr (6, [.ref h_p0_train, .ref h_p0_history, .ref h_p0_text])), (h_p0_train, .inr (5, [.ref h_p0_train_berths, .ref h_p0_train_roster, .ref h_p0_train_settings, .int v_nextNumber, .int v_bookings, .int v_leftOut])), (h_p0_train_berths, .inr (0, [.ref h_p0_train_berths_holders, .ref h_p0_train_berths_ends])), (h_p0_train_berths_ends, .inl (cyI, 3, .inl v_ends)), (h_p0_train_berths_holders, .inl (cyI, 162, .inl v_holders)), (h_p0_train_settings, .inl (cyI, 3, .inl v_settings))] sz) := by
  refine vx_ofW (cc := cX6_ifBooked) (maxL := 5) (ret := (some .int)) (by decide) rfl ?_
  intro p e s m args below meth c s₁ B hml hno hv
  obtain ⟨rfl, ⟨hsz, hP, hK, hD0, hNW⟩, hXR, hXS⟩ := hv
  have hx := B.exec
  have hb := B.bytes
  have hr := B.returns
  have hts := atoms_spec (ws := wsX6_ifBooked) B.pre
  have hown : s.vm.findClass RX6 = some m.cls := findClass_of_methodNamed B.named
  have hlocks := B.notSynchronized
  subst hsz
  have hD := hD0.self (sz := s.heap.size)
  generalize hAe : va_A [(h_p0, .inr (6, [.ref h_p0_train, .ref h_p0_history, .ref h_p0_text])), (h_p0_train, .inr (5, [.ref h_p0_train_berths, .ref h_p0_train_roster, .ref h_p0_train_settings, .int v_nextNumber, .int v_bookings, .int v_leftOut])), (h_p0_train_berths, .inr (0, [.ref h_p0_train_berths_holders, .ref h_p0_train_berths_ends])), (h_p0_train_berths_ends, .inl (cyI, 3, .inl v_ends)), (h_p0_train_berths_holders, .inl (cyI, 162, .inl v_holders)), (h_p0_train_settings, .inl (cyI, 3, .inl v_settings))] s.heap.size = A at hD hXS ⊢
  have hA : ∀ q : Nat, s.heap.size ≤ q → A q := fun q h => by rw [← hAe]; exact Or.inr h
  have hS : va_S A s.heap s.heap [] := va_S.rf
  have hP : va_P (dC, dI) vwCl [(h_p0, .inr (6, [.ref h_p0_train, .ref h_p0_history, .ref h_p0_text])), (h_p0_train, .inr (5, [.ref h_p0_train_berths, .ref h_p0_train_roster, .ref h_p0_train_settings, .int v_nextNumber, .int v_bookings, .int v_leftOut])), (h_p0_train_berths, .inr (0, [.ref h_p0_train_berths_holders, .ref h_p0_train_berths_ends])), (h_p0_train_berths_ends, .inl (cyI, 3, .inl v_ends)), (h_p0_train_berths_holders, .inl (cyI, 162, .inl v_holders)), (h_p0_train_settings, .inl (cyI, 3, .inl v_settings))] s.heap := hP
  have hl := lv_entry ([.ref h_p0, .int a1, .int a2, .int a3, .int a4]) (n := 5) (Nat.le_of_ble_eq_true rfl)
  rw [lg_entry_eq]
  generalize (lg_sl ([.ref h_p0, .int a1, .int a2, .int a3, .int a4]) ++ List.replicate (5 - (lg_sl ([.ref h_p0, .int a1, .int a2, .int a3, .int a4])).length) Slot.unset).toArray = ls at hl ⊢
  have hl : lv_has ls 5 [(0, .ref h_p0), (1, .int a1), (2, .int a2), (3, .int a3), (4, .int a4)] := hl
  unfold s_X6_ifBooked at h
  refine lv_iload_n hx hb dX6_ifBooked_0 rfl (lv_at hl 1 rfl) ?_
  refine lv_iload_n hx hb dX6_ifBooked_1 rfl (lv_at hl 2 rfl) ?_
  obtain ⟨r1, e2, h⟩ := bsome h
  have hPc := sb_P [] hP [] rfl
  have hDc := sb_D [] hD [] (by decide) rfl
  have hFc := va_free (wc := []) hD hS hA [] rfl
  refine vx_callv (vx_runS (As := [.int a1, .int a2]) (rest := []) ⟨hx, hb, hml, hown, hts⟩ (c_X6_requireWay l hl0 dC dI cyI cyJ cyT s.heap.size a1 a2 r1 e2) (va_cwS 2 hts gX6_ifBooked_X6_requireWay rfl rfl rfl (by decide +kernel) ⟨Nat.le_of_ble_eq_true rfl, Nat.le_of_ble_eq_true rfl⟩) ⟨PREX.blind, PREX.go hK hPc hDc hNW hXR hXS hS hFc⟩ rfl rfl hl.1 rfl (lv_room (Nat.le_of_ble_eq_true rfl)) dX6_ifBooked_2 ⟨(Nat.le_of_ble_eq_true rfl), (Nat.le_of_ble_eq_true rfl)⟩) hS (fun q _ h => hFc q h) hFc (fun q _ h => hFc q h) (fun E9 ce9 q9 u t H locs ht hvm _ hB hz1 hk1 hS hce hcv hcl => by
      have h := ineg hB.1 h
      obtain ⟨hP, hD⟩ := va_join (wr := [(h_p0, .inr (6, [.ref h_p0_train, .ref h_p0_history, .ref h_p0_text])), (h_p0_train, .inr (5, [.ref h_p0_train_berths, .ref h_p0_train_roster, .ref h_p0_train_settings, .int v_nextNumber, .int v_bookings, .int v_leftOut])), (h_p0_train_berths, .inr (0, [.ref h_p0_train_berths_holders, .ref h_p0_train_berths_ends])), (h_p0_train_berths_ends, .inl (cyI, 3, .inl v_ends)), (h_p0_train_berths_holders, .inl (cyI, 162, .inl v_holders)), (h_p0_train_settings, .inl (cyI, 3, .inl v_settings))]) (w1 := []) hP hD [] [0, 1, 2, 3, 4, 5] rfl rfl (by decide) (by decide) hk1 hFc (WLD.P hB.2.2 ht) hB.2.2.2
      have hP : va_P (dC, dI) vwCl [(h_p0, .inr (6, [.ref h_p0_train, .ref h_p0_history, .ref h_p0_text])), (h_p0_train, .inr (5, [.ref h_p0_train_berths, .ref h_p0_train_roster, .ref h_p0_train_settings, .int v_nextNumber, .int v_bookings, .int v_leftOut])), (h_p0_train_berths, .inr (0, [.ref h_p0_train_berths_holders, .ref h_p0_train_berths_ends])), (h_p0_train_berths_ends, .inl (cyI, 3, .inl v_ends)), (h_p0_train_berths_holders, .inl (cyI, 162, .inl v_holders)), (h_p0_train_settings, .inl (cyI, 3, .inl v_settings))] H := hP
      have hD : va_D A [(h_p0, .inr (6, [.ref h_p0_train, .ref h_p0_history, .ref h_p0_text])), (h_p0_train, .inr (5, [.ref h_p0_train_berths, .ref h_p0_train_roster, .ref h_p0_train_settings, .int v_nextNumber, .int v_bookings, .int v_leftOut])), (h_p0_train_berths, .inr (0, [.ref h_p0_train_berths_holders, .ref h_p0_train_berths_ends])), (h_p0_train_berths_ends, .inl (cyI, 3, .inl v_ends)), (h_p0_train_berths_holders, .inl (cyI, 162, .inl v_holders)), (h_p0_train_settings, .inl (cyI, 3, .inl v_settings))] := hD
      obtain rfl := Option.some.inj h
      exact vx_out (fun x hx9 => (hno x hx9).elim) hlocks hce hcv hcl (fun t ht _ => XWL.of2 hB.1 hB.2.1 hP hD hS ht) hS.2.2 (Nat.le_of_ble_eq_true rfl) (Nat.le_of_ble_eq_true rfl)) (fun u t H locs ht hvm hw hB hz1 hk1 hS => ?_)
  have h := ipos hw h
  obtain ⟨hP, hD⟩ := va_join (wr := [(h_p0, .inr (6, [.ref h_p0_train, .ref h_p0_history, .ref h_p0_text])), (h_p0_train, .inr (5, [.ref h_p0_train_berths, .ref h_p0_train_roster, .ref h_p0_train_settings, .int v_nextNumber, .int v_bookings, .int v_leftOut])), (h_p0_train_berths, .inr (0, [.ref h_p0_train_berths_holders, .ref h_p0_train_berths_ends])), (h_p0_train_berths_ends, .inl (cyI, 3, .inl v_ends)), (h_p0_train_berths_holders, .inl (cyI, 162, .inl v_holders)), (h_p0_train_settings, .inl (cyI, 3, .inl v_settings))]) (w1 := []) hP hD [] [0, 1, 2, 3, 4, 5] rfl rfl (by decide) (by decide) hk1 hFc (WLD.P hB ht) hB.2
  have hP : va_P (dC, dI) vwCl [(h_p0, .inr (6, [.ref h_p0_train, .ref h_p0_history, .ref h_p0_text])), (h_p0_train, .inr (5, [.ref h_p0_train_berths, .ref h_p0_train_roster, .ref h_p0_train_settings, .int v_nextNumber, .int v_bookings, .int v_leftOut])), (h_p0_train_berths, .inr (0, [.ref h_p0_train_berths_holders, .ref h_p0_train_berths_ends])), (h_p0_train_berths_ends, .inl (cyI, 3, .inl v_ends)), (h_p0_train_berths_holders, .inl (cyI, 162, .inl v_holders)), (h_p0_train_settings, .inl (cyI, 3, .inl v_settings))] H := hP
  have hD : va_D A [(h_p0, .inr (6, [.ref h_p0_train, .ref h_p0_history, .ref h_p0_text])), (h_p0_train, .inr (5, [.ref h_p0_train_berths, .ref h_p0_train_roster, .ref h_p0_train_settings, .int v_nextNumber, .int v_bookings, .int v_leftOut])), (h_p0_train_berths, .inr (0, [.ref h_p0_train_berths_holders, .ref h_p0_train_berths_ends])), (h_p0_train_berths_ends, .inl (cyI, 3, .inl v_ends)), (h_p0_train_berths_holders, .inl (cyI, 162, .inl v_holders)), (h_p0_train_settings, .inl (cyI, 3, .inl v_settings))] := hD
  refine lv_iload hx hb dX6_ifBooked_5 (lv_at hl 4 rfl) ?_
  refine lv_iconst (v := iI 4) hx hb dX6_ifBooked_7 rfl ?_
  obtain ⟨r4, e5, h⟩ := bsome h
  have hPc := sb_P [] hP [] rfl
  have hDc := sb_D [] hD [] (by decide) rfl
  have hFc := va_free (wc := []) hD hS hA [] rfl
  refine va_calli (va_runS (As := [.int a4, .int (iI 4)]) (rest := []) ⟨hx, hb, hml, hown, hts⟩ (c_X6_isBelow l dC dI cyI cyJ cyT H.size a4 (iI 4) r4 e5) (va_cwS 2 hts gX6_ifBooked_X6_isBelow rfl rfl rfl (by decide +kernel) ⟨Nat.le_of_ble_eq_true rfl, Nat.le_of_ble_eq_true rfl⟩) ⟨PRE.blind, PRE.go hK hPc hDc hNW⟩ rfl rfl hl.1 rfl (lv_room (Nat.le_of_ble_eq_true rfl)) dX6_ifBooked_8 ⟨Nat.zero_le _, Nat.zero_le _⟩) hS (fun q _ h => hFc q h) hFc (fun z6 u t H locs ht hvm hw hB hz1 hk1 hS => ?_)
  subst z6
  obtain ⟨hP, hD⟩ := va_join (wr := [(h_p0, .inr (6, [.ref h_p0_train, .ref h_p0_history, .ref h_p0_text])), (h_p0_train, .inr (5, [.ref h_p0_train_berths, .ref h_p0_train_roster, .ref h_p0_train_settings, .int v_nextNumber, .int v_bookings, .int v_leftOut])), (h_p0_train_berths, .inr (0, [.ref h_p0_train_berths_holders, .ref h_p0_train_berths_ends])), (h_p0_train_berths_ends, .inl (cyI, 3, .inl v_ends)), (h_p0_train_berths_holders, .inl (cyI, 162, .inl v_holders)), (h_p0_train_settings, .inl (cyI, 3, .inl v_settings))]) (w1 := []) hP hD [] [0, 1, 2, 3, 4, 5] rfl rfl (by decide) (by decide) hk1 hFc (WLD.P hB ht) hB.2
  have hP : va_P (dC, dI) vwCl [(h_p0, .inr (6, [.ref h_p0_train, .ref h_p0_history, .ref h_p0_text])), (h_p0_train, .inr (5, [.ref h_p0_train_berths, .ref h_p0_train_roster, .ref h_p0_train_settings, .int v_nextNumber, .int v_bookings, .int v_leftOut])), (h_p0_train_berths, .inr (0, [.ref h_p0_train_berths_holders, .ref h_p0_train_berths_ends])), (h_p0_train_berths_ends, .inl (cyI, 3, .inl v_ends)), (h_p0_train_berths_holders, .inl (cyI, 162, .inl v_holders)), (h_p0_train_settings, .inl (cyI, 3, .inl v_settings))] H := hP
  have hD : va_D A [(h_p0, .inr (6, [.ref h_p0_train, .ref h_p0_history, .ref h_p0_text])), (h_p0_train, .inr (5, [.ref h_p0_train_berths, .ref h_p0_train_roster, .ref h_p0_train_settings, .int v_nextNumber, .int v_bookings, .int v_leftOut])), (h_p0_train_berths, .inr (0, [.ref h_p0_train_berths_holders, .ref h_p0_train_berths_ends])), (h_p0_train_berths_ends, .inl (cyI, 3, .inl v_ends)), (h_p0_train_berths_holders, .inl (cyI, 162, .inl v_holders)), (h_p0_train_settings, .inl (cyI, 3, .inl v_settings))] := hD
  refine lv_if_ne (tgt := 24) hx hb dX6_ifBooked_11 (by decide) (fun c7 => ?_) (fun c7 => ?_)
  · have h := ineg c7 h
    refine lv_aload_n hx hb dX6_ifBooked_24 rfl (lv_at hl 0 rfl) ?_
    refine lv_aload_n hx hb dX6_ifBooked_25 rfl (lv_at hl 0 rfl) ?_
    refine va_get (D := (dC, dI)) (ci := 6) (v := .ref h_p0_train) (C := RX6) (T := TX6) (N := 3) hx hb hts m_X6_ifBooked_0 hown hK hP 0 rfl rfl 0 (by decide) (hts (.fieldLink RX6 12 "SleeperBerths" "train" "LSleeperBerths$Train;") m_X6_ifBooked_1) (fun _ h9 => h9) rfl dX6_ifBooked_26 ?_
    refine lv_iload_n hx hb dX6_ifBooked_29 rfl (lv_at hl 1 rfl) ?_
    refine lv_iload_n hx hb dX6_ifBooked_30 rfl (lv_at hl 2 rfl) ?_
    refine lv_iload_n hx hb dX6_ifBooked_31 rfl (lv_at hl 3 rfl) ?_
    obtain ⟨r8, e9, h⟩ := bsome h
    have hPc := sb_P [(h_p0_train, .inr (5, [.ref h_p0_train_berths, .ref h_p0_train_roster, .ref h_p0_train_settings, .int v_nextNumber, .int v_bookings, .int v_leftOut])), (h_p0_train_berths, .inr (0, [.ref h_p0_train_berths_holders, .ref h_p0_train_berths_ends])), (h_p0_train_berths_ends, .inl (cyI, 3, .inl v_ends)), (h_p0_train_berths_holders, .inl (cyI, 162, .inl v_holders)), (h_p0_train_settings, .inl (cyI, 3, .inl v_settings))] hP [1, 2, 3, 4, 5] rfl
    have hDc := sb_D [(h_p0_train, .inr (5, [.ref h_p0_train_berths, .ref h_p0_train_roster, .ref h_p0_train_settings, .int v_nextNumber, .int v_bookings, .int v_leftOut])), (h_p0_train_berths, .inr (0, [.ref h_p0_train_berths_holders, .ref h_p0_train_berths_ends])), (h_p0_train_berths_ends, .inl (cyI, 3, .inl v_ends)), (h_p0_train_berths_holders, .inl (cyI, 162, .inl v_holders)), (h_p0_train_settings, .inl (cyI, 3, .inl v_settings))] hD [1, 2, 3, 4, 5] (by decide) rfl
    have hFc := va_free (wc := [(h_p0_train, .inr (5, [.ref h_p0_train_berths, .ref h_p0_train_roster, .ref h_p0_train_settings, .int v_nextNumber, .int v_bookings, .int v_leftOut])), (h_p0_train_berths, .inr (0, [.ref h_p0_train_berths_holders, .ref h_p0_train_berths_ends])), (h_p0_train_berths_ends, .inl (cyI, 3, .inl v_ends)), (h_p0_train_berths_holders, .inl (cyI, 162, .inl v_holders)), (h_p0_train_settings, .inl (cyI, 3, .inl v_settings))]) hD hS hA [1, 2, 3, 4, 5] rfl
    refine va_callr (va_runV (As := [.int a1, .int a2, .int a3]) (rest := [.ref h_p0]) ⟨hx, hb, hml, hown, hts⟩ (c_X5_findBerths l dC dI cyI cyJ cyT h_p0_train h_p0_train_berths h_p0_train_roster h_p0_train_settings h_p0_train_berths_holders h_p0_train_berths_ends H.size v_nextNumber v_bookings v_leftOut v_ends v_holders v_settings a1 a2 a3 n r8 e9) (cwV 3 hts gX6_ifBooked_X5_findBerths rfl rfl rfl (by decide +kernel) ⟨Nat.le_of_ble_eq_true rfl, Nat.le_of_ble_eq_true rfl⟩) ⟨PRE.blind, va_recv hK hPc (ci := 5) (q0 := 0) rfl rfl, PRE.go hK hPc hDc hNW⟩ rfl rfl hl.1 rfl (lv_room (Nat.le_of_ble_eq_true rfl)) dX6_ifBooked_32 ⟨(Nat.le_of_ble_eq_true rfl), (Nat.le_of_ble_eq_true rfl)⟩) hS (fun q _ h => hFc q h) hFc (fun u q10 t H locs ht hvm hw hB hz1 hk1 hS => ?_)
    obtain ⟨hP, hD⟩ := va_join (wr := [(h_p0, .inr (6, [.ref h_p0_train, .ref h_p0_history, .ref h_p0_text]))]) (w1 := [(h_p0_train, .inr (5, [.ref h_p0_train_berths, .ref h_p0_train_roster, .ref h_p0_train_settings, .int v_nextNumber, .int v_bookings, .int v_leftOut])), (h_p0_train_berths, .inr (0, [.ref h_p0_train_berths_holders, .ref h_p0_train_berths_ends])), (h_p0_train_berths_ends, .inl (cyI, 3, .inl v_ends)), (h_p0_train_berths_holders, .inl (cyI, 162, .inl v_holders)), (h_p0_train_settings, .inl (cyI, 3, .inl v_settings)), (q10, .inr (2, [.int r8.1, .int r8.2.1, .int r8.2.2]))]) hP hD [1, 2, 3, 4, 5] [0] rfl rfl (by decide) (by decide) hk1 hFc (WLD.P hB ht) hB.2
    have hP : va_P (dC, dI) vwCl [(h_p0, .inr (6, [.ref h_p0_train, .ref h_p0_history, .ref h_p0_text])), (h_p0_train, .inr (5, [.ref h_p0_train_berths, .ref h_p0_train_roster, .ref h_p0_train_settings, .int v_nextNumber, .int v_bookings, .int v_leftOut])), (h_p0_train_berths, .inr (0, [.ref h_p0_train_berths_holders, .ref h_p0_train_berths_ends])), (h_p0_train_berths_ends, .inl (cyI, 3, .inl v_ends)), (h_p0_train_berths_holders, .inl (cyI, 162, .inl v_holders)), (h_p0_train_settings, .inl (cyI, 3, .inl v_settings)), (q10, .inr (2, [.int r8.1, .int r8.2.1, .int r8.2.2]))] H := hP
    have hD : va_D A [(h_p0, .inr (6, [.ref h_p0_train, .ref h_p0_history, .ref h_p0_text])), (h_p0_train, .inr (5, [.ref h_p0_train_berths, .ref h_p0_train_roster, .ref h_p0_train_settings, .int v_nextNumber, .int v_bookings, .int v_leftOut])), (h_p0_train_berths, .inr (0, [.ref h_p0_train_berths_holders, .ref h_p0_train_berths_ends])), (h_p0_train_berths_ends, .inl (cyI, 3, .inl v_ends)), (h_p0_train_berths_holders, .inl (cyI, 162, .inl v_holders)), (h_p0_train_settings, .inl (cyI, 3, .inl v_settings)), (q10, .inr (2, [.int r8.1, .int r8.2.1, .int r8.2.2]))] := hD
    refine lv_iload_n hx hb dX6_ifBooked_35 rfl (lv_at hl 1 rfl) ?_
    refine lv_iload_n hx hb dX6_ifBooked_36 rfl (lv_at hl 2 rfl) ?_
    refine lv_iload hx hb dX6_ifBooked_37 (lv_at hl 4 rfl) ?_
    obtain ⟨r12, e13, h⟩ := bsome h
    have hPc := sb_P [(h_p0, .inr (6, [.ref h_p0_train, .ref h_p0_history, .ref h_p0_text])), (h_p0_train, .inr (5, [.ref h_p0_train_berths, .ref h_p0_train_roster, .ref h_p0_train_settings, .int v_nextNumber, .int v_bookings, .int v_leftOut])), (h_p0_train_berths, .inr (0, [.ref h_p0_train_berths_holders, .ref h_p0_train_berths_ends])), (h_p0_train_berths_holders, .inl (cyI, 162, .inl v_holders)), (q10, .inr (2, [.int r8.1, .int r8.2.1, .int r8.2.2]))] hP [0, 1, 2, 4, 6] rfl
    have hDc := sb_D [(h_p0, .inr (6, [.ref h_p0_train, .ref h_p0_history, .ref h_p0_text])), (h_p0_train, .inr (5, [.ref h_p0_train_berths, .ref h_p0_train_roster, .ref h_p0_train_settings, .int v_nextNumber, .int v_bookings, .int v_leftOut])), (h_p0_train_berths, .inr (0, [.ref h_p0_train_berths_holders, .ref h_p0_train_berths_ends])), (h_p0_train_berths_holders, .inl (cyI, 162, .inl v_holders)), (q10, .inr (2, [.int r8.1, .int r8.2.1, .int r8.2.2]))] hD [0, 1, 2, 4, 6] (by decide) rfl
    have hFc := va_free (wc := [(h_p0, .inr (6, [.ref h_p0_train, .ref h_p0_history, .ref h_p0_text])), (h_p0_train, .inr (5, [.ref h_p0_train_berths, .ref h_p0_train_roster, .ref h_p0_train_settings, .int v_nextNumber, .int v_bookings, .int v_leftOut])), (h_p0_train_berths, .inr (0, [.ref h_p0_train_berths_holders, .ref h_p0_train_berths_ends])), (h_p0_train_berths_holders, .inl (cyI, 162, .inl v_holders)), (q10, .inr (2, [.int r8.1, .int r8.2.1, .int r8.2.2]))]) hD hS hA [0, 1, 2, 4, 6] rfl
    refine va_calli (va_runV (As := [.ref q10, .int a1, .int a2, .int a4]) (rest := []) ⟨hx, hb, hml, hown, hts⟩ (c_X6_tell l dC dI cyI cyJ cyT h_p0 h_p0_train h_p0_history h_p0_text h_p0_train_berths h_p0_train_roster h_p0_train_settings h_p0_train_berths_holders h_p0_train_berths_ends q10 H.size v_nextNumber v_bookings v_leftOut v_holders r8.1 r8.2.1 r8.2.2 a1 a2 a4 n r12 e13) (cwV 4 hts gX6_ifBooked_X6_tell rfl rfl rfl (by decide +kernel) ⟨Nat.le_of_ble_eq_true rfl, Nat.le_of_ble_eq_true rfl⟩) ⟨PRE.blind, va_recv hK hPc (ci := 6) (q0 := 0) rfl rfl, PRE.go hK hPc hDc hNW⟩ rfl rfl hl.1 rfl (lv_room (Nat.le_of_ble_eq_true rfl)) dX6_ifBooked_39 ⟨Nat.zero_le _, Nat.zero_le _⟩) hS (fun q _ h => hFc q h) hFc (fun z14 u t H locs ht hvm hw hB hz1 hk1 hS => ?_)
    subst z14
    obtain ⟨hP, hD⟩ := va_join (wr := [(h_p0_train_berths_ends, .inl (cyI, 3, .inl v_ends)), (h_p0_train_settings, .inl (cyI, 3, .inl v_settings))]) (w1 := [(h_p0, .inr (6, [.ref h_p0_train, .ref h_p0_history, .ref h_p0_text])), (h_p0_train, .inr (5, [.ref h_p0_train_berths, .ref h_p0_train_roster, .ref h_p0_train_settings, .int v_nextNumber, .int v_bookings, .int v_leftOut])), (h_p0_train_berths, .inr (0, [.ref h_p0_train_berths_holders, .ref h_p0_train_berths_ends])), (h_p0_train_berths_holders, .inl (cyI, 162, .inl v_holders)), (q10, .inr (2, [.int r8.1, .int r8.2.1, .int r8.2.2]))]) hP hD [0, 1, 2, 4, 6] [3, 5] rfl rfl (by decide) (by decide) hk1 hFc (WLD.P hB ht) hB.2
    have hP : va_P (dC, dI) vwCl [(h_p0_train_berths_ends, .inl (cyI, 3, .inl v_ends)), (h_p0_train_settings, .inl (cyI, 3, .inl v_settings)), (h_p0, .inr (6, [.ref h_p0_train, .ref h_p0_history, .ref h_p0_text])), (h_p0_train, .inr (5, [.ref h_p0_train_berths, .ref h_p0_train_roster, .ref h_p0_train_settings, .int v_nextNumber, .int v_bookings, .int v_leftOut])), (h_p0_train_berths, .inr (0, [.ref h_p0_train_berths_holders, .ref h_p0_train_berths_ends])), (h_p0_train_berths_holders, .inl (cyI, 162, .inl v_holders)), (q10, .inr (2, [.int r8.1, .int r8.2.1, .int r8.2.2]))] H := hP
    have hD : va_D A [(h_p0_train_berths_ends, .inl (cyI, 3, .inl v_ends)), (h_p0_train_settings, .inl (cyI, 3, .inl v_settings)), (h_p0, .inr (6, [.ref h_p0_train, .ref h_p0_history, .ref h_p0_text])), (h_p0_train, .inr (5, [.ref h_p0_train_berths, .ref h_p0_train_roster, .ref h_p0_train_settings, .int v_nextNumber, .int v_bookings, .int v_leftOut])), (h_p0_train_berths, .inr (0, [.ref h_p0_train_berths_holders, .ref h_p0_train_berths_ends])), (h_p0_train_berths_holders, .inl (cyI, 162, .inl v_holders)), (q10, .inr (2, [.int r8.1, .int r8.2.1, .int r8.2.2]))] := hD
    obtain rfl := Option.some.inj h
    refine W.widen (k := 5) (n := 21) (Nat.le_of_ble_eq_true rfl) (Nat.le_of_ble_eq_true rfl) ?_
    refine vx_ret ?_
    exact W.iret (v := r12) hx hb hr (fun t ht hW => ⟨⟨r12, (), rfl, ⟨rfl, rfl⟩, WLD.of ht (sb_P [(h_p0, .inr (6, [.ref h_p0_train, .ref h_p0_history, .ref h_p0_text])), (h_p0_train, .inr (5, [.ref h_p0_train_berths, .ref h_p0_train_roster, .ref h_p0_train_settings, .int v_nextNumber, .int v_bookings, .int v_leftOut])), (h_p0_train_berths, .inr (0, [.ref h_p0_train_berths_holders, .ref h_p0_train_berths_ends])), (h_p0_train_berths_ends, .inl (cyI, 3, .inl v_ends)), (h_p0_train_berths_holders, .inl (cyI, 162, .inl v_holders)), (h_p0_train_settings, .inl (cyI, 3, .inl v_settings))] hP [2, 3, 4, 0, 5, 1] rfl) (sb_D [(h_p0, .inr (6, [.ref h_p0_train, .ref h_p0_history, .ref h_p0_text])), (h_p0_train, .inr (5, [.ref h_p0_train_berths, .ref h_p0_train_roster, .ref h_p0_train_settings, .int v_nextNumber, .int v_bookings, .int v_leftOut])), (h_p0_train_berths, .inr (0, [.ref h_p0_train_berths_holders, .ref h_p0_train_berths_ends])), (h_p0_train_berths_ends, .inl (cyI, 3, .inl v_ends)), (h_p0_train_berths_holders, .inl (cyI, 162, .inl v_holders)), (h_p0_train_settings, .inl (cyI, 3, .inl v_settings))] hD [2, 3, 4, 0, 5, 1] (by decide) rfl)⟩, hS.F ht⟩) hS.2.2 dX6_ifBooked_42
  · have h := ipos c7 h
    obtain rfl := Option.some.inj h
    obtain ⟨sa15, hstr⟩ := hXR.2.2 17 rfl
    exact vx_throwS (names := ["java/lang/RuntimeException", "java/lang/Exception"]) (sa := sa15) hx hb hl0 hown (by decide +kernel) (by decide +kernel) (hts (.classLink RX6 116 "java/lang/IllegalArgumentException") m_X6_ifBooked_3) (hts (.initialized "java/lang/IllegalArgumentException") m_X6_ifBooked_4) hstr (xhat hts m_X6_ifBooked_2 hXR (by decide +kernel)) (by decide +kernel) hXS.1 hXS.2 hS (hl.1.trans hml.symm) dX6_ifBooked_14 dX6_ifBooked_17 dX6_ifBooked_18 dX6_ifBooked_20 dX6_ifBooked_23 (fun x hx9 => (hno x hx9).elim) (Nat.le_of_ble_eq_true rfl) (Nat.le_of_ble_eq_true rfl) (Nat.le_of_ble_eq_true rfl) (Nat.le_of_ble_eq_true rfl) hlocks (fun t _ h1 h2 => XWL.of (by decide) rfl hP hD hS h1 h2) hS.2.2 (Nat.le_of_ble_eq_true rfl) (Nat.le_of_ble_eq_true rfl)
def s_X0_farthestOpen_L4 (n : Nat) (v_ends : Nat → Int32) (v_holders : Nat → Int32) (a1 : Int32) : Nat → Int32 → Int32 → Option (Int32)
  | 0, _, _ => none
  | k + 1, x2, x3 => (if iI 18 ≤ x3 then (some (x2)) else ((s_X0_openTill n v_ends v_holders x3 a1).bind fun r2 => (s_X0_farthestOpen_L4 n v_ends v_holders a1 k (if x2 < r2 then r2 else x2) (x3 + iI 1))))
def s_X0_farthestOpen (n : Nat) (v_ends : Nat → Int32) (v_holders : Nat → Int32) (a1 : Int32) : Option (Int32) := (s_X0_farthestOpen_L4 n v_ends v_holders a1 n a1 (iI 0))
set_option maxRecDepth 20000 in
theorem m_X0_farthestOpen_0 : (.methodLink RX0 38 Lib.Math.max.name : Cond) ∈ wsX0_farthestOpen := by decide +kernel
set_option maxRecDepth 20000 in
theorem m_X0_farthestOpen_1 : (.static Lib.Math.max.name : Cond) ∈ wsX0_farthestOpen := by decide +kernel
set_option maxRecDepth 20000 in
theorem m_X0_farthestOpen_2 : (.initialized "java/lang/Math" : Cond) ∈ wsX0_farthestOpen := by decide +kernel
set_option maxRecDepth 20000 in
theorem m_X0_farthestOpen_3 : (.code Lib.Math.max.name Lib.Math.max.code 2 (some .int) : Cond) ∈ wsX0_farthestOpen := by decide +kernel
set_option maxHeartbeats 4000000 in
set_option maxRecDepth 100000 in
theorem c_X0_farthestOpen (l : Launch) (dC : Nat → ClassId) (dI : Nat → Nat → Nat) (cyI cyJ cyT : ClassId) (h_p0 : Nat) (h_p0_holders : Nat) (h_p0_ends : Nat) (sz : Nat) (v_ends : Nat → Int32) (v_holders : Nat → Int32) (a1 : Int32) (n : Nat) (o : Int32) (h : s_X0_farthestOpen n v_ends v_holders a1 = some o) : Met l yX0_farthestOpen wsX0_farthestOpen ({ frames := 2, cells := 0, slots := 0, locals := 47 }) (va_Pc [.ref h_p0, .int a1] (PRE (dC, dI) (TYS cyI cyJ cyT) sz [(h_p0, .inr (0, [.ref h_p0_holders, .ref h_p0_ends])), (h_p0_ends, .inl (cyI, 3, .inl v_ends)), (h_p0_holders, .inl (cyI, 162, .inl v_holders))])) (va_Qi (S := Unit) (fun r _ => r = o) (fun _ t => WLD (dC, dI) (va_A [(h_p0, .inr (0, [.ref h_p0_holders, .ref h_p0_ends])), (h_p0_ends, .inl (cyI, 3, .inl v_ends)), (h_p0_holders, .inl (cyI, 162, .inl v_holders))] sz) [(h_p0, .inr (0, [.ref h_p0_holders, .ref h_p0_ends])), (h_p0_ends, .inl (cyI, 3, .inl v_ends)), (h_p0_holders, .inl (cyI, 162, .inl v_holders))] t) (va_A [(h_p0, .inr (0, [.ref h_p0_holders, .ref h_p0_ends])), (h_p0_ends, .inl (cyI, 3, .inl v_ends)), (h_p0_holders, .inl (cyI, 162, .inl v_holders))] sz)) 0 0 (va_A [(h_p0, .inr (0, [.ref h_p0_holders, .ref h_p0_ends])), (h_p0_ends, .inl (cyI, 3, .inl v_ends)), (h_p0_holders, .inl (cyI, 162, .inl v_holders))] sz) := by
  refine Met.ofW (cc := cX0_farthestOpen) (maxL := 4) (ret := (some .int)) (by decide) rfl ?_
  intro p e s m args below meth c s₁ B hml hv
  obtain ⟨rfl, hsz, hP, hK, hD0, hNW⟩ := hv
  have hx := B.exec
  have hb := B.bytes
  have hr := B.returns
  have hts := atoms_spec (ws := wsX0_farthestOpen) B.pre
  have hown : s.vm.findClass RX0 = some m.cls := findClass_of_methodNamed B.named
  have hlocks := B.notSynchronized
  subst hsz
  have hD := hD0.self (sz := s.heap.size)
  generalize hAe : va_A [(h_p0, .inr (0, [.ref h_p0_holders, .ref h_p0_ends])), (h_p0_ends, .inl (cyI, 3, .inl v_ends)), (h_p0_holders, .inl (cyI, 162, .inl v_holders))] s.heap.size = A at hD ⊢
  have hA : ∀ q : Nat, s.heap.size ≤ q → A q := fun q h => by rw [← hAe]; exact Or.inr h
  have hS : va_S A s.heap s.heap [] := va_S.rf
  have hP : va_P (dC, dI) vwCl [(h_p0, .inr (0, [.ref h_p0_holders, .ref h_p0_ends])), (h_p0_ends, .inl (cyI, 3, .inl v_ends)), (h_p0_holders, .inl (cyI, 162, .inl v_holders))] s.heap := hP
  have L4 : ∀ (k : Nat), (∀ (x2 : Int32) (x3 : Int32) (H : Heap) (locs : List Loc), va_P (dC, dI) vwCl [(h_p0, .inr (0, [.ref h_p0_holders, .ref h_p0_ends])), (h_p0_ends, .inl (cyI, 3, .inl v_ends)), (h_p0_holders, .inl (cyI, 162, .inl v_holders))] H → va_D A [(h_p0, .inr (0, [.ref h_p0_holders, .ref h_p0_ends])), (h_p0_ends, .inl (cyI, 3, .inl v_ends)), (h_p0_holders, .inl (cyI, 162, .inl v_holders))] → va_S A s.heap H locs → ∀ (ls : Array Slot), lv_has ls 4 [(0, .ref h_p0), (1, .int a1), (2, .int x2), (3, .int x3)] →  s_X0_farthestOpen_L4 n v_ends v_holders a1 k x2 x3 = some o → W p l e (headSpec wsX0_farthestOpen ({ frames := 2, cells := 0, slots := 0, locals := 47 })).room s m (([.ref h_p0, .int a1] : List Value).toArray) below meth c H locs 0 0 (MQ below (va_Qi (S := Unit) (fun r _ => r = o) (fun _ t => WLD (dC, dI) A [(h_p0, .inr (0, [.ref h_p0_holders, .ref h_p0_ends])), (h_p0_ends, .inl (cyI, 3, .inl v_ends)), (h_p0_holders, .inl (cyI, 162, .inl v_holders))] t) A) (([.ref h_p0, .int a1] : List Value).toArray) s 0 0 A) (F0 m 4 ls [])) := by
    intro k
    induction k with
    | zero =>
      intro  x2 x3 H locs hP hD hS ls hl h
      rw [s_X0_farthestOpen_L4] at h
      cases h
    | succ k ih =>
      intro  x2 x3 H locs hP hD hS ls hl h
      rw [s_X0_farthestOpen_L4] at h
      refine lv_iload_n hx hb dX0_farthestOpen_4 rfl (lv_at hl 3 rfl) ?_
      refine lv_bipush (v := iI 18) hx hb dX0_farthestOpen_5 (by decide) ?_
      refine lv_icmp_ge (tgt := 27) hx hb dX0_farthestOpen_7 (by decide) (fun c1 => ?_) (fun c1 => ?_)
      · have h := ipos c1 h
        refine lv_iload_n hx hb dX0_farthestOpen_27 rfl (lv_at hl 2 rfl) ?_
        obtain rfl := Option.some.inj h
        exact W.iret (v := x2) hx hb hr (fun t ht hW => ⟨⟨x2, (), rfl, rfl, WLD.of ht hP hD⟩, hS.F ht⟩) hS.2.2 dX0_farthestOpen_28
      · have h := ineg c1 h
        refine lv_iload_n hx hb dX0_farthestOpen_10 rfl (lv_at hl 2 rfl) ?_
        refine lv_aload_n hx hb dX0_farthestOpen_11 rfl (lv_at hl 0 rfl) ?_
        refine lv_iload_n hx hb dX0_farthestOpen_12 rfl (lv_at hl 3 rfl) ?_
        refine lv_iload_n hx hb dX0_farthestOpen_13 rfl (lv_at hl 1 rfl) ?_
        obtain ⟨r2, e3, h⟩ := bsome h
        have hPc := sb_P [(h_p0, .inr (0, [.ref h_p0_holders, .ref h_p0_ends])), (h_p0_ends, .inl (cyI, 3, .inl v_ends)), (h_p0_holders, .inl (cyI, 162, .inl v_holders))] hP [0, 1, 2] rfl
        have hDc := sb_D [(h_p0, .inr (0, [.ref h_p0_holders, .ref h_p0_ends])), (h_p0_ends, .inl (cyI, 3, .inl v_ends)), (h_p0_holders, .inl (cyI, 162, .inl v_holders))] hD [0, 1, 2] (by decide) rfl
        have hFc := va_free (wc := [(h_p0, .inr (0, [.ref h_p0_holders, .ref h_p0_ends])), (h_p0_ends, .inl (cyI, 3, .inl v_ends)), (h_p0_holders, .inl (cyI, 162, .inl v_holders))]) hD hS hA [0, 1, 2] rfl
        refine va_calli (va_runV (As := [.int x3, .int a1]) (rest := [.int x2]) ⟨hx, hb, hml, hown, hts⟩ (c_X0_openTill l dC dI cyI cyJ cyT h_p0 h_p0_holders h_p0_ends H.size v_ends v_holders x3 a1 n r2 e3) (cwV 2 hts gX0_farthestOpen_X0_openTill rfl rfl rfl (by decide +kernel) ⟨Nat.le_of_ble_eq_true rfl, Nat.le_of_ble_eq_true rfl⟩) ⟨PRE.blind, va_recv hK hPc (ci := 0) (q0 := 0) rfl rfl, PRE.go hK hPc hDc hNW⟩ rfl rfl hl.1 rfl (lv_room (Nat.le_of_ble_eq_true rfl)) dX0_farthestOpen_14 ⟨Nat.zero_le _, Nat.zero_le _⟩) hS (fun q _ h => hFc q h) hFc (fun z4 u t H locs ht hvm hw hB hz1 hk1 hS => ?_)
        subst z4
        obtain ⟨hP, hD⟩ := va_join (wr := []) (w1 := [(h_p0, .inr (0, [.ref h_p0_holders, .ref h_p0_ends])), (h_p0_ends, .inl (cyI, 3, .inl v_ends)), (h_p0_holders, .inl (cyI, 162, .inl v_holders))]) hP hD [0, 1, 2] [] rfl rfl (by decide) (by decide) hk1 hFc (WLD.P hB ht) hB.2
        have hP : va_P (dC, dI) vwCl [(h_p0, .inr (0, [.ref h_p0_holders, .ref h_p0_ends])), (h_p0_ends, .inl (cyI, 3, .inl v_ends)), (h_p0_holders, .inl (cyI, 162, .inl v_holders))] H := hP
        have hD : va_D A [(h_p0, .inr (0, [.ref h_p0_holders, .ref h_p0_ends])), (h_p0_ends, .inl (cyI, 3, .inl v_ends)), (h_p0_holders, .inl (cyI, 162, .inl v_holders))] := hD
        refine va_mmax hx hb (hml.trans hl.1.symm) hown (hts (.methodLink RX0 38 Lib.Math.max.name) m_X0_farthestOpen_0) (hts (.static Lib.Math.max.name) m_X0_farthestOpen_1) (hts (.initialized "java/lang/Math") m_X0_farthestOpen_2) (hts (.code Lib.Math.max.name Lib.Math.max.code 2 (some .int)) m_X0_farthestOpen_3) (Nat.le_of_ble_eq_true rfl) (Nat.le_of_ble_eq_true rfl) (Nat.zero_le _) (Nat.zero_le _) dX0_farthestOpen_17 ?_
        refine lv_istore_n hx hb dX0_farthestOpen_20 rfl hl (by decide) (rfl : _ = ([(2, .int (if x2 < r2 then r2 else x2)), (0, .ref h_p0), (1, .int a1), (3, .int x3)] : List (Nat × Value))) (fun ls hl => ?_)
        refine lv_iinc (v := (x3 + iI 1)) hx hb dX0_farthestOpen_21 hl (k := 3) rfl rfl (by decide) (rfl : _ = ([(3, .int (x3 + iI 1)), (2, .int (if x2 < r2 then r2 else x2)), (0, .ref h_p0), (1, .int a1)] : List (Nat × Value))) (fun ls hl => ?_)
        refine lv_goto (tgt := 4) hx hb dX0_farthestOpen_24 (by decide) ?_
        exact ih (if x2 < r2 then r2 else x2) (x3 + iI 1) _ _ hP hD hS ls (lv_sub hl [2, 3, 1, 0] rfl) h
  have hl := lv_entry ([.ref h_p0, .int a1]) (n := 4) (Nat.le_of_ble_eq_true rfl)
  rw [lg_entry_eq]
  generalize (lg_sl ([.ref h_p0, .int a1]) ++ List.replicate (4 - (lg_sl ([.ref h_p0, .int a1])).length) Slot.unset).toArray = ls at hl ⊢
  have hl : lv_has ls 4 [(0, .ref h_p0), (1, .int a1)] := hl
  unfold s_X0_farthestOpen at h
  refine lv_iload_n hx hb dX0_farthestOpen_0 rfl (lv_at hl 1 rfl) ?_
  refine lv_istore_n hx hb dX0_farthestOpen_1 rfl hl (by decide) (rfl : _ = ([(2, .int a1), (0, .ref h_p0), (1, .int a1)] : List (Nat × Value))) (fun ls hl => ?_)
  refine lv_iconst (v := iI 0) hx hb dX0_farthestOpen_2 rfl ?_
  refine lv_istore_n hx hb dX0_farthestOpen_3 rfl hl (by decide) (rfl : _ = ([(3, .int (iI 0)), (2, .int a1), (0, .ref h_p0), (1, .int a1)] : List (Nat × Value))) (fun ls hl => ?_)
  exact L4 n a1 (iI 0) _ _ hP hD hS ls (lv_sub hl [2, 3, 1, 0] rfl) h
