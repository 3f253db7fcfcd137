def s_X0_wokenIn_L25 (n : Nat) (v_holders : Nat → Int32) (a3 : Int32) : Nat → Int32 → Int32 → Int32 → Option (Int32)
  | 0, _, _, _ => none
  | k + 1, x4, x5, x6 => (if a3 ≤ x6 then (some (x5)) else (if ((x4 * iI 9) + x6) ≤ 0 then (s_X0_wokenIn_L25 n v_holders a3 k x4 x5 (x6 + iI 1)) else (if iI 162 ≤ ((x4 * iI 9) + x6) then (s_X0_wokenIn_L25 n v_holders a3 k x4 x5 (x6 + iI 1)) else (if gd (((x4 * iI 9) + x6) - iI 1) 162 = true then (if gd ((x4 * iI 9) + x6) 162 = true then (if (v_holders (((x4 * iI 9) + x6) - iI 1).toNatClampNeg) = (v_holders ((x4 * iI 9) + x6).toNatClampNeg) then (s_X0_wokenIn_L25 n v_holders a3 k x4 x5 (x6 + iI 1)) else (s_X0_wokenIn_L25 n v_holders a3 k x4 (x5 + iI 1) (x6 + iI 1))) else none) else none))))
def s_X0_wokenIn (n : Nat) (v_holders : Nat → Int32) (a1 : Int32) (a2 : Int32) (a3 : Int32) : Option (Int32) := (if (a1 - a1 / iI 2 * iI 2) = 0 then (s_X0_wokenIn_L25 n v_holders a3 n (a1 + iI 1) (iI 0) (a2 + iI 1)) else (s_X0_wokenIn_L25 n v_holders a3 n (a1 - iI 1) (iI 0) (a2 + iI 1)))
set_option maxRecDepth 20000 in
theorem m_X0_wokenIn_0 : ∀ w ∈ u_ws RX0 TX0 2, w ∈ wsX0_wokenIn := by decide +kernel
set_option maxRecDepth 20000 in
theorem m_X0_wokenIn_1 : (.fieldLink RX0 9 "SleeperBerths$Berths" "holders" "[I" : Cond) ∈ wsX0_wokenIn := by decide +kernel
set_option maxHeartbeats 4000000 in
set_option maxRecDepth 100000 in
theorem c_X0_wokenIn (l : Launch) (dC : Nat → ClassId) (dI : Nat → Nat → Nat) (cyI cyJ cyT : ClassId) (h_p0 : Nat) (h_p0_holders : Nat) (h_p0_ends : Nat) (sz : Nat) (v_holders : Nat → Int32) (a1 : Int32) (a2 : Int32) (a3 : Int32) (n : Nat) (o : Int32) (h : s_X0_wokenIn n v_holders a1 a2 a3 = some o) : Met l yX0_wokenIn wsX0_wokenIn ({ frames := 0, cells := 0, slots := 0, locals := 0 }) (va_Pc [.ref h_p0, .int a1, .int a2, .int a3] (PRE (dC, dI) (TYS cyI cyJ cyT) sz [(h_p0, .inr (0, [.ref h_p0_holders, .ref h_p0_ends])), (h_p0_holders, .inl (cyI, 162, .inl v_holders))])) (va_Qi (S := Unit) (fun r _ => r = o) (fun _ t => WLD (dC, dI) (va_A [(h_p0, .inr (0, [.ref h_p0_holders, .ref h_p0_ends])), (h_p0_holders, .inl (cyI, 162, .inl v_holders))] sz) [(h_p0, .inr (0, [.ref h_p0_holders, .ref h_p0_ends])), (h_p0_holders, .inl (cyI, 162, .inl v_holders))] t) (va_A [(h_p0, .inr (0, [.ref h_p0_holders, .ref h_p0_ends])), (h_p0_holders, .inl (cyI, 162, .inl v_holders))] sz)) 0 0 (va_A [(h_p0, .inr (0, [.ref h_p0_holders, .ref h_p0_ends])), (h_p0_holders, .inl (cyI, 162, .inl v_holders))] sz) := by
  refine Met.ofW (cc := cX0_wokenIn) (maxL := 8) (ret := (some .int)) (by decide) rfl ?_
  intro p e s m args below meth c s₁ B hml hv
  obtain ⟨rfl, hsz, hP, hK, hD0, hNW⟩ := hv
  have hx := B.exec
  have hb := B.bytes
  have hr := B.returns
  have hts := atoms_spec (ws := wsX0_wokenIn) B.pre
  have hown : s.vm.findClass RX0 = some m.cls := findClass_of_methodNamed B.named
  have hlocks := B.notSynchronized
  subst hsz
  have hD := hD0.self (sz := s.heap.size)
  generalize hAe : va_A [(h_p0, .inr (0, [.ref h_p0_holders, .ref h_p0_ends])), (h_p0_holders, .inl (cyI, 162, .inl v_holders))] s.heap.size = A at hD ⊢
  have hA : ∀ q : Nat, s.heap.size ≤ q → A q := fun q h => by rw [← hAe]; exact Or.inr h
  have hS : va_S A s.heap s.heap [] := va_S.rf
  have hP : va_P (dC, dI) vwCl [(h_p0, .inr (0, [.ref h_p0_holders, .ref h_p0_ends])), (h_p0_holders, .inl (cyI, 162, .inl v_holders))] s.heap := hP
  have L25 : ∀ (k : Nat), (∀ (x4 : Int32) (x5 : Int32) (x6 : Int32) (H : Heap) (locs : List Loc), va_P (dC, dI) vwCl [(h_p0, .inr (0, [.ref h_p0_holders, .ref h_p0_ends])), (h_p0_holders, .inl (cyI, 162, .inl v_holders))] H → va_D A [(h_p0, .inr (0, [.ref h_p0_holders, .ref h_p0_ends])), (h_p0_holders, .inl (cyI, 162, .inl v_holders))] → va_S A s.heap H locs → ∀ (ls : Array Slot), lv_has ls 8 [(0, .ref h_p0), (3, .int a3), (4, .int x4), (5, .int x5), (6, .int x6)] →  s_X0_wokenIn_L25 n v_holders a3 k x4 x5 x6 = some o → W p l e (headSpec wsX0_wokenIn ({ frames := 0, cells := 0, slots := 0, locals := 0 })).room s m (([.ref h_p0, .int a1, .int a2, .int a3] : List Value).toArray) below meth c H locs 0 0 (MQ below (va_Qi (S := Unit) (fun r _ => r = o) (fun _ t => WLD (dC, dI) A [(h_p0, .inr (0, [.ref h_p0_holders, .ref h_p0_ends])), (h_p0_holders, .inl (cyI, 162, .inl v_holders))] t) A) (([.ref h_p0, .int a1, .int a2, .int a3] : List Value).toArray) s 0 0 A) (F0 m 25 ls [])) := by
    intro k
    induction k with
    | zero =>
      intro  x4 x5 x6 H locs hP hD hS ls hl h
      rw [s_X0_wokenIn_L25] at h
      cases h
    | succ k ih =>
      intro  x4 x5 x6 H locs hP hD hS ls hl h
      rw [s_X0_wokenIn_L25] at h
      refine lv_iload hx hb dX0_wokenIn_25 (lv_at hl 4 rfl) ?_
      refine lv_iload_n hx hb dX0_wokenIn_27 rfl (lv_at hl 1 rfl) ?_
      refine lv_icmp_ge (tgt := 84) hx hb dX0_wokenIn_28 (by decide) (fun c1 => ?_) (fun c1 => ?_)
      · have h := ipos c1 h
        refine lv_iload hx hb dX0_wokenIn_84 (lv_at hl 3 rfl) ?_
        obtain rfl := Option.some.inj h
        exact W.iret (v := x5) hx hb hr (fun t ht hW => ⟨⟨x5, (), rfl, rfl, WLD.of ht hP hD⟩, hS.F ht⟩) hS.2.2 dX0_wokenIn_86
      · have h := ineg c1 h
        refine lv_iload hx hb dX0_wokenIn_31 (lv_at hl 2 rfl) ?_
        refine lv_bipush (v := iI 9) hx hb dX0_wokenIn_33 (by decide) ?_
        refine lv_imul hx hb dX0_wokenIn_35 ?_
        refine lv_iload hx hb dX0_wokenIn_36 (lv_at hl 4 rfl) ?_
        refine lv_iadd hx hb dX0_wokenIn_38 ?_
        refine lv_istore hx hb dX0_wokenIn_39 hl (by decide) (rfl : _ = ([(7, .int ((x4 * iI 9) + x6)), (0, .ref h_p0), (3, .int a3), (4, .int x4), (5, .int x5), (6, .int x6)] : List (Nat × Value))) (fun ls hl => ?_)
        refine lv_iload hx hb dX0_wokenIn_41 (lv_at hl 0 rfl) ?_
        refine lv_if_le (tgt := 78) hx hb dX0_wokenIn_43 (by decide) (fun c2 => ?_) (fun c2 => ?_)
        · have h := ipos c2 h
          refine lv_iinc (v := (x6 + iI 1)) hx hb dX0_wokenIn_78 hl (k := 5) rfl rfl (by decide) (rfl : _ = ([(6, .int (x6 + iI 1)), (7, .int ((x4 * iI 9) + x6)), (0, .ref h_p0), (3, .int a3), (4, .int x4), (5, .int x5)] : List (Nat × Value))) (fun ls hl => ?_)
          refine lv_goto (tgt := 25) hx hb dX0_wokenIn_81 (by decide) ?_
          exact ih x4 x5 (x6 + iI 1) _ _ hP hD hS ls (lv_sub hl [2, 3, 4, 5, 0] rfl) h
        · have h := ineg c2 h
          refine lv_iload hx hb dX0_wokenIn_46 (lv_at hl 0 rfl) ?_
          refine lv_aload_n hx hb dX0_wokenIn_48 rfl (lv_at hl 1 rfl) ?_
          refine va_get (D := (dC, dI)) (ci := 0) (v := .ref h_p0_holders) (C := RX0) (T := TX0) (N := 2) hx hb hts m_X0_wokenIn_0 hown hK hP 0 rfl rfl 0 (by decide) (hts (.fieldLink RX0 9 "SleeperBerths$Berths" "holders" "[I") m_X0_wokenIn_1) (fun _ h9 => h9) rfl dX0_wokenIn_49 ?_
          refine va_alen (D := (dC, dI)) (v := iI 162) hx hb hK hP 1 0 rfl rfl (show Int32.ofNat 162 = iI 162 by decide) dX0_wokenIn_52 ?_
          refine lv_icmp_ge (tgt := 78) hx hb dX0_wokenIn_53 (by decide) (fun c3 => ?_) (fun c3 => ?_)
          · have h := ipos c3 h
            refine lv_iinc (v := (x6 + iI 1)) hx hb dX0_wokenIn_78 hl (k := 5) rfl rfl (by decide) (rfl : _ = ([(6, .int (x6 + iI 1)), (7, .int ((x4 * iI 9) + x6)), (0, .ref h_p0), (3, .int a3), (4, .int x4), (5, .int x5)] : List (Nat × Value))) (fun ls hl => ?_)
            refine lv_goto (tgt := 25) hx hb dX0_wokenIn_81 (by decide) ?_
            exact ih x4 x5 (x6 + iI 1) _ _ hP hD hS ls (lv_sub hl [2, 3, 4, 5, 0] rfl) h
          · have h := ineg c3 h
            refine lv_aload_n hx hb dX0_wokenIn_56 rfl (lv_at hl 1 rfl) ?_
            refine va_get (D := (dC, dI)) (ci := 0) (v := .ref h_p0_holders) (C := RX0) (T := TX0) (N := 2) hx hb hts m_X0_wokenIn_0 hown hK hP 0 rfl rfl 0 (by decide) (hts (.fieldLink RX0 9 "SleeperBerths$Berths" "holders" "[I") m_X0_wokenIn_1) (fun _ h9 => h9) rfl dX0_wokenIn_57 ?_
            refine lv_iload hx hb dX0_wokenIn_60 (lv_at hl 0 rfl) ?_
            refine lv_iconst (v := iI 1) hx hb dX0_wokenIn_62 rfl ?_
            refine lv_isub hx hb dX0_wokenIn_63 ?_
            obtain ⟨g4, h⟩ := gsome h
            refine va_iald (D := (dC, dI)) hx hb hK hP 1 0 rfl rfl g4 dX0_wokenIn_64 ?_
            refine lv_aload_n hx hb dX0_wokenIn_65 rfl (lv_at hl 1 rfl) ?_
            refine va_get (D := (dC, dI)) (ci := 0) (v := .ref h_p0_holders) (C := RX0) (T := TX0) (N := 2) hx hb hts m_X0_wokenIn_0 hown hK hP 0 rfl rfl 0 (by decide) (hts (.fieldLink RX0 9 "SleeperBerths$Berths" "holders" "[I") m_X0_wokenIn_1) (fun _ h9 => h9) rfl dX0_wokenIn_66 ?_
            refine lv_iload hx hb dX0_wokenIn_69 (lv_at hl 0 rfl) ?_
            obtain ⟨g5, h⟩ := gsome h
            refine va_iald (D := (dC, dI)) hx hb hK hP 1 0 rfl rfl g5 dX0_wokenIn_71 ?_
            refine lv_icmp_eq (tgt := 78) hx hb dX0_wokenIn_72 (by decide) (fun c6 => ?_) (fun c6 => ?_)
            · have h := ipos c6 h
              refine lv_iinc (v := (x6 + iI 1)) hx hb dX0_wokenIn_78 hl (k := 5) rfl rfl (by decide) (rfl : _ = ([(6, .int (x6 + iI 1)), (7, .int ((x4 * iI 9) + x6)), (0, .ref h_p0), (3, .int a3), (4, .int x4), (5, .int x5)] : List (Nat × Value))) (fun ls hl => ?_)
              refine lv_goto (tgt := 25) hx hb dX0_wokenIn_81 (by decide) ?_
              exact ih x4 x5 (x6 + iI 1) _ _ hP hD hS ls (lv_sub hl [2, 3, 4, 5, 0] rfl) h
            · have h := ineg c6 h
              refine lv_iinc (v := (x5 + iI 1)) hx hb dX0_wokenIn_75 hl (k := 4) rfl rfl (by decide) (rfl : _ = ([(5, .int (x5 + iI 1)), (7, .int ((x4 * iI 9) + x6)), (0, .ref h_p0), (3, .int a3), (4, .int x4), (6, .int x6)] : List (Nat × Value))) (fun ls hl => ?_)
              refine lv_iinc (v := (x6 + iI 1)) hx hb dX0_wokenIn_78 hl (k := 5) rfl rfl (by decide) (rfl : _ = ([(6, .int (x6 + iI 1)), (5, .int (x5 + iI 1)), (7, .int ((x4 * iI 9) + x6)), (0, .ref h_p0), (3, .int a3), (4, .int x4)] : List (Nat × Value))) (fun ls hl => ?_)
              refine lv_goto (tgt := 25) hx hb dX0_wokenIn_81 (by decide) ?_
              exact ih x4 (x5 + iI 1) (x6 + iI 1) _ _ hP hD hS ls (lv_sub hl [3, 4, 5, 1, 0] rfl) h
  have hl := lv_entry ([.ref h_p0, .int a1, .int a2, .int a3]) (n := 8) (Nat.le_of_ble_eq_true rfl)
  rw [lg_entry_eq]
  generalize (lg_sl ([.ref h_p0, .int a1, .int a2, .int a3]) ++ List.replicate (8 - (lg_sl ([.ref h_p0, .int a1, .int a2, .int a3])).length) Slot.unset).toArray = ls at hl ⊢
  have hl : lv_has ls 8 [(0, .ref h_p0), (1, .int a1), (2, .int a2), (3, .int a3)] := hl
  unfold s_X0_wokenIn at h
  refine lv_iload_n hx hb dX0_wokenIn_0 rfl (lv_at hl 1 rfl) ?_
  refine lv_iconst (v := iI 2) hx hb dX0_wokenIn_1 rfl ?_
  refine lv_irem hx hb dX0_wokenIn_2 (by decide) ?_
  refine lv_if_ne (tgt := 12) hx hb dX0_wokenIn_3 (by decide) (fun c7 => ?_) (fun c7 => ?_)
  · have h := ineg c7 h
    refine lv_iload_n hx hb dX0_wokenIn_12 rfl (lv_at hl 1 rfl) ?_
    refine lv_iconst (v := iI 1) hx hb dX0_wokenIn_13 rfl ?_
    refine lv_isub hx hb dX0_wokenIn_14 ?_
    refine lv_istore hx hb dX0_wokenIn_15 hl (by decide) (rfl : _ = ([(4, .int (a1 - iI 1)), (0, .ref h_p0), (1, .int a1), (2, .int a2), (3, .int a3)] : List (Nat × Value))) (fun ls hl => ?_)
    refine lv_iconst (v := iI 0) hx hb dX0_wokenIn_17 rfl ?_
    refine lv_istore hx hb dX0_wokenIn_18 hl (by decide) (rfl : _ = ([(5, .int (iI 0)), (4, .int (a1 - iI 1)), (0, .ref h_p0), (1, .int a1), (2, .int a2), (3, .int a3)] : List (Nat × Value))) (fun ls hl => ?_)
    refine lv_iload_n hx hb dX0_wokenIn_20 rfl (lv_at hl 4 rfl) ?_
    refine lv_iconst (v := iI 1) hx hb dX0_wokenIn_21 rfl ?_
    refine lv_iadd hx hb dX0_wokenIn_22 ?_
    refine lv_istore hx hb dX0_wokenIn_23 hl (by decide) (rfl : _ = ([(6, .int (a2 + iI 1)), (5, .int (iI 0)), (4, .int (a1 - iI 1)), (0, .ref h_p0), (1, .int a1), (2, .int a2), (3, .int a3)] : List (Nat × Value))) (fun ls hl => ?_)
    exact L25 n (a1 - iI 1) (iI 0) (a2 + iI 1) _ _ hP hD hS ls (lv_sub hl [3, 6, 2, 1, 0] rfl) h
  · have h := ipos c7 h
    refine lv_iload_n hx hb dX0_wokenIn_6 rfl (lv_at hl 1 rfl) ?_
    refine lv_iconst (v := iI 1) hx hb dX0_wokenIn_7 rfl ?_
    refine lv_iadd hx hb dX0_wokenIn_8 ?_
    refine lv_goto (tgt := 15) hx hb dX0_wokenIn_9 (by decide) ?_
    refine lv_istore hx hb dX0_wokenIn_15 hl (by decide) (rfl : _ = ([(4, .int (a1 + iI 1)), (0, .ref h_p0), (1, .int a1), (2, .int a2), (3, .int a3)] : List (Nat × Value))) (fun ls hl => ?_)
    refine lv_iconst (v := iI 0) hx hb dX0_wokenIn_17 rfl ?_
    refine lv_istore hx hb dX0_wokenIn_18 hl (by decide) (rfl : _ = ([(5, .int (iI 0)), (4, .int (a1 + iI 1)), (0, .ref h_p0), (1, .int a1), (2, .int a2), (3, .int a3)] : List (Nat × Value))) (fun ls hl => ?_)
    refine lv_iload_n hx hb dX0_wokenIn_20 rfl (lv_at hl 4 rfl) ?_
    refine lv_iconst (v := iI 1) hx hb dX0_wokenIn_21 rfl ?_
    refine lv_iadd hx hb dX0_wokenIn_22 ?_
    refine lv_istore hx hb dX0_wokenIn_23 hl (by decide) (rfl : _ = ([(6, .int (a2 + iI 1)), (5, .int (iI 0)), (4, .int (a1 + iI 1)), (0, .ref h_p0), (1, .int a1), (2, .int a2), (3, .int a3)] : List (Nat × Value))) (fun ls hl => ?_)
    exact L25 n (a1 + iI 1) (iI 0) (a2 + iI 1) _ _ hP hD hS ls (lv_sub hl [3, 6, 2, 1, 0] rfl) h
def s_X5_woken (n : Nat) (v_holders : Nat → Int32) (v_cells : Nat → Int32) (a1 : Int32) : Option (Int32) := ((s_X3_middle v_cells a1).bind fun r1 => ((s_X3_at v_cells a1 (iI 4)).bind fun r4 => ((s_X3_at v_cells a1 (iI 1)).bind fun r7 => ((s_X0_wokenIn n v_holders r4 r7 r1).bind fun r10 => ((s_X3_at v_cells a1 (iI 5)).bind fun r13 => ((s_X3_at v_cells a1 (iI 2)).bind fun r16 => ((s_X0_wokenIn n v_holders r13 r1 r16).bind fun r19 => (some ((r10 + r19))))))))))
set_option maxRecDepth 20000 in
theorem m_X5_woken_0 : ∀ w ∈ u_ws RX5 TX5 6, w ∈ wsX5_woken := by decide +kernel
set_option maxRecDepth 20000 in
theorem m_X5_woken_1 : (.fieldLink RX5 21 "SleeperBerths$Train" "roster" "LSleeperBerths$Roster;" : Cond) ∈ wsX5_woken := by decide +kernel
set_option maxRecDepth 20000 in
theorem m_X5_woken_2 : (.fieldLink RX5 12 "SleeperBerths$Train" "berths" "LSleeperBerths$Berths;" : Cond) ∈ wsX5_woken := by decide +kernel
set_option maxHeartbeats 4000000 in
set_option maxRecDepth 100000 in
theorem c_X5_woken (l : Launch) (dC : Nat → ClassId) (dI : Nat → Nat → Nat) (cyI cyJ cyT : ClassId) (h_p0 : Nat) (h_p0_berths : Nat) (h_p0_roster : Nat) (h_p0_settings : Nat) (h_p0_berths_holders : Nat) (h_p0_berths_ends : Nat) (h_p0_roster_cells : Nat) (sz : Nat) (v_nextNumber : Int32) (v_bookings : Int32) (v_leftOut : Int32) (v_holders : Nat → Int32) (v_size : Int32) (v_cells : Nat → Int32) (a1 : Int32) (n : Nat) (o : Int32) (h : s_X5_woken n v_holders v_cells a1 = some o) : Met l yX5_woken wsX5_woken ({ frames := 2, cells := 0, slots := 0, locals := 45 }) (va_Pc [.ref h_p0, .int a1] (PRE (dC, dI) (TYS cyI cyJ cyT) sz [(h_p0, .inr (5, [.ref h_p0_berths, .ref h_p0_roster, .ref h_p0_settings, .int v_nextNumber, .int v_bookings, .int v_leftOut])), (h_p0_berths, .inr (0, [.ref h_p0_berths_holders, .ref h_p0_berths_ends])), (h_p0_berths_holders, .inl (cyI, 162, .inl v_holders)), (h_p0_roster, .inr (3, [.ref h_p0_roster_cells, .int v_size])), (h_p0_roster_cells, .inl (cyI, 280, .inl v_cells))])) (va_Qi (S := Unit) (fun r _ => r = o) (fun _ t => WLD (dC, dI) (va_A [(h_p0, .inr (5, [.ref h_p0_berths, .ref h_p0_roster, .ref h_p0_settings, .int v_nextNumber, .int v_bookings, .int v_leftOut])), (h_p0_berths, .inr (0, [.ref h_p0_berths_holders, .ref h_p0_berths_ends])), (h_p0_berths_holders, .inl (cyI, 162, .inl v_holders)), (h_p0_roster, .inr (3, [.ref h_p0_roster_cells, .int v_size])), (h_p0_roster_cells, .inl (cyI, 280, .inl v_cells))] sz) [(h_p0, .inr (5, [.ref h_p0_berths, .ref h_p0_roster, .ref h_p0_settings, .int v_nextNumber, .int v_bookings, .int v_leftOut])), (h_p0_berths, .inr (0, [.ref h_p0_berths_holders, .ref h_p0_berths_ends])), (h_p0_berths_holders, .inl (cyI, 162, .inl v_holders)), (h_p0_roster, .inr (3, [.ref h_p0_roster_cells, .int v_size])), (h_p0_roster_cells, .inl (cyI, 280, .inl v_cells))] t) (va_A [(h_p0, .inr (5, [.ref h_p0_berths, .ref h_p0_roster, .ref h_p0_settings, .int v_nextNumber, .int v_bookings, .int v_leftOut])), (h_p0_berths, .inr (0, [.ref h_p0_berths_holders, .ref h_p0_berths_ends])), (h_p0_berths_holders, .inl (cyI, 162, .inl v_holders)), (h_p0_roster, .inr (3, [.ref h_p0_roster_cells, .int v_size])), (h_p0_roster_cells, .inl (cyI, 280, .inl v_cells))] sz)) 0 0 (va_A [(h_p0, .inr (5, [.ref h_p0_berths, .ref h_p0_roster, .ref h_p0_settings, .int v_nextNumber, .int v_bookings, .int v_leftOut])), (h_p0_berths, .inr (0, [.ref h_p0_berths_holders, .ref h_p0_berths_ends])), (h_p0_berths_holders, .inl (cyI, 162, .inl v_holders)), (h_p0_roster, .inr (3, [.ref h_p0_roster_cells, .int v_size])), (h_p0_roster_cells, .inl (cyI, 280, .inl v_cells))] sz) := by
  refine Met.ofW (cc := cX5_woken) (maxL := 3) (ret := (some .int)) (by decide) rfl ?_
  intro p e s m args below meth c s₁ B hml hv
  obtain ⟨rfl, hsz, hP, hK, hD0, hNW⟩ := hv
  have hx := B.exec
  have hb := B.bytes
  have hr := B.returns
  have hts := atoms_spec (ws := wsX5_woken) B.pre
  have hown : s.vm.findClass RX5 = some m.cls := findClass_of_methodNamed B.named
  have hlocks := B.notSynchronized
  subst hsz
  have hD := hD0.self (sz := s.heap.size)
  generalize hAe : va_A [(h_p0, .inr (5, [.ref h_p0_berths, .ref h_p0_roster, .ref h_p0_settings, .int v_nextNumber, .int v_bookings, .int v_leftOut])), (h_p0_berths, .inr (0, [.ref h_p0_berths_holders, .ref h_p0_berths_ends])), (h_p0_berths_holders, .inl (cyI, 162, .inl v_holders)), (h_p0_roster, .inr (3, [.ref h_p0_roster_cells, .int v_size])), (h_p0_roster_cells, .inl (cyI, 280, .inl v_cells))] s.heap.size = A at hD ⊢
  have hA : ∀ q : Nat, s.heap.size ≤ q → A q := fun q h => by rw [← hAe]; exact Or.inr h
  have hS : va_S A s.heap s.heap [] := va_S.rf
  have hP : va_P (dC, dI) vwCl [(h_p0, .inr (5, [.ref h_p0_berths, .ref h_p0_roster, .ref h_p0_settings, .int v_nextNumber, .int v_bookings, .int v_leftOut])), (h_p0_berths, .inr (0, [.ref h_p0_berths_holders, .ref h_p0_berths_ends])), (h_p0_berths_holders, .inl (cyI, 162, .inl v_holders)), (h_p0_roster, .inr (3, [.ref h_p0_roster_cells, .int v_size])), (h_p0_roster_cells, .inl (cyI, 280, .inl v_cells))] s.heap := hP
  have hl := lv_entry ([.ref h_p0, .int a1]) (n := 3) (Nat.le_of_ble_eq_true rfl)
  rw [lg_entry_eq]
  generalize (lg_sl ([.ref h_p0, .int a1]) ++ List.replicate (3 - (lg_sl ([.ref h_p0, .int a1])).length) Slot.unset).toArray = ls at hl ⊢
  have hl : lv_has ls 3 [(0, .ref h_p0), (1, .int a1)] := hl
  unfold s_X5_woken at h
  refine lv_aload_n hx hb dX5_woken_0 rfl (lv_at hl 0 rfl) ?_
  refine va_get (D := (dC, dI)) (ci := 5) (v := .ref h_p0_roster) (C := RX5) (T := TX5) (N := 6) hx hb hts m_X5_woken_0 hown hK hP 0 rfl rfl 1 (by decide) (hts (.fieldLink RX5 21 "SleeperBerths$Train" "roster" "LSleeperBerths$Roster;") m_X5_woken_1) (fun _ h9 => h9) rfl dX5_woken_1 ?_
  refine lv_iload_n hx hb dX5_woken_4 rfl (lv_at hl 1 rfl) ?_
  obtain ⟨r1, e2, h⟩ := bsome h
  have hPc := sb_P [(h_p0_roster, .inr (3, [.ref h_p0_roster_cells, .int v_size])), (h_p0_roster_cells, .inl (cyI, 280, .inl v_cells))] hP [3, 4] rfl
  have hDc := sb_D [(h_p0_roster, .inr (3, [.ref h_p0_roster_cells, .int v_size])), (h_p0_roster_cells, .inl (cyI, 280, .inl v_cells))] hD [3, 4] (by decide) rfl
  have hFc := va_free (wc := [(h_p0_roster, .inr (3, [.ref h_p0_roster_cells, .int v_size])), (h_p0_roster_cells, .inl (cyI, 280, .inl v_cells))]) hD hS hA [3, 4] rfl
  refine va_calli (va_runV (As := [.int a1]) (rest := []) ⟨hx, hb, hml, hown, hts⟩ (c_X3_middle l dC dI cyI cyJ cyT h_p0_roster h_p0_roster_cells s.heap.size v_size v_cells a1 r1 e2) (cwV 1 hts gX5_woken_X3_middle rfl rfl rfl (by decide +kernel) ⟨Nat.le_of_ble_eq_true rfl, Nat.le_of_ble_eq_true rfl⟩) ⟨PRE.blind, va_recv hK hPc (ci := 3) (q0 := 0) rfl rfl, PRE.go hK hPc hDc hNW⟩ rfl rfl hl.1 rfl (lv_room (Nat.le_of_ble_eq_true rfl)) dX5_woken_5 ⟨Nat.zero_le _, Nat.zero_le _⟩) hS (fun q _ h => hFc q h) hFc (fun z3 u t H locs ht hvm hw hB hz1 hk1 hS => ?_)
  subst z3
  obtain ⟨hP, hD⟩ := va_join (wr := [(h_p0, .inr (5, [.ref h_p0_berths, .ref h_p0_roster, .ref h_p0_settings, .int v_nextNumber, .int v_bookings, .int v_leftOut])), (h_p0_berths, .inr (0, [.ref h_p0_berths_holders, .ref h_p0_berths_ends])), (h_p0_berths_holders, .inl (cyI, 162, .inl v_holders))]) (w1 := [(h_p0_roster, .inr (3, [.ref h_p0_roster_cells, .int v_size])), (h_p0_roster_cells, .inl (cyI, 280, .inl v_cells))]) hP hD [3, 4] [0, 1, 2] rfl rfl (by decide) (by decide) hk1 hFc (WLD.P hB ht) hB.2
  have hP : va_P (dC, dI) vwCl [(h_p0, .inr (5, [.ref h_p0_berths, .ref h_p0_roster, .ref h_p0_settings, .int v_nextNumber, .int v_bookings, .int v_leftOut])), (h_p0_berths, .inr (0, [.ref h_p0_berths_holders, .ref h_p0_berths_ends])), (h_p0_berths_holders, .inl (cyI, 162, .inl v_holders)), (h_p0_roster, .inr (3, [.ref h_p0_roster_cells, .int v_size])), (h_p0_roster_cells, .inl (cyI, 280, .inl v_cells))] H := hP
  have hD : va_D A [(h_p0, .inr (5, [.ref h_p0_berths, .ref h_p0_roster, .ref h_p0_settings, .int v_nextNumber, .int v_bookings, .int v_leftOut])), (h_p0_berths, .inr (0, [.ref h_p0_berths_holders, .ref h_p0_berths_ends])), (h_p0_berths_holders, .inl (cyI, 162, .inl v_holders)), (h_p0_roster, .inr (3, [.ref h_p0_roster_cells, .int v_size])), (h_p0_roster_cells, .inl (cyI, 280, .inl v_cells))] := hD
  refine lv_istore_n hx hb dX5_woken_8 rfl hl (by decide) (rfl : _ = ([(2, .int r1), (0, .ref h_p0), (1, .int a1)] : List (Nat × Value))) (fun ls hl => ?_)
  refine lv_aload_n hx hb dX5_woken_9 rfl (lv_at hl 1 rfl) ?_
  refine va_get (D := (dC, dI)) (ci := 5) (v := .ref h_p0_berths) (C := RX5) (T := TX5) (N := 6) hx hb hts m_X5_woken_0 hown hK hP 0 rfl rfl 0 (by decide) (hts (.fieldLink RX5 12 "SleeperBerths$Train" "berths" "LSleeperBerths$Berths;") m_X5_woken_2) (fun _ h9 => h9) rfl dX5_woken_10 ?_
  refine lv_aload_n hx hb dX5_woken_13 rfl (lv_at hl 1 rfl) ?_
  refine va_get (D := (dC, dI)) (ci := 5) (v := .ref h_p0_roster) (C := RX5) (T := TX5) (N := 6) hx hb hts m_X5_woken_0 hown hK hP 0 rfl rfl 1 (by decide) (hts (.fieldLink RX5 21 "SleeperBerths$Train" "roster" "LSleeperBerths$Roster;") m_X5_woken_1) (fun _ h9 => h9) rfl dX5_woken_14 ?_
  refine lv_iload_n hx hb dX5_woken_17 rfl (lv_at hl 2 rfl) ?_
  refine lv_iconst (v := iI 4) hx hb dX5_woken_18 rfl ?_
  obtain ⟨r4, e5, h⟩ := bsome h
  have hPc := sb_P [(h_p0_roster, .inr (3, [.ref h_p0_roster_cells, .int v_size])), (h_p0_roster_cells, .inl (cyI, 280, .inl v_cells))] hP [3, 4] rfl
  have hDc := sb_D [(h_p0_roster, .inr (3, [.ref h_p0_roster_cells, .int v_size])), (h_p0_roster_cells, .inl (cyI, 280, .inl v_cells))] hD [3, 4] (by decide) rfl
  have hFc := va_free (wc := [(h_p0_roster, .inr (3, [.ref h_p0_roster_cells, .int v_size])), (h_p0_roster_cells, .inl (cyI, 280, .inl v_cells))]) hD hS hA [3, 4] rfl
  refine va_calli (va_runV (As := [.int a1, .int (iI 4)]) (rest := [.ref h_p0_berths]) ⟨hx, hb, hml, hown, hts⟩ (c_X3_at l dC dI cyI cyJ cyT h_p0_roster h_p0_roster_cells H.size v_size v_cells a1 (iI 4) r4 e5) (cwV 2 hts gX5_woken_X3_at rfl rfl rfl (by decide +kernel) ⟨Nat.le_of_ble_eq_true rfl, Nat.le_of_ble_eq_true rfl⟩) ⟨PRE.blind, va_recv hK hPc (ci := 3) (q0 := 0) rfl rfl, PRE.go hK hPc hDc hNW⟩ rfl rfl hl.1 rfl (lv_room (Nat.le_of_ble_eq_true rfl)) dX5_woken_19 ⟨Nat.zero_le _, Nat.zero_le _⟩) hS (fun q _ h => hFc q h) hFc (fun z6 u t H locs ht hvm hw hB hz1 hk1 hS => ?_)
  subst z6
  obtain ⟨hP, hD⟩ := va_join (wr := [(h_p0, .inr (5, [.ref h_p0_berths, .ref h_p0_roster, .ref h_p0_settings, .int v_nextNumber, .int v_bookings, .int v_leftOut])), (h_p0_berths, .inr (0, [.ref h_p0_berths_holders, .ref h_p0_berths_ends])), (h_p0_berths_holders, .inl (cyI, 162, .inl v_holders))]) (w1 := [(h_p0_roster, .inr (3, [.ref h_p0_roster_cells, .int v_size])), (h_p0_roster_cells, .inl (cyI, 280, .inl v_cells))]) hP hD [3, 4] [0, 1, 2] rfl rfl (by decide) (by decide) hk1 hFc (WLD.P hB ht) hB.2
  have hP : va_P (dC, dI) vwCl [(h_p0, .inr (5, [.ref h_p0_berths, .ref h_p0_roster, .ref h_p0_settings, .int v_nextNumber, .int v_bookings, .int v_leftOut])), (h_p0_berths, .inr (0, [.ref h_p0_berths_holders, .ref h_p0_berths_ends])), (h_p0_berths_holders, .inl (cyI, 162, .inl v_holders)), (h_p0_roster, .inr (3, [.ref h_p0_roster_cells, .int v_size])), (h_p0_roster_cells, .inl (cyI, 280, .inl v_cells))] H := hP
  have hD : va_D A [(h_p0, .inr (5, [.ref h_p0_berths, .ref h_p0_roster, .ref h_p0_settings, .int v_nextNumber, .int v_bookings, .int v_leftOut])), (h_p0_berths, .inr (0, [.ref h_p0_berths_holders, .ref h_p0_berths_ends])), (h_p0_berths_holders, .inl (cyI, 162, .inl v_holders)), (h_p0_roster, .inr (3, [.ref h_p0_roster_cells, .int v_size])), (h_p0_roster_cells, .inl (cyI, 280, .inl v_cells))] := hD
  refine lv_aload_n hx hb dX5_woken_22 rfl (lv_at hl 1 rfl) ?_
  refine va_get (D := (dC, dI)) (ci := 5) (v := .ref h_p0_roster) (C := RX5) (T := TX5) (N := 6) hx hb hts m_X5_woken_0 hown hK hP 0 rfl rfl 1 (by decide) (hts (.fieldLink RX5 21 "SleeperBerths$Train" "roster" "LSleeperBerths$Roster;") m_X5_woken_1) (fun _ h9 => h9) rfl dX5_woken_23 ?_
  refine lv_iload_n hx hb dX5_woken_26 rfl (lv_at hl 2 rfl) ?_
  refine lv_iconst (v := iI 1) hx hb dX5_woken_27 rfl ?_
  obtain ⟨r7, e8, h⟩ := bsome h
  have hPc := sb_P [(h_p0_roster, .inr (3, [.ref h_p0_roster_cells, .int v_size])), (h_p0_roster_cells, .inl (cyI, 280, .inl v_cells))] hP [3, 4] rfl
  have hDc := sb_D [(h_p0_roster, .inr (3, [.ref h_p0_roster_cells, .int v_size])), (h_p0_roster_cells, .inl (cyI, 280, .inl v_cells))] hD [3, 4] (by decide) rfl
  have hFc := va_free (wc := [(h_p0_roster, .inr (3, [.ref h_p0_roster_cells, .int v_size])), (h_p0_roster_cells, .inl (cyI, 280, .inl v_cells))]) hD hS hA [3, 4] rfl
  refine va_calli (va_runV (As := [.int a1, .int (iI 1)]) (rest := [.int r4, .ref h_p0_berths]) ⟨hx, hb, hml, hown, hts⟩ (c_X3_at l dC dI cyI cyJ cyT h_p0_roster h_p0_roster_cells H.size v_size v_cells a1 (iI 1) r7 e8) (cwV 2 hts gX5_woken_X3_at rfl rfl rfl (by decide +kernel) ⟨Nat.le_of_ble_eq_true rfl, Nat.le_of_ble_eq_true rfl⟩) ⟨PRE.blind, va_recv hK hPc (ci := 3) (q0 := 0) rfl rfl, PRE.go hK hPc hDc hNW⟩ rfl rfl hl.1 rfl (lv_room (Nat.le_of_ble_eq_true rfl)) dX5_woken_28 ⟨Nat.zero_le _, Nat.zero_le _⟩) hS (fun q _ h => hFc q h) hFc (fun z9 u t H locs ht hvm hw hB hz1 hk1 hS => ?_)
  subst z9
  obtain ⟨hP, hD⟩ := va_join (wr := [(h_p0, .inr (5, [.ref h_p0_berths, .ref h_p0_roster, .ref h_p0_settings, .int v_nextNumber, .int v_bookings, .int v_leftOut])), (h_p0_berths, .inr (0, [.ref h_p0_berths_holders, .ref h_p0_berths_ends])), (h_p0_berths_holders, .inl (cyI, 162, .inl v_holders))]) (w1 := [(h_p0_roster, .inr (3, [.ref h_p0_roster_cells, .int v_size])), (h_p0_roster_cells, .inl (cyI, 280, .inl v_cells))]) hP hD [3, 4] [0, 1, 2] rfl rfl (by decide) (by decide) hk1 hFc (WLD.P hB ht) hB.2
  have hP : va_P (dC, dI) vwCl [(h_p0, .inr (5, [.ref h_p0_berths, .ref h_p0_roster, .ref h_p0_settings, .int v_nextNumber, .int v_bookings, .int v_leftOut])), (h_p0_berths, .inr (0, [.ref h_p0_berths_holders, .ref h_p0_berths_ends])), (h_p0_berths_holders, .inl (cyI, 162, .inl v_holders)), (h_p0_roster, .inr (3, [.ref h_p0_roster_cells, .int v_size])), (h_p0_roster_cells, .inl (cyI, 280, .inl v_cells))] H := hP
  have hD : va_D A [(h_p0, .inr (5, [.ref h_p0_berths, .ref h_p0_roster, .ref h_p0_settings, .int v_nextNumber, .int v_bookings, .int v_leftOut])), (h_p0_berths, .inr (0, [.ref h_p0_berths_holders, .ref h_p0_berths_ends])), (h_p0_berths_holders, .inl (cyI, 162, .inl v_holders)), (h_p0_roster, .inr (3, [.ref h_p0_roster_cells, .int v_size])), (h_p0_roster_cells, .inl (cyI, 280, .inl v_cells))] := hD
  refine lv_iload_n hx hb dX5_woken_31 rfl (lv_at hl 0 rfl) ?_
  obtain ⟨r10, e11, h⟩ := bsome h
  have hPc := sb_P [(h_p0_berths, .inr (0, [.ref h_p0_berths_holders, .ref h_p0_berths_ends])), (h_p0_berths_holders, .inl (cyI, 162, .inl v_holders))] hP [1, 2] rfl
  have hDc := sb_D [(h_p0_berths, .inr (0, [.ref h_p0_berths_holders, .ref h_p0_berths_ends])), (h_p0_berths_holders, .inl (cyI, 162, .inl v_holders))] hD [1, 2] (by decide) rfl
  have hFc := va_free (wc := [(h_p0_berths, .inr (0, [.ref h_p0_berths_holders, .ref h_p0_berths_ends])), (h_p0_berths_holders, .inl (cyI, 162, .inl v_holders))]) hD hS hA [1, 2] rfl
  refine va_calli (va_runV (As := [.int r4, .int r7, .int r1]) (rest := []) ⟨hx, hb, hml, hown, hts⟩ (c_X0_wokenIn l dC dI cyI cyJ cyT h_p0_berths h_p0_berths_holders h_p0_berths_ends H.size v_holders r4 r7 r1 n r10 e11) (cwV 3 hts gX5_woken_X0_wokenIn rfl rfl rfl (by decide +kernel) ⟨Nat.le_of_ble_eq_true rfl, Nat.le_of_ble_eq_true rfl⟩) ⟨PRE.blind, va_recv hK hPc (ci := 0) (q0 := 0) rfl rfl, PRE.go hK hPc hDc hNW⟩ rfl rfl hl.1 rfl (lv_room (Nat.le_of_ble_eq_true rfl)) dX5_woken_32 ⟨Nat.zero_le _, Nat.zero_le _⟩) hS (fun q _ h => hFc q h) hFc (fun z12 u t H locs ht hvm hw hB hz1 hk1 hS => ?_)
  subst z12
  obtain ⟨hP, hD⟩ := va_join (wr := [(h_p0, .inr (5, [.ref h_p0_berths, .ref h_p0_roster, .ref h_p0_settings, .int v_nextNumber, .int v_bookings, .int v_leftOut])), (h_p0_roster, .inr (3, [.ref h_p0_roster_cells, .int v_size])), (h_p0_roster_cells, .inl (cyI, 280, .inl v_cells))]) (w1 := [(h_p0_berths, .inr (0, [.ref h_p0_berths_holders, .ref h_p0_berths_ends])), (h_p0_berths_holders, .inl (cyI, 162, .inl v_holders))]) hP hD [1, 2] [0, 3, 4] rfl rfl (by decide) (by decide) hk1 hFc (WLD.P hB ht) hB.2
  have hP : va_P (dC, dI) vwCl [(h_p0, .inr (5, [.ref h_p0_berths, .ref h_p0_roster, .ref h_p0_settings, .int v_nextNumber, .int v_bookings, .int v_leftOut])), (h_p0_roster, .inr (3, [.ref h_p0_roster_cells, .int v_size])), (h_p0_roster_cells, .inl (cyI, 280, .inl v_cells)), (h_p0_berths, .inr (0, [.ref h_p0_berths_holders, .ref h_p0_berths_ends])), (h_p0_berths_holders, .inl (cyI, 162, .inl v_holders))] H := hP
  have hD : va_D A [(h_p0, .inr (5, [.ref h_p0_berths, .ref h_p0_roster, .ref h_p0_settings, .int v_nextNumber, .int v_bookings, .int v_leftOut])), (h_p0_roster, .inr (3, [.ref h_p0_roster_cells, .int v_size])), (h_p0_roster_cells, .inl (cyI, 280, .inl v_cells)), (h_p0_berths, .inr (0, [.ref h_p0_berths_holders, .ref h_p0_berths_ends])), (h_p0_berths_holders, .inl (cyI, 162, .inl v_holders))] := hD
  refine lv_aload_n hx hb dX5_woken_35 rfl (lv_at hl 1 rfl) ?_
  refine va_get (D := (dC, dI)) (ci := 5) (v := .ref h_p0_berths) (C := RX5) (T := TX5) (N := 6) hx hb hts m_X5_woken_0 hown hK hP 0 rfl rfl 0 (by decide) (hts (.fieldLink RX5 12 "SleeperBerths$Train" "berths" "LSleeperBerths$Berths;") m_X5_woken_2) (fun _ h9 => h9) rfl dX5_woken_36 ?_
  refine lv_aload_n hx hb dX5_woken_39 rfl (lv_at hl 1 rfl) ?_
  refine va_get (D := (dC, dI)) (ci := 5) (v := .ref h_p0_roster) (C := RX5) (T := TX5) (N := 6) hx hb hts m_X5_woken_0 hown hK hP 0 rfl rfl 1 (by decide) (hts (.fieldLink RX5 21 "SleeperBerths$Train" "roster" "LSleeperBerths$Roster;") m_X5_woken_1) (fun _ h9 => h9) rfl dX5_woken_40 ?_
  refine lv_iload_n hx hb dX5_woken_43 rfl (lv_at hl 2 rfl) ?_
  refine lv_iconst (v := iI 5) hx hb dX5_woken_44 rfl ?_
  obtain ⟨r13, e14, h⟩ := bsome h
  have hPc := sb_P [(h_p0_roster, .inr (3, [.ref h_p0_roster_cells, .int v_size])), (h_p0_roster_cells, .inl (cyI, 280, .inl v_cells))] hP [1, 2] rfl
  have hDc := sb_D [(h_p0_roster, .inr (3, [.ref h_p0_roster_cells, .int v_size])), (h_p0_roster_cells, .inl (cyI, 280, .inl v_cells))] hD [1, 2] (by decide) rfl
  have hFc := va_free (wc := [(h_p0_roster, .inr (3, [.ref h_p0_roster_cells, .int v_size])), (h_p0_roster_cells, .inl (cyI, 280, .inl v_cells))]) hD hS hA [1, 2] rfl
  refine va_calli (va_runV (As := [.int a1, .int (iI 5)]) (rest := [.ref h_p0_berths, .int r10]) ⟨hx, hb, hml, hown, hts⟩ (c_X3_at l dC dI cyI cyJ cyT h_p0_roster h_p0_roster_cells H.size v_size v_cells a1 (iI 5) r13 e14) (cwV 2 hts gX5_woken_X3_at rfl rfl rfl (by decide +kernel) ⟨Nat.le_of_ble_eq_true rfl, Nat.le_of_ble_eq_true rfl⟩) ⟨PRE.blind, va_recv hK hPc (ci := 3) (q0 := 0) rfl rfl, PRE.go hK hPc hDc hNW⟩ rfl rfl hl.1 rfl (lv_room (Nat.le_of_ble_eq_true rfl)) dX5_woken_45 ⟨Nat.zero_le _, Nat.zero_le _⟩) hS (fun q _ h => hFc q h) hFc (fun z15 u t H locs ht hvm hw hB hz1 hk1 hS => ?_)
  subst z15
  obtain ⟨hP, hD⟩ := va_join (wr := [(h_p0, .inr (5, [.ref h_p0_berths, .ref h_p0_roster, .ref h_p0_settings, .int v_nextNumber, .int v_bookings, .int v_leftOut])), (h_p0_berths, .inr (0, [.ref h_p0_berths_holders, .ref h_p0_berths_ends])), (h_p0_berths_holders, .inl (cyI, 162, .inl v_holders))]) (w1 := [(h_p0_roster, .inr (3, [.ref h_p0_roster_cells, .int v_size])), (h_p0_roster_cells, .inl (cyI, 280, .inl v_cells))]) hP hD [1, 2] [0, 3, 4] rfl rfl (by decide) (by decide) hk1 hFc (WLD.P hB ht) hB.2
  have hP : va_P (dC, dI) vwCl [(h_p0, .inr (5, [.ref h_p0_berths, .ref h_p0_roster, .ref h_p0_settings, .int v_nextNumber, .int v_bookings, .int v_leftOut])), (h_p0_berths, .inr (0, [.ref h_p0_berths_holders, .ref h_p0_berths_ends])), (h_p0_berths_holders, .inl (cyI, 162, .inl v_holders)), (h_p0_roster, .inr (3, [.ref h_p0_roster_cells, .int v_size])), (h_p0_roster_cells, .inl (cyI, 280, .inl v_cells))] H := hP
  have hD : va_D A [(h_p0, .inr (5, [.ref h_p0_berths, .ref h_p0_roster, .ref h_p0_settings, .int v_nextNumber, .int v_bookings, .int v_leftOut])), (h_p0_berths, .inr (0, [.ref h_p0_berths_holders, .ref h_p0_berths_ends])), (h_p0_berths_holders, .inl (cyI, 162, .inl v_holders)), (h_p0_roster, .inr (3, [.ref h_p0_roster_cells, .int v_size])), (h_p0_roster_cells, .inl (cyI, 280, .inl v_cells))] := hD
  refine lv_iload_n hx hb dX5_woken_48 rfl (lv_at hl 0 rfl) ?_
  refine lv_aload_n hx hb dX5_woken_49 rfl (lv_at hl 1 rfl) ?_
  refine va_get (D := (dC, dI)) (ci := 5) (v := .ref h_p0_roster) (C := RX5) (T := TX5) (N := 6) hx hb hts m_X5_woken_0 hown hK hP 0 rfl rfl 1 (by decide) (hts (.fieldLink RX5 21 "SleeperBerths$Train" "roster" "LSleeperBerths$Roster;") m_X5_woken_1) (fun _ h9 => h9) rfl dX5_woken_50 ?_
  refine lv_iload_n hx hb dX5_woken_53 rfl (lv_at hl 2 rfl) ?_
  refine lv_iconst (v := iI 2) hx hb dX5_woken_54 rfl ?_
  obtain ⟨r16, e17, h⟩ := bsome h
  have hPc := sb_P [(h_p0_roster, .inr (3, [.ref h_p0_roster_cells, .int v_size])), (h_p0_roster_cells, .inl (cyI, 280, .inl v_cells))] hP [3, 4] rfl
  have hDc := sb_D [(h_p0_roster, .inr (3, [.ref h_p0_roster_cells, .int v_size])), (h_p0_roster_cells, .inl (cyI, 280, .inl v_cells))] hD [3, 4] (by decide) rfl
  have hFc := va_free (wc := [(h_p0_roster, .inr (3, [.ref h_p0_roster_cells, .int v_size])), (h_p0_roster_cells, .inl (cyI, 280, .inl v_cells))]) hD hS hA [3, 4] rfl
  refine va_calli (va_runV (As := [.int a1, .int (iI 2)]) (rest := [.int r1, .int r13, .ref h_p0_berths, .int r10]) ⟨hx, hb, hml, hown, hts⟩ (c_X3_at l dC dI cyI cyJ cyT h_p0_roster h_p0_roster_cells H.size v_size v_cells a1 (iI 2) r16 e17) (cwV 2 hts gX5_woken_X3_at rfl rfl rfl (by decide +kernel) ⟨Nat.le_of_ble_eq_true rfl, Nat.le_of_ble_eq_true rfl⟩) ⟨PRE.blind, va_recv hK hPc (ci := 3) (q0 := 0) rfl rfl, PRE.go hK hPc hDc hNW⟩ rfl rfl hl.1 rfl (lv_room (Nat.le_of_ble_eq_true rfl)) dX5_woken_55 ⟨Nat.zero_le _, Nat.zero_le _⟩) hS (fun q _ h => hFc q h) hFc (fun z18 u t H locs ht hvm hw hB hz1 hk1 hS => ?_)
  subst z18
  obtain ⟨hP, hD⟩ := va_join (wr := [(h_p0, .inr (5, [.ref h_p0_berths, .ref h_p0_roster, .ref h_p0_settings, .int v_nextNumber, .int v_bookings, .int v_leftOut])), (h_p0_berths, .inr (0, [.ref h_p0_berths_holders, .ref h_p0_berths_ends])), (h_p0_berths_holders, .inl (cyI, 162, .inl v_holders))]) (w1 := [(h_p0_roster, .inr (3, [.ref h_p0_roster_cells, .int v_size])), (h_p0_roster_cells, .inl (cyI, 280, .inl v_cells))]) hP hD [3, 4] [0, 1, 2] rfl rfl (by decide) (by decide) hk1 hFc (WLD.P hB ht) hB.2
  have hP : va_P (dC, dI) vwCl [(h_p0, .inr (5, [.ref h_p0_berths, .ref h_p0_roster, .ref h_p0_settings, .int v_nextNumber, .int v_bookings, .int v_leftOut])), (h_p0_berths, .inr (0, [.ref h_p0_berths_holders, .ref h_p0_berths_ends])), (h_p0_berths_holders, .inl (cyI, 162, .inl v_holders)), (h_p0_roster, .inr (3, [.ref h_p0_roster_cells, .int v_size])), (h_p0_roster_cells, .inl (cyI, 280, .inl v_cells))] H := hP
  have hD : va_D A [(h_p0, .inr (5, [.ref h_p0_berths, .ref h_p0_roster, .ref h_p0_settings, .int v_nextNumber, .int v_bookings, .int v_leftOut])), (h_p0_berths, .inr (0, [.ref h_p0_berths_holders, .ref h_p0_berths_ends])), (h_p0_berths_holders, .inl (cyI, 162, .inl v_holders)), (h_p0_roster, .inr (3, [.ref h_p0_roster_cells, .int v_size])), (h_p0_roster_cells, .inl (cyI, 280, .inl v_cells))] := hD
  obtain ⟨r19, e20, h⟩ := bsome h
  have hPc := sb_P [(h_p0_berths, .inr (0, [.ref h_p0_berths_holders, .ref h_p0_berths_ends])), (h_p0_berths_holders, .inl (cyI, 162, .inl v_holders))] hP [1, 2] rfl
  have hDc := sb_D [(h_p0_berths, .inr (0, [.ref h_p0_berths_holders, .ref h_p0_berths_ends])), (h_p0_berths_holders, .inl (cyI, 162, .inl v_holders))] hD [1, 2] (by decide) rfl
  have hFc := va_free (wc := [(h_p0_berths, .inr (0, [.ref h_p0_berths_holders, .ref h_p0_berths_ends])), (h_p0_berths_holders, .inl (cyI, 162, .inl v_holders))]) hD hS hA [1, 2] rfl
  refine va_calli (va_runV (As := [.int r13, .int r1, .int r16]) (rest := [.int r10]) ⟨hx, hb, hml, hown, hts⟩ (c_X0_wokenIn l dC dI cyI cyJ cyT h_p0_berths h_p0_berths_holders h_p0_berths_ends H.size v_holders r13 r1 r16 n r19 e20) (cwV 3 hts gX5_woken_X0_wokenIn rfl rfl rfl (by decide +kernel) ⟨Nat.le_of_ble_eq_true rfl, Nat.le_of_ble_eq_true rfl⟩) ⟨PRE.blind, va_recv hK hPc (ci := 0) (q0 := 0) rfl rfl, PRE.go hK hPc hDc hNW⟩ rfl rfl hl.1 rfl (lv_room (Nat.le_of_ble_eq_true rfl)) dX5_woken_58 ⟨Nat.zero_le _, Nat.zero_le _⟩) hS (fun q _ h => hFc q h) hFc (fun z21 u t H locs ht hvm hw hB hz1 hk1 hS => ?_)
  subst z21
  obtain ⟨hP, hD⟩ := va_join (wr := [(h_p0, .inr (5, [.ref h_p0_berths, .ref h_p0_roster, .ref h_p0_settings, .int v_nextNumber, .int v_bookings, .int v_leftOut])), (h_p0_roster, .inr (3, [.ref h_p0_roster_cells, .int v_size])), (h_p0_roster_cells, .inl (cyI, 280, .inl v_cells))]) (w1 := [(h_p0_berths, .inr (0, [.ref h_p0_berths_holders, .ref h_p0_berths_ends])), (h_p0_berths_holders, .inl (cyI, 162, .inl v_holders))]) hP hD [1, 2] [0, 3, 4] rfl rfl (by decide) (by decide) hk1 hFc (WLD.P hB ht) hB.2
  have hP : va_P (dC, dI) vwCl [(h_p0, .inr (5, [.ref h_p0_berths, .ref h_p0_roster, .ref h_p0_settings, .int v_nextNumber, .int v_bookings, .int v_leftOut])), (h_p0_roster, .inr (3, [.ref h_p0_roster_cells, .int v_size])), (h_p0_roster_cells, .inl (cyI, 280, .inl v_cells)), (h_p0_berths, .inr (0, [.ref h_p0_berths_holders, .ref h_p0_berths_ends])), (h_p0_berths_holders, .inl (cyI, 162, .inl v_holders))] H := hP
  have hD : va_D A [(h_p0, .inr (5, [.ref h_p0_berths, .ref h_p0_roster, .ref h_p0_settings, .int v_nextNumber, .int v_bookings, .int v_leftOut])), (h_p0_roster, .inr (3, [.ref h_p0_roster_cells, .int v_size])), (h_p0_roster_cells, .inl (cyI, 280, .inl v_cells)), (h_p0_berths, .inr (0, [.ref h_p0_berths_holders, .ref h_p0_berths_ends])), (h_p0_berths_holders, .inl (cyI, 162, .inl v_holders))] := hD
  refine lv_iadd hx hb dX5_woken_61 ?_
  obtain rfl := Option.some.inj h
  exact W.iret (v := (r10 + r19)) hx hb hr (fun t ht hW => ⟨⟨(r10 + r19), (), rfl, rfl, WLD.of ht (sb_P [(h_p0, .inr (5, [.ref h_p0_berths, .ref h_p0_roster, .ref h_p0_settings, .int v_nextNumber, .int v_bookings, .int v_leftOut])), (h_p0_berths, .inr (0, [.ref h_p0_berths_holders, .ref h_p0_berths_ends])), (h_p0_berths_holders, .inl (cyI, 162, .inl v_holders)), (h_p0_roster, .inr (3, [.ref h_p0_roster_cells, .int v_size])), (h_p0_roster_cells, .inl (cyI, 280, .inl v_cells))] hP [0, 3, 4, 1, 2] rfl) (sb_D [(h_p0, .inr (5, [.ref h_p0_berths, .ref h_p0_roster, .ref h_p0_settings, .int v_nextNumber, .int v_bookings, .int v_leftOut])), (h_p0_berths, .inr (0, [.ref h_p0_berths_holders, .ref h_p0_berths_ends])), (h_p0_berths_holders, .inl (cyI, 162, .inl v_holders)), (h_p0_roster, .inr (3, [.ref h_p0_roster_cells, .int v_size])), (h_p0_roster_cells, .inl (cyI, 280, .inl v_cells))] hD [0, 3, 4, 1, 2] (by decide) rfl)⟩, hS.F ht⟩) hS.2.2 dX5_woken_62
def s_X5_tipLessBy (v_cells : Nat → Int32) (v_settings : Nat → Int32) (a1 : Int32) (a2 : Int32) : Option (Int32) := ((s_X3_at v_cells a1 (iI 6)).bind fun r1 => (if r1 = iI (-1) then ((s_X6_read 3 v_settings (iI 2)).bind fun r8 => (some ((if iI 0 < ((r8 - a2) - iI 0) then ((r8 - a2) - iI 0) else iI 0)))) else ((s_X6_read 3 v_settings (iI 2)).bind fun r5 => (some ((if iI 0 < ((r5 - a2) - iI 3) then ((r5 - a2) - iI 3) else iI 0))))))
set_option maxRecDepth 20000 in
theorem m_X5_tipLessBy_0 : ∀ w ∈ u_ws RX5 TX5 6, w ∈ wsX5_tipLessBy := by decide +kernel
set_option maxRecDepth 20000 in
theorem m_X5_tipLessBy_1 : (.fieldLink RX5 21 "SleeperBerths$Train" "roster" "LSleeperBerths$Roster;" : Cond) ∈ wsX5_tipLessBy := by decide +kernel
set_option maxRecDepth 20000 in
theorem m_X5_tipLessBy_2 : (.fieldLink RX5 25 "SleeperBerths$Train" "settings" "[I" : Cond) ∈ wsX5_tipLessBy := by decide +kernel
set_option maxRecDepth 20000 in
theorem m_X5_tipLessBy_3 : (.initialized RX6 : Cond) ∈ wsX5_tipLessBy := by decide +kernel
set_option maxRecDepth 20000 in
theorem m_X5_tipLessBy_4 : (.static yX6_read : Cond) ∈ wsX5_tipLessBy := by decide +kernel
set_option maxRecDepth 20000 in
theorem m_X5_tipLessBy_5 : (.methodLink RX5 128 Lib.Math.max.name : Cond) ∈ wsX5_tipLessBy := by decide +kernel
set_option maxRecDepth 20000 in
theorem m_X5_tipLessBy_6 : (.static Lib.Math.max.name : Cond) ∈ wsX5_tipLessBy := by decide +kernel
set_option maxRecDepth 20000 in
theorem m_X5_tipLessBy_7 : (.initialized "java/lang/Math" : Cond) ∈ wsX5_tipLessBy := by decide +kernel
set_option maxRecDepth 20000 in
theorem m_X5_tipLessBy_8 : (.code Lib.Math.max.name Lib.Math.max.code 2 (some .int) : Cond) ∈ wsX5_tipLessBy := by decide +kernel
set_option maxHeartbeats 4000000 in
set_option maxRecDepth 100000 in
theorem c_X5_tipLessBy (l : Launch) (dC : Nat → ClassId) (dI : Nat → Nat → Nat) (cyI cyJ cyT : ClassId) (h_p0 : Nat) (h_p0_berths : Nat) (h_p0_roster : Nat) (h_p0_settings : Nat) (h_p0_roster_cells : Nat) (sz : Nat) (v_nextNumber : Int32) (v_bookings : Int32) (v_leftOut : Int32) (v_size : Int32) (v_cells : Nat → Int32) (v_settings : Nat → Int32) (a1 : Int32) (a2 : Int32) (o : Int32) (h : s_X5_tipLessBy v_cells v_settings a1 a2 = some o) : Met l yX5_tipLessBy wsX5_tipLessBy ({ frames := 1, cells := 0, slots := 0, locals := 23 }) (va_Pc [.ref h_p0, .int a1, .int a2] (PRE (dC, dI) (TYS cyI cyJ cyT) sz [(h_p0, .inr (5, [.ref h_p0_berths, .ref h_p0_roster, .ref h_p0_settings, .int v_nextNumber, .int v_bookings, .int v_leftOut])), (h_p0_roster, .inr (3, [.ref h_p0_roster_cells, .int v_size])), (h_p0_roster_cells, .inl (cyI, 280, .inl v_cells)), (h_p0_settings, .inl (cyI, 3, .inl v_settings))])) (va_Qi (S := Unit) (fun r _ => r = o) (fun _ t => WLD (dC, dI) (va_A [(h_p0, .inr (5, [.ref h_p0_berths, .ref h_p0_roster, .ref h_p0_settings, .int v_nextNumber, .int v_bookings, .int v_leftOut])), (h_p0_roster, .inr (3, [.ref h_p0_roster_cells, .int v_size])), (h_p0_roster_cells, .inl (cyI, 280, .inl v_cells)), (h_p0_settings, .inl (cyI, 3, .inl v_settings))] sz) [(h_p0, .inr (5, [.ref h_p0_berths, .ref h_p0_roster, .ref h_p0_settings, .int v_nextNumber, .int v_bookings, .int v_leftOut])), (h_p0_roster, .inr (3, [.ref h_p0_roster_cells, .int v_size])), (h_p0_roster_cells, .inl (cyI, 280, .inl v_cells)), (h_p0_settings, .inl (cyI, 3, .inl v_settings))] t) (va_A [(h_p0, .inr (5, [.ref h_p0_berths, .ref h_p0_roster, .ref h_p0_settings, .int v_nextNumber, .int v_bookings, .int v_leftOut])), (h_p0_roster, .inr (3, [.ref h_p0_roster_cells, .int v_size])), (h_p0_roster_cells, .inl (cyI, 280, .inl v_cells)), (h_p0_settings, .inl (cyI, 3, .inl v_settings))] sz)) 0 0 (va_A [(h_p0, .inr (5, [.ref h_p0_berths, .ref h_p0_roster, .ref h_p0_settings, .int v_nextNumber, .int v_bookings, .int v_leftOut])), (h_p0_roster, .inr (3, [.ref h_p0_roster_cells, .int v_size])), (h_p0_roster_cells, .inl (cyI, 280, .inl v_cells)), (h_p0_settings, .inl (cyI, 3, .inl v_settings))] sz) := by
  refine Met.ofW (cc := cX5_tipLessBy) (maxL := 4) (ret := (some .int)) (by decide) rfl ?_
  intro p e s m args below meth c s₁ B hml hv
  obtain ⟨rfl, hsz, hP, hK, hD0, hNW⟩ := hv
  have hx := B.exec
  have hb := B.bytes
  have hr := B.returns
  have hts := atoms_spec (ws := wsX5_tipLessBy) B.pre
  have hown : s.vm.findClass RX5 = some m.cls := findClass_of_methodNamed B.named
  have hlocks := B.notSynchronized
  subst hsz
  have hD := hD0.self (sz := s.heap.size)
  generalize hAe : va_A [(h_p0, .inr (5, [.ref h_p0_berths, .ref h_p0_roster, .ref h_p0_settings, .int v_nextNumber, .int v_bookings, .int v_leftOut])), (h_p0_roster, .inr (3, [.ref h_p0_roster_cells, .int v_size])), (h_p0_roster_cells, .inl (cyI, 280, .inl v_cells)), (h_p0_settings, .inl (cyI, 3, .inl v_settings))] s.heap.size = A at hD ⊢
  have hA : ∀ q : Nat, s.heap.size ≤ q → A q := fun q h => by rw [← hAe]; exact Or.inr h
  have hS : va_S A s.heap s.heap [] := va_S.rf
  have hP : va_P (dC, dI) vwCl [(h_p0, .inr (5, [.ref h_p0_berths, .ref h_p0_roster, .ref h_p0_settings, .int v_nextNumber, .int v_bookings, .int v_leftOut])), (h_p0_roster, .inr (3, [.ref h_p0_roster_cells, .int v_size])), (h_p0_roster_cells, .inl (cyI, 280, .inl v_cells)), (h_p0_settings, .inl (cyI, 3, .inl v_settings))] s.heap := hP
  have hl := lv_entry ([.ref h_p0, .int a1, .int a2]) (n := 4) (Nat.le_of_ble_eq_true rfl)
  rw [lg_entry_eq]
  generalize (lg_sl ([.ref h_p0, .int a1, .int a2]) ++ List.replicate (4 - (lg_sl ([.ref h_p0, .int a1, .int a2])).length) Slot.unset).toArray = ls at hl ⊢
  have hl : lv_has ls 4 [(0, .ref h_p0), (1, .int a1), (2, .int a2)] := hl
  unfold s_X5_tipLessBy at h
  refine lv_aload_n hx hb dX5_tipLessBy_0 rfl (lv_at hl 0 rfl) ?_
  refine va_get (D := (dC, dI)) (ci := 5) (v := .ref h_p0_roster) (C := RX5) (T := TX5) (N := 6) hx hb hts m_X5_tipLessBy_0 hown hK hP 0 rfl rfl 1 (by decide) (hts (.fieldLink RX5 21 "SleeperBerths$Train" "roster" "LSleeperBerths$Roster;") m_X5_tipLessBy_1) (fun _ h9 => h9) rfl dX5_tipLessBy_1 ?_
  refine lv_iload_n hx hb dX5_tipLessBy_4 rfl (lv_at hl 1 rfl) ?_
  refine lv_bipush (v := iI 6) hx hb dX5_tipLessBy_5 (by decide) ?_
  obtain ⟨r1, e2, h⟩ := bsome h
  have hPc := sb_P [(h_p0_roster, .inr (3, [.ref h_p0_roster_cells, .int v_size])), (h_p0_roster_cells, .inl (cyI, 280, .inl v_cells))] hP [1, 2] rfl
  have hDc := sb_D [(h_p0_roster, .inr (3, [.ref h_p0_roster_cells, .int v_size])), (h_p0_roster_cells, .inl (cyI, 280, .inl v_cells))] hD [1, 2] (by decide) rfl
  have hFc := va_free (wc := [(h_p0_roster, .inr (3, [.ref h_p0_roster_cells, .int v_size])), (h_p0_roster_cells, .inl (cyI, 280, .inl v_cells))]) hD hS hA [1, 2] rfl
  refine va_calli (va_runV (As := [.int a1, .int (iI 6)]) (rest := []) ⟨hx, hb, hml, hown, hts⟩ (c_X3_at l dC dI cyI cyJ cyT h_p0_roster h_p0_roster_cells s.heap.size v_size v_cells a1 (iI 6) r1 e2) (cwV 2 hts gX5_tipLessBy_X3_at rfl rfl rfl (by decide +kernel) ⟨Nat.le_of_ble_eq_true rfl, Nat.le_of_ble_eq_true rfl⟩) ⟨PRE.blind, va_recv hK hPc (ci := 3) (q0 := 0) rfl rfl, PRE.go hK hPc hDc hNW⟩ rfl rfl hl.1 rfl (lv_room (Nat.le_of_ble_eq_true rfl)) dX5_tipLessBy_7 ⟨Nat.zero_le _, Nat.zero_le _⟩) hS (fun q _ h => hFc q h) hFc (fun z3 u t H locs ht hvm hw hB hz1 hk1 hS => ?_)
  subst z3
  obtain ⟨hP, hD⟩ := va_join (wr := [(h_p0, .inr (5, [.ref h_p0_berths, .ref h_p0_roster, .ref h_p0_settings, .int v_nextNumber, .int v_bookings, .int v_leftOut])), (h_p0_settings, .inl (cyI, 3, .inl v_settings))]) (w1 := [(h_p0_roster, .inr (3, [.ref h_p0_roster_cells, .int v_size])), (h_p0_roster_cells, .inl (cyI, 280, .inl v_cells))]) hP hD [1, 2] [0, 3] rfl rfl (by decide) (by decide) hk1 hFc (WLD.P hB ht) hB.2
  have hP : va_P (dC, dI) vwCl [(h_p0, .inr (5, [.ref h_p0_berths, .ref h_p0_roster, .ref h_p0_settings, .int v_nextNumber, .int v_bookings, .int v_leftOut])), (h_p0_settings, .inl (cyI, 3, .inl v_settings)), (h_p0_roster, .inr (3, [.ref h_p0_roster_cells, .int v_size])), (h_p0_roster_cells, .inl (cyI, 280, .inl v_cells))] H := hP
  have hD : va_D A [(h_p0, .inr (5, [.ref h_p0_berths, .ref h_p0_roster, .ref h_p0_settings, .int v_nextNumber, .int v_bookings, .int v_leftOut])), (h_p0_settings, .inl (cyI, 3, .inl v_settings)), (h_p0_roster, .inr (3, [.ref h_p0_roster_cells, .int v_size])), (h_p0_roster_cells, .inl (cyI, 280, .inl v_cells))] := hD
  refine lv_iconst (v := iI (-1)) hx hb dX5_tipLessBy_10 rfl ?_
  refine lv_icmp_ne (tgt := 18) hx hb dX5_tipLessBy_11 (by decide) (fun c4 => ?_) (fun c4 => ?_)
  · have h := ineg c4 h
    refine lv_iconst (v := iI 3) hx hb dX5_tipLessBy_18 rfl ?_
    refine lv_istore_n hx hb dX5_tipLessBy_19 rfl hl (by decide) (rfl : _ = ([(3, .int (iI 3)), (0, .ref h_p0), (1, .int a1), (2, .int a2)] : List (Nat × Value))) (fun ls hl => ?_)
    refine lv_iconst (v := iI 0) hx hb dX5_tipLessBy_20 rfl ?_
    refine lv_aload_n hx hb dX5_tipLessBy_21 rfl (lv_at hl 1 rfl) ?_
    refine va_get (D := (dC, dI)) (ci := 5) (v := .ref h_p0_settings) (C := RX5) (T := TX5) (N := 6) hx hb hts m_X5_tipLessBy_0 hown hK hP 0 rfl rfl 2 (by decide) (hts (.fieldLink RX5 25 "SleeperBerths$Train" "settings" "[I") m_X5_tipLessBy_2) (fun _ h9 => h9) rfl dX5_tipLessBy_22 ?_
    refine lv_iconst (v := iI 2) hx hb dX5_tipLessBy_25 rfl ?_
    obtain ⟨r5, e6, h⟩ := bsome h
    have hPc := sb_P [(h_p0_settings, .inl (cyI, 3, .inl v_settings))] hP [1] rfl
    have hDc := sb_D [(h_p0_settings, .inl (cyI, 3, .inl v_settings))] hD [1] (by decide) rfl
    have hFc := va_free (wc := [(h_p0_settings, .inl (cyI, 3, .inl v_settings))]) hD hS hA [1] rfl
    refine va_calli (va_runSN (As := [.ref h_p0_settings, .int (iI 2)]) (rest := [.int (iI 0)]) ⟨hx, hb, hml, hown, hts⟩ (c_X6_read l dC dI cyI cyJ cyT h_p0_settings H.size 3 v_settings (iI 2) r5 e6) ⟨va_cnB (host := "SleeperBerths") 2 hts gX5_tipLessBy_X6_read_n50 rfl rfl rfl (hNW 5 rfl) (hts (.initialized RX6) m_X5_tipLessBy_3) (by decide +kernel) ⟨Nat.le_of_ble_eq_true rfl, Nat.le_of_ble_eq_true rfl⟩, (hts (.static yX6_read) m_X5_tipLessBy_4), trivial⟩ ⟨PRE.blind, PRE.go hK hPc hDc hNW⟩ rfl rfl hl.1 rfl (lv_room (Nat.le_of_ble_eq_true rfl)) dX5_tipLessBy_26 ⟨Nat.zero_le _, Nat.zero_le _⟩) hS (fun q _ h => hFc q h) hFc (fun z7 u t H locs ht hvm hw hB hz1 hk1 hS => ?_)
    subst z7
    obtain ⟨hP, hD⟩ := va_join (wr := [(h_p0, .inr (5, [.ref h_p0_berths, .ref h_p0_roster, .ref h_p0_settings, .int v_nextNumber, .int v_bookings, .int v_leftOut])), (h_p0_roster, .inr (3, [.ref h_p0_roster_cells, .int v_size])), (h_p0_roster_cells, .inl (cyI, 280, .inl v_cells))]) (w1 := [(h_p0_settings, .inl (cyI, 3, .inl v_settings))]) hP hD [1] [0, 2, 3] rfl rfl (by decide) (by decide) hk1 hFc (WLD.P hB ht) hB.2
    have hP : va_P (dC, dI) vwCl [(h_p0, .inr (5, [.ref h_p0_berths, .ref h_p0_roster, .ref h_p0_settings, .int v_nextNumber, .int v_bookings, .int v_leftOut])), (h_p0_roster, .inr (3, [.ref h_p0_roster_cells, .int v_size])), (h_p0_roster_cells, .inl (cyI, 280, .inl v_cells)), (h_p0_settings, .inl (cyI, 3, .inl v_settings))] H := hP
    have hD : va_D A [(h_p0, .inr (5, [.ref h_p0_berths, .ref h_p0_roster, .ref h_p0_settings, .int v_nextNumber, .int v_bookings, .int v_leftOut])), (h_p0_roster, .inr (3, [.ref h_p0_roster_cells, .int v_size])), (h_p0_roster_cells, .inl (cyI, 280, .inl v_cells)), (h_p0_settings, .inl (cyI, 3, .inl v_settings))] := hD
    refine lv_iload_n hx hb dX5_tipLessBy_29 rfl (lv_at hl 3 rfl) ?_
    refine lv_isub hx hb dX5_tipLessBy_30 ?_
    refine lv_iload_n hx hb dX5_tipLessBy_31 rfl (lv_at hl 0 rfl) ?_
    refine lv_isub hx hb dX5_tipLessBy_32 ?_
    refine va_mmax hx hb (hml.trans hl.1.symm) hown (hts (.methodLink RX5 128 Lib.Math.max.name) m_X5_tipLessBy_5) (hts (.static Lib.Math.max.name) m_X5_tipLessBy_6) (hts (.initialized "java/lang/Math") m_X5_tipLessBy_7) (hts (.code Lib.Math.max.name Lib.Math.max.code 2 (some .int)) m_X5_tipLessBy_8) (Nat.le_of_ble_eq_true rfl) (Nat.le_of_ble_eq_true rfl) (Nat.zero_le _) (Nat.zero_le _) dX5_tipLessBy_33 ?_
    obtain rfl := Option.some.inj h
    exact W.iret (v := (if iI 0 < ((r5 - a2) - iI 3) then ((r5 - a2) - iI 3) else iI 0)) hx hb hr (fun t ht hW => ⟨⟨(if iI 0 < ((r5 - a2) - iI 3) then ((r5 - a2) - iI 3) else iI 0), (), rfl, rfl, WLD.of ht hP hD⟩, hS.F ht⟩) hS.2.2 dX5_tipLessBy_36
  · have h := ipos c4 h
    refine lv_iconst (v := iI 0) hx hb dX5_tipLessBy_14 rfl ?_
    refine lv_goto (tgt := 19) hx hb dX5_tipLessBy_15 (by decide) ?_
    refine lv_istore_n hx hb dX5_tipLessBy_19 rfl hl (by decide) (rfl : _ = ([(3, .int (iI 0)), (0, .ref h_p0), (1, .int a1), (2, .int a2)] : List (Nat × Value))) (fun ls hl => ?_)
    refine lv_iconst (v := iI 0) hx hb dX5_tipLessBy_20 rfl ?_
    refine lv_aload_n hx hb dX5_tipLessBy_21 rfl (lv_at hl 1 rfl) ?_
    refine va_get (D := (dC, dI)) (ci := 5) (v := .ref h_p0_settings) (C := RX5) (T := TX5) (N := 6) hx hb hts m_X5_tipLessBy_0 hown hK hP 0 rfl rfl 2 (by decide) (hts (.fieldLink RX5 25 "SleeperBerths$Train" "settings" "[I") m_X5_tipLessBy_2) (fun _ h9 => h9) rfl dX5_tipLessBy_22 ?_
    refine lv_iconst (v := iI 2) hx hb dX5_tipLessBy_25 rfl ?_
    obtain ⟨r8, e9, h⟩ := bsome h
    have hPc := sb_P [(h_p0_settings, .inl (cyI, 3, .inl v_settings))] hP [1] rfl
    have hDc := sb_D [(h_p0_settings, .inl (cyI, 3, .inl v_settings))] hD [1] (by decide) rfl
    have hFc := va_free (wc := [(h_p0_settings, .inl (cyI, 3, .inl v_settings))]) hD hS hA [1] rfl
    refine va_calli (va_runSN (As := [.ref h_p0_settings, .int (iI 2)]) (rest := [.int (iI 0)]) ⟨hx, hb, hml, hown, hts⟩ (c_X6_read l dC dI cyI cyJ cyT h_p0_settings H.size 3 v_settings (iI 2) r8 e9) ⟨va_cnB (host := "SleeperBerths") 2 hts gX5_tipLessBy_X6_read_n50 rfl rfl rfl (hNW 5 rfl) (hts (.initialized RX6) m_X5_tipLessBy_3) (by decide +kernel) ⟨Nat.le_of_ble_eq_true rfl, Nat.le_of_ble_eq_true rfl⟩, (hts (.static yX6_read) m_X5_tipLessBy_4), trivial⟩ ⟨PRE.blind, PRE.go hK hPc hDc hNW⟩ rfl rfl hl.1 rfl (lv_room (Nat.le_of_ble_eq_true rfl)) dX5_tipLessBy_26 ⟨Nat.zero_le _, Nat.zero_le _⟩) hS (fun q _ h => hFc q h) hFc (fun z10 u t H locs ht hvm hw hB hz1 hk1 hS => ?_)
    subst z10
    obtain ⟨hP, hD⟩ := va_join (wr := [(h_p0, .inr (5, [.ref h_p0_berths, .ref h_p0_roster, .ref h_p0_settings, .int v_nextNumber, .int v_bookings, .int v_leftOut])), (h_p0_roster, .inr (3, [.ref h_p0_roster_cells, .int v_size])), (h_p0_roster_cells, .inl (cyI, 280, .inl v_cells))]) (w1 := [(h_p0_settings, .inl (cyI, 3, .inl v_settings))]) hP hD [1] [0, 2, 3] rfl rfl (by decide) (by decide) hk1 hFc (WLD.P hB ht) hB.2
    have hP : va_P (dC, dI) vwCl [(h_p0, .inr (5, [.ref h_p0_berths, .ref h_p0_roster, .ref h_p0_settings, .int v_nextNumber, .int v_bookings, .int v_leftOut])), (h_p0_roster, .inr (3, [.ref h_p0_roster_cells, .int v_size])), (h_p0_roster_cells, .inl (cyI, 280, .inl v_cells)), (h_p0_settings, .inl (cyI, 3, .inl v_settings))] H := hP
    have hD : va_D A [(h_p0, .inr (5, [.ref h_p0_berths, .ref h_p0_roster, .ref h_p0_settings, .int v_nextNumber, .int v_bookings, .int v_leftOut])), (h_p0_roster, .inr (3, [.ref h_p0_roster_cells, .int v_size])), (h_p0_roster_cells, .inl (cyI, 280, .inl v_cells)), (h_p0_settings, .inl (cyI, 3, .inl v_settings))] := hD
    refine lv_iload_n hx hb dX5_tipLessBy_29 rfl (lv_at hl 3 rfl) ?_
    refine lv_isub hx hb dX5_tipLessBy_30 ?_
    refine lv_iload_n hx hb dX5_tipLessBy_31 rfl (lv_at hl 0 rfl) ?_
    refine lv_isub hx hb dX5_tipLessBy_32 ?_
    refine va_mmax hx hb (hml.trans hl.1.symm) hown (hts (.methodLink RX5 128 Lib.Math.max.name) m_X5_tipLessBy_5) (hts (.static Lib.Math.max.name) m_X5_tipLessBy_6) (hts (.initialized "java/lang/Math") m_X5_tipLessBy_7) (hts (.code Lib.Math.max.name Lib.Math.max.code 2 (some .int)) m_X5_tipLessBy_8) (Nat.le_of_ble_eq_true rfl) (Nat.le_of_ble_eq_true rfl) (Nat.zero_le _) (Nat.zero_le _) dX5_tipLessBy_33 ?_
    obtain rfl := Option.some.inj h
    exact W.iret (v := (if iI 0 < ((r8 - a2) - iI 0) then ((r8 - a2) - iI 0) else iI 0)) hx hb hr (fun t ht hW => ⟨⟨(if iI 0 < ((r8 - a2) - iI 0) then ((r8 - a2) - iI 0) else iI 0), (), rfl, rfl, WLD.of ht hP hD⟩, hS.F ht⟩) hS.2.2 dX5_tipLessBy_36
def s_X5_property (n : Nat) (v_holders : Nat → Int32) (v_cells : Nat → Int32) (v_settings : Nat → Int32) (a1 : Int32) (a2 : Int32) : Option (Int32) := (if a2 = iI 7 then ((s_X5_woken n v_holders v_cells a1).bind fun r2 => (some (r2))) else (if a2 = iI 8 then ((s_X5_woken n v_holders v_cells a1).bind fun r6 => ((s_X5_tipLessBy v_cells v_settings a1 r6).bind fun r9 => (some (r9)))) else ((s_X3_at v_cells a1 a2).bind fun r12 => (some (r12)))))
set_option maxRecDepth 20000 in
theorem m_X5_property_0 : ∀ w ∈ u_ws RX5 TX5 6, w ∈ wsX5_property := by decide +kernel
set_option maxRecDepth 20000 in
theorem m_X5_property_1 : (.fieldLink RX5 21 "SleeperBerths$Train" "roster" "LSleeperBerths$Roster;" : Cond) ∈ wsX5_property := by decide +kernel
set_option maxHeartbeats 4000000 in
set_option maxRecDepth 100000 in
theorem c_X5_property (l : Launch) (dC : Nat → ClassId) (dI : Nat → Nat → Nat) (cyI cyJ cyT : ClassId) (h_p0 : Nat) (h_p0_berths : Nat) (h_p0_roster : Nat) (h_p0_settings : Nat) (h_p0_berths_holders : Nat) (h_p0_berths_ends : Nat) (h_p0_roster_cells : Nat) (sz : Nat) (v_nextNumber : Int32) (v_bookings : Int32) (v_leftOut : Int32) (v_holders : Nat → Int32) (v_size : Int32) (v_cells : Nat → Int32) (v_settings : Nat → Int32) (a1 : Int32) (a2 : Int32) (n : Nat) (o : Int32) (h : s_X5_property n v_holders v_cells v_settings a1 a2 = some o) : Met l yX5_property wsX5_property ({ frames := 3, cells := 0, slots := 0, locals := 67 }) (va_Pc [.ref h_p0, .int a1, .int a2] (PRE (dC, dI) (TYS cyI cyJ cyT) sz [(h_p0, .inr (5, [.ref h_p0_berths, .ref h_p0_roster, .ref h_p0_settings, .int v_nextNumber, .int v_bookings, .int v_leftOut])), (h_p0_berths, .inr (0, [.ref h_p0_berths_holders, .ref h_p0_berths_ends])), (h_p0_berths_holders, .inl (cyI, 162, .inl v_holders)), (h_p0_roster, .inr (3, [.ref h_p0_roster_cells, .int v_size])), (h_p0_roster_cells, .inl (cyI, 280, .inl v_cells)), (h_p0_settings, .inl (cyI, 3, .inl v_settings))])) (va_Qi (S := Unit) (fun r _ => r = o) (fun _ t => WLD (dC, dI) (va_A [(h_p0, .inr (5, [.ref h_p0_berths, .ref h_p0_roster, .ref h_p0_settings, .int v_nextNumber, .int v_bookings, .int v_leftOut])), (h_p0_berths, .inr (0, [.ref h_p0_berths_holders, .ref h_p0_berths_ends])), (h_p0_berths_holders, .inl (cyI, 162, .inl v_holders)), (h_p0_roster, .inr (3, [.ref h_p0_roster_cells, .int v_size])), (h_p0_roster_cells, .inl (cyI, 280, .inl v_cells)), (h_p0_settings, .inl (cyI, 3, .inl v_settings))] sz) [(h_p0, .inr (5, [.ref h_p0_berths, .ref h_p0_roster, .ref h_p0_settings, .int v_nextNumber, .int v_bookings, .int v_leftOut])), (h_p0_berths, .inr (0, [.ref h_p0_berths_holders, .ref h_p0_berths_ends])), (h_p0_berths_holders, .inl (cyI, 162, .inl v_holders)), (h_p0_roster, .inr (3, [.ref h_p0_roster_cells, .int v_size])), (h_p0_roster_cells, .inl (cyI, 280, .inl v_cells)), (h_p0_settings, .inl (cyI, 3, .inl v_settings))] t) (va_A [(h_p0, .inr (5, [.ref h_p0_berths, .ref h_p0_roster, .ref h_p0_settings, .int v_nextNumber, .int v_bookings, .int v_leftOut])), (h_p0_berths, .inr (0, [.ref h_p0_berths_holders, .ref h_p0_berths_ends])), (h_p0_berths_holders, .inl (cyI, 162, .inl v_holders)), (h_p0_roster, .inr (3, [.ref h_p0_roster_cells, .int v_size])), (h_p0_roster_cells, .inl (cyI, 280, .inl v_cells)), (h_p0_settings, .inl (cyI, 3, .inl v_settings))] sz)) 0 0 (va_A [(h_p0, .inr (5, [.ref h_p0_berths, .ref h_p0_roster, .ref h_p0_settings, .int v_nextNumber, .int v_bookings, .int v_leftOut])), (h_p0_berths, .inr (0, [.ref h_p0_berths_holders, .ref h_p0_berths_ends])), (h_p0_berths_holders, .inl (cyI, 162, .inl v_holders)), (h_p0_roster, .inr (3, [.ref h_p0_roster_cells, .int v_size])), (h_p0_roster_cells, .inl (cyI, 280, .inl v_cells)), (h_p0_settings, .inl (cyI, 3, .inl v_settings))] sz) := by
  refine Met.ofW (cc := cX5_property) (maxL := 3) (ret := (some .int)) (by decide) rfl ?_
  intro p e s m args below meth c s₁ B hml hv
  obtain ⟨rfl, hsz, hP, hK, hD0, hNW⟩ := hv
  have hx := B.exec
  have hb := B.bytes
  have hr := B.returns
  have hts := atoms_spec (ws := wsX5_property) B.pre
  have hown : s.vm.findClass RX5 = some m.cls := findClass_of_methodNamed B.named
  have hlocks := B.notSynchronized
  subst hsz
  have hD := hD0.self (sz := s.heap.size)
  generalize hAe : va_A [(h_p0, .inr (5, [.ref h_p0_berths, .ref h_p0_roster, .ref h_p0_settings, .int v_nextNumber, .int v_bookings, .int v_leftOut])), (h_p0_berths, .inr (0, [.ref h_p0_berths_holders, .ref h_p0_berths_ends])), (h_p0_berths_holders, .inl (cyI, 162, .inl v_holders)), (h_p0_roster, .inr (3, [.ref h_p0_roster_cells, .int v_size])), (h_p0_roster_cells, .inl (cyI, 280, .inl v_cells)), (h_p0_settings, .inl (cyI, 3, .inl v_settings))] s.heap.size = A at hD ⊢
  have hA : ∀ q : Nat, s.heap.size ≤ q → A q := fun q h => by rw [← hAe]; exact Or.inr h
  have hS : va_S A s.heap s.heap [] := va_S.rf
  have hP : va_P (dC, dI) vwCl [(h_p0, .inr (5, [.ref h_p0_berths, .ref h_p0_roster, .ref h_p0_settings, .int v_nextNumber, .int v_bookings, .int v_leftOut])), (h_p0_berths, .inr (0, [.ref h_p0_berths_holders, .ref h_p0_berths_ends])), (h_p0_berths_holders, .inl (cyI, 162, .inl v_holders)), (h_p0_roster, .inr (3, [.ref h_p0_roster_cells, .int v_size])), (h_p0_roster_cells, .inl (cyI, 280, .inl v_cells)), (h_p0_settings, .inl (cyI, 3, .inl v_settings))] s.heap := hP
  have hl := lv_entry ([.ref h_p0, .int a1, .int a2]) (n := 3) (Nat.le_of_ble_eq_true rfl)
  rw [lg_entry_eq]
  generalize (lg_sl ([.ref h_p0, .int a1, .int a2]) ++ List.replicate (3 - (lg_sl ([.ref h_p0, .int a1, .int a2])).length) Slot.unset).toArray = ls at hl ⊢
  have hl : lv_has ls 3 [(0, .ref h_p0), (1, .int a1), (2, .int a2)] := hl
  unfold s_X5_property at h
  refine lv_iload_n hx hb dX5_property_0 rfl (lv_at hl 2 rfl) ?_
  by_cases c1 : a2 = iI 7
  · have h := ipos c1 h
    refine lv_lookup (tgt := 28) (off := 27) hx hb dX5_property_1 (by decide) (by rw [c1]; decide) (by decide) ?_
    refine lv_aload_n hx hb dX5_property_28 rfl (lv_at hl 0 rfl) ?_
    refine lv_iload_n hx hb dX5_property_29 rfl (lv_at hl 1 rfl) ?_
    obtain ⟨r2, e3, h⟩ := bsome h
    have hPc := sb_P [(h_p0, .inr (5, [.ref h_p0_berths, .ref h_p0_roster, .ref h_p0_settings, .int v_nextNumber, .int v_bookings, .int v_leftOut])), (h_p0_berths, .inr (0, [.ref h_p0_berths_holders, .ref h_p0_berths_ends])), (h_p0_berths_holders, .inl (cyI, 162, .inl v_holders)), (h_p0_roster, .inr (3, [.ref h_p0_roster_cells, .int v_size])), (h_p0_roster_cells, .inl (cyI, 280, .inl v_cells))] hP [0, 1, 2, 3, 4] rfl
    have hDc := sb_D [(h_p0, .inr (5, [.ref h_p0_berths, .ref h_p0_roster, .ref h_p0_settings, .int v_nextNumber, .int v_bookings, .int v_leftOut])), (h_p0_berths, .inr (0, [.ref h_p0_berths_holders, .ref h_p0_berths_ends])), (h_p0_berths_holders, .inl (cyI, 162, .inl v_holders)), (h_p0_roster, .inr (3, [.ref h_p0_roster_cells, .int v_size])), (h_p0_roster_cells, .inl (cyI, 280, .inl v_cells))] hD [0, 1, 2, 3, 4] (by decide) rfl
    have hFc := va_free (wc := [(h_p0, .inr (5, [.ref h_p0_berths, .ref h_p0_roster, .ref h_p0_settings, .int v_nextNumber, .int v_bookings, .int v_leftOut])), (h_p0_berths, .inr (0, [.ref h_p0_berths_holders, .ref h_p0_berths_ends])), (h_p0_berths_holders, .inl (cyI, 162, .inl v_holders)), (h_p0_roster, .inr (3, [.ref h_p0_roster_cells, .int v_size])), (h_p0_roster_cells, .inl (cyI, 280, .inl v_cells))]) hD hS hA [0, 1, 2, 3, 4] rfl
    refine va_calli (va_runV (As := [.int a1]) (rest := []) ⟨hx, hb, hml, hown, hts⟩ (c_X5_woken l dC dI cyI cyJ cyT h_p0 h_p0_berths h_p0_roster h_p0_settings h_p0_berths_holders h_p0_berths_ends h_p0_roster_cells s.heap.size v_nextNumber v_bookings v_leftOut v_holders v_size v_cells a1 n r2 e3) (cwV 1 hts gX5_property_X5_woken rfl rfl rfl (by decide +kernel) ⟨Nat.le_of_ble_eq_true rfl, Nat.le_of_ble_eq_true rfl⟩) ⟨PRE.blind, va_recv hK hPc (ci := 5) (q0 := 0) rfl rfl, PRE.go hK hPc hDc hNW⟩ rfl rfl hl.1 rfl (lv_room (Nat.le_of_ble_eq_true rfl)) dX5_property_30 ⟨Nat.zero_le _, Nat.zero_le _⟩) hS (fun q _ h => hFc q h) hFc (fun z4 u t H locs ht hvm hw hB hz1 hk1 hS => ?_)
    subst z4
    obtain ⟨hP, hD⟩ := va_join (wr := [(h_p0_settings, .inl (cyI, 3, .inl v_settings))]) (w1 := [(h_p0, .inr (5, [.ref h_p0_berths, .ref h_p0_roster, .ref h_p0_settings, .int v_nextNumber, .int v_bookings, .int v_leftOut])), (h_p0_berths, .inr (0, [.ref h_p0_berths_holders, .ref h_p0_berths_ends])), (h_p0_berths_holders, .inl (cyI, 162, .inl v_holders)), (h_p0_roster, .inr (3, [.ref h_p0_roster_cells, .int v_size])), (h_p0_roster_cells, .inl (cyI, 280, .inl v_cells))]) hP hD [0, 1, 2, 3, 4] [5] rfl rfl (by decide) (by decide) hk1 hFc (WLD.P hB ht) hB.2
    have hP : va_P (dC, dI) vwCl [(h_p0_settings, .inl (cyI, 3, .inl v_settings)), (h_p0, .inr (5, [.ref h_p0_berths, .ref h_p0_roster, .ref h_p0_settings, .int v_nextNumber, .int v_bookings, .int v_leftOut])), (h_p0_berths, .inr (0, [.ref h_p0_berths_holders, .ref h_p0_berths_ends])), (h_p0_berths_holders, .inl (cyI, 162, .inl v_holders)), (h_p0_roster, .inr (3, [.ref h_p0_roster_cells, .int v_size])), (h_p0_roster_cells, .inl (cyI, 280, .inl v_cells))] H := hP
    have hD : va_D A [(h_p0_settings, .inl (cyI, 3, .inl v_settings)), (h_p0, .inr (5, [.ref h_p0_berths, .ref h_p0_roster, .ref h_p0_settings, .int v_nextNumber, .int v_bookings, .int v_leftOut])), (h_p0_berths, .inr (0, [.ref h_p0_berths_holders, .ref h_p0_berths_ends])), (h_p0_berths_holders, .inl (cyI, 162, .inl v_holders)), (h_p0_roster, .inr (3, [.ref h_p0_roster_cells, .int v_size])), (h_p0_roster_cells, .inl (cyI, 280, .inl v_cells))] := hD
    obtain rfl := Option.some.inj h
    exact W.iret (v := r2) hx hb hr (fun t ht hW => ⟨⟨r2, (), rfl, rfl, WLD.of ht (sb_P [(h_p0, .inr (5, [.ref h_p0_berths, .ref h_p0_roster, .ref h_p0_settings, .int v_nextNumber, .int v_bookings, .int v_leftOut])), (h_p0_berths, .inr (0, [.ref h_p0_berths_holders, .ref h_p0_berths_ends])), (h_p0_berths_holders, .inl (cyI, 162, .inl v_holders)), (h_p0_roster, .inr (3, [.ref h_p0_roster_cells, .int v_size])), (h_p0_roster_cells, .inl (cyI, 280, .inl v_cells)), (h_p0_settings, .inl (cyI, 3, .inl v_settings))] hP [1, 2, 3, 4, 5, 0] rfl) (sb_D [(h_p0, .inr (5, [.ref h_p0_berths, .ref h_p0_roster, .ref h_p0_settings, .int v_nextNumber, .int v_bookings, .int v_leftOut])), (h_p0_berths, .inr (0, [.ref h_p0_berths_holders, .ref h_p0_berths_ends])), (h_p0_berths_holders, .inl (cyI, 162, .inl v_holders)), (h_p0_roster, .inr (3, [.ref h_p0_roster_cells, .int v_size])), (h_p0_roster_cells, .inl (cyI, 280, .inl v_cells)), (h_p0_settings, .inl (cyI, 3, .inl v_settings))] hD [1, 2, 3, 4, 5, 0] (by decide) rfl)⟩, hS.F ht⟩) hS.2.2 dX5_property_33
  · have h := ineg c1 h
    by_cases c5 : a2 = iI 8
    · have h := ipos c5 h
      refine lv_lookup (tgt := 34) (off := 33) hx hb dX5_property_1 (by decide) (by rw [c5]; decide) (by decide) ?_
      refine lv_aload_n hx hb dX5_property_34 rfl (lv_at hl 0 rfl) ?_
      refine lv_iload_n hx hb dX5_property_35 rfl (lv_at hl 1 rfl) ?_
      refine lv_aload_n hx hb dX5_property_36 rfl (lv_at hl 0 rfl) ?_
      refine lv_iload_n hx hb dX5_property_37 rfl (lv_at hl 1 rfl) ?_
      obtain ⟨r6, e7, h⟩ := bsome h
      have hPc := sb_P [(h_p0, .inr (5, [.ref h_p0_berths, .ref h_p0_roster, .ref h_p0_settings, .int v_nextNumber, .int v_bookings, .int v_leftOut])), (h_p0_berths, .inr (0, [.ref h_p0_berths_holders, .ref h_p0_berths_ends])), (h_p0_berths_holders, .inl (cyI, 162, .inl v_holders)), (h_p0_roster, .inr (3, [.ref h_p0_roster_cells, .int v_size])), (h_p0_roster_cells, .inl (cyI, 280, .inl v_cells))] hP [0, 1, 2, 3, 4] rfl
      have hDc := sb_D [(h_p0, .inr (5, [.ref h_p0_berths, .ref h_p0_roster, .ref h_p0_settings, .int v_nextNumber, .int v_bookings, .int v_leftOut])), (h_p0_berths, .inr (0, [.ref h_p0_berths_holders, .ref h_p0_berths_ends])), (h_p0_berths_holders, .inl (cyI, 162, .inl v_holders)), (h_p0_roster, .inr (3, [.ref h_p0_roster_cells, .int v_size])), (h_p0_roster_cells, .inl (cyI, 280, .inl v_cells))] hD [0, 1, 2, 3, 4] (by decide) rfl
      have hFc := va_free (wc := [(h_p0, .inr (5, [.ref h_p0_berths, .ref h_p0_roster, .ref h_p0_settings, .int v_nextNumber, .int v_bookings, .int v_leftOut])), (h_p0_berths, .inr (0, [.ref h_p0_berths_holders, .ref h_p0_berths_ends])), (h_p0_berths_holders, .inl (cyI, 162, .inl v_holders)), (h_p0_roster, .inr (3, [.ref h_p0_roster_cells, .int v_size])), (h_p0_roster_cells, .inl (cyI, 280, .inl v_cells))]) hD hS hA [0, 1, 2, 3, 4] rfl
      refine va_calli (va_runV (As := [.int a1]) (rest := [.int a1, .ref h_p0]) ⟨hx, hb, hml, hown, hts⟩ (c_X5_woken l dC dI cyI cyJ cyT h_p0 h_p0_berths h_p0_roster h_p0_settings h_p0_berths_holders h_p0_berths_ends h_p0_roster_cells s.heap.size v_nextNumber v_bookings v_leftOut v_holders v_size v_cells a1 n r6 e7) (cwV 1 hts gX5_property_X5_woken rfl rfl rfl (by decide +kernel) ⟨Nat.le_of_ble_eq_true rfl, Nat.le_of_ble_eq_true rfl⟩) ⟨PRE.blind, va_recv hK hPc (ci := 5) (q0 := 0) rfl rfl, PRE.go hK hPc hDc hNW⟩ rfl rfl hl.1 rfl (lv_room (Nat.le_of_ble_eq_true rfl)) dX5_property_38 ⟨Nat.zero_le _, Nat.zero_le _⟩) hS (fun q _ h => hFc q h) hFc (fun z8 u t H locs ht hvm hw hB hz1 hk1 hS => ?_)
      subst z8
      obtain ⟨hP, hD⟩ := va_join (wr := [(h_p0_settings, .inl (cyI, 3, .inl v_settings))]) (w1 := [(h_p0, .inr (5, [.ref h_p0_berths, .ref h_p0_roster, .ref h_p0_settings, .int v_nextNumber, .int v_bookings, .int v_leftOut])), (h_p0_berths, .inr (0, [.ref h_p0_berths_holders, .ref h_p0_berths_ends])), (h_p0_berths_holders, .inl (cyI, 162, .inl v_holders)), (h_p0_roster, .inr (3, [.ref h_p0_roster_cells, .int v_size])), (h_p0_roster_cells, .inl (cyI, 280, .inl v_cells))]) hP hD [0, 1, 2, 3, 4] [5] rfl rfl (by decide) (by decide) hk1 hFc (WLD.P hB ht) hB.2
      have hP : va_P (dC, dI) vwCl [(h_p0_settings, .inl (cyI, 3, .inl v_settings)), (h_p0, .inr (5, [.ref h_p0_berths, .ref h_p0_roster, .ref h_p0_settings, .int v_nextNumber, .int v_bookings, .int v_leftOut])), (h_p0_berths, .inr (0, [.ref h_p0_berths_holders, .ref h_p0_berths_ends])), (h_p0_berths_holders, .inl (cyI, 162, .inl v_holders)), (h_p0_roster, .inr (3, [.ref h_p0_roster_cells, .int v_size])), (h_p0_roster_cells, .inl (cyI, 280, .inl v_cells))] H := hP
      have hD : va_D A [(h_p0_settings, .inl (cyI, 3, .inl v_settings)), (h_p0, .inr (5, [.ref h_p0_berths, .ref h_p0_roster, .ref h_p0_settings, .int v_nextNumber, .int v_bookings, .int v_leftOut])), (h_p0_berths, .inr (0, [.ref h_p0_berths_holders, .ref h_p0_berths_ends])), (h_p0_berths_holders, .inl (cyI, 162, .inl v_holders)), (h_p0_roster, .inr (3, [.ref h_p0_roster_cells, .int v_size])), (h_p0_roster_cells, .inl (cyI, 280, .inl v_cells))] := hD
      obtain ⟨r9, e10, h⟩ := bsome h
      have hPc := sb_P [(h_p0, .inr (5, [.ref h_p0_berths, .ref h_p0_roster, .ref h_p0_settings, .int v_nextNumber, .int v_bookings, .int v_leftOut])), (h_p0_roster, .inr (3, [.ref h_p0_roster_cells, .int v_size])), (h_p0_roster_cells, .inl (cyI, 280, .inl v_cells)), (h_p0_settings, .inl (cyI, 3, .inl v_settings))] hP [1, 4, 5, 0] rfl
      have hDc := sb_D [(h_p0, .inr (5, [.ref h_p0_berths, .ref h_p0_roster, .ref h_p0_settings, .int v_nextNumber, .int v_bookings, .int v_leftOut])), (h_p0_roster, .inr (3, [.ref h_p0_roster_cells, .int v_size])), (h_p0_roster_cells, .inl (cyI, 280, .inl v_cells)), (h_p0_settings, .inl (cyI, 3, .inl v_settings))] hD [1, 4, 5, 0] (by decide) rfl
      have hFc := va_free (wc := [(h_p0, .inr (5, [.ref h_p0_berths, .ref h_p0_roster, .ref h_p0_settings, .int v_nextNumber, .int v_bookings, .int v_leftOut])), (h_p0_roster, .inr (3, [.ref h_p0_roster_cells, .int v_size])), (h_p0_roster_cells, .inl (cyI, 280, .inl v_cells)), (h_p0_settings, .inl (cyI, 3, .inl v_settings))]) hD hS hA [1, 4, 5, 0] rfl
      refine va_calli (va_runV (As := [.int a1, .int r6]) (rest := []) ⟨hx, hb, hml, hown, hts⟩ (c_X5_tipLessBy l dC dI cyI cyJ cyT h_p0 h_p0_berths h_p0_roster h_p0_settings h_p0_roster_cells H.size v_nextNumber v_bookings v_leftOut v_size v_cells v_settings a1 r6 r9 e10) (cwV 2 hts gX5_property_X5_tipLessBy rfl rfl rfl (by decide +kernel) ⟨Nat.le_of_ble_eq_true rfl, Nat.le_of_ble_eq_true rfl⟩) ⟨PRE.blind, va_recv hK hPc (ci := 5) (q0 := 0) rfl rfl, PRE.go hK hPc hDc hNW⟩ rfl rfl hl.1 rfl (lv_room (Nat.le_of_ble_eq_true rfl)) dX5_property_41 ⟨Nat.zero_le _, Nat.zero_le _⟩) hS (fun q _ h => hFc q h) hFc (fun z11 u t H locs ht hvm hw hB hz1 hk1 hS => ?_)
      subst z11
      obtain ⟨hP, hD⟩ := va_join (wr := [(h_p0_berths, .inr (0, [.ref h_p0_berths_holders, .ref h_p0_berths_ends])), (h_p0_berths_holders, .inl (cyI, 162, .inl v_holders))]) (w1 := [(h_p0, .inr (5, [.ref h_p0_berths, .ref h_p0_roster, .ref h_p0_settings, .int v_nextNumber, .int v_bookings, .int v_leftOut])), (h_p0_roster, .inr (3, [.ref h_p0_roster_cells, .int v_size])), (h_p0_roster_cells, .inl (cyI, 280, .inl v_cells)), (h_p0_settings, .inl (cyI, 3, .inl v_settings))]) hP hD [1, 4, 5, 0] [2, 3] rfl rfl (by decide) (by decide) hk1 hFc (WLD.P hB ht) hB.2
      have hP : va_P (dC, dI) vwCl [(h_p0_berths, .inr (0, [.ref h_p0_berths_holders, .ref h_p0_berths_ends])), (h_p0_berths_holders, .inl (cyI, 162, .inl v_holders)), (h_p0, .inr (5, [.ref h_p0_berths, .ref h_p0_roster, .ref h_p0_settings, .int v_nextNumber, .int v_bookings, .int v_leftOut])), (h_p0_roster, .inr (3, [.ref h_p0_roster_cells, .int v_size])), (h_p0_roster_cells, .inl (cyI, 280, .inl v_cells)), (h_p0_settings, .inl (cyI, 3, .inl v_settings))] H := hP
      have hD : va_D A [(h_p0_berths, .inr (0, [.ref h_p0_berths_holders, .ref h_p0_berths_ends])), (h_p0_berths_holders, .inl (cyI, 162, .inl v_holders)), (h_p0, .inr (5, [.ref h_p0_berths, .ref h_p0_roster, .ref h_p0_settings, .int v_nextNumber, .int v_bookings, .int v_leftOut])), (h_p0_roster, .inr (3, [.ref h_p0_roster_cells, .int v_size])), (h_p0_roster_cells, .inl (cyI, 280, .inl v_cells)), (h_p0_settings, .inl (cyI, 3, .inl v_settings))] := hD
      obtain rfl := Option.some.inj h
      exact W.iret (v := r9) hx hb hr (fun t ht hW => ⟨⟨r9, (), rfl, rfl, WLD.of ht (sb_P [(h_p0, .inr (5, [.ref h_p0_berths, .ref h_p0_roster, .ref h_p0_settings, .int v_nextNumber, .int v_bookings, .int v_leftOut])), (h_p0_berths, .inr (0, [.ref h_p0_berths_holders, .ref h_p0_berths_ends])), (h_p0_berths_holders, .inl (cyI, 162, .inl v_holders)), (h_p0_roster, .inr (3, [.ref h_p0_roster_cells, .int v_size])), (h_p0_roster_cells, .inl (cyI, 280, .inl v_cells)), (h_p0_settings, .inl (cyI, 3, .inl v_settings))] hP [2, 0, 1, 3, 4, 5] rfl) (sb_D [(h_p0, .inr (5, [.ref h_p0_berths, .ref h_p0_roster, .ref h_p0_settings, .int v_nextNumber, .int v_bookings, .int v_leftOut])), (h_p0_berths, .inr (0, [.ref h_p0_berths_holders, .ref h_p0_berths_ends])), (h_p0_berths_holders, .inl (cyI, 162, .inl v_holders)), (h_p0_roster, .inr (3, [.ref h_p0_roster_cells, .int v_size])), (h_p0_roster_cells, .inl (cyI, 280, .inl v_cells)), (h_p0_settings, .inl (cyI, 3, .inl v_settings))] hD [2, 0, 1, 3, 4, 5] (by decide) rfl)⟩, hS.F ht⟩) hS.2.2 dX5_property_44
    · have h := ineg c5 h
      refine lv_lookup (tgt := 45) (off := 44) hx hb dX5_property_1 (by decide) (by have t1 := tsw_ne c1 (by decide); have t2 := tsw_ne c5 (by decide); exact lsw_out (by intro q hq; simp at hq; rcases hq with rfl | rfl <;> simp <;> omega)) (by decide) ?_
      refine lv_aload_n hx hb dX5_property_45 rfl (lv_at hl 0 rfl) ?_
      refine va_get (D := (dC, dI)) (ci := 5) (v := .ref h_p0_roster) (C := RX5) (T := TX5) (N := 6) hx hb hts m_X5_property_0 hown hK hP 0 rfl rfl 1 (by decide) (hts (.fieldLink RX5 21 "SleeperBerths$Train" "roster" "LSleeperBerths$Roster;") m_X5_property_1) (fun _ h9 => h9) rfl dX5_property_46 ?_
      refine lv_iload_n hx hb dX5_property_49 rfl (lv_at hl 1 rfl) ?_
      refine lv_iload_n hx hb dX5_property_50 rfl (lv_at hl 2 rfl) ?_
      obtain ⟨r12, e13, h⟩ := bsome h
      have hPc := sb_P [(h_p0_roster, .inr (3, [.ref h_p0_roster_cells, .int v_size])), (h_p0_roster_cells, .inl (cyI, 280, .inl v_cells))] hP [3, 4] rfl
      have hDc := sb_D [(h_p0_roster, .inr (3, [.ref h_p0_roster_cells, .int v_size])), (h_p0_roster_cells, .inl (cyI, 280, .inl v_cells))] hD [3, 4] (by decide) rfl
      have hFc := va_free (wc := [(h_p0_roster, .inr (3, [.ref h_p0_roster_cells, .int v_size])), (h_p0_roster_cells, .inl (cyI, 280, .inl v_cells))]) hD hS hA [3, 4] rfl
      refine va_calli (va_runV (As := [.int a1, .int a2]) (rest := []) ⟨hx, hb, hml, hown, hts⟩ (c_X3_at l dC dI cyI cyJ cyT h_p0_roster h_p0_roster_cells s.heap.size v_size v_cells a1 a2 r12 e13) (cwV 2 hts gX5_property_X3_at rfl rfl rfl (by decide +kernel) ⟨Nat.le_of_ble_eq_true rfl, Nat.le_of_ble_eq_true rfl⟩) ⟨PRE.blind, va_recv hK hPc (ci := 3) (q0 := 0) rfl rfl, PRE.go hK hPc hDc hNW⟩ rfl rfl hl.1 rfl (lv_room (Nat.le_of_ble_eq_true rfl)) dX5_property_51 ⟨Nat.zero_le _, Nat.zero_le _⟩) hS (fun q _ h => hFc q h) hFc (fun z14 u t H locs ht hvm hw hB hz1 hk1 hS => ?_)
      subst z14
      obtain ⟨hP, hD⟩ := va_join (wr := [(h_p0, .inr (5, [.ref h_p0_berths, .ref h_p0_roster, .ref h_p0_settings, .int v_nextNumber, .int v_bookings, .int v_leftOut])), (h_p0_berths, .inr (0, [.ref h_p0_berths_holders, .ref h_p0_berths_ends])), (h_p0_berths_holders, .inl (cyI, 162, .inl v_holders)), (h_p0_settings, .inl (cyI, 3, .inl v_settings))]) (w1 := [(h_p0_roster, .inr (3, [.ref h_p0_roster_cells, .int v_size])), (h_p0_roster_cells, .inl (cyI, 280, .inl v_cells))]) hP hD [3, 4] [0, 1, 2, 5] rfl rfl (by decide) (by decide) hk1 hFc (WLD.P hB ht) hB.2
      have hP : va_P (dC, dI) vwCl [(h_p0, .inr (5, [.ref h_p0_berths, .ref h_p0_roster, .ref h_p0_settings, .int v_nextNumber, .int v_bookings, .int v_leftOut])), (h_p0_berths, .inr (0, [.ref h_p0_berths_holders, .ref h_p0_berths_ends])), (h_p0_berths_holders, .inl (cyI, 162, .inl v_holders)), (h_p0_settings, .inl (cyI, 3, .inl v_settings)), (h_p0_roster, .inr (3, [.ref h_p0_roster_cells, .int v_size])), (h_p0_roster_cells, .inl (cyI, 280, .inl v_cells))] H := hP
      have hD : va_D A [(h_p0, .inr (5, [.ref h_p0_berths, .ref h_p0_roster, .ref h_p0_settings, .int v_nextNumber, .int v_bookings, .int v_leftOut])), (h_p0_berths, .inr (0, [.ref h_p0_berths_holders, .ref h_p0_berths_ends])), (h_p0_berths_holders, .inl (cyI, 162, .inl v_holders)), (h_p0_settings, .inl (cyI, 3, .inl v_settings)), (h_p0_roster, .inr (3, [.ref h_p0_roster_cells, .int v_size])), (h_p0_roster_cells, .inl (cyI, 280, .inl v_cells))] := hD
      obtain rfl := Option.some.inj h
      exact W.iret (v := r12) hx hb hr (fun t ht hW => ⟨⟨r12, (), rfl, rfl, WLD.of ht (sb_P [(h_p0, .inr (5, [.ref h_p0_berths, .ref h_p0_roster, .ref h_p0_settings, .int v_nextNumber, .int v_bookings, .int v_leftOut])), (h_p0_berths, .inr (0, [.ref h_p0_berths_holders, .ref h_p0_berths_ends])), (h_p0_berths_holders, .inl (cyI, 162, .inl v_holders)), (h_p0_roster, .inr (3, [.ref h_p0_roster_cells, .int v_size])), (h_p0_roster_cells, .inl (cyI, 280, .inl v_cells)), (h_p0_settings, .inl (cyI, 3, .inl v_settings))] hP [0, 1, 2, 4, 5, 3] rfl) (sb_D [(h_p0, .inr (5, [.ref h_p0_berths, .ref h_p0_roster, .ref h_p0_settings, .int v_nextNumber, .int v_bookings, .int v_leftOut])), (h_p0_berths, .inr (0, [.ref h_p0_berths_holders, .ref h_p0_berths_ends])), (h_p0_berths_holders, .inl (cyI, 162, .inl v_holders)), (h_p0_roster, .inr (3, [.ref h_p0_roster_cells, .int v_size])), (h_p0_roster_cells, .inl (cyI, 280, .inl v_cells)), (h_p0_settings, .inl (cyI, 3, .inl v_settings))] hD [0, 1, 2, 4, 5, 3] (by decide) rfl)⟩, hS.F ht⟩) hS.2.2 dX5_property_54
def s_X6_passenger (n : Nat) (v_holders : Nat → Int32) (v_size : Int32) (v_cells : Nat → Int32) (v_settings : Nat → Int32) (a1 : Int32) (a2 : Int32) : Option (Nat × Int32) := (if a1 < 0 then (some (1, 0)) else ((s_X6_isBelow a2 (iI 9)).bind fun r3 => (if r3 = 0 then (some (1, 0)) else (if v_size ≤ a1 then (some (0, iI (-1))) else ((s_X5_property n v_holders v_cells v_settings a1 a2).bind fun r8 => (some (0, r8)))))))
set_option maxRecDepth 20000 in
theorem m_X6_passenger_0 : ∀ w ∈ (vx_atS RX6 120 "java/lang/IllegalArgumentException" ["java/lang/RuntimeException", "java/lang/Exception"]).filter goodWord, w ∈ wsX6_passenger := by decide +kernel
set_option maxRecDepth 20000 in
theorem m_X6_passenger_1 : (.classLink RX6 116 "java/lang/IllegalArgumentException" : Cond) ∈ wsX6_passenger := by decide +kernel
set_option maxRecDepth 20000 in
theorem m_X6_passenger_2 : (.initialized "java/lang/IllegalArgumentException" : Cond) ∈ wsX6_passenger := by decide +kernel
set_option maxRecDepth 20000 in
theorem m_X6_passenger_3 : ∀ w ∈ u_ws RX6 TX6 3, w ∈ wsX6_passenger := by decide +kernel
set_option maxRecDepth 20000 in
theorem m_X6_passenger_4 : (.fieldLink RX6 12 "SleeperBerths" "train" "LSleeperBerths$Train;" : Cond) ∈ wsX6_passenger := by decide +kernel
set_option maxRecDepth 20000 in
theorem m_X6_passenger_5 : ∀ w ∈ u_ws RX5 TX5 6, w ∈ wsX6_passenger := by decide +kernel
set_option maxRecDepth 20000 in
theorem m_X6_passenger_6 : (.fieldLink RX6 38 "SleeperBerths$Train" "roster" "LSleeperBerths$Roster;" : Cond) ∈ wsX6_passenger := by decide +kernel
set_option maxRecDepth 20000 in
theorem m_X6_passenger_7 : ∀ w ∈ u_ws RX3 TX3 2, w ∈ wsX6_passenger := by decide +kernel
set_option maxRecDepth 20000 in
theorem m_X6_passenger_8 : (.fieldLink RX6 210 "SleeperBerths$Roster" "size" "I" : Cond) ∈ wsX6_passenger := by decide +kernel
set_option maxHeartbeats 4000000 in
set_option maxRecDepth 100000 in
theorem c_X6_passenger (l : Launch) (hl0 : l.stackTraces = false) (dC : Nat → ClassId) (dI : Nat → Nat → Nat) (cyI cyJ cyT : ClassId) (h_p0 : Nat) (h_p0_train : Nat) (h_p0_history : Nat) (h_p0_text : Nat) (h_p0_train_berths : Nat) (h_p0_train_roster : Nat) (h_p0_train_settings : Nat) (h_p0_train_berths_holders : Nat) (h_p0_train_berths_ends : Nat) (h_p0_train_roster_cells : Nat) (sz : Nat) (v_nextNumber : Int32) (v_bookings : Int32) (v_leftOut : Int32) (v_holders : Nat → Int32) (v_size : Int32) (v_cells : Nat → Int32) (v_settings : Nat → Int32) (a1 : Int32) (a2 : Int32) (n : Nat) (o : Nat × Int32) (h : s_X6_passenger n v_holders v_size v_cells v_settings a1 a2 = some o) : vx_Met l yX6_passenger wsX6_passenger ({ frames := 6, cells := 1, slots := 6, locals := 90 }) (va_Pc [.ref h_p0, .int a1, .int a2] (PREX (dC, dI) (TYS cyI cyJ cyT) sz [(h_p0, .inr (6, [.ref h_p0_train, .ref h_p0_history, .ref h_p0_text])), (h_p0_train, .inr (5, [.ref h_p0_train_berths, .ref h_p0_train_roster, .ref h_p0_train_settings, .int v_nextNumber, .int v_bookings, .int v_leftOut])), (h_p0_train_berths, .inr (0, [.ref h_p0_train_berths_holders, .ref h_p0_train_berths_ends])), (h_p0_train_berths_holders, .inl (cyI, 162, .inl v_holders)), (h_p0_train_roster, .inr (3, [.ref h_p0_train_roster_cells, .int v_size])), (h_p0_train_roster_cells, .inl (cyI, 280, .inl v_cells)), (h_p0_train_settings, .inl (cyI, 3, .inl v_settings))])) (va_Qi (S := Unit) (fun r _ => o.1 = 0 ∧ r = o.2) (fun _ t => WLD (dC, dI) (va_A [(h_p0, .inr (6, [.ref h_p0_train, .ref h_p0_history, .ref h_p0_text])), (h_p0_train, .inr (5, [.ref h_p0_train_berths, .ref h_p0_train_roster, .ref h_p0_train_settings, .int v_nextNumber, .int v_bookings, .int v_leftOut])), (h_p0_train_berths, .inr (0, [.ref h_p0_train_berths_holders, .ref h_p0_train_berths_ends])), (h_p0_train_berths_holders, .inl (cyI, 162, .inl v_holders)), (h_p0_train_roster, .inr (3, [.ref h_p0_train_roster_cells, .int v_size])), (h_p0_train_roster_cells, .inl (cyI, 280, .inl v_cells)), (h_p0_train_settings, .inl (cyI, 3, .inl v_settings))] sz) [(h_p0, .inr (6, [.ref h_p0_train, .ref h_p0_history, .ref h_p0_text])), (h_p0_train, .inr (5, [.ref h_p0_train_berths, .ref h_p0_train_roster, .ref h_p0_train_settings, .int v_nextNumber, .int v_bookings, .int v_leftOut])), (h_p0_train_berths, .inr (0, [.ref h_p0_train_berths_holders, .ref h_p0_train_berths_ends])), (h_p0_train_berths_holders, .inl (cyI, 162, .inl v_holders)), (h_p0_train_roster, .inr (3, [.ref h_p0_train_roster_cells, .int v_size])), (h_p0_train_roster_cells, .inl (cyI, 280, .inl v_cells)), (h_p0_train_settings, .inl (cyI, 3, .inl v_settings))] t) (va_A [(h_p0, .inr (6, [.ref h_p0_train, .ref h_p0_history, .ref h_p0_text])), (h_p0_train, .inr (5, [.ref h_p0_train_berths, .ref h_p0_train_roster, .ref h_p0_train_settings, .int v_nextNumber, .int v_bookings, .int v_leftOut])), (h_p0_train_berths, .inr (0, [.ref h_p0_train_berths_holders, .ref h_p0_train_berths_ends])), (h_p0_train_berths_holders, .inl (cyI, 162, .inl v_holders)), (h_p0_train_roster, .inr (3, [.ref h_p0_train_roster_cells, .int v_size])), (h_p0_train_roster_cells, .inl (cyI, 280, .inl v_cells)), (h_p0_train_settings, .inl (cyI, 3, .inl v_settings))] sz)) (vx_X (S := Unit) (fun _ => True) (fun E _ t => XWL (dC, dI) (va_A [(h_p0, .inr (6, [.ref h_p0_train, .ref h_p0_history, .ref h_p0_text])), (h_p0_train, .inr (5, [.ref h_p0_train_berths, .ref h_p0_train_roster, .ref h_p0_train_settings, .int v_nextNumber, .int v_bookings, .int v_leftOut])), (h_p0_train_berths, .inr (0, [.ref h_p0_train_berths_holders, .ref h_p0_train_berths_ends])), (h_p0_train_berths_holders, .inl (cyI, 162, .inl v_holders)), (h_p0_train_roster, .inr (3, [.ref h_p0_train_roster_cells, .int v_size])), (h_p0_train_roster_cells, .inl (cyI, 280, .inl v_cells)), (h_p0_train_settings, .inl (cyI, 3, .inl v_settings))] sz) o.1 E [(h_p0, .inr (6, [.ref h_p0_train, .ref h_p0_history, .ref h_p0_text])), (h_p0_train, .inr (5, [.ref h_p0_train_berths, .ref h_p0_train_roster, .ref h_p0_train_settings, .int v_nextNumber, .int v_bookings, .int v_leftOut])), (h_p0_train_berths, .inr (0, [.ref h_p0_train_berths_holders, .ref h_p0_train_berths_ends])), (h_p0_train_berths_holders, .inl (cyI, 162, .inl v_holders)), (h_p0_train_roster, .inr (3, [.ref h_p0_train_roster_cells, .int v_size])), (h_p0_train_roster_cells, .inl (cyI, 280, .inl v_cells)), (h_p0_train_settings, .inl (cyI, 3, .inl v_settings))] t) (va_A [(h_p0, .inr (6, [.ref h_p0_train, .ref h_p0_history, .ref h_p0_text])), (h_p0_train, .inr (5, [.ref h_p0_train_berths, .ref h_p0_train_roster, .ref h_p0_train_settings, .int v_nextNumber, .int v_bookings, .int v_leftOut])), (h_p0_train_berths, .inr (0, [.ref h_p0_train_berths_holders, .ref h_p0_train_berths_ends])), (h_p0_train_berths_holders, .inl (cyI, 162, .inl v_holders)), (h_p0_train_roster, .inr (3, [.ref h_p0_train_roster_cells, .int v_size])), (h_p0_train_roster_cells, .inl (cyI, 280, .inl v_cells)), (h_p0_train_settings, .inl (cyI, 3, .inl v_settings))] sz)) 1 6 (va_A [(h_p0, .inr (6, [.ref h_p0_train, .ref h_p0_history, .ref h_p0_text])), (h_p0_train, .inr (5, [.ref h_p0_train_berths, .ref h_p0_train_roster, .ref h_p0_train_settings, .int v_nextNumber, .int v_bookings, .int v_leftOut])), (h_p0_train_berths, .inr (0, [.ref h_p0_train_berths_holders, .ref h_p0_train_berths_ends])), (h_p0_train_berths_holders, .inl (cyI, 162, .inl v_holders)), (h_p0_train_roster, .inr (3, [.ref h_p0_train_roster_cells, .int v_size])), (h_p0_train_roster_cells, .inl (cyI, 280, .inl v_cells)), (h_p0_train_settings, .inl (cyI, 3, .inl v_settings))] sz) := by
  refine vx_ofW (cc := cX6_passenger) (maxL := 3) (ret := (some .int)) (by decide) rfl ?_
  intro p e s m args below meth c s₁ B hml hno hv
  obtain ⟨rfl, ⟨hsz, hP, hK, hD0, hNW⟩, hXR, hXS⟩ := hv
  have hx := B.exec
  have hb := B.bytes
  have hr := B.returns
  have hts := atoms_spec (ws := wsX6_passenger) B.pre
  have hown : s.vm.findClass RX6 = some m.cls := findClass_of_methodNamed B.named
  have hlocks := B.notSynchronized
  subst hsz
  have hD := hD0.self (sz := s.heap.size)
  generalize hAe : va_A [(h_p0, .inr (6, [.ref h_p0_train, .ref h_p0_history, .ref h_p0_text])), (h_p0_train, .inr (5, [.ref h_p0_train_berths, .ref h_p0_train_roster, .ref h_p0_train_settings, .int v_nextNumber, .int v_bookings, .int v_leftOut])), (h_p0_train_berths, .inr (0, [.ref h_p0_train_berths_holders, .ref h_p0_train_berths_ends])), (h_p0_train_berths_holders, .inl (cyI, 162, .inl v_holders)), (h_p0_train_roster, .inr (3, [.ref h_p0_train_roster_cells, .int v_size])), (h_p0_train_roster_cells, .inl (cyI, 280, .inl v_cells)), (h_p0_train_settings, .inl (cyI, 3, .inl v_settings))] s.heap.size = A at hD hXS ⊢
  have hA : ∀ q : Nat, s.heap.size ≤ q → A q := fun q h => by rw [← hAe]; exact Or.inr h
  have hS : va_S A s.heap s.heap [] := va_S.rf
  have hP : va_P (dC, dI) vwCl [(h_p0, .inr (6, [.ref h_p0_train, .ref h_p0_history, .ref h_p0_text])), (h_p0_train, .inr (5, [.ref h_p0_train_berths, .ref h_p0_train_roster, .ref h_p0_train_settings, .int v_nextNumber, .int v_bookings, .int v_leftOut])), (h_p0_train_berths, .inr (0, [.ref h_p0_train_berths_holders, .ref h_p0_train_berths_ends])), (h_p0_train_berths_holders, .inl (cyI, 162, .inl v_holders)), (h_p0_train_roster, .inr (3, [.ref h_p0_train_roster_cells, .int v_size])), (h_p0_train_roster_cells, .inl (cyI, 280, .inl v_cells)), (h_p0_train_settings, .inl (cyI, 3, .inl v_settings))] s.heap := hP
  have hl := lv_entry ([.ref h_p0, .int a1, .int a2]) (n := 3) (Nat.le_of_ble_eq_true rfl)
  rw [lg_entry_eq]
  generalize (lg_sl ([.ref h_p0, .int a1, .int a2]) ++ List.replicate (3 - (lg_sl ([.ref h_p0, .int a1, .int a2])).length) Slot.unset).toArray = ls at hl ⊢
  have hl : lv_has ls 3 [(0, .ref h_p0), (1, .int a1), (2, .int a2)] := hl
  unfold s_X6_passenger at h
  refine lv_iload_n hx hb dX6_passenger_0 rfl (lv_at hl 1 rfl) ?_
  refine lv_if_lt (tgt := 13) hx hb dX6_passenger_1 (by decide) (fun c1 => ?_) (fun c1 => ?_)
  · have h := ipos c1 h
    obtain rfl := Option.some.inj h
    obtain ⟨sa2, hstr⟩ := hXR.2.2 13 rfl
    exact vx_throwS (names := ["java/lang/RuntimeException", "java/lang/Exception"]) (sa := sa2) hx hb hl0 hown (by decide +kernel) (by decide +kernel) (hts (.classLink RX6 116 "java/lang/IllegalArgumentException") m_X6_passenger_1) (hts (.initialized "java/lang/IllegalArgumentException") m_X6_passenger_2) hstr (xhat hts m_X6_passenger_0 hXR (by decide +kernel)) (by decide +kernel) hXS.1 hXS.2 hS (hl.1.trans hml.symm) dX6_passenger_13 dX6_passenger_16 dX6_passenger_17 dX6_passenger_19 dX6_passenger_22 (fun x hx9 => (hno x hx9).elim) (Nat.le_of_ble_eq_true rfl) (Nat.le_of_ble_eq_true rfl) (Nat.le_of_ble_eq_true rfl) (Nat.le_of_ble_eq_true rfl) hlocks (fun t _ h1 h2 => XWL.of (by decide) rfl hP hD hS h1 h2) hS.2.2 (Nat.le_of_ble_eq_true rfl) (Nat.le_of_ble_eq_true rfl)
  · have h := ineg c1 h
    refine lv_iload_n hx hb dX6_passenger_4 rfl (lv_at hl 2 rfl) ?_
    refine lv_bipush (v := iI 9) hx hb dX6_passenger_5 (by decide) ?_
    obtain ⟨r3, e4, h⟩ := bsome h
    have hPc := sb_P [] hP [] rfl
    have hDc := sb_D [] hD [] (by decide) rfl
    have hFc := va_free (wc := []) hD hS hA [] rfl
    refine va_calli (va_runS (As := [.int a2, .int (iI 9)]) (rest := []) ⟨hx, hb, hml, hown, hts⟩ (c_X6_isBelow l dC dI cyI cyJ cyT s.heap.size a2 (iI 9) r3 e4) (va_cwS 2 hts gX6_passenger_X6_isBelow rfl rfl rfl (by decide +kernel) ⟨Nat.le_of_ble_eq_true rfl, Nat.le_of_ble_eq_true rfl⟩) ⟨PRE.blind, PRE.go hK hPc hDc hNW⟩ rfl rfl hl.1 rfl (lv_room (Nat.le_of_ble_eq_true rfl)) dX6_passenger_7 ⟨Nat.zero_le _, Nat.zero_le _⟩) hS (fun q _ h => hFc q h) hFc (fun z5 u t H locs ht hvm hw hB hz1 hk1 hS => ?_)
    subst z5
    obtain ⟨hP, hD⟩ := va_join (wr := [(h_p0, .inr (6, [.ref h_p0_train, .ref h_p0_history, .ref h_p0_text])), (h_p0_train, .inr (5, [.ref h_p0_train_berths, .ref h_p0_train_roster, .ref h_p0_train_settings, .int v_nextNumber, .int v_bookings, .int v_leftOut])), (h_p0_train_berths, .inr (0, [.ref h_p0_train_berths_holders, .ref h_p0_train_berths_ends])), (h_p0_train_berths_holders, .inl (cyI, 162, .inl v_holders)), (h_p0_train_roster, .inr (3, [.ref h_p0_train_roster_cells, .int v_size])), (h_p0_train_roster_cells, .inl (cyI, 280, .inl v_cells)), (h_p0_train_settings, .inl (cyI, 3, .inl v_settings))]) (w1 := []) hP hD [] [0, 1, 2, 3, 4, 5, 6] rfl rfl (by decide) (by decide) hk1 hFc (WLD.P hB ht) hB.2
    have hP : va_P (dC, dI) vwCl [(h_p0, .inr (6, [.ref h_p0_train, .ref h_p0_history, .ref h_p0_text])), (h_p0_train, .inr (5, [.ref h_p0_train_berths, .ref h_p0_train_roster, .ref h_p0_train_settings, .int v_nextNumber, .int v_bookings, .int v_leftOut])), (h_p0_train_berths, .inr (0, [.ref h_p0_train_berths_holders, .ref h_p0_train_berths_ends])), (h_p0_train_berths_holders, .inl (cyI, 162, .inl v_holders)), (h_p0_train_roster, .inr (3, [.ref h_p0_train_roster_cells, .int v_size])), (h_p0_train_roster_cells, .inl (cyI, 280, .inl v_cells)), (h_p0_train_settings, .inl (cyI, 3, .inl v_settings))] H := hP
    have hD : va_D A [(h_p0, .inr (6, [.ref h_p0_train, .ref h_p0_history, .ref h_p0_text])), (h_p0_train, .inr (5, [.ref h_p0_train_berths, .ref h_p0_train_roster, .ref h_p0_train_settings, .int v_nextNumber, .int v_bookings, .int v_leftOut])), (h_p0_train_berths, .inr (0, [.ref h_p0_train_berths_holders, .ref h_p0_train_berths_ends])), (h_p0_train_berths_holders, .inl (cyI, 162, .inl v_holders)), (h_p0_train_roster, .inr (3, [.ref h_p0_train_roster_cells, .int v_size])), (h_p0_train_roster_cells, .inl (cyI, 280, .inl v_cells)), (h_p0_train_settings, .inl (cyI, 3, .inl v_settings))] := hD
    refine lv_if_ne (tgt := 23) hx hb dX6_passenger_10 (by decide) (fun c6 => ?_) (fun c6 => ?_)
    · have h := ineg c6 h
      refine lv_iload_n hx hb dX6_passenger_23 rfl (lv_at hl 1 rfl) ?_
      refine lv_aload_n hx hb dX6_passenger_24 rfl (lv_at hl 0 rfl) ?_
      refine va_get (D := (dC, dI)) (ci := 6) (v := .ref h_p0_train) (C := RX6) (T := TX6) (N := 3) hx hb hts m_X6_passenger_3 hown hK hP 0 rfl rfl 0 (by decide) (hts (.fieldLink RX6 12 "SleeperBerths" "train" "LSleeperBerths$Train;") m_X6_passenger_4) (fun _ h9 => h9) rfl dX6_passenger_25 ?_
      refine va_get (D := (dC, dI)) (ci := 5) (v := .ref h_p0_train_roster) (C := RX5) (T := TX5) (N := 6) hx hb hts m_X6_passenger_5 hown hK hP 1 rfl rfl 1 (by decide) (hts (.fieldLink RX6 38 "SleeperBerths$Train" "roster" "LSleeperBerths$Roster;") m_X6_passenger_6) (fun _ h9 => h9) rfl dX6_passenger_28 ?_
      refine va_get (D := (dC, dI)) (ci := 3) (v := .int v_size) (C := RX3) (T := TX3) (N := 2) hx hb hts m_X6_passenger_7 hown hK hP 4 rfl rfl 1 (by decide) (hts (.fieldLink RX6 210 "SleeperBerths$Roster" "size" "I") m_X6_passenger_8) (fun _ h9 => h9) rfl dX6_passenger_31 ?_
      refine lv_icmp_ge (tgt := 49) hx hb dX6_passenger_34 (by decide) (fun c7 => ?_) (fun c7 => ?_)
      · have h := ipos c7 h
        refine lv_iconst (v := iI (-1)) hx hb dX6_passenger_49 rfl ?_
        obtain rfl := Option.some.inj h
        refine W.widen (k := 1) (n := 6) (Nat.le_of_ble_eq_true rfl) (Nat.le_of_ble_eq_true rfl) ?_
        refine vx_ret ?_
        exact W.iret (v := iI (-1)) hx hb hr (fun t ht hW => ⟨⟨iI (-1), (), rfl, ⟨rfl, rfl⟩, WLD.of ht hP hD⟩, hS.F ht⟩) hS.2.2 dX6_passenger_50
      · have h := ineg c7 h
        refine lv_aload_n hx hb dX6_passenger_37 rfl (lv_at hl 0 rfl) ?_
        refine va_get (D := (dC, dI)) (ci := 6) (v := .ref h_p0_train) (C := RX6) (T := TX6) (N := 3) hx hb hts m_X6_passenger_3 hown hK hP 0 rfl rfl 0 (by decide) (hts (.fieldLink RX6 12 "SleeperBerths" "train" "LSleeperBerths$Train;") m_X6_passenger_4) (fun _ h9 => h9) rfl dX6_passenger_38 ?_
        refine lv_iload_n hx hb dX6_passenger_41 rfl (lv_at hl 1 rfl) ?_
        refine lv_iload_n hx hb dX6_passenger_42 rfl (lv_at hl 2 rfl) ?_
        obtain ⟨r8, e9, h⟩ := bsome h
        have hPc := sb_P [(h_p0_train, .inr (5, [.ref h_p0_train_berths, .ref h_p0_train_roster, .ref h_p0_train_settings, .int v_nextNumber, .int v_bookings, .int v_leftOut])), (h_p0_train_berths, .inr (0, [.ref h_p0_train_berths_holders, .ref h_p0_train_berths_ends])), (h_p0_train_berths_holders, .inl (cyI, 162, .inl v_holders)), (h_p0_train_roster, .inr (3, [.ref h_p0_train_roster_cells, .int v_size])), (h_p0_train_roster_cells, .inl (cyI, 280, .inl v_cells)), (h_p0_train_settings, .inl (cyI, 3, .inl v_settings))] hP [1, 2, 3, 4, 5, 6] rfl
        have hDc := sb_D [(h_p0_train, .inr (5, [.ref h_p0_train_berths, .ref h_p0_train_roster, .ref h_p0_train_settings, .int v_nextNumber, .int v_bookings, .int v_leftOut])), (h_p0_train_berths, .inr (0, [.ref h_p0_train_berths_holders, .ref h_p0_train_berths_ends])), (h_p0_train_berths_holders, .inl (cyI, 162, .inl v_holders)), (h_p0_train_roster, .inr (3, [.ref h_p0_train_roster_cells, .int v_size])), (h_p0_train_roster_cells, .inl (cyI, 280, .inl v_cells)), (h_p0_train_settings, .inl (cyI, 3, .inl v_settings))] hD [1, 2, 3, 4, 5, 6] (by decide) rfl
        have hFc := va_free (wc := [(h_p0_train, .inr (5, [.ref h_p0_train_berths, .ref h_p0_train_roster, .ref h_p0_train_settings, .int v_nextNumber, .int v_bookings, .int v_leftOut])), (h_p0_train_berths, .inr (0, [.ref h_p0_train_berths_holders, .ref h_p0_train_berths_ends])), (h_p0_train_berths_holders, .inl (cyI, 162, .inl v_holders)), (h_p0_train_roster, .inr (3, [.ref h_p0_train_roster_cells, .int v_size])), (h_p0_train_roster_cells, .inl (cyI, 280, .inl v_cells)), (h_p0_train_settings, .inl (cyI, 3, .inl v_settings))]) hD hS hA [1, 2, 3, 4, 5, 6] rfl
        refine va_calli (va_runV (As := [.int a1, .int a2]) (rest := []) ⟨hx, hb, hml, hown, hts⟩ (c_X5_property l dC dI cyI cyJ cyT h_p0_train h_p0_train_berths h_p0_train_roster h_p0_train_settings h_p0_train_berths_holders h_p0_train_berths_ends h_p0_train_roster_cells H.size v_nextNumber v_bookings v_leftOut v_holders v_size v_cells v_settings a1 a2 n r8 e9) (cwV 2 hts gX6_passenger_X5_property rfl rfl rfl (by decide +kernel) ⟨Nat.le_of_ble_eq_true rfl, Nat.le_of_ble_eq_true rfl⟩) ⟨PRE.blind, va_recv hK hPc (ci := 5) (q0 := 0) rfl rfl, PRE.go hK hPc hDc hNW⟩ rfl rfl hl.1 rfl (lv_room (Nat.le_of_ble_eq_true rfl)) dX6_passenger_43 ⟨Nat.zero_le _, Nat.zero_le _⟩) hS (fun q _ h => hFc q h) hFc (fun z10 u t H locs ht hvm hw hB hz1 hk1 hS => ?_)
        subst z10
        obtain ⟨hP, hD⟩ := va_join (wr := [(h_p0, .inr (6, [.ref h_p0_train, .ref h_p0_history, .ref h_p0_text]))]) (w1 := [(h_p0_train, .inr (5, [.ref h_p0_train_berths, .ref h_p0_train_roster, .ref h_p0_train_settings, .int v_nextNumber, .int v_bookings, .int v_leftOut])), (h_p0_train_berths, .inr (0, [.ref h_p0_train_berths_holders, .ref h_p0_train_berths_ends])), (h_p0_train_berths_holders, .inl (cyI, 162, .inl v_holders)), (h_p0_train_roster, .inr (3, [.ref h_p0_train_roster_cells, .int v_size])), (h_p0_train_roster_cells, .inl (cyI, 280, .inl v_cells)), (h_p0_train_settings, .inl (cyI, 3, .inl v_settings))]) hP hD [1, 2, 3, 4, 5, 6] [0] rfl rfl (by decide) (by decide) hk1 hFc (WLD.P hB ht) hB.2
        have hP : va_P (dC, dI) vwCl [(h_p0, .inr (6, [.ref h_p0_train, .ref h_p0_history, .ref h_p0_text])), (h_p0_train, .inr (5, [.ref h_p0_train_berths, .ref h_p0_train_roster, .ref h_p0_train_settings, .int v_nextNumber, .int v_bookings, .int v_leftOut])), (h_p0_train_berths, .inr (0, [.ref h_p0_train_berths_holders, .ref h_p0_train_berths_ends])), (h_p0_train_berths_holders, .inl (cyI, 162, .inl v_holders)), (h_p0_train_roster, .inr (3, [.ref h_p0_train_roster_cells, .int v_size])), (h_p0_train_roster_cells, .inl (cyI, 280, .inl v_cells)), (h_p0_train_settings, .inl (cyI, 3, .inl v_settings))] H := hP
        have hD : va_D A [(h_p0, .inr (6, [.ref h_p0_train, .ref h_p0_history, .ref h_p0_text])), (h_p0_train, .inr (5, [.ref h_p0_train_berths, .ref h_p0_train_roster, .ref h_p0_train_settings, .int v_nextNumber, .int v_bookings, .int v_leftOut])), (h_p0_train_berths, .inr (0, [.ref h_p0_train_berths_holders, .ref h_p0_train_berths_ends])), (h_p0_train_berths_holders, .inl (cyI, 162, .inl v_holders)), (h_p0_train_roster, .inr (3, [.ref h_p0_train_roster_cells, .int v_size])), (h_p0_train_roster_cells, .inl (cyI, 280, .inl v_cells)), (h_p0_train_settings, .inl (cyI, 3, .inl v_settings))] := hD
        refine lv_goto (tgt := 50) hx hb dX6_passenger_46 (by decide) ?_
        obtain rfl := Option.some.inj h
        refine W.widen (k := 1) (n := 6) (Nat.le_of_ble_eq_true rfl) (Nat.le_of_ble_eq_true rfl) ?_
        refine vx_ret ?_
        exact W.iret (v := r8) hx hb hr (fun t ht hW => ⟨⟨r8, (), rfl, ⟨rfl, rfl⟩, WLD.of ht hP hD⟩, hS.F ht⟩) hS.2.2 dX6_passenger_50
    · have h := ipos c6 h
      obtain rfl := Option.some.inj h
      obtain ⟨sa11, hstr⟩ := hXR.2.2 13 rfl
      exact vx_throwS (names := ["java/lang/RuntimeException", "java/lang/Exception"]) (sa := sa11) hx hb hl0 hown (by decide +kernel) (by decide +kernel) (hts (.classLink RX6 116 "java/lang/IllegalArgumentException") m_X6_passenger_1) (hts (.initialized "java/lang/IllegalArgumentException") m_X6_passenger_2) hstr (xhat hts m_X6_passenger_0 hXR (by decide +kernel)) (by decide +kernel) hXS.1 hXS.2 hS (hl.1.trans hml.symm) dX6_passenger_13 dX6_passenger_16 dX6_passenger_17 dX6_passenger_19 dX6_passenger_22 (fun x hx9 => (hno x hx9).elim) (Nat.le_of_ble_eq_true rfl) (Nat.le_of_ble_eq_true rfl) (Nat.le_of_ble_eq_true rfl) (Nat.le_of_ble_eq_true rfl) hlocks (fun t _ h1 h2 => XWL.of (by decide) rfl hP hD hS h1 h2) hS.2.2 (Nat.le_of_ble_eq_true rfl) (Nat.le_of_ble_eq_true rfl)
def s_X5_sumOf_L4 (n : Nat) (v_holders : Nat → Int32) (v_size : Int32) (v_cells : Nat → Int32) (v_settings : Nat → Int32) (a1 : Int32) : Nat → Int32 → Int32 → Option (Int32)
  | 0, _, _ => none
  | k + 1, x2, x3 => (if v_size ≤ x3 then (some (x2)) else ((s_X5_property n v_holders v_cells v_settings x3 a1).bind fun r2 => (s_X5_sumOf_L4 n v_holders v_size v_cells v_settings a1 k (x2 + r2) (x3 + iI 1))))
def s_X5_sumOf (n : Nat) (v_holders : Nat → Int32) (v_size : Int32) (v_cells : Nat → Int32) (v_settings : Nat → Int32) (a1 : Int32) : Option (Int32) := (s_X5_sumOf_L4 n v_holders v_size v_cells v_settings a1 n (iI 0) (iI 0))
set_option maxRecDepth 20000 in
theorem m_X5_sumOf_0 : ∀ w ∈ u_ws RX5 TX5 6, w ∈ wsX5_sumOf := by decide +kernel
set_option maxRecDepth 20000 in
theorem m_X5_sumOf_1 : (.fieldLink RX5 21 "SleeperBerths$Train" "roster" "LSleeperBerths$Roster;" : Cond) ∈ wsX5_sumOf := by decide +kernel
set_option maxRecDepth 20000 in
theorem m_X5_sumOf_2 : ∀ w ∈ u_ws RX3 TX3 2, w ∈ wsX5_sumOf := by decide +kernel
set_option maxRecDepth 20000 in
theorem m_X5_sumOf_3 : (.fieldLink RX5 133 "SleeperBerths$Roster" "size" "I" : Cond) ∈ wsX5_sumOf := by decide +kernel
set_option maxHeartbeats 4000000 in
set_option maxRecDepth 100000 in
theorem c_X5_sumOf (l : Launch) (dC : Nat → ClassId) (dI : Nat → Nat → Nat) (cyI cyJ cyT : ClassId) (h_p0 : Nat) (h_p0_berths : Nat) (h_p0_roster : Nat) (h_p0_settings : Nat) (h_p0_berths_holders : Nat) (h_p0_berths_ends : Nat) (h_p0_roster_cells : Nat) (sz : Nat) (v_nextNumber : Int32) (v_bookings : Int32) (v_leftOut : Int32) (v_holders : Nat → Int32) (v_size : Int32) (v_cells : Nat → Int32) (v_settings : Nat → Int32) (a1 : Int32) (n : Nat) (o : Int32) (h : s_X5_sumOf n v_holders v_size v_cells v_settings a1 = some o) : Met l yX5_sumOf wsX5_sumOf ({ frames := 4, cells := 0, slots := 0, locals := 89 }) (va_Pc [.ref h_p0, .int a1] (PRE (dC, dI) (TYS cyI cyJ cyT) sz [(h_p0, .inr (5, [.ref h_p0_berths, .ref h_p0_roster, .ref h_p0_settings, .int v_nextNumber, .int v_bookings, .int v_leftOut])), (h_p0_berths, .inr (0, [.ref h_p0_berths_holders, .ref h_p0_berths_ends])), (h_p0_berths_holders, .inl (cyI, 162, .inl v_holders)), (h_p0_roster, .inr (3, [.ref h_p0_roster_cells, .int v_size])), (h_p0_roster_cells, .inl (cyI, 280, .inl v_cells)), (h_p0_settings, .inl (cyI, 3, .inl v_settings))])) (va_Qi (S := Unit) (fun r _ => r = o) (fun _ t => WLD (dC, dI) (va_A [(h_p0, .inr (5, [.ref h_p0_berths, .ref h_p0_roster, .ref h_p0_settings, .int v_nextNumber, .int v_bookings, .int v_leftOut])), (h_p0_berths, .inr (0, [.ref h_p0_berths_holders, .ref h_p0_berths_ends])), (h_p0_berths_holders, .inl (cyI, 162, .inl v_holders)), (h_p0_roster, .inr (3, [.ref h_p0_roster_cells, .int v_size])), (h_p0_roster_cells, .inl (cyI, 280, .inl v_cells)), (h_p0_settings, .inl (cyI, 3, .inl v_settings))] sz) [(h_p0, .inr (5, [.ref h_p0_berths, .ref h_p0_roster, .ref h_p0_settings, .int v_nextNumber, .int v_bookings, .int v_leftOut])), (h_p0_berths, .inr (0, [.ref h_p0_berths_holders, .ref h_p0_berths_ends])), (h_p0_berths_holders, .inl (cyI, 162, .inl v_holders)), (h_p0_roster, .inr (3, [.ref h_p0_roster_cells, .int v_size])), (h_p0_roster_cells, .inl (cyI, 280, .inl v_cells)), (h_p0_settings, .inl (cyI, 3, .inl v_settings))] t) (va_A [(h_p0, .inr (5, [.ref h_p0_berths, .ref h_p0_roster, .ref h_p0_settings, .int v_nextNumber, .int v_bookings, .int v_leftOut])), (h_p0_berths, .inr (0, [.ref h_p0_berths_holders, .ref h_p0_berths_ends])), (h_p0_berths_holders, .inl (cyI, 162, .inl v_holders)), (h_p0_roster, .inr (3, [.ref h_p0_roster_cells, .int v_size])), (h_p0_roster_cells, .inl (cyI, 280, .inl v_cells)), (h_p0_settings, .inl (cyI, 3, .inl v_settings))] sz)) 0 0 (va_A [(h_p0, .inr (5, [.ref h_p0_berths, .ref h_p0_roster, .ref h_p0_settings, .int v_nextNumber, .int v_bookings, .int v_leftOut])), (h_p0_berths, .inr (0, [.ref h_p0_berths_holders, .ref h_p0_berths_ends])), (h_p0_berths_holders, .inl (cyI, 162, .inl v_holders)), (h_p0_roster, .inr (3, [.ref h_p0_roster_cells, .int v_size])), (h_p0_roster_cells, .inl (cyI, 280, .inl v_cells)), (h_p0_settings, .inl (cyI, 3, .inl v_settings))] sz) := by
  refine Met.ofW (cc := cX5_sumOf) (maxL := 4) (ret := (some .int)) (by decide) rfl ?_
  intro p e s m args below meth c s₁ B hml hv
  obtain ⟨rfl, hsz, hP, hK, hD0, hNW⟩ := hv
  have hx := B.exec
  have hb := B.bytes
  have hr := B.returns
  have hts := atoms_spec (ws := wsX5_sumOf) B.pre
  have hown : s.vm.findClass RX5 = some m.cls := findClass_of_methodNamed B.named
  have hlocks := B.notSynchronized
  subst hsz
  have hD := hD0.self (sz := s.heap.size)
  generalize hAe : va_A [(h_p0, .inr (5, [.ref h_p0_berths, .ref h_p0_roster, .ref h_p0_settings, .int v_nextNumber, .int v_bookings, .int v_leftOut])), (h_p0_berths, .inr (0, [.ref h_p0_berths_holders, .ref h_p0_berths_ends])), (h_p0_berths_holders, .inl (cyI, 162, .inl v_holders)), (h_p0_roster, .inr (3, [.ref h_p0_roster_cells, .int v_size])), (h_p0_roster_cells, .inl (cyI, 280, .inl v_cells)), (h_p0_settings, .inl (cyI, 3, .inl v_settings))] s.heap.size = A at hD ⊢
  have hA : ∀ q : Nat, s.heap.size ≤ q → A q := fun q h => by rw [← hAe]; exact Or.inr h
  have hS : va_S A s.heap s.heap [] := va_S.rf
  have hP : va_P (dC, dI) vwCl [(h_p0, .inr (5, [.ref h_p0_berths, .ref h_p0_roster, .ref h_p0_settings, .int v_nextNumber, .int v_bookings, .int v_leftOut])), (h_p0_berths, .inr (0, [.ref h_p0_berths_holders, .ref h_p0_berths_ends])), (h_p0_berths_holders, .inl (cyI, 162, .inl v_holders)), (h_p0_roster, .inr (3, [.ref h_p0_roster_cells, .int v_size])), (h_p0_roster_cells, .inl (cyI, 280, .inl v_cells)), (h_p0_settings, .inl (cyI, 3, .inl v_settings))] s.heap := hP
  have L4 : ∀ (k : Nat), (∀ (x2 : Int32) (x3 : Int32) (H : Heap) (locs : List Loc), va_P (dC, dI) vwCl [(h_p0, .inr (5, [.ref h_p0_berths, .ref h_p0_roster, .ref h_p0_settings, .int v_nextNumber, .int v_bookings, .int v_leftOut])), (h_p0_berths, .inr (0, [.ref h_p0_berths_holders, .ref h_p0_berths_ends])), (h_p0_berths_holders, .inl (cyI, 162, .inl v_holders)), (h_p0_roster, .inr (3, [.ref h_p0_roster_cells, .int v_size])), (h_p0_roster_cells, .inl (cyI, 280, .inl v_cells)), (h_p0_settings, .inl (cyI, 3, .inl v_settings))] H → va_D A [(h_p0, .inr (5, [.ref h_p0_berths, .ref h_p0_roster, .ref h_p0_settings, .int v_nextNumber, .int v_bookings, .int v_leftOut])), (h_p0_berths, .inr (0, [.ref h_p0_berths_holders, .ref h_p0_berths_ends])), (h_p0_berths_holders, .inl (cyI, 162, .inl v_holders)), (h_p0_roster, .inr (3, [.ref h_p0_roster_cells, .int v_size])), (h_p0_roster_cells, .inl (cyI, 280, .inl v_cells)), (h_p0_settings, .inl (cyI, 3, .inl v_settings))] → va_S A s.heap H locs → ∀ (ls : Array Slot), lv_has ls 4 [(0, .ref h_p0), (1, .int a1), (2, .int x2), (3, .int x3)] →  s_X5_sumOf_L4 n v_holders v_size v_cells v_settings a1 k x2 x3 = some o → W p l e (headSpec wsX5_sumOf ({ frames := 4, cells := 0, slots := 0, locals := 89 })).room s m (([.ref h_p0, .int a1] : List Value).toArray) below meth c H locs 0 0 (MQ below (va_Qi (S := Unit) (fun r _ => r = o) (fun _ t => WLD (dC, dI) A [(h_p0, .inr (5, [.ref h_p0_berths, .ref h_p0_roster, .ref h_p0_settings, .int v_nextNumber, .int v_bookings, .int v_leftOut])), (h_p0_berths, .inr (0, [.ref h_p0_berths_holders, .ref h_p0_berths_ends])), (h_p0_berths_holders, .inl (cyI, 162, .inl v_holders)), (h_p0_roster, .inr (3, [.ref h_p0_roster_cells, .int v_size])), (h_p0_roster_cells, .inl (cyI, 280, .inl v_cells)), (h_p0_settings, .inl (cyI, 3, .inl v_settings))] t) A) (([.ref h_p0, .int a1] : List Value).toArray) s 0 0 A) (F0 m 4 ls [])) := by
    intro k
    induction k with
    | zero =>
      intro  x2 x3 H locs hP hD hS ls hl h
      rw [s_X5_sumOf_L4] at h
      cases h
    | succ k ih =>
      intro  x2 x3 H locs hP hD hS ls hl h
      rw [s_X5_sumOf_L4] at h
      refine lv_iload_n hx hb dX5_sumOf_4 rfl (lv_at hl 3 rfl) ?_
      refine lv_aload_n hx hb dX5_sumOf_5 rfl (lv_at hl 0 rfl) ?_
      refine va_get (D := (dC, dI)) (ci := 5) (v := .ref h_p0_roster) (C := RX5) (T := TX5) (N := 6) hx hb hts m_X5_sumOf_0 hown hK hP 0 rfl rfl 1 (by decide) (hts (.fieldLink RX5 21 "SleeperBerths$Train" "roster" "LSleeperBerths$Roster;") m_X5_sumOf_1) (fun _ h9 => h9) rfl dX5_sumOf_6 ?_
      refine va_get (D := (dC, dI)) (ci := 3) (v := .int v_size) (C := RX3) (T := TX3) (N := 2) hx hb hts m_X5_sumOf_2 hown hK hP 3 rfl rfl 1 (by decide) (hts (.fieldLink RX5 133 "SleeperBerths$Roster" "size" "I") m_X5_sumOf_3) (fun _ h9 => h9) rfl dX5_sumOf_9 ?_
      refine lv_icmp_ge (tgt := 30) hx hb dX5_sumOf_12 (by decide) (fun c1 => ?_) (fun c1 => ?_)
      · have h := ipos c1 h
        refine lv_iload_n hx hb dX5_sumOf_30 rfl (lv_at hl 2 rfl) ?_
        obtain rfl := Option.some.inj h
        exact W.iret (v := x2) hx hb hr (fun t ht hW => ⟨⟨x2, (), rfl, rfl, WLD.of ht hP hD⟩, hS.F ht⟩) hS.2.2 dX5_sumOf_31
      · have h := ineg c1 h
        refine lv_iload_n hx hb dX5_sumOf_15 rfl (lv_at hl 2 rfl) ?_
        refine lv_aload_n hx hb dX5_sumOf_16 rfl (lv_at hl 0 rfl) ?_
        refine lv_iload_n hx hb dX5_sumOf_17 rfl (lv_at hl 3 rfl) ?_
        refine lv_iload_n hx hb dX5_sumOf_18 rfl (lv_at hl 1 rfl) ?_
        obtain ⟨r2, e3, h⟩ := bsome h
        have hPc := sb_P [(h_p0, .inr (5, [.ref h_p0_berths, .ref h_p0_roster, .ref h_p0_settings, .int v_nextNumber, .int v_bookings, .int v_leftOut])), (h_p0_berths, .inr (0, [.ref h_p0_berths_holders, .ref h_p0_berths_ends])), (h_p0_berths_holders, .inl (cyI, 162, .inl v_holders)), (h_p0_roster, .inr (3, [.ref h_p0_roster_cells, .int v_size])), (h_p0_roster_cells, .inl (cyI, 280, .inl v_cells)), (h_p0_settings, .inl (cyI, 3, .inl v_settings))] hP [0, 1, 2, 3, 4, 5] rfl
        have hDc := sb_D [(h_p0, .inr (5, [.ref h_p0_berths, .ref h_p0_roster, .ref h_p0_settings, .int v_nextNumber, .int v_bookings, .int v_leftOut])), (h_p0_berths, .inr (0, [.ref h_p0_berths_holders, .ref h_p0_berths_ends])), (h_p0_berths_holders, .inl (cyI, 162, .inl v_holders)), (h_p0_roster, .inr (3, [.ref h_p0_roster_cells, .int v_size])), (h_p0_roster_cells, .inl (cyI, 280, .inl v_cells)), (h_p0_settings, .inl (cyI, 3, .inl v_settings))] hD [0, 1, 2, 3, 4, 5] (by decide) rfl
        have hFc := va_free (wc := [(h_p0, .inr (5, [.ref h_p0_berths, .ref h_p0_roster, .ref h_p0_settings, .int v_nextNumber, .int v_bookings, .int v_leftOut])), (h_p0_berths, .inr (0, [.ref h_p0_berths_holders, .ref h_p0_berths_ends])), (h_p0_berths_holders, .inl (cyI, 162, .inl v_holders)), (h_p0_roster, .inr (3, [.ref h_p0_roster_cells, .int v_size])), (h_p0_roster_cells, .inl (cyI, 280, .inl v_cells)), (h_p0_settings, .inl (cyI, 3, .inl v_settings))]) hD hS hA [0, 1, 2, 3, 4, 5] rfl
        refine va_calli (va_runV (As := [.int x3, .int a1]) (rest := [.int x2]) ⟨hx, hb, hml, hown, hts⟩ (c_X5_property l dC dI cyI cyJ cyT h_p0 h_p0_berths h_p0_roster h_p0_settings h_p0_berths_holders h_p0_berths_ends h_p0_roster_cells H.size v_nextNumber v_bookings v_leftOut v_holders v_size v_cells v_settings x3 a1 n r2 e3) (cwV 2 hts gX5_sumOf_X5_property rfl rfl rfl (by decide +kernel) ⟨Nat.le_of_ble_eq_true rfl, Nat.le_of_ble_eq_true rfl⟩) ⟨PRE.blind, va_recv hK hPc (ci := 5) (q0 := 0) rfl rfl, PRE.go hK hPc hDc hNW⟩ rfl rfl hl.1 rfl (lv_room (Nat.le_of_ble_eq_true rfl)) dX5_sumOf_19 ⟨Nat.zero_le _, Nat.zero_le _⟩) hS (fun q _ h => hFc q h) hFc (fun z4 u t H locs ht hvm hw hB hz1 hk1 hS => ?_)
        subst z4
        obtain ⟨hP, hD⟩ := va_join (wr := []) (w1 := [(h_p0, .inr (5, [.ref h_p0_berths, .ref h_p0_roster, .ref h_p0_settings, .int v_nextNumber, .int v_bookings, .int v_leftOut])), (h_p0_berths, .inr (0, [.ref h_p0_berths_holders, .ref h_p0_berths_ends])), (h_p0_berths_holders, .inl (cyI, 162, .inl v_holders)), (h_p0_roster, .inr (3, [.ref h_p0_roster_cells, .int v_size])), (h_p0_roster_cells, .inl (cyI, 280, .inl v_cells)), (h_p0_settings, .inl (cyI, 3, .inl v_settings))]) hP hD [0, 1, 2, 3, 4, 5] [] rfl rfl (by decide) (by decide) hk1 hFc (WLD.P hB ht) hB.2
        have hP : va_P (dC, dI) vwCl [(h_p0, .inr (5, [.ref h_p0_berths, .ref h_p0_roster, .ref h_p0_settings, .int v_nextNumber, .int v_bookings, .int v_leftOut])), (h_p0_berths, .inr (0, [.ref h_p0_berths_holders, .ref h_p0_berths_ends])), (h_p0_berths_holders, .inl (cyI, 162, .inl v_holders)), (h_p0_roster, .inr (3, [.ref h_p0_roster_cells, .int v_size])), (h_p0_roster_cells, .inl (cyI, 280, .inl v_cells)), (h_p0_settings, .inl (cyI, 3, .inl v_settings))] H := hP
        have hD : va_D A [(h_p0, .inr (5, [.ref h_p0_berths, .ref h_p0_roster, .ref h_p0_settings, .int v_nextNumber, .int v_bookings, .int v_leftOut])), (h_p0_berths, .inr (0, [.ref h_p0_berths_holders, .ref h_p0_berths_ends])), (h_p0_berths_holders, .inl (cyI, 162, .inl v_holders)), (h_p0_roster, .inr (3, [.ref h_p0_roster_cells, .int v_size])), (h_p0_roster_cells, .inl (cyI, 280, .inl v_cells)), (h_p0_settings, .inl (cyI, 3, .inl v_settings))] := hD
        refine lv_iadd hx hb dX5_sumOf_22 ?_
        refine lv_istore_n hx hb dX5_sumOf_23 rfl hl (by decide) (rfl : _ = ([(2, .int (x2 + r2)), (0, .ref h_p0), (1, .int a1), (3, .int x3)] : List (Nat × Value))) (fun ls hl => ?_)
        refine lv_iinc (v := (x3 + iI 1)) hx hb dX5_sumOf_24 hl (k := 3) rfl rfl (by decide) (rfl : _ = ([(3, .int (x3 + iI 1)), (2, .int (x2 + r2)), (0, .ref h_p0), (1, .int a1)] : List (Nat × Value))) (fun ls hl => ?_)
        refine lv_goto (tgt := 4) hx hb dX5_sumOf_27 (by decide) ?_
        exact ih (x2 + r2) (x3 + iI 1) _ _ hP hD hS ls (lv_sub hl [2, 3, 1, 0] rfl) h
  have hl := lv_entry ([.ref h_p0, .int a1]) (n := 4) (Nat.le_of_ble_eq_true rfl)
  rw [lg_entry_eq]
  generalize (lg_sl ([.ref h_p0, .int a1]) ++ List.replicate (4 - (lg_sl ([.ref h_p0, .int a1])).length) Slot.unset).toArray = ls at hl ⊢
  have hl : lv_has ls 4 [(0, .ref h_p0), (1, .int a1)] := hl
  unfold s_X5_sumOf at h
  refine lv_iconst (v := iI 0) hx hb dX5_sumOf_0 rfl ?_
  refine lv_istore_n hx hb dX5_sumOf_1 rfl hl (by decide) (rfl : _ = ([(2, .int (iI 0)), (0, .ref h_p0), (1, .int a1)] : List (Nat × Value))) (fun ls hl => ?_)
  refine lv_iconst (v := iI 0) hx hb dX5_sumOf_2 rfl ?_
  refine lv_istore_n hx hb dX5_sumOf_3 rfl hl (by decide) (rfl : _ = ([(3, .int (iI 0)), (2, .int (iI 0)), (0, .ref h_p0), (1, .int a1)] : List (Nat × Value))) (fun ls hl => ?_)
  exact L4 n (iI 0) (iI 0) _ _ hP hD hS ls (lv_sub hl [2, 3, 1, 0] rfl) h
