def s_X7_firstError (n : Nat) (v_typed : Int32) (v_thrown : Int32) (v_at : Int32) (v_isFault : Int32) (v_tolds : Int32) (v_text : Nat → Int32) (v_told : Nat → Int32) : Option (Int32 × Int32 × Int32 × Int32 × Int32 × (Nat → Int32)) := ((s_X7_isText n v_typed v_at v_isFault v_tolds v_text v_told).bind fun r1 => (if r1.1 = 0 then (if r1.2.2.1 = 0 then (some (v_typed, iI 0, r1.2.1, r1.2.2.1, r1.2.2.2.1, r1.2.2.2.2)) else (some (r1.2.1, iI 0, r1.2.1, r1.2.2.1, r1.2.2.2.1, r1.2.2.2.2))) else (some (v_typed, iI 0, r1.2.1, r1.2.2.1, r1.2.2.2.1, r1.2.2.2.2))))
set_option maxRecDepth 20000 in
theorem m_X7_firstError_0 : ∀ w ∈ u_ws RX7 TX7 15, w ∈ wsX7_firstError := by decide +kernel
set_option maxRecDepth 20000 in
theorem m_X7_firstError_1 : (.fieldLink RX7 25 "SleeperBerthsModel" "thrown" "I" : Cond) ∈ wsX7_firstError := by decide +kernel
set_option maxRecDepth 20000 in
theorem m_X7_firstError_2 : (.fieldLink RX7 139 "SleeperBerthsModel" "typed" "I" : Cond) ∈ wsX7_firstError := by decide +kernel
set_option maxRecDepth 20000 in
theorem m_X7_firstError_3 : (.fieldLink RX7 145 "SleeperBerthsModel" "isFault" "Z" : Cond) ∈ wsX7_firstError := by decide +kernel
set_option maxRecDepth 20000 in
theorem m_X7_firstError_4 : (.fieldLink RX7 142 "SleeperBerthsModel" "at" "I" : Cond) ∈ wsX7_firstError := by decide +kernel
set_option maxHeartbeats 4000000 in
set_option maxRecDepth 100000 in
theorem c_X7_firstError (l : Launch) (dC : Nat → ClassId) (dI : Nat → Nat → Nat) (cyI cyJ cyT : ClassId) (h_p0 : Nat) (h_p0_now : Nat) (h_p0_then : Nat) (h_p0_past : Nat) (h_p0_text : Nat) (h_p0_told : Nat) (sz : Nat) (v_kept : Int32) (v_typed : Int32) (v_thrown : Int32) (v_at : Int32) (v_isFault : Int32) (v_tolds : Int32) (v_one : Int32) (v_other : Int32) (v_change : Int32) (v_woken : Int32) (v_text : Nat → Int32) (v_told : Nat → Int32) (n : Nat) (o : Int32 × Int32 × Int32 × Int32 × Int32 × (Nat → Int32)) (h : s_X7_firstError n v_typed v_thrown v_at v_isFault v_tolds v_text v_told = some o) : Met l yX7_firstError wsX7_firstError ({ frames := 4, cells := 0, slots := 0, locals := 86 }) (va_Pc [.ref h_p0] (PRE (dC, dI) (TYS cyI cyJ cyT) sz [(h_p0, .inr (7, [.ref h_p0_now, .ref h_p0_then, .ref h_p0_past, .int v_kept, .ref h_p0_text, .int v_typed, .int v_thrown, .int v_at, .int v_isFault, .ref h_p0_told, .int v_tolds, .int v_one, .int v_other, .int v_change, .int v_woken])), (h_p0_text, .inl (cyI, 60, .inl v_text)), (h_p0_told, .inl (cyI, 48, .inl v_told))])) (va_Qi (S := Unit) (fun r _ => r = o.1) (fun _ t => WLD (dC, dI) (va_A [(h_p0, .inr (7, [.ref h_p0_now, .ref h_p0_then, .ref h_p0_past, .int v_kept, .ref h_p0_text, .int v_typed, .int v_thrown, .int v_at, .int v_isFault, .ref h_p0_told, .int v_tolds, .int v_one, .int v_other, .int v_change, .int v_woken])), (h_p0_text, .inl (cyI, 60, .inl v_text)), (h_p0_told, .inl (cyI, 48, .inl v_told))] sz) [(h_p0, .inr (7, [.ref h_p0_now, .ref h_p0_then, .ref h_p0_past, .int v_kept, .ref h_p0_text, .int v_typed, .int o.2.1, .int o.2.2.1, .int o.2.2.2.1, .ref h_p0_told, .int o.2.2.2.2.1, .int v_one, .int v_other, .int v_change, .int v_woken])), (h_p0_text, .inl (cyI, 60, .inl v_text)), (h_p0_told, .inl (cyI, 48, .inl o.2.2.2.2.2))] t) (va_A [(h_p0, .inr (7, [.ref h_p0_now, .ref h_p0_then, .ref h_p0_past, .int v_kept, .ref h_p0_text, .int v_typed, .int v_thrown, .int v_at, .int v_isFault, .ref h_p0_told, .int v_tolds, .int v_one, .int v_other, .int v_change, .int v_woken])), (h_p0_text, .inl (cyI, 60, .inl v_text)), (h_p0_told, .inl (cyI, 48, .inl v_told))] sz)) 0 0 (va_A [(h_p0, .inr (7, [.ref h_p0_now, .ref h_p0_then, .ref h_p0_past, .int v_kept, .ref h_p0_text, .int v_typed, .int v_thrown, .int v_at, .int v_isFault, .ref h_p0_told, .int v_tolds, .int v_one, .int v_other, .int v_change, .int v_woken])), (h_p0_text, .inl (cyI, 60, .inl v_text)), (h_p0_told, .inl (cyI, 48, .inl v_told))] sz) := by
  refine Met.ofW (cc := cX7_firstError) (maxL := 2) (ret := (some .int)) (by decide) rfl ?_
  intro p e s m args below meth c s₁ B hml hv
  obtain ⟨rfl, hsz, hP, hK, hD0, hNW⟩ := hv
  have hx := B.exec
  have hb := B.bytes
  have hr := B.returns
  have hts := atoms_spec (ws := wsX7_firstError) B.pre
  have hown : s.vm.findClass RX7 = some m.cls := findClass_of_methodNamed B.named
  have hlocks := B.notSynchronized
  subst hsz
  have hD := hD0.self (sz := s.heap.size)
  generalize hAe : va_A [(h_p0, .inr (7, [.ref h_p0_now, .ref h_p0_then, .ref h_p0_past, .int v_kept, .ref h_p0_text, .int v_typed, .int v_thrown, .int v_at, .int v_isFault, .ref h_p0_told, .int v_tolds, .int v_one, .int v_other, .int v_change, .int v_woken])), (h_p0_text, .inl (cyI, 60, .inl v_text)), (h_p0_told, .inl (cyI, 48, .inl v_told))] s.heap.size = A at hD ⊢
  have hA : ∀ q : Nat, s.heap.size ≤ q → A q := fun q h => by rw [← hAe]; exact Or.inr h
  have hS : va_S A s.heap s.heap [] := va_S.rf
  have hP : va_P (dC, dI) vwCl [(h_p0, .inr (7, [.ref h_p0_now, .ref h_p0_then, .ref h_p0_past, .int v_kept, .ref h_p0_text, .int v_typed, .int v_thrown, .int v_at, .int v_isFault, .ref h_p0_told, .int v_tolds, .int v_one, .int v_other, .int v_change, .int v_woken])), (h_p0_text, .inl (cyI, 60, .inl v_text)), (h_p0_told, .inl (cyI, 48, .inl v_told))] s.heap := hP
  have hl := lv_entry ([.ref h_p0]) (n := 2) (Nat.le_of_ble_eq_true rfl)
  rw [lg_entry_eq]
  generalize (lg_sl ([.ref h_p0]) ++ List.replicate (2 - (lg_sl ([.ref h_p0])).length) Slot.unset).toArray = ls at hl ⊢
  have hl : lv_has ls 2 [(0, .ref h_p0)] := hl
  unfold s_X7_firstError at h
  refine lv_aload_n hx hb dX7_firstError_0 rfl (lv_at hl 0 rfl) ?_
  refine lv_iconst (v := iI 0) hx hb dX7_firstError_1 rfl ?_
  refine va_put (D := (dC, dI)) (ci := 7) (v := .int (iI 0)) (ty := .int) (C := RX7) (T := TX7) (N := 15) hx hb hts m_X7_firstError_0 tyX7 tyX7_ok nmX7 hown hK hP hD hS 0 rfl rfl 6 (by decide) (hts (.fieldLink RX7 25 "SleeperBerthsModel" "thrown" "I") m_X7_firstError_1) (fun _ h9 => h9) rfl (by decide +kernel) rfl rfl (Nat.le_of_ble_eq_true rfl) dX7_firstError_2 (fun H locs hP hD hS => ?_)
  have hP : va_P (dC, dI) vwCl [(h_p0, .inr (7, [.ref h_p0_now, .ref h_p0_then, .ref h_p0_past, .int v_kept, .ref h_p0_text, .int v_typed, .int (iI 0), .int v_at, .int v_isFault, .ref h_p0_told, .int v_tolds, .int v_one, .int v_other, .int v_change, .int v_woken])), (h_p0_text, .inl (cyI, 60, .inl v_text)), (h_p0_told, .inl (cyI, 48, .inl v_told))] H := hP
  have hD : va_D A [(h_p0, .inr (7, [.ref h_p0_now, .ref h_p0_then, .ref h_p0_past, .int v_kept, .ref h_p0_text, .int v_typed, .int (iI 0), .int v_at, .int v_isFault, .ref h_p0_told, .int v_tolds, .int v_one, .int v_other, .int v_change, .int v_woken])), (h_p0_text, .inl (cyI, 60, .inl v_text)), (h_p0_told, .inl (cyI, 48, .inl v_told))] := hD
  refine lv_aload_n hx hb dX7_firstError_5 rfl (lv_at hl 0 rfl) ?_
  obtain ⟨r1, e2, h⟩ := bsome h
  have hPc := sb_P [(h_p0, .inr (7, [.ref h_p0_now, .ref h_p0_then, .ref h_p0_past, .int v_kept, .ref h_p0_text, .int v_typed, .int (iI 0), .int v_at, .int v_isFault, .ref h_p0_told, .int v_tolds, .int v_one, .int v_other, .int v_change, .int v_woken])), (h_p0_text, .inl (cyI, 60, .inl v_text)), (h_p0_told, .inl (cyI, 48, .inl v_told))] hP [0, 1, 2] rfl
  have hDc := sb_D [(h_p0, .inr (7, [.ref h_p0_now, .ref h_p0_then, .ref h_p0_past, .int v_kept, .ref h_p0_text, .int v_typed, .int (iI 0), .int v_at, .int v_isFault, .ref h_p0_told, .int v_tolds, .int v_one, .int v_other, .int v_change, .int v_woken])), (h_p0_text, .inl (cyI, 60, .inl v_text)), (h_p0_told, .inl (cyI, 48, .inl v_told))] hD [0, 1, 2] (by decide) rfl
  have hFc := va_free (wc := [(h_p0, .inr (7, [.ref h_p0_now, .ref h_p0_then, .ref h_p0_past, .int v_kept, .ref h_p0_text, .int v_typed, .int (iI 0), .int v_at, .int v_isFault, .ref h_p0_told, .int v_tolds, .int v_one, .int v_other, .int v_change, .int v_woken])), (h_p0_text, .inl (cyI, 60, .inl v_text)), (h_p0_told, .inl (cyI, 48, .inl v_told))]) hD hS hA [0, 1, 2] rfl
  refine va_calli (va_runV (As := []) (rest := []) ⟨hx, hb, hml, hown, hts⟩ (c_X7_isText l dC dI cyI cyJ cyT h_p0 h_p0_now h_p0_then h_p0_past h_p0_text h_p0_told H.size v_kept v_typed (iI 0) v_at v_isFault v_tolds v_one v_other v_change v_woken v_text v_told n r1 e2) (cwV 0 hts gX7_firstError_X7_isText rfl rfl rfl (by decide +kernel) ⟨Nat.le_of_ble_eq_true rfl, Nat.le_of_ble_eq_true rfl⟩) ⟨PRE.blind, va_recv hK hPc (ci := 7) (q0 := 0) rfl rfl, PRE.go hK hPc hDc hNW⟩ rfl rfl hl.1 rfl (lv_room (Nat.le_of_ble_eq_true rfl)) dX7_firstError_6 ⟨Nat.zero_le _, Nat.zero_le _⟩) hS (fun q _ h => hFc q h) hFc (fun z3 u t H locs ht hvm hw hB hz1 hk1 hS => ?_)
  subst z3
  obtain ⟨hP, hD⟩ := va_join (wr := []) (w1 := [(h_p0, .inr (7, [.ref h_p0_now, .ref h_p0_then, .ref h_p0_past, .int v_kept, .ref h_p0_text, .int v_typed, .int (iI 0), .int r1.2.1, .int r1.2.2.1, .ref h_p0_told, .int r1.2.2.2.1, .int v_one, .int v_other, .int v_change, .int v_woken])), (h_p0_text, .inl (cyI, 60, .inl v_text)), (h_p0_told, .inl (cyI, 48, .inl r1.2.2.2.2))]) hP hD [0, 1, 2] [] rfl rfl (by decide) (by decide) hk1 hFc (WLD.P hB ht) hB.2
  have hP : va_P (dC, dI) vwCl [(h_p0, .inr (7, [.ref h_p0_now, .ref h_p0_then, .ref h_p0_past, .int v_kept, .ref h_p0_text, .int v_typed, .int (iI 0), .int r1.2.1, .int r1.2.2.1, .ref h_p0_told, .int r1.2.2.2.1, .int v_one, .int v_other, .int v_change, .int v_woken])), (h_p0_text, .inl (cyI, 60, .inl v_text)), (h_p0_told, .inl (cyI, 48, .inl r1.2.2.2.2))] H := hP
  have hD : va_D A [(h_p0, .inr (7, [.ref h_p0_now, .ref h_p0_then, .ref h_p0_past, .int v_kept, .ref h_p0_text, .int v_typed, .int (iI 0), .int r1.2.1, .int r1.2.2.1, .ref h_p0_told, .int r1.2.2.2.1, .int v_one, .int v_other, .int v_change, .int v_woken])), (h_p0_text, .inl (cyI, 60, .inl v_text)), (h_p0_told, .inl (cyI, 48, .inl r1.2.2.2.2))] := hD
  refine lv_istore_n hx hb dX7_firstError_9 rfl hl (by decide) (rfl : _ = ([(1, .int r1.1), (0, .ref h_p0)] : List (Nat × Value))) (fun ls hl => ?_)
  refine lv_iload_n hx hb dX7_firstError_10 rfl (lv_at hl 0 rfl) ?_
  refine lv_if_ne (tgt := 28) hx hb dX7_firstError_11 (by decide) (fun c4 => ?_) (fun c4 => ?_)
  · have h := ineg c4 h
    refine lv_aload_n hx hb dX7_firstError_28 rfl (lv_at hl 1 rfl) ?_
    refine va_get (D := (dC, dI)) (ci := 7) (v := .int v_typed) (C := RX7) (T := TX7) (N := 15) hx hb hts m_X7_firstError_0 hown hK hP 0 rfl rfl 5 (by decide) (hts (.fieldLink RX7 139 "SleeperBerthsModel" "typed" "I") m_X7_firstError_2) (fun _ h9 => h9) rfl dX7_firstError_29 ?_
    obtain rfl := Option.some.inj h
    exact W.iret (v := v_typed) hx hb hr (fun t ht hW => ⟨⟨v_typed, (), rfl, rfl, WLD.of ht hP hD⟩, hS.F ht⟩) hS.2.2 dX7_firstError_32
  · have h := ipos c4 h
    refine lv_aload_n hx hb dX7_firstError_14 rfl (lv_at hl 1 rfl) ?_
    refine va_get (D := (dC, dI)) (ci := 7) (v := .int r1.2.2.1) (C := RX7) (T := TX7) (N := 15) hx hb hts m_X7_firstError_0 hown hK hP 0 rfl rfl 8 (by decide) (hts (.fieldLink RX7 145 "SleeperBerthsModel" "isFault" "Z") m_X7_firstError_3) (fun _ h9 => h9) rfl dX7_firstError_15 ?_
    refine lv_if_eq (tgt := 28) hx hb dX7_firstError_18 (by decide) (fun c5 => ?_) (fun c5 => ?_)
    · have h := ipos c5 h
      refine lv_aload_n hx hb dX7_firstError_28 rfl (lv_at hl 1 rfl) ?_
      refine va_get (D := (dC, dI)) (ci := 7) (v := .int v_typed) (C := RX7) (T := TX7) (N := 15) hx hb hts m_X7_firstError_0 hown hK hP 0 rfl rfl 5 (by decide) (hts (.fieldLink RX7 139 "SleeperBerthsModel" "typed" "I") m_X7_firstError_2) (fun _ h9 => h9) rfl dX7_firstError_29 ?_
      obtain rfl := Option.some.inj h
      exact W.iret (v := v_typed) hx hb hr (fun t ht hW => ⟨⟨v_typed, (), rfl, rfl, WLD.of ht hP hD⟩, hS.F ht⟩) hS.2.2 dX7_firstError_32
    · have h := ineg c5 h
      refine lv_aload_n hx hb dX7_firstError_21 rfl (lv_at hl 1 rfl) ?_
      refine va_get (D := (dC, dI)) (ci := 7) (v := .int r1.2.1) (C := RX7) (T := TX7) (N := 15) hx hb hts m_X7_firstError_0 hown hK hP 0 rfl rfl 7 (by decide) (hts (.fieldLink RX7 142 "SleeperBerthsModel" "at" "I") m_X7_firstError_4) (fun _ h9 => h9) rfl dX7_firstError_22 ?_
      refine lv_goto (tgt := 32) hx hb dX7_firstError_25 (by decide) ?_
      obtain rfl := Option.some.inj h
      exact W.iret (v := r1.2.1) hx hb hr (fun t ht hW => ⟨⟨r1.2.1, (), rfl, rfl, WLD.of ht hP hD⟩, hS.F ht⟩) hS.2.2 dX7_firstError_32
def s_X7_bookAll_L31 (n : Nat) (v_text : Nat → Int32) : Nat → Int32 → Int32 → Int32 → Int32 → Int32 → Int32 → Int32 → Int32 → Int32 → Int32 → (Nat → Int32) → (Nat → Int32) → (Nat → Int32) → Int32 → Int32 → Option (Int32 × Int32 × Int32 × Int32 × Int32 × Int32 × Int32 × Int32 × Int32 × Int32 × Int32 × (Nat → Int32) × (Nat → Int32) × (Nat → Int32))
  | 0, _, _, _, _, _, _, _, _, _, _, _, _, _, _, _ => none
  | k + 1, v_kept, v_typed, v_thrown, v_at, v_isFault, v_tolds, v_one, v_other, v_change, v_woken, v_now, v_past, v_told, x1, x2 => (if v_tolds ≤ x2 then (some (x1, v_kept, v_typed, v_thrown, v_at, v_isFault, v_tolds, v_one, v_other, v_change, v_woken, v_now, v_past, v_told)) else (if gd ((iI 3 * x2) + iI 2) 48 = true then (if (v_told ((iI 3 * x2) + iI 2).toNatClampNeg) = iI 1 then (if gd (iI 6) 452 = true then (if iI 40 ≤ (v_now (iI 6).toNatClampNeg) then (if gd (iI 9) 452 = true then (if gd (iI 9) 452 = true then (s_X7_bookAll_L31 n v_text k v_kept v_typed v_thrown v_at v_isFault v_tolds v_one v_other v_change v_woken (upd v_now (iI 9).toNatClampNeg ((v_now (iI 9).toNatClampNeg) + iI 1)) v_past v_told x1 (x2 + iI 1)) else none) else none) else (if gd (iI 3 * x2) 48 = true then (if gd ((iI 3 * x2) + iI 1) 48 = true then ((s_X7_finds n v_one v_other v_change v_woken v_now (v_told (iI 3 * x2).toNatClampNeg) (v_told ((iI 3 * x2) + iI 1).toNatClampNeg) (iI 1)).bind fun r27 => (if r27.1 = 0 then (if gd (iI 9) 452 = true then (if gd (iI 9) 452 = true then (s_X7_bookAll_L31 n v_text k v_kept v_typed v_thrown v_at v_isFault v_tolds r27.2.1 r27.2.2.1 r27.2.2.2.1 r27.2.2.2.2 (upd v_now (iI 9).toNatClampNeg ((v_now (iI 9).toNatClampNeg) + iI 1)) v_past v_told x1 (x2 + iI 1)) else none) else none) else (if gd (iI 3 * x2) 48 = true then (if gd ((iI 3 * x2) + iI 1) 48 = true then ((s_X7_comes n r27.2.1 r27.2.2.1 r27.2.2.2.1 v_now (v_told (iI 3 * x2).toNatClampNeg) (v_told ((iI 3 * x2) + iI 1).toNatClampNeg) (iI 1)).bind fun r35 => (s_X7_bookAll_L31 n v_text k v_kept v_typed v_thrown v_at v_isFault v_tolds r27.2.1 r27.2.2.1 r27.2.2.2.1 r27.2.2.2.2 r35.2 v_past v_told (x1 + iI 1) (x2 + iI 1))) else none) else none))) else none) else none)) else none) else (if gd (iI 6) 452 = true then (if iI 40 ≤ (v_now (iI 6).toNatClampNeg) then (if gd (iI 9) 452 = true then (if gd (iI 9) 452 = true then (s_X7_bookAll_L31 n v_text k v_kept v_typed v_thrown v_at v_isFault v_tolds v_one v_other v_change v_woken (upd v_now (iI 9).toNatClampNeg ((v_now (iI 9).toNatClampNeg) + iI 1)) v_past v_told x1 (x2 + iI 1)) else none) else none) else (if gd (iI 3 * x2) 48 = true then (if gd ((iI 3 * x2) + iI 1) 48 = true then ((s_X7_finds n v_one v_other v_change v_woken v_now (v_told (iI 3 * x2).toNatClampNeg) (v_told ((iI 3 * x2) + iI 1).toNatClampNeg) (iI 0)).bind fun r10 => (if r10.1 = 0 then (if gd (iI 9) 452 = true then (if gd (iI 9) 452 = true then (s_X7_bookAll_L31 n v_text k v_kept v_typed v_thrown v_at v_isFault v_tolds r10.2.1 r10.2.2.1 r10.2.2.2.1 r10.2.2.2.2 (upd v_now (iI 9).toNatClampNeg ((v_now (iI 9).toNatClampNeg) + iI 1)) v_past v_told x1 (x2 + iI 1)) else none) else none) else (if gd (iI 3 * x2) 48 = true then (if gd ((iI 3 * x2) + iI 1) 48 = true then ((s_X7_comes n r10.2.1 r10.2.2.1 r10.2.2.2.1 v_now (v_told (iI 3 * x2).toNatClampNeg) (v_told ((iI 3 * x2) + iI 1).toNatClampNeg) (iI 0)).bind fun r18 => (s_X7_bookAll_L31 n v_text k v_kept v_typed v_thrown v_at v_isFault v_tolds r10.2.1 r10.2.2.1 r10.2.2.2.1 r10.2.2.2.2 r18.2 v_past v_told (x1 + iI 1) (x2 + iI 1))) else none) else none))) else none) else none)) else none)) else none))
def s_X7_bookAll (n : Nat) (v_kept : Int32) (v_typed : Int32) (v_thrown : Int32) (v_at : Int32) (v_isFault : Int32) (v_tolds : Int32) (v_one : Int32) (v_other : Int32) (v_change : Int32) (v_woken : Int32) (v_now : Nat → Int32) (v_past : Nat → Int32) (v_text : Nat → Int32) (v_told : Nat → Int32) : Option (Int32 × Int32 × Int32 × Int32 × Int32 × Int32 × Int32 × Int32 × Int32 × Int32 × Int32 × (Nat → Int32) × (Nat → Int32) × (Nat → Int32)) := ((s_X7_isText n v_typed v_at v_isFault v_tolds v_text v_told).bind fun r38 => (if r38.1 = 0 then ((s_X7_fails (iI 0) (iI 1)).bind fun r45 => (some (r45.1, v_kept, v_typed, r45.2, r38.2.1, r38.2.2.1, r38.2.2.2.1, v_one, v_other, v_change, v_woken, v_now, v_past, r38.2.2.2.2))) else ((s_X7_saves n v_kept v_now v_past).bind fun r42 => (s_X7_bookAll_L31 n v_text n r42.1 (iI 0) (iI 0) r38.2.1 r38.2.2.1 r38.2.2.2.1 v_one v_other v_change v_woken v_now r42.2 r38.2.2.2.2 (iI 0) (iI 0)))))
set_option maxRecDepth 20000 in
theorem m_X7_bookAll_0 : ∀ w ∈ u_ws RX7 TX7 15, w ∈ wsX7_bookAll := by decide +kernel
set_option maxRecDepth 20000 in
theorem m_X7_bookAll_1 : (.fieldLink RX7 156 "SleeperBerthsModel" "tolds" "I" : Cond) ∈ wsX7_bookAll := by decide +kernel
set_option maxRecDepth 20000 in
theorem m_X7_bookAll_2 : (.fieldLink RX7 22 "SleeperBerthsModel" "told" "[I" : Cond) ∈ wsX7_bookAll := by decide +kernel
set_option maxRecDepth 20000 in
theorem m_X7_bookAll_3 : (.fieldLink RX7 7 "SleeperBerthsModel" "now" "[I" : Cond) ∈ wsX7_bookAll := by decide +kernel
set_option maxRecDepth 20000 in
theorem m_X7_bookAll_4 : (.fieldLink RX7 25 "SleeperBerthsModel" "thrown" "I" : Cond) ∈ wsX7_bookAll := by decide +kernel
set_option maxRecDepth 20000 in
theorem m_X7_bookAll_5 : (.fieldLink RX7 139 "SleeperBerthsModel" "typed" "I" : Cond) ∈ wsX7_bookAll := by decide +kernel
set_option maxHeartbeats 4000000 in
set_option maxRecDepth 100000 in
theorem c_X7_bookAll (l : Launch) (dC : Nat → ClassId) (dI : Nat → Nat → Nat) (cyI cyJ cyT : ClassId) (h_p0 : Nat) (h_p0_now : Nat) (h_p0_then : Nat) (h_p0_past : Nat) (h_p0_text : Nat) (h_p0_told : Nat) (sz : Nat) (v_kept : Int32) (v_typed : Int32) (v_thrown : Int32) (v_at : Int32) (v_isFault : Int32) (v_tolds : Int32) (v_one : Int32) (v_other : Int32) (v_change : Int32) (v_woken : Int32) (v_now : Nat → Int32) (v_past : Nat → Int32) (v_text : Nat → Int32) (v_told : Nat → Int32) (n : Nat) (o : Int32 × Int32 × Int32 × Int32 × Int32 × Int32 × Int32 × Int32 × Int32 × Int32 × Int32 × (Nat → Int32) × (Nat → Int32) × (Nat → Int32)) (h : s_X7_bookAll n v_kept v_typed v_thrown v_at v_isFault v_tolds v_one v_other v_change v_woken v_now v_past v_text v_told = some o) : Met l yX7_bookAll wsX7_bookAll ({ frames := 6, cells := 0, slots := 0, locals := 146 }) (va_Pc [.ref h_p0] (PRE (dC, dI) (TYS cyI cyJ cyT) sz [(h_p0, .inr (7, [.ref h_p0_now, .ref h_p0_then, .ref h_p0_past, .int v_kept, .ref h_p0_text, .int v_typed, .int v_thrown, .int v_at, .int v_isFault, .ref h_p0_told, .int v_tolds, .int v_one, .int v_other, .int v_change, .int v_woken])), (h_p0_now, .inl (cyI, 452, .inl v_now)), (h_p0_past, .inl (cyI, 2712, .inl v_past)), (h_p0_text, .inl (cyI, 60, .inl v_text)), (h_p0_told, .inl (cyI, 48, .inl v_told))])) (va_Qi (S := Unit) (fun r _ => r = o.1) (fun _ t => WLD (dC, dI) (va_A [(h_p0, .inr (7, [.ref h_p0_now, .ref h_p0_then, .ref h_p0_past, .int v_kept, .ref h_p0_text, .int v_typed, .int v_thrown, .int v_at, .int v_isFault, .ref h_p0_told, .int v_tolds, .int v_one, .int v_other, .int v_change, .int v_woken])), (h_p0_now, .inl (cyI, 452, .inl v_now)), (h_p0_past, .inl (cyI, 2712, .inl v_past)), (h_p0_text, .inl (cyI, 60, .inl v_text)), (h_p0_told, .inl (cyI, 48, .inl v_told))] sz) [(h_p0, .inr (7, [.ref h_p0_now, .ref h_p0_then, .ref h_p0_past, .int o.2.1, .ref h_p0_text, .int o.2.2.1, .int o.2.2.2.1, .int o.2.2.2.2.1, .int o.2.2.2.2.2.1, .ref h_p0_told, .int o.2.2.2.2.2.2.1, .int o.2.2.2.2.2.2.2.1, .int o.2.2.2.2.2.2.2.2.1, .int o.2.2.2.2.2.2.2.2.2.1, .int o.2.2.2.2.2.2.2.2.2.2.1])), (h_p0_now, .inl (cyI, 452, .inl o.2.2.2.2.2.2.2.2.2.2.2.1)), (h_p0_past, .inl (cyI, 2712, .inl o.2.2.2.2.2.2.2.2.2.2.2.2.1)), (h_p0_text, .inl (cyI, 60, .inl v_text)), (h_p0_told, .inl (cyI, 48, .inl o.2.2.2.2.2.2.2.2.2.2.2.2.2))] t) (va_A [(h_p0, .inr (7, [.ref h_p0_now, .ref h_p0_then, .ref h_p0_past, .int v_kept, .ref h_p0_text, .int v_typed, .int v_thrown, .int v_at, .int v_isFault, .ref h_p0_told, .int v_tolds, .int v_one, .int v_other, .int v_change, .int v_woken])), (h_p0_now, .inl (cyI, 452, .inl v_now)), (h_p0_past, .inl (cyI, 2712, .inl v_past)), (h_p0_text, .inl (cyI, 60, .inl v_text)), (h_p0_told, .inl (cyI, 48, .inl v_told))] sz)) 0 0 (va_A [(h_p0, .inr (7, [.ref h_p0_now, .ref h_p0_then, .ref h_p0_past, .int v_kept, .ref h_p0_text, .int v_typed, .int v_thrown, .int v_at, .int v_isFault, .ref h_p0_told, .int v_tolds, .int v_one, .int v_other, .int v_change, .int v_woken])), (h_p0_now, .inl (cyI, 452, .inl v_now)), (h_p0_past, .inl (cyI, 2712, .inl v_past)), (h_p0_text, .inl (cyI, 60, .inl v_text)), (h_p0_told, .inl (cyI, 48, .inl v_told))] sz) := by
  refine Met.ofW (cc := cX7_bookAll) (maxL := 4) (ret := (some .int)) (by decide) rfl ?_
  intro p e s m args below meth c s₁ B hml hv
  obtain ⟨rfl, hsz, hP, hK, hD0, hNW⟩ := hv
  have hx := B.exec
  have hb := B.bytes
  have hr := B.returns
  have hts := atoms_spec (ws := wsX7_bookAll) B.pre
  have hown : s.vm.findClass RX7 = some m.cls := findClass_of_methodNamed B.named
  have hlocks := B.notSynchronized
  subst hsz
  have hD := hD0.self (sz := s.heap.size)
  generalize hAe : va_A [(h_p0, .inr (7, [.ref h_p0_now, .ref h_p0_then, .ref h_p0_past, .int v_kept, .ref h_p0_text, .int v_typed, .int v_thrown, .int v_at, .int v_isFault, .ref h_p0_told, .int v_tolds, .int v_one, .int v_other, .int v_change, .int v_woken])), (h_p0_now, .inl (cyI, 452, .inl v_now)), (h_p0_past, .inl (cyI, 2712, .inl v_past)), (h_p0_text, .inl (cyI, 60, .inl v_text)), (h_p0_told, .inl (cyI, 48, .inl v_told))] s.heap.size = A at hD ⊢
  have hA : ∀ q : Nat, s.heap.size ≤ q → A q := fun q h => by rw [← hAe]; exact Or.inr h
  have hS : va_S A s.heap s.heap [] := va_S.rf
  have hP : va_P (dC, dI) vwCl [(h_p0, .inr (7, [.ref h_p0_now, .ref h_p0_then, .ref h_p0_past, .int v_kept, .ref h_p0_text, .int v_typed, .int v_thrown, .int v_at, .int v_isFault, .ref h_p0_told, .int v_tolds, .int v_one, .int v_other, .int v_change, .int v_woken])), (h_p0_now, .inl (cyI, 452, .inl v_now)), (h_p0_past, .inl (cyI, 2712, .inl v_past)), (h_p0_text, .inl (cyI, 60, .inl v_text)), (h_p0_told, .inl (cyI, 48, .inl v_told))] s.heap := hP
  have L31 : ∀ (k : Nat), (∀ (v_kept : Int32) (v_typed : Int32) (v_thrown : Int32) (v_at : Int32) (v_isFault : Int32) (v_tolds : Int32) (v_one : Int32) (v_other : Int32) (v_change : Int32) (v_woken : Int32) (v_now : Nat → Int32) (v_past : Nat → Int32) (v_told : Nat → Int32) (x1 : Int32) (x2 : Int32) (H : Heap) (locs : List Loc), va_P (dC, dI) vwCl [(h_p0, .inr (7, [.ref h_p0_now, .ref h_p0_then, .ref h_p0_past, .int v_kept, .ref h_p0_text, .int v_typed, .int v_thrown, .int v_at, .int v_isFault, .ref h_p0_told, .int v_tolds, .int v_one, .int v_other, .int v_change, .int v_woken])), (h_p0_now, .inl (cyI, 452, .inl v_now)), (h_p0_past, .inl (cyI, 2712, .inl v_past)), (h_p0_text, .inl (cyI, 60, .inl v_text)), (h_p0_told, .inl (cyI, 48, .inl v_told))] H → va_D A [(h_p0, .inr (7, [.ref h_p0_now, .ref h_p0_then, .ref h_p0_past, .int v_kept, .ref h_p0_text, .int v_typed, .int v_thrown, .int v_at, .int v_isFault, .ref h_p0_told, .int v_tolds, .int v_one, .int v_other, .int v_change, .int v_woken])), (h_p0_now, .inl (cyI, 452, .inl v_now)), (h_p0_past, .inl (cyI, 2712, .inl v_past)), (h_p0_text, .inl (cyI, 60, .inl v_text)), (h_p0_told, .inl (cyI, 48, .inl v_told))] → va_S A s.heap H locs → ∀ (ls : Array Slot), lv_has ls 4 [(0, .ref h_p0), (1, .int x1), (2, .int x2)] →  s_X7_bookAll_L31 n v_text k v_kept v_typed v_thrown v_at v_isFault v_tolds v_one v_other v_change v_woken v_now v_past v_told x1 x2 = some o → W p l e (headSpec wsX7_bookAll ({ frames := 6, cells := 0, slots := 0, locals := 146 })).room s m (([.ref h_p0] : List Value).toArray) below meth c H locs 0 0 (MQ below (va_Qi (S := Unit) (fun r _ => r = o.1) (fun _ t => WLD (dC, dI) A [(h_p0, .inr (7, [.ref h_p0_now, .ref h_p0_then, .ref h_p0_past, .int o.2.1, .ref h_p0_text, .int o.2.2.1, .int o.2.2.2.1, .int o.2.2.2.2.1, .int o.2.2.2.2.2.1, .ref h_p0_told, .int o.2.2.2.2.2.2.1, .int o.2.2.2.2.2.2.2.1, .int o.2.2.2.2.2.2.2.2.1, .int o.2.2.2.2.2.2.2.2.2.1, .int o.2.2.2.2.2.2.2.2.2.2.1])), (h_p0_now, .inl (cyI, 452, .inl o.2.2.2.2.2.2.2.2.2.2.2.1)), (h_p0_past, .inl (cyI, 2712, .inl o.2.2.2.2.2.2.2.2.2.2.2.2.1)), (h_p0_text, .inl (cyI, 60, .inl v_text)), (h_p0_told, .inl (cyI, 48, .inl o.2.2.2.2.2.2.2.2.2.2.2.2.2))] t) A) (([.ref h_p0] : List Value).toArray) s 0 0 A) (F0 m 31 ls [])) := by
    intro k
    induction k with
    | zero =>
      intro  v_kept v_typed v_thrown v_at v_isFault v_tolds v_one v_other v_change v_woken v_now v_past v_told x1 x2 H locs hP hD hS ls hl h
      rw [s_X7_bookAll_L31] at h
      cases h
    | succ k ih =>
      intro  v_kept v_typed v_thrown v_at v_isFault v_tolds v_one v_other v_change v_woken v_now v_past v_told x1 x2 H locs hP hD hS ls hl h
      rw [s_X7_bookAll_L31] at h
      refine lv_iload_n hx hb dX7_bookAll_31 rfl (lv_at hl 2 rfl) ?_
      refine lv_aload_n hx hb dX7_bookAll_32 rfl (lv_at hl 0 rfl) ?_
      refine va_get (D := (dC, dI)) (ci := 7) (v := .int v_tolds) (C := RX7) (T := TX7) (N := 15) hx hb hts m_X7_bookAll_0 hown hK hP 0 rfl rfl 10 (by decide) (hts (.fieldLink RX7 156 "SleeperBerthsModel" "tolds" "I") m_X7_bookAll_1) (fun _ h9 => h9) rfl dX7_bookAll_33 ?_
      refine lv_icmp_ge (tgt := 148) hx hb dX7_bookAll_36 (by decide) (fun c1 => ?_) (fun c1 => ?_)
      · have h := ipos c1 h
        refine lv_iload_n hx hb dX7_bookAll_148 rfl (lv_at hl 1 rfl) ?_
        obtain rfl := Option.some.inj h
        exact W.iret (v := x1) hx hb hr (fun t ht hW => ⟨⟨x1, (), rfl, rfl, WLD.of ht hP hD⟩, hS.F ht⟩) hS.2.2 dX7_bookAll_149
      · have h := ineg c1 h
        refine lv_aload_n hx hb dX7_bookAll_39 rfl (lv_at hl 0 rfl) ?_
        refine va_get (D := (dC, dI)) (ci := 7) (v := .ref h_p0_told) (C := RX7) (T := TX7) (N := 15) hx hb hts m_X7_bookAll_0 hown hK hP 0 rfl rfl 9 (by decide) (hts (.fieldLink RX7 22 "SleeperBerthsModel" "told" "[I") m_X7_bookAll_2) (fun _ h9 => h9) rfl dX7_bookAll_40 ?_
        refine lv_iconst (v := iI 3) hx hb dX7_bookAll_43 rfl ?_
        refine lv_iload_n hx hb dX7_bookAll_44 rfl (lv_at hl 2 rfl) ?_
        refine lv_imul hx hb dX7_bookAll_45 ?_
        refine lv_iconst (v := iI 2) hx hb dX7_bookAll_46 rfl ?_
        refine lv_iadd hx hb dX7_bookAll_47 ?_
        obtain ⟨g2, h⟩ := gsome h
        refine va_iald (D := (dC, dI)) hx hb hK hP 4 0 rfl rfl g2 dX7_bookAll_48 ?_
        refine lv_iconst (v := iI 1) hx hb dX7_bookAll_49 rfl ?_
        refine lv_icmp_ne (tgt := 57) hx hb dX7_bookAll_50 (by decide) (fun c3 => ?_) (fun c3 => ?_)
        · have h := ineg c3 h
          refine lv_iconst (v := iI 0) hx hb dX7_bookAll_57 rfl ?_
          refine lv_istore_n hx hb dX7_bookAll_58 rfl hl (by decide) (rfl : _ = ([(3, .int (iI 0)), (0, .ref h_p0), (1, .int x1), (2, .int x2)] : List (Nat × Value))) (fun ls hl => ?_)
          refine lv_aload_n hx hb dX7_bookAll_59 rfl (lv_at hl 1 rfl) ?_
          refine va_get (D := (dC, dI)) (ci := 7) (v := .ref h_p0_now) (C := RX7) (T := TX7) (N := 15) hx hb hts m_X7_bookAll_0 hown hK hP 0 rfl rfl 0 (by decide) (hts (.fieldLink RX7 7 "SleeperBerthsModel" "now" "[I") m_X7_bookAll_3) (fun _ h9 => h9) rfl dX7_bookAll_60 ?_
          refine lv_bipush (v := iI 6) hx hb dX7_bookAll_63 (by decide) ?_
          obtain ⟨g4, h⟩ := gsome h
          refine va_iald (D := (dC, dI)) hx hb hK hP 1 0 rfl rfl g4 dX7_bookAll_65 ?_
          refine lv_bipush (v := iI 40) hx hb dX7_bookAll_66 (by decide) ?_
          refine lv_icmp_ge (tgt := 131) hx hb dX7_bookAll_68 (by decide) (fun c5 => ?_) (fun c5 => ?_)
          · have h := ipos c5 h
            refine lv_aload_n hx hb dX7_bookAll_131 rfl (lv_at hl 1 rfl) ?_
            refine va_get (D := (dC, dI)) (ci := 7) (v := .ref h_p0_now) (C := RX7) (T := TX7) (N := 15) hx hb hts m_X7_bookAll_0 hown hK hP 0 rfl rfl 0 (by decide) (hts (.fieldLink RX7 7 "SleeperBerthsModel" "now" "[I") m_X7_bookAll_3) (fun _ h9 => h9) rfl dX7_bookAll_132 ?_
            refine lv_bipush (v := iI 9) hx hb dX7_bookAll_135 (by decide) ?_
            refine lv_dup2_11 hx hb dX7_bookAll_137 rfl rfl ?_
            obtain ⟨g6, h⟩ := gsome h
            refine va_iald (D := (dC, dI)) hx hb hK hP 1 0 rfl rfl g6 dX7_bookAll_138 ?_
            refine lv_iconst (v := iI 1) hx hb dX7_bookAll_139 rfl ?_
            refine lv_iadd hx hb dX7_bookAll_140 ?_
            obtain ⟨g7, h⟩ := gsome h
            refine va_iast (D := (dC, dI)) hx hb hK hP hD hS 1 0 rfl rfl g7 dX7_bookAll_141 (fun H locs hP hD hS => ?_)
            have hP : va_P (dC, dI) vwCl [(h_p0, .inr (7, [.ref h_p0_now, .ref h_p0_then, .ref h_p0_past, .int v_kept, .ref h_p0_text, .int v_typed, .int v_thrown, .int v_at, .int v_isFault, .ref h_p0_told, .int v_tolds, .int v_one, .int v_other, .int v_change, .int v_woken])), (h_p0_now, .inl (cyI, 452, .inl (upd v_now (iI 9).toNatClampNeg ((v_now (iI 9).toNatClampNeg) + iI 1)))), (h_p0_past, .inl (cyI, 2712, .inl v_past)), (h_p0_text, .inl (cyI, 60, .inl v_text)), (h_p0_told, .inl (cyI, 48, .inl v_told))] H := hP
            have hD : va_D A [(h_p0, .inr (7, [.ref h_p0_now, .ref h_p0_then, .ref h_p0_past, .int v_kept, .ref h_p0_text, .int v_typed, .int v_thrown, .int v_at, .int v_isFault, .ref h_p0_told, .int v_tolds, .int v_one, .int v_other, .int v_change, .int v_woken])), (h_p0_now, .inl (cyI, 452, .inl (upd v_now (iI 9).toNatClampNeg ((v_now (iI 9).toNatClampNeg) + iI 1)))), (h_p0_past, .inl (cyI, 2712, .inl v_past)), (h_p0_text, .inl (cyI, 60, .inl v_text)), (h_p0_told, .inl (cyI, 48, .inl v_told))] := hD
            refine lv_iinc (v := (x2 + iI 1)) hx hb dX7_bookAll_142 hl (k := 3) rfl rfl (by decide) (rfl : _ = ([(2, .int (x2 + iI 1)), (3, .int (iI 0)), (0, .ref h_p0), (1, .int x1)] : List (Nat × Value))) (fun ls hl => ?_)
            refine lv_goto (tgt := 31) hx hb dX7_bookAll_145 (by decide) ?_
            exact ih v_kept v_typed v_thrown v_at v_isFault v_tolds v_one v_other v_change v_woken (upd v_now (iI 9).toNatClampNeg ((v_now (iI 9).toNatClampNeg) + iI 1)) v_past v_told x1 (x2 + iI 1) _ _ hP hD hS ls (lv_sub hl [2, 3, 0] rfl) h
          · have h := ineg c5 h
            refine lv_aload_n hx hb dX7_bookAll_71 rfl (lv_at hl 1 rfl) ?_
            refine lv_aload_n hx hb dX7_bookAll_72 rfl (lv_at hl 1 rfl) ?_
            refine va_get (D := (dC, dI)) (ci := 7) (v := .ref h_p0_now) (C := RX7) (T := TX7) (N := 15) hx hb hts m_X7_bookAll_0 hown hK hP 0 rfl rfl 0 (by decide) (hts (.fieldLink RX7 7 "SleeperBerthsModel" "now" "[I") m_X7_bookAll_3) (fun _ h9 => h9) rfl dX7_bookAll_73 ?_
            refine lv_aload_n hx hb dX7_bookAll_76 rfl (lv_at hl 1 rfl) ?_
            refine va_get (D := (dC, dI)) (ci := 7) (v := .ref h_p0_told) (C := RX7) (T := TX7) (N := 15) hx hb hts m_X7_bookAll_0 hown hK hP 0 rfl rfl 9 (by decide) (hts (.fieldLink RX7 22 "SleeperBerthsModel" "told" "[I") m_X7_bookAll_2) (fun _ h9 => h9) rfl dX7_bookAll_77 ?_
            refine lv_iconst (v := iI 3) hx hb dX7_bookAll_80 rfl ?_
            refine lv_iload_n hx hb dX7_bookAll_81 rfl (lv_at hl 3 rfl) ?_
            refine lv_imul hx hb dX7_bookAll_82 ?_
            obtain ⟨g8, h⟩ := gsome h
            refine va_iald (D := (dC, dI)) hx hb hK hP 4 0 rfl rfl g8 dX7_bookAll_83 ?_
            refine lv_aload_n hx hb dX7_bookAll_84 rfl (lv_at hl 1 rfl) ?_
            refine va_get (D := (dC, dI)) (ci := 7) (v := .ref h_p0_told) (C := RX7) (T := TX7) (N := 15) hx hb hts m_X7_bookAll_0 hown hK hP 0 rfl rfl 9 (by decide) (hts (.fieldLink RX7 22 "SleeperBerthsModel" "told" "[I") m_X7_bookAll_2) (fun _ h9 => h9) rfl dX7_bookAll_85 ?_
            refine lv_iconst (v := iI 3) hx hb dX7_bookAll_88 rfl ?_
            refine lv_iload_n hx hb dX7_bookAll_89 rfl (lv_at hl 3 rfl) ?_
            refine lv_imul hx hb dX7_bookAll_90 ?_
            refine lv_iconst (v := iI 1) hx hb dX7_bookAll_91 rfl ?_
            refine lv_iadd hx hb dX7_bookAll_92 ?_
            obtain ⟨g9, h⟩ := gsome h
            refine va_iald (D := (dC, dI)) hx hb hK hP 4 0 rfl rfl g9 dX7_bookAll_93 ?_
            refine lv_iload_n hx hb dX7_bookAll_94 rfl (lv_at hl 0 rfl) ?_
            obtain ⟨r10, e11, h⟩ := bsome h
            have hPc := sb_P [(h_p0, .inr (7, [.ref h_p0_now, .ref h_p0_then, .ref h_p0_past, .int v_kept, .ref h_p0_text, .int v_typed, .int v_thrown, .int v_at, .int v_isFault, .ref h_p0_told, .int v_tolds, .int v_one, .int v_other, .int v_change, .int v_woken])), (h_p0_now, .inl (cyI, 452, .inl v_now))] hP [0, 1] rfl
            have hDc := sb_D [(h_p0, .inr (7, [.ref h_p0_now, .ref h_p0_then, .ref h_p0_past, .int v_kept, .ref h_p0_text, .int v_typed, .int v_thrown, .int v_at, .int v_isFault, .ref h_p0_told, .int v_tolds, .int v_one, .int v_other, .int v_change, .int v_woken])), (h_p0_now, .inl (cyI, 452, .inl v_now))] hD [0, 1] (by decide) rfl
            have hFc := va_free (wc := [(h_p0, .inr (7, [.ref h_p0_now, .ref h_p0_then, .ref h_p0_past, .int v_kept, .ref h_p0_text, .int v_typed, .int v_thrown, .int v_at, .int v_isFault, .ref h_p0_told, .int v_tolds, .int v_one, .int v_other, .int v_change, .int v_woken])), (h_p0_now, .inl (cyI, 452, .inl v_now))]) hD hS hA [0, 1] rfl
            refine va_calli (va_runV (As := [.ref h_p0_now, .int (v_told (iI 3 * x2).toNatClampNeg), .int (v_told ((iI 3 * x2) + iI 1).toNatClampNeg), .int (iI 0)]) (rest := []) ⟨hx, hb, hml, hown, hts⟩ (c_X7_finds l dC dI cyI cyJ cyT h_p0 h_p0_now h_p0_then h_p0_past h_p0_text h_p0_told h_p0_now H.size v_kept v_typed v_thrown v_at v_isFault v_tolds v_one v_other v_change v_woken v_now (v_told (iI 3 * x2).toNatClampNeg) (v_told ((iI 3 * x2) + iI 1).toNatClampNeg) (iI 0) n r10 e11) (cwV 4 hts gX7_bookAll_X7_finds rfl rfl rfl (by decide +kernel) ⟨Nat.le_of_ble_eq_true rfl, Nat.le_of_ble_eq_true rfl⟩) ⟨PRE.blind, va_recv hK hPc (ci := 7) (q0 := 0) rfl rfl, PRE.go hK hPc hDc hNW⟩ rfl rfl hl.1 rfl (lv_room (Nat.le_of_ble_eq_true rfl)) dX7_bookAll_95 ⟨Nat.zero_le _, Nat.zero_le _⟩) hS (fun q _ h => hFc q h) hFc (fun z12 u t H locs ht hvm hw hB hz1 hk1 hS => ?_)
            subst z12
            obtain ⟨hP, hD⟩ := va_join (wr := [(h_p0_past, .inl (cyI, 2712, .inl v_past)), (h_p0_text, .inl (cyI, 60, .inl v_text)), (h_p0_told, .inl (cyI, 48, .inl v_told))]) (w1 := [(h_p0, .inr (7, [.ref h_p0_now, .ref h_p0_then, .ref h_p0_past, .int v_kept, .ref h_p0_text, .int v_typed, .int v_thrown, .int v_at, .int v_isFault, .ref h_p0_told, .int v_tolds, .int r10.2.1, .int r10.2.2.1, .int r10.2.2.2.1, .int r10.2.2.2.2])), (h_p0_now, .inl (cyI, 452, .inl v_now))]) hP hD [0, 1] [2, 3, 4] rfl rfl (by decide) (by decide) hk1 hFc (WLD.P hB ht) hB.2
            have hP : va_P (dC, dI) vwCl [(h_p0_past, .inl (cyI, 2712, .inl v_past)), (h_p0_text, .inl (cyI, 60, .inl v_text)), (h_p0_told, .inl (cyI, 48, .inl v_told)), (h_p0, .inr (7, [.ref h_p0_now, .ref h_p0_then, .ref h_p0_past, .int v_kept, .ref h_p0_text, .int v_typed, .int v_thrown, .int v_at, .int v_isFault, .ref h_p0_told, .int v_tolds, .int r10.2.1, .int r10.2.2.1, .int r10.2.2.2.1, .int r10.2.2.2.2])), (h_p0_now, .inl (cyI, 452, .inl v_now))] H := hP
            have hD : va_D A [(h_p0_past, .inl (cyI, 2712, .inl v_past)), (h_p0_text, .inl (cyI, 60, .inl v_text)), (h_p0_told, .inl (cyI, 48, .inl v_told)), (h_p0, .inr (7, [.ref h_p0_now, .ref h_p0_then, .ref h_p0_past, .int v_kept, .ref h_p0_text, .int v_typed, .int v_thrown, .int v_at, .int v_isFault, .ref h_p0_told, .int v_tolds, .int r10.2.1, .int r10.2.2.1, .int r10.2.2.2.1, .int r10.2.2.2.2])), (h_p0_now, .inl (cyI, 452, .inl v_now))] := hD
            refine lv_if_eq (tgt := 131) hx hb dX7_bookAll_98 (by decide) (fun c13 => ?_) (fun c13 => ?_)
            · have h := ipos c13 h
              refine lv_aload_n hx hb dX7_bookAll_131 rfl (lv_at hl 1 rfl) ?_
              refine va_get (D := (dC, dI)) (ci := 7) (v := .ref h_p0_now) (C := RX7) (T := TX7) (N := 15) hx hb hts m_X7_bookAll_0 hown hK hP 3 rfl rfl 0 (by decide) (hts (.fieldLink RX7 7 "SleeperBerthsModel" "now" "[I") m_X7_bookAll_3) (fun _ h9 => h9) rfl dX7_bookAll_132 ?_
              refine lv_bipush (v := iI 9) hx hb dX7_bookAll_135 (by decide) ?_
              refine lv_dup2_11 hx hb dX7_bookAll_137 rfl rfl ?_
              obtain ⟨g14, h⟩ := gsome h
              refine va_iald (D := (dC, dI)) hx hb hK hP 4 0 rfl rfl g14 dX7_bookAll_138 ?_
              refine lv_iconst (v := iI 1) hx hb dX7_bookAll_139 rfl ?_
              refine lv_iadd hx hb dX7_bookAll_140 ?_
              obtain ⟨g15, h⟩ := gsome h
              refine va_iast (D := (dC, dI)) hx hb hK hP hD hS 4 0 rfl rfl g15 dX7_bookAll_141 (fun H locs hP hD hS => ?_)
              have hP : va_P (dC, dI) vwCl [(h_p0_past, .inl (cyI, 2712, .inl v_past)), (h_p0_text, .inl (cyI, 60, .inl v_text)), (h_p0_told, .inl (cyI, 48, .inl v_told)), (h_p0, .inr (7, [.ref h_p0_now, .ref h_p0_then, .ref h_p0_past, .int v_kept, .ref h_p0_text, .int v_typed, .int v_thrown, .int v_at, .int v_isFault, .ref h_p0_told, .int v_tolds, .int r10.2.1, .int r10.2.2.1, .int r10.2.2.2.1, .int r10.2.2.2.2])), (h_p0_now, .inl (cyI, 452, .inl (upd v_now (iI 9).toNatClampNeg ((v_now (iI 9).toNatClampNeg) + iI 1))))] H := hP
              have hD : va_D A [(h_p0_past, .inl (cyI, 2712, .inl v_past)), (h_p0_text, .inl (cyI, 60, .inl v_text)), (h_p0_told, .inl (cyI, 48, .inl v_told)), (h_p0, .inr (7, [.ref h_p0_now, .ref h_p0_then, .ref h_p0_past, .int v_kept, .ref h_p0_text, .int v_typed, .int v_thrown, .int v_at, .int v_isFault, .ref h_p0_told, .int v_tolds, .int r10.2.1, .int r10.2.2.1, .int r10.2.2.2.1, .int r10.2.2.2.2])), (h_p0_now, .inl (cyI, 452, .inl (upd v_now (iI 9).toNatClampNeg ((v_now (iI 9).toNatClampNeg) + iI 1))))] := hD
              refine lv_iinc (v := (x2 + iI 1)) hx hb dX7_bookAll_142 hl (k := 3) rfl rfl (by decide) (rfl : _ = ([(2, .int (x2 + iI 1)), (3, .int (iI 0)), (0, .ref h_p0), (1, .int x1)] : List (Nat × Value))) (fun ls hl => ?_)
              refine lv_goto (tgt := 31) hx hb dX7_bookAll_145 (by decide) ?_
              exact ih v_kept v_typed v_thrown v_at v_isFault v_tolds r10.2.1 r10.2.2.1 r10.2.2.2.1 r10.2.2.2.2 (upd v_now (iI 9).toNatClampNeg ((v_now (iI 9).toNatClampNeg) + iI 1)) v_past v_told x1 (x2 + iI 1) _ _ (sb_P [(h_p0, .inr (7, [.ref h_p0_now, .ref h_p0_then, .ref h_p0_past, .int v_kept, .ref h_p0_text, .int v_typed, .int v_thrown, .int v_at, .int v_isFault, .ref h_p0_told, .int v_tolds, .int r10.2.1, .int r10.2.2.1, .int r10.2.2.2.1, .int r10.2.2.2.2])), (h_p0_now, .inl (cyI, 452, .inl (upd v_now (iI 9).toNatClampNeg ((v_now (iI 9).toNatClampNeg) + iI 1)))), (h_p0_past, .inl (cyI, 2712, .inl v_past)), (h_p0_text, .inl (cyI, 60, .inl v_text)), (h_p0_told, .inl (cyI, 48, .inl v_told))] hP [3, 4, 0, 1, 2] rfl) (sb_D [(h_p0, .inr (7, [.ref h_p0_now, .ref h_p0_then, .ref h_p0_past, .int v_kept, .ref h_p0_text, .int v_typed, .int v_thrown, .int v_at, .int v_isFault, .ref h_p0_told, .int v_tolds, .int r10.2.1, .int r10.2.2.1, .int r10.2.2.2.1, .int r10.2.2.2.2])), (h_p0_now, .inl (cyI, 452, .inl (upd v_now (iI 9).toNatClampNeg ((v_now (iI 9).toNatClampNeg) + iI 1)))), (h_p0_past, .inl (cyI, 2712, .inl v_past)), (h_p0_text, .inl (cyI, 60, .inl v_text)), (h_p0_told, .inl (cyI, 48, .inl v_told))] hD [3, 4, 0, 1, 2] (by decide) rfl) hS ls (lv_sub hl [2, 3, 0] rfl) h
            · have h := ineg c13 h
              refine lv_aload_n hx hb dX7_bookAll_101 rfl (lv_at hl 1 rfl) ?_
              refine lv_aload_n hx hb dX7_bookAll_102 rfl (lv_at hl 1 rfl) ?_
              refine va_get (D := (dC, dI)) (ci := 7) (v := .ref h_p0_told) (C := RX7) (T := TX7) (N := 15) hx hb hts m_X7_bookAll_0 hown hK hP 3 rfl rfl 9 (by decide) (hts (.fieldLink RX7 22 "SleeperBerthsModel" "told" "[I") m_X7_bookAll_2) (fun _ h9 => h9) rfl dX7_bookAll_103 ?_
              refine lv_iconst (v := iI 3) hx hb dX7_bookAll_106 rfl ?_
              refine lv_iload_n hx hb dX7_bookAll_107 rfl (lv_at hl 3 rfl) ?_
              refine lv_imul hx hb dX7_bookAll_108 ?_
              obtain ⟨g16, h⟩ := gsome h
              refine va_iald (D := (dC, dI)) hx hb hK hP 2 0 rfl rfl g16 dX7_bookAll_109 ?_
              refine lv_aload_n hx hb dX7_bookAll_110 rfl (lv_at hl 1 rfl) ?_
              refine va_get (D := (dC, dI)) (ci := 7) (v := .ref h_p0_told) (C := RX7) (T := TX7) (N := 15) hx hb hts m_X7_bookAll_0 hown hK hP 3 rfl rfl 9 (by decide) (hts (.fieldLink RX7 22 "SleeperBerthsModel" "told" "[I") m_X7_bookAll_2) (fun _ h9 => h9) rfl dX7_bookAll_111 ?_
              refine lv_iconst (v := iI 3) hx hb dX7_bookAll_114 rfl ?_
              refine lv_iload_n hx hb dX7_bookAll_115 rfl (lv_at hl 3 rfl) ?_
              refine lv_imul hx hb dX7_bookAll_116 ?_
              refine lv_iconst (v := iI 1) hx hb dX7_bookAll_117 rfl ?_
              refine lv_iadd hx hb dX7_bookAll_118 ?_
              obtain ⟨g17, h⟩ := gsome h
              refine va_iald (D := (dC, dI)) hx hb hK hP 2 0 rfl rfl g17 dX7_bookAll_119 ?_
              refine lv_iload_n hx hb dX7_bookAll_120 rfl (lv_at hl 0 rfl) ?_
              obtain ⟨r18, e19, h⟩ := bsome h
              have hPc := sb_P [(h_p0, .inr (7, [.ref h_p0_now, .ref h_p0_then, .ref h_p0_past, .int v_kept, .ref h_p0_text, .int v_typed, .int v_thrown, .int v_at, .int v_isFault, .ref h_p0_told, .int v_tolds, .int r10.2.1, .int r10.2.2.1, .int r10.2.2.2.1, .int r10.2.2.2.2])), (h_p0_now, .inl (cyI, 452, .inl v_now))] hP [3, 4] rfl
              have hDc := sb_D [(h_p0, .inr (7, [.ref h_p0_now, .ref h_p0_then, .ref h_p0_past, .int v_kept, .ref h_p0_text, .int v_typed, .int v_thrown, .int v_at, .int v_isFault, .ref h_p0_told, .int v_tolds, .int r10.2.1, .int r10.2.2.1, .int r10.2.2.2.1, .int r10.2.2.2.2])), (h_p0_now, .inl (cyI, 452, .inl v_now))] hD [3, 4] (by decide) rfl
              have hFc := va_free (wc := [(h_p0, .inr (7, [.ref h_p0_now, .ref h_p0_then, .ref h_p0_past, .int v_kept, .ref h_p0_text, .int v_typed, .int v_thrown, .int v_at, .int v_isFault, .ref h_p0_told, .int v_tolds, .int r10.2.1, .int r10.2.2.1, .int r10.2.2.2.1, .int r10.2.2.2.2])), (h_p0_now, .inl (cyI, 452, .inl v_now))]) hD hS hA [3, 4] rfl
              refine va_calli (va_runV (As := [.int (v_told (iI 3 * x2).toNatClampNeg), .int (v_told ((iI 3 * x2) + iI 1).toNatClampNeg), .int (iI 0)]) (rest := []) ⟨hx, hb, hml, hown, hts⟩ (c_X7_comes l dC dI cyI cyJ cyT h_p0 h_p0_now h_p0_then h_p0_past h_p0_text h_p0_told H.size v_kept v_typed v_thrown v_at v_isFault v_tolds r10.2.1 r10.2.2.1 r10.2.2.2.1 r10.2.2.2.2 v_now (v_told (iI 3 * x2).toNatClampNeg) (v_told ((iI 3 * x2) + iI 1).toNatClampNeg) (iI 0) n r18 e19) (cwV 3 hts gX7_bookAll_X7_comes rfl rfl rfl (by decide +kernel) ⟨Nat.le_of_ble_eq_true rfl, Nat.le_of_ble_eq_true rfl⟩) ⟨PRE.blind, va_recv hK hPc (ci := 7) (q0 := 0) rfl rfl, PRE.go hK hPc hDc hNW⟩ rfl rfl hl.1 rfl (lv_room (Nat.le_of_ble_eq_true rfl)) dX7_bookAll_121 ⟨Nat.zero_le _, Nat.zero_le _⟩) hS (fun q _ h => hFc q h) hFc (fun z20 u t H locs ht hvm hw hB hz1 hk1 hS => ?_)
              subst z20
              obtain ⟨hP, hD⟩ := va_join (wr := [(h_p0_past, .inl (cyI, 2712, .inl v_past)), (h_p0_text, .inl (cyI, 60, .inl v_text)), (h_p0_told, .inl (cyI, 48, .inl v_told))]) (w1 := [(h_p0, .inr (7, [.ref h_p0_now, .ref h_p0_then, .ref h_p0_past, .int v_kept, .ref h_p0_text, .int v_typed, .int v_thrown, .int v_at, .int v_isFault, .ref h_p0_told, .int v_tolds, .int r10.2.1, .int r10.2.2.1, .int r10.2.2.2.1, .int r10.2.2.2.2])), (h_p0_now, .inl (cyI, 452, .inl r18.2))]) hP hD [3, 4] [0, 1, 2] rfl rfl (by decide) (by decide) hk1 hFc (WLD.P hB ht) hB.2
              have hP : va_P (dC, dI) vwCl [(h_p0_past, .inl (cyI, 2712, .inl v_past)), (h_p0_text, .inl (cyI, 60, .inl v_text)), (h_p0_told, .inl (cyI, 48, .inl v_told)), (h_p0, .inr (7, [.ref h_p0_now, .ref h_p0_then, .ref h_p0_past, .int v_kept, .ref h_p0_text, .int v_typed, .int v_thrown, .int v_at, .int v_isFault, .ref h_p0_told, .int v_tolds, .int r10.2.1, .int r10.2.2.1, .int r10.2.2.2.1, .int r10.2.2.2.2])), (h_p0_now, .inl (cyI, 452, .inl r18.2))] H := hP
              have hD : va_D A [(h_p0_past, .inl (cyI, 2712, .inl v_past)), (h_p0_text, .inl (cyI, 60, .inl v_text)), (h_p0_told, .inl (cyI, 48, .inl v_told)), (h_p0, .inr (7, [.ref h_p0_now, .ref h_p0_then, .ref h_p0_past, .int v_kept, .ref h_p0_text, .int v_typed, .int v_thrown, .int v_at, .int v_isFault, .ref h_p0_told, .int v_tolds, .int r10.2.1, .int r10.2.2.1, .int r10.2.2.2.1, .int r10.2.2.2.2])), (h_p0_now, .inl (cyI, 452, .inl r18.2))] := hD
              refine lv_pop hx hb dX7_bookAll_124 rfl ?_
              refine lv_iinc (v := (x1 + iI 1)) hx hb dX7_bookAll_125 hl (k := 2) rfl rfl (by decide) (rfl : _ = ([(1, .int (x1 + iI 1)), (3, .int (iI 0)), (0, .ref h_p0), (2, .int x2)] : List (Nat × Value))) (fun ls hl => ?_)
              refine lv_goto (tgt := 142) hx hb dX7_bookAll_128 (by decide) ?_
              refine lv_iinc (v := (x2 + iI 1)) hx hb dX7_bookAll_142 hl (k := 3) rfl rfl (by decide) (rfl : _ = ([(2, .int (x2 + iI 1)), (1, .int (x1 + iI 1)), (3, .int (iI 0)), (0, .ref h_p0)] : List (Nat × Value))) (fun ls hl => ?_)
              refine lv_goto (tgt := 31) hx hb dX7_bookAll_145 (by decide) ?_
              exact ih v_kept v_typed v_thrown v_at v_isFault v_tolds r10.2.1 r10.2.2.1 r10.2.2.2.1 r10.2.2.2.2 r18.2 v_past v_told (x1 + iI 1) (x2 + iI 1) _ _ (sb_P [(h_p0, .inr (7, [.ref h_p0_now, .ref h_p0_then, .ref h_p0_past, .int v_kept, .ref h_p0_text, .int v_typed, .int v_thrown, .int v_at, .int v_isFault, .ref h_p0_told, .int v_tolds, .int r10.2.1, .int r10.2.2.1, .int r10.2.2.2.1, .int r10.2.2.2.2])), (h_p0_now, .inl (cyI, 452, .inl r18.2)), (h_p0_past, .inl (cyI, 2712, .inl v_past)), (h_p0_text, .inl (cyI, 60, .inl v_text)), (h_p0_told, .inl (cyI, 48, .inl v_told))] hP [3, 4, 0, 1, 2] rfl) (sb_D [(h_p0, .inr (7, [.ref h_p0_now, .ref h_p0_then, .ref h_p0_past, .int v_kept, .ref h_p0_text, .int v_typed, .int v_thrown, .int v_at, .int v_isFault, .ref h_p0_told, .int v_tolds, .int r10.2.1, .int r10.2.2.1, .int r10.2.2.2.1, .int r10.2.2.2.2])), (h_p0_now, .inl (cyI, 452, .inl r18.2)), (h_p0_past, .inl (cyI, 2712, .inl v_past)), (h_p0_text, .inl (cyI, 60, .inl v_text)), (h_p0_told, .inl (cyI, 48, .inl v_told))] hD [3, 4, 0, 1, 2] (by decide) rfl) hS ls (lv_sub hl [3, 1, 0] rfl) h
        · have h := ipos c3 h
          refine lv_iconst (v := iI 1) hx hb dX7_bookAll_53 rfl ?_
          refine lv_goto (tgt := 58) hx hb dX7_bookAll_54 (by decide) ?_
          refine lv_istore_n hx hb dX7_bookAll_58 rfl hl (by decide) (rfl : _ = ([(3, .int (iI 1)), (0, .ref h_p0), (1, .int x1), (2, .int x2)] : List (Nat × Value))) (fun ls hl => ?_)
          refine lv_aload_n hx hb dX7_bookAll_59 rfl (lv_at hl 1 rfl) ?_
          refine va_get (D := (dC, dI)) (ci := 7) (v := .ref h_p0_now) (C := RX7) (T := TX7) (N := 15) hx hb hts m_X7_bookAll_0 hown hK hP 0 rfl rfl 0 (by decide) (hts (.fieldLink RX7 7 "SleeperBerthsModel" "now" "[I") m_X7_bookAll_3) (fun _ h9 => h9) rfl dX7_bookAll_60 ?_
          refine lv_bipush (v := iI 6) hx hb dX7_bookAll_63 (by decide) ?_
          obtain ⟨g21, h⟩ := gsome h
          refine va_iald (D := (dC, dI)) hx hb hK hP 1 0 rfl rfl g21 dX7_bookAll_65 ?_
          refine lv_bipush (v := iI 40) hx hb dX7_bookAll_66 (by decide) ?_
          refine lv_icmp_ge (tgt := 131) hx hb dX7_bookAll_68 (by decide) (fun c22 => ?_) (fun c22 => ?_)
          · have h := ipos c22 h
            refine lv_aload_n hx hb dX7_bookAll_131 rfl (lv_at hl 1 rfl) ?_
            refine va_get (D := (dC, dI)) (ci := 7) (v := .ref h_p0_now) (C := RX7) (T := TX7) (N := 15) hx hb hts m_X7_bookAll_0 hown hK hP 0 rfl rfl 0 (by decide) (hts (.fieldLink RX7 7 "SleeperBerthsModel" "now" "[I") m_X7_bookAll_3) (fun _ h9 => h9) rfl dX7_bookAll_132 ?_
            refine lv_bipush (v := iI 9) hx hb dX7_bookAll_135 (by decide) ?_
            refine lv_dup2_11 hx hb dX7_bookAll_137 rfl rfl ?_
            obtain ⟨g23, h⟩ := gsome h
            refine va_iald (D := (dC, dI)) hx hb hK hP 1 0 rfl rfl g23 dX7_bookAll_138 ?_
            refine lv_iconst (v := iI 1) hx hb dX7_bookAll_139 rfl ?_
            refine lv_iadd hx hb dX7_bookAll_140 ?_
            obtain ⟨g24, h⟩ := gsome h
            refine va_iast (D := (dC, dI)) hx hb hK hP hD hS 1 0 rfl rfl g24 dX7_bookAll_141 (fun H locs hP hD hS => ?_)
            have hP : va_P (dC, dI) vwCl [(h_p0, .inr (7, [.ref h_p0_now, .ref h_p0_then, .ref h_p0_past, .int v_kept, .ref h_p0_text, .int v_typed, .int v_thrown, .int v_at, .int v_isFault, .ref h_p0_told, .int v_tolds, .int v_one, .int v_other, .int v_change, .int v_woken])), (h_p0_now, .inl (cyI, 452, .inl (upd v_now (iI 9).toNatClampNeg ((v_now (iI 9).toNatClampNeg) + iI 1)))), (h_p0_past, .inl (cyI, 2712, .inl v_past)), (h_p0_text, .inl (cyI, 60, .inl v_text)), (h_p0_told, .inl (cyI, 48, .inl v_told))] H := hP
            have hD : va_D A [(h_p0, .inr (7, [.ref h_p0_now, .ref h_p0_then, .ref h_p0_past, .int v_kept, .ref h_p0_text, .int v_typed, .int v_thrown, .int v_at, .int v_isFault, .ref h_p0_told, .int v_tolds, .int v_one, .int v_other, .int v_change, .int v_woken])), (h_p0_now, .inl (cyI, 452, .inl (upd v_now (iI 9).toNatClampNeg ((v_now (iI 9).toNatClampNeg) + iI 1)))), (h_p0_past, .inl (cyI, 2712, .inl v_past)), (h_p0_text, .inl (cyI, 60, .inl v_text)), (h_p0_told, .inl (cyI, 48, .inl v_told))] := hD
            refine lv_iinc (v := (x2 + iI 1)) hx hb dX7_bookAll_142 hl (k := 3) rfl rfl (by decide) (rfl : _ = ([(2, .int (x2 + iI 1)), (3, .int (iI 1)), (0, .ref h_p0), (1, .int x1)] : List (Nat × Value))) (fun ls hl => ?_)
            refine lv_goto (tgt := 31) hx hb dX7_bookAll_145 (by decide) ?_
            exact ih v_kept v_typed v_thrown v_at v_isFault v_tolds v_one v_other v_change v_woken (upd v_now (iI 9).toNatClampNeg ((v_now (iI 9).toNatClampNeg) + iI 1)) v_past v_told x1 (x2 + iI 1) _ _ hP hD hS ls (lv_sub hl [2, 3, 0] rfl) h
          · have h := ineg c22 h
            refine lv_aload_n hx hb dX7_bookAll_71 rfl (lv_at hl 1 rfl) ?_
            refine lv_aload_n hx hb dX7_bookAll_72 rfl (lv_at hl 1 rfl) ?_
            refine va_get (D := (dC, dI)) (ci := 7) (v := .ref h_p0_now) (C := RX7) (T := TX7) (N := 15) hx hb hts m_X7_bookAll_0 hown hK hP 0 rfl rfl 0 (by decide) (hts (.fieldLink RX7 7 "SleeperBerthsModel" "now" "[I") m_X7_bookAll_3) (fun _ h9 => h9) rfl dX7_bookAll_73 ?_
            refine lv_aload_n hx hb dX7_bookAll_76 rfl (lv_at hl 1 rfl) ?_
            refine va_get (D := (dC, dI)) (ci := 7) (v := .ref h_p0_told) (C := RX7) (T := TX7) (N := 15) hx hb hts m_X7_bookAll_0 hown hK hP 0 rfl rfl 9 (by decide) (hts (.fieldLink RX7 22 "SleeperBerthsModel" "told" "[I") m_X7_bookAll_2) (fun _ h9 => h9) rfl dX7_bookAll_77 ?_
            refine lv_iconst (v := iI 3) hx hb dX7_bookAll_80 rfl ?_
            refine lv_iload_n hx hb dX7_bookAll_81 rfl (lv_at hl 3 rfl) ?_
            refine lv_imul hx hb dX7_bookAll_82 ?_
            obtain ⟨g25, h⟩ := gsome h
            refine va_iald (D := (dC, dI)) hx hb hK hP 4 0 rfl rfl g25 dX7_bookAll_83 ?_
            refine lv_aload_n hx hb dX7_bookAll_84 rfl (lv_at hl 1 rfl) ?_
            refine va_get (D := (dC, dI)) (ci := 7) (v := .ref h_p0_told) (C := RX7) (T := TX7) (N := 15) hx hb hts m_X7_bookAll_0 hown hK hP 0 rfl rfl 9 (by decide) (hts (.fieldLink RX7 22 "SleeperBerthsModel" "told" "[I") m_X7_bookAll_2) (fun _ h9 => h9) rfl dX7_bookAll_85 ?_
            refine lv_iconst (v := iI 3) hx hb dX7_bookAll_88 rfl ?_
            refine lv_iload_n hx hb dX7_bookAll_89 rfl (lv_at hl 3 rfl) ?_
            refine lv_imul hx hb dX7_bookAll_90 ?_
            refine lv_iconst (v := iI 1) hx hb dX7_bookAll_91 rfl ?_
            refine lv_iadd hx hb dX7_bookAll_92 ?_
            obtain ⟨g26, h⟩ := gsome h
            refine va_iald (D := (dC, dI)) hx hb hK hP 4 0 rfl rfl g26 dX7_bookAll_93 ?_
            refine lv_iload_n hx hb dX7_bookAll_94 rfl (lv_at hl 0 rfl) ?_
            obtain ⟨r27, e28, h⟩ := bsome h
            have hPc := sb_P [(h_p0, .inr (7, [.ref h_p0_now, .ref h_p0_then, .ref h_p0_past, .int v_kept, .ref h_p0_text, .int v_typed, .int v_thrown, .int v_at, .int v_isFault, .ref h_p0_told, .int v_tolds, .int v_one, .int v_other, .int v_change, .int v_woken])), (h_p0_now, .inl (cyI, 452, .inl v_now))] hP [0, 1] rfl
            have hDc := sb_D [(h_p0, .inr (7, [.ref h_p0_now, .ref h_p0_then, .ref h_p0_past, .int v_kept, .ref h_p0_text, .int v_typed, .int v_thrown, .int v_at, .int v_isFault, .ref h_p0_told, .int v_tolds, .int v_one, .int v_other, .int v_change, .int v_woken])), (h_p0_now, .inl (cyI, 452, .inl v_now))] hD [0, 1] (by decide) rfl
            have hFc := va_free (wc := [(h_p0, .inr (7, [.ref h_p0_now, .ref h_p0_then, .ref h_p0_past, .int v_kept, .ref h_p0_text, .int v_typed, .int v_thrown, .int v_at, .int v_isFault, .ref h_p0_told, .int v_tolds, .int v_one, .int v_other, .int v_change, .int v_woken])), (h_p0_now, .inl (cyI, 452, .inl v_now))]) hD hS hA [0, 1] rfl
            refine va_calli (va_runV (As := [.ref h_p0_now, .int (v_told (iI 3 * x2).toNatClampNeg), .int (v_told ((iI 3 * x2) + iI 1).toNatClampNeg), .int (iI 1)]) (rest := []) ⟨hx, hb, hml, hown, hts⟩ (c_X7_finds l dC dI cyI cyJ cyT h_p0 h_p0_now h_p0_then h_p0_past h_p0_text h_p0_told h_p0_now H.size v_kept v_typed v_thrown v_at v_isFault v_tolds v_one v_other v_change v_woken v_now (v_told (iI 3 * x2).toNatClampNeg) (v_told ((iI 3 * x2) + iI 1).toNatClampNeg) (iI 1) n r27 e28) (cwV 4 hts gX7_bookAll_X7_finds rfl rfl rfl (by decide +kernel) ⟨Nat.le_of_ble_eq_true rfl, Nat.le_of_ble_eq_true rfl⟩) ⟨PRE.blind, va_recv hK hPc (ci := 7) (q0 := 0) rfl rfl, PRE.go hK hPc hDc hNW⟩ rfl rfl hl.1 rfl (lv_room (Nat.le_of_ble_eq_true rfl)) dX7_bookAll_95 ⟨Nat.zero_le _, Nat.zero_le _⟩) hS (fun q _ h => hFc q h) hFc (fun z29 u t H locs ht hvm hw hB hz1 hk1 hS => ?_)
            subst z29
            obtain ⟨hP, hD⟩ := va_join (wr := [(h_p0_past, .inl (cyI, 2712, .inl v_past)), (h_p0_text, .inl (cyI, 60, .inl v_text)), (h_p0_told, .inl (cyI, 48, .inl v_told))]) (w1 := [(h_p0, .inr (7, [.ref h_p0_now, .ref h_p0_then, .ref h_p0_past, .int v_kept, .ref h_p0_text, .int v_typed, .int v_thrown, .int v_at, .int v_isFault, .ref h_p0_told, .int v_tolds, .int r27.2.1, .int r27.2.2.1, .int r27.2.2.2.1, .int r27.2.2.2.2])), (h_p0_now, .inl (cyI, 452, .inl v_now))]) hP hD [0, 1] [2, 3, 4] rfl rfl (by decide) (by decide) hk1 hFc (WLD.P hB ht) hB.2
            have hP : va_P (dC, dI) vwCl [(h_p0_past, .inl (cyI, 2712, .inl v_past)), (h_p0_text, .inl (cyI, 60, .inl v_text)), (h_p0_told, .inl (cyI, 48, .inl v_told)), (h_p0, .inr (7, [.ref h_p0_now, .ref h_p0_then, .ref h_p0_past, .int v_kept, .ref h_p0_text, .int v_typed, .int v_thrown, .int v_at, .int v_isFault, .ref h_p0_told, .int v_tolds, .int r27.2.1, .int r27.2.2.1, .int r27.2.2.2.1, .int r27.2.2.2.2])), (h_p0_now, .inl (cyI, 452, .inl v_now))] H := hP
            have hD : va_D A [(h_p0_past, .inl (cyI, 2712, .inl v_past)), (h_p0_text, .inl (cyI, 60, .inl v_text)), (h_p0_told, .inl (cyI, 48, .inl v_told)), (h_p0, .inr (7, [.ref h_p0_now, .ref h_p0_then, .ref h_p0_past, .int v_kept, .ref h_p0_text, .int v_typed, .int v_thrown, .int v_at, .int v_isFault, .ref h_p0_told, .int v_tolds, .int r27.2.1, .int r27.2.2.1, .int r27.2.2.2.1, .int r27.2.2.2.2])), (h_p0_now, .inl (cyI, 452, .inl v_now))] := hD
            refine lv_if_eq (tgt := 131) hx hb dX7_bookAll_98 (by decide) (fun c30 => ?_) (fun c30 => ?_)
            · have h := ipos c30 h
              refine lv_aload_n hx hb dX7_bookAll_131 rfl (lv_at hl 1 rfl) ?_
              refine va_get (D := (dC, dI)) (ci := 7) (v := .ref h_p0_now) (C := RX7) (T := TX7) (N := 15) hx hb hts m_X7_bookAll_0 hown hK hP 3 rfl rfl 0 (by decide) (hts (.fieldLink RX7 7 "SleeperBerthsModel" "now" "[I") m_X7_bookAll_3) (fun _ h9 => h9) rfl dX7_bookAll_132 ?_
              refine lv_bipush (v := iI 9) hx hb dX7_bookAll_135 (by decide) ?_
              refine lv_dup2_11 hx hb dX7_bookAll_137 rfl rfl ?_
              obtain ⟨g31, h⟩ := gsome h
              refine va_iald (D := (dC, dI)) hx hb hK hP 4 0 rfl rfl g31 dX7_bookAll_138 ?_
              refine lv_iconst (v := iI 1) hx hb dX7_bookAll_139 rfl ?_
              refine lv_iadd hx hb dX7_bookAll_140 ?_
              obtain ⟨g32, h⟩ := gsome h
              refine va_iast (D := (dC, dI)) hx hb hK hP hD hS 4 0 rfl rfl g32 dX7_bookAll_141 (fun H locs hP hD hS => ?_)
              have hP : va_P (dC, dI) vwCl [(h_p0_past, .inl (cyI, 2712, .inl v_past)), (h_p0_text, .inl (cyI, 60, .inl v_text)), (h_p0_told, .inl (cyI, 48, .inl v_told)), (h_p0, .inr (7, [.ref h_p0_now, .ref h_p0_then, .ref h_p0_past, .int v_kept, .ref h_p0_text, .int v_typed, .int v_thrown, .int v_at, .int v_isFault, .ref h_p0_told, .int v_tolds, .int r27.2.1, .int r27.2.2.1, .int r27.2.2.2.1, .int r27.2.2.2.2])), (h_p0_now, .inl (cyI, 452, .inl (upd v_now (iI 9).toNatClampNeg ((v_now (iI 9).toNatClampNeg) + iI 1))))] H := hP
              have hD : va_D A [(h_p0_past, .inl (cyI, 2712, .inl v_past)), (h_p0_text, .inl (cyI, 60, .inl v_text)), (h_p0_told, .inl (cyI, 48, .inl v_told)), (h_p0, .inr (7, [.ref h_p0_now, .ref h_p0_then, .ref h_p0_past, .int v_kept, .ref h_p0_text, .int v_typed, .int v_thrown, .int v_at, .int v_isFault, .ref h_p0_told, .int v_tolds, .int r27.2.1, .int r27.2.2.1, .int r27.2.2.2.1, .int r27.2.2.2.2])), (h_p0_now, .inl (cyI, 452, .inl (upd v_now (iI 9).toNatClampNeg ((v_now (iI 9).toNatClampNeg) + iI 1))))] := hD
              refine lv_iinc (v := (x2 + iI 1)) hx hb dX7_bookAll_142 hl (k := 3) rfl rfl (by decide) (rfl : _ = ([(2, .int (x2 + iI 1)), (3, .int (iI 1)), (0, .ref h_p0), (1, .int x1)] : List (Nat × Value))) (fun ls hl => ?_)
              refine lv_goto (tgt := 31) hx hb dX7_bookAll_145 (by decide) ?_
              exact ih v_kept v_typed v_thrown v_at v_isFault v_tolds r27.2.1 r27.2.2.1 r27.2.2.2.1 r27.2.2.2.2 (upd v_now (iI 9).toNatClampNeg ((v_now (iI 9).toNatClampNeg) + iI 1)) v_past v_told x1 (x2 + iI 1) _ _ (sb_P [(h_p0, .inr (7, [.ref h_p0_now, .ref h_p0_then, .ref h_p0_past, .int v_kept, .ref h_p0_text, .int v_typed, .int v_thrown, .int v_at, .int v_isFault, .ref h_p0_told, .int v_tolds, .int r27.2.1, .int r27.2.2.1, .int r27.2.2.2.1, .int r27.2.2.2.2])), (h_p0_now, .inl (cyI, 452, .inl (upd v_now (iI 9).toNatClampNeg ((v_now (iI 9).toNatClampNeg) + iI 1)))), (h_p0_past, .inl (cyI, 2712, .inl v_past)), (h_p0_text, .inl (cyI, 60, .inl v_text)), (h_p0_told, .inl (cyI, 48, .inl v_told))] hP [3, 4, 0, 1, 2] rfl) (sb_D [(h_p0, .inr (7, [.ref h_p0_now, .ref h_p0_then, .ref h_p0_past, .int v_kept, .ref h_p0_text, .int v_typed, .int v_thrown, .int v_at, .int v_isFault, .ref h_p0_told, .int v_tolds, .int r27.2.1, .int r27.2.2.1, .int r27.2.2.2.1, .int r27.2.2.2.2])), (h_p0_now, .inl (cyI, 452, .inl (upd v_now (iI 9).toNatClampNeg ((v_now (iI 9).toNatClampNeg) + iI 1)))), (h_p0_past, .inl (cyI, 2712, .inl v_past)), (h_p0_text, .inl (cyI, 60, .inl v_text)), (h_p0_told, .inl (cyI, 48, .inl v_told))] hD [3, 4, 0, 1, 2] (by decide) rfl) hS ls (lv_sub hl [2, 3, 0] rfl) h
            · have h := ineg c30 h
              refine lv_aload_n hx hb dX7_bookAll_101 rfl (lv_at hl 1 rfl) ?_
              refine lv_aload_n hx hb dX7_bookAll_102 rfl (lv_at hl 1 rfl) ?_
              refine va_get (D := (dC, dI)) (ci := 7) (v := .ref h_p0_told) (C := RX7) (T := TX7) (N := 15) hx hb hts m_X7_bookAll_0 hown hK hP 3 rfl rfl 9 (by decide) (hts (.fieldLink RX7 22 "SleeperBerthsModel" "told" "[I") m_X7_bookAll_2) (fun _ h9 => h9) rfl dX7_bookAll_103 ?_
              refine lv_iconst (v := iI 3) hx hb dX7_bookAll_106 rfl ?_
              refine lv_iload_n hx hb dX7_bookAll_107 rfl (lv_at hl 3 rfl) ?_
              refine lv_imul hx hb dX7_bookAll_108 ?_
              obtain ⟨g33, h⟩ := gsome h
              refine va_iald (D := (dC, dI)) hx hb hK hP 2 0 rfl rfl g33 dX7_bookAll_109 ?_
              refine lv_aload_n hx hb dX7_bookAll_110 rfl (lv_at hl 1 rfl) ?_
              refine va_get (D := (dC, dI)) (ci := 7) (v := .ref h_p0_told) (C := RX7) (T := TX7) (N := 15) hx hb hts m_X7_bookAll_0 hown hK hP 3 rfl rfl 9 (by decide) (hts (.fieldLink RX7 22 "SleeperBerthsModel" "told" "[I") m_X7_bookAll_2) (fun _ h9 => h9) rfl dX7_bookAll_111 ?_
              refine lv_iconst (v := iI 3) hx hb dX7_bookAll_114 rfl ?_
              refine lv_iload_n hx hb dX7_bookAll_115 rfl (lv_at hl 3 rfl) ?_
              refine lv_imul hx hb dX7_bookAll_116 ?_
              refine lv_iconst (v := iI 1) hx hb dX7_bookAll_117 rfl ?_
              refine lv_iadd hx hb dX7_bookAll_118 ?_
              obtain ⟨g34, h⟩ := gsome h
              refine va_iald (D := (dC, dI)) hx hb hK hP 2 0 rfl rfl g34 dX7_bookAll_119 ?_
              refine lv_iload_n hx hb dX7_bookAll_120 rfl (lv_at hl 0 rfl) ?_
              obtain ⟨r35, e36, h⟩ := bsome h
              have hPc := sb_P [(h_p0, .inr (7, [.ref h_p0_now, .ref h_p0_then, .ref h_p0_past, .int v_kept, .ref h_p0_text, .int v_typed, .int v_thrown, .int v_at, .int v_isFault, .ref h_p0_told, .int v_tolds, .int r27.2.1, .int r27.2.2.1, .int r27.2.2.2.1, .int r27.2.2.2.2])), (h_p0_now, .inl (cyI, 452, .inl v_now))] hP [3, 4] rfl
              have hDc := sb_D [(h_p0, .inr (7, [.ref h_p0_now, .ref h_p0_then, .ref h_p0_past, .int v_kept, .ref h_p0_text, .int v_typed, .int v_thrown, .int v_at, .int v_isFault, .ref h_p0_told, .int v_tolds, .int r27.2.1, .int r27.2.2.1, .int r27.2.2.2.1, .int r27.2.2.2.2])), (h_p0_now, .inl (cyI, 452, .inl v_now))] hD [3, 4] (by decide) rfl
              have hFc := va_free (wc := [(h_p0, .inr (7, [.ref h_p0_now, .ref h_p0_then, .ref h_p0_past, .int v_kept, .ref h_p0_text, .int v_typed, .int v_thrown, .int v_at, .int v_isFault, .ref h_p0_told, .int v_tolds, .int r27.2.1, .int r27.2.2.1, .int r27.2.2.2.1, .int r27.2.2.2.2])), (h_p0_now, .inl (cyI, 452, .inl v_now))]) hD hS hA [3, 4] rfl
              refine va_calli (va_runV (As := [.int (v_told (iI 3 * x2).toNatClampNeg), .int (v_told ((iI 3 * x2) + iI 1).toNatClampNeg), .int (iI 1)]) (rest := []) ⟨hx, hb, hml, hown, hts⟩ (c_X7_comes l dC dI cyI cyJ cyT h_p0 h_p0_now h_p0_then h_p0_past h_p0_text h_p0_told H.size v_kept v_typed v_thrown v_at v_isFault v_tolds r27.2.1 r27.2.2.1 r27.2.2.2.1 r27.2.2.2.2 v_now (v_told (iI 3 * x2).toNatClampNeg) (v_told ((iI 3 * x2) + iI 1).toNatClampNeg) (iI 1) n r35 e36) (cwV 3 hts gX7_bookAll_X7_comes rfl rfl rfl (by decide +kernel) ⟨Nat.le_of_ble_eq_true rfl, Nat.le_of_ble_eq_true rfl⟩) ⟨PRE.blind, va_recv hK hPc (ci := 7) (q0 := 0) rfl rfl, PRE.go hK hPc hDc hNW⟩ rfl rfl hl.1 rfl (lv_room (Nat.le_of_ble_eq_true rfl)) dX7_bookAll_121 ⟨Nat.zero_le _, Nat.zero_le _⟩) hS (fun q _ h => hFc q h) hFc (fun z37 u t H locs ht hvm hw hB hz1 hk1 hS => ?_)
              subst z37
              obtain ⟨hP, hD⟩ := va_join (wr := [(h_p0_past, .inl (cyI, 2712, .inl v_past)), (h_p0_text, .inl (cyI, 60, .inl v_text)), (h_p0_told, .inl (cyI, 48, .inl v_told))]) (w1 := [(h_p0, .inr (7, [.ref h_p0_now, .ref h_p0_then, .ref h_p0_past, .int v_kept, .ref h_p0_text, .int v_typed, .int v_thrown, .int v_at, .int v_isFault, .ref h_p0_told, .int v_tolds, .int r27.2.1, .int r27.2.2.1, .int r27.2.2.2.1, .int r27.2.2.2.2])), (h_p0_now, .inl (cyI, 452, .inl r35.2))]) hP hD [3, 4] [0, 1, 2] rfl rfl (by decide) (by decide) hk1 hFc (WLD.P hB ht) hB.2
              have hP : va_P (dC, dI) vwCl [(h_p0_past, .inl (cyI, 2712, .inl v_past)), (h_p0_text, .inl (cyI, 60, .inl v_text)), (h_p0_told, .inl (cyI, 48, .inl v_told)), (h_p0, .inr (7, [.ref h_p0_now, .ref h_p0_then, .ref h_p0_past, .int v_kept, .ref h_p0_text, .int v_typed, .int v_thrown, .int v_at, .int v_isFault, .ref h_p0_told, .int v_tolds, .int r27.2.1, .int r27.2.2.1, .int r27.2.2.2.1, .int r27.2.2.2.2])), (h_p0_now, .inl (cyI, 452, .inl r35.2))] H := hP
              have hD : va_D A [(h_p0_past, .inl (cyI, 2712, .inl v_past)), (h_p0_text, .inl (cyI, 60, .inl v_text)), (h_p0_told, .inl (cyI, 48, .inl v_told)), (h_p0, .inr (7, [.ref h_p0_now, .ref h_p0_then, .ref h_p0_past, .int v_kept, .ref h_p0_text, .int v_typed, .int v_thrown, .int v_at, .int v_isFault, .ref h_p0_told, .int v_tolds, .int r27.2.1, .int r27.2.2.1, .int r27.2.2.2.1, .int r27.2.2.2.2])), (h_p0_now, .inl (cyI, 452, .inl r35.2))] := hD
              refine lv_pop hx hb dX7_bookAll_124 rfl ?_
              refine lv_iinc (v := (x1 + iI 1)) hx hb dX7_bookAll_125 hl (k := 2) rfl rfl (by decide) (rfl : _ = ([(1, .int (x1 + iI 1)), (3, .int (iI 1)), (0, .ref h_p0), (2, .int x2)] : List (Nat × Value))) (fun ls hl => ?_)
              refine lv_goto (tgt := 142) hx hb dX7_bookAll_128 (by decide) ?_
              refine lv_iinc (v := (x2 + iI 1)) hx hb dX7_bookAll_142 hl (k := 3) rfl rfl (by decide) (rfl : _ = ([(2, .int (x2 + iI 1)), (1, .int (x1 + iI 1)), (3, .int (iI 1)), (0, .ref h_p0)] : List (Nat × Value))) (fun ls hl => ?_)
              refine lv_goto (tgt := 31) hx hb dX7_bookAll_145 (by decide) ?_
              exact ih v_kept v_typed v_thrown v_at v_isFault v_tolds r27.2.1 r27.2.2.1 r27.2.2.2.1 r27.2.2.2.2 r35.2 v_past v_told (x1 + iI 1) (x2 + iI 1) _ _ (sb_P [(h_p0, .inr (7, [.ref h_p0_now, .ref h_p0_then, .ref h_p0_past, .int v_kept, .ref h_p0_text, .int v_typed, .int v_thrown, .int v_at, .int v_isFault, .ref h_p0_told, .int v_tolds, .int r27.2.1, .int r27.2.2.1, .int r27.2.2.2.1, .int r27.2.2.2.2])), (h_p0_now, .inl (cyI, 452, .inl r35.2)), (h_p0_past, .inl (cyI, 2712, .inl v_past)), (h_p0_text, .inl (cyI, 60, .inl v_text)), (h_p0_told, .inl (cyI, 48, .inl v_told))] hP [3, 4, 0, 1, 2] rfl) (sb_D [(h_p0, .inr (7, [.ref h_p0_now, .ref h_p0_then, .ref h_p0_past, .int v_kept, .ref h_p0_text, .int v_typed, .int v_thrown, .int v_at, .int v_isFault, .ref h_p0_told, .int v_tolds, .int r27.2.1, .int r27.2.2.1, .int r27.2.2.2.1, .int r27.2.2.2.2])), (h_p0_now, .inl (cyI, 452, .inl r35.2)), (h_p0_past, .inl (cyI, 2712, .inl v_past)), (h_p0_text, .inl (cyI, 60, .inl v_text)), (h_p0_told, .inl (cyI, 48, .inl v_told))] hD [3, 4, 0, 1, 2] (by decide) rfl) hS ls (lv_sub hl [3, 1, 0] rfl) h
  have hl := lv_entry ([.ref h_p0]) (n := 4) (Nat.le_of_ble_eq_true rfl)
  rw [lg_entry_eq]
  generalize (lg_sl ([.ref h_p0]) ++ List.replicate (4 - (lg_sl ([.ref h_p0])).length) Slot.unset).toArray = ls at hl ⊢
  have hl : lv_has ls 4 [(0, .ref h_p0)] := hl
  unfold s_X7_bookAll at h
  refine lv_aload_n hx hb dX7_bookAll_0 rfl (lv_at hl 0 rfl) ?_
  refine lv_iconst (v := iI 0) hx hb dX7_bookAll_1 rfl ?_
  refine va_put (D := (dC, dI)) (ci := 7) (v := .int (iI 0)) (ty := .int) (C := RX7) (T := TX7) (N := 15) hx hb hts m_X7_bookAll_0 tyX7 tyX7_ok nmX7 hown hK hP hD hS 0 rfl rfl 6 (by decide) (hts (.fieldLink RX7 25 "SleeperBerthsModel" "thrown" "I") m_X7_bookAll_4) (fun _ h9 => h9) rfl (by decide +kernel) rfl rfl (Nat.le_of_ble_eq_true rfl) dX7_bookAll_2 (fun H locs hP hD hS => ?_)
  have hP : va_P (dC, dI) vwCl [(h_p0, .inr (7, [.ref h_p0_now, .ref h_p0_then, .ref h_p0_past, .int v_kept, .ref h_p0_text, .int v_typed, .int (iI 0), .int v_at, .int v_isFault, .ref h_p0_told, .int v_tolds, .int v_one, .int v_other, .int v_change, .int v_woken])), (h_p0_now, .inl (cyI, 452, .inl v_now)), (h_p0_past, .inl (cyI, 2712, .inl v_past)), (h_p0_text, .inl (cyI, 60, .inl v_text)), (h_p0_told, .inl (cyI, 48, .inl v_told))] H := hP
  have hD : va_D A [(h_p0, .inr (7, [.ref h_p0_now, .ref h_p0_then, .ref h_p0_past, .int v_kept, .ref h_p0_text, .int v_typed, .int (iI 0), .int v_at, .int v_isFault, .ref h_p0_told, .int v_tolds, .int v_one, .int v_other, .int v_change, .int v_woken])), (h_p0_now, .inl (cyI, 452, .inl v_now)), (h_p0_past, .inl (cyI, 2712, .inl v_past)), (h_p0_text, .inl (cyI, 60, .inl v_text)), (h_p0_told, .inl (cyI, 48, .inl v_told))] := hD
  refine lv_aload_n hx hb dX7_bookAll_5 rfl (lv_at hl 0 rfl) ?_
  obtain ⟨r38, e39, h⟩ := bsome h
  have hPc := sb_P [(h_p0, .inr (7, [.ref h_p0_now, .ref h_p0_then, .ref h_p0_past, .int v_kept, .ref h_p0_text, .int v_typed, .int (iI 0), .int v_at, .int v_isFault, .ref h_p0_told, .int v_tolds, .int v_one, .int v_other, .int v_change, .int v_woken])), (h_p0_text, .inl (cyI, 60, .inl v_text)), (h_p0_told, .inl (cyI, 48, .inl v_told))] hP [0, 3, 4] rfl
  have hDc := sb_D [(h_p0, .inr (7, [.ref h_p0_now, .ref h_p0_then, .ref h_p0_past, .int v_kept, .ref h_p0_text, .int v_typed, .int (iI 0), .int v_at, .int v_isFault, .ref h_p0_told, .int v_tolds, .int v_one, .int v_other, .int v_change, .int v_woken])), (h_p0_text, .inl (cyI, 60, .inl v_text)), (h_p0_told, .inl (cyI, 48, .inl v_told))] hD [0, 3, 4] (by decide) rfl
  have hFc := va_free (wc := [(h_p0, .inr (7, [.ref h_p0_now, .ref h_p0_then, .ref h_p0_past, .int v_kept, .ref h_p0_text, .int v_typed, .int (iI 0), .int v_at, .int v_isFault, .ref h_p0_told, .int v_tolds, .int v_one, .int v_other, .int v_change, .int v_woken])), (h_p0_text, .inl (cyI, 60, .inl v_text)), (h_p0_told, .inl (cyI, 48, .inl v_told))]) hD hS hA [0, 3, 4] rfl
  refine va_calli (va_runV (As := []) (rest := []) ⟨hx, hb, hml, hown, hts⟩ (c_X7_isText l dC dI cyI cyJ cyT h_p0 h_p0_now h_p0_then h_p0_past h_p0_text h_p0_told H.size v_kept v_typed (iI 0) v_at v_isFault v_tolds v_one v_other v_change v_woken v_text v_told n r38 e39) (cwV 0 hts gX7_bookAll_X7_isText rfl rfl rfl (by decide +kernel) ⟨Nat.le_of_ble_eq_true rfl, Nat.le_of_ble_eq_true rfl⟩) ⟨PRE.blind, va_recv hK hPc (ci := 7) (q0 := 0) rfl rfl, PRE.go hK hPc hDc hNW⟩ rfl rfl hl.1 rfl (lv_room (Nat.le_of_ble_eq_true rfl)) dX7_bookAll_6 ⟨Nat.zero_le _, Nat.zero_le _⟩) hS (fun q _ h => hFc q h) hFc (fun z40 u t H locs ht hvm hw hB hz1 hk1 hS => ?_)
  subst z40
  obtain ⟨hP, hD⟩ := va_join (wr := [(h_p0_now, .inl (cyI, 452, .inl v_now)), (h_p0_past, .inl (cyI, 2712, .inl v_past))]) (w1 := [(h_p0, .inr (7, [.ref h_p0_now, .ref h_p0_then, .ref h_p0_past, .int v_kept, .ref h_p0_text, .int v_typed, .int (iI 0), .int r38.2.1, .int r38.2.2.1, .ref h_p0_told, .int r38.2.2.2.1, .int v_one, .int v_other, .int v_change, .int v_woken])), (h_p0_text, .inl (cyI, 60, .inl v_text)), (h_p0_told, .inl (cyI, 48, .inl r38.2.2.2.2))]) hP hD [0, 3, 4] [1, 2] rfl rfl (by decide) (by decide) hk1 hFc (WLD.P hB ht) hB.2
  have hP : va_P (dC, dI) vwCl [(h_p0_now, .inl (cyI, 452, .inl v_now)), (h_p0_past, .inl (cyI, 2712, .inl v_past)), (h_p0, .inr (7, [.ref h_p0_now, .ref h_p0_then, .ref h_p0_past, .int v_kept, .ref h_p0_text, .int v_typed, .int (iI 0), .int r38.2.1, .int r38.2.2.1, .ref h_p0_told, .int r38.2.2.2.1, .int v_one, .int v_other, .int v_change, .int v_woken])), (h_p0_text, .inl (cyI, 60, .inl v_text)), (h_p0_told, .inl (cyI, 48, .inl r38.2.2.2.2))] H := hP
  have hD : va_D A [(h_p0_now, .inl (cyI, 452, .inl v_now)), (h_p0_past, .inl (cyI, 2712, .inl v_past)), (h_p0, .inr (7, [.ref h_p0_now, .ref h_p0_then, .ref h_p0_past, .int v_kept, .ref h_p0_text, .int v_typed, .int (iI 0), .int r38.2.1, .int r38.2.2.1, .ref h_p0_told, .int r38.2.2.2.1, .int v_one, .int v_other, .int v_change, .int v_woken])), (h_p0_text, .inl (cyI, 60, .inl v_text)), (h_p0_told, .inl (cyI, 48, .inl r38.2.2.2.2))] := hD
  refine lv_if_ne (tgt := 18) hx hb dX7_bookAll_9 (by decide) (fun c41 => ?_) (fun c41 => ?_)
  · have h := ineg c41 h
    refine lv_aload_n hx hb dX7_bookAll_18 rfl (lv_at hl 0 rfl) ?_
    obtain ⟨r42, e43, h⟩ := bsome h
    have hPc := sb_P [(h_p0, .inr (7, [.ref h_p0_now, .ref h_p0_then, .ref h_p0_past, .int v_kept, .ref h_p0_text, .int v_typed, .int (iI 0), .int r38.2.1, .int r38.2.2.1, .ref h_p0_told, .int r38.2.2.2.1, .int v_one, .int v_other, .int v_change, .int v_woken])), (h_p0_now, .inl (cyI, 452, .inl v_now)), (h_p0_past, .inl (cyI, 2712, .inl v_past))] hP [2, 0, 1] rfl
    have hDc := sb_D [(h_p0, .inr (7, [.ref h_p0_now, .ref h_p0_then, .ref h_p0_past, .int v_kept, .ref h_p0_text, .int v_typed, .int (iI 0), .int r38.2.1, .int r38.2.2.1, .ref h_p0_told, .int r38.2.2.2.1, .int v_one, .int v_other, .int v_change, .int v_woken])), (h_p0_now, .inl (cyI, 452, .inl v_now)), (h_p0_past, .inl (cyI, 2712, .inl v_past))] hD [2, 0, 1] (by decide) rfl
    have hFc := va_free (wc := [(h_p0, .inr (7, [.ref h_p0_now, .ref h_p0_then, .ref h_p0_past, .int v_kept, .ref h_p0_text, .int v_typed, .int (iI 0), .int r38.2.1, .int r38.2.2.1, .ref h_p0_told, .int r38.2.2.2.1, .int v_one, .int v_other, .int v_change, .int v_woken])), (h_p0_now, .inl (cyI, 452, .inl v_now)), (h_p0_past, .inl (cyI, 2712, .inl v_past))]) hD hS hA [2, 0, 1] rfl
    refine va_callv (va_runV (As := []) (rest := []) ⟨hx, hb, hml, hown, hts⟩ (c_X7_saves l dC dI cyI cyJ cyT h_p0 h_p0_now h_p0_then h_p0_past h_p0_text h_p0_told H.size v_kept v_typed (iI 0) r38.2.1 r38.2.2.1 r38.2.2.2.1 v_one v_other v_change v_woken v_now v_past n r42 e43) (cwV 0 hts gX7_bookAll_X7_saves rfl rfl rfl (by decide +kernel) ⟨Nat.le_of_ble_eq_true rfl, Nat.le_of_ble_eq_true rfl⟩) ⟨PRE.blind, va_recv hK hPc (ci := 7) (q0 := 0) rfl rfl, PRE.go hK hPc hDc hNW⟩ rfl rfl hl.1 rfl (lv_room (Nat.le_of_ble_eq_true rfl)) dX7_bookAll_19 ⟨Nat.zero_le _, Nat.zero_le _⟩) hS (fun q _ h => hFc q h) hFc (fun u t H locs ht hvm hw hB hz1 hk1 hS => ?_)
    obtain ⟨hP, hD⟩ := va_join (wr := [(h_p0_text, .inl (cyI, 60, .inl v_text)), (h_p0_told, .inl (cyI, 48, .inl r38.2.2.2.2))]) (w1 := [(h_p0, .inr (7, [.ref h_p0_now, .ref h_p0_then, .ref h_p0_past, .int r42.1, .ref h_p0_text, .int v_typed, .int (iI 0), .int r38.2.1, .int r38.2.2.1, .ref h_p0_told, .int r38.2.2.2.1, .int v_one, .int v_other, .int v_change, .int v_woken])), (h_p0_now, .inl (cyI, 452, .inl v_now)), (h_p0_past, .inl (cyI, 2712, .inl r42.2))]) hP hD [2, 0, 1] [3, 4] rfl rfl (by decide) (by decide) hk1 hFc (WLD.P hB ht) hB.2
    have hP : va_P (dC, dI) vwCl [(h_p0_text, .inl (cyI, 60, .inl v_text)), (h_p0_told, .inl (cyI, 48, .inl r38.2.2.2.2)), (h_p0, .inr (7, [.ref h_p0_now, .ref h_p0_then, .ref h_p0_past, .int r42.1, .ref h_p0_text, .int v_typed, .int (iI 0), .int r38.2.1, .int r38.2.2.1, .ref h_p0_told, .int r38.2.2.2.1, .int v_one, .int v_other, .int v_change, .int v_woken])), (h_p0_now, .inl (cyI, 452, .inl v_now)), (h_p0_past, .inl (cyI, 2712, .inl r42.2))] H := hP
    have hD : va_D A [(h_p0_text, .inl (cyI, 60, .inl v_text)), (h_p0_told, .inl (cyI, 48, .inl r38.2.2.2.2)), (h_p0, .inr (7, [.ref h_p0_now, .ref h_p0_then, .ref h_p0_past, .int r42.1, .ref h_p0_text, .int v_typed, .int (iI 0), .int r38.2.1, .int r38.2.2.1, .ref h_p0_told, .int r38.2.2.2.1, .int v_one, .int v_other, .int v_change, .int v_woken])), (h_p0_now, .inl (cyI, 452, .inl v_now)), (h_p0_past, .inl (cyI, 2712, .inl r42.2))] := hD
    refine lv_aload_n hx hb dX7_bookAll_22 rfl (lv_at hl 0 rfl) ?_
    refine lv_iconst (v := iI 0) hx hb dX7_bookAll_23 rfl ?_
    refine va_put (D := (dC, dI)) (ci := 7) (v := .int (iI 0)) (ty := .int) (C := RX7) (T := TX7) (N := 15) hx hb hts m_X7_bookAll_0 tyX7 tyX7_ok nmX7 hown hK hP hD hS 2 rfl rfl 5 (by decide) (hts (.fieldLink RX7 139 "SleeperBerthsModel" "typed" "I") m_X7_bookAll_5) (fun _ h9 => h9) rfl (by decide +kernel) rfl rfl (Nat.le_of_ble_eq_true rfl) dX7_bookAll_24 (fun H locs hP hD hS => ?_)
    have hP : va_P (dC, dI) vwCl [(h_p0_text, .inl (cyI, 60, .inl v_text)), (h_p0_told, .inl (cyI, 48, .inl r38.2.2.2.2)), (h_p0, .inr (7, [.ref h_p0_now, .ref h_p0_then, .ref h_p0_past, .int r42.1, .ref h_p0_text, .int (iI 0), .int (iI 0), .int r38.2.1, .int r38.2.2.1, .ref h_p0_told, .int r38.2.2.2.1, .int v_one, .int v_other, .int v_change, .int v_woken])), (h_p0_now, .inl (cyI, 452, .inl v_now)), (h_p0_past, .inl (cyI, 2712, .inl r42.2))] H := hP
    have hD : va_D A [(h_p0_text, .inl (cyI, 60, .inl v_text)), (h_p0_told, .inl (cyI, 48, .inl r38.2.2.2.2)), (h_p0, .inr (7, [.ref h_p0_now, .ref h_p0_then, .ref h_p0_past, .int r42.1, .ref h_p0_text, .int (iI 0), .int (iI 0), .int r38.2.1, .int r38.2.2.1, .ref h_p0_told, .int r38.2.2.2.1, .int v_one, .int v_other, .int v_change, .int v_woken])), (h_p0_now, .inl (cyI, 452, .inl v_now)), (h_p0_past, .inl (cyI, 2712, .inl r42.2))] := hD
    refine lv_iconst (v := iI 0) hx hb dX7_bookAll_27 rfl ?_
    refine lv_istore_n hx hb dX7_bookAll_28 rfl hl (by decide) (rfl : _ = ([(1, .int (iI 0)), (0, .ref h_p0)] : List (Nat × Value))) (fun ls hl => ?_)
    refine lv_iconst (v := iI 0) hx hb dX7_bookAll_29 rfl ?_
    refine lv_istore_n hx hb dX7_bookAll_30 rfl hl (by decide) (rfl : _ = ([(2, .int (iI 0)), (1, .int (iI 0)), (0, .ref h_p0)] : List (Nat × Value))) (fun ls hl => ?_)
    exact L31 n r42.1 (iI 0) (iI 0) r38.2.1 r38.2.2.1 r38.2.2.2.1 v_one v_other v_change v_woken v_now r42.2 r38.2.2.2.2 (iI 0) (iI 0) _ _ (sb_P [(h_p0, .inr (7, [.ref h_p0_now, .ref h_p0_then, .ref h_p0_past, .int r42.1, .ref h_p0_text, .int (iI 0), .int (iI 0), .int r38.2.1, .int r38.2.2.1, .ref h_p0_told, .int r38.2.2.2.1, .int v_one, .int v_other, .int v_change, .int v_woken])), (h_p0_now, .inl (cyI, 452, .inl v_now)), (h_p0_past, .inl (cyI, 2712, .inl r42.2)), (h_p0_text, .inl (cyI, 60, .inl v_text)), (h_p0_told, .inl (cyI, 48, .inl r38.2.2.2.2))] hP [2, 3, 4, 0, 1] rfl) (sb_D [(h_p0, .inr (7, [.ref h_p0_now, .ref h_p0_then, .ref h_p0_past, .int r42.1, .ref h_p0_text, .int (iI 0), .int (iI 0), .int r38.2.1, .int r38.2.2.1, .ref h_p0_told, .int r38.2.2.2.1, .int v_one, .int v_other, .int v_change, .int v_woken])), (h_p0_now, .inl (cyI, 452, .inl v_now)), (h_p0_past, .inl (cyI, 2712, .inl r42.2)), (h_p0_text, .inl (cyI, 60, .inl v_text)), (h_p0_told, .inl (cyI, 48, .inl r38.2.2.2.2))] hD [2, 3, 4, 0, 1] (by decide) rfl) hS ls (lv_sub hl [2, 1, 0] rfl) h
  · have h := ipos c41 h
    refine lv_aload_n hx hb dX7_bookAll_12 rfl (lv_at hl 0 rfl) ?_
    refine lv_iconst (v := iI 1) hx hb dX7_bookAll_13 rfl ?_
    obtain ⟨r45, e46, h⟩ := bsome h
    have hPc := sb_P [(h_p0, .inr (7, [.ref h_p0_now, .ref h_p0_then, .ref h_p0_past, .int v_kept, .ref h_p0_text, .int v_typed, .int (iI 0), .int r38.2.1, .int r38.2.2.1, .ref h_p0_told, .int r38.2.2.2.1, .int v_one, .int v_other, .int v_change, .int v_woken]))] hP [2] rfl
    have hDc := sb_D [(h_p0, .inr (7, [.ref h_p0_now, .ref h_p0_then, .ref h_p0_past, .int v_kept, .ref h_p0_text, .int v_typed, .int (iI 0), .int r38.2.1, .int r38.2.2.1, .ref h_p0_told, .int r38.2.2.2.1, .int v_one, .int v_other, .int v_change, .int v_woken]))] hD [2] (by decide) rfl
    have hFc := va_free (wc := [(h_p0, .inr (7, [.ref h_p0_now, .ref h_p0_then, .ref h_p0_past, .int v_kept, .ref h_p0_text, .int v_typed, .int (iI 0), .int r38.2.1, .int r38.2.2.1, .ref h_p0_told, .int r38.2.2.2.1, .int v_one, .int v_other, .int v_change, .int v_woken]))]) hD hS hA [2] rfl
    refine va_calli (va_runV (As := [.int (iI 1)]) (rest := []) ⟨hx, hb, hml, hown, hts⟩ (c_X7_fails l dC dI cyI cyJ cyT h_p0 h_p0_now h_p0_then h_p0_past h_p0_text h_p0_told H.size v_kept v_typed (iI 0) r38.2.1 r38.2.2.1 r38.2.2.2.1 v_one v_other v_change v_woken (iI 1) r45 e46) (cwV 1 hts gX7_bookAll_X7_fails rfl rfl rfl (by decide +kernel) ⟨Nat.le_of_ble_eq_true rfl, Nat.le_of_ble_eq_true rfl⟩) ⟨PRE.blind, va_recv hK hPc (ci := 7) (q0 := 0) rfl rfl, PRE.go hK hPc hDc hNW⟩ rfl rfl hl.1 rfl (lv_room (Nat.le_of_ble_eq_true rfl)) dX7_bookAll_14 ⟨Nat.zero_le _, Nat.zero_le _⟩) hS (fun q _ h => hFc q h) hFc (fun z47 u t H locs ht hvm hw hB hz1 hk1 hS => ?_)
    subst z47
    obtain ⟨hP, hD⟩ := va_join (wr := [(h_p0_now, .inl (cyI, 452, .inl v_now)), (h_p0_past, .inl (cyI, 2712, .inl v_past)), (h_p0_text, .inl (cyI, 60, .inl v_text)), (h_p0_told, .inl (cyI, 48, .inl r38.2.2.2.2))]) (w1 := [(h_p0, .inr (7, [.ref h_p0_now, .ref h_p0_then, .ref h_p0_past, .int v_kept, .ref h_p0_text, .int v_typed, .int r45.2, .int r38.2.1, .int r38.2.2.1, .ref h_p0_told, .int r38.2.2.2.1, .int v_one, .int v_other, .int v_change, .int v_woken]))]) hP hD [2] [0, 1, 3, 4] rfl rfl (by decide) (by decide) hk1 hFc (WLD.P hB ht) hB.2
    have hP : va_P (dC, dI) vwCl [(h_p0_now, .inl (cyI, 452, .inl v_now)), (h_p0_past, .inl (cyI, 2712, .inl v_past)), (h_p0_text, .inl (cyI, 60, .inl v_text)), (h_p0_told, .inl (cyI, 48, .inl r38.2.2.2.2)), (h_p0, .inr (7, [.ref h_p0_now, .ref h_p0_then, .ref h_p0_past, .int v_kept, .ref h_p0_text, .int v_typed, .int r45.2, .int r38.2.1, .int r38.2.2.1, .ref h_p0_told, .int r38.2.2.2.1, .int v_one, .int v_other, .int v_change, .int v_woken]))] H := hP
    have hD : va_D A [(h_p0_now, .inl (cyI, 452, .inl v_now)), (h_p0_past, .inl (cyI, 2712, .inl v_past)), (h_p0_text, .inl (cyI, 60, .inl v_text)), (h_p0_told, .inl (cyI, 48, .inl r38.2.2.2.2)), (h_p0, .inr (7, [.ref h_p0_now, .ref h_p0_then, .ref h_p0_past, .int v_kept, .ref h_p0_text, .int v_typed, .int r45.2, .int r38.2.1, .int r38.2.2.1, .ref h_p0_told, .int r38.2.2.2.1, .int v_one, .int v_other, .int v_change, .int v_woken]))] := hD
    obtain rfl := Option.some.inj h
    exact W.iret (v := r45.1) hx hb hr (fun t ht hW => ⟨⟨r45.1, (), rfl, rfl, WLD.of ht (sb_P [(h_p0, .inr (7, [.ref h_p0_now, .ref h_p0_then, .ref h_p0_past, .int v_kept, .ref h_p0_text, .int v_typed, .int r45.2, .int r38.2.1, .int r38.2.2.1, .ref h_p0_told, .int r38.2.2.2.1, .int v_one, .int v_other, .int v_change, .int v_woken])), (h_p0_now, .inl (cyI, 452, .inl v_now)), (h_p0_past, .inl (cyI, 2712, .inl v_past)), (h_p0_text, .inl (cyI, 60, .inl v_text)), (h_p0_told, .inl (cyI, 48, .inl r38.2.2.2.2))] hP [4, 0, 1, 2, 3] rfl) (sb_D [(h_p0, .inr (7, [.ref h_p0_now, .ref h_p0_then, .ref h_p0_past, .int v_kept, .ref h_p0_text, .int v_typed, .int r45.2, .int r38.2.1, .int r38.2.2.1, .ref h_p0_told, .int r38.2.2.2.1, .int v_one, .int v_other, .int v_change, .int v_woken])), (h_p0_now, .inl (cyI, 452, .inl v_now)), (h_p0_past, .inl (cyI, 2712, .inl v_past)), (h_p0_text, .inl (cyI, 60, .inl v_text)), (h_p0_told, .inl (cyI, 48, .inl r38.2.2.2.2))] hD [4, 0, 1, 2, 3] (by decide) rfl)⟩, hS.F ht⟩) hS.2.2 dX7_bookAll_17
def s_X7_holder (v_thrown : Int32) (v_now : Nat → Int32) (a1 : Int32) (a2 : Int32) : Option (Int32 × Int32) := ((s_X7_in a1 (iI 0) (iI 17)).bind fun r1 => (if r1 = 0 then ((s_X7_fails (iI 0) (iI 1)).bind fun r5 => (some (r5.1, r5.2))) else ((s_X7_in a2 (iI 0) (iI 8)).bind fun r8 => (if r8 = 0 then ((s_X7_fails (iI 0) (iI 1)).bind fun r12 => (some (r12.1, r12.2))) else ((s_X7_holds v_now a1 a2).bind fun r15 => (some (r15, iI 0)))))))
set_option maxRecDepth 20000 in
theorem m_X7_holder_0 : ∀ w ∈ u_ws RX7 TX7 15, w ∈ wsX7_holder := by decide +kernel
set_option maxRecDepth 20000 in
theorem m_X7_holder_1 : (.fieldLink RX7 25 "SleeperBerthsModel" "thrown" "I" : Cond) ∈ wsX7_holder := by decide +kernel
set_option maxRecDepth 20000 in
theorem m_X7_holder_2 : (.fieldLink RX7 7 "SleeperBerthsModel" "now" "[I" : Cond) ∈ wsX7_holder := by decide +kernel
set_option maxHeartbeats 4000000 in
set_option maxRecDepth 100000 in
theorem c_X7_holder (l : Launch) (dC : Nat → ClassId) (dI : Nat → Nat → Nat) (cyI cyJ cyT : ClassId) (h_p0 : Nat) (h_p0_now : Nat) (h_p0_then : Nat) (h_p0_past : Nat) (h_p0_text : Nat) (h_p0_told : Nat) (sz : Nat) (v_kept : Int32) (v_typed : Int32) (v_thrown : Int32) (v_at : Int32) (v_isFault : Int32) (v_tolds : Int32) (v_one : Int32) (v_other : Int32) (v_change : Int32) (v_woken : Int32) (v_now : Nat → Int32) (a1 : Int32) (a2 : Int32) (o : Int32 × Int32) (h : s_X7_holder v_thrown v_now a1 a2 = some o) : Met l yX7_holder wsX7_holder ({ frames := 1, cells := 0, slots := 0, locals := 22 }) (va_Pc [.ref h_p0, .int a1, .int a2] (PRE (dC, dI) (TYS cyI cyJ cyT) sz [(h_p0, .inr (7, [.ref h_p0_now, .ref h_p0_then, .ref h_p0_past, .int v_kept, .ref h_p0_text, .int v_typed, .int v_thrown, .int v_at, .int v_isFault, .ref h_p0_told, .int v_tolds, .int v_one, .int v_other, .int v_change, .int v_woken])), (h_p0_now, .inl (cyI, 452, .inl v_now))])) (va_Qi (S := Unit) (fun r _ => r = o.1) (fun _ t => WLD (dC, dI) (va_A [(h_p0, .inr (7, [.ref h_p0_now, .ref h_p0_then, .ref h_p0_past, .int v_kept, .ref h_p0_text, .int v_typed, .int v_thrown, .int v_at, .int v_isFault, .ref h_p0_told, .int v_tolds, .int v_one, .int v_other, .int v_change, .int v_woken])), (h_p0_now, .inl (cyI, 452, .inl v_now))] sz) [(h_p0, .inr (7, [.ref h_p0_now, .ref h_p0_then, .ref h_p0_past, .int v_kept, .ref h_p0_text, .int v_typed, .int o.2, .int v_at, .int v_isFault, .ref h_p0_told, .int v_tolds, .int v_one, .int v_other, .int v_change, .int v_woken])), (h_p0_now, .inl (cyI, 452, .inl v_now))] t) (va_A [(h_p0, .inr (7, [.ref h_p0_now, .ref h_p0_then, .ref h_p0_past, .int v_kept, .ref h_p0_text, .int v_typed, .int v_thrown, .int v_at, .int v_isFault, .ref h_p0_told, .int v_tolds, .int v_one, .int v_other, .int v_change, .int v_woken])), (h_p0_now, .inl (cyI, 452, .inl v_now))] sz)) 0 0 (va_A [(h_p0, .inr (7, [.ref h_p0_now, .ref h_p0_then, .ref h_p0_past, .int v_kept, .ref h_p0_text, .int v_typed, .int v_thrown, .int v_at, .int v_isFault, .ref h_p0_told, .int v_tolds, .int v_one, .int v_other, .int v_change, .int v_woken])), (h_p0_now, .inl (cyI, 452, .inl v_now))] sz) := by
  refine Met.ofW (cc := cX7_holder) (maxL := 3) (ret := (some .int)) (by decide) rfl ?_
  intro p e s m args below meth c s₁ B hml hv
  obtain ⟨rfl, hsz, hP, hK, hD0, hNW⟩ := hv
  have hx := B.exec
  have hb := B.bytes
  have hr := B.returns
  have hts := atoms_spec (ws := wsX7_holder) B.pre
  have hown : s.vm.findClass RX7 = some m.cls := findClass_of_methodNamed B.named
  have hlocks := B.notSynchronized
  subst hsz
  have hD := hD0.self (sz := s.heap.size)
  generalize hAe : va_A [(h_p0, .inr (7, [.ref h_p0_now, .ref h_p0_then, .ref h_p0_past, .int v_kept, .ref h_p0_text, .int v_typed, .int v_thrown, .int v_at, .int v_isFault, .ref h_p0_told, .int v_tolds, .int v_one, .int v_other, .int v_change, .int v_woken])), (h_p0_now, .inl (cyI, 452, .inl v_now))] s.heap.size = A at hD ⊢
  have hA : ∀ q : Nat, s.heap.size ≤ q → A q := fun q h => by rw [← hAe]; exact Or.inr h
  have hS : va_S A s.heap s.heap [] := va_S.rf
  have hP : va_P (dC, dI) vwCl [(h_p0, .inr (7, [.ref h_p0_now, .ref h_p0_then, .ref h_p0_past, .int v_kept, .ref h_p0_text, .int v_typed, .int v_thrown, .int v_at, .int v_isFault, .ref h_p0_told, .int v_tolds, .int v_one, .int v_other, .int v_change, .int v_woken])), (h_p0_now, .inl (cyI, 452, .inl v_now))] s.heap := hP
  have hl := lv_entry ([.ref h_p0, .int a1, .int a2]) (n := 3) (Nat.le_of_ble_eq_true rfl)
  rw [lg_entry_eq]
  generalize (lg_sl ([.ref h_p0, .int a1, .int a2]) ++ List.replicate (3 - (lg_sl ([.ref h_p0, .int a1, .int a2])).length) Slot.unset).toArray = ls at hl ⊢
  have hl : lv_has ls 3 [(0, .ref h_p0), (1, .int a1), (2, .int a2)] := hl
  unfold s_X7_holder at h
  refine lv_aload_n hx hb dX7_holder_0 rfl (lv_at hl 0 rfl) ?_
  refine lv_iconst (v := iI 0) hx hb dX7_holder_1 rfl ?_
  refine va_put (D := (dC, dI)) (ci := 7) (v := .int (iI 0)) (ty := .int) (C := RX7) (T := TX7) (N := 15) hx hb hts m_X7_holder_0 tyX7 tyX7_ok nmX7 hown hK hP hD hS 0 rfl rfl 6 (by decide) (hts (.fieldLink RX7 25 "SleeperBerthsModel" "thrown" "I") m_X7_holder_1) (fun _ h9 => h9) rfl (by decide +kernel) rfl rfl (Nat.le_of_ble_eq_true rfl) dX7_holder_2 (fun H locs hP hD hS => ?_)
  have hP : va_P (dC, dI) vwCl [(h_p0, .inr (7, [.ref h_p0_now, .ref h_p0_then, .ref h_p0_past, .int v_kept, .ref h_p0_text, .int v_typed, .int (iI 0), .int v_at, .int v_isFault, .ref h_p0_told, .int v_tolds, .int v_one, .int v_other, .int v_change, .int v_woken])), (h_p0_now, .inl (cyI, 452, .inl v_now))] H := hP
  have hD : va_D A [(h_p0, .inr (7, [.ref h_p0_now, .ref h_p0_then, .ref h_p0_past, .int v_kept, .ref h_p0_text, .int v_typed, .int (iI 0), .int v_at, .int v_isFault, .ref h_p0_told, .int v_tolds, .int v_one, .int v_other, .int v_change, .int v_woken])), (h_p0_now, .inl (cyI, 452, .inl v_now))] := hD
  refine lv_iload_n hx hb dX7_holder_5 rfl (lv_at hl 1 rfl) ?_
  refine lv_iconst (v := iI 0) hx hb dX7_holder_6 rfl ?_
  refine lv_bipush (v := iI 17) hx hb dX7_holder_7 (by decide) ?_
  obtain ⟨r1, e2, h⟩ := bsome h
  have hPc := sb_P [] hP [] rfl
  have hDc := sb_D [] hD [] (by decide) rfl
  have hFc := va_free (wc := []) hD hS hA [] rfl
  refine va_calli (va_runS (As := [.int a1, .int (iI 0), .int (iI 17)]) (rest := []) ⟨hx, hb, hml, hown, hts⟩ (c_X7_in l dC dI cyI cyJ cyT H.size a1 (iI 0) (iI 17) r1 e2) (va_cwS 3 hts gX7_holder_X7_in rfl rfl rfl (by decide +kernel) ⟨Nat.le_of_ble_eq_true rfl, Nat.le_of_ble_eq_true rfl⟩) ⟨PRE.blind, PRE.go hK hPc hDc hNW⟩ rfl rfl hl.1 rfl (lv_room (Nat.le_of_ble_eq_true rfl)) dX7_holder_9 ⟨Nat.zero_le _, Nat.zero_le _⟩) hS (fun q _ h => hFc q h) hFc (fun z3 u t H locs ht hvm hw hB hz1 hk1 hS => ?_)
  subst z3
  obtain ⟨hP, hD⟩ := va_join (wr := [(h_p0, .inr (7, [.ref h_p0_now, .ref h_p0_then, .ref h_p0_past, .int v_kept, .ref h_p0_text, .int v_typed, .int (iI 0), .int v_at, .int v_isFault, .ref h_p0_told, .int v_tolds, .int v_one, .int v_other, .int v_change, .int v_woken])), (h_p0_now, .inl (cyI, 452, .inl v_now))]) (w1 := []) hP hD [] [0, 1] rfl rfl (by decide) (by decide) hk1 hFc (WLD.P hB ht) hB.2
  have hP : va_P (dC, dI) vwCl [(h_p0, .inr (7, [.ref h_p0_now, .ref h_p0_then, .ref h_p0_past, .int v_kept, .ref h_p0_text, .int v_typed, .int (iI 0), .int v_at, .int v_isFault, .ref h_p0_told, .int v_tolds, .int v_one, .int v_other, .int v_change, .int v_woken])), (h_p0_now, .inl (cyI, 452, .inl v_now))] H := hP
  have hD : va_D A [(h_p0, .inr (7, [.ref h_p0_now, .ref h_p0_then, .ref h_p0_past, .int v_kept, .ref h_p0_text, .int v_typed, .int (iI 0), .int v_at, .int v_isFault, .ref h_p0_told, .int v_tolds, .int v_one, .int v_other, .int v_change, .int v_woken])), (h_p0_now, .inl (cyI, 452, .inl v_now))] := hD
  refine lv_if_eq (tgt := 37) hx hb dX7_holder_12 (by decide) (fun c4 => ?_) (fun c4 => ?_)
  · have h := ipos c4 h
    refine lv_aload_n hx hb dX7_holder_37 rfl (lv_at hl 0 rfl) ?_
    refine lv_iconst (v := iI 1) hx hb dX7_holder_38 rfl ?_
    obtain ⟨r5, e6, h⟩ := bsome h
    have hPc := sb_P [(h_p0, .inr (7, [.ref h_p0_now, .ref h_p0_then, .ref h_p0_past, .int v_kept, .ref h_p0_text, .int v_typed, .int (iI 0), .int v_at, .int v_isFault, .ref h_p0_told, .int v_tolds, .int v_one, .int v_other, .int v_change, .int v_woken]))] hP [0] rfl
    have hDc := sb_D [(h_p0, .inr (7, [.ref h_p0_now, .ref h_p0_then, .ref h_p0_past, .int v_kept, .ref h_p0_text, .int v_typed, .int (iI 0), .int v_at, .int v_isFault, .ref h_p0_told, .int v_tolds, .int v_one, .int v_other, .int v_change, .int v_woken]))] hD [0] (by decide) rfl
    have hFc := va_free (wc := [(h_p0, .inr (7, [.ref h_p0_now, .ref h_p0_then, .ref h_p0_past, .int v_kept, .ref h_p0_text, .int v_typed, .int (iI 0), .int v_at, .int v_isFault, .ref h_p0_told, .int v_tolds, .int v_one, .int v_other, .int v_change, .int v_woken]))]) hD hS hA [0] rfl
    refine va_calli (va_runV (As := [.int (iI 1)]) (rest := []) ⟨hx, hb, hml, hown, hts⟩ (c_X7_fails l dC dI cyI cyJ cyT h_p0 h_p0_now h_p0_then h_p0_past h_p0_text h_p0_told H.size v_kept v_typed (iI 0) v_at v_isFault v_tolds v_one v_other v_change v_woken (iI 1) r5 e6) (cwV 1 hts gX7_holder_X7_fails rfl rfl rfl (by decide +kernel) ⟨Nat.le_of_ble_eq_true rfl, Nat.le_of_ble_eq_true rfl⟩) ⟨PRE.blind, va_recv hK hPc (ci := 7) (q0 := 0) rfl rfl, PRE.go hK hPc hDc hNW⟩ rfl rfl hl.1 rfl (lv_room (Nat.le_of_ble_eq_true rfl)) dX7_holder_39 ⟨Nat.zero_le _, Nat.zero_le _⟩) hS (fun q _ h => hFc q h) hFc (fun z7 u t H locs ht hvm hw hB hz1 hk1 hS => ?_)
    subst z7
    obtain ⟨hP, hD⟩ := va_join (wr := [(h_p0_now, .inl (cyI, 452, .inl v_now))]) (w1 := [(h_p0, .inr (7, [.ref h_p0_now, .ref h_p0_then, .ref h_p0_past, .int v_kept, .ref h_p0_text, .int v_typed, .int r5.2, .int v_at, .int v_isFault, .ref h_p0_told, .int v_tolds, .int v_one, .int v_other, .int v_change, .int v_woken]))]) hP hD [0] [1] rfl rfl (by decide) (by decide) hk1 hFc (WLD.P hB ht) hB.2
    have hP : va_P (dC, dI) vwCl [(h_p0_now, .inl (cyI, 452, .inl v_now)), (h_p0, .inr (7, [.ref h_p0_now, .ref h_p0_then, .ref h_p0_past, .int v_kept, .ref h_p0_text, .int v_typed, .int r5.2, .int v_at, .int v_isFault, .ref h_p0_told, .int v_tolds, .int v_one, .int v_other, .int v_change, .int v_woken]))] H := hP
    have hD : va_D A [(h_p0_now, .inl (cyI, 452, .inl v_now)), (h_p0, .inr (7, [.ref h_p0_now, .ref h_p0_then, .ref h_p0_past, .int v_kept, .ref h_p0_text, .int v_typed, .int r5.2, .int v_at, .int v_isFault, .ref h_p0_told, .int v_tolds, .int v_one, .int v_other, .int v_change, .int v_woken]))] := hD
    obtain rfl := Option.some.inj h
    exact W.iret (v := r5.1) hx hb hr (fun t ht hW => ⟨⟨r5.1, (), rfl, rfl, WLD.of ht (sb_P [(h_p0, .inr (7, [.ref h_p0_now, .ref h_p0_then, .ref h_p0_past, .int v_kept, .ref h_p0_text, .int v_typed, .int r5.2, .int v_at, .int v_isFault, .ref h_p0_told, .int v_tolds, .int v_one, .int v_other, .int v_change, .int v_woken])), (h_p0_now, .inl (cyI, 452, .inl v_now))] hP [1, 0] rfl) (sb_D [(h_p0, .inr (7, [.ref h_p0_now, .ref h_p0_then, .ref h_p0_past, .int v_kept, .ref h_p0_text, .int v_typed, .int r5.2, .int v_at, .int v_isFault, .ref h_p0_told, .int v_tolds, .int v_one, .int v_other, .int v_change, .int v_woken])), (h_p0_now, .inl (cyI, 452, .inl v_now))] hD [1, 0] (by decide) rfl)⟩, hS.F ht⟩) hS.2.2 dX7_holder_42
  · have h := ineg c4 h
    refine lv_iload_n hx hb dX7_holder_15 rfl (lv_at hl 2 rfl) ?_
    refine lv_iconst (v := iI 0) hx hb dX7_holder_16 rfl ?_
    refine lv_bipush (v := iI 8) hx hb dX7_holder_17 (by decide) ?_
    obtain ⟨r8, e9, h⟩ := bsome h
    have hPc := sb_P [] hP [] rfl
    have hDc := sb_D [] hD [] (by decide) rfl
    have hFc := va_free (wc := []) hD hS hA [] rfl
    refine va_calli (va_runS (As := [.int a2, .int (iI 0), .int (iI 8)]) (rest := []) ⟨hx, hb, hml, hown, hts⟩ (c_X7_in l dC dI cyI cyJ cyT H.size a2 (iI 0) (iI 8) r8 e9) (va_cwS 3 hts gX7_holder_X7_in rfl rfl rfl (by decide +kernel) ⟨Nat.le_of_ble_eq_true rfl, Nat.le_of_ble_eq_true rfl⟩) ⟨PRE.blind, PRE.go hK hPc hDc hNW⟩ rfl rfl hl.1 rfl (lv_room (Nat.le_of_ble_eq_true rfl)) dX7_holder_19 ⟨Nat.zero_le _, Nat.zero_le _⟩) hS (fun q _ h => hFc q h) hFc (fun z10 u t H locs ht hvm hw hB hz1 hk1 hS => ?_)
    subst z10
    obtain ⟨hP, hD⟩ := va_join (wr := [(h_p0, .inr (7, [.ref h_p0_now, .ref h_p0_then, .ref h_p0_past, .int v_kept, .ref h_p0_text, .int v_typed, .int (iI 0), .int v_at, .int v_isFault, .ref h_p0_told, .int v_tolds, .int v_one, .int v_other, .int v_change, .int v_woken])), (h_p0_now, .inl (cyI, 452, .inl v_now))]) (w1 := []) hP hD [] [0, 1] rfl rfl (by decide) (by decide) hk1 hFc (WLD.P hB ht) hB.2
    have hP : va_P (dC, dI) vwCl [(h_p0, .inr (7, [.ref h_p0_now, .ref h_p0_then, .ref h_p0_past, .int v_kept, .ref h_p0_text, .int v_typed, .int (iI 0), .int v_at, .int v_isFault, .ref h_p0_told, .int v_tolds, .int v_one, .int v_other, .int v_change, .int v_woken])), (h_p0_now, .inl (cyI, 452, .inl v_now))] H := hP
    have hD : va_D A [(h_p0, .inr (7, [.ref h_p0_now, .ref h_p0_then, .ref h_p0_past, .int v_kept, .ref h_p0_text, .int v_typed, .int (iI 0), .int v_at, .int v_isFault, .ref h_p0_told, .int v_tolds, .int v_one, .int v_other, .int v_change, .int v_woken])), (h_p0_now, .inl (cyI, 452, .inl v_now))] := hD
    refine lv_if_eq (tgt := 37) hx hb dX7_holder_22 (by decide) (fun c11 => ?_) (fun c11 => ?_)
    · have h := ipos c11 h
      refine lv_aload_n hx hb dX7_holder_37 rfl (lv_at hl 0 rfl) ?_
      refine lv_iconst (v := iI 1) hx hb dX7_holder_38 rfl ?_
      obtain ⟨r12, e13, h⟩ := bsome h
      have hPc := sb_P [(h_p0, .inr (7, [.ref h_p0_now, .ref h_p0_then, .ref h_p0_past, .int v_kept, .ref h_p0_text, .int v_typed, .int (iI 0), .int v_at, .int v_isFault, .ref h_p0_told, .int v_tolds, .int v_one, .int v_other, .int v_change, .int v_woken]))] hP [0] rfl
      have hDc := sb_D [(h_p0, .inr (7, [.ref h_p0_now, .ref h_p0_then, .ref h_p0_past, .int v_kept, .ref h_p0_text, .int v_typed, .int (iI 0), .int v_at, .int v_isFault, .ref h_p0_told, .int v_tolds, .int v_one, .int v_other, .int v_change, .int v_woken]))] hD [0] (by decide) rfl
      have hFc := va_free (wc := [(h_p0, .inr (7, [.ref h_p0_now, .ref h_p0_then, .ref h_p0_past, .int v_kept, .ref h_p0_text, .int v_typed, .int (iI 0), .int v_at, .int v_isFault, .ref h_p0_told, .int v_tolds, .int v_one, .int v_other, .int v_change, .int v_woken]))]) hD hS hA [0] rfl
      refine va_calli (va_runV (As := [.int (iI 1)]) (rest := []) ⟨hx, hb, hml, hown, hts⟩ (c_X7_fails l dC dI cyI cyJ cyT h_p0 h_p0_now h_p0_then h_p0_past h_p0_text h_p0_told H.size v_kept v_typed (iI 0) v_at v_isFault v_tolds v_one v_other v_change v_woken (iI 1) r12 e13) (cwV 1 hts gX7_holder_X7_fails rfl rfl rfl (by decide +kernel) ⟨Nat.le_of_ble_eq_true rfl, Nat.le_of_ble_eq_true rfl⟩) ⟨PRE.blind, va_recv hK hPc (ci := 7) (q0 := 0) rfl rfl, PRE.go hK hPc hDc hNW⟩ rfl rfl hl.1 rfl (lv_room (Nat.le_of_ble_eq_true rfl)) dX7_holder_39 ⟨Nat.zero_le _, Nat.zero_le _⟩) hS (fun q _ h => hFc q h) hFc (fun z14 u t H locs ht hvm hw hB hz1 hk1 hS => ?_)
      subst z14
      obtain ⟨hP, hD⟩ := va_join (wr := [(h_p0_now, .inl (cyI, 452, .inl v_now))]) (w1 := [(h_p0, .inr (7, [.ref h_p0_now, .ref h_p0_then, .ref h_p0_past, .int v_kept, .ref h_p0_text, .int v_typed, .int r12.2, .int v_at, .int v_isFault, .ref h_p0_told, .int v_tolds, .int v_one, .int v_other, .int v_change, .int v_woken]))]) hP hD [0] [1] rfl rfl (by decide) (by decide) hk1 hFc (WLD.P hB ht) hB.2
      have hP : va_P (dC, dI) vwCl [(h_p0_now, .inl (cyI, 452, .inl v_now)), (h_p0, .inr (7, [.ref h_p0_now, .ref h_p0_then, .ref h_p0_past, .int v_kept, .ref h_p0_text, .int v_typed, .int r12.2, .int v_at, .int v_isFault, .ref h_p0_told, .int v_tolds, .int v_one, .int v_other, .int v_change, .int v_woken]))] H := hP
      have hD : va_D A [(h_p0_now, .inl (cyI, 452, .inl v_now)), (h_p0, .inr (7, [.ref h_p0_now, .ref h_p0_then, .ref h_p0_past, .int v_kept, .ref h_p0_text, .int v_typed, .int r12.2, .int v_at, .int v_isFault, .ref h_p0_told, .int v_tolds, .int v_one, .int v_other, .int v_change, .int v_woken]))] := hD
      obtain rfl := Option.some.inj h
      exact W.iret (v := r12.1) hx hb hr (fun t ht hW => ⟨⟨r12.1, (), rfl, rfl, WLD.of ht (sb_P [(h_p0, .inr (7, [.ref h_p0_now, .ref h_p0_then, .ref h_p0_past, .int v_kept, .ref h_p0_text, .int v_typed, .int r12.2, .int v_at, .int v_isFault, .ref h_p0_told, .int v_tolds, .int v_one, .int v_other, .int v_change, .int v_woken])), (h_p0_now, .inl (cyI, 452, .inl v_now))] hP [1, 0] rfl) (sb_D [(h_p0, .inr (7, [.ref h_p0_now, .ref h_p0_then, .ref h_p0_past, .int v_kept, .ref h_p0_text, .int v_typed, .int r12.2, .int v_at, .int v_isFault, .ref h_p0_told, .int v_tolds, .int v_one, .int v_other, .int v_change, .int v_woken])), (h_p0_now, .inl (cyI, 452, .inl v_now))] hD [1, 0] (by decide) rfl)⟩, hS.F ht⟩) hS.2.2 dX7_holder_42
    · have h := ineg c11 h
      refine lv_aload_n hx hb dX7_holder_25 rfl (lv_at hl 0 rfl) ?_
      refine va_get (D := (dC, dI)) (ci := 7) (v := .ref h_p0_now) (C := RX7) (T := TX7) (N := 15) hx hb hts m_X7_holder_0 hown hK hP 0 rfl rfl 0 (by decide) (hts (.fieldLink RX7 7 "SleeperBerthsModel" "now" "[I") m_X7_holder_2) (fun _ h9 => h9) rfl dX7_holder_26 ?_
      refine lv_iload_n hx hb dX7_holder_29 rfl (lv_at hl 1 rfl) ?_
      refine lv_iload_n hx hb dX7_holder_30 rfl (lv_at hl 2 rfl) ?_
      obtain ⟨r15, e16, h⟩ := bsome h
      have hPc := sb_P [(h_p0_now, .inl (cyI, 452, .inl v_now))] hP [1] rfl
      have hDc := sb_D [(h_p0_now, .inl (cyI, 452, .inl v_now))] hD [1] (by decide) rfl
      have hFc := va_free (wc := [(h_p0_now, .inl (cyI, 452, .inl v_now))]) hD hS hA [1] rfl
      refine va_calli (va_runS (As := [.ref h_p0_now, .int a1, .int a2]) (rest := []) ⟨hx, hb, hml, hown, hts⟩ (c_X7_holds l dC dI cyI cyJ cyT h_p0_now H.size v_now a1 a2 r15 e16) (va_cwS 3 hts gX7_holder_X7_holds rfl rfl rfl (by decide +kernel) ⟨Nat.le_of_ble_eq_true rfl, Nat.le_of_ble_eq_true rfl⟩) ⟨PRE.blind, PRE.go hK hPc hDc hNW⟩ rfl rfl hl.1 rfl (lv_room (Nat.le_of_ble_eq_true rfl)) dX7_holder_31 ⟨Nat.zero_le _, Nat.zero_le _⟩) hS (fun q _ h => hFc q h) hFc (fun z17 u t H locs ht hvm hw hB hz1 hk1 hS => ?_)
      subst z17
      obtain ⟨hP, hD⟩ := va_join (wr := [(h_p0, .inr (7, [.ref h_p0_now, .ref h_p0_then, .ref h_p0_past, .int v_kept, .ref h_p0_text, .int v_typed, .int (iI 0), .int v_at, .int v_isFault, .ref h_p0_told, .int v_tolds, .int v_one, .int v_other, .int v_change, .int v_woken]))]) (w1 := [(h_p0_now, .inl (cyI, 452, .inl v_now))]) hP hD [1] [0] rfl rfl (by decide) (by decide) hk1 hFc (WLD.P hB ht) hB.2
      have hP : va_P (dC, dI) vwCl [(h_p0, .inr (7, [.ref h_p0_now, .ref h_p0_then, .ref h_p0_past, .int v_kept, .ref h_p0_text, .int v_typed, .int (iI 0), .int v_at, .int v_isFault, .ref h_p0_told, .int v_tolds, .int v_one, .int v_other, .int v_change, .int v_woken])), (h_p0_now, .inl (cyI, 452, .inl v_now))] H := hP
      have hD : va_D A [(h_p0, .inr (7, [.ref h_p0_now, .ref h_p0_then, .ref h_p0_past, .int v_kept, .ref h_p0_text, .int v_typed, .int (iI 0), .int v_at, .int v_isFault, .ref h_p0_told, .int v_tolds, .int v_one, .int v_other, .int v_change, .int v_woken])), (h_p0_now, .inl (cyI, 452, .inl v_now))] := hD
      refine lv_goto (tgt := 42) hx hb dX7_holder_34 (by decide) ?_
      obtain rfl := Option.some.inj h
      exact W.iret (v := r15) hx hb hr (fun t ht hW => ⟨⟨r15, (), rfl, rfl, WLD.of ht hP hD⟩, hS.F ht⟩) hS.2.2 dX7_holder_42
def s_X7_ofPassenger (n : Nat) (v_now : Nat → Int32) (a1 : Int32) (a2 : Int32) : Option (Int32) := (if iI 7 ≤ a2 then (if a2 = iI 7 then ((s_X7_wakesOf n v_now a1).bind fun r6 => (some (r6))) else ((s_X7_tip n v_now a1).bind fun r3 => (some (r3)))) else ((s_X7_of v_now a1 a2).bind fun r9 => (some (r9))))
set_option maxRecDepth 20000 in
theorem m_X7_ofPassenger_0 : ∀ w ∈ u_ws RX7 TX7 15, w ∈ wsX7_ofPassenger := by decide +kernel
set_option maxRecDepth 20000 in
theorem m_X7_ofPassenger_1 : (.fieldLink RX7 7 "SleeperBerthsModel" "now" "[I" : Cond) ∈ wsX7_ofPassenger := by decide +kernel
set_option maxHeartbeats 4000000 in
set_option maxRecDepth 100000 in
theorem c_X7_ofPassenger (l : Launch) (dC : Nat → ClassId) (dI : Nat → Nat → Nat) (cyI cyJ cyT : ClassId) (h_p0 : Nat) (h_p0_now : Nat) (h_p0_then : Nat) (h_p0_past : Nat) (h_p0_text : Nat) (h_p0_told : Nat) (sz : Nat) (v_kept : Int32) (v_typed : Int32) (v_thrown : Int32) (v_at : Int32) (v_isFault : Int32) (v_tolds : Int32) (v_one : Int32) (v_other : Int32) (v_change : Int32) (v_woken : Int32) (v_now : Nat → Int32) (a1 : Int32) (a2 : Int32) (n : Nat) (o : Int32) (h : s_X7_ofPassenger n v_now a1 a2 = some o) : Met l yX7_ofPassenger wsX7_ofPassenger ({ frames := 4, cells := 0, slots := 0, locals := 92 }) (va_Pc [.ref h_p0, .int a1, .int a2] (PRE (dC, dI) (TYS cyI cyJ cyT) sz [(h_p0, .inr (7, [.ref h_p0_now, .ref h_p0_then, .ref h_p0_past, .int v_kept, .ref h_p0_text, .int v_typed, .int v_thrown, .int v_at, .int v_isFault, .ref h_p0_told, .int v_tolds, .int v_one, .int v_other, .int v_change, .int v_woken])), (h_p0_now, .inl (cyI, 452, .inl v_now))])) (va_Qi (S := Unit) (fun r _ => r = o) (fun _ t => WLD (dC, dI) (va_A [(h_p0, .inr (7, [.ref h_p0_now, .ref h_p0_then, .ref h_p0_past, .int v_kept, .ref h_p0_text, .int v_typed, .int v_thrown, .int v_at, .int v_isFault, .ref h_p0_told, .int v_tolds, .int v_one, .int v_other, .int v_change, .int v_woken])), (h_p0_now, .inl (cyI, 452, .inl v_now))] sz) [(h_p0, .inr (7, [.ref h_p0_now, .ref h_p0_then, .ref h_p0_past, .int v_kept, .ref h_p0_text, .int v_typed, .int v_thrown, .int v_at, .int v_isFault, .ref h_p0_told, .int v_tolds, .int v_one, .int v_other, .int v_change, .int v_woken])), (h_p0_now, .inl (cyI, 452, .inl v_now))] t) (va_A [(h_p0, .inr (7, [.ref h_p0_now, .ref h_p0_then, .ref h_p0_past, .int v_kept, .ref h_p0_text, .int v_typed, .int v_thrown, .int v_at, .int v_isFault, .ref h_p0_told, .int v_tolds, .int v_one, .int v_other, .int v_change, .int v_woken])), (h_p0_now, .inl (cyI, 452, .inl v_now))] sz)) 0 0 (va_A [(h_p0, .inr (7, [.ref h_p0_now, .ref h_p0_then, .ref h_p0_past, .int v_kept, .ref h_p0_text, .int v_typed, .int v_thrown, .int v_at, .int v_isFault, .ref h_p0_told, .int v_tolds, .int v_one, .int v_other, .int v_change, .int v_woken])), (h_p0_now, .inl (cyI, 452, .inl v_now))] sz) := by
  refine Met.ofW (cc := cX7_ofPassenger) (maxL := 3) (ret := (some .int)) (by decide) rfl ?_
  intro p e s m args below meth c s₁ B hml hv
  obtain ⟨rfl, hsz, hP, hK, hD0, hNW⟩ := hv
  have hx := B.exec
  have hb := B.bytes
  have hr := B.returns
  have hts := atoms_spec (ws := wsX7_ofPassenger) B.pre
  have hown : s.vm.findClass RX7 = some m.cls := findClass_of_methodNamed B.named
  have hlocks := B.notSynchronized
  subst hsz
  have hD := hD0.self (sz := s.heap.size)
  generalize hAe : va_A [(h_p0, .inr (7, [.ref h_p0_now, .ref h_p0_then, .ref h_p0_past, .int v_kept, .ref h_p0_text, .int v_typed, .int v_thrown, .int v_at, .int v_isFault, .ref h_p0_told, .int v_tolds, .int v_one, .int v_other, .int v_change, .int v_woken])), (h_p0_now, .inl (cyI, 452, .inl v_now))] s.heap.size = A at hD ⊢
  have hA : ∀ q : Nat, s.heap.size ≤ q → A q := fun q h => by rw [← hAe]; exact Or.inr h
  have hS : va_S A s.heap s.heap [] := va_S.rf
  have hP : va_P (dC, dI) vwCl [(h_p0, .inr (7, [.ref h_p0_now, .ref h_p0_then, .ref h_p0_past, .int v_kept, .ref h_p0_text, .int v_typed, .int v_thrown, .int v_at, .int v_isFault, .ref h_p0_told, .int v_tolds, .int v_one, .int v_other, .int v_change, .int v_woken])), (h_p0_now, .inl (cyI, 452, .inl v_now))] s.heap := hP
  have hl := lv_entry ([.ref h_p0, .int a1, .int a2]) (n := 3) (Nat.le_of_ble_eq_true rfl)
  rw [lg_entry_eq]
  generalize (lg_sl ([.ref h_p0, .int a1, .int a2]) ++ List.replicate (3 - (lg_sl ([.ref h_p0, .int a1, .int a2])).length) Slot.unset).toArray = ls at hl ⊢
  have hl : lv_has ls 3 [(0, .ref h_p0), (1, .int a1), (2, .int a2)] := hl
  unfold s_X7_ofPassenger at h
  refine lv_iload_n hx hb dX7_ofPassenger_0 rfl (lv_at hl 2 rfl) ?_
  refine lv_bipush (v := iI 7) hx hb dX7_ofPassenger_1 (by decide) ?_
  refine lv_icmp_ge (tgt := 18) hx hb dX7_ofPassenger_3 (by decide) (fun c1 => ?_) (fun c1 => ?_)
  · have h := ipos c1 h
    refine lv_iload_n hx hb dX7_ofPassenger_18 rfl (lv_at hl 2 rfl) ?_
    refine lv_bipush (v := iI 7) hx hb dX7_ofPassenger_19 (by decide) ?_
    refine lv_icmp_ne (tgt := 35) hx hb dX7_ofPassenger_21 (by decide) (fun c2 => ?_) (fun c2 => ?_)
    · have h := ineg c2 h
      refine lv_aload_n hx hb dX7_ofPassenger_35 rfl (lv_at hl 0 rfl) ?_
      refine va_get (D := (dC, dI)) (ci := 7) (v := .ref h_p0_now) (C := RX7) (T := TX7) (N := 15) hx hb hts m_X7_ofPassenger_0 hown hK hP 0 rfl rfl 0 (by decide) (hts (.fieldLink RX7 7 "SleeperBerthsModel" "now" "[I") m_X7_ofPassenger_1) (fun _ h9 => h9) rfl dX7_ofPassenger_36 ?_
      refine lv_iload_n hx hb dX7_ofPassenger_39 rfl (lv_at hl 1 rfl) ?_
      obtain ⟨r3, e4, h⟩ := bsome h
      have hPc := sb_P [(h_p0_now, .inl (cyI, 452, .inl v_now))] hP [1] rfl
      have hDc := sb_D [(h_p0_now, .inl (cyI, 452, .inl v_now))] hD [1] (by decide) rfl
      have hFc := va_free (wc := [(h_p0_now, .inl (cyI, 452, .inl v_now))]) hD hS hA [1] rfl
      refine va_calli (va_runS (As := [.ref h_p0_now, .int a1]) (rest := []) ⟨hx, hb, hml, hown, hts⟩ (c_X7_tip l dC dI cyI cyJ cyT h_p0_now s.heap.size v_now a1 n r3 e4) (va_cwS 2 hts gX7_ofPassenger_X7_tip rfl rfl rfl (by decide +kernel) ⟨Nat.le_of_ble_eq_true rfl, Nat.le_of_ble_eq_true rfl⟩) ⟨PRE.blind, PRE.go hK hPc hDc hNW⟩ rfl rfl hl.1 rfl (lv_room (Nat.le_of_ble_eq_true rfl)) dX7_ofPassenger_40 ⟨Nat.zero_le _, Nat.zero_le _⟩) hS (fun q _ h => hFc q h) hFc (fun z5 u t H locs ht hvm hw hB hz1 hk1 hS => ?_)
      subst z5
      obtain ⟨hP, hD⟩ := va_join (wr := [(h_p0, .inr (7, [.ref h_p0_now, .ref h_p0_then, .ref h_p0_past, .int v_kept, .ref h_p0_text, .int v_typed, .int v_thrown, .int v_at, .int v_isFault, .ref h_p0_told, .int v_tolds, .int v_one, .int v_other, .int v_change, .int v_woken]))]) (w1 := [(h_p0_now, .inl (cyI, 452, .inl v_now))]) hP hD [1] [0] rfl rfl (by decide) (by decide) hk1 hFc (WLD.P hB ht) hB.2
      have hP : va_P (dC, dI) vwCl [(h_p0, .inr (7, [.ref h_p0_now, .ref h_p0_then, .ref h_p0_past, .int v_kept, .ref h_p0_text, .int v_typed, .int v_thrown, .int v_at, .int v_isFault, .ref h_p0_told, .int v_tolds, .int v_one, .int v_other, .int v_change, .int v_woken])), (h_p0_now, .inl (cyI, 452, .inl v_now))] H := hP
      have hD : va_D A [(h_p0, .inr (7, [.ref h_p0_now, .ref h_p0_then, .ref h_p0_past, .int v_kept, .ref h_p0_text, .int v_typed, .int v_thrown, .int v_at, .int v_isFault, .ref h_p0_told, .int v_tolds, .int v_one, .int v_other, .int v_change, .int v_woken])), (h_p0_now, .inl (cyI, 452, .inl v_now))] := hD
      obtain rfl := Option.some.inj h
      exact W.iret (v := r3) hx hb hr (fun t ht hW => ⟨⟨r3, (), rfl, rfl, WLD.of ht hP hD⟩, hS.F ht⟩) hS.2.2 dX7_ofPassenger_43
    · have h := ipos c2 h
      refine lv_aload_n hx hb dX7_ofPassenger_24 rfl (lv_at hl 0 rfl) ?_
      refine va_get (D := (dC, dI)) (ci := 7) (v := .ref h_p0_now) (C := RX7) (T := TX7) (N := 15) hx hb hts m_X7_ofPassenger_0 hown hK hP 0 rfl rfl 0 (by decide) (hts (.fieldLink RX7 7 "SleeperBerthsModel" "now" "[I") m_X7_ofPassenger_1) (fun _ h9 => h9) rfl dX7_ofPassenger_25 ?_
      refine lv_iload_n hx hb dX7_ofPassenger_28 rfl (lv_at hl 1 rfl) ?_
      obtain ⟨r6, e7, h⟩ := bsome h
      have hPc := sb_P [(h_p0_now, .inl (cyI, 452, .inl v_now))] hP [1] rfl
      have hDc := sb_D [(h_p0_now, .inl (cyI, 452, .inl v_now))] hD [1] (by decide) rfl
      have hFc := va_free (wc := [(h_p0_now, .inl (cyI, 452, .inl v_now))]) hD hS hA [1] rfl
      refine va_calli (va_runS (As := [.ref h_p0_now, .int a1]) (rest := []) ⟨hx, hb, hml, hown, hts⟩ (c_X7_wakesOf l dC dI cyI cyJ cyT h_p0_now s.heap.size v_now a1 n r6 e7) (va_cwS 2 hts gX7_ofPassenger_X7_wakesOf rfl rfl rfl (by decide +kernel) ⟨Nat.le_of_ble_eq_true rfl, Nat.le_of_ble_eq_true rfl⟩) ⟨PRE.blind, PRE.go hK hPc hDc hNW⟩ rfl rfl hl.1 rfl (lv_room (Nat.le_of_ble_eq_true rfl)) dX7_ofPassenger_29 ⟨Nat.zero_le _, Nat.zero_le _⟩) hS (fun q _ h => hFc q h) hFc (fun z8 u t H locs ht hvm hw hB hz1 hk1 hS => ?_)
      subst z8
      obtain ⟨hP, hD⟩ := va_join (wr := [(h_p0, .inr (7, [.ref h_p0_now, .ref h_p0_then, .ref h_p0_past, .int v_kept, .ref h_p0_text, .int v_typed, .int v_thrown, .int v_at, .int v_isFault, .ref h_p0_told, .int v_tolds, .int v_one, .int v_other, .int v_change, .int v_woken]))]) (w1 := [(h_p0_now, .inl (cyI, 452, .inl v_now))]) hP hD [1] [0] rfl rfl (by decide) (by decide) hk1 hFc (WLD.P hB ht) hB.2
      have hP : va_P (dC, dI) vwCl [(h_p0, .inr (7, [.ref h_p0_now, .ref h_p0_then, .ref h_p0_past, .int v_kept, .ref h_p0_text, .int v_typed, .int v_thrown, .int v_at, .int v_isFault, .ref h_p0_told, .int v_tolds, .int v_one, .int v_other, .int v_change, .int v_woken])), (h_p0_now, .inl (cyI, 452, .inl v_now))] H := hP
      have hD : va_D A [(h_p0, .inr (7, [.ref h_p0_now, .ref h_p0_then, .ref h_p0_past, .int v_kept, .ref h_p0_text, .int v_typed, .int v_thrown, .int v_at, .int v_isFault, .ref h_p0_told, .int v_tolds, .int v_one, .int v_other, .int v_change, .int v_woken])), (h_p0_now, .inl (cyI, 452, .inl v_now))] := hD
      refine lv_goto (tgt := 43) hx hb dX7_ofPassenger_32 (by decide) ?_
      obtain rfl := Option.some.inj h
      exact W.iret (v := r6) hx hb hr (fun t ht hW => ⟨⟨r6, (), rfl, rfl, WLD.of ht hP hD⟩, hS.F ht⟩) hS.2.2 dX7_ofPassenger_43
  · have h := ineg c1 h
    refine lv_aload_n hx hb dX7_ofPassenger_6 rfl (lv_at hl 0 rfl) ?_
    refine va_get (D := (dC, dI)) (ci := 7) (v := .ref h_p0_now) (C := RX7) (T := TX7) (N := 15) hx hb hts m_X7_ofPassenger_0 hown hK hP 0 rfl rfl 0 (by decide) (hts (.fieldLink RX7 7 "SleeperBerthsModel" "now" "[I") m_X7_ofPassenger_1) (fun _ h9 => h9) rfl dX7_ofPassenger_7 ?_
    refine lv_iload_n hx hb dX7_ofPassenger_10 rfl (lv_at hl 1 rfl) ?_
    refine lv_iload_n hx hb dX7_ofPassenger_11 rfl (lv_at hl 2 rfl) ?_
    obtain ⟨r9, e10, h⟩ := bsome h
    have hPc := sb_P [(h_p0_now, .inl (cyI, 452, .inl v_now))] hP [1] rfl
    have hDc := sb_D [(h_p0_now, .inl (cyI, 452, .inl v_now))] hD [1] (by decide) rfl
    have hFc := va_free (wc := [(h_p0_now, .inl (cyI, 452, .inl v_now))]) hD hS hA [1] rfl
    refine va_calli (va_runS (As := [.ref h_p0_now, .int a1, .int a2]) (rest := []) ⟨hx, hb, hml, hown, hts⟩ (c_X7_of l dC dI cyI cyJ cyT h_p0_now s.heap.size v_now a1 a2 r9 e10) (va_cwS 3 hts gX7_ofPassenger_X7_of rfl rfl rfl (by decide +kernel) ⟨Nat.le_of_ble_eq_true rfl, Nat.le_of_ble_eq_true rfl⟩) ⟨PRE.blind, PRE.go hK hPc hDc hNW⟩ rfl rfl hl.1 rfl (lv_room (Nat.le_of_ble_eq_true rfl)) dX7_ofPassenger_12 ⟨Nat.zero_le _, Nat.zero_le _⟩) hS (fun q _ h => hFc q h) hFc (fun z11 u t H locs ht hvm hw hB hz1 hk1 hS => ?_)
    subst z11
    obtain ⟨hP, hD⟩ := va_join (wr := [(h_p0, .inr (7, [.ref h_p0_now, .ref h_p0_then, .ref h_p0_past, .int v_kept, .ref h_p0_text, .int v_typed, .int v_thrown, .int v_at, .int v_isFault, .ref h_p0_told, .int v_tolds, .int v_one, .int v_other, .int v_change, .int v_woken]))]) (w1 := [(h_p0_now, .inl (cyI, 452, .inl v_now))]) hP hD [1] [0] rfl rfl (by decide) (by decide) hk1 hFc (WLD.P hB ht) hB.2
    have hP : va_P (dC, dI) vwCl [(h_p0, .inr (7, [.ref h_p0_now, .ref h_p0_then, .ref h_p0_past, .int v_kept, .ref h_p0_text, .int v_typed, .int v_thrown, .int v_at, .int v_isFault, .ref h_p0_told, .int v_tolds, .int v_one, .int v_other, .int v_change, .int v_woken])), (h_p0_now, .inl (cyI, 452, .inl v_now))] H := hP
    have hD : va_D A [(h_p0, .inr (7, [.ref h_p0_now, .ref h_p0_then, .ref h_p0_past, .int v_kept, .ref h_p0_text, .int v_typed, .int v_thrown, .int v_at, .int v_isFault, .ref h_p0_told, .int v_tolds, .int v_one, .int v_other, .int v_change, .int v_woken])), (h_p0_now, .inl (cyI, 452, .inl v_now))] := hD
    refine lv_goto (tgt := 43) hx hb dX7_ofPassenger_15 (by decide) ?_
    obtain rfl := Option.some.inj h
    exact W.iret (v := r9) hx hb hr (fun t ht hW => ⟨⟨r9, (), rfl, rfl, WLD.of ht hP hD⟩, hS.F ht⟩) hS.2.2 dX7_ofPassenger_43
