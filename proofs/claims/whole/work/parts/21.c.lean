def s_X7_undo (n : Nat) (v_kept : Int32) (v_thrown : Int32) (v_now : Nat → Int32) (v_past : Nat → Int32) : Option (Int32 × Int32 × Int32 × (Nat → Int32)) := (if v_kept = 0 then ((s_X7_fails (iI 0) (iI 1)).bind fun r5 => (some (r5.1, v_kept, r5.2, v_now))) else ((s_X7_copies n 2712 v_past 452 v_now (iI 452 * (v_kept - iI 1)) (iI 0)).bind fun r2 => (some ((v_kept - iI 1), (v_kept - iI 1), iI 0, r2))))
set_option maxRecDepth 20000 in
theorem m_X7_undo_0 : ∀ w ∈ u_ws RX7 TX7 15, w ∈ wsX7_undo := by decide +kernel
set_option maxRecDepth 20000 in
theorem m_X7_undo_1 : (.fieldLink RX7 25 "SleeperBerthsModel" "thrown" "I" : Cond) ∈ wsX7_undo := by decide +kernel
set_option maxRecDepth 20000 in
theorem m_X7_undo_2 : (.fieldLink RX7 33 "SleeperBerthsModel" "kept" "I" : Cond) ∈ wsX7_undo := by decide +kernel
set_option maxRecDepth 20000 in
theorem m_X7_undo_3 : (.fieldLink RX7 16 "SleeperBerthsModel" "past" "[I" : Cond) ∈ wsX7_undo := by decide +kernel
set_option maxRecDepth 20000 in
theorem m_X7_undo_4 : (.fieldLink RX7 7 "SleeperBerthsModel" "now" "[I" : Cond) ∈ wsX7_undo := by decide +kernel
set_option maxHeartbeats 4000000 in
set_option maxRecDepth 100000 in
theorem c_X7_undo (l : Launch) (dC : Nat → ClassId) (dI : Nat → Nat → Nat) (cyI cyJ cyT : ClassId) (h_p0 : Nat) (h_p0_now : Nat) (h_p0_then : Nat) (h_p0_past : Nat) (h_p0_text : Nat) (h_p0_told : Nat) (sz : Nat) (v_kept : Int32) (v_typed : Int32) (v_thrown : Int32) (v_at : Int32) (v_isFault : Int32) (v_tolds : Int32) (v_one : Int32) (v_other : Int32) (v_change : Int32) (v_woken : Int32) (v_now : Nat → Int32) (v_past : Nat → Int32) (n : Nat) (o : Int32 × Int32 × Int32 × (Nat → Int32)) (h : s_X7_undo n v_kept v_thrown v_now v_past = some o) : Met l yX7_undo wsX7_undo ({ frames := 1, cells := 0, slots := 0, locals := 24 }) (va_Pc [.ref h_p0] (PRE (dC, dI) (TYS cyI cyJ cyT) sz [(h_p0, .inr (7, [.ref h_p0_now, .ref h_p0_then, .ref h_p0_past, .int v_kept, .ref h_p0_text, .int v_typed, .int v_thrown, .int v_at, .int v_isFault, .ref h_p0_told, .int v_tolds, .int v_one, .int v_other, .int v_change, .int v_woken])), (h_p0_now, .inl (cyI, 452, .inl v_now)), (h_p0_past, .inl (cyI, 2712, .inl v_past))])) (va_Qi (S := Unit) (fun r _ => r = o.1) (fun _ t => WLD (dC, dI) (va_A [(h_p0, .inr (7, [.ref h_p0_now, .ref h_p0_then, .ref h_p0_past, .int v_kept, .ref h_p0_text, .int v_typed, .int v_thrown, .int v_at, .int v_isFault, .ref h_p0_told, .int v_tolds, .int v_one, .int v_other, .int v_change, .int v_woken])), (h_p0_now, .inl (cyI, 452, .inl v_now)), (h_p0_past, .inl (cyI, 2712, .inl v_past))] sz) [(h_p0, .inr (7, [.ref h_p0_now, .ref h_p0_then, .ref h_p0_past, .int o.2.1, .ref h_p0_text, .int v_typed, .int o.2.2.1, .int v_at, .int v_isFault, .ref h_p0_told, .int v_tolds, .int v_one, .int v_other, .int v_change, .int v_woken])), (h_p0_now, .inl (cyI, 452, .inl o.2.2.2)), (h_p0_past, .inl (cyI, 2712, .inl v_past))] t) (va_A [(h_p0, .inr (7, [.ref h_p0_now, .ref h_p0_then, .ref h_p0_past, .int v_kept, .ref h_p0_text, .int v_typed, .int v_thrown, .int v_at, .int v_isFault, .ref h_p0_told, .int v_tolds, .int v_one, .int v_other, .int v_change, .int v_woken])), (h_p0_now, .inl (cyI, 452, .inl v_now)), (h_p0_past, .inl (cyI, 2712, .inl v_past))] sz)) 0 0 (va_A [(h_p0, .inr (7, [.ref h_p0_now, .ref h_p0_then, .ref h_p0_past, .int v_kept, .ref h_p0_text, .int v_typed, .int v_thrown, .int v_at, .int v_isFault, .ref h_p0_told, .int v_tolds, .int v_one, .int v_other, .int v_change, .int v_woken])), (h_p0_now, .inl (cyI, 452, .inl v_now)), (h_p0_past, .inl (cyI, 2712, .inl v_past))] sz) := by
  refine Met.ofW (cc := cX7_undo) (maxL := 1) (ret := (some .int)) (by decide) rfl ?_
  intro p e s m args below meth c s₁ B hml hv
  obtain ⟨rfl, hsz, hP, hK, hD0, hNW⟩ := hv
  have hx := B.exec
  have hb := B.bytes
  have hr := B.returns
  have hts := atoms_spec (ws := wsX7_undo) B.pre
  have hown : s.vm.findClass RX7 = some m.cls := findClass_of_methodNamed B.named
  have hlocks := B.notSynchronized
  subst hsz
  have hD := hD0.self (sz := s.heap.size)
  generalize hAe : va_A [(h_p0, .inr (7, [.ref h_p0_now, .ref h_p0_then, .ref h_p0_past, .int v_kept, .ref h_p0_text, .int v_typed, .int v_thrown, .int v_at, .int v_isFault, .ref h_p0_told, .int v_tolds, .int v_one, .int v_other, .int v_change, .int v_woken])), (h_p0_now, .inl (cyI, 452, .inl v_now)), (h_p0_past, .inl (cyI, 2712, .inl v_past))] s.heap.size = A at hD ⊢
  have hA : ∀ q : Nat, s.heap.size ≤ q → A q := fun q h => by rw [← hAe]; exact Or.inr h
  have hS : va_S A s.heap s.heap [] := va_S.rf
  have hP : va_P (dC, dI) vwCl [(h_p0, .inr (7, [.ref h_p0_now, .ref h_p0_then, .ref h_p0_past, .int v_kept, .ref h_p0_text, .int v_typed, .int v_thrown, .int v_at, .int v_isFault, .ref h_p0_told, .int v_tolds, .int v_one, .int v_other, .int v_change, .int v_woken])), (h_p0_now, .inl (cyI, 452, .inl v_now)), (h_p0_past, .inl (cyI, 2712, .inl v_past))] s.heap := hP
  have hl := lv_entry ([.ref h_p0]) (n := 1) (Nat.le_of_ble_eq_true rfl)
  rw [lg_entry_eq]
  generalize (lg_sl ([.ref h_p0]) ++ List.replicate (1 - (lg_sl ([.ref h_p0])).length) Slot.unset).toArray = ls at hl ⊢
  have hl : lv_has ls 1 [(0, .ref h_p0)] := hl
  unfold s_X7_undo at h
  refine lv_aload_n hx hb dX7_undo_0 rfl (lv_at hl 0 rfl) ?_
  refine lv_iconst (v := iI 0) hx hb dX7_undo_1 rfl ?_
  refine va_put (D := (dC, dI)) (ci := 7) (v := .int (iI 0)) (ty := .int) (C := RX7) (T := TX7) (N := 15) hx hb hts m_X7_undo_0 tyX7 tyX7_ok nmX7 hown hK hP hD hS 0 rfl rfl 6 (by decide) (hts (.fieldLink RX7 25 "SleeperBerthsModel" "thrown" "I") m_X7_undo_1) (fun _ h9 => h9) rfl (by decide +kernel) rfl rfl (Nat.le_of_ble_eq_true rfl) dX7_undo_2 (fun H locs hP hD hS => ?_)
  have hP : va_P (dC, dI) vwCl [(h_p0, .inr (7, [.ref h_p0_now, .ref h_p0_then, .ref h_p0_past, .int v_kept, .ref h_p0_text, .int v_typed, .int (iI 0), .int v_at, .int v_isFault, .ref h_p0_told, .int v_tolds, .int v_one, .int v_other, .int v_change, .int v_woken])), (h_p0_now, .inl (cyI, 452, .inl v_now)), (h_p0_past, .inl (cyI, 2712, .inl v_past))] H := hP
  have hD : va_D A [(h_p0, .inr (7, [.ref h_p0_now, .ref h_p0_then, .ref h_p0_past, .int v_kept, .ref h_p0_text, .int v_typed, .int (iI 0), .int v_at, .int v_isFault, .ref h_p0_told, .int v_tolds, .int v_one, .int v_other, .int v_change, .int v_woken])), (h_p0_now, .inl (cyI, 452, .inl v_now)), (h_p0_past, .inl (cyI, 2712, .inl v_past))] := hD
  refine lv_aload_n hx hb dX7_undo_5 rfl (lv_at hl 0 rfl) ?_
  refine va_get (D := (dC, dI)) (ci := 7) (v := .int v_kept) (C := RX7) (T := TX7) (N := 15) hx hb hts m_X7_undo_0 hown hK hP 0 rfl rfl 3 (by decide) (hts (.fieldLink RX7 33 "SleeperBerthsModel" "kept" "I") m_X7_undo_2) (fun _ h9 => h9) rfl dX7_undo_6 ?_
  refine lv_if_ne (tgt := 18) hx hb dX7_undo_9 (by decide) (fun c1 => ?_) (fun c1 => ?_)
  · have h := ineg c1 h
    refine lv_aload_n hx hb dX7_undo_18 rfl (lv_at hl 0 rfl) ?_
    refine lv_dup hx hb dX7_undo_19 rfl ?_
    refine va_get (D := (dC, dI)) (ci := 7) (v := .int v_kept) (C := RX7) (T := TX7) (N := 15) hx hb hts m_X7_undo_0 hown hK hP 0 rfl rfl 3 (by decide) (hts (.fieldLink RX7 33 "SleeperBerthsModel" "kept" "I") m_X7_undo_2) (fun _ h9 => h9) rfl dX7_undo_20 ?_
    refine lv_iconst (v := iI 1) hx hb dX7_undo_23 rfl ?_
    refine lv_isub hx hb dX7_undo_24 ?_
    refine va_put (D := (dC, dI)) (ci := 7) (v := .int (v_kept - iI 1)) (ty := .int) (C := RX7) (T := TX7) (N := 15) hx hb hts m_X7_undo_0 tyX7 tyX7_ok nmX7 hown hK hP hD hS 0 rfl rfl 3 (by decide) (hts (.fieldLink RX7 33 "SleeperBerthsModel" "kept" "I") m_X7_undo_2) (fun _ h9 => h9) rfl (by decide +kernel) rfl rfl (Nat.le_of_ble_eq_true rfl) dX7_undo_25 (fun H locs hP hD hS => ?_)
    have hP : va_P (dC, dI) vwCl [(h_p0, .inr (7, [.ref h_p0_now, .ref h_p0_then, .ref h_p0_past, .int (v_kept - iI 1), .ref h_p0_text, .int v_typed, .int (iI 0), .int v_at, .int v_isFault, .ref h_p0_told, .int v_tolds, .int v_one, .int v_other, .int v_change, .int v_woken])), (h_p0_now, .inl (cyI, 452, .inl v_now)), (h_p0_past, .inl (cyI, 2712, .inl v_past))] H := hP
    have hD : va_D A [(h_p0, .inr (7, [.ref h_p0_now, .ref h_p0_then, .ref h_p0_past, .int (v_kept - iI 1), .ref h_p0_text, .int v_typed, .int (iI 0), .int v_at, .int v_isFault, .ref h_p0_told, .int v_tolds, .int v_one, .int v_other, .int v_change, .int v_woken])), (h_p0_now, .inl (cyI, 452, .inl v_now)), (h_p0_past, .inl (cyI, 2712, .inl v_past))] := hD
    refine lv_aload_n hx hb dX7_undo_28 rfl (lv_at hl 0 rfl) ?_
    refine va_get (D := (dC, dI)) (ci := 7) (v := .ref h_p0_past) (C := RX7) (T := TX7) (N := 15) hx hb hts m_X7_undo_0 hown hK hP 0 rfl rfl 2 (by decide) (hts (.fieldLink RX7 16 "SleeperBerthsModel" "past" "[I") m_X7_undo_3) (fun _ h9 => h9) rfl dX7_undo_29 ?_
    refine lv_sipush (v := iI 452) hx hb dX7_undo_32 (by decide) ?_
    refine lv_aload_n hx hb dX7_undo_35 rfl (lv_at hl 0 rfl) ?_
    refine va_get (D := (dC, dI)) (ci := 7) (v := .int (v_kept - iI 1)) (C := RX7) (T := TX7) (N := 15) hx hb hts m_X7_undo_0 hown hK hP 0 rfl rfl 3 (by decide) (hts (.fieldLink RX7 33 "SleeperBerthsModel" "kept" "I") m_X7_undo_2) (fun _ h9 => h9) rfl dX7_undo_36 ?_
    refine lv_imul hx hb dX7_undo_39 ?_
    refine lv_aload_n hx hb dX7_undo_40 rfl (lv_at hl 0 rfl) ?_
    refine va_get (D := (dC, dI)) (ci := 7) (v := .ref h_p0_now) (C := RX7) (T := TX7) (N := 15) hx hb hts m_X7_undo_0 hown hK hP 0 rfl rfl 0 (by decide) (hts (.fieldLink RX7 7 "SleeperBerthsModel" "now" "[I") m_X7_undo_4) (fun _ h9 => h9) rfl dX7_undo_41 ?_
    refine lv_iconst (v := iI 0) hx hb dX7_undo_44 rfl ?_
    obtain ⟨r2, e3, h⟩ := bsome h
    have hPc := sb_P [(h_p0_past, .inl (cyI, 2712, .inl v_past)), (h_p0_now, .inl (cyI, 452, .inl v_now))] hP [2, 1] rfl
    have hDc := sb_D [(h_p0_past, .inl (cyI, 2712, .inl v_past)), (h_p0_now, .inl (cyI, 452, .inl v_now))] hD [2, 1] (by decide) rfl
    have hFc := va_free (wc := [(h_p0_past, .inl (cyI, 2712, .inl v_past)), (h_p0_now, .inl (cyI, 452, .inl v_now))]) hD hS hA [2, 1] rfl
    refine va_callv (va_runS (As := [.ref h_p0_past, .int (iI 452 * (v_kept - iI 1)), .ref h_p0_now, .int (iI 0)]) (rest := []) ⟨hx, hb, hml, hown, hts⟩ (c_X7_copies l dC dI cyI cyJ cyT h_p0_past h_p0_now H.size 2712 452 v_past v_now (iI 452 * (v_kept - iI 1)) (iI 0) n r2 e3) (va_cwS 4 hts gX7_undo_X7_copies rfl rfl rfl (by decide +kernel) ⟨Nat.le_of_ble_eq_true rfl, Nat.le_of_ble_eq_true rfl⟩) ⟨PRE.blind, PRE.go hK hPc hDc hNW⟩ rfl rfl hl.1 rfl (lv_room (Nat.le_of_ble_eq_true rfl)) dX7_undo_45 ⟨Nat.zero_le _, Nat.zero_le _⟩) hS (fun q _ h => hFc q h) hFc (fun u t H locs ht hvm hw hB hz1 hk1 hS => ?_)
    obtain ⟨hP, hD⟩ := va_join (wr := [(h_p0, .inr (7, [.ref h_p0_now, .ref h_p0_then, .ref h_p0_past, .int (v_kept - iI 1), .ref h_p0_text, .int v_typed, .int (iI 0), .int v_at, .int v_isFault, .ref h_p0_told, .int v_tolds, .int v_one, .int v_other, .int v_change, .int v_woken]))]) (w1 := [(h_p0_past, .inl (cyI, 2712, .inl v_past)), (h_p0_now, .inl (cyI, 452, .inl r2))]) hP hD [2, 1] [0] rfl rfl (by decide) (by decide) hk1 hFc (WLD.P hB ht) hB.2
    have hP : va_P (dC, dI) vwCl [(h_p0, .inr (7, [.ref h_p0_now, .ref h_p0_then, .ref h_p0_past, .int (v_kept - iI 1), .ref h_p0_text, .int v_typed, .int (iI 0), .int v_at, .int v_isFault, .ref h_p0_told, .int v_tolds, .int v_one, .int v_other, .int v_change, .int v_woken])), (h_p0_past, .inl (cyI, 2712, .inl v_past)), (h_p0_now, .inl (cyI, 452, .inl r2))] H := hP
    have hD : va_D A [(h_p0, .inr (7, [.ref h_p0_now, .ref h_p0_then, .ref h_p0_past, .int (v_kept - iI 1), .ref h_p0_text, .int v_typed, .int (iI 0), .int v_at, .int v_isFault, .ref h_p0_told, .int v_tolds, .int v_one, .int v_other, .int v_change, .int v_woken])), (h_p0_past, .inl (cyI, 2712, .inl v_past)), (h_p0_now, .inl (cyI, 452, .inl r2))] := hD
    refine lv_aload_n hx hb dX7_undo_48 rfl (lv_at hl 0 rfl) ?_
    refine va_get (D := (dC, dI)) (ci := 7) (v := .int (v_kept - iI 1)) (C := RX7) (T := TX7) (N := 15) hx hb hts m_X7_undo_0 hown hK hP 0 rfl rfl 3 (by decide) (hts (.fieldLink RX7 33 "SleeperBerthsModel" "kept" "I") m_X7_undo_2) (fun _ h9 => h9) rfl dX7_undo_49 ?_
    obtain rfl := Option.some.inj h
    exact W.iret (v := (v_kept - iI 1)) hx hb hr (fun t ht hW => ⟨⟨(v_kept - iI 1), (), rfl, rfl, WLD.of ht (sb_P [(h_p0, .inr (7, [.ref h_p0_now, .ref h_p0_then, .ref h_p0_past, .int (v_kept - iI 1), .ref h_p0_text, .int v_typed, .int (iI 0), .int v_at, .int v_isFault, .ref h_p0_told, .int v_tolds, .int v_one, .int v_other, .int v_change, .int v_woken])), (h_p0_now, .inl (cyI, 452, .inl r2)), (h_p0_past, .inl (cyI, 2712, .inl v_past))] hP [0, 2, 1] rfl) (sb_D [(h_p0, .inr (7, [.ref h_p0_now, .ref h_p0_then, .ref h_p0_past, .int (v_kept - iI 1), .ref h_p0_text, .int v_typed, .int (iI 0), .int v_at, .int v_isFault, .ref h_p0_told, .int v_tolds, .int v_one, .int v_other, .int v_change, .int v_woken])), (h_p0_now, .inl (cyI, 452, .inl r2)), (h_p0_past, .inl (cyI, 2712, .inl v_past))] hD [0, 2, 1] (by decide) rfl)⟩, hS.F ht⟩) hS.2.2 dX7_undo_52
  · have h := ipos c1 h
    refine lv_aload_n hx hb dX7_undo_12 rfl (lv_at hl 0 rfl) ?_
    refine lv_iconst (v := iI 1) hx hb dX7_undo_13 rfl ?_
    obtain ⟨r5, e6, h⟩ := bsome h
    have hPc := sb_P [(h_p0, .inr (7, [.ref h_p0_now, .ref h_p0_then, .ref h_p0_past, .int v_kept, .ref h_p0_text, .int v_typed, .int (iI 0), .int v_at, .int v_isFault, .ref h_p0_told, .int v_tolds, .int v_one, .int v_other, .int v_change, .int v_woken]))] hP [0] rfl
    have hDc := sb_D [(h_p0, .inr (7, [.ref h_p0_now, .ref h_p0_then, .ref h_p0_past, .int v_kept, .ref h_p0_text, .int v_typed, .int (iI 0), .int v_at, .int v_isFault, .ref h_p0_told, .int v_tolds, .int v_one, .int v_other, .int v_change, .int v_woken]))] hD [0] (by decide) rfl
    have hFc := va_free (wc := [(h_p0, .inr (7, [.ref h_p0_now, .ref h_p0_then, .ref h_p0_past, .int v_kept, .ref h_p0_text, .int v_typed, .int (iI 0), .int v_at, .int v_isFault, .ref h_p0_told, .int v_tolds, .int v_one, .int v_other, .int v_change, .int v_woken]))]) hD hS hA [0] rfl
    refine va_calli (va_runV (As := [.int (iI 1)]) (rest := []) ⟨hx, hb, hml, hown, hts⟩ (c_X7_fails l dC dI cyI cyJ cyT h_p0 h_p0_now h_p0_then h_p0_past h_p0_text h_p0_told H.size v_kept v_typed (iI 0) v_at v_isFault v_tolds v_one v_other v_change v_woken (iI 1) r5 e6) (cwV 1 hts gX7_undo_X7_fails rfl rfl rfl (by decide +kernel) ⟨Nat.le_of_ble_eq_true rfl, Nat.le_of_ble_eq_true rfl⟩) ⟨PRE.blind, va_recv hK hPc (ci := 7) (q0 := 0) rfl rfl, PRE.go hK hPc hDc hNW⟩ rfl rfl hl.1 rfl (lv_room (Nat.le_of_ble_eq_true rfl)) dX7_undo_14 ⟨Nat.zero_le _, Nat.zero_le _⟩) hS (fun q _ h => hFc q h) hFc (fun z7 u t H locs ht hvm hw hB hz1 hk1 hS => ?_)
    subst z7
    obtain ⟨hP, hD⟩ := va_join (wr := [(h_p0_now, .inl (cyI, 452, .inl v_now)), (h_p0_past, .inl (cyI, 2712, .inl v_past))]) (w1 := [(h_p0, .inr (7, [.ref h_p0_now, .ref h_p0_then, .ref h_p0_past, .int v_kept, .ref h_p0_text, .int v_typed, .int r5.2, .int v_at, .int v_isFault, .ref h_p0_told, .int v_tolds, .int v_one, .int v_other, .int v_change, .int v_woken]))]) hP hD [0] [1, 2] rfl rfl (by decide) (by decide) hk1 hFc (WLD.P hB ht) hB.2
    have hP : va_P (dC, dI) vwCl [(h_p0_now, .inl (cyI, 452, .inl v_now)), (h_p0_past, .inl (cyI, 2712, .inl v_past)), (h_p0, .inr (7, [.ref h_p0_now, .ref h_p0_then, .ref h_p0_past, .int v_kept, .ref h_p0_text, .int v_typed, .int r5.2, .int v_at, .int v_isFault, .ref h_p0_told, .int v_tolds, .int v_one, .int v_other, .int v_change, .int v_woken]))] H := hP
    have hD : va_D A [(h_p0_now, .inl (cyI, 452, .inl v_now)), (h_p0_past, .inl (cyI, 2712, .inl v_past)), (h_p0, .inr (7, [.ref h_p0_now, .ref h_p0_then, .ref h_p0_past, .int v_kept, .ref h_p0_text, .int v_typed, .int r5.2, .int v_at, .int v_isFault, .ref h_p0_told, .int v_tolds, .int v_one, .int v_other, .int v_change, .int v_woken]))] := hD
    obtain rfl := Option.some.inj h
    exact W.iret (v := r5.1) hx hb hr (fun t ht hW => ⟨⟨r5.1, (), rfl, rfl, WLD.of ht (sb_P [(h_p0, .inr (7, [.ref h_p0_now, .ref h_p0_then, .ref h_p0_past, .int v_kept, .ref h_p0_text, .int v_typed, .int r5.2, .int v_at, .int v_isFault, .ref h_p0_told, .int v_tolds, .int v_one, .int v_other, .int v_change, .int v_woken])), (h_p0_now, .inl (cyI, 452, .inl v_now)), (h_p0_past, .inl (cyI, 2712, .inl v_past))] hP [2, 0, 1] rfl) (sb_D [(h_p0, .inr (7, [.ref h_p0_now, .ref h_p0_then, .ref h_p0_past, .int v_kept, .ref h_p0_text, .int v_typed, .int r5.2, .int v_at, .int v_isFault, .ref h_p0_told, .int v_tolds, .int v_one, .int v_other, .int v_change, .int v_woken])), (h_p0_now, .inl (cyI, 452, .inl v_now)), (h_p0_past, .inl (cyI, 2712, .inl v_past))] hD [2, 0, 1] (by decide) rfl)⟩, hS.F ht⟩) hS.2.2 dX7_undo_17
def s_X7_canBeHad (arr_0 : Nat → Int32) (a1 : Int32) (a2 : Int32) : Option (Int32) := (if gd (iI 3 + (a1 / iI 6)) 452 = true then (if (arr_0 (iI 3 + (a1 / iI 6)).toNatClampNeg) ≤ a2 then (some (iI 0)) else ((s_X7_holds arr_0 a1 a2).bind fun r3 => (if r3 = iI (-1) then (some (iI 1)) else (some (iI 0))))) else none)
set_option maxHeartbeats 4000000 in
set_option maxRecDepth 100000 in
theorem c_X7_canBeHad (l : Launch) (dC : Nat → ClassId) (dI : Nat → Nat → Nat) (cyI cyJ cyT : ClassId) (h_p0 : Nat) (sz : Nat) (arr_0 : Nat → Int32) (a1 : Int32) (a2 : Int32) (o : Int32) (h : s_X7_canBeHad arr_0 a1 a2 = some o) : Met l yX7_canBeHad wsX7_canBeHad ({ frames := 1, cells := 0, slots := 0, locals := 22 }) (va_Pc [.ref h_p0, .int a1, .int a2] (PRE (dC, dI) (TYS cyI cyJ cyT) sz [(h_p0, .inl (cyI, 452, .inl arr_0))])) (va_Qi (S := Unit) (fun r _ => r = o) (fun _ t => WLD (dC, dI) (va_A [(h_p0, .inl (cyI, 452, .inl arr_0))] sz) [(h_p0, .inl (cyI, 452, .inl arr_0))] t) (va_A [(h_p0, .inl (cyI, 452, .inl arr_0))] sz)) 0 0 (va_A [(h_p0, .inl (cyI, 452, .inl arr_0))] sz) := by
  refine Met.ofW (cc := cX7_canBeHad) (maxL := 3) (ret := (some .boolean)) (by decide) rfl ?_
  intro p e s m args below meth c s₁ B hml hv
  obtain ⟨rfl, hsz, hP, hK, hD0, hNW⟩ := hv
  have hx := B.exec
  have hb := B.bytes
  have hr := B.returns
  have hts := atoms_spec (ws := wsX7_canBeHad) B.pre
  have hown : s.vm.findClass RX7 = some m.cls := findClass_of_methodNamed B.named
  have hlocks := B.notSynchronized
  subst hsz
  have hD := hD0.self (sz := s.heap.size)
  generalize hAe : va_A [(h_p0, .inl (cyI, 452, .inl arr_0))] s.heap.size = A at hD ⊢
  have hA : ∀ q : Nat, s.heap.size ≤ q → A q := fun q h => by rw [← hAe]; exact Or.inr h
  have hS : va_S A s.heap s.heap [] := va_S.rf
  have hP : va_P (dC, dI) vwCl [(h_p0, .inl (cyI, 452, .inl arr_0))] s.heap := hP
  have hl := lv_entry ([.ref h_p0, .int a1, .int a2]) (n := 3) (Nat.le_of_ble_eq_true rfl)
  rw [lg_entry_eq]
  generalize (lg_sl ([.ref h_p0, .int a1, .int a2]) ++ List.replicate (3 - (lg_sl ([.ref h_p0, .int a1, .int a2])).length) Slot.unset).toArray = ls at hl ⊢
  have hl : lv_has ls 3 [(0, .ref h_p0), (1, .int a1), (2, .int a2)] := hl
  unfold s_X7_canBeHad at h
  refine lv_iload_n hx hb dX7_canBeHad_0 rfl (lv_at hl 2 rfl) ?_
  refine lv_aload_n hx hb dX7_canBeHad_1 rfl (lv_at hl 0 rfl) ?_
  refine lv_iconst (v := iI 3) hx hb dX7_canBeHad_2 rfl ?_
  refine lv_iload_n hx hb dX7_canBeHad_3 rfl (lv_at hl 1 rfl) ?_
  refine lv_bipush (v := iI 6) hx hb dX7_canBeHad_4 (by decide) ?_
  refine lv_idiv hx hb dX7_canBeHad_6 (by decide) ?_
  refine lv_iadd hx hb dX7_canBeHad_7 ?_
  obtain ⟨g1, h⟩ := gsome h
  refine va_iald (D := (dC, dI)) hx hb hK hP 0 0 rfl rfl g1 dX7_canBeHad_8 ?_
  refine lv_icmp_ge (tgt := 26) hx hb dX7_canBeHad_9 (by decide) (fun c2 => ?_) (fun c2 => ?_)
  · have h := ipos c2 h
    refine lv_iconst (v := iI 0) hx hb dX7_canBeHad_26 rfl ?_
    obtain rfl := Option.some.inj h
    exact W.zret (v := iI 0) hx hb hr (by decide) (fun t ht hW => ⟨⟨iI 0, (), rfl, rfl, WLD.of ht hP hD⟩, hS.F ht⟩) hS.2.2 dX7_canBeHad_27
  · have h := ineg c2 h
    refine lv_aload_n hx hb dX7_canBeHad_12 rfl (lv_at hl 0 rfl) ?_
    refine lv_iload_n hx hb dX7_canBeHad_13 rfl (lv_at hl 1 rfl) ?_
    refine lv_iload_n hx hb dX7_canBeHad_14 rfl (lv_at hl 2 rfl) ?_
    obtain ⟨r3, e4, h⟩ := bsome h
    have hPc := sb_P [(h_p0, .inl (cyI, 452, .inl arr_0))] hP [0] rfl
    have hDc := sb_D [(h_p0, .inl (cyI, 452, .inl arr_0))] hD [0] (by decide) rfl
    have hFc := va_free (wc := [(h_p0, .inl (cyI, 452, .inl arr_0))]) hD hS hA [0] rfl
    refine va_calli (va_runS (As := [.ref h_p0, .int a1, .int a2]) (rest := []) ⟨hx, hb, hml, hown, hts⟩ (c_X7_holds l dC dI cyI cyJ cyT h_p0 s.heap.size arr_0 a1 a2 r3 e4) (va_cwS 3 hts gX7_canBeHad_X7_holds rfl rfl rfl (by decide +kernel) ⟨Nat.le_of_ble_eq_true rfl, Nat.le_of_ble_eq_true rfl⟩) ⟨PRE.blind, PRE.go hK hPc hDc hNW⟩ rfl rfl hl.1 rfl (lv_room (Nat.le_of_ble_eq_true rfl)) dX7_canBeHad_15 ⟨Nat.zero_le _, Nat.zero_le _⟩) hS (fun q _ h => hFc q h) hFc (fun z5 u t H locs ht hvm hw hB hz1 hk1 hS => ?_)
    subst z5
    obtain ⟨hP, hD⟩ := va_join (wr := []) (w1 := [(h_p0, .inl (cyI, 452, .inl arr_0))]) hP hD [0] [] rfl rfl (by decide) (by decide) hk1 hFc (WLD.P hB ht) hB.2
    have hP : va_P (dC, dI) vwCl [(h_p0, .inl (cyI, 452, .inl arr_0))] H := hP
    have hD : va_D A [(h_p0, .inl (cyI, 452, .inl arr_0))] := hD
    refine lv_iconst (v := iI (-1)) hx hb dX7_canBeHad_18 rfl ?_
    refine lv_icmp_ne (tgt := 26) hx hb dX7_canBeHad_19 (by decide) (fun c6 => ?_) (fun c6 => ?_)
    · have h := ineg c6 h
      refine lv_iconst (v := iI 0) hx hb dX7_canBeHad_26 rfl ?_
      obtain rfl := Option.some.inj h
      exact W.zret (v := iI 0) hx hb hr (by decide) (fun t ht hW => ⟨⟨iI 0, (), rfl, rfl, WLD.of ht hP hD⟩, hS.F ht⟩) hS.2.2 dX7_canBeHad_27
    · have h := ipos c6 h
      refine lv_iconst (v := iI 1) hx hb dX7_canBeHad_22 rfl ?_
      refine lv_goto (tgt := 27) hx hb dX7_canBeHad_23 (by decide) ?_
      obtain rfl := Option.some.inj h
      exact W.zret (v := iI 1) hx hb hr (by decide) (fun t ht hW => ⟨⟨iI 1, (), rfl, rfl, WLD.of ht hP hD⟩, hS.F ht⟩) hS.2.2 dX7_canBeHad_27
def s_X7_isFree_L6 (n : Nat) (arr_0 : Nat → Int32) (a1 : Int32) (a3 : Int32) : Nat → Int32 → Int32 → Option (Int32)
  | 0, _, _ => none
  | k + 1, x4, x5 => (if a3 ≤ x5 then ((if zb x4 = true then some (x4) else none)) else (if x4 = 0 then (s_X7_isFree_L6 n arr_0 a1 a3 k (iI 0) (x5 + iI 1)) else ((s_X7_canBeHad arr_0 a1 x5).bind fun r4 => (if r4 = 0 then (s_X7_isFree_L6 n arr_0 a1 a3 k (iI 0) (x5 + iI 1)) else (s_X7_isFree_L6 n arr_0 a1 a3 k (iI 1) (x5 + iI 1))))))
def s_X7_isFree (n : Nat) (arr_0 : Nat → Int32) (a1 : Int32) (a2 : Int32) (a3 : Int32) : Option (Int32) := (s_X7_isFree_L6 n arr_0 a1 a3 n (iI 1) a2)
set_option maxHeartbeats 4000000 in
set_option maxRecDepth 100000 in
theorem c_X7_isFree (l : Launch) (dC : Nat → ClassId) (dI : Nat → Nat → Nat) (cyI cyJ cyT : ClassId) (h_p0 : Nat) (sz : Nat) (arr_0 : Nat → Int32) (a1 : Int32) (a2 : Int32) (a3 : Int32) (n : Nat) (o : Int32) (h : s_X7_isFree n arr_0 a1 a2 a3 = some o) : Met l yX7_isFree wsX7_isFree ({ frames := 2, cells := 0, slots := 0, locals := 44 }) (va_Pc [.ref h_p0, .int a1, .int a2, .int a3] (PRE (dC, dI) (TYS cyI cyJ cyT) sz [(h_p0, .inl (cyI, 452, .inl arr_0))])) (va_Qi (S := Unit) (fun r _ => r = o) (fun _ t => WLD (dC, dI) (va_A [(h_p0, .inl (cyI, 452, .inl arr_0))] sz) [(h_p0, .inl (cyI, 452, .inl arr_0))] t) (va_A [(h_p0, .inl (cyI, 452, .inl arr_0))] sz)) 0 0 (va_A [(h_p0, .inl (cyI, 452, .inl arr_0))] sz) := by
  refine Met.ofW (cc := cX7_isFree) (maxL := 6) (ret := (some .boolean)) (by decide) rfl ?_
  intro p e s m args below meth c s₁ B hml hv
  obtain ⟨rfl, hsz, hP, hK, hD0, hNW⟩ := hv
  have hx := B.exec
  have hb := B.bytes
  have hr := B.returns
  have hts := atoms_spec (ws := wsX7_isFree) B.pre
  have hown : s.vm.findClass RX7 = some m.cls := findClass_of_methodNamed B.named
  have hlocks := B.notSynchronized
  subst hsz
  have hD := hD0.self (sz := s.heap.size)
  generalize hAe : va_A [(h_p0, .inl (cyI, 452, .inl arr_0))] s.heap.size = A at hD ⊢
  have hA : ∀ q : Nat, s.heap.size ≤ q → A q := fun q h => by rw [← hAe]; exact Or.inr h
  have hS : va_S A s.heap s.heap [] := va_S.rf
  have hP : va_P (dC, dI) vwCl [(h_p0, .inl (cyI, 452, .inl arr_0))] s.heap := hP
  have L6 : ∀ (k : Nat), (∀ (x4 : Int32) (x5 : Int32) (H : Heap) (locs : List Loc), va_P (dC, dI) vwCl [(h_p0, .inl (cyI, 452, .inl arr_0))] H → va_D A [(h_p0, .inl (cyI, 452, .inl arr_0))] → va_S A s.heap H locs → ∀ (ls : Array Slot), lv_has ls 6 [(0, .ref h_p0), (1, .int a1), (3, .int a3), (4, .int x4), (5, .int x5)] →  s_X7_isFree_L6 n arr_0 a1 a3 k x4 x5 = some o → W p l e (headSpec wsX7_isFree ({ frames := 2, cells := 0, slots := 0, locals := 44 })).room s m (([.ref h_p0, .int a1, .int a2, .int a3] : List Value).toArray) below meth c H locs 0 0 (MQ below (va_Qi (S := Unit) (fun r _ => r = o) (fun _ t => WLD (dC, dI) A [(h_p0, .inl (cyI, 452, .inl arr_0))] t) A) (([.ref h_p0, .int a1, .int a2, .int a3] : List Value).toArray) s 0 0 A) (F0 m 6 ls [])) := by
    intro k
    induction k with
    | zero =>
      intro  x4 x5 H locs hP hD hS ls hl h
      rw [s_X7_isFree_L6] at h
      cases h
    | succ k ih =>
      intro  x4 x5 H locs hP hD hS ls hl h
      rw [s_X7_isFree_L6] at h
      refine lv_iload hx hb dX7_isFree_6 (lv_at hl 4 rfl) ?_
      refine lv_iload_n hx hb dX7_isFree_8 rfl (lv_at hl 2 rfl) ?_
      refine lv_icmp_ge (tgt := 40) hx hb dX7_isFree_9 (by decide) (fun c1 => ?_) (fun c1 => ?_)
      · have h := ipos c1 h
        refine lv_iload hx hb dX7_isFree_40 (lv_at hl 3 rfl) ?_
        obtain ⟨g2, h⟩ := zsome h
        obtain rfl := Option.some.inj h
        exact W.zret (v := x4) hx hb hr (zb_nar g2) (fun t ht hW => ⟨⟨x4, (), rfl, rfl, WLD.of ht hP hD⟩, hS.F ht⟩) hS.2.2 dX7_isFree_42
      · have h := ineg c1 h
        refine lv_iload hx hb dX7_isFree_12 (lv_at hl 3 rfl) ?_
        refine lv_if_eq (tgt := 31) hx hb dX7_isFree_14 (by decide) (fun c3 => ?_) (fun c3 => ?_)
        · have h := ipos c3 h
          refine lv_iconst (v := iI 0) hx hb dX7_isFree_31 rfl ?_
          refine lv_istore hx hb dX7_isFree_32 hl (by decide) (rfl : _ = ([(4, .int (iI 0)), (0, .ref h_p0), (1, .int a1), (3, .int a3), (5, .int x5)] : List (Nat × Value))) (fun ls hl => ?_)
          refine lv_iinc (v := (x5 + iI 1)) hx hb dX7_isFree_34 hl (k := 4) rfl rfl (by decide) (rfl : _ = ([(5, .int (x5 + iI 1)), (4, .int (iI 0)), (0, .ref h_p0), (1, .int a1), (3, .int a3)] : List (Nat × Value))) (fun ls hl => ?_)
          refine lv_goto (tgt := 6) hx hb dX7_isFree_37 (by decide) ?_
          exact ih (iI 0) (x5 + iI 1) _ _ hP hD hS ls (lv_sub hl [2, 3, 4, 1, 0] rfl) h
        · have h := ineg c3 h
          refine lv_aload_n hx hb dX7_isFree_17 rfl (lv_at hl 0 rfl) ?_
          refine lv_iload_n hx hb dX7_isFree_18 rfl (lv_at hl 1 rfl) ?_
          refine lv_iload hx hb dX7_isFree_19 (lv_at hl 4 rfl) ?_
          obtain ⟨r4, e5, h⟩ := bsome h
          have hPc := sb_P [(h_p0, .inl (cyI, 452, .inl arr_0))] hP [0] rfl
          have hDc := sb_D [(h_p0, .inl (cyI, 452, .inl arr_0))] hD [0] (by decide) rfl
          have hFc := va_free (wc := [(h_p0, .inl (cyI, 452, .inl arr_0))]) hD hS hA [0] rfl
          refine va_calli (va_runS (As := [.ref h_p0, .int a1, .int x5]) (rest := []) ⟨hx, hb, hml, hown, hts⟩ (c_X7_canBeHad l dC dI cyI cyJ cyT h_p0 H.size arr_0 a1 x5 r4 e5) (va_cwS 3 hts gX7_isFree_X7_canBeHad rfl rfl rfl (by decide +kernel) ⟨Nat.le_of_ble_eq_true rfl, Nat.le_of_ble_eq_true rfl⟩) ⟨PRE.blind, PRE.go hK hPc hDc hNW⟩ rfl rfl hl.1 rfl (lv_room (Nat.le_of_ble_eq_true rfl)) dX7_isFree_21 ⟨Nat.zero_le _, Nat.zero_le _⟩) hS (fun q _ h => hFc q h) hFc (fun z6 u t H locs ht hvm hw hB hz1 hk1 hS => ?_)
          subst z6
          obtain ⟨hP, hD⟩ := va_join (wr := []) (w1 := [(h_p0, .inl (cyI, 452, .inl arr_0))]) hP hD [0] [] rfl rfl (by decide) (by decide) hk1 hFc (WLD.P hB ht) hB.2
          have hP : va_P (dC, dI) vwCl [(h_p0, .inl (cyI, 452, .inl arr_0))] H := hP
          have hD : va_D A [(h_p0, .inl (cyI, 452, .inl arr_0))] := hD
          refine lv_if_eq (tgt := 31) hx hb dX7_isFree_24 (by decide) (fun c7 => ?_) (fun c7 => ?_)
          · have h := ipos c7 h
            refine lv_iconst (v := iI 0) hx hb dX7_isFree_31 rfl ?_
            refine lv_istore hx hb dX7_isFree_32 hl (by decide) (rfl : _ = ([(4, .int (iI 0)), (0, .ref h_p0), (1, .int a1), (3, .int a3), (5, .int x5)] : List (Nat × Value))) (fun ls hl => ?_)
            refine lv_iinc (v := (x5 + iI 1)) hx hb dX7_isFree_34 hl (k := 4) rfl rfl (by decide) (rfl : _ = ([(5, .int (x5 + iI 1)), (4, .int (iI 0)), (0, .ref h_p0), (1, .int a1), (3, .int a3)] : List (Nat × Value))) (fun ls hl => ?_)
            refine lv_goto (tgt := 6) hx hb dX7_isFree_37 (by decide) ?_
            exact ih (iI 0) (x5 + iI 1) _ _ hP hD hS ls (lv_sub hl [2, 3, 4, 1, 0] rfl) h
          · have h := ineg c7 h
            refine lv_iconst (v := iI 1) hx hb dX7_isFree_27 rfl ?_
            refine lv_goto (tgt := 32) hx hb dX7_isFree_28 (by decide) ?_
            refine lv_istore hx hb dX7_isFree_32 hl (by decide) (rfl : _ = ([(4, .int (iI 1)), (0, .ref h_p0), (1, .int a1), (3, .int a3), (5, .int x5)] : List (Nat × Value))) (fun ls hl => ?_)
            refine lv_iinc (v := (x5 + iI 1)) hx hb dX7_isFree_34 hl (k := 4) rfl rfl (by decide) (rfl : _ = ([(5, .int (x5 + iI 1)), (4, .int (iI 1)), (0, .ref h_p0), (1, .int a1), (3, .int a3)] : List (Nat × Value))) (fun ls hl => ?_)
            refine lv_goto (tgt := 6) hx hb dX7_isFree_37 (by decide) ?_
            exact ih (iI 1) (x5 + iI 1) _ _ hP hD hS ls (lv_sub hl [2, 3, 4, 1, 0] rfl) h
  have hl := lv_entry ([.ref h_p0, .int a1, .int a2, .int a3]) (n := 6) (Nat.le_of_ble_eq_true rfl)
  rw [lg_entry_eq]
  generalize (lg_sl ([.ref h_p0, .int a1, .int a2, .int a3]) ++ List.replicate (6 - (lg_sl ([.ref h_p0, .int a1, .int a2, .int a3])).length) Slot.unset).toArray = ls at hl ⊢
  have hl : lv_has ls 6 [(0, .ref h_p0), (1, .int a1), (2, .int a2), (3, .int a3)] := hl
  unfold s_X7_isFree at h
  refine lv_iconst (v := iI 1) hx hb dX7_isFree_0 rfl ?_
  refine lv_istore hx hb dX7_isFree_1 hl (by decide) (rfl : _ = ([(4, .int (iI 1)), (0, .ref h_p0), (1, .int a1), (2, .int a2), (3, .int a3)] : List (Nat × Value))) (fun ls hl => ?_)
  refine lv_iload_n hx hb dX7_isFree_3 rfl (lv_at hl 3 rfl) ?_
  refine lv_istore hx hb dX7_isFree_4 hl (by decide) (rfl : _ = ([(5, .int a2), (4, .int (iI 1)), (0, .ref h_p0), (1, .int a1), (2, .int a2), (3, .int a3)] : List (Nat × Value))) (fun ls hl => ?_)
  exact L6 n (iI 1) a2 _ _ hP hD hS ls (lv_sub hl [2, 3, 5, 1, 0] rfl) h
def s_X7_wakes_L25 (n : Nat) (arr_0 : Nat → Int32) (a3 : Int32) : Nat → Int32 → Int32 → Int32 → Option (Int32)
  | 0, _, _, _ => none
  | k + 1, x4, x5, x6 => (if a3 ≤ x6 then (some (x5)) else ((s_X7_holds arr_0 x4 (x6 - iI 1)).bind fun r2 => ((s_X7_holds arr_0 x4 x6).bind fun r5 => (if r2 = r5 then (s_X7_wakes_L25 n arr_0 a3 k x4 (x5 + iI 0) (x6 + iI 1)) else (s_X7_wakes_L25 n arr_0 a3 k x4 (x5 + iI 1) (x6 + iI 1))))))
def s_X7_wakes (n : Nat) (arr_0 : Nat → Int32) (a1 : Int32) (a2 : Int32) (a3 : Int32) : Option (Int32) := (if (a1 - a1 / iI 2 * iI 2) = 0 then (s_X7_wakes_L25 n arr_0 a3 n (a1 + iI 1) (iI 0) (a2 + iI 1)) else (s_X7_wakes_L25 n arr_0 a3 n (a1 - iI 1) (iI 0) (a2 + iI 1)))
set_option maxHeartbeats 4000000 in
set_option maxRecDepth 100000 in
theorem c_X7_wakes (l : Launch) (dC : Nat → ClassId) (dI : Nat → Nat → Nat) (cyI cyJ cyT : ClassId) (h_p0 : Nat) (sz : Nat) (arr_0 : Nat → Int32) (a1 : Int32) (a2 : Int32) (a3 : Int32) (n : Nat) (o : Int32) (h : s_X7_wakes n arr_0 a1 a2 a3 = some o) : Met l yX7_wakes wsX7_wakes ({ frames := 1, cells := 0, slots := 0, locals := 22 }) (va_Pc [.ref h_p0, .int a1, .int a2, .int a3] (PRE (dC, dI) (TYS cyI cyJ cyT) sz [(h_p0, .inl (cyI, 452, .inl arr_0))])) (va_Qi (S := Unit) (fun r _ => r = o) (fun _ t => WLD (dC, dI) (va_A [(h_p0, .inl (cyI, 452, .inl arr_0))] sz) [(h_p0, .inl (cyI, 452, .inl arr_0))] t) (va_A [(h_p0, .inl (cyI, 452, .inl arr_0))] sz)) 0 0 (va_A [(h_p0, .inl (cyI, 452, .inl arr_0))] sz) := by
  refine Met.ofW (cc := cX7_wakes) (maxL := 7) (ret := (some .int)) (by decide) rfl ?_
  intro p e s m args below meth c s₁ B hml hv
  obtain ⟨rfl, hsz, hP, hK, hD0, hNW⟩ := hv
  have hx := B.exec
  have hb := B.bytes
  have hr := B.returns
  have hts := atoms_spec (ws := wsX7_wakes) B.pre
  have hown : s.vm.findClass RX7 = some m.cls := findClass_of_methodNamed B.named
  have hlocks := B.notSynchronized
  subst hsz
  have hD := hD0.self (sz := s.heap.size)
  generalize hAe : va_A [(h_p0, .inl (cyI, 452, .inl arr_0))] s.heap.size = A at hD ⊢
  have hA : ∀ q : Nat, s.heap.size ≤ q → A q := fun q h => by rw [← hAe]; exact Or.inr h
  have hS : va_S A s.heap s.heap [] := va_S.rf
  have hP : va_P (dC, dI) vwCl [(h_p0, .inl (cyI, 452, .inl arr_0))] s.heap := hP
  have L25 : ∀ (k : Nat), (∀ (x4 : Int32) (x5 : Int32) (x6 : Int32) (H : Heap) (locs : List Loc), va_P (dC, dI) vwCl [(h_p0, .inl (cyI, 452, .inl arr_0))] H → va_D A [(h_p0, .inl (cyI, 452, .inl arr_0))] → va_S A s.heap H locs → ∀ (ls : Array Slot), lv_has ls 7 [(0, .ref h_p0), (3, .int a3), (4, .int x4), (5, .int x5), (6, .int x6)] →  s_X7_wakes_L25 n arr_0 a3 k x4 x5 x6 = some o → W p l e (headSpec wsX7_wakes ({ frames := 1, cells := 0, slots := 0, locals := 22 })).room s m (([.ref h_p0, .int a1, .int a2, .int a3] : List Value).toArray) below meth c H locs 0 0 (MQ below (va_Qi (S := Unit) (fun r _ => r = o) (fun _ t => WLD (dC, dI) A [(h_p0, .inl (cyI, 452, .inl arr_0))] t) A) (([.ref h_p0, .int a1, .int a2, .int a3] : List Value).toArray) s 0 0 A) (F0 m 25 ls [])) := by
    intro k
    induction k with
    | zero =>
      intro  x4 x5 x6 H locs hP hD hS ls hl h
      rw [s_X7_wakes_L25] at h
      cases h
    | succ k ih =>
      intro  x4 x5 x6 H locs hP hD hS ls hl h
      rw [s_X7_wakes_L25] at h
      refine lv_iload hx hb dX7_wakes_25 (lv_at hl 4 rfl) ?_
      refine lv_iload_n hx hb dX7_wakes_27 rfl (lv_at hl 1 rfl) ?_
      refine lv_icmp_ge (tgt := 68) hx hb dX7_wakes_28 (by decide) (fun c1 => ?_) (fun c1 => ?_)
      · have h := ipos c1 h
        refine lv_iload hx hb dX7_wakes_68 (lv_at hl 3 rfl) ?_
        obtain rfl := Option.some.inj h
        exact W.iret (v := x5) hx hb hr (fun t ht hW => ⟨⟨x5, (), rfl, rfl, WLD.of ht hP hD⟩, hS.F ht⟩) hS.2.2 dX7_wakes_70
      · have h := ineg c1 h
        refine lv_iload hx hb dX7_wakes_31 (lv_at hl 3 rfl) ?_
        refine lv_aload_n hx hb dX7_wakes_33 rfl (lv_at hl 0 rfl) ?_
        refine lv_iload hx hb dX7_wakes_34 (lv_at hl 2 rfl) ?_
        refine lv_iload hx hb dX7_wakes_36 (lv_at hl 4 rfl) ?_
        refine lv_iconst (v := iI 1) hx hb dX7_wakes_38 rfl ?_
        refine lv_isub hx hb dX7_wakes_39 ?_
        obtain ⟨r2, e3, h⟩ := bsome h
        have hPc := sb_P [(h_p0, .inl (cyI, 452, .inl arr_0))] hP [0] rfl
        have hDc := sb_D [(h_p0, .inl (cyI, 452, .inl arr_0))] hD [0] (by decide) rfl
        have hFc := va_free (wc := [(h_p0, .inl (cyI, 452, .inl arr_0))]) hD hS hA [0] rfl
        refine va_calli (va_runS (As := [.ref h_p0, .int x4, .int (x6 - iI 1)]) (rest := [.int x5]) ⟨hx, hb, hml, hown, hts⟩ (c_X7_holds l dC dI cyI cyJ cyT h_p0 H.size arr_0 x4 (x6 - iI 1) r2 e3) (va_cwS 3 hts gX7_wakes_X7_holds rfl rfl rfl (by decide +kernel) ⟨Nat.le_of_ble_eq_true rfl, Nat.le_of_ble_eq_true rfl⟩) ⟨PRE.blind, PRE.go hK hPc hDc hNW⟩ rfl rfl hl.1 rfl (lv_room (Nat.le_of_ble_eq_true rfl)) dX7_wakes_40 ⟨Nat.zero_le _, Nat.zero_le _⟩) hS (fun q _ h => hFc q h) hFc (fun z4 u t H locs ht hvm hw hB hz1 hk1 hS => ?_)
        subst z4
        obtain ⟨hP, hD⟩ := va_join (wr := []) (w1 := [(h_p0, .inl (cyI, 452, .inl arr_0))]) hP hD [0] [] rfl rfl (by decide) (by decide) hk1 hFc (WLD.P hB ht) hB.2
        have hP : va_P (dC, dI) vwCl [(h_p0, .inl (cyI, 452, .inl arr_0))] H := hP
        have hD : va_D A [(h_p0, .inl (cyI, 452, .inl arr_0))] := hD
        refine lv_aload_n hx hb dX7_wakes_43 rfl (lv_at hl 0 rfl) ?_
        refine lv_iload hx hb dX7_wakes_44 (lv_at hl 2 rfl) ?_
        refine lv_iload hx hb dX7_wakes_46 (lv_at hl 4 rfl) ?_
        obtain ⟨r5, e6, h⟩ := bsome h
        have hPc := sb_P [(h_p0, .inl (cyI, 452, .inl arr_0))] hP [0] rfl
        have hDc := sb_D [(h_p0, .inl (cyI, 452, .inl arr_0))] hD [0] (by decide) rfl
        have hFc := va_free (wc := [(h_p0, .inl (cyI, 452, .inl arr_0))]) hD hS hA [0] rfl
        refine va_calli (va_runS (As := [.ref h_p0, .int x4, .int x6]) (rest := [.int r2, .int x5]) ⟨hx, hb, hml, hown, hts⟩ (c_X7_holds l dC dI cyI cyJ cyT h_p0 H.size arr_0 x4 x6 r5 e6) (va_cwS 3 hts gX7_wakes_X7_holds rfl rfl rfl (by decide +kernel) ⟨Nat.le_of_ble_eq_true rfl, Nat.le_of_ble_eq_true rfl⟩) ⟨PRE.blind, PRE.go hK hPc hDc hNW⟩ rfl rfl hl.1 rfl (lv_room (Nat.le_of_ble_eq_true rfl)) dX7_wakes_48 ⟨Nat.zero_le _, Nat.zero_le _⟩) hS (fun q _ h => hFc q h) hFc (fun z7 u t H locs ht hvm hw hB hz1 hk1 hS => ?_)
        subst z7
        obtain ⟨hP, hD⟩ := va_join (wr := []) (w1 := [(h_p0, .inl (cyI, 452, .inl arr_0))]) hP hD [0] [] rfl rfl (by decide) (by decide) hk1 hFc (WLD.P hB ht) hB.2
        have hP : va_P (dC, dI) vwCl [(h_p0, .inl (cyI, 452, .inl arr_0))] H := hP
        have hD : va_D A [(h_p0, .inl (cyI, 452, .inl arr_0))] := hD
        refine lv_icmp_ne (tgt := 58) hx hb dX7_wakes_51 (by decide) (fun c8 => ?_) (fun c8 => ?_)
        · have h := ineg c8 h
          refine lv_iconst (v := iI 1) hx hb dX7_wakes_58 rfl ?_
          refine lv_iadd hx hb dX7_wakes_59 ?_
          refine lv_istore hx hb dX7_wakes_60 hl (by decide) (rfl : _ = ([(5, .int (x5 + iI 1)), (0, .ref h_p0), (3, .int a3), (4, .int x4), (6, .int x6)] : List (Nat × Value))) (fun ls hl => ?_)
          refine lv_iinc (v := (x6 + iI 1)) hx hb dX7_wakes_62 hl (k := 4) rfl rfl (by decide) (rfl : _ = ([(6, .int (x6 + iI 1)), (5, .int (x5 + iI 1)), (0, .ref h_p0), (3, .int a3), (4, .int x4)] : List (Nat × Value))) (fun ls hl => ?_)
          refine lv_goto (tgt := 25) hx hb dX7_wakes_65 (by decide) ?_
          exact ih x4 (x5 + iI 1) (x6 + iI 1) _ _ hP hD hS ls (lv_sub hl [2, 3, 4, 1, 0] rfl) h
        · have h := ipos c8 h
          refine lv_iconst (v := iI 0) hx hb dX7_wakes_54 rfl ?_
          refine lv_goto (tgt := 59) hx hb dX7_wakes_55 (by decide) ?_
          refine lv_iadd hx hb dX7_wakes_59 ?_
          refine lv_istore hx hb dX7_wakes_60 hl (by decide) (rfl : _ = ([(5, .int (x5 + iI 0)), (0, .ref h_p0), (3, .int a3), (4, .int x4), (6, .int x6)] : List (Nat × Value))) (fun ls hl => ?_)
          refine lv_iinc (v := (x6 + iI 1)) hx hb dX7_wakes_62 hl (k := 4) rfl rfl (by decide) (rfl : _ = ([(6, .int (x6 + iI 1)), (5, .int (x5 + iI 0)), (0, .ref h_p0), (3, .int a3), (4, .int x4)] : List (Nat × Value))) (fun ls hl => ?_)
          refine lv_goto (tgt := 25) hx hb dX7_wakes_65 (by decide) ?_
          exact ih x4 (x5 + iI 0) (x6 + iI 1) _ _ hP hD hS ls (lv_sub hl [2, 3, 4, 1, 0] rfl) h
  have hl := lv_entry ([.ref h_p0, .int a1, .int a2, .int a3]) (n := 7) (Nat.le_of_ble_eq_true rfl)
  rw [lg_entry_eq]
  generalize (lg_sl ([.ref h_p0, .int a1, .int a2, .int a3]) ++ List.replicate (7 - (lg_sl ([.ref h_p0, .int a1, .int a2, .int a3])).length) Slot.unset).toArray = ls at hl ⊢
  have hl : lv_has ls 7 [(0, .ref h_p0), (1, .int a1), (2, .int a2), (3, .int a3)] := hl
  unfold s_X7_wakes at h
  refine lv_iload_n hx hb dX7_wakes_0 rfl (lv_at hl 1 rfl) ?_
  refine lv_iconst (v := iI 2) hx hb dX7_wakes_1 rfl ?_
  refine lv_irem hx hb dX7_wakes_2 (by decide) ?_
  refine lv_if_ne (tgt := 12) hx hb dX7_wakes_3 (by decide) (fun c9 => ?_) (fun c9 => ?_)
  · have h := ineg c9 h
    refine lv_iload_n hx hb dX7_wakes_12 rfl (lv_at hl 1 rfl) ?_
    refine lv_iconst (v := iI 1) hx hb dX7_wakes_13 rfl ?_
    refine lv_isub hx hb dX7_wakes_14 ?_
    refine lv_istore hx hb dX7_wakes_15 hl (by decide) (rfl : _ = ([(4, .int (a1 - iI 1)), (0, .ref h_p0), (1, .int a1), (2, .int a2), (3, .int a3)] : List (Nat × Value))) (fun ls hl => ?_)
    refine lv_iconst (v := iI 0) hx hb dX7_wakes_17 rfl ?_
    refine lv_istore hx hb dX7_wakes_18 hl (by decide) (rfl : _ = ([(5, .int (iI 0)), (4, .int (a1 - iI 1)), (0, .ref h_p0), (1, .int a1), (2, .int a2), (3, .int a3)] : List (Nat × Value))) (fun ls hl => ?_)
    refine lv_iload_n hx hb dX7_wakes_20 rfl (lv_at hl 4 rfl) ?_
    refine lv_iconst (v := iI 1) hx hb dX7_wakes_21 rfl ?_
    refine lv_iadd hx hb dX7_wakes_22 ?_
    refine lv_istore hx hb dX7_wakes_23 hl (by decide) (rfl : _ = ([(6, .int (a2 + iI 1)), (5, .int (iI 0)), (4, .int (a1 - iI 1)), (0, .ref h_p0), (1, .int a1), (2, .int a2), (3, .int a3)] : List (Nat × Value))) (fun ls hl => ?_)
    exact L25 n (a1 - iI 1) (iI 0) (a2 + iI 1) _ _ hP hD hS ls (lv_sub hl [3, 6, 2, 1, 0] rfl) h
  · have h := ipos c9 h
    refine lv_iload_n hx hb dX7_wakes_6 rfl (lv_at hl 1 rfl) ?_
    refine lv_iconst (v := iI 1) hx hb dX7_wakes_7 rfl ?_
    refine lv_iadd hx hb dX7_wakes_8 ?_
    refine lv_goto (tgt := 15) hx hb dX7_wakes_9 (by decide) ?_
    refine lv_istore hx hb dX7_wakes_15 hl (by decide) (rfl : _ = ([(4, .int (a1 + iI 1)), (0, .ref h_p0), (1, .int a1), (2, .int a2), (3, .int a3)] : List (Nat × Value))) (fun ls hl => ?_)
    refine lv_iconst (v := iI 0) hx hb dX7_wakes_17 rfl ?_
    refine lv_istore hx hb dX7_wakes_18 hl (by decide) (rfl : _ = ([(5, .int (iI 0)), (4, .int (a1 + iI 1)), (0, .ref h_p0), (1, .int a1), (2, .int a2), (3, .int a3)] : List (Nat × Value))) (fun ls hl => ?_)
    refine lv_iload_n hx hb dX7_wakes_20 rfl (lv_at hl 4 rfl) ?_
    refine lv_iconst (v := iI 1) hx hb dX7_wakes_21 rfl ?_
    refine lv_iadd hx hb dX7_wakes_22 ?_
    refine lv_istore hx hb dX7_wakes_23 hl (by decide) (rfl : _ = ([(6, .int (a2 + iI 1)), (5, .int (iI 0)), (4, .int (a1 + iI 1)), (0, .ref h_p0), (1, .int a1), (2, .int a2), (3, .int a3)] : List (Nat × Value))) (fun ls hl => ?_)
    exact L25 n (a1 + iI 1) (iI 0) (a2 + iI 1) _ _ hP hD hS ls (lv_sub hl [3, 6, 2, 1, 0] rfl) h
def s_X7_isNight (arr_0 : Nat → Int32) (a1 : Int32) : Option (Int32) := (if gd (iI 0) 452 = true then (if gd (iI 1) 452 = true then ((s_X7_in a1 (arr_0 (iI 0).toNatClampNeg) (arr_0 (iI 1).toNatClampNeg)).bind fun r3 => ((if zb r3 = true then some (r3) else none))) else none) else none)
set_option maxHeartbeats 4000000 in
set_option maxRecDepth 100000 in
theorem c_X7_isNight (l : Launch) (dC : Nat → ClassId) (dI : Nat → Nat → Nat) (cyI cyJ cyT : ClassId) (h_p0 : Nat) (sz : Nat) (arr_0 : Nat → Int32) (a1 : Int32) (o : Int32) (h : s_X7_isNight arr_0 a1 = some o) : Met l yX7_isNight wsX7_isNight ({ frames := 1, cells := 0, slots := 0, locals := 22 }) (va_Pc [.ref h_p0, .int a1] (PRE (dC, dI) (TYS cyI cyJ cyT) sz [(h_p0, .inl (cyI, 452, .inl arr_0))])) (va_Qi (S := Unit) (fun r _ => r = o) (fun _ t => WLD (dC, dI) (va_A [(h_p0, .inl (cyI, 452, .inl arr_0))] sz) [(h_p0, .inl (cyI, 452, .inl arr_0))] t) (va_A [(h_p0, .inl (cyI, 452, .inl arr_0))] sz)) 0 0 (va_A [(h_p0, .inl (cyI, 452, .inl arr_0))] sz) := by
  refine Met.ofW (cc := cX7_isNight) (maxL := 2) (ret := (some .boolean)) (by decide) rfl ?_
  intro p e s m args below meth c s₁ B hml hv
  obtain ⟨rfl, hsz, hP, hK, hD0, hNW⟩ := hv
  have hx := B.exec
  have hb := B.bytes
  have hr := B.returns
  have hts := atoms_spec (ws := wsX7_isNight) B.pre
  have hown : s.vm.findClass RX7 = some m.cls := findClass_of_methodNamed B.named
  have hlocks := B.notSynchronized
  subst hsz
  have hD := hD0.self (sz := s.heap.size)
  generalize hAe : va_A [(h_p0, .inl (cyI, 452, .inl arr_0))] s.heap.size = A at hD ⊢
  have hA : ∀ q : Nat, s.heap.size ≤ q → A q := fun q h => by rw [← hAe]; exact Or.inr h
  have hS : va_S A s.heap s.heap [] := va_S.rf
  have hP : va_P (dC, dI) vwCl [(h_p0, .inl (cyI, 452, .inl arr_0))] s.heap := hP
  have hl := lv_entry ([.ref h_p0, .int a1]) (n := 2) (Nat.le_of_ble_eq_true rfl)
  rw [lg_entry_eq]
  generalize (lg_sl ([.ref h_p0, .int a1]) ++ List.replicate (2 - (lg_sl ([.ref h_p0, .int a1])).length) Slot.unset).toArray = ls at hl ⊢
  have hl : lv_has ls 2 [(0, .ref h_p0), (1, .int a1)] := hl
  unfold s_X7_isNight at h
  refine lv_iload_n hx hb dX7_isNight_0 rfl (lv_at hl 1 rfl) ?_
  refine lv_aload_n hx hb dX7_isNight_1 rfl (lv_at hl 0 rfl) ?_
  refine lv_iconst (v := iI 0) hx hb dX7_isNight_2 rfl ?_
  obtain ⟨g1, h⟩ := gsome h
  refine va_iald (D := (dC, dI)) hx hb hK hP 0 0 rfl rfl g1 dX7_isNight_3 ?_
  refine lv_aload_n hx hb dX7_isNight_4 rfl (lv_at hl 0 rfl) ?_
  refine lv_iconst (v := iI 1) hx hb dX7_isNight_5 rfl ?_
  obtain ⟨g2, h⟩ := gsome h
  refine va_iald (D := (dC, dI)) hx hb hK hP 0 0 rfl rfl g2 dX7_isNight_6 ?_
  obtain ⟨r3, e4, h⟩ := bsome h
  have hPc := sb_P [] hP [] rfl
  have hDc := sb_D [] hD [] (by decide) rfl
  have hFc := va_free (wc := []) hD hS hA [] rfl
  refine va_calli (va_runS (As := [.int a1, .int (arr_0 (iI 0).toNatClampNeg), .int (arr_0 (iI 1).toNatClampNeg)]) (rest := []) ⟨hx, hb, hml, hown, hts⟩ (c_X7_in l dC dI cyI cyJ cyT s.heap.size a1 (arr_0 (iI 0).toNatClampNeg) (arr_0 (iI 1).toNatClampNeg) r3 e4) (va_cwS 3 hts gX7_isNight_X7_in rfl rfl rfl (by decide +kernel) ⟨Nat.le_of_ble_eq_true rfl, Nat.le_of_ble_eq_true rfl⟩) ⟨PRE.blind, PRE.go hK hPc hDc hNW⟩ rfl rfl hl.1 rfl (lv_room (Nat.le_of_ble_eq_true rfl)) dX7_isNight_7 ⟨Nat.zero_le _, Nat.zero_le _⟩) hS (fun q _ h => hFc q h) hFc (fun z5 u t H locs ht hvm hw hB hz1 hk1 hS => ?_)
  subst z5
  obtain ⟨hP, hD⟩ := va_join (wr := [(h_p0, .inl (cyI, 452, .inl arr_0))]) (w1 := []) hP hD [] [0] rfl rfl (by decide) (by decide) hk1 hFc (WLD.P hB ht) hB.2
  have hP : va_P (dC, dI) vwCl [(h_p0, .inl (cyI, 452, .inl arr_0))] H := hP
  have hD : va_D A [(h_p0, .inl (cyI, 452, .inl arr_0))] := hD
  obtain ⟨g6, h⟩ := zsome h
  obtain rfl := Option.some.inj h
  exact W.zret (v := r3) hx hb hr (zb_nar g6) (fun t ht hW => ⟨⟨r3, (), rfl, rfl, WLD.of ht hP hD⟩, hS.F ht⟩) hS.2.2 dX7_isNight_10
def s_X7_findsOne_L13 (n : Nat) (arr_1 : Nat → Int32) (a2 : Int32) (a3 : Int32) : Nat → Int32 → Int32 → Int32 → Int32 → Int32 → Option (Int32 × Int32 × Int32 × Int32 × Int32)
  | 0, _, _, _, _, _ => none
  | k + 1, v_one, v_other, v_change, v_woken, x4 => (if iI 18 ≤ x4 then (if v_one = iI (-1) then (some (iI 0, v_one, v_one, v_change, v_woken)) else (some (iI 1, v_one, v_one, v_change, v_woken))) else ((s_X7_isFree n arr_1 x4 a2 a3).bind fun r3 => (if r3 = 0 then (s_X7_findsOne_L13 n arr_1 a2 a3 k v_one v_other v_change v_woken (x4 + iI 1)) else (if v_one = iI (-1) then ((s_X7_wakes n arr_1 x4 a2 a3).bind fun r8 => (s_X7_findsOne_L13 n arr_1 a2 a3 k x4 v_other v_change r8 (x4 + iI 1))) else ((s_X7_wakes n arr_1 x4 a2 a3).bind fun r11 => (if v_woken ≤ r11 then (s_X7_findsOne_L13 n arr_1 a2 a3 k v_one v_other v_change v_woken (x4 + iI 1)) else ((s_X7_wakes n arr_1 x4 a2 a3).bind fun r15 => (s_X7_findsOne_L13 n arr_1 a2 a3 k x4 v_other v_change r15 (x4 + iI 1)))))))))
def s_X7_findsOne (n : Nat) (v_one : Int32) (v_other : Int32) (v_change : Int32) (v_woken : Int32) (arr_1 : Nat → Int32) (a2 : Int32) (a3 : Int32) : Option (Int32 × Int32 × Int32 × Int32 × Int32) := (s_X7_findsOne_L13 n arr_1 a2 a3 n (iI (-1)) v_other (iI (-1)) v_woken (iI 0))
set_option maxRecDepth 20000 in
theorem m_X7_findsOne_0 : ∀ w ∈ u_ws RX7 TX7 15, w ∈ wsX7_findsOne := by decide +kernel
set_option maxRecDepth 20000 in
theorem m_X7_findsOne_1 : (.fieldLink RX7 52 "SleeperBerthsModel" "one" "I" : Cond) ∈ wsX7_findsOne := by decide +kernel
set_option maxRecDepth 20000 in
theorem m_X7_findsOne_2 : (.fieldLink RX7 69 "SleeperBerthsModel" "other" "I" : Cond) ∈ wsX7_findsOne := by decide +kernel
set_option maxRecDepth 20000 in
theorem m_X7_findsOne_3 : (.fieldLink RX7 66 "SleeperBerthsModel" "woken" "I" : Cond) ∈ wsX7_findsOne := by decide +kernel
set_option maxRecDepth 20000 in
theorem m_X7_findsOne_4 : (.fieldLink RX7 55 "SleeperBerthsModel" "change" "I" : Cond) ∈ wsX7_findsOne := by decide +kernel
set_option maxHeartbeats 4000000 in
set_option maxRecDepth 100000 in
theorem c_X7_findsOne (l : Launch) (dC : Nat → ClassId) (dI : Nat → Nat → Nat) (cyI cyJ cyT : ClassId) (h_p0 : Nat) (h_p0_now : Nat) (h_p0_then : Nat) (h_p0_past : Nat) (h_p0_text : Nat) (h_p0_told : Nat) (h_p1 : Nat) (sz : Nat) (v_kept : Int32) (v_typed : Int32) (v_thrown : Int32) (v_at : Int32) (v_isFault : Int32) (v_tolds : Int32) (v_one : Int32) (v_other : Int32) (v_change : Int32) (v_woken : Int32) (arr_1 : Nat → Int32) (a2 : Int32) (a3 : Int32) (n : Nat) (o : Int32 × Int32 × Int32 × Int32 × Int32) (h : s_X7_findsOne n v_one v_other v_change v_woken arr_1 a2 a3 = some o) : Met l yX7_findsOne wsX7_findsOne ({ frames := 3, cells := 0, slots := 0, locals := 69 }) (va_Pc [.ref h_p0, .ref h_p1, .int a2, .int a3] (PRE (dC, dI) (TYS cyI cyJ cyT) sz [(h_p0, .inr (7, [.ref h_p0_now, .ref h_p0_then, .ref h_p0_past, .int v_kept, .ref h_p0_text, .int v_typed, .int v_thrown, .int v_at, .int v_isFault, .ref h_p0_told, .int v_tolds, .int v_one, .int v_other, .int v_change, .int v_woken])), (h_p1, .inl (cyI, 452, .inl arr_1))])) (va_Qi (S := Unit) (fun r _ => r = o.1) (fun _ t => WLD (dC, dI) (va_A [(h_p0, .inr (7, [.ref h_p0_now, .ref h_p0_then, .ref h_p0_past, .int v_kept, .ref h_p0_text, .int v_typed, .int v_thrown, .int v_at, .int v_isFault, .ref h_p0_told, .int v_tolds, .int v_one, .int v_other, .int v_change, .int v_woken])), (h_p1, .inl (cyI, 452, .inl arr_1))] sz) [(h_p0, .inr (7, [.ref h_p0_now, .ref h_p0_then, .ref h_p0_past, .int v_kept, .ref h_p0_text, .int v_typed, .int v_thrown, .int v_at, .int v_isFault, .ref h_p0_told, .int v_tolds, .int o.2.1, .int o.2.2.1, .int o.2.2.2.1, .int o.2.2.2.2])), (h_p1, .inl (cyI, 452, .inl arr_1))] t) (va_A [(h_p0, .inr (7, [.ref h_p0_now, .ref h_p0_then, .ref h_p0_past, .int v_kept, .ref h_p0_text, .int v_typed, .int v_thrown, .int v_at, .int v_isFault, .ref h_p0_told, .int v_tolds, .int v_one, .int v_other, .int v_change, .int v_woken])), (h_p1, .inl (cyI, 452, .inl arr_1))] sz)) 0 0 (va_A [(h_p0, .inr (7, [.ref h_p0_now, .ref h_p0_then, .ref h_p0_past, .int v_kept, .ref h_p0_text, .int v_typed, .int v_thrown, .int v_at, .int v_isFault, .ref h_p0_told, .int v_tolds, .int v_one, .int v_other, .int v_change, .int v_woken])), (h_p1, .inl (cyI, 452, .inl arr_1))] sz) := by
  refine Met.ofW (cc := cX7_findsOne) (maxL := 5) (ret := (some .boolean)) (by decide) rfl ?_
  intro p e s m args below meth c s₁ B hml hv
  obtain ⟨rfl, hsz, hP, hK, hD0, hNW⟩ := hv
  have hx := B.exec
  have hb := B.bytes
  have hr := B.returns
  have hts := atoms_spec (ws := wsX7_findsOne) B.pre
  have hown : s.vm.findClass RX7 = some m.cls := findClass_of_methodNamed B.named
  have hlocks := B.notSynchronized
  subst hsz
  have hD := hD0.self (sz := s.heap.size)
  generalize hAe : va_A [(h_p0, .inr (7, [.ref h_p0_now, .ref h_p0_then, .ref h_p0_past, .int v_kept, .ref h_p0_text, .int v_typed, .int v_thrown, .int v_at, .int v_isFault, .ref h_p0_told, .int v_tolds, .int v_one, .int v_other, .int v_change, .int v_woken])), (h_p1, .inl (cyI, 452, .inl arr_1))] s.heap.size = A at hD ⊢
  have hA : ∀ q : Nat, s.heap.size ≤ q → A q := fun q h => by rw [← hAe]; exact Or.inr h
  have hS : va_S A s.heap s.heap [] := va_S.rf
  have hP : va_P (dC, dI) vwCl [(h_p0, .inr (7, [.ref h_p0_now, .ref h_p0_then, .ref h_p0_past, .int v_kept, .ref h_p0_text, .int v_typed, .int v_thrown, .int v_at, .int v_isFault, .ref h_p0_told, .int v_tolds, .int v_one, .int v_other, .int v_change, .int v_woken])), (h_p1, .inl (cyI, 452, .inl arr_1))] s.heap := hP
  have L13 : ∀ (k : Nat), (∀ (v_one : Int32) (v_other : Int32) (v_change : Int32) (v_woken : Int32) (x4 : Int32) (H : Heap) (locs : List Loc), va_P (dC, dI) vwCl [(h_p0, .inr (7, [.ref h_p0_now, .ref h_p0_then, .ref h_p0_past, .int v_kept, .ref h_p0_text, .int v_typed, .int v_thrown, .int v_at, .int v_isFault, .ref h_p0_told, .int v_tolds, .int v_one, .int v_other, .int v_change, .int v_woken])), (h_p1, .inl (cyI, 452, .inl arr_1))] H → va_D A [(h_p0, .inr (7, [.ref h_p0_now, .ref h_p0_then, .ref h_p0_past, .int v_kept, .ref h_p0_text, .int v_typed, .int v_thrown, .int v_at, .int v_isFault, .ref h_p0_told, .int v_tolds, .int v_one, .int v_other, .int v_change, .int v_woken])), (h_p1, .inl (cyI, 452, .inl arr_1))] → va_S A s.heap H locs → ∀ (ls : Array Slot), lv_has ls 5 [(0, .ref h_p0), (1, .ref h_p1), (2, .int a2), (3, .int a3), (4, .int x4)] →  s_X7_findsOne_L13 n arr_1 a2 a3 k v_one v_other v_change v_woken x4 = some o → W p l e (headSpec wsX7_findsOne ({ frames := 3, cells := 0, slots := 0, locals := 69 })).room s m (([.ref h_p0, .ref h_p1, .int a2, .int a3] : List Value).toArray) below meth c H locs 0 0 (MQ below (va_Qi (S := Unit) (fun r _ => r = o.1) (fun _ t => WLD (dC, dI) A [(h_p0, .inr (7, [.ref h_p0_now, .ref h_p0_then, .ref h_p0_past, .int v_kept, .ref h_p0_text, .int v_typed, .int v_thrown, .int v_at, .int v_isFault, .ref h_p0_told, .int v_tolds, .int o.2.1, .int o.2.2.1, .int o.2.2.2.1, .int o.2.2.2.2])), (h_p1, .inl (cyI, 452, .inl arr_1))] t) A) (([.ref h_p0, .ref h_p1, .int a2, .int a3] : List Value).toArray) s 0 0 A) (F0 m 13 ls [])) := by
    intro k
    induction k with
    | zero =>
      intro  v_one v_other v_change v_woken x4 H locs hP hD hS ls hl h
      rw [s_X7_findsOne_L13] at h
      cases h
    | succ k ih =>
      intro  v_one v_other v_change v_woken x4 H locs hP hD hS ls hl h
      rw [s_X7_findsOne_L13] at h
      refine lv_iload hx hb dX7_findsOne_13 (lv_at hl 4 rfl) ?_
      refine lv_bipush (v := iI 18) hx hb dX7_findsOne_15 (by decide) ?_
      refine lv_icmp_ge (tgt := 78) hx hb dX7_findsOne_17 (by decide) (fun c1 => ?_) (fun c1 => ?_)
      · have h := ipos c1 h
        refine lv_aload_n hx hb dX7_findsOne_78 rfl (lv_at hl 0 rfl) ?_
        refine lv_aload_n hx hb dX7_findsOne_79 rfl (lv_at hl 0 rfl) ?_
        refine va_get (D := (dC, dI)) (ci := 7) (v := .int v_one) (C := RX7) (T := TX7) (N := 15) hx hb hts m_X7_findsOne_0 hown hK hP 0 rfl rfl 11 (by decide) (hts (.fieldLink RX7 52 "SleeperBerthsModel" "one" "I") m_X7_findsOne_1) (fun _ h9 => h9) rfl dX7_findsOne_80 ?_
        refine va_put (D := (dC, dI)) (ci := 7) (v := .int v_one) (ty := .int) (C := RX7) (T := TX7) (N := 15) hx hb hts m_X7_findsOne_0 tyX7 tyX7_ok nmX7 hown hK hP hD hS 0 rfl rfl 12 (by decide) (hts (.fieldLink RX7 69 "SleeperBerthsModel" "other" "I") m_X7_findsOne_2) (fun _ h9 => h9) rfl (by decide +kernel) rfl rfl (Nat.le_of_ble_eq_true rfl) dX7_findsOne_83 (fun H locs hP hD hS => ?_)
        have hP : va_P (dC, dI) vwCl [(h_p0, .inr (7, [.ref h_p0_now, .ref h_p0_then, .ref h_p0_past, .int v_kept, .ref h_p0_text, .int v_typed, .int v_thrown, .int v_at, .int v_isFault, .ref h_p0_told, .int v_tolds, .int v_one, .int v_one, .int v_change, .int v_woken])), (h_p1, .inl (cyI, 452, .inl arr_1))] H := hP
        have hD : va_D A [(h_p0, .inr (7, [.ref h_p0_now, .ref h_p0_then, .ref h_p0_past, .int v_kept, .ref h_p0_text, .int v_typed, .int v_thrown, .int v_at, .int v_isFault, .ref h_p0_told, .int v_tolds, .int v_one, .int v_one, .int v_change, .int v_woken])), (h_p1, .inl (cyI, 452, .inl arr_1))] := hD
        refine lv_aload_n hx hb dX7_findsOne_86 rfl (lv_at hl 0 rfl) ?_
        refine va_get (D := (dC, dI)) (ci := 7) (v := .int v_one) (C := RX7) (T := TX7) (N := 15) hx hb hts m_X7_findsOne_0 hown hK hP 0 rfl rfl 11 (by decide) (hts (.fieldLink RX7 52 "SleeperBerthsModel" "one" "I") m_X7_findsOne_1) (fun _ h9 => h9) rfl dX7_findsOne_87 ?_
        refine lv_iconst (v := iI (-1)) hx hb dX7_findsOne_90 rfl ?_
        refine lv_icmp_eq (tgt := 98) hx hb dX7_findsOne_91 (by decide) (fun c2 => ?_) (fun c2 => ?_)
        · have h := ipos c2 h
          refine lv_iconst (v := iI 0) hx hb dX7_findsOne_98 rfl ?_
          obtain rfl := Option.some.inj h
          exact W.zret (v := iI 0) hx hb hr (by decide) (fun t ht hW => ⟨⟨iI 0, (), rfl, rfl, WLD.of ht hP hD⟩, hS.F ht⟩) hS.2.2 dX7_findsOne_99
        · have h := ineg c2 h
          refine lv_iconst (v := iI 1) hx hb dX7_findsOne_94 rfl ?_
          refine lv_goto (tgt := 99) hx hb dX7_findsOne_95 (by decide) ?_
          obtain rfl := Option.some.inj h
          exact W.zret (v := iI 1) hx hb hr (by decide) (fun t ht hW => ⟨⟨iI 1, (), rfl, rfl, WLD.of ht hP hD⟩, hS.F ht⟩) hS.2.2 dX7_findsOne_99
      · have h := ineg c1 h
        refine lv_aload_n hx hb dX7_findsOne_20 rfl (lv_at hl 1 rfl) ?_
        refine lv_iload hx hb dX7_findsOne_21 (lv_at hl 4 rfl) ?_
        refine lv_iload_n hx hb dX7_findsOne_23 rfl (lv_at hl 2 rfl) ?_
        refine lv_iload_n hx hb dX7_findsOne_24 rfl (lv_at hl 3 rfl) ?_
        obtain ⟨r3, e4, h⟩ := bsome h
        have hPc := sb_P [(h_p1, .inl (cyI, 452, .inl arr_1))] hP [1] rfl
        have hDc := sb_D [(h_p1, .inl (cyI, 452, .inl arr_1))] hD [1] (by decide) rfl
        have hFc := va_free (wc := [(h_p1, .inl (cyI, 452, .inl arr_1))]) hD hS hA [1] rfl
        refine va_calli (va_runS (As := [.ref h_p1, .int x4, .int a2, .int a3]) (rest := []) ⟨hx, hb, hml, hown, hts⟩ (c_X7_isFree l dC dI cyI cyJ cyT h_p1 H.size arr_1 x4 a2 a3 n r3 e4) (va_cwS 4 hts gX7_findsOne_X7_isFree rfl rfl rfl (by decide +kernel) ⟨Nat.le_of_ble_eq_true rfl, Nat.le_of_ble_eq_true rfl⟩) ⟨PRE.blind, PRE.go hK hPc hDc hNW⟩ rfl rfl hl.1 rfl (lv_room (Nat.le_of_ble_eq_true rfl)) dX7_findsOne_25 ⟨Nat.zero_le _, Nat.zero_le _⟩) hS (fun q _ h => hFc q h) hFc (fun z5 u t H locs ht hvm hw hB hz1 hk1 hS => ?_)
        subst z5
        obtain ⟨hP, hD⟩ := va_join (wr := [(h_p0, .inr (7, [.ref h_p0_now, .ref h_p0_then, .ref h_p0_past, .int v_kept, .ref h_p0_text, .int v_typed, .int v_thrown, .int v_at, .int v_isFault, .ref h_p0_told, .int v_tolds, .int v_one, .int v_other, .int v_change, .int v_woken]))]) (w1 := [(h_p1, .inl (cyI, 452, .inl arr_1))]) hP hD [1] [0] rfl rfl (by decide) (by decide) hk1 hFc (WLD.P hB ht) hB.2
        have hP : va_P (dC, dI) vwCl [(h_p0, .inr (7, [.ref h_p0_now, .ref h_p0_then, .ref h_p0_past, .int v_kept, .ref h_p0_text, .int v_typed, .int v_thrown, .int v_at, .int v_isFault, .ref h_p0_told, .int v_tolds, .int v_one, .int v_other, .int v_change, .int v_woken])), (h_p1, .inl (cyI, 452, .inl arr_1))] H := hP
        have hD : va_D A [(h_p0, .inr (7, [.ref h_p0_now, .ref h_p0_then, .ref h_p0_past, .int v_kept, .ref h_p0_text, .int v_typed, .int v_thrown, .int v_at, .int v_isFault, .ref h_p0_told, .int v_tolds, .int v_one, .int v_other, .int v_change, .int v_woken])), (h_p1, .inl (cyI, 452, .inl arr_1))] := hD
        refine lv_if_eq (tgt := 72) hx hb dX7_findsOne_28 (by decide) (fun c6 => ?_) (fun c6 => ?_)
        · have h := ipos c6 h
          refine lv_iinc (v := (x4 + iI 1)) hx hb dX7_findsOne_72 hl (k := 4) rfl rfl (by decide) (rfl : _ = ([(4, .int (x4 + iI 1)), (0, .ref h_p0), (1, .ref h_p1), (2, .int a2), (3, .int a3)] : List (Nat × Value))) (fun ls hl => ?_)
          refine lv_goto (tgt := 13) hx hb dX7_findsOne_75 (by decide) ?_
          exact ih v_one v_other v_change v_woken (x4 + iI 1) _ _ hP hD hS ls (lv_sub hl [1, 2, 3, 4, 0] rfl) h
        · have h := ineg c6 h
          refine lv_aload_n hx hb dX7_findsOne_31 rfl (lv_at hl 0 rfl) ?_
          refine va_get (D := (dC, dI)) (ci := 7) (v := .int v_one) (C := RX7) (T := TX7) (N := 15) hx hb hts m_X7_findsOne_0 hown hK hP 0 rfl rfl 11 (by decide) (hts (.fieldLink RX7 52 "SleeperBerthsModel" "one" "I") m_X7_findsOne_1) (fun _ h9 => h9) rfl dX7_findsOne_32 ?_
          refine lv_iconst (v := iI (-1)) hx hb dX7_findsOne_35 rfl ?_
          refine lv_icmp_eq (tgt := 54) hx hb dX7_findsOne_36 (by decide) (fun c7 => ?_) (fun c7 => ?_)
          · have h := ipos c7 h
            refine lv_aload_n hx hb dX7_findsOne_54 rfl (lv_at hl 0 rfl) ?_
            refine lv_iload hx hb dX7_findsOne_55 (lv_at hl 4 rfl) ?_
            refine va_put (D := (dC, dI)) (ci := 7) (v := .int x4) (ty := .int) (C := RX7) (T := TX7) (N := 15) hx hb hts m_X7_findsOne_0 tyX7 tyX7_ok nmX7 hown hK hP hD hS 0 rfl rfl 11 (by decide) (hts (.fieldLink RX7 52 "SleeperBerthsModel" "one" "I") m_X7_findsOne_1) (fun _ h9 => h9) rfl (by decide +kernel) rfl rfl (Nat.le_of_ble_eq_true rfl) dX7_findsOne_57 (fun H locs hP hD hS => ?_)
            have hP : va_P (dC, dI) vwCl [(h_p0, .inr (7, [.ref h_p0_now, .ref h_p0_then, .ref h_p0_past, .int v_kept, .ref h_p0_text, .int v_typed, .int v_thrown, .int v_at, .int v_isFault, .ref h_p0_told, .int v_tolds, .int x4, .int v_other, .int v_change, .int v_woken])), (h_p1, .inl (cyI, 452, .inl arr_1))] H := hP
            have hD : va_D A [(h_p0, .inr (7, [.ref h_p0_now, .ref h_p0_then, .ref h_p0_past, .int v_kept, .ref h_p0_text, .int v_typed, .int v_thrown, .int v_at, .int v_isFault, .ref h_p0_told, .int v_tolds, .int x4, .int v_other, .int v_change, .int v_woken])), (h_p1, .inl (cyI, 452, .inl arr_1))] := hD
            refine lv_aload_n hx hb dX7_findsOne_60 rfl (lv_at hl 0 rfl) ?_
            refine lv_aload_n hx hb dX7_findsOne_61 rfl (lv_at hl 1 rfl) ?_
            refine lv_iload hx hb dX7_findsOne_62 (lv_at hl 4 rfl) ?_
            refine lv_iload_n hx hb dX7_findsOne_64 rfl (lv_at hl 2 rfl) ?_
            refine lv_iload_n hx hb dX7_findsOne_65 rfl (lv_at hl 3 rfl) ?_
            obtain ⟨r8, e9, h⟩ := bsome h
            have hPc := sb_P [(h_p1, .inl (cyI, 452, .inl arr_1))] hP [1] rfl
            have hDc := sb_D [(h_p1, .inl (cyI, 452, .inl arr_1))] hD [1] (by decide) rfl
            have hFc := va_free (wc := [(h_p1, .inl (cyI, 452, .inl arr_1))]) hD hS hA [1] rfl
            refine va_calli (va_runS (As := [.ref h_p1, .int x4, .int a2, .int a3]) (rest := [.ref h_p0]) ⟨hx, hb, hml, hown, hts⟩ (c_X7_wakes l dC dI cyI cyJ cyT h_p1 H.size arr_1 x4 a2 a3 n r8 e9) (va_cwS 4 hts gX7_findsOne_X7_wakes rfl rfl rfl (by decide +kernel) ⟨Nat.le_of_ble_eq_true rfl, Nat.le_of_ble_eq_true rfl⟩) ⟨PRE.blind, PRE.go hK hPc hDc hNW⟩ rfl rfl hl.1 rfl (lv_room (Nat.le_of_ble_eq_true rfl)) dX7_findsOne_66 ⟨Nat.zero_le _, Nat.zero_le _⟩) hS (fun q _ h => hFc q h) hFc (fun z10 u t H locs ht hvm hw hB hz1 hk1 hS => ?_)
            subst z10
            obtain ⟨hP, hD⟩ := va_join (wr := [(h_p0, .inr (7, [.ref h_p0_now, .ref h_p0_then, .ref h_p0_past, .int v_kept, .ref h_p0_text, .int v_typed, .int v_thrown, .int v_at, .int v_isFault, .ref h_p0_told, .int v_tolds, .int x4, .int v_other, .int v_change, .int v_woken]))]) (w1 := [(h_p1, .inl (cyI, 452, .inl arr_1))]) hP hD [1] [0] rfl rfl (by decide) (by decide) hk1 hFc (WLD.P hB ht) hB.2
            have hP : va_P (dC, dI) vwCl [(h_p0, .inr (7, [.ref h_p0_now, .ref h_p0_then, .ref h_p0_past, .int v_kept, .ref h_p0_text, .int v_typed, .int v_thrown, .int v_at, .int v_isFault, .ref h_p0_told, .int v_tolds, .int x4, .int v_other, .int v_change, .int v_woken])), (h_p1, .inl (cyI, 452, .inl arr_1))] H := hP
            have hD : va_D A [(h_p0, .inr (7, [.ref h_p0_now, .ref h_p0_then, .ref h_p0_past, .int v_kept, .ref h_p0_text, .int v_typed, .int v_thrown, .int v_at, .int v_isFault, .ref h_p0_told, .int v_tolds, .int x4, .int v_other, .int v_change, .int v_woken])), (h_p1, .inl (cyI, 452, .inl arr_1))] := hD
            refine va_put (D := (dC, dI)) (ci := 7) (v := .int r8) (ty := .int) (C := RX7) (T := TX7) (N := 15) hx hb hts m_X7_findsOne_0 tyX7 tyX7_ok nmX7 hown hK hP hD hS 0 rfl rfl 14 (by decide) (hts (.fieldLink RX7 66 "SleeperBerthsModel" "woken" "I") m_X7_findsOne_3) (fun _ h9 => h9) rfl (by decide +kernel) rfl rfl (Nat.le_of_ble_eq_true rfl) dX7_findsOne_69 (fun H locs hP hD hS => ?_)
            have hP : va_P (dC, dI) vwCl [(h_p0, .inr (7, [.ref h_p0_now, .ref h_p0_then, .ref h_p0_past, .int v_kept, .ref h_p0_text, .int v_typed, .int v_thrown, .int v_at, .int v_isFault, .ref h_p0_told, .int v_tolds, .int x4, .int v_other, .int v_change, .int r8])), (h_p1, .inl (cyI, 452, .inl arr_1))] H := hP
            have hD : va_D A [(h_p0, .inr (7, [.ref h_p0_now, .ref h_p0_then, .ref h_p0_past, .int v_kept, .ref h_p0_text, .int v_typed, .int v_thrown, .int v_at, .int v_isFault, .ref h_p0_told, .int v_tolds, .int x4, .int v_other, .int v_change, .int r8])), (h_p1, .inl (cyI, 452, .inl arr_1))] := hD
            refine lv_iinc (v := (x4 + iI 1)) hx hb dX7_findsOne_72 hl (k := 4) rfl rfl (by decide) (rfl : _ = ([(4, .int (x4 + iI 1)), (0, .ref h_p0), (1, .ref h_p1), (2, .int a2), (3, .int a3)] : List (Nat × Value))) (fun ls hl => ?_)
            refine lv_goto (tgt := 13) hx hb dX7_findsOne_75 (by decide) ?_
            exact ih x4 v_other v_change r8 (x4 + iI 1) _ _ hP hD hS ls (lv_sub hl [1, 2, 3, 4, 0] rfl) h
          · have h := ineg c7 h
            refine lv_aload_n hx hb dX7_findsOne_39 rfl (lv_at hl 1 rfl) ?_
            refine lv_iload hx hb dX7_findsOne_40 (lv_at hl 4 rfl) ?_
            refine lv_iload_n hx hb dX7_findsOne_42 rfl (lv_at hl 2 rfl) ?_
            refine lv_iload_n hx hb dX7_findsOne_43 rfl (lv_at hl 3 rfl) ?_
            obtain ⟨r11, e12, h⟩ := bsome h
            have hPc := sb_P [(h_p1, .inl (cyI, 452, .inl arr_1))] hP [1] rfl
            have hDc := sb_D [(h_p1, .inl (cyI, 452, .inl arr_1))] hD [1] (by decide) rfl
            have hFc := va_free (wc := [(h_p1, .inl (cyI, 452, .inl arr_1))]) hD hS hA [1] rfl
            refine va_calli (va_runS (As := [.ref h_p1, .int x4, .int a2, .int a3]) (rest := []) ⟨hx, hb, hml, hown, hts⟩ (c_X7_wakes l dC dI cyI cyJ cyT h_p1 H.size arr_1 x4 a2 a3 n r11 e12) (va_cwS 4 hts gX7_findsOne_X7_wakes rfl rfl rfl (by decide +kernel) ⟨Nat.le_of_ble_eq_true rfl, Nat.le_of_ble_eq_true rfl⟩) ⟨PRE.blind, PRE.go hK hPc hDc hNW⟩ rfl rfl hl.1 rfl (lv_room (Nat.le_of_ble_eq_true rfl)) dX7_findsOne_44 ⟨Nat.zero_le _, Nat.zero_le _⟩) hS (fun q _ h => hFc q h) hFc (fun z13 u t H locs ht hvm hw hB hz1 hk1 hS => ?_)
            subst z13
            obtain ⟨hP, hD⟩ := va_join (wr := [(h_p0, .inr (7, [.ref h_p0_now, .ref h_p0_then, .ref h_p0_past, .int v_kept, .ref h_p0_text, .int v_typed, .int v_thrown, .int v_at, .int v_isFault, .ref h_p0_told, .int v_tolds, .int v_one, .int v_other, .int v_change, .int v_woken]))]) (w1 := [(h_p1, .inl (cyI, 452, .inl arr_1))]) hP hD [1] [0] rfl rfl (by decide) (by decide) hk1 hFc (WLD.P hB ht) hB.2
            have hP : va_P (dC, dI) vwCl [(h_p0, .inr (7, [.ref h_p0_now, .ref h_p0_then, .ref h_p0_past, .int v_kept, .ref h_p0_text, .int v_typed, .int v_thrown, .int v_at, .int v_isFault, .ref h_p0_told, .int v_tolds, .int v_one, .int v_other, .int v_change, .int v_woken])), (h_p1, .inl (cyI, 452, .inl arr_1))] H := hP
            have hD : va_D A [(h_p0, .inr (7, [.ref h_p0_now, .ref h_p0_then, .ref h_p0_past, .int v_kept, .ref h_p0_text, .int v_typed, .int v_thrown, .int v_at, .int v_isFault, .ref h_p0_told, .int v_tolds, .int v_one, .int v_other, .int v_change, .int v_woken])), (h_p1, .inl (cyI, 452, .inl arr_1))] := hD
            refine lv_aload_n hx hb dX7_findsOne_47 rfl (lv_at hl 0 rfl) ?_
            refine va_get (D := (dC, dI)) (ci := 7) (v := .int v_woken) (C := RX7) (T := TX7) (N := 15) hx hb hts m_X7_findsOne_0 hown hK hP 0 rfl rfl 14 (by decide) (hts (.fieldLink RX7 66 "SleeperBerthsModel" "woken" "I") m_X7_findsOne_3) (fun _ h9 => h9) rfl dX7_findsOne_48 ?_
            refine lv_icmp_ge (tgt := 72) hx hb dX7_findsOne_51 (by decide) (fun c14 => ?_) (fun c14 => ?_)
            · have h := ipos c14 h
              refine lv_iinc (v := (x4 + iI 1)) hx hb dX7_findsOne_72 hl (k := 4) rfl rfl (by decide) (rfl : _ = ([(4, .int (x4 + iI 1)), (0, .ref h_p0), (1, .ref h_p1), (2, .int a2), (3, .int a3)] : List (Nat × Value))) (fun ls hl => ?_)
              refine lv_goto (tgt := 13) hx hb dX7_findsOne_75 (by decide) ?_
              exact ih v_one v_other v_change v_woken (x4 + iI 1) _ _ hP hD hS ls (lv_sub hl [1, 2, 3, 4, 0] rfl) h
            · have h := ineg c14 h
              refine lv_aload_n hx hb dX7_findsOne_54 rfl (lv_at hl 0 rfl) ?_
              refine lv_iload hx hb dX7_findsOne_55 (lv_at hl 4 rfl) ?_
              refine va_put (D := (dC, dI)) (ci := 7) (v := .int x4) (ty := .int) (C := RX7) (T := TX7) (N := 15) hx hb hts m_X7_findsOne_0 tyX7 tyX7_ok nmX7 hown hK hP hD hS 0 rfl rfl 11 (by decide) (hts (.fieldLink RX7 52 "SleeperBerthsModel" "one" "I") m_X7_findsOne_1) (fun _ h9 => h9) rfl (by decide +kernel) rfl rfl (Nat.le_of_ble_eq_true rfl) dX7_findsOne_57 (fun H locs hP hD hS => ?_)
              have hP : va_P (dC, dI) vwCl [(h_p0, .inr (7, [.ref h_p0_now, .ref h_p0_then, .ref h_p0_past, .int v_kept, .ref h_p0_text, .int v_typed, .int v_thrown, .int v_at, .int v_isFault, .ref h_p0_told, .int v_tolds, .int x4, .int v_other, .int v_change, .int v_woken])), (h_p1, .inl (cyI, 452, .inl arr_1))] H := hP
              have hD : va_D A [(h_p0, .inr (7, [.ref h_p0_now, .ref h_p0_then, .ref h_p0_past, .int v_kept, .ref h_p0_text, .int v_typed, .int v_thrown, .int v_at, .int v_isFault, .ref h_p0_told, .int v_tolds, .int x4, .int v_other, .int v_change, .int v_woken])), (h_p1, .inl (cyI, 452, .inl arr_1))] := hD
              refine lv_aload_n hx hb dX7_findsOne_60 rfl (lv_at hl 0 rfl) ?_
              refine lv_aload_n hx hb dX7_findsOne_61 rfl (lv_at hl 1 rfl) ?_
              refine lv_iload hx hb dX7_findsOne_62 (lv_at hl 4 rfl) ?_
              refine lv_iload_n hx hb dX7_findsOne_64 rfl (lv_at hl 2 rfl) ?_
              refine lv_iload_n hx hb dX7_findsOne_65 rfl (lv_at hl 3 rfl) ?_
              obtain ⟨r15, e16, h⟩ := bsome h
              have hPc := sb_P [(h_p1, .inl (cyI, 452, .inl arr_1))] hP [1] rfl
              have hDc := sb_D [(h_p1, .inl (cyI, 452, .inl arr_1))] hD [1] (by decide) rfl
              have hFc := va_free (wc := [(h_p1, .inl (cyI, 452, .inl arr_1))]) hD hS hA [1] rfl
              refine va_calli (va_runS (As := [.ref h_p1, .int x4, .int a2, .int a3]) (rest := [.ref h_p0]) ⟨hx, hb, hml, hown, hts⟩ (c_X7_wakes l dC dI cyI cyJ cyT h_p1 H.size arr_1 x4 a2 a3 n r15 e16) (va_cwS 4 hts gX7_findsOne_X7_wakes rfl rfl rfl (by decide +kernel) ⟨Nat.le_of_ble_eq_true rfl, Nat.le_of_ble_eq_true rfl⟩) ⟨PRE.blind, PRE.go hK hPc hDc hNW⟩ rfl rfl hl.1 rfl (lv_room (Nat.le_of_ble_eq_true rfl)) dX7_findsOne_66 ⟨Nat.zero_le _, Nat.zero_le _⟩) hS (fun q _ h => hFc q h) hFc (fun z17 u t H locs ht hvm hw hB hz1 hk1 hS => ?_)
              subst z17
              obtain ⟨hP, hD⟩ := va_join (wr := [(h_p0, .inr (7, [.ref h_p0_now, .ref h_p0_then, .ref h_p0_past, .int v_kept, .ref h_p0_text, .int v_typed, .int v_thrown, .int v_at, .int v_isFault, .ref h_p0_told, .int v_tolds, .int x4, .int v_other, .int v_change, .int v_woken]))]) (w1 := [(h_p1, .inl (cyI, 452, .inl arr_1))]) hP hD [1] [0] rfl rfl (by decide) (by decide) hk1 hFc (WLD.P hB ht) hB.2
              have hP : va_P (dC, dI) vwCl [(h_p0, .inr (7, [.ref h_p0_now, .ref h_p0_then, .ref h_p0_past, .int v_kept, .ref h_p0_text, .int v_typed, .int v_thrown, .int v_at, .int v_isFault, .ref h_p0_told, .int v_tolds, .int x4, .int v_other, .int v_change, .int v_woken])), (h_p1, .inl (cyI, 452, .inl arr_1))] H := hP
              have hD : va_D A [(h_p0, .inr (7, [.ref h_p0_now, .ref h_p0_then, .ref h_p0_past, .int v_kept, .ref h_p0_text, .int v_typed, .int v_thrown, .int v_at, .int v_isFault, .ref h_p0_told, .int v_tolds, .int x4, .int v_other, .int v_change, .int v_woken])), (h_p1, .inl (cyI, 452, .inl arr_1))] := hD
              refine va_put (D := (dC, dI)) (ci := 7) (v := .int r15) (ty := .int) (C := RX7) (T := TX7) (N := 15) hx hb hts m_X7_findsOne_0 tyX7 tyX7_ok nmX7 hown hK hP hD hS 0 rfl rfl 14 (by decide) (hts (.fieldLink RX7 66 "SleeperBerthsModel" "woken" "I") m_X7_findsOne_3) (fun _ h9 => h9) rfl (by decide +kernel) rfl rfl (Nat.le_of_ble_eq_true rfl) dX7_findsOne_69 (fun H locs hP hD hS => ?_)
              have hP : va_P (dC, dI) vwCl [(h_p0, .inr (7, [.ref h_p0_now, .ref h_p0_then, .ref h_p0_past, .int v_kept, .ref h_p0_text, .int v_typed, .int v_thrown, .int v_at, .int v_isFault, .ref h_p0_told, .int v_tolds, .int x4, .int v_other, .int v_change, .int r15])), (h_p1, .inl (cyI, 452, .inl arr_1))] H := hP
              have hD : va_D A [(h_p0, .inr (7, [.ref h_p0_now, .ref h_p0_then, .ref h_p0_past, .int v_kept, .ref h_p0_text, .int v_typed, .int v_thrown, .int v_at, .int v_isFault, .ref h_p0_told, .int v_tolds, .int x4, .int v_other, .int v_change, .int r15])), (h_p1, .inl (cyI, 452, .inl arr_1))] := hD
              refine lv_iinc (v := (x4 + iI 1)) hx hb dX7_findsOne_72 hl (k := 4) rfl rfl (by decide) (rfl : _ = ([(4, .int (x4 + iI 1)), (0, .ref h_p0), (1, .ref h_p1), (2, .int a2), (3, .int a3)] : List (Nat × Value))) (fun ls hl => ?_)
              refine lv_goto (tgt := 13) hx hb dX7_findsOne_75 (by decide) ?_
              exact ih x4 v_other v_change r15 (x4 + iI 1) _ _ hP hD hS ls (lv_sub hl [1, 2, 3, 4, 0] rfl) h
  have hl := lv_entry ([.ref h_p0, .ref h_p1, .int a2, .int a3]) (n := 5) (Nat.le_of_ble_eq_true rfl)
  rw [lg_entry_eq]
  generalize (lg_sl ([.ref h_p0, .ref h_p1, .int a2, .int a3]) ++ List.replicate (5 - (lg_sl ([.ref h_p0, .ref h_p1, .int a2, .int a3])).length) Slot.unset).toArray = ls at hl ⊢
  have hl : lv_has ls 5 [(0, .ref h_p0), (1, .ref h_p1), (2, .int a2), (3, .int a3)] := hl
  unfold s_X7_findsOne at h
  refine lv_aload_n hx hb dX7_findsOne_0 rfl (lv_at hl 0 rfl) ?_
  refine lv_iconst (v := iI (-1)) hx hb dX7_findsOne_1 rfl ?_
  refine va_put (D := (dC, dI)) (ci := 7) (v := .int (iI (-1))) (ty := .int) (C := RX7) (T := TX7) (N := 15) hx hb hts m_X7_findsOne_0 tyX7 tyX7_ok nmX7 hown hK hP hD hS 0 rfl rfl 11 (by decide) (hts (.fieldLink RX7 52 "SleeperBerthsModel" "one" "I") m_X7_findsOne_1) (fun _ h9 => h9) rfl (by decide +kernel) rfl rfl (Nat.le_of_ble_eq_true rfl) dX7_findsOne_2 (fun H locs hP hD hS => ?_)
  have hP : va_P (dC, dI) vwCl [(h_p0, .inr (7, [.ref h_p0_now, .ref h_p0_then, .ref h_p0_past, .int v_kept, .ref h_p0_text, .int v_typed, .int v_thrown, .int v_at, .int v_isFault, .ref h_p0_told, .int v_tolds, .int (iI (-1)), .int v_other, .int v_change, .int v_woken])), (h_p1, .inl (cyI, 452, .inl arr_1))] H := hP
  have hD : va_D A [(h_p0, .inr (7, [.ref h_p0_now, .ref h_p0_then, .ref h_p0_past, .int v_kept, .ref h_p0_text, .int v_typed, .int v_thrown, .int v_at, .int v_isFault, .ref h_p0_told, .int v_tolds, .int (iI (-1)), .int v_other, .int v_change, .int v_woken])), (h_p1, .inl (cyI, 452, .inl arr_1))] := hD
  refine lv_aload_n hx hb dX7_findsOne_5 rfl (lv_at hl 0 rfl) ?_
  refine lv_iconst (v := iI (-1)) hx hb dX7_findsOne_6 rfl ?_
  refine va_put (D := (dC, dI)) (ci := 7) (v := .int (iI (-1))) (ty := .int) (C := RX7) (T := TX7) (N := 15) hx hb hts m_X7_findsOne_0 tyX7 tyX7_ok nmX7 hown hK hP hD hS 0 rfl rfl 13 (by decide) (hts (.fieldLink RX7 55 "SleeperBerthsModel" "change" "I") m_X7_findsOne_4) (fun _ h9 => h9) rfl (by decide +kernel) rfl rfl (Nat.le_of_ble_eq_true rfl) dX7_findsOne_7 (fun H locs hP hD hS => ?_)
  have hP : va_P (dC, dI) vwCl [(h_p0, .inr (7, [.ref h_p0_now, .ref h_p0_then, .ref h_p0_past, .int v_kept, .ref h_p0_text, .int v_typed, .int v_thrown, .int v_at, .int v_isFault, .ref h_p0_told, .int v_tolds, .int (iI (-1)), .int v_other, .int (iI (-1)), .int v_woken])), (h_p1, .inl (cyI, 452, .inl arr_1))] H := hP
  have hD : va_D A [(h_p0, .inr (7, [.ref h_p0_now, .ref h_p0_then, .ref h_p0_past, .int v_kept, .ref h_p0_text, .int v_typed, .int v_thrown, .int v_at, .int v_isFault, .ref h_p0_told, .int v_tolds, .int (iI (-1)), .int v_other, .int (iI (-1)), .int v_woken])), (h_p1, .inl (cyI, 452, .inl arr_1))] := hD
  refine lv_iconst (v := iI 0) hx hb dX7_findsOne_10 rfl ?_
  refine lv_istore hx hb dX7_findsOne_11 hl (by decide) (rfl : _ = ([(4, .int (iI 0)), (0, .ref h_p0), (1, .ref h_p1), (2, .int a2), (3, .int a3)] : List (Nat × Value))) (fun ls hl => ?_)
  exact L13 n (iI (-1)) v_other (iI (-1)) v_woken (iI 0) _ _ hP hD hS ls (lv_sub hl [1, 2, 3, 4, 0] rfl) h
def s_X7_best_L6 (n : Nat) (arr_0 : Nat → Int32) (a1 : Int32) (a2 : Int32) (a3 : Int32) : Nat → Int32 → Int32 → Option (Int32)
  | 0, _, _ => none
  | k + 1, x4, x5 => (if iI 18 ≤ x5 then (some (x4)) else (if x5 = a3 then (if iI 0 = 0 then (s_X7_best_L6 n arr_0 a1 a2 a3 k x4 (x5 + iI 1)) else (if x4 = iI (-1) then (s_X7_best_L6 n arr_0 a1 a2 a3 k x5 (x5 + iI 1)) else ((s_X7_wakes n arr_0 x5 a1 a2).bind fun r5 => ((s_X7_wakes n arr_0 x4 a1 a2).bind fun r8 => (if r8 ≤ r5 then (s_X7_best_L6 n arr_0 a1 a2 a3 k x4 (x5 + iI 1)) else (s_X7_best_L6 n arr_0 a1 a2 a3 k x5 (x5 + iI 1))))))) else ((s_X7_isFree n arr_0 x5 a1 a2).bind fun r12 => (if r12 = 0 then (if iI 0 = 0 then (s_X7_best_L6 n arr_0 a1 a2 a3 k x4 (x5 + iI 1)) else (if x4 = iI (-1) then (s_X7_best_L6 n arr_0 a1 a2 a3 k x5 (x5 + iI 1)) else ((s_X7_wakes n arr_0 x5 a1 a2).bind fun r18 => ((s_X7_wakes n arr_0 x4 a1 a2).bind fun r21 => (if r21 ≤ r18 then (s_X7_best_L6 n arr_0 a1 a2 a3 k x4 (x5 + iI 1)) else (s_X7_best_L6 n arr_0 a1 a2 a3 k x5 (x5 + iI 1))))))) else (if iI 1 = 0 then (s_X7_best_L6 n arr_0 a1 a2 a3 k x4 (x5 + iI 1)) else (if x4 = iI (-1) then (s_X7_best_L6 n arr_0 a1 a2 a3 k x5 (x5 + iI 1)) else ((s_X7_wakes n arr_0 x5 a1 a2).bind fun r27 => ((s_X7_wakes n arr_0 x4 a1 a2).bind fun r30 => (if r30 ≤ r27 then (s_X7_best_L6 n arr_0 a1 a2 a3 k x4 (x5 + iI 1)) else (s_X7_best_L6 n arr_0 a1 a2 a3 k x5 (x5 + iI 1)))))))))))
def s_X7_best (n : Nat) (arr_0 : Nat → Int32) (a1 : Int32) (a2 : Int32) (a3 : Int32) : Option (Int32) := (s_X7_best_L6 n arr_0 a1 a2 a3 n (iI (-1)) (iI 0))
set_option maxHeartbeats 4000000 in
set_option maxRecDepth 100000 in
theorem c_X7_best (l : Launch) (dC : Nat → ClassId) (dI : Nat → Nat → Nat) (cyI cyJ cyT : ClassId) (h_p0 : Nat) (sz : Nat) (arr_0 : Nat → Int32) (a1 : Int32) (a2 : Int32) (a3 : Int32) (n : Nat) (o : Int32) (h : s_X7_best n arr_0 a1 a2 a3 = some o) : Met l yX7_best wsX7_best ({ frames := 3, cells := 0, slots := 0, locals := 69 }) (va_Pc [.ref h_p0, .int a1, .int a2, .int a3] (PRE (dC, dI) (TYS cyI cyJ cyT) sz [(h_p0, .inl (cyI, 452, .inl arr_0))])) (va_Qi (S := Unit) (fun r _ => r = o) (fun _ t => WLD (dC, dI) (va_A [(h_p0, .inl (cyI, 452, .inl arr_0))] sz) [(h_p0, .inl (cyI, 452, .inl arr_0))] t) (va_A [(h_p0, .inl (cyI, 452, .inl arr_0))] sz)) 0 0 (va_A [(h_p0, .inl (cyI, 452, .inl arr_0))] sz) := by
  refine Met.ofW (cc := cX7_best) (maxL := 7) (ret := (some .int)) (by decide) rfl ?_
  intro p e s m args below meth c s₁ B hml hv
  obtain ⟨rfl, hsz, hP, hK, hD0, hNW⟩ := hv
  have hx := B.exec
  have hb := B.bytes
  have hr := B.returns
  have hts := atoms_spec (ws := wsX7_best) B.pre
  have hown : s.vm.findClass RX7 = some m.cls := findClass_of_methodNamed B.named
  have hlocks := B.notSynchronized
  subst hsz
  have hD := hD0.self (sz := s.heap.size)
  generalize hAe : va_A [(h_p0, .inl (cyI, 452, .inl arr_0))] s.heap.size = A at hD ⊢
  have hA : ∀ q : Nat, s.heap.size ≤ q → A q := fun q h => by rw [← hAe]; exact Or.inr h
  have hS : va_S A s.heap s.heap [] := va_S.rf
  have hP : va_P (dC, dI) vwCl [(h_p0, .inl (cyI, 452, .inl arr_0))] s.heap := hP
  have L6 : ∀ (k : Nat), (∀ (x4 : Int32) (x5 : Int32) (H : Heap) (locs : List Loc), va_P (dC, dI) vwCl [(h_p0, .inl (cyI, 452, .inl arr_0))] H → va_D A [(h_p0, .inl (cyI, 452, .inl arr_0))] → va_S A s.heap H locs → ∀ (ls : Array Slot), lv_has ls 7 [(0, .ref h_p0), (1, .int a1), (2, .int a2), (3, .int a3), (4, .int x4), (5, .int x5)] →  s_X7_best_L6 n arr_0 a1 a2 a3 k x4 x5 = some o → W p l e (headSpec wsX7_best ({ frames := 3, cells := 0, slots := 0, locals := 69 })).room s m (([.ref h_p0, .int a1, .int a2, .int a3] : List Value).toArray) below meth c H locs 0 0 (MQ below (va_Qi (S := Unit) (fun r _ => r = o) (fun _ t => WLD (dC, dI) A [(h_p0, .inl (cyI, 452, .inl arr_0))] t) A) (([.ref h_p0, .int a1, .int a2, .int a3] : List Value).toArray) s 0 0 A) (F0 m 6 ls [])) := by
    intro k
    induction k with
    | zero =>
      intro  x4 x5 H locs hP hD hS ls hl h
      rw [s_X7_best_L6] at h
      cases h
    | succ k ih =>
      intro  x4 x5 H locs hP hD hS ls hl h
      rw [s_X7_best_L6] at h
      refine lv_iload hx hb dX7_best_6 (lv_at hl 5 rfl) ?_
      refine lv_bipush (v := iI 18) hx hb dX7_best_8 (by decide) ?_
      refine lv_icmp_ge (tgt := 82) hx hb dX7_best_10 (by decide) (fun c1 => ?_) (fun c1 => ?_)
      · have h := ipos c1 h
        refine lv_iload hx hb dX7_best_82 (lv_at hl 4 rfl) ?_
        obtain rfl := Option.some.inj h
        exact W.iret (v := x4) hx hb hr (fun t ht hW => ⟨⟨x4, (), rfl, rfl, WLD.of ht hP hD⟩, hS.F ht⟩) hS.2.2 dX7_best_84
      · have h := ineg c1 h
        refine lv_iload hx hb dX7_best_13 (lv_at hl 5 rfl) ?_
        refine lv_iload_n hx hb dX7_best_15 rfl (lv_at hl 3 rfl) ?_
        refine lv_icmp_eq (tgt := 34) hx hb dX7_best_16 (by decide) (fun c2 => ?_) (fun c2 => ?_)
        · have h := ipos c2 h
          refine lv_iconst (v := iI 0) hx hb dX7_best_34 rfl ?_
          refine lv_istore hx hb dX7_best_35 hl (by decide) (rfl : _ = ([(6, .int (iI 0)), (0, .ref h_p0), (1, .int a1), (2, .int a2), (3, .int a3), (4, .int x4), (5, .int x5)] : List (Nat × Value))) (fun ls hl => ?_)
          refine lv_iload hx hb dX7_best_37 (lv_at hl 0 rfl) ?_
          refine lv_if_eq (tgt := 72) hx hb dX7_best_39 (by decide) (fun c3 => ?_) (fun c3 => ?_)
          · have h := ipos c3 h
            refine lv_iload hx hb dX7_best_72 (lv_at hl 5 rfl) ?_
            refine lv_istore hx hb dX7_best_74 hl (by decide) (rfl : _ = ([(4, .int x4), (6, .int (iI 0)), (0, .ref h_p0), (1, .int a1), (2, .int a2), (3, .int a3), (5, .int x5)] : List (Nat × Value))) (fun ls hl => ?_)
            refine lv_iinc (v := (x5 + iI 1)) hx hb dX7_best_76 hl (k := 6) rfl rfl (by decide) (rfl : _ = ([(5, .int (x5 + iI 1)), (4, .int x4), (6, .int (iI 0)), (0, .ref h_p0), (1, .int a1), (2, .int a2), (3, .int a3)] : List (Nat × Value))) (fun ls hl => ?_)
            refine lv_goto (tgt := 6) hx hb dX7_best_79 (by decide) ?_
            exact ih x4 (x5 + iI 1) _ _ hP hD hS ls (lv_sub hl [3, 4, 5, 6, 1, 0] rfl) h
          · have h := ineg c3 h
            refine lv_iload hx hb dX7_best_42 (lv_at hl 5 rfl) ?_
            refine lv_iconst (v := iI (-1)) hx hb dX7_best_44 rfl ?_
            refine lv_icmp_eq (tgt := 67) hx hb dX7_best_45 (by decide) (fun c4 => ?_) (fun c4 => ?_)
            · have h := ipos c4 h
              refine lv_iload hx hb dX7_best_67 (lv_at hl 6 rfl) ?_
              refine lv_goto (tgt := 74) hx hb dX7_best_69 (by decide) ?_
              refine lv_istore hx hb dX7_best_74 hl (by decide) (rfl : _ = ([(4, .int x5), (6, .int (iI 0)), (0, .ref h_p0), (1, .int a1), (2, .int a2), (3, .int a3), (5, .int x5)] : List (Nat × Value))) (fun ls hl => ?_)
              refine lv_iinc (v := (x5 + iI 1)) hx hb dX7_best_76 hl (k := 6) rfl rfl (by decide) (rfl : _ = ([(5, .int (x5 + iI 1)), (4, .int x5), (6, .int (iI 0)), (0, .ref h_p0), (1, .int a1), (2, .int a2), (3, .int a3)] : List (Nat × Value))) (fun ls hl => ?_)
              refine lv_goto (tgt := 6) hx hb dX7_best_79 (by decide) ?_
              exact ih x5 (x5 + iI 1) _ _ hP hD hS ls (lv_sub hl [3, 4, 5, 6, 1, 0] rfl) h
            · have h := ineg c4 h
              refine lv_aload_n hx hb dX7_best_48 rfl (lv_at hl 1 rfl) ?_
              refine lv_iload hx hb dX7_best_49 (lv_at hl 6 rfl) ?_
              refine lv_iload_n hx hb dX7_best_51 rfl (lv_at hl 2 rfl) ?_
              refine lv_iload_n hx hb dX7_best_52 rfl (lv_at hl 3 rfl) ?_
              obtain ⟨r5, e6, h⟩ := bsome h
              have hPc := sb_P [(h_p0, .inl (cyI, 452, .inl arr_0))] hP [0] rfl
              have hDc := sb_D [(h_p0, .inl (cyI, 452, .inl arr_0))] hD [0] (by decide) rfl
              have hFc := va_free (wc := [(h_p0, .inl (cyI, 452, .inl arr_0))]) hD hS hA [0] rfl
              refine va_calli (va_runS (As := [.ref h_p0, .int x5, .int a1, .int a2]) (rest := []) ⟨hx, hb, hml, hown, hts⟩ (c_X7_wakes l dC dI cyI cyJ cyT h_p0 H.size arr_0 x5 a1 a2 n r5 e6) (va_cwS 4 hts gX7_best_X7_wakes rfl rfl rfl (by decide +kernel) ⟨Nat.le_of_ble_eq_true rfl, Nat.le_of_ble_eq_true rfl⟩) ⟨PRE.blind, PRE.go hK hPc hDc hNW⟩ rfl rfl hl.1 rfl (lv_room (Nat.le_of_ble_eq_true rfl)) dX7_best_53 ⟨Nat.zero_le _, Nat.zero_le _⟩) hS (fun q _ h => hFc q h) hFc (fun z7 u t H locs ht hvm hw hB hz1 hk1 hS => ?_)
              subst z7
              obtain ⟨hP, hD⟩ := va_join (wr := []) (w1 := [(h_p0, .inl (cyI, 452, .inl arr_0))]) hP hD [0] [] rfl rfl (by decide) (by decide) hk1 hFc (WLD.P hB ht) hB.2
              have hP : va_P (dC, dI) vwCl [(h_p0, .inl (cyI, 452, .inl arr_0))] H := hP
              have hD : va_D A [(h_p0, .inl (cyI, 452, .inl arr_0))] := hD
              refine lv_aload_n hx hb dX7_best_56 rfl (lv_at hl 1 rfl) ?_
              refine lv_iload hx hb dX7_best_57 (lv_at hl 5 rfl) ?_
              refine lv_iload_n hx hb dX7_best_59 rfl (lv_at hl 2 rfl) ?_
              refine lv_iload_n hx hb dX7_best_60 rfl (lv_at hl 3 rfl) ?_
              obtain ⟨r8, e9, h⟩ := bsome h
              have hPc := sb_P [(h_p0, .inl (cyI, 452, .inl arr_0))] hP [0] rfl
              have hDc := sb_D [(h_p0, .inl (cyI, 452, .inl arr_0))] hD [0] (by decide) rfl
              have hFc := va_free (wc := [(h_p0, .inl (cyI, 452, .inl arr_0))]) hD hS hA [0] rfl
              refine va_calli (va_runS (As := [.ref h_p0, .int x4, .int a1, .int a2]) (rest := [.int r5]) ⟨hx, hb, hml, hown, hts⟩ (c_X7_wakes l dC dI cyI cyJ cyT h_p0 H.size arr_0 x4 a1 a2 n r8 e9) (va_cwS 4 hts gX7_best_X7_wakes rfl rfl rfl (by decide +kernel) ⟨Nat.le_of_ble_eq_true rfl, Nat.le_of_ble_eq_true rfl⟩) ⟨PRE.blind, PRE.go hK hPc hDc hNW⟩ rfl rfl hl.1 rfl (lv_room (Nat.le_of_ble_eq_true rfl)) dX7_best_61 ⟨Nat.zero_le _, Nat.zero_le _⟩) hS (fun q _ h => hFc q h) hFc (fun z10 u t H locs ht hvm hw hB hz1 hk1 hS => ?_)
              subst z10
              obtain ⟨hP, hD⟩ := va_join (wr := []) (w1 := [(h_p0, .inl (cyI, 452, .inl arr_0))]) hP hD [0] [] rfl rfl (by decide) (by decide) hk1 hFc (WLD.P hB ht) hB.2
              have hP : va_P (dC, dI) vwCl [(h_p0, .inl (cyI, 452, .inl arr_0))] H := hP
              have hD : va_D A [(h_p0, .inl (cyI, 452, .inl arr_0))] := hD
              refine lv_icmp_ge (tgt := 72) hx hb dX7_best_64 (by decide) (fun c11 => ?_) (fun c11 => ?_)
              · have h := ipos c11 h
                refine lv_iload hx hb dX7_best_72 (lv_at hl 5 rfl) ?_
                refine lv_istore hx hb dX7_best_74 hl (by decide) (rfl : _ = ([(4, .int x4), (6, .int (iI 0)), (0, .ref h_p0), (1, .int a1), (2, .int a2), (3, .int a3), (5, .int x5)] : List (Nat × Value))) (fun ls hl => ?_)
                refine lv_iinc (v := (x5 + iI 1)) hx hb dX7_best_76 hl (k := 6) rfl rfl (by decide) (rfl : _ = ([(5, .int (x5 + iI 1)), (4, .int x4), (6, .int (iI 0)), (0, .ref h_p0), (1, .int a1), (2, .int a2), (3, .int a3)] : List (Nat × Value))) (fun ls hl => ?_)
                refine lv_goto (tgt := 6) hx hb dX7_best_79 (by decide) ?_
                exact ih x4 (x5 + iI 1) _ _ hP hD hS ls (lv_sub hl [3, 4, 5, 6, 1, 0] rfl) h
              · have h := ineg c11 h
                refine lv_iload hx hb dX7_best_67 (lv_at hl 6 rfl) ?_
                refine lv_goto (tgt := 74) hx hb dX7_best_69 (by decide) ?_
                refine lv_istore hx hb dX7_best_74 hl (by decide) (rfl : _ = ([(4, .int x5), (6, .int (iI 0)), (0, .ref h_p0), (1, .int a1), (2, .int a2), (3, .int a3), (5, .int x5)] : List (Nat × Value))) (fun ls hl => ?_)
                refine lv_iinc (v := (x5 + iI 1)) hx hb dX7_best_76 hl (k := 6) rfl rfl (by decide) (rfl : _ = ([(5, .int (x5 + iI 1)), (4, .int x5), (6, .int (iI 0)), (0, .ref h_p0), (1, .int a1), (2, .int a2), (3, .int a3)] : List (Nat × Value))) (fun ls hl => ?_)
                refine lv_goto (tgt := 6) hx hb dX7_best_79 (by decide) ?_
                exact ih x5 (x5 + iI 1) _ _ hP hD hS ls (lv_sub hl [3, 4, 5, 6, 1, 0] rfl) h
        · have h := ineg c2 h
          refine lv_aload_n hx hb dX7_best_19 rfl (lv_at hl 0 rfl) ?_
          refine lv_iload hx hb dX7_best_20 (lv_at hl 5 rfl) ?_
          refine lv_iload_n hx hb dX7_best_22 rfl (lv_at hl 1 rfl) ?_
          refine lv_iload_n hx hb dX7_best_23 rfl (lv_at hl 2 rfl) ?_
          obtain ⟨r12, e13, h⟩ := bsome h
          have hPc := sb_P [(h_p0, .inl (cyI, 452, .inl arr_0))] hP [0] rfl
          have hDc := sb_D [(h_p0, .inl (cyI, 452, .inl arr_0))] hD [0] (by decide) rfl
          have hFc := va_free (wc := [(h_p0, .inl (cyI, 452, .inl arr_0))]) hD hS hA [0] rfl
          refine va_calli (va_runS (As := [.ref h_p0, .int x5, .int a1, .int a2]) (rest := []) ⟨hx, hb, hml, hown, hts⟩ (c_X7_isFree l dC dI cyI cyJ cyT h_p0 H.size arr_0 x5 a1 a2 n r12 e13) (va_cwS 4 hts gX7_best_X7_isFree rfl rfl rfl (by decide +kernel) ⟨Nat.le_of_ble_eq_true rfl, Nat.le_of_ble_eq_true rfl⟩) ⟨PRE.blind, PRE.go hK hPc hDc hNW⟩ rfl rfl hl.1 rfl (lv_room (Nat.le_of_ble_eq_true rfl)) dX7_best_24 ⟨Nat.zero_le _, Nat.zero_le _⟩) hS (fun q _ h => hFc q h) hFc (fun z14 u t H locs ht hvm hw hB hz1 hk1 hS => ?_)
          subst z14
          obtain ⟨hP, hD⟩ := va_join (wr := []) (w1 := [(h_p0, .inl (cyI, 452, .inl arr_0))]) hP hD [0] [] rfl rfl (by decide) (by decide) hk1 hFc (WLD.P hB ht) hB.2
          have hP : va_P (dC, dI) vwCl [(h_p0, .inl (cyI, 452, .inl arr_0))] H := hP
          have hD : va_D A [(h_p0, .inl (cyI, 452, .inl arr_0))] := hD
          refine lv_if_eq (tgt := 34) hx hb dX7_best_27 (by decide) (fun c15 => ?_) (fun c15 => ?_)
          · have h := ipos c15 h
            refine lv_iconst (v := iI 0) hx hb dX7_best_34 rfl ?_
            refine lv_istore hx hb dX7_best_35 hl (by decide) (rfl : _ = ([(6, .int (iI 0)), (0, .ref h_p0), (1, .int a1), (2, .int a2), (3, .int a3), (4, .int x4), (5, .int x5)] : List (Nat × Value))) (fun ls hl => ?_)
            refine lv_iload hx hb dX7_best_37 (lv_at hl 0 rfl) ?_
            refine lv_if_eq (tgt := 72) hx hb dX7_best_39 (by decide) (fun c16 => ?_) (fun c16 => ?_)
            · have h := ipos c16 h
              refine lv_iload hx hb dX7_best_72 (lv_at hl 5 rfl) ?_
              refine lv_istore hx hb dX7_best_74 hl (by decide) (rfl : _ = ([(4, .int x4), (6, .int (iI 0)), (0, .ref h_p0), (1, .int a1), (2, .int a2), (3, .int a3), (5, .int x5)] : List (Nat × Value))) (fun ls hl => ?_)
              refine lv_iinc (v := (x5 + iI 1)) hx hb dX7_best_76 hl (k := 6) rfl rfl (by decide) (rfl : _ = ([(5, .int (x5 + iI 1)), (4, .int x4), (6, .int (iI 0)), (0, .ref h_p0), (1, .int a1), (2, .int a2), (3, .int a3)] : List (Nat × Value))) (fun ls hl => ?_)
              refine lv_goto (tgt := 6) hx hb dX7_best_79 (by decide) ?_
              exact ih x4 (x5 + iI 1) _ _ hP hD hS ls (lv_sub hl [3, 4, 5, 6, 1, 0] rfl) h
            · have h := ineg c16 h
              refine lv_iload hx hb dX7_best_42 (lv_at hl 5 rfl) ?_
              refine lv_iconst (v := iI (-1)) hx hb dX7_best_44 rfl ?_
              refine lv_icmp_eq (tgt := 67) hx hb dX7_best_45 (by decide) (fun c17 => ?_) (fun c17 => ?_)
              · have h := ipos c17 h
                refine lv_iload hx hb dX7_best_67 (lv_at hl 6 rfl) ?_
                refine lv_goto (tgt := 74) hx hb dX7_best_69 (by decide) ?_
                refine lv_istore hx hb dX7_best_74 hl (by decide) (rfl : _ = ([(4, .int x5), (6, .int (iI 0)), (0, .ref h_p0), (1, .int a1), (2, .int a2), (3, .int a3), (5, .int x5)] : List (Nat × Value))) (fun ls hl => ?_)
                refine lv_iinc (v := (x5 + iI 1)) hx hb dX7_best_76 hl (k := 6) rfl rfl (by decide) (rfl : _ = ([(5, .int (x5 + iI 1)), (4, .int x5), (6, .int (iI 0)), (0, .ref h_p0), (1, .int a1), (2, .int a2), (3, .int a3)] : List (Nat × Value))) (fun ls hl => ?_)
                refine lv_goto (tgt := 6) hx hb dX7_best_79 (by decide) ?_
                exact ih x5 (x5 + iI 1) _ _ hP hD hS ls (lv_sub hl [3, 4, 5, 6, 1, 0] rfl) h
              · have h := ineg c17 h
                refine lv_aload_n hx hb dX7_best_48 rfl (lv_at hl 1 rfl) ?_
                refine lv_iload hx hb dX7_best_49 (lv_at hl 6 rfl) ?_
                refine lv_iload_n hx hb dX7_best_51 rfl (lv_at hl 2 rfl) ?_
                refine lv_iload_n hx hb dX7_best_52 rfl (lv_at hl 3 rfl) ?_
                obtain ⟨r18, e19, h⟩ := bsome h
                have hPc := sb_P [(h_p0, .inl (cyI, 452, .inl arr_0))] hP [0] rfl
                have hDc := sb_D [(h_p0, .inl (cyI, 452, .inl arr_0))] hD [0] (by decide) rfl
                have hFc := va_free (wc := [(h_p0, .inl (cyI, 452, .inl arr_0))]) hD hS hA [0] rfl
                refine va_calli (va_runS (As := [.ref h_p0, .int x5, .int a1, .int a2]) (rest := []) ⟨hx, hb, hml, hown, hts⟩ (c_X7_wakes l dC dI cyI cyJ cyT h_p0 H.size arr_0 x5 a1 a2 n r18 e19) (va_cwS 4 hts gX7_best_X7_wakes rfl rfl rfl (by decide +kernel) ⟨Nat.le_of_ble_eq_true rfl, Nat.le_of_ble_eq_true rfl⟩) ⟨PRE.blind, PRE.go hK hPc hDc hNW⟩ rfl rfl hl.1 rfl (lv_room (Nat.le_of_ble_eq_true rfl)) dX7_best_53 ⟨Nat.zero_le _, Nat.zero_le _⟩) hS (fun q _ h => hFc q h) hFc (fun z20 u t H locs ht hvm hw hB hz1 hk1 hS => ?_)
                subst z20
                obtain ⟨hP, hD⟩ := va_join (wr := []) (w1 := [(h_p0, .inl (cyI, 452, .inl arr_0))]) hP hD [0] [] rfl rfl (by decide) (by decide) hk1 hFc (WLD.P hB ht) hB.2
                have hP : va_P (dC, dI) vwCl [(h_p0, .inl (cyI, 452, .inl arr_0))] H := hP
                have hD : va_D A [(h_p0, .inl (cyI, 452, .inl arr_0))] := hD
                refine lv_aload_n hx hb dX7_best_56 rfl (lv_at hl 1 rfl) ?_
                refine lv_iload hx hb dX7_best_57 (lv_at hl 5 rfl) ?_
                refine lv_iload_n hx hb dX7_best_59 rfl (lv_at hl 2 rfl) ?_
                refine lv_iload_n hx hb dX7_best_60 rfl (lv_at hl 3 rfl) ?_
                obtain ⟨r21, e22, h⟩ := bsome h
                have hPc := sb_P [(h_p0, .inl (cyI, 452, .inl arr_0))] hP [0] rfl
                have hDc := sb_D [(h_p0, .inl (cyI, 452, .inl arr_0))] hD [0] (by decide) rfl
                have hFc := va_free (wc := [(h_p0, .inl (cyI, 452, .inl arr_0))]) hD hS hA [0] rfl
                refine va_calli (va_runS (As := [.ref h_p0, .int x4, .int a1, .int a2]) (rest := [.int r18]) ⟨hx, hb, hml, hown, hts⟩ (c_X7_wakes l dC dI cyI cyJ cyT h_p0 H.size arr_0 x4 a1 a2 n r21 e22) (va_cwS 4 hts gX7_best_X7_wakes rfl rfl rfl (by decide +kernel) ⟨Nat.le_of_ble_eq_true rfl, Nat.le_of_ble_eq_true rfl⟩) ⟨PRE.blind, PRE.go hK hPc hDc hNW⟩ rfl rfl hl.1 rfl (lv_room (Nat.le_of_ble_eq_true rfl)) dX7_best_61 ⟨Nat.zero_le _, Nat.zero_le _⟩) hS (fun q _ h => hFc q h) hFc (fun z23 u t H locs ht hvm hw hB hz1 hk1 hS => ?_)
                subst z23
                obtain ⟨hP, hD⟩ := va_join (wr := []) (w1 := [(h_p0, .inl (cyI, 452, .inl arr_0))]) hP hD [0] [] rfl rfl (by decide) (by decide) hk1 hFc (WLD.P hB ht) hB.2
                have hP : va_P (dC, dI) vwCl [(h_p0, .inl (cyI, 452, .inl arr_0))] H := hP
                have hD : va_D A [(h_p0, .inl (cyI, 452, .inl arr_0))] := hD
                refine lv_icmp_ge (tgt := 72) hx hb dX7_best_64 (by decide) (fun c24 => ?_) (fun c24 => ?_)
                · have h := ipos c24 h
                  refine lv_iload hx hb dX7_best_72 (lv_at hl 5 rfl) ?_
                  refine lv_istore hx hb dX7_best_74 hl (by decide) (rfl : _ = ([(4, .int x4), (6, .int (iI 0)), (0, .ref h_p0), (1, .int a1), (2, .int a2), (3, .int a3), (5, .int x5)] : List (Nat × Value))) (fun ls hl => ?_)
                  refine lv_iinc (v := (x5 + iI 1)) hx hb dX7_best_76 hl (k := 6) rfl rfl (by decide) (rfl : _ = ([(5, .int (x5 + iI 1)), (4, .int x4), (6, .int (iI 0)), (0, .ref h_p0), (1, .int a1), (2, .int a2), (3, .int a3)] : List (Nat × Value))) (fun ls hl => ?_)
                  refine lv_goto (tgt := 6) hx hb dX7_best_79 (by decide) ?_
                  exact ih x4 (x5 + iI 1) _ _ hP hD hS ls (lv_sub hl [3, 4, 5, 6, 1, 0] rfl) h
                · have h := ineg c24 h
                  refine lv_iload hx hb dX7_best_67 (lv_at hl 6 rfl) ?_
                  refine lv_goto (tgt := 74) hx hb dX7_best_69 (by decide) ?_
                  refine lv_istore hx hb dX7_best_74 hl (by decide) (rfl : _ = ([(4, .int x5), (6, .int (iI 0)), (0, .ref h_p0), (1, .int a1), (2, .int a2), (3, .int a3), (5, .int x5)] : List (Nat × Value))) (fun ls hl => ?_)
                  refine lv_iinc (v := (x5 + iI 1)) hx hb dX7_best_76 hl (k := 6) rfl rfl (by decide) (rfl : _ = ([(5, .int (x5 + iI 1)), (4, .int x5), (6, .int (iI 0)), (0, .ref h_p0), (1, .int a1), (2, .int a2), (3, .int a3)] : List (Nat × Value))) (fun ls hl => ?_)
                  refine lv_goto (tgt := 6) hx hb dX7_best_79 (by decide) ?_
                  exact ih x5 (x5 + iI 1) _ _ hP hD hS ls (lv_sub hl [3, 4, 5, 6, 1, 0] rfl) h
          · have h := ineg c15 h
            refine lv_iconst (v := iI 1) hx hb dX7_best_30 rfl ?_
            refine lv_goto (tgt := 35) hx hb dX7_best_31 (by decide) ?_
            refine lv_istore hx hb dX7_best_35 hl (by decide) (rfl : _ = ([(6, .int (iI 1)), (0, .ref h_p0), (1, .int a1), (2, .int a2), (3, .int a3), (4, .int x4), (5, .int x5)] : List (Nat × Value))) (fun ls hl => ?_)
            refine lv_iload hx hb dX7_best_37 (lv_at hl 0 rfl) ?_
            refine lv_if_eq (tgt := 72) hx hb dX7_best_39 (by decide) (fun c25 => ?_) (fun c25 => ?_)
            · have h := ipos c25 h
              refine lv_iload hx hb dX7_best_72 (lv_at hl 5 rfl) ?_
              refine lv_istore hx hb dX7_best_74 hl (by decide) (rfl : _ = ([(4, .int x4), (6, .int (iI 1)), (0, .ref h_p0), (1, .int a1), (2, .int a2), (3, .int a3), (5, .int x5)] : List (Nat × Value))) (fun ls hl => ?_)
              refine lv_iinc (v := (x5 + iI 1)) hx hb dX7_best_76 hl (k := 6) rfl rfl (by decide) (rfl : _ = ([(5, .int (x5 + iI 1)), (4, .int x4), (6, .int (iI 1)), (0, .ref h_p0), (1, .int a1), (2, .int a2), (3, .int a3)] : List (Nat × Value))) (fun ls hl => ?_)
              refine lv_goto (tgt := 6) hx hb dX7_best_79 (by decide) ?_
              exact ih x4 (x5 + iI 1) _ _ hP hD hS ls (lv_sub hl [3, 4, 5, 6, 1, 0] rfl) h
            · have h := ineg c25 h
              refine lv_iload hx hb dX7_best_42 (lv_at hl 5 rfl) ?_
              refine lv_iconst (v := iI (-1)) hx hb dX7_best_44 rfl ?_
              refine lv_icmp_eq (tgt := 67) hx hb dX7_best_45 (by decide) (fun c26 => ?_) (fun c26 => ?_)
              · have h := ipos c26 h
                refine lv_iload hx hb dX7_best_67 (lv_at hl 6 rfl) ?_
                refine lv_goto (tgt := 74) hx hb dX7_best_69 (by decide) ?_
                refine lv_istore hx hb dX7_best_74 hl (by decide) (rfl : _ = ([(4, .int x5), (6, .int (iI 1)), (0, .ref h_p0), (1, .int a1), (2, .int a2), (3, .int a3), (5, .int x5)] : List (Nat × Value))) (fun ls hl => ?_)
                refine lv_iinc (v := (x5 + iI 1)) hx hb dX7_best_76 hl (k := 6) rfl rfl (by decide) (rfl : _ = ([(5, .int (x5 + iI 1)), (4, .int x5), (6, .int (iI 1)), (0, .ref h_p0), (1, .int a1), (2, .int a2), (3, .int a3)] : List (Nat × Value))) (fun ls hl => ?_)
                refine lv_goto (tgt := 6) hx hb dX7_best_79 (by decide) ?_
                exact ih x5 (x5 + iI 1) _ _ hP hD hS ls (lv_sub hl [3, 4, 5, 6, 1, 0] rfl) h
              · have h := ineg c26 h
                refine lv_aload_n hx hb dX7_best_48 rfl (lv_at hl 1 rfl) ?_
                refine lv_iload hx hb dX7_best_49 (lv_at hl 6 rfl) ?_
                refine lv_iload_n hx hb dX7_best_51 rfl (lv_at hl 2 rfl) ?_
                refine lv_iload_n hx hb dX7_best_52 rfl (lv_at hl 3 rfl) ?_
                obtain ⟨r27, e28, h⟩ := bsome h
                have hPc := sb_P [(h_p0, .inl (cyI, 452, .inl arr_0))] hP [0] rfl
                have hDc := sb_D [(h_p0, .inl (cyI, 452, .inl arr_0))] hD [0] (by decide) rfl
                have hFc := va_free (wc := [(h_p0, .inl (cyI, 452, .inl arr_0))]) hD hS hA [0] rfl
                refine va_calli (va_runS (As := [.ref h_p0, .int x5, .int a1, .int a2]) (rest := []) ⟨hx, hb, hml, hown, hts⟩ (c_X7_wakes l dC dI cyI cyJ cyT h_p0 H.size arr_0 x5 a1 a2 n r27 e28) (va_cwS 4 hts gX7_best_X7_wakes rfl rfl rfl (by decide +kernel) ⟨Nat.le_of_ble_eq_true rfl, Nat.le_of_ble_eq_true rfl⟩) ⟨PRE.blind, PRE.go hK hPc hDc hNW⟩ rfl rfl hl.1 rfl (lv_room (Nat.le_of_ble_eq_true rfl)) dX7_best_53 ⟨Nat.zero_le _, Nat.zero_le _⟩) hS (fun q _ h => hFc q h) hFc (fun z29 u t H locs ht hvm hw hB hz1 hk1 hS => ?_)
                subst z29
                obtain ⟨hP, hD⟩ := va_join (wr := []) (w1 := [(h_p0, .inl (cyI, 452, .inl arr_0))]) hP hD [0] [] rfl rfl (by decide) (by decide) hk1 hFc (WLD.P hB ht) hB.2
                have hP : va_P (dC, dI) vwCl [(h_p0, .inl (cyI, 452, .inl arr_0))] H := hP
                have hD : va_D A [(h_p0, .inl (cyI, 452, .inl arr_0))] := hD
                refine lv_aload_n hx hb dX7_best_56 rfl (lv_at hl 1 rfl) ?_
                refine lv_iload hx hb dX7_best_57 (lv_at hl 5 rfl) ?_
                refine lv_iload_n hx hb dX7_best_59 rfl (lv_at hl 2 rfl) ?_
                refine lv_iload_n hx hb dX7_best_60 rfl (lv_at hl 3 rfl) ?_
                obtain ⟨r30, e31, h⟩ := bsome h
                have hPc := sb_P [(h_p0, .inl (cyI, 452, .inl arr_0))] hP [0] rfl
                have hDc := sb_D [(h_p0, .inl (cyI, 452, .inl arr_0))] hD [0] (by decide) rfl
                have hFc := va_free (wc := [(h_p0, .inl (cyI, 452, .inl arr_0))]) hD hS hA [0] rfl
                refine va_calli (va_runS (As := [.ref h_p0, .int x4, .int a1, .int a2]) (rest := [.int r27]) ⟨hx, hb, hml, hown, hts⟩ (c_X7_wakes l dC dI cyI cyJ cyT h_p0 H.size arr_0 x4 a1 a2 n r30 e31) (va_cwS 4 hts gX7_best_X7_wakes rfl rfl rfl (by decide +kernel) ⟨Nat.le_of_ble_eq_true rfl, Nat.le_of_ble_eq_true rfl⟩) ⟨PRE.blind, PRE.go hK hPc hDc hNW⟩ rfl rfl hl.1 rfl (lv_room (Nat.le_of_ble_eq_true rfl)) dX7_best_61 ⟨Nat.zero_le _, Nat.zero_le _⟩) hS (fun q _ h => hFc q h) hFc (fun z32 u t H locs ht hvm hw hB hz1 hk1 hS => ?_)
                subst z32
                obtain ⟨hP, hD⟩ := va_join (wr := []) (w1 := [(h_p0, .inl (cyI, 452, .inl arr_0))]) hP hD [0] [] rfl rfl (by decide) (by decide) hk1 hFc (WLD.P hB ht) hB.2
                have hP : va_P (dC, dI) vwCl [(h_p0, .inl (cyI, 452, .inl arr_0))] H := hP
                have hD : va_D A [(h_p0, .inl (cyI, 452, .inl arr_0))] := hD
                refine lv_icmp_ge (tgt := 72) hx hb dX7_best_64 (by decide) (fun c33 => ?_) (fun c33 => ?_)
                · have h := ipos c33 h
                  refine lv_iload hx hb dX7_best_72 (lv_at hl 5 rfl) ?_
                  refine lv_istore hx hb dX7_best_74 hl (by decide) (rfl : _ = ([(4, .int x4), (6, .int (iI 1)), (0, .ref h_p0), (1, .int a1), (2, .int a2), (3, .int a3), (5, .int x5)] : List (Nat × Value))) (fun ls hl => ?_)
                  refine lv_iinc (v := (x5 + iI 1)) hx hb dX7_best_76 hl (k := 6) rfl rfl (by decide) (rfl : _ = ([(5, .int (x5 + iI 1)), (4, .int x4), (6, .int (iI 1)), (0, .ref h_p0), (1, .int a1), (2, .int a2), (3, .int a3)] : List (Nat × Value))) (fun ls hl => ?_)
                  refine lv_goto (tgt := 6) hx hb dX7_best_79 (by decide) ?_
                  exact ih x4 (x5 + iI 1) _ _ hP hD hS ls (lv_sub hl [3, 4, 5, 6, 1, 0] rfl) h
                · have h := ineg c33 h
                  refine lv_iload hx hb dX7_best_67 (lv_at hl 6 rfl) ?_
                  refine lv_goto (tgt := 74) hx hb dX7_best_69 (by decide) ?_
                  refine lv_istore hx hb dX7_best_74 hl (by decide) (rfl : _ = ([(4, .int x5), (6, .int (iI 1)), (0, .ref h_p0), (1, .int a1), (2, .int a2), (3, .int a3), (5, .int x5)] : List (Nat × Value))) (fun ls hl => ?_)
                  refine lv_iinc (v := (x5 + iI 1)) hx hb dX7_best_76 hl (k := 6) rfl rfl (by decide) (rfl : _ = ([(5, .int (x5 + iI 1)), (4, .int x5), (6, .int (iI 1)), (0, .ref h_p0), (1, .int a1), (2, .int a2), (3, .int a3)] : List (Nat × Value))) (fun ls hl => ?_)
                  refine lv_goto (tgt := 6) hx hb dX7_best_79 (by decide) ?_
                  exact ih x5 (x5 + iI 1) _ _ hP hD hS ls (lv_sub hl [3, 4, 5, 6, 1, 0] rfl) h
  have hl := lv_entry ([.ref h_p0, .int a1, .int a2, .int a3]) (n := 7) (Nat.le_of_ble_eq_true rfl)
  rw [lg_entry_eq]
  generalize (lg_sl ([.ref h_p0, .int a1, .int a2, .int a3]) ++ List.replicate (7 - (lg_sl ([.ref h_p0, .int a1, .int a2, .int a3])).length) Slot.unset).toArray = ls at hl ⊢
  have hl : lv_has ls 7 [(0, .ref h_p0), (1, .int a1), (2, .int a2), (3, .int a3)] := hl
  unfold s_X7_best at h
  refine lv_iconst (v := iI (-1)) hx hb dX7_best_0 rfl ?_
  refine lv_istore hx hb dX7_best_1 hl (by decide) (rfl : _ = ([(4, .int (iI (-1))), (0, .ref h_p0), (1, .int a1), (2, .int a2), (3, .int a3)] : List (Nat × Value))) (fun ls hl => ?_)
  refine lv_iconst (v := iI 0) hx hb dX7_best_3 rfl ?_
  refine lv_istore hx hb dX7_best_4 hl (by decide) (rfl : _ = ([(5, .int (iI 0)), (4, .int (iI (-1))), (0, .ref h_p0), (1, .int a1), (2, .int a2), (3, .int a3)] : List (Nat × Value))) (fun ls hl => ?_)
  exact L6 n (iI (-1)) (iI 0) _ _ hP hD hS ls (lv_sub hl [2, 3, 4, 5, 1, 0] rfl) h
