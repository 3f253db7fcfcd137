def s_X7_book (n : Nat) (v_kept : Int32) (v_thrown : Int32) (v_one : Int32) (v_other : Int32) (v_change : Int32) (v_woken : Int32) (v_now : Nat → Int32) (v_past : Nat → Int32) (a1 : Int32) (a2 : Int32) (a3 : Int32) : Option (Int32 × Int32 × Int32 × Int32 × Int32 × Int32 × Int32 × (Nat → Int32) × (Nat → Int32)) := ((s_X7_isWay a1 a2).bind fun r1 => (if r1 = 0 then ((s_X7_fails (iI 0) (iI 1)).bind fun r23 => (some (r23.1, v_kept, r23.2, v_one, v_other, v_change, v_woken, v_now, v_past))) else (if gd (iI 6) 452 = true then (if (v_now (iI 6).toNatClampNeg) = iI 40 then ((s_X7_fails (iI 0) (iI 2)).bind fun r7 => (some (r7.1, v_kept, r7.2, v_one, v_other, v_change, v_woken, v_now, v_past))) else ((s_X7_finds n v_one v_other v_change v_woken v_now a1 a2 a3).bind fun r10 => (if r10.1 = 0 then ((s_X7_fails (iI 0) (iI 2)).bind fun r20 => (some (r20.1, v_kept, r20.2, r10.2.1, r10.2.2.1, r10.2.2.2.1, r10.2.2.2.2, v_now, v_past))) else ((s_X7_saves n v_kept v_now v_past).bind fun r14 => ((s_X7_comes n r10.2.1 r10.2.2.1 r10.2.2.2.1 v_now a1 a2 a3).bind fun r17 => (some (r17.1, r14.1, iI 0, r10.2.1, r10.2.2.1, r10.2.2.2.1, r10.2.2.2.2, r17.2, r14.2))))))) else none)))
set_option maxRecDepth 20000 in
theorem m_X7_book_0 : ∀ w ∈ u_ws RX7 TX7 15, w ∈ wsX7_book := by decide +kernel
set_option maxRecDepth 20000 in
theorem m_X7_book_1 : (.fieldLink RX7 25 "SleeperBerthsModel" "thrown" "I" : Cond) ∈ wsX7_book := by decide +kernel
set_option maxRecDepth 20000 in
theorem m_X7_book_2 : (.fieldLink RX7 7 "SleeperBerthsModel" "now" "[I" : Cond) ∈ wsX7_book := by decide +kernel
set_option maxHeartbeats 4000000 in
set_option maxRecDepth 100000 in
theorem c_X7_book (l : Launch) (dC : Nat → ClassId) (dI : Nat → Nat → Nat) (cyI cyJ cyT : ClassId) (h_p0 : Nat) (h_p0_now : Nat) (h_p0_then : Nat) (h_p0_past : Nat) (h_p0_text : Nat) (h_p0_told : Nat) (sz : Nat) (v_kept : Int32) (v_typed : Int32) (v_thrown : Int32) (v_at : Int32) (v_isFault : Int32) (v_tolds : Int32) (v_one : Int32) (v_other : Int32) (v_change : Int32) (v_woken : Int32) (v_now : Nat → Int32) (v_past : Nat → Int32) (a1 : Int32) (a2 : Int32) (a3 : Int32) (n : Nat) (o : Int32 × Int32 × Int32 × Int32 × Int32 × Int32 × Int32 × (Nat → Int32) × (Nat → Int32)) (h : s_X7_book n v_kept v_thrown v_one v_other v_change v_woken v_now v_past a1 a2 a3 = some o) : Met l yX7_book wsX7_book ({ frames := 6, cells := 0, slots := 0, locals := 146 }) (va_Pc [.ref h_p0, .int a1, .int a2, .int a3] (PRE (dC, dI) (TYS cyI cyJ cyT) sz [(h_p0, .inr (7, [.ref h_p0_now, .ref h_p0_then, .ref h_p0_past, .int v_kept, .ref h_p0_text, .int v_typed, .int v_thrown, .int v_at, .int v_isFault, .ref h_p0_told, .int v_tolds, .int v_one, .int v_other, .int v_change, .int v_woken])), (h_p0_now, .inl (cyI, 452, .inl v_now)), (h_p0_past, .inl (cyI, 2712, .inl v_past))])) (va_Qi (S := Unit) (fun r _ => r = o.1) (fun _ t => WLD (dC, dI) (va_A [(h_p0, .inr (7, [.ref h_p0_now, .ref h_p0_then, .ref h_p0_past, .int v_kept, .ref h_p0_text, .int v_typed, .int v_thrown, .int v_at, .int v_isFault, .ref h_p0_told, .int v_tolds, .int v_one, .int v_other, .int v_change, .int v_woken])), (h_p0_now, .inl (cyI, 452, .inl v_now)), (h_p0_past, .inl (cyI, 2712, .inl v_past))] sz) [(h_p0, .inr (7, [.ref h_p0_now, .ref h_p0_then, .ref h_p0_past, .int o.2.1, .ref h_p0_text, .int v_typed, .int o.2.2.1, .int v_at, .int v_isFault, .ref h_p0_told, .int v_tolds, .int o.2.2.2.1, .int o.2.2.2.2.1, .int o.2.2.2.2.2.1, .int o.2.2.2.2.2.2.1])), (h_p0_now, .inl (cyI, 452, .inl o.2.2.2.2.2.2.2.1)), (h_p0_past, .inl (cyI, 2712, .inl o.2.2.2.2.2.2.2.2))] t) (va_A [(h_p0, .inr (7, [.ref h_p0_now, .ref h_p0_then, .ref h_p0_past, .int v_kept, .ref h_p0_text, .int v_typed, .int v_thrown, .int v_at, .int v_isFault, .ref h_p0_told, .int v_tolds, .int v_one, .int v_other, .int v_change, .int v_woken])), (h_p0_now, .inl (cyI, 452, .inl v_now)), (h_p0_past, .inl (cyI, 2712, .inl v_past))] sz)) 0 0 (va_A [(h_p0, .inr (7, [.ref h_p0_now, .ref h_p0_then, .ref h_p0_past, .int v_kept, .ref h_p0_text, .int v_typed, .int v_thrown, .int v_at, .int v_isFault, .ref h_p0_told, .int v_tolds, .int v_one, .int v_other, .int v_change, .int v_woken])), (h_p0_now, .inl (cyI, 452, .inl v_now)), (h_p0_past, .inl (cyI, 2712, .inl v_past))] sz) := by
  refine Met.ofW (cc := cX7_book) (maxL := 4) (ret := (some .int)) (by decide) rfl ?_
  intro p e s m args below meth c s₁ B hml hv
  obtain ⟨rfl, hsz, hP, hK, hD0, hNW⟩ := hv
  have hx := B.exec
  have hb := B.bytes
  have hr := B.returns
  have hts := atoms_spec (ws := wsX7_book) B.pre
  have hown : s.vm.findClass RX7 = some m.cls := findClass_of_methodNamed B.named
  have hlocks := B.notSynchronized
  subst hsz
  have hD := hD0.self (sz := s.heap.size)
  generalize hAe : va_A [(h_p0, .inr (7, [.ref h_p0_now, .ref h_p0_then, .ref h_p0_past, .int v_kept, .ref h_p0_text, .int v_typed, .int v_thrown, .int v_at, .int v_isFault, .ref h_p0_told, .int v_tolds, .int v_one, .int v_other, .int v_change, .int v_woken])), (h_p0_now, .inl (cyI, 452, .inl v_now)), (h_p0_past, .inl (cyI, 2712, .inl v_past))] s.heap.size = A at hD ⊢
  have hA : ∀ q : Nat, s.heap.size ≤ q → A q := fun q h => by rw [← hAe]; exact Or.inr h
  have hS : va_S A s.heap s.heap [] := va_S.rf
  have hP : va_P (dC, dI) vwCl [(h_p0, .inr (7, [.ref h_p0_now, .ref h_p0_then, .ref h_p0_past, .int v_kept, .ref h_p0_text, .int v_typed, .int v_thrown, .int v_at, .int v_isFault, .ref h_p0_told, .int v_tolds, .int v_one, .int v_other, .int v_change, .int v_woken])), (h_p0_now, .inl (cyI, 452, .inl v_now)), (h_p0_past, .inl (cyI, 2712, .inl v_past))] s.heap := hP
  have hl := lv_entry ([.ref h_p0, .int a1, .int a2, .int a3]) (n := 4) (Nat.le_of_ble_eq_true rfl)
  rw [lg_entry_eq]
  generalize (lg_sl ([.ref h_p0, .int a1, .int a2, .int a3]) ++ List.replicate (4 - (lg_sl ([.ref h_p0, .int a1, .int a2, .int a3])).length) Slot.unset).toArray = ls at hl ⊢
  have hl : lv_has ls 4 [(0, .ref h_p0), (1, .int a1), (2, .int a2), (3, .int a3)] := hl
  unfold s_X7_book at h
  refine lv_aload_n hx hb dX7_book_0 rfl (lv_at hl 0 rfl) ?_
  refine lv_iconst (v := iI 0) hx hb dX7_book_1 rfl ?_
  refine va_put (D := (dC, dI)) (ci := 7) (v := .int (iI 0)) (ty := .int) (C := RX7) (T := TX7) (N := 15) hx hb hts m_X7_book_0 tyX7 tyX7_ok nmX7 hown hK hP hD hS 0 rfl rfl 6 (by decide) (hts (.fieldLink RX7 25 "SleeperBerthsModel" "thrown" "I") m_X7_book_1) (fun _ h9 => h9) rfl (by decide +kernel) rfl rfl (Nat.le_of_ble_eq_true rfl) dX7_book_2 (fun H locs hP hD hS => ?_)
  have hP : va_P (dC, dI) vwCl [(h_p0, .inr (7, [.ref h_p0_now, .ref h_p0_then, .ref h_p0_past, .int v_kept, .ref h_p0_text, .int v_typed, .int (iI 0), .int v_at, .int v_isFault, .ref h_p0_told, .int v_tolds, .int v_one, .int v_other, .int v_change, .int v_woken])), (h_p0_now, .inl (cyI, 452, .inl v_now)), (h_p0_past, .inl (cyI, 2712, .inl v_past))] H := hP
  have hD : va_D A [(h_p0, .inr (7, [.ref h_p0_now, .ref h_p0_then, .ref h_p0_past, .int v_kept, .ref h_p0_text, .int v_typed, .int (iI 0), .int v_at, .int v_isFault, .ref h_p0_told, .int v_tolds, .int v_one, .int v_other, .int v_change, .int v_woken])), (h_p0_now, .inl (cyI, 452, .inl v_now)), (h_p0_past, .inl (cyI, 2712, .inl v_past))] := hD
  refine lv_iload_n hx hb dX7_book_5 rfl (lv_at hl 1 rfl) ?_
  refine lv_iload_n hx hb dX7_book_6 rfl (lv_at hl 2 rfl) ?_
  obtain ⟨r1, e2, h⟩ := bsome h
  have hPc := sb_P [] hP [] rfl
  have hDc := sb_D [] hD [] (by decide) rfl
  have hFc := va_free (wc := []) hD hS hA [] rfl
  refine va_calli (va_runS (As := [.int a1, .int a2]) (rest := []) ⟨hx, hb, hml, hown, hts⟩ (c_X7_isWay l dC dI cyI cyJ cyT H.size a1 a2 r1 e2) (va_cwS 2 hts gX7_book_X7_isWay rfl rfl rfl (by decide +kernel) ⟨Nat.le_of_ble_eq_true rfl, Nat.le_of_ble_eq_true rfl⟩) ⟨PRE.blind, PRE.go hK hPc hDc hNW⟩ rfl rfl hl.1 rfl (lv_room (Nat.le_of_ble_eq_true rfl)) dX7_book_7 ⟨Nat.zero_le _, Nat.zero_le _⟩) hS (fun q _ h => hFc q h) hFc (fun z3 u t H locs ht hvm hw hB hz1 hk1 hS => ?_)
  subst z3
  obtain ⟨hP, hD⟩ := va_join (wr := [(h_p0, .inr (7, [.ref h_p0_now, .ref h_p0_then, .ref h_p0_past, .int v_kept, .ref h_p0_text, .int v_typed, .int (iI 0), .int v_at, .int v_isFault, .ref h_p0_told, .int v_tolds, .int v_one, .int v_other, .int v_change, .int v_woken])), (h_p0_now, .inl (cyI, 452, .inl v_now)), (h_p0_past, .inl (cyI, 2712, .inl v_past))]) (w1 := []) hP hD [] [0, 1, 2] rfl rfl (by decide) (by decide) hk1 hFc (WLD.P hB ht) hB.2
  have hP : va_P (dC, dI) vwCl [(h_p0, .inr (7, [.ref h_p0_now, .ref h_p0_then, .ref h_p0_past, .int v_kept, .ref h_p0_text, .int v_typed, .int (iI 0), .int v_at, .int v_isFault, .ref h_p0_told, .int v_tolds, .int v_one, .int v_other, .int v_change, .int v_woken])), (h_p0_now, .inl (cyI, 452, .inl v_now)), (h_p0_past, .inl (cyI, 2712, .inl v_past))] H := hP
  have hD : va_D A [(h_p0, .inr (7, [.ref h_p0_now, .ref h_p0_then, .ref h_p0_past, .int v_kept, .ref h_p0_text, .int v_typed, .int (iI 0), .int v_at, .int v_isFault, .ref h_p0_told, .int v_tolds, .int v_one, .int v_other, .int v_change, .int v_woken])), (h_p0_now, .inl (cyI, 452, .inl v_now)), (h_p0_past, .inl (cyI, 2712, .inl v_past))] := hD
  refine lv_if_ne (tgt := 19) hx hb dX7_book_10 (by decide) (fun c4 => ?_) (fun c4 => ?_)
  · have h := ineg c4 h
    refine lv_aload_n hx hb dX7_book_19 rfl (lv_at hl 0 rfl) ?_
    refine va_get (D := (dC, dI)) (ci := 7) (v := .ref h_p0_now) (C := RX7) (T := TX7) (N := 15) hx hb hts m_X7_book_0 hown hK hP 0 rfl rfl 0 (by decide) (hts (.fieldLink RX7 7 "SleeperBerthsModel" "now" "[I") m_X7_book_2) (fun _ h9 => h9) rfl dX7_book_20 ?_
    refine lv_bipush (v := iI 6) hx hb dX7_book_23 (by decide) ?_
    obtain ⟨g5, h⟩ := gsome h
    refine va_iald (D := (dC, dI)) hx hb hK hP 1 0 rfl rfl g5 dX7_book_25 ?_
    refine lv_bipush (v := iI 40) hx hb dX7_book_26 (by decide) ?_
    refine lv_icmp_eq (tgt := 45) hx hb dX7_book_28 (by decide) (fun c6 => ?_) (fun c6 => ?_)
    · have h := ipos c6 h
      refine lv_aload_n hx hb dX7_book_45 rfl (lv_at hl 0 rfl) ?_
      refine lv_iconst (v := iI 2) hx hb dX7_book_46 rfl ?_
      obtain ⟨r7, e8, h⟩ := bsome h
      have hPc := sb_P [(h_p0, .inr (7, [.ref h_p0_now, .ref h_p0_then, .ref h_p0_past, .int v_kept, .ref h_p0_text, .int v_typed, .int (iI 0), .int v_at, .int v_isFault, .ref h_p0_told, .int v_tolds, .int v_one, .int v_other, .int v_change, .int v_woken]))] hP [0] rfl
      have hDc := sb_D [(h_p0, .inr (7, [.ref h_p0_now, .ref h_p0_then, .ref h_p0_past, .int v_kept, .ref h_p0_text, .int v_typed, .int (iI 0), .int v_at, .int v_isFault, .ref h_p0_told, .int v_tolds, .int v_one, .int v_other, .int v_change, .int v_woken]))] hD [0] (by decide) rfl
      have hFc := va_free (wc := [(h_p0, .inr (7, [.ref h_p0_now, .ref h_p0_then, .ref h_p0_past, .int v_kept, .ref h_p0_text, .int v_typed, .int (iI 0), .int v_at, .int v_isFault, .ref h_p0_told, .int v_tolds, .int v_one, .int v_other, .int v_change, .int v_woken]))]) hD hS hA [0] rfl
      refine va_calli (va_runV (As := [.int (iI 2)]) (rest := []) ⟨hx, hb, hml, hown, hts⟩ (c_X7_fails l dC dI cyI cyJ cyT h_p0 h_p0_now h_p0_then h_p0_past h_p0_text h_p0_told H.size v_kept v_typed (iI 0) v_at v_isFault v_tolds v_one v_other v_change v_woken (iI 2) r7 e8) (cwV 1 hts gX7_book_X7_fails rfl rfl rfl (by decide +kernel) ⟨Nat.le_of_ble_eq_true rfl, Nat.le_of_ble_eq_true rfl⟩) ⟨PRE.blind, va_recv hK hPc (ci := 7) (q0 := 0) rfl rfl, PRE.go hK hPc hDc hNW⟩ rfl rfl hl.1 rfl (lv_room (Nat.le_of_ble_eq_true rfl)) dX7_book_47 ⟨Nat.zero_le _, Nat.zero_le _⟩) hS (fun q _ h => hFc q h) hFc (fun z9 u t H locs ht hvm hw hB hz1 hk1 hS => ?_)
      subst z9
      obtain ⟨hP, hD⟩ := va_join (wr := [(h_p0_now, .inl (cyI, 452, .inl v_now)), (h_p0_past, .inl (cyI, 2712, .inl v_past))]) (w1 := [(h_p0, .inr (7, [.ref h_p0_now, .ref h_p0_then, .ref h_p0_past, .int v_kept, .ref h_p0_text, .int v_typed, .int r7.2, .int v_at, .int v_isFault, .ref h_p0_told, .int v_tolds, .int v_one, .int v_other, .int v_change, .int v_woken]))]) hP hD [0] [1, 2] rfl rfl (by decide) (by decide) hk1 hFc (WLD.P hB ht) hB.2
      have hP : va_P (dC, dI) vwCl [(h_p0_now, .inl (cyI, 452, .inl v_now)), (h_p0_past, .inl (cyI, 2712, .inl v_past)), (h_p0, .inr (7, [.ref h_p0_now, .ref h_p0_then, .ref h_p0_past, .int v_kept, .ref h_p0_text, .int v_typed, .int r7.2, .int v_at, .int v_isFault, .ref h_p0_told, .int v_tolds, .int v_one, .int v_other, .int v_change, .int v_woken]))] H := hP
      have hD : va_D A [(h_p0_now, .inl (cyI, 452, .inl v_now)), (h_p0_past, .inl (cyI, 2712, .inl v_past)), (h_p0, .inr (7, [.ref h_p0_now, .ref h_p0_then, .ref h_p0_past, .int v_kept, .ref h_p0_text, .int v_typed, .int r7.2, .int v_at, .int v_isFault, .ref h_p0_told, .int v_tolds, .int v_one, .int v_other, .int v_change, .int v_woken]))] := hD
      obtain rfl := Option.some.inj h
      exact W.iret (v := r7.1) hx hb hr (fun t ht hW => ⟨⟨r7.1, (), rfl, rfl, WLD.of ht (sb_P [(h_p0, .inr (7, [.ref h_p0_now, .ref h_p0_then, .ref h_p0_past, .int v_kept, .ref h_p0_text, .int v_typed, .int r7.2, .int v_at, .int v_isFault, .ref h_p0_told, .int v_tolds, .int v_one, .int v_other, .int v_change, .int v_woken])), (h_p0_now, .inl (cyI, 452, .inl v_now)), (h_p0_past, .inl (cyI, 2712, .inl v_past))] hP [2, 0, 1] rfl) (sb_D [(h_p0, .inr (7, [.ref h_p0_now, .ref h_p0_then, .ref h_p0_past, .int v_kept, .ref h_p0_text, .int v_typed, .int r7.2, .int v_at, .int v_isFault, .ref h_p0_told, .int v_tolds, .int v_one, .int v_other, .int v_change, .int v_woken])), (h_p0_now, .inl (cyI, 452, .inl v_now)), (h_p0_past, .inl (cyI, 2712, .inl v_past))] hD [2, 0, 1] (by decide) rfl)⟩, hS.F ht⟩) hS.2.2 dX7_book_50
    · have h := ineg c6 h
      refine lv_aload_n hx hb dX7_book_31 rfl (lv_at hl 0 rfl) ?_
      refine lv_aload_n hx hb dX7_book_32 rfl (lv_at hl 0 rfl) ?_
      refine va_get (D := (dC, dI)) (ci := 7) (v := .ref h_p0_now) (C := RX7) (T := TX7) (N := 15) hx hb hts m_X7_book_0 hown hK hP 0 rfl rfl 0 (by decide) (hts (.fieldLink RX7 7 "SleeperBerthsModel" "now" "[I") m_X7_book_2) (fun _ h9 => h9) rfl dX7_book_33 ?_
      refine lv_iload_n hx hb dX7_book_36 rfl (lv_at hl 1 rfl) ?_
      refine lv_iload_n hx hb dX7_book_37 rfl (lv_at hl 2 rfl) ?_
      refine lv_iload_n hx hb dX7_book_38 rfl (lv_at hl 3 rfl) ?_
      obtain ⟨r10, e11, h⟩ := bsome h
      have hPc := sb_P [(h_p0, .inr (7, [.ref h_p0_now, .ref h_p0_then, .ref h_p0_past, .int v_kept, .ref h_p0_text, .int v_typed, .int (iI 0), .int v_at, .int v_isFault, .ref h_p0_told, .int v_tolds, .int v_one, .int v_other, .int v_change, .int v_woken])), (h_p0_now, .inl (cyI, 452, .inl v_now))] hP [0, 1] rfl
      have hDc := sb_D [(h_p0, .inr (7, [.ref h_p0_now, .ref h_p0_then, .ref h_p0_past, .int v_kept, .ref h_p0_text, .int v_typed, .int (iI 0), .int v_at, .int v_isFault, .ref h_p0_told, .int v_tolds, .int v_one, .int v_other, .int v_change, .int v_woken])), (h_p0_now, .inl (cyI, 452, .inl v_now))] hD [0, 1] (by decide) rfl
      have hFc := va_free (wc := [(h_p0, .inr (7, [.ref h_p0_now, .ref h_p0_then, .ref h_p0_past, .int v_kept, .ref h_p0_text, .int v_typed, .int (iI 0), .int v_at, .int v_isFault, .ref h_p0_told, .int v_tolds, .int v_one, .int v_other, .int v_change, .int v_woken])), (h_p0_now, .inl (cyI, 452, .inl v_now))]) hD hS hA [0, 1] rfl
      refine va_calli (va_runV (As := [.ref h_p0_now, .int a1, .int a2, .int a3]) (rest := []) ⟨hx, hb, hml, hown, hts⟩ (c_X7_finds l dC dI cyI cyJ cyT h_p0 h_p0_now h_p0_then h_p0_past h_p0_text h_p0_told h_p0_now H.size v_kept v_typed (iI 0) v_at v_isFault v_tolds v_one v_other v_change v_woken v_now a1 a2 a3 n r10 e11) (cwV 4 hts gX7_book_X7_finds rfl rfl rfl (by decide +kernel) ⟨Nat.le_of_ble_eq_true rfl, Nat.le_of_ble_eq_true rfl⟩) ⟨PRE.blind, va_recv hK hPc (ci := 7) (q0 := 0) rfl rfl, PRE.go hK hPc hDc hNW⟩ rfl rfl hl.1 rfl (lv_room (Nat.le_of_ble_eq_true rfl)) dX7_book_39 ⟨Nat.zero_le _, Nat.zero_le _⟩) hS (fun q _ h => hFc q h) hFc (fun z12 u t H locs ht hvm hw hB hz1 hk1 hS => ?_)
      subst z12
      obtain ⟨hP, hD⟩ := va_join (wr := [(h_p0_past, .inl (cyI, 2712, .inl v_past))]) (w1 := [(h_p0, .inr (7, [.ref h_p0_now, .ref h_p0_then, .ref h_p0_past, .int v_kept, .ref h_p0_text, .int v_typed, .int (iI 0), .int v_at, .int v_isFault, .ref h_p0_told, .int v_tolds, .int r10.2.1, .int r10.2.2.1, .int r10.2.2.2.1, .int r10.2.2.2.2])), (h_p0_now, .inl (cyI, 452, .inl v_now))]) hP hD [0, 1] [2] rfl rfl (by decide) (by decide) hk1 hFc (WLD.P hB ht) hB.2
      have hP : va_P (dC, dI) vwCl [(h_p0_past, .inl (cyI, 2712, .inl v_past)), (h_p0, .inr (7, [.ref h_p0_now, .ref h_p0_then, .ref h_p0_past, .int v_kept, .ref h_p0_text, .int v_typed, .int (iI 0), .int v_at, .int v_isFault, .ref h_p0_told, .int v_tolds, .int r10.2.1, .int r10.2.2.1, .int r10.2.2.2.1, .int r10.2.2.2.2])), (h_p0_now, .inl (cyI, 452, .inl v_now))] H := hP
      have hD : va_D A [(h_p0_past, .inl (cyI, 2712, .inl v_past)), (h_p0, .inr (7, [.ref h_p0_now, .ref h_p0_then, .ref h_p0_past, .int v_kept, .ref h_p0_text, .int v_typed, .int (iI 0), .int v_at, .int v_isFault, .ref h_p0_told, .int v_tolds, .int r10.2.1, .int r10.2.2.1, .int r10.2.2.2.1, .int r10.2.2.2.2])), (h_p0_now, .inl (cyI, 452, .inl v_now))] := hD
      refine lv_if_ne (tgt := 51) hx hb dX7_book_42 (by decide) (fun c13 => ?_) (fun c13 => ?_)
      · have h := ineg c13 h
        refine lv_aload_n hx hb dX7_book_51 rfl (lv_at hl 0 rfl) ?_
        obtain ⟨r14, e15, h⟩ := bsome h
        have hPc := sb_P [(h_p0, .inr (7, [.ref h_p0_now, .ref h_p0_then, .ref h_p0_past, .int v_kept, .ref h_p0_text, .int v_typed, .int (iI 0), .int v_at, .int v_isFault, .ref h_p0_told, .int v_tolds, .int r10.2.1, .int r10.2.2.1, .int r10.2.2.2.1, .int r10.2.2.2.2])), (h_p0_now, .inl (cyI, 452, .inl v_now)), (h_p0_past, .inl (cyI, 2712, .inl v_past))] hP [1, 2, 0] rfl
        have hDc := sb_D [(h_p0, .inr (7, [.ref h_p0_now, .ref h_p0_then, .ref h_p0_past, .int v_kept, .ref h_p0_text, .int v_typed, .int (iI 0), .int v_at, .int v_isFault, .ref h_p0_told, .int v_tolds, .int r10.2.1, .int r10.2.2.1, .int r10.2.2.2.1, .int r10.2.2.2.2])), (h_p0_now, .inl (cyI, 452, .inl v_now)), (h_p0_past, .inl (cyI, 2712, .inl v_past))] hD [1, 2, 0] (by decide) rfl
        have hFc := va_free (wc := [(h_p0, .inr (7, [.ref h_p0_now, .ref h_p0_then, .ref h_p0_past, .int v_kept, .ref h_p0_text, .int v_typed, .int (iI 0), .int v_at, .int v_isFault, .ref h_p0_told, .int v_tolds, .int r10.2.1, .int r10.2.2.1, .int r10.2.2.2.1, .int r10.2.2.2.2])), (h_p0_now, .inl (cyI, 452, .inl v_now)), (h_p0_past, .inl (cyI, 2712, .inl v_past))]) hD hS hA [1, 2, 0] rfl
        refine va_callv (va_runV (As := []) (rest := []) ⟨hx, hb, hml, hown, hts⟩ (c_X7_saves l dC dI cyI cyJ cyT h_p0 h_p0_now h_p0_then h_p0_past h_p0_text h_p0_told H.size v_kept v_typed (iI 0) v_at v_isFault v_tolds r10.2.1 r10.2.2.1 r10.2.2.2.1 r10.2.2.2.2 v_now v_past n r14 e15) (cwV 0 hts gX7_book_X7_saves rfl rfl rfl (by decide +kernel) ⟨Nat.le_of_ble_eq_true rfl, Nat.le_of_ble_eq_true rfl⟩) ⟨PRE.blind, va_recv hK hPc (ci := 7) (q0 := 0) rfl rfl, PRE.go hK hPc hDc hNW⟩ rfl rfl hl.1 rfl (lv_room (Nat.le_of_ble_eq_true rfl)) dX7_book_52 ⟨Nat.zero_le _, Nat.zero_le _⟩) hS (fun q _ h => hFc q h) hFc (fun u t H locs ht hvm hw hB hz1 hk1 hS => ?_)
        obtain ⟨hP, hD⟩ := va_join (wr := []) (w1 := [(h_p0, .inr (7, [.ref h_p0_now, .ref h_p0_then, .ref h_p0_past, .int r14.1, .ref h_p0_text, .int v_typed, .int (iI 0), .int v_at, .int v_isFault, .ref h_p0_told, .int v_tolds, .int r10.2.1, .int r10.2.2.1, .int r10.2.2.2.1, .int r10.2.2.2.2])), (h_p0_now, .inl (cyI, 452, .inl v_now)), (h_p0_past, .inl (cyI, 2712, .inl r14.2))]) hP hD [1, 2, 0] [] rfl rfl (by decide) (by decide) hk1 hFc (WLD.P hB ht) hB.2
        have hP : va_P (dC, dI) vwCl [(h_p0, .inr (7, [.ref h_p0_now, .ref h_p0_then, .ref h_p0_past, .int r14.1, .ref h_p0_text, .int v_typed, .int (iI 0), .int v_at, .int v_isFault, .ref h_p0_told, .int v_tolds, .int r10.2.1, .int r10.2.2.1, .int r10.2.2.2.1, .int r10.2.2.2.2])), (h_p0_now, .inl (cyI, 452, .inl v_now)), (h_p0_past, .inl (cyI, 2712, .inl r14.2))] H := hP
        have hD : va_D A [(h_p0, .inr (7, [.ref h_p0_now, .ref h_p0_then, .ref h_p0_past, .int r14.1, .ref h_p0_text, .int v_typed, .int (iI 0), .int v_at, .int v_isFault, .ref h_p0_told, .int v_tolds, .int r10.2.1, .int r10.2.2.1, .int r10.2.2.2.1, .int r10.2.2.2.2])), (h_p0_now, .inl (cyI, 452, .inl v_now)), (h_p0_past, .inl (cyI, 2712, .inl r14.2))] := hD
        refine lv_aload_n hx hb dX7_book_55 rfl (lv_at hl 0 rfl) ?_
        refine lv_iload_n hx hb dX7_book_56 rfl (lv_at hl 1 rfl) ?_
        refine lv_iload_n hx hb dX7_book_57 rfl (lv_at hl 2 rfl) ?_
        refine lv_iload_n hx hb dX7_book_58 rfl (lv_at hl 3 rfl) ?_
        obtain ⟨r17, e18, h⟩ := bsome h
        have hPc := sb_P [(h_p0, .inr (7, [.ref h_p0_now, .ref h_p0_then, .ref h_p0_past, .int r14.1, .ref h_p0_text, .int v_typed, .int (iI 0), .int v_at, .int v_isFault, .ref h_p0_told, .int v_tolds, .int r10.2.1, .int r10.2.2.1, .int r10.2.2.2.1, .int r10.2.2.2.2])), (h_p0_now, .inl (cyI, 452, .inl v_now))] hP [0, 1] rfl
        have hDc := sb_D [(h_p0, .inr (7, [.ref h_p0_now, .ref h_p0_then, .ref h_p0_past, .int r14.1, .ref h_p0_text, .int v_typed, .int (iI 0), .int v_at, .int v_isFault, .ref h_p0_told, .int v_tolds, .int r10.2.1, .int r10.2.2.1, .int r10.2.2.2.1, .int r10.2.2.2.2])), (h_p0_now, .inl (cyI, 452, .inl v_now))] hD [0, 1] (by decide) rfl
        have hFc := va_free (wc := [(h_p0, .inr (7, [.ref h_p0_now, .ref h_p0_then, .ref h_p0_past, .int r14.1, .ref h_p0_text, .int v_typed, .int (iI 0), .int v_at, .int v_isFault, .ref h_p0_told, .int v_tolds, .int r10.2.1, .int r10.2.2.1, .int r10.2.2.2.1, .int r10.2.2.2.2])), (h_p0_now, .inl (cyI, 452, .inl v_now))]) hD hS hA [0, 1] rfl
        refine va_calli (va_runV (As := [.int a1, .int a2, .int a3]) (rest := []) ⟨hx, hb, hml, hown, hts⟩ (c_X7_comes l dC dI cyI cyJ cyT h_p0 h_p0_now h_p0_then h_p0_past h_p0_text h_p0_told H.size r14.1 v_typed (iI 0) v_at v_isFault v_tolds r10.2.1 r10.2.2.1 r10.2.2.2.1 r10.2.2.2.2 v_now a1 a2 a3 n r17 e18) (cwV 3 hts gX7_book_X7_comes rfl rfl rfl (by decide +kernel) ⟨Nat.le_of_ble_eq_true rfl, Nat.le_of_ble_eq_true rfl⟩) ⟨PRE.blind, va_recv hK hPc (ci := 7) (q0 := 0) rfl rfl, PRE.go hK hPc hDc hNW⟩ rfl rfl hl.1 rfl (lv_room (Nat.le_of_ble_eq_true rfl)) dX7_book_59 ⟨Nat.zero_le _, Nat.zero_le _⟩) hS (fun q _ h => hFc q h) hFc (fun z19 u t H locs ht hvm hw hB hz1 hk1 hS => ?_)
        subst z19
        obtain ⟨hP, hD⟩ := va_join (wr := [(h_p0_past, .inl (cyI, 2712, .inl r14.2))]) (w1 := [(h_p0, .inr (7, [.ref h_p0_now, .ref h_p0_then, .ref h_p0_past, .int r14.1, .ref h_p0_text, .int v_typed, .int (iI 0), .int v_at, .int v_isFault, .ref h_p0_told, .int v_tolds, .int r10.2.1, .int r10.2.2.1, .int r10.2.2.2.1, .int r10.2.2.2.2])), (h_p0_now, .inl (cyI, 452, .inl r17.2))]) hP hD [0, 1] [2] rfl rfl (by decide) (by decide) hk1 hFc (WLD.P hB ht) hB.2
        have hP : va_P (dC, dI) vwCl [(h_p0_past, .inl (cyI, 2712, .inl r14.2)), (h_p0, .inr (7, [.ref h_p0_now, .ref h_p0_then, .ref h_p0_past, .int r14.1, .ref h_p0_text, .int v_typed, .int (iI 0), .int v_at, .int v_isFault, .ref h_p0_told, .int v_tolds, .int r10.2.1, .int r10.2.2.1, .int r10.2.2.2.1, .int r10.2.2.2.2])), (h_p0_now, .inl (cyI, 452, .inl r17.2))] H := hP
        have hD : va_D A [(h_p0_past, .inl (cyI, 2712, .inl r14.2)), (h_p0, .inr (7, [.ref h_p0_now, .ref h_p0_then, .ref h_p0_past, .int r14.1, .ref h_p0_text, .int v_typed, .int (iI 0), .int v_at, .int v_isFault, .ref h_p0_told, .int v_tolds, .int r10.2.1, .int r10.2.2.1, .int r10.2.2.2.1, .int r10.2.2.2.2])), (h_p0_now, .inl (cyI, 452, .inl r17.2))] := hD
        obtain rfl := Option.some.inj h
        exact W.iret (v := r17.1) hx hb hr (fun t ht hW => ⟨⟨r17.1, (), rfl, rfl, WLD.of ht (sb_P [(h_p0, .inr (7, [.ref h_p0_now, .ref h_p0_then, .ref h_p0_past, .int r14.1, .ref h_p0_text, .int v_typed, .int (iI 0), .int v_at, .int v_isFault, .ref h_p0_told, .int v_tolds, .int r10.2.1, .int r10.2.2.1, .int r10.2.2.2.1, .int r10.2.2.2.2])), (h_p0_now, .inl (cyI, 452, .inl r17.2)), (h_p0_past, .inl (cyI, 2712, .inl r14.2))] hP [1, 2, 0] rfl) (sb_D [(h_p0, .inr (7, [.ref h_p0_now, .ref h_p0_then, .ref h_p0_past, .int r14.1, .ref h_p0_text, .int v_typed, .int (iI 0), .int v_at, .int v_isFault, .ref h_p0_told, .int v_tolds, .int r10.2.1, .int r10.2.2.1, .int r10.2.2.2.1, .int r10.2.2.2.2])), (h_p0_now, .inl (cyI, 452, .inl r17.2)), (h_p0_past, .inl (cyI, 2712, .inl r14.2))] hD [1, 2, 0] (by decide) rfl)⟩, hS.F ht⟩) hS.2.2 dX7_book_62
      · have h := ipos c13 h
        refine lv_aload_n hx hb dX7_book_45 rfl (lv_at hl 0 rfl) ?_
        refine lv_iconst (v := iI 2) hx hb dX7_book_46 rfl ?_
        obtain ⟨r20, e21, h⟩ := bsome h
        have hPc := sb_P [(h_p0, .inr (7, [.ref h_p0_now, .ref h_p0_then, .ref h_p0_past, .int v_kept, .ref h_p0_text, .int v_typed, .int (iI 0), .int v_at, .int v_isFault, .ref h_p0_told, .int v_tolds, .int r10.2.1, .int r10.2.2.1, .int r10.2.2.2.1, .int r10.2.2.2.2]))] hP [1] rfl
        have hDc := sb_D [(h_p0, .inr (7, [.ref h_p0_now, .ref h_p0_then, .ref h_p0_past, .int v_kept, .ref h_p0_text, .int v_typed, .int (iI 0), .int v_at, .int v_isFault, .ref h_p0_told, .int v_tolds, .int r10.2.1, .int r10.2.2.1, .int r10.2.2.2.1, .int r10.2.2.2.2]))] hD [1] (by decide) rfl
        have hFc := va_free (wc := [(h_p0, .inr (7, [.ref h_p0_now, .ref h_p0_then, .ref h_p0_past, .int v_kept, .ref h_p0_text, .int v_typed, .int (iI 0), .int v_at, .int v_isFault, .ref h_p0_told, .int v_tolds, .int r10.2.1, .int r10.2.2.1, .int r10.2.2.2.1, .int r10.2.2.2.2]))]) hD hS hA [1] rfl
        refine va_calli (va_runV (As := [.int (iI 2)]) (rest := []) ⟨hx, hb, hml, hown, hts⟩ (c_X7_fails l dC dI cyI cyJ cyT h_p0 h_p0_now h_p0_then h_p0_past h_p0_text h_p0_told H.size v_kept v_typed (iI 0) v_at v_isFault v_tolds r10.2.1 r10.2.2.1 r10.2.2.2.1 r10.2.2.2.2 (iI 2) r20 e21) (cwV 1 hts gX7_book_X7_fails rfl rfl rfl (by decide +kernel) ⟨Nat.le_of_ble_eq_true rfl, Nat.le_of_ble_eq_true rfl⟩) ⟨PRE.blind, va_recv hK hPc (ci := 7) (q0 := 0) rfl rfl, PRE.go hK hPc hDc hNW⟩ rfl rfl hl.1 rfl (lv_room (Nat.le_of_ble_eq_true rfl)) dX7_book_47 ⟨Nat.zero_le _, Nat.zero_le _⟩) hS (fun q _ h => hFc q h) hFc (fun z22 u t H locs ht hvm hw hB hz1 hk1 hS => ?_)
        subst z22
        obtain ⟨hP, hD⟩ := va_join (wr := [(h_p0_past, .inl (cyI, 2712, .inl v_past)), (h_p0_now, .inl (cyI, 452, .inl v_now))]) (w1 := [(h_p0, .inr (7, [.ref h_p0_now, .ref h_p0_then, .ref h_p0_past, .int v_kept, .ref h_p0_text, .int v_typed, .int r20.2, .int v_at, .int v_isFault, .ref h_p0_told, .int v_tolds, .int r10.2.1, .int r10.2.2.1, .int r10.2.2.2.1, .int r10.2.2.2.2]))]) hP hD [1] [0, 2] rfl rfl (by decide) (by decide) hk1 hFc (WLD.P hB ht) hB.2
        have hP : va_P (dC, dI) vwCl [(h_p0_past, .inl (cyI, 2712, .inl v_past)), (h_p0_now, .inl (cyI, 452, .inl v_now)), (h_p0, .inr (7, [.ref h_p0_now, .ref h_p0_then, .ref h_p0_past, .int v_kept, .ref h_p0_text, .int v_typed, .int r20.2, .int v_at, .int v_isFault, .ref h_p0_told, .int v_tolds, .int r10.2.1, .int r10.2.2.1, .int r10.2.2.2.1, .int r10.2.2.2.2]))] H := hP
        have hD : va_D A [(h_p0_past, .inl (cyI, 2712, .inl v_past)), (h_p0_now, .inl (cyI, 452, .inl v_now)), (h_p0, .inr (7, [.ref h_p0_now, .ref h_p0_then, .ref h_p0_past, .int v_kept, .ref h_p0_text, .int v_typed, .int r20.2, .int v_at, .int v_isFault, .ref h_p0_told, .int v_tolds, .int r10.2.1, .int r10.2.2.1, .int r10.2.2.2.1, .int r10.2.2.2.2]))] := hD
        obtain rfl := Option.some.inj h
        exact W.iret (v := r20.1) hx hb hr (fun t ht hW => ⟨⟨r20.1, (), rfl, rfl, WLD.of ht (sb_P [(h_p0, .inr (7, [.ref h_p0_now, .ref h_p0_then, .ref h_p0_past, .int v_kept, .ref h_p0_text, .int v_typed, .int r20.2, .int v_at, .int v_isFault, .ref h_p0_told, .int v_tolds, .int r10.2.1, .int r10.2.2.1, .int r10.2.2.2.1, .int r10.2.2.2.2])), (h_p0_now, .inl (cyI, 452, .inl v_now)), (h_p0_past, .inl (cyI, 2712, .inl v_past))] hP [2, 1, 0] rfl) (sb_D [(h_p0, .inr (7, [.ref h_p0_now, .ref h_p0_then, .ref h_p0_past, .int v_kept, .ref h_p0_text, .int v_typed, .int r20.2, .int v_at, .int v_isFault, .ref h_p0_told, .int v_tolds, .int r10.2.1, .int r10.2.2.1, .int r10.2.2.2.1, .int r10.2.2.2.2])), (h_p0_now, .inl (cyI, 452, .inl v_now)), (h_p0_past, .inl (cyI, 2712, .inl v_past))] hD [2, 1, 0] (by decide) rfl)⟩, hS.F ht⟩) hS.2.2 dX7_book_50
  · have h := ipos c4 h
    refine lv_aload_n hx hb dX7_book_13 rfl (lv_at hl 0 rfl) ?_
    refine lv_iconst (v := iI 1) hx hb dX7_book_14 rfl ?_
    obtain ⟨r23, e24, h⟩ := bsome h
    have hPc := sb_P [(h_p0, .inr (7, [.ref h_p0_now, .ref h_p0_then, .ref h_p0_past, .int v_kept, .ref h_p0_text, .int v_typed, .int (iI 0), .int v_at, .int v_isFault, .ref h_p0_told, .int v_tolds, .int v_one, .int v_other, .int v_change, .int v_woken]))] hP [0] rfl
    have hDc := sb_D [(h_p0, .inr (7, [.ref h_p0_now, .ref h_p0_then, .ref h_p0_past, .int v_kept, .ref h_p0_text, .int v_typed, .int (iI 0), .int v_at, .int v_isFault, .ref h_p0_told, .int v_tolds, .int v_one, .int v_other, .int v_change, .int v_woken]))] hD [0] (by decide) rfl
    have hFc := va_free (wc := [(h_p0, .inr (7, [.ref h_p0_now, .ref h_p0_then, .ref h_p0_past, .int v_kept, .ref h_p0_text, .int v_typed, .int (iI 0), .int v_at, .int v_isFault, .ref h_p0_told, .int v_tolds, .int v_one, .int v_other, .int v_change, .int v_woken]))]) hD hS hA [0] rfl
    refine va_calli (va_runV (As := [.int (iI 1)]) (rest := []) ⟨hx, hb, hml, hown, hts⟩ (c_X7_fails l dC dI cyI cyJ cyT h_p0 h_p0_now h_p0_then h_p0_past h_p0_text h_p0_told H.size v_kept v_typed (iI 0) v_at v_isFault v_tolds v_one v_other v_change v_woken (iI 1) r23 e24) (cwV 1 hts gX7_book_X7_fails rfl rfl rfl (by decide +kernel) ⟨Nat.le_of_ble_eq_true rfl, Nat.le_of_ble_eq_true rfl⟩) ⟨PRE.blind, va_recv hK hPc (ci := 7) (q0 := 0) rfl rfl, PRE.go hK hPc hDc hNW⟩ rfl rfl hl.1 rfl (lv_room (Nat.le_of_ble_eq_true rfl)) dX7_book_15 ⟨Nat.zero_le _, Nat.zero_le _⟩) hS (fun q _ h => hFc q h) hFc (fun z25 u t H locs ht hvm hw hB hz1 hk1 hS => ?_)
    subst z25
    obtain ⟨hP, hD⟩ := va_join (wr := [(h_p0_now, .inl (cyI, 452, .inl v_now)), (h_p0_past, .inl (cyI, 2712, .inl v_past))]) (w1 := [(h_p0, .inr (7, [.ref h_p0_now, .ref h_p0_then, .ref h_p0_past, .int v_kept, .ref h_p0_text, .int v_typed, .int r23.2, .int v_at, .int v_isFault, .ref h_p0_told, .int v_tolds, .int v_one, .int v_other, .int v_change, .int v_woken]))]) hP hD [0] [1, 2] rfl rfl (by decide) (by decide) hk1 hFc (WLD.P hB ht) hB.2
    have hP : va_P (dC, dI) vwCl [(h_p0_now, .inl (cyI, 452, .inl v_now)), (h_p0_past, .inl (cyI, 2712, .inl v_past)), (h_p0, .inr (7, [.ref h_p0_now, .ref h_p0_then, .ref h_p0_past, .int v_kept, .ref h_p0_text, .int v_typed, .int r23.2, .int v_at, .int v_isFault, .ref h_p0_told, .int v_tolds, .int v_one, .int v_other, .int v_change, .int v_woken]))] H := hP
    have hD : va_D A [(h_p0_now, .inl (cyI, 452, .inl v_now)), (h_p0_past, .inl (cyI, 2712, .inl v_past)), (h_p0, .inr (7, [.ref h_p0_now, .ref h_p0_then, .ref h_p0_past, .int v_kept, .ref h_p0_text, .int v_typed, .int r23.2, .int v_at, .int v_isFault, .ref h_p0_told, .int v_tolds, .int v_one, .int v_other, .int v_change, .int v_woken]))] := hD
    obtain rfl := Option.some.inj h
    exact W.iret (v := r23.1) hx hb hr (fun t ht hW => ⟨⟨r23.1, (), rfl, rfl, WLD.of ht (sb_P [(h_p0, .inr (7, [.ref h_p0_now, .ref h_p0_then, .ref h_p0_past, .int v_kept, .ref h_p0_text, .int v_typed, .int r23.2, .int v_at, .int v_isFault, .ref h_p0_told, .int v_tolds, .int v_one, .int v_other, .int v_change, .int v_woken])), (h_p0_now, .inl (cyI, 452, .inl v_now)), (h_p0_past, .inl (cyI, 2712, .inl v_past))] hP [2, 0, 1] rfl) (sb_D [(h_p0, .inr (7, [.ref h_p0_now, .ref h_p0_then, .ref h_p0_past, .int v_kept, .ref h_p0_text, .int v_typed, .int r23.2, .int v_at, .int v_isFault, .ref h_p0_told, .int v_tolds, .int v_one, .int v_other, .int v_change, .int v_woken])), (h_p0_now, .inl (cyI, 452, .inl v_now)), (h_p0_past, .inl (cyI, 2712, .inl v_past))] hD [2, 0, 1] (by decide) rfl)⟩, hS.F ht⟩) hS.2.2 dX7_book_18
def s_X7_cancel_L66 (n : Nat) : Nat → Int32 → Int32 → (Nat → Int32) → (Nat → Int32) → Int32 → Int32 → Option (Int32 × Int32 × Int32 × (Nat → Int32) × (Nat → Int32))
  | 0, _, _, _, _, _, _ => none
  | k + 1, v_kept, v_thrown, v_now, v_past, x3, x4 => (if gd (iI 6) 452 = true then (if (iI 10 + (iI 7 * (v_now (iI 6).toNatClampNeg))) ≤ x4 then (some (x3, v_kept, v_thrown, v_now, v_past)) else (if gd (x4 + iI 7) 452 = true then (if gd x4 452 = true then (s_X7_cancel_L66 n k v_kept v_thrown (upd v_now x4.toNatClampNeg (v_now (x4 + iI 7).toNatClampNeg)) v_past x3 (x4 + iI 1)) else none) else none)) else none)
def s_X7_cancel (n : Nat) (v_kept : Int32) (v_thrown : Int32) (v_now : Nat → Int32) (v_past : Nat → Int32) (a1 : Int32) : Option (Int32 × Int32 × Int32 × (Nat → Int32) × (Nat → Int32)) := ((s_X7_placeOf n v_now a1).bind fun r5 => (if r5 = iI (-1) then ((s_X7_fails (iI 0) (iI 1)).bind fun r20 => (some (r20.1, v_kept, r20.2, v_now, v_past))) else ((s_X7_saves n v_kept v_now v_past).bind fun r9 => ((s_X7_tip n v_now r5).bind fun r12 => ((s_X7_frees n v_now a1).bind fun r15 => (if gd (iI 6) 452 = true then (if gd (iI 6) 452 = true then (s_X7_cancel_L66 n n r9.1 (iI 0) (upd r15 (iI 6).toNatClampNeg ((r15 (iI 6).toNatClampNeg) - iI 1)) r9.2 r12 (iI 10 + (iI 7 * r5))) else none) else none))))))
set_option maxRecDepth 20000 in
theorem m_X7_cancel_0 : ∀ w ∈ u_ws RX7 TX7 15, w ∈ wsX7_cancel := by decide +kernel
set_option maxRecDepth 20000 in
theorem m_X7_cancel_1 : (.fieldLink RX7 7 "SleeperBerthsModel" "now" "[I" : Cond) ∈ wsX7_cancel := by decide +kernel
set_option maxRecDepth 20000 in
theorem m_X7_cancel_2 : (.fieldLink RX7 25 "SleeperBerthsModel" "thrown" "I" : Cond) ∈ wsX7_cancel := by decide +kernel
set_option maxHeartbeats 4000000 in
set_option maxRecDepth 100000 in
theorem c_X7_cancel (l : Launch) (dC : Nat → ClassId) (dI : Nat → Nat → Nat) (cyI cyJ cyT : ClassId) (h_p0 : Nat) (h_p0_now : Nat) (h_p0_then : Nat) (h_p0_past : Nat) (h_p0_text : Nat) (h_p0_told : Nat) (sz : Nat) (v_kept : Int32) (v_typed : Int32) (v_thrown : Int32) (v_at : Int32) (v_isFault : Int32) (v_tolds : Int32) (v_one : Int32) (v_other : Int32) (v_change : Int32) (v_woken : Int32) (v_now : Nat → Int32) (v_past : Nat → Int32) (a1 : Int32) (n : Nat) (o : Int32 × Int32 × Int32 × (Nat → Int32) × (Nat → Int32)) (h : s_X7_cancel n v_kept v_thrown v_now v_past a1 = some o) : Met l yX7_cancel wsX7_cancel ({ frames := 4, cells := 0, slots := 0, locals := 92 }) (va_Pc [.ref h_p0, .int a1] (PRE (dC, dI) (TYS cyI cyJ cyT) sz [(h_p0, .inr (7, [.ref h_p0_now, .ref h_p0_then, .ref h_p0_past, .int v_kept, .ref h_p0_text, .int v_typed, .int v_thrown, .int v_at, .int v_isFault, .ref h_p0_told, .int v_tolds, .int v_one, .int v_other, .int v_change, .int v_woken])), (h_p0_now, .inl (cyI, 452, .inl v_now)), (h_p0_past, .inl (cyI, 2712, .inl v_past))])) (va_Qi (S := Unit) (fun r _ => r = o.1) (fun _ t => WLD (dC, dI) (va_A [(h_p0, .inr (7, [.ref h_p0_now, .ref h_p0_then, .ref h_p0_past, .int v_kept, .ref h_p0_text, .int v_typed, .int v_thrown, .int v_at, .int v_isFault, .ref h_p0_told, .int v_tolds, .int v_one, .int v_other, .int v_change, .int v_woken])), (h_p0_now, .inl (cyI, 452, .inl v_now)), (h_p0_past, .inl (cyI, 2712, .inl v_past))] sz) [(h_p0, .inr (7, [.ref h_p0_now, .ref h_p0_then, .ref h_p0_past, .int o.2.1, .ref h_p0_text, .int v_typed, .int o.2.2.1, .int v_at, .int v_isFault, .ref h_p0_told, .int v_tolds, .int v_one, .int v_other, .int v_change, .int v_woken])), (h_p0_now, .inl (cyI, 452, .inl o.2.2.2.1)), (h_p0_past, .inl (cyI, 2712, .inl o.2.2.2.2))] t) (va_A [(h_p0, .inr (7, [.ref h_p0_now, .ref h_p0_then, .ref h_p0_past, .int v_kept, .ref h_p0_text, .int v_typed, .int v_thrown, .int v_at, .int v_isFault, .ref h_p0_told, .int v_tolds, .int v_one, .int v_other, .int v_change, .int v_woken])), (h_p0_now, .inl (cyI, 452, .inl v_now)), (h_p0_past, .inl (cyI, 2712, .inl v_past))] sz)) 0 0 (va_A [(h_p0, .inr (7, [.ref h_p0_now, .ref h_p0_then, .ref h_p0_past, .int v_kept, .ref h_p0_text, .int v_typed, .int v_thrown, .int v_at, .int v_isFault, .ref h_p0_told, .int v_tolds, .int v_one, .int v_other, .int v_change, .int v_woken])), (h_p0_now, .inl (cyI, 452, .inl v_now)), (h_p0_past, .inl (cyI, 2712, .inl v_past))] sz) := by
  refine Met.ofW (cc := cX7_cancel) (maxL := 5) (ret := (some .int)) (by decide) rfl ?_
  intro p e s m args below meth c s₁ B hml hv
  obtain ⟨rfl, hsz, hP, hK, hD0, hNW⟩ := hv
  have hx := B.exec
  have hb := B.bytes
  have hr := B.returns
  have hts := atoms_spec (ws := wsX7_cancel) B.pre
  have hown : s.vm.findClass RX7 = some m.cls := findClass_of_methodNamed B.named
  have hlocks := B.notSynchronized
  subst hsz
  have hD := hD0.self (sz := s.heap.size)
  generalize hAe : va_A [(h_p0, .inr (7, [.ref h_p0_now, .ref h_p0_then, .ref h_p0_past, .int v_kept, .ref h_p0_text, .int v_typed, .int v_thrown, .int v_at, .int v_isFault, .ref h_p0_told, .int v_tolds, .int v_one, .int v_other, .int v_change, .int v_woken])), (h_p0_now, .inl (cyI, 452, .inl v_now)), (h_p0_past, .inl (cyI, 2712, .inl v_past))] s.heap.size = A at hD ⊢
  have hA : ∀ q : Nat, s.heap.size ≤ q → A q := fun q h => by rw [← hAe]; exact Or.inr h
  have hS : va_S A s.heap s.heap [] := va_S.rf
  have hP : va_P (dC, dI) vwCl [(h_p0, .inr (7, [.ref h_p0_now, .ref h_p0_then, .ref h_p0_past, .int v_kept, .ref h_p0_text, .int v_typed, .int v_thrown, .int v_at, .int v_isFault, .ref h_p0_told, .int v_tolds, .int v_one, .int v_other, .int v_change, .int v_woken])), (h_p0_now, .inl (cyI, 452, .inl v_now)), (h_p0_past, .inl (cyI, 2712, .inl v_past))] s.heap := hP
  have L66 : ∀ (k : Nat), (∀ (v_kept : Int32) (v_thrown : Int32) (v_now : Nat → Int32) (v_past : Nat → Int32) (x3 : Int32) (x4 : Int32) (H : Heap) (locs : List Loc), va_P (dC, dI) vwCl [(h_p0, .inr (7, [.ref h_p0_now, .ref h_p0_then, .ref h_p0_past, .int v_kept, .ref h_p0_text, .int v_typed, .int v_thrown, .int v_at, .int v_isFault, .ref h_p0_told, .int v_tolds, .int v_one, .int v_other, .int v_change, .int v_woken])), (h_p0_now, .inl (cyI, 452, .inl v_now)), (h_p0_past, .inl (cyI, 2712, .inl v_past))] H → va_D A [(h_p0, .inr (7, [.ref h_p0_now, .ref h_p0_then, .ref h_p0_past, .int v_kept, .ref h_p0_text, .int v_typed, .int v_thrown, .int v_at, .int v_isFault, .ref h_p0_told, .int v_tolds, .int v_one, .int v_other, .int v_change, .int v_woken])), (h_p0_now, .inl (cyI, 452, .inl v_now)), (h_p0_past, .inl (cyI, 2712, .inl v_past))] → va_S A s.heap H locs → ∀ (ls : Array Slot), lv_has ls 5 [(0, .ref h_p0), (3, .int x3), (4, .int x4)] →  s_X7_cancel_L66 n k v_kept v_thrown v_now v_past x3 x4 = some o → W p l e (headSpec wsX7_cancel ({ frames := 4, cells := 0, slots := 0, locals := 92 })).room s m (([.ref h_p0, .int a1] : List Value).toArray) below meth c H locs 0 0 (MQ below (va_Qi (S := Unit) (fun r _ => r = o.1) (fun _ t => WLD (dC, dI) A [(h_p0, .inr (7, [.ref h_p0_now, .ref h_p0_then, .ref h_p0_past, .int o.2.1, .ref h_p0_text, .int v_typed, .int o.2.2.1, .int v_at, .int v_isFault, .ref h_p0_told, .int v_tolds, .int v_one, .int v_other, .int v_change, .int v_woken])), (h_p0_now, .inl (cyI, 452, .inl o.2.2.2.1)), (h_p0_past, .inl (cyI, 2712, .inl o.2.2.2.2))] t) A) (([.ref h_p0, .int a1] : List Value).toArray) s 0 0 A) (F0 m 66 ls [])) := by
    intro k
    induction k with
    | zero =>
      intro  v_kept v_thrown v_now v_past x3 x4 H locs hP hD hS ls hl h
      rw [s_X7_cancel_L66] at h
      cases h
    | succ k ih =>
      intro  v_kept v_thrown v_now v_past x3 x4 H locs hP hD hS ls hl h
      rw [s_X7_cancel_L66] at h
      refine lv_iload hx hb dX7_cancel_66 (lv_at hl 2 rfl) ?_
      refine lv_bipush (v := iI 10) hx hb dX7_cancel_68 (by decide) ?_
      refine lv_bipush (v := iI 7) hx hb dX7_cancel_70 (by decide) ?_
      refine lv_aload_n hx hb dX7_cancel_72 rfl (lv_at hl 0 rfl) ?_
      refine va_get (D := (dC, dI)) (ci := 7) (v := .ref h_p0_now) (C := RX7) (T := TX7) (N := 15) hx hb hts m_X7_cancel_0 hown hK hP 0 rfl rfl 0 (by decide) (hts (.fieldLink RX7 7 "SleeperBerthsModel" "now" "[I") m_X7_cancel_1) (fun _ h9 => h9) rfl dX7_cancel_73 ?_
      refine lv_bipush (v := iI 6) hx hb dX7_cancel_76 (by decide) ?_
      obtain ⟨g1, h⟩ := gsome h
      refine va_iald (D := (dC, dI)) hx hb hK hP 1 0 rfl rfl g1 dX7_cancel_78 ?_
      refine lv_imul hx hb dX7_cancel_79 ?_
      refine lv_iadd hx hb dX7_cancel_80 ?_
      refine lv_icmp_ge (tgt := 107) hx hb dX7_cancel_81 (by decide) (fun c2 => ?_) (fun c2 => ?_)
      · have h := ipos c2 h
        refine lv_iload_n hx hb dX7_cancel_107 rfl (lv_at hl 1 rfl) ?_
        obtain rfl := Option.some.inj h
        exact W.iret (v := x3) hx hb hr (fun t ht hW => ⟨⟨x3, (), rfl, rfl, WLD.of ht hP hD⟩, hS.F ht⟩) hS.2.2 dX7_cancel_108
      · have h := ineg c2 h
        refine lv_aload_n hx hb dX7_cancel_84 rfl (lv_at hl 0 rfl) ?_
        refine va_get (D := (dC, dI)) (ci := 7) (v := .ref h_p0_now) (C := RX7) (T := TX7) (N := 15) hx hb hts m_X7_cancel_0 hown hK hP 0 rfl rfl 0 (by decide) (hts (.fieldLink RX7 7 "SleeperBerthsModel" "now" "[I") m_X7_cancel_1) (fun _ h9 => h9) rfl dX7_cancel_85 ?_
        refine lv_iload hx hb dX7_cancel_88 (lv_at hl 2 rfl) ?_
        refine lv_aload_n hx hb dX7_cancel_90 rfl (lv_at hl 0 rfl) ?_
        refine va_get (D := (dC, dI)) (ci := 7) (v := .ref h_p0_now) (C := RX7) (T := TX7) (N := 15) hx hb hts m_X7_cancel_0 hown hK hP 0 rfl rfl 0 (by decide) (hts (.fieldLink RX7 7 "SleeperBerthsModel" "now" "[I") m_X7_cancel_1) (fun _ h9 => h9) rfl dX7_cancel_91 ?_
        refine lv_iload hx hb dX7_cancel_94 (lv_at hl 2 rfl) ?_
        refine lv_bipush (v := iI 7) hx hb dX7_cancel_96 (by decide) ?_
        refine lv_iadd hx hb dX7_cancel_98 ?_
        obtain ⟨g3, h⟩ := gsome h
        refine va_iald (D := (dC, dI)) hx hb hK hP 1 0 rfl rfl g3 dX7_cancel_99 ?_
        obtain ⟨g4, h⟩ := gsome h
        refine va_iast (D := (dC, dI)) hx hb hK hP hD hS 1 0 rfl rfl g4 dX7_cancel_100 (fun H locs hP hD hS => ?_)
        have hP : va_P (dC, dI) vwCl [(h_p0, .inr (7, [.ref h_p0_now, .ref h_p0_then, .ref h_p0_past, .int v_kept, .ref h_p0_text, .int v_typed, .int v_thrown, .int v_at, .int v_isFault, .ref h_p0_told, .int v_tolds, .int v_one, .int v_other, .int v_change, .int v_woken])), (h_p0_now, .inl (cyI, 452, .inl (upd v_now x4.toNatClampNeg (v_now (x4 + iI 7).toNatClampNeg)))), (h_p0_past, .inl (cyI, 2712, .inl v_past))] H := hP
        have hD : va_D A [(h_p0, .inr (7, [.ref h_p0_now, .ref h_p0_then, .ref h_p0_past, .int v_kept, .ref h_p0_text, .int v_typed, .int v_thrown, .int v_at, .int v_isFault, .ref h_p0_told, .int v_tolds, .int v_one, .int v_other, .int v_change, .int v_woken])), (h_p0_now, .inl (cyI, 452, .inl (upd v_now x4.toNatClampNeg (v_now (x4 + iI 7).toNatClampNeg)))), (h_p0_past, .inl (cyI, 2712, .inl v_past))] := hD
        refine lv_iinc (v := (x4 + iI 1)) hx hb dX7_cancel_101 hl (k := 2) rfl rfl (by decide) (rfl : _ = ([(4, .int (x4 + iI 1)), (0, .ref h_p0), (3, .int x3)] : List (Nat × Value))) (fun ls hl => ?_)
        refine lv_goto (tgt := 66) hx hb dX7_cancel_104 (by decide) ?_
        exact ih v_kept v_thrown (upd v_now x4.toNatClampNeg (v_now (x4 + iI 7).toNatClampNeg)) v_past x3 (x4 + iI 1) _ _ hP hD hS ls (lv_sub hl [1, 2, 0] rfl) h
  have hl := lv_entry ([.ref h_p0, .int a1]) (n := 5) (Nat.le_of_ble_eq_true rfl)
  rw [lg_entry_eq]
  generalize (lg_sl ([.ref h_p0, .int a1]) ++ List.replicate (5 - (lg_sl ([.ref h_p0, .int a1])).length) Slot.unset).toArray = ls at hl ⊢
  have hl : lv_has ls 5 [(0, .ref h_p0), (1, .int a1)] := hl
  unfold s_X7_cancel at h
  refine lv_aload_n hx hb dX7_cancel_0 rfl (lv_at hl 0 rfl) ?_
  refine lv_iconst (v := iI 0) hx hb dX7_cancel_1 rfl ?_
  refine va_put (D := (dC, dI)) (ci := 7) (v := .int (iI 0)) (ty := .int) (C := RX7) (T := TX7) (N := 15) hx hb hts m_X7_cancel_0 tyX7 tyX7_ok nmX7 hown hK hP hD hS 0 rfl rfl 6 (by decide) (hts (.fieldLink RX7 25 "SleeperBerthsModel" "thrown" "I") m_X7_cancel_2) (fun _ h9 => h9) rfl (by decide +kernel) rfl rfl (Nat.le_of_ble_eq_true rfl) dX7_cancel_2 (fun H locs hP hD hS => ?_)
  have hP : va_P (dC, dI) vwCl [(h_p0, .inr (7, [.ref h_p0_now, .ref h_p0_then, .ref h_p0_past, .int v_kept, .ref h_p0_text, .int v_typed, .int (iI 0), .int v_at, .int v_isFault, .ref h_p0_told, .int v_tolds, .int v_one, .int v_other, .int v_change, .int v_woken])), (h_p0_now, .inl (cyI, 452, .inl v_now)), (h_p0_past, .inl (cyI, 2712, .inl v_past))] H := hP
  have hD : va_D A [(h_p0, .inr (7, [.ref h_p0_now, .ref h_p0_then, .ref h_p0_past, .int v_kept, .ref h_p0_text, .int v_typed, .int (iI 0), .int v_at, .int v_isFault, .ref h_p0_told, .int v_tolds, .int v_one, .int v_other, .int v_change, .int v_woken])), (h_p0_now, .inl (cyI, 452, .inl v_now)), (h_p0_past, .inl (cyI, 2712, .inl v_past))] := hD
  refine lv_aload_n hx hb dX7_cancel_5 rfl (lv_at hl 0 rfl) ?_
  refine va_get (D := (dC, dI)) (ci := 7) (v := .ref h_p0_now) (C := RX7) (T := TX7) (N := 15) hx hb hts m_X7_cancel_0 hown hK hP 0 rfl rfl 0 (by decide) (hts (.fieldLink RX7 7 "SleeperBerthsModel" "now" "[I") m_X7_cancel_1) (fun _ h9 => h9) rfl dX7_cancel_6 ?_
  refine lv_iload_n hx hb dX7_cancel_9 rfl (lv_at hl 1 rfl) ?_
  obtain ⟨r5, e6, h⟩ := bsome h
  have hPc := sb_P [(h_p0_now, .inl (cyI, 452, .inl v_now))] hP [1] rfl
  have hDc := sb_D [(h_p0_now, .inl (cyI, 452, .inl v_now))] hD [1] (by decide) rfl
  have hFc := va_free (wc := [(h_p0_now, .inl (cyI, 452, .inl v_now))]) hD hS hA [1] rfl
  refine va_calli (va_runS (As := [.ref h_p0_now, .int a1]) (rest := []) ⟨hx, hb, hml, hown, hts⟩ (c_X7_placeOf l dC dI cyI cyJ cyT h_p0_now H.size v_now a1 n r5 e6) (va_cwS 2 hts gX7_cancel_X7_placeOf rfl rfl rfl (by decide +kernel) ⟨Nat.le_of_ble_eq_true rfl, Nat.le_of_ble_eq_true rfl⟩) ⟨PRE.blind, PRE.go hK hPc hDc hNW⟩ rfl rfl hl.1 rfl (lv_room (Nat.le_of_ble_eq_true rfl)) dX7_cancel_10 ⟨Nat.zero_le _, Nat.zero_le _⟩) hS (fun q _ h => hFc q h) hFc (fun z7 u t H locs ht hvm hw hB hz1 hk1 hS => ?_)
  subst z7
  obtain ⟨hP, hD⟩ := va_join (wr := [(h_p0, .inr (7, [.ref h_p0_now, .ref h_p0_then, .ref h_p0_past, .int v_kept, .ref h_p0_text, .int v_typed, .int (iI 0), .int v_at, .int v_isFault, .ref h_p0_told, .int v_tolds, .int v_one, .int v_other, .int v_change, .int v_woken])), (h_p0_past, .inl (cyI, 2712, .inl v_past))]) (w1 := [(h_p0_now, .inl (cyI, 452, .inl v_now))]) hP hD [1] [0, 2] rfl rfl (by decide) (by decide) hk1 hFc (WLD.P hB ht) hB.2
  have hP : va_P (dC, dI) vwCl [(h_p0, .inr (7, [.ref h_p0_now, .ref h_p0_then, .ref h_p0_past, .int v_kept, .ref h_p0_text, .int v_typed, .int (iI 0), .int v_at, .int v_isFault, .ref h_p0_told, .int v_tolds, .int v_one, .int v_other, .int v_change, .int v_woken])), (h_p0_past, .inl (cyI, 2712, .inl v_past)), (h_p0_now, .inl (cyI, 452, .inl v_now))] H := hP
  have hD : va_D A [(h_p0, .inr (7, [.ref h_p0_now, .ref h_p0_then, .ref h_p0_past, .int v_kept, .ref h_p0_text, .int v_typed, .int (iI 0), .int v_at, .int v_isFault, .ref h_p0_told, .int v_tolds, .int v_one, .int v_other, .int v_change, .int v_woken])), (h_p0_past, .inl (cyI, 2712, .inl v_past)), (h_p0_now, .inl (cyI, 452, .inl v_now))] := hD
  refine lv_istore_n hx hb dX7_cancel_13 rfl hl (by decide) (rfl : _ = ([(2, .int r5), (0, .ref h_p0), (1, .int a1)] : List (Nat × Value))) (fun ls hl => ?_)
  refine lv_iload_n hx hb dX7_cancel_14 rfl (lv_at hl 0 rfl) ?_
  refine lv_iconst (v := iI (-1)) hx hb dX7_cancel_15 rfl ?_
  refine lv_icmp_ne (tgt := 25) hx hb dX7_cancel_16 (by decide) (fun c8 => ?_) (fun c8 => ?_)
  · have h := ineg c8 h
    refine lv_aload_n hx hb dX7_cancel_25 rfl (lv_at hl 1 rfl) ?_
    obtain ⟨r9, e10, h⟩ := bsome h
    have hPc := sb_P [(h_p0, .inr (7, [.ref h_p0_now, .ref h_p0_then, .ref h_p0_past, .int v_kept, .ref h_p0_text, .int v_typed, .int (iI 0), .int v_at, .int v_isFault, .ref h_p0_told, .int v_tolds, .int v_one, .int v_other, .int v_change, .int v_woken])), (h_p0_now, .inl (cyI, 452, .inl v_now)), (h_p0_past, .inl (cyI, 2712, .inl v_past))] hP [0, 2, 1] rfl
    have hDc := sb_D [(h_p0, .inr (7, [.ref h_p0_now, .ref h_p0_then, .ref h_p0_past, .int v_kept, .ref h_p0_text, .int v_typed, .int (iI 0), .int v_at, .int v_isFault, .ref h_p0_told, .int v_tolds, .int v_one, .int v_other, .int v_change, .int v_woken])), (h_p0_now, .inl (cyI, 452, .inl v_now)), (h_p0_past, .inl (cyI, 2712, .inl v_past))] hD [0, 2, 1] (by decide) rfl
    have hFc := va_free (wc := [(h_p0, .inr (7, [.ref h_p0_now, .ref h_p0_then, .ref h_p0_past, .int v_kept, .ref h_p0_text, .int v_typed, .int (iI 0), .int v_at, .int v_isFault, .ref h_p0_told, .int v_tolds, .int v_one, .int v_other, .int v_change, .int v_woken])), (h_p0_now, .inl (cyI, 452, .inl v_now)), (h_p0_past, .inl (cyI, 2712, .inl v_past))]) hD hS hA [0, 2, 1] rfl
    refine va_callv (va_runV (As := []) (rest := []) ⟨hx, hb, hml, hown, hts⟩ (c_X7_saves l dC dI cyI cyJ cyT h_p0 h_p0_now h_p0_then h_p0_past h_p0_text h_p0_told H.size v_kept v_typed (iI 0) v_at v_isFault v_tolds v_one v_other v_change v_woken v_now v_past n r9 e10) (cwV 0 hts gX7_cancel_X7_saves rfl rfl rfl (by decide +kernel) ⟨Nat.le_of_ble_eq_true rfl, Nat.le_of_ble_eq_true rfl⟩) ⟨PRE.blind, va_recv hK hPc (ci := 7) (q0 := 0) rfl rfl, PRE.go hK hPc hDc hNW⟩ rfl rfl hl.1 rfl (lv_room (Nat.le_of_ble_eq_true rfl)) dX7_cancel_26 ⟨Nat.zero_le _, Nat.zero_le _⟩) hS (fun q _ h => hFc q h) hFc (fun u t H locs ht hvm hw hB hz1 hk1 hS => ?_)
    obtain ⟨hP, hD⟩ := va_join (wr := []) (w1 := [(h_p0, .inr (7, [.ref h_p0_now, .ref h_p0_then, .ref h_p0_past, .int r9.1, .ref h_p0_text, .int v_typed, .int (iI 0), .int v_at, .int v_isFault, .ref h_p0_told, .int v_tolds, .int v_one, .int v_other, .int v_change, .int v_woken])), (h_p0_now, .inl (cyI, 452, .inl v_now)), (h_p0_past, .inl (cyI, 2712, .inl r9.2))]) hP hD [0, 2, 1] [] rfl rfl (by decide) (by decide) hk1 hFc (WLD.P hB ht) hB.2
    have hP : va_P (dC, dI) vwCl [(h_p0, .inr (7, [.ref h_p0_now, .ref h_p0_then, .ref h_p0_past, .int r9.1, .ref h_p0_text, .int v_typed, .int (iI 0), .int v_at, .int v_isFault, .ref h_p0_told, .int v_tolds, .int v_one, .int v_other, .int v_change, .int v_woken])), (h_p0_now, .inl (cyI, 452, .inl v_now)), (h_p0_past, .inl (cyI, 2712, .inl r9.2))] H := hP
    have hD : va_D A [(h_p0, .inr (7, [.ref h_p0_now, .ref h_p0_then, .ref h_p0_past, .int r9.1, .ref h_p0_text, .int v_typed, .int (iI 0), .int v_at, .int v_isFault, .ref h_p0_told, .int v_tolds, .int v_one, .int v_other, .int v_change, .int v_woken])), (h_p0_now, .inl (cyI, 452, .inl v_now)), (h_p0_past, .inl (cyI, 2712, .inl r9.2))] := hD
    refine lv_aload_n hx hb dX7_cancel_29 rfl (lv_at hl 1 rfl) ?_
    refine va_get (D := (dC, dI)) (ci := 7) (v := .ref h_p0_now) (C := RX7) (T := TX7) (N := 15) hx hb hts m_X7_cancel_0 hown hK hP 0 rfl rfl 0 (by decide) (hts (.fieldLink RX7 7 "SleeperBerthsModel" "now" "[I") m_X7_cancel_1) (fun _ h9 => h9) rfl dX7_cancel_30 ?_
    refine lv_iload_n hx hb dX7_cancel_33 rfl (lv_at hl 0 rfl) ?_
    obtain ⟨r12, e13, h⟩ := bsome h
    have hPc := sb_P [(h_p0_now, .inl (cyI, 452, .inl v_now))] hP [1] rfl
    have hDc := sb_D [(h_p0_now, .inl (cyI, 452, .inl v_now))] hD [1] (by decide) rfl
    have hFc := va_free (wc := [(h_p0_now, .inl (cyI, 452, .inl v_now))]) hD hS hA [1] rfl
    refine va_calli (va_runS (As := [.ref h_p0_now, .int r5]) (rest := []) ⟨hx, hb, hml, hown, hts⟩ (c_X7_tip l dC dI cyI cyJ cyT h_p0_now H.size v_now r5 n r12 e13) (va_cwS 2 hts gX7_cancel_X7_tip rfl rfl rfl (by decide +kernel) ⟨Nat.le_of_ble_eq_true rfl, Nat.le_of_ble_eq_true rfl⟩) ⟨PRE.blind, PRE.go hK hPc hDc hNW⟩ rfl rfl hl.1 rfl (lv_room (Nat.le_of_ble_eq_true rfl)) dX7_cancel_34 ⟨Nat.zero_le _, Nat.zero_le _⟩) hS (fun q _ h => hFc q h) hFc (fun z14 u t H locs ht hvm hw hB hz1 hk1 hS => ?_)
    subst z14
    obtain ⟨hP, hD⟩ := va_join (wr := [(h_p0, .inr (7, [.ref h_p0_now, .ref h_p0_then, .ref h_p0_past, .int r9.1, .ref h_p0_text, .int v_typed, .int (iI 0), .int v_at, .int v_isFault, .ref h_p0_told, .int v_tolds, .int v_one, .int v_other, .int v_change, .int v_woken])), (h_p0_past, .inl (cyI, 2712, .inl r9.2))]) (w1 := [(h_p0_now, .inl (cyI, 452, .inl v_now))]) hP hD [1] [0, 2] rfl rfl (by decide) (by decide) hk1 hFc (WLD.P hB ht) hB.2
    have hP : va_P (dC, dI) vwCl [(h_p0, .inr (7, [.ref h_p0_now, .ref h_p0_then, .ref h_p0_past, .int r9.1, .ref h_p0_text, .int v_typed, .int (iI 0), .int v_at, .int v_isFault, .ref h_p0_told, .int v_tolds, .int v_one, .int v_other, .int v_change, .int v_woken])), (h_p0_past, .inl (cyI, 2712, .inl r9.2)), (h_p0_now, .inl (cyI, 452, .inl v_now))] H := hP
    have hD : va_D A [(h_p0, .inr (7, [.ref h_p0_now, .ref h_p0_then, .ref h_p0_past, .int r9.1, .ref h_p0_text, .int v_typed, .int (iI 0), .int v_at, .int v_isFault, .ref h_p0_told, .int v_tolds, .int v_one, .int v_other, .int v_change, .int v_woken])), (h_p0_past, .inl (cyI, 2712, .inl r9.2)), (h_p0_now, .inl (cyI, 452, .inl v_now))] := hD
    refine lv_istore_n hx hb dX7_cancel_37 rfl hl (by decide) (rfl : _ = ([(3, .int r12), (2, .int r5), (0, .ref h_p0), (1, .int a1)] : List (Nat × Value))) (fun ls hl => ?_)
    refine lv_aload_n hx hb dX7_cancel_38 rfl (lv_at hl 2 rfl) ?_
    refine va_get (D := (dC, dI)) (ci := 7) (v := .ref h_p0_now) (C := RX7) (T := TX7) (N := 15) hx hb hts m_X7_cancel_0 hown hK hP 0 rfl rfl 0 (by decide) (hts (.fieldLink RX7 7 "SleeperBerthsModel" "now" "[I") m_X7_cancel_1) (fun _ h9 => h9) rfl dX7_cancel_39 ?_
    refine lv_iload_n hx hb dX7_cancel_42 rfl (lv_at hl 3 rfl) ?_
    obtain ⟨r15, e16, h⟩ := bsome h
    have hPc := sb_P [(h_p0_now, .inl (cyI, 452, .inl v_now))] hP [2] rfl
    have hDc := sb_D [(h_p0_now, .inl (cyI, 452, .inl v_now))] hD [2] (by decide) rfl
    have hFc := va_free (wc := [(h_p0_now, .inl (cyI, 452, .inl v_now))]) hD hS hA [2] rfl
    refine va_callv (va_runS (As := [.ref h_p0_now, .int a1]) (rest := []) ⟨hx, hb, hml, hown, hts⟩ (c_X7_frees l dC dI cyI cyJ cyT h_p0_now H.size v_now a1 n r15 e16) (va_cwS 2 hts gX7_cancel_X7_frees rfl rfl rfl (by decide +kernel) ⟨Nat.le_of_ble_eq_true rfl, Nat.le_of_ble_eq_true rfl⟩) ⟨PRE.blind, PRE.go hK hPc hDc hNW⟩ rfl rfl hl.1 rfl (lv_room (Nat.le_of_ble_eq_true rfl)) dX7_cancel_43 ⟨Nat.zero_le _, Nat.zero_le _⟩) hS (fun q _ h => hFc q h) hFc (fun u t H locs ht hvm hw hB hz1 hk1 hS => ?_)
    obtain ⟨hP, hD⟩ := va_join (wr := [(h_p0, .inr (7, [.ref h_p0_now, .ref h_p0_then, .ref h_p0_past, .int r9.1, .ref h_p0_text, .int v_typed, .int (iI 0), .int v_at, .int v_isFault, .ref h_p0_told, .int v_tolds, .int v_one, .int v_other, .int v_change, .int v_woken])), (h_p0_past, .inl (cyI, 2712, .inl r9.2))]) (w1 := [(h_p0_now, .inl (cyI, 452, .inl r15))]) hP hD [2] [0, 1] rfl rfl (by decide) (by decide) hk1 hFc (WLD.P hB ht) hB.2
    have hP : va_P (dC, dI) vwCl [(h_p0, .inr (7, [.ref h_p0_now, .ref h_p0_then, .ref h_p0_past, .int r9.1, .ref h_p0_text, .int v_typed, .int (iI 0), .int v_at, .int v_isFault, .ref h_p0_told, .int v_tolds, .int v_one, .int v_other, .int v_change, .int v_woken])), (h_p0_past, .inl (cyI, 2712, .inl r9.2)), (h_p0_now, .inl (cyI, 452, .inl r15))] H := hP
    have hD : va_D A [(h_p0, .inr (7, [.ref h_p0_now, .ref h_p0_then, .ref h_p0_past, .int r9.1, .ref h_p0_text, .int v_typed, .int (iI 0), .int v_at, .int v_isFault, .ref h_p0_told, .int v_tolds, .int v_one, .int v_other, .int v_change, .int v_woken])), (h_p0_past, .inl (cyI, 2712, .inl r9.2)), (h_p0_now, .inl (cyI, 452, .inl r15))] := hD
    refine lv_aload_n hx hb dX7_cancel_46 rfl (lv_at hl 2 rfl) ?_
    refine va_get (D := (dC, dI)) (ci := 7) (v := .ref h_p0_now) (C := RX7) (T := TX7) (N := 15) hx hb hts m_X7_cancel_0 hown hK hP 0 rfl rfl 0 (by decide) (hts (.fieldLink RX7 7 "SleeperBerthsModel" "now" "[I") m_X7_cancel_1) (fun _ h9 => h9) rfl dX7_cancel_47 ?_
    refine lv_bipush (v := iI 6) hx hb dX7_cancel_50 (by decide) ?_
    refine lv_dup2_11 hx hb dX7_cancel_52 rfl rfl ?_
    obtain ⟨g18, h⟩ := gsome h
    refine va_iald (D := (dC, dI)) hx hb hK hP 2 0 rfl rfl g18 dX7_cancel_53 ?_
    refine lv_iconst (v := iI 1) hx hb dX7_cancel_54 rfl ?_
    refine lv_isub hx hb dX7_cancel_55 ?_
    obtain ⟨g19, h⟩ := gsome h
    refine va_iast (D := (dC, dI)) hx hb hK hP hD hS 2 0 rfl rfl g19 dX7_cancel_56 (fun H locs hP hD hS => ?_)
    have hP : va_P (dC, dI) vwCl [(h_p0, .inr (7, [.ref h_p0_now, .ref h_p0_then, .ref h_p0_past, .int r9.1, .ref h_p0_text, .int v_typed, .int (iI 0), .int v_at, .int v_isFault, .ref h_p0_told, .int v_tolds, .int v_one, .int v_other, .int v_change, .int v_woken])), (h_p0_past, .inl (cyI, 2712, .inl r9.2)), (h_p0_now, .inl (cyI, 452, .inl (upd r15 (iI 6).toNatClampNeg ((r15 (iI 6).toNatClampNeg) - iI 1))))] H := hP
    have hD : va_D A [(h_p0, .inr (7, [.ref h_p0_now, .ref h_p0_then, .ref h_p0_past, .int r9.1, .ref h_p0_text, .int v_typed, .int (iI 0), .int v_at, .int v_isFault, .ref h_p0_told, .int v_tolds, .int v_one, .int v_other, .int v_change, .int v_woken])), (h_p0_past, .inl (cyI, 2712, .inl r9.2)), (h_p0_now, .inl (cyI, 452, .inl (upd r15 (iI 6).toNatClampNeg ((r15 (iI 6).toNatClampNeg) - iI 1))))] := hD
    refine lv_bipush (v := iI 10) hx hb dX7_cancel_57 (by decide) ?_
    refine lv_bipush (v := iI 7) hx hb dX7_cancel_59 (by decide) ?_
    refine lv_iload_n hx hb dX7_cancel_61 rfl (lv_at hl 1 rfl) ?_
    refine lv_imul hx hb dX7_cancel_62 ?_
    refine lv_iadd hx hb dX7_cancel_63 ?_
    refine lv_istore hx hb dX7_cancel_64 hl (by decide) (rfl : _ = ([(4, .int (iI 10 + (iI 7 * r5))), (3, .int r12), (2, .int r5), (0, .ref h_p0), (1, .int a1)] : List (Nat × Value))) (fun ls hl => ?_)
    exact L66 n r9.1 (iI 0) (upd r15 (iI 6).toNatClampNeg ((r15 (iI 6).toNatClampNeg) - iI 1)) r9.2 r12 (iI 10 + (iI 7 * r5)) _ _ (sb_P [(h_p0, .inr (7, [.ref h_p0_now, .ref h_p0_then, .ref h_p0_past, .int r9.1, .ref h_p0_text, .int v_typed, .int (iI 0), .int v_at, .int v_isFault, .ref h_p0_told, .int v_tolds, .int v_one, .int v_other, .int v_change, .int v_woken])), (h_p0_now, .inl (cyI, 452, .inl (upd r15 (iI 6).toNatClampNeg ((r15 (iI 6).toNatClampNeg) - iI 1)))), (h_p0_past, .inl (cyI, 2712, .inl r9.2))] hP [0, 2, 1] rfl) (sb_D [(h_p0, .inr (7, [.ref h_p0_now, .ref h_p0_then, .ref h_p0_past, .int r9.1, .ref h_p0_text, .int v_typed, .int (iI 0), .int v_at, .int v_isFault, .ref h_p0_told, .int v_tolds, .int v_one, .int v_other, .int v_change, .int v_woken])), (h_p0_now, .inl (cyI, 452, .inl (upd r15 (iI 6).toNatClampNeg ((r15 (iI 6).toNatClampNeg) - iI 1)))), (h_p0_past, .inl (cyI, 2712, .inl r9.2))] hD [0, 2, 1] (by decide) rfl) hS ls (lv_sub hl [3, 1, 0] rfl) h
  · have h := ipos c8 h
    refine lv_aload_n hx hb dX7_cancel_19 rfl (lv_at hl 1 rfl) ?_
    refine lv_iconst (v := iI 1) hx hb dX7_cancel_20 rfl ?_
    obtain ⟨r20, e21, h⟩ := bsome h
    have hPc := sb_P [(h_p0, .inr (7, [.ref h_p0_now, .ref h_p0_then, .ref h_p0_past, .int v_kept, .ref h_p0_text, .int v_typed, .int (iI 0), .int v_at, .int v_isFault, .ref h_p0_told, .int v_tolds, .int v_one, .int v_other, .int v_change, .int v_woken]))] hP [0] rfl
    have hDc := sb_D [(h_p0, .inr (7, [.ref h_p0_now, .ref h_p0_then, .ref h_p0_past, .int v_kept, .ref h_p0_text, .int v_typed, .int (iI 0), .int v_at, .int v_isFault, .ref h_p0_told, .int v_tolds, .int v_one, .int v_other, .int v_change, .int v_woken]))] hD [0] (by decide) rfl
    have hFc := va_free (wc := [(h_p0, .inr (7, [.ref h_p0_now, .ref h_p0_then, .ref h_p0_past, .int v_kept, .ref h_p0_text, .int v_typed, .int (iI 0), .int v_at, .int v_isFault, .ref h_p0_told, .int v_tolds, .int v_one, .int v_other, .int v_change, .int v_woken]))]) hD hS hA [0] rfl
    refine va_calli (va_runV (As := [.int (iI 1)]) (rest := []) ⟨hx, hb, hml, hown, hts⟩ (c_X7_fails l dC dI cyI cyJ cyT h_p0 h_p0_now h_p0_then h_p0_past h_p0_text h_p0_told H.size v_kept v_typed (iI 0) v_at v_isFault v_tolds v_one v_other v_change v_woken (iI 1) r20 e21) (cwV 1 hts gX7_cancel_X7_fails rfl rfl rfl (by decide +kernel) ⟨Nat.le_of_ble_eq_true rfl, Nat.le_of_ble_eq_true rfl⟩) ⟨PRE.blind, va_recv hK hPc (ci := 7) (q0 := 0) rfl rfl, PRE.go hK hPc hDc hNW⟩ rfl rfl hl.1 rfl (lv_room (Nat.le_of_ble_eq_true rfl)) dX7_cancel_21 ⟨Nat.zero_le _, Nat.zero_le _⟩) hS (fun q _ h => hFc q h) hFc (fun z22 u t H locs ht hvm hw hB hz1 hk1 hS => ?_)
    subst z22
    obtain ⟨hP, hD⟩ := va_join (wr := [(h_p0_past, .inl (cyI, 2712, .inl v_past)), (h_p0_now, .inl (cyI, 452, .inl v_now))]) (w1 := [(h_p0, .inr (7, [.ref h_p0_now, .ref h_p0_then, .ref h_p0_past, .int v_kept, .ref h_p0_text, .int v_typed, .int r20.2, .int v_at, .int v_isFault, .ref h_p0_told, .int v_tolds, .int v_one, .int v_other, .int v_change, .int v_woken]))]) hP hD [0] [1, 2] rfl rfl (by decide) (by decide) hk1 hFc (WLD.P hB ht) hB.2
    have hP : va_P (dC, dI) vwCl [(h_p0_past, .inl (cyI, 2712, .inl v_past)), (h_p0_now, .inl (cyI, 452, .inl v_now)), (h_p0, .inr (7, [.ref h_p0_now, .ref h_p0_then, .ref h_p0_past, .int v_kept, .ref h_p0_text, .int v_typed, .int r20.2, .int v_at, .int v_isFault, .ref h_p0_told, .int v_tolds, .int v_one, .int v_other, .int v_change, .int v_woken]))] H := hP
    have hD : va_D A [(h_p0_past, .inl (cyI, 2712, .inl v_past)), (h_p0_now, .inl (cyI, 452, .inl v_now)), (h_p0, .inr (7, [.ref h_p0_now, .ref h_p0_then, .ref h_p0_past, .int v_kept, .ref h_p0_text, .int v_typed, .int r20.2, .int v_at, .int v_isFault, .ref h_p0_told, .int v_tolds, .int v_one, .int v_other, .int v_change, .int v_woken]))] := hD
    obtain rfl := Option.some.inj h
    exact W.iret (v := r20.1) hx hb hr (fun t ht hW => ⟨⟨r20.1, (), rfl, rfl, WLD.of ht (sb_P [(h_p0, .inr (7, [.ref h_p0_now, .ref h_p0_then, .ref h_p0_past, .int v_kept, .ref h_p0_text, .int v_typed, .int r20.2, .int v_at, .int v_isFault, .ref h_p0_told, .int v_tolds, .int v_one, .int v_other, .int v_change, .int v_woken])), (h_p0_now, .inl (cyI, 452, .inl v_now)), (h_p0_past, .inl (cyI, 2712, .inl v_past))] hP [2, 1, 0] rfl) (sb_D [(h_p0, .inr (7, [.ref h_p0_now, .ref h_p0_then, .ref h_p0_past, .int v_kept, .ref h_p0_text, .int v_typed, .int r20.2, .int v_at, .int v_isFault, .ref h_p0_told, .int v_tolds, .int v_one, .int v_other, .int v_change, .int v_woken])), (h_p0_now, .inl (cyI, 452, .inl v_now)), (h_p0_past, .inl (cyI, 2712, .inl v_past))] hD [2, 1, 0] (by decide) rfl)⟩, hS.F ht⟩) hS.2.2 dX7_cancel_24
def s_X7_canHave_L42 (n : Nat) (v_now : Nat → Int32) (a1 : Int32) (a2 : Int32) : Nat → Int32 → Int32 → Option (Int32)
  | 0, _, _ => none
  | k + 1, x3, x4 => ((s_X7_of v_now a1 (iI 2)).bind fun r1 => (if r1 ≤ x4 then ((if zb x3 = true then some (x3) else none)) else ((s_X7_holds v_now a2 x4).bind fun r6 => (if x3 = 0 then (s_X7_canHave_L42 n v_now a1 a2 k (iI 0) (x4 + iI 1)) else (if gd (iI 3 + (a2 / iI 6)) 452 = true then (if (v_now (iI 3 + (a2 / iI 6)).toNatClampNeg) ≤ x4 then (s_X7_canHave_L42 n v_now a1 a2 k (iI 0) (x4 + iI 1)) else (if r6 = iI (-1) then (s_X7_canHave_L42 n v_now a1 a2 k (iI 1) (x4 + iI 1)) else ((s_X7_of v_now a1 (iI 0)).bind fun r13 => (if r6 = r13 then (s_X7_canHave_L42 n v_now a1 a2 k (iI 1) (x4 + iI 1)) else (s_X7_canHave_L42 n v_now a1 a2 k (iI 0) (x4 + iI 1)))))) else none)))))
def s_X7_canHave (n : Nat) (v_now : Nat → Int32) (a1 : Int32) (a2 : Int32) : Option (Int32) := ((s_X7_of v_now a1 (iI 3)).bind fun r17 => (if r17 = 0 then ((s_X7_of v_now a1 (iI 1)).bind fun r21 => (s_X7_canHave_L42 n v_now a1 a2 n (iI 1) r21)) else ((s_X7_of v_now a1 (iI 4)).bind fun r24 => (if r24 = a2 then ((s_X7_of v_now a1 (iI 1)).bind fun r31 => (s_X7_canHave_L42 n v_now a1 a2 n (iI 1) r31)) else ((s_X7_of v_now a1 (iI 1)).bind fun r28 => (s_X7_canHave_L42 n v_now a1 a2 n (iI 0) r28))))))
set_option maxRecDepth 20000 in
theorem m_X7_canHave_0 : ∀ w ∈ u_ws RX7 TX7 15, w ∈ wsX7_canHave := by decide +kernel
set_option maxRecDepth 20000 in
theorem m_X7_canHave_1 : (.fieldLink RX7 7 "SleeperBerthsModel" "now" "[I" : Cond) ∈ wsX7_canHave := by decide +kernel
set_option maxHeartbeats 4000000 in
set_option maxRecDepth 100000 in
theorem c_X7_canHave (l : Launch) (dC : Nat → ClassId) (dI : Nat → Nat → Nat) (cyI cyJ cyT : ClassId) (h_p0 : Nat) (h_p0_now : Nat) (h_p0_then : Nat) (h_p0_past : Nat) (h_p0_text : Nat) (h_p0_told : Nat) (sz : Nat) (v_kept : Int32) (v_typed : Int32) (v_thrown : Int32) (v_at : Int32) (v_isFault : Int32) (v_tolds : Int32) (v_one : Int32) (v_other : Int32) (v_change : Int32) (v_woken : Int32) (v_now : Nat → Int32) (a1 : Int32) (a2 : Int32) (n : Nat) (o : Int32) (h : s_X7_canHave n v_now a1 a2 = some o) : Met l yX7_canHave wsX7_canHave ({ frames := 1, cells := 0, slots := 0, locals := 22 }) (va_Pc [.ref h_p0, .int a1, .int a2] (PRE (dC, dI) (TYS cyI cyJ cyT) sz [(h_p0, .inr (7, [.ref h_p0_now, .ref h_p0_then, .ref h_p0_past, .int v_kept, .ref h_p0_text, .int v_typed, .int v_thrown, .int v_at, .int v_isFault, .ref h_p0_told, .int v_tolds, .int v_one, .int v_other, .int v_change, .int v_woken])), (h_p0_now, .inl (cyI, 452, .inl v_now))])) (va_Qi (S := Unit) (fun r _ => r = o) (fun _ t => WLD (dC, dI) (va_A [(h_p0, .inr (7, [.ref h_p0_now, .ref h_p0_then, .ref h_p0_past, .int v_kept, .ref h_p0_text, .int v_typed, .int v_thrown, .int v_at, .int v_isFault, .ref h_p0_told, .int v_tolds, .int v_one, .int v_other, .int v_change, .int v_woken])), (h_p0_now, .inl (cyI, 452, .inl v_now))] sz) [(h_p0, .inr (7, [.ref h_p0_now, .ref h_p0_then, .ref h_p0_past, .int v_kept, .ref h_p0_text, .int v_typed, .int v_thrown, .int v_at, .int v_isFault, .ref h_p0_told, .int v_tolds, .int v_one, .int v_other, .int v_change, .int v_woken])), (h_p0_now, .inl (cyI, 452, .inl v_now))] t) (va_A [(h_p0, .inr (7, [.ref h_p0_now, .ref h_p0_then, .ref h_p0_past, .int v_kept, .ref h_p0_text, .int v_typed, .int v_thrown, .int v_at, .int v_isFault, .ref h_p0_told, .int v_tolds, .int v_one, .int v_other, .int v_change, .int v_woken])), (h_p0_now, .inl (cyI, 452, .inl v_now))] sz)) 0 0 (va_A [(h_p0, .inr (7, [.ref h_p0_now, .ref h_p0_then, .ref h_p0_past, .int v_kept, .ref h_p0_text, .int v_typed, .int v_thrown, .int v_at, .int v_isFault, .ref h_p0_told, .int v_tolds, .int v_one, .int v_other, .int v_change, .int v_woken])), (h_p0_now, .inl (cyI, 452, .inl v_now))] sz) := by
  refine Met.ofW (cc := cX7_canHave) (maxL := 6) (ret := (some .boolean)) (by decide) rfl ?_
  intro p e s m args below meth c s₁ B hml hv
  obtain ⟨rfl, hsz, hP, hK, hD0, hNW⟩ := hv
  have hx := B.exec
  have hb := B.bytes
  have hr := B.returns
  have hts := atoms_spec (ws := wsX7_canHave) B.pre
  have hown : s.vm.findClass RX7 = some m.cls := findClass_of_methodNamed B.named
  have hlocks := B.notSynchronized
  subst hsz
  have hD := hD0.self (sz := s.heap.size)
  generalize hAe : va_A [(h_p0, .inr (7, [.ref h_p0_now, .ref h_p0_then, .ref h_p0_past, .int v_kept, .ref h_p0_text, .int v_typed, .int v_thrown, .int v_at, .int v_isFault, .ref h_p0_told, .int v_tolds, .int v_one, .int v_other, .int v_change, .int v_woken])), (h_p0_now, .inl (cyI, 452, .inl v_now))] s.heap.size = A at hD ⊢
  have hA : ∀ q : Nat, s.heap.size ≤ q → A q := fun q h => by rw [← hAe]; exact Or.inr h
  have hS : va_S A s.heap s.heap [] := va_S.rf
  have hP : va_P (dC, dI) vwCl [(h_p0, .inr (7, [.ref h_p0_now, .ref h_p0_then, .ref h_p0_past, .int v_kept, .ref h_p0_text, .int v_typed, .int v_thrown, .int v_at, .int v_isFault, .ref h_p0_told, .int v_tolds, .int v_one, .int v_other, .int v_change, .int v_woken])), (h_p0_now, .inl (cyI, 452, .inl v_now))] s.heap := hP
  have L42 : ∀ (k : Nat), (∀ (x3 : Int32) (x4 : Int32) (H : Heap) (locs : List Loc), va_P (dC, dI) vwCl [(h_p0, .inr (7, [.ref h_p0_now, .ref h_p0_then, .ref h_p0_past, .int v_kept, .ref h_p0_text, .int v_typed, .int v_thrown, .int v_at, .int v_isFault, .ref h_p0_told, .int v_tolds, .int v_one, .int v_other, .int v_change, .int v_woken])), (h_p0_now, .inl (cyI, 452, .inl v_now))] H → va_D A [(h_p0, .inr (7, [.ref h_p0_now, .ref h_p0_then, .ref h_p0_past, .int v_kept, .ref h_p0_text, .int v_typed, .int v_thrown, .int v_at, .int v_isFault, .ref h_p0_told, .int v_tolds, .int v_one, .int v_other, .int v_change, .int v_woken])), (h_p0_now, .inl (cyI, 452, .inl v_now))] → va_S A s.heap H locs → ∀ (ls : Array Slot), lv_has ls 6 [(0, .ref h_p0), (1, .int a1), (2, .int a2), (3, .int x3), (4, .int x4)] →  s_X7_canHave_L42 n v_now a1 a2 k x3 x4 = some o → W p l e (headSpec wsX7_canHave ({ frames := 1, cells := 0, slots := 0, locals := 22 })).room s m (([.ref h_p0, .int a1, .int a2] : List Value).toArray) below meth c H locs 0 0 (MQ below (va_Qi (S := Unit) (fun r _ => r = o) (fun _ t => WLD (dC, dI) A [(h_p0, .inr (7, [.ref h_p0_now, .ref h_p0_then, .ref h_p0_past, .int v_kept, .ref h_p0_text, .int v_typed, .int v_thrown, .int v_at, .int v_isFault, .ref h_p0_told, .int v_tolds, .int v_one, .int v_other, .int v_change, .int v_woken])), (h_p0_now, .inl (cyI, 452, .inl v_now))] t) A) (([.ref h_p0, .int a1, .int a2] : List Value).toArray) s 0 0 A) (F0 m 42 ls [])) := by
    intro k
    induction k with
    | zero =>
      intro  x3 x4 H locs hP hD hS ls hl h
      rw [s_X7_canHave_L42] at h
      cases h
    | succ k ih =>
      intro  x3 x4 H locs hP hD hS ls hl h
      rw [s_X7_canHave_L42] at h
      refine lv_iload hx hb dX7_canHave_42 (lv_at hl 4 rfl) ?_
      refine lv_aload_n hx hb dX7_canHave_44 rfl (lv_at hl 0 rfl) ?_
      refine va_get (D := (dC, dI)) (ci := 7) (v := .ref h_p0_now) (C := RX7) (T := TX7) (N := 15) hx hb hts m_X7_canHave_0 hown hK hP 0 rfl rfl 0 (by decide) (hts (.fieldLink RX7 7 "SleeperBerthsModel" "now" "[I") m_X7_canHave_1) (fun _ h9 => h9) rfl dX7_canHave_45 ?_
      refine lv_iload_n hx hb dX7_canHave_48 rfl (lv_at hl 1 rfl) ?_
      refine lv_iconst (v := iI 2) hx hb dX7_canHave_49 rfl ?_
      obtain ⟨r1, e2, h⟩ := bsome h
      have hPc := sb_P [(h_p0_now, .inl (cyI, 452, .inl v_now))] hP [1] rfl
      have hDc := sb_D [(h_p0_now, .inl (cyI, 452, .inl v_now))] hD [1] (by decide) rfl
      have hFc := va_free (wc := [(h_p0_now, .inl (cyI, 452, .inl v_now))]) hD hS hA [1] rfl
      refine va_calli (va_runS (As := [.ref h_p0_now, .int a1, .int (iI 2)]) (rest := [.int x4]) ⟨hx, hb, hml, hown, hts⟩ (c_X7_of l dC dI cyI cyJ cyT h_p0_now H.size v_now a1 (iI 2) r1 e2) (va_cwS 3 hts gX7_canHave_X7_of rfl rfl rfl (by decide +kernel) ⟨Nat.le_of_ble_eq_true rfl, Nat.le_of_ble_eq_true rfl⟩) ⟨PRE.blind, PRE.go hK hPc hDc hNW⟩ rfl rfl hl.1 rfl (lv_room (Nat.le_of_ble_eq_true rfl)) dX7_canHave_50 ⟨Nat.zero_le _, Nat.zero_le _⟩) hS (fun q _ h => hFc q h) hFc (fun z3 u t H locs ht hvm hw hB hz1 hk1 hS => ?_)
      subst z3
      obtain ⟨hP, hD⟩ := va_join (wr := [(h_p0, .inr (7, [.ref h_p0_now, .ref h_p0_then, .ref h_p0_past, .int v_kept, .ref h_p0_text, .int v_typed, .int v_thrown, .int v_at, .int v_isFault, .ref h_p0_told, .int v_tolds, .int v_one, .int v_other, .int v_change, .int v_woken]))]) (w1 := [(h_p0_now, .inl (cyI, 452, .inl v_now))]) hP hD [1] [0] rfl rfl (by decide) (by decide) hk1 hFc (WLD.P hB ht) hB.2
      have hP : va_P (dC, dI) vwCl [(h_p0, .inr (7, [.ref h_p0_now, .ref h_p0_then, .ref h_p0_past, .int v_kept, .ref h_p0_text, .int v_typed, .int v_thrown, .int v_at, .int v_isFault, .ref h_p0_told, .int v_tolds, .int v_one, .int v_other, .int v_change, .int v_woken])), (h_p0_now, .inl (cyI, 452, .inl v_now))] H := hP
      have hD : va_D A [(h_p0, .inr (7, [.ref h_p0_now, .ref h_p0_then, .ref h_p0_past, .int v_kept, .ref h_p0_text, .int v_typed, .int v_thrown, .int v_at, .int v_isFault, .ref h_p0_told, .int v_tolds, .int v_one, .int v_other, .int v_change, .int v_woken])), (h_p0_now, .inl (cyI, 452, .inl v_now))] := hD
      refine lv_icmp_ge (tgt := 120) hx hb dX7_canHave_53 (by decide) (fun c4 => ?_) (fun c4 => ?_)
      · have h := ipos c4 h
        refine lv_iload_n hx hb dX7_canHave_120 rfl (lv_at hl 3 rfl) ?_
        obtain ⟨g5, h⟩ := zsome h
        obtain rfl := Option.some.inj h
        exact W.zret (v := x3) hx hb hr (zb_nar g5) (fun t ht hW => ⟨⟨x3, (), rfl, rfl, WLD.of ht hP hD⟩, hS.F ht⟩) hS.2.2 dX7_canHave_121
      · have h := ineg c4 h
        refine lv_aload_n hx hb dX7_canHave_56 rfl (lv_at hl 0 rfl) ?_
        refine va_get (D := (dC, dI)) (ci := 7) (v := .ref h_p0_now) (C := RX7) (T := TX7) (N := 15) hx hb hts m_X7_canHave_0 hown hK hP 0 rfl rfl 0 (by decide) (hts (.fieldLink RX7 7 "SleeperBerthsModel" "now" "[I") m_X7_canHave_1) (fun _ h9 => h9) rfl dX7_canHave_57 ?_
        refine lv_iload_n hx hb dX7_canHave_60 rfl (lv_at hl 2 rfl) ?_
        refine lv_iload hx hb dX7_canHave_61 (lv_at hl 4 rfl) ?_
        obtain ⟨r6, e7, h⟩ := bsome h
        have hPc := sb_P [(h_p0_now, .inl (cyI, 452, .inl v_now))] hP [1] rfl
        have hDc := sb_D [(h_p0_now, .inl (cyI, 452, .inl v_now))] hD [1] (by decide) rfl
        have hFc := va_free (wc := [(h_p0_now, .inl (cyI, 452, .inl v_now))]) hD hS hA [1] rfl
        refine va_calli (va_runS (As := [.ref h_p0_now, .int a2, .int x4]) (rest := []) ⟨hx, hb, hml, hown, hts⟩ (c_X7_holds l dC dI cyI cyJ cyT h_p0_now H.size v_now a2 x4 r6 e7) (va_cwS 3 hts gX7_canHave_X7_holds rfl rfl rfl (by decide +kernel) ⟨Nat.le_of_ble_eq_true rfl, Nat.le_of_ble_eq_true rfl⟩) ⟨PRE.blind, PRE.go hK hPc hDc hNW⟩ rfl rfl hl.1 rfl (lv_room (Nat.le_of_ble_eq_true rfl)) dX7_canHave_63 ⟨Nat.zero_le _, Nat.zero_le _⟩) hS (fun q _ h => hFc q h) hFc (fun z8 u t H locs ht hvm hw hB hz1 hk1 hS => ?_)
        subst z8
        obtain ⟨hP, hD⟩ := va_join (wr := [(h_p0, .inr (7, [.ref h_p0_now, .ref h_p0_then, .ref h_p0_past, .int v_kept, .ref h_p0_text, .int v_typed, .int v_thrown, .int v_at, .int v_isFault, .ref h_p0_told, .int v_tolds, .int v_one, .int v_other, .int v_change, .int v_woken]))]) (w1 := [(h_p0_now, .inl (cyI, 452, .inl v_now))]) hP hD [1] [0] rfl rfl (by decide) (by decide) hk1 hFc (WLD.P hB ht) hB.2
        have hP : va_P (dC, dI) vwCl [(h_p0, .inr (7, [.ref h_p0_now, .ref h_p0_then, .ref h_p0_past, .int v_kept, .ref h_p0_text, .int v_typed, .int v_thrown, .int v_at, .int v_isFault, .ref h_p0_told, .int v_tolds, .int v_one, .int v_other, .int v_change, .int v_woken])), (h_p0_now, .inl (cyI, 452, .inl v_now))] H := hP
        have hD : va_D A [(h_p0, .inr (7, [.ref h_p0_now, .ref h_p0_then, .ref h_p0_past, .int v_kept, .ref h_p0_text, .int v_typed, .int v_thrown, .int v_at, .int v_isFault, .ref h_p0_told, .int v_tolds, .int v_one, .int v_other, .int v_change, .int v_woken])), (h_p0_now, .inl (cyI, 452, .inl v_now))] := hD
        refine lv_istore hx hb dX7_canHave_66 hl (by decide) (rfl : _ = ([(5, .int r6), (0, .ref h_p0), (1, .int a1), (2, .int a2), (3, .int x3), (4, .int x4)] : List (Nat × Value))) (fun ls hl => ?_)
        refine lv_iload_n hx hb dX7_canHave_68 rfl (lv_at hl 4 rfl) ?_
        refine lv_if_eq (tgt := 112) hx hb dX7_canHave_69 (by decide) (fun c9 => ?_) (fun c9 => ?_)
        · have h := ipos c9 h
          refine lv_iconst (v := iI 0) hx hb dX7_canHave_112 rfl ?_
          refine lv_istore_n hx hb dX7_canHave_113 rfl hl (by decide) (rfl : _ = ([(3, .int (iI 0)), (5, .int r6), (0, .ref h_p0), (1, .int a1), (2, .int a2), (4, .int x4)] : List (Nat × Value))) (fun ls hl => ?_)
          refine lv_iinc (v := (x4 + iI 1)) hx hb dX7_canHave_114 hl (k := 5) rfl rfl (by decide) (rfl : _ = ([(4, .int (x4 + iI 1)), (3, .int (iI 0)), (5, .int r6), (0, .ref h_p0), (1, .int a1), (2, .int a2)] : List (Nat × Value))) (fun ls hl => ?_)
          refine lv_goto (tgt := 42) hx hb dX7_canHave_117 (by decide) ?_
          exact ih (iI 0) (x4 + iI 1) _ _ hP hD hS ls (lv_sub hl [3, 4, 5, 1, 0] rfl) h
        · have h := ineg c9 h
          refine lv_iload hx hb dX7_canHave_72 (lv_at hl 5 rfl) ?_
          refine lv_aload_n hx hb dX7_canHave_74 rfl (lv_at hl 1 rfl) ?_
          refine va_get (D := (dC, dI)) (ci := 7) (v := .ref h_p0_now) (C := RX7) (T := TX7) (N := 15) hx hb hts m_X7_canHave_0 hown hK hP 0 rfl rfl 0 (by decide) (hts (.fieldLink RX7 7 "SleeperBerthsModel" "now" "[I") m_X7_canHave_1) (fun _ h9 => h9) rfl dX7_canHave_75 ?_
          refine lv_iconst (v := iI 3) hx hb dX7_canHave_78 rfl ?_
          refine lv_iload_n hx hb dX7_canHave_79 rfl (lv_at hl 3 rfl) ?_
          refine lv_bipush (v := iI 6) hx hb dX7_canHave_80 (by decide) ?_
          refine lv_idiv hx hb dX7_canHave_82 (by decide) ?_
          refine lv_iadd hx hb dX7_canHave_83 ?_
          obtain ⟨g10, h⟩ := gsome h
          refine va_iald (D := (dC, dI)) hx hb hK hP 1 0 rfl rfl g10 dX7_canHave_84 ?_
          refine lv_icmp_ge (tgt := 112) hx hb dX7_canHave_85 (by decide) (fun c11 => ?_) (fun c11 => ?_)
          · have h := ipos c11 h
            refine lv_iconst (v := iI 0) hx hb dX7_canHave_112 rfl ?_
            refine lv_istore_n hx hb dX7_canHave_113 rfl hl (by decide) (rfl : _ = ([(3, .int (iI 0)), (5, .int r6), (0, .ref h_p0), (1, .int a1), (2, .int a2), (4, .int x4)] : List (Nat × Value))) (fun ls hl => ?_)
            refine lv_iinc (v := (x4 + iI 1)) hx hb dX7_canHave_114 hl (k := 5) rfl rfl (by decide) (rfl : _ = ([(4, .int (x4 + iI 1)), (3, .int (iI 0)), (5, .int r6), (0, .ref h_p0), (1, .int a1), (2, .int a2)] : List (Nat × Value))) (fun ls hl => ?_)
            refine lv_goto (tgt := 42) hx hb dX7_canHave_117 (by decide) ?_
            exact ih (iI 0) (x4 + iI 1) _ _ hP hD hS ls (lv_sub hl [3, 4, 5, 1, 0] rfl) h
          · have h := ineg c11 h
            refine lv_iload hx hb dX7_canHave_88 (lv_at hl 0 rfl) ?_
            refine lv_iconst (v := iI (-1)) hx hb dX7_canHave_90 rfl ?_
            refine lv_icmp_eq (tgt := 108) hx hb dX7_canHave_91 (by decide) (fun c12 => ?_) (fun c12 => ?_)
            · have h := ipos c12 h
              refine lv_iconst (v := iI 1) hx hb dX7_canHave_108 rfl ?_
              refine lv_goto (tgt := 113) hx hb dX7_canHave_109 (by decide) ?_
              refine lv_istore_n hx hb dX7_canHave_113 rfl hl (by decide) (rfl : _ = ([(3, .int (iI 1)), (5, .int r6), (0, .ref h_p0), (1, .int a1), (2, .int a2), (4, .int x4)] : List (Nat × Value))) (fun ls hl => ?_)
              refine lv_iinc (v := (x4 + iI 1)) hx hb dX7_canHave_114 hl (k := 5) rfl rfl (by decide) (rfl : _ = ([(4, .int (x4 + iI 1)), (3, .int (iI 1)), (5, .int r6), (0, .ref h_p0), (1, .int a1), (2, .int a2)] : List (Nat × Value))) (fun ls hl => ?_)
              refine lv_goto (tgt := 42) hx hb dX7_canHave_117 (by decide) ?_
              exact ih (iI 1) (x4 + iI 1) _ _ hP hD hS ls (lv_sub hl [3, 4, 5, 1, 0] rfl) h
            · have h := ineg c12 h
              refine lv_iload hx hb dX7_canHave_94 (lv_at hl 0 rfl) ?_
              refine lv_aload_n hx hb dX7_canHave_96 rfl (lv_at hl 1 rfl) ?_
              refine va_get (D := (dC, dI)) (ci := 7) (v := .ref h_p0_now) (C := RX7) (T := TX7) (N := 15) hx hb hts m_X7_canHave_0 hown hK hP 0 rfl rfl 0 (by decide) (hts (.fieldLink RX7 7 "SleeperBerthsModel" "now" "[I") m_X7_canHave_1) (fun _ h9 => h9) rfl dX7_canHave_97 ?_
              refine lv_iload_n hx hb dX7_canHave_100 rfl (lv_at hl 2 rfl) ?_
              refine lv_iconst (v := iI 0) hx hb dX7_canHave_101 rfl ?_
              obtain ⟨r13, e14, h⟩ := bsome h
              have hPc := sb_P [(h_p0_now, .inl (cyI, 452, .inl v_now))] hP [1] rfl
              have hDc := sb_D [(h_p0_now, .inl (cyI, 452, .inl v_now))] hD [1] (by decide) rfl
              have hFc := va_free (wc := [(h_p0_now, .inl (cyI, 452, .inl v_now))]) hD hS hA [1] rfl
              refine va_calli (va_runS (As := [.ref h_p0_now, .int a1, .int (iI 0)]) (rest := [.int r6]) ⟨hx, hb, hml, hown, hts⟩ (c_X7_of l dC dI cyI cyJ cyT h_p0_now H.size v_now a1 (iI 0) r13 e14) (va_cwS 3 hts gX7_canHave_X7_of rfl rfl rfl (by decide +kernel) ⟨Nat.le_of_ble_eq_true rfl, Nat.le_of_ble_eq_true rfl⟩) ⟨PRE.blind, PRE.go hK hPc hDc hNW⟩ rfl rfl hl.1 rfl (lv_room (Nat.le_of_ble_eq_true rfl)) dX7_canHave_102 ⟨Nat.zero_le _, Nat.zero_le _⟩) hS (fun q _ h => hFc q h) hFc (fun z15 u t H locs ht hvm hw hB hz1 hk1 hS => ?_)
              subst z15
              obtain ⟨hP, hD⟩ := va_join (wr := [(h_p0, .inr (7, [.ref h_p0_now, .ref h_p0_then, .ref h_p0_past, .int v_kept, .ref h_p0_text, .int v_typed, .int v_thrown, .int v_at, .int v_isFault, .ref h_p0_told, .int v_tolds, .int v_one, .int v_other, .int v_change, .int v_woken]))]) (w1 := [(h_p0_now, .inl (cyI, 452, .inl v_now))]) hP hD [1] [0] rfl rfl (by decide) (by decide) hk1 hFc (WLD.P hB ht) hB.2
              have hP : va_P (dC, dI) vwCl [(h_p0, .inr (7, [.ref h_p0_now, .ref h_p0_then, .ref h_p0_past, .int v_kept, .ref h_p0_text, .int v_typed, .int v_thrown, .int v_at, .int v_isFault, .ref h_p0_told, .int v_tolds, .int v_one, .int v_other, .int v_change, .int v_woken])), (h_p0_now, .inl (cyI, 452, .inl v_now))] H := hP
              have hD : va_D A [(h_p0, .inr (7, [.ref h_p0_now, .ref h_p0_then, .ref h_p0_past, .int v_kept, .ref h_p0_text, .int v_typed, .int v_thrown, .int v_at, .int v_isFault, .ref h_p0_told, .int v_tolds, .int v_one, .int v_other, .int v_change, .int v_woken])), (h_p0_now, .inl (cyI, 452, .inl v_now))] := hD
              refine lv_icmp_ne (tgt := 112) hx hb dX7_canHave_105 (by decide) (fun c16 => ?_) (fun c16 => ?_)
              · have h := ineg c16 h
                refine lv_iconst (v := iI 0) hx hb dX7_canHave_112 rfl ?_
                refine lv_istore_n hx hb dX7_canHave_113 rfl hl (by decide) (rfl : _ = ([(3, .int (iI 0)), (5, .int r6), (0, .ref h_p0), (1, .int a1), (2, .int a2), (4, .int x4)] : List (Nat × Value))) (fun ls hl => ?_)
                refine lv_iinc (v := (x4 + iI 1)) hx hb dX7_canHave_114 hl (k := 5) rfl rfl (by decide) (rfl : _ = ([(4, .int (x4 + iI 1)), (3, .int (iI 0)), (5, .int r6), (0, .ref h_p0), (1, .int a1), (2, .int a2)] : List (Nat × Value))) (fun ls hl => ?_)
                refine lv_goto (tgt := 42) hx hb dX7_canHave_117 (by decide) ?_
                exact ih (iI 0) (x4 + iI 1) _ _ hP hD hS ls (lv_sub hl [3, 4, 5, 1, 0] rfl) h
              · have h := ipos c16 h
                refine lv_iconst (v := iI 1) hx hb dX7_canHave_108 rfl ?_
                refine lv_goto (tgt := 113) hx hb dX7_canHave_109 (by decide) ?_
                refine lv_istore_n hx hb dX7_canHave_113 rfl hl (by decide) (rfl : _ = ([(3, .int (iI 1)), (5, .int r6), (0, .ref h_p0), (1, .int a1), (2, .int a2), (4, .int x4)] : List (Nat × Value))) (fun ls hl => ?_)
                refine lv_iinc (v := (x4 + iI 1)) hx hb dX7_canHave_114 hl (k := 5) rfl rfl (by decide) (rfl : _ = ([(4, .int (x4 + iI 1)), (3, .int (iI 1)), (5, .int r6), (0, .ref h_p0), (1, .int a1), (2, .int a2)] : List (Nat × Value))) (fun ls hl => ?_)
                refine lv_goto (tgt := 42) hx hb dX7_canHave_117 (by decide) ?_
                exact ih (iI 1) (x4 + iI 1) _ _ hP hD hS ls (lv_sub hl [3, 4, 5, 1, 0] rfl) h
  have hl := lv_entry ([.ref h_p0, .int a1, .int a2]) (n := 6) (Nat.le_of_ble_eq_true rfl)
  rw [lg_entry_eq]
  generalize (lg_sl ([.ref h_p0, .int a1, .int a2]) ++ List.replicate (6 - (lg_sl ([.ref h_p0, .int a1, .int a2])).length) Slot.unset).toArray = ls at hl ⊢
  have hl : lv_has ls 6 [(0, .ref h_p0), (1, .int a1), (2, .int a2)] := hl
  unfold s_X7_canHave at h
  refine lv_aload_n hx hb dX7_canHave_0 rfl (lv_at hl 0 rfl) ?_
  refine va_get (D := (dC, dI)) (ci := 7) (v := .ref h_p0_now) (C := RX7) (T := TX7) (N := 15) hx hb hts m_X7_canHave_0 hown hK hP 0 rfl rfl 0 (by decide) (hts (.fieldLink RX7 7 "SleeperBerthsModel" "now" "[I") m_X7_canHave_1) (fun _ h9 => h9) rfl dX7_canHave_1 ?_
  refine lv_iload_n hx hb dX7_canHave_4 rfl (lv_at hl 1 rfl) ?_
  refine lv_iconst (v := iI 3) hx hb dX7_canHave_5 rfl ?_
  obtain ⟨r17, e18, h⟩ := bsome h
  have hPc := sb_P [(h_p0_now, .inl (cyI, 452, .inl v_now))] hP [1] rfl
  have hDc := sb_D [(h_p0_now, .inl (cyI, 452, .inl v_now))] hD [1] (by decide) rfl
  have hFc := va_free (wc := [(h_p0_now, .inl (cyI, 452, .inl v_now))]) hD hS hA [1] rfl
  refine va_calli (va_runS (As := [.ref h_p0_now, .int a1, .int (iI 3)]) (rest := []) ⟨hx, hb, hml, hown, hts⟩ (c_X7_of l dC dI cyI cyJ cyT h_p0_now s.heap.size v_now a1 (iI 3) r17 e18) (va_cwS 3 hts gX7_canHave_X7_of rfl rfl rfl (by decide +kernel) ⟨Nat.le_of_ble_eq_true rfl, Nat.le_of_ble_eq_true rfl⟩) ⟨PRE.blind, PRE.go hK hPc hDc hNW⟩ rfl rfl hl.1 rfl (lv_room (Nat.le_of_ble_eq_true rfl)) dX7_canHave_6 ⟨Nat.zero_le _, Nat.zero_le _⟩) hS (fun q _ h => hFc q h) hFc (fun z19 u t H locs ht hvm hw hB hz1 hk1 hS => ?_)
  subst z19
  obtain ⟨hP, hD⟩ := va_join (wr := [(h_p0, .inr (7, [.ref h_p0_now, .ref h_p0_then, .ref h_p0_past, .int v_kept, .ref h_p0_text, .int v_typed, .int v_thrown, .int v_at, .int v_isFault, .ref h_p0_told, .int v_tolds, .int v_one, .int v_other, .int v_change, .int v_woken]))]) (w1 := [(h_p0_now, .inl (cyI, 452, .inl v_now))]) hP hD [1] [0] rfl rfl (by decide) (by decide) hk1 hFc (WLD.P hB ht) hB.2
  have hP : va_P (dC, dI) vwCl [(h_p0, .inr (7, [.ref h_p0_now, .ref h_p0_then, .ref h_p0_past, .int v_kept, .ref h_p0_text, .int v_typed, .int v_thrown, .int v_at, .int v_isFault, .ref h_p0_told, .int v_tolds, .int v_one, .int v_other, .int v_change, .int v_woken])), (h_p0_now, .inl (cyI, 452, .inl v_now))] H := hP
  have hD : va_D A [(h_p0, .inr (7, [.ref h_p0_now, .ref h_p0_then, .ref h_p0_past, .int v_kept, .ref h_p0_text, .int v_typed, .int v_thrown, .int v_at, .int v_isFault, .ref h_p0_told, .int v_tolds, .int v_one, .int v_other, .int v_change, .int v_woken])), (h_p0_now, .inl (cyI, 452, .inl v_now))] := hD
  refine lv_if_eq (tgt := 25) hx hb dX7_canHave_9 (by decide) (fun c20 => ?_) (fun c20 => ?_)
  · have h := ipos c20 h
    refine lv_iconst (v := iI 1) hx hb dX7_canHave_25 rfl ?_
    refine lv_goto (tgt := 30) hx hb dX7_canHave_26 (by decide) ?_
    refine lv_istore_n hx hb dX7_canHave_30 rfl hl (by decide) (rfl : _ = ([(3, .int (iI 1)), (0, .ref h_p0), (1, .int a1), (2, .int a2)] : List (Nat × Value))) (fun ls hl => ?_)
    refine lv_aload_n hx hb dX7_canHave_31 rfl (lv_at hl 1 rfl) ?_
    refine va_get (D := (dC, dI)) (ci := 7) (v := .ref h_p0_now) (C := RX7) (T := TX7) (N := 15) hx hb hts m_X7_canHave_0 hown hK hP 0 rfl rfl 0 (by decide) (hts (.fieldLink RX7 7 "SleeperBerthsModel" "now" "[I") m_X7_canHave_1) (fun _ h9 => h9) rfl dX7_canHave_32 ?_
    refine lv_iload_n hx hb dX7_canHave_35 rfl (lv_at hl 2 rfl) ?_
    refine lv_iconst (v := iI 1) hx hb dX7_canHave_36 rfl ?_
    obtain ⟨r21, e22, h⟩ := bsome h
    have hPc := sb_P [(h_p0_now, .inl (cyI, 452, .inl v_now))] hP [1] rfl
    have hDc := sb_D [(h_p0_now, .inl (cyI, 452, .inl v_now))] hD [1] (by decide) rfl
    have hFc := va_free (wc := [(h_p0_now, .inl (cyI, 452, .inl v_now))]) hD hS hA [1] rfl
    refine va_calli (va_runS (As := [.ref h_p0_now, .int a1, .int (iI 1)]) (rest := []) ⟨hx, hb, hml, hown, hts⟩ (c_X7_of l dC dI cyI cyJ cyT h_p0_now H.size v_now a1 (iI 1) r21 e22) (va_cwS 3 hts gX7_canHave_X7_of rfl rfl rfl (by decide +kernel) ⟨Nat.le_of_ble_eq_true rfl, Nat.le_of_ble_eq_true rfl⟩) ⟨PRE.blind, PRE.go hK hPc hDc hNW⟩ rfl rfl hl.1 rfl (lv_room (Nat.le_of_ble_eq_true rfl)) dX7_canHave_37 ⟨Nat.zero_le _, Nat.zero_le _⟩) hS (fun q _ h => hFc q h) hFc (fun z23 u t H locs ht hvm hw hB hz1 hk1 hS => ?_)
    subst z23
    obtain ⟨hP, hD⟩ := va_join (wr := [(h_p0, .inr (7, [.ref h_p0_now, .ref h_p0_then, .ref h_p0_past, .int v_kept, .ref h_p0_text, .int v_typed, .int v_thrown, .int v_at, .int v_isFault, .ref h_p0_told, .int v_tolds, .int v_one, .int v_other, .int v_change, .int v_woken]))]) (w1 := [(h_p0_now, .inl (cyI, 452, .inl v_now))]) hP hD [1] [0] rfl rfl (by decide) (by decide) hk1 hFc (WLD.P hB ht) hB.2
    have hP : va_P (dC, dI) vwCl [(h_p0, .inr (7, [.ref h_p0_now, .ref h_p0_then, .ref h_p0_past, .int v_kept, .ref h_p0_text, .int v_typed, .int v_thrown, .int v_at, .int v_isFault, .ref h_p0_told, .int v_tolds, .int v_one, .int v_other, .int v_change, .int v_woken])), (h_p0_now, .inl (cyI, 452, .inl v_now))] H := hP
    have hD : va_D A [(h_p0, .inr (7, [.ref h_p0_now, .ref h_p0_then, .ref h_p0_past, .int v_kept, .ref h_p0_text, .int v_typed, .int v_thrown, .int v_at, .int v_isFault, .ref h_p0_told, .int v_tolds, .int v_one, .int v_other, .int v_change, .int v_woken])), (h_p0_now, .inl (cyI, 452, .inl v_now))] := hD
    refine lv_istore hx hb dX7_canHave_40 hl (by decide) (rfl : _ = ([(4, .int r21), (3, .int (iI 1)), (0, .ref h_p0), (1, .int a1), (2, .int a2)] : List (Nat × Value))) (fun ls hl => ?_)
    exact L42 n (iI 1) r21 _ _ hP hD hS ls (lv_sub hl [2, 3, 4, 1, 0] rfl) h
  · have h := ineg c20 h
    refine lv_aload_n hx hb dX7_canHave_12 rfl (lv_at hl 0 rfl) ?_
    refine va_get (D := (dC, dI)) (ci := 7) (v := .ref h_p0_now) (C := RX7) (T := TX7) (N := 15) hx hb hts m_X7_canHave_0 hown hK hP 0 rfl rfl 0 (by decide) (hts (.fieldLink RX7 7 "SleeperBerthsModel" "now" "[I") m_X7_canHave_1) (fun _ h9 => h9) rfl dX7_canHave_13 ?_
    refine lv_iload_n hx hb dX7_canHave_16 rfl (lv_at hl 1 rfl) ?_
    refine lv_iconst (v := iI 4) hx hb dX7_canHave_17 rfl ?_
    obtain ⟨r24, e25, h⟩ := bsome h
    have hPc := sb_P [(h_p0_now, .inl (cyI, 452, .inl v_now))] hP [1] rfl
    have hDc := sb_D [(h_p0_now, .inl (cyI, 452, .inl v_now))] hD [1] (by decide) rfl
    have hFc := va_free (wc := [(h_p0_now, .inl (cyI, 452, .inl v_now))]) hD hS hA [1] rfl
    refine va_calli (va_runS (As := [.ref h_p0_now, .int a1, .int (iI 4)]) (rest := []) ⟨hx, hb, hml, hown, hts⟩ (c_X7_of l dC dI cyI cyJ cyT h_p0_now H.size v_now a1 (iI 4) r24 e25) (va_cwS 3 hts gX7_canHave_X7_of rfl rfl rfl (by decide +kernel) ⟨Nat.le_of_ble_eq_true rfl, Nat.le_of_ble_eq_true rfl⟩) ⟨PRE.blind, PRE.go hK hPc hDc hNW⟩ rfl rfl hl.1 rfl (lv_room (Nat.le_of_ble_eq_true rfl)) dX7_canHave_18 ⟨Nat.zero_le _, Nat.zero_le _⟩) hS (fun q _ h => hFc q h) hFc (fun z26 u t H locs ht hvm hw hB hz1 hk1 hS => ?_)
    subst z26
    obtain ⟨hP, hD⟩ := va_join (wr := [(h_p0, .inr (7, [.ref h_p0_now, .ref h_p0_then, .ref h_p0_past, .int v_kept, .ref h_p0_text, .int v_typed, .int v_thrown, .int v_at, .int v_isFault, .ref h_p0_told, .int v_tolds, .int v_one, .int v_other, .int v_change, .int v_woken]))]) (w1 := [(h_p0_now, .inl (cyI, 452, .inl v_now))]) hP hD [1] [0] rfl rfl (by decide) (by decide) hk1 hFc (WLD.P hB ht) hB.2
    have hP : va_P (dC, dI) vwCl [(h_p0, .inr (7, [.ref h_p0_now, .ref h_p0_then, .ref h_p0_past, .int v_kept, .ref h_p0_text, .int v_typed, .int v_thrown, .int v_at, .int v_isFault, .ref h_p0_told, .int v_tolds, .int v_one, .int v_other, .int v_change, .int v_woken])), (h_p0_now, .inl (cyI, 452, .inl v_now))] H := hP
    have hD : va_D A [(h_p0, .inr (7, [.ref h_p0_now, .ref h_p0_then, .ref h_p0_past, .int v_kept, .ref h_p0_text, .int v_typed, .int v_thrown, .int v_at, .int v_isFault, .ref h_p0_told, .int v_tolds, .int v_one, .int v_other, .int v_change, .int v_woken])), (h_p0_now, .inl (cyI, 452, .inl v_now))] := hD
    refine lv_iload_n hx hb dX7_canHave_21 rfl (lv_at hl 2 rfl) ?_
    refine lv_icmp_ne (tgt := 29) hx hb dX7_canHave_22 (by decide) (fun c27 => ?_) (fun c27 => ?_)
    · have h := ineg c27 h
      refine lv_iconst (v := iI 0) hx hb dX7_canHave_29 rfl ?_
      refine lv_istore_n hx hb dX7_canHave_30 rfl hl (by decide) (rfl : _ = ([(3, .int (iI 0)), (0, .ref h_p0), (1, .int a1), (2, .int a2)] : List (Nat × Value))) (fun ls hl => ?_)
      refine lv_aload_n hx hb dX7_canHave_31 rfl (lv_at hl 1 rfl) ?_
      refine va_get (D := (dC, dI)) (ci := 7) (v := .ref h_p0_now) (C := RX7) (T := TX7) (N := 15) hx hb hts m_X7_canHave_0 hown hK hP 0 rfl rfl 0 (by decide) (hts (.fieldLink RX7 7 "SleeperBerthsModel" "now" "[I") m_X7_canHave_1) (fun _ h9 => h9) rfl dX7_canHave_32 ?_
      refine lv_iload_n hx hb dX7_canHave_35 rfl (lv_at hl 2 rfl) ?_
      refine lv_iconst (v := iI 1) hx hb dX7_canHave_36 rfl ?_
      obtain ⟨r28, e29, h⟩ := bsome h
      have hPc := sb_P [(h_p0_now, .inl (cyI, 452, .inl v_now))] hP [1] rfl
      have hDc := sb_D [(h_p0_now, .inl (cyI, 452, .inl v_now))] hD [1] (by decide) rfl
      have hFc := va_free (wc := [(h_p0_now, .inl (cyI, 452, .inl v_now))]) hD hS hA [1] rfl
      refine va_calli (va_runS (As := [.ref h_p0_now, .int a1, .int (iI 1)]) (rest := []) ⟨hx, hb, hml, hown, hts⟩ (c_X7_of l dC dI cyI cyJ cyT h_p0_now H.size v_now a1 (iI 1) r28 e29) (va_cwS 3 hts gX7_canHave_X7_of rfl rfl rfl (by decide +kernel) ⟨Nat.le_of_ble_eq_true rfl, Nat.le_of_ble_eq_true rfl⟩) ⟨PRE.blind, PRE.go hK hPc hDc hNW⟩ rfl rfl hl.1 rfl (lv_room (Nat.le_of_ble_eq_true rfl)) dX7_canHave_37 ⟨Nat.zero_le _, Nat.zero_le _⟩) hS (fun q _ h => hFc q h) hFc (fun z30 u t H locs ht hvm hw hB hz1 hk1 hS => ?_)
      subst z30
      obtain ⟨hP, hD⟩ := va_join (wr := [(h_p0, .inr (7, [.ref h_p0_now, .ref h_p0_then, .ref h_p0_past, .int v_kept, .ref h_p0_text, .int v_typed, .int v_thrown, .int v_at, .int v_isFault, .ref h_p0_told, .int v_tolds, .int v_one, .int v_other, .int v_change, .int v_woken]))]) (w1 := [(h_p0_now, .inl (cyI, 452, .inl v_now))]) hP hD [1] [0] rfl rfl (by decide) (by decide) hk1 hFc (WLD.P hB ht) hB.2
      have hP : va_P (dC, dI) vwCl [(h_p0, .inr (7, [.ref h_p0_now, .ref h_p0_then, .ref h_p0_past, .int v_kept, .ref h_p0_text, .int v_typed, .int v_thrown, .int v_at, .int v_isFault, .ref h_p0_told, .int v_tolds, .int v_one, .int v_other, .int v_change, .int v_woken])), (h_p0_now, .inl (cyI, 452, .inl v_now))] H := hP
      have hD : va_D A [(h_p0, .inr (7, [.ref h_p0_now, .ref h_p0_then, .ref h_p0_past, .int v_kept, .ref h_p0_text, .int v_typed, .int v_thrown, .int v_at, .int v_isFault, .ref h_p0_told, .int v_tolds, .int v_one, .int v_other, .int v_change, .int v_woken])), (h_p0_now, .inl (cyI, 452, .inl v_now))] := hD
      refine lv_istore hx hb dX7_canHave_40 hl (by decide) (rfl : _ = ([(4, .int r28), (3, .int (iI 0)), (0, .ref h_p0), (1, .int a1), (2, .int a2)] : List (Nat × Value))) (fun ls hl => ?_)
      exact L42 n (iI 0) r28 _ _ hP hD hS ls (lv_sub hl [2, 3, 4, 1, 0] rfl) h
    · have h := ipos c27 h
      refine lv_iconst (v := iI 1) hx hb dX7_canHave_25 rfl ?_
      refine lv_goto (tgt := 30) hx hb dX7_canHave_26 (by decide) ?_
      refine lv_istore_n hx hb dX7_canHave_30 rfl hl (by decide) (rfl : _ = ([(3, .int (iI 1)), (0, .ref h_p0), (1, .int a1), (2, .int a2)] : List (Nat × Value))) (fun ls hl => ?_)
      refine lv_aload_n hx hb dX7_canHave_31 rfl (lv_at hl 1 rfl) ?_
      refine va_get (D := (dC, dI)) (ci := 7) (v := .ref h_p0_now) (C := RX7) (T := TX7) (N := 15) hx hb hts m_X7_canHave_0 hown hK hP 0 rfl rfl 0 (by decide) (hts (.fieldLink RX7 7 "SleeperBerthsModel" "now" "[I") m_X7_canHave_1) (fun _ h9 => h9) rfl dX7_canHave_32 ?_
      refine lv_iload_n hx hb dX7_canHave_35 rfl (lv_at hl 2 rfl) ?_
      refine lv_iconst (v := iI 1) hx hb dX7_canHave_36 rfl ?_
      obtain ⟨r31, e32, h⟩ := bsome h
      have hPc := sb_P [(h_p0_now, .inl (cyI, 452, .inl v_now))] hP [1] rfl
      have hDc := sb_D [(h_p0_now, .inl (cyI, 452, .inl v_now))] hD [1] (by decide) rfl
      have hFc := va_free (wc := [(h_p0_now, .inl (cyI, 452, .inl v_now))]) hD hS hA [1] rfl
      refine va_calli (va_runS (As := [.ref h_p0_now, .int a1, .int (iI 1)]) (rest := []) ⟨hx, hb, hml, hown, hts⟩ (c_X7_of l dC dI cyI cyJ cyT h_p0_now H.size v_now a1 (iI 1) r31 e32) (va_cwS 3 hts gX7_canHave_X7_of rfl rfl rfl (by decide +kernel) ⟨Nat.le_of_ble_eq_true rfl, Nat.le_of_ble_eq_true rfl⟩) ⟨PRE.blind, PRE.go hK hPc hDc hNW⟩ rfl rfl hl.1 rfl (lv_room (Nat.le_of_ble_eq_true rfl)) dX7_canHave_37 ⟨Nat.zero_le _, Nat.zero_le _⟩) hS (fun q _ h => hFc q h) hFc (fun z33 u t H locs ht hvm hw hB hz1 hk1 hS => ?_)
      subst z33
      obtain ⟨hP, hD⟩ := va_join (wr := [(h_p0, .inr (7, [.ref h_p0_now, .ref h_p0_then, .ref h_p0_past, .int v_kept, .ref h_p0_text, .int v_typed, .int v_thrown, .int v_at, .int v_isFault, .ref h_p0_told, .int v_tolds, .int v_one, .int v_other, .int v_change, .int v_woken]))]) (w1 := [(h_p0_now, .inl (cyI, 452, .inl v_now))]) hP hD [1] [0] rfl rfl (by decide) (by decide) hk1 hFc (WLD.P hB ht) hB.2
      have hP : va_P (dC, dI) vwCl [(h_p0, .inr (7, [.ref h_p0_now, .ref h_p0_then, .ref h_p0_past, .int v_kept, .ref h_p0_text, .int v_typed, .int v_thrown, .int v_at, .int v_isFault, .ref h_p0_told, .int v_tolds, .int v_one, .int v_other, .int v_change, .int v_woken])), (h_p0_now, .inl (cyI, 452, .inl v_now))] H := hP
      have hD : va_D A [(h_p0, .inr (7, [.ref h_p0_now, .ref h_p0_then, .ref h_p0_past, .int v_kept, .ref h_p0_text, .int v_typed, .int v_thrown, .int v_at, .int v_isFault, .ref h_p0_told, .int v_tolds, .int v_one, .int v_other, .int v_change, .int v_woken])), (h_p0_now, .inl (cyI, 452, .inl v_now))] := hD
      refine lv_istore hx hb dX7_canHave_40 hl (by decide) (rfl : _ = ([(4, .int r31), (3, .int (iI 1)), (0, .ref h_p0), (1, .int a1), (2, .int a2)] : List (Nat × Value))) (fun ls hl => ?_)
      exact L42 n (iI 1) r31 _ _ hP hD hS ls (lv_sub hl [2, 3, 4, 1, 0] rfl) h
