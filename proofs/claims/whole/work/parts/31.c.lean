def s_X7_full_L10 (n : Nat) (v_now : Nat → Int32) : Nat → Int32 → Int32 → Int32 → Option (UInt64)
  | 0, _, _, _ => none
  | k + 1, x1, x2, x3 => (if iI 9 ≤ x3 then (if nn64 (FP.ddiv (FP.i2d x1) (FP.i2d (x1 + x2))) = true then (some ((FP.ddiv (FP.i2d x1) (FP.i2d (x1 + x2))))) else none) else ((s_X7_freeOn n v_now x3 (iI 0)).bind fun r3 => (s_X7_full_L10 n v_now k x1 (x2 + r3) (x3 + iI 1))))
def s_X7_full (n : Nat) (v_now : Nat → Int32) : Option (UInt64) := ((s_X7_overAll n v_now (iI 5)).bind fun r6 => (s_X7_full_L10 n v_now n r6 (iI 0) (iI 0)))
set_option maxHeartbeats 4000000 in
set_option maxRecDepth 100000 in
theorem c_X7_full (l : Launch) (dC : Nat → ClassId) (dI : Nat → Nat → Nat) (cyI cyJ cyT : ClassId) (h_p0 : Nat) (h_p0_now : Nat) (h_p0_then : Nat) (h_p0_past : Nat) (h_p0_text : Nat) (h_p0_told : Nat) (sz : Nat) (v_kept : Int32) (v_typed : Int32) (v_thrown : Int32) (v_at : Int32) (v_isFault : Int32) (v_tolds : Int32) (v_one : Int32) (v_other : Int32) (v_change : Int32) (v_woken : Int32) (v_now : Nat → Int32) (n : Nat) (o : UInt64) (h : s_X7_full n v_now = some o) : Met l yX7_full wsX7_full ({ frames := 5, cells := 0, slots := 0, locals := 115 }) (va_Pc [.ref h_p0] (PRE (dC, dI) (TYS cyI cyJ cyT) sz [(h_p0, .inr (7, [.ref h_p0_now, .ref h_p0_then, .ref h_p0_past, .int v_kept, .ref h_p0_text, .int v_typed, .int v_thrown, .int v_at, .int v_isFault, .ref h_p0_told, .int v_tolds, .int v_one, .int v_other, .int v_change, .int v_woken])), (h_p0_now, .inl (cyI, 452, .inl v_now))])) (va_Qd (S := Unit) (fun r _ => r = o) (fun _ t => WLD (dC, dI) (va_A [(h_p0, .inr (7, [.ref h_p0_now, .ref h_p0_then, .ref h_p0_past, .int v_kept, .ref h_p0_text, .int v_typed, .int v_thrown, .int v_at, .int v_isFault, .ref h_p0_told, .int v_tolds, .int v_one, .int v_other, .int v_change, .int v_woken])), (h_p0_now, .inl (cyI, 452, .inl v_now))] sz) [(h_p0, .inr (7, [.ref h_p0_now, .ref h_p0_then, .ref h_p0_past, .int v_kept, .ref h_p0_text, .int v_typed, .int v_thrown, .int v_at, .int v_isFault, .ref h_p0_told, .int v_tolds, .int v_one, .int v_other, .int v_change, .int v_woken])), (h_p0_now, .inl (cyI, 452, .inl v_now))] t) (va_A [(h_p0, .inr (7, [.ref h_p0_now, .ref h_p0_then, .ref h_p0_past, .int v_kept, .ref h_p0_text, .int v_typed, .int v_thrown, .int v_at, .int v_isFault, .ref h_p0_told, .int v_tolds, .int v_one, .int v_other, .int v_change, .int v_woken])), (h_p0_now, .inl (cyI, 452, .inl v_now))] sz)) 0 0 (va_A [(h_p0, .inr (7, [.ref h_p0_now, .ref h_p0_then, .ref h_p0_past, .int v_kept, .ref h_p0_text, .int v_typed, .int v_thrown, .int v_at, .int v_isFault, .ref h_p0_told, .int v_tolds, .int v_one, .int v_other, .int v_change, .int v_woken])), (h_p0_now, .inl (cyI, 452, .inl v_now))] sz) := by
  refine Met.ofW (cc := cX7_full) (maxL := 4) (ret := (some .double)) (by decide) rfl ?_
  intro p e s m args below meth c s₁ B hml hv
  obtain ⟨rfl, hsz, hP, hK, hD0, hNW⟩ := hv
  have hx := B.exec
  have hb := B.bytes
  have hr := B.returns
  have hts := atoms_spec (ws := wsX7_full) B.pre
  have hown : s.vm.findClass RX7 = some m.cls := findClass_of_methodNamed B.named
  have hlocks := B.notSynchronized
  subst hsz
  have hD := hD0.self (sz := s.heap.size)
  generalize hAe : va_A [(h_p0, .inr (7, [.ref h_p0_now, .ref h_p0_then, .ref h_p0_past, .int v_kept, .ref h_p0_text, .int v_typed, .int v_thrown, .int v_at, .int v_isFault, .ref h_p0_told, .int v_tolds, .int v_one, .int v_other, .int v_change, .int v_woken])), (h_p0_now, .inl (cyI, 452, .inl v_now))] s.heap.size = A at hD ⊢
  have hA : ∀ q : Nat, s.heap.size ≤ q → A q := fun q h => by rw [← hAe]; exact Or.inr h
  have hS : va_S A s.heap s.heap [] := va_S.rf
  have hP : va_P (dC, dI) vwCl [(h_p0, .inr (7, [.ref h_p0_now, .ref h_p0_then, .ref h_p0_past, .int v_kept, .ref h_p0_text, .int v_typed, .int v_thrown, .int v_at, .int v_isFault, .ref h_p0_told, .int v_tolds, .int v_one, .int v_other, .int v_change, .int v_woken])), (h_p0_now, .inl (cyI, 452, .inl v_now))] s.heap := hP
  have L10 : ∀ (k : Nat), (∀ (x1 : Int32) (x2 : Int32) (x3 : Int32) (H : Heap) (locs : List Loc), va_P (dC, dI) vwCl [(h_p0, .inr (7, [.ref h_p0_now, .ref h_p0_then, .ref h_p0_past, .int v_kept, .ref h_p0_text, .int v_typed, .int v_thrown, .int v_at, .int v_isFault, .ref h_p0_told, .int v_tolds, .int v_one, .int v_other, .int v_change, .int v_woken])), (h_p0_now, .inl (cyI, 452, .inl v_now))] H → va_D A [(h_p0, .inr (7, [.ref h_p0_now, .ref h_p0_then, .ref h_p0_past, .int v_kept, .ref h_p0_text, .int v_typed, .int v_thrown, .int v_at, .int v_isFault, .ref h_p0_told, .int v_tolds, .int v_one, .int v_other, .int v_change, .int v_woken])), (h_p0_now, .inl (cyI, 452, .inl v_now))] → va_S A s.heap H locs → ∀ (ls : Array Slot), lv_has ls 4 [(0, .ref h_p0), (1, .int x1), (2, .int x2), (3, .int x3)] →  s_X7_full_L10 n v_now k x1 x2 x3 = some o → W p l e (headSpec wsX7_full ({ frames := 5, cells := 0, slots := 0, locals := 115 })).room s m (([.ref h_p0] : List Value).toArray) below meth c H locs 0 0 (MQ below (va_Qd (S := Unit) (fun r _ => r = o) (fun _ t => WLD (dC, dI) A [(h_p0, .inr (7, [.ref h_p0_now, .ref h_p0_then, .ref h_p0_past, .int v_kept, .ref h_p0_text, .int v_typed, .int v_thrown, .int v_at, .int v_isFault, .ref h_p0_told, .int v_tolds, .int v_one, .int v_other, .int v_change, .int v_woken])), (h_p0_now, .inl (cyI, 452, .inl v_now))] t) A) (([.ref h_p0] : List Value).toArray) s 0 0 A) (F0 m 10 ls [])) := by
    intro k
    induction k with
    | zero =>
      intro  x1 x2 x3 H locs hP hD hS ls hl h
      rw [s_X7_full_L10] at h
      cases h
    | succ k ih =>
      intro  x1 x2 x3 H locs hP hD hS ls hl h
      rw [s_X7_full_L10] at h
      refine lv_iload_n hx hb dX7_full_10 rfl (lv_at hl 3 rfl) ?_
      refine lv_bipush (v := iI 9) hx hb dX7_full_11 (by decide) ?_
      refine lv_icmp_ge (tgt := 31) hx hb dX7_full_13 (by decide) (fun c1 => ?_) (fun c1 => ?_)
      · have h := ipos c1 h
        refine lv_iload_n hx hb dX7_full_31 rfl (lv_at hl 1 rfl) ?_
        refine lv_i2d hx hb dX7_full_32 ?_
        refine lv_iload_n hx hb dX7_full_33 rfl (lv_at hl 1 rfl) ?_
        refine lv_iload_n hx hb dX7_full_34 rfl (lv_at hl 2 rfl) ?_
        refine lv_iadd hx hb dX7_full_35 ?_
        refine lv_i2d hx hb dX7_full_36 ?_
        obtain ⟨g2, h⟩ := nsome h
        refine lv_ddiv hx hb dX7_full_37 g2 ?_
        obtain rfl := Option.some.inj h
        exact W.dret (v := (FP.ddiv (FP.i2d x1) (FP.i2d (x1 + x2)))) hx hb hr (fun t ht hW => ⟨⟨(FP.ddiv (FP.i2d x1) (FP.i2d (x1 + x2))), (), rfl, rfl, WLD.of ht hP hD⟩, hS.F ht⟩) hS.2.2 dX7_full_38
      · have h := ineg c1 h
        refine lv_iload_n hx hb dX7_full_16 rfl (lv_at hl 2 rfl) ?_
        refine lv_aload_n hx hb dX7_full_17 rfl (lv_at hl 0 rfl) ?_
        refine lv_iload_n hx hb dX7_full_18 rfl (lv_at hl 3 rfl) ?_
        refine lv_iconst (v := iI 0) hx hb dX7_full_19 rfl ?_
        obtain ⟨r3, e4, h⟩ := bsome h
        have hPc := sb_P [(h_p0, .inr (7, [.ref h_p0_now, .ref h_p0_then, .ref h_p0_past, .int v_kept, .ref h_p0_text, .int v_typed, .int v_thrown, .int v_at, .int v_isFault, .ref h_p0_told, .int v_tolds, .int v_one, .int v_other, .int v_change, .int v_woken])), (h_p0_now, .inl (cyI, 452, .inl v_now))] hP [0, 1] rfl
        have hDc := sb_D [(h_p0, .inr (7, [.ref h_p0_now, .ref h_p0_then, .ref h_p0_past, .int v_kept, .ref h_p0_text, .int v_typed, .int v_thrown, .int v_at, .int v_isFault, .ref h_p0_told, .int v_tolds, .int v_one, .int v_other, .int v_change, .int v_woken])), (h_p0_now, .inl (cyI, 452, .inl v_now))] hD [0, 1] (by decide) rfl
        have hFc := va_free (wc := [(h_p0, .inr (7, [.ref h_p0_now, .ref h_p0_then, .ref h_p0_past, .int v_kept, .ref h_p0_text, .int v_typed, .int v_thrown, .int v_at, .int v_isFault, .ref h_p0_told, .int v_tolds, .int v_one, .int v_other, .int v_change, .int v_woken])), (h_p0_now, .inl (cyI, 452, .inl v_now))]) hD hS hA [0, 1] rfl
        refine va_calli (va_runV (As := [.int x3, .int (iI 0)]) (rest := [.int x2]) ⟨hx, hb, hml, hown, hts⟩ (c_X7_freeOn l dC dI cyI cyJ cyT h_p0 h_p0_now h_p0_then h_p0_past h_p0_text h_p0_told H.size v_kept v_typed v_thrown v_at v_isFault v_tolds v_one v_other v_change v_woken v_now x3 (iI 0) n r3 e4) (cwV 2 hts gX7_full_X7_freeOn rfl rfl rfl (by decide +kernel) ⟨Nat.le_of_ble_eq_true rfl, Nat.le_of_ble_eq_true rfl⟩) ⟨PRE.blind, va_recv hK hPc (ci := 7) (q0 := 0) rfl rfl, PRE.go hK hPc hDc hNW⟩ rfl rfl hl.1 rfl (lv_room (Nat.le_of_ble_eq_true rfl)) dX7_full_20 ⟨Nat.zero_le _, Nat.zero_le _⟩) hS (fun q _ h => hFc q h) hFc (fun z5 u t H locs ht hvm hw hB hz1 hk1 hS => ?_)
        subst z5
        obtain ⟨hP, hD⟩ := va_join (wr := []) (w1 := [(h_p0, .inr (7, [.ref h_p0_now, .ref h_p0_then, .ref h_p0_past, .int v_kept, .ref h_p0_text, .int v_typed, .int v_thrown, .int v_at, .int v_isFault, .ref h_p0_told, .int v_tolds, .int v_one, .int v_other, .int v_change, .int v_woken])), (h_p0_now, .inl (cyI, 452, .inl v_now))]) hP hD [0, 1] [] rfl rfl (by decide) (by decide) hk1 hFc (WLD.P hB ht) hB.2
        have hP : va_P (dC, dI) vwCl [(h_p0, .inr (7, [.ref h_p0_now, .ref h_p0_then, .ref h_p0_past, .int v_kept, .ref h_p0_text, .int v_typed, .int v_thrown, .int v_at, .int v_isFault, .ref h_p0_told, .int v_tolds, .int v_one, .int v_other, .int v_change, .int v_woken])), (h_p0_now, .inl (cyI, 452, .inl v_now))] H := hP
        have hD : va_D A [(h_p0, .inr (7, [.ref h_p0_now, .ref h_p0_then, .ref h_p0_past, .int v_kept, .ref h_p0_text, .int v_typed, .int v_thrown, .int v_at, .int v_isFault, .ref h_p0_told, .int v_tolds, .int v_one, .int v_other, .int v_change, .int v_woken])), (h_p0_now, .inl (cyI, 452, .inl v_now))] := hD
        refine lv_iadd hx hb dX7_full_23 ?_
        refine lv_istore_n hx hb dX7_full_24 rfl hl (by decide) (rfl : _ = ([(2, .int (x2 + r3)), (0, .ref h_p0), (1, .int x1), (3, .int x3)] : List (Nat × Value))) (fun ls hl => ?_)
        refine lv_iinc (v := (x3 + iI 1)) hx hb dX7_full_25 hl (k := 3) rfl rfl (by decide) (rfl : _ = ([(3, .int (x3 + iI 1)), (2, .int (x2 + r3)), (0, .ref h_p0), (1, .int x1)] : List (Nat × Value))) (fun ls hl => ?_)
        refine lv_goto (tgt := 10) hx hb dX7_full_28 (by decide) ?_
        exact ih x1 (x2 + r3) (x3 + iI 1) _ _ hP hD hS ls (lv_sub hl [2, 3, 1, 0] rfl) h
  have hl := lv_entry ([.ref h_p0]) (n := 4) (Nat.le_of_ble_eq_true rfl)
  rw [lg_entry_eq]
  generalize (lg_sl ([.ref h_p0]) ++ List.replicate (4 - (lg_sl ([.ref h_p0])).length) Slot.unset).toArray = ls at hl ⊢
  have hl : lv_has ls 4 [(0, .ref h_p0)] := hl
  unfold s_X7_full at h
  refine lv_aload_n hx hb dX7_full_0 rfl (lv_at hl 0 rfl) ?_
  refine lv_iconst (v := iI 5) hx hb dX7_full_1 rfl ?_
  obtain ⟨r6, e7, h⟩ := bsome h
  have hPc := sb_P [(h_p0, .inr (7, [.ref h_p0_now, .ref h_p0_then, .ref h_p0_past, .int v_kept, .ref h_p0_text, .int v_typed, .int v_thrown, .int v_at, .int v_isFault, .ref h_p0_told, .int v_tolds, .int v_one, .int v_other, .int v_change, .int v_woken])), (h_p0_now, .inl (cyI, 452, .inl v_now))] hP [0, 1] rfl
  have hDc := sb_D [(h_p0, .inr (7, [.ref h_p0_now, .ref h_p0_then, .ref h_p0_past, .int v_kept, .ref h_p0_text, .int v_typed, .int v_thrown, .int v_at, .int v_isFault, .ref h_p0_told, .int v_tolds, .int v_one, .int v_other, .int v_change, .int v_woken])), (h_p0_now, .inl (cyI, 452, .inl v_now))] hD [0, 1] (by decide) rfl
  have hFc := va_free (wc := [(h_p0, .inr (7, [.ref h_p0_now, .ref h_p0_then, .ref h_p0_past, .int v_kept, .ref h_p0_text, .int v_typed, .int v_thrown, .int v_at, .int v_isFault, .ref h_p0_told, .int v_tolds, .int v_one, .int v_other, .int v_change, .int v_woken])), (h_p0_now, .inl (cyI, 452, .inl v_now))]) hD hS hA [0, 1] rfl
  refine va_calli (va_runV (As := [.int (iI 5)]) (rest := []) ⟨hx, hb, hml, hown, hts⟩ (c_X7_overAll l dC dI cyI cyJ cyT h_p0 h_p0_now h_p0_then h_p0_past h_p0_text h_p0_told s.heap.size v_kept v_typed v_thrown v_at v_isFault v_tolds v_one v_other v_change v_woken v_now (iI 5) n r6 e7) (cwV 1 hts gX7_full_X7_overAll rfl rfl rfl (by decide +kernel) ⟨Nat.le_of_ble_eq_true rfl, Nat.le_of_ble_eq_true rfl⟩) ⟨PRE.blind, va_recv hK hPc (ci := 7) (q0 := 0) rfl rfl, PRE.go hK hPc hDc hNW⟩ rfl rfl hl.1 rfl (lv_room (Nat.le_of_ble_eq_true rfl)) dX7_full_2 ⟨Nat.zero_le _, Nat.zero_le _⟩) hS (fun q _ h => hFc q h) hFc (fun z8 u t H locs ht hvm hw hB hz1 hk1 hS => ?_)
  subst z8
  obtain ⟨hP, hD⟩ := va_join (wr := []) (w1 := [(h_p0, .inr (7, [.ref h_p0_now, .ref h_p0_then, .ref h_p0_past, .int v_kept, .ref h_p0_text, .int v_typed, .int v_thrown, .int v_at, .int v_isFault, .ref h_p0_told, .int v_tolds, .int v_one, .int v_other, .int v_change, .int v_woken])), (h_p0_now, .inl (cyI, 452, .inl v_now))]) hP hD [0, 1] [] rfl rfl (by decide) (by decide) hk1 hFc (WLD.P hB ht) hB.2
  have hP : va_P (dC, dI) vwCl [(h_p0, .inr (7, [.ref h_p0_now, .ref h_p0_then, .ref h_p0_past, .int v_kept, .ref h_p0_text, .int v_typed, .int v_thrown, .int v_at, .int v_isFault, .ref h_p0_told, .int v_tolds, .int v_one, .int v_other, .int v_change, .int v_woken])), (h_p0_now, .inl (cyI, 452, .inl v_now))] H := hP
  have hD : va_D A [(h_p0, .inr (7, [.ref h_p0_now, .ref h_p0_then, .ref h_p0_past, .int v_kept, .ref h_p0_text, .int v_typed, .int v_thrown, .int v_at, .int v_isFault, .ref h_p0_told, .int v_tolds, .int v_one, .int v_other, .int v_change, .int v_woken])), (h_p0_now, .inl (cyI, 452, .inl v_now))] := hD
  refine lv_istore_n hx hb dX7_full_5 rfl hl (by decide) (rfl : _ = ([(1, .int r6), (0, .ref h_p0)] : List (Nat × Value))) (fun ls hl => ?_)
  refine lv_iconst (v := iI 0) hx hb dX7_full_6 rfl ?_
  refine lv_istore_n hx hb dX7_full_7 rfl hl (by decide) (rfl : _ = ([(2, .int (iI 0)), (1, .int r6), (0, .ref h_p0)] : List (Nat × Value))) (fun ls hl => ?_)
  refine lv_iconst (v := iI 0) hx hb dX7_full_8 rfl ?_
  refine lv_istore_n hx hb dX7_full_9 rfl hl (by decide) (rfl : _ = ([(3, .int (iI 0)), (2, .int (iI 0)), (1, .int r6), (0, .ref h_p0)] : List (Nat × Value))) (fun ls hl => ?_)
  exact L10 n r6 (iI 0) (iI 0) _ _ hP hD hS ls (lv_sub hl [3, 2, 1, 0] rfl) h
def s_X7_fullness (n : Nat) (v_thrown : Int32) (v_now : Nat → Int32) : Option (UInt64 × Int32) := ((s_X7_full n v_now).bind fun r1 => (some (r1, iI 0)))
set_option maxRecDepth 20000 in
theorem m_X7_fullness_0 : ∀ w ∈ u_ws RX7 TX7 15, w ∈ wsX7_fullness := by decide +kernel
set_option maxRecDepth 20000 in
theorem m_X7_fullness_1 : (.fieldLink RX7 25 "SleeperBerthsModel" "thrown" "I" : Cond) ∈ wsX7_fullness := by decide +kernel
set_option maxHeartbeats 4000000 in
set_option maxRecDepth 100000 in
theorem c_X7_fullness (l : Launch) (dC : Nat → ClassId) (dI : Nat → Nat → Nat) (cyI cyJ cyT : ClassId) (h_p0 : Nat) (h_p0_now : Nat) (h_p0_then : Nat) (h_p0_past : Nat) (h_p0_text : Nat) (h_p0_told : Nat) (sz : Nat) (v_kept : Int32) (v_typed : Int32) (v_thrown : Int32) (v_at : Int32) (v_isFault : Int32) (v_tolds : Int32) (v_one : Int32) (v_other : Int32) (v_change : Int32) (v_woken : Int32) (v_now : Nat → Int32) (n : Nat) (o : UInt64 × Int32) (h : s_X7_fullness n v_thrown v_now = some o) : Met l yX7_fullness wsX7_fullness ({ frames := 6, cells := 0, slots := 0, locals := 138 }) (va_Pc [.ref h_p0] (PRE (dC, dI) (TYS cyI cyJ cyT) sz [(h_p0, .inr (7, [.ref h_p0_now, .ref h_p0_then, .ref h_p0_past, .int v_kept, .ref h_p0_text, .int v_typed, .int v_thrown, .int v_at, .int v_isFault, .ref h_p0_told, .int v_tolds, .int v_one, .int v_other, .int v_change, .int v_woken])), (h_p0_now, .inl (cyI, 452, .inl v_now))])) (va_Qd (S := Unit) (fun r _ => r = o.1) (fun _ t => WLD (dC, dI) (va_A [(h_p0, .inr (7, [.ref h_p0_now, .ref h_p0_then, .ref h_p0_past, .int v_kept, .ref h_p0_text, .int v_typed, .int v_thrown, .int v_at, .int v_isFault, .ref h_p0_told, .int v_tolds, .int v_one, .int v_other, .int v_change, .int v_woken])), (h_p0_now, .inl (cyI, 452, .inl v_now))] sz) [(h_p0, .inr (7, [.ref h_p0_now, .ref h_p0_then, .ref h_p0_past, .int v_kept, .ref h_p0_text, .int v_typed, .int o.2, .int v_at, .int v_isFault, .ref h_p0_told, .int v_tolds, .int v_one, .int v_other, .int v_change, .int v_woken])), (h_p0_now, .inl (cyI, 452, .inl v_now))] t) (va_A [(h_p0, .inr (7, [.ref h_p0_now, .ref h_p0_then, .ref h_p0_past, .int v_kept, .ref h_p0_text, .int v_typed, .int v_thrown, .int v_at, .int v_isFault, .ref h_p0_told, .int v_tolds, .int v_one, .int v_other, .int v_change, .int v_woken])), (h_p0_now, .inl (cyI, 452, .inl v_now))] sz)) 0 0 (va_A [(h_p0, .inr (7, [.ref h_p0_now, .ref h_p0_then, .ref h_p0_past, .int v_kept, .ref h_p0_text, .int v_typed, .int v_thrown, .int v_at, .int v_isFault, .ref h_p0_told, .int v_tolds, .int v_one, .int v_other, .int v_change, .int v_woken])), (h_p0_now, .inl (cyI, 452, .inl v_now))] sz) := by
  refine Met.ofW (cc := cX7_fullness) (maxL := 1) (ret := (some .double)) (by decide) rfl ?_
  intro p e s m args below meth c s₁ B hml hv
  obtain ⟨rfl, hsz, hP, hK, hD0, hNW⟩ := hv
  have hx := B.exec
  have hb := B.bytes
  have hr := B.returns
  have hts := atoms_spec (ws := wsX7_fullness) B.pre
  have hown : s.vm.findClass RX7 = some m.cls := findClass_of_methodNamed B.named
  have hlocks := B.notSynchronized
  subst hsz
  have hD := hD0.self (sz := s.heap.size)
  generalize hAe : va_A [(h_p0, .inr (7, [.ref h_p0_now, .ref h_p0_then, .ref h_p0_past, .int v_kept, .ref h_p0_text, .int v_typed, .int v_thrown, .int v_at, .int v_isFault, .ref h_p0_told, .int v_tolds, .int v_one, .int v_other, .int v_change, .int v_woken])), (h_p0_now, .inl (cyI, 452, .inl v_now))] s.heap.size = A at hD ⊢
  have hA : ∀ q : Nat, s.heap.size ≤ q → A q := fun q h => by rw [← hAe]; exact Or.inr h
  have hS : va_S A s.heap s.heap [] := va_S.rf
  have hP : va_P (dC, dI) vwCl [(h_p0, .inr (7, [.ref h_p0_now, .ref h_p0_then, .ref h_p0_past, .int v_kept, .ref h_p0_text, .int v_typed, .int v_thrown, .int v_at, .int v_isFault, .ref h_p0_told, .int v_tolds, .int v_one, .int v_other, .int v_change, .int v_woken])), (h_p0_now, .inl (cyI, 452, .inl v_now))] s.heap := hP
  have hl := lv_entry ([.ref h_p0]) (n := 1) (Nat.le_of_ble_eq_true rfl)
  rw [lg_entry_eq]
  generalize (lg_sl ([.ref h_p0]) ++ List.replicate (1 - (lg_sl ([.ref h_p0])).length) Slot.unset).toArray = ls at hl ⊢
  have hl : lv_has ls 1 [(0, .ref h_p0)] := hl
  unfold s_X7_fullness at h
  refine lv_aload_n hx hb dX7_fullness_0 rfl (lv_at hl 0 rfl) ?_
  refine lv_iconst (v := iI 0) hx hb dX7_fullness_1 rfl ?_
  refine va_put (D := (dC, dI)) (ci := 7) (v := .int (iI 0)) (ty := .int) (C := RX7) (T := TX7) (N := 15) hx hb hts m_X7_fullness_0 tyX7 tyX7_ok nmX7 hown hK hP hD hS 0 rfl rfl 6 (by decide) (hts (.fieldLink RX7 25 "SleeperBerthsModel" "thrown" "I") m_X7_fullness_1) (fun _ h9 => h9) rfl (by decide +kernel) rfl rfl (Nat.le_of_ble_eq_true rfl) dX7_fullness_2 (fun H locs hP hD hS => ?_)
  have hP : va_P (dC, dI) vwCl [(h_p0, .inr (7, [.ref h_p0_now, .ref h_p0_then, .ref h_p0_past, .int v_kept, .ref h_p0_text, .int v_typed, .int (iI 0), .int v_at, .int v_isFault, .ref h_p0_told, .int v_tolds, .int v_one, .int v_other, .int v_change, .int v_woken])), (h_p0_now, .inl (cyI, 452, .inl v_now))] H := hP
  have hD : va_D A [(h_p0, .inr (7, [.ref h_p0_now, .ref h_p0_then, .ref h_p0_past, .int v_kept, .ref h_p0_text, .int v_typed, .int (iI 0), .int v_at, .int v_isFault, .ref h_p0_told, .int v_tolds, .int v_one, .int v_other, .int v_change, .int v_woken])), (h_p0_now, .inl (cyI, 452, .inl v_now))] := hD
  refine lv_aload_n hx hb dX7_fullness_5 rfl (lv_at hl 0 rfl) ?_
  obtain ⟨r1, e2, h⟩ := bsome h
  have hPc := sb_P [(h_p0, .inr (7, [.ref h_p0_now, .ref h_p0_then, .ref h_p0_past, .int v_kept, .ref h_p0_text, .int v_typed, .int (iI 0), .int v_at, .int v_isFault, .ref h_p0_told, .int v_tolds, .int v_one, .int v_other, .int v_change, .int v_woken])), (h_p0_now, .inl (cyI, 452, .inl v_now))] hP [0, 1] rfl
  have hDc := sb_D [(h_p0, .inr (7, [.ref h_p0_now, .ref h_p0_then, .ref h_p0_past, .int v_kept, .ref h_p0_text, .int v_typed, .int (iI 0), .int v_at, .int v_isFault, .ref h_p0_told, .int v_tolds, .int v_one, .int v_other, .int v_change, .int v_woken])), (h_p0_now, .inl (cyI, 452, .inl v_now))] hD [0, 1] (by decide) rfl
  have hFc := va_free (wc := [(h_p0, .inr (7, [.ref h_p0_now, .ref h_p0_then, .ref h_p0_past, .int v_kept, .ref h_p0_text, .int v_typed, .int (iI 0), .int v_at, .int v_isFault, .ref h_p0_told, .int v_tolds, .int v_one, .int v_other, .int v_change, .int v_woken])), (h_p0_now, .inl (cyI, 452, .inl v_now))]) hD hS hA [0, 1] rfl
  refine va_calld (va_runV (As := []) (rest := []) ⟨hx, hb, hml, hown, hts⟩ (c_X7_full l dC dI cyI cyJ cyT h_p0 h_p0_now h_p0_then h_p0_past h_p0_text h_p0_told H.size v_kept v_typed (iI 0) v_at v_isFault v_tolds v_one v_other v_change v_woken v_now n r1 e2) (cwV 0 hts gX7_fullness_X7_full rfl rfl rfl (by decide +kernel) ⟨Nat.le_of_ble_eq_true rfl, Nat.le_of_ble_eq_true rfl⟩) ⟨PRE.blind, va_recv hK hPc (ci := 7) (q0 := 0) rfl rfl, PRE.go hK hPc hDc hNW⟩ rfl rfl hl.1 rfl (lv_room (Nat.le_of_ble_eq_true rfl)) dX7_fullness_6 ⟨Nat.zero_le _, Nat.zero_le _⟩) hS (fun q _ h => hFc q h) hFc (fun z3 u t H locs ht hvm hw hB hz1 hk1 hS => ?_)
  subst z3
  obtain ⟨hP, hD⟩ := va_join (wr := []) (w1 := [(h_p0, .inr (7, [.ref h_p0_now, .ref h_p0_then, .ref h_p0_past, .int v_kept, .ref h_p0_text, .int v_typed, .int (iI 0), .int v_at, .int v_isFault, .ref h_p0_told, .int v_tolds, .int v_one, .int v_other, .int v_change, .int v_woken])), (h_p0_now, .inl (cyI, 452, .inl v_now))]) hP hD [0, 1] [] rfl rfl (by decide) (by decide) hk1 hFc (WLD.P hB ht) hB.2
  have hP : va_P (dC, dI) vwCl [(h_p0, .inr (7, [.ref h_p0_now, .ref h_p0_then, .ref h_p0_past, .int v_kept, .ref h_p0_text, .int v_typed, .int (iI 0), .int v_at, .int v_isFault, .ref h_p0_told, .int v_tolds, .int v_one, .int v_other, .int v_change, .int v_woken])), (h_p0_now, .inl (cyI, 452, .inl v_now))] H := hP
  have hD : va_D A [(h_p0, .inr (7, [.ref h_p0_now, .ref h_p0_then, .ref h_p0_past, .int v_kept, .ref h_p0_text, .int v_typed, .int (iI 0), .int v_at, .int v_isFault, .ref h_p0_told, .int v_tolds, .int v_one, .int v_other, .int v_change, .int v_woken])), (h_p0_now, .inl (cyI, 452, .inl v_now))] := hD
  obtain rfl := Option.some.inj h
  exact W.dret (v := r1) hx hb hr (fun t ht hW => ⟨⟨r1, (), rfl, rfl, WLD.of ht hP hD⟩, hS.F ht⟩) hS.2.2 dX7_fullness_9
def s_X0_init_L46 (n : Nat) : Nat → (Nat → Int32) → (Nat → Int32) → Int32 → Option ((Nat → Int32) × (Nat → Int32))
  | 0, _, _, _ => none
  | k + 1, v_ends, v_holders, x1 => (if iI 3 ≤ x1 then (some (v_ends, v_holders)) else (if gd x1 3 = true then (s_X0_init_L46 n k (upd v_ends x1.toNatClampNeg (iI 9)) v_holders (x1 + iI 1)) else none))
def s_X0_init_L22 (n : Nat) : Nat → (Nat → Int32) → (Nat → Int32) → Int32 → Option ((Nat → Int32) × (Nat → Int32))
  | 0, _, _, _ => none
  | k + 1, v_ends, v_holders, x1 => (if iI 162 ≤ x1 then (s_X0_init_L46 n n v_ends v_holders (iI 0)) else (if gd x1 162 = true then (s_X0_init_L22 n k v_ends (upd v_holders x1.toNatClampNeg (iI (-1))) (x1 + iI 1)) else none))
def s_X0_init (n : Nat) : Option ((Nat → Int32) × (Nat → Int32)) := (s_X0_init_L22 n n (fun _ => 0) (fun _ => 0) (iI 0))
set_option maxRecDepth 20000 in
theorem m_X0_init_0 : ∀ w ∈ u_ws RX0 TX0 2, w ∈ wsX0_init := by decide +kernel
set_option maxRecDepth 20000 in
theorem m_X0_init_1 : (.fieldLink RX0 15 "SleeperBerths$Berths" "ends" "[I" : Cond) ∈ wsX0_init := by decide +kernel
set_option maxRecDepth 20000 in
theorem m_X0_init_2 : (.fieldLink RX0 9 "SleeperBerths$Berths" "holders" "[I" : Cond) ∈ wsX0_init := by decide +kernel
set_option maxRecDepth 20000 in
theorem m_X0_init_3 : (.methodLink RX0 3 objectInit : Cond) ∈ wsX0_init := by decide +kernel
set_option maxRecDepth 20000 in
theorem m_X0_init_4 : (.instanceMethod objectInit : Cond) ∈ wsX0_init := by decide +kernel
set_option maxRecDepth 20000 in
theorem m_X0_init_5 : (.code objectInit ⟨#[0xb1]⟩ 1 none : Cond) ∈ wsX0_init := by decide +kernel
set_option maxRecDepth 20000 in
theorem m_X0_init_6 : (.arrayClass .int : Cond) ∈ wsX0_init := by decide +kernel
set_option maxHeartbeats 4000000 in
set_option maxRecDepth 100000 in
theorem c_X0_init (l : Launch) (dC : Nat → ClassId) (dI : Nat → Nat → Nat) (cyI cyJ cyT : ClassId) (h_p0 : Nat) (sz : Nat) (n : Nat) (o : (Nat → Int32) × (Nat → Int32)) (h : s_X0_init n = some o) : Met l yX0_init wsX0_init ({ frames := 1, cells := 2, slots := 165, locals := 12 }) (va_Pc [.ref h_p0] (PRE (dC, dI) (TYS cyI cyJ cyT) sz [(h_p0, .inr (0, [.null, .null]))])) (va_Qv (S := Unit) (fun _ => True) (fun _ t => ∃ (b_ends b_holders : Nat), WLD (dC, dI) (va_A [(h_p0, .inr (0, [.null, .null]))] sz) [(h_p0, .inr (0, [.ref b_holders, .ref b_ends])), (b_ends, .inl (cyI, 3, .inl o.1)), (b_holders, .inl (cyI, 162, .inl o.2))] t) (va_A [(h_p0, .inr (0, [.null, .null]))] sz)) 2 165 (va_A [(h_p0, .inr (0, [.null, .null]))] sz) := by
  refine Met.ofW (cc := cX0_init) (maxL := 2) (ret := none) (by decide) rfl ?_
  intro p e s m args below meth c s₁ B hml hv
  obtain ⟨rfl, hsz, hP, hK, hD0, hNW⟩ := hv
  have hx := B.exec
  have hb := B.bytes
  have hr := B.returns
  have hts := atoms_spec (ws := wsX0_init) B.pre
  have hown : s.vm.findClass RX0 = some m.cls := findClass_of_methodNamed B.named
  have hlocks := B.notSynchronized
  have hin : meth.name = "<init>" := (name_of_methodNamed B.named B.method).1
  subst hsz
  have hD := hD0.self (sz := s.heap.size)
  generalize hAe : va_A [(h_p0, .inr (0, [.null, .null]))] s.heap.size = A at hD ⊢
  have hA : ∀ q : Nat, s.heap.size ≤ q → A q := fun q h => by rw [← hAe]; exact Or.inr h
  have hS : va_S A s.heap s.heap [] := va_S.rf
  have hP : va_P (dC, dI) vwCl [(h_p0, .inr (0, [.null, .null]))] s.heap := hP
  have L46 : ∀ (k : Nat), (∀ (b_ends : Nat) (b_holders : Nat) (v_ends : Nat → Int32) (v_holders : Nat → Int32) (x1 : Int32) (H : Heap) (locs : List Loc), va_P (dC, dI) vwCl [(h_p0, .inr (0, [.ref b_holders, .ref b_ends])), (b_ends, .inl (cyI, 3, .inl v_ends)), (b_holders, .inl (cyI, 162, .inl v_holders))] H → va_D A [(h_p0, .inr (0, [.ref b_holders, .ref b_ends])), (b_ends, .inl (cyI, 3, .inl v_ends)), (b_holders, .inl (cyI, 162, .inl v_holders))] → va_S A s.heap H locs → ∀ (ls : Array Slot), lv_has ls 2 [(0, .ref h_p0), (1, .int x1)] →  s_X0_init_L46 n k v_ends v_holders x1 = some o → W p l e (headSpec wsX0_init ({ frames := 1, cells := 2, slots := 165, locals := 12 })).room s m (([.ref h_p0] : List Value).toArray) below meth c H locs 2 165 (MQ below (va_Qv (S := Unit) (fun _ => True) (fun _ t => ∃ (b_ends b_holders : Nat), WLD (dC, dI) A [(h_p0, .inr (0, [.ref b_holders, .ref b_ends])), (b_ends, .inl (cyI, 3, .inl o.1)), (b_holders, .inl (cyI, 162, .inl o.2))] t) A) (([.ref h_p0] : List Value).toArray) s 2 165 A) (F0 m 46 ls [])) := by
    intro k
    induction k with
    | zero =>
      intro b_ends b_holders v_ends v_holders x1 H locs hP hD hS ls hl h
      rw [s_X0_init_L46] at h
      cases h
    | succ k ih =>
      intro b_ends b_holders v_ends v_holders x1 H locs hP hD hS ls hl h
      rw [s_X0_init_L46] at h
      refine lv_iload_n hx hb dX0_init_46 rfl (lv_at hl 1 rfl) ?_
      refine lv_aload_n hx hb dX0_init_47 rfl (lv_at hl 0 rfl) ?_
      refine va_get (D := (dC, dI)) (ci := 0) (v := .ref b_ends) (C := RX0) (T := TX0) (N := 2) hx hb hts m_X0_init_0 hown hK hP 0 rfl rfl 1 (by decide) (hts (.fieldLink RX0 15 "SleeperBerths$Berths" "ends" "[I") m_X0_init_1) (fun _ h9 => h9) rfl dX0_init_48 ?_
      refine va_alen (D := (dC, dI)) (v := iI 3) hx hb hK hP 1 0 rfl rfl (show Int32.ofNat 3 = iI 3 by decide) dX0_init_51 ?_
      refine lv_icmp_ge (tgt := 69) hx hb dX0_init_52 (by decide) (fun c1 => ?_) (fun c1 => ?_)
      · have h := ipos c1 h
        obtain rfl := Option.some.inj h
        refine W.widen (k := 2) (n := 165) (Nat.le_of_ble_eq_true rfl) (Nat.le_of_ble_eq_true rfl) ?_
        exact W.vret hx hb hr (fun t ht hW => ⟨⟨(), rfl, trivial, b_ends, b_holders, WLD.of ht hP hD⟩, hS.F ht⟩) hS.2.2 dX0_init_69
      · have h := ineg c1 h
        refine lv_aload_n hx hb dX0_init_55 rfl (lv_at hl 0 rfl) ?_
        refine va_get (D := (dC, dI)) (ci := 0) (v := .ref b_ends) (C := RX0) (T := TX0) (N := 2) hx hb hts m_X0_init_0 hown hK hP 0 rfl rfl 1 (by decide) (hts (.fieldLink RX0 15 "SleeperBerths$Berths" "ends" "[I") m_X0_init_1) (fun _ h9 => h9) rfl dX0_init_56 ?_
        refine lv_iload_n hx hb dX0_init_59 rfl (lv_at hl 1 rfl) ?_
        refine lv_bipush (v := iI 9) hx hb dX0_init_60 (by decide) ?_
        obtain ⟨g2, h⟩ := gsome h
        refine va_iast (D := (dC, dI)) hx hb hK hP hD hS 1 0 rfl rfl g2 dX0_init_62 (fun H locs hP hD hS => ?_)
        have hP : va_P (dC, dI) vwCl [(h_p0, .inr (0, [.ref b_holders, .ref b_ends])), (b_ends, .inl (cyI, 3, .inl (upd v_ends x1.toNatClampNeg (iI 9)))), (b_holders, .inl (cyI, 162, .inl v_holders))] H := hP
        have hD : va_D A [(h_p0, .inr (0, [.ref b_holders, .ref b_ends])), (b_ends, .inl (cyI, 3, .inl (upd v_ends x1.toNatClampNeg (iI 9)))), (b_holders, .inl (cyI, 162, .inl v_holders))] := hD
        refine lv_iinc (v := (x1 + iI 1)) hx hb dX0_init_63 hl (k := 1) rfl rfl (by decide) (rfl : _ = ([(1, .int (x1 + iI 1)), (0, .ref h_p0)] : List (Nat × Value))) (fun ls hl => ?_)
        refine lv_goto (tgt := 46) hx hb dX0_init_66 (by decide) ?_
        exact ih b_ends b_holders (upd v_ends x1.toNatClampNeg (iI 9)) v_holders (x1 + iI 1) _ _ hP hD hS ls (lv_sub hl [1, 0] rfl) h
  have L22 : ∀ (k : Nat), (∀ (b_ends : Nat) (b_holders : Nat) (v_ends : Nat → Int32) (v_holders : Nat → Int32) (x1 : Int32) (H : Heap) (locs : List Loc), va_P (dC, dI) vwCl [(h_p0, .inr (0, [.ref b_holders, .ref b_ends])), (b_ends, .inl (cyI, 3, .inl v_ends)), (b_holders, .inl (cyI, 162, .inl v_holders))] H → va_D A [(h_p0, .inr (0, [.ref b_holders, .ref b_ends])), (b_ends, .inl (cyI, 3, .inl v_ends)), (b_holders, .inl (cyI, 162, .inl v_holders))] → va_S A s.heap H locs → ∀ (ls : Array Slot), lv_has ls 2 [(0, .ref h_p0), (1, .int x1)] →  s_X0_init_L22 n k v_ends v_holders x1 = some o → W p l e (headSpec wsX0_init ({ frames := 1, cells := 2, slots := 165, locals := 12 })).room s m (([.ref h_p0] : List Value).toArray) below meth c H locs 2 165 (MQ below (va_Qv (S := Unit) (fun _ => True) (fun _ t => ∃ (b_ends b_holders : Nat), WLD (dC, dI) A [(h_p0, .inr (0, [.ref b_holders, .ref b_ends])), (b_ends, .inl (cyI, 3, .inl o.1)), (b_holders, .inl (cyI, 162, .inl o.2))] t) A) (([.ref h_p0] : List Value).toArray) s 2 165 A) (F0 m 22 ls [])) := by
    intro k
    induction k with
    | zero =>
      intro b_ends b_holders v_ends v_holders x1 H locs hP hD hS ls hl h
      rw [s_X0_init_L22] at h
      cases h
    | succ k ih =>
      intro b_ends b_holders v_ends v_holders x1 H locs hP hD hS ls hl h
      rw [s_X0_init_L22] at h
      refine lv_iload_n hx hb dX0_init_22 rfl (lv_at hl 1 rfl) ?_
      refine lv_aload_n hx hb dX0_init_23 rfl (lv_at hl 0 rfl) ?_
      refine va_get (D := (dC, dI)) (ci := 0) (v := .ref b_holders) (C := RX0) (T := TX0) (N := 2) hx hb hts m_X0_init_0 hown hK hP 0 rfl rfl 0 (by decide) (hts (.fieldLink RX0 9 "SleeperBerths$Berths" "holders" "[I") m_X0_init_2) (fun _ h9 => h9) rfl dX0_init_24 ?_
      refine va_alen (D := (dC, dI)) (v := iI 162) hx hb hK hP 2 0 rfl rfl (show Int32.ofNat 162 = iI 162 by decide) dX0_init_27 ?_
      refine lv_icmp_ge (tgt := 44) hx hb dX0_init_28 (by decide) (fun c3 => ?_) (fun c3 => ?_)
      · have h := ipos c3 h
        refine lv_iconst (v := iI 0) hx hb dX0_init_44 rfl ?_
        refine lv_istore_n hx hb dX0_init_45 rfl hl (by decide) (rfl : _ = ([(1, .int (iI 0)), (0, .ref h_p0)] : List (Nat × Value))) (fun ls hl => ?_)
        exact L46 n b_ends b_holders v_ends v_holders (iI 0) _ _ hP hD hS ls (lv_sub hl [1, 0] rfl) h
      · have h := ineg c3 h
        refine lv_aload_n hx hb dX0_init_31 rfl (lv_at hl 0 rfl) ?_
        refine va_get (D := (dC, dI)) (ci := 0) (v := .ref b_holders) (C := RX0) (T := TX0) (N := 2) hx hb hts m_X0_init_0 hown hK hP 0 rfl rfl 0 (by decide) (hts (.fieldLink RX0 9 "SleeperBerths$Berths" "holders" "[I") m_X0_init_2) (fun _ h9 => h9) rfl dX0_init_32 ?_
        refine lv_iload_n hx hb dX0_init_35 rfl (lv_at hl 1 rfl) ?_
        refine lv_iconst (v := iI (-1)) hx hb dX0_init_36 rfl ?_
        obtain ⟨g4, h⟩ := gsome h
        refine va_iast (D := (dC, dI)) hx hb hK hP hD hS 2 0 rfl rfl g4 dX0_init_37 (fun H locs hP hD hS => ?_)
        have hP : va_P (dC, dI) vwCl [(h_p0, .inr (0, [.ref b_holders, .ref b_ends])), (b_ends, .inl (cyI, 3, .inl v_ends)), (b_holders, .inl (cyI, 162, .inl (upd v_holders x1.toNatClampNeg (iI (-1)))))] H := hP
        have hD : va_D A [(h_p0, .inr (0, [.ref b_holders, .ref b_ends])), (b_ends, .inl (cyI, 3, .inl v_ends)), (b_holders, .inl (cyI, 162, .inl (upd v_holders x1.toNatClampNeg (iI (-1)))))] := hD
        refine lv_iinc (v := (x1 + iI 1)) hx hb dX0_init_38 hl (k := 1) rfl rfl (by decide) (rfl : _ = ([(1, .int (x1 + iI 1)), (0, .ref h_p0)] : List (Nat × Value))) (fun ls hl => ?_)
        refine lv_goto (tgt := 22) hx hb dX0_init_41 (by decide) ?_
        exact ih b_ends b_holders v_ends (upd v_holders x1.toNatClampNeg (iI (-1))) (x1 + iI 1) _ _ hP hD hS ls (lv_sub hl [1, 0] rfl) h
  have hl := lv_entry ([.ref h_p0]) (n := 2) (Nat.le_of_ble_eq_true rfl)
  rw [lg_entry_eq]
  generalize (lg_sl ([.ref h_p0]) ++ List.replicate (2 - (lg_sl ([.ref h_p0])).length) Slot.unset).toArray = ls at hl ⊢
  have hl : lv_has ls 2 [(0, .ref h_p0)] := hl
  unfold s_X0_init at h
  refine lv_aload_n hx hb dX0_init_0 rfl (lv_at hl 0 rfl) ?_
  refine W.objInit hx hb hown (hts (.methodLink RX0 3 objectInit) m_X0_init_3) (hts (.instanceMethod objectInit) m_X0_init_4) (hts (.code objectInit ⟨#[0xb1]⟩ 1 none) m_X0_init_5) rfl (by rw [hml]; exact hl.1) rfl dX0_init_1 (Nat.le_of_ble_eq_true rfl) (Nat.le_of_ble_eq_true rfl) ?_
  refine W.eq (g2 := F0 m 4 ls []) rfl ?_
  refine lv_aload_n hx hb dX0_init_4 rfl (lv_at hl 0 rfl) ?_
  refine lv_sipush (v := iI 162) hx hb dX0_init_5 (by decide) ?_
  refine newI hx hb (hts (.arrayClass .int) m_X0_init_6) dX0_init_8 hK hP hD hS hA (NN := 162) (by decide) (by decide) (by decide) (Nat.le_of_ble_eq_true rfl) (Nat.le_of_ble_eq_true rfl) (fun q5 H hP hD hS => ?_)
  have hP : va_P (dC, dI) vwCl [(h_p0, .inr (0, [.null, .null])), (q5, .inl (cyI, 162, .inl (fun _ => 0)))] H := hP
  have hD : va_D A [(h_p0, .inr (0, [.null, .null])), (q5, .inl (cyI, 162, .inl (fun _ => 0)))] := hD
  refine va_putF (D := (dC, dI)) (ci := 0) (v := .ref q5) (ty := .array .int) (C := RX0) (T := TX0) (N := 2) hx hb hts m_X0_init_0 tyX0 tyX0_ok nmX0 hown hK hP hD hS 0 rfl rfl 0 (by decide) (hts (.fieldLink RX0 9 "SleeperBerths$Berths" "holders" "[I") m_X0_init_2) (fun _ h9 => h9) rfl hin rfl (by decide +kernel) rfl rfl (Nat.le_of_ble_eq_true rfl) dX0_init_10 (fun H locs hP hD hS => ?_)
  have hP : va_P (dC, dI) vwCl [(h_p0, .inr (0, [.ref q5, .null])), (q5, .inl (cyI, 162, .inl (fun _ => 0)))] H := hP
  have hD : va_D A [(h_p0, .inr (0, [.ref q5, .null])), (q5, .inl (cyI, 162, .inl (fun _ => 0)))] := hD
  refine lv_aload_n hx hb dX0_init_13 rfl (lv_at hl 0 rfl) ?_
  refine lv_iconst (v := iI 3) hx hb dX0_init_14 rfl ?_
  refine newI hx hb (hts (.arrayClass .int) m_X0_init_6) dX0_init_15 hK hP hD hS hA (NN := 3) (by decide) (by decide) (by decide) (Nat.le_of_ble_eq_true rfl) (Nat.le_of_ble_eq_true rfl) (fun q6 H hP hD hS => ?_)
  have hP : va_P (dC, dI) vwCl [(h_p0, .inr (0, [.ref q5, .null])), (q5, .inl (cyI, 162, .inl (fun _ => 0))), (q6, .inl (cyI, 3, .inl (fun _ => 0)))] H := hP
  have hD : va_D A [(h_p0, .inr (0, [.ref q5, .null])), (q5, .inl (cyI, 162, .inl (fun _ => 0))), (q6, .inl (cyI, 3, .inl (fun _ => 0)))] := hD
  refine va_putF (D := (dC, dI)) (ci := 0) (v := .ref q6) (ty := .array .int) (C := RX0) (T := TX0) (N := 2) hx hb hts m_X0_init_0 tyX0 tyX0_ok nmX0 hown hK hP hD hS 0 rfl rfl 1 (by decide) (hts (.fieldLink RX0 15 "SleeperBerths$Berths" "ends" "[I") m_X0_init_1) (fun _ h9 => h9) rfl hin rfl (by decide +kernel) rfl rfl (Nat.le_of_ble_eq_true rfl) dX0_init_17 (fun H locs hP hD hS => ?_)
  have hP : va_P (dC, dI) vwCl [(h_p0, .inr (0, [.ref q5, .ref q6])), (q5, .inl (cyI, 162, .inl (fun _ => 0))), (q6, .inl (cyI, 3, .inl (fun _ => 0)))] H := hP
  have hD : va_D A [(h_p0, .inr (0, [.ref q5, .ref q6])), (q5, .inl (cyI, 162, .inl (fun _ => 0))), (q6, .inl (cyI, 3, .inl (fun _ => 0)))] := hD
  refine lv_iconst (v := iI 0) hx hb dX0_init_20 rfl ?_
  refine lv_istore_n hx hb dX0_init_21 rfl hl (by decide) (rfl : _ = ([(1, .int (iI 0)), (0, .ref h_p0)] : List (Nat × Value))) (fun ls hl => ?_)
  exact L22 n q6 q5 (fun _ => 0) (fun _ => 0) (iI 0) _ _ (sb_P [(h_p0, .inr (0, [.ref q5, .ref q6])), (q6, .inl (cyI, 3, .inl (fun _ => 0))), (q5, .inl (cyI, 162, .inl (fun _ => 0)))] hP [0, 2, 1] rfl) (sb_D [(h_p0, .inr (0, [.ref q5, .ref q6])), (q6, .inl (cyI, 3, .inl (fun _ => 0))), (q5, .inl (cyI, 162, .inl (fun _ => 0)))] hD [0, 2, 1] (by decide) rfl) hS ls (lv_sub hl [1, 0] rfl) h
def s_X0_takeOver (n : Nat) (v_ends : Nat → Int32) (v_holders : Nat → Int32) (v_ends_1 : Nat → Int32) (v_holders_1 : Nat → Int32) : Option ((Nat → Int32) × (Nat → Int32)) := ((s_X6_copyAll n 162 v_holders_1 162 v_holders).bind fun r1 => ((s_X6_copyAll n 3 v_ends_1 3 v_ends).bind fun r4 => (some (r4, r1))))
set_option maxRecDepth 20000 in
theorem m_X0_takeOver_0 : ∀ w ∈ u_ws RX0 TX0 2, w ∈ wsX0_takeOver := by decide +kernel
set_option maxRecDepth 20000 in
theorem m_X0_takeOver_1 : (.fieldLink RX0 9 "SleeperBerths$Berths" "holders" "[I" : Cond) ∈ wsX0_takeOver := by decide +kernel
set_option maxRecDepth 20000 in
theorem m_X0_takeOver_2 : (.initialized RX6 : Cond) ∈ wsX0_takeOver := by decide +kernel
set_option maxRecDepth 20000 in
theorem m_X0_takeOver_3 : (.static yX6_copyAll : Cond) ∈ wsX0_takeOver := by decide +kernel
set_option maxRecDepth 20000 in
theorem m_X0_takeOver_4 : (.fieldLink RX0 15 "SleeperBerths$Berths" "ends" "[I" : Cond) ∈ wsX0_takeOver := by decide +kernel
set_option maxHeartbeats 4000000 in
set_option maxRecDepth 100000 in
theorem c_X0_takeOver (l : Launch) (dC : Nat → ClassId) (dI : Nat → Nat → Nat) (cyI cyJ cyT : ClassId) (h_p0 : Nat) (h_p0_holders : Nat) (h_p0_ends : Nat) (h_p1 : Nat) (h_p1_holders : Nat) (h_p1_ends : Nat) (sz : Nat) (v_ends : Nat → Int32) (v_holders : Nat → Int32) (v_ends_1 : Nat → Int32) (v_holders_1 : Nat → Int32) (n : Nat) (o : (Nat → Int32) × (Nat → Int32)) (h : s_X0_takeOver n v_ends v_holders v_ends_1 v_holders_1 = some o) : Met l yX0_takeOver wsX0_takeOver ({ frames := 2, cells := 0, slots := 0, locals := 44 }) (va_Pc [.ref h_p0, .ref h_p1] (PRE (dC, dI) (TYS cyI cyJ cyT) sz [(h_p0, .inr (0, [.ref h_p0_holders, .ref h_p0_ends])), (h_p0_ends, .inl (cyI, 3, .inl v_ends)), (h_p0_holders, .inl (cyI, 162, .inl v_holders)), (h_p1, .inr (0, [.ref h_p1_holders, .ref h_p1_ends])), (h_p1_ends, .inl (cyI, 3, .inl v_ends_1)), (h_p1_holders, .inl (cyI, 162, .inl v_holders_1))])) (va_Qv (S := Unit) (fun _ => True) (fun _ t => WLD (dC, dI) (va_A [(h_p0, .inr (0, [.ref h_p0_holders, .ref h_p0_ends])), (h_p0_ends, .inl (cyI, 3, .inl v_ends)), (h_p0_holders, .inl (cyI, 162, .inl v_holders)), (h_p1, .inr (0, [.ref h_p1_holders, .ref h_p1_ends])), (h_p1_ends, .inl (cyI, 3, .inl v_ends_1)), (h_p1_holders, .inl (cyI, 162, .inl v_holders_1))] sz) [(h_p0, .inr (0, [.ref h_p0_holders, .ref h_p0_ends])), (h_p0_ends, .inl (cyI, 3, .inl o.1)), (h_p0_holders, .inl (cyI, 162, .inl o.2)), (h_p1, .inr (0, [.ref h_p1_holders, .ref h_p1_ends])), (h_p1_ends, .inl (cyI, 3, .inl v_ends_1)), (h_p1_holders, .inl (cyI, 162, .inl v_holders_1))] t) (va_A [(h_p0, .inr (0, [.ref h_p0_holders, .ref h_p0_ends])), (h_p0_ends, .inl (cyI, 3, .inl v_ends)), (h_p0_holders, .inl (cyI, 162, .inl v_holders)), (h_p1, .inr (0, [.ref h_p1_holders, .ref h_p1_ends])), (h_p1_ends, .inl (cyI, 3, .inl v_ends_1)), (h_p1_holders, .inl (cyI, 162, .inl v_holders_1))] sz)) 0 0 (va_A [(h_p0, .inr (0, [.ref h_p0_holders, .ref h_p0_ends])), (h_p0_ends, .inl (cyI, 3, .inl v_ends)), (h_p0_holders, .inl (cyI, 162, .inl v_holders)), (h_p1, .inr (0, [.ref h_p1_holders, .ref h_p1_ends])), (h_p1_ends, .inl (cyI, 3, .inl v_ends_1)), (h_p1_holders, .inl (cyI, 162, .inl v_holders_1))] sz) := by
  refine Met.ofW (cc := cX0_takeOver) (maxL := 2) (ret := none) (by decide) rfl ?_
  intro p e s m args below meth c s₁ B hml hv
  obtain ⟨rfl, hsz, hP, hK, hD0, hNW⟩ := hv
  have hx := B.exec
  have hb := B.bytes
  have hr := B.returns
  have hts := atoms_spec (ws := wsX0_takeOver) B.pre
  have hown : s.vm.findClass RX0 = some m.cls := findClass_of_methodNamed B.named
  have hlocks := B.notSynchronized
  subst hsz
  have hD := hD0.self (sz := s.heap.size)
  generalize hAe : va_A [(h_p0, .inr (0, [.ref h_p0_holders, .ref h_p0_ends])), (h_p0_ends, .inl (cyI, 3, .inl v_ends)), (h_p0_holders, .inl (cyI, 162, .inl v_holders)), (h_p1, .inr (0, [.ref h_p1_holders, .ref h_p1_ends])), (h_p1_ends, .inl (cyI, 3, .inl v_ends_1)), (h_p1_holders, .inl (cyI, 162, .inl v_holders_1))] s.heap.size = A at hD ⊢
  have hA : ∀ q : Nat, s.heap.size ≤ q → A q := fun q h => by rw [← hAe]; exact Or.inr h
  have hS : va_S A s.heap s.heap [] := va_S.rf
  have hP : va_P (dC, dI) vwCl [(h_p0, .inr (0, [.ref h_p0_holders, .ref h_p0_ends])), (h_p0_ends, .inl (cyI, 3, .inl v_ends)), (h_p0_holders, .inl (cyI, 162, .inl v_holders)), (h_p1, .inr (0, [.ref h_p1_holders, .ref h_p1_ends])), (h_p1_ends, .inl (cyI, 3, .inl v_ends_1)), (h_p1_holders, .inl (cyI, 162, .inl v_holders_1))] s.heap := hP
  have hl := lv_entry ([.ref h_p0, .ref h_p1]) (n := 2) (Nat.le_of_ble_eq_true rfl)
  rw [lg_entry_eq]
  generalize (lg_sl ([.ref h_p0, .ref h_p1]) ++ List.replicate (2 - (lg_sl ([.ref h_p0, .ref h_p1])).length) Slot.unset).toArray = ls at hl ⊢
  have hl : lv_has ls 2 [(0, .ref h_p0), (1, .ref h_p1)] := hl
  unfold s_X0_takeOver at h
  refine lv_aload_n hx hb dX0_takeOver_0 rfl (lv_at hl 1 rfl) ?_
  refine va_get (D := (dC, dI)) (ci := 0) (v := .ref h_p1_holders) (C := RX0) (T := TX0) (N := 2) hx hb hts m_X0_takeOver_0 hown hK hP 3 rfl rfl 0 (by decide) (hts (.fieldLink RX0 9 "SleeperBerths$Berths" "holders" "[I") m_X0_takeOver_1) (fun _ h9 => h9) rfl dX0_takeOver_1 ?_
  refine lv_aload_n hx hb dX0_takeOver_4 rfl (lv_at hl 0 rfl) ?_
  refine va_get (D := (dC, dI)) (ci := 0) (v := .ref h_p0_holders) (C := RX0) (T := TX0) (N := 2) hx hb hts m_X0_takeOver_0 hown hK hP 0 rfl rfl 0 (by decide) (hts (.fieldLink RX0 9 "SleeperBerths$Berths" "holders" "[I") m_X0_takeOver_1) (fun _ h9 => h9) rfl dX0_takeOver_5 ?_
  obtain ⟨r1, e2, h⟩ := bsome h
  have hPc := sb_P [(h_p1_holders, .inl (cyI, 162, .inl v_holders_1)), (h_p0_holders, .inl (cyI, 162, .inl v_holders))] hP [5, 2] rfl
  have hDc := sb_D [(h_p1_holders, .inl (cyI, 162, .inl v_holders_1)), (h_p0_holders, .inl (cyI, 162, .inl v_holders))] hD [5, 2] (by decide) rfl
  have hFc := va_free (wc := [(h_p1_holders, .inl (cyI, 162, .inl v_holders_1)), (h_p0_holders, .inl (cyI, 162, .inl v_holders))]) hD hS hA [5, 2] rfl
  refine va_callv (va_runSN (As := [.ref h_p1_holders, .ref h_p0_holders]) (rest := []) ⟨hx, hb, hml, hown, hts⟩ (c_X6_copyAll l dC dI cyI cyJ cyT h_p1_holders h_p0_holders s.heap.size 162 162 v_holders_1 v_holders n r1 e2) ⟨va_cnB (host := "SleeperBerths") 2 hts gX0_takeOver_X6_copyAll_n18 rfl rfl rfl (hNW 7 rfl) (hts (.initialized RX6) m_X0_takeOver_2) (by decide +kernel) ⟨Nat.le_of_ble_eq_true rfl, Nat.le_of_ble_eq_true rfl⟩, (hts (.static yX6_copyAll) m_X0_takeOver_3), trivial⟩ ⟨PRE.blind, PRE.go hK hPc hDc hNW⟩ rfl rfl hl.1 rfl (lv_room (Nat.le_of_ble_eq_true rfl)) dX0_takeOver_8 ⟨Nat.zero_le _, Nat.zero_le _⟩) hS (fun q _ h => hFc q h) hFc (fun u t H locs ht hvm hw hB hz1 hk1 hS => ?_)
  obtain ⟨hP, hD⟩ := va_join (wr := [(h_p0, .inr (0, [.ref h_p0_holders, .ref h_p0_ends])), (h_p0_ends, .inl (cyI, 3, .inl v_ends)), (h_p1, .inr (0, [.ref h_p1_holders, .ref h_p1_ends])), (h_p1_ends, .inl (cyI, 3, .inl v_ends_1))]) (w1 := [(h_p1_holders, .inl (cyI, 162, .inl v_holders_1)), (h_p0_holders, .inl (cyI, 162, .inl r1))]) hP hD [5, 2] [0, 1, 3, 4] rfl rfl (by decide) (by decide) hk1 hFc (WLD.P hB ht) hB.2
  have hP : va_P (dC, dI) vwCl [(h_p0, .inr (0, [.ref h_p0_holders, .ref h_p0_ends])), (h_p0_ends, .inl (cyI, 3, .inl v_ends)), (h_p1, .inr (0, [.ref h_p1_holders, .ref h_p1_ends])), (h_p1_ends, .inl (cyI, 3, .inl v_ends_1)), (h_p1_holders, .inl (cyI, 162, .inl v_holders_1)), (h_p0_holders, .inl (cyI, 162, .inl r1))] H := hP
  have hD : va_D A [(h_p0, .inr (0, [.ref h_p0_holders, .ref h_p0_ends])), (h_p0_ends, .inl (cyI, 3, .inl v_ends)), (h_p1, .inr (0, [.ref h_p1_holders, .ref h_p1_ends])), (h_p1_ends, .inl (cyI, 3, .inl v_ends_1)), (h_p1_holders, .inl (cyI, 162, .inl v_holders_1)), (h_p0_holders, .inl (cyI, 162, .inl r1))] := hD
  refine lv_aload_n hx hb dX0_takeOver_11 rfl (lv_at hl 1 rfl) ?_
  refine va_get (D := (dC, dI)) (ci := 0) (v := .ref h_p1_ends) (C := RX0) (T := TX0) (N := 2) hx hb hts m_X0_takeOver_0 hown hK hP 2 rfl rfl 1 (by decide) (hts (.fieldLink RX0 15 "SleeperBerths$Berths" "ends" "[I") m_X0_takeOver_4) (fun _ h9 => h9) rfl dX0_takeOver_12 ?_
  refine lv_aload_n hx hb dX0_takeOver_15 rfl (lv_at hl 0 rfl) ?_
  refine va_get (D := (dC, dI)) (ci := 0) (v := .ref h_p0_ends) (C := RX0) (T := TX0) (N := 2) hx hb hts m_X0_takeOver_0 hown hK hP 0 rfl rfl 1 (by decide) (hts (.fieldLink RX0 15 "SleeperBerths$Berths" "ends" "[I") m_X0_takeOver_4) (fun _ h9 => h9) rfl dX0_takeOver_16 ?_
  obtain ⟨r4, e5, h⟩ := bsome h
  have hPc := sb_P [(h_p1_ends, .inl (cyI, 3, .inl v_ends_1)), (h_p0_ends, .inl (cyI, 3, .inl v_ends))] hP [3, 1] rfl
  have hDc := sb_D [(h_p1_ends, .inl (cyI, 3, .inl v_ends_1)), (h_p0_ends, .inl (cyI, 3, .inl v_ends))] hD [3, 1] (by decide) rfl
  have hFc := va_free (wc := [(h_p1_ends, .inl (cyI, 3, .inl v_ends_1)), (h_p0_ends, .inl (cyI, 3, .inl v_ends))]) hD hS hA [3, 1] rfl
  refine va_callv (va_runSN (As := [.ref h_p1_ends, .ref h_p0_ends]) (rest := []) ⟨hx, hb, hml, hown, hts⟩ (c_X6_copyAll l dC dI cyI cyJ cyT h_p1_ends h_p0_ends H.size 3 3 v_ends_1 v_ends n r4 e5) ⟨va_cnB (host := "SleeperBerths") 2 hts gX0_takeOver_X6_copyAll_n18 rfl rfl rfl (hNW 7 rfl) (hts (.initialized RX6) m_X0_takeOver_2) (by decide +kernel) ⟨Nat.le_of_ble_eq_true rfl, Nat.le_of_ble_eq_true rfl⟩, (hts (.static yX6_copyAll) m_X0_takeOver_3), trivial⟩ ⟨PRE.blind, PRE.go hK hPc hDc hNW⟩ rfl rfl hl.1 rfl (lv_room (Nat.le_of_ble_eq_true rfl)) dX0_takeOver_19 ⟨Nat.zero_le _, Nat.zero_le _⟩) hS (fun q _ h => hFc q h) hFc (fun u t H locs ht hvm hw hB hz1 hk1 hS => ?_)
  obtain ⟨hP, hD⟩ := va_join (wr := [(h_p0, .inr (0, [.ref h_p0_holders, .ref h_p0_ends])), (h_p1, .inr (0, [.ref h_p1_holders, .ref h_p1_ends])), (h_p1_holders, .inl (cyI, 162, .inl v_holders_1)), (h_p0_holders, .inl (cyI, 162, .inl r1))]) (w1 := [(h_p1_ends, .inl (cyI, 3, .inl v_ends_1)), (h_p0_ends, .inl (cyI, 3, .inl r4))]) hP hD [3, 1] [0, 2, 4, 5] rfl rfl (by decide) (by decide) hk1 hFc (WLD.P hB ht) hB.2
  have hP : va_P (dC, dI) vwCl [(h_p0, .inr (0, [.ref h_p0_holders, .ref h_p0_ends])), (h_p1, .inr (0, [.ref h_p1_holders, .ref h_p1_ends])), (h_p1_holders, .inl (cyI, 162, .inl v_holders_1)), (h_p0_holders, .inl (cyI, 162, .inl r1)), (h_p1_ends, .inl (cyI, 3, .inl v_ends_1)), (h_p0_ends, .inl (cyI, 3, .inl r4))] H := hP
  have hD : va_D A [(h_p0, .inr (0, [.ref h_p0_holders, .ref h_p0_ends])), (h_p1, .inr (0, [.ref h_p1_holders, .ref h_p1_ends])), (h_p1_holders, .inl (cyI, 162, .inl v_holders_1)), (h_p0_holders, .inl (cyI, 162, .inl r1)), (h_p1_ends, .inl (cyI, 3, .inl v_ends_1)), (h_p0_ends, .inl (cyI, 3, .inl r4))] := hD
  obtain rfl := Option.some.inj h
  exact W.vret hx hb hr (fun t ht hW => ⟨⟨(), rfl, trivial, WLD.of ht (sb_P [(h_p0, .inr (0, [.ref h_p0_holders, .ref h_p0_ends])), (h_p0_ends, .inl (cyI, 3, .inl r4)), (h_p0_holders, .inl (cyI, 162, .inl r1)), (h_p1, .inr (0, [.ref h_p1_holders, .ref h_p1_ends])), (h_p1_ends, .inl (cyI, 3, .inl v_ends_1)), (h_p1_holders, .inl (cyI, 162, .inl v_holders_1))] hP [0, 5, 3, 1, 4, 2] rfl) (sb_D [(h_p0, .inr (0, [.ref h_p0_holders, .ref h_p0_ends])), (h_p0_ends, .inl (cyI, 3, .inl r4)), (h_p0_holders, .inl (cyI, 162, .inl r1)), (h_p1, .inr (0, [.ref h_p1_holders, .ref h_p1_ends])), (h_p1_ends, .inl (cyI, 3, .inl v_ends_1)), (h_p1_holders, .inl (cyI, 162, .inl v_holders_1))] hD [0, 5, 3, 1, 4, 2] (by decide) rfl)⟩, hS.F ht⟩) hS.2.2 dX0_takeOver_22
def s_X0_end (v_ends : Nat → Int32) (a1 : Int32) (a2 : Int32) : Option ((Nat → Int32)) := ((s_X6_write 3 v_ends a1 a2).bind fun r1 => (some (r1)))
set_option maxRecDepth 20000 in
theorem m_X0_end_0 : ∀ w ∈ u_ws RX0 TX0 2, w ∈ wsX0_end := by decide +kernel
set_option maxRecDepth 20000 in
theorem m_X0_end_1 : (.fieldLink RX0 15 "SleeperBerths$Berths" "ends" "[I" : Cond) ∈ wsX0_end := by decide +kernel
set_option maxRecDepth 20000 in
theorem m_X0_end_2 : (.initialized RX6 : Cond) ∈ wsX0_end := by decide +kernel
set_option maxRecDepth 20000 in
theorem m_X0_end_3 : (.static yX6_write : Cond) ∈ wsX0_end := by decide +kernel
set_option maxHeartbeats 4000000 in
set_option maxRecDepth 100000 in
theorem c_X0_end (l : Launch) (dC : Nat → ClassId) (dI : Nat → Nat → Nat) (cyI cyJ cyT : ClassId) (h_p0 : Nat) (h_p0_holders : Nat) (h_p0_ends : Nat) (sz : Nat) (v_ends : Nat → Int32) (a1 : Int32) (a2 : Int32) (o : (Nat → Int32)) (h : s_X0_end v_ends a1 a2 = some o) : Met l yX0_end wsX0_end ({ frames := 1, cells := 0, slots := 0, locals := 22 }) (va_Pc [.ref h_p0, .int a1, .int a2] (PRE (dC, dI) (TYS cyI cyJ cyT) sz [(h_p0, .inr (0, [.ref h_p0_holders, .ref h_p0_ends])), (h_p0_ends, .inl (cyI, 3, .inl v_ends))])) (va_Qv (S := Unit) (fun _ => True) (fun _ t => WLD (dC, dI) (va_A [(h_p0, .inr (0, [.ref h_p0_holders, .ref h_p0_ends])), (h_p0_ends, .inl (cyI, 3, .inl v_ends))] sz) [(h_p0, .inr (0, [.ref h_p0_holders, .ref h_p0_ends])), (h_p0_ends, .inl (cyI, 3, .inl o))] t) (va_A [(h_p0, .inr (0, [.ref h_p0_holders, .ref h_p0_ends])), (h_p0_ends, .inl (cyI, 3, .inl v_ends))] sz)) 0 0 (va_A [(h_p0, .inr (0, [.ref h_p0_holders, .ref h_p0_ends])), (h_p0_ends, .inl (cyI, 3, .inl v_ends))] sz) := by
  refine Met.ofW (cc := cX0_end) (maxL := 3) (ret := none) (by decide) rfl ?_
  intro p e s m args below meth c s₁ B hml hv
  obtain ⟨rfl, hsz, hP, hK, hD0, hNW⟩ := hv
  have hx := B.exec
  have hb := B.bytes
  have hr := B.returns
  have hts := atoms_spec (ws := wsX0_end) B.pre
  have hown : s.vm.findClass RX0 = some m.cls := findClass_of_methodNamed B.named
  have hlocks := B.notSynchronized
  subst hsz
  have hD := hD0.self (sz := s.heap.size)
  generalize hAe : va_A [(h_p0, .inr (0, [.ref h_p0_holders, .ref h_p0_ends])), (h_p0_ends, .inl (cyI, 3, .inl v_ends))] s.heap.size = A at hD ⊢
  have hA : ∀ q : Nat, s.heap.size ≤ q → A q := fun q h => by rw [← hAe]; exact Or.inr h
  have hS : va_S A s.heap s.heap [] := va_S.rf
  have hP : va_P (dC, dI) vwCl [(h_p0, .inr (0, [.ref h_p0_holders, .ref h_p0_ends])), (h_p0_ends, .inl (cyI, 3, .inl v_ends))] s.heap := hP
  have hl := lv_entry ([.ref h_p0, .int a1, .int a2]) (n := 3) (Nat.le_of_ble_eq_true rfl)
  rw [lg_entry_eq]
  generalize (lg_sl ([.ref h_p0, .int a1, .int a2]) ++ List.replicate (3 - (lg_sl ([.ref h_p0, .int a1, .int a2])).length) Slot.unset).toArray = ls at hl ⊢
  have hl : lv_has ls 3 [(0, .ref h_p0), (1, .int a1), (2, .int a2)] := hl
  unfold s_X0_end at h
  refine lv_aload_n hx hb dX0_end_0 rfl (lv_at hl 0 rfl) ?_
  refine va_get (D := (dC, dI)) (ci := 0) (v := .ref h_p0_ends) (C := RX0) (T := TX0) (N := 2) hx hb hts m_X0_end_0 hown hK hP 0 rfl rfl 1 (by decide) (hts (.fieldLink RX0 15 "SleeperBerths$Berths" "ends" "[I") m_X0_end_1) (fun _ h9 => h9) rfl dX0_end_1 ?_
  refine lv_iload_n hx hb dX0_end_4 rfl (lv_at hl 1 rfl) ?_
  refine lv_iload_n hx hb dX0_end_5 rfl (lv_at hl 2 rfl) ?_
  obtain ⟨r1, e2, h⟩ := bsome h
  have hPc := sb_P [(h_p0_ends, .inl (cyI, 3, .inl v_ends))] hP [1] rfl
  have hDc := sb_D [(h_p0_ends, .inl (cyI, 3, .inl v_ends))] hD [1] (by decide) rfl
  have hFc := va_free (wc := [(h_p0_ends, .inl (cyI, 3, .inl v_ends))]) hD hS hA [1] rfl
  refine va_callv (va_runSN (As := [.ref h_p0_ends, .int a1, .int a2]) (rest := []) ⟨hx, hb, hml, hown, hts⟩ (c_X6_write l dC dI cyI cyJ cyT h_p0_ends s.heap.size 3 v_ends a1 a2 r1 e2) ⟨va_cnB (host := "SleeperBerths") 3 hts gX0_end_X6_write_n26 rfl rfl rfl (hNW 11 rfl) (hts (.initialized RX6) m_X0_end_2) (by decide +kernel) ⟨Nat.le_of_ble_eq_true rfl, Nat.le_of_ble_eq_true rfl⟩, (hts (.static yX6_write) m_X0_end_3), trivial⟩ ⟨PRE.blind, PRE.go hK hPc hDc hNW⟩ rfl rfl hl.1 rfl (lv_room (Nat.le_of_ble_eq_true rfl)) dX0_end_6 ⟨Nat.zero_le _, Nat.zero_le _⟩) hS (fun q _ h => hFc q h) hFc (fun u t H locs ht hvm hw hB hz1 hk1 hS => ?_)
  obtain ⟨hP, hD⟩ := va_join (wr := [(h_p0, .inr (0, [.ref h_p0_holders, .ref h_p0_ends]))]) (w1 := [(h_p0_ends, .inl (cyI, 3, .inl r1))]) hP hD [1] [0] rfl rfl (by decide) (by decide) hk1 hFc (WLD.P hB ht) hB.2
  have hP : va_P (dC, dI) vwCl [(h_p0, .inr (0, [.ref h_p0_holders, .ref h_p0_ends])), (h_p0_ends, .inl (cyI, 3, .inl r1))] H := hP
  have hD : va_D A [(h_p0, .inr (0, [.ref h_p0_holders, .ref h_p0_ends])), (h_p0_ends, .inl (cyI, 3, .inl r1))] := hD
  obtain rfl := Option.some.inj h
  exact W.vret hx hb hr (fun t ht hW => ⟨⟨(), rfl, trivial, WLD.of ht hP hD⟩, hS.F ht⟩) hS.2.2 dX0_end_9
def s_X0_give_L3 (n : Nat) (a1 : Int32) (a3 : Int32) (a4 : Int32) : Nat → (Nat → Int32) → Int32 → Option ((Nat → Int32))
  | 0, _, _ => none
  | k + 1, v_holders, x5 => (if a3 ≤ x5 then (some (v_holders)) else ((s_X6_write 162 v_holders ((a1 * iI 9) + x5) a4).bind fun r2 => (s_X0_give_L3 n a1 a3 a4 k r2 (x5 + iI 1))))
def s_X0_give (n : Nat) (v_holders : Nat → Int32) (a1 : Int32) (a2 : Int32) (a3 : Int32) (a4 : Int32) : Option ((Nat → Int32)) := (s_X0_give_L3 n a1 a3 a4 n v_holders a2)
set_option maxRecDepth 20000 in
theorem m_X0_give_0 : ∀ w ∈ u_ws RX0 TX0 2, w ∈ wsX0_give := by decide +kernel
set_option maxRecDepth 20000 in
theorem m_X0_give_1 : (.fieldLink RX0 9 "SleeperBerths$Berths" "holders" "[I" : Cond) ∈ wsX0_give := by decide +kernel
set_option maxRecDepth 20000 in
theorem m_X0_give_2 : (.initialized RX6 : Cond) ∈ wsX0_give := by decide +kernel
set_option maxRecDepth 20000 in
theorem m_X0_give_3 : (.static yX6_write : Cond) ∈ wsX0_give := by decide +kernel
set_option maxHeartbeats 4000000 in
set_option maxRecDepth 100000 in
theorem c_X0_give (l : Launch) (dC : Nat → ClassId) (dI : Nat → Nat → Nat) (cyI cyJ cyT : ClassId) (h_p0 : Nat) (h_p0_holders : Nat) (h_p0_ends : Nat) (sz : Nat) (v_holders : Nat → Int32) (a1 : Int32) (a2 : Int32) (a3 : Int32) (a4 : Int32) (n : Nat) (o : (Nat → Int32)) (h : s_X0_give n v_holders a1 a2 a3 a4 = some o) : Met l yX0_give wsX0_give ({ frames := 1, cells := 0, slots := 0, locals := 22 }) (va_Pc [.ref h_p0, .int a1, .int a2, .int a3, .int a4] (PRE (dC, dI) (TYS cyI cyJ cyT) sz [(h_p0, .inr (0, [.ref h_p0_holders, .ref h_p0_ends])), (h_p0_holders, .inl (cyI, 162, .inl v_holders))])) (va_Qv (S := Unit) (fun _ => True) (fun _ t => WLD (dC, dI) (va_A [(h_p0, .inr (0, [.ref h_p0_holders, .ref h_p0_ends])), (h_p0_holders, .inl (cyI, 162, .inl v_holders))] sz) [(h_p0, .inr (0, [.ref h_p0_holders, .ref h_p0_ends])), (h_p0_holders, .inl (cyI, 162, .inl o))] t) (va_A [(h_p0, .inr (0, [.ref h_p0_holders, .ref h_p0_ends])), (h_p0_holders, .inl (cyI, 162, .inl v_holders))] sz)) 0 0 (va_A [(h_p0, .inr (0, [.ref h_p0_holders, .ref h_p0_ends])), (h_p0_holders, .inl (cyI, 162, .inl v_holders))] sz) := by
  refine Met.ofW (cc := cX0_give) (maxL := 6) (ret := none) (by decide) rfl ?_
  intro p e s m args below meth c s₁ B hml hv
  obtain ⟨rfl, hsz, hP, hK, hD0, hNW⟩ := hv
  have hx := B.exec
  have hb := B.bytes
  have hr := B.returns
  have hts := atoms_spec (ws := wsX0_give) B.pre
  have hown : s.vm.findClass RX0 = some m.cls := findClass_of_methodNamed B.named
  have hlocks := B.notSynchronized
  subst hsz
  have hD := hD0.self (sz := s.heap.size)
  generalize hAe : va_A [(h_p0, .inr (0, [.ref h_p0_holders, .ref h_p0_ends])), (h_p0_holders, .inl (cyI, 162, .inl v_holders))] s.heap.size = A at hD ⊢
  have hA : ∀ q : Nat, s.heap.size ≤ q → A q := fun q h => by rw [← hAe]; exact Or.inr h
  have hS : va_S A s.heap s.heap [] := va_S.rf
  have hP : va_P (dC, dI) vwCl [(h_p0, .inr (0, [.ref h_p0_holders, .ref h_p0_ends])), (h_p0_holders, .inl (cyI, 162, .inl v_holders))] s.heap := hP
  have L3 : ∀ (k : Nat), (∀ (v_holders : Nat → Int32) (x5 : Int32) (H : Heap) (locs : List Loc), va_P (dC, dI) vwCl [(h_p0, .inr (0, [.ref h_p0_holders, .ref h_p0_ends])), (h_p0_holders, .inl (cyI, 162, .inl v_holders))] H → va_D A [(h_p0, .inr (0, [.ref h_p0_holders, .ref h_p0_ends])), (h_p0_holders, .inl (cyI, 162, .inl v_holders))] → va_S A s.heap H locs → ∀ (ls : Array Slot), lv_has ls 6 [(0, .ref h_p0), (1, .int a1), (3, .int a3), (4, .int a4), (5, .int x5)] →  s_X0_give_L3 n a1 a3 a4 k v_holders x5 = some o → W p l e (headSpec wsX0_give ({ frames := 1, cells := 0, slots := 0, locals := 22 })).room s m (([.ref h_p0, .int a1, .int a2, .int a3, .int a4] : List Value).toArray) below meth c H locs 0 0 (MQ below (va_Qv (S := Unit) (fun _ => True) (fun _ t => WLD (dC, dI) A [(h_p0, .inr (0, [.ref h_p0_holders, .ref h_p0_ends])), (h_p0_holders, .inl (cyI, 162, .inl o))] t) A) (([.ref h_p0, .int a1, .int a2, .int a3, .int a4] : List Value).toArray) s 0 0 A) (F0 m 3 ls [])) := by
    intro k
    induction k with
    | zero =>
      intro  v_holders x5 H locs hP hD hS ls hl h
      rw [s_X0_give_L3] at h
      cases h
    | succ k ih =>
      intro  v_holders x5 H locs hP hD hS ls hl h
      rw [s_X0_give_L3] at h
      refine lv_iload hx hb dX0_give_3 (lv_at hl 4 rfl) ?_
      refine lv_iload_n hx hb dX0_give_5 rfl (lv_at hl 2 rfl) ?_
      refine lv_icmp_ge (tgt := 31) hx hb dX0_give_6 (by decide) (fun c1 => ?_) (fun c1 => ?_)
      · have h := ipos c1 h
        obtain rfl := Option.some.inj h
        exact W.vret hx hb hr (fun t ht hW => ⟨⟨(), rfl, trivial, WLD.of ht hP hD⟩, hS.F ht⟩) hS.2.2 dX0_give_31
      · have h := ineg c1 h
        refine lv_aload_n hx hb dX0_give_9 rfl (lv_at hl 0 rfl) ?_
        refine va_get (D := (dC, dI)) (ci := 0) (v := .ref h_p0_holders) (C := RX0) (T := TX0) (N := 2) hx hb hts m_X0_give_0 hown hK hP 0 rfl rfl 0 (by decide) (hts (.fieldLink RX0 9 "SleeperBerths$Berths" "holders" "[I") m_X0_give_1) (fun _ h9 => h9) rfl dX0_give_10 ?_
        refine lv_iload_n hx hb dX0_give_13 rfl (lv_at hl 1 rfl) ?_
        refine lv_bipush (v := iI 9) hx hb dX0_give_14 (by decide) ?_
        refine lv_imul hx hb dX0_give_16 ?_
        refine lv_iload hx hb dX0_give_17 (lv_at hl 4 rfl) ?_
        refine lv_iadd hx hb dX0_give_19 ?_
        refine lv_iload hx hb dX0_give_20 (lv_at hl 3 rfl) ?_
        obtain ⟨r2, e3, h⟩ := bsome h
        have hPc := sb_P [(h_p0_holders, .inl (cyI, 162, .inl v_holders))] hP [1] rfl
        have hDc := sb_D [(h_p0_holders, .inl (cyI, 162, .inl v_holders))] hD [1] (by decide) rfl
        have hFc := va_free (wc := [(h_p0_holders, .inl (cyI, 162, .inl v_holders))]) hD hS hA [1] rfl
        refine va_callv (va_runSN (As := [.ref h_p0_holders, .int ((a1 * iI 9) + x5), .int a4]) (rest := []) ⟨hx, hb, hml, hown, hts⟩ (c_X6_write l dC dI cyI cyJ cyT h_p0_holders H.size 162 v_holders ((a1 * iI 9) + x5) a4 r2 e3) ⟨va_cnB (host := "SleeperBerths") 3 hts gX0_give_X6_write_n26 rfl rfl rfl (hNW 11 rfl) (hts (.initialized RX6) m_X0_give_2) (by decide +kernel) ⟨Nat.le_of_ble_eq_true rfl, Nat.le_of_ble_eq_true rfl⟩, (hts (.static yX6_write) m_X0_give_3), trivial⟩ ⟨PRE.blind, PRE.go hK hPc hDc hNW⟩ rfl rfl hl.1 rfl (lv_room (Nat.le_of_ble_eq_true rfl)) dX0_give_22 ⟨Nat.zero_le _, Nat.zero_le _⟩) hS (fun q _ h => hFc q h) hFc (fun u t H locs ht hvm hw hB hz1 hk1 hS => ?_)
        obtain ⟨hP, hD⟩ := va_join (wr := [(h_p0, .inr (0, [.ref h_p0_holders, .ref h_p0_ends]))]) (w1 := [(h_p0_holders, .inl (cyI, 162, .inl r2))]) hP hD [1] [0] rfl rfl (by decide) (by decide) hk1 hFc (WLD.P hB ht) hB.2
        have hP : va_P (dC, dI) vwCl [(h_p0, .inr (0, [.ref h_p0_holders, .ref h_p0_ends])), (h_p0_holders, .inl (cyI, 162, .inl r2))] H := hP
        have hD : va_D A [(h_p0, .inr (0, [.ref h_p0_holders, .ref h_p0_ends])), (h_p0_holders, .inl (cyI, 162, .inl r2))] := hD
        refine lv_iinc (v := (x5 + iI 1)) hx hb dX0_give_25 hl (k := 4) rfl rfl (by decide) (rfl : _ = ([(5, .int (x5 + iI 1)), (0, .ref h_p0), (1, .int a1), (3, .int a3), (4, .int a4)] : List (Nat × Value))) (fun ls hl => ?_)
        refine lv_goto (tgt := 3) hx hb dX0_give_28 (by decide) ?_
        exact ih r2 (x5 + iI 1) _ _ hP hD hS ls (lv_sub hl [1, 2, 3, 4, 0] rfl) h
  have hl := lv_entry ([.ref h_p0, .int a1, .int a2, .int a3, .int a4]) (n := 6) (Nat.le_of_ble_eq_true rfl)
  rw [lg_entry_eq]
  generalize (lg_sl ([.ref h_p0, .int a1, .int a2, .int a3, .int a4]) ++ List.replicate (6 - (lg_sl ([.ref h_p0, .int a1, .int a2, .int a3, .int a4])).length) Slot.unset).toArray = ls at hl ⊢
  have hl : lv_has ls 6 [(0, .ref h_p0), (1, .int a1), (2, .int a2), (3, .int a3), (4, .int a4)] := hl
  unfold s_X0_give at h
  refine lv_iload_n hx hb dX0_give_0 rfl (lv_at hl 2 rfl) ?_
  refine lv_istore hx hb dX0_give_1 hl (by decide) (rfl : _ = ([(5, .int a2), (0, .ref h_p0), (1, .int a1), (2, .int a2), (3, .int a3), (4, .int a4)] : List (Nat × Value))) (fun ls hl => ?_)
  exact L3 n v_holders a2 _ _ hP hD hS ls (lv_sub hl [1, 2, 4, 5, 0] rfl) h
def s_X0_areHadBehind_L8 (n : Nat) (v_holders : Nat → Int32) (a2 : Int32) : Nat → (Int32 → Int32 → Option (Int32)) × (Int32 → Int32 → Int32 → Option (Int32))
  | 0 => ((fun _ _ => none), (fun _ _ _ => none))
  | k + 1 => ((fun x3 x4 => (if (x3 + iI 6) ≤ x4 then (some (iI 0)) else ((s_X0_areHadBehind_L8 n v_holders a2 k).2 x3 x4 a2))), (fun x3 x4 x5 => (if iI 9 ≤ x5 then ((s_X0_areHadBehind_L8 n v_holders a2 k).1 x3 (x4 + iI 1)) else ((s_X0_holderOn v_holders x4 x5).bind fun r3 => (if r3 = iI (-1) then ((s_X0_areHadBehind_L8 n v_holders a2 k).2 x3 x4 (x5 + iI 1)) else (some (iI 1)))))))
def s_X0_areHadBehind (n : Nat) (v_holders : Nat → Int32) (a1 : Int32) (a2 : Int32) : Option (Int32) := ((s_X0_areHadBehind_L8 n v_holders a2 n).1 (a1 * iI 6) (a1 * iI 6))
set_option maxHeartbeats 4000000 in
set_option maxRecDepth 100000 in
theorem c_X0_areHadBehind (l : Launch) (dC : Nat → ClassId) (dI : Nat → Nat → Nat) (cyI cyJ cyT : ClassId) (h_p0 : Nat) (h_p0_holders : Nat) (h_p0_ends : Nat) (sz : Nat) (v_holders : Nat → Int32) (a1 : Int32) (a2 : Int32) (n : Nat) (o : Int32) (h : s_X0_areHadBehind n v_holders a1 a2 = some o) : Met l yX0_areHadBehind wsX0_areHadBehind ({ frames := 2, cells := 0, slots := 0, locals := 43 }) (va_Pc [.ref h_p0, .int a1, .int a2] (PRE (dC, dI) (TYS cyI cyJ cyT) sz [(h_p0, .inr (0, [.ref h_p0_holders, .ref h_p0_ends])), (h_p0_holders, .inl (cyI, 162, .inl v_holders))])) (va_Qi (S := Unit) (fun r _ => r = o) (fun _ t => WLD (dC, dI) (va_A [(h_p0, .inr (0, [.ref h_p0_holders, .ref h_p0_ends])), (h_p0_holders, .inl (cyI, 162, .inl v_holders))] sz) [(h_p0, .inr (0, [.ref h_p0_holders, .ref h_p0_ends])), (h_p0_holders, .inl (cyI, 162, .inl v_holders))] t) (va_A [(h_p0, .inr (0, [.ref h_p0_holders, .ref h_p0_ends])), (h_p0_holders, .inl (cyI, 162, .inl v_holders))] sz)) 0 0 (va_A [(h_p0, .inr (0, [.ref h_p0_holders, .ref h_p0_ends])), (h_p0_holders, .inl (cyI, 162, .inl v_holders))] sz) := by
  refine Met.ofW (cc := cX0_areHadBehind) (maxL := 6) (ret := (some .boolean)) (by decide) rfl ?_
  intro p e s m args below meth c s₁ B hml hv
  obtain ⟨rfl, hsz, hP, hK, hD0, hNW⟩ := hv
  have hx := B.exec
  have hb := B.bytes
  have hr := B.returns
  have hts := atoms_spec (ws := wsX0_areHadBehind) B.pre
  have hown : s.vm.findClass RX0 = some m.cls := findClass_of_methodNamed B.named
  have hlocks := B.notSynchronized
  subst hsz
  have hD := hD0.self (sz := s.heap.size)
  generalize hAe : va_A [(h_p0, .inr (0, [.ref h_p0_holders, .ref h_p0_ends])), (h_p0_holders, .inl (cyI, 162, .inl v_holders))] s.heap.size = A at hD ⊢
  have hA : ∀ q : Nat, s.heap.size ≤ q → A q := fun q h => by rw [← hAe]; exact Or.inr h
  have hS : va_S A s.heap s.heap [] := va_S.rf
  have hP : va_P (dC, dI) vwCl [(h_p0, .inr (0, [.ref h_p0_holders, .ref h_p0_ends])), (h_p0_holders, .inl (cyI, 162, .inl v_holders))] s.heap := hP
  have L8 : ∀ (k : Nat), (∀ (x3 : Int32) (x4 : Int32) (H : Heap) (locs : List Loc), va_P (dC, dI) vwCl [(h_p0, .inr (0, [.ref h_p0_holders, .ref h_p0_ends])), (h_p0_holders, .inl (cyI, 162, .inl v_holders))] H → va_D A [(h_p0, .inr (0, [.ref h_p0_holders, .ref h_p0_ends])), (h_p0_holders, .inl (cyI, 162, .inl v_holders))] → va_S A s.heap H locs → ∀ (ls : Array Slot), lv_has ls 6 [(0, .ref h_p0), (2, .int a2), (3, .int x3), (4, .int x4)] →  (s_X0_areHadBehind_L8 n v_holders a2 k).2 x3 x4 x5 = some o → W p l e (headSpec wsX0_areHadBehind ({ frames := 2, cells := 0, slots := 0, locals := 43 })).room s m (([.ref h_p0, .int a1, .int a2] : List Value).toArray) below meth c H locs 0 0 (MQ below (va_Qi (S := Unit) (fun r _ => r = o) (fun _ t => WLD (dC, dI) A [(h_p0, .inr (0, [.ref h_p0_holders, .ref h_p0_ends])), (h_p0_holders, .inl (cyI, 162, .inl v_holders))] t) A) (([.ref h_p0, .int a1, .int a2] : List Value).toArray) s 0 0 A) (F0 m 8 ls [])) ∧ (∀ (x3 : Int32) (x4 : Int32) (x5 : Int32) (H : Heap) (locs : List Loc), va_P (dC, dI) vwCl [(h_p0, .inr (0, [.ref h_p0_holders, .ref h_p0_ends])), (h_p0_holders, .inl (cyI, 162, .inl v_holders))] H → va_D A [(h_p0, .inr (0, [.ref h_p0_holders, .ref h_p0_ends])), (h_p0_holders, .inl (cyI, 162, .inl v_holders))] → va_S A s.heap H locs → ∀ (ls : Array Slot), lv_has ls 6 [(0, .ref h_p0), (2, .int a2), (3, .int x3), (4, .int x4), (5, .int x5)] →  (s_X0_areHadBehind_L8 n v_holders a2 k).2 x3 x4 x5 = some o → W p l e (headSpec wsX0_areHadBehind ({ frames := 2, cells := 0, slots := 0, locals := 43 })).room s m (([.ref h_p0, .int a1, .int a2] : List Value).toArray) below meth c H locs 0 0 (MQ below (va_Qi (S := Unit) (fun r _ => r = o) (fun _ t => WLD (dC, dI) A [(h_p0, .inr (0, [.ref h_p0_holders, .ref h_p0_ends])), (h_p0_holders, .inl (cyI, 162, .inl v_holders))] t) A) (([.ref h_p0, .int a1, .int a2] : List Value).toArray) s 0 0 A) (F0 m 20 ls [])) := by
    intro k
    induction k with
    | zero =>
      refine ⟨?_, ?_⟩
      · intro  x3 x4 H locs hP hD hS ls hl h
        have h : none = some o := h
        cases h
      · intro  x3 x4 x5 H locs hP hD hS ls hl h
        have h : none = some o := h
        cases h
    | succ k ih =>
      refine ⟨?_, ?_⟩
      · intro  x3 x4 H locs hP hD hS ls hl h
        have h : (if (x3 + iI 6) ≤ x4 then (some (iI 0)) else ((s_X0_areHadBehind_L8 n v_holders a2 k).2 x3 x4 a2)) = some o := h
        refine lv_iload hx hb dX0_areHadBehind_8 (lv_at hl 3 rfl) ?_
        refine lv_iload_n hx hb dX0_areHadBehind_10 rfl (lv_at hl 2 rfl) ?_
        refine lv_bipush (v := iI 6) hx hb dX0_areHadBehind_11 (by decide) ?_
        refine lv_iadd hx hb dX0_areHadBehind_13 ?_
        refine lv_icmp_ge (tgt := 53) hx hb dX0_areHadBehind_14 (by decide) (fun c1 => ?_) (fun c1 => ?_)
        · have h := ipos c1 h
          refine lv_iconst (v := iI 0) hx hb dX0_areHadBehind_53 rfl ?_
          obtain rfl := Option.some.inj h
          exact W.zret (v := iI 0) hx hb hr (by decide) (fun t ht hW => ⟨⟨iI 0, (), rfl, rfl, WLD.of ht hP hD⟩, hS.F ht⟩) hS.2.2 dX0_areHadBehind_54
        · have h := ineg c1 h
          refine lv_iload_n hx hb dX0_areHadBehind_17 rfl (lv_at hl 1 rfl) ?_
          refine lv_istore hx hb dX0_areHadBehind_18 hl (by decide) (rfl : _ = ([(5, .int a2), (0, .ref h_p0), (2, .int a2), (3, .int x3), (4, .int x4)] : List (Nat × Value))) (fun ls hl => ?_)
          exact (ih).2 x3 x4 a2 _ _ hP hD hS ls (lv_sub hl [1, 2, 3, 4, 0] rfl) h
      · intro  x3 x4 x5 H locs hP hD hS ls hl h
        have h : (if iI 9 ≤ x5 then ((s_X0_areHadBehind_L8 n v_holders a2 k).1 x3 (x4 + iI 1)) else ((s_X0_holderOn v_holders x4 x5).bind fun r3 => (if r3 = iI (-1) then ((s_X0_areHadBehind_L8 n v_holders a2 k).2 x3 x4 (x5 + iI 1)) else (some (iI 1))))) = some o := h
        refine lv_iload hx hb dX0_areHadBehind_20 (lv_at hl 4 rfl) ?_
        refine lv_bipush (v := iI 9) hx hb dX0_areHadBehind_22 (by decide) ?_
        refine lv_icmp_ge (tgt := 47) hx hb dX0_areHadBehind_24 (by decide) (fun c2 => ?_) (fun c2 => ?_)
        · have h := ipos c2 h
          refine lv_iinc (v := (x4 + iI 1)) hx hb dX0_areHadBehind_47 hl (k := 3) rfl rfl (by decide) (rfl : _ = ([(4, .int (x4 + iI 1)), (0, .ref h_p0), (2, .int a2), (3, .int x3), (5, .int x5)] : List (Nat × Value))) (fun ls hl => ?_)
          refine lv_goto (tgt := 8) hx hb dX0_areHadBehind_50 (by decide) ?_
          exact (ih).1 x3 (x4 + iI 1) _ _ hP hD hS ls (lv_sub hl [1, 2, 3, 0] rfl) h
        · have h := ineg c2 h
          refine lv_aload_n hx hb dX0_areHadBehind_27 rfl (lv_at hl 0 rfl) ?_
          refine lv_iload hx hb dX0_areHadBehind_28 (lv_at hl 3 rfl) ?_
          refine lv_iload hx hb dX0_areHadBehind_30 (lv_at hl 4 rfl) ?_
          obtain ⟨r3, e4, h⟩ := bsome h
          have hPc := sb_P [(h_p0, .inr (0, [.ref h_p0_holders, .ref h_p0_ends])), (h_p0_holders, .inl (cyI, 162, .inl v_holders))] hP [0, 1] rfl
          have hDc := sb_D [(h_p0, .inr (0, [.ref h_p0_holders, .ref h_p0_ends])), (h_p0_holders, .inl (cyI, 162, .inl v_holders))] hD [0, 1] (by decide) rfl
          have hFc := va_free (wc := [(h_p0, .inr (0, [.ref h_p0_holders, .ref h_p0_ends])), (h_p0_holders, .inl (cyI, 162, .inl v_holders))]) hD hS hA [0, 1] rfl
          refine va_calli (va_runV (As := [.int x4, .int x5]) (rest := []) ⟨hx, hb, hml, hown, hts⟩ (c_X0_holderOn l dC dI cyI cyJ cyT h_p0 h_p0_holders h_p0_ends H.size v_holders x4 x5 r3 e4) (cwV 2 hts gX0_areHadBehind_X0_holderOn rfl rfl rfl (by decide +kernel) ⟨Nat.le_of_ble_eq_true rfl, Nat.le_of_ble_eq_true rfl⟩) ⟨PRE.blind, va_recv hK hPc (ci := 0) (q0 := 0) rfl rfl, PRE.go hK hPc hDc hNW⟩ rfl rfl hl.1 rfl (lv_room (Nat.le_of_ble_eq_true rfl)) dX0_areHadBehind_32 ⟨Nat.zero_le _, Nat.zero_le _⟩) hS (fun q _ h => hFc q h) hFc (fun z5 u t H locs ht hvm hw hB hz1 hk1 hS => ?_)
          subst z5
          obtain ⟨hP, hD⟩ := va_join (wr := []) (w1 := [(h_p0, .inr (0, [.ref h_p0_holders, .ref h_p0_ends])), (h_p0_holders, .inl (cyI, 162, .inl v_holders))]) hP hD [0, 1] [] rfl rfl (by decide) (by decide) hk1 hFc (WLD.P hB ht) hB.2
          have hP : va_P (dC, dI) vwCl [(h_p0, .inr (0, [.ref h_p0_holders, .ref h_p0_ends])), (h_p0_holders, .inl (cyI, 162, .inl v_holders))] H := hP
          have hD : va_D A [(h_p0, .inr (0, [.ref h_p0_holders, .ref h_p0_ends])), (h_p0_holders, .inl (cyI, 162, .inl v_holders))] := hD
          refine lv_iconst (v := iI (-1)) hx hb dX0_areHadBehind_35 rfl ?_
          refine lv_icmp_eq (tgt := 41) hx hb dX0_areHadBehind_36 (by decide) (fun c6 => ?_) (fun c6 => ?_)
          · have h := ipos c6 h
            refine lv_iinc (v := (x5 + iI 1)) hx hb dX0_areHadBehind_41 hl (k := 4) rfl rfl (by decide) (rfl : _ = ([(5, .int (x5 + iI 1)), (0, .ref h_p0), (2, .int a2), (3, .int x3), (4, .int x4)] : List (Nat × Value))) (fun ls hl => ?_)
            refine lv_goto (tgt := 20) hx hb dX0_areHadBehind_44 (by decide) ?_
            exact (ih).2 x3 x4 (x5 + iI 1) _ _ hP hD hS ls (lv_sub hl [1, 2, 3, 4, 0] rfl) h
          · have h := ineg c6 h
            refine lv_iconst (v := iI 1) hx hb dX0_areHadBehind_39 rfl ?_
            obtain rfl := Option.some.inj h
            exact W.zret (v := iI 1) hx hb hr (by decide) (fun t ht hW => ⟨⟨iI 1, (), rfl, rfl, WLD.of ht hP hD⟩, hS.F ht⟩) hS.2.2 dX0_areHadBehind_40
  have hl := lv_entry ([.ref h_p0, .int a1, .int a2]) (n := 6) (Nat.le_of_ble_eq_true rfl)
  rw [lg_entry_eq]
  generalize (lg_sl ([.ref h_p0, .int a1, .int a2]) ++ List.replicate (6 - (lg_sl ([.ref h_p0, .int a1, .int a2])).length) Slot.unset).toArray = ls at hl ⊢
  have hl : lv_has ls 6 [(0, .ref h_p0), (1, .int a1), (2, .int a2)] := hl
  unfold s_X0_areHadBehind at h
  refine lv_iload_n hx hb dX0_areHadBehind_0 rfl (lv_at hl 1 rfl) ?_
  refine lv_bipush (v := iI 6) hx hb dX0_areHadBehind_1 (by decide) ?_
  refine lv_imul hx hb dX0_areHadBehind_3 ?_
  refine lv_istore_n hx hb dX0_areHadBehind_4 rfl hl (by decide) (rfl : _ = ([(3, .int (a1 * iI 6)), (0, .ref h_p0), (1, .int a1), (2, .int a2)] : List (Nat × Value))) (fun ls hl => ?_)
  refine lv_iload_n hx hb dX0_areHadBehind_5 rfl (lv_at hl 0 rfl) ?_
  refine lv_istore hx hb dX0_areHadBehind_6 hl (by decide) (rfl : _ = ([(4, .int (a1 * iI 6)), (3, .int (a1 * iI 6)), (0, .ref h_p0), (1, .int a1), (2, .int a2)] : List (Nat × Value))) (fun ls hl => ?_)
  exact (L8 n).1 (a1 * iI 6) (a1 * iI 6) _ _ hP hD hS ls (lv_sub hl [2, 4, 1, 0] rfl) h
def s_X3_init : Option (Int32 × (Nat → Int32)) := (some (0, (fun _ => 0)))
set_option maxRecDepth 20000 in
theorem m_X3_init_0 : (.methodLink RX3 3 objectInit : Cond) ∈ wsX3_init := by decide +kernel
set_option maxRecDepth 20000 in
theorem m_X3_init_1 : (.instanceMethod objectInit : Cond) ∈ wsX3_init := by decide +kernel
set_option maxRecDepth 20000 in
theorem m_X3_init_2 : (.code objectInit ⟨#[0xb1]⟩ 1 none : Cond) ∈ wsX3_init := by decide +kernel
set_option maxRecDepth 20000 in
theorem m_X3_init_3 : (.arrayClass .int : Cond) ∈ wsX3_init := by decide +kernel
set_option maxRecDepth 20000 in
theorem m_X3_init_4 : ∀ w ∈ u_ws RX3 TX3 2, w ∈ wsX3_init := by decide +kernel
set_option maxRecDepth 20000 in
theorem m_X3_init_5 : (.fieldLink RX3 9 "SleeperBerths$Roster" "cells" "[I" : Cond) ∈ wsX3_init := by decide +kernel
set_option maxHeartbeats 4000000 in
set_option maxRecDepth 100000 in
theorem c_X3_init (l : Launch) (dC : Nat → ClassId) (dI : Nat → Nat → Nat) (cyI cyJ cyT : ClassId) (h_p0 : Nat) (sz : Nat) (o : Int32 × (Nat → Int32)) (h : s_X3_init = some o) : Met l yX3_init wsX3_init ({ frames := 1, cells := 1, slots := 280, locals := 12 }) (va_Pc [.ref h_p0] (PRE (dC, dI) (TYS cyI cyJ cyT) sz [(h_p0, .inr (3, [.null, .int 0]))])) (va_Qv (S := Unit) (fun _ => True) (fun _ t => ∃ (b_cells : Nat), WLD (dC, dI) (va_A [(h_p0, .inr (3, [.null, .int 0]))] sz) [(h_p0, .inr (3, [.ref b_cells, .int o.1])), (b_cells, .inl (cyI, 280, .inl o.2))] t) (va_A [(h_p0, .inr (3, [.null, .int 0]))] sz)) 1 280 (va_A [(h_p0, .inr (3, [.null, .int 0]))] sz) := by
  refine Met.ofW (cc := cX3_init) (maxL := 1) (ret := none) (by decide) rfl ?_
  intro p e s m args below meth c s₁ B hml hv
  obtain ⟨rfl, hsz, hP, hK, hD0, hNW⟩ := hv
  have hx := B.exec
  have hb := B.bytes
  have hr := B.returns
  have hts := atoms_spec (ws := wsX3_init) B.pre
  have hown : s.vm.findClass RX3 = some m.cls := findClass_of_methodNamed B.named
  have hlocks := B.notSynchronized
  have hin : meth.name = "<init>" := (name_of_methodNamed B.named B.method).1
  subst hsz
  have hD := hD0.self (sz := s.heap.size)
  generalize hAe : va_A [(h_p0, .inr (3, [.null, .int 0]))] s.heap.size = A at hD ⊢
  have hA : ∀ q : Nat, s.heap.size ≤ q → A q := fun q h => by rw [← hAe]; exact Or.inr h
  have hS : va_S A s.heap s.heap [] := va_S.rf
  have hP : va_P (dC, dI) vwCl [(h_p0, .inr (3, [.null, .int 0]))] s.heap := hP
  have hl := lv_entry ([.ref h_p0]) (n := 1) (Nat.le_of_ble_eq_true rfl)
  rw [lg_entry_eq]
  generalize (lg_sl ([.ref h_p0]) ++ List.replicate (1 - (lg_sl ([.ref h_p0])).length) Slot.unset).toArray = ls at hl ⊢
  have hl : lv_has ls 1 [(0, .ref h_p0)] := hl
  unfold s_X3_init at h
  refine lv_aload_n hx hb dX3_init_0 rfl (lv_at hl 0 rfl) ?_
  refine W.objInit hx hb hown (hts (.methodLink RX3 3 objectInit) m_X3_init_0) (hts (.instanceMethod objectInit) m_X3_init_1) (hts (.code objectInit ⟨#[0xb1]⟩ 1 none) m_X3_init_2) rfl (by rw [hml]; exact hl.1) rfl dX3_init_1 (Nat.le_of_ble_eq_true rfl) (Nat.le_of_ble_eq_true rfl) ?_
  refine W.eq (g2 := F0 m 4 ls []) rfl ?_
  refine lv_aload_n hx hb dX3_init_4 rfl (lv_at hl 0 rfl) ?_
  refine lv_sipush (v := iI 280) hx hb dX3_init_5 (by decide) ?_
  refine newI hx hb (hts (.arrayClass .int) m_X3_init_3) dX3_init_8 hK hP hD hS hA (NN := 280) (by decide) (by decide) (by decide) (Nat.le_of_ble_eq_true rfl) (Nat.le_of_ble_eq_true rfl) (fun q1 H hP hD hS => ?_)
  have hP : va_P (dC, dI) vwCl [(h_p0, .inr (3, [.null, .int 0])), (q1, .inl (cyI, 280, .inl (fun _ => 0)))] H := hP
  have hD : va_D A [(h_p0, .inr (3, [.null, .int 0])), (q1, .inl (cyI, 280, .inl (fun _ => 0)))] := hD
  refine va_putF (D := (dC, dI)) (ci := 3) (v := .ref q1) (ty := .array .int) (C := RX3) (T := TX3) (N := 2) hx hb hts m_X3_init_4 tyX3 tyX3_ok nmX3 hown hK hP hD hS 0 rfl rfl 0 (by decide) (hts (.fieldLink RX3 9 "SleeperBerths$Roster" "cells" "[I") m_X3_init_5) (fun _ h9 => h9) rfl hin rfl (by decide +kernel) rfl rfl (Nat.le_of_ble_eq_true rfl) dX3_init_10 (fun H locs hP hD hS => ?_)
  have hP : va_P (dC, dI) vwCl [(h_p0, .inr (3, [.ref q1, .int 0])), (q1, .inl (cyI, 280, .inl (fun _ => 0)))] H := hP
  have hD : va_D A [(h_p0, .inr (3, [.ref q1, .int 0])), (q1, .inl (cyI, 280, .inl (fun _ => 0)))] := hD
  obtain rfl := Option.some.inj h
  refine W.widen (k := 1) (n := 280) (Nat.le_of_ble_eq_true rfl) (Nat.le_of_ble_eq_true rfl) ?_
  exact W.vret hx hb hr (fun t ht hW => ⟨⟨(), rfl, trivial, q1, WLD.of ht hP hD⟩, hS.F ht⟩) hS.2.2 dX3_init_13
def s_X3_takeOver (n : Nat) (v_size : Int32) (v_cells : Nat → Int32) (v_size_1 : Int32) (v_cells_1 : Nat → Int32) : Option (Int32 × (Nat → Int32)) := ((s_X6_copyAll n 280 v_cells_1 280 v_cells).bind fun r1 => (some (v_size_1, r1)))
set_option maxRecDepth 20000 in
theorem m_X3_takeOver_0 : ∀ w ∈ u_ws RX3 TX3 2, w ∈ wsX3_takeOver := by decide +kernel
set_option maxRecDepth 20000 in
theorem m_X3_takeOver_1 : (.fieldLink RX3 9 "SleeperBerths$Roster" "cells" "[I" : Cond) ∈ wsX3_takeOver := by decide +kernel
set_option maxRecDepth 20000 in
theorem m_X3_takeOver_2 : (.initialized RX6 : Cond) ∈ wsX3_takeOver := by decide +kernel
set_option maxRecDepth 20000 in
theorem m_X3_takeOver_3 : (.static yX6_copyAll : Cond) ∈ wsX3_takeOver := by decide +kernel
set_option maxRecDepth 20000 in
theorem m_X3_takeOver_4 : (.fieldLink RX3 19 "SleeperBerths$Roster" "size" "I" : Cond) ∈ wsX3_takeOver := by decide +kernel
set_option maxHeartbeats 4000000 in
set_option maxRecDepth 100000 in
theorem c_X3_takeOver (l : Launch) (dC : Nat → ClassId) (dI : Nat → Nat → Nat) (cyI cyJ cyT : ClassId) (h_p0 : Nat) (h_p0_cells : Nat) (h_p1 : Nat) (h_p1_cells : Nat) (sz : Nat) (v_size : Int32) (v_cells : Nat → Int32) (v_size_1 : Int32) (v_cells_1 : Nat → Int32) (n : Nat) (o : Int32 × (Nat → Int32)) (h : s_X3_takeOver n v_size v_cells v_size_1 v_cells_1 = some o) : Met l yX3_takeOver wsX3_takeOver ({ frames := 2, cells := 0, slots := 0, locals := 44 }) (va_Pc [.ref h_p0, .ref h_p1] (PRE (dC, dI) (TYS cyI cyJ cyT) sz [(h_p0, .inr (3, [.ref h_p0_cells, .int v_size])), (h_p0_cells, .inl (cyI, 280, .inl v_cells)), (h_p1, .inr (3, [.ref h_p1_cells, .int v_size_1])), (h_p1_cells, .inl (cyI, 280, .inl v_cells_1))])) (va_Qv (S := Unit) (fun _ => True) (fun _ t => WLD (dC, dI) (va_A [(h_p0, .inr (3, [.ref h_p0_cells, .int v_size])), (h_p0_cells, .inl (cyI, 280, .inl v_cells)), (h_p1, .inr (3, [.ref h_p1_cells, .int v_size_1])), (h_p1_cells, .inl (cyI, 280, .inl v_cells_1))] sz) [(h_p0, .inr (3, [.ref h_p0_cells, .int o.1])), (h_p0_cells, .inl (cyI, 280, .inl o.2)), (h_p1, .inr (3, [.ref h_p1_cells, .int v_size_1])), (h_p1_cells, .inl (cyI, 280, .inl v_cells_1))] t) (va_A [(h_p0, .inr (3, [.ref h_p0_cells, .int v_size])), (h_p0_cells, .inl (cyI, 280, .inl v_cells)), (h_p1, .inr (3, [.ref h_p1_cells, .int v_size_1])), (h_p1_cells, .inl (cyI, 280, .inl v_cells_1))] sz)) 0 0 (va_A [(h_p0, .inr (3, [.ref h_p0_cells, .int v_size])), (h_p0_cells, .inl (cyI, 280, .inl v_cells)), (h_p1, .inr (3, [.ref h_p1_cells, .int v_size_1])), (h_p1_cells, .inl (cyI, 280, .inl v_cells_1))] sz) := by
  refine Met.ofW (cc := cX3_takeOver) (maxL := 2) (ret := none) (by decide) rfl ?_
  intro p e s m args below meth c s₁ B hml hv
  obtain ⟨rfl, hsz, hP, hK, hD0, hNW⟩ := hv
  have hx := B.exec
  have hb := B.bytes
  have hr := B.returns
  have hts := atoms_spec (ws := wsX3_takeOver) B.pre
  have hown : s.vm.findClass RX3 = some m.cls := findClass_of_methodNamed B.named
  have hlocks := B.notSynchronized
  subst hsz
  have hD := hD0.self (sz := s.heap.size)
  generalize hAe : va_A [(h_p0, .inr (3, [.ref h_p0_cells, .int v_size])), (h_p0_cells, .inl (cyI, 280, .inl v_cells)), (h_p1, .inr (3, [.ref h_p1_cells, .int v_size_1])), (h_p1_cells, .inl (cyI, 280, .inl v_cells_1))] s.heap.size = A at hD ⊢
  have hA : ∀ q : Nat, s.heap.size ≤ q → A q := fun q h => by rw [← hAe]; exact Or.inr h
  have hS : va_S A s.heap s.heap [] := va_S.rf
  have hP : va_P (dC, dI) vwCl [(h_p0, .inr (3, [.ref h_p0_cells, .int v_size])), (h_p0_cells, .inl (cyI, 280, .inl v_cells)), (h_p1, .inr (3, [.ref h_p1_cells, .int v_size_1])), (h_p1_cells, .inl (cyI, 280, .inl v_cells_1))] s.heap := hP
  have hl := lv_entry ([.ref h_p0, .ref h_p1]) (n := 2) (Nat.le_of_ble_eq_true rfl)
  rw [lg_entry_eq]
  generalize (lg_sl ([.ref h_p0, .ref h_p1]) ++ List.replicate (2 - (lg_sl ([.ref h_p0, .ref h_p1])).length) Slot.unset).toArray = ls at hl ⊢
  have hl : lv_has ls 2 [(0, .ref h_p0), (1, .ref h_p1)] := hl
  unfold s_X3_takeOver at h
  refine lv_aload_n hx hb dX3_takeOver_0 rfl (lv_at hl 1 rfl) ?_
  refine va_get (D := (dC, dI)) (ci := 3) (v := .ref h_p1_cells) (C := RX3) (T := TX3) (N := 2) hx hb hts m_X3_takeOver_0 hown hK hP 2 rfl rfl 0 (by decide) (hts (.fieldLink RX3 9 "SleeperBerths$Roster" "cells" "[I") m_X3_takeOver_1) (fun _ h9 => h9) rfl dX3_takeOver_1 ?_
  refine lv_aload_n hx hb dX3_takeOver_4 rfl (lv_at hl 0 rfl) ?_
  refine va_get (D := (dC, dI)) (ci := 3) (v := .ref h_p0_cells) (C := RX3) (T := TX3) (N := 2) hx hb hts m_X3_takeOver_0 hown hK hP 0 rfl rfl 0 (by decide) (hts (.fieldLink RX3 9 "SleeperBerths$Roster" "cells" "[I") m_X3_takeOver_1) (fun _ h9 => h9) rfl dX3_takeOver_5 ?_
  obtain ⟨r1, e2, h⟩ := bsome h
  have hPc := sb_P [(h_p1_cells, .inl (cyI, 280, .inl v_cells_1)), (h_p0_cells, .inl (cyI, 280, .inl v_cells))] hP [3, 1] rfl
  have hDc := sb_D [(h_p1_cells, .inl (cyI, 280, .inl v_cells_1)), (h_p0_cells, .inl (cyI, 280, .inl v_cells))] hD [3, 1] (by decide) rfl
  have hFc := va_free (wc := [(h_p1_cells, .inl (cyI, 280, .inl v_cells_1)), (h_p0_cells, .inl (cyI, 280, .inl v_cells))]) hD hS hA [3, 1] rfl
  refine va_callv (va_runSN (As := [.ref h_p1_cells, .ref h_p0_cells]) (rest := []) ⟨hx, hb, hml, hown, hts⟩ (c_X6_copyAll l dC dI cyI cyJ cyT h_p1_cells h_p0_cells s.heap.size 280 280 v_cells_1 v_cells n r1 e2) ⟨va_cnB (host := "SleeperBerths") 2 hts gX3_takeOver_X6_copyAll_n15 rfl rfl rfl (hNW 8 rfl) (hts (.initialized RX6) m_X3_takeOver_2) (by decide +kernel) ⟨Nat.le_of_ble_eq_true rfl, Nat.le_of_ble_eq_true rfl⟩, (hts (.static yX6_copyAll) m_X3_takeOver_3), trivial⟩ ⟨PRE.blind, PRE.go hK hPc hDc hNW⟩ rfl rfl hl.1 rfl (lv_room (Nat.le_of_ble_eq_true rfl)) dX3_takeOver_8 ⟨Nat.zero_le _, Nat.zero_le _⟩) hS (fun q _ h => hFc q h) hFc (fun u t H locs ht hvm hw hB hz1 hk1 hS => ?_)
  obtain ⟨hP, hD⟩ := va_join (wr := [(h_p0, .inr (3, [.ref h_p0_cells, .int v_size])), (h_p1, .inr (3, [.ref h_p1_cells, .int v_size_1]))]) (w1 := [(h_p1_cells, .inl (cyI, 280, .inl v_cells_1)), (h_p0_cells, .inl (cyI, 280, .inl r1))]) hP hD [3, 1] [0, 2] rfl rfl (by decide) (by decide) hk1 hFc (WLD.P hB ht) hB.2
  have hP : va_P (dC, dI) vwCl [(h_p0, .inr (3, [.ref h_p0_cells, .int v_size])), (h_p1, .inr (3, [.ref h_p1_cells, .int v_size_1])), (h_p1_cells, .inl (cyI, 280, .inl v_cells_1)), (h_p0_cells, .inl (cyI, 280, .inl r1))] H := hP
  have hD : va_D A [(h_p0, .inr (3, [.ref h_p0_cells, .int v_size])), (h_p1, .inr (3, [.ref h_p1_cells, .int v_size_1])), (h_p1_cells, .inl (cyI, 280, .inl v_cells_1)), (h_p0_cells, .inl (cyI, 280, .inl r1))] := hD
  refine lv_aload_n hx hb dX3_takeOver_11 rfl (lv_at hl 0 rfl) ?_
  refine lv_aload_n hx hb dX3_takeOver_12 rfl (lv_at hl 1 rfl) ?_
  refine va_get (D := (dC, dI)) (ci := 3) (v := .int v_size_1) (C := RX3) (T := TX3) (N := 2) hx hb hts m_X3_takeOver_0 hown hK hP 1 rfl rfl 1 (by decide) (hts (.fieldLink RX3 19 "SleeperBerths$Roster" "size" "I") m_X3_takeOver_4) (fun _ h9 => h9) rfl dX3_takeOver_13 ?_
  refine va_put (D := (dC, dI)) (ci := 3) (v := .int v_size_1) (ty := .int) (C := RX3) (T := TX3) (N := 2) hx hb hts m_X3_takeOver_0 tyX3 tyX3_ok nmX3 hown hK hP hD hS 0 rfl rfl 1 (by decide) (hts (.fieldLink RX3 19 "SleeperBerths$Roster" "size" "I") m_X3_takeOver_4) (fun _ h9 => h9) rfl (by decide +kernel) rfl rfl (Nat.le_of_ble_eq_true rfl) dX3_takeOver_16 (fun H locs hP hD hS => ?_)
  have hP : va_P (dC, dI) vwCl [(h_p0, .inr (3, [.ref h_p0_cells, .int v_size_1])), (h_p1, .inr (3, [.ref h_p1_cells, .int v_size_1])), (h_p1_cells, .inl (cyI, 280, .inl v_cells_1)), (h_p0_cells, .inl (cyI, 280, .inl r1))] H := hP
  have hD : va_D A [(h_p0, .inr (3, [.ref h_p0_cells, .int v_size_1])), (h_p1, .inr (3, [.ref h_p1_cells, .int v_size_1])), (h_p1_cells, .inl (cyI, 280, .inl v_cells_1)), (h_p0_cells, .inl (cyI, 280, .inl r1))] := hD
  obtain rfl := Option.some.inj h
  exact W.vret hx hb hr (fun t ht hW => ⟨⟨(), rfl, trivial, WLD.of ht (sb_P [(h_p0, .inr (3, [.ref h_p0_cells, .int v_size_1])), (h_p0_cells, .inl (cyI, 280, .inl r1)), (h_p1, .inr (3, [.ref h_p1_cells, .int v_size_1])), (h_p1_cells, .inl (cyI, 280, .inl v_cells_1))] hP [0, 3, 1, 2] rfl) (sb_D [(h_p0, .inr (3, [.ref h_p0_cells, .int v_size_1])), (h_p0_cells, .inl (cyI, 280, .inl r1)), (h_p1, .inr (3, [.ref h_p1_cells, .int v_size_1])), (h_p1_cells, .inl (cyI, 280, .inl v_cells_1))] hD [0, 3, 1, 2] (by decide) rfl)⟩, hS.F ht⟩) hS.2.2 dX3_takeOver_19
def s_X3_isFull (v_size : Int32) : Option (Int32) := (if v_size < iI 40 then (some (iI 0)) else (some (iI 1)))
set_option maxRecDepth 20000 in
theorem m_X3_isFull_0 : ∀ w ∈ u_ws RX3 TX3 2, w ∈ wsX3_isFull := by decide +kernel
set_option maxRecDepth 20000 in
theorem m_X3_isFull_1 : (.fieldLink RX3 19 "SleeperBerths$Roster" "size" "I" : Cond) ∈ wsX3_isFull := by decide +kernel
set_option maxHeartbeats 4000000 in
set_option maxRecDepth 100000 in
theorem c_X3_isFull (l : Launch) (dC : Nat → ClassId) (dI : Nat → Nat → Nat) (cyI cyJ cyT : ClassId) (h_p0 : Nat) (h_p0_cells : Nat) (sz : Nat) (v_size : Int32) (o : Int32) (h : s_X3_isFull v_size = some o) : Met l yX3_isFull wsX3_isFull ({ frames := 0, cells := 0, slots := 0, locals := 0 }) (va_Pc [.ref h_p0] (PRE (dC, dI) (TYS cyI cyJ cyT) sz [(h_p0, .inr (3, [.ref h_p0_cells, .int v_size]))])) (va_Qi (S := Unit) (fun r _ => r = o) (fun _ t => WLD (dC, dI) (va_A [(h_p0, .inr (3, [.ref h_p0_cells, .int v_size]))] sz) [(h_p0, .inr (3, [.ref h_p0_cells, .int v_size]))] t) (va_A [(h_p0, .inr (3, [.ref h_p0_cells, .int v_size]))] sz)) 0 0 (va_A [(h_p0, .inr (3, [.ref h_p0_cells, .int v_size]))] sz) := by
  refine Met.ofW (cc := cX3_isFull) (maxL := 1) (ret := (some .boolean)) (by decide) rfl ?_
  intro p e s m args below meth c s₁ B hml hv
  obtain ⟨rfl, hsz, hP, hK, hD0, hNW⟩ := hv
  have hx := B.exec
  have hb := B.bytes
  have hr := B.returns
  have hts := atoms_spec (ws := wsX3_isFull) B.pre
  have hown : s.vm.findClass RX3 = some m.cls := findClass_of_methodNamed B.named
  have hlocks := B.notSynchronized
  subst hsz
  have hD := hD0.self (sz := s.heap.size)
  generalize hAe : va_A [(h_p0, .inr (3, [.ref h_p0_cells, .int v_size]))] s.heap.size = A at hD ⊢
  have hA : ∀ q : Nat, s.heap.size ≤ q → A q := fun q h => by rw [← hAe]; exact Or.inr h
  have hS : va_S A s.heap s.heap [] := va_S.rf
  have hP : va_P (dC, dI) vwCl [(h_p0, .inr (3, [.ref h_p0_cells, .int v_size]))] s.heap := hP
  have hl := lv_entry ([.ref h_p0]) (n := 1) (Nat.le_of_ble_eq_true rfl)
  rw [lg_entry_eq]
  generalize (lg_sl ([.ref h_p0]) ++ List.replicate (1 - (lg_sl ([.ref h_p0])).length) Slot.unset).toArray = ls at hl ⊢
  have hl : lv_has ls 1 [(0, .ref h_p0)] := hl
  unfold s_X3_isFull at h
  refine lv_aload_n hx hb dX3_isFull_0 rfl (lv_at hl 0 rfl) ?_
  refine va_get (D := (dC, dI)) (ci := 3) (v := .int v_size) (C := RX3) (T := TX3) (N := 2) hx hb hts m_X3_isFull_0 hown hK hP 0 rfl rfl 1 (by decide) (hts (.fieldLink RX3 19 "SleeperBerths$Roster" "size" "I") m_X3_isFull_1) (fun _ h9 => h9) rfl dX3_isFull_1 ?_
  refine lv_bipush (v := iI 40) hx hb dX3_isFull_4 (by decide) ?_
  refine lv_icmp_lt (tgt := 13) hx hb dX3_isFull_6 (by decide) (fun c1 => ?_) (fun c1 => ?_)
  · have h := ipos c1 h
    refine lv_iconst (v := iI 0) hx hb dX3_isFull_13 rfl ?_
    obtain rfl := Option.some.inj h
    exact W.zret (v := iI 0) hx hb hr (by decide) (fun t ht hW => ⟨⟨iI 0, (), rfl, rfl, WLD.of ht hP hD⟩, hS.F ht⟩) hS.2.2 dX3_isFull_14
  · have h := ineg c1 h
    refine lv_iconst (v := iI 1) hx hb dX3_isFull_9 rfl ?_
    refine lv_goto (tgt := 14) hx hb dX3_isFull_10 (by decide) ?_
    obtain rfl := Option.some.inj h
    exact W.zret (v := iI 1) hx hb hr (by decide) (fun t ht hW => ⟨⟨iI 1, (), rfl, rfl, WLD.of ht hP hD⟩, hS.F ht⟩) hS.2.2 dX3_isFull_14
def s_X3_put (v_cells : Nat → Int32) (a1 : Int32) (a2 : Int32) (a3 : Int32) : Option ((Nat → Int32)) := ((s_X6_write 280 v_cells ((a1 * iI 7) + a2) a3).bind fun r1 => (some (r1)))
set_option maxRecDepth 20000 in
theorem m_X3_put_0 : ∀ w ∈ u_ws RX3 TX3 2, w ∈ wsX3_put := by decide +kernel
set_option maxRecDepth 20000 in
theorem m_X3_put_1 : (.fieldLink RX3 9 "SleeperBerths$Roster" "cells" "[I" : Cond) ∈ wsX3_put := by decide +kernel
set_option maxRecDepth 20000 in
theorem m_X3_put_2 : (.initialized RX6 : Cond) ∈ wsX3_put := by decide +kernel
set_option maxRecDepth 20000 in
theorem m_X3_put_3 : (.static yX6_write : Cond) ∈ wsX3_put := by decide +kernel
set_option maxHeartbeats 4000000 in
set_option maxRecDepth 100000 in
theorem c_X3_put (l : Launch) (dC : Nat → ClassId) (dI : Nat → Nat → Nat) (cyI cyJ cyT : ClassId) (h_p0 : Nat) (h_p0_cells : Nat) (sz : Nat) (v_size : Int32) (v_cells : Nat → Int32) (a1 : Int32) (a2 : Int32) (a3 : Int32) (o : (Nat → Int32)) (h : s_X3_put v_cells a1 a2 a3 = some o) : Met l yX3_put wsX3_put ({ frames := 1, cells := 0, slots := 0, locals := 22 }) (va_Pc [.ref h_p0, .int a1, .int a2, .int a3] (PRE (dC, dI) (TYS cyI cyJ cyT) sz [(h_p0, .inr (3, [.ref h_p0_cells, .int v_size])), (h_p0_cells, .inl (cyI, 280, .inl v_cells))])) (va_Qv (S := Unit) (fun _ => True) (fun _ t => WLD (dC, dI) (va_A [(h_p0, .inr (3, [.ref h_p0_cells, .int v_size])), (h_p0_cells, .inl (cyI, 280, .inl v_cells))] sz) [(h_p0, .inr (3, [.ref h_p0_cells, .int v_size])), (h_p0_cells, .inl (cyI, 280, .inl o))] t) (va_A [(h_p0, .inr (3, [.ref h_p0_cells, .int v_size])), (h_p0_cells, .inl (cyI, 280, .inl v_cells))] sz)) 0 0 (va_A [(h_p0, .inr (3, [.ref h_p0_cells, .int v_size])), (h_p0_cells, .inl (cyI, 280, .inl v_cells))] sz) := by
  refine Met.ofW (cc := cX3_put) (maxL := 4) (ret := none) (by decide) rfl ?_
  intro p e s m args below meth c s₁ B hml hv
  obtain ⟨rfl, hsz, hP, hK, hD0, hNW⟩ := hv
  have hx := B.exec
  have hb := B.bytes
  have hr := B.returns
  have hts := atoms_spec (ws := wsX3_put) B.pre
  have hown : s.vm.findClass RX3 = some m.cls := findClass_of_methodNamed B.named
  have hlocks := B.notSynchronized
  subst hsz
  have hD := hD0.self (sz := s.heap.size)
  generalize hAe : va_A [(h_p0, .inr (3, [.ref h_p0_cells, .int v_size])), (h_p0_cells, .inl (cyI, 280, .inl v_cells))] s.heap.size = A at hD ⊢
  have hA : ∀ q : Nat, s.heap.size ≤ q → A q := fun q h => by rw [← hAe]; exact Or.inr h
  have hS : va_S A s.heap s.heap [] := va_S.rf
  have hP : va_P (dC, dI) vwCl [(h_p0, .inr (3, [.ref h_p0_cells, .int v_size])), (h_p0_cells, .inl (cyI, 280, .inl v_cells))] s.heap := hP
  have hl := lv_entry ([.ref h_p0, .int a1, .int a2, .int a3]) (n := 4) (Nat.le_of_ble_eq_true rfl)
  rw [lg_entry_eq]
  generalize (lg_sl ([.ref h_p0, .int a1, .int a2, .int a3]) ++ List.replicate (4 - (lg_sl ([.ref h_p0, .int a1, .int a2, .int a3])).length) Slot.unset).toArray = ls at hl ⊢
  have hl : lv_has ls 4 [(0, .ref h_p0), (1, .int a1), (2, .int a2), (3, .int a3)] := hl
  unfold s_X3_put at h
  refine lv_aload_n hx hb dX3_put_0 rfl (lv_at hl 0 rfl) ?_
  refine va_get (D := (dC, dI)) (ci := 3) (v := .ref h_p0_cells) (C := RX3) (T := TX3) (N := 2) hx hb hts m_X3_put_0 hown hK hP 0 rfl rfl 0 (by decide) (hts (.fieldLink RX3 9 "SleeperBerths$Roster" "cells" "[I") m_X3_put_1) (fun _ h9 => h9) rfl dX3_put_1 ?_
  refine lv_iload_n hx hb dX3_put_4 rfl (lv_at hl 1 rfl) ?_
  refine lv_bipush (v := iI 7) hx hb dX3_put_5 (by decide) ?_
  refine lv_imul hx hb dX3_put_7 ?_
  refine lv_iload_n hx hb dX3_put_8 rfl (lv_at hl 2 rfl) ?_
  refine lv_iadd hx hb dX3_put_9 ?_
  refine lv_iload_n hx hb dX3_put_10 rfl (lv_at hl 3 rfl) ?_
  obtain ⟨r1, e2, h⟩ := bsome h
  have hPc := sb_P [(h_p0_cells, .inl (cyI, 280, .inl v_cells))] hP [1] rfl
  have hDc := sb_D [(h_p0_cells, .inl (cyI, 280, .inl v_cells))] hD [1] (by decide) rfl
  have hFc := va_free (wc := [(h_p0_cells, .inl (cyI, 280, .inl v_cells))]) hD hS hA [1] rfl
  refine va_callv (va_runSN (As := [.ref h_p0_cells, .int ((a1 * iI 7) + a2), .int a3]) (rest := []) ⟨hx, hb, hml, hown, hts⟩ (c_X6_write l dC dI cyI cyJ cyT h_p0_cells s.heap.size 280 v_cells ((a1 * iI 7) + a2) a3 r1 e2) ⟨va_cnB (host := "SleeperBerths") 3 hts gX3_put_X6_write_n23 rfl rfl rfl (hNW 10 rfl) (hts (.initialized RX6) m_X3_put_2) (by decide +kernel) ⟨Nat.le_of_ble_eq_true rfl, Nat.le_of_ble_eq_true rfl⟩, (hts (.static yX6_write) m_X3_put_3), trivial⟩ ⟨PRE.blind, PRE.go hK hPc hDc hNW⟩ rfl rfl hl.1 rfl (lv_room (Nat.le_of_ble_eq_true rfl)) dX3_put_11 ⟨Nat.zero_le _, Nat.zero_le _⟩) hS (fun q _ h => hFc q h) hFc (fun u t H locs ht hvm hw hB hz1 hk1 hS => ?_)
  obtain ⟨hP, hD⟩ := va_join (wr := [(h_p0, .inr (3, [.ref h_p0_cells, .int v_size]))]) (w1 := [(h_p0_cells, .inl (cyI, 280, .inl r1))]) hP hD [1] [0] rfl rfl (by decide) (by decide) hk1 hFc (WLD.P hB ht) hB.2
  have hP : va_P (dC, dI) vwCl [(h_p0, .inr (3, [.ref h_p0_cells, .int v_size])), (h_p0_cells, .inl (cyI, 280, .inl r1))] H := hP
  have hD : va_D A [(h_p0, .inr (3, [.ref h_p0_cells, .int v_size])), (h_p0_cells, .inl (cyI, 280, .inl r1))] := hD
  obtain rfl := Option.some.inj h
  exact W.vret hx hb hr (fun t ht hW => ⟨⟨(), rfl, trivial, WLD.of ht hP hD⟩, hS.F ht⟩) hS.2.2 dX3_put_14
def s_X3_addRow (v_size : Int32) (v_cells : Nat → Int32) (a1 : Int32) (a2 : Int32) (a3 : Int32) (a4 : Int32) : Option (Int32 × Int32 × (Nat → Int32)) := ((s_X3_put v_cells v_size (iI 0) a1).bind fun r1 => ((s_X3_put r1 v_size (iI 1) a2).bind fun r4 => ((s_X3_put r4 v_size (iI 2) a3).bind fun r7 => (if a4 = 0 then ((s_X3_put r7 v_size (iI 3) (iI 0)).bind fun r11 => (some (v_size, (v_size + iI 1), r11))) else ((s_X3_put r7 v_size (iI 3) (iI 1)).bind fun r14 => (some (v_size, (v_size + iI 1), r14)))))))
set_option maxRecDepth 20000 in
theorem m_X3_addRow_0 : ∀ w ∈ u_ws RX3 TX3 2, w ∈ wsX3_addRow := by decide +kernel
set_option maxRecDepth 20000 in
theorem m_X3_addRow_1 : (.fieldLink RX3 19 "SleeperBerths$Roster" "size" "I" : Cond) ∈ wsX3_addRow := by decide +kernel
set_option maxHeartbeats 4000000 in
set_option maxRecDepth 100000 in
theorem c_X3_addRow (l : Launch) (dC : Nat → ClassId) (dI : Nat → Nat → Nat) (cyI cyJ cyT : ClassId) (h_p0 : Nat) (h_p0_cells : Nat) (sz : Nat) (v_size : Int32) (v_cells : Nat → Int32) (a1 : Int32) (a2 : Int32) (a3 : Int32) (a4 : Int32) (o : Int32 × Int32 × (Nat → Int32)) (h : s_X3_addRow v_size v_cells a1 a2 a3 a4 = some o) : Met l yX3_addRow wsX3_addRow ({ frames := 2, cells := 0, slots := 0, locals := 45 }) (va_Pc [.ref h_p0, .int a1, .int a2, .int a3, .int a4] (PRE (dC, dI) (TYS cyI cyJ cyT) sz [(h_p0, .inr (3, [.ref h_p0_cells, .int v_size])), (h_p0_cells, .inl (cyI, 280, .inl v_cells))])) (va_Qi (S := Unit) (fun r _ => r = o.1) (fun _ t => WLD (dC, dI) (va_A [(h_p0, .inr (3, [.ref h_p0_cells, .int v_size])), (h_p0_cells, .inl (cyI, 280, .inl v_cells))] sz) [(h_p0, .inr (3, [.ref h_p0_cells, .int o.2.1])), (h_p0_cells, .inl (cyI, 280, .inl o.2.2))] t) (va_A [(h_p0, .inr (3, [.ref h_p0_cells, .int v_size])), (h_p0_cells, .inl (cyI, 280, .inl v_cells))] sz)) 0 0 (va_A [(h_p0, .inr (3, [.ref h_p0_cells, .int v_size])), (h_p0_cells, .inl (cyI, 280, .inl v_cells))] sz) := by
  refine Met.ofW (cc := cX3_addRow) (maxL := 6) (ret := (some .int)) (by decide) rfl ?_
  intro p e s m args below meth c s₁ B hml hv
  obtain ⟨rfl, hsz, hP, hK, hD0, hNW⟩ := hv
  have hx := B.exec
  have hb := B.bytes
  have hr := B.returns
  have hts := atoms_spec (ws := wsX3_addRow) B.pre
  have hown : s.vm.findClass RX3 = some m.cls := findClass_of_methodNamed B.named
  have hlocks := B.notSynchronized
  subst hsz
  have hD := hD0.self (sz := s.heap.size)
  generalize hAe : va_A [(h_p0, .inr (3, [.ref h_p0_cells, .int v_size])), (h_p0_cells, .inl (cyI, 280, .inl v_cells))] s.heap.size = A at hD ⊢
  have hA : ∀ q : Nat, s.heap.size ≤ q → A q := fun q h => by rw [← hAe]; exact Or.inr h
  have hS : va_S A s.heap s.heap [] := va_S.rf
  have hP : va_P (dC, dI) vwCl [(h_p0, .inr (3, [.ref h_p0_cells, .int v_size])), (h_p0_cells, .inl (cyI, 280, .inl v_cells))] s.heap := hP
  have hl := lv_entry ([.ref h_p0, .int a1, .int a2, .int a3, .int a4]) (n := 6) (Nat.le_of_ble_eq_true rfl)
  rw [lg_entry_eq]
  generalize (lg_sl ([.ref h_p0, .int a1, .int a2, .int a3, .int a4]) ++ List.replicate (6 - (lg_sl ([.ref h_p0, .int a1, .int a2, .int a3, .int a4])).length) Slot.unset).toArray = ls at hl ⊢
  have hl : lv_has ls 6 [(0, .ref h_p0), (1, .int a1), (2, .int a2), (3, .int a3), (4, .int a4)] := hl
  unfold s_X3_addRow at h
  refine lv_aload_n hx hb dX3_addRow_0 rfl (lv_at hl 0 rfl) ?_
  refine va_get (D := (dC, dI)) (ci := 3) (v := .int v_size) (C := RX3) (T := TX3) (N := 2) hx hb hts m_X3_addRow_0 hown hK hP 0 rfl rfl 1 (by decide) (hts (.fieldLink RX3 19 "SleeperBerths$Roster" "size" "I") m_X3_addRow_1) (fun _ h9 => h9) rfl dX3_addRow_1 ?_
  refine lv_istore hx hb dX3_addRow_4 hl (by decide) (rfl : _ = ([(5, .int v_size), (0, .ref h_p0), (1, .int a1), (2, .int a2), (3, .int a3), (4, .int a4)] : List (Nat × Value))) (fun ls hl => ?_)
  refine lv_aload_n hx hb dX3_addRow_6 rfl (lv_at hl 1 rfl) ?_
  refine lv_iload hx hb dX3_addRow_7 (lv_at hl 0 rfl) ?_
  refine lv_iconst (v := iI 0) hx hb dX3_addRow_9 rfl ?_
  refine lv_iload_n hx hb dX3_addRow_10 rfl (lv_at hl 2 rfl) ?_
  obtain ⟨r1, e2, h⟩ := bsome h
  have hPc := sb_P [(h_p0, .inr (3, [.ref h_p0_cells, .int v_size])), (h_p0_cells, .inl (cyI, 280, .inl v_cells))] hP [0, 1] rfl
  have hDc := sb_D [(h_p0, .inr (3, [.ref h_p0_cells, .int v_size])), (h_p0_cells, .inl (cyI, 280, .inl v_cells))] hD [0, 1] (by decide) rfl
  have hFc := va_free (wc := [(h_p0, .inr (3, [.ref h_p0_cells, .int v_size])), (h_p0_cells, .inl (cyI, 280, .inl v_cells))]) hD hS hA [0, 1] rfl
  refine va_callv (va_runV (As := [.int v_size, .int (iI 0), .int a1]) (rest := []) ⟨hx, hb, hml, hown, hts⟩ (c_X3_put l dC dI cyI cyJ cyT h_p0 h_p0_cells s.heap.size v_size v_cells v_size (iI 0) a1 r1 e2) (cwV 3 hts gX3_addRow_X3_put rfl rfl rfl (by decide +kernel) ⟨Nat.le_of_ble_eq_true rfl, Nat.le_of_ble_eq_true rfl⟩) ⟨PRE.blind, va_recv hK hPc (ci := 3) (q0 := 0) rfl rfl, PRE.go hK hPc hDc hNW⟩ rfl rfl hl.1 rfl (lv_room (Nat.le_of_ble_eq_true rfl)) dX3_addRow_11 ⟨Nat.zero_le _, Nat.zero_le _⟩) hS (fun q _ h => hFc q h) hFc (fun u t H locs ht hvm hw hB hz1 hk1 hS => ?_)
  obtain ⟨hP, hD⟩ := va_join (wr := []) (w1 := [(h_p0, .inr (3, [.ref h_p0_cells, .int v_size])), (h_p0_cells, .inl (cyI, 280, .inl r1))]) hP hD [0, 1] [] rfl rfl (by decide) (by decide) hk1 hFc (WLD.P hB ht) hB.2
  have hP : va_P (dC, dI) vwCl [(h_p0, .inr (3, [.ref h_p0_cells, .int v_size])), (h_p0_cells, .inl (cyI, 280, .inl r1))] H := hP
  have hD : va_D A [(h_p0, .inr (3, [.ref h_p0_cells, .int v_size])), (h_p0_cells, .inl (cyI, 280, .inl r1))] := hD
  refine lv_aload_n hx hb dX3_addRow_14 rfl (lv_at hl 1 rfl) ?_
  refine lv_iload hx hb dX3_addRow_15 (lv_at hl 0 rfl) ?_
  refine lv_iconst (v := iI 1) hx hb dX3_addRow_17 rfl ?_
  refine lv_iload_n hx hb dX3_addRow_18 rfl (lv_at hl 3 rfl) ?_
  obtain ⟨r4, e5, h⟩ := bsome h
  have hPc := sb_P [(h_p0, .inr (3, [.ref h_p0_cells, .int v_size])), (h_p0_cells, .inl (cyI, 280, .inl r1))] hP [0, 1] rfl
  have hDc := sb_D [(h_p0, .inr (3, [.ref h_p0_cells, .int v_size])), (h_p0_cells, .inl (cyI, 280, .inl r1))] hD [0, 1] (by decide) rfl
  have hFc := va_free (wc := [(h_p0, .inr (3, [.ref h_p0_cells, .int v_size])), (h_p0_cells, .inl (cyI, 280, .inl r1))]) hD hS hA [0, 1] rfl
  refine va_callv (va_runV (As := [.int v_size, .int (iI 1), .int a2]) (rest := []) ⟨hx, hb, hml, hown, hts⟩ (c_X3_put l dC dI cyI cyJ cyT h_p0 h_p0_cells H.size v_size r1 v_size (iI 1) a2 r4 e5) (cwV 3 hts gX3_addRow_X3_put rfl rfl rfl (by decide +kernel) ⟨Nat.le_of_ble_eq_true rfl, Nat.le_of_ble_eq_true rfl⟩) ⟨PRE.blind, va_recv hK hPc (ci := 3) (q0 := 0) rfl rfl, PRE.go hK hPc hDc hNW⟩ rfl rfl hl.1 rfl (lv_room (Nat.le_of_ble_eq_true rfl)) dX3_addRow_19 ⟨Nat.zero_le _, Nat.zero_le _⟩) hS (fun q _ h => hFc q h) hFc (fun u t H locs ht hvm hw hB hz1 hk1 hS => ?_)
  obtain ⟨hP, hD⟩ := va_join (wr := []) (w1 := [(h_p0, .inr (3, [.ref h_p0_cells, .int v_size])), (h_p0_cells, .inl (cyI, 280, .inl r4))]) hP hD [0, 1] [] rfl rfl (by decide) (by decide) hk1 hFc (WLD.P hB ht) hB.2
  have hP : va_P (dC, dI) vwCl [(h_p0, .inr (3, [.ref h_p0_cells, .int v_size])), (h_p0_cells, .inl (cyI, 280, .inl r4))] H := hP
  have hD : va_D A [(h_p0, .inr (3, [.ref h_p0_cells, .int v_size])), (h_p0_cells, .inl (cyI, 280, .inl r4))] := hD
  refine lv_aload_n hx hb dX3_addRow_22 rfl (lv_at hl 1 rfl) ?_
  refine lv_iload hx hb dX3_addRow_23 (lv_at hl 0 rfl) ?_
  refine lv_iconst (v := iI 2) hx hb dX3_addRow_25 rfl ?_
  refine lv_iload_n hx hb dX3_addRow_26 rfl (lv_at hl 4 rfl) ?_
  obtain ⟨r7, e8, h⟩ := bsome h
  have hPc := sb_P [(h_p0, .inr (3, [.ref h_p0_cells, .int v_size])), (h_p0_cells, .inl (cyI, 280, .inl r4))] hP [0, 1] rfl
  have hDc := sb_D [(h_p0, .inr (3, [.ref h_p0_cells, .int v_size])), (h_p0_cells, .inl (cyI, 280, .inl r4))] hD [0, 1] (by decide) rfl
  have hFc := va_free (wc := [(h_p0, .inr (3, [.ref h_p0_cells, .int v_size])), (h_p0_cells, .inl (cyI, 280, .inl r4))]) hD hS hA [0, 1] rfl
  refine va_callv (va_runV (As := [.int v_size, .int (iI 2), .int a3]) (rest := []) ⟨hx, hb, hml, hown, hts⟩ (c_X3_put l dC dI cyI cyJ cyT h_p0 h_p0_cells H.size v_size r4 v_size (iI 2) a3 r7 e8) (cwV 3 hts gX3_addRow_X3_put rfl rfl rfl (by decide +kernel) ⟨Nat.le_of_ble_eq_true rfl, Nat.le_of_ble_eq_true rfl⟩) ⟨PRE.blind, va_recv hK hPc (ci := 3) (q0 := 0) rfl rfl, PRE.go hK hPc hDc hNW⟩ rfl rfl hl.1 rfl (lv_room (Nat.le_of_ble_eq_true rfl)) dX3_addRow_27 ⟨Nat.zero_le _, Nat.zero_le _⟩) hS (fun q _ h => hFc q h) hFc (fun u t H locs ht hvm hw hB hz1 hk1 hS => ?_)
  obtain ⟨hP, hD⟩ := va_join (wr := []) (w1 := [(h_p0, .inr (3, [.ref h_p0_cells, .int v_size])), (h_p0_cells, .inl (cyI, 280, .inl r7))]) hP hD [0, 1] [] rfl rfl (by decide) (by decide) hk1 hFc (WLD.P hB ht) hB.2
  have hP : va_P (dC, dI) vwCl [(h_p0, .inr (3, [.ref h_p0_cells, .int v_size])), (h_p0_cells, .inl (cyI, 280, .inl r7))] H := hP
  have hD : va_D A [(h_p0, .inr (3, [.ref h_p0_cells, .int v_size])), (h_p0_cells, .inl (cyI, 280, .inl r7))] := hD
  refine lv_aload_n hx hb dX3_addRow_30 rfl (lv_at hl 1 rfl) ?_
  refine lv_iload hx hb dX3_addRow_31 (lv_at hl 0 rfl) ?_
  refine lv_iconst (v := iI 3) hx hb dX3_addRow_33 rfl ?_
  refine lv_iload hx hb dX3_addRow_34 (lv_at hl 5 rfl) ?_
  refine lv_if_eq (tgt := 43) hx hb dX3_addRow_36 (by decide) (fun c10 => ?_) (fun c10 => ?_)
  · have h := ipos c10 h
    refine lv_iconst (v := iI 0) hx hb dX3_addRow_43 rfl ?_
    obtain ⟨r11, e12, h⟩ := bsome h
    have hPc := sb_P [(h_p0, .inr (3, [.ref h_p0_cells, .int v_size])), (h_p0_cells, .inl (cyI, 280, .inl r7))] hP [0, 1] rfl
    have hDc := sb_D [(h_p0, .inr (3, [.ref h_p0_cells, .int v_size])), (h_p0_cells, .inl (cyI, 280, .inl r7))] hD [0, 1] (by decide) rfl
    have hFc := va_free (wc := [(h_p0, .inr (3, [.ref h_p0_cells, .int v_size])), (h_p0_cells, .inl (cyI, 280, .inl r7))]) hD hS hA [0, 1] rfl
    refine va_callv (va_runV (As := [.int v_size, .int (iI 3), .int (iI 0)]) (rest := []) ⟨hx, hb, hml, hown, hts⟩ (c_X3_put l dC dI cyI cyJ cyT h_p0 h_p0_cells H.size v_size r7 v_size (iI 3) (iI 0) r11 e12) (cwV 3 hts gX3_addRow_X3_put rfl rfl rfl (by decide +kernel) ⟨Nat.le_of_ble_eq_true rfl, Nat.le_of_ble_eq_true rfl⟩) ⟨PRE.blind, va_recv hK hPc (ci := 3) (q0 := 0) rfl rfl, PRE.go hK hPc hDc hNW⟩ rfl rfl hl.1 rfl (lv_room (Nat.le_of_ble_eq_true rfl)) dX3_addRow_44 ⟨Nat.zero_le _, Nat.zero_le _⟩) hS (fun q _ h => hFc q h) hFc (fun u t H locs ht hvm hw hB hz1 hk1 hS => ?_)
    obtain ⟨hP, hD⟩ := va_join (wr := []) (w1 := [(h_p0, .inr (3, [.ref h_p0_cells, .int v_size])), (h_p0_cells, .inl (cyI, 280, .inl r11))]) hP hD [0, 1] [] rfl rfl (by decide) (by decide) hk1 hFc (WLD.P hB ht) hB.2
    have hP : va_P (dC, dI) vwCl [(h_p0, .inr (3, [.ref h_p0_cells, .int v_size])), (h_p0_cells, .inl (cyI, 280, .inl r11))] H := hP
    have hD : va_D A [(h_p0, .inr (3, [.ref h_p0_cells, .int v_size])), (h_p0_cells, .inl (cyI, 280, .inl r11))] := hD
    refine lv_aload_n hx hb dX3_addRow_47 rfl (lv_at hl 1 rfl) ?_
    refine lv_dup hx hb dX3_addRow_48 rfl ?_
    refine va_get (D := (dC, dI)) (ci := 3) (v := .int v_size) (C := RX3) (T := TX3) (N := 2) hx hb hts m_X3_addRow_0 hown hK hP 0 rfl rfl 1 (by decide) (hts (.fieldLink RX3 19 "SleeperBerths$Roster" "size" "I") m_X3_addRow_1) (fun _ h9 => h9) rfl dX3_addRow_49 ?_
    refine lv_iconst (v := iI 1) hx hb dX3_addRow_52 rfl ?_
    refine lv_iadd hx hb dX3_addRow_53 ?_
    refine va_put (D := (dC, dI)) (ci := 3) (v := .int (v_size + iI 1)) (ty := .int) (C := RX3) (T := TX3) (N := 2) hx hb hts m_X3_addRow_0 tyX3 tyX3_ok nmX3 hown hK hP hD hS 0 rfl rfl 1 (by decide) (hts (.fieldLink RX3 19 "SleeperBerths$Roster" "size" "I") m_X3_addRow_1) (fun _ h9 => h9) rfl (by decide +kernel) rfl rfl (Nat.le_of_ble_eq_true rfl) dX3_addRow_54 (fun H locs hP hD hS => ?_)
    have hP : va_P (dC, dI) vwCl [(h_p0, .inr (3, [.ref h_p0_cells, .int (v_size + iI 1)])), (h_p0_cells, .inl (cyI, 280, .inl r11))] H := hP
    have hD : va_D A [(h_p0, .inr (3, [.ref h_p0_cells, .int (v_size + iI 1)])), (h_p0_cells, .inl (cyI, 280, .inl r11))] := hD
    refine lv_iload hx hb dX3_addRow_57 (lv_at hl 0 rfl) ?_
    obtain rfl := Option.some.inj h
    exact W.iret (v := v_size) hx hb hr (fun t ht hW => ⟨⟨v_size, (), rfl, rfl, WLD.of ht hP hD⟩, hS.F ht⟩) hS.2.2 dX3_addRow_59
  · have h := ineg c10 h
    refine lv_iconst (v := iI 1) hx hb dX3_addRow_39 rfl ?_
    refine lv_goto (tgt := 44) hx hb dX3_addRow_40 (by decide) ?_
    obtain ⟨r14, e15, h⟩ := bsome h
    have hPc := sb_P [(h_p0, .inr (3, [.ref h_p0_cells, .int v_size])), (h_p0_cells, .inl (cyI, 280, .inl r7))] hP [0, 1] rfl
    have hDc := sb_D [(h_p0, .inr (3, [.ref h_p0_cells, .int v_size])), (h_p0_cells, .inl (cyI, 280, .inl r7))] hD [0, 1] (by decide) rfl
    have hFc := va_free (wc := [(h_p0, .inr (3, [.ref h_p0_cells, .int v_size])), (h_p0_cells, .inl (cyI, 280, .inl r7))]) hD hS hA [0, 1] rfl
    refine va_callv (va_runV (As := [.int v_size, .int (iI 3), .int (iI 1)]) (rest := []) ⟨hx, hb, hml, hown, hts⟩ (c_X3_put l dC dI cyI cyJ cyT h_p0 h_p0_cells H.size v_size r7 v_size (iI 3) (iI 1) r14 e15) (cwV 3 hts gX3_addRow_X3_put rfl rfl rfl (by decide +kernel) ⟨Nat.le_of_ble_eq_true rfl, Nat.le_of_ble_eq_true rfl⟩) ⟨PRE.blind, va_recv hK hPc (ci := 3) (q0 := 0) rfl rfl, PRE.go hK hPc hDc hNW⟩ rfl rfl hl.1 rfl (lv_room (Nat.le_of_ble_eq_true rfl)) dX3_addRow_44 ⟨Nat.zero_le _, Nat.zero_le _⟩) hS (fun q _ h => hFc q h) hFc (fun u t H locs ht hvm hw hB hz1 hk1 hS => ?_)
    obtain ⟨hP, hD⟩ := va_join (wr := []) (w1 := [(h_p0, .inr (3, [.ref h_p0_cells, .int v_size])), (h_p0_cells, .inl (cyI, 280, .inl r14))]) hP hD [0, 1] [] rfl rfl (by decide) (by decide) hk1 hFc (WLD.P hB ht) hB.2
    have hP : va_P (dC, dI) vwCl [(h_p0, .inr (3, [.ref h_p0_cells, .int v_size])), (h_p0_cells, .inl (cyI, 280, .inl r14))] H := hP
    have hD : va_D A [(h_p0, .inr (3, [.ref h_p0_cells, .int v_size])), (h_p0_cells, .inl (cyI, 280, .inl r14))] := hD
    refine lv_aload_n hx hb dX3_addRow_47 rfl (lv_at hl 1 rfl) ?_
    refine lv_dup hx hb dX3_addRow_48 rfl ?_
    refine va_get (D := (dC, dI)) (ci := 3) (v := .int v_size) (C := RX3) (T := TX3) (N := 2) hx hb hts m_X3_addRow_0 hown hK hP 0 rfl rfl 1 (by decide) (hts (.fieldLink RX3 19 "SleeperBerths$Roster" "size" "I") m_X3_addRow_1) (fun _ h9 => h9) rfl dX3_addRow_49 ?_
    refine lv_iconst (v := iI 1) hx hb dX3_addRow_52 rfl ?_
    refine lv_iadd hx hb dX3_addRow_53 ?_
    refine va_put (D := (dC, dI)) (ci := 3) (v := .int (v_size + iI 1)) (ty := .int) (C := RX3) (T := TX3) (N := 2) hx hb hts m_X3_addRow_0 tyX3 tyX3_ok nmX3 hown hK hP hD hS 0 rfl rfl 1 (by decide) (hts (.fieldLink RX3 19 "SleeperBerths$Roster" "size" "I") m_X3_addRow_1) (fun _ h9 => h9) rfl (by decide +kernel) rfl rfl (Nat.le_of_ble_eq_true rfl) dX3_addRow_54 (fun H locs hP hD hS => ?_)
    have hP : va_P (dC, dI) vwCl [(h_p0, .inr (3, [.ref h_p0_cells, .int (v_size + iI 1)])), (h_p0_cells, .inl (cyI, 280, .inl r14))] H := hP
    have hD : va_D A [(h_p0, .inr (3, [.ref h_p0_cells, .int (v_size + iI 1)])), (h_p0_cells, .inl (cyI, 280, .inl r14))] := hD
    refine lv_iload hx hb dX3_addRow_57 (lv_at hl 0 rfl) ?_
    obtain rfl := Option.some.inj h
    exact W.iret (v := v_size) hx hb hr (fun t ht hW => ⟨⟨v_size, (), rfl, rfl, WLD.of ht hP hD⟩, hS.F ht⟩) hS.2.2 dX3_addRow_59
def s_X3_putBerths (v_cells : Nat → Int32) (v_first_2 : Int32) (v_last_2 : Int32) (v_changeAt_2 : Int32) (a1 : Int32) : Option ((Nat → Int32)) := ((s_X3_put v_cells a1 (iI 4) v_first_2).bind fun r1 => ((s_X3_put r1 a1 (iI 5) v_last_2).bind fun r4 => ((s_X3_put r4 a1 (iI 6) v_changeAt_2).bind fun r7 => (some (r7)))))
set_option maxRecDepth 20000 in
theorem m_X3_putBerths_0 : ∀ w ∈ u_ws RX2 TX2 3, w ∈ wsX3_putBerths := by decide +kernel
set_option maxRecDepth 20000 in
theorem m_X3_putBerths_1 : (.fieldLink RX3 35 "SleeperBerths$Offer" "first" "I" : Cond) ∈ wsX3_putBerths := by decide +kernel
set_option maxRecDepth 20000 in
theorem m_X3_putBerths_2 : (.fieldLink RX3 40 "SleeperBerths$Offer" "last" "I" : Cond) ∈ wsX3_putBerths := by decide +kernel
set_option maxRecDepth 20000 in
theorem m_X3_putBerths_3 : (.fieldLink RX3 43 "SleeperBerths$Offer" "changeAt" "I" : Cond) ∈ wsX3_putBerths := by decide +kernel
set_option maxHeartbeats 4000000 in
set_option maxRecDepth 100000 in
theorem c_X3_putBerths (l : Launch) (dC : Nat → ClassId) (dI : Nat → Nat → Nat) (cyI cyJ cyT : ClassId) (h_p0 : Nat) (h_p0_cells : Nat) (h_p2 : Nat) (sz : Nat) (v_size : Int32) (v_cells : Nat → Int32) (v_first_2 : Int32) (v_last_2 : Int32) (v_changeAt_2 : Int32) (a1 : Int32) (o : (Nat → Int32)) (h : s_X3_putBerths v_cells v_first_2 v_last_2 v_changeAt_2 a1 = some o) : Met l yX3_putBerths wsX3_putBerths ({ frames := 2, cells := 0, slots := 0, locals := 45 }) (va_Pc [.ref h_p0, .int a1, .ref h_p2] (PRE (dC, dI) (TYS cyI cyJ cyT) sz [(h_p0, .inr (3, [.ref h_p0_cells, .int v_size])), (h_p0_cells, .inl (cyI, 280, .inl v_cells)), (h_p2, .inr (2, [.int v_first_2, .int v_last_2, .int v_changeAt_2]))])) (va_Qv (S := Unit) (fun _ => True) (fun _ t => WLD (dC, dI) (va_A [(h_p0, .inr (3, [.ref h_p0_cells, .int v_size])), (h_p0_cells, .inl (cyI, 280, .inl v_cells)), (h_p2, .inr (2, [.int v_first_2, .int v_last_2, .int v_changeAt_2]))] sz) [(h_p0, .inr (3, [.ref h_p0_cells, .int v_size])), (h_p0_cells, .inl (cyI, 280, .inl o)), (h_p2, .inr (2, [.int v_first_2, .int v_last_2, .int v_changeAt_2]))] t) (va_A [(h_p0, .inr (3, [.ref h_p0_cells, .int v_size])), (h_p0_cells, .inl (cyI, 280, .inl v_cells)), (h_p2, .inr (2, [.int v_first_2, .int v_last_2, .int v_changeAt_2]))] sz)) 0 0 (va_A [(h_p0, .inr (3, [.ref h_p0_cells, .int v_size])), (h_p0_cells, .inl (cyI, 280, .inl v_cells)), (h_p2, .inr (2, [.int v_first_2, .int v_last_2, .int v_changeAt_2]))] sz) := by
  refine Met.ofW (cc := cX3_putBerths) (maxL := 3) (ret := none) (by decide) rfl ?_
  intro p e s m args below meth c s₁ B hml hv
  obtain ⟨rfl, hsz, hP, hK, hD0, hNW⟩ := hv
  have hx := B.exec
  have hb := B.bytes
  have hr := B.returns
  have hts := atoms_spec (ws := wsX3_putBerths) B.pre
  have hown : s.vm.findClass RX3 = some m.cls := findClass_of_methodNamed B.named
  have hlocks := B.notSynchronized
  subst hsz
  have hD := hD0.self (sz := s.heap.size)
  generalize hAe : va_A [(h_p0, .inr (3, [.ref h_p0_cells, .int v_size])), (h_p0_cells, .inl (cyI, 280, .inl v_cells)), (h_p2, .inr (2, [.int v_first_2, .int v_last_2, .int v_changeAt_2]))] s.heap.size = A at hD ⊢
  have hA : ∀ q : Nat, s.heap.size ≤ q → A q := fun q h => by rw [← hAe]; exact Or.inr h
  have hS : va_S A s.heap s.heap [] := va_S.rf
  have hP : va_P (dC, dI) vwCl [(h_p0, .inr (3, [.ref h_p0_cells, .int v_size])), (h_p0_cells, .inl (cyI, 280, .inl v_cells)), (h_p2, .inr (2, [.int v_first_2, .int v_last_2, .int v_changeAt_2]))] s.heap := hP
  have hl := lv_entry ([.ref h_p0, .int a1, .ref h_p2]) (n := 3) (Nat.le_of_ble_eq_true rfl)
  rw [lg_entry_eq]
  generalize (lg_sl ([.ref h_p0, .int a1, .ref h_p2]) ++ List.replicate (3 - (lg_sl ([.ref h_p0, .int a1, .ref h_p2])).length) Slot.unset).toArray = ls at hl ⊢
  have hl : lv_has ls 3 [(0, .ref h_p0), (1, .int a1), (2, .ref h_p2)] := hl
  unfold s_X3_putBerths at h
  refine lv_aload_n hx hb dX3_putBerths_0 rfl (lv_at hl 0 rfl) ?_
  refine lv_iload_n hx hb dX3_putBerths_1 rfl (lv_at hl 1 rfl) ?_
  refine lv_iconst (v := iI 4) hx hb dX3_putBerths_2 rfl ?_
  refine lv_aload_n hx hb dX3_putBerths_3 rfl (lv_at hl 2 rfl) ?_
  refine va_get (D := (dC, dI)) (ci := 2) (v := .int v_first_2) (C := RX2) (T := TX2) (N := 3) hx hb hts m_X3_putBerths_0 hown hK hP 2 rfl rfl 0 (by decide) (hts (.fieldLink RX3 35 "SleeperBerths$Offer" "first" "I") m_X3_putBerths_1) (fun _ h9 => h9) rfl dX3_putBerths_4 ?_
  obtain ⟨r1, e2, h⟩ := bsome h
  have hPc := sb_P [(h_p0, .inr (3, [.ref h_p0_cells, .int v_size])), (h_p0_cells, .inl (cyI, 280, .inl v_cells))] hP [0, 1] rfl
  have hDc := sb_D [(h_p0, .inr (3, [.ref h_p0_cells, .int v_size])), (h_p0_cells, .inl (cyI, 280, .inl v_cells))] hD [0, 1] (by decide) rfl
  have hFc := va_free (wc := [(h_p0, .inr (3, [.ref h_p0_cells, .int v_size])), (h_p0_cells, .inl (cyI, 280, .inl v_cells))]) hD hS hA [0, 1] rfl
  refine va_callv (va_runV (As := [.int a1, .int (iI 4), .int v_first_2]) (rest := []) ⟨hx, hb, hml, hown, hts⟩ (c_X3_put l dC dI cyI cyJ cyT h_p0 h_p0_cells s.heap.size v_size v_cells a1 (iI 4) v_first_2 r1 e2) (cwV 3 hts gX3_putBerths_X3_put rfl rfl rfl (by decide +kernel) ⟨Nat.le_of_ble_eq_true rfl, Nat.le_of_ble_eq_true rfl⟩) ⟨PRE.blind, va_recv hK hPc (ci := 3) (q0 := 0) rfl rfl, PRE.go hK hPc hDc hNW⟩ rfl rfl hl.1 rfl (lv_room (Nat.le_of_ble_eq_true rfl)) dX3_putBerths_7 ⟨Nat.zero_le _, Nat.zero_le _⟩) hS (fun q _ h => hFc q h) hFc (fun u t H locs ht hvm hw hB hz1 hk1 hS => ?_)
  obtain ⟨hP, hD⟩ := va_join (wr := [(h_p2, .inr (2, [.int v_first_2, .int v_last_2, .int v_changeAt_2]))]) (w1 := [(h_p0, .inr (3, [.ref h_p0_cells, .int v_size])), (h_p0_cells, .inl (cyI, 280, .inl r1))]) hP hD [0, 1] [2] rfl rfl (by decide) (by decide) hk1 hFc (WLD.P hB ht) hB.2
  have hP : va_P (dC, dI) vwCl [(h_p2, .inr (2, [.int v_first_2, .int v_last_2, .int v_changeAt_2])), (h_p0, .inr (3, [.ref h_p0_cells, .int v_size])), (h_p0_cells, .inl (cyI, 280, .inl r1))] H := hP
  have hD : va_D A [(h_p2, .inr (2, [.int v_first_2, .int v_last_2, .int v_changeAt_2])), (h_p0, .inr (3, [.ref h_p0_cells, .int v_size])), (h_p0_cells, .inl (cyI, 280, .inl r1))] := hD
  refine lv_aload_n hx hb dX3_putBerths_10 rfl (lv_at hl 0 rfl) ?_
  refine lv_iload_n hx hb dX3_putBerths_11 rfl (lv_at hl 1 rfl) ?_
  refine lv_iconst (v := iI 5) hx hb dX3_putBerths_12 rfl ?_
  refine lv_aload_n hx hb dX3_putBerths_13 rfl (lv_at hl 2 rfl) ?_
  refine va_get (D := (dC, dI)) (ci := 2) (v := .int v_last_2) (C := RX2) (T := TX2) (N := 3) hx hb hts m_X3_putBerths_0 hown hK hP 0 rfl rfl 1 (by decide) (hts (.fieldLink RX3 40 "SleeperBerths$Offer" "last" "I") m_X3_putBerths_2) (fun _ h9 => h9) rfl dX3_putBerths_14 ?_
  obtain ⟨r4, e5, h⟩ := bsome h
  have hPc := sb_P [(h_p0, .inr (3, [.ref h_p0_cells, .int v_size])), (h_p0_cells, .inl (cyI, 280, .inl r1))] hP [1, 2] rfl
  have hDc := sb_D [(h_p0, .inr (3, [.ref h_p0_cells, .int v_size])), (h_p0_cells, .inl (cyI, 280, .inl r1))] hD [1, 2] (by decide) rfl
  have hFc := va_free (wc := [(h_p0, .inr (3, [.ref h_p0_cells, .int v_size])), (h_p0_cells, .inl (cyI, 280, .inl r1))]) hD hS hA [1, 2] rfl
  refine va_callv (va_runV (As := [.int a1, .int (iI 5), .int v_last_2]) (rest := []) ⟨hx, hb, hml, hown, hts⟩ (c_X3_put l dC dI cyI cyJ cyT h_p0 h_p0_cells H.size v_size r1 a1 (iI 5) v_last_2 r4 e5) (cwV 3 hts gX3_putBerths_X3_put rfl rfl rfl (by decide +kernel) ⟨Nat.le_of_ble_eq_true rfl, Nat.le_of_ble_eq_true rfl⟩) ⟨PRE.blind, va_recv hK hPc (ci := 3) (q0 := 0) rfl rfl, PRE.go hK hPc hDc hNW⟩ rfl rfl hl.1 rfl (lv_room (Nat.le_of_ble_eq_true rfl)) dX3_putBerths_17 ⟨Nat.zero_le _, Nat.zero_le _⟩) hS (fun q _ h => hFc q h) hFc (fun u t H locs ht hvm hw hB hz1 hk1 hS => ?_)
  obtain ⟨hP, hD⟩ := va_join (wr := [(h_p2, .inr (2, [.int v_first_2, .int v_last_2, .int v_changeAt_2]))]) (w1 := [(h_p0, .inr (3, [.ref h_p0_cells, .int v_size])), (h_p0_cells, .inl (cyI, 280, .inl r4))]) hP hD [1, 2] [0] rfl rfl (by decide) (by decide) hk1 hFc (WLD.P hB ht) hB.2
  have hP : va_P (dC, dI) vwCl [(h_p2, .inr (2, [.int v_first_2, .int v_last_2, .int v_changeAt_2])), (h_p0, .inr (3, [.ref h_p0_cells, .int v_size])), (h_p0_cells, .inl (cyI, 280, .inl r4))] H := hP
  have hD : va_D A [(h_p2, .inr (2, [.int v_first_2, .int v_last_2, .int v_changeAt_2])), (h_p0, .inr (3, [.ref h_p0_cells, .int v_size])), (h_p0_cells, .inl (cyI, 280, .inl r4))] := hD
  refine lv_aload_n hx hb dX3_putBerths_20 rfl (lv_at hl 0 rfl) ?_
  refine lv_iload_n hx hb dX3_putBerths_21 rfl (lv_at hl 1 rfl) ?_
  refine lv_bipush (v := iI 6) hx hb dX3_putBerths_22 (by decide) ?_
  refine lv_aload_n hx hb dX3_putBerths_24 rfl (lv_at hl 2 rfl) ?_
  refine va_get (D := (dC, dI)) (ci := 2) (v := .int v_changeAt_2) (C := RX2) (T := TX2) (N := 3) hx hb hts m_X3_putBerths_0 hown hK hP 0 rfl rfl 2 (by decide) (hts (.fieldLink RX3 43 "SleeperBerths$Offer" "changeAt" "I") m_X3_putBerths_3) (fun _ h9 => h9) rfl dX3_putBerths_25 ?_
  obtain ⟨r7, e8, h⟩ := bsome h
  have hPc := sb_P [(h_p0, .inr (3, [.ref h_p0_cells, .int v_size])), (h_p0_cells, .inl (cyI, 280, .inl r4))] hP [1, 2] rfl
  have hDc := sb_D [(h_p0, .inr (3, [.ref h_p0_cells, .int v_size])), (h_p0_cells, .inl (cyI, 280, .inl r4))] hD [1, 2] (by decide) rfl
  have hFc := va_free (wc := [(h_p0, .inr (3, [.ref h_p0_cells, .int v_size])), (h_p0_cells, .inl (cyI, 280, .inl r4))]) hD hS hA [1, 2] rfl
  refine va_callv (va_runV (As := [.int a1, .int (iI 6), .int v_changeAt_2]) (rest := []) ⟨hx, hb, hml, hown, hts⟩ (c_X3_put l dC dI cyI cyJ cyT h_p0 h_p0_cells H.size v_size r4 a1 (iI 6) v_changeAt_2 r7 e8) (cwV 3 hts gX3_putBerths_X3_put rfl rfl rfl (by decide +kernel) ⟨Nat.le_of_ble_eq_true rfl, Nat.le_of_ble_eq_true rfl⟩) ⟨PRE.blind, va_recv hK hPc (ci := 3) (q0 := 0) rfl rfl, PRE.go hK hPc hDc hNW⟩ rfl rfl hl.1 rfl (lv_room (Nat.le_of_ble_eq_true rfl)) dX3_putBerths_28 ⟨Nat.zero_le _, Nat.zero_le _⟩) hS (fun q _ h => hFc q h) hFc (fun u t H locs ht hvm hw hB hz1 hk1 hS => ?_)
  obtain ⟨hP, hD⟩ := va_join (wr := [(h_p2, .inr (2, [.int v_first_2, .int v_last_2, .int v_changeAt_2]))]) (w1 := [(h_p0, .inr (3, [.ref h_p0_cells, .int v_size])), (h_p0_cells, .inl (cyI, 280, .inl r7))]) hP hD [1, 2] [0] rfl rfl (by decide) (by decide) hk1 hFc (WLD.P hB ht) hB.2
  have hP : va_P (dC, dI) vwCl [(h_p2, .inr (2, [.int v_first_2, .int v_last_2, .int v_changeAt_2])), (h_p0, .inr (3, [.ref h_p0_cells, .int v_size])), (h_p0_cells, .inl (cyI, 280, .inl r7))] H := hP
  have hD : va_D A [(h_p2, .inr (2, [.int v_first_2, .int v_last_2, .int v_changeAt_2])), (h_p0, .inr (3, [.ref h_p0_cells, .int v_size])), (h_p0_cells, .inl (cyI, 280, .inl r7))] := hD
  obtain rfl := Option.some.inj h
  exact W.vret hx hb hr (fun t ht hW => ⟨⟨(), rfl, trivial, WLD.of ht (sb_P [(h_p0, .inr (3, [.ref h_p0_cells, .int v_size])), (h_p0_cells, .inl (cyI, 280, .inl r7)), (h_p2, .inr (2, [.int v_first_2, .int v_last_2, .int v_changeAt_2]))] hP [1, 2, 0] rfl) (sb_D [(h_p0, .inr (3, [.ref h_p0_cells, .int v_size])), (h_p0_cells, .inl (cyI, 280, .inl r7)), (h_p2, .inr (2, [.int v_first_2, .int v_last_2, .int v_changeAt_2]))] hD [1, 2, 0] (by decide) rfl)⟩, hS.F ht⟩) hS.2.2 dX3_putBerths_31
