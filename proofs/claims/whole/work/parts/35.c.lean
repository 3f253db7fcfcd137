def s_X7_findsOne_L13 (n : Nat) (arr_1 : Nat → Int32) (a2 : Int32) (a3 : Int32) : Nat → Int32 → Int32 → Int32 → Int32 → Int32 → Option (Int32 × Int32 × Int32 × Int32 × Int32)
  | 0, _, _, _, _, _ => none
  | k + 1, v_one, v_other, v_change, v_woken, x4 => (if iI 18 ≤ x4 then (if v_one = iI (-1) then (some (iI 0, v_one, v_one, v_change, v_woken)) else (some (iI 1, v_one, v_one, v_change, v_woken))) else ((s_X7_isFree n arr_1 x4 a2 a3).bind fun r3 => (if r3 = 0 then (s_X7_findsOne_L13 n arr_1 a2 a3 k v_one v_other v_change v_woken (x4 + iI 1)) else (if v_one = iI (-1) then ((s_X7_wakes n arr_1 x4 a2 a3).bind fun r8 => (s_X7_findsOne_L13 n arr_1 a2 a3 k x4 v_other v_change r8 (x4 + iI 1))) else ((s_X7_wakes n arr_1 x4 a2 a3).bind fun r11 => (if v_woken ≤ r11 then (s_X7_findsOne_L13 n arr_1 a2 a3 k v_one v_other v_change v_woken (x4 + iI 1)) else ((s_X7_wakes n arr_1 x4 a2 a3).bind fun r15 => (s_X7_findsOne_L13 n arr_1 a2 a3 k x4 v_other v_change r15 (x4 + iI 1)))))))))
def s_X7_findsOne (n : Nat) (v_one : Int32) (v_other : Int32) (v_change : Int32) (v_woken : Int32) (arr_1 : Nat → Int32) (a2 : Int32) (a3 : Int32) : Option (Int32 × Int32 × Int32 × Int32 × Int32) := (s_X7_findsOne_L13 n arr_1 a2 a3 n (iI (-1)) v_other (iI (-1)) v_woken (iI 0))
set_option maxRecDepth 20000 in
theorem m_X7_findsOne_0 : ∀ w ∈ u_ws RX7 TX7 15, w ∈ wsX7_findsOne := by decide +kernel
set_option maxRecDepth 20000 in
theorem m_X7_findsOne_1 : (.fieldLink RX7 52 "SleeperBerthsModel" "one" "I" : Cond) ∈ wsX7_findsOne := by decide +kernel
set_option maxRecDepth 20000 in
theorem m_X7_findsOne_2 : (.fieldLink RX7 69 "SleeperBerthsModel" "other" "I" : Cond) ∈ wsX7_findsOne := by decide +kernel
set_option maxRecDepth 20000 in
theorem m_X7_findsOne_3 : (.fieldLink RX7 66 "SleeperBerthsModel" "woken" "I" : Cond) ∈ wsX7_findsOne := by decide +kernel
set_option maxRecDepth 20000 in
theorem m_X7_findsOne_4 : (.fieldLink RX7 55 "SleeperBerthsModel" "change" "I" : Cond) ∈ wsX7_findsOne := by decide +kernel
set_option maxHeartbeats 4000000 in
set_option maxRecDepth 100000 in
theorem c_X7_findsOne (l : Launch) (dC : Nat → ClassId) (dI : Nat → Nat → Nat) (cyI cyJ cyT : ClassId) (h_p0 : Nat) (h_p0_now : Nat) (h_p0_then : Nat) (h_p0_past : Nat) (h_p0_text : Nat) (h_p0_told : Nat) (h_p1 : Nat) (sz : Nat) (v_kept : Int32) (v_typed : Int32) (v_thrown : Int32) (v_at : Int32) (v_isFault : Int32) (v_tolds : Int32) (v_one : Int32) (v_other : Int32) (v_change : Int32) (v_woken : Int32) (arr_1 : Nat → Int32) (a2 : Int32) (a3 : Int32) (n : Nat) (o : Int32 × Int32 × Int32 × Int32 × Int32) (h : s_X7_findsOne n v_one v_other v_change v_woken arr_1 a2 a3 = some o) : Met l yX7_findsOne wsX7_findsOne ({ frames := 3, cells := 0, slots := 0, locals := 69 }) (va_Pc [.ref h_p0, .ref h_p1, .int a2, .int a3] (PRE (dC, dI) (TYS cyI cyJ cyT) sz [(h_p0, .inr (7, [.ref h_p0_now, .ref h_p0_then, .ref h_p0_past, .int v_kept, .ref h_p0_text, .int v_typed, .int v_thrown, .int v_at, .int v_isFault, .ref h_p0_told, .int v_tolds, .int v_one, .int v_other, .int v_change, .int v_woken])), (h_p1, .inl (cyI, 452, .inl arr_1))])) (va_Qi (S := Unit) (fun r _ => r = o.1) (fun _ t => WLD (dC, dI) (va_A [(h_p0, .inr (7, [.ref h_p0_now, .ref h_p0_then, .ref h_p0_past, .int v_kept, .ref h_p0_text, .int v_typed, .int v_thrown, .int v_at, .int v_isFault, .ref h_p0_told, .int v_tolds, .int v_one, .int v_other, .int v_change, .int v_woken])), (h_p1, .inl (cyI, 452, .inl arr_1))] sz) [(h_p0, .inr (7, [.ref h_p0_now, .ref h_p0_then, .ref h_p0_past, .int v_kept, .ref h_p0_text, .int v_typed, .int v_thrown, .int v_at, .int v_isFault, .ref h_p0_told, .int v_tolds, .int o.2.1, .int o.2.2.1, .int o.2.2.2.1, .int o.2.2.2.2])), (h_p1, .inl (cyI, 452, .inl arr_1))] t) (va_A [(h_p0, .inr (7, [.ref h_p0_now, .ref h_p0_then, .ref h_p0_past, .int v_kept, .ref h_p0_text, .int v_typed, .int v_thrown, .int v_at, .int v_isFault, .ref h_p0_told, .int v_tolds, .int v_one, .int v_other, .int v_change, .int v_woken])), (h_p1, .inl (cyI, 452, .inl arr_1))] sz)) 0 0 (va_A [(h_p0, .inr (7, [.ref h_p0_now, .ref h_p0_then, .ref h_p0_past, .int v_kept, .ref h_p0_text, .int v_typed, .int v_thrown, .int v_at, .int v_isFault, .ref h_p0_told, .int v_tolds, .int v_one, .int v_other, .int v_change, .int v_woken])), (h_p1, .inl (cyI, 452, .inl arr_1))] sz) := by
  refine Met.ofW (cc := cX7_findsOne) (maxL := 5) (ret := (some .boolean)) (by decide) rfl ?_
  intro p e s m args below meth c s₁ B hml hv
  obtain ⟨rfl, hsz, hP, hK, hD0, hNW⟩ := hv
  have hx := B.exec
  have hb := B.bytes
  have hr := B.returns
  have hts := atoms_spec (ws := wsX7_findsOne) B.pre
  have hown : s.vm.findClass RX7 = some m.cls := findClass_of_methodNamed B.named
  have hlocks := B.notSynchronized
  subst hsz
  have hD := hD0.self (sz := s.heap.size)
  generalize hAe : va_A [(h_p0, .inr (7, [.ref h_p0_now, .ref h_p0_then, .ref h_p0_past, .int v_kept, .ref h_p0_text, .int v_typed, .int v_thrown, .int v_at, .int v_isFault, .ref h_p0_told, .int v_tolds, .int v_one, .int v_other, .int v_change, .int v_woken])), (h_p1, .inl (cyI, 452, .inl arr_1))] s.heap.size = A at hD ⊢
  have hA : ∀ q : Nat, s.heap.size ≤ q → A q := fun q h => by rw [← hAe]; exact Or.inr h
  have hS : va_S A s.heap s.heap [] := va_S.rf
  have hP : va_P (dC, dI) vwCl [(h_p0, .inr (7, [.ref h_p0_now, .ref h_p0_then, .ref h_p0_past, .int v_kept, .ref h_p0_text, .int v_typed, .int v_thrown, .int v_at, .int v_isFault, .ref h_p0_told, .int v_tolds, .int v_one, .int v_other, .int v_change, .int v_woken])), (h_p1, .inl (cyI, 452, .inl arr_1))] s.heap := hP
  have L13 : ∀ (k : Nat), (∀ (v_one : Int32) (v_other : Int32) (v_change : Int32) (v_woken : Int32) (x4 : Int32) (H : Heap) (locs : List Loc), va_P (dC, dI) vwCl [(h_p0, .inr (7, [.ref h_p0_now, .ref h_p0_then, .ref h_p0_past, .int v_kept, .ref h_p0_text, .int v_typed, .int v_thrown, .int v_at, .int v_isFault, .ref h_p0_told, .int v_tolds, .int v_one, .int v_other, .int v_change, .int v_woken])), (h_p1, .inl (cyI, 452, .inl arr_1))] H → va_D A [(h_p0, .inr (7, [.ref h_p0_now, .ref h_p0_then, .ref h_p0_past, .int v_kept, .ref h_p0_text, .int v_typed, .int v_thrown, .int v_at, .int v_isFault, .ref h_p0_told, .int v_tolds, .int v_one, .int v_other, .int v_change, .int v_woken])), (h_p1, .inl (cyI, 452, .inl arr_1))] → va_S A s.heap H locs → ∀ (ls : Array Slot), lv_has ls 5 [(0, .ref h_p0), (1, .ref h_p1), (2, .int a2), (3, .int a3), (4, .int x4)] →  s_X7_findsOne_L13 n arr_1 a2 a3 k v_one v_other v_change v_woken x4 = some o → W p l e (headSpec wsX7_findsOne ({ frames := 3, cells := 0, slots := 0, locals := 69 })).room s m (([.ref h_p0, .ref h_p1, .int a2, .int a3] : List Value).toArray) below meth c H locs 0 0 (MQ below (va_Qi (S := Unit) (fun r _ => r = o.1) (fun _ t => WLD (dC, dI) A [(h_p0, .inr (7, [.ref h_p0_now, .ref h_p0_then, .ref h_p0_past, .int v_kept, .ref h_p0_text, .int v_typed, .int v_thrown, .int v_at, .int v_isFault, .ref h_p0_told, .int v_tolds, .int o.2.1, .int o.2.2.1, .int o.2.2.2.1, .int o.2.2.2.2])), (h_p1, .inl (cyI, 452, .inl arr_1))] t) A) (([.ref h_p0, .ref h_p1, .int a2, .int a3] : List Value).toArray) s 0 0 A) (F0 m 13 ls [])) := by
    intro k
    induction k with
    | zero =>
      intro  v_one v_other v_change v_woken x4 H locs hP hD hS ls hl h
      rw [s_X7_findsOne_L13] at h
      cases h
    | succ k ih =>
      intro  v_one v_other v_change v_woken x4 H locs hP hD hS ls hl h
      rw [s_X7_findsOne_L13] at h
      refine lv_iload hx hb dX7_findsOne_13 (lv_at hl 4 rfl) ?_
      refine lv_bipush (v := iI 18) hx hb dX7_findsOne_15 (by decide) ?_
      refine lv_icmp_ge (tgt := 78) hx hb dX7_findsOne_17 (by decide) (fun c1 => ?_) (fun c1 => ?_)
      · have h := ipos c1 h
        refine lv_aload_n hx hb dX7_findsOne_78 rfl (lv_at hl 0 rfl) ?_
        refine lv_aload_n hx hb dX7_findsOne_79 rfl (lv_at hl 0 rfl) ?_
        refine va_get (D := (dC, dI)) (ci := 7) (v := .int v_one) (C := RX7) (T := TX7) (N := 15) hx hb hts m_X7_findsOne_0 hown hK hP 0 rfl rfl 11 (by decide) (hts (.fieldLink RX7 52 "SleeperBerthsModel" "one" "I") m_X7_findsOne_1) (fun _ h9 => h9) rfl dX7_findsOne_80 ?_
        refine va_put (D := (dC, dI)) (ci := 7) (v := .int v_one) (ty := .int) (C := RX7) (T := TX7) (N := 15) hx hb hts m_X7_findsOne_0 tyX7 tyX7_ok nmX7 hown hK hP hD hS 0 rfl rfl 12 (by decide) (hts (.fieldLink RX7 69 "SleeperBerthsModel" "other" "I") m_X7_findsOne_2) (fun _ h9 => h9) rfl (by decide +kernel) rfl rfl (Nat.le_of_ble_eq_true rfl) dX7_findsOne_83 (fun H locs hP hD hS => ?_)
        have hP : va_P (dC, dI) vwCl [(h_p0, .inr (7, [.ref h_p0_now, .ref h_p0_then, .ref h_p0_past, .int v_kept, .ref h_p0_text, .int v_typed, .int v_thrown, .int v_at, .int v_isFault, .ref h_p0_told, .int v_tolds, .int v_one, .int v_one, .int v_change, .int v_woken])), (h_p1, .inl (cyI, 452, .inl arr_1))] H := hP
        have hD : va_D A [(h_p0, .inr (7, [.ref h_p0_now, .ref h_p0_then, .ref h_p0_past, .int v_kept, .ref h_p0_text, .int v_typed, .int v_thrown, .int v_at, .int v_isFault, .ref h_p0_told, .int v_tolds, .int v_one, .int v_one, .int v_change, .int v_woken])), (h_p1, .inl (cyI, 452, .inl arr_1))] := hD
        refine lv_aload_n hx hb dX7_findsOne_86 rfl (lv_at hl 0 rfl) ?_
        refine va_get (D := (dC, dI)) (ci := 7) (v := .int v_one) (C := RX7) (T := TX7) (N := 15) hx hb hts m_X7_findsOne_0 hown hK hP 0 rfl rfl 11 (by decide) (hts (.fieldLink RX7 52 "SleeperBerthsModel" "one" "I") m_X7_findsOne_1) (fun _ h9 => h9) rfl dX7_findsOne_87 ?_
        refine lv_iconst (v := iI (-1)) hx hb dX7_findsOne_90 rfl ?_
        refine lv_icmp_eq (tgt := 98) hx hb dX7_findsOne_91 (by decide) (fun c2 => ?_) (fun c2 => ?_)
        · have h := ipos c2 h
          refine lv_iconst (v := iI 0) hx hb dX7_findsOne_98 rfl ?_
          obtain rfl := Option.some.inj h
          exact W.zret (v := iI 0) hx hb hr (by decide) (fun t ht hW => ⟨⟨iI 0, (), rfl, rfl, WLD.of ht hP hD⟩, hS.F ht⟩) hS.2.2 dX7_findsOne_99
        · have h := ineg c2 h
          refine lv_iconst (v := iI 1) hx hb dX7_findsOne_94 rfl ?_
          refine lv_goto (tgt := 99) hx hb dX7_findsOne_95 (by decide) ?_
          obtain rfl := Option.some.inj h
          exact W.zret (v := iI 1) hx hb hr (by decide) (fun t ht hW => ⟨⟨iI 1, (), rfl, rfl, WLD.of ht hP hD⟩, hS.F ht⟩) hS.2.2 dX7_findsOne_99
      · have h := ineg c1 h
        refine lv_aload_n hx hb dX7_findsOne_20 rfl (lv_at hl 1 rfl) ?_
        refine lv_iload hx hb dX7_findsOne_21 (lv_at hl 4 rfl) ?_
        refine lv_iload_n hx hb dX7_findsOne_23 rfl (lv_at hl 2 rfl) ?_
        refine lv_iload_n hx hb dX7_findsOne_24 rfl (lv_at hl 3 rfl) ?_
        obtain ⟨r3, e4, h⟩ := bsome h
        have hPc := sb_P [(h_p1, .inl (cyI, 452, .inl arr_1))] hP [1] rfl
        have hDc := sb_D [(h_p1, .inl (cyI, 452, .inl arr_1))] hD [1] (by decide) rfl
        have hFc := va_free (wc := [(h_p1, .inl (cyI, 452, .inl arr_1))]) hD hS hA [1] rfl
        refine va_calli (va_runS (As := [.ref h_p1, .int x4, .int a2, .int a3]) (rest := []) ⟨hx, hb, hml, hown, hts⟩ (c_X7_isFree l dC dI cyI cyJ cyT h_p1 H.size arr_1 x4 a2 a3 n r3 e4) (va_cwS 4 hts gX7_findsOne_X7_isFree rfl rfl rfl (by decide +kernel) ⟨Nat.le_of_ble_eq_true rfl, Nat.le_of_ble_eq_true rfl⟩) ⟨PRE.blind, PRE.go hK hPc hDc hNW⟩ rfl rfl hl.1 rfl (lv_room (Nat.le_of_ble_eq_true rfl)) dX7_findsOne_25 ⟨Nat.zero_le _, Nat.zero_le _⟩) hS (fun q _ h => hFc q h) hFc (fun z5 u t H locs ht hvm hw hB hz1 hk1 hS => ?_)
        subst z5
        obtain ⟨hP, hD⟩ := va_join (wr := [(h_p0, .inr (7, [.ref h_p0_now, .ref h_p0_then, .ref h_p0_past, .int v_kept, .ref h_p0_text, .int v_typed, .int v_thrown, .int v_at, .int v_isFault, .ref h_p0_told, .int v_tolds, .int v_one, .int v_other, .int v_change, .int v_woken]))]) (w1 := [(h_p1, .inl (cyI, 452, .inl arr_1))]) hP hD [1] [0] rfl rfl (by decide) (by decide) hk1 hFc (WLD.P hB ht) hB.2
        have hP : va_P (dC, dI) vwCl [(h_p0, .inr (7, [.ref h_p0_now, .ref h_p0_then, .ref h_p0_past, .int v_kept, .ref h_p0_text, .int v_typed, .int v_thrown, .int v_at, .int v_isFault, .ref h_p0_told, .int v_tolds, .int v_one, .int v_other, .int v_change, .int v_woken])), (h_p1, .inl (cyI, 452, .inl arr_1))] H := hP
        have hD : va_D A [(h_p0, .inr (7, [.ref h_p0_now, .ref h_p0_then, .ref h_p0_past, .int v_kept, .ref h_p0_text, .int v_typed, .int v_thrown, .int v_at, .int v_isFault, .ref h_p0_told, .int v_tolds, .int v_one, .int v_other, .int v_change, .int v_woken])), (h_p1, .inl (cyI, 452, .inl arr_1))] := hD
        refine lv_if_eq (tgt := 72) hx hb dX7_findsOne_28 (by decide) (fun c6 => ?_) (fun c6 => ?_)
        · have h := ipos c6 h
          refine lv_iinc (v := (x4 + iI 1)) hx hb dX7_findsOne_72 hl (k := 4) rfl rfl (by decide) (rfl : _ = ([(4, .int (x4 + iI 1)), (0, .ref h_p0), (1, .ref h_p1), (2, .int a2), (3, .int a3)] : List (Nat × Value))) (fun ls hl => ?_)
          refine lv_goto (tgt := 13) hx hb dX7_findsOne_75 (by decide) ?_
          exact ih v_one v_other v_change v_woken (x4 + iI 1) _ _ hP hD hS ls (lv_sub hl [1, 2, 3, 4, 0] rfl) h
        · have h := ineg c6 h
          refine lv_aload_n hx hb dX7_findsOne_31 rfl (lv_at hl 0 rfl) ?_
          refine va_get (D := (dC, dI)) (ci := 7) (v := .int v_one) (C := RX7) (T := TX7) (N := 15) hx hb hts m_X7_findsOne_0 hown hK hP 0 rfl rfl 11 (by decide) (hts (.fieldLink RX7 52 "SleeperBerthsModel" "one" "I") m_X7_findsOne_1) (fun _ h9 => h9) rfl dX7_findsOne_32 ?_
          refine lv_iconst (v := iI (-1)) hx hb dX7_findsOne_35 rfl ?_
          refine lv_icmp_eq (tgt := 54) hx hb dX7_findsOne_36 (by decide) (fun c7 => ?_) (fun c7 => ?_)
          · have h := ipos c7 h
            refine lv_aload_n hx hb dX7_findsOne_54 rfl (lv_at hl 0 rfl) ?_
            refine lv_iload hx hb dX7_findsOne_55 (lv_at hl 4 rfl) ?_
            refine va_put (D := (dC, dI)) (ci := 7) (v := .int x4) (ty := .int) (C := RX7) (T := TX7) (N := 15) hx hb hts m_X7_findsOne_0 tyX7 tyX7_ok nmX7 hown hK hP hD hS 0 rfl rfl 11 (by decide) (hts (.fieldLink RX7 52 "SleeperBerthsModel" "one" "I") m_X7_findsOne_1) (fun _ h9 => h9) rfl (by decide +kernel) rfl rfl (Nat.le_of_ble_eq_true rfl) dX7_findsOne_57 (fun H locs hP hD hS => ?_)
            have hP : va_P (dC, dI) vwCl [(h_p0, .inr (7, [.ref h_p0_now, .ref h_p0_then, .ref h_p0_past, .int v_kept, .ref h_p0_text, .int v_typed, .int v_thrown, .int v_at, .int v_isFault, .ref h_p0_told, .int v_tolds, .int x4, .int v_other, .int v_change, .int v_woken])), (h_p1, .inl (cyI, 452, .inl arr_1))] H := hP
            have hD : va_D A [(h_p0, .inr (7, [.ref h_p0_now, .ref h_p0_then, .ref h_p0_past, .int v_kept, .ref h_p0_text, .int v_typed, .int v_thrown, .int v_at, .int v_isFault, .ref h_p0_told, .int v_tolds, .int x4, .int v_other, .int v_change, .int v_woken])), (h_p1, .inl (cyI, 452, .inl arr_1))] := hD
            refine lv_aload_n hx hb dX7_findsOne_60 rfl (lv_at hl 0 rfl) ?_
            refine lv_aload_n hx hb dX7_findsOne_61 rfl (lv_at hl 1 rfl) ?_
            refine lv_iload hx hb dX7_findsOne_62 (lv_at hl 4 rfl) ?_
            refine lv_iload_n hx hb dX7_findsOne_64 rfl (lv_at hl 2 rfl) ?_
            refine lv_iload_n hx hb dX7_findsOne_65 rfl (lv_at hl 3 rfl) ?_
            obtain ⟨r8, e9, h⟩ := bsome h
            have hPc := sb_P [(h_p1, .inl (cyI, 452, .inl arr_1))] hP [1] rfl
            have hDc := sb_D [(h_p1, .inl (cyI, 452, .inl arr_1))] hD [1] (by decide) rfl
            have hFc := va_free (wc := [(h_p1, .inl (cyI, 452, .inl arr_1))]) hD hS hA [1] rfl
            refine va_calli (va_runS (As := [.ref h_p1, .int x4, .int a2, .int a3]) (rest := [.ref h_p0]) ⟨hx, hb, hml, hown, hts⟩ (c_X7_wakes l dC dI cyI cyJ cyT h_p1 H.size arr_1 x4 a2 a3 n r8 e9) (va_cwS 4 hts gX7_findsOne_X7_wakes rfl rfl rfl (by decide +kernel) ⟨Nat.le_of_ble_eq_true rfl, Nat.le_of_ble_eq_true rfl⟩) ⟨PRE.blind, PRE.go hK hPc hDc hNW⟩ rfl rfl hl.1 rfl (lv_room (Nat.le_of_ble_eq_true rfl)) dX7_findsOne_66 ⟨Nat.zero_le _, Nat.zero_le _⟩) hS (fun q _ h => hFc q h) hFc (fun z10 u t H locs ht hvm hw hB hz1 hk1 hS => ?_)
            subst z10
            obtain ⟨hP, hD⟩ := va_join (wr := [(h_p0, .inr (7, [.ref h_p0_now, .ref h_p0_then, .ref h_p0_past, .int v_kept, .ref h_p0_text, .int v_typed, .int v_thrown, .int v_at, .int v_isFault, .ref h_p0_told, .int v_tolds, .int x4, .int v_other, .int v_change, .int v_woken]))]) (w1 := [(h_p1, .inl (cyI, 452, .inl arr_1))]) hP hD [1] [0] rfl rfl (by decide) (by decide) hk1 hFc (WLD.P hB ht) hB.2
            have hP : va_P (dC, dI) vwCl [(h_p0, .inr (7, [.ref h_p0_now, .ref h_p0_then, .ref h_p0_past, .int v_kept, .ref h_p0_text, .int v_typed, .int v_thrown, .int v_at, .int v_isFault, .ref h_p0_told, .int v_tolds, .int x4, .int v_other, .int v_change, .int v_woken])), (h_p1, .inl (cyI, 452, .inl arr_1))] H := hP
            have hD : va_D A [(h_p0, .inr (7, [.ref h_p0_now, .ref h_p0_then, .ref h_p0_past, .int v_kept, .ref h_p0_text, .int v_typed, .int v_thrown, .int v_at, .int v_isFault, .ref h_p0_told, .int v_tolds, .int x4, .int v_other, .int v_change, .int v_woken])), (h_p1, .inl (cyI, 452, .inl arr_1))] := hD
            refine va_put (D := (dC, dI)) (ci := 7) (v := .int r8) (ty := .int) (C := RX7) (T := TX7) (N := 15) hx hb hts m_X7_findsOne_0 tyX7 tyX7_ok nmX7 hown hK hP hD hS 0 rfl rfl 14 (by decide) (hts (.fieldLink RX7 66 "SleeperBerthsModel" "woken" "I") m_X7_findsOne_3) (fun _ h9 => h9) rfl (by decide +kernel) rfl rfl (Nat.le_of_ble_eq_true rfl) dX7_findsOne_69 (fun H locs hP hD hS => ?_)
            have hP : va_P (dC, dI) vwCl [(h_p0, .inr (7, [.ref h_p0_now, .ref h_p0_then, .ref h_p0_past, .int v_kept, .ref h_p0_text, .int v_typed, .int v_thrown, .int v_at, .int v_isFault, .ref h_p0_told, .int v_tolds, .int x4, .int v_other, .int v_change, .int r8])), (h_p1, .inl (cyI, 452, .inl arr_1))] H := hP
            have hD : va_D A [(h_p0, .inr (7, [.ref h_p0_now, .ref h_p0_then, .ref h_p0_past, .int v_kept, .ref h_p0_text, .int v_typed, .int v_thrown, .int v_at, .int v_isFault, .ref h_p0_told, .int v_tolds, .int x4, .int v_other, .int v_change, .int r8])), (h_p1, .inl (cyI, 452, .inl arr_1))] := hD
            refine lv_iinc (v := (x4 + iI 1)) hx hb dX7_findsOne_72 hl (k := 4) rfl rfl (by decide) (rfl : _ = ([(4, .int (x4 + iI 1)), (0, .ref h_p0), (1, .ref h_p1), (2, .int a2), (3, .int a3)] : List (Nat × Value))) (fun ls hl => ?_)
            refine lv_goto (tgt := 13) hx hb dX7_findsOne_75 (by decide) ?_
            exact ih x4 v_other v_change r8 (x4 + iI 1) _ _ hP hD hS ls (lv_sub hl [1, 2, 3, 4, 0] rfl) h
          · have h := ineg c7 h
            refine lv_aload_n hx hb dX7_findsOne_39 rfl (lv_at hl 1 rfl) ?_
            refine lv_iload hx hb dX7_findsOne_40 (lv_at hl 4 rfl) ?_
            refine lv_iload_n hx hb dX7_findsOne_42 rfl (lv_at hl 2 rfl) ?_
            refine lv_iload_n hx hb dX7_findsOne_43 rfl (lv_at hl 3 rfl) ?_
            obtain ⟨r11, e12, h⟩ := bsome h
            have hPc := sb_P [(h_p1, .inl (cyI, 452, .inl arr_1))] hP [1] rfl
            have hDc := sb_D [(h_p1, .inl (cyI, 452, .inl arr_1))] hD [1] (by decide) rfl
            have hFc := va_free (wc := [(h_p1, .inl (cyI, 452, .inl arr_1))]) hD hS hA [1] rfl
            refine va_calli (va_runS (As := [.ref h_p1, .int x4, .int a2, .int a3]) (rest := []) ⟨hx, hb, hml, hown, hts⟩ (c_X7_wakes l dC dI cyI cyJ cyT h_p1 H.size arr_1 x4 a2 a3 n r11 e12) (va_cwS 4 hts gX7_findsOne_X7_wakes rfl rfl rfl (by decide +kernel) ⟨Nat.le_of_ble_eq_true rfl, Nat.le_of_ble_eq_true rfl⟩) ⟨PRE.blind, PRE.go hK hPc hDc hNW⟩ rfl rfl hl.1 rfl (lv_room (Nat.le_of_ble_eq_true rfl)) dX7_findsOne_44 ⟨Nat.zero_le _, Nat.zero_le _⟩) hS (fun q _ h => hFc q h) hFc (fun z13 u t H locs ht hvm hw hB hz1 hk1 hS => ?_)
            subst z13
            obtain ⟨hP, hD⟩ := va_join (wr := [(h_p0, .inr (7, [.ref h_p0_now, .ref h_p0_then, .ref h_p0_past, .int v_kept, .ref h_p0_text, .int v_typed, .int v_thrown, .int v_at, .int v_isFault, .ref h_p0_told, .int v_tolds, .int v_one, .int v_other, .int v_change, .int v_woken]))]) (w1 := [(h_p1, .inl (cyI, 452, .inl arr_1))]) hP hD [1] [0] rfl rfl (by decide) (by decide) hk1 hFc (WLD.P hB ht) hB.2
            have hP : va_P (dC, dI) vwCl [(h_p0, .inr (7, [.ref h_p0_now, .ref h_p0_then, .ref h_p0_past, .int v_kept, .ref h_p0_text, .int v_typed, .int v_thrown, .int v_at, .int v_isFault, .ref h_p0_told, .int v_tolds, .int v_one, .int v_other, .int v_change, .int v_woken])), (h_p1, .inl (cyI, 452, .inl arr_1))] H := hP
            have hD : va_D A [(h_p0, .inr (7, [.ref h_p0_now, .ref h_p0_then, .ref h_p0_past, .int v_kept, .ref h_p0_text, .int v_typed, .int v_thrown, .int v_at, .int v_isFault, .ref h_p0_told, .int v_tolds, .int v_one, .int v_other, .int v_change, .int v_woken])), (h_p1, .inl (cyI, 452, .inl arr_1))] := hD
            refine lv_aload_n hx hb dX7_findsOne_47 rfl (lv_at hl 0 rfl) ?_
            refine va_get (D := (dC, dI)) (ci := 7) (v := .int v_woken) (C := RX7) (T := TX7) (N := 15) hx hb hts m_X7_findsOne_0 hown hK hP 0 rfl rfl 14 (by decide) (hts (.fieldLink RX7 66 "SleeperBerthsModel" "woken" "I") m_X7_findsOne_3) (fun _ h9 => h9) rfl dX7_findsOne_48 ?_
            refine lv_icmp_ge (tgt := 72) hx hb dX7_findsOne_51 (by decide) (fun c14 => ?_) (fun c14 => ?_)
            · have h := ipos c14 h
              refine lv_iinc (v := (x4 + iI 1)) hx hb dX7_findsOne_72 hl (k := 4) rfl rfl (by decide) (rfl : _ = ([(4, .int (x4 + iI 1)), (0, .ref h_p0), (1, .ref h_p1), (2, .int a2), (3, .int a3)] : List (Nat × Value))) (fun ls hl => ?_)
              refine lv_goto (tgt := 13) hx hb dX7_findsOne_75 (by decide) ?_
              exact ih v_one v_other v_change v_woken (x4 + iI 1) _ _ hP hD hS ls (lv_sub hl [1, 2, 3, 4, 0] rfl) h
            · have h := ineg c14 h
              refine lv_aload_n hx hb dX7_findsOne_54 rfl (lv_at hl 0 rfl) ?_
              refine lv_iload hx hb dX7_findsOne_55 (lv_at hl 4 rfl) ?_
              refine va_put (D := (dC, dI)) (ci := 7) (v := .int x4) (ty := .int) (C := RX7) (T := TX7) (N := 15) hx hb hts m_X7_findsOne_0 tyX7 tyX7_ok nmX7 hown hK hP hD hS 0 rfl rfl 11 (by decide) (hts (.fieldLink RX7 52 "SleeperBerthsModel" "one" "I") m_X7_findsOne_1) (fun _ h9 => h9) rfl (by decide +kernel) rfl rfl (Nat.le_of_ble_eq_true rfl) dX7_findsOne_57 (fun H locs hP hD hS => ?_)
              have hP : va_P (dC, dI) vwCl [(h_p0, .inr (7, [.ref h_p0_now, .ref h_p0_then, .ref h_p0_past, .int v_kept, .ref h_p0_text, .int v_typed, .int v_thrown, .int v_at, .int v_isFault, .ref h_p0_told, .int v_tolds, .int x4, .int v_other, .int v_change, .int v_woken])), (h_p1, .inl (cyI, 452, .inl arr_1))] H := hP
              have hD : va_D A [(h_p0, .inr (7, [.ref h_p0_now, .ref h_p0_then, .ref h_p0_past, .int v_kept, .ref h_p0_text, .int v_typed, .int v_thrown, .int v_at, .int v_isFault, .ref h_p0_told, .int v_tolds, .int x4, .int v_other, .int v_change, .int v_woken])), (h_p1, .inl (cyI, 452, .inl arr_1))] := hD
              refine lv_aload_n hx hb dX7_findsOne_60 rfl (lv_at hl 0 rfl) ?_
              refine lv_aload_n hx hb dX7_findsOne_61 rfl (lv_at hl 1 rfl) ?_
              refine lv_iload hx hb dX7_findsOne_62 (lv_at hl 4 rfl) ?_
              refine lv_iload_n hx hb dX7_findsOne_64 rfl (lv_at hl 2 rfl) ?_
              refine lv_iload_n hx hb dX7_findsOne_65 rfl (lv_at hl 3 rfl) ?_
              obtain ⟨r15, e16, h⟩ := bsome h
              have hPc := sb_P [(h_p1, .inl (cyI, 452, .inl arr_1))] hP [1] rfl
              have hDc := sb_D [(h_p1, .inl (cyI, 452, .inl arr_1))] hD [1] (by decide) rfl
              have hFc := va_free (wc := [(h_p1, .inl (cyI, 452, .inl arr_1))]) hD hS hA [1] rfl
              refine va_calli (va_runS (As := [.ref h_p1, .int x4, .int a2, .int a3]) (rest := [.ref h_p0]) ⟨hx, hb, hml, hown, hts⟩ (c_X7_wakes l dC dI cyI cyJ cyT h_p1 H.size arr_1 x4 a2 a3 n r15 e16) (va_cwS 4 hts gX7_findsOne_X7_wakes rfl rfl rfl (by decide +kernel) ⟨Nat.le_of_ble_eq_true rfl, Nat.le_of_ble_eq_true rfl⟩) ⟨PRE.blind, PRE.go hK hPc hDc hNW⟩ rfl rfl hl.1 rfl (lv_room (Nat.le_of_ble_eq_true rfl)) dX7_findsOne_66 ⟨Nat.zero_le _, Nat.zero_le _⟩) hS (fun q _ h => hFc q h) hFc (fun z17 u t H locs ht hvm hw hB hz1 hk1 hS => ?_)
              subst z17
              obtain ⟨hP, hD⟩ := va_join (wr := [(h_p0, .inr (7, [.ref h_p0_now, .ref h_p0_then, .ref h_p0_past, .int v_kept, .ref h_p0_text, .int v_typed, .int v_thrown, .int v_at, .int v_isFault, .ref h_p0_told, .int v_tolds, .int x4, .int v_other, .int v_change, .int v_woken]))]) (w1 := [(h_p1, .inl (cyI, 452, .inl arr_1))]) hP hD [1] [0] rfl rfl (by decide) (by decide) hk1 hFc (WLD.P hB ht) hB.2
              have hP : va_P (dC, dI) vwCl [(h_p0, .inr (7, [.ref h_p0_now, .ref h_p0_then, .ref h_p0_past, .int v_kept, .ref h_p0_text, .int v_typed, .int v_thrown, .int v_at, .int v_isFault, .ref h_p0_told, .int v_tolds, .int x4, .int v_other, .int v_change, .int v_woken])), (h_p1, .inl (cyI, 452, .inl arr_1))] H := hP
              have hD : va_D A [(h_p0, .inr (7, [.ref h_p0_now, .ref h_p0_then, .ref h_p0_past, .int v_kept, .ref h_p0_text, .int v_typed, .int v_thrown, .int v_at, .int v_isFault, .ref h_p0_told, .int v_tolds, .int x4, .int v_other, .int v_change, .int v_woken])), (h_p1, .inl (cyI, 452, .inl arr_1))] := hD
              refine va_put (D := (dC, dI)) (ci := 7) (v := .int r15) (ty := .int) (C := RX7) (T := TX7) (N := 15) hx hb hts m_X7_findsOne_0 tyX7 tyX7_ok nmX7 hown hK hP hD hS 0 rfl rfl 14 (by decide) (hts (.fieldLink RX7 66 "SleeperBerthsModel" "woken" "I") m_X7_findsOne_3) (fun _ h9 => h9) rfl (by decide +kernel) rfl rfl (Nat.le_of_ble_eq_true rfl) dX7_findsOne_69 (fun H locs hP hD hS => ?_)
              have hP : va_P (dC, dI) vwCl [(h_p0, .inr (7, [.ref h_p0_now, .ref h_p0_then, .ref h_p0_past, .int v_kept, .ref h_p0_text, .int v_typed, .int v_thrown, .int v_at, .int v_isFault, .ref h_p0_told, .int v_tolds, .int x4, .int v_other, .int v_change, .int r15])), (h_p1, .inl (cyI, 452, .inl arr_1))] H := hP
              have hD : va_D A [(h_p0, .inr (7, [.ref h_p0_now, .ref h_p0_then, .ref h_p0_past, .int v_kept, .ref h_p0_text, .int v_typed, .int v_thrown, .int v_at, .int v_isFault, .ref h_p0_told, .int v_tolds, .int x4, .int v_other, .int v_change, .int r15])), (h_p1, .inl (cyI, 452, .inl arr_1))] := hD
              refine lv_iinc (v := (x4 + iI 1)) hx hb dX7_findsOne_72 hl (k := 4) rfl rfl (by decide) (rfl : _ = ([(4, .int (x4 + iI 1)), (0, .ref h_p0), (1, .ref h_p1), (2, .int a2), (3, .int a3)] : List (Nat × Value))) (fun ls hl => ?_)
              refine lv_goto (tgt := 13) hx hb dX7_findsOne_75 (by decide) ?_
              exact ih x4 v_other v_change r15 (x4 + iI 1) _ _ hP hD hS ls (lv_sub hl [1, 2, 3, 4, 0] rfl) h
  have hl := lv_entry ([.ref h_p0, .ref h_p1, .int a2, .int a3]) (n := 5) (Nat.le_of_ble_eq_true rfl)
  rw [lg_entry_eq]
  generalize (lg_sl ([.ref h_p0, .ref h_p1, .int a2, .int a3]) ++ List.replicate (5 - (lg_sl ([.ref h_p0, .ref h_p1, .int a2, .int a3])).length) Slot.unset).toArray = ls at hl ⊢
  have hl : lv_has ls 5 [(0, .ref h_p0), (1, .ref h_p1), (2, .int a2), (3, .int a3)] := hl
  unfold s_X7_findsOne at h
  refine lv_aload_n hx hb dX7_findsOne_0 rfl (lv_at hl 0 rfl) ?_
  refine lv_iconst (v := iI (-1)) hx hb dX7_findsOne_1 rfl ?_
  refine va_put (D := (dC, dI)) (ci := 7) (v := .int (iI (-1))) (ty := .int) (C := RX7) (T := TX7) (N := 15) hx hb hts m_X7_findsOne_0 tyX7 tyX7_ok nmX7 hown hK hP hD hS 0 rfl rfl 11 (by decide) (hts (.fieldLink RX7 52 "SleeperBerthsModel" "one" "I") m_X7_findsOne_1) (fun _ h9 => h9) rfl (by decide +kernel) rfl rfl (Nat.le_of_ble_eq_true rfl) dX7_findsOne_2 (fun H locs hP hD hS => ?_)
  have hP : va_P (dC, dI) vwCl [(h_p0, .inr (7, [.ref h_p0_now, .ref h_p0_then, .ref h_p0_past, .int v_kept, .ref h_p0_text, .int v_typed, .int v_thrown, .int v_at, .int v_isFault, .ref h_p0_told, .int v_tolds, .int (iI (-1)), .int v_other, .int v_change, .int v_woken])), (h_p1, .inl (cyI, 452, .inl arr_1))] H := hP
  have hD : va_D A [(h_p0, .inr (7, [.ref h_p0_now, .ref h_p0_then, .ref h_p0_past, .int v_kept, .ref h_p0_text, .int v_typed, .int v_thrown, .int v_at, .int v_isFault, .ref h_p0_told, .int v_tolds, .int (iI (-1)), .int v_other, .int v_change, .int v_woken])), (h_p1, .inl (cyI, 452, .inl arr_1))] := hD
  refine lv_aload_n hx hb dX7_findsOne_5 rfl (lv_at hl 0 rfl) ?_
  refine lv_iconst (v := iI (-1)) hx hb dX7_findsOne_6 rfl ?_
  refine va_put (D := (dC, dI)) (ci := 7) (v := .int (iI (-1))) (ty := .int) (C := RX7) (T := TX7) (N := 15) hx hb hts m_X7_findsOne_0 tyX7 tyX7_ok nmX7 hown hK hP hD hS 0 rfl rfl 13 (by decide) (hts (.fieldLink RX7 55 "SleeperBerthsModel" "change" "I") m_X7_findsOne_4) (fun _ h9 => h9) rfl (by decide +kernel) rfl rfl (Nat.le_of_ble_eq_true rfl) dX7_findsOne_7 (fun H locs hP hD hS => ?_)
  have hP : va_P (dC, dI) vwCl [(h_p0, .inr (7, [.ref h_p0_now, .ref h_p0_then, .ref h_p0_past, .int v_kept, .ref h_p0_text, .int v_typed, .int v_thrown, .int v_at, .int v_isFault, .ref h_p0_told, .int v_tolds, .int (iI (-1)), .int v_other, .int (iI (-1)), .int v_woken])), (h_p1, .inl (cyI, 452, .inl arr_1))] H := hP
  have hD : va_D A [(h_p0, .inr (7, [.ref h_p0_now, .ref h_p0_then, .ref h_p0_past, .int v_kept, .ref h_p0_text, .int v_typed, .int v_thrown, .int v_at, .int v_isFault, .ref h_p0_told, .int v_tolds, .int (iI (-1)), .int v_other, .int (iI (-1)), .int v_woken])), (h_p1, .inl (cyI, 452, .inl arr_1))] := hD
  refine lv_iconst (v := iI 0) hx hb dX7_findsOne_10 rfl ?_
  refine lv_istore hx hb dX7_findsOne_11 hl (by decide) (rfl : _ = ([(4, .int (iI 0)), (0, .ref h_p0), (1, .ref h_p1), (2, .int a2), (3, .int a3)] : List (Nat × Value))) (fun ls hl => ?_)
  exact L13 n (iI (-1)) v_other (iI (-1)) v_woken (iI 0) _ _ hP hD hS ls (lv_sub hl [1, 2, 3, 4, 0] rfl) h
def s_X7_best_L6 (n : Nat) (arr_0 : Nat → Int32) (a1 : Int32) (a2 : Int32) (a3 : Int32) : Nat → Int32 → Int32 → Option (Int32)
  | 0, _, _ => none
  | k + 1, x4, x5 => (if iI 18 ≤ x5 then (some (x4)) else (if x5 = a3 then (if iI 0 = 0 then (s_X7_best_L6 n arr_0 a1 a2 a3 k x4 (x5 + iI 1)) else (if x4 = iI (-1) then (s_X7_best_L6 n arr_0 a1 a2 a3 k x5 (x5 + iI 1)) else ((s_X7_wakes n arr_0 x5 a1 a2).bind fun r5 => ((s_X7_wakes n arr_0 x4 a1 a2).bind fun r8 => (if r8 ≤ r5 then (s_X7_best_L6 n arr_0 a1 a2 a3 k x4 (x5 + iI 1)) else (s_X7_best_L6 n arr_0 a1 a2 a3 k x5 (x5 + iI 1))))))) else ((s_X7_isFree n arr_0 x5 a1 a2).bind fun r12 => (if r12 = 0 then (if iI 0 = 0 then (s_X7_best_L6 n arr_0 a1 a2 a3 k x4 (x5 + iI 1)) else (if x4 = iI (-1) then (s_X7_best_L6 n arr_0 a1 a2 a3 k x5 (x5 + iI 1)) else ((s_X7_wakes n arr_0 x5 a1 a2).bind fun r18 => ((s_X7_wakes n arr_0 x4 a1 a2).bind fun r21 => (if r21 ≤ r18 then (s_X7_best_L6 n arr_0 a1 a2 a3 k x4 (x5 + iI 1)) else (s_X7_best_L6 n arr_0 a1 a2 a3 k x5 (x5 + iI 1))))))) else (if iI 1 = 0 then (s_X7_best_L6 n arr_0 a1 a2 a3 k x4 (x5 + iI 1)) else (if x4 = iI (-1) then (s_X7_best_L6 n arr_0 a1 a2 a3 k x5 (x5 + iI 1)) else ((s_X7_wakes n arr_0 x5 a1 a2).bind fun r27 => ((s_X7_wakes n arr_0 x4 a1 a2).bind fun r30 => (if r30 ≤ r27 then (s_X7_best_L6 n arr_0 a1 a2 a3 k x4 (x5 + iI 1)) else (s_X7_best_L6 n arr_0 a1 a2 a3 k x5 (x5 + iI 1)))))))))))
def s_X7_best (n : Nat) (arr_0 : Nat → Int32) (a1 : Int32) (a2 : Int32) (a3 : Int32) : Option (Int32) := (s_X7_best_L6 n arr_0 a1 a2 a3 n (iI (-1)) (iI 0))
set_option maxHeartbeats 4000000 in
set_option maxRecDepth 100000 in
theorem c_X7_best (l : Launch) (dC : Nat → ClassId) (dI : Nat → Nat → Nat) (cyI cyJ cyT : ClassId) (h_p0 : Nat) (sz : Nat) (arr_0 : Nat → Int32) (a1 : Int32) (a2 : Int32) (a3 : Int32) (n : Nat) (o : Int32) (h : s_X7_best n arr_0 a1 a2 a3 = some o) : Met l yX7_best wsX7_best ({ frames := 3, cells := 0, slots := 0, locals := 69 }) (va_Pc [.ref h_p0, .int a1, .int a2, .int a3] (PRE (dC, dI) (TYS cyI cyJ cyT) sz [(h_p0, .inl (cyI, 452, .inl arr_0))])) (va_Qi (S := Unit) (fun r _ => r = o) (fun _ t => WLD (dC, dI) (va_A [(h_p0, .inl (cyI, 452, .inl arr_0))] sz) [(h_p0, .inl (cyI, 452, .inl arr_0))] t) (va_A [(h_p0, .inl (cyI, 452, .inl arr_0))] sz)) 0 0 (va_A [(h_p0, .inl (cyI, 452, .inl arr_0))] sz) := by
  refine Met.ofW (cc := cX7_best) (maxL := 7) (ret := (some .int)) (by decide) rfl ?_
  intro p e s m args below meth c s₁ B hml hv
  obtain ⟨rfl, hsz, hP, hK, hD0, hNW⟩ := hv
  have hx := B.exec
  have hb := B.bytes
  have hr := B.returns
  have hts := atoms_spec (ws := wsX7_best) B.pre
  have hown : s.vm.findClass RX7 = some m.cls := findClass_of_methodNamed B.named
  have hlocks := B.notSynchronized
  subst hsz
  have hD := hD0.self (sz := s.heap.size)
  generalize hAe : va_A [(h_p0, .inl (cyI, 452, .inl arr_0))] s.heap.size = A at hD ⊢
  have hA : ∀ q : Nat, s.heap.size ≤ q → A q := fun q h => by rw [← hAe]; exact Or.inr h
  have hS : va_S A s.heap s.heap [] := va_S.rf
  have hP : va_P (dC, dI) vwCl [(h_p0, .inl (cyI, 452, .inl arr_0))] s.heap := hP
  have L6 : ∀ (k : Nat), (∀ (x4 : Int32) (x5 : Int32) (H : Heap) (locs : List Loc), va_P (dC, dI) vwCl [(h_p0, .inl (cyI, 452, .inl arr_0))] H → va_D A [(h_p0, .inl (cyI, 452, .inl arr_0))] → va_S A s.heap H locs → ∀ (ls : Array Slot), lv_has ls 7 [(0, .ref h_p0), (1, .int a1), (2, .int a2), (3, .int a3), (4, .int x4), (5, .int x5)] →  s_X7_best_L6 n arr_0 a1 a2 a3 k x4 x5 = some o → W p l e (headSpec wsX7_best ({ frames := 3, cells := 0, slots := 0, locals := 69 })).room s m (([.ref h_p0, .int a1, .int a2, .int a3] : List Value).toArray) below meth c H locs 0 0 (MQ below (va_Qi (S := Unit) (fun r _ => r = o) (fun _ t => WLD (dC, dI) A [(h_p0, .inl (cyI, 452, .inl arr_0))] t) A) (([.ref h_p0, .int a1, .int a2, .int a3] : List Value).toArray) s 0 0 A) (F0 m 6 ls [])) := by
    intro k
    induction k with
    | zero =>
      intro  x4 x5 H locs hP hD hS ls hl h
      rw [s_X7_best_L6] at h
      cases h
    | succ k ih =>
      intro  x4 x5 H locs hP hD hS ls hl h
      rw [s_X7_best_L6] at h
      refine lv_iload hx hb dX7_best_6 (lv_at hl 5 rfl) ?_
      refine lv_bipush (v := iI 18) hx hb dX7_best_8 (by decide) ?_
      refine lv_icmp_ge (tgt := 82) hx hb dX7_best_10 (by decide) (fun c1 => ?_) (fun c1 => ?_)
      · have h := ipos c1 h
        refine lv_iload hx hb dX7_best_82 (lv_at hl 4 rfl) ?_
        obtain rfl := Option.some.inj h
        exact W.iret (v := x4) hx hb hr (fun t ht hW => ⟨⟨x4, (), rfl, rfl, WLD.of ht hP hD⟩, hS.F ht⟩) hS.2.2 dX7_best_84
      · have h := ineg c1 h
        refine lv_iload hx hb dX7_best_13 (lv_at hl 5 rfl) ?_
        refine lv_iload_n hx hb dX7_best_15 rfl (lv_at hl 3 rfl) ?_
        refine lv_icmp_eq (tgt := 34) hx hb dX7_best_16 (by decide) (fun c2 => ?_) (fun c2 => ?_)
        · have h := ipos c2 h
          refine lv_iconst (v := iI 0) hx hb dX7_best_34 rfl ?_
          refine lv_istore hx hb dX7_best_35 hl (by decide) (rfl : _ = ([(6, .int (iI 0)), (0, .ref h_p0), (1, .int a1), (2, .int a2), (3, .int a3), (4, .int x4), (5, .int x5)] : List (Nat × Value))) (fun ls hl => ?_)
          refine lv_iload hx hb dX7_best_37 (lv_at hl 0 rfl) ?_
          refine lv_if_eq (tgt := 72) hx hb dX7_best_39 (by decide) (fun c3 => ?_) (fun c3 => ?_)
          · have h := ipos c3 h
            refine lv_iload hx hb dX7_best_72 (lv_at hl 5 rfl) ?_
            refine lv_istore hx hb dX7_best_74 hl (by decide) (rfl : _ = ([(4, .int x4), (6, .int (iI 0)), (0, .ref h_p0), (1, .int a1), (2, .int a2), (3, .int a3), (5, .int x5)] : List (Nat × Value))) (fun ls hl => ?_)
            refine lv_iinc (v := (x5 + iI 1)) hx hb dX7_best_76 hl (k := 6) rfl rfl (by decide) (rfl : _ = ([(5, .int (x5 + iI 1)), (4, .int x4), (6, .int (iI 0)), (0, .ref h_p0), (1, .int a1), (2, .int a2), (3, .int a3)] : List (Nat × Value))) (fun ls hl => ?_)
            refine lv_goto (tgt := 6) hx hb dX7_best_79 (by decide) ?_
            exact ih x4 (x5 + iI 1) _ _ hP hD hS ls (lv_sub hl [3, 4, 5, 6, 1, 0] rfl) h
          · have h := ineg c3 h
            refine lv_iload hx hb dX7_best_42 (lv_at hl 5 rfl) ?_
            refine lv_iconst (v := iI (-1)) hx hb dX7_best_44 rfl ?_
            refine lv_icmp_eq (tgt := 67) hx hb dX7_best_45 (by decide) (fun c4 => ?_) (fun c4 => ?_)
            · have h := ipos c4 h
              refine lv_iload hx hb dX7_best_67 (lv_at hl 6 rfl) ?_
              refine lv_goto (tgt := 74) hx hb dX7_best_69 (by decide) ?_
              refine lv_istore hx hb dX7_best_74 hl (by decide) (rfl : _ = ([(4, .int x5), (6, .int (iI 0)), (0, .ref h_p0), (1, .int a1), (2, .int a2), (3, .int a3), (5, .int x5)] : List (Nat × Value))) (fun ls hl => ?_)
              refine lv_iinc (v := (x5 + iI 1)) hx hb dX7_best_76 hl (k := 6) rfl rfl (by decide) (rfl : _ = ([(5, .int (x5 + iI 1)), (4, .int x5), (6, .int (iI 0)), (0, .ref h_p0), (1, .int a1), (2, .int a2), (3, .int a3)] : List (Nat × Value))) (fun ls hl => ?_)
              refine lv_goto (tgt := 6) hx hb dX7_best_79 (by decide) ?_
              exact ih x5 (x5 + iI 1) _ _ hP hD hS ls (lv_sub hl [3, 4, 5, 6, 1, 0] rfl) h
            · have h := ineg c4 h
              refine lv_aload_n hx hb dX7_best_48 rfl (lv_at hl 1 rfl) ?_
              refine lv_iload hx hb dX7_best_49 (lv_at hl 6 rfl) ?_
              refine lv_iload_n hx hb dX7_best_51 rfl (lv_at hl 2 rfl) ?_
              refine lv_iload_n hx hb dX7_best_52 rfl (lv_at hl 3 rfl) ?_
              obtain ⟨r5, e6, h⟩ := bsome h
              have hPc := sb_P [(h_p0, .inl (cyI, 452, .inl arr_0))] hP [0] rfl
              have hDc := sb_D [(h_p0, .inl (cyI, 452, .inl arr_0))] hD [0] (by decide) rfl
              have hFc := va_free (wc := [(h_p0, .inl (cyI, 452, .inl arr_0))]) hD hS hA [0] rfl
              refine va_calli (va_runS (As := [.ref h_p0, .int x5, .int a1, .int a2]) (rest := []) ⟨hx, hb, hml, hown, hts⟩ (c_X7_wakes l dC dI cyI cyJ cyT h_p0 H.size arr_0 x5 a1 a2 n r5 e6) (va_cwS 4 hts gX7_best_X7_wakes rfl rfl rfl (by decide +kernel) ⟨Nat.le_of_ble_eq_true rfl, Nat.le_of_ble_eq_true rfl⟩) ⟨PRE.blind, PRE.go hK hPc hDc hNW⟩ rfl rfl hl.1 rfl (lv_room (Nat.le_of_ble_eq_true rfl)) dX7_best_53 ⟨Nat.zero_le _, Nat.zero_le _⟩) hS (fun q _ h => hFc q h) hFc (fun z7 u t H locs ht hvm hw hB hz1 hk1 hS => ?_)
              subst z7
              obtain ⟨hP, hD⟩ := va_join (wr := []) (w1 := [(h_p0, .inl (cyI, 452, .inl arr_0))]) hP hD [0] [] rfl rfl (by decide) (by decide) hk1 hFc (WLD.P hB ht) hB.2
              have hP : va_P (dC, dI) vwCl [(h_p0, .inl (cyI, 452, .inl arr_0))] H := hP
              have hD : va_D A [(h_p0, .inl (cyI, 452, .inl arr_0))] := hD
              refine lv_aload_n hx hb dX7_best_56 rfl (lv_at hl 1 rfl) ?_
              refine lv_iload hx hb dX7_best_57 (lv_at hl 5 rfl) ?_
              refine lv_iload_n hx hb dX7_best_59 rfl (lv_at hl 2 rfl) ?_
              refine lv_iload_n hx hb dX7_best_60 rfl (lv_at hl 3 rfl) ?_
              obtain ⟨r8, e9, h⟩ := bsome h
              have hPc := sb_P [(h_p0, .inl (cyI, 452, .inl arr_0))] hP [0] rfl
              have hDc := sb_D [(h_p0, .inl (cyI, 452, .inl arr_0))] hD [0] (by decide) rfl
              have hFc := va_free (wc := [(h_p0, .inl (cyI, 452, .inl arr_0))]) hD hS hA [0] rfl
              refine va_calli (va_runS (As := [.ref h_p0, .int x4, .int a1, .int a2]) (rest := [.int r5]) ⟨hx, hb, hml, hown, hts⟩ (c_X7_wakes l dC dI cyI cyJ cyT h_p0 H.size arr_0 x4 a1 a2 n r8 e9) (va_cwS 4 hts gX7_best_X7_wakes rfl rfl rfl (by decide +kernel) ⟨Nat.le_of_ble_eq_true rfl, Nat.le_of_ble_eq_true rfl⟩) ⟨PRE.blind, PRE.go hK hPc hDc hNW⟩ rfl rfl hl.1 rfl (lv_room (Nat.le_of_ble_eq_true rfl)) dX7_best_61 ⟨Nat.zero_le _, Nat.zero_le _⟩) hS (fun q _ h => hFc q h) hFc (fun z10 u t H locs ht hvm hw hB hz1 hk1 hS => ?_)
              subst z10
              obtain ⟨hP, hD⟩ := va_join (wr := []) (w1 := [(h_p0, .inl (cyI, 452, .inl arr_0))]) hP hD [0] [] rfl rfl (by decide) (by decide) hk1 hFc (WLD.P hB ht) hB.2
              have hP : va_P (dC, dI) vwCl [(h_p0, .inl (cyI, 452, .inl arr_0))] H := hP
              have hD : va_D A [(h_p0, .inl (cyI, 452, .inl arr_0))] := hD
              refine lv_icmp_ge (tgt := 72) hx hb dX7_best_64 (by decide) (fun c11 => ?_) (fun c11 => ?_)
              · have h := ipos c11 h
                refine lv_iload hx hb dX7_best_72 (lv_at hl 5 rfl) ?_
                refine lv_istore hx hb dX7_best_74 hl (by decide) (rfl : _ = ([(4, .int x4), (6, .int (iI 0)), (0, .ref h_p0), (1, .int a1), (2, .int a2), (3, .int a3), (5, .int x5)] : List (Nat × Value))) (fun ls hl => ?_)
                refine lv_iinc (v := (x5 + iI 1)) hx hb dX7_best_76 hl (k := 6) rfl rfl (by decide) (rfl : _ = ([(5, .int (x5 + iI 1)), (4, .int x4), (6, .int (iI 0)), (0, .ref h_p0), (1, .int a1), (2, .int a2), (3, .int a3)] : List (Nat × Value))) (fun ls hl => ?_)
                refine lv_goto (tgt := 6) hx hb dX7_best_79 (by decide) ?_
                exact ih x4 (x5 + iI 1) _ _ hP hD hS ls (lv_sub hl [3, 4, 5, 6, 1, 0] rfl) h
              · have h := ineg c11 h
                refine lv_iload hx hb dX7_best_67 (lv_at hl 6 rfl) ?_
                refine lv_goto (tgt := 74) hx hb dX7_best_69 (by decide) ?_
                refine lv_istore hx hb dX7_best_74 hl (by decide) (rfl : _ = ([(4, .int x5), (6, .int (iI 0)), (0, .ref h_p0), (1, .int a1), (2, .int a2), (3, .int a3), (5, .int x5)] : List (Nat × Value))) (fun ls hl => ?_)
                refine lv_iinc (v := (x5 + iI 1)) hx hb dX7_best_76 hl (k := 6) rfl rfl (by decide) (rfl : _ = ([(5, .int (x5 + iI 1)), (4, .int x5), (6, .int (iI 0)), (0, .ref h_p0), (1, .int a1), (2, .int a2), (3, .int a3)] : List (Nat × Value))) (fun ls hl => ?_)
                refine lv_goto (tgt := 6) hx hb dX7_best_79 (by decide) ?_
                exact ih x5 (x5 + iI 1) _ _ hP hD hS ls (lv_sub hl [3, 4, 5, 6, 1, 0] rfl) h
        · have h := ineg c2 h
          refine lv_aload_n hx hb dX7_best_19 rfl (lv_at hl 0 rfl) ?_
          refine lv_iload hx hb dX7_best_20 (lv_at hl 5 rfl) ?_
          refine lv_iload_n hx hb dX7_best_22 rfl (lv_at hl 1 rfl) ?_
          refine lv_iload_n hx hb dX7_best_23 rfl (lv_at hl 2 rfl) ?_
          obtain ⟨r12, e13, h⟩ := bsome h
          have hPc := sb_P [(h_p0, .inl (cyI, 452, .inl arr_0))] hP [0] rfl
          have hDc := sb_D [(h_p0, .inl (cyI, 452, .inl arr_0))] hD [0] (by decide) rfl
          have hFc := va_free (wc := [(h_p0, .inl (cyI, 452, .inl arr_0))]) hD hS hA [0] rfl
          refine va_calli (va_runS (As := [.ref h_p0, .int x5, .int a1, .int a2]) (rest := []) ⟨hx, hb, hml, hown, hts⟩ (c_X7_isFree l dC dI cyI cyJ cyT h_p0 H.size arr_0 x5 a1 a2 n r12 e13) (va_cwS 4 hts gX7_best_X7_isFree rfl rfl rfl (by decide +kernel) ⟨Nat.le_of_ble_eq_true rfl, Nat.le_of_ble_eq_true rfl⟩) ⟨PRE.blind, PRE.go hK hPc hDc hNW⟩ rfl rfl hl.1 rfl (lv_room (Nat.le_of_ble_eq_true rfl)) dX7_best_24 ⟨Nat.zero_le _, Nat.zero_le _⟩) hS (fun q _ h => hFc q h) hFc (fun z14 u t H locs ht hvm hw hB hz1 hk1 hS => ?_)
          subst z14
          obtain ⟨hP, hD⟩ := va_join (wr := []) (w1 := [(h_p0, .inl (cyI, 452, .inl arr_0))]) hP hD [0] [] rfl rfl (by decide) (by decide) hk1 hFc (WLD.P hB ht) hB.2
          have hP : va_P (dC, dI) vwCl [(h_p0, .inl (cyI, 452, .inl arr_0))] H := hP
          have hD : va_D A [(h_p0, .inl (cyI, 452, .inl arr_0))] := hD
          refine lv_if_eq (tgt := 34) hx hb dX7_best_27 (by decide) (fun c15 => ?_) (fun c15 => ?_)
          · have h := ipos c15 h
            refine lv_iconst (v := iI 0) hx hb dX7_best_34 rfl ?_
            refine lv_istore hx hb dX7_best_35 hl (by decide) (rfl : _ = ([(6, .int (iI 0)), (0, .ref h_p0), (1, .int a1), (2, .int a2), (3, .int a3), (4, .int x4), (5, .int x5)] : List (Nat × Value))) (fun ls hl => ?_)
            refine lv_iload hx hb dX7_best_37 (lv_at hl 0 rfl) ?_
            refine lv_if_eq (tgt := 72) hx hb dX7_best_39 (by decide) (fun c16 => ?_) (fun c16 => ?_)
            · have h := ipos c16 h
              refine lv_iload hx hb dX7_best_72 (lv_at hl 5 rfl) ?_
              refine lv_istore hx hb dX7_best_74 hl (by decide) (rfl : _ = ([(4, .int x4), (6, .int (iI 0)), (0, .ref h_p0), (1, .int a1), (2, .int a2), (3, .int a3), (5, .int x5)] : List (Nat × Value))) (fun ls hl => ?_)
              refine lv_iinc (v := (x5 + iI 1)) hx hb dX7_best_76 hl (k := 6) rfl rfl (by decide) (rfl : _ = ([(5, .int (x5 + iI 1)), (4, .int x4), (6, .int (iI 0)), (0, .ref h_p0), (1, .int a1), (2, .int a2), (3, .int a3)] : List (Nat × Value))) (fun ls hl => ?_)
              refine lv_goto (tgt := 6) hx hb dX7_best_79 (by decide) ?_
              exact ih x4 (x5 + iI 1) _ _ hP hD hS ls (lv_sub hl [3, 4, 5, 6, 1, 0] rfl) h
            · have h := ineg c16 h
              refine lv_iload hx hb dX7_best_42 (lv_at hl 5 rfl) ?_
              refine lv_iconst (v := iI (-1)) hx hb dX7_best_44 rfl ?_
              refine lv_icmp_eq (tgt := 67) hx hb dX7_best_45 (by decide) (fun c17 => ?_) (fun c17 => ?_)
              · have h := ipos c17 h
                refine lv_iload hx hb dX7_best_67 (lv_at hl 6 rfl) ?_
                refine lv_goto (tgt := 74) hx hb dX7_best_69 (by decide) ?_
                refine lv_istore hx hb dX7_best_74 hl (by decide) (rfl : _ = ([(4, .int x5), (6, .int (iI 0)), (0, .ref h_p0), (1, .int a1), (2, .int a2), (3, .int a3), (5, .int x5)] : List (Nat × Value))) (fun ls hl => ?_)
                refine lv_iinc (v := (x5 + iI 1)) hx hb dX7_best_76 hl (k := 6) rfl rfl (by decide) (rfl : _ = ([(5, .int (x5 + iI 1)), (4, .int x5), (6, .int (iI 0)), (0, .ref h_p0), (1, .int a1), (2, .int a2), (3, .int a3)] : List (Nat × Value))) (fun ls hl => ?_)
                refine lv_goto (tgt := 6) hx hb dX7_best_79 (by decide) ?_
                exact ih x5 (x5 + iI 1) _ _ hP hD hS ls (lv_sub hl [3, 4, 5, 6, 1, 0] rfl) h
              · have h := ineg c17 h
                refine lv_aload_n hx hb dX7_best_48 rfl (lv_at hl 1 rfl) ?_
                refine lv_iload hx hb dX7_best_49 (lv_at hl 6 rfl) ?_
                refine lv_iload_n hx hb dX7_best_51 rfl (lv_at hl 2 rfl) ?_
                refine lv_iload_n hx hb dX7_best_52 rfl (lv_at hl 3 rfl) ?_
                obtain ⟨r18, e19, h⟩ := bsome h
                have hPc := sb_P [(h_p0, .inl (cyI, 452, .inl arr_0))] hP [0] rfl
                have hDc := sb_D [(h_p0, .inl (cyI, 452, .inl arr_0))] hD [0] (by decide) rfl
                have hFc := va_free (wc := [(h_p0, .inl (cyI, 452, .inl arr_0))]) hD hS hA [0] rfl
                refine va_calli (va_runS (As := [.ref h_p0, .int x5, .int a1, .int a2]) (rest := []) ⟨hx, hb, hml, hown, hts⟩ (c_X7_wakes l dC dI cyI cyJ cyT h_p0 H.size arr_0 x5 a1 a2 n r18 e19) (va_cwS 4 hts gX7_best_X7_wakes rfl rfl rfl (by decide +kernel) ⟨Nat.le_of_ble_eq_true rfl, Nat.le_of_ble_eq_true rfl⟩) ⟨PRE.blind, PRE.go hK hPc hDc hNW⟩ rfl rfl hl.1 rfl (lv_room (Nat.le_of_ble_eq_true rfl)) dX7_best_53 ⟨Nat.zero_le _, Nat.zero_le _⟩) hS (fun q _ h => hFc q h) hFc (fun z20 u t H locs ht hvm hw hB hz1 hk1 hS => ?_)
                subst z20
                obtain ⟨hP, hD⟩ := va_join (wr := []) (w1 := [(h_p0, .inl (cyI, 452, .inl arr_0))]) hP hD [0] [] rfl rfl (by decide) (by decide) hk1 hFc (WLD.P hB ht) hB.2
                have hP : va_P (dC, dI) vwCl [(h_p0, .inl (cyI, 452, .inl arr_0))] H := hP
                have hD : va_D A [(h_p0, .inl (cyI, 452, .inl arr_0))] := hD
                refine lv_aload_n hx hb dX7_best_56 rfl (lv_at hl 1 rfl) ?_
                refine lv_iload hx hb dX7_best_57 (lv_at hl 5 rfl) ?_
                refine lv_iload_n hx hb dX7_best_59 rfl (lv_at hl 2 rfl) ?_
                refine lv_iload_n hx hb dX7_best_60 rfl (lv_at hl 3 rfl) ?_
                obtain ⟨r21, e22, h⟩ := bsome h
                have hPc := sb_P [(h_p0, .inl (cyI, 452, .inl arr_0))] hP [0] rfl
                have hDc := sb_D [(h_p0, .inl (cyI, 452, .inl arr_0))] hD [0] (by decide) rfl
                have hFc := va_free (wc := [(h_p0, .inl (cyI, 452, .inl arr_0))]) hD hS hA [0] rfl
                refine va_calli (va_runS (As := [.ref h_p0, .int x4, .int a1, .int a2]) (rest := [.int r18]) ⟨hx, hb, hml, hown, hts⟩ (c_X7_wakes l dC dI cyI cyJ cyT h_p0 H.size arr_0 x4 a1 a2 n r21 e22) (va_cwS 4 hts gX7_best_X7_wakes rfl rfl rfl (by decide +kernel) ⟨Nat.le_of_ble_eq_true rfl, Nat.le_of_ble_eq_true rfl⟩) ⟨PRE.blind, PRE.go hK hPc hDc hNW⟩ rfl rfl hl.1 rfl (lv_room (Nat.le_of_ble_eq_true rfl)) dX7_best_61 ⟨Nat.zero_le _, Nat.zero_le _⟩) hS (fun q _ h => hFc q h) hFc (fun z23 u t H locs ht hvm hw hB hz1 hk1 hS => ?_)
                subst z23
                obtain ⟨hP, hD⟩ := va_join (wr := []) (w1 := [(h_p0, .inl (cyI, 452, .inl arr_0))]) hP hD [0] [] rfl rfl (by decide) (by decide) hk1 hFc (WLD.P hB ht) hB.2
                have hP : va_P (dC, dI) vwCl [(h_p0, .inl (cyI, 452, .inl arr_0))] H := hP
                have hD : va_D A [(h_p0, .inl (cyI, 452, .inl arr_0))] := hD
                refine lv_icmp_ge (tgt := 72) hx hb dX7_best_64 (by decide) (fun c24 => ?_) (fun c24 => ?_)
                · have h := ipos c24 h
                  refine lv_iload hx hb dX7_best_72 (lv_at hl 5 rfl) ?_
                  refine lv_istore hx hb dX7_best_74 hl (by decide) (rfl : _ = ([(4, .int x4), (6, .int (iI 0)), (0, .ref h_p0), (1, .int a1), (2, .int a2), (3, .int a3), (5, .int x5)] : List (Nat × Value))) (fun ls hl => ?_)
                  refine lv_iinc (v := (x5 + iI 1)) hx hb dX7_best_76 hl (k := 6) rfl rfl (by decide) (rfl : _ = ([(5, .int (x5 + iI 1)), (4, .int x4), (6, .int (iI 0)), (0, .ref h_p0), (1, .int a1), (2, .int a2), (3, .int a3)] : List (Nat × Value))) (fun ls hl => ?_)
                  refine lv_goto (tgt := 6) hx hb dX7_best_79 (by decide) ?_
                  exact ih x4 (x5 + iI 1) _ _ hP hD hS ls (lv_sub hl [3, 4, 5, 6, 1, 0] rfl) h
                · have h := ineg c24 h
                  refine lv_iload hx hb dX7_best_67 (lv_at hl 6 rfl) ?_
                  refine lv_goto (tgt := 74) hx hb dX7_best_69 (by decide) ?_
                  refine lv_istore hx hb dX7_best_74 hl (by decide) (rfl : _ = ([(4, .int x5), (6, .int (iI 0)), (0, .ref h_p0), (1, .int a1), (2, .int a2), (3, .int a3), (5, .int x5)] : List (Nat × Value))) (fun ls hl => ?_)
                  refine lv_iinc (v := (x5 + iI 1)) hx hb dX7_best_76 hl (k := 6) rfl rfl (by decide) (rfl : _ = ([(5, .int (x5 + iI 1)), (4, .int x5), (6, .int (iI 0)), (0, .ref h_p0), (1, .int a1), (2, .int a2), (3, .int a3)] : List (Nat × Value))) (fun ls hl => ?_)
                  refine lv_goto (tgt := 6) hx hb dX7_best_79 (by decide) ?_
                  exact ih x5 (x5 + iI 1) _ _ hP hD hS ls (lv_sub hl [3, 4, 5, 6, 1, 0] rfl) h
          · have h := ineg c15 h
            refine lv_iconst (v := iI 1) hx hb dX7_best_30 rfl ?_
            refine lv_goto (tgt := 35) hx hb dX7_best_31 (by decide) ?_
            refine lv_istore hx hb dX7_best_35 hl (by decide) (rfl : _ = ([(6, .int (iI 1)), (0, .ref h_p0), (1, .int a1), (2, .int a2), (3, .int a3), (4, .int x4), (5, .int x5)] : List (Nat × Value))) (fun ls hl => ?_)
            refine lv_iload hx hb dX7_best_37 (lv_at hl 0 rfl) ?_
            refine lv_if_eq (tgt := 72) hx hb dX7_best_39 (by decide) (fun c25 => ?_) (fun c25 => ?_)
            · have h := ipos c25 h
              refine lv_iload hx hb dX7_best_72 (lv_at hl 5 rfl) ?_
              refine lv_istore hx hb dX7_best_74 hl (by decide) (rfl : _ = ([(4, .int x4), (6, .int (iI 1)), (0, .ref h_p0), (1, .int a1), (2, .int a2), (3, .int a3), (5, .int x5)] : List (Nat × Value))) (fun ls hl => ?_)
              refine lv_iinc (v := (x5 + iI 1)) hx hb dX7_best_76 hl (k := 6) rfl rfl (by decide) (rfl : _ = ([(5, .int (x5 + iI 1)), (4, .int x4), (6, .int (iI 1)), (0, .ref h_p0), (1, .int a1), (2, .int a2), (3, .int a3)] : List (Nat × Value))) (fun ls hl => ?_)
              refine lv_goto (tgt := 6) hx hb dX7_best_79 (by decide) ?_
              exact ih x4 (x5 + iI 1) _ _ hP hD hS ls (lv_sub hl [3, 4, 5, 6, 1, 0] rfl) h
            · have h := ineg c25 h
              refine lv_iload hx hb dX7_best_42 (lv_at hl 5 rfl) ?_
              refine lv_iconst (v := iI (-1)) hx hb dX7_best_44 rfl ?_
              refine lv_icmp_eq (tgt := 67) hx hb dX7_best_45 (by decide) (fun c26 => ?_) (fun c26 => ?_)
              · have h := ipos c26 h
                refine lv_iload hx hb dX7_best_67 (lv_at hl 6 rfl) ?_
                refine lv_goto (tgt := 74) hx hb dX7_best_69 (by decide) ?_
                refine lv_istore hx hb dX7_best_74 hl (by decide) (rfl : _ = ([(4, .int x5), (6, .int (iI 1)), (0, .ref h_p0), (1, .int a1), (2, .int a2), (3, .int a3), (5, .int x5)] : List (Nat × Value))) (fun ls hl => ?_)
                refine lv_iinc (v := (x5 + iI 1)) hx hb dX7_best_76 hl (k := 6) rfl rfl (by decide) (rfl : _ = ([(5, .int (x5 + iI 1)), (4, .int x5), (6, .int (iI 1)), (0, .ref h_p0), (1, .int a1), (2, .int a2), (3, .int a3)] : List (Nat × Value))) (fun ls hl => ?_)
                refine lv_goto (tgt := 6) hx hb dX7_best_79 (by decide) ?_
                exact ih x5 (x5 + iI 1) _ _ hP hD hS ls (lv_sub hl [3, 4, 5, 6, 1, 0] rfl) h
              · have h := ineg c26 h
                refine lv_aload_n hx hb dX7_best_48 rfl (lv_at hl 1 rfl) ?_
                refine lv_iload hx hb dX7_best_49 (lv_at hl 6 rfl) ?_
                refine lv_iload_n hx hb dX7_best_51 rfl (lv_at hl 2 rfl) ?_
                refine lv_iload_n hx hb dX7_best_52 rfl (lv_at hl 3 rfl) ?_
                obtain ⟨r27, e28, h⟩ := bsome h
                have hPc := sb_P [(h_p0, .inl (cyI, 452, .inl arr_0))] hP [0] rfl
                have hDc := sb_D [(h_p0, .inl (cyI, 452, .inl arr_0))] hD [0] (by decide) rfl
                have hFc := va_free (wc := [(h_p0, .inl (cyI, 452, .inl arr_0))]) hD hS hA [0] rfl
                refine va_calli (va_runS (As := [.ref h_p0, .int x5, .int a1, .int a2]) (rest := []) ⟨hx, hb, hml, hown, hts⟩ (c_X7_wakes l dC dI cyI cyJ cyT h_p0 H.size arr_0 x5 a1 a2 n r27 e28) (va_cwS 4 hts gX7_best_X7_wakes rfl rfl rfl (by decide +kernel) ⟨Nat.le_of_ble_eq_true rfl, Nat.le_of_ble_eq_true rfl⟩) ⟨PRE.blind, PRE.go hK hPc hDc hNW⟩ rfl rfl hl.1 rfl (lv_room (Nat.le_of_ble_eq_true rfl)) dX7_best_53 ⟨Nat.zero_le _, Nat.zero_le _⟩) hS (fun q _ h => hFc q h) hFc (fun z29 u t H locs ht hvm hw hB hz1 hk1 hS => ?_)
                subst z29
                obtain ⟨hP, hD⟩ := va_join (wr := []) (w1 := [(h_p0, .inl (cyI, 452, .inl arr_0))]) hP hD [0] [] rfl rfl (by decide) (by decide) hk1 hFc (WLD.P hB ht) hB.2
                have hP : va_P (dC, dI) vwCl [(h_p0, .inl (cyI, 452, .inl arr_0))] H := hP
                have hD : va_D A [(h_p0, .inl (cyI, 452, .inl arr_0))] := hD
                refine lv_aload_n hx hb dX7_best_56 rfl (lv_at hl 1 rfl) ?_
                refine lv_iload hx hb dX7_best_57 (lv_at hl 5 rfl) ?_
                refine lv_iload_n hx hb dX7_best_59 rfl (lv_at hl 2 rfl) ?_
                refine lv_iload_n hx hb dX7_best_60 rfl (lv_at hl 3 rfl) ?_
                obtain ⟨r30, e31, h⟩ := bsome h
                have hPc := sb_P [(h_p0, .inl (cyI, 452, .inl arr_0))] hP [0] rfl
                have hDc := sb_D [(h_p0, .inl (cyI, 452, .inl arr_0))] hD [0] (by decide) rfl
                have hFc := va_free (wc := [(h_p0, .inl (cyI, 452, .inl arr_0))]) hD hS hA [0] rfl
                refine va_calli (va_runS (As := [.ref h_p0, .int x4, .int a1, .int a2]) (rest := [.int r27]) ⟨hx, hb, hml, hown, hts⟩ (c_X7_wakes l dC dI cyI cyJ cyT h_p0 H.size arr_0 x4 a1 a2 n r30 e31) (va_cwS 4 hts gX7_best_X7_wakes rfl rfl rfl (by decide +kernel) ⟨Nat.le_of_ble_eq_true rfl, Nat.le_of_ble_eq_true rfl⟩) ⟨PRE.blind, PRE.go hK hPc hDc hNW⟩ rfl rfl hl.1 rfl (lv_room (Nat.le_of_ble_eq_true rfl)) dX7_best_61 ⟨Nat.zero_le _, Nat.zero_le _⟩) hS (fun q _ h => hFc q h) hFc (fun z32 u t H locs ht hvm hw hB hz1 hk1 hS => ?_)
                subst z32
                obtain ⟨hP, hD⟩ := va_join (wr := []) (w1 := [(h_p0, .inl (cyI, 452, .inl arr_0))]) hP hD [0] [] rfl rfl (by decide) (by decide) hk1 hFc (WLD.P hB ht) hB.2
                have hP : va_P (dC, dI) vwCl [(h_p0, .inl (cyI, 452, .inl arr_0))] H := hP
                have hD : va_D A [(h_p0, .inl (cyI, 452, .inl arr_0))] := hD
                refine lv_icmp_ge (tgt := 72) hx hb dX7_best_64 (by decide) (fun c33 => ?_) (fun c33 => ?_)
                · have h := ipos c33 h
                  refine lv_iload hx hb dX7_best_72 (lv_at hl 5 rfl) ?_
                  refine lv_istore hx hb dX7_best_74 hl (by decide) (rfl : _ = ([(4, .int x4), (6, .int (iI 1)), (0, .ref h_p0), (1, .int a1), (2, .int a2), (3, .int a3), (5, .int x5)] : List (Nat × Value))) (fun ls hl => ?_)
                  refine lv_iinc (v := (x5 + iI 1)) hx hb dX7_best_76 hl (k := 6) rfl rfl (by decide) (rfl : _ = ([(5, .int (x5 + iI 1)), (4, .int x4), (6, .int (iI 1)), (0, .ref h_p0), (1, .int a1), (2, .int a2), (3, .int a3)] : List (Nat × Value))) (fun ls hl => ?_)
                  refine lv_goto (tgt := 6) hx hb dX7_best_79 (by decide) ?_
                  exact ih x4 (x5 + iI 1) _ _ hP hD hS ls (lv_sub hl [3, 4, 5, 6, 1, 0] rfl) h
                · have h := ineg c33 h
                  refine lv_iload hx hb dX7_best_67 (lv_at hl 6 rfl) ?_
                  refine lv_goto (tgt := 74) hx hb dX7_best_69 (by decide) ?_
                  refine lv_istore hx hb dX7_best_74 hl (by decide) (rfl : _ = ([(4, .int x5), (6, .int (iI 1)), (0, .ref h_p0), (1, .int a1), (2, .int a2), (3, .int a3), (5, .int x5)] : List (Nat × Value))) (fun ls hl => ?_)
                  refine lv_iinc (v := (x5 + iI 1)) hx hb dX7_best_76 hl (k := 6) rfl rfl (by decide) (rfl : _ = ([(5, .int (x5 + iI 1)), (4, .int x5), (6, .int (iI 1)), (0, .ref h_p0), (1, .int a1), (2, .int a2), (3, .int a3)] : List (Nat × Value))) (fun ls hl => ?_)
                  refine lv_goto (tgt := 6) hx hb dX7_best_79 (by decide) ?_
                  exact ih x5 (x5 + iI 1) _ _ hP hD hS ls (lv_sub hl [3, 4, 5, 6, 1, 0] rfl) h
  have hl := lv_entry ([.ref h_p0, .int a1, .int a2, .int a3]) (n := 7) (Nat.le_of_ble_eq_true rfl)
  rw [lg_entry_eq]
  generalize (lg_sl ([.ref h_p0, .int a1, .int a2, .int a3]) ++ List.replicate (7 - (lg_sl ([.ref h_p0, .int a1, .int a2, .int a3])).length) Slot.unset).toArray = ls at hl ⊢
  have hl : lv_has ls 7 [(0, .ref h_p0), (1, .int a1), (2, .int a2), (3, .int a3)] := hl
  unfold s_X7_best at h
  refine lv_iconst (v := iI (-1)) hx hb dX7_best_0 rfl ?_
  refine lv_istore hx hb dX7_best_1 hl (by decide) (rfl : _ = ([(4, .int (iI (-1))), (0, .ref h_p0), (1, .int a1), (2, .int a2), (3, .int a3)] : List (Nat × Value))) (fun ls hl => ?_)
  refine lv_iconst (v := iI 0) hx hb dX7_best_3 rfl ?_
  refine lv_istore hx hb dX7_best_4 hl (by decide) (rfl : _ = ([(5, .int (iI 0)), (4, .int (iI (-1))), (0, .ref h_p0), (1, .int a1), (2, .int a2), (3, .int a3)] : List (Nat × Value))) (fun ls hl => ?_)
  exact L6 n (iI (-1)) (iI 0) _ _ hP hD hS ls (lv_sub hl [2, 3, 4, 5, 1, 0] rfl) h
