def s_X7_isHadBehind_L5 (n : Nat) (v_now : Nat → Int32) (a1 : Int32) (a2 : Int32) : Nat → Int32 → Int32 → Option (Int32)
  | 0, _, _ => none
  | k + 1, x3, x4 => (if iI 54 ≤ x4 then ((if zb x3 = true then some (x3) else none)) else (if x3 = 0 then (if (x4 - x4 / iI 9 * iI 9) < a2 then (s_X7_isHadBehind_L5 n v_now a1 a2 k (iI 0) (x4 + iI 1)) else ((s_X7_holds v_now ((iI 6 * a1) + (x4 / iI 9)) (x4 - x4 / iI 9 * iI 9)).bind fun r5 => (if r5 = iI (-1) then (s_X7_isHadBehind_L5 n v_now a1 a2 k (iI 0) (x4 + iI 1)) else (s_X7_isHadBehind_L5 n v_now a1 a2 k (iI 1) (x4 + iI 1))))) else (s_X7_isHadBehind_L5 n v_now a1 a2 k (iI 1) (x4 + iI 1))))
def s_X7_isHadBehind (n : Nat) (v_now : Nat → Int32) (a1 : Int32) (a2 : Int32) : Option (Int32) := (s_X7_isHadBehind_L5 n v_now a1 a2 n (iI 0) (iI 0))
set_option maxRecDepth 20000 in
theorem m_X7_isHadBehind_0 : ∀ w ∈ u_ws RX7 TX7 15, w ∈ wsX7_isHadBehind := by decide +kernel
set_option maxRecDepth 20000 in
theorem m_X7_isHadBehind_1 : (.fieldLink RX7 7 "SleeperBerthsModel" "now" "[I" : Cond) ∈ wsX7_isHadBehind := by decide +kernel
set_option maxHeartbeats 4000000 in
set_option maxRecDepth 100000 in
theorem c_X7_isHadBehind (l : Launch) (dC : Nat → ClassId) (dI : Nat → Nat → Nat) (cyI cyJ cyT : ClassId) (h_p0 : Nat) (h_p0_now : Nat) (h_p0_then : Nat) (h_p0_past : Nat) (h_p0_text : Nat) (h_p0_told : Nat) (sz : Nat) (v_kept : Int32) (v_typed : Int32) (v_thrown : Int32) (v_at : Int32) (v_isFault : Int32) (v_tolds : Int32) (v_one : Int32) (v_other : Int32) (v_change : Int32) (v_woken : Int32) (v_now : Nat → Int32) (a1 : Int32) (a2 : Int32) (n : Nat) (o : Int32) (h : s_X7_isHadBehind n v_now a1 a2 = some o) : Met l yX7_isHadBehind wsX7_isHadBehind ({ frames := 1, cells := 0, slots := 0, locals := 22 }) (va_Pc [.ref h_p0, .int a1, .int a2] (PRE (dC, dI) (TYS cyI cyJ cyT) sz [(h_p0, .inr (7, [.ref h_p0_now, .ref h_p0_then, .ref h_p0_past, .int v_kept, .ref h_p0_text, .int v_typed, .int v_thrown, .int v_at, .int v_isFault, .ref h_p0_told, .int v_tolds, .int v_one, .int v_other, .int v_change, .int v_woken])), (h_p0_now, .inl (cyI, 452, .inl v_now))])) (va_Qi (S := Unit) (fun r _ => r = o) (fun _ t => WLD (dC, dI) (va_A [(h_p0, .inr (7, [.ref h_p0_now, .ref h_p0_then, .ref h_p0_past, .int v_kept, .ref h_p0_text, .int v_typed, .int v_thrown, .int v_at, .int v_isFault, .ref h_p0_told, .int v_tolds, .int v_one, .int v_other, .int v_change, .int v_woken])), (h_p0_now, .inl (cyI, 452, .inl v_now))] sz) [(h_p0, .inr (7, [.ref h_p0_now, .ref h_p0_then, .ref h_p0_past, .int v_kept, .ref h_p0_text, .int v_typed, .int v_thrown, .int v_at, .int v_isFault, .ref h_p0_told, .int v_tolds, .int v_one, .int v_other, .int v_change, .int v_woken])), (h_p0_now, .inl (cyI, 452, .inl v_now))] t) (va_A [(h_p0, .inr (7, [.ref h_p0_now, .ref h_p0_then, .ref h_p0_past, .int v_kept, .ref h_p0_text, .int v_typed, .int v_thrown, .int v_at, .int v_isFault, .ref h_p0_told, .int v_tolds, .int v_one, .int v_other, .int v_change, .int v_woken])), (h_p0_now, .inl (cyI, 452, .inl v_now))] sz)) 0 0 (va_A [(h_p0, .inr (7, [.ref h_p0_now, .ref h_p0_then, .ref h_p0_past, .int v_kept, .ref h_p0_text, .int v_typed, .int v_thrown, .int v_at, .int v_isFault, .ref h_p0_told, .int v_tolds, .int v_one, .int v_other, .int v_change, .int v_woken])), (h_p0_now, .inl (cyI, 452, .inl v_now))] sz) := by
  refine Met.ofW (cc := cX7_isHadBehind) (maxL := 5) (ret := (some .boolean)) (by decide) rfl ?_
  intro p e s m args below meth c s₁ B hml hv
  obtain ⟨rfl, hsz, hP, hK, hD0, hNW⟩ := hv
  have hx := B.exec
  have hb := B.bytes
  have hr := B.returns
  have hts := atoms_spec (ws := wsX7_isHadBehind) B.pre
  have hown : s.vm.findClass RX7 = some m.cls := findClass_of_methodNamed B.named
  have hlocks := B.notSynchronized
  subst hsz
  have hD := hD0.self (sz := s.heap.size)
  generalize hAe : va_A [(h_p0, .inr (7, [.ref h_p0_now, .ref h_p0_then, .ref h_p0_past, .int v_kept, .ref h_p0_text, .int v_typed, .int v_thrown, .int v_at, .int v_isFault, .ref h_p0_told, .int v_tolds, .int v_one, .int v_other, .int v_change, .int v_woken])), (h_p0_now, .inl (cyI, 452, .inl v_now))] s.heap.size = A at hD ⊢
  have hA : ∀ q : Nat, s.heap.size ≤ q → A q := fun q h => by rw [← hAe]; exact Or.inr h
  have hS : va_S A s.heap s.heap [] := va_S.rf
  have hP : va_P (dC, dI) vwCl [(h_p0, .inr (7, [.ref h_p0_now, .ref h_p0_then, .ref h_p0_past, .int v_kept, .ref h_p0_text, .int v_typed, .int v_thrown, .int v_at, .int v_isFault, .ref h_p0_told, .int v_tolds, .int v_one, .int v_other, .int v_change, .int v_woken])), (h_p0_now, .inl (cyI, 452, .inl v_now))] s.heap := hP
  have L5 : ∀ (k : Nat), (∀ (x3 : Int32) (x4 : Int32) (H : Heap) (locs : List Loc), va_P (dC, dI) vwCl [(h_p0, .inr (7, [.ref h_p0_now, .ref h_p0_then, .ref h_p0_past, .int v_kept, .ref h_p0_text, .int v_typed, .int v_thrown, .int v_at, .int v_isFault, .ref h_p0_told, .int v_tolds, .int v_one, .int v_other, .int v_change, .int v_woken])), (h_p0_now, .inl (cyI, 452, .inl v_now))] H → va_D A [(h_p0, .inr (7, [.ref h_p0_now, .ref h_p0_then, .ref h_p0_past, .int v_kept, .ref h_p0_text, .int v_typed, .int v_thrown, .int v_at, .int v_isFault, .ref h_p0_told, .int v_tolds, .int v_one, .int v_other, .int v_change, .int v_woken])), (h_p0_now, .inl (cyI, 452, .inl v_now))] → va_S A s.heap H locs → ∀ (ls : Array Slot), lv_has ls 5 [(0, .ref h_p0), (1, .int a1), (2, .int a2), (3, .int x3), (4, .int x4)] →  s_X7_isHadBehind_L5 n v_now a1 a2 k x3 x4 = some o → W p l e (headSpec wsX7_isHadBehind ({ frames := 1, cells := 0, slots := 0, locals := 22 })).room s m (([.ref h_p0, .int a1, .int a2] : List Value).toArray) below meth c H locs 0 0 (MQ below (va_Qi (S := Unit) (fun r _ => r = o) (fun _ t => WLD (dC, dI) A [(h_p0, .inr (7, [.ref h_p0_now, .ref h_p0_then, .ref h_p0_past, .int v_kept, .ref h_p0_text, .int v_typed, .int v_thrown, .int v_at, .int v_isFault, .ref h_p0_told, .int v_tolds, .int v_one, .int v_other, .int v_change, .int v_woken])), (h_p0_now, .inl (cyI, 452, .inl v_now))] t) A) (([.ref h_p0, .int a1, .int a2] : List Value).toArray) s 0 0 A) (F0 m 5 ls [])) := by
    intro k
    induction k with
    | zero =>
      intro  x3 x4 H locs hP hD hS ls hl h
      rw [s_X7_isHadBehind_L5] at h
      cases h
    | succ k ih =>
      intro  x3 x4 H locs hP hD hS ls hl h
      rw [s_X7_isHadBehind_L5] at h
      refine lv_iload hx hb dX7_isHadBehind_5 (lv_at hl 4 rfl) ?_
      refine lv_bipush (v := iI 54) hx hb dX7_isHadBehind_7 (by decide) ?_
      refine lv_icmp_ge (tgt := 63) hx hb dX7_isHadBehind_9 (by decide) (fun c1 => ?_) (fun c1 => ?_)
      · have h := ipos c1 h
        refine lv_iload_n hx hb dX7_isHadBehind_63 rfl (lv_at hl 3 rfl) ?_
        obtain ⟨g2, h⟩ := zsome h
        obtain rfl := Option.some.inj h
        exact W.zret (v := x3) hx hb hr (zb_nar g2) (fun t ht hW => ⟨⟨x3, (), rfl, rfl, WLD.of ht hP hD⟩, hS.F ht⟩) hS.2.2 dX7_isHadBehind_64
      · have h := ineg c1 h
        refine lv_iload_n hx hb dX7_isHadBehind_12 rfl (lv_at hl 3 rfl) ?_
        refine lv_if_ne (tgt := 51) hx hb dX7_isHadBehind_13 (by decide) (fun c3 => ?_) (fun c3 => ?_)
        · have h := ineg c3 h
          refine lv_iconst (v := iI 1) hx hb dX7_isHadBehind_51 rfl ?_
          refine lv_goto (tgt := 56) hx hb dX7_isHadBehind_52 (by decide) ?_
          refine lv_istore_n hx hb dX7_isHadBehind_56 rfl hl (by decide) (rfl : _ = ([(3, .int (iI 1)), (0, .ref h_p0), (1, .int a1), (2, .int a2), (4, .int x4)] : List (Nat × Value))) (fun ls hl => ?_)
          refine lv_iinc (v := (x4 + iI 1)) hx hb dX7_isHadBehind_57 hl (k := 4) rfl rfl (by decide) (rfl : _ = ([(4, .int (x4 + iI 1)), (3, .int (iI 1)), (0, .ref h_p0), (1, .int a1), (2, .int a2)] : List (Nat × Value))) (fun ls hl => ?_)
          refine lv_goto (tgt := 5) hx hb dX7_isHadBehind_60 (by decide) ?_
          exact ih (iI 1) (x4 + iI 1) _ _ hP hD hS ls (lv_sub hl [2, 3, 4, 1, 0] rfl) h
        · have h := ipos c3 h
          refine lv_iload hx hb dX7_isHadBehind_16 (lv_at hl 4 rfl) ?_
          refine lv_bipush (v := iI 9) hx hb dX7_isHadBehind_18 (by decide) ?_
          refine lv_irem hx hb dX7_isHadBehind_20 (by decide) ?_
          refine lv_iload_n hx hb dX7_isHadBehind_21 rfl (lv_at hl 2 rfl) ?_
          refine lv_icmp_lt (tgt := 55) hx hb dX7_isHadBehind_22 (by decide) (fun c4 => ?_) (fun c4 => ?_)
          · have h := ipos c4 h
            refine lv_iconst (v := iI 0) hx hb dX7_isHadBehind_55 rfl ?_
            refine lv_istore_n hx hb dX7_isHadBehind_56 rfl hl (by decide) (rfl : _ = ([(3, .int (iI 0)), (0, .ref h_p0), (1, .int a1), (2, .int a2), (4, .int x4)] : List (Nat × Value))) (fun ls hl => ?_)
            refine lv_iinc (v := (x4 + iI 1)) hx hb dX7_isHadBehind_57 hl (k := 4) rfl rfl (by decide) (rfl : _ = ([(4, .int (x4 + iI 1)), (3, .int (iI 0)), (0, .ref h_p0), (1, .int a1), (2, .int a2)] : List (Nat × Value))) (fun ls hl => ?_)
            refine lv_goto (tgt := 5) hx hb dX7_isHadBehind_60 (by decide) ?_
            exact ih (iI 0) (x4 + iI 1) _ _ hP hD hS ls (lv_sub hl [2, 3, 4, 1, 0] rfl) h
          · have h := ineg c4 h
            refine lv_aload_n hx hb dX7_isHadBehind_25 rfl (lv_at hl 0 rfl) ?_
            refine va_get (D := (dC, dI)) (ci := 7) (v := .ref h_p0_now) (C := RX7) (T := TX7) (N := 15) hx hb hts m_X7_isHadBehind_0 hown hK hP 0 rfl rfl 0 (by decide) (hts (.fieldLink RX7 7 "SleeperBerthsModel" "now" "[I") m_X7_isHadBehind_1) (fun _ h9 => h9) rfl dX7_isHadBehind_26 ?_
            refine lv_bipush (v := iI 6) hx hb dX7_isHadBehind_29 (by decide) ?_
            refine lv_iload_n hx hb dX7_isHadBehind_31 rfl (lv_at hl 1 rfl) ?_
            refine lv_imul hx hb dX7_isHadBehind_32 ?_
            refine lv_iload hx hb dX7_isHadBehind_33 (lv_at hl 4 rfl) ?_
            refine lv_bipush (v := iI 9) hx hb dX7_isHadBehind_35 (by decide) ?_
            refine lv_idiv hx hb dX7_isHadBehind_37 (by decide) ?_
            refine lv_iadd hx hb dX7_isHadBehind_38 ?_
            refine lv_iload hx hb dX7_isHadBehind_39 (lv_at hl 4 rfl) ?_
            refine lv_bipush (v := iI 9) hx hb dX7_isHadBehind_41 (by decide) ?_
            refine lv_irem hx hb dX7_isHadBehind_43 (by decide) ?_
            obtain ⟨r5, e6, h⟩ := bsome h
            have hPc := sb_P [(h_p0_now, .inl (cyI, 452, .inl v_now))] hP [1] rfl
            have hDc := sb_D [(h_p0_now, .inl (cyI, 452, .inl v_now))] hD [1] (by decide) rfl
            have hFc := va_free (wc := [(h_p0_now, .inl (cyI, 452, .inl v_now))]) hD hS hA [1] rfl
            refine va_calli (va_runS (As := [.ref h_p0_now, .int ((iI 6 * a1) + (x4 / iI 9)), .int (x4 - x4 / iI 9 * iI 9)]) (rest := []) ⟨hx, hb, hml, hown, hts⟩ (c_X7_holds l dC dI cyI cyJ cyT h_p0_now H.size v_now ((iI 6 * a1) + (x4 / iI 9)) (x4 - x4 / iI 9 * iI 9) r5 e6) (va_cwS 3 hts gX7_isHadBehind_X7_holds rfl rfl rfl (by decide +kernel) ⟨Nat.le_of_ble_eq_true rfl, Nat.le_of_ble_eq_true rfl⟩) ⟨PRE.blind, PRE.go hK hPc hDc hNW⟩ rfl rfl hl.1 rfl (lv_room (Nat.le_of_ble_eq_true rfl)) dX7_isHadBehind_44 ⟨Nat.zero_le _, Nat.zero_le _⟩) hS (fun q _ h => hFc q h) hFc (fun z7 u t H locs ht hvm hw hB hz1 hk1 hS => ?_)
            subst z7
            obtain ⟨hP, hD⟩ := va_join (wr := [(h_p0, .inr (7, [.ref h_p0_now, .ref h_p0_then, .ref h_p0_past, .int v_kept, .ref h_p0_text, .int v_typed, .int v_thrown, .int v_at, .int v_isFault, .ref h_p0_told, .int v_tolds, .int v_one, .int v_other, .int v_change, .int v_woken]))]) (w1 := [(h_p0_now, .inl (cyI, 452, .inl v_now))]) hP hD [1] [0] rfl rfl (by decide) (by decide) hk1 hFc (WLD.P hB ht) hB.2
            have hP : va_P (dC, dI) vwCl [(h_p0, .inr (7, [.ref h_p0_now, .ref h_p0_then, .ref h_p0_past, .int v_kept, .ref h_p0_text, .int v_typed, .int v_thrown, .int v_at, .int v_isFault, .ref h_p0_told, .int v_tolds, .int v_one, .int v_other, .int v_change, .int v_woken])), (h_p0_now, .inl (cyI, 452, .inl v_now))] H := hP
            have hD : va_D A [(h_p0, .inr (7, [.ref h_p0_now, .ref h_p0_then, .ref h_p0_past, .int v_kept, .ref h_p0_text, .int v_typed, .int v_thrown, .int v_at, .int v_isFault, .ref h_p0_told, .int v_tolds, .int v_one, .int v_other, .int v_change, .int v_woken])), (h_p0_now, .inl (cyI, 452, .inl v_now))] := hD
            refine lv_iconst (v := iI (-1)) hx hb dX7_isHadBehind_47 rfl ?_
            refine lv_icmp_eq (tgt := 55) hx hb dX7_isHadBehind_48 (by decide) (fun c8 => ?_) (fun c8 => ?_)
            · have h := ipos c8 h
              refine lv_iconst (v := iI 0) hx hb dX7_isHadBehind_55 rfl ?_
              refine lv_istore_n hx hb dX7_isHadBehind_56 rfl hl (by decide) (rfl : _ = ([(3, .int (iI 0)), (0, .ref h_p0), (1, .int a1), (2, .int a2), (4, .int x4)] : List (Nat × Value))) (fun ls hl => ?_)
              refine lv_iinc (v := (x4 + iI 1)) hx hb dX7_isHadBehind_57 hl (k := 4) rfl rfl (by decide) (rfl : _ = ([(4, .int (x4 + iI 1)), (3, .int (iI 0)), (0, .ref h_p0), (1, .int a1), (2, .int a2)] : List (Nat × Value))) (fun ls hl => ?_)
              refine lv_goto (tgt := 5) hx hb dX7_isHadBehind_60 (by decide) ?_
              exact ih (iI 0) (x4 + iI 1) _ _ hP hD hS ls (lv_sub hl [2, 3, 4, 1, 0] rfl) h
            · have h := ineg c8 h
              refine lv_iconst (v := iI 1) hx hb dX7_isHadBehind_51 rfl ?_
              refine lv_goto (tgt := 56) hx hb dX7_isHadBehind_52 (by decide) ?_
              refine lv_istore_n hx hb dX7_isHadBehind_56 rfl hl (by decide) (rfl : _ = ([(3, .int (iI 1)), (0, .ref h_p0), (1, .int a1), (2, .int a2), (4, .int x4)] : List (Nat × Value))) (fun ls hl => ?_)
              refine lv_iinc (v := (x4 + iI 1)) hx hb dX7_isHadBehind_57 hl (k := 4) rfl rfl (by decide) (rfl : _ = ([(4, .int (x4 + iI 1)), (3, .int (iI 1)), (0, .ref h_p0), (1, .int a1), (2, .int a2)] : List (Nat × Value))) (fun ls hl => ?_)
              refine lv_goto (tgt := 5) hx hb dX7_isHadBehind_60 (by decide) ?_
              exact ih (iI 1) (x4 + iI 1) _ _ hP hD hS ls (lv_sub hl [2, 3, 4, 1, 0] rfl) h
  have hl := lv_entry ([.ref h_p0, .int a1, .int a2]) (n := 5) (Nat.le_of_ble_eq_true rfl)
  rw [lg_entry_eq]
  generalize (lg_sl ([.ref h_p0, .int a1, .int a2]) ++ List.replicate (5 - (lg_sl ([.ref h_p0, .int a1, .int a2])).length) Slot.unset).toArray = ls at hl ⊢
  have hl : lv_has ls 5 [(0, .ref h_p0), (1, .int a1), (2, .int a2)] := hl
  unfold s_X7_isHadBehind at h
  refine lv_iconst (v := iI 0) hx hb dX7_isHadBehind_0 rfl ?_
  refine lv_istore_n hx hb dX7_isHadBehind_1 rfl hl (by decide) (rfl : _ = ([(3, .int (iI 0)), (0, .ref h_p0), (1, .int a1), (2, .int a2)] : List (Nat × Value))) (fun ls hl => ?_)
  refine lv_iconst (v := iI 0) hx hb dX7_isHadBehind_2 rfl ?_
  refine lv_istore hx hb dX7_isHadBehind_3 hl (by decide) (rfl : _ = ([(4, .int (iI 0)), (3, .int (iI 0)), (0, .ref h_p0), (1, .int a1), (2, .int a2)] : List (Nat × Value))) (fun ls hl => ?_)
  exact L5 n (iI 0) (iI 0) _ _ hP hD hS ls (lv_sub hl [2, 3, 4, 1, 0] rfl) h
def s_X7_changes (v_now : Nat → Int32) (a1 : Int32) (a2 : Int32) : Option (Int32 × (Nat → Int32)) := (if gd a1 452 = true then (if gd a1 452 = true then (some ((v_now a1.toNatClampNeg), (upd v_now a1.toNatClampNeg a2))) else none) else none)
set_option maxRecDepth 20000 in
theorem m_X7_changes_0 : ∀ w ∈ u_ws RX7 TX7 15, w ∈ wsX7_changes := by decide +kernel
set_option maxRecDepth 20000 in
theorem m_X7_changes_1 : (.fieldLink RX7 7 "SleeperBerthsModel" "now" "[I" : Cond) ∈ wsX7_changes := by decide +kernel
set_option maxHeartbeats 4000000 in
set_option maxRecDepth 100000 in
theorem c_X7_changes (l : Launch) (dC : Nat → ClassId) (dI : Nat → Nat → Nat) (cyI cyJ cyT : ClassId) (h_p0 : Nat) (h_p0_now : Nat) (h_p0_then : Nat) (h_p0_past : Nat) (h_p0_text : Nat) (h_p0_told : Nat) (sz : Nat) (v_kept : Int32) (v_typed : Int32) (v_thrown : Int32) (v_at : Int32) (v_isFault : Int32) (v_tolds : Int32) (v_one : Int32) (v_other : Int32) (v_change : Int32) (v_woken : Int32) (v_now : Nat → Int32) (a1 : Int32) (a2 : Int32) (o : Int32 × (Nat → Int32)) (h : s_X7_changes v_now a1 a2 = some o) : Met l yX7_changes wsX7_changes ({ frames := 0, cells := 0, slots := 0, locals := 0 }) (va_Pc [.ref h_p0, .int a1, .int a2] (PRE (dC, dI) (TYS cyI cyJ cyT) sz [(h_p0, .inr (7, [.ref h_p0_now, .ref h_p0_then, .ref h_p0_past, .int v_kept, .ref h_p0_text, .int v_typed, .int v_thrown, .int v_at, .int v_isFault, .ref h_p0_told, .int v_tolds, .int v_one, .int v_other, .int v_change, .int v_woken])), (h_p0_now, .inl (cyI, 452, .inl v_now))])) (va_Qi (S := Unit) (fun r _ => r = o.1) (fun _ t => WLD (dC, dI) (va_A [(h_p0, .inr (7, [.ref h_p0_now, .ref h_p0_then, .ref h_p0_past, .int v_kept, .ref h_p0_text, .int v_typed, .int v_thrown, .int v_at, .int v_isFault, .ref h_p0_told, .int v_tolds, .int v_one, .int v_other, .int v_change, .int v_woken])), (h_p0_now, .inl (cyI, 452, .inl v_now))] sz) [(h_p0, .inr (7, [.ref h_p0_now, .ref h_p0_then, .ref h_p0_past, .int v_kept, .ref h_p0_text, .int v_typed, .int v_thrown, .int v_at, .int v_isFault, .ref h_p0_told, .int v_tolds, .int v_one, .int v_other, .int v_change, .int v_woken])), (h_p0_now, .inl (cyI, 452, .inl o.2))] t) (va_A [(h_p0, .inr (7, [.ref h_p0_now, .ref h_p0_then, .ref h_p0_past, .int v_kept, .ref h_p0_text, .int v_typed, .int v_thrown, .int v_at, .int v_isFault, .ref h_p0_told, .int v_tolds, .int v_one, .int v_other, .int v_change, .int v_woken])), (h_p0_now, .inl (cyI, 452, .inl v_now))] sz)) 0 0 (va_A [(h_p0, .inr (7, [.ref h_p0_now, .ref h_p0_then, .ref h_p0_past, .int v_kept, .ref h_p0_text, .int v_typed, .int v_thrown, .int v_at, .int v_isFault, .ref h_p0_told, .int v_tolds, .int v_one, .int v_other, .int v_change, .int v_woken])), (h_p0_now, .inl (cyI, 452, .inl v_now))] sz) := by
  refine Met.ofW (cc := cX7_changes) (maxL := 4) (ret := (some .int)) (by decide) rfl ?_
  intro p e s m args below meth c s₁ B hml hv
  obtain ⟨rfl, hsz, hP, hK, hD0, hNW⟩ := hv
  have hx := B.exec
  have hb := B.bytes
  have hr := B.returns
  have hts := atoms_spec (ws := wsX7_changes) B.pre
  have hown : s.vm.findClass RX7 = some m.cls := findClass_of_methodNamed B.named
  have hlocks := B.notSynchronized
  subst hsz
  have hD := hD0.self (sz := s.heap.size)
  generalize hAe : va_A [(h_p0, .inr (7, [.ref h_p0_now, .ref h_p0_then, .ref h_p0_past, .int v_kept, .ref h_p0_text, .int v_typed, .int v_thrown, .int v_at, .int v_isFault, .ref h_p0_told, .int v_tolds, .int v_one, .int v_other, .int v_change, .int v_woken])), (h_p0_now, .inl (cyI, 452, .inl v_now))] s.heap.size = A at hD ⊢
  have hA : ∀ q : Nat, s.heap.size ≤ q → A q := fun q h => by rw [← hAe]; exact Or.inr h
  have hS : va_S A s.heap s.heap [] := va_S.rf
  have hP : va_P (dC, dI) vwCl [(h_p0, .inr (7, [.ref h_p0_now, .ref h_p0_then, .ref h_p0_past, .int v_kept, .ref h_p0_text, .int v_typed, .int v_thrown, .int v_at, .int v_isFault, .ref h_p0_told, .int v_tolds, .int v_one, .int v_other, .int v_change, .int v_woken])), (h_p0_now, .inl (cyI, 452, .inl v_now))] s.heap := hP
  have hl := lv_entry ([.ref h_p0, .int a1, .int a2]) (n := 4) (Nat.le_of_ble_eq_true rfl)
  rw [lg_entry_eq]
  generalize (lg_sl ([.ref h_p0, .int a1, .int a2]) ++ List.replicate (4 - (lg_sl ([.ref h_p0, .int a1, .int a2])).length) Slot.unset).toArray = ls at hl ⊢
  have hl : lv_has ls 4 [(0, .ref h_p0), (1, .int a1), (2, .int a2)] := hl
  unfold s_X7_changes at h
  refine lv_aload_n hx hb dX7_changes_0 rfl (lv_at hl 0 rfl) ?_
  refine va_get (D := (dC, dI)) (ci := 7) (v := .ref h_p0_now) (C := RX7) (T := TX7) (N := 15) hx hb hts m_X7_changes_0 hown hK hP 0 rfl rfl 0 (by decide) (hts (.fieldLink RX7 7 "SleeperBerthsModel" "now" "[I") m_X7_changes_1) (fun _ h9 => h9) rfl dX7_changes_1 ?_
  refine lv_iload_n hx hb dX7_changes_4 rfl (lv_at hl 1 rfl) ?_
  obtain ⟨g1, h⟩ := gsome h
  refine va_iald (D := (dC, dI)) hx hb hK hP 1 0 rfl rfl g1 dX7_changes_5 ?_
  refine lv_istore_n hx hb dX7_changes_6 rfl hl (by decide) (rfl : _ = ([(3, .int (v_now a1.toNatClampNeg)), (0, .ref h_p0), (1, .int a1), (2, .int a2)] : List (Nat × Value))) (fun ls hl => ?_)
  refine lv_aload_n hx hb dX7_changes_7 rfl (lv_at hl 1 rfl) ?_
  refine va_get (D := (dC, dI)) (ci := 7) (v := .ref h_p0_now) (C := RX7) (T := TX7) (N := 15) hx hb hts m_X7_changes_0 hown hK hP 0 rfl rfl 0 (by decide) (hts (.fieldLink RX7 7 "SleeperBerthsModel" "now" "[I") m_X7_changes_1) (fun _ h9 => h9) rfl dX7_changes_8 ?_
  refine lv_iload_n hx hb dX7_changes_11 rfl (lv_at hl 2 rfl) ?_
  refine lv_iload_n hx hb dX7_changes_12 rfl (lv_at hl 3 rfl) ?_
  obtain ⟨g2, h⟩ := gsome h
  refine va_iast (D := (dC, dI)) hx hb hK hP hD hS 1 0 rfl rfl g2 dX7_changes_13 (fun H locs hP hD hS => ?_)
  have hP : va_P (dC, dI) vwCl [(h_p0, .inr (7, [.ref h_p0_now, .ref h_p0_then, .ref h_p0_past, .int v_kept, .ref h_p0_text, .int v_typed, .int v_thrown, .int v_at, .int v_isFault, .ref h_p0_told, .int v_tolds, .int v_one, .int v_other, .int v_change, .int v_woken])), (h_p0_now, .inl (cyI, 452, .inl (upd v_now a1.toNatClampNeg a2)))] H := hP
  have hD : va_D A [(h_p0, .inr (7, [.ref h_p0_now, .ref h_p0_then, .ref h_p0_past, .int v_kept, .ref h_p0_text, .int v_typed, .int v_thrown, .int v_at, .int v_isFault, .ref h_p0_told, .int v_tolds, .int v_one, .int v_other, .int v_change, .int v_woken])), (h_p0_now, .inl (cyI, 452, .inl (upd v_now a1.toNatClampNeg a2)))] := hD
  refine lv_iload_n hx hb dX7_changes_14 rfl (lv_at hl 0 rfl) ?_
  obtain rfl := Option.some.inj h
  exact W.iret (v := (v_now a1.toNatClampNeg)) hx hb hr (fun t ht hW => ⟨⟨(v_now a1.toNatClampNeg), (), rfl, rfl, WLD.of ht hP hD⟩, hS.F ht⟩) hS.2.2 dX7_changes_15
def s_X7_cut (n : Nat) (v_kept : Int32) (v_thrown : Int32) (v_now : Nat → Int32) (v_past : Nat → Int32) (a1 : Int32) (a2 : Int32) : Option (Int32 × Int32 × Int32 × (Nat → Int32) × (Nat → Int32)) := ((s_X7_in a1 (iI 0) (iI 2)).bind fun r1 => (if r1 = 0 then ((s_X7_fails (iI 0) (iI 1)).bind fun r25 => (some (r25.1, v_kept, r25.2, v_now, v_past))) else ((s_X7_in a2 (iI 1) (iI 9)).bind fun r5 => (if r5 = 0 then ((s_X7_fails (iI 0) (iI 2)).bind fun r22 => (some (r22.1, v_kept, r22.2, v_now, v_past))) else ((s_X7_isHadBehind n v_now a1 a2).bind fun r9 => (if r9 = 0 then ((s_X7_saves n v_kept v_now v_past).bind fun r13 => ((s_X7_changes v_now (iI 3 + a1) a2).bind fun r16 => (some (r16.1, r13.1, iI 0, r16.2, r13.2)))) else ((s_X7_fails (iI 0) (iI 3)).bind fun r19 => (some (r19.1, v_kept, r19.2, v_now, v_past)))))))))
set_option maxRecDepth 20000 in
theorem m_X7_cut_0 : ∀ w ∈ u_ws RX7 TX7 15, w ∈ wsX7_cut := by decide +kernel
set_option maxRecDepth 20000 in
theorem m_X7_cut_1 : (.fieldLink RX7 25 "SleeperBerthsModel" "thrown" "I" : Cond) ∈ wsX7_cut := by decide +kernel
set_option maxHeartbeats 4000000 in
set_option maxRecDepth 100000 in
theorem c_X7_cut (l : Launch) (dC : Nat → ClassId) (dI : Nat → Nat → Nat) (cyI cyJ cyT : ClassId) (h_p0 : Nat) (h_p0_now : Nat) (h_p0_then : Nat) (h_p0_past : Nat) (h_p0_text : Nat) (h_p0_told : Nat) (sz : Nat) (v_kept : Int32) (v_typed : Int32) (v_thrown : Int32) (v_at : Int32) (v_isFault : Int32) (v_tolds : Int32) (v_one : Int32) (v_other : Int32) (v_change : Int32) (v_woken : Int32) (v_now : Nat → Int32) (v_past : Nat → Int32) (a1 : Int32) (a2 : Int32) (n : Nat) (o : Int32 × Int32 × Int32 × (Nat → Int32) × (Nat → Int32)) (h : s_X7_cut n v_kept v_thrown v_now v_past a1 a2 = some o) : Met l yX7_cut wsX7_cut ({ frames := 2, cells := 0, slots := 0, locals := 46 }) (va_Pc [.ref h_p0, .int a1, .int a2] (PRE (dC, dI) (TYS cyI cyJ cyT) sz [(h_p0, .inr (7, [.ref h_p0_now, .ref h_p0_then, .ref h_p0_past, .int v_kept, .ref h_p0_text, .int v_typed, .int v_thrown, .int v_at, .int v_isFault, .ref h_p0_told, .int v_tolds, .int v_one, .int v_other, .int v_change, .int v_woken])), (h_p0_now, .inl (cyI, 452, .inl v_now)), (h_p0_past, .inl (cyI, 2712, .inl v_past))])) (va_Qi (S := Unit) (fun r _ => r = o.1) (fun _ t => WLD (dC, dI) (va_A [(h_p0, .inr (7, [.ref h_p0_now, .ref h_p0_then, .ref h_p0_past, .int v_kept, .ref h_p0_text, .int v_typed, .int v_thrown, .int v_at, .int v_isFault, .ref h_p0_told, .int v_tolds, .int v_one, .int v_other, .int v_change, .int v_woken])), (h_p0_now, .inl (cyI, 452, .inl v_now)), (h_p0_past, .inl (cyI, 2712, .inl v_past))] sz) [(h_p0, .inr (7, [.ref h_p0_now, .ref h_p0_then, .ref h_p0_past, .int o.2.1, .ref h_p0_text, .int v_typed, .int o.2.2.1, .int v_at, .int v_isFault, .ref h_p0_told, .int v_tolds, .int v_one, .int v_other, .int v_change, .int v_woken])), (h_p0_now, .inl (cyI, 452, .inl o.2.2.2.1)), (h_p0_past, .inl (cyI, 2712, .inl o.2.2.2.2))] t) (va_A [(h_p0, .inr (7, [.ref h_p0_now, .ref h_p0_then, .ref h_p0_past, .int v_kept, .ref h_p0_text, .int v_typed, .int v_thrown, .int v_at, .int v_isFault, .ref h_p0_told, .int v_tolds, .int v_one, .int v_other, .int v_change, .int v_woken])), (h_p0_now, .inl (cyI, 452, .inl v_now)), (h_p0_past, .inl (cyI, 2712, .inl v_past))] sz)) 0 0 (va_A [(h_p0, .inr (7, [.ref h_p0_now, .ref h_p0_then, .ref h_p0_past, .int v_kept, .ref h_p0_text, .int v_typed, .int v_thrown, .int v_at, .int v_isFault, .ref h_p0_told, .int v_tolds, .int v_one, .int v_other, .int v_change, .int v_woken])), (h_p0_now, .inl (cyI, 452, .inl v_now)), (h_p0_past, .inl (cyI, 2712, .inl v_past))] sz) := by
  refine Met.ofW (cc := cX7_cut) (maxL := 3) (ret := (some .int)) (by decide) rfl ?_
  intro p e s m args below meth c s₁ B hml hv
  obtain ⟨rfl, hsz, hP, hK, hD0, hNW⟩ := hv
  have hx := B.exec
  have hb := B.bytes
  have hr := B.returns
  have hts := atoms_spec (ws := wsX7_cut) B.pre
  have hown : s.vm.findClass RX7 = some m.cls := findClass_of_methodNamed B.named
  have hlocks := B.notSynchronized
  subst hsz
  have hD := hD0.self (sz := s.heap.size)
  generalize hAe : va_A [(h_p0, .inr (7, [.ref h_p0_now, .ref h_p0_then, .ref h_p0_past, .int v_kept, .ref h_p0_text, .int v_typed, .int v_thrown, .int v_at, .int v_isFault, .ref h_p0_told, .int v_tolds, .int v_one, .int v_other, .int v_change, .int v_woken])), (h_p0_now, .inl (cyI, 452, .inl v_now)), (h_p0_past, .inl (cyI, 2712, .inl v_past))] s.heap.size = A at hD ⊢
  have hA : ∀ q : Nat, s.heap.size ≤ q → A q := fun q h => by rw [← hAe]; exact Or.inr h
  have hS : va_S A s.heap s.heap [] := va_S.rf
  have hP : va_P (dC, dI) vwCl [(h_p0, .inr (7, [.ref h_p0_now, .ref h_p0_then, .ref h_p0_past, .int v_kept, .ref h_p0_text, .int v_typed, .int v_thrown, .int v_at, .int v_isFault, .ref h_p0_told, .int v_tolds, .int v_one, .int v_other, .int v_change, .int v_woken])), (h_p0_now, .inl (cyI, 452, .inl v_now)), (h_p0_past, .inl (cyI, 2712, .inl v_past))] s.heap := hP
  have hl := lv_entry ([.ref h_p0, .int a1, .int a2]) (n := 3) (Nat.le_of_ble_eq_true rfl)
  rw [lg_entry_eq]
  generalize (lg_sl ([.ref h_p0, .int a1, .int a2]) ++ List.replicate (3 - (lg_sl ([.ref h_p0, .int a1, .int a2])).length) Slot.unset).toArray = ls at hl ⊢
  have hl : lv_has ls 3 [(0, .ref h_p0), (1, .int a1), (2, .int a2)] := hl
  unfold s_X7_cut at h
  refine lv_aload_n hx hb dX7_cut_0 rfl (lv_at hl 0 rfl) ?_
  refine lv_iconst (v := iI 0) hx hb dX7_cut_1 rfl ?_
  refine va_put (D := (dC, dI)) (ci := 7) (v := .int (iI 0)) (ty := .int) (C := RX7) (T := TX7) (N := 15) hx hb hts m_X7_cut_0 tyX7 tyX7_ok nmX7 hown hK hP hD hS 0 rfl rfl 6 (by decide) (hts (.fieldLink RX7 25 "SleeperBerthsModel" "thrown" "I") m_X7_cut_1) (fun _ h9 => h9) rfl (by decide +kernel) rfl rfl (Nat.le_of_ble_eq_true rfl) dX7_cut_2 (fun H locs hP hD hS => ?_)
  have hP : va_P (dC, dI) vwCl [(h_p0, .inr (7, [.ref h_p0_now, .ref h_p0_then, .ref h_p0_past, .int v_kept, .ref h_p0_text, .int v_typed, .int (iI 0), .int v_at, .int v_isFault, .ref h_p0_told, .int v_tolds, .int v_one, .int v_other, .int v_change, .int v_woken])), (h_p0_now, .inl (cyI, 452, .inl v_now)), (h_p0_past, .inl (cyI, 2712, .inl v_past))] H := hP
  have hD : va_D A [(h_p0, .inr (7, [.ref h_p0_now, .ref h_p0_then, .ref h_p0_past, .int v_kept, .ref h_p0_text, .int v_typed, .int (iI 0), .int v_at, .int v_isFault, .ref h_p0_told, .int v_tolds, .int v_one, .int v_other, .int v_change, .int v_woken])), (h_p0_now, .inl (cyI, 452, .inl v_now)), (h_p0_past, .inl (cyI, 2712, .inl v_past))] := hD
  refine lv_iload_n hx hb dX7_cut_5 rfl (lv_at hl 1 rfl) ?_
  refine lv_iconst (v := iI 0) hx hb dX7_cut_6 rfl ?_
  refine lv_iconst (v := iI 2) hx hb dX7_cut_7 rfl ?_
  obtain ⟨r1, e2, h⟩ := bsome h
  have hPc := sb_P [] hP [] rfl
  have hDc := sb_D [] hD [] (by decide) rfl
  have hFc := va_free (wc := []) hD hS hA [] rfl
  refine va_calli (va_runS (As := [.int a1, .int (iI 0), .int (iI 2)]) (rest := []) ⟨hx, hb, hml, hown, hts⟩ (c_X7_in l dC dI cyI cyJ cyT H.size a1 (iI 0) (iI 2) r1 e2) (va_cwS 3 hts gX7_cut_X7_in rfl rfl rfl (by decide +kernel) ⟨Nat.le_of_ble_eq_true rfl, Nat.le_of_ble_eq_true rfl⟩) ⟨PRE.blind, PRE.go hK hPc hDc hNW⟩ rfl rfl hl.1 rfl (lv_room (Nat.le_of_ble_eq_true rfl)) dX7_cut_8 ⟨Nat.zero_le _, Nat.zero_le _⟩) hS (fun q _ h => hFc q h) hFc (fun z3 u t H locs ht hvm hw hB hz1 hk1 hS => ?_)
  subst z3
  obtain ⟨hP, hD⟩ := va_join (wr := [(h_p0, .inr (7, [.ref h_p0_now, .ref h_p0_then, .ref h_p0_past, .int v_kept, .ref h_p0_text, .int v_typed, .int (iI 0), .int v_at, .int v_isFault, .ref h_p0_told, .int v_tolds, .int v_one, .int v_other, .int v_change, .int v_woken])), (h_p0_now, .inl (cyI, 452, .inl v_now)), (h_p0_past, .inl (cyI, 2712, .inl v_past))]) (w1 := []) hP hD [] [0, 1, 2] rfl rfl (by decide) (by decide) hk1 hFc (WLD.P hB ht) hB.2
  have hP : va_P (dC, dI) vwCl [(h_p0, .inr (7, [.ref h_p0_now, .ref h_p0_then, .ref h_p0_past, .int v_kept, .ref h_p0_text, .int v_typed, .int (iI 0), .int v_at, .int v_isFault, .ref h_p0_told, .int v_tolds, .int v_one, .int v_other, .int v_change, .int v_woken])), (h_p0_now, .inl (cyI, 452, .inl v_now)), (h_p0_past, .inl (cyI, 2712, .inl v_past))] H := hP
  have hD : va_D A [(h_p0, .inr (7, [.ref h_p0_now, .ref h_p0_then, .ref h_p0_past, .int v_kept, .ref h_p0_text, .int v_typed, .int (iI 0), .int v_at, .int v_isFault, .ref h_p0_told, .int v_tolds, .int v_one, .int v_other, .int v_change, .int v_woken])), (h_p0_now, .inl (cyI, 452, .inl v_now)), (h_p0_past, .inl (cyI, 2712, .inl v_past))] := hD
  refine lv_if_ne (tgt := 20) hx hb dX7_cut_11 (by decide) (fun c4 => ?_) (fun c4 => ?_)
  · have h := ineg c4 h
    refine lv_iload_n hx hb dX7_cut_20 rfl (lv_at hl 2 rfl) ?_
    refine lv_iconst (v := iI 1) hx hb dX7_cut_21 rfl ?_
    refine lv_bipush (v := iI 9) hx hb dX7_cut_22 (by decide) ?_
    obtain ⟨r5, e6, h⟩ := bsome h
    have hPc := sb_P [] hP [] rfl
    have hDc := sb_D [] hD [] (by decide) rfl
    have hFc := va_free (wc := []) hD hS hA [] rfl
    refine va_calli (va_runS (As := [.int a2, .int (iI 1), .int (iI 9)]) (rest := []) ⟨hx, hb, hml, hown, hts⟩ (c_X7_in l dC dI cyI cyJ cyT H.size a2 (iI 1) (iI 9) r5 e6) (va_cwS 3 hts gX7_cut_X7_in rfl rfl rfl (by decide +kernel) ⟨Nat.le_of_ble_eq_true rfl, Nat.le_of_ble_eq_true rfl⟩) ⟨PRE.blind, PRE.go hK hPc hDc hNW⟩ rfl rfl hl.1 rfl (lv_room (Nat.le_of_ble_eq_true rfl)) dX7_cut_24 ⟨Nat.zero_le _, Nat.zero_le _⟩) hS (fun q _ h => hFc q h) hFc (fun z7 u t H locs ht hvm hw hB hz1 hk1 hS => ?_)
    subst z7
    obtain ⟨hP, hD⟩ := va_join (wr := [(h_p0, .inr (7, [.ref h_p0_now, .ref h_p0_then, .ref h_p0_past, .int v_kept, .ref h_p0_text, .int v_typed, .int (iI 0), .int v_at, .int v_isFault, .ref h_p0_told, .int v_tolds, .int v_one, .int v_other, .int v_change, .int v_woken])), (h_p0_now, .inl (cyI, 452, .inl v_now)), (h_p0_past, .inl (cyI, 2712, .inl v_past))]) (w1 := []) hP hD [] [0, 1, 2] rfl rfl (by decide) (by decide) hk1 hFc (WLD.P hB ht) hB.2
    have hP : va_P (dC, dI) vwCl [(h_p0, .inr (7, [.ref h_p0_now, .ref h_p0_then, .ref h_p0_past, .int v_kept, .ref h_p0_text, .int v_typed, .int (iI 0), .int v_at, .int v_isFault, .ref h_p0_told, .int v_tolds, .int v_one, .int v_other, .int v_change, .int v_woken])), (h_p0_now, .inl (cyI, 452, .inl v_now)), (h_p0_past, .inl (cyI, 2712, .inl v_past))] H := hP
    have hD : va_D A [(h_p0, .inr (7, [.ref h_p0_now, .ref h_p0_then, .ref h_p0_past, .int v_kept, .ref h_p0_text, .int v_typed, .int (iI 0), .int v_at, .int v_isFault, .ref h_p0_told, .int v_tolds, .int v_one, .int v_other, .int v_change, .int v_woken])), (h_p0_now, .inl (cyI, 452, .inl v_now)), (h_p0_past, .inl (cyI, 2712, .inl v_past))] := hD
    refine lv_if_ne (tgt := 36) hx hb dX7_cut_27 (by decide) (fun c8 => ?_) (fun c8 => ?_)
    · have h := ineg c8 h
      refine lv_aload_n hx hb dX7_cut_36 rfl (lv_at hl 0 rfl) ?_
      refine lv_iload_n hx hb dX7_cut_37 rfl (lv_at hl 1 rfl) ?_
      refine lv_iload_n hx hb dX7_cut_38 rfl (lv_at hl 2 rfl) ?_
      obtain ⟨r9, e10, h⟩ := bsome h
      have hPc := sb_P [(h_p0, .inr (7, [.ref h_p0_now, .ref h_p0_then, .ref h_p0_past, .int v_kept, .ref h_p0_text, .int v_typed, .int (iI 0), .int v_at, .int v_isFault, .ref h_p0_told, .int v_tolds, .int v_one, .int v_other, .int v_change, .int v_woken])), (h_p0_now, .inl (cyI, 452, .inl v_now))] hP [0, 1] rfl
      have hDc := sb_D [(h_p0, .inr (7, [.ref h_p0_now, .ref h_p0_then, .ref h_p0_past, .int v_kept, .ref h_p0_text, .int v_typed, .int (iI 0), .int v_at, .int v_isFault, .ref h_p0_told, .int v_tolds, .int v_one, .int v_other, .int v_change, .int v_woken])), (h_p0_now, .inl (cyI, 452, .inl v_now))] hD [0, 1] (by decide) rfl
      have hFc := va_free (wc := [(h_p0, .inr (7, [.ref h_p0_now, .ref h_p0_then, .ref h_p0_past, .int v_kept, .ref h_p0_text, .int v_typed, .int (iI 0), .int v_at, .int v_isFault, .ref h_p0_told, .int v_tolds, .int v_one, .int v_other, .int v_change, .int v_woken])), (h_p0_now, .inl (cyI, 452, .inl v_now))]) hD hS hA [0, 1] rfl
      refine va_calli (va_runV (As := [.int a1, .int a2]) (rest := []) ⟨hx, hb, hml, hown, hts⟩ (c_X7_isHadBehind l dC dI cyI cyJ cyT h_p0 h_p0_now h_p0_then h_p0_past h_p0_text h_p0_told H.size v_kept v_typed (iI 0) v_at v_isFault v_tolds v_one v_other v_change v_woken v_now a1 a2 n r9 e10) (cwV 2 hts gX7_cut_X7_isHadBehind rfl rfl rfl (by decide +kernel) ⟨Nat.le_of_ble_eq_true rfl, Nat.le_of_ble_eq_true rfl⟩) ⟨PRE.blind, va_recv hK hPc (ci := 7) (q0 := 0) rfl rfl, PRE.go hK hPc hDc hNW⟩ rfl rfl hl.1 rfl (lv_room (Nat.le_of_ble_eq_true rfl)) dX7_cut_39 ⟨Nat.zero_le _, Nat.zero_le _⟩) hS (fun q _ h => hFc q h) hFc (fun z11 u t H locs ht hvm hw hB hz1 hk1 hS => ?_)
      subst z11
      obtain ⟨hP, hD⟩ := va_join (wr := [(h_p0_past, .inl (cyI, 2712, .inl v_past))]) (w1 := [(h_p0, .inr (7, [.ref h_p0_now, .ref h_p0_then, .ref h_p0_past, .int v_kept, .ref h_p0_text, .int v_typed, .int (iI 0), .int v_at, .int v_isFault, .ref h_p0_told, .int v_tolds, .int v_one, .int v_other, .int v_change, .int v_woken])), (h_p0_now, .inl (cyI, 452, .inl v_now))]) hP hD [0, 1] [2] rfl rfl (by decide) (by decide) hk1 hFc (WLD.P hB ht) hB.2
      have hP : va_P (dC, dI) vwCl [(h_p0_past, .inl (cyI, 2712, .inl v_past)), (h_p0, .inr (7, [.ref h_p0_now, .ref h_p0_then, .ref h_p0_past, .int v_kept, .ref h_p0_text, .int v_typed, .int (iI 0), .int v_at, .int v_isFault, .ref h_p0_told, .int v_tolds, .int v_one, .int v_other, .int v_change, .int v_woken])), (h_p0_now, .inl (cyI, 452, .inl v_now))] H := hP
      have hD : va_D A [(h_p0_past, .inl (cyI, 2712, .inl v_past)), (h_p0, .inr (7, [.ref h_p0_now, .ref h_p0_then, .ref h_p0_past, .int v_kept, .ref h_p0_text, .int v_typed, .int (iI 0), .int v_at, .int v_isFault, .ref h_p0_told, .int v_tolds, .int v_one, .int v_other, .int v_change, .int v_woken])), (h_p0_now, .inl (cyI, 452, .inl v_now))] := hD
      refine lv_if_eq (tgt := 51) hx hb dX7_cut_42 (by decide) (fun c12 => ?_) (fun c12 => ?_)
      · have h := ipos c12 h
        refine lv_aload_n hx hb dX7_cut_51 rfl (lv_at hl 0 rfl) ?_
        obtain ⟨r13, e14, h⟩ := bsome h
        have hPc := sb_P [(h_p0, .inr (7, [.ref h_p0_now, .ref h_p0_then, .ref h_p0_past, .int v_kept, .ref h_p0_text, .int v_typed, .int (iI 0), .int v_at, .int v_isFault, .ref h_p0_told, .int v_tolds, .int v_one, .int v_other, .int v_change, .int v_woken])), (h_p0_now, .inl (cyI, 452, .inl v_now)), (h_p0_past, .inl (cyI, 2712, .inl v_past))] hP [1, 2, 0] rfl
        have hDc := sb_D [(h_p0, .inr (7, [.ref h_p0_now, .ref h_p0_then, .ref h_p0_past, .int v_kept, .ref h_p0_text, .int v_typed, .int (iI 0), .int v_at, .int v_isFault, .ref h_p0_told, .int v_tolds, .int v_one, .int v_other, .int v_change, .int v_woken])), (h_p0_now, .inl (cyI, 452, .inl v_now)), (h_p0_past, .inl (cyI, 2712, .inl v_past))] hD [1, 2, 0] (by decide) rfl
        have hFc := va_free (wc := [(h_p0, .inr (7, [.ref h_p0_now, .ref h_p0_then, .ref h_p0_past, .int v_kept, .ref h_p0_text, .int v_typed, .int (iI 0), .int v_at, .int v_isFault, .ref h_p0_told, .int v_tolds, .int v_one, .int v_other, .int v_change, .int v_woken])), (h_p0_now, .inl (cyI, 452, .inl v_now)), (h_p0_past, .inl (cyI, 2712, .inl v_past))]) hD hS hA [1, 2, 0] rfl
        refine va_callv (va_runV (As := []) (rest := []) ⟨hx, hb, hml, hown, hts⟩ (c_X7_saves l dC dI cyI cyJ cyT h_p0 h_p0_now h_p0_then h_p0_past h_p0_text h_p0_told H.size v_kept v_typed (iI 0) v_at v_isFault v_tolds v_one v_other v_change v_woken v_now v_past n r13 e14) (cwV 0 hts gX7_cut_X7_saves rfl rfl rfl (by decide +kernel) ⟨Nat.le_of_ble_eq_true rfl, Nat.le_of_ble_eq_true rfl⟩) ⟨PRE.blind, va_recv hK hPc (ci := 7) (q0 := 0) rfl rfl, PRE.go hK hPc hDc hNW⟩ rfl rfl hl.1 rfl (lv_room (Nat.le_of_ble_eq_true rfl)) dX7_cut_52 ⟨Nat.zero_le _, Nat.zero_le _⟩) hS (fun q _ h => hFc q h) hFc (fun u t H locs ht hvm hw hB hz1 hk1 hS => ?_)
        obtain ⟨hP, hD⟩ := va_join (wr := []) (w1 := [(h_p0, .inr (7, [.ref h_p0_now, .ref h_p0_then, .ref h_p0_past, .int r13.1, .ref h_p0_text, .int v_typed, .int (iI 0), .int v_at, .int v_isFault, .ref h_p0_told, .int v_tolds, .int v_one, .int v_other, .int v_change, .int v_woken])), (h_p0_now, .inl (cyI, 452, .inl v_now)), (h_p0_past, .inl (cyI, 2712, .inl r13.2))]) hP hD [1, 2, 0] [] rfl rfl (by decide) (by decide) hk1 hFc (WLD.P hB ht) hB.2
        have hP : va_P (dC, dI) vwCl [(h_p0, .inr (7, [.ref h_p0_now, .ref h_p0_then, .ref h_p0_past, .int r13.1, .ref h_p0_text, .int v_typed, .int (iI 0), .int v_at, .int v_isFault, .ref h_p0_told, .int v_tolds, .int v_one, .int v_other, .int v_change, .int v_woken])), (h_p0_now, .inl (cyI, 452, .inl v_now)), (h_p0_past, .inl (cyI, 2712, .inl r13.2))] H := hP
        have hD : va_D A [(h_p0, .inr (7, [.ref h_p0_now, .ref h_p0_then, .ref h_p0_past, .int r13.1, .ref h_p0_text, .int v_typed, .int (iI 0), .int v_at, .int v_isFault, .ref h_p0_told, .int v_tolds, .int v_one, .int v_other, .int v_change, .int v_woken])), (h_p0_now, .inl (cyI, 452, .inl v_now)), (h_p0_past, .inl (cyI, 2712, .inl r13.2))] := hD
        refine lv_aload_n hx hb dX7_cut_55 rfl (lv_at hl 0 rfl) ?_
        refine lv_iconst (v := iI 3) hx hb dX7_cut_56 rfl ?_
        refine lv_iload_n hx hb dX7_cut_57 rfl (lv_at hl 1 rfl) ?_
        refine lv_iadd hx hb dX7_cut_58 ?_
        refine lv_iload_n hx hb dX7_cut_59 rfl (lv_at hl 2 rfl) ?_
        obtain ⟨r16, e17, h⟩ := bsome h
        have hPc := sb_P [(h_p0, .inr (7, [.ref h_p0_now, .ref h_p0_then, .ref h_p0_past, .int r13.1, .ref h_p0_text, .int v_typed, .int (iI 0), .int v_at, .int v_isFault, .ref h_p0_told, .int v_tolds, .int v_one, .int v_other, .int v_change, .int v_woken])), (h_p0_now, .inl (cyI, 452, .inl v_now))] hP [0, 1] rfl
        have hDc := sb_D [(h_p0, .inr (7, [.ref h_p0_now, .ref h_p0_then, .ref h_p0_past, .int r13.1, .ref h_p0_text, .int v_typed, .int (iI 0), .int v_at, .int v_isFault, .ref h_p0_told, .int v_tolds, .int v_one, .int v_other, .int v_change, .int v_woken])), (h_p0_now, .inl (cyI, 452, .inl v_now))] hD [0, 1] (by decide) rfl
        have hFc := va_free (wc := [(h_p0, .inr (7, [.ref h_p0_now, .ref h_p0_then, .ref h_p0_past, .int r13.1, .ref h_p0_text, .int v_typed, .int (iI 0), .int v_at, .int v_isFault, .ref h_p0_told, .int v_tolds, .int v_one, .int v_other, .int v_change, .int v_woken])), (h_p0_now, .inl (cyI, 452, .inl v_now))]) hD hS hA [0, 1] rfl
        refine va_calli (va_runV (As := [.int (iI 3 + a1), .int a2]) (rest := []) ⟨hx, hb, hml, hown, hts⟩ (c_X7_changes l dC dI cyI cyJ cyT h_p0 h_p0_now h_p0_then h_p0_past h_p0_text h_p0_told H.size r13.1 v_typed (iI 0) v_at v_isFault v_tolds v_one v_other v_change v_woken v_now (iI 3 + a1) a2 r16 e17) (cwV 2 hts gX7_cut_X7_changes rfl rfl rfl (by decide +kernel) ⟨Nat.le_of_ble_eq_true rfl, Nat.le_of_ble_eq_true rfl⟩) ⟨PRE.blind, va_recv hK hPc (ci := 7) (q0 := 0) rfl rfl, PRE.go hK hPc hDc hNW⟩ rfl rfl hl.1 rfl (lv_room (Nat.le_of_ble_eq_true rfl)) dX7_cut_60 ⟨Nat.zero_le _, Nat.zero_le _⟩) hS (fun q _ h => hFc q h) hFc (fun z18 u t H locs ht hvm hw hB hz1 hk1 hS => ?_)
        subst z18
        obtain ⟨hP, hD⟩ := va_join (wr := [(h_p0_past, .inl (cyI, 2712, .inl r13.2))]) (w1 := [(h_p0, .inr (7, [.ref h_p0_now, .ref h_p0_then, .ref h_p0_past, .int r13.1, .ref h_p0_text, .int v_typed, .int (iI 0), .int v_at, .int v_isFault, .ref h_p0_told, .int v_tolds, .int v_one, .int v_other, .int v_change, .int v_woken])), (h_p0_now, .inl (cyI, 452, .inl r16.2))]) hP hD [0, 1] [2] rfl rfl (by decide) (by decide) hk1 hFc (WLD.P hB ht) hB.2
        have hP : va_P (dC, dI) vwCl [(h_p0_past, .inl (cyI, 2712, .inl r13.2)), (h_p0, .inr (7, [.ref h_p0_now, .ref h_p0_then, .ref h_p0_past, .int r13.1, .ref h_p0_text, .int v_typed, .int (iI 0), .int v_at, .int v_isFault, .ref h_p0_told, .int v_tolds, .int v_one, .int v_other, .int v_change, .int v_woken])), (h_p0_now, .inl (cyI, 452, .inl r16.2))] H := hP
        have hD : va_D A [(h_p0_past, .inl (cyI, 2712, .inl r13.2)), (h_p0, .inr (7, [.ref h_p0_now, .ref h_p0_then, .ref h_p0_past, .int r13.1, .ref h_p0_text, .int v_typed, .int (iI 0), .int v_at, .int v_isFault, .ref h_p0_told, .int v_tolds, .int v_one, .int v_other, .int v_change, .int v_woken])), (h_p0_now, .inl (cyI, 452, .inl r16.2))] := hD
        obtain rfl := Option.some.inj h
        exact W.iret (v := r16.1) hx hb hr (fun t ht hW => ⟨⟨r16.1, (), rfl, rfl, WLD.of ht (sb_P [(h_p0, .inr (7, [.ref h_p0_now, .ref h_p0_then, .ref h_p0_past, .int r13.1, .ref h_p0_text, .int v_typed, .int (iI 0), .int v_at, .int v_isFault, .ref h_p0_told, .int v_tolds, .int v_one, .int v_other, .int v_change, .int v_woken])), (h_p0_now, .inl (cyI, 452, .inl r16.2)), (h_p0_past, .inl (cyI, 2712, .inl r13.2))] hP [1, 2, 0] rfl) (sb_D [(h_p0, .inr (7, [.ref h_p0_now, .ref h_p0_then, .ref h_p0_past, .int r13.1, .ref h_p0_text, .int v_typed, .int (iI 0), .int v_at, .int v_isFault, .ref h_p0_told, .int v_tolds, .int v_one, .int v_other, .int v_change, .int v_woken])), (h_p0_now, .inl (cyI, 452, .inl r16.2)), (h_p0_past, .inl (cyI, 2712, .inl r13.2))] hD [1, 2, 0] (by decide) rfl)⟩, hS.F ht⟩) hS.2.2 dX7_cut_63
      · have h := ineg c12 h
        refine lv_aload_n hx hb dX7_cut_45 rfl (lv_at hl 0 rfl) ?_
        refine lv_iconst (v := iI 3) hx hb dX7_cut_46 rfl ?_
        obtain ⟨r19, e20, h⟩ := bsome h
        have hPc := sb_P [(h_p0, .inr (7, [.ref h_p0_now, .ref h_p0_then, .ref h_p0_past, .int v_kept, .ref h_p0_text, .int v_typed, .int (iI 0), .int v_at, .int v_isFault, .ref h_p0_told, .int v_tolds, .int v_one, .int v_other, .int v_change, .int v_woken]))] hP [1] rfl
        have hDc := sb_D [(h_p0, .inr (7, [.ref h_p0_now, .ref h_p0_then, .ref h_p0_past, .int v_kept, .ref h_p0_text, .int v_typed, .int (iI 0), .int v_at, .int v_isFault, .ref h_p0_told, .int v_tolds, .int v_one, .int v_other, .int v_change, .int v_woken]))] hD [1] (by decide) rfl
        have hFc := va_free (wc := [(h_p0, .inr (7, [.ref h_p0_now, .ref h_p0_then, .ref h_p0_past, .int v_kept, .ref h_p0_text, .int v_typed, .int (iI 0), .int v_at, .int v_isFault, .ref h_p0_told, .int v_tolds, .int v_one, .int v_other, .int v_change, .int v_woken]))]) hD hS hA [1] rfl
        refine va_calli (va_runV (As := [.int (iI 3)]) (rest := []) ⟨hx, hb, hml, hown, hts⟩ (c_X7_fails l dC dI cyI cyJ cyT h_p0 h_p0_now h_p0_then h_p0_past h_p0_text h_p0_told H.size v_kept v_typed (iI 0) v_at v_isFault v_tolds v_one v_other v_change v_woken (iI 3) r19 e20) (cwV 1 hts gX7_cut_X7_fails rfl rfl rfl (by decide +kernel) ⟨Nat.le_of_ble_eq_true rfl, Nat.le_of_ble_eq_true rfl⟩) ⟨PRE.blind, va_recv hK hPc (ci := 7) (q0 := 0) rfl rfl, PRE.go hK hPc hDc hNW⟩ rfl rfl hl.1 rfl (lv_room (Nat.le_of_ble_eq_true rfl)) dX7_cut_47 ⟨Nat.zero_le _, Nat.zero_le _⟩) hS (fun q _ h => hFc q h) hFc (fun z21 u t H locs ht hvm hw hB hz1 hk1 hS => ?_)
        subst z21
        obtain ⟨hP, hD⟩ := va_join (wr := [(h_p0_past, .inl (cyI, 2712, .inl v_past)), (h_p0_now, .inl (cyI, 452, .inl v_now))]) (w1 := [(h_p0, .inr (7, [.ref h_p0_now, .ref h_p0_then, .ref h_p0_past, .int v_kept, .ref h_p0_text, .int v_typed, .int r19.2, .int v_at, .int v_isFault, .ref h_p0_told, .int v_tolds, .int v_one, .int v_other, .int v_change, .int v_woken]))]) hP hD [1] [0, 2] rfl rfl (by decide) (by decide) hk1 hFc (WLD.P hB ht) hB.2
        have hP : va_P (dC, dI) vwCl [(h_p0_past, .inl (cyI, 2712, .inl v_past)), (h_p0_now, .inl (cyI, 452, .inl v_now)), (h_p0, .inr (7, [.ref h_p0_now, .ref h_p0_then, .ref h_p0_past, .int v_kept, .ref h_p0_text, .int v_typed, .int r19.2, .int v_at, .int v_isFault, .ref h_p0_told, .int v_tolds, .int v_one, .int v_other, .int v_change, .int v_woken]))] H := hP
        have hD : va_D A [(h_p0_past, .inl (cyI, 2712, .inl v_past)), (h_p0_now, .inl (cyI, 452, .inl v_now)), (h_p0, .inr (7, [.ref h_p0_now, .ref h_p0_then, .ref h_p0_past, .int v_kept, .ref h_p0_text, .int v_typed, .int r19.2, .int v_at, .int v_isFault, .ref h_p0_told, .int v_tolds, .int v_one, .int v_other, .int v_change, .int v_woken]))] := hD
        obtain rfl := Option.some.inj h
        exact W.iret (v := r19.1) hx hb hr (fun t ht hW => ⟨⟨r19.1, (), rfl, rfl, WLD.of ht (sb_P [(h_p0, .inr (7, [.ref h_p0_now, .ref h_p0_then, .ref h_p0_past, .int v_kept, .ref h_p0_text, .int v_typed, .int r19.2, .int v_at, .int v_isFault, .ref h_p0_told, .int v_tolds, .int v_one, .int v_other, .int v_change, .int v_woken])), (h_p0_now, .inl (cyI, 452, .inl v_now)), (h_p0_past, .inl (cyI, 2712, .inl v_past))] hP [2, 1, 0] rfl) (sb_D [(h_p0, .inr (7, [.ref h_p0_now, .ref h_p0_then, .ref h_p0_past, .int v_kept, .ref h_p0_text, .int v_typed, .int r19.2, .int v_at, .int v_isFault, .ref h_p0_told, .int v_tolds, .int v_one, .int v_other, .int v_change, .int v_woken])), (h_p0_now, .inl (cyI, 452, .inl v_now)), (h_p0_past, .inl (cyI, 2712, .inl v_past))] hD [2, 1, 0] (by decide) rfl)⟩, hS.F ht⟩) hS.2.2 dX7_cut_50
    · have h := ipos c8 h
      refine lv_aload_n hx hb dX7_cut_30 rfl (lv_at hl 0 rfl) ?_
      refine lv_iconst (v := iI 2) hx hb dX7_cut_31 rfl ?_
      obtain ⟨r22, e23, h⟩ := bsome h
      have hPc := sb_P [(h_p0, .inr (7, [.ref h_p0_now, .ref h_p0_then, .ref h_p0_past, .int v_kept, .ref h_p0_text, .int v_typed, .int (iI 0), .int v_at, .int v_isFault, .ref h_p0_told, .int v_tolds, .int v_one, .int v_other, .int v_change, .int v_woken]))] hP [0] rfl
      have hDc := sb_D [(h_p0, .inr (7, [.ref h_p0_now, .ref h_p0_then, .ref h_p0_past, .int v_kept, .ref h_p0_text, .int v_typed, .int (iI 0), .int v_at, .int v_isFault, .ref h_p0_told, .int v_tolds, .int v_one, .int v_other, .int v_change, .int v_woken]))] hD [0] (by decide) rfl
      have hFc := va_free (wc := [(h_p0, .inr (7, [.ref h_p0_now, .ref h_p0_then, .ref h_p0_past, .int v_kept, .ref h_p0_text, .int v_typed, .int (iI 0), .int v_at, .int v_isFault, .ref h_p0_told, .int v_tolds, .int v_one, .int v_other, .int v_change, .int v_woken]))]) hD hS hA [0] rfl
      refine va_calli (va_runV (As := [.int (iI 2)]) (rest := []) ⟨hx, hb, hml, hown, hts⟩ (c_X7_fails l dC dI cyI cyJ cyT h_p0 h_p0_now h_p0_then h_p0_past h_p0_text h_p0_told H.size v_kept v_typed (iI 0) v_at v_isFault v_tolds v_one v_other v_change v_woken (iI 2) r22 e23) (cwV 1 hts gX7_cut_X7_fails rfl rfl rfl (by decide +kernel) ⟨Nat.le_of_ble_eq_true rfl, Nat.le_of_ble_eq_true rfl⟩) ⟨PRE.blind, va_recv hK hPc (ci := 7) (q0 := 0) rfl rfl, PRE.go hK hPc hDc hNW⟩ rfl rfl hl.1 rfl (lv_room (Nat.le_of_ble_eq_true rfl)) dX7_cut_32 ⟨Nat.zero_le _, Nat.zero_le _⟩) hS (fun q _ h => hFc q h) hFc (fun z24 u t H locs ht hvm hw hB hz1 hk1 hS => ?_)
      subst z24
      obtain ⟨hP, hD⟩ := va_join (wr := [(h_p0_now, .inl (cyI, 452, .inl v_now)), (h_p0_past, .inl (cyI, 2712, .inl v_past))]) (w1 := [(h_p0, .inr (7, [.ref h_p0_now, .ref h_p0_then, .ref h_p0_past, .int v_kept, .ref h_p0_text, .int v_typed, .int r22.2, .int v_at, .int v_isFault, .ref h_p0_told, .int v_tolds, .int v_one, .int v_other, .int v_change, .int v_woken]))]) hP hD [0] [1, 2] rfl rfl (by decide) (by decide) hk1 hFc (WLD.P hB ht) hB.2
      have hP : va_P (dC, dI) vwCl [(h_p0_now, .inl (cyI, 452, .inl v_now)), (h_p0_past, .inl (cyI, 2712, .inl v_past)), (h_p0, .inr (7, [.ref h_p0_now, .ref h_p0_then, .ref h_p0_past, .int v_kept, .ref h_p0_text, .int v_typed, .int r22.2, .int v_at, .int v_isFault, .ref h_p0_told, .int v_tolds, .int v_one, .int v_other, .int v_change, .int v_woken]))] H := hP
      have hD : va_D A [(h_p0_now, .inl (cyI, 452, .inl v_now)), (h_p0_past, .inl (cyI, 2712, .inl v_past)), (h_p0, .inr (7, [.ref h_p0_now, .ref h_p0_then, .ref h_p0_past, .int v_kept, .ref h_p0_text, .int v_typed, .int r22.2, .int v_at, .int v_isFault, .ref h_p0_told, .int v_tolds, .int v_one, .int v_other, .int v_change, .int v_woken]))] := hD
      obtain rfl := Option.some.inj h
      exact W.iret (v := r22.1) hx hb hr (fun t ht hW => ⟨⟨r22.1, (), rfl, rfl, WLD.of ht (sb_P [(h_p0, .inr (7, [.ref h_p0_now, .ref h_p0_then, .ref h_p0_past, .int v_kept, .ref h_p0_text, .int v_typed, .int r22.2, .int v_at, .int v_isFault, .ref h_p0_told, .int v_tolds, .int v_one, .int v_other, .int v_change, .int v_woken])), (h_p0_now, .inl (cyI, 452, .inl v_now)), (h_p0_past, .inl (cyI, 2712, .inl v_past))] hP [2, 0, 1] rfl) (sb_D [(h_p0, .inr (7, [.ref h_p0_now, .ref h_p0_then, .ref h_p0_past, .int v_kept, .ref h_p0_text, .int v_typed, .int r22.2, .int v_at, .int v_isFault, .ref h_p0_told, .int v_tolds, .int v_one, .int v_other, .int v_change, .int v_woken])), (h_p0_now, .inl (cyI, 452, .inl v_now)), (h_p0_past, .inl (cyI, 2712, .inl v_past))] hD [2, 0, 1] (by decide) rfl)⟩, hS.F ht⟩) hS.2.2 dX7_cut_35
  · have h := ipos c4 h
    refine lv_aload_n hx hb dX7_cut_14 rfl (lv_at hl 0 rfl) ?_
    refine lv_iconst (v := iI 1) hx hb dX7_cut_15 rfl ?_
    obtain ⟨r25, e26, h⟩ := bsome h
    have hPc := sb_P [(h_p0, .inr (7, [.ref h_p0_now, .ref h_p0_then, .ref h_p0_past, .int v_kept, .ref h_p0_text, .int v_typed, .int (iI 0), .int v_at, .int v_isFault, .ref h_p0_told, .int v_tolds, .int v_one, .int v_other, .int v_change, .int v_woken]))] hP [0] rfl
    have hDc := sb_D [(h_p0, .inr (7, [.ref h_p0_now, .ref h_p0_then, .ref h_p0_past, .int v_kept, .ref h_p0_text, .int v_typed, .int (iI 0), .int v_at, .int v_isFault, .ref h_p0_told, .int v_tolds, .int v_one, .int v_other, .int v_change, .int v_woken]))] hD [0] (by decide) rfl
    have hFc := va_free (wc := [(h_p0, .inr (7, [.ref h_p0_now, .ref h_p0_then, .ref h_p0_past, .int v_kept, .ref h_p0_text, .int v_typed, .int (iI 0), .int v_at, .int v_isFault, .ref h_p0_told, .int v_tolds, .int v_one, .int v_other, .int v_change, .int v_woken]))]) hD hS hA [0] rfl
    refine va_calli (va_runV (As := [.int (iI 1)]) (rest := []) ⟨hx, hb, hml, hown, hts⟩ (c_X7_fails l dC dI cyI cyJ cyT h_p0 h_p0_now h_p0_then h_p0_past h_p0_text h_p0_told H.size v_kept v_typed (iI 0) v_at v_isFault v_tolds v_one v_other v_change v_woken (iI 1) r25 e26) (cwV 1 hts gX7_cut_X7_fails rfl rfl rfl (by decide +kernel) ⟨Nat.le_of_ble_eq_true rfl, Nat.le_of_ble_eq_true rfl⟩) ⟨PRE.blind, va_recv hK hPc (ci := 7) (q0 := 0) rfl rfl, PRE.go hK hPc hDc hNW⟩ rfl rfl hl.1 rfl (lv_room (Nat.le_of_ble_eq_true rfl)) dX7_cut_16 ⟨Nat.zero_le _, Nat.zero_le _⟩) hS (fun q _ h => hFc q h) hFc (fun z27 u t H locs ht hvm hw hB hz1 hk1 hS => ?_)
    subst z27
    obtain ⟨hP, hD⟩ := va_join (wr := [(h_p0_now, .inl (cyI, 452, .inl v_now)), (h_p0_past, .inl (cyI, 2712, .inl v_past))]) (w1 := [(h_p0, .inr (7, [.ref h_p0_now, .ref h_p0_then, .ref h_p0_past, .int v_kept, .ref h_p0_text, .int v_typed, .int r25.2, .int v_at, .int v_isFault, .ref h_p0_told, .int v_tolds, .int v_one, .int v_other, .int v_change, .int v_woken]))]) hP hD [0] [1, 2] rfl rfl (by decide) (by decide) hk1 hFc (WLD.P hB ht) hB.2
    have hP : va_P (dC, dI) vwCl [(h_p0_now, .inl (cyI, 452, .inl v_now)), (h_p0_past, .inl (cyI, 2712, .inl v_past)), (h_p0, .inr (7, [.ref h_p0_now, .ref h_p0_then, .ref h_p0_past, .int v_kept, .ref h_p0_text, .int v_typed, .int r25.2, .int v_at, .int v_isFault, .ref h_p0_told, .int v_tolds, .int v_one, .int v_other, .int v_change, .int v_woken]))] H := hP
    have hD : va_D A [(h_p0_now, .inl (cyI, 452, .inl v_now)), (h_p0_past, .inl (cyI, 2712, .inl v_past)), (h_p0, .inr (7, [.ref h_p0_now, .ref h_p0_then, .ref h_p0_past, .int v_kept, .ref h_p0_text, .int v_typed, .int r25.2, .int v_at, .int v_isFault, .ref h_p0_told, .int v_tolds, .int v_one, .int v_other, .int v_change, .int v_woken]))] := hD
    obtain rfl := Option.some.inj h
    exact W.iret (v := r25.1) hx hb hr (fun t ht hW => ⟨⟨r25.1, (), rfl, rfl, WLD.of ht (sb_P [(h_p0, .inr (7, [.ref h_p0_now, .ref h_p0_then, .ref h_p0_past, .int v_kept, .ref h_p0_text, .int v_typed, .int r25.2, .int v_at, .int v_isFault, .ref h_p0_told, .int v_tolds, .int v_one, .int v_other, .int v_change, .int v_woken])), (h_p0_now, .inl (cyI, 452, .inl v_now)), (h_p0_past, .inl (cyI, 2712, .inl v_past))] hP [2, 0, 1] rfl) (sb_D [(h_p0, .inr (7, [.ref h_p0_now, .ref h_p0_then, .ref h_p0_past, .int v_kept, .ref h_p0_text, .int v_typed, .int r25.2, .int v_at, .int v_isFault, .ref h_p0_told, .int v_tolds, .int v_one, .int v_other, .int v_change, .int v_woken])), (h_p0_now, .inl (cyI, 452, .inl v_now)), (h_p0_past, .inl (cyI, 2712, .inl v_past))] hD [2, 0, 1] (by decide) rfl)⟩, hS.F ht⟩) hS.2.2 dX7_cut_19
def s_X7_set (n : Nat) (v_kept : Int32) (v_thrown : Int32) (v_now : Nat → Int32) (v_past : Nat → Int32) (a1 : Int32) (a2 : Int32) : Option (Int32 × Int32 × Int32 × (Nat → Int32) × (Nat → Int32)) := ((s_X7_in a1 (iI 0) (iI 2)).bind fun r1 => (if r1 = 0 then ((s_X7_fails (iI 0) (iI 1)).bind fun r32 => (some (r32.1, v_kept, r32.2, v_now, v_past))) else (if a1 = iI 2 then ((s_X7_in a2 (iI 0) (iI 50)).bind fun r19 => (if r19 = 0 then ((s_X7_fails (iI 0) (iI 2)).bind fun r29 => (some (r29.1, v_kept, r29.2, v_now, v_past))) else ((s_X7_saves n v_kept v_now v_past).bind fun r23 => ((s_X7_changes v_now a1 a2).bind fun r26 => (some (r26.1, r23.1, iI 0, r26.2, r23.2)))))) else ((s_X7_in a2 (iI 0) (iI 9)).bind fun r6 => (if r6 = 0 then ((s_X7_fails (iI 0) (iI 2)).bind fun r16 => (some (r16.1, v_kept, r16.2, v_now, v_past))) else ((s_X7_saves n v_kept v_now v_past).bind fun r10 => ((s_X7_changes v_now a1 a2).bind fun r13 => (some (r13.1, r10.1, iI 0, r13.2, r10.2)))))))))
set_option maxRecDepth 20000 in
theorem m_X7_set_0 : ∀ w ∈ u_ws RX7 TX7 15, w ∈ wsX7_set := by decide +kernel
set_option maxRecDepth 20000 in
theorem m_X7_set_1 : (.fieldLink RX7 25 "SleeperBerthsModel" "thrown" "I" : Cond) ∈ wsX7_set := by decide +kernel
set_option maxHeartbeats 4000000 in
set_option maxRecDepth 100000 in
theorem c_X7_set (l : Launch) (dC : Nat → ClassId) (dI : Nat → Nat → Nat) (cyI cyJ cyT : ClassId) (h_p0 : Nat) (h_p0_now : Nat) (h_p0_then : Nat) (h_p0_past : Nat) (h_p0_text : Nat) (h_p0_told : Nat) (sz : Nat) (v_kept : Int32) (v_typed : Int32) (v_thrown : Int32) (v_at : Int32) (v_isFault : Int32) (v_tolds : Int32) (v_one : Int32) (v_other : Int32) (v_change : Int32) (v_woken : Int32) (v_now : Nat → Int32) (v_past : Nat → Int32) (a1 : Int32) (a2 : Int32) (n : Nat) (o : Int32 × Int32 × Int32 × (Nat → Int32) × (Nat → Int32)) (h : s_X7_set n v_kept v_thrown v_now v_past a1 a2 = some o) : Met l yX7_set wsX7_set ({ frames := 2, cells := 0, slots := 0, locals := 45 }) (va_Pc [.ref h_p0, .int a1, .int a2] (PRE (dC, dI) (TYS cyI cyJ cyT) sz [(h_p0, .inr (7, [.ref h_p0_now, .ref h_p0_then, .ref h_p0_past, .int v_kept, .ref h_p0_text, .int v_typed, .int v_thrown, .int v_at, .int v_isFault, .ref h_p0_told, .int v_tolds, .int v_one, .int v_other, .int v_change, .int v_woken])), (h_p0_now, .inl (cyI, 452, .inl v_now)), (h_p0_past, .inl (cyI, 2712, .inl v_past))])) (va_Qi (S := Unit) (fun r _ => r = o.1) (fun _ t => WLD (dC, dI) (va_A [(h_p0, .inr (7, [.ref h_p0_now, .ref h_p0_then, .ref h_p0_past, .int v_kept, .ref h_p0_text, .int v_typed, .int v_thrown, .int v_at, .int v_isFault, .ref h_p0_told, .int v_tolds, .int v_one, .int v_other, .int v_change, .int v_woken])), (h_p0_now, .inl (cyI, 452, .inl v_now)), (h_p0_past, .inl (cyI, 2712, .inl v_past))] sz) [(h_p0, .inr (7, [.ref h_p0_now, .ref h_p0_then, .ref h_p0_past, .int o.2.1, .ref h_p0_text, .int v_typed, .int o.2.2.1, .int v_at, .int v_isFault, .ref h_p0_told, .int v_tolds, .int v_one, .int v_other, .int v_change, .int v_woken])), (h_p0_now, .inl (cyI, 452, .inl o.2.2.2.1)), (h_p0_past, .inl (cyI, 2712, .inl o.2.2.2.2))] t) (va_A [(h_p0, .inr (7, [.ref h_p0_now, .ref h_p0_then, .ref h_p0_past, .int v_kept, .ref h_p0_text, .int v_typed, .int v_thrown, .int v_at, .int v_isFault, .ref h_p0_told, .int v_tolds, .int v_one, .int v_other, .int v_change, .int v_woken])), (h_p0_now, .inl (cyI, 452, .inl v_now)), (h_p0_past, .inl (cyI, 2712, .inl v_past))] sz)) 0 0 (va_A [(h_p0, .inr (7, [.ref h_p0_now, .ref h_p0_then, .ref h_p0_past, .int v_kept, .ref h_p0_text, .int v_typed, .int v_thrown, .int v_at, .int v_isFault, .ref h_p0_told, .int v_tolds, .int v_one, .int v_other, .int v_change, .int v_woken])), (h_p0_now, .inl (cyI, 452, .inl v_now)), (h_p0_past, .inl (cyI, 2712, .inl v_past))] sz) := by
  refine Met.ofW (cc := cX7_set) (maxL := 3) (ret := (some .int)) (by decide) rfl ?_
  intro p e s m args below meth c s₁ B hml hv
  obtain ⟨rfl, hsz, hP, hK, hD0, hNW⟩ := hv
  have hx := B.exec
  have hb := B.bytes
  have hr := B.returns
  have hts := atoms_spec (ws := wsX7_set) B.pre
  have hown : s.vm.findClass RX7 = some m.cls := findClass_of_methodNamed B.named
  have hlocks := B.notSynchronized
  subst hsz
  have hD := hD0.self (sz := s.heap.size)
  generalize hAe : va_A [(h_p0, .inr (7, [.ref h_p0_now, .ref h_p0_then, .ref h_p0_past, .int v_kept, .ref h_p0_text, .int v_typed, .int v_thrown, .int v_at, .int v_isFault, .ref h_p0_told, .int v_tolds, .int v_one, .int v_other, .int v_change, .int v_woken])), (h_p0_now, .inl (cyI, 452, .inl v_now)), (h_p0_past, .inl (cyI, 2712, .inl v_past))] s.heap.size = A at hD ⊢
  have hA : ∀ q : Nat, s.heap.size ≤ q → A q := fun q h => by rw [← hAe]; exact Or.inr h
  have hS : va_S A s.heap s.heap [] := va_S.rf
  have hP : va_P (dC, dI) vwCl [(h_p0, .inr (7, [.ref h_p0_now, .ref h_p0_then, .ref h_p0_past, .int v_kept, .ref h_p0_text, .int v_typed, .int v_thrown, .int v_at, .int v_isFault, .ref h_p0_told, .int v_tolds, .int v_one, .int v_other, .int v_change, .int v_woken])), (h_p0_now, .inl (cyI, 452, .inl v_now)), (h_p0_past, .inl (cyI, 2712, .inl v_past))] s.heap := hP
  have hl := lv_entry ([.ref h_p0, .int a1, .int a2]) (n := 3) (Nat.le_of_ble_eq_true rfl)
  rw [lg_entry_eq]
  generalize (lg_sl ([.ref h_p0, .int a1, .int a2]) ++ List.replicate (3 - (lg_sl ([.ref h_p0, .int a1, .int a2])).length) Slot.unset).toArray = ls at hl ⊢
  have hl : lv_has ls 3 [(0, .ref h_p0), (1, .int a1), (2, .int a2)] := hl
  unfold s_X7_set at h
  refine lv_aload_n hx hb dX7_set_0 rfl (lv_at hl 0 rfl) ?_
  refine lv_iconst (v := iI 0) hx hb dX7_set_1 rfl ?_
  refine va_put (D := (dC, dI)) (ci := 7) (v := .int (iI 0)) (ty := .int) (C := RX7) (T := TX7) (N := 15) hx hb hts m_X7_set_0 tyX7 tyX7_ok nmX7 hown hK hP hD hS 0 rfl rfl 6 (by decide) (hts (.fieldLink RX7 25 "SleeperBerthsModel" "thrown" "I") m_X7_set_1) (fun _ h9 => h9) rfl (by decide +kernel) rfl rfl (Nat.le_of_ble_eq_true rfl) dX7_set_2 (fun H locs hP hD hS => ?_)
  have hP : va_P (dC, dI) vwCl [(h_p0, .inr (7, [.ref h_p0_now, .ref h_p0_then, .ref h_p0_past, .int v_kept, .ref h_p0_text, .int v_typed, .int (iI 0), .int v_at, .int v_isFault, .ref h_p0_told, .int v_tolds, .int v_one, .int v_other, .int v_change, .int v_woken])), (h_p0_now, .inl (cyI, 452, .inl v_now)), (h_p0_past, .inl (cyI, 2712, .inl v_past))] H := hP
  have hD : va_D A [(h_p0, .inr (7, [.ref h_p0_now, .ref h_p0_then, .ref h_p0_past, .int v_kept, .ref h_p0_text, .int v_typed, .int (iI 0), .int v_at, .int v_isFault, .ref h_p0_told, .int v_tolds, .int v_one, .int v_other, .int v_change, .int v_woken])), (h_p0_now, .inl (cyI, 452, .inl v_now)), (h_p0_past, .inl (cyI, 2712, .inl v_past))] := hD
  refine lv_iload_n hx hb dX7_set_5 rfl (lv_at hl 1 rfl) ?_
  refine lv_iconst (v := iI 0) hx hb dX7_set_6 rfl ?_
  refine lv_iconst (v := iI 2) hx hb dX7_set_7 rfl ?_
  obtain ⟨r1, e2, h⟩ := bsome h
  have hPc := sb_P [] hP [] rfl
  have hDc := sb_D [] hD [] (by decide) rfl
  have hFc := va_free (wc := []) hD hS hA [] rfl
  refine va_calli (va_runS (As := [.int a1, .int (iI 0), .int (iI 2)]) (rest := []) ⟨hx, hb, hml, hown, hts⟩ (c_X7_in l dC dI cyI cyJ cyT H.size a1 (iI 0) (iI 2) r1 e2) (va_cwS 3 hts gX7_set_X7_in rfl rfl rfl (by decide +kernel) ⟨Nat.le_of_ble_eq_true rfl, Nat.le_of_ble_eq_true rfl⟩) ⟨PRE.blind, PRE.go hK hPc hDc hNW⟩ rfl rfl hl.1 rfl (lv_room (Nat.le_of_ble_eq_true rfl)) dX7_set_8 ⟨Nat.zero_le _, Nat.zero_le _⟩) hS (fun q _ h => hFc q h) hFc (fun z3 u t H locs ht hvm hw hB hz1 hk1 hS => ?_)
  subst z3
  obtain ⟨hP, hD⟩ := va_join (wr := [(h_p0, .inr (7, [.ref h_p0_now, .ref h_p0_then, .ref h_p0_past, .int v_kept, .ref h_p0_text, .int v_typed, .int (iI 0), .int v_at, .int v_isFault, .ref h_p0_told, .int v_tolds, .int v_one, .int v_other, .int v_change, .int v_woken])), (h_p0_now, .inl (cyI, 452, .inl v_now)), (h_p0_past, .inl (cyI, 2712, .inl v_past))]) (w1 := []) hP hD [] [0, 1, 2] rfl rfl (by decide) (by decide) hk1 hFc (WLD.P hB ht) hB.2
  have hP : va_P (dC, dI) vwCl [(h_p0, .inr (7, [.ref h_p0_now, .ref h_p0_then, .ref h_p0_past, .int v_kept, .ref h_p0_text, .int v_typed, .int (iI 0), .int v_at, .int v_isFault, .ref h_p0_told, .int v_tolds, .int v_one, .int v_other, .int v_change, .int v_woken])), (h_p0_now, .inl (cyI, 452, .inl v_now)), (h_p0_past, .inl (cyI, 2712, .inl v_past))] H := hP
  have hD : va_D A [(h_p0, .inr (7, [.ref h_p0_now, .ref h_p0_then, .ref h_p0_past, .int v_kept, .ref h_p0_text, .int v_typed, .int (iI 0), .int v_at, .int v_isFault, .ref h_p0_told, .int v_tolds, .int v_one, .int v_other, .int v_change, .int v_woken])), (h_p0_now, .inl (cyI, 452, .inl v_now)), (h_p0_past, .inl (cyI, 2712, .inl v_past))] := hD
  refine lv_if_ne (tgt := 20) hx hb dX7_set_11 (by decide) (fun c4 => ?_) (fun c4 => ?_)
  · have h := ineg c4 h
    refine lv_iload_n hx hb dX7_set_20 rfl (lv_at hl 2 rfl) ?_
    refine lv_iconst (v := iI 0) hx hb dX7_set_21 rfl ?_
    refine lv_iload_n hx hb dX7_set_22 rfl (lv_at hl 1 rfl) ?_
    refine lv_iconst (v := iI 2) hx hb dX7_set_23 rfl ?_
    refine lv_icmp_ne (tgt := 32) hx hb dX7_set_24 (by decide) (fun c5 => ?_) (fun c5 => ?_)
    · have h := ineg c5 h
      refine lv_bipush (v := iI 9) hx hb dX7_set_32 (by decide) ?_
      obtain ⟨r6, e7, h⟩ := bsome h
      have hPc := sb_P [] hP [] rfl
      have hDc := sb_D [] hD [] (by decide) rfl
      have hFc := va_free (wc := []) hD hS hA [] rfl
      refine va_calli (va_runS (As := [.int a2, .int (iI 0), .int (iI 9)]) (rest := []) ⟨hx, hb, hml, hown, hts⟩ (c_X7_in l dC dI cyI cyJ cyT H.size a2 (iI 0) (iI 9) r6 e7) (va_cwS 3 hts gX7_set_X7_in rfl rfl rfl (by decide +kernel) ⟨Nat.le_of_ble_eq_true rfl, Nat.le_of_ble_eq_true rfl⟩) ⟨PRE.blind, PRE.go hK hPc hDc hNW⟩ rfl rfl hl.1 rfl (lv_room (Nat.le_of_ble_eq_true rfl)) dX7_set_34 ⟨Nat.zero_le _, Nat.zero_le _⟩) hS (fun q _ h => hFc q h) hFc (fun z8 u t H locs ht hvm hw hB hz1 hk1 hS => ?_)
      subst z8
      obtain ⟨hP, hD⟩ := va_join (wr := [(h_p0, .inr (7, [.ref h_p0_now, .ref h_p0_then, .ref h_p0_past, .int v_kept, .ref h_p0_text, .int v_typed, .int (iI 0), .int v_at, .int v_isFault, .ref h_p0_told, .int v_tolds, .int v_one, .int v_other, .int v_change, .int v_woken])), (h_p0_now, .inl (cyI, 452, .inl v_now)), (h_p0_past, .inl (cyI, 2712, .inl v_past))]) (w1 := []) hP hD [] [0, 1, 2] rfl rfl (by decide) (by decide) hk1 hFc (WLD.P hB ht) hB.2
      have hP : va_P (dC, dI) vwCl [(h_p0, .inr (7, [.ref h_p0_now, .ref h_p0_then, .ref h_p0_past, .int v_kept, .ref h_p0_text, .int v_typed, .int (iI 0), .int v_at, .int v_isFault, .ref h_p0_told, .int v_tolds, .int v_one, .int v_other, .int v_change, .int v_woken])), (h_p0_now, .inl (cyI, 452, .inl v_now)), (h_p0_past, .inl (cyI, 2712, .inl v_past))] H := hP
      have hD : va_D A [(h_p0, .inr (7, [.ref h_p0_now, .ref h_p0_then, .ref h_p0_past, .int v_kept, .ref h_p0_text, .int v_typed, .int (iI 0), .int v_at, .int v_isFault, .ref h_p0_told, .int v_tolds, .int v_one, .int v_other, .int v_change, .int v_woken])), (h_p0_now, .inl (cyI, 452, .inl v_now)), (h_p0_past, .inl (cyI, 2712, .inl v_past))] := hD
      refine lv_if_ne (tgt := 46) hx hb dX7_set_37 (by decide) (fun c9 => ?_) (fun c9 => ?_)
      · have h := ineg c9 h
        refine lv_aload_n hx hb dX7_set_46 rfl (lv_at hl 0 rfl) ?_
        obtain ⟨r10, e11, h⟩ := bsome h
        have hPc := sb_P [(h_p0, .inr (7, [.ref h_p0_now, .ref h_p0_then, .ref h_p0_past, .int v_kept, .ref h_p0_text, .int v_typed, .int (iI 0), .int v_at, .int v_isFault, .ref h_p0_told, .int v_tolds, .int v_one, .int v_other, .int v_change, .int v_woken])), (h_p0_now, .inl (cyI, 452, .inl v_now)), (h_p0_past, .inl (cyI, 2712, .inl v_past))] hP [0, 1, 2] rfl
        have hDc := sb_D [(h_p0, .inr (7, [.ref h_p0_now, .ref h_p0_then, .ref h_p0_past, .int v_kept, .ref h_p0_text, .int v_typed, .int (iI 0), .int v_at, .int v_isFault, .ref h_p0_told, .int v_tolds, .int v_one, .int v_other, .int v_change, .int v_woken])), (h_p0_now, .inl (cyI, 452, .inl v_now)), (h_p0_past, .inl (cyI, 2712, .inl v_past))] hD [0, 1, 2] (by decide) rfl
        have hFc := va_free (wc := [(h_p0, .inr (7, [.ref h_p0_now, .ref h_p0_then, .ref h_p0_past, .int v_kept, .ref h_p0_text, .int v_typed, .int (iI 0), .int v_at, .int v_isFault, .ref h_p0_told, .int v_tolds, .int v_one, .int v_other, .int v_change, .int v_woken])), (h_p0_now, .inl (cyI, 452, .inl v_now)), (h_p0_past, .inl (cyI, 2712, .inl v_past))]) hD hS hA [0, 1, 2] rfl
        refine va_callv (va_runV (As := []) (rest := []) ⟨hx, hb, hml, hown, hts⟩ (c_X7_saves l dC dI cyI cyJ cyT h_p0 h_p0_now h_p0_then h_p0_past h_p0_text h_p0_told H.size v_kept v_typed (iI 0) v_at v_isFault v_tolds v_one v_other v_change v_woken v_now v_past n r10 e11) (cwV 0 hts gX7_set_X7_saves rfl rfl rfl (by decide +kernel) ⟨Nat.le_of_ble_eq_true rfl, Nat.le_of_ble_eq_true rfl⟩) ⟨PRE.blind, va_recv hK hPc (ci := 7) (q0 := 0) rfl rfl, PRE.go hK hPc hDc hNW⟩ rfl rfl hl.1 rfl (lv_room (Nat.le_of_ble_eq_true rfl)) dX7_set_47 ⟨Nat.zero_le _, Nat.zero_le _⟩) hS (fun q _ h => hFc q h) hFc (fun u t H locs ht hvm hw hB hz1 hk1 hS => ?_)
        obtain ⟨hP, hD⟩ := va_join (wr := []) (w1 := [(h_p0, .inr (7, [.ref h_p0_now, .ref h_p0_then, .ref h_p0_past, .int r10.1, .ref h_p0_text, .int v_typed, .int (iI 0), .int v_at, .int v_isFault, .ref h_p0_told, .int v_tolds, .int v_one, .int v_other, .int v_change, .int v_woken])), (h_p0_now, .inl (cyI, 452, .inl v_now)), (h_p0_past, .inl (cyI, 2712, .inl r10.2))]) hP hD [0, 1, 2] [] rfl rfl (by decide) (by decide) hk1 hFc (WLD.P hB ht) hB.2
        have hP : va_P (dC, dI) vwCl [(h_p0, .inr (7, [.ref h_p0_now, .ref h_p0_then, .ref h_p0_past, .int r10.1, .ref h_p0_text, .int v_typed, .int (iI 0), .int v_at, .int v_isFault, .ref h_p0_told, .int v_tolds, .int v_one, .int v_other, .int v_change, .int v_woken])), (h_p0_now, .inl (cyI, 452, .inl v_now)), (h_p0_past, .inl (cyI, 2712, .inl r10.2))] H := hP
        have hD : va_D A [(h_p0, .inr (7, [.ref h_p0_now, .ref h_p0_then, .ref h_p0_past, .int r10.1, .ref h_p0_text, .int v_typed, .int (iI 0), .int v_at, .int v_isFault, .ref h_p0_told, .int v_tolds, .int v_one, .int v_other, .int v_change, .int v_woken])), (h_p0_now, .inl (cyI, 452, .inl v_now)), (h_p0_past, .inl (cyI, 2712, .inl r10.2))] := hD
        refine lv_aload_n hx hb dX7_set_50 rfl (lv_at hl 0 rfl) ?_
        refine lv_iload_n hx hb dX7_set_51 rfl (lv_at hl 1 rfl) ?_
        refine lv_iload_n hx hb dX7_set_52 rfl (lv_at hl 2 rfl) ?_
        obtain ⟨r13, e14, h⟩ := bsome h
        have hPc := sb_P [(h_p0, .inr (7, [.ref h_p0_now, .ref h_p0_then, .ref h_p0_past, .int r10.1, .ref h_p0_text, .int v_typed, .int (iI 0), .int v_at, .int v_isFault, .ref h_p0_told, .int v_tolds, .int v_one, .int v_other, .int v_change, .int v_woken])), (h_p0_now, .inl (cyI, 452, .inl v_now))] hP [0, 1] rfl
        have hDc := sb_D [(h_p0, .inr (7, [.ref h_p0_now, .ref h_p0_then, .ref h_p0_past, .int r10.1, .ref h_p0_text, .int v_typed, .int (iI 0), .int v_at, .int v_isFault, .ref h_p0_told, .int v_tolds, .int v_one, .int v_other, .int v_change, .int v_woken])), (h_p0_now, .inl (cyI, 452, .inl v_now))] hD [0, 1] (by decide) rfl
        have hFc := va_free (wc := [(h_p0, .inr (7, [.ref h_p0_now, .ref h_p0_then, .ref h_p0_past, .int r10.1, .ref h_p0_text, .int v_typed, .int (iI 0), .int v_at, .int v_isFault, .ref h_p0_told, .int v_tolds, .int v_one, .int v_other, .int v_change, .int v_woken])), (h_p0_now, .inl (cyI, 452, .inl v_now))]) hD hS hA [0, 1] rfl
        refine va_calli (va_runV (As := [.int a1, .int a2]) (rest := []) ⟨hx, hb, hml, hown, hts⟩ (c_X7_changes l dC dI cyI cyJ cyT h_p0 h_p0_now h_p0_then h_p0_past h_p0_text h_p0_told H.size r10.1 v_typed (iI 0) v_at v_isFault v_tolds v_one v_other v_change v_woken v_now a1 a2 r13 e14) (cwV 2 hts gX7_set_X7_changes rfl rfl rfl (by decide +kernel) ⟨Nat.le_of_ble_eq_true rfl, Nat.le_of_ble_eq_true rfl⟩) ⟨PRE.blind, va_recv hK hPc (ci := 7) (q0 := 0) rfl rfl, PRE.go hK hPc hDc hNW⟩ rfl rfl hl.1 rfl (lv_room (Nat.le_of_ble_eq_true rfl)) dX7_set_53 ⟨Nat.zero_le _, Nat.zero_le _⟩) hS (fun q _ h => hFc q h) hFc (fun z15 u t H locs ht hvm hw hB hz1 hk1 hS => ?_)
        subst z15
        obtain ⟨hP, hD⟩ := va_join (wr := [(h_p0_past, .inl (cyI, 2712, .inl r10.2))]) (w1 := [(h_p0, .inr (7, [.ref h_p0_now, .ref h_p0_then, .ref h_p0_past, .int r10.1, .ref h_p0_text, .int v_typed, .int (iI 0), .int v_at, .int v_isFault, .ref h_p0_told, .int v_tolds, .int v_one, .int v_other, .int v_change, .int v_woken])), (h_p0_now, .inl (cyI, 452, .inl r13.2))]) hP hD [0, 1] [2] rfl rfl (by decide) (by decide) hk1 hFc (WLD.P hB ht) hB.2
        have hP : va_P (dC, dI) vwCl [(h_p0_past, .inl (cyI, 2712, .inl r10.2)), (h_p0, .inr (7, [.ref h_p0_now, .ref h_p0_then, .ref h_p0_past, .int r10.1, .ref h_p0_text, .int v_typed, .int (iI 0), .int v_at, .int v_isFault, .ref h_p0_told, .int v_tolds, .int v_one, .int v_other, .int v_change, .int v_woken])), (h_p0_now, .inl (cyI, 452, .inl r13.2))] H := hP
        have hD : va_D A [(h_p0_past, .inl (cyI, 2712, .inl r10.2)), (h_p0, .inr (7, [.ref h_p0_now, .ref h_p0_then, .ref h_p0_past, .int r10.1, .ref h_p0_text, .int v_typed, .int (iI 0), .int v_at, .int v_isFault, .ref h_p0_told, .int v_tolds, .int v_one, .int v_other, .int v_change, .int v_woken])), (h_p0_now, .inl (cyI, 452, .inl r13.2))] := hD
        obtain rfl := Option.some.inj h
        exact W.iret (v := r13.1) hx hb hr (fun t ht hW => ⟨⟨r13.1, (), rfl, rfl, WLD.of ht (sb_P [(h_p0, .inr (7, [.ref h_p0_now, .ref h_p0_then, .ref h_p0_past, .int r10.1, .ref h_p0_text, .int v_typed, .int (iI 0), .int v_at, .int v_isFault, .ref h_p0_told, .int v_tolds, .int v_one, .int v_other, .int v_change, .int v_woken])), (h_p0_now, .inl (cyI, 452, .inl r13.2)), (h_p0_past, .inl (cyI, 2712, .inl r10.2))] hP [1, 2, 0] rfl) (sb_D [(h_p0, .inr (7, [.ref h_p0_now, .ref h_p0_then, .ref h_p0_past, .int r10.1, .ref h_p0_text, .int v_typed, .int (iI 0), .int v_at, .int v_isFault, .ref h_p0_told, .int v_tolds, .int v_one, .int v_other, .int v_change, .int v_woken])), (h_p0_now, .inl (cyI, 452, .inl r13.2)), (h_p0_past, .inl (cyI, 2712, .inl r10.2))] hD [1, 2, 0] (by decide) rfl)⟩, hS.F ht⟩) hS.2.2 dX7_set_56
      · have h := ipos c9 h
        refine lv_aload_n hx hb dX7_set_40 rfl (lv_at hl 0 rfl) ?_
        refine lv_iconst (v := iI 2) hx hb dX7_set_41 rfl ?_
        obtain ⟨r16, e17, h⟩ := bsome h
        have hPc := sb_P [(h_p0, .inr (7, [.ref h_p0_now, .ref h_p0_then, .ref h_p0_past, .int v_kept, .ref h_p0_text, .int v_typed, .int (iI 0), .int v_at, .int v_isFault, .ref h_p0_told, .int v_tolds, .int v_one, .int v_other, .int v_change, .int v_woken]))] hP [0] rfl
        have hDc := sb_D [(h_p0, .inr (7, [.ref h_p0_now, .ref h_p0_then, .ref h_p0_past, .int v_kept, .ref h_p0_text, .int v_typed, .int (iI 0), .int v_at, .int v_isFault, .ref h_p0_told, .int v_tolds, .int v_one, .int v_other, .int v_change, .int v_woken]))] hD [0] (by decide) rfl
        have hFc := va_free (wc := [(h_p0, .inr (7, [.ref h_p0_now, .ref h_p0_then, .ref h_p0_past, .int v_kept, .ref h_p0_text, .int v_typed, .int (iI 0), .int v_at, .int v_isFault, .ref h_p0_told, .int v_tolds, .int v_one, .int v_other, .int v_change, .int v_woken]))]) hD hS hA [0] rfl
        refine va_calli (va_runV (As := [.int (iI 2)]) (rest := []) ⟨hx, hb, hml, hown, hts⟩ (c_X7_fails l dC dI cyI cyJ cyT h_p0 h_p0_now h_p0_then h_p0_past h_p0_text h_p0_told H.size v_kept v_typed (iI 0) v_at v_isFault v_tolds v_one v_other v_change v_woken (iI 2) r16 e17) (cwV 1 hts gX7_set_X7_fails rfl rfl rfl (by decide +kernel) ⟨Nat.le_of_ble_eq_true rfl, Nat.le_of_ble_eq_true rfl⟩) ⟨PRE.blind, va_recv hK hPc (ci := 7) (q0 := 0) rfl rfl, PRE.go hK hPc hDc hNW⟩ rfl rfl hl.1 rfl (lv_room (Nat.le_of_ble_eq_true rfl)) dX7_set_42 ⟨Nat.zero_le _, Nat.zero_le _⟩) hS (fun q _ h => hFc q h) hFc (fun z18 u t H locs ht hvm hw hB hz1 hk1 hS => ?_)
        subst z18
        obtain ⟨hP, hD⟩ := va_join (wr := [(h_p0_now, .inl (cyI, 452, .inl v_now)), (h_p0_past, .inl (cyI, 2712, .inl v_past))]) (w1 := [(h_p0, .inr (7, [.ref h_p0_now, .ref h_p0_then, .ref h_p0_past, .int v_kept, .ref h_p0_text, .int v_typed, .int r16.2, .int v_at, .int v_isFault, .ref h_p0_told, .int v_tolds, .int v_one, .int v_other, .int v_change, .int v_woken]))]) hP hD [0] [1, 2] rfl rfl (by decide) (by decide) hk1 hFc (WLD.P hB ht) hB.2
        have hP : va_P (dC, dI) vwCl [(h_p0_now, .inl (cyI, 452, .inl v_now)), (h_p0_past, .inl (cyI, 2712, .inl v_past)), (h_p0, .inr (7, [.ref h_p0_now, .ref h_p0_then, .ref h_p0_past, .int v_kept, .ref h_p0_text, .int v_typed, .int r16.2, .int v_at, .int v_isFault, .ref h_p0_told, .int v_tolds, .int v_one, .int v_other, .int v_change, .int v_woken]))] H := hP
        have hD : va_D A [(h_p0_now, .inl (cyI, 452, .inl v_now)), (h_p0_past, .inl (cyI, 2712, .inl v_past)), (h_p0, .inr (7, [.ref h_p0_now, .ref h_p0_then, .ref h_p0_past, .int v_kept, .ref h_p0_text, .int v_typed, .int r16.2, .int v_at, .int v_isFault, .ref h_p0_told, .int v_tolds, .int v_one, .int v_other, .int v_change, .int v_woken]))] := hD
        obtain rfl := Option.some.inj h
        exact W.iret (v := r16.1) hx hb hr (fun t ht hW => ⟨⟨r16.1, (), rfl, rfl, WLD.of ht (sb_P [(h_p0, .inr (7, [.ref h_p0_now, .ref h_p0_then, .ref h_p0_past, .int v_kept, .ref h_p0_text, .int v_typed, .int r16.2, .int v_at, .int v_isFault, .ref h_p0_told, .int v_tolds, .int v_one, .int v_other, .int v_change, .int v_woken])), (h_p0_now, .inl (cyI, 452, .inl v_now)), (h_p0_past, .inl (cyI, 2712, .inl v_past))] hP [2, 0, 1] rfl) (sb_D [(h_p0, .inr (7, [.ref h_p0_now, .ref h_p0_then, .ref h_p0_past, .int v_kept, .ref h_p0_text, .int v_typed, .int r16.2, .int v_at, .int v_isFault, .ref h_p0_told, .int v_tolds, .int v_one, .int v_other, .int v_change, .int v_woken])), (h_p0_now, .inl (cyI, 452, .inl v_now)), (h_p0_past, .inl (cyI, 2712, .inl v_past))] hD [2, 0, 1] (by decide) rfl)⟩, hS.F ht⟩) hS.2.2 dX7_set_45
    · have h := ipos c5 h
      refine lv_bipush (v := iI 50) hx hb dX7_set_27 (by decide) ?_
      refine lv_goto (tgt := 34) hx hb dX7_set_29 (by decide) ?_
      obtain ⟨r19, e20, h⟩ := bsome h
      have hPc := sb_P [] hP [] rfl
      have hDc := sb_D [] hD [] (by decide) rfl
      have hFc := va_free (wc := []) hD hS hA [] rfl
      refine va_calli (va_runS (As := [.int a2, .int (iI 0), .int (iI 50)]) (rest := []) ⟨hx, hb, hml, hown, hts⟩ (c_X7_in l dC dI cyI cyJ cyT H.size a2 (iI 0) (iI 50) r19 e20) (va_cwS 3 hts gX7_set_X7_in rfl rfl rfl (by decide +kernel) ⟨Nat.le_of_ble_eq_true rfl, Nat.le_of_ble_eq_true rfl⟩) ⟨PRE.blind, PRE.go hK hPc hDc hNW⟩ rfl rfl hl.1 rfl (lv_room (Nat.le_of_ble_eq_true rfl)) dX7_set_34 ⟨Nat.zero_le _, Nat.zero_le _⟩) hS (fun q _ h => hFc q h) hFc (fun z21 u t H locs ht hvm hw hB hz1 hk1 hS => ?_)
      subst z21
      obtain ⟨hP, hD⟩ := va_join (wr := [(h_p0, .inr (7, [.ref h_p0_now, .ref h_p0_then, .ref h_p0_past, .int v_kept, .ref h_p0_text, .int v_typed, .int (iI 0), .int v_at, .int v_isFault, .ref h_p0_told, .int v_tolds, .int v_one, .int v_other, .int v_change, .int v_woken])), (h_p0_now, .inl (cyI, 452, .inl v_now)), (h_p0_past, .inl (cyI, 2712, .inl v_past))]) (w1 := []) hP hD [] [0, 1, 2] rfl rfl (by decide) (by decide) hk1 hFc (WLD.P hB ht) hB.2
      have hP : va_P (dC, dI) vwCl [(h_p0, .inr (7, [.ref h_p0_now, .ref h_p0_then, .ref h_p0_past, .int v_kept, .ref h_p0_text, .int v_typed, .int (iI 0), .int v_at, .int v_isFault, .ref h_p0_told, .int v_tolds, .int v_one, .int v_other, .int v_change, .int v_woken])), (h_p0_now, .inl (cyI, 452, .inl v_now)), (h_p0_past, .inl (cyI, 2712, .inl v_past))] H := hP
      have hD : va_D A [(h_p0, .inr (7, [.ref h_p0_now, .ref h_p0_then, .ref h_p0_past, .int v_kept, .ref h_p0_text, .int v_typed, .int (iI 0), .int v_at, .int v_isFault, .ref h_p0_told, .int v_tolds, .int v_one, .int v_other, .int v_change, .int v_woken])), (h_p0_now, .inl (cyI, 452, .inl v_now)), (h_p0_past, .inl (cyI, 2712, .inl v_past))] := hD
      refine lv_if_ne (tgt := 46) hx hb dX7_set_37 (by decide) (fun c22 => ?_) (fun c22 => ?_)
      · have h := ineg c22 h
        refine lv_aload_n hx hb dX7_set_46 rfl (lv_at hl 0 rfl) ?_
        obtain ⟨r23, e24, h⟩ := bsome h
        have hPc := sb_P [(h_p0, .inr (7, [.ref h_p0_now, .ref h_p0_then, .ref h_p0_past, .int v_kept, .ref h_p0_text, .int v_typed, .int (iI 0), .int v_at, .int v_isFault, .ref h_p0_told, .int v_tolds, .int v_one, .int v_other, .int v_change, .int v_woken])), (h_p0_now, .inl (cyI, 452, .inl v_now)), (h_p0_past, .inl (cyI, 2712, .inl v_past))] hP [0, 1, 2] rfl
        have hDc := sb_D [(h_p0, .inr (7, [.ref h_p0_now, .ref h_p0_then, .ref h_p0_past, .int v_kept, .ref h_p0_text, .int v_typed, .int (iI 0), .int v_at, .int v_isFault, .ref h_p0_told, .int v_tolds, .int v_one, .int v_other, .int v_change, .int v_woken])), (h_p0_now, .inl (cyI, 452, .inl v_now)), (h_p0_past, .inl (cyI, 2712, .inl v_past))] hD [0, 1, 2] (by decide) rfl
        have hFc := va_free (wc := [(h_p0, .inr (7, [.ref h_p0_now, .ref h_p0_then, .ref h_p0_past, .int v_kept, .ref h_p0_text, .int v_typed, .int (iI 0), .int v_at, .int v_isFault, .ref h_p0_told, .int v_tolds, .int v_one, .int v_other, .int v_change, .int v_woken])), (h_p0_now, .inl (cyI, 452, .inl v_now)), (h_p0_past, .inl (cyI, 2712, .inl v_past))]) hD hS hA [0, 1, 2] rfl
        refine va_callv (va_runV (As := []) (rest := []) ⟨hx, hb, hml, hown, hts⟩ (c_X7_saves l dC dI cyI cyJ cyT h_p0 h_p0_now h_p0_then h_p0_past h_p0_text h_p0_told H.size v_kept v_typed (iI 0) v_at v_isFault v_tolds v_one v_other v_change v_woken v_now v_past n r23 e24) (cwV 0 hts gX7_set_X7_saves rfl rfl rfl (by decide +kernel) ⟨Nat.le_of_ble_eq_true rfl, Nat.le_of_ble_eq_true rfl⟩) ⟨PRE.blind, va_recv hK hPc (ci := 7) (q0 := 0) rfl rfl, PRE.go hK hPc hDc hNW⟩ rfl rfl hl.1 rfl (lv_room (Nat.le_of_ble_eq_true rfl)) dX7_set_47 ⟨Nat.zero_le _, Nat.zero_le _⟩) hS (fun q _ h => hFc q h) hFc (fun u t H locs ht hvm hw hB hz1 hk1 hS => ?_)
        obtain ⟨hP, hD⟩ := va_join (wr := []) (w1 := [(h_p0, .inr (7, [.ref h_p0_now, .ref h_p0_then, .ref h_p0_past, .int r23.1, .ref h_p0_text, .int v_typed, .int (iI 0), .int v_at, .int v_isFault, .ref h_p0_told, .int v_tolds, .int v_one, .int v_other, .int v_change, .int v_woken])), (h_p0_now, .inl (cyI, 452, .inl v_now)), (h_p0_past, .inl (cyI, 2712, .inl r23.2))]) hP hD [0, 1, 2] [] rfl rfl (by decide) (by decide) hk1 hFc (WLD.P hB ht) hB.2
        have hP : va_P (dC, dI) vwCl [(h_p0, .inr (7, [.ref h_p0_now, .ref h_p0_then, .ref h_p0_past, .int r23.1, .ref h_p0_text, .int v_typed, .int (iI 0), .int v_at, .int v_isFault, .ref h_p0_told, .int v_tolds, .int v_one, .int v_other, .int v_change, .int v_woken])), (h_p0_now, .inl (cyI, 452, .inl v_now)), (h_p0_past, .inl (cyI, 2712, .inl r23.2))] H := hP
        have hD : va_D A [(h_p0, .inr (7, [.ref h_p0_now, .ref h_p0_then, .ref h_p0_past, .int r23.1, .ref h_p0_text, .int v_typed, .int (iI 0), .int v_at, .int v_isFault, .ref h_p0_told, .int v_tolds, .int v_one, .int v_other, .int v_change, .int v_woken])), (h_p0_now, .inl (cyI, 452, .inl v_now)), (h_p0_past, .inl (cyI, 2712, .inl r23.2))] := hD
        refine lv_aload_n hx hb dX7_set_50 rfl (lv_at hl 0 rfl) ?_
        refine lv_iload_n hx hb dX7_set_51 rfl (lv_at hl 1 rfl) ?_
        refine lv_iload_n hx hb dX7_set_52 rfl (lv_at hl 2 rfl) ?_
        obtain ⟨r26, e27, h⟩ := bsome h
        have hPc := sb_P [(h_p0, .inr (7, [.ref h_p0_now, .ref h_p0_then, .ref h_p0_past, .int r23.1, .ref h_p0_text, .int v_typed, .int (iI 0), .int v_at, .int v_isFault, .ref h_p0_told, .int v_tolds, .int v_one, .int v_other, .int v_change, .int v_woken])), (h_p0_now, .inl (cyI, 452, .inl v_now))] hP [0, 1] rfl
        have hDc := sb_D [(h_p0, .inr (7, [.ref h_p0_now, .ref h_p0_then, .ref h_p0_past, .int r23.1, .ref h_p0_text, .int v_typed, .int (iI 0), .int v_at, .int v_isFault, .ref h_p0_told, .int v_tolds, .int v_one, .int v_other, .int v_change, .int v_woken])), (h_p0_now, .inl (cyI, 452, .inl v_now))] hD [0, 1] (by decide) rfl
        have hFc := va_free (wc := [(h_p0, .inr (7, [.ref h_p0_now, .ref h_p0_then, .ref h_p0_past, .int r23.1, .ref h_p0_text, .int v_typed, .int (iI 0), .int v_at, .int v_isFault, .ref h_p0_told, .int v_tolds, .int v_one, .int v_other, .int v_change, .int v_woken])), (h_p0_now, .inl (cyI, 452, .inl v_now))]) hD hS hA [0, 1] rfl
        refine va_calli (va_runV (As := [.int a1, .int a2]) (rest := []) ⟨hx, hb, hml, hown, hts⟩ (c_X7_changes l dC dI cyI cyJ cyT h_p0 h_p0_now h_p0_then h_p0_past h_p0_text h_p0_told H.size r23.1 v_typed (iI 0) v_at v_isFault v_tolds v_one v_other v_change v_woken v_now a1 a2 r26 e27) (cwV 2 hts gX7_set_X7_changes rfl rfl rfl (by decide +kernel) ⟨Nat.le_of_ble_eq_true rfl, Nat.le_of_ble_eq_true rfl⟩) ⟨PRE.blind, va_recv hK hPc (ci := 7) (q0 := 0) rfl rfl, PRE.go hK hPc hDc hNW⟩ rfl rfl hl.1 rfl (lv_room (Nat.le_of_ble_eq_true rfl)) dX7_set_53 ⟨Nat.zero_le _, Nat.zero_le _⟩) hS (fun q _ h => hFc q h) hFc (fun z28 u t H locs ht hvm hw hB hz1 hk1 hS => ?_)
        subst z28
        obtain ⟨hP, hD⟩ := va_join (wr := [(h_p0_past, .inl (cyI, 2712, .inl r23.2))]) (w1 := [(h_p0, .inr (7, [.ref h_p0_now, .ref h_p0_then, .ref h_p0_past, .int r23.1, .ref h_p0_text, .int v_typed, .int (iI 0), .int v_at, .int v_isFault, .ref h_p0_told, .int v_tolds, .int v_one, .int v_other, .int v_change, .int v_woken])), (h_p0_now, .inl (cyI, 452, .inl r26.2))]) hP hD [0, 1] [2] rfl rfl (by decide) (by decide) hk1 hFc (WLD.P hB ht) hB.2
        have hP : va_P (dC, dI) vwCl [(h_p0_past, .inl (cyI, 2712, .inl r23.2)), (h_p0, .inr (7, [.ref h_p0_now, .ref h_p0_then, .ref h_p0_past, .int r23.1, .ref h_p0_text, .int v_typed, .int (iI 0), .int v_at, .int v_isFault, .ref h_p0_told, .int v_tolds, .int v_one, .int v_other, .int v_change, .int v_woken])), (h_p0_now, .inl (cyI, 452, .inl r26.2))] H := hP
        have hD : va_D A [(h_p0_past, .inl (cyI, 2712, .inl r23.2)), (h_p0, .inr (7, [.ref h_p0_now, .ref h_p0_then, .ref h_p0_past, .int r23.1, .ref h_p0_text, .int v_typed, .int (iI 0), .int v_at, .int v_isFault, .ref h_p0_told, .int v_tolds, .int v_one, .int v_other, .int v_change, .int v_woken])), (h_p0_now, .inl (cyI, 452, .inl r26.2))] := hD
        obtain rfl := Option.some.inj h
        exact W.iret (v := r26.1) hx hb hr (fun t ht hW => ⟨⟨r26.1, (), rfl, rfl, WLD.of ht (sb_P [(h_p0, .inr (7, [.ref h_p0_now, .ref h_p0_then, .ref h_p0_past, .int r23.1, .ref h_p0_text, .int v_typed, .int (iI 0), .int v_at, .int v_isFault, .ref h_p0_told, .int v_tolds, .int v_one, .int v_other, .int v_change, .int v_woken])), (h_p0_now, .inl (cyI, 452, .inl r26.2)), (h_p0_past, .inl (cyI, 2712, .inl r23.2))] hP [1, 2, 0] rfl) (sb_D [(h_p0, .inr (7, [.ref h_p0_now, .ref h_p0_then, .ref h_p0_past, .int r23.1, .ref h_p0_text, .int v_typed, .int (iI 0), .int v_at, .int v_isFault, .ref h_p0_told, .int v_tolds, .int v_one, .int v_other, .int v_change, .int v_woken])), (h_p0_now, .inl (cyI, 452, .inl r26.2)), (h_p0_past, .inl (cyI, 2712, .inl r23.2))] hD [1, 2, 0] (by decide) rfl)⟩, hS.F ht⟩) hS.2.2 dX7_set_56
      · have h := ipos c22 h
        refine lv_aload_n hx hb dX7_set_40 rfl (lv_at hl 0 rfl) ?_
        refine lv_iconst (v := iI 2) hx hb dX7_set_41 rfl ?_
        obtain ⟨r29, e30, h⟩ := bsome h
        have hPc := sb_P [(h_p0, .inr (7, [.ref h_p0_now, .ref h_p0_then, .ref h_p0_past, .int v_kept, .ref h_p0_text, .int v_typed, .int (iI 0), .int v_at, .int v_isFault, .ref h_p0_told, .int v_tolds, .int v_one, .int v_other, .int v_change, .int v_woken]))] hP [0] rfl
        have hDc := sb_D [(h_p0, .inr (7, [.ref h_p0_now, .ref h_p0_then, .ref h_p0_past, .int v_kept, .ref h_p0_text, .int v_typed, .int (iI 0), .int v_at, .int v_isFault, .ref h_p0_told, .int v_tolds, .int v_one, .int v_other, .int v_change, .int v_woken]))] hD [0] (by decide) rfl
        have hFc := va_free (wc := [(h_p0, .inr (7, [.ref h_p0_now, .ref h_p0_then, .ref h_p0_past, .int v_kept, .ref h_p0_text, .int v_typed, .int (iI 0), .int v_at, .int v_isFault, .ref h_p0_told, .int v_tolds, .int v_one, .int v_other, .int v_change, .int v_woken]))]) hD hS hA [0] rfl
        refine va_calli (va_runV (As := [.int (iI 2)]) (rest := []) ⟨hx, hb, hml, hown, hts⟩ (c_X7_fails l dC dI cyI cyJ cyT h_p0 h_p0_now h_p0_then h_p0_past h_p0_text h_p0_told H.size v_kept v_typed (iI 0) v_at v_isFault v_tolds v_one v_other v_change v_woken (iI 2) r29 e30) (cwV 1 hts gX7_set_X7_fails rfl rfl rfl (by decide +kernel) ⟨Nat.le_of_ble_eq_true rfl, Nat.le_of_ble_eq_true rfl⟩) ⟨PRE.blind, va_recv hK hPc (ci := 7) (q0 := 0) rfl rfl, PRE.go hK hPc hDc hNW⟩ rfl rfl hl.1 rfl (lv_room (Nat.le_of_ble_eq_true rfl)) dX7_set_42 ⟨Nat.zero_le _, Nat.zero_le _⟩) hS (fun q _ h => hFc q h) hFc (fun z31 u t H locs ht hvm hw hB hz1 hk1 hS => ?_)
        subst z31
        obtain ⟨hP, hD⟩ := va_join (wr := [(h_p0_now, .inl (cyI, 452, .inl v_now)), (h_p0_past, .inl (cyI, 2712, .inl v_past))]) (w1 := [(h_p0, .inr (7, [.ref h_p0_now, .ref h_p0_then, .ref h_p0_past, .int v_kept, .ref h_p0_text, .int v_typed, .int r29.2, .int v_at, .int v_isFault, .ref h_p0_told, .int v_tolds, .int v_one, .int v_other, .int v_change, .int v_woken]))]) hP hD [0] [1, 2] rfl rfl (by decide) (by decide) hk1 hFc (WLD.P hB ht) hB.2
        have hP : va_P (dC, dI) vwCl [(h_p0_now, .inl (cyI, 452, .inl v_now)), (h_p0_past, .inl (cyI, 2712, .inl v_past)), (h_p0, .inr (7, [.ref h_p0_now, .ref h_p0_then, .ref h_p0_past, .int v_kept, .ref h_p0_text, .int v_typed, .int r29.2, .int v_at, .int v_isFault, .ref h_p0_told, .int v_tolds, .int v_one, .int v_other, .int v_change, .int v_woken]))] H := hP
        have hD : va_D A [(h_p0_now, .inl (cyI, 452, .inl v_now)), (h_p0_past, .inl (cyI, 2712, .inl v_past)), (h_p0, .inr (7, [.ref h_p0_now, .ref h_p0_then, .ref h_p0_past, .int v_kept, .ref h_p0_text, .int v_typed, .int r29.2, .int v_at, .int v_isFault, .ref h_p0_told, .int v_tolds, .int v_one, .int v_other, .int v_change, .int v_woken]))] := hD
        obtain rfl := Option.some.inj h
        exact W.iret (v := r29.1) hx hb hr (fun t ht hW => ⟨⟨r29.1, (), rfl, rfl, WLD.of ht (sb_P [(h_p0, .inr (7, [.ref h_p0_now, .ref h_p0_then, .ref h_p0_past, .int v_kept, .ref h_p0_text, .int v_typed, .int r29.2, .int v_at, .int v_isFault, .ref h_p0_told, .int v_tolds, .int v_one, .int v_other, .int v_change, .int v_woken])), (h_p0_now, .inl (cyI, 452, .inl v_now)), (h_p0_past, .inl (cyI, 2712, .inl v_past))] hP [2, 0, 1] rfl) (sb_D [(h_p0, .inr (7, [.ref h_p0_now, .ref h_p0_then, .ref h_p0_past, .int v_kept, .ref h_p0_text, .int v_typed, .int r29.2, .int v_at, .int v_isFault, .ref h_p0_told, .int v_tolds, .int v_one, .int v_other, .int v_change, .int v_woken])), (h_p0_now, .inl (cyI, 452, .inl v_now)), (h_p0_past, .inl (cyI, 2712, .inl v_past))] hD [2, 0, 1] (by decide) rfl)⟩, hS.F ht⟩) hS.2.2 dX7_set_45
  · have h := ipos c4 h
    refine lv_aload_n hx hb dX7_set_14 rfl (lv_at hl 0 rfl) ?_
    refine lv_iconst (v := iI 1) hx hb dX7_set_15 rfl ?_
    obtain ⟨r32, e33, h⟩ := bsome h
    have hPc := sb_P [(h_p0, .inr (7, [.ref h_p0_now, .ref h_p0_then, .ref h_p0_past, .int v_kept, .ref h_p0_text, .int v_typed, .int (iI 0), .int v_at, .int v_isFault, .ref h_p0_told, .int v_tolds, .int v_one, .int v_other, .int v_change, .int v_woken]))] hP [0] rfl
    have hDc := sb_D [(h_p0, .inr (7, [.ref h_p0_now, .ref h_p0_then, .ref h_p0_past, .int v_kept, .ref h_p0_text, .int v_typed, .int (iI 0), .int v_at, .int v_isFault, .ref h_p0_told, .int v_tolds, .int v_one, .int v_other, .int v_change, .int v_woken]))] hD [0] (by decide) rfl
    have hFc := va_free (wc := [(h_p0, .inr (7, [.ref h_p0_now, .ref h_p0_then, .ref h_p0_past, .int v_kept, .ref h_p0_text, .int v_typed, .int (iI 0), .int v_at, .int v_isFault, .ref h_p0_told, .int v_tolds, .int v_one, .int v_other, .int v_change, .int v_woken]))]) hD hS hA [0] rfl
    refine va_calli (va_runV (As := [.int (iI 1)]) (rest := []) ⟨hx, hb, hml, hown, hts⟩ (c_X7_fails l dC dI cyI cyJ cyT h_p0 h_p0_now h_p0_then h_p0_past h_p0_text h_p0_told H.size v_kept v_typed (iI 0) v_at v_isFault v_tolds v_one v_other v_change v_woken (iI 1) r32 e33) (cwV 1 hts gX7_set_X7_fails rfl rfl rfl (by decide +kernel) ⟨Nat.le_of_ble_eq_true rfl, Nat.le_of_ble_eq_true rfl⟩) ⟨PRE.blind, va_recv hK hPc (ci := 7) (q0 := 0) rfl rfl, PRE.go hK hPc hDc hNW⟩ rfl rfl hl.1 rfl (lv_room (Nat.le_of_ble_eq_true rfl)) dX7_set_16 ⟨Nat.zero_le _, Nat.zero_le _⟩) hS (fun q _ h => hFc q h) hFc (fun z34 u t H locs ht hvm hw hB hz1 hk1 hS => ?_)
    subst z34
    obtain ⟨hP, hD⟩ := va_join (wr := [(h_p0_now, .inl (cyI, 452, .inl v_now)), (h_p0_past, .inl (cyI, 2712, .inl v_past))]) (w1 := [(h_p0, .inr (7, [.ref h_p0_now, .ref h_p0_then, .ref h_p0_past, .int v_kept, .ref h_p0_text, .int v_typed, .int r32.2, .int v_at, .int v_isFault, .ref h_p0_told, .int v_tolds, .int v_one, .int v_other, .int v_change, .int v_woken]))]) hP hD [0] [1, 2] rfl rfl (by decide) (by decide) hk1 hFc (WLD.P hB ht) hB.2
    have hP : va_P (dC, dI) vwCl [(h_p0_now, .inl (cyI, 452, .inl v_now)), (h_p0_past, .inl (cyI, 2712, .inl v_past)), (h_p0, .inr (7, [.ref h_p0_now, .ref h_p0_then, .ref h_p0_past, .int v_kept, .ref h_p0_text, .int v_typed, .int r32.2, .int v_at, .int v_isFault, .ref h_p0_told, .int v_tolds, .int v_one, .int v_other, .int v_change, .int v_woken]))] H := hP
    have hD : va_D A [(h_p0_now, .inl (cyI, 452, .inl v_now)), (h_p0_past, .inl (cyI, 2712, .inl v_past)), (h_p0, .inr (7, [.ref h_p0_now, .ref h_p0_then, .ref h_p0_past, .int v_kept, .ref h_p0_text, .int v_typed, .int r32.2, .int v_at, .int v_isFault, .ref h_p0_told, .int v_tolds, .int v_one, .int v_other, .int v_change, .int v_woken]))] := hD
    obtain rfl := Option.some.inj h
    exact W.iret (v := r32.1) hx hb hr (fun t ht hW => ⟨⟨r32.1, (), rfl, rfl, WLD.of ht (sb_P [(h_p0, .inr (7, [.ref h_p0_now, .ref h_p0_then, .ref h_p0_past, .int v_kept, .ref h_p0_text, .int v_typed, .int r32.2, .int v_at, .int v_isFault, .ref h_p0_told, .int v_tolds, .int v_one, .int v_other, .int v_change, .int v_woken])), (h_p0_now, .inl (cyI, 452, .inl v_now)), (h_p0_past, .inl (cyI, 2712, .inl v_past))] hP [2, 0, 1] rfl) (sb_D [(h_p0, .inr (7, [.ref h_p0_now, .ref h_p0_then, .ref h_p0_past, .int v_kept, .ref h_p0_text, .int v_typed, .int r32.2, .int v_at, .int v_isFault, .ref h_p0_told, .int v_tolds, .int v_one, .int v_other, .int v_change, .int v_woken])), (h_p0_now, .inl (cyI, 452, .inl v_now)), (h_p0_past, .inl (cyI, 2712, .inl v_past))] hD [2, 0, 1] (by decide) rfl)⟩, hS.F ht⟩) hS.2.2 dX7_set_19
def s_X7_append (v_typed : Int32) (v_thrown : Int32) (v_text : Nat → Int32) (a1 : Int32) : Option (Int32 × Int32 × Int32 × (Nat → Int32)) := ((s_X7_in a1 (iI 33) (iI 126)).bind fun r1 => (if r1 = 0 then ((s_X7_fails (iI 0) (iI 1)).bind fun r10 => (some (r10.1, v_typed, r10.2, v_text))) else (if v_typed = iI 60 then ((s_X7_fails (iI 0) (iI 2)).bind fun r7 => (some (r7.1, v_typed, r7.2, v_text))) else (if gd v_typed 60 = true then (some ((v_typed + iI 1), (v_typed + iI 1), iI 0, (upd v_text v_typed.toNatClampNeg a1))) else none))))
set_option maxRecDepth 20000 in
theorem m_X7_append_0 : ∀ w ∈ u_ws RX7 TX7 15, w ∈ wsX7_append := by decide +kernel
set_option maxRecDepth 20000 in
theorem m_X7_append_1 : (.fieldLink RX7 25 "SleeperBerthsModel" "thrown" "I" : Cond) ∈ wsX7_append := by decide +kernel
set_option maxRecDepth 20000 in
theorem m_X7_append_2 : (.fieldLink RX7 139 "SleeperBerthsModel" "typed" "I" : Cond) ∈ wsX7_append := by decide +kernel
set_option maxRecDepth 20000 in
theorem m_X7_append_3 : (.fieldLink RX7 19 "SleeperBerthsModel" "text" "[I" : Cond) ∈ wsX7_append := by decide +kernel
set_option maxHeartbeats 4000000 in
set_option maxRecDepth 100000 in
theorem c_X7_append (l : Launch) (dC : Nat → ClassId) (dI : Nat → Nat → Nat) (cyI cyJ cyT : ClassId) (h_p0 : Nat) (h_p0_now : Nat) (h_p0_then : Nat) (h_p0_past : Nat) (h_p0_text : Nat) (h_p0_told : Nat) (sz : Nat) (v_kept : Int32) (v_typed : Int32) (v_thrown : Int32) (v_at : Int32) (v_isFault : Int32) (v_tolds : Int32) (v_one : Int32) (v_other : Int32) (v_change : Int32) (v_woken : Int32) (v_text : Nat → Int32) (a1 : Int32) (o : Int32 × Int32 × Int32 × (Nat → Int32)) (h : s_X7_append v_typed v_thrown v_text a1 = some o) : Met l yX7_append wsX7_append ({ frames := 1, cells := 0, slots := 0, locals := 22 }) (va_Pc [.ref h_p0, .int a1] (PRE (dC, dI) (TYS cyI cyJ cyT) sz [(h_p0, .inr (7, [.ref h_p0_now, .ref h_p0_then, .ref h_p0_past, .int v_kept, .ref h_p0_text, .int v_typed, .int v_thrown, .int v_at, .int v_isFault, .ref h_p0_told, .int v_tolds, .int v_one, .int v_other, .int v_change, .int v_woken])), (h_p0_text, .inl (cyI, 60, .inl v_text))])) (va_Qi (S := Unit) (fun r _ => r = o.1) (fun _ t => WLD (dC, dI) (va_A [(h_p0, .inr (7, [.ref h_p0_now, .ref h_p0_then, .ref h_p0_past, .int v_kept, .ref h_p0_text, .int v_typed, .int v_thrown, .int v_at, .int v_isFault, .ref h_p0_told, .int v_tolds, .int v_one, .int v_other, .int v_change, .int v_woken])), (h_p0_text, .inl (cyI, 60, .inl v_text))] sz) [(h_p0, .inr (7, [.ref h_p0_now, .ref h_p0_then, .ref h_p0_past, .int v_kept, .ref h_p0_text, .int o.2.1, .int o.2.2.1, .int v_at, .int v_isFault, .ref h_p0_told, .int v_tolds, .int v_one, .int v_other, .int v_change, .int v_woken])), (h_p0_text, .inl (cyI, 60, .inl o.2.2.2))] t) (va_A [(h_p0, .inr (7, [.ref h_p0_now, .ref h_p0_then, .ref h_p0_past, .int v_kept, .ref h_p0_text, .int v_typed, .int v_thrown, .int v_at, .int v_isFault, .ref h_p0_told, .int v_tolds, .int v_one, .int v_other, .int v_change, .int v_woken])), (h_p0_text, .inl (cyI, 60, .inl v_text))] sz)) 0 0 (va_A [(h_p0, .inr (7, [.ref h_p0_now, .ref h_p0_then, .ref h_p0_past, .int v_kept, .ref h_p0_text, .int v_typed, .int v_thrown, .int v_at, .int v_isFault, .ref h_p0_told, .int v_tolds, .int v_one, .int v_other, .int v_change, .int v_woken])), (h_p0_text, .inl (cyI, 60, .inl v_text))] sz) := by
  refine Met.ofW (cc := cX7_append) (maxL := 2) (ret := (some .int)) (by decide) rfl ?_
  intro p e s m args below meth c s₁ B hml hv
  obtain ⟨rfl, hsz, hP, hK, hD0, hNW⟩ := hv
  have hx := B.exec
  have hb := B.bytes
  have hr := B.returns
  have hts := atoms_spec (ws := wsX7_append) B.pre
  have hown : s.vm.findClass RX7 = some m.cls := findClass_of_methodNamed B.named
  have hlocks := B.notSynchronized
  subst hsz
  have hD := hD0.self (sz := s.heap.size)
  generalize hAe : va_A [(h_p0, .inr (7, [.ref h_p0_now, .ref h_p0_then, .ref h_p0_past, .int v_kept, .ref h_p0_text, .int v_typed, .int v_thrown, .int v_at, .int v_isFault, .ref h_p0_told, .int v_tolds, .int v_one, .int v_other, .int v_change, .int v_woken])), (h_p0_text, .inl (cyI, 60, .inl v_text))] s.heap.size = A at hD ⊢
  have hA : ∀ q : Nat, s.heap.size ≤ q → A q := fun q h => by rw [← hAe]; exact Or.inr h
  have hS : va_S A s.heap s.heap [] := va_S.rf
  have hP : va_P (dC, dI) vwCl [(h_p0, .inr (7, [.ref h_p0_now, .ref h_p0_then, .ref h_p0_past, .int v_kept, .ref h_p0_text, .int v_typed, .int v_thrown, .int v_at, .int v_isFault, .ref h_p0_told, .int v_tolds, .int v_one, .int v_other, .int v_change, .int v_woken])), (h_p0_text, .inl (cyI, 60, .inl v_text))] s.heap := hP
  have hl := lv_entry ([.ref h_p0, .int a1]) (n := 2) (Nat.le_of_ble_eq_true rfl)
  rw [lg_entry_eq]
  generalize (lg_sl ([.ref h_p0, .int a1]) ++ List.replicate (2 - (lg_sl ([.ref h_p0, .int a1])).length) Slot.unset).toArray = ls at hl ⊢
  have hl : lv_has ls 2 [(0, .ref h_p0), (1, .int a1)] := hl
  unfold s_X7_append at h
  refine lv_aload_n hx hb dX7_append_0 rfl (lv_at hl 0 rfl) ?_
  refine lv_iconst (v := iI 0) hx hb dX7_append_1 rfl ?_
  refine va_put (D := (dC, dI)) (ci := 7) (v := .int (iI 0)) (ty := .int) (C := RX7) (T := TX7) (N := 15) hx hb hts m_X7_append_0 tyX7 tyX7_ok nmX7 hown hK hP hD hS 0 rfl rfl 6 (by decide) (hts (.fieldLink RX7 25 "SleeperBerthsModel" "thrown" "I") m_X7_append_1) (fun _ h9 => h9) rfl (by decide +kernel) rfl rfl (Nat.le_of_ble_eq_true rfl) dX7_append_2 (fun H locs hP hD hS => ?_)
  have hP : va_P (dC, dI) vwCl [(h_p0, .inr (7, [.ref h_p0_now, .ref h_p0_then, .ref h_p0_past, .int v_kept, .ref h_p0_text, .int v_typed, .int (iI 0), .int v_at, .int v_isFault, .ref h_p0_told, .int v_tolds, .int v_one, .int v_other, .int v_change, .int v_woken])), (h_p0_text, .inl (cyI, 60, .inl v_text))] H := hP
  have hD : va_D A [(h_p0, .inr (7, [.ref h_p0_now, .ref h_p0_then, .ref h_p0_past, .int v_kept, .ref h_p0_text, .int v_typed, .int (iI 0), .int v_at, .int v_isFault, .ref h_p0_told, .int v_tolds, .int v_one, .int v_other, .int v_change, .int v_woken])), (h_p0_text, .inl (cyI, 60, .inl v_text))] := hD
  refine lv_iload_n hx hb dX7_append_5 rfl (lv_at hl 1 rfl) ?_
  refine lv_bipush (v := iI 33) hx hb dX7_append_6 (by decide) ?_
  refine lv_bipush (v := iI 126) hx hb dX7_append_8 (by decide) ?_
  obtain ⟨r1, e2, h⟩ := bsome h
  have hPc := sb_P [] hP [] rfl
  have hDc := sb_D [] hD [] (by decide) rfl
  have hFc := va_free (wc := []) hD hS hA [] rfl
  refine va_calli (va_runS (As := [.int a1, .int (iI 33), .int (iI 126)]) (rest := []) ⟨hx, hb, hml, hown, hts⟩ (c_X7_in l dC dI cyI cyJ cyT H.size a1 (iI 33) (iI 126) r1 e2) (va_cwS 3 hts gX7_append_X7_in rfl rfl rfl (by decide +kernel) ⟨Nat.le_of_ble_eq_true rfl, Nat.le_of_ble_eq_true rfl⟩) ⟨PRE.blind, PRE.go hK hPc hDc hNW⟩ rfl rfl hl.1 rfl (lv_room (Nat.le_of_ble_eq_true rfl)) dX7_append_10 ⟨Nat.zero_le _, Nat.zero_le _⟩) hS (fun q _ h => hFc q h) hFc (fun z3 u t H locs ht hvm hw hB hz1 hk1 hS => ?_)
  subst z3
  obtain ⟨hP, hD⟩ := va_join (wr := [(h_p0, .inr (7, [.ref h_p0_now, .ref h_p0_then, .ref h_p0_past, .int v_kept, .ref h_p0_text, .int v_typed, .int (iI 0), .int v_at, .int v_isFault, .ref h_p0_told, .int v_tolds, .int v_one, .int v_other, .int v_change, .int v_woken])), (h_p0_text, .inl (cyI, 60, .inl v_text))]) (w1 := []) hP hD [] [0, 1] rfl rfl (by decide) (by decide) hk1 hFc (WLD.P hB ht) hB.2
  have hP : va_P (dC, dI) vwCl [(h_p0, .inr (7, [.ref h_p0_now, .ref h_p0_then, .ref h_p0_past, .int v_kept, .ref h_p0_text, .int v_typed, .int (iI 0), .int v_at, .int v_isFault, .ref h_p0_told, .int v_tolds, .int v_one, .int v_other, .int v_change, .int v_woken])), (h_p0_text, .inl (cyI, 60, .inl v_text))] H := hP
  have hD : va_D A [(h_p0, .inr (7, [.ref h_p0_now, .ref h_p0_then, .ref h_p0_past, .int v_kept, .ref h_p0_text, .int v_typed, .int (iI 0), .int v_at, .int v_isFault, .ref h_p0_told, .int v_tolds, .int v_one, .int v_other, .int v_change, .int v_woken])), (h_p0_text, .inl (cyI, 60, .inl v_text))] := hD
  refine lv_if_ne (tgt := 22) hx hb dX7_append_13 (by decide) (fun c4 => ?_) (fun c4 => ?_)
  · have h := ineg c4 h
    refine lv_aload_n hx hb dX7_append_22 rfl (lv_at hl 0 rfl) ?_
    refine va_get (D := (dC, dI)) (ci := 7) (v := .int v_typed) (C := RX7) (T := TX7) (N := 15) hx hb hts m_X7_append_0 hown hK hP 0 rfl rfl 5 (by decide) (hts (.fieldLink RX7 139 "SleeperBerthsModel" "typed" "I") m_X7_append_2) (fun _ h9 => h9) rfl dX7_append_23 ?_
    refine lv_bipush (v := iI 60) hx hb dX7_append_26 (by decide) ?_
    refine lv_icmp_ne (tgt := 37) hx hb dX7_append_28 (by decide) (fun c5 => ?_) (fun c5 => ?_)
    · have h := ineg c5 h
      refine lv_aload_n hx hb dX7_append_37 rfl (lv_at hl 0 rfl) ?_
      refine va_get (D := (dC, dI)) (ci := 7) (v := .ref h_p0_text) (C := RX7) (T := TX7) (N := 15) hx hb hts m_X7_append_0 hown hK hP 0 rfl rfl 4 (by decide) (hts (.fieldLink RX7 19 "SleeperBerthsModel" "text" "[I") m_X7_append_3) (fun _ h9 => h9) rfl dX7_append_38 ?_
      refine lv_aload_n hx hb dX7_append_41 rfl (lv_at hl 0 rfl) ?_
      refine va_get (D := (dC, dI)) (ci := 7) (v := .int v_typed) (C := RX7) (T := TX7) (N := 15) hx hb hts m_X7_append_0 hown hK hP 0 rfl rfl 5 (by decide) (hts (.fieldLink RX7 139 "SleeperBerthsModel" "typed" "I") m_X7_append_2) (fun _ h9 => h9) rfl dX7_append_42 ?_
      refine lv_iload_n hx hb dX7_append_45 rfl (lv_at hl 1 rfl) ?_
      obtain ⟨g6, h⟩ := gsome h
      refine va_iast (D := (dC, dI)) hx hb hK hP hD hS 1 0 rfl rfl g6 dX7_append_46 (fun H locs hP hD hS => ?_)
      have hP : va_P (dC, dI) vwCl [(h_p0, .inr (7, [.ref h_p0_now, .ref h_p0_then, .ref h_p0_past, .int v_kept, .ref h_p0_text, .int v_typed, .int (iI 0), .int v_at, .int v_isFault, .ref h_p0_told, .int v_tolds, .int v_one, .int v_other, .int v_change, .int v_woken])), (h_p0_text, .inl (cyI, 60, .inl (upd v_text v_typed.toNatClampNeg a1)))] H := hP
      have hD : va_D A [(h_p0, .inr (7, [.ref h_p0_now, .ref h_p0_then, .ref h_p0_past, .int v_kept, .ref h_p0_text, .int v_typed, .int (iI 0), .int v_at, .int v_isFault, .ref h_p0_told, .int v_tolds, .int v_one, .int v_other, .int v_change, .int v_woken])), (h_p0_text, .inl (cyI, 60, .inl (upd v_text v_typed.toNatClampNeg a1)))] := hD
      refine lv_aload_n hx hb dX7_append_47 rfl (lv_at hl 0 rfl) ?_
      refine lv_dup hx hb dX7_append_48 rfl ?_
      refine va_get (D := (dC, dI)) (ci := 7) (v := .int v_typed) (C := RX7) (T := TX7) (N := 15) hx hb hts m_X7_append_0 hown hK hP 0 rfl rfl 5 (by decide) (hts (.fieldLink RX7 139 "SleeperBerthsModel" "typed" "I") m_X7_append_2) (fun _ h9 => h9) rfl dX7_append_49 ?_
      refine lv_iconst (v := iI 1) hx hb dX7_append_52 rfl ?_
      refine lv_iadd hx hb dX7_append_53 ?_
      refine va_put (D := (dC, dI)) (ci := 7) (v := .int (v_typed + iI 1)) (ty := .int) (C := RX7) (T := TX7) (N := 15) hx hb hts m_X7_append_0 tyX7 tyX7_ok nmX7 hown hK hP hD hS 0 rfl rfl 5 (by decide) (hts (.fieldLink RX7 139 "SleeperBerthsModel" "typed" "I") m_X7_append_2) (fun _ h9 => h9) rfl (by decide +kernel) rfl rfl (Nat.le_of_ble_eq_true rfl) dX7_append_54 (fun H locs hP hD hS => ?_)
      have hP : va_P (dC, dI) vwCl [(h_p0, .inr (7, [.ref h_p0_now, .ref h_p0_then, .ref h_p0_past, .int v_kept, .ref h_p0_text, .int (v_typed + iI 1), .int (iI 0), .int v_at, .int v_isFault, .ref h_p0_told, .int v_tolds, .int v_one, .int v_other, .int v_change, .int v_woken])), (h_p0_text, .inl (cyI, 60, .inl (upd v_text v_typed.toNatClampNeg a1)))] H := hP
      have hD : va_D A [(h_p0, .inr (7, [.ref h_p0_now, .ref h_p0_then, .ref h_p0_past, .int v_kept, .ref h_p0_text, .int (v_typed + iI 1), .int (iI 0), .int v_at, .int v_isFault, .ref h_p0_told, .int v_tolds, .int v_one, .int v_other, .int v_change, .int v_woken])), (h_p0_text, .inl (cyI, 60, .inl (upd v_text v_typed.toNatClampNeg a1)))] := hD
      refine lv_aload_n hx hb dX7_append_57 rfl (lv_at hl 0 rfl) ?_
      refine va_get (D := (dC, dI)) (ci := 7) (v := .int (v_typed + iI 1)) (C := RX7) (T := TX7) (N := 15) hx hb hts m_X7_append_0 hown hK hP 0 rfl rfl 5 (by decide) (hts (.fieldLink RX7 139 "SleeperBerthsModel" "typed" "I") m_X7_append_2) (fun _ h9 => h9) rfl dX7_append_58 ?_
      obtain rfl := Option.some.inj h
      exact W.iret (v := (v_typed + iI 1)) hx hb hr (fun t ht hW => ⟨⟨(v_typed + iI 1), (), rfl, rfl, WLD.of ht hP hD⟩, hS.F ht⟩) hS.2.2 dX7_append_61
    · have h := ipos c5 h
      refine lv_aload_n hx hb dX7_append_31 rfl (lv_at hl 0 rfl) ?_
      refine lv_iconst (v := iI 2) hx hb dX7_append_32 rfl ?_
      obtain ⟨r7, e8, h⟩ := bsome h
      have hPc := sb_P [(h_p0, .inr (7, [.ref h_p0_now, .ref h_p0_then, .ref h_p0_past, .int v_kept, .ref h_p0_text, .int v_typed, .int (iI 0), .int v_at, .int v_isFault, .ref h_p0_told, .int v_tolds, .int v_one, .int v_other, .int v_change, .int v_woken]))] hP [0] rfl
      have hDc := sb_D [(h_p0, .inr (7, [.ref h_p0_now, .ref h_p0_then, .ref h_p0_past, .int v_kept, .ref h_p0_text, .int v_typed, .int (iI 0), .int v_at, .int v_isFault, .ref h_p0_told, .int v_tolds, .int v_one, .int v_other, .int v_change, .int v_woken]))] hD [0] (by decide) rfl
      have hFc := va_free (wc := [(h_p0, .inr (7, [.ref h_p0_now, .ref h_p0_then, .ref h_p0_past, .int v_kept, .ref h_p0_text, .int v_typed, .int (iI 0), .int v_at, .int v_isFault, .ref h_p0_told, .int v_tolds, .int v_one, .int v_other, .int v_change, .int v_woken]))]) hD hS hA [0] rfl
      refine va_calli (va_runV (As := [.int (iI 2)]) (rest := []) ⟨hx, hb, hml, hown, hts⟩ (c_X7_fails l dC dI cyI cyJ cyT h_p0 h_p0_now h_p0_then h_p0_past h_p0_text h_p0_told H.size v_kept v_typed (iI 0) v_at v_isFault v_tolds v_one v_other v_change v_woken (iI 2) r7 e8) (cwV 1 hts gX7_append_X7_fails rfl rfl rfl (by decide +kernel) ⟨Nat.le_of_ble_eq_true rfl, Nat.le_of_ble_eq_true rfl⟩) ⟨PRE.blind, va_recv hK hPc (ci := 7) (q0 := 0) rfl rfl, PRE.go hK hPc hDc hNW⟩ rfl rfl hl.1 rfl (lv_room (Nat.le_of_ble_eq_true rfl)) dX7_append_33 ⟨Nat.zero_le _, Nat.zero_le _⟩) hS (fun q _ h => hFc q h) hFc (fun z9 u t H locs ht hvm hw hB hz1 hk1 hS => ?_)
      subst z9
      obtain ⟨hP, hD⟩ := va_join (wr := [(h_p0_text, .inl (cyI, 60, .inl v_text))]) (w1 := [(h_p0, .inr (7, [.ref h_p0_now, .ref h_p0_then, .ref h_p0_past, .int v_kept, .ref h_p0_text, .int v_typed, .int r7.2, .int v_at, .int v_isFault, .ref h_p0_told, .int v_tolds, .int v_one, .int v_other, .int v_change, .int v_woken]))]) hP hD [0] [1] rfl rfl (by decide) (by decide) hk1 hFc (WLD.P hB ht) hB.2
      have hP : va_P (dC, dI) vwCl [(h_p0_text, .inl (cyI, 60, .inl v_text)), (h_p0, .inr (7, [.ref h_p0_now, .ref h_p0_then, .ref h_p0_past, .int v_kept, .ref h_p0_text, .int v_typed, .int r7.2, .int v_at, .int v_isFault, .ref h_p0_told, .int v_tolds, .int v_one, .int v_other, .int v_change, .int v_woken]))] H := hP
      have hD : va_D A [(h_p0_text, .inl (cyI, 60, .inl v_text)), (h_p0, .inr (7, [.ref h_p0_now, .ref h_p0_then, .ref h_p0_past, .int v_kept, .ref h_p0_text, .int v_typed, .int r7.2, .int v_at, .int v_isFault, .ref h_p0_told, .int v_tolds, .int v_one, .int v_other, .int v_change, .int v_woken]))] := hD
      obtain rfl := Option.some.inj h
      exact W.iret (v := r7.1) hx hb hr (fun t ht hW => ⟨⟨r7.1, (), rfl, rfl, WLD.of ht (sb_P [(h_p0, .inr (7, [.ref h_p0_now, .ref h_p0_then, .ref h_p0_past, .int v_kept, .ref h_p0_text, .int v_typed, .int r7.2, .int v_at, .int v_isFault, .ref h_p0_told, .int v_tolds, .int v_one, .int v_other, .int v_change, .int v_woken])), (h_p0_text, .inl (cyI, 60, .inl v_text))] hP [1, 0] rfl) (sb_D [(h_p0, .inr (7, [.ref h_p0_now, .ref h_p0_then, .ref h_p0_past, .int v_kept, .ref h_p0_text, .int v_typed, .int r7.2, .int v_at, .int v_isFault, .ref h_p0_told, .int v_tolds, .int v_one, .int v_other, .int v_change, .int v_woken])), (h_p0_text, .inl (cyI, 60, .inl v_text))] hD [1, 0] (by decide) rfl)⟩, hS.F ht⟩) hS.2.2 dX7_append_36
  · have h := ipos c4 h
    refine lv_aload_n hx hb dX7_append_16 rfl (lv_at hl 0 rfl) ?_
    refine lv_iconst (v := iI 1) hx hb dX7_append_17 rfl ?_
    obtain ⟨r10, e11, h⟩ := bsome h
    have hPc := sb_P [(h_p0, .inr (7, [.ref h_p0_now, .ref h_p0_then, .ref h_p0_past, .int v_kept, .ref h_p0_text, .int v_typed, .int (iI 0), .int v_at, .int v_isFault, .ref h_p0_told, .int v_tolds, .int v_one, .int v_other, .int v_change, .int v_woken]))] hP [0] rfl
    have hDc := sb_D [(h_p0, .inr (7, [.ref h_p0_now, .ref h_p0_then, .ref h_p0_past, .int v_kept, .ref h_p0_text, .int v_typed, .int (iI 0), .int v_at, .int v_isFault, .ref h_p0_told, .int v_tolds, .int v_one, .int v_other, .int v_change, .int v_woken]))] hD [0] (by decide) rfl
    have hFc := va_free (wc := [(h_p0, .inr (7, [.ref h_p0_now, .ref h_p0_then, .ref h_p0_past, .int v_kept, .ref h_p0_text, .int v_typed, .int (iI 0), .int v_at, .int v_isFault, .ref h_p0_told, .int v_tolds, .int v_one, .int v_other, .int v_change, .int v_woken]))]) hD hS hA [0] rfl
    refine va_calli (va_runV (As := [.int (iI 1)]) (rest := []) ⟨hx, hb, hml, hown, hts⟩ (c_X7_fails l dC dI cyI cyJ cyT h_p0 h_p0_now h_p0_then h_p0_past h_p0_text h_p0_told H.size v_kept v_typed (iI 0) v_at v_isFault v_tolds v_one v_other v_change v_woken (iI 1) r10 e11) (cwV 1 hts gX7_append_X7_fails rfl rfl rfl (by decide +kernel) ⟨Nat.le_of_ble_eq_true rfl, Nat.le_of_ble_eq_true rfl⟩) ⟨PRE.blind, va_recv hK hPc (ci := 7) (q0 := 0) rfl rfl, PRE.go hK hPc hDc hNW⟩ rfl rfl hl.1 rfl (lv_room (Nat.le_of_ble_eq_true rfl)) dX7_append_18 ⟨Nat.zero_le _, Nat.zero_le _⟩) hS (fun q _ h => hFc q h) hFc (fun z12 u t H locs ht hvm hw hB hz1 hk1 hS => ?_)
    subst z12
    obtain ⟨hP, hD⟩ := va_join (wr := [(h_p0_text, .inl (cyI, 60, .inl v_text))]) (w1 := [(h_p0, .inr (7, [.ref h_p0_now, .ref h_p0_then, .ref h_p0_past, .int v_kept, .ref h_p0_text, .int v_typed, .int r10.2, .int v_at, .int v_isFault, .ref h_p0_told, .int v_tolds, .int v_one, .int v_other, .int v_change, .int v_woken]))]) hP hD [0] [1] rfl rfl (by decide) (by decide) hk1 hFc (WLD.P hB ht) hB.2
    have hP : va_P (dC, dI) vwCl [(h_p0_text, .inl (cyI, 60, .inl v_text)), (h_p0, .inr (7, [.ref h_p0_now, .ref h_p0_then, .ref h_p0_past, .int v_kept, .ref h_p0_text, .int v_typed, .int r10.2, .int v_at, .int v_isFault, .ref h_p0_told, .int v_tolds, .int v_one, .int v_other, .int v_change, .int v_woken]))] H := hP
    have hD : va_D A [(h_p0_text, .inl (cyI, 60, .inl v_text)), (h_p0, .inr (7, [.ref h_p0_now, .ref h_p0_then, .ref h_p0_past, .int v_kept, .ref h_p0_text, .int v_typed, .int r10.2, .int v_at, .int v_isFault, .ref h_p0_told, .int v_tolds, .int v_one, .int v_other, .int v_change, .int v_woken]))] := hD
    obtain rfl := Option.some.inj h
    exact W.iret (v := r10.1) hx hb hr (fun t ht hW => ⟨⟨r10.1, (), rfl, rfl, WLD.of ht (sb_P [(h_p0, .inr (7, [.ref h_p0_now, .ref h_p0_then, .ref h_p0_past, .int v_kept, .ref h_p0_text, .int v_typed, .int r10.2, .int v_at, .int v_isFault, .ref h_p0_told, .int v_tolds, .int v_one, .int v_other, .int v_change, .int v_woken])), (h_p0_text, .inl (cyI, 60, .inl v_text))] hP [1, 0] rfl) (sb_D [(h_p0, .inr (7, [.ref h_p0_now, .ref h_p0_then, .ref h_p0_past, .int v_kept, .ref h_p0_text, .int v_typed, .int r10.2, .int v_at, .int v_isFault, .ref h_p0_told, .int v_tolds, .int v_one, .int v_other, .int v_change, .int v_woken])), (h_p0_text, .inl (cyI, 60, .inl v_text))] hD [1, 0] (by decide) rfl)⟩, hS.F ht⟩) hS.2.2 dX7_append_21
def s_X7_clearBuffer (v_typed : Int32) (v_thrown : Int32) : Option (Int32 × Int32 × Int32) := (some (v_typed, iI 0, iI 0))
set_option maxRecDepth 20000 in
theorem m_X7_clearBuffer_0 : ∀ w ∈ u_ws RX7 TX7 15, w ∈ wsX7_clearBuffer := by decide +kernel
set_option maxRecDepth 20000 in
theorem m_X7_clearBuffer_1 : (.fieldLink RX7 25 "SleeperBerthsModel" "thrown" "I" : Cond) ∈ wsX7_clearBuffer := by decide +kernel
set_option maxRecDepth 20000 in
theorem m_X7_clearBuffer_2 : (.fieldLink RX7 139 "SleeperBerthsModel" "typed" "I" : Cond) ∈ wsX7_clearBuffer := by decide +kernel
set_option maxHeartbeats 4000000 in
set_option maxRecDepth 100000 in
theorem c_X7_clearBuffer (l : Launch) (dC : Nat → ClassId) (dI : Nat → Nat → Nat) (cyI cyJ cyT : ClassId) (h_p0 : Nat) (h_p0_now : Nat) (h_p0_then : Nat) (h_p0_past : Nat) (h_p0_text : Nat) (h_p0_told : Nat) (sz : Nat) (v_kept : Int32) (v_typed : Int32) (v_thrown : Int32) (v_at : Int32) (v_isFault : Int32) (v_tolds : Int32) (v_one : Int32) (v_other : Int32) (v_change : Int32) (v_woken : Int32) (o : Int32 × Int32 × Int32) (h : s_X7_clearBuffer v_typed v_thrown = some o) : Met l yX7_clearBuffer wsX7_clearBuffer ({ frames := 0, cells := 0, slots := 0, locals := 0 }) (va_Pc [.ref h_p0] (PRE (dC, dI) (TYS cyI cyJ cyT) sz [(h_p0, .inr (7, [.ref h_p0_now, .ref h_p0_then, .ref h_p0_past, .int v_kept, .ref h_p0_text, .int v_typed, .int v_thrown, .int v_at, .int v_isFault, .ref h_p0_told, .int v_tolds, .int v_one, .int v_other, .int v_change, .int v_woken]))])) (va_Qi (S := Unit) (fun r _ => r = o.1) (fun _ t => WLD (dC, dI) (va_A [(h_p0, .inr (7, [.ref h_p0_now, .ref h_p0_then, .ref h_p0_past, .int v_kept, .ref h_p0_text, .int v_typed, .int v_thrown, .int v_at, .int v_isFault, .ref h_p0_told, .int v_tolds, .int v_one, .int v_other, .int v_change, .int v_woken]))] sz) [(h_p0, .inr (7, [.ref h_p0_now, .ref h_p0_then, .ref h_p0_past, .int v_kept, .ref h_p0_text, .int o.2.1, .int o.2.2, .int v_at, .int v_isFault, .ref h_p0_told, .int v_tolds, .int v_one, .int v_other, .int v_change, .int v_woken]))] t) (va_A [(h_p0, .inr (7, [.ref h_p0_now, .ref h_p0_then, .ref h_p0_past, .int v_kept, .ref h_p0_text, .int v_typed, .int v_thrown, .int v_at, .int v_isFault, .ref h_p0_told, .int v_tolds, .int v_one, .int v_other, .int v_change, .int v_woken]))] sz)) 0 0 (va_A [(h_p0, .inr (7, [.ref h_p0_now, .ref h_p0_then, .ref h_p0_past, .int v_kept, .ref h_p0_text, .int v_typed, .int v_thrown, .int v_at, .int v_isFault, .ref h_p0_told, .int v_tolds, .int v_one, .int v_other, .int v_change, .int v_woken]))] sz) := by
  refine Met.ofW (cc := cX7_clearBuffer) (maxL := 2) (ret := (some .int)) (by decide) rfl ?_
  intro p e s m args below meth c s₁ B hml hv
  obtain ⟨rfl, hsz, hP, hK, hD0, hNW⟩ := hv
  have hx := B.exec
  have hb := B.bytes
  have hr := B.returns
  have hts := atoms_spec (ws := wsX7_clearBuffer) B.pre
  have hown : s.vm.findClass RX7 = some m.cls := findClass_of_methodNamed B.named
  have hlocks := B.notSynchronized
  subst hsz
  have hD := hD0.self (sz := s.heap.size)
  generalize hAe : va_A [(h_p0, .inr (7, [.ref h_p0_now, .ref h_p0_then, .ref h_p0_past, .int v_kept, .ref h_p0_text, .int v_typed, .int v_thrown, .int v_at, .int v_isFault, .ref h_p0_told, .int v_tolds, .int v_one, .int v_other, .int v_change, .int v_woken]))] s.heap.size = A at hD ⊢
  have hA : ∀ q : Nat, s.heap.size ≤ q → A q := fun q h => by rw [← hAe]; exact Or.inr h
  have hS : va_S A s.heap s.heap [] := va_S.rf
  have hP : va_P (dC, dI) vwCl [(h_p0, .inr (7, [.ref h_p0_now, .ref h_p0_then, .ref h_p0_past, .int v_kept, .ref h_p0_text, .int v_typed, .int v_thrown, .int v_at, .int v_isFault, .ref h_p0_told, .int v_tolds, .int v_one, .int v_other, .int v_change, .int v_woken]))] s.heap := hP
  have hl := lv_entry ([.ref h_p0]) (n := 2) (Nat.le_of_ble_eq_true rfl)
  rw [lg_entry_eq]
  generalize (lg_sl ([.ref h_p0]) ++ List.replicate (2 - (lg_sl ([.ref h_p0])).length) Slot.unset).toArray = ls at hl ⊢
  have hl : lv_has ls 2 [(0, .ref h_p0)] := hl
  unfold s_X7_clearBuffer at h
  refine lv_aload_n hx hb dX7_clearBuffer_0 rfl (lv_at hl 0 rfl) ?_
  refine lv_iconst (v := iI 0) hx hb dX7_clearBuffer_1 rfl ?_
  refine va_put (D := (dC, dI)) (ci := 7) (v := .int (iI 0)) (ty := .int) (C := RX7) (T := TX7) (N := 15) hx hb hts m_X7_clearBuffer_0 tyX7 tyX7_ok nmX7 hown hK hP hD hS 0 rfl rfl 6 (by decide) (hts (.fieldLink RX7 25 "SleeperBerthsModel" "thrown" "I") m_X7_clearBuffer_1) (fun _ h9 => h9) rfl (by decide +kernel) rfl rfl (Nat.le_of_ble_eq_true rfl) dX7_clearBuffer_2 (fun H locs hP hD hS => ?_)
  have hP : va_P (dC, dI) vwCl [(h_p0, .inr (7, [.ref h_p0_now, .ref h_p0_then, .ref h_p0_past, .int v_kept, .ref h_p0_text, .int v_typed, .int (iI 0), .int v_at, .int v_isFault, .ref h_p0_told, .int v_tolds, .int v_one, .int v_other, .int v_change, .int v_woken]))] H := hP
  have hD : va_D A [(h_p0, .inr (7, [.ref h_p0_now, .ref h_p0_then, .ref h_p0_past, .int v_kept, .ref h_p0_text, .int v_typed, .int (iI 0), .int v_at, .int v_isFault, .ref h_p0_told, .int v_tolds, .int v_one, .int v_other, .int v_change, .int v_woken]))] := hD
  refine lv_aload_n hx hb dX7_clearBuffer_5 rfl (lv_at hl 0 rfl) ?_
  refine va_get (D := (dC, dI)) (ci := 7) (v := .int v_typed) (C := RX7) (T := TX7) (N := 15) hx hb hts m_X7_clearBuffer_0 hown hK hP 0 rfl rfl 5 (by decide) (hts (.fieldLink RX7 139 "SleeperBerthsModel" "typed" "I") m_X7_clearBuffer_2) (fun _ h9 => h9) rfl dX7_clearBuffer_6 ?_
  refine lv_istore_n hx hb dX7_clearBuffer_9 rfl hl (by decide) (rfl : _ = ([(1, .int v_typed), (0, .ref h_p0)] : List (Nat × Value))) (fun ls hl => ?_)
  refine lv_aload_n hx hb dX7_clearBuffer_10 rfl (lv_at hl 1 rfl) ?_
  refine lv_iconst (v := iI 0) hx hb dX7_clearBuffer_11 rfl ?_
  refine va_put (D := (dC, dI)) (ci := 7) (v := .int (iI 0)) (ty := .int) (C := RX7) (T := TX7) (N := 15) hx hb hts m_X7_clearBuffer_0 tyX7 tyX7_ok nmX7 hown hK hP hD hS 0 rfl rfl 5 (by decide) (hts (.fieldLink RX7 139 "SleeperBerthsModel" "typed" "I") m_X7_clearBuffer_2) (fun _ h9 => h9) rfl (by decide +kernel) rfl rfl (Nat.le_of_ble_eq_true rfl) dX7_clearBuffer_12 (fun H locs hP hD hS => ?_)
  have hP : va_P (dC, dI) vwCl [(h_p0, .inr (7, [.ref h_p0_now, .ref h_p0_then, .ref h_p0_past, .int v_kept, .ref h_p0_text, .int (iI 0), .int (iI 0), .int v_at, .int v_isFault, .ref h_p0_told, .int v_tolds, .int v_one, .int v_other, .int v_change, .int v_woken]))] H := hP
  have hD : va_D A [(h_p0, .inr (7, [.ref h_p0_now, .ref h_p0_then, .ref h_p0_past, .int v_kept, .ref h_p0_text, .int (iI 0), .int (iI 0), .int v_at, .int v_isFault, .ref h_p0_told, .int v_tolds, .int v_one, .int v_other, .int v_change, .int v_woken]))] := hD
  refine lv_iload_n hx hb dX7_clearBuffer_15 rfl (lv_at hl 0 rfl) ?_
  obtain rfl := Option.some.inj h
  exact W.iret (v := v_typed) hx hb hr (fun t ht hW => ⟨⟨v_typed, (), rfl, rfl, WLD.of ht hP hD⟩, hS.F ht⟩) hS.2.2 dX7_clearBuffer_16
