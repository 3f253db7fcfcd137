def s_X7_findsTwo_L5 (n : Nat) (arr_1 : Nat → Int32) (a2 : Int32) (a3 : Int32) : Nat → (Int32 → Int32 → Int32 → Int32 → Int32 → Option (Int32 × Int32 × Int32 × Int32 × Int32)) × (Int32 → Int32 → Int32 → Int32 → Int32 → Int32 → Option (Int32 × Int32 × Int32 × Int32 × Int32))
  | 0 => ((fun _ _ _ _ _ => none), (fun _ _ _ _ _ _ => none))
  | k + 1 => ((fun v_one v_other v_change v_woken x4 => (if a3 ≤ x4 then (if v_change = iI (-1) then (some (iI 0, v_one, v_other, v_change, v_woken)) else (some (iI 1, v_one, v_other, v_change, v_woken))) else ((s_X7_findsTwo_L5 n arr_1 a2 a3 k).2 v_one v_other v_change v_woken x4 (iI 0)))), (fun v_one v_other v_change v_woken x4 x5 => (if iI 18 ≤ x5 then ((s_X7_findsTwo_L5 n arr_1 a2 a3 k).1 v_one v_other v_change v_woken (x4 + iI 1)) else ((s_X7_isNight arr_1 x4).bind fun r4 => (if r4 = 0 then ((s_X7_isFree n arr_1 x5 a2 x4).bind fun r8 => (if r8 = 0 then (if iI (-1) = iI (-1) then (if iI (-1) = iI (-1) then ((s_X7_findsTwo_L5 n arr_1 a2 a3 k).2 v_one v_other v_change v_woken x4 (x5 + iI 1)) else (if v_change = iI (-1) then ((s_X7_findsTwo_L5 n arr_1 a2 a3 k).2 x5 (iI (-1)) x4 (iI 0) x4 (x5 + iI 1)) else (if v_woken ≤ iI 0 then ((s_X7_findsTwo_L5 n arr_1 a2 a3 k).2 v_one v_other v_change v_woken x4 (x5 + iI 1)) else ((s_X7_findsTwo_L5 n arr_1 a2 a3 k).2 x5 (iI (-1)) x4 (iI 0) x4 (x5 + iI 1))))) else ((s_X7_wakes n arr_1 x5 a2 x4).bind fun r13 => ((s_X7_wakes n arr_1 (iI (-1)) x4 a3).bind fun r16 => (if iI (-1) = iI (-1) then ((s_X7_findsTwo_L5 n arr_1 a2 a3 k).2 v_one v_other v_change v_woken x4 (x5 + iI 1)) else (if v_change = iI (-1) then ((s_X7_findsTwo_L5 n arr_1 a2 a3 k).2 x5 (iI (-1)) x4 (r13 + r16) x4 (x5 + iI 1)) else (if v_woken ≤ (r13 + r16) then ((s_X7_findsTwo_L5 n arr_1 a2 a3 k).2 v_one v_other v_change v_woken x4 (x5 + iI 1)) else ((s_X7_findsTwo_L5 n arr_1 a2 a3 k).2 x5 (iI (-1)) x4 (r13 + r16) x4 (x5 + iI 1)))))))) else ((s_X7_best n arr_1 x4 a3 x5).bind fun r25 => (if r25 = iI (-1) then (if r25 = iI (-1) then ((s_X7_findsTwo_L5 n arr_1 a2 a3 k).2 v_one v_other v_change v_woken x4 (x5 + iI 1)) else (if v_change = iI (-1) then ((s_X7_findsTwo_L5 n arr_1 a2 a3 k).2 x5 r25 x4 (iI 0) x4 (x5 + iI 1)) else (if v_woken ≤ iI 0 then ((s_X7_findsTwo_L5 n arr_1 a2 a3 k).2 v_one v_other v_change v_woken x4 (x5 + iI 1)) else ((s_X7_findsTwo_L5 n arr_1 a2 a3 k).2 x5 r25 x4 (iI 0) x4 (x5 + iI 1))))) else ((s_X7_wakes n arr_1 x5 a2 x4).bind fun r29 => ((s_X7_wakes n arr_1 r25 x4 a3).bind fun r32 => (if r25 = iI (-1) then ((s_X7_findsTwo_L5 n arr_1 a2 a3 k).2 v_one v_other v_change v_woken x4 (x5 + iI 1)) else (if v_change = iI (-1) then ((s_X7_findsTwo_L5 n arr_1 a2 a3 k).2 x5 r25 x4 (r29 + r32) x4 (x5 + iI 1)) else (if v_woken ≤ (r29 + r32) then ((s_X7_findsTwo_L5 n arr_1 a2 a3 k).2 v_one v_other v_change v_woken x4 (x5 + iI 1)) else ((s_X7_findsTwo_L5 n arr_1 a2 a3 k).2 x5 r25 x4 (r29 + r32) x4 (x5 + iI 1))))))))))) else ((s_X7_findsTwo_L5 n arr_1 a2 a3 k).1 v_one v_other v_change v_woken (x4 + iI 1)))))))
def s_X7_findsTwo (n : Nat) (v_one : Int32) (v_other : Int32) (v_change : Int32) (v_woken : Int32) (arr_1 : Nat → Int32) (a2 : Int32) (a3 : Int32) : Option (Int32 × Int32 × Int32 × Int32 × Int32) := ((s_X7_findsTwo_L5 n arr_1 a2 a3 n).1 v_one v_other v_change v_woken (a2 + iI 1))
set_option maxRecDepth 20000 in
theorem m_X7_findsTwo_0 : ∀ w ∈ u_ws RX7 TX7 15, w ∈ wsX7_findsTwo := by decide +kernel
set_option maxRecDepth 20000 in
theorem m_X7_findsTwo_1 : (.fieldLink RX7 55 "SleeperBerthsModel" "change" "I" : Cond) ∈ wsX7_findsTwo := by decide +kernel
set_option maxRecDepth 20000 in
theorem m_X7_findsTwo_2 : (.fieldLink RX7 52 "SleeperBerthsModel" "one" "I" : Cond) ∈ wsX7_findsTwo := by decide +kernel
set_option maxRecDepth 20000 in
theorem m_X7_findsTwo_3 : (.fieldLink RX7 69 "SleeperBerthsModel" "other" "I" : Cond) ∈ wsX7_findsTwo := by decide +kernel
set_option maxRecDepth 20000 in
theorem m_X7_findsTwo_4 : (.fieldLink RX7 66 "SleeperBerthsModel" "woken" "I" : Cond) ∈ wsX7_findsTwo := by decide +kernel
set_option maxHeartbeats 4000000 in
set_option maxRecDepth 100000 in
theorem c_X7_findsTwo (l : Launch) (dC : Nat → ClassId) (dI : Nat → Nat → Nat) (cyI cyJ cyT : ClassId) (h_p0 : Nat) (h_p0_now : Nat) (h_p0_then : Nat) (h_p0_past : Nat) (h_p0_text : Nat) (h_p0_told : Nat) (h_p1 : Nat) (sz : Nat) (v_kept : Int32) (v_typed : Int32) (v_thrown : Int32) (v_at : Int32) (v_isFault : Int32) (v_tolds : Int32) (v_one : Int32) (v_other : Int32) (v_change : Int32) (v_woken : Int32) (arr_1 : Nat → Int32) (a2 : Int32) (a3 : Int32) (n : Nat) (o : Int32 × Int32 × Int32 × Int32 × Int32) (h : s_X7_findsTwo n v_one v_other v_change v_woken arr_1 a2 a3 = some o) : Met l yX7_findsTwo wsX7_findsTwo ({ frames := 4, cells := 0, slots := 0, locals := 95 }) (va_Pc [.ref h_p0, .ref h_p1, .int a2, .int a3] (PRE (dC, dI) (TYS cyI cyJ cyT) sz [(h_p0, .inr (7, [.ref h_p0_now, .ref h_p0_then, .ref h_p0_past, .int v_kept, .ref h_p0_text, .int v_typed, .int v_thrown, .int v_at, .int v_isFault, .ref h_p0_told, .int v_tolds, .int v_one, .int v_other, .int v_change, .int v_woken])), (h_p1, .inl (cyI, 452, .inl arr_1))])) (va_Qi (S := Unit) (fun r _ => r = o.1) (fun _ t => WLD (dC, dI) (va_A [(h_p0, .inr (7, [.ref h_p0_now, .ref h_p0_then, .ref h_p0_past, .int v_kept, .ref h_p0_text, .int v_typed, .int v_thrown, .int v_at, .int v_isFault, .ref h_p0_told, .int v_tolds, .int v_one, .int v_other, .int v_change, .int v_woken])), (h_p1, .inl (cyI, 452, .inl arr_1))] sz) [(h_p0, .inr (7, [.ref h_p0_now, .ref h_p0_then, .ref h_p0_past, .int v_kept, .ref h_p0_text, .int v_typed, .int v_thrown, .int v_at, .int v_isFault, .ref h_p0_told, .int v_tolds, .int o.2.1, .int o.2.2.1, .int o.2.2.2.1, .int o.2.2.2.2])), (h_p1, .inl (cyI, 452, .inl arr_1))] t) (va_A [(h_p0, .inr (7, [.ref h_p0_now, .ref h_p0_then, .ref h_p0_past, .int v_kept, .ref h_p0_text, .int v_typed, .int v_thrown, .int v_at, .int v_isFault, .ref h_p0_told, .int v_tolds, .int v_one, .int v_other, .int v_change, .int v_woken])), (h_p1, .inl (cyI, 452, .inl arr_1))] sz)) 0 0 (va_A [(h_p0, .inr (7, [.ref h_p0_now, .ref h_p0_then, .ref h_p0_past, .int v_kept, .ref h_p0_text, .int v_typed, .int v_thrown, .int v_at, .int v_isFault, .ref h_p0_told, .int v_tolds, .int v_one, .int v_other, .int v_change, .int v_woken])), (h_p1, .inl (cyI, 452, .inl arr_1))] sz) := by
  refine Met.ofW (cc := cX7_findsTwo) (maxL := 8) (ret := (some .boolean)) (by decide) rfl ?_
  intro p e s m args below meth c s₁ B hml hv
  obtain ⟨rfl, hsz, hP, hK, hD0, hNW⟩ := hv
  have hx := B.exec
  have hb := B.bytes
  have hr := B.returns
  have hts := atoms_spec (ws := wsX7_findsTwo) B.pre
  have hown : s.vm.findClass RX7 = some m.cls := findClass_of_methodNamed B.named
  have hlocks := B.notSynchronized
  subst hsz
  have hD := hD0.self (sz := s.heap.size)
  generalize hAe : va_A [(h_p0, .inr (7, [.ref h_p0_now, .ref h_p0_then, .ref h_p0_past, .int v_kept, .ref h_p0_text, .int v_typed, .int v_thrown, .int v_at, .int v_isFault, .ref h_p0_told, .int v_tolds, .int v_one, .int v_other, .int v_change, .int v_woken])), (h_p1, .inl (cyI, 452, .inl arr_1))] s.heap.size = A at hD ⊢
  have hA : ∀ q : Nat, s.heap.size ≤ q → A q := fun q h => by rw [← hAe]; exact Or.inr h
  have hS : va_S A s.heap s.heap [] := va_S.rf
  have hP : va_P (dC, dI) vwCl [(h_p0, .inr (7, [.ref h_p0_now, .ref h_p0_then, .ref h_p0_past, .int v_kept, .ref h_p0_text, .int v_typed, .int v_thrown, .int v_at, .int v_isFault, .ref h_p0_told, .int v_tolds, .int v_one, .int v_other, .int v_change, .int v_woken])), (h_p1, .inl (cyI, 452, .inl arr_1))] s.heap := hP
  have L5 : ∀ (k : Nat), (∀ (v_one : Int32) (v_other : Int32) (v_change : Int32) (v_woken : Int32) (x4 : Int32) (H : Heap) (locs : List Loc), va_P (dC, dI) vwCl [(h_p0, .inr (7, [.ref h_p0_now, .ref h_p0_then, .ref h_p0_past, .int v_kept, .ref h_p0_text, .int v_typed, .int v_thrown, .int v_at, .int v_isFault, .ref h_p0_told, .int v_tolds, .int v_one, .int v_other, .int v_change, .int v_woken])), (h_p1, .inl (cyI, 452, .inl arr_1))] H → va_D A [(h_p0, .inr (7, [.ref h_p0_now, .ref h_p0_then, .ref h_p0_past, .int v_kept, .ref h_p0_text, .int v_typed, .int v_thrown, .int v_at, .int v_isFault, .ref h_p0_told, .int v_tolds, .int v_one, .int v_other, .int v_change, .int v_woken])), (h_p1, .inl (cyI, 452, .inl arr_1))] → va_S A s.heap H locs → ∀ (ls : Array Slot), lv_has ls 8 [(0, .ref h_p0), (1, .ref h_p1), (2, .int a2), (3, .int a3), (4, .int x4)] →  (s_X7_findsTwo_L5 n arr_1 a2 a3 k).1 v_one v_other v_change v_woken x4 = some o → W p l e (headSpec wsX7_findsTwo ({ frames := 4, cells := 0, slots := 0, locals := 95 })).room s m (([.ref h_p0, .ref h_p1, .int a2, .int a3] : List Value).toArray) below meth c H locs 0 0 (MQ below (va_Qi (S := Unit) (fun r _ => r = o.1) (fun _ t => WLD (dC, dI) A [(h_p0, .inr (7, [.ref h_p0_now, .ref h_p0_then, .ref h_p0_past, .int v_kept, .ref h_p0_text, .int v_typed, .int v_thrown, .int v_at, .int v_isFault, .ref h_p0_told, .int v_tolds, .int o.2.1, .int o.2.2.1, .int o.2.2.2.1, .int o.2.2.2.2])), (h_p1, .inl (cyI, 452, .inl arr_1))] t) A) (([.ref h_p0, .ref h_p1, .int a2, .int a3] : List Value).toArray) s 0 0 A) (F0 m 5 ls [])) ∧ (∀ (v_one : Int32) (v_other : Int32) (v_change : Int32) (v_woken : Int32) (x4 : Int32) (x5 : Int32) (H : Heap) (locs : List Loc), va_P (dC, dI) vwCl [(h_p0, .inr (7, [.ref h_p0_now, .ref h_p0_then, .ref h_p0_past, .int v_kept, .ref h_p0_text, .int v_typed, .int v_thrown, .int v_at, .int v_isFault, .ref h_p0_told, .int v_tolds, .int v_one, .int v_other, .int v_change, .int v_woken])), (h_p1, .inl (cyI, 452, .inl arr_1))] H → va_D A [(h_p0, .inr (7, [.ref h_p0_now, .ref h_p0_then, .ref h_p0_past, .int v_kept, .ref h_p0_text, .int v_typed, .int v_thrown, .int v_at, .int v_isFault, .ref h_p0_told, .int v_tolds, .int v_one, .int v_other, .int v_change, .int v_woken])), (h_p1, .inl (cyI, 452, .inl arr_1))] → va_S A s.heap H locs → ∀ (ls : Array Slot), lv_has ls 8 [(0, .ref h_p0), (1, .ref h_p1), (2, .int a2), (3, .int a3), (4, .int x4), (5, .int x5)] →  (s_X7_findsTwo_L5 n arr_1 a2 a3 k).2 v_one v_other v_change v_woken x4 x5 = some o → W p l e (headSpec wsX7_findsTwo ({ frames := 4, cells := 0, slots := 0, locals := 95 })).room s m (([.ref h_p0, .ref h_p1, .int a2, .int a3] : List Value).toArray) below meth c H locs 0 0 (MQ below (va_Qi (S := Unit) (fun r _ => r = o.1) (fun _ t => WLD (dC, dI) A [(h_p0, .inr (7, [.ref h_p0_now, .ref h_p0_then, .ref h_p0_past, .int v_kept, .ref h_p0_text, .int v_typed, .int v_thrown, .int v_at, .int v_isFault, .ref h_p0_told, .int v_tolds, .int o.2.1, .int o.2.2.1, .int o.2.2.2.1, .int o.2.2.2.2])), (h_p1, .inl (cyI, 452, .inl arr_1))] t) A) (([.ref h_p0, .ref h_p1, .int a2, .int a3] : List Value).toArray) s 0 0 A) (F0 m 14 ls [])) := by
    intro k
    induction k with
    | zero =>
      refine ⟨?_, ?_⟩
      · intro  v_one v_other v_change v_woken x4 H locs hP hD hS ls hl h
        have h : none = some o := h
        cases h
      · intro  v_one v_other v_change v_woken x4 x5 H locs hP hD hS ls hl h
        have h : none = some o := h
        cases h
    | succ k ih =>
      refine ⟨?_, ?_⟩
      · intro  v_one v_other v_change v_woken x4 H locs hP hD hS ls hl h
        have h : (if a3 ≤ x4 then (if v_change = iI (-1) then (some (iI 0, v_one, v_other, v_change, v_woken)) else (some (iI 1, v_one, v_other, v_change, v_woken))) else ((s_X7_findsTwo_L5 n arr_1 a2 a3 k).2 v_one v_other v_change v_woken x4 (iI 0))) = some o := h
        refine lv_iload hx hb dX7_findsTwo_5 (lv_at hl 4 rfl) ?_
        refine lv_iload_n hx hb dX7_findsTwo_7 rfl (lv_at hl 3 rfl) ?_
        refine lv_icmp_ge (tgt := 147) hx hb dX7_findsTwo_8 (by decide) (fun c1 => ?_) (fun c1 => ?_)
        · have h := ipos c1 h
          refine lv_aload_n hx hb dX7_findsTwo_147 rfl (lv_at hl 0 rfl) ?_
          refine va_get (D := (dC, dI)) (ci := 7) (v := .int v_change) (C := RX7) (T := TX7) (N := 15) hx hb hts m_X7_findsTwo_0 hown hK hP 0 rfl rfl 13 (by decide) (hts (.fieldLink RX7 55 "SleeperBerthsModel" "change" "I") m_X7_findsTwo_1) (fun _ h9 => h9) rfl dX7_findsTwo_148 ?_
          refine lv_iconst (v := iI (-1)) hx hb dX7_findsTwo_151 rfl ?_
          refine lv_icmp_eq (tgt := 159) hx hb dX7_findsTwo_152 (by decide) (fun c2 => ?_) (fun c2 => ?_)
          · have h := ipos c2 h
            refine lv_iconst (v := iI 0) hx hb dX7_findsTwo_159 rfl ?_
            obtain rfl := Option.some.inj h
            exact W.zret (v := iI 0) hx hb hr (by decide) (fun t ht hW => ⟨⟨iI 0, (), rfl, rfl, WLD.of ht hP hD⟩, hS.F ht⟩) hS.2.2 dX7_findsTwo_160
          · have h := ineg c2 h
            refine lv_iconst (v := iI 1) hx hb dX7_findsTwo_155 rfl ?_
            refine lv_goto (tgt := 160) hx hb dX7_findsTwo_156 (by decide) ?_
            obtain rfl := Option.some.inj h
            exact W.zret (v := iI 1) hx hb hr (by decide) (fun t ht hW => ⟨⟨iI 1, (), rfl, rfl, WLD.of ht hP hD⟩, hS.F ht⟩) hS.2.2 dX7_findsTwo_160
        · have h := ineg c1 h
          refine lv_iconst (v := iI 0) hx hb dX7_findsTwo_11 rfl ?_
          refine lv_istore hx hb dX7_findsTwo_12 hl (by decide) (rfl : _ = ([(5, .int (iI 0)), (0, .ref h_p0), (1, .ref h_p1), (2, .int a2), (3, .int a3), (4, .int x4)] : List (Nat × Value))) (fun ls hl => ?_)
          exact (ih).2 v_one v_other v_change v_woken x4 (iI 0) _ _ hP hD hS ls (lv_sub hl [1, 2, 3, 4, 5, 0] rfl) h
      · intro  v_one v_other v_change v_woken x4 x5 H locs hP hD hS ls hl h
        have h : (if iI 18 ≤ x5 then ((s_X7_findsTwo_L5 n arr_1 a2 a3 k).1 v_one v_other v_change v_woken (x4 + iI 1)) else ((s_X7_isNight arr_1 x4).bind fun r4 => (if r4 = 0 then ((s_X7_isFree n arr_1 x5 a2 x4).bind fun r8 => (if r8 = 0 then (if iI (-1) = iI (-1) then (if iI (-1) = iI (-1) then ((s_X7_findsTwo_L5 n arr_1 a2 a3 k).2 v_one v_other v_change v_woken x4 (x5 + iI 1)) else (if v_change = iI (-1) then ((s_X7_findsTwo_L5 n arr_1 a2 a3 k).2 x5 (iI (-1)) x4 (iI 0) x4 (x5 + iI 1)) else (if v_woken ≤ iI 0 then ((s_X7_findsTwo_L5 n arr_1 a2 a3 k).2 v_one v_other v_change v_woken x4 (x5 + iI 1)) else ((s_X7_findsTwo_L5 n arr_1 a2 a3 k).2 x5 (iI (-1)) x4 (iI 0) x4 (x5 + iI 1))))) else ((s_X7_wakes n arr_1 x5 a2 x4).bind fun r13 => ((s_X7_wakes n arr_1 (iI (-1)) x4 a3).bind fun r16 => (if iI (-1) = iI (-1) then ((s_X7_findsTwo_L5 n arr_1 a2 a3 k).2 v_one v_other v_change v_woken x4 (x5 + iI 1)) else (if v_change = iI (-1) then ((s_X7_findsTwo_L5 n arr_1 a2 a3 k).2 x5 (iI (-1)) x4 (r13 + r16) x4 (x5 + iI 1)) else (if v_woken ≤ (r13 + r16) then ((s_X7_findsTwo_L5 n arr_1 a2 a3 k).2 v_one v_other v_change v_woken x4 (x5 + iI 1)) else ((s_X7_findsTwo_L5 n arr_1 a2 a3 k).2 x5 (iI (-1)) x4 (r13 + r16) x4 (x5 + iI 1)))))))) else ((s_X7_best n arr_1 x4 a3 x5).bind fun r25 => (if r25 = iI (-1) then (if r25 = iI (-1) then ((s_X7_findsTwo_L5 n arr_1 a2 a3 k).2 v_one v_other v_change v_woken x4 (x5 + iI 1)) else (if v_change = iI (-1) then ((s_X7_findsTwo_L5 n arr_1 a2 a3 k).2 x5 r25 x4 (iI 0) x4 (x5 + iI 1)) else (if v_woken ≤ iI 0 then ((s_X7_findsTwo_L5 n arr_1 a2 a3 k).2 v_one v_other v_change v_woken x4 (x5 + iI 1)) else ((s_X7_findsTwo_L5 n arr_1 a2 a3 k).2 x5 r25 x4 (iI 0) x4 (x5 + iI 1))))) else ((s_X7_wakes n arr_1 x5 a2 x4).bind fun r29 => ((s_X7_wakes n arr_1 r25 x4 a3).bind fun r32 => (if r25 = iI (-1) then ((s_X7_findsTwo_L5 n arr_1 a2 a3 k).2 v_one v_other v_change v_woken x4 (x5 + iI 1)) else (if v_change = iI (-1) then ((s_X7_findsTwo_L5 n arr_1 a2 a3 k).2 x5 r25 x4 (r29 + r32) x4 (x5 + iI 1)) else (if v_woken ≤ (r29 + r32) then ((s_X7_findsTwo_L5 n arr_1 a2 a3 k).2 v_one v_other v_change v_woken x4 (x5 + iI 1)) else ((s_X7_findsTwo_L5 n arr_1 a2 a3 k).2 x5 r25 x4 (r29 + r32) x4 (x5 + iI 1))))))))))) else ((s_X7_findsTwo_L5 n arr_1 a2 a3 k).1 v_one v_other v_change v_woken (x4 + iI 1))))) = some o := h
        refine lv_iload hx hb dX7_findsTwo_14 (lv_at hl 5 rfl) ?_
        refine lv_bipush (v := iI 18) hx hb dX7_findsTwo_16 (by decide) ?_
        refine lv_icmp_ge (tgt := 141) hx hb dX7_findsTwo_18 (by decide) (fun c3 => ?_) (fun c3 => ?_)
        · have h := ipos c3 h
          refine lv_iinc (v := (x4 + iI 1)) hx hb dX7_findsTwo_141 hl (k := 4) rfl rfl (by decide) (rfl : _ = ([(4, .int (x4 + iI 1)), (0, .ref h_p0), (1, .ref h_p1), (2, .int a2), (3, .int a3), (5, .int x5)] : List (Nat × Value))) (fun ls hl => ?_)
          refine lv_goto (tgt := 5) hx hb dX7_findsTwo_144 (by decide) ?_
          exact (ih).1 v_one v_other v_change v_woken (x4 + iI 1) _ _ hP hD hS ls (lv_sub hl [1, 2, 3, 4, 0] rfl) h
        · have h := ineg c3 h
          refine lv_aload_n hx hb dX7_findsTwo_21 rfl (lv_at hl 1 rfl) ?_
          refine lv_iload hx hb dX7_findsTwo_22 (lv_at hl 4 rfl) ?_
          obtain ⟨r4, e5, h⟩ := bsome h
          have hPc := sb_P [(h_p1, .inl (cyI, 452, .inl arr_1))] hP [1] rfl
          have hDc := sb_D [(h_p1, .inl (cyI, 452, .inl arr_1))] hD [1] (by decide) rfl
          have hFc := va_free (wc := [(h_p1, .inl (cyI, 452, .inl arr_1))]) hD hS hA [1] rfl
          refine va_calli (va_runS (As := [.ref h_p1, .int x4]) (rest := []) ⟨hx, hb, hml, hown, hts⟩ (c_X7_isNight l dC dI cyI cyJ cyT h_p1 H.size arr_1 x4 r4 e5) (va_cwS 2 hts gX7_findsTwo_X7_isNight rfl rfl rfl (by decide +kernel) ⟨Nat.le_of_ble_eq_true rfl, Nat.le_of_ble_eq_true rfl⟩) ⟨PRE.blind, PRE.go hK hPc hDc hNW⟩ rfl rfl hl.1 rfl (lv_room (Nat.le_of_ble_eq_true rfl)) dX7_findsTwo_24 ⟨Nat.zero_le _, Nat.zero_le _⟩) hS (fun q _ h => hFc q h) hFc (fun z6 u t H locs ht hvm hw hB hz1 hk1 hS => ?_)
          subst z6
          obtain ⟨hP, hD⟩ := va_join (wr := [(h_p0, .inr (7, [.ref h_p0_now, .ref h_p0_then, .ref h_p0_past, .int v_kept, .ref h_p0_text, .int v_typed, .int v_thrown, .int v_at, .int v_isFault, .ref h_p0_told, .int v_tolds, .int v_one, .int v_other, .int v_change, .int v_woken]))]) (w1 := [(h_p1, .inl (cyI, 452, .inl arr_1))]) hP hD [1] [0] rfl rfl (by decide) (by decide) hk1 hFc (WLD.P hB ht) hB.2
          have hP : va_P (dC, dI) vwCl [(h_p0, .inr (7, [.ref h_p0_now, .ref h_p0_then, .ref h_p0_past, .int v_kept, .ref h_p0_text, .int v_typed, .int v_thrown, .int v_at, .int v_isFault, .ref h_p0_told, .int v_tolds, .int v_one, .int v_other, .int v_change, .int v_woken])), (h_p1, .inl (cyI, 452, .inl arr_1))] H := hP
          have hD : va_D A [(h_p0, .inr (7, [.ref h_p0_now, .ref h_p0_then, .ref h_p0_past, .int v_kept, .ref h_p0_text, .int v_typed, .int v_thrown, .int v_at, .int v_isFault, .ref h_p0_told, .int v_tolds, .int v_one, .int v_other, .int v_change, .int v_woken])), (h_p1, .inl (cyI, 452, .inl arr_1))] := hD
          refine lv_if_ne (tgt := 141) hx hb dX7_findsTwo_27 (by decide) (fun c7 => ?_) (fun c7 => ?_)
          · have h := ineg c7 h
            refine lv_iinc (v := (x4 + iI 1)) hx hb dX7_findsTwo_141 hl (k := 4) rfl rfl (by decide) (rfl : _ = ([(4, .int (x4 + iI 1)), (0, .ref h_p0), (1, .ref h_p1), (2, .int a2), (3, .int a3), (5, .int x5)] : List (Nat × Value))) (fun ls hl => ?_)
            refine lv_goto (tgt := 5) hx hb dX7_findsTwo_144 (by decide) ?_
            exact (ih).1 v_one v_other v_change v_woken (x4 + iI 1) _ _ hP hD hS ls (lv_sub hl [1, 2, 3, 4, 0] rfl) h
          · have h := ipos c7 h
            refine lv_aload_n hx hb dX7_findsTwo_30 rfl (lv_at hl 1 rfl) ?_
            refine lv_iload hx hb dX7_findsTwo_31 (lv_at hl 5 rfl) ?_
            refine lv_iload_n hx hb dX7_findsTwo_33 rfl (lv_at hl 2 rfl) ?_
            refine lv_iload hx hb dX7_findsTwo_34 (lv_at hl 4 rfl) ?_
            obtain ⟨r8, e9, h⟩ := bsome h
            have hPc := sb_P [(h_p1, .inl (cyI, 452, .inl arr_1))] hP [1] rfl
            have hDc := sb_D [(h_p1, .inl (cyI, 452, .inl arr_1))] hD [1] (by decide) rfl
            have hFc := va_free (wc := [(h_p1, .inl (cyI, 452, .inl arr_1))]) hD hS hA [1] rfl
            refine va_calli (va_runS (As := [.ref h_p1, .int x5, .int a2, .int x4]) (rest := []) ⟨hx, hb, hml, hown, hts⟩ (c_X7_isFree l dC dI cyI cyJ cyT h_p1 H.size arr_1 x5 a2 x4 n r8 e9) (va_cwS 4 hts gX7_findsTwo_X7_isFree rfl rfl rfl (by decide +kernel) ⟨Nat.le_of_ble_eq_true rfl, Nat.le_of_ble_eq_true rfl⟩) ⟨PRE.blind, PRE.go hK hPc hDc hNW⟩ rfl rfl hl.1 rfl (lv_room (Nat.le_of_ble_eq_true rfl)) dX7_findsTwo_36 ⟨Nat.zero_le _, Nat.zero_le _⟩) hS (fun q _ h => hFc q h) hFc (fun z10 u t H locs ht hvm hw hB hz1 hk1 hS => ?_)
            subst z10
            obtain ⟨hP, hD⟩ := va_join (wr := [(h_p0, .inr (7, [.ref h_p0_now, .ref h_p0_then, .ref h_p0_past, .int v_kept, .ref h_p0_text, .int v_typed, .int v_thrown, .int v_at, .int v_isFault, .ref h_p0_told, .int v_tolds, .int v_one, .int v_other, .int v_change, .int v_woken]))]) (w1 := [(h_p1, .inl (cyI, 452, .inl arr_1))]) hP hD [1] [0] rfl rfl (by decide) (by decide) hk1 hFc (WLD.P hB ht) hB.2
            have hP : va_P (dC, dI) vwCl [(h_p0, .inr (7, [.ref h_p0_now, .ref h_p0_then, .ref h_p0_past, .int v_kept, .ref h_p0_text, .int v_typed, .int v_thrown, .int v_at, .int v_isFault, .ref h_p0_told, .int v_tolds, .int v_one, .int v_other, .int v_change, .int v_woken])), (h_p1, .inl (cyI, 452, .inl arr_1))] H := hP
            have hD : va_D A [(h_p0, .inr (7, [.ref h_p0_now, .ref h_p0_then, .ref h_p0_past, .int v_kept, .ref h_p0_text, .int v_typed, .int v_thrown, .int v_at, .int v_isFault, .ref h_p0_told, .int v_tolds, .int v_one, .int v_other, .int v_change, .int v_woken])), (h_p1, .inl (cyI, 452, .inl arr_1))] := hD
            refine lv_if_eq (tgt := 54) hx hb dX7_findsTwo_39 (by decide) (fun c11 => ?_) (fun c11 => ?_)
            · have h := ipos c11 h
              refine lv_iconst (v := iI (-1)) hx hb dX7_findsTwo_54 rfl ?_
              refine lv_istore hx hb dX7_findsTwo_55 hl (by decide) (rfl : _ = ([(6, .int (iI (-1))), (0, .ref h_p0), (1, .ref h_p1), (2, .int a2), (3, .int a3), (4, .int x4), (5, .int x5)] : List (Nat × Value))) (fun ls hl => ?_)
              refine lv_iload hx hb dX7_findsTwo_57 (lv_at hl 0 rfl) ?_
              refine lv_iconst (v := iI (-1)) hx hb dX7_findsTwo_59 rfl ?_
              refine lv_icmp_ne (tgt := 67) hx hb dX7_findsTwo_60 (by decide) (fun c12 => ?_) (fun c12 => ?_)
              · have h := ineg c12 h
                refine lv_aload_n hx hb dX7_findsTwo_67 rfl (lv_at hl 2 rfl) ?_
                refine lv_iload hx hb dX7_findsTwo_68 (lv_at hl 6 rfl) ?_
                refine lv_iload_n hx hb dX7_findsTwo_70 rfl (lv_at hl 3 rfl) ?_
                refine lv_iload hx hb dX7_findsTwo_71 (lv_at hl 5 rfl) ?_
                obtain ⟨r13, e14, h⟩ := bsome h
                have hPc := sb_P [(h_p1, .inl (cyI, 452, .inl arr_1))] hP [1] rfl
                have hDc := sb_D [(h_p1, .inl (cyI, 452, .inl arr_1))] hD [1] (by decide) rfl
                have hFc := va_free (wc := [(h_p1, .inl (cyI, 452, .inl arr_1))]) hD hS hA [1] rfl
                refine va_calli (va_runS (As := [.ref h_p1, .int x5, .int a2, .int x4]) (rest := []) ⟨hx, hb, hml, hown, hts⟩ (c_X7_wakes l dC dI cyI cyJ cyT h_p1 H.size arr_1 x5 a2 x4 n r13 e14) (va_cwS 4 hts gX7_findsTwo_X7_wakes rfl rfl rfl (by decide +kernel) ⟨Nat.le_of_ble_eq_true rfl, Nat.le_of_ble_eq_true rfl⟩) ⟨PRE.blind, PRE.go hK hPc hDc hNW⟩ rfl rfl hl.1 rfl (lv_room (Nat.le_of_ble_eq_true rfl)) dX7_findsTwo_73 ⟨Nat.zero_le _, Nat.zero_le _⟩) hS (fun q _ h => hFc q h) hFc (fun z15 u t H locs ht hvm hw hB hz1 hk1 hS => ?_)
                subst z15
                obtain ⟨hP, hD⟩ := va_join (wr := [(h_p0, .inr (7, [.ref h_p0_now, .ref h_p0_then, .ref h_p0_past, .int v_kept, .ref h_p0_text, .int v_typed, .int v_thrown, .int v_at, .int v_isFault, .ref h_p0_told, .int v_tolds, .int v_one, .int v_other, .int v_change, .int v_woken]))]) (w1 := [(h_p1, .inl (cyI, 452, .inl arr_1))]) hP hD [1] [0] rfl rfl (by decide) (by decide) hk1 hFc (WLD.P hB ht) hB.2
                have hP : va_P (dC, dI) vwCl [(h_p0, .inr (7, [.ref h_p0_now, .ref h_p0_then, .ref h_p0_past, .int v_kept, .ref h_p0_text, .int v_typed, .int v_thrown, .int v_at, .int v_isFault, .ref h_p0_told, .int v_tolds, .int v_one, .int v_other, .int v_change, .int v_woken])), (h_p1, .inl (cyI, 452, .inl arr_1))] H := hP
                have hD : va_D A [(h_p0, .inr (7, [.ref h_p0_now, .ref h_p0_then, .ref h_p0_past, .int v_kept, .ref h_p0_text, .int v_typed, .int v_thrown, .int v_at, .int v_isFault, .ref h_p0_told, .int v_tolds, .int v_one, .int v_other, .int v_change, .int v_woken])), (h_p1, .inl (cyI, 452, .inl arr_1))] := hD
                refine lv_aload_n hx hb dX7_findsTwo_76 rfl (lv_at hl 2 rfl) ?_
                refine lv_iload hx hb dX7_findsTwo_77 (lv_at hl 0 rfl) ?_
                refine lv_iload hx hb dX7_findsTwo_79 (lv_at hl 5 rfl) ?_
                refine lv_iload_n hx hb dX7_findsTwo_81 rfl (lv_at hl 4 rfl) ?_
                obtain ⟨r16, e17, h⟩ := bsome h
                have hPc := sb_P [(h_p1, .inl (cyI, 452, .inl arr_1))] hP [1] rfl
                have hDc := sb_D [(h_p1, .inl (cyI, 452, .inl arr_1))] hD [1] (by decide) rfl
                have hFc := va_free (wc := [(h_p1, .inl (cyI, 452, .inl arr_1))]) hD hS hA [1] rfl
                refine va_calli (va_runS (As := [.ref h_p1, .int (iI (-1)), .int x4, .int a3]) (rest := [.int r13]) ⟨hx, hb, hml, hown, hts⟩ (c_X7_wakes l dC dI cyI cyJ cyT h_p1 H.size arr_1 (iI (-1)) x4 a3 n r16 e17) (va_cwS 4 hts gX7_findsTwo_X7_wakes rfl rfl rfl (by decide +kernel) ⟨Nat.le_of_ble_eq_true rfl, Nat.le_of_ble_eq_true rfl⟩) ⟨PRE.blind, PRE.go hK hPc hDc hNW⟩ rfl rfl hl.1 rfl (lv_room (Nat.le_of_ble_eq_true rfl)) dX7_findsTwo_82 ⟨Nat.zero_le _, Nat.zero_le _⟩) hS (fun q _ h => hFc q h) hFc (fun z18 u t H locs ht hvm hw hB hz1 hk1 hS => ?_)
                subst z18
                obtain ⟨hP, hD⟩ := va_join (wr := [(h_p0, .inr (7, [.ref h_p0_now, .ref h_p0_then, .ref h_p0_past, .int v_kept, .ref h_p0_text, .int v_typed, .int v_thrown, .int v_at, .int v_isFault, .ref h_p0_told, .int v_tolds, .int v_one, .int v_other, .int v_change, .int v_woken]))]) (w1 := [(h_p1, .inl (cyI, 452, .inl arr_1))]) hP hD [1] [0] rfl rfl (by decide) (by decide) hk1 hFc (WLD.P hB ht) hB.2
                have hP : va_P (dC, dI) vwCl [(h_p0, .inr (7, [.ref h_p0_now, .ref h_p0_then, .ref h_p0_past, .int v_kept, .ref h_p0_text, .int v_typed, .int v_thrown, .int v_at, .int v_isFault, .ref h_p0_told, .int v_tolds, .int v_one, .int v_other, .int v_change, .int v_woken])), (h_p1, .inl (cyI, 452, .inl arr_1))] H := hP
                have hD : va_D A [(h_p0, .inr (7, [.ref h_p0_now, .ref h_p0_then, .ref h_p0_past, .int v_kept, .ref h_p0_text, .int v_typed, .int v_thrown, .int v_at, .int v_isFault, .ref h_p0_told, .int v_tolds, .int v_one, .int v_other, .int v_change, .int v_woken])), (h_p1, .inl (cyI, 452, .inl arr_1))] := hD
                refine lv_iadd hx hb dX7_findsTwo_85 ?_
                refine lv_istore hx hb dX7_findsTwo_86 hl (by decide) (rfl : _ = ([(7, .int (r13 + r16)), (6, .int (iI (-1))), (0, .ref h_p0), (1, .ref h_p1), (2, .int a2), (3, .int a3), (4, .int x4), (5, .int x5)] : List (Nat × Value))) (fun ls hl => ?_)
                refine lv_iload hx hb dX7_findsTwo_88 (lv_at hl 1 rfl) ?_
                refine lv_iconst (v := iI (-1)) hx hb dX7_findsTwo_90 rfl ?_
                refine lv_icmp_eq (tgt := 135) hx hb dX7_findsTwo_91 (by decide) (fun c19 => ?_) (fun c19 => ?_)
                · have h := ipos c19 h
                  refine lv_iinc (v := (x5 + iI 1)) hx hb dX7_findsTwo_135 hl (k := 7) rfl rfl (by decide) (rfl : _ = ([(5, .int (x5 + iI 1)), (7, .int (r13 + r16)), (6, .int (iI (-1))), (0, .ref h_p0), (1, .ref h_p1), (2, .int a2), (3, .int a3), (4, .int x4)] : List (Nat × Value))) (fun ls hl => ?_)
                  refine lv_goto (tgt := 14) hx hb dX7_findsTwo_138 (by decide) ?_
                  exact (ih).2 v_one v_other v_change v_woken x4 (x5 + iI 1) _ _ hP hD hS ls (lv_sub hl [3, 4, 5, 6, 7, 0] rfl) h
                · have h := ineg c19 h
                  refine lv_aload_n hx hb dX7_findsTwo_94 rfl (lv_at hl 2 rfl) ?_
                  refine va_get (D := (dC, dI)) (ci := 7) (v := .int v_change) (C := RX7) (T := TX7) (N := 15) hx hb hts m_X7_findsTwo_0 hown hK hP 0 rfl rfl 13 (by decide) (hts (.fieldLink RX7 55 "SleeperBerthsModel" "change" "I") m_X7_findsTwo_1) (fun _ h9 => h9) rfl dX7_findsTwo_95 ?_
                  refine lv_iconst (v := iI (-1)) hx hb dX7_findsTwo_98 rfl ?_
                  refine lv_icmp_eq (tgt := 111) hx hb dX7_findsTwo_99 (by decide) (fun c20 => ?_) (fun c20 => ?_)
                  · have h := ipos c20 h
                    refine lv_aload_n hx hb dX7_findsTwo_111 rfl (lv_at hl 2 rfl) ?_
                    refine lv_iload hx hb dX7_findsTwo_112 (lv_at hl 7 rfl) ?_
                    refine va_put (D := (dC, dI)) (ci := 7) (v := .int x5) (ty := .int) (C := RX7) (T := TX7) (N := 15) hx hb hts m_X7_findsTwo_0 tyX7 tyX7_ok nmX7 hown hK hP hD hS 0 rfl rfl 11 (by decide) (hts (.fieldLink RX7 52 "SleeperBerthsModel" "one" "I") m_X7_findsTwo_2) (fun _ h9 => h9) rfl (by decide +kernel) rfl rfl (Nat.le_of_ble_eq_true rfl) dX7_findsTwo_114 (fun H locs hP hD hS => ?_)
                    have hP : va_P (dC, dI) vwCl [(h_p0, .inr (7, [.ref h_p0_now, .ref h_p0_then, .ref h_p0_past, .int v_kept, .ref h_p0_text, .int v_typed, .int v_thrown, .int v_at, .int v_isFault, .ref h_p0_told, .int v_tolds, .int x5, .int v_other, .int v_change, .int v_woken])), (h_p1, .inl (cyI, 452, .inl arr_1))] H := hP
                    have hD : va_D A [(h_p0, .inr (7, [.ref h_p0_now, .ref h_p0_then, .ref h_p0_past, .int v_kept, .ref h_p0_text, .int v_typed, .int v_thrown, .int v_at, .int v_isFault, .ref h_p0_told, .int v_tolds, .int x5, .int v_other, .int v_change, .int v_woken])), (h_p1, .inl (cyI, 452, .inl arr_1))] := hD
                    refine lv_aload_n hx hb dX7_findsTwo_117 rfl (lv_at hl 2 rfl) ?_
                    refine lv_iload hx hb dX7_findsTwo_118 (lv_at hl 1 rfl) ?_
                    refine va_put (D := (dC, dI)) (ci := 7) (v := .int (iI (-1))) (ty := .int) (C := RX7) (T := TX7) (N := 15) hx hb hts m_X7_findsTwo_0 tyX7 tyX7_ok nmX7 hown hK hP hD hS 0 rfl rfl 12 (by decide) (hts (.fieldLink RX7 69 "SleeperBerthsModel" "other" "I") m_X7_findsTwo_3) (fun _ h9 => h9) rfl (by decide +kernel) rfl rfl (Nat.le_of_ble_eq_true rfl) dX7_findsTwo_120 (fun H locs hP hD hS => ?_)
                    have hP : va_P (dC, dI) vwCl [(h_p0, .inr (7, [.ref h_p0_now, .ref h_p0_then, .ref h_p0_past, .int v_kept, .ref h_p0_text, .int v_typed, .int v_thrown, .int v_at, .int v_isFault, .ref h_p0_told, .int v_tolds, .int x5, .int (iI (-1)), .int v_change, .int v_woken])), (h_p1, .inl (cyI, 452, .inl arr_1))] H := hP
                    have hD : va_D A [(h_p0, .inr (7, [.ref h_p0_now, .ref h_p0_then, .ref h_p0_past, .int v_kept, .ref h_p0_text, .int v_typed, .int v_thrown, .int v_at, .int v_isFault, .ref h_p0_told, .int v_tolds, .int x5, .int (iI (-1)), .int v_change, .int v_woken])), (h_p1, .inl (cyI, 452, .inl arr_1))] := hD
                    refine lv_aload_n hx hb dX7_findsTwo_123 rfl (lv_at hl 2 rfl) ?_
                    refine lv_iload hx hb dX7_findsTwo_124 (lv_at hl 6 rfl) ?_
                    refine va_put (D := (dC, dI)) (ci := 7) (v := .int x4) (ty := .int) (C := RX7) (T := TX7) (N := 15) hx hb hts m_X7_findsTwo_0 tyX7 tyX7_ok nmX7 hown hK hP hD hS 0 rfl rfl 13 (by decide) (hts (.fieldLink RX7 55 "SleeperBerthsModel" "change" "I") m_X7_findsTwo_1) (fun _ h9 => h9) rfl (by decide +kernel) rfl rfl (Nat.le_of_ble_eq_true rfl) dX7_findsTwo_126 (fun H locs hP hD hS => ?_)
                    have hP : va_P (dC, dI) vwCl [(h_p0, .inr (7, [.ref h_p0_now, .ref h_p0_then, .ref h_p0_past, .int v_kept, .ref h_p0_text, .int v_typed, .int v_thrown, .int v_at, .int v_isFault, .ref h_p0_told, .int v_tolds, .int x5, .int (iI (-1)), .int x4, .int v_woken])), (h_p1, .inl (cyI, 452, .inl arr_1))] H := hP
                    have hD : va_D A [(h_p0, .inr (7, [.ref h_p0_now, .ref h_p0_then, .ref h_p0_past, .int v_kept, .ref h_p0_text, .int v_typed, .int v_thrown, .int v_at, .int v_isFault, .ref h_p0_told, .int v_tolds, .int x5, .int (iI (-1)), .int x4, .int v_woken])), (h_p1, .inl (cyI, 452, .inl arr_1))] := hD
                    refine lv_aload_n hx hb dX7_findsTwo_129 rfl (lv_at hl 2 rfl) ?_
                    refine lv_iload hx hb dX7_findsTwo_130 (lv_at hl 0 rfl) ?_
                    refine va_put (D := (dC, dI)) (ci := 7) (v := .int (r13 + r16)) (ty := .int) (C := RX7) (T := TX7) (N := 15) hx hb hts m_X7_findsTwo_0 tyX7 tyX7_ok nmX7 hown hK hP hD hS 0 rfl rfl 14 (by decide) (hts (.fieldLink RX7 66 "SleeperBerthsModel" "woken" "I") m_X7_findsTwo_4) (fun _ h9 => h9) rfl (by decide +kernel) rfl rfl (Nat.le_of_ble_eq_true rfl) dX7_findsTwo_132 (fun H locs hP hD hS => ?_)
                    have hP : va_P (dC, dI) vwCl [(h_p0, .inr (7, [.ref h_p0_now, .ref h_p0_then, .ref h_p0_past, .int v_kept, .ref h_p0_text, .int v_typed, .int v_thrown, .int v_at, .int v_isFault, .ref h_p0_told, .int v_tolds, .int x5, .int (iI (-1)), .int x4, .int (r13 + r16)])), (h_p1, .inl (cyI, 452, .inl arr_1))] H := hP
                    have hD : va_D A [(h_p0, .inr (7, [.ref h_p0_now, .ref h_p0_then, .ref h_p0_past, .int v_kept, .ref h_p0_text, .int v_typed, .int v_thrown, .int v_at, .int v_isFault, .ref h_p0_told, .int v_tolds, .int x5, .int (iI (-1)), .int x4, .int (r13 + r16)])), (h_p1, .inl (cyI, 452, .inl arr_1))] := hD
                    refine lv_iinc (v := (x5 + iI 1)) hx hb dX7_findsTwo_135 hl (k := 7) rfl rfl (by decide) (rfl : _ = ([(5, .int (x5 + iI 1)), (7, .int (r13 + r16)), (6, .int (iI (-1))), (0, .ref h_p0), (1, .ref h_p1), (2, .int a2), (3, .int a3), (4, .int x4)] : List (Nat × Value))) (fun ls hl => ?_)
                    refine lv_goto (tgt := 14) hx hb dX7_findsTwo_138 (by decide) ?_
                    exact (ih).2 x5 (iI (-1)) x4 (r13 + r16) x4 (x5 + iI 1) _ _ hP hD hS ls (lv_sub hl [3, 4, 5, 6, 7, 0] rfl) h
                  · have h := ineg c20 h
                    refine lv_iload hx hb dX7_findsTwo_102 (lv_at hl 0 rfl) ?_
                    refine lv_aload_n hx hb dX7_findsTwo_104 rfl (lv_at hl 2 rfl) ?_
                    refine va_get (D := (dC, dI)) (ci := 7) (v := .int v_woken) (C := RX7) (T := TX7) (N := 15) hx hb hts m_X7_findsTwo_0 hown hK hP 0 rfl rfl 14 (by decide) (hts (.fieldLink RX7 66 "SleeperBerthsModel" "woken" "I") m_X7_findsTwo_4) (fun _ h9 => h9) rfl dX7_findsTwo_105 ?_
                    refine lv_icmp_ge (tgt := 135) hx hb dX7_findsTwo_108 (by decide) (fun c21 => ?_) (fun c21 => ?_)
                    · have h := ipos c21 h
                      refine lv_iinc (v := (x5 + iI 1)) hx hb dX7_findsTwo_135 hl (k := 7) rfl rfl (by decide) (rfl : _ = ([(5, .int (x5 + iI 1)), (7, .int (r13 + r16)), (6, .int (iI (-1))), (0, .ref h_p0), (1, .ref h_p1), (2, .int a2), (3, .int a3), (4, .int x4)] : List (Nat × Value))) (fun ls hl => ?_)
                      refine lv_goto (tgt := 14) hx hb dX7_findsTwo_138 (by decide) ?_
                      exact (ih).2 v_one v_other v_change v_woken x4 (x5 + iI 1) _ _ hP hD hS ls (lv_sub hl [3, 4, 5, 6, 7, 0] rfl) h
                    · have h := ineg c21 h
                      refine lv_aload_n hx hb dX7_findsTwo_111 rfl (lv_at hl 2 rfl) ?_
                      refine lv_iload hx hb dX7_findsTwo_112 (lv_at hl 7 rfl) ?_
                      refine va_put (D := (dC, dI)) (ci := 7) (v := .int x5) (ty := .int) (C := RX7) (T := TX7) (N := 15) hx hb hts m_X7_findsTwo_0 tyX7 tyX7_ok nmX7 hown hK hP hD hS 0 rfl rfl 11 (by decide) (hts (.fieldLink RX7 52 "SleeperBerthsModel" "one" "I") m_X7_findsTwo_2) (fun _ h9 => h9) rfl (by decide +kernel) rfl rfl (Nat.le_of_ble_eq_true rfl) dX7_findsTwo_114 (fun H locs hP hD hS => ?_)
                      have hP : va_P (dC, dI) vwCl [(h_p0, .inr (7, [.ref h_p0_now, .ref h_p0_then, .ref h_p0_past, .int v_kept, .ref h_p0_text, .int v_typed, .int v_thrown, .int v_at, .int v_isFault, .ref h_p0_told, .int v_tolds, .int x5, .int v_other, .int v_change, .int v_woken])), (h_p1, .inl (cyI, 452, .inl arr_1))] H := hP
                      have hD : va_D A [(h_p0, .inr (7, [.ref h_p0_now, .ref h_p0_then, .ref h_p0_past, .int v_kept, .ref h_p0_text, .int v_typed, .int v_thrown, .int v_at, .int v_isFault, .ref h_p0_told, .int v_tolds, .int x5, .int v_other, .int v_change, .int v_woken])), (h_p1, .inl (cyI, 452, .inl arr_1))] := hD
                      refine lv_aload_n hx hb dX7_findsTwo_117 rfl (lv_at hl 2 rfl) ?_
                      refine lv_iload hx hb dX7_findsTwo_118 (lv_at hl 1 rfl) ?_
                      refine va_put (D := (dC, dI)) (ci := 7) (v := .int (iI (-1))) (ty := .int) (C := RX7) (T := TX7) (N := 15) hx hb hts m_X7_findsTwo_0 tyX7 tyX7_ok nmX7 hown hK hP hD hS 0 rfl rfl 12 (by decide) (hts (.fieldLink RX7 69 "SleeperBerthsModel" "other" "I") m_X7_findsTwo_3) (fun _ h9 => h9) rfl (by decide +kernel) rfl rfl (Nat.le_of_ble_eq_true rfl) dX7_findsTwo_120 (fun H locs hP hD hS => ?_)
                      have hP : va_P (dC, dI) vwCl [(h_p0, .inr (7, [.ref h_p0_now, .ref h_p0_then, .ref h_p0_past, .int v_kept, .ref h_p0_text, .int v_typed, .int v_thrown, .int v_at, .int v_isFault, .ref h_p0_told, .int v_tolds, .int x5, .int (iI (-1)), .int v_change, .int v_woken])), (h_p1, .inl (cyI, 452, .inl arr_1))] H := hP
                      have hD : va_D A [(h_p0, .inr (7, [.ref h_p0_now, .ref h_p0_then, .ref h_p0_past, .int v_kept, .ref h_p0_text, .int v_typed, .int v_thrown, .int v_at, .int v_isFault, .ref h_p0_told, .int v_tolds, .int x5, .int (iI (-1)), .int v_change, .int v_woken])), (h_p1, .inl (cyI, 452, .inl arr_1))] := hD
                      refine lv_aload_n hx hb dX7_findsTwo_123 rfl (lv_at hl 2 rfl) ?_
                      refine lv_iload hx hb dX7_findsTwo_124 (lv_at hl 6 rfl) ?_
                      refine va_put (D := (dC, dI)) (ci := 7) (v := .int x4) (ty := .int) (C := RX7) (T := TX7) (N := 15) hx hb hts m_X7_findsTwo_0 tyX7 tyX7_ok nmX7 hown hK hP hD hS 0 rfl rfl 13 (by decide) (hts (.fieldLink RX7 55 "SleeperBerthsModel" "change" "I") m_X7_findsTwo_1) (fun _ h9 => h9) rfl (by decide +kernel) rfl rfl (Nat.le_of_ble_eq_true rfl) dX7_findsTwo_126 (fun H locs hP hD hS => ?_)
                      have hP : va_P (dC, dI) vwCl [(h_p0, .inr (7, [.ref h_p0_now, .ref h_p0_then, .ref h_p0_past, .int v_kept, .ref h_p0_text, .int v_typed, .int v_thrown, .int v_at, .int v_isFault, .ref h_p0_told, .int v_tolds, .int x5, .int (iI (-1)), .int x4, .int v_woken])), (h_p1, .inl (cyI, 452, .inl arr_1))] H := hP
                      have hD : va_D A [(h_p0, .inr (7, [.ref h_p0_now, .ref h_p0_then, .ref h_p0_past, .int v_kept, .ref h_p0_text, .int v_typed, .int v_thrown, .int v_at, .int v_isFault, .ref h_p0_told, .int v_tolds, .int x5, .int (iI (-1)), .int x4, .int v_woken])), (h_p1, .inl (cyI, 452, .inl arr_1))] := hD
                      refine lv_aload_n hx hb dX7_findsTwo_129 rfl (lv_at hl 2 rfl) ?_
                      refine lv_iload hx hb dX7_findsTwo_130 (lv_at hl 0 rfl) ?_
                      refine va_put (D := (dC, dI)) (ci := 7) (v := .int (r13 + r16)) (ty := .int) (C := RX7) (T := TX7) (N := 15) hx hb hts m_X7_findsTwo_0 tyX7 tyX7_ok nmX7 hown hK hP hD hS 0 rfl rfl 14 (by decide) (hts (.fieldLink RX7 66 "SleeperBerthsModel" "woken" "I") m_X7_findsTwo_4) (fun _ h9 => h9) rfl (by decide +kernel) rfl rfl (Nat.le_of_ble_eq_true rfl) dX7_findsTwo_132 (fun H locs hP hD hS => ?_)
                      have hP : va_P (dC, dI) vwCl [(h_p0, .inr (7, [.ref h_p0_now, .ref h_p0_then, .ref h_p0_past, .int v_kept, .ref h_p0_text, .int v_typed, .int v_thrown, .int v_at, .int v_isFault, .ref h_p0_told, .int v_tolds, .int x5, .int (iI (-1)), .int x4, .int (r13 + r16)])), (h_p1, .inl (cyI, 452, .inl arr_1))] H := hP
                      have hD : va_D A [(h_p0, .inr (7, [.ref h_p0_now, .ref h_p0_then, .ref h_p0_past, .int v_kept, .ref h_p0_text, .int v_typed, .int v_thrown, .int v_at, .int v_isFault, .ref h_p0_told, .int v_tolds, .int x5, .int (iI (-1)), .int x4, .int (r13 + r16)])), (h_p1, .inl (cyI, 452, .inl arr_1))] := hD
                      refine lv_iinc (v := (x5 + iI 1)) hx hb dX7_findsTwo_135 hl (k := 7) rfl rfl (by decide) (rfl : _ = ([(5, .int (x5 + iI 1)), (7, .int (r13 + r16)), (6, .int (iI (-1))), (0, .ref h_p0), (1, .ref h_p1), (2, .int a2), (3, .int a3), (4, .int x4)] : List (Nat × Value))) (fun ls hl => ?_)
                      refine lv_goto (tgt := 14) hx hb dX7_findsTwo_138 (by decide) ?_
                      exact (ih).2 x5 (iI (-1)) x4 (r13 + r16) x4 (x5 + iI 1) _ _ hP hD hS ls (lv_sub hl [3, 4, 5, 6, 7, 0] rfl) h
              · have h := ipos c12 h
                refine lv_iconst (v := iI 0) hx hb dX7_findsTwo_63 rfl ?_
                refine lv_goto (tgt := 86) hx hb dX7_findsTwo_64 (by decide) ?_
                refine lv_istore hx hb dX7_findsTwo_86 hl (by decide) (rfl : _ = ([(7, .int (iI 0)), (6, .int (iI (-1))), (0, .ref h_p0), (1, .ref h_p1), (2, .int a2), (3, .int a3), (4, .int x4), (5, .int x5)] : List (Nat × Value))) (fun ls hl => ?_)
                refine lv_iload hx hb dX7_findsTwo_88 (lv_at hl 1 rfl) ?_
                refine lv_iconst (v := iI (-1)) hx hb dX7_findsTwo_90 rfl ?_
                refine lv_icmp_eq (tgt := 135) hx hb dX7_findsTwo_91 (by decide) (fun c22 => ?_) (fun c22 => ?_)
                · have h := ipos c22 h
                  refine lv_iinc (v := (x5 + iI 1)) hx hb dX7_findsTwo_135 hl (k := 7) rfl rfl (by decide) (rfl : _ = ([(5, .int (x5 + iI 1)), (7, .int (iI 0)), (6, .int (iI (-1))), (0, .ref h_p0), (1, .ref h_p1), (2, .int a2), (3, .int a3), (4, .int x4)] : List (Nat × Value))) (fun ls hl => ?_)
                  refine lv_goto (tgt := 14) hx hb dX7_findsTwo_138 (by decide) ?_
                  exact (ih).2 v_one v_other v_change v_woken x4 (x5 + iI 1) _ _ hP hD hS ls (lv_sub hl [3, 4, 5, 6, 7, 0] rfl) h
                · have h := ineg c22 h
                  refine lv_aload_n hx hb dX7_findsTwo_94 rfl (lv_at hl 2 rfl) ?_
                  refine va_get (D := (dC, dI)) (ci := 7) (v := .int v_change) (C := RX7) (T := TX7) (N := 15) hx hb hts m_X7_findsTwo_0 hown hK hP 0 rfl rfl 13 (by decide) (hts (.fieldLink RX7 55 "SleeperBerthsModel" "change" "I") m_X7_findsTwo_1) (fun _ h9 => h9) rfl dX7_findsTwo_95 ?_
                  refine lv_iconst (v := iI (-1)) hx hb dX7_findsTwo_98 rfl ?_
                  refine lv_icmp_eq (tgt := 111) hx hb dX7_findsTwo_99 (by decide) (fun c23 => ?_) (fun c23 => ?_)
                  · have h := ipos c23 h
                    refine lv_aload_n hx hb dX7_findsTwo_111 rfl (lv_at hl 2 rfl) ?_
                    refine lv_iload hx hb dX7_findsTwo_112 (lv_at hl 7 rfl) ?_
                    refine va_put (D := (dC, dI)) (ci := 7) (v := .int x5) (ty := .int) (C := RX7) (T := TX7) (N := 15) hx hb hts m_X7_findsTwo_0 tyX7 tyX7_ok nmX7 hown hK hP hD hS 0 rfl rfl 11 (by decide) (hts (.fieldLink RX7 52 "SleeperBerthsModel" "one" "I") m_X7_findsTwo_2) (fun _ h9 => h9) rfl (by decide +kernel) rfl rfl (Nat.le_of_ble_eq_true rfl) dX7_findsTwo_114 (fun H locs hP hD hS => ?_)
                    have hP : va_P (dC, dI) vwCl [(h_p0, .inr (7, [.ref h_p0_now, .ref h_p0_then, .ref h_p0_past, .int v_kept, .ref h_p0_text, .int v_typed, .int v_thrown, .int v_at, .int v_isFault, .ref h_p0_told, .int v_tolds, .int x5, .int v_other, .int v_change, .int v_woken])), (h_p1, .inl (cyI, 452, .inl arr_1))] H := hP
                    have hD : va_D A [(h_p0, .inr (7, [.ref h_p0_now, .ref h_p0_then, .ref h_p0_past, .int v_kept, .ref h_p0_text, .int v_typed, .int v_thrown, .int v_at, .int v_isFault, .ref h_p0_told, .int v_tolds, .int x5, .int v_other, .int v_change, .int v_woken])), (h_p1, .inl (cyI, 452, .inl arr_1))] := hD
                    refine lv_aload_n hx hb dX7_findsTwo_117 rfl (lv_at hl 2 rfl) ?_
                    refine lv_iload hx hb dX7_findsTwo_118 (lv_at hl 1 rfl) ?_
                    refine va_put (D := (dC, dI)) (ci := 7) (v := .int (iI (-1))) (ty := .int) (C := RX7) (T := TX7) (N := 15) hx hb hts m_X7_findsTwo_0 tyX7 tyX7_ok nmX7 hown hK hP hD hS 0 rfl rfl 12 (by decide) (hts (.fieldLink RX7 69 "SleeperBerthsModel" "other" "I") m_X7_findsTwo_3) (fun _ h9 => h9) rfl (by decide +kernel) rfl rfl (Nat.le_of_ble_eq_true rfl) dX7_findsTwo_120 (fun H locs hP hD hS => ?_)
                    have hP : va_P (dC, dI) vwCl [(h_p0, .inr (7, [.ref h_p0_now, .ref h_p0_then, .ref h_p0_past, .int v_kept, .ref h_p0_text, .int v_typed, .int v_thrown, .int v_at, .int v_isFault, .ref h_p0_told, .int v_tolds, .int x5, .int (iI (-1)), .int v_change, .int v_woken])), (h_p1, .inl (cyI, 452, .inl arr_1))] H := hP
                    have hD : va_D A [(h_p0, .inr (7, [.ref h_p0_now, .ref h_p0_then, .ref h_p0_past, .int v_kept, .ref h_p0_text, .int v_typed, .int v_thrown, .int v_at, .int v_isFault, .ref h_p0_told, .int v_tolds, .int x5, .int (iI (-1)), .int v_change, .int v_woken])), (h_p1, .inl (cyI, 452, .inl arr_1))] := hD
                    refine lv_aload_n hx hb dX7_findsTwo_123 rfl (lv_at hl 2 rfl) ?_
                    refine lv_iload hx hb dX7_findsTwo_124 (lv_at hl 6 rfl) ?_
                    refine va_put (D := (dC, dI)) (ci := 7) (v := .int x4) (ty := .int) (C := RX7) (T := TX7) (N := 15) hx hb hts m_X7_findsTwo_0 tyX7 tyX7_ok nmX7 hown hK hP hD hS 0 rfl rfl 13 (by decide) (hts (.fieldLink RX7 55 "SleeperBerthsModel" "change" "I") m_X7_findsTwo_1) (fun _ h9 => h9) rfl (by decide +kernel) rfl rfl (Nat.le_of_ble_eq_true rfl) dX7_findsTwo_126 (fun H locs hP hD hS => ?_)
                    have hP : va_P (dC, dI) vwCl [(h_p0, .inr (7, [.ref h_p0_now, .ref h_p0_then, .ref h_p0_past, .int v_kept, .ref h_p0_text, .int v_typed, .int v_thrown, .int v_at, .int v_isFault, .ref h_p0_told, .int v_tolds, .int x5, .int (iI (-1)), .int x4, .int v_woken])), (h_p1, .inl (cyI, 452, .inl arr_1))] H := hP
                    have hD : va_D A [(h_p0, .inr (7, [.ref h_p0_now, .ref h_p0_then, .ref h_p0_past, .int v_kept, .ref h_p0_text, .int v_typed, .int v_thrown, .int v_at, .int v_isFault, .ref h_p0_told, .int v_tolds, .int x5, .int (iI (-1)), .int x4, .int v_woken])), (h_p1, .inl (cyI, 452, .inl arr_1))] := hD
                    refine lv_aload_n hx hb dX7_findsTwo_129 rfl (lv_at hl 2 rfl) ?_
                    refine lv_iload hx hb dX7_findsTwo_130 (lv_at hl 0 rfl) ?_
                    refine va_put (D := (dC, dI)) (ci := 7) (v := .int (iI 0)) (ty := .int) (C := RX7) (T := TX7) (N := 15) hx hb hts m_X7_findsTwo_0 tyX7 tyX7_ok nmX7 hown hK hP hD hS 0 rfl rfl 14 (by decide) (hts (.fieldLink RX7 66 "SleeperBerthsModel" "woken" "I") m_X7_findsTwo_4) (fun _ h9 => h9) rfl (by decide +kernel) rfl rfl (Nat.le_of_ble_eq_true rfl) dX7_findsTwo_132 (fun H locs hP hD hS => ?_)
                    have hP : va_P (dC, dI) vwCl [(h_p0, .inr (7, [.ref h_p0_now, .ref h_p0_then, .ref h_p0_past, .int v_kept, .ref h_p0_text, .int v_typed, .int v_thrown, .int v_at, .int v_isFault, .ref h_p0_told, .int v_tolds, .int x5, .int (iI (-1)), .int x4, .int (iI 0)])), (h_p1, .inl (cyI, 452, .inl arr_1))] H := hP
                    have hD : va_D A [(h_p0, .inr (7, [.ref h_p0_now, .ref h_p0_then, .ref h_p0_past, .int v_kept, .ref h_p0_text, .int v_typed, .int v_thrown, .int v_at, .int v_isFault, .ref h_p0_told, .int v_tolds, .int x5, .int (iI (-1)), .int x4, .int (iI 0)])), (h_p1, .inl (cyI, 452, .inl arr_1))] := hD
                    refine lv_iinc (v := (x5 + iI 1)) hx hb dX7_findsTwo_135 hl (k := 7) rfl rfl (by decide) (rfl : _ = ([(5, .int (x5 + iI 1)), (7, .int (iI 0)), (6, .int (iI (-1))), (0, .ref h_p0), (1, .ref h_p1), (2, .int a2), (3, .int a3), (4, .int x4)] : List (Nat × Value))) (fun ls hl => ?_)
                    refine lv_goto (tgt := 14) hx hb dX7_findsTwo_138 (by decide) ?_
                    exact (ih).2 x5 (iI (-1)) x4 (iI 0) x4 (x5 + iI 1) _ _ hP hD hS ls (lv_sub hl [3, 4, 5, 6, 7, 0] rfl) h
                  · have h := ineg c23 h
                    refine lv_iload hx hb dX7_findsTwo_102 (lv_at hl 0 rfl) ?_
                    refine lv_aload_n hx hb dX7_findsTwo_104 rfl (lv_at hl 2 rfl) ?_
                    refine va_get (D := (dC, dI)) (ci := 7) (v := .int v_woken) (C := RX7) (T := TX7) (N := 15) hx hb hts m_X7_findsTwo_0 hown hK hP 0 rfl rfl 14 (by decide) (hts (.fieldLink RX7 66 "SleeperBerthsModel" "woken" "I") m_X7_findsTwo_4) (fun _ h9 => h9) rfl dX7_findsTwo_105 ?_
                    refine lv_icmp_ge (tgt := 135) hx hb dX7_findsTwo_108 (by decide) (fun c24 => ?_) (fun c24 => ?_)
                    · have h := ipos c24 h
                      refine lv_iinc (v := (x5 + iI 1)) hx hb dX7_findsTwo_135 hl (k := 7) rfl rfl (by decide) (rfl : _ = ([(5, .int (x5 + iI 1)), (7, .int (iI 0)), (6, .int (iI (-1))), (0, .ref h_p0), (1, .ref h_p1), (2, .int a2), (3, .int a3), (4, .int x4)] : List (Nat × Value))) (fun ls hl => ?_)
                      refine lv_goto (tgt := 14) hx hb dX7_findsTwo_138 (by decide) ?_
                      exact (ih).2 v_one v_other v_change v_woken x4 (x5 + iI 1) _ _ hP hD hS ls (lv_sub hl [3, 4, 5, 6, 7, 0] rfl) h
                    · have h := ineg c24 h
                      refine lv_aload_n hx hb dX7_findsTwo_111 rfl (lv_at hl 2 rfl) ?_
                      refine lv_iload hx hb dX7_findsTwo_112 (lv_at hl 7 rfl) ?_
                      refine va_put (D := (dC, dI)) (ci := 7) (v := .int x5) (ty := .int) (C := RX7) (T := TX7) (N := 15) hx hb hts m_X7_findsTwo_0 tyX7 tyX7_ok nmX7 hown hK hP hD hS 0 rfl rfl 11 (by decide) (hts (.fieldLink RX7 52 "SleeperBerthsModel" "one" "I") m_X7_findsTwo_2) (fun _ h9 => h9) rfl (by decide +kernel) rfl rfl (Nat.le_of_ble_eq_true rfl) dX7_findsTwo_114 (fun H locs hP hD hS => ?_)
                      have hP : va_P (dC, dI) vwCl [(h_p0, .inr (7, [.ref h_p0_now, .ref h_p0_then, .ref h_p0_past, .int v_kept, .ref h_p0_text, .int v_typed, .int v_thrown, .int v_at, .int v_isFault, .ref h_p0_told, .int v_tolds, .int x5, .int v_other, .int v_change, .int v_woken])), (h_p1, .inl (cyI, 452, .inl arr_1))] H := hP
                      have hD : va_D A [(h_p0, .inr (7, [.ref h_p0_now, .ref h_p0_then, .ref h_p0_past, .int v_kept, .ref h_p0_text, .int v_typed, .int v_thrown, .int v_at, .int v_isFault, .ref h_p0_told, .int v_tolds, .int x5, .int v_other, .int v_change, .int v_woken])), (h_p1, .inl (cyI, 452, .inl arr_1))] := hD
                      refine lv_aload_n hx hb dX7_findsTwo_117 rfl (lv_at hl 2 rfl) ?_
                      refine lv_iload hx hb dX7_findsTwo_118 (lv_at hl 1 rfl) ?_
                      refine va_put (D := (dC, dI)) (ci := 7) (v := .int (iI (-1))) (ty := .int) (C := RX7) (T := TX7) (N := 15) hx hb hts m_X7_findsTwo_0 tyX7 tyX7_ok nmX7 hown hK hP hD hS 0 rfl rfl 12 (by decide) (hts (.fieldLink RX7 69 "SleeperBerthsModel" "other" "I") m_X7_findsTwo_3) (fun _ h9 => h9) rfl (by decide +kernel) rfl rfl (Nat.le_of_ble_eq_true rfl) dX7_findsTwo_120 (fun H locs hP hD hS => ?_)
                      have hP : va_P (dC, dI) vwCl [(h_p0, .inr (7, [.ref h_p0_now, .ref h_p0_then, .ref h_p0_past, .int v_kept, .ref h_p0_text, .int v_typed, .int v_thrown, .int v_at, .int v_isFault, .ref h_p0_told, .int v_tolds, .int x5, .int (iI (-1)), .int v_change, .int v_woken])), (h_p1, .inl (cyI, 452, .inl arr_1))] H := hP
                      have hD : va_D A [(h_p0, .inr (7, [.ref h_p0_now, .ref h_p0_then, .ref h_p0_past, .int v_kept, .ref h_p0_text, .int v_typed, .int v_thrown, .int v_at, .int v_isFault, .ref h_p0_told, .int v_tolds, .int x5, .int (iI (-1)), .int v_change, .int v_woken])), (h_p1, .inl (cyI, 452, .inl arr_1))] := hD
                      refine lv_aload_n hx hb dX7_findsTwo_123 rfl (lv_at hl 2 rfl) ?_
                      refine lv_iload hx hb dX7_findsTwo_124 (lv_at hl 6 rfl) ?_
                      refine va_put (D := (dC, dI)) (ci := 7) (v := .int x4) (ty := .int) (C := RX7) (T := TX7) (N := 15) hx hb hts m_X7_findsTwo_0 tyX7 tyX7_ok nmX7 hown hK hP hD hS 0 rfl rfl 13 (by decide) (hts (.fieldLink RX7 55 "SleeperBerthsModel" "change" "I") m_X7_findsTwo_1) (fun _ h9 => h9) rfl (by decide +kernel) rfl rfl (Nat.le_of_ble_eq_true rfl) dX7_findsTwo_126 (fun H locs hP hD hS => ?_)
                      have hP : va_P (dC, dI) vwCl [(h_p0, .inr (7, [.ref h_p0_now, .ref h_p0_then, .ref h_p0_past, .int v_kept, .ref h_p0_text, .int v_typed, .int v_thrown, .int v_at, .int v_isFault, .ref h_p0_told, .int v_tolds, .int x5, .int (iI (-1)), .int x4, .int v_woken])), (h_p1, .inl (cyI, 452, .inl arr_1))] H := hP
                      have hD : va_D A [(h_p0, .inr (7, [.ref h_p0_now, .ref h_p0_then, .ref h_p0_past, .int v_kept, .ref h_p0_text, .int v_typed, .int v_thrown, .int v_at, .int v_isFault, .ref h_p0_told, .int v_tolds, .int x5, .int (iI (-1)), .int x4, .int v_woken])), (h_p1, .inl (cyI, 452, .inl arr_1))] := hD
                      refine lv_aload_n hx hb dX7_findsTwo_129 rfl (lv_at hl 2 rfl) ?_
                      refine lv_iload hx hb dX7_findsTwo_130 (lv_at hl 0 rfl) ?_
                      refine va_put (D := (dC, dI)) (ci := 7) (v := .int (iI 0)) (ty := .int) (C := RX7) (T := TX7) (N := 15) hx hb hts m_X7_findsTwo_0 tyX7 tyX7_ok nmX7 hown hK hP hD hS 0 rfl rfl 14 (by decide) (hts (.fieldLink RX7 66 "SleeperBerthsModel" "woken" "I") m_X7_findsTwo_4) (fun _ h9 => h9) rfl (by decide +kernel) rfl rfl (Nat.le_of_ble_eq_true rfl) dX7_findsTwo_132 (fun H locs hP hD hS => ?_)
                      have hP : va_P (dC, dI) vwCl [(h_p0, .inr (7, [.ref h_p0_now, .ref h_p0_then, .ref h_p0_past, .int v_kept, .ref h_p0_text, .int v_typed, .int v_thrown, .int v_at, .int v_isFault, .ref h_p0_told, .int v_tolds, .int x5, .int (iI (-1)), .int x4, .int (iI 0)])), (h_p1, .inl (cyI, 452, .inl arr_1))] H := hP
                      have hD : va_D A [(h_p0, .inr (7, [.ref h_p0_now, .ref h_p0_then, .ref h_p0_past, .int v_kept, .ref h_p0_text, .int v_typed, .int v_thrown, .int v_at, .int v_isFault, .ref h_p0_told, .int v_tolds, .int x5, .int (iI (-1)), .int x4, .int (iI 0)])), (h_p1, .inl (cyI, 452, .inl arr_1))] := hD
                      refine lv_iinc (v := (x5 + iI 1)) hx hb dX7_findsTwo_135 hl (k := 7) rfl rfl (by decide) (rfl : _ = ([(5, .int (x5 + iI 1)), (7, .int (iI 0)), (6, .int (iI (-1))), (0, .ref h_p0), (1, .ref h_p1), (2, .int a2), (3, .int a3), (4, .int x4)] : List (Nat × Value))) (fun ls hl => ?_)
                      refine lv_goto (tgt := 14) hx hb dX7_findsTwo_138 (by decide) ?_
                      exact (ih).2 x5 (iI (-1)) x4 (iI 0) x4 (x5 + iI 1) _ _ hP hD hS ls (lv_sub hl [3, 4, 5, 6, 7, 0] rfl) h
            · have h := ineg c11 h
              refine lv_aload_n hx hb dX7_findsTwo_42 rfl (lv_at hl 1 rfl) ?_
              refine lv_iload hx hb dX7_findsTwo_43 (lv_at hl 4 rfl) ?_
              refine lv_iload_n hx hb dX7_findsTwo_45 rfl (lv_at hl 3 rfl) ?_
              refine lv_iload hx hb dX7_findsTwo_46 (lv_at hl 5 rfl) ?_
              obtain ⟨r25, e26, h⟩ := bsome h
              have hPc := sb_P [(h_p1, .inl (cyI, 452, .inl arr_1))] hP [1] rfl
              have hDc := sb_D [(h_p1, .inl (cyI, 452, .inl arr_1))] hD [1] (by decide) rfl
              have hFc := va_free (wc := [(h_p1, .inl (cyI, 452, .inl arr_1))]) hD hS hA [1] rfl
              refine va_calli (va_runS (As := [.ref h_p1, .int x4, .int a3, .int x5]) (rest := []) ⟨hx, hb, hml, hown, hts⟩ (c_X7_best l dC dI cyI cyJ cyT h_p1 H.size arr_1 x4 a3 x5 n r25 e26) (va_cwS 4 hts gX7_findsTwo_X7_best rfl rfl rfl (by decide +kernel) ⟨Nat.le_of_ble_eq_true rfl, Nat.le_of_ble_eq_true rfl⟩) ⟨PRE.blind, PRE.go hK hPc hDc hNW⟩ rfl rfl hl.1 rfl (lv_room (Nat.le_of_ble_eq_true rfl)) dX7_findsTwo_48 ⟨Nat.zero_le _, Nat.zero_le _⟩) hS (fun q _ h => hFc q h) hFc (fun z27 u t H locs ht hvm hw hB hz1 hk1 hS => ?_)
              subst z27
              obtain ⟨hP, hD⟩ := va_join (wr := [(h_p0, .inr (7, [.ref h_p0_now, .ref h_p0_then, .ref h_p0_past, .int v_kept, .ref h_p0_text, .int v_typed, .int v_thrown, .int v_at, .int v_isFault, .ref h_p0_told, .int v_tolds, .int v_one, .int v_other, .int v_change, .int v_woken]))]) (w1 := [(h_p1, .inl (cyI, 452, .inl arr_1))]) hP hD [1] [0] rfl rfl (by decide) (by decide) hk1 hFc (WLD.P hB ht) hB.2
              have hP : va_P (dC, dI) vwCl [(h_p0, .inr (7, [.ref h_p0_now, .ref h_p0_then, .ref h_p0_past, .int v_kept, .ref h_p0_text, .int v_typed, .int v_thrown, .int v_at, .int v_isFault, .ref h_p0_told, .int v_tolds, .int v_one, .int v_other, .int v_change, .int v_woken])), (h_p1, .inl (cyI, 452, .inl arr_1))] H := hP
              have hD : va_D A [(h_p0, .inr (7, [.ref h_p0_now, .ref h_p0_then, .ref h_p0_past, .int v_kept, .ref h_p0_text, .int v_typed, .int v_thrown, .int v_at, .int v_isFault, .ref h_p0_told, .int v_tolds, .int v_one, .int v_other, .int v_change, .int v_woken])), (h_p1, .inl (cyI, 452, .inl arr_1))] := hD
              refine lv_goto (tgt := 55) hx hb dX7_findsTwo_51 (by decide) ?_
              refine lv_istore hx hb dX7_findsTwo_55 hl (by decide) (rfl : _ = ([(6, .int r25), (0, .ref h_p0), (1, .ref h_p1), (2, .int a2), (3, .int a3), (4, .int x4), (5, .int x5)] : List (Nat × Value))) (fun ls hl => ?_)
              refine lv_iload hx hb dX7_findsTwo_57 (lv_at hl 0 rfl) ?_
              refine lv_iconst (v := iI (-1)) hx hb dX7_findsTwo_59 rfl ?_
              refine lv_icmp_ne (tgt := 67) hx hb dX7_findsTwo_60 (by decide) (fun c28 => ?_) (fun c28 => ?_)
              · have h := ineg c28 h
                refine lv_aload_n hx hb dX7_findsTwo_67 rfl (lv_at hl 2 rfl) ?_
                refine lv_iload hx hb dX7_findsTwo_68 (lv_at hl 6 rfl) ?_
                refine lv_iload_n hx hb dX7_findsTwo_70 rfl (lv_at hl 3 rfl) ?_
                refine lv_iload hx hb dX7_findsTwo_71 (lv_at hl 5 rfl) ?_
                obtain ⟨r29, e30, h⟩ := bsome h
                have hPc := sb_P [(h_p1, .inl (cyI, 452, .inl arr_1))] hP [1] rfl
                have hDc := sb_D [(h_p1, .inl (cyI, 452, .inl arr_1))] hD [1] (by decide) rfl
                have hFc := va_free (wc := [(h_p1, .inl (cyI, 452, .inl arr_1))]) hD hS hA [1] rfl
                refine va_calli (va_runS (As := [.ref h_p1, .int x5, .int a2, .int x4]) (rest := []) ⟨hx, hb, hml, hown, hts⟩ (c_X7_wakes l dC dI cyI cyJ cyT h_p1 H.size arr_1 x5 a2 x4 n r29 e30) (va_cwS 4 hts gX7_findsTwo_X7_wakes rfl rfl rfl (by decide +kernel) ⟨Nat.le_of_ble_eq_true rfl, Nat.le_of_ble_eq_true rfl⟩) ⟨PRE.blind, PRE.go hK hPc hDc hNW⟩ rfl rfl hl.1 rfl (lv_room (Nat.le_of_ble_eq_true rfl)) dX7_findsTwo_73 ⟨Nat.zero_le _, Nat.zero_le _⟩) hS (fun q _ h => hFc q h) hFc (fun z31 u t H locs ht hvm hw hB hz1 hk1 hS => ?_)
                subst z31
                obtain ⟨hP, hD⟩ := va_join (wr := [(h_p0, .inr (7, [.ref h_p0_now, .ref h_p0_then, .ref h_p0_past, .int v_kept, .ref h_p0_text, .int v_typed, .int v_thrown, .int v_at, .int v_isFault, .ref h_p0_told, .int v_tolds, .int v_one, .int v_other, .int v_change, .int v_woken]))]) (w1 := [(h_p1, .inl (cyI, 452, .inl arr_1))]) hP hD [1] [0] rfl rfl (by decide) (by decide) hk1 hFc (WLD.P hB ht) hB.2
                have hP : va_P (dC, dI) vwCl [(h_p0, .inr (7, [.ref h_p0_now, .ref h_p0_then, .ref h_p0_past, .int v_kept, .ref h_p0_text, .int v_typed, .int v_thrown, .int v_at, .int v_isFault, .ref h_p0_told, .int v_tolds, .int v_one, .int v_other, .int v_change, .int v_woken])), (h_p1, .inl (cyI, 452, .inl arr_1))] H := hP
                have hD : va_D A [(h_p0, .inr (7, [.ref h_p0_now, .ref h_p0_then, .ref h_p0_past, .int v_kept, .ref h_p0_text, .int v_typed, .int v_thrown, .int v_at, .int v_isFault, .ref h_p0_told, .int v_tolds, .int v_one, .int v_other, .int v_change, .int v_woken])), (h_p1, .inl (cyI, 452, .inl arr_1))] := hD
                refine lv_aload_n hx hb dX7_findsTwo_76 rfl (lv_at hl 2 rfl) ?_
                refine lv_iload hx hb dX7_findsTwo_77 (lv_at hl 0 rfl) ?_
                refine lv_iload hx hb dX7_findsTwo_79 (lv_at hl 5 rfl) ?_
                refine lv_iload_n hx hb dX7_findsTwo_81 rfl (lv_at hl 4 rfl) ?_
                obtain ⟨r32, e33, h⟩ := bsome h
                have hPc := sb_P [(h_p1, .inl (cyI, 452, .inl arr_1))] hP [1] rfl
                have hDc := sb_D [(h_p1, .inl (cyI, 452, .inl arr_1))] hD [1] (by decide) rfl
                have hFc := va_free (wc := [(h_p1, .inl (cyI, 452, .inl arr_1))]) hD hS hA [1] rfl
                refine va_calli (va_runS (As := [.ref h_p1, .int r25, .int x4, .int a3]) (rest := [.int r29]) ⟨hx, hb, hml, hown, hts⟩ (c_X7_wakes l dC dI cyI cyJ cyT h_p1 H.size arr_1 r25 x4 a3 n r32 e33) (va_cwS 4 hts gX7_findsTwo_X7_wakes rfl rfl rfl (by decide +kernel) ⟨Nat.le_of_ble_eq_true rfl, Nat.le_of_ble_eq_true rfl⟩) ⟨PRE.blind, PRE.go hK hPc hDc hNW⟩ rfl rfl hl.1 rfl (lv_room (Nat.le_of_ble_eq_true rfl)) dX7_findsTwo_82 ⟨Nat.zero_le _, Nat.zero_le _⟩) hS (fun q _ h => hFc q h) hFc (fun z34 u t H locs ht hvm hw hB hz1 hk1 hS => ?_)
                subst z34
                obtain ⟨hP, hD⟩ := va_join (wr := [(h_p0, .inr (7, [.ref h_p0_now, .ref h_p0_then, .ref h_p0_past, .int v_kept, .ref h_p0_text, .int v_typed, .int v_thrown, .int v_at, .int v_isFault, .ref h_p0_told, .int v_tolds, .int v_one, .int v_other, .int v_change, .int v_woken]))]) (w1 := [(h_p1, .inl (cyI, 452, .inl arr_1))]) hP hD [1] [0] rfl rfl (by decide) (by decide) hk1 hFc (WLD.P hB ht) hB.2
                have hP : va_P (dC, dI) vwCl [(h_p0, .inr (7, [.ref h_p0_now, .ref h_p0_then, .ref h_p0_past, .int v_kept, .ref h_p0_text, .int v_typed, .int v_thrown, .int v_at, .int v_isFault, .ref h_p0_told, .int v_tolds, .int v_one, .int v_other, .int v_change, .int v_woken])), (h_p1, .inl (cyI, 452, .inl arr_1))] H := hP
                have hD : va_D A [(h_p0, .inr (7, [.ref h_p0_now, .ref h_p0_then, .ref h_p0_past, .int v_kept, .ref h_p0_text, .int v_typed, .int v_thrown, .int v_at, .int v_isFault, .ref h_p0_told, .int v_tolds, .int v_one, .int v_other, .int v_change, .int v_woken])), (h_p1, .inl (cyI, 452, .inl arr_1))] := hD
                refine lv_iadd hx hb dX7_findsTwo_85 ?_
                refine lv_istore hx hb dX7_findsTwo_86 hl (by decide) (rfl : _ = ([(7, .int (r29 + r32)), (6, .int r25), (0, .ref h_p0), (1, .ref h_p1), (2, .int a2), (3, .int a3), (4, .int x4), (5, .int x5)] : List (Nat × Value))) (fun ls hl => ?_)
                refine lv_iload hx hb dX7_findsTwo_88 (lv_at hl 1 rfl) ?_
                refine lv_iconst (v := iI (-1)) hx hb dX7_findsTwo_90 rfl ?_
                refine lv_icmp_eq (tgt := 135) hx hb dX7_findsTwo_91 (by decide) (fun c35 => ?_) (fun c35 => ?_)
                · have h := ipos c35 h
                  refine lv_iinc (v := (x5 + iI 1)) hx hb dX7_findsTwo_135 hl (k := 7) rfl rfl (by decide) (rfl : _ = ([(5, .int (x5 + iI 1)), (7, .int (r29 + r32)), (6, .int r25), (0, .ref h_p0), (1, .ref h_p1), (2, .int a2), (3, .int a3), (4, .int x4)] : List (Nat × Value))) (fun ls hl => ?_)
                  refine lv_goto (tgt := 14) hx hb dX7_findsTwo_138 (by decide) ?_
                  exact (ih).2 v_one v_other v_change v_woken x4 (x5 + iI 1) _ _ hP hD hS ls (lv_sub hl [3, 4, 5, 6, 7, 0] rfl) h
                · have h := ineg c35 h
                  refine lv_aload_n hx hb dX7_findsTwo_94 rfl (lv_at hl 2 rfl) ?_
                  refine va_get (D := (dC, dI)) (ci := 7) (v := .int v_change) (C := RX7) (T := TX7) (N := 15) hx hb hts m_X7_findsTwo_0 hown hK hP 0 rfl rfl 13 (by decide) (hts (.fieldLink RX7 55 "SleeperBerthsModel" "change" "I") m_X7_findsTwo_1) (fun _ h9 => h9) rfl dX7_findsTwo_95 ?_
                  refine lv_iconst (v := iI (-1)) hx hb dX7_findsTwo_98 rfl ?_
                  refine lv_icmp_eq (tgt := 111) hx hb dX7_findsTwo_99 (by decide) (fun c36 => ?_) (fun c36 => ?_)
                  · have h := ipos c36 h
                    refine lv_aload_n hx hb dX7_findsTwo_111 rfl (lv_at hl 2 rfl) ?_
                    refine lv_iload hx hb dX7_findsTwo_112 (lv_at hl 7 rfl) ?_
                    refine va_put (D := (dC, dI)) (ci := 7) (v := .int x5) (ty := .int) (C := RX7) (T := TX7) (N := 15) hx hb hts m_X7_findsTwo_0 tyX7 tyX7_ok nmX7 hown hK hP hD hS 0 rfl rfl 11 (by decide) (hts (.fieldLink RX7 52 "SleeperBerthsModel" "one" "I") m_X7_findsTwo_2) (fun _ h9 => h9) rfl (by decide +kernel) rfl rfl (Nat.le_of_ble_eq_true rfl) dX7_findsTwo_114 (fun H locs hP hD hS => ?_)
                    have hP : va_P (dC, dI) vwCl [(h_p0, .inr (7, [.ref h_p0_now, .ref h_p0_then, .ref h_p0_past, .int v_kept, .ref h_p0_text, .int v_typed, .int v_thrown, .int v_at, .int v_isFault, .ref h_p0_told, .int v_tolds, .int x5, .int v_other, .int v_change, .int v_woken])), (h_p1, .inl (cyI, 452, .inl arr_1))] H := hP
                    have hD : va_D A [(h_p0, .inr (7, [.ref h_p0_now, .ref h_p0_then, .ref h_p0_past, .int v_kept, .ref h_p0_text, .int v_typed, .int v_thrown, .int v_at, .int v_isFault, .ref h_p0_told, .int v_tolds, .int x5, .int v_other, .int v_change, .int v_woken])), (h_p1, .inl (cyI, 452, .inl arr_1))] := hD
                    refine lv_aload_n hx hb dX7_findsTwo_117 rfl (lv_at hl 2 rfl) ?_
                    refine lv_iload hx hb dX7_findsTwo_118 (lv_at hl 1 rfl) ?_
                    refine va_put (D := (dC, dI)) (ci := 7) (v := .int r25) (ty := .int) (C := RX7) (T := TX7) (N := 15) hx hb hts m_X7_findsTwo_0 tyX7 tyX7_ok nmX7 hown hK hP hD hS 0 rfl rfl 12 (by decide) (hts (.fieldLink RX7 69 "SleeperBerthsModel" "other" "I") m_X7_findsTwo_3) (fun _ h9 => h9) rfl (by decide +kernel) rfl rfl (Nat.le_of_ble_eq_true rfl) dX7_findsTwo_120 (fun H locs hP hD hS => ?_)
                    have hP : va_P (dC, dI) vwCl [(h_p0, .inr (7, [.ref h_p0_now, .ref h_p0_then, .ref h_p0_past, .int v_kept, .ref h_p0_text, .int v_typed, .int v_thrown, .int v_at, .int v_isFault, .ref h_p0_told, .int v_tolds, .int x5, .int r25, .int v_change, .int v_woken])), (h_p1, .inl (cyI, 452, .inl arr_1))] H := hP
                    have hD : va_D A [(h_p0, .inr (7, [.ref h_p0_now, .ref h_p0_then, .ref h_p0_past, .int v_kept, .ref h_p0_text, .int v_typed, .int v_thrown, .int v_at, .int v_isFault, .ref h_p0_told, .int v_tolds, .int x5, .int r25, .int v_change, .int v_woken])), (h_p1, .inl (cyI, 452, .inl arr_1))] := hD
                    refine lv_aload_n hx hb dX7_findsTwo_123 rfl (lv_at hl 2 rfl) ?_
                    refine lv_iload hx hb dX7_findsTwo_124 (lv_at hl 6 rfl) ?_
                    refine va_put (D := (dC, dI)) (ci := 7) (v := .int x4) (ty := .int) (C := RX7) (T := TX7) (N := 15) hx hb hts m_X7_findsTwo_0 tyX7 tyX7_ok nmX7 hown hK hP hD hS 0 rfl rfl 13 (by decide) (hts (.fieldLink RX7 55 "SleeperBerthsModel" "change" "I") m_X7_findsTwo_1) (fun _ h9 => h9) rfl (by decide +kernel) rfl rfl (Nat.le_of_ble_eq_true rfl) dX7_findsTwo_126 (fun H locs hP hD hS => ?_)
                    have hP : va_P (dC, dI) vwCl [(h_p0, .inr (7, [.ref h_p0_now, .ref h_p0_then, .ref h_p0_past, .int v_kept, .ref h_p0_text, .int v_typed, .int v_thrown, .int v_at, .int v_isFault, .ref h_p0_told, .int v_tolds, .int x5, .int r25, .int x4, .int v_woken])), (h_p1, .inl (cyI, 452, .inl arr_1))] H := hP
                    have hD : va_D A [(h_p0, .inr (7, [.ref h_p0_now, .ref h_p0_then, .ref h_p0_past, .int v_kept, .ref h_p0_text, .int v_typed, .int v_thrown, .int v_at, .int v_isFault, .ref h_p0_told, .int v_tolds, .int x5, .int r25, .int x4, .int v_woken])), (h_p1, .inl (cyI, 452, .inl arr_1))] := hD
                    refine lv_aload_n hx hb dX7_findsTwo_129 rfl (lv_at hl 2 rfl) ?_
                    refine lv_iload hx hb dX7_findsTwo_130 (lv_at hl 0 rfl) ?_
                    refine va_put (D := (dC, dI)) (ci := 7) (v := .int (r29 + r32)) (ty := .int) (C := RX7) (T := TX7) (N := 15) hx hb hts m_X7_findsTwo_0 tyX7 tyX7_ok nmX7 hown hK hP hD hS 0 rfl rfl 14 (by decide) (hts (.fieldLink RX7 66 "SleeperBerthsModel" "woken" "I") m_X7_findsTwo_4) (fun _ h9 => h9) rfl (by decide +kernel) rfl rfl (Nat.le_of_ble_eq_true rfl) dX7_findsTwo_132 (fun H locs hP hD hS => ?_)
                    have hP : va_P (dC, dI) vwCl [(h_p0, .inr (7, [.ref h_p0_now, .ref h_p0_then, .ref h_p0_past, .int v_kept, .ref h_p0_text, .int v_typed, .int v_thrown, .int v_at, .int v_isFault, .ref h_p0_told, .int v_tolds, .int x5, .int r25, .int x4, .int (r29 + r32)])), (h_p1, .inl (cyI, 452, .inl arr_1))] H := hP
                    have hD : va_D A [(h_p0, .inr (7, [.ref h_p0_now, .ref h_p0_then, .ref h_p0_past, .int v_kept, .ref h_p0_text, .int v_typed, .int v_thrown, .int v_at, .int v_isFault, .ref h_p0_told, .int v_tolds, .int x5, .int r25, .int x4, .int (r29 + r32)])), (h_p1, .inl (cyI, 452, .inl arr_1))] := hD
                    refine lv_iinc (v := (x5 + iI 1)) hx hb dX7_findsTwo_135 hl (k := 7) rfl rfl (by decide) (rfl : _ = ([(5, .int (x5 + iI 1)), (7, .int (r29 + r32)), (6, .int r25), (0, .ref h_p0), (1, .ref h_p1), (2, .int a2), (3, .int a3), (4, .int x4)] : List (Nat × Value))) (fun ls hl => ?_)
                    refine lv_goto (tgt := 14) hx hb dX7_findsTwo_138 (by decide) ?_
                    exact (ih).2 x5 r25 x4 (r29 + r32) x4 (x5 + iI 1) _ _ hP hD hS ls (lv_sub hl [3, 4, 5, 6, 7, 0] rfl) h
                  · have h := ineg c36 h
                    refine lv_iload hx hb dX7_findsTwo_102 (lv_at hl 0 rfl) ?_
                    refine lv_aload_n hx hb dX7_findsTwo_104 rfl (lv_at hl 2 rfl) ?_
                    refine va_get (D := (dC, dI)) (ci := 7) (v := .int v_woken) (C := RX7) (T := TX7) (N := 15) hx hb hts m_X7_findsTwo_0 hown hK hP 0 rfl rfl 14 (by decide) (hts (.fieldLink RX7 66 "SleeperBerthsModel" "woken" "I") m_X7_findsTwo_4) (fun _ h9 => h9) rfl dX7_findsTwo_105 ?_
                    refine lv_icmp_ge (tgt := 135) hx hb dX7_findsTwo_108 (by decide) (fun c37 => ?_) (fun c37 => ?_)
                    · have h := ipos c37 h
                      refine lv_iinc (v := (x5 + iI 1)) hx hb dX7_findsTwo_135 hl (k := 7) rfl rfl (by decide) (rfl : _ = ([(5, .int (x5 + iI 1)), (7, .int (r29 + r32)), (6, .int r25), (0, .ref h_p0), (1, .ref h_p1), (2, .int a2), (3, .int a3), (4, .int x4)] : List (Nat × Value))) (fun ls hl => ?_)
                      refine lv_goto (tgt := 14) hx hb dX7_findsTwo_138 (by decide) ?_
                      exact (ih).2 v_one v_other v_change v_woken x4 (x5 + iI 1) _ _ hP hD hS ls (lv_sub hl [3, 4, 5, 6, 7, 0] rfl) h
                    · have h := ineg c37 h
                      refine lv_aload_n hx hb dX7_findsTwo_111 rfl (lv_at hl 2 rfl) ?_
                      refine lv_iload hx hb dX7_findsTwo_112 (lv_at hl 7 rfl) ?_
                      refine va_put (D := (dC, dI)) (ci := 7) (v := .int x5) (ty := .int) (C := RX7) (T := TX7) (N := 15) hx hb hts m_X7_findsTwo_0 tyX7 tyX7_ok nmX7 hown hK hP hD hS 0 rfl rfl 11 (by decide) (hts (.fieldLink RX7 52 "SleeperBerthsModel" "one" "I") m_X7_findsTwo_2) (fun _ h9 => h9) rfl (by decide +kernel) rfl rfl (Nat.le_of_ble_eq_true rfl) dX7_findsTwo_114 (fun H locs hP hD hS => ?_)
                      have hP : va_P (dC, dI) vwCl [(h_p0, .inr (7, [.ref h_p0_now, .ref h_p0_then, .ref h_p0_past, .int v_kept, .ref h_p0_text, .int v_typed, .int v_thrown, .int v_at, .int v_isFault, .ref h_p0_told, .int v_tolds, .int x5, .int v_other, .int v_change, .int v_woken])), (h_p1, .inl (cyI, 452, .inl arr_1))] H := hP
                      have hD : va_D A [(h_p0, .inr (7, [.ref h_p0_now, .ref h_p0_then, .ref h_p0_past, .int v_kept, .ref h_p0_text, .int v_typed, .int v_thrown, .int v_at, .int v_isFault, .ref h_p0_told, .int v_tolds, .int x5, .int v_other, .int v_change, .int v_woken])), (h_p1, .inl (cyI, 452, .inl arr_1))] := hD
                      refine lv_aload_n hx hb dX7_findsTwo_117 rfl (lv_at hl 2 rfl) ?_
                      refine lv_iload hx hb dX7_findsTwo_118 (lv_at hl 1 rfl) ?_
                      refine va_put (D := (dC, dI)) (ci := 7) (v := .int r25) (ty := .int) (C := RX7) (T := TX7) (N := 15) hx hb hts m_X7_findsTwo_0 tyX7 tyX7_ok nmX7 hown hK hP hD hS 0 rfl rfl 12 (by decide) (hts (.fieldLink RX7 69 "SleeperBerthsModel" "other" "I") m_X7_findsTwo_3) (fun _ h9 => h9) rfl (by decide +kernel) rfl rfl (Nat.le_of_ble_eq_true rfl) dX7_findsTwo_120 (fun H locs hP hD hS => ?_)
                      have hP : va_P (dC, dI) vwCl [(h_p0, .inr (7, [.ref h_p0_now, .ref h_p0_then, .ref h_p0_past, .int v_kept, .ref h_p0_text, .int v_typed, .int v_thrown, .int v_at, .int v_isFault, .ref h_p0_told, .int v_tolds, .int x5, .int r25, .int v_change, .int v_woken])), (h_p1, .inl (cyI, 452, .inl arr_1))] H := hP
                      have hD : va_D A [(h_p0, .inr (7, [.ref h_p0_now, .ref h_p0_then, .ref h_p0_past, .int v_kept, .ref h_p0_text, .int v_typed, .int v_thrown, .int v_at, .int v_isFault, .ref h_p0_told, .int v_tolds, .int x5, .int r25, .int v_change, .int v_woken])), (h_p1, .inl (cyI, 452, .inl arr_1))] := hD
                      refine lv_aload_n hx hb dX7_findsTwo_123 rfl (lv_at hl 2 rfl) ?_
                      refine lv_iload hx hb dX7_findsTwo_124 (lv_at hl 6 rfl) ?_
                      refine va_put (D := (dC, dI)) (ci := 7) (v := .int x4) (ty := .int) (C := RX7) (T := TX7) (N := 15) hx hb hts m_X7_findsTwo_0 tyX7 tyX7_ok nmX7 hown hK hP hD hS 0 rfl rfl 13 (by decide) (hts (.fieldLink RX7 55 "SleeperBerthsModel" "change" "I") m_X7_findsTwo_1) (fun _ h9 => h9) rfl (by decide +kernel) rfl rfl (Nat.le_of_ble_eq_true rfl) dX7_findsTwo_126 (fun H locs hP hD hS => ?_)
                      have hP : va_P (dC, dI) vwCl [(h_p0, .inr (7, [.ref h_p0_now, .ref h_p0_then, .ref h_p0_past, .int v_kept, .ref h_p0_text, .int v_typed, .int v_thrown, .int v_at, .int v_isFault, .ref h_p0_told, .int v_tolds, .int x5, .int r25, .int x4, .int v_woken])), (h_p1, .inl (cyI, 452, .inl arr_1))] H := hP
                      have hD : va_D A [(h_p0, .inr (7, [.ref h_p0_now, .ref h_p0_then, .ref h_p0_past, .int v_kept, .ref h_p0_text, .int v_typed, .int v_thrown, .int v_at, .int v_isFault, .ref h_p0_told, .int v_tolds, .int x5, .int r25, .int x4, .int v_woken])), (h_p1, .inl (cyI, 452, .inl arr_1))] := hD
                      refine lv_aload_n hx hb dX7_findsTwo_129 rfl (lv_at hl 2 rfl) ?_
                      refine lv_iload hx hb dX7_findsTwo_130 (lv_at hl 0 rfl) ?_
                      refine va_put (D := (dC, dI)) (ci := 7) (v := .int (r29 + r32)) (ty := .int) (C := RX7) (T := TX7) (N := 15) hx hb hts m_X7_findsTwo_0 tyX7 tyX7_ok nmX7 hown hK hP hD hS 0 rfl rfl 14 (by decide) (hts (.fieldLink RX7 66 "SleeperBerthsModel" "woken" "I") m_X7_findsTwo_4) (fun _ h9 => h9) rfl (by decide +kernel) rfl rfl (Nat.le_of_ble_eq_true rfl) dX7_findsTwo_132 (fun H locs hP hD hS => ?_)
                      have hP : va_P (dC, dI) vwCl [(h_p0, .inr (7, [.ref h_p0_now, .ref h_p0_then, .ref h_p0_past, .int v_kept, .ref h_p0_text, .int v_typed, .int v_thrown, .int v_at, .int v_isFault, .ref h_p0_told, .int v_tolds, .int x5, .int r25, .int x4, .int (r29 + r32)])), (h_p1, .inl (cyI, 452, .inl arr_1))] H := hP
                      have hD : va_D A [(h_p0, .inr (7, [.ref h_p0_now, .ref h_p0_then, .ref h_p0_past, .int v_kept, .ref h_p0_text, .int v_typed, .int v_thrown, .int v_at, .int v_isFault, .ref h_p0_told, .int v_tolds, .int x5, .int r25, .int x4, .int (r29 + r32)])), (h_p1, .inl (cyI, 452, .inl arr_1))] := hD
                      refine lv_iinc (v := (x5 + iI 1)) hx hb dX7_findsTwo_135 hl (k := 7) rfl rfl (by decide) (rfl : _ = ([(5, .int (x5 + iI 1)), (7, .int (r29 + r32)), (6, .int r25), (0, .ref h_p0), (1, .ref h_p1), (2, .int a2), (3, .int a3), (4, .int x4)] : List (Nat × Value))) (fun ls hl => ?_)
                      refine lv_goto (tgt := 14) hx hb dX7_findsTwo_138 (by decide) ?_
                      exact (ih).2 x5 r25 x4 (r29 + r32) x4 (x5 + iI 1) _ _ hP hD hS ls (lv_sub hl [3, 4, 5, 6, 7, 0] rfl) h
              · have h := ipos c28 h
                refine lv_iconst (v := iI 0) hx hb dX7_findsTwo_63 rfl ?_
                refine lv_goto (tgt := 86) hx hb dX7_findsTwo_64 (by decide) ?_
                refine lv_istore hx hb dX7_findsTwo_86 hl (by decide) (rfl : _ = ([(7, .int (iI 0)), (6, .int r25), (0, .ref h_p0), (1, .ref h_p1), (2, .int a2), (3, .int a3), (4, .int x4), (5, .int x5)] : List (Nat × Value))) (fun ls hl => ?_)
                refine lv_iload hx hb dX7_findsTwo_88 (lv_at hl 1 rfl) ?_
                refine lv_iconst (v := iI (-1)) hx hb dX7_findsTwo_90 rfl ?_
                refine lv_icmp_eq (tgt := 135) hx hb dX7_findsTwo_91 (by decide) (fun c38 => ?_) (fun c38 => ?_)
                · have h := ipos c38 h
                  refine lv_iinc (v := (x5 + iI 1)) hx hb dX7_findsTwo_135 hl (k := 7) rfl rfl (by decide) (rfl : _ = ([(5, .int (x5 + iI 1)), (7, .int (iI 0)), (6, .int r25), (0, .ref h_p0), (1, .ref h_p1), (2, .int a2), (3, .int a3), (4, .int x4)] : List (Nat × Value))) (fun ls hl => ?_)
                  refine lv_goto (tgt := 14) hx hb dX7_findsTwo_138 (by decide) ?_
                  exact (ih).2 v_one v_other v_change v_woken x4 (x5 + iI 1) _ _ hP hD hS ls (lv_sub hl [3, 4, 5, 6, 7, 0] rfl) h
                · have h := ineg c38 h
                  refine lv_aload_n hx hb dX7_findsTwo_94 rfl (lv_at hl 2 rfl) ?_
                  refine va_get (D := (dC, dI)) (ci := 7) (v := .int v_change) (C := RX7) (T := TX7) (N := 15) hx hb hts m_X7_findsTwo_0 hown hK hP 0 rfl rfl 13 (by decide) (hts (.fieldLink RX7 55 "SleeperBerthsModel" "change" "I") m_X7_findsTwo_1) (fun _ h9 => h9) rfl dX7_findsTwo_95 ?_
                  refine lv_iconst (v := iI (-1)) hx hb dX7_findsTwo_98 rfl ?_
                  refine lv_icmp_eq (tgt := 111) hx hb dX7_findsTwo_99 (by decide) (fun c39 => ?_) (fun c39 => ?_)
                  · have h := ipos c39 h
                    refine lv_aload_n hx hb dX7_findsTwo_111 rfl (lv_at hl 2 rfl) ?_
                    refine lv_iload hx hb dX7_findsTwo_112 (lv_at hl 7 rfl) ?_
                    refine va_put (D := (dC, dI)) (ci := 7) (v := .int x5) (ty := .int) (C := RX7) (T := TX7) (N := 15) hx hb hts m_X7_findsTwo_0 tyX7 tyX7_ok nmX7 hown hK hP hD hS 0 rfl rfl 11 (by decide) (hts (.fieldLink RX7 52 "SleeperBerthsModel" "one" "I") m_X7_findsTwo_2) (fun _ h9 => h9) rfl (by decide +kernel) rfl rfl (Nat.le_of_ble_eq_true rfl) dX7_findsTwo_114 (fun H locs hP hD hS => ?_)
                    have hP : va_P (dC, dI) vwCl [(h_p0, .inr (7, [.ref h_p0_now, .ref h_p0_then, .ref h_p0_past, .int v_kept, .ref h_p0_text, .int v_typed, .int v_thrown, .int v_at, .int v_isFault, .ref h_p0_told, .int v_tolds, .int x5, .int v_other, .int v_change, .int v_woken])), (h_p1, .inl (cyI, 452, .inl arr_1))] H := hP
                    have hD : va_D A [(h_p0, .inr (7, [.ref h_p0_now, .ref h_p0_then, .ref h_p0_past, .int v_kept, .ref h_p0_text, .int v_typed, .int v_thrown, .int v_at, .int v_isFault, .ref h_p0_told, .int v_tolds, .int x5, .int v_other, .int v_change, .int v_woken])), (h_p1, .inl (cyI, 452, .inl arr_1))] := hD
                    refine lv_aload_n hx hb dX7_findsTwo_117 rfl (lv_at hl 2 rfl) ?_
                    refine lv_iload hx hb dX7_findsTwo_118 (lv_at hl 1 rfl) ?_
                    refine va_put (D := (dC, dI)) (ci := 7) (v := .int r25) (ty := .int) (C := RX7) (T := TX7) (N := 15) hx hb hts m_X7_findsTwo_0 tyX7 tyX7_ok nmX7 hown hK hP hD hS 0 rfl rfl 12 (by decide) (hts (.fieldLink RX7 69 "SleeperBerthsModel" "other" "I") m_X7_findsTwo_3) (fun _ h9 => h9) rfl (by decide +kernel) rfl rfl (Nat.le_of_ble_eq_true rfl) dX7_findsTwo_120 (fun H locs hP hD hS => ?_)
                    have hP : va_P (dC, dI) vwCl [(h_p0, .inr (7, [.ref h_p0_now, .ref h_p0_then, .ref h_p0_past, .int v_kept, .ref h_p0_text, .int v_typed, .int v_thrown, .int v_at, .int v_isFault, .ref h_p0_told, .int v_tolds, .int x5, .int r25, .int v_change, .int v_woken])), (h_p1, .inl (cyI, 452, .inl arr_1))] H := hP
                    have hD : va_D A [(h_p0, .inr (7, [.ref h_p0_now, .ref h_p0_then, .ref h_p0_past, .int v_kept, .ref h_p0_text, .int v_typed, .int v_thrown, .int v_at, .int v_isFault, .ref h_p0_told, .int v_tolds, .int x5, .int r25, .int v_change, .int v_woken])), (h_p1, .inl (cyI, 452, .inl arr_1))] := hD
                    refine lv_aload_n hx hb dX7_findsTwo_123 rfl (lv_at hl 2 rfl) ?_
                    refine lv_iload hx hb dX7_findsTwo_124 (lv_at hl 6 rfl) ?_
                    refine va_put (D := (dC, dI)) (ci := 7) (v := .int x4) (ty := .int) (C := RX7) (T := TX7) (N := 15) hx hb hts m_X7_findsTwo_0 tyX7 tyX7_ok nmX7 hown hK hP hD hS 0 rfl rfl 13 (by decide) (hts (.fieldLink RX7 55 "SleeperBerthsModel" "change" "I") m_X7_findsTwo_1) (fun _ h9 => h9) rfl (by decide +kernel) rfl rfl (Nat.le_of_ble_eq_true rfl) dX7_findsTwo_126 (fun H locs hP hD hS => ?_)
                    have hP : va_P (dC, dI) vwCl [(h_p0, .inr (7, [.ref h_p0_now, .ref h_p0_then, .ref h_p0_past, .int v_kept, .ref h_p0_text, .int v_typed, .int v_thrown, .int v_at, .int v_isFault, .ref h_p0_told, .int v_tolds, .int x5, .int r25, .int x4, .int v_woken])), (h_p1, .inl (cyI, 452, .inl arr_1))] H := hP
                    have hD : va_D A [(h_p0, .inr (7, [.ref h_p0_now, .ref h_p0_then, .ref h_p0_past, .int v_kept, .ref h_p0_text, .int v_typed, .int v_thrown, .int v_at, .int v_isFault, .ref h_p0_told, .int v_tolds, .int x5, .int r25, .int x4, .int v_woken])), (h_p1, .inl (cyI, 452, .inl arr_1))] := hD
                    refine lv_aload_n hx hb dX7_findsTwo_129 rfl (lv_at hl 2 rfl) ?_
                    refine lv_iload hx hb dX7_findsTwo_130 (lv_at hl 0 rfl) ?_
                    refine va_put (D := (dC, dI)) (ci := 7) (v := .int (iI 0)) (ty := .int) (C := RX7) (T := TX7) (N := 15) hx hb hts m_X7_findsTwo_0 tyX7 tyX7_ok nmX7 hown hK hP hD hS 0 rfl rfl 14 (by decide) (hts (.fieldLink RX7 66 "SleeperBerthsModel" "woken" "I") m_X7_findsTwo_4) (fun _ h9 => h9) rfl (by decide +kernel) rfl rfl (Nat.le_of_ble_eq_true rfl) dX7_findsTwo_132 (fun H locs hP hD hS => ?_)
                    have hP : va_P (dC, dI) vwCl [(h_p0, .inr (7, [.ref h_p0_now, .ref h_p0_then, .ref h_p0_past, .int v_kept, .ref h_p0_text, .int v_typed, .int v_thrown, .int v_at, .int v_isFault, .ref h_p0_told, .int v_tolds, .int x5, .int r25, .int x4, .int (iI 0)])), (h_p1, .inl (cyI, 452, .inl arr_1))] H := hP
                    have hD : va_D A [(h_p0, .inr (7, [.ref h_p0_now, .ref h_p0_then, .ref h_p0_past, .int v_kept, .ref h_p0_text, .int v_typed, .int v_thrown, .int v_at, .int v_isFault, .ref h_p0_told, .int v_tolds, .int x5, .int r25, .int x4, .int (iI 0)])), (h_p1, .inl (cyI, 452, .inl arr_1))] := hD
                    refine lv_iinc (v := (x5 + iI 1)) hx hb dX7_findsTwo_135 hl (k := 7) rfl rfl (by decide) (rfl : _ = ([(5, .int (x5 + iI 1)), (7, .int (iI 0)), (6, .int r25), (0, .ref h_p0), (1, .ref h_p1), (2, .int a2), (3, .int a3), (4, .int x4)] : List (Nat × Value))) (fun ls hl => ?_)
                    refine lv_goto (tgt := 14) hx hb dX7_findsTwo_138 (by decide) ?_
                    exact (ih).2 x5 r25 x4 (iI 0) x4 (x5 + iI 1) _ _ hP hD hS ls (lv_sub hl [3, 4, 5, 6, 7, 0] rfl) h
                  · have h := ineg c39 h
                    refine lv_iload hx hb dX7_findsTwo_102 (lv_at hl 0 rfl) ?_
                    refine lv_aload_n hx hb dX7_findsTwo_104 rfl (lv_at hl 2 rfl) ?_
                    refine va_get (D := (dC, dI)) (ci := 7) (v := .int v_woken) (C := RX7) (T := TX7) (N := 15) hx hb hts m_X7_findsTwo_0 hown hK hP 0 rfl rfl 14 (by decide) (hts (.fieldLink RX7 66 "SleeperBerthsModel" "woken" "I") m_X7_findsTwo_4) (fun _ h9 => h9) rfl dX7_findsTwo_105 ?_
                    refine lv_icmp_ge (tgt := 135) hx hb dX7_findsTwo_108 (by decide) (fun c40 => ?_) (fun c40 => ?_)
                    · have h := ipos c40 h
                      refine lv_iinc (v := (x5 + iI 1)) hx hb dX7_findsTwo_135 hl (k := 7) rfl rfl (by decide) (rfl : _ = ([(5, .int (x5 + iI 1)), (7, .int (iI 0)), (6, .int r25), (0, .ref h_p0), (1, .ref h_p1), (2, .int a2), (3, .int a3), (4, .int x4)] : List (Nat × Value))) (fun ls hl => ?_)
                      refine lv_goto (tgt := 14) hx hb dX7_findsTwo_138 (by decide) ?_
                      exact (ih).2 v_one v_other v_change v_woken x4 (x5 + iI 1) _ _ hP hD hS ls (lv_sub hl [3, 4, 5, 6, 7, 0] rfl) h
                    · have h := ineg c40 h
                      refine lv_aload_n hx hb dX7_findsTwo_111 rfl (lv_at hl 2 rfl) ?_
                      refine lv_iload hx hb dX7_findsTwo_112 (lv_at hl 7 rfl) ?_
                      refine va_put (D := (dC, dI)) (ci := 7) (v := .int x5) (ty := .int) (C := RX7) (T := TX7) (N := 15) hx hb hts m_X7_findsTwo_0 tyX7 tyX7_ok nmX7 hown hK hP hD hS 0 rfl rfl 11 (by decide) (hts (.fieldLink RX7 52 "SleeperBerthsModel" "one" "I") m_X7_findsTwo_2) (fun _ h9 => h9) rfl (by decide +kernel) rfl rfl (Nat.le_of_ble_eq_true rfl) dX7_findsTwo_114 (fun H locs hP hD hS => ?_)
                      have hP : va_P (dC, dI) vwCl [(h_p0, .inr (7, [.ref h_p0_now, .ref h_p0_then, .ref h_p0_past, .int v_kept, .ref h_p0_text, .int v_typed, .int v_thrown, .int v_at, .int v_isFault, .ref h_p0_told, .int v_tolds, .int x5, .int v_other, .int v_change, .int v_woken])), (h_p1, .inl (cyI, 452, .inl arr_1))] H := hP
                      have hD : va_D A [(h_p0, .inr (7, [.ref h_p0_now, .ref h_p0_then, .ref h_p0_past, .int v_kept, .ref h_p0_text, .int v_typed, .int v_thrown, .int v_at, .int v_isFault, .ref h_p0_told, .int v_tolds, .int x5, .int v_other, .int v_change, .int v_woken])), (h_p1, .inl (cyI, 452, .inl arr_1))] := hD
                      refine lv_aload_n hx hb dX7_findsTwo_117 rfl (lv_at hl 2 rfl) ?_
                      refine lv_iload hx hb dX7_findsTwo_118 (lv_at hl 1 rfl) ?_
                      refine va_put (D := (dC, dI)) (ci := 7) (v := .int r25) (ty := .int) (C := RX7) (T := TX7) (N := 15) hx hb hts m_X7_findsTwo_0 tyX7 tyX7_ok nmX7 hown hK hP hD hS 0 rfl rfl 12 (by decide) (hts (.fieldLink RX7 69 "SleeperBerthsModel" "other" "I") m_X7_findsTwo_3) (fun _ h9 => h9) rfl (by decide +kernel) rfl rfl (Nat.le_of_ble_eq_true rfl) dX7_findsTwo_120 (fun H locs hP hD hS => ?_)
                      have hP : va_P (dC, dI) vwCl [(h_p0, .inr (7, [.ref h_p0_now, .ref h_p0_then, .ref h_p0_past, .int v_kept, .ref h_p0_text, .int v_typed, .int v_thrown, .int v_at, .int v_isFault, .ref h_p0_told, .int v_tolds, .int x5, .int r25, .int v_change, .int v_woken])), (h_p1, .inl (cyI, 452, .inl arr_1))] H := hP
                      have hD : va_D A [(h_p0, .inr (7, [.ref h_p0_now, .ref h_p0_then, .ref h_p0_past, .int v_kept, .ref h_p0_text, .int v_typed, .int v_thrown, .int v_at, .int v_isFault, .ref h_p0_told, .int v_tolds, .int x5, .int r25, .int v_change, .int v_woken])), (h_p1, .inl (cyI, 452, .inl arr_1))] := hD
                      refine lv_aload_n hx hb dX7_findsTwo_123 rfl (lv_at hl 2 rfl) ?_
                      refine lv_iload hx hb dX7_findsTwo_124 (lv_at hl 6 rfl) ?_
                      refine va_put (D := (dC, dI)) (ci := 7) (v := .int x4) (ty := .int) (C := RX7) (T := TX7) (N := 15) hx hb hts m_X7_findsTwo_0 tyX7 tyX7_ok nmX7 hown hK hP hD hS 0 rfl rfl 13 (by decide) (hts (.fieldLink RX7 55 "SleeperBerthsModel" "change" "I") m_X7_findsTwo_1) (fun _ h9 => h9) rfl (by decide +kernel) rfl rfl (Nat.le_of_ble_eq_true rfl) dX7_findsTwo_126 (fun H locs hP hD hS => ?_)
                      have hP : va_P (dC, dI) vwCl [(h_p0, .inr (7, [.ref h_p0_now, .ref h_p0_then, .ref h_p0_past, .int v_kept, .ref h_p0_text, .int v_typed, .int v_thrown, .int v_at, .int v_isFault, .ref h_p0_told, .int v_tolds, .int x5, .int r25, .int x4, .int v_woken])), (h_p1, .inl (cyI, 452, .inl arr_1))] H := hP
                      have hD : va_D A [(h_p0, .inr (7, [.ref h_p0_now, .ref h_p0_then, .ref h_p0_past, .int v_kept, .ref h_p0_text, .int v_typed, .int v_thrown, .int v_at, .int v_isFault, .ref h_p0_told, .int v_tolds, .int x5, .int r25, .int x4, .int v_woken])), (h_p1, .inl (cyI, 452, .inl arr_1))] := hD
                      refine lv_aload_n hx hb dX7_findsTwo_129 rfl (lv_at hl 2 rfl) ?_
                      refine lv_iload hx hb dX7_findsTwo_130 (lv_at hl 0 rfl) ?_
                      refine va_put (D := (dC, dI)) (ci := 7) (v := .int (iI 0)) (ty := .int) (C := RX7) (T := TX7) (N := 15) hx hb hts m_X7_findsTwo_0 tyX7 tyX7_ok nmX7 hown hK hP hD hS 0 rfl rfl 14 (by decide) (hts (.fieldLink RX7 66 "SleeperBerthsModel" "woken" "I") m_X7_findsTwo_4) (fun _ h9 => h9) rfl (by decide +kernel) rfl rfl (Nat.le_of_ble_eq_true rfl) dX7_findsTwo_132 (fun H locs hP hD hS => ?_)
                      have hP : va_P (dC, dI) vwCl [(h_p0, .inr (7, [.ref h_p0_now, .ref h_p0_then, .ref h_p0_past, .int v_kept, .ref h_p0_text, .int v_typed, .int v_thrown, .int v_at, .int v_isFault, .ref h_p0_told, .int v_tolds, .int x5, .int r25, .int x4, .int (iI 0)])), (h_p1, .inl (cyI, 452, .inl arr_1))] H := hP
                      have hD : va_D A [(h_p0, .inr (7, [.ref h_p0_now, .ref h_p0_then, .ref h_p0_past, .int v_kept, .ref h_p0_text, .int v_typed, .int v_thrown, .int v_at, .int v_isFault, .ref h_p0_told, .int v_tolds, .int x5, .int r25, .int x4, .int (iI 0)])), (h_p1, .inl (cyI, 452, .inl arr_1))] := hD
                      refine lv_iinc (v := (x5 + iI 1)) hx hb dX7_findsTwo_135 hl (k := 7) rfl rfl (by decide) (rfl : _ = ([(5, .int (x5 + iI 1)), (7, .int (iI 0)), (6, .int r25), (0, .ref h_p0), (1, .ref h_p1), (2, .int a2), (3, .int a3), (4, .int x4)] : List (Nat × Value))) (fun ls hl => ?_)
                      refine lv_goto (tgt := 14) hx hb dX7_findsTwo_138 (by decide) ?_
                      exact (ih).2 x5 r25 x4 (iI 0) x4 (x5 + iI 1) _ _ hP hD hS ls (lv_sub hl [3, 4, 5, 6, 7, 0] rfl) h
  have hl := lv_entry ([.ref h_p0, .ref h_p1, .int a2, .int a3]) (n := 8) (Nat.le_of_ble_eq_true rfl)
  rw [lg_entry_eq]
  generalize (lg_sl ([.ref h_p0, .ref h_p1, .int a2, .int a3]) ++ List.replicate (8 - (lg_sl ([.ref h_p0, .ref h_p1, .int a2, .int a3])).length) Slot.unset).toArray = ls at hl ⊢
  have hl : lv_has ls 8 [(0, .ref h_p0), (1, .ref h_p1), (2, .int a2), (3, .int a3)] := hl
  unfold s_X7_findsTwo at h
  refine lv_iload_n hx hb dX7_findsTwo_0 rfl (lv_at hl 2 rfl) ?_
  refine lv_iconst (v := iI 1) hx hb dX7_findsTwo_1 rfl ?_
  refine lv_iadd hx hb dX7_findsTwo_2 ?_
  refine lv_istore hx hb dX7_findsTwo_3 hl (by decide) (rfl : _ = ([(4, .int (a2 + iI 1)), (0, .ref h_p0), (1, .ref h_p1), (2, .int a2), (3, .int a3)] : List (Nat × Value))) (fun ls hl => ?_)
  exact (L5 n).1 v_one v_other v_change v_woken (a2 + iI 1) _ _ hP hD hS ls (lv_sub hl [1, 2, 3, 4, 0] rfl) h
def s_X7_finds (n : Nat) (v_one : Int32) (v_other : Int32) (v_change : Int32) (v_woken : Int32) (arr_1 : Nat → Int32) (a2 : Int32) (a3 : Int32) (a4 : Int32) : Option (Int32 × Int32 × Int32 × Int32 × Int32) := ((s_X7_findsOne n v_one v_other v_change v_woken arr_1 a2 a3).bind fun r1 => (if r1.1 = 0 then (if a4 = 0 then ((s_X7_findsTwo n r1.2.1 r1.2.2.1 r1.2.2.2.1 r1.2.2.2.2 arr_1 a2 a3).bind fun r6 => (if r6.1 = 0 then (some (iI 0, r6.2.1, r6.2.2.1, r6.2.2.2.1, r6.2.2.2.2)) else (some (iI 1, r6.2.1, r6.2.2.1, r6.2.2.2.1, r6.2.2.2.2)))) else (some (iI 0, r1.2.1, r1.2.2.1, r1.2.2.2.1, r1.2.2.2.2))) else (some (iI 1, r1.2.1, r1.2.2.1, r1.2.2.2.1, r1.2.2.2.2))))
set_option maxHeartbeats 4000000 in
set_option maxRecDepth 100000 in
theorem c_X7_finds (l : Launch) (dC : Nat → ClassId) (dI : Nat → Nat → Nat) (cyI cyJ cyT : ClassId) (h_p0 : Nat) (h_p0_now : Nat) (h_p0_then : Nat) (h_p0_past : Nat) (h_p0_text : Nat) (h_p0_told : Nat) (h_p1 : Nat) (sz : Nat) (v_kept : Int32) (v_typed : Int32) (v_thrown : Int32) (v_at : Int32) (v_isFault : Int32) (v_tolds : Int32) (v_one : Int32) (v_other : Int32) (v_change : Int32) (v_woken : Int32) (arr_1 : Nat → Int32) (a2 : Int32) (a3 : Int32) (a4 : Int32) (n : Nat) (o : Int32 × Int32 × Int32 × Int32 × Int32) (h : s_X7_finds n v_one v_other v_change v_woken arr_1 a2 a3 a4 = some o) : Met l yX7_finds wsX7_finds ({ frames := 5, cells := 0, slots := 0, locals := 122 }) (va_Pc [.ref h_p0, .ref h_p1, .int a2, .int a3, .int a4] (PRE (dC, dI) (TYS cyI cyJ cyT) sz [(h_p0, .inr (7, [.ref h_p0_now, .ref h_p0_then, .ref h_p0_past, .int v_kept, .ref h_p0_text, .int v_typed, .int v_thrown, .int v_at, .int v_isFault, .ref h_p0_told, .int v_tolds, .int v_one, .int v_other, .int v_change, .int v_woken])), (h_p1, .inl (cyI, 452, .inl arr_1))])) (va_Qi (S := Unit) (fun r _ => r = o.1) (fun _ t => WLD (dC, dI) (va_A [(h_p0, .inr (7, [.ref h_p0_now, .ref h_p0_then, .ref h_p0_past, .int v_kept, .ref h_p0_text, .int v_typed, .int v_thrown, .int v_at, .int v_isFault, .ref h_p0_told, .int v_tolds, .int v_one, .int v_other, .int v_change, .int v_woken])), (h_p1, .inl (cyI, 452, .inl arr_1))] sz) [(h_p0, .inr (7, [.ref h_p0_now, .ref h_p0_then, .ref h_p0_past, .int v_kept, .ref h_p0_text, .int v_typed, .int v_thrown, .int v_at, .int v_isFault, .ref h_p0_told, .int v_tolds, .int o.2.1, .int o.2.2.1, .int o.2.2.2.1, .int o.2.2.2.2])), (h_p1, .inl (cyI, 452, .inl arr_1))] t) (va_A [(h_p0, .inr (7, [.ref h_p0_now, .ref h_p0_then, .ref h_p0_past, .int v_kept, .ref h_p0_text, .int v_typed, .int v_thrown, .int v_at, .int v_isFault, .ref h_p0_told, .int v_tolds, .int v_one, .int v_other, .int v_change, .int v_woken])), (h_p1, .inl (cyI, 452, .inl arr_1))] sz)) 0 0 (va_A [(h_p0, .inr (7, [.ref h_p0_now, .ref h_p0_then, .ref h_p0_past, .int v_kept, .ref h_p0_text, .int v_typed, .int v_thrown, .int v_at, .int v_isFault, .ref h_p0_told, .int v_tolds, .int v_one, .int v_other, .int v_change, .int v_woken])), (h_p1, .inl (cyI, 452, .inl arr_1))] sz) := by
  refine Met.ofW (cc := cX7_finds) (maxL := 5) (ret := (some .boolean)) (by decide) rfl ?_
  intro p e s m args below meth c s₁ B hml hv
  obtain ⟨rfl, hsz, hP, hK, hD0, hNW⟩ := hv
  have hx := B.exec
  have hb := B.bytes
  have hr := B.returns
  have hts := atoms_spec (ws := wsX7_finds) B.pre
  have hown : s.vm.findClass RX7 = some m.cls := findClass_of_methodNamed B.named
  have hlocks := B.notSynchronized
  subst hsz
  have hD := hD0.self (sz := s.heap.size)
  generalize hAe : va_A [(h_p0, .inr (7, [.ref h_p0_now, .ref h_p0_then, .ref h_p0_past, .int v_kept, .ref h_p0_text, .int v_typed, .int v_thrown, .int v_at, .int v_isFault, .ref h_p0_told, .int v_tolds, .int v_one, .int v_other, .int v_change, .int v_woken])), (h_p1, .inl (cyI, 452, .inl arr_1))] s.heap.size = A at hD ⊢
  have hA : ∀ q : Nat, s.heap.size ≤ q → A q := fun q h => by rw [← hAe]; exact Or.inr h
  have hS : va_S A s.heap s.heap [] := va_S.rf
  have hP : va_P (dC, dI) vwCl [(h_p0, .inr (7, [.ref h_p0_now, .ref h_p0_then, .ref h_p0_past, .int v_kept, .ref h_p0_text, .int v_typed, .int v_thrown, .int v_at, .int v_isFault, .ref h_p0_told, .int v_tolds, .int v_one, .int v_other, .int v_change, .int v_woken])), (h_p1, .inl (cyI, 452, .inl arr_1))] s.heap := hP
  have hl := lv_entry ([.ref h_p0, .ref h_p1, .int a2, .int a3, .int a4]) (n := 5) (Nat.le_of_ble_eq_true rfl)
  rw [lg_entry_eq]
  generalize (lg_sl ([.ref h_p0, .ref h_p1, .int a2, .int a3, .int a4]) ++ List.replicate (5 - (lg_sl ([.ref h_p0, .ref h_p1, .int a2, .int a3, .int a4])).length) Slot.unset).toArray = ls at hl ⊢
  have hl : lv_has ls 5 [(0, .ref h_p0), (1, .ref h_p1), (2, .int a2), (3, .int a3), (4, .int a4)] := hl
  unfold s_X7_finds at h
  refine lv_aload_n hx hb dX7_finds_0 rfl (lv_at hl 0 rfl) ?_
  refine lv_aload_n hx hb dX7_finds_1 rfl (lv_at hl 1 rfl) ?_
  refine lv_iload_n hx hb dX7_finds_2 rfl (lv_at hl 2 rfl) ?_
  refine lv_iload_n hx hb dX7_finds_3 rfl (lv_at hl 3 rfl) ?_
  obtain ⟨r1, e2, h⟩ := bsome h
  have hPc := sb_P [(h_p0, .inr (7, [.ref h_p0_now, .ref h_p0_then, .ref h_p0_past, .int v_kept, .ref h_p0_text, .int v_typed, .int v_thrown, .int v_at, .int v_isFault, .ref h_p0_told, .int v_tolds, .int v_one, .int v_other, .int v_change, .int v_woken])), (h_p1, .inl (cyI, 452, .inl arr_1))] hP [0, 1] rfl
  have hDc := sb_D [(h_p0, .inr (7, [.ref h_p0_now, .ref h_p0_then, .ref h_p0_past, .int v_kept, .ref h_p0_text, .int v_typed, .int v_thrown, .int v_at, .int v_isFault, .ref h_p0_told, .int v_tolds, .int v_one, .int v_other, .int v_change, .int v_woken])), (h_p1, .inl (cyI, 452, .inl arr_1))] hD [0, 1] (by decide) rfl
  have hFc := va_free (wc := [(h_p0, .inr (7, [.ref h_p0_now, .ref h_p0_then, .ref h_p0_past, .int v_kept, .ref h_p0_text, .int v_typed, .int v_thrown, .int v_at, .int v_isFault, .ref h_p0_told, .int v_tolds, .int v_one, .int v_other, .int v_change, .int v_woken])), (h_p1, .inl (cyI, 452, .inl arr_1))]) hD hS hA [0, 1] rfl
  refine va_calli (va_runV (As := [.ref h_p1, .int a2, .int a3]) (rest := []) ⟨hx, hb, hml, hown, hts⟩ (c_X7_findsOne l dC dI cyI cyJ cyT h_p0 h_p0_now h_p0_then h_p0_past h_p0_text h_p0_told h_p1 s.heap.size v_kept v_typed v_thrown v_at v_isFault v_tolds v_one v_other v_change v_woken arr_1 a2 a3 n r1 e2) (cwV 3 hts gX7_finds_X7_findsOne rfl rfl rfl (by decide +kernel) ⟨Nat.le_of_ble_eq_true rfl, Nat.le_of_ble_eq_true rfl⟩) ⟨PRE.blind, va_recv hK hPc (ci := 7) (q0 := 0) rfl rfl, PRE.go hK hPc hDc hNW⟩ rfl rfl hl.1 rfl (lv_room (Nat.le_of_ble_eq_true rfl)) dX7_finds_4 ⟨Nat.zero_le _, Nat.zero_le _⟩) hS (fun q _ h => hFc q h) hFc (fun z3 u t H locs ht hvm hw hB hz1 hk1 hS => ?_)
  subst z3
  obtain ⟨hP, hD⟩ := va_join (wr := []) (w1 := [(h_p0, .inr (7, [.ref h_p0_now, .ref h_p0_then, .ref h_p0_past, .int v_kept, .ref h_p0_text, .int v_typed, .int v_thrown, .int v_at, .int v_isFault, .ref h_p0_told, .int v_tolds, .int r1.2.1, .int r1.2.2.1, .int r1.2.2.2.1, .int r1.2.2.2.2])), (h_p1, .inl (cyI, 452, .inl arr_1))]) hP hD [0, 1] [] rfl rfl (by decide) (by decide) hk1 hFc (WLD.P hB ht) hB.2
  have hP : va_P (dC, dI) vwCl [(h_p0, .inr (7, [.ref h_p0_now, .ref h_p0_then, .ref h_p0_past, .int v_kept, .ref h_p0_text, .int v_typed, .int v_thrown, .int v_at, .int v_isFault, .ref h_p0_told, .int v_tolds, .int r1.2.1, .int r1.2.2.1, .int r1.2.2.2.1, .int r1.2.2.2.2])), (h_p1, .inl (cyI, 452, .inl arr_1))] H := hP
  have hD : va_D A [(h_p0, .inr (7, [.ref h_p0_now, .ref h_p0_then, .ref h_p0_past, .int v_kept, .ref h_p0_text, .int v_typed, .int v_thrown, .int v_at, .int v_isFault, .ref h_p0_told, .int v_tolds, .int r1.2.1, .int r1.2.2.1, .int r1.2.2.2.1, .int r1.2.2.2.2])), (h_p1, .inl (cyI, 452, .inl arr_1))] := hD
  refine lv_if_ne (tgt := 25) hx hb dX7_finds_7 (by decide) (fun c4 => ?_) (fun c4 => ?_)
  · have h := ineg c4 h
    refine lv_iconst (v := iI 1) hx hb dX7_finds_25 rfl ?_
    refine lv_goto (tgt := 30) hx hb dX7_finds_26 (by decide) ?_
    obtain rfl := Option.some.inj h
    exact W.zret (v := iI 1) hx hb hr (by decide) (fun t ht hW => ⟨⟨iI 1, (), rfl, rfl, WLD.of ht hP hD⟩, hS.F ht⟩) hS.2.2 dX7_finds_30
  · have h := ipos c4 h
    refine lv_iload hx hb dX7_finds_10 (lv_at hl 4 rfl) ?_
    refine lv_if_ne (tgt := 29) hx hb dX7_finds_12 (by decide) (fun c5 => ?_) (fun c5 => ?_)
    · have h := ineg c5 h
      refine lv_iconst (v := iI 0) hx hb dX7_finds_29 rfl ?_
      obtain rfl := Option.some.inj h
      exact W.zret (v := iI 0) hx hb hr (by decide) (fun t ht hW => ⟨⟨iI 0, (), rfl, rfl, WLD.of ht hP hD⟩, hS.F ht⟩) hS.2.2 dX7_finds_30
    · have h := ipos c5 h
      refine lv_aload_n hx hb dX7_finds_15 rfl (lv_at hl 0 rfl) ?_
      refine lv_aload_n hx hb dX7_finds_16 rfl (lv_at hl 1 rfl) ?_
      refine lv_iload_n hx hb dX7_finds_17 rfl (lv_at hl 2 rfl) ?_
      refine lv_iload_n hx hb dX7_finds_18 rfl (lv_at hl 3 rfl) ?_
      obtain ⟨r6, e7, h⟩ := bsome h
      have hPc := sb_P [(h_p0, .inr (7, [.ref h_p0_now, .ref h_p0_then, .ref h_p0_past, .int v_kept, .ref h_p0_text, .int v_typed, .int v_thrown, .int v_at, .int v_isFault, .ref h_p0_told, .int v_tolds, .int r1.2.1, .int r1.2.2.1, .int r1.2.2.2.1, .int r1.2.2.2.2])), (h_p1, .inl (cyI, 452, .inl arr_1))] hP [0, 1] rfl
      have hDc := sb_D [(h_p0, .inr (7, [.ref h_p0_now, .ref h_p0_then, .ref h_p0_past, .int v_kept, .ref h_p0_text, .int v_typed, .int v_thrown, .int v_at, .int v_isFault, .ref h_p0_told, .int v_tolds, .int r1.2.1, .int r1.2.2.1, .int r1.2.2.2.1, .int r1.2.2.2.2])), (h_p1, .inl (cyI, 452, .inl arr_1))] hD [0, 1] (by decide) rfl
      have hFc := va_free (wc := [(h_p0, .inr (7, [.ref h_p0_now, .ref h_p0_then, .ref h_p0_past, .int v_kept, .ref h_p0_text, .int v_typed, .int v_thrown, .int v_at, .int v_isFault, .ref h_p0_told, .int v_tolds, .int r1.2.1, .int r1.2.2.1, .int r1.2.2.2.1, .int r1.2.2.2.2])), (h_p1, .inl (cyI, 452, .inl arr_1))]) hD hS hA [0, 1] rfl
      refine va_calli (va_runV (As := [.ref h_p1, .int a2, .int a3]) (rest := []) ⟨hx, hb, hml, hown, hts⟩ (c_X7_findsTwo l dC dI cyI cyJ cyT h_p0 h_p0_now h_p0_then h_p0_past h_p0_text h_p0_told h_p1 H.size v_kept v_typed v_thrown v_at v_isFault v_tolds r1.2.1 r1.2.2.1 r1.2.2.2.1 r1.2.2.2.2 arr_1 a2 a3 n r6 e7) (cwV 3 hts gX7_finds_X7_findsTwo rfl rfl rfl (by decide +kernel) ⟨Nat.le_of_ble_eq_true rfl, Nat.le_of_ble_eq_true rfl⟩) ⟨PRE.blind, va_recv hK hPc (ci := 7) (q0 := 0) rfl rfl, PRE.go hK hPc hDc hNW⟩ rfl rfl hl.1 rfl (lv_room (Nat.le_of_ble_eq_true rfl)) dX7_finds_19 ⟨Nat.zero_le _, Nat.zero_le _⟩) hS (fun q _ h => hFc q h) hFc (fun z8 u t H locs ht hvm hw hB hz1 hk1 hS => ?_)
      subst z8
      obtain ⟨hP, hD⟩ := va_join (wr := []) (w1 := [(h_p0, .inr (7, [.ref h_p0_now, .ref h_p0_then, .ref h_p0_past, .int v_kept, .ref h_p0_text, .int v_typed, .int v_thrown, .int v_at, .int v_isFault, .ref h_p0_told, .int v_tolds, .int r6.2.1, .int r6.2.2.1, .int r6.2.2.2.1, .int r6.2.2.2.2])), (h_p1, .inl (cyI, 452, .inl arr_1))]) hP hD [0, 1] [] rfl rfl (by decide) (by decide) hk1 hFc (WLD.P hB ht) hB.2
      have hP : va_P (dC, dI) vwCl [(h_p0, .inr (7, [.ref h_p0_now, .ref h_p0_then, .ref h_p0_past, .int v_kept, .ref h_p0_text, .int v_typed, .int v_thrown, .int v_at, .int v_isFault, .ref h_p0_told, .int v_tolds, .int r6.2.1, .int r6.2.2.1, .int r6.2.2.2.1, .int r6.2.2.2.2])), (h_p1, .inl (cyI, 452, .inl arr_1))] H := hP
      have hD : va_D A [(h_p0, .inr (7, [.ref h_p0_now, .ref h_p0_then, .ref h_p0_past, .int v_kept, .ref h_p0_text, .int v_typed, .int v_thrown, .int v_at, .int v_isFault, .ref h_p0_told, .int v_tolds, .int r6.2.1, .int r6.2.2.1, .int r6.2.2.2.1, .int r6.2.2.2.2])), (h_p1, .inl (cyI, 452, .inl arr_1))] := hD
      refine lv_if_eq (tgt := 29) hx hb dX7_finds_22 (by decide) (fun c9 => ?_) (fun c9 => ?_)
      · have h := ipos c9 h
        refine lv_iconst (v := iI 0) hx hb dX7_finds_29 rfl ?_
        obtain rfl := Option.some.inj h
        exact W.zret (v := iI 0) hx hb hr (by decide) (fun t ht hW => ⟨⟨iI 0, (), rfl, rfl, WLD.of ht hP hD⟩, hS.F ht⟩) hS.2.2 dX7_finds_30
      · have h := ineg c9 h
        refine lv_iconst (v := iI 1) hx hb dX7_finds_25 rfl ?_
        refine lv_goto (tgt := 30) hx hb dX7_finds_26 (by decide) ?_
        obtain rfl := Option.some.inj h
        exact W.zret (v := iI 1) hx hb hr (by decide) (fun t ht hW => ⟨⟨iI 1, (), rfl, rfl, WLD.of ht hP hD⟩, hS.F ht⟩) hS.2.2 dX7_finds_30
def s_X7_has_L3 (n : Nat) (a1 : Int32) (a2 : Int32) (a4 : Int32) : Nat → (Nat → Int32) → Int32 → Option ((Nat → Int32))
  | 0, _, _ => none
  | k + 1, arr_0, x5 => (if a4 ≤ x5 then (some (arr_0)) else (if gd ((iI 290 + (iI 9 * a2)) + x5) 452 = true then (s_X7_has_L3 n a1 a2 a4 k (upd arr_0 ((iI 290 + (iI 9 * a2)) + x5).toNatClampNeg a1) (x5 + iI 1)) else none))
def s_X7_has (n : Nat) (arr_0 : Nat → Int32) (a1 : Int32) (a2 : Int32) (a3 : Int32) (a4 : Int32) : Option ((Nat → Int32)) := (s_X7_has_L3 n a1 a2 a4 n arr_0 a3)
set_option maxHeartbeats 4000000 in
set_option maxRecDepth 100000 in
theorem c_X7_has (l : Launch) (dC : Nat → ClassId) (dI : Nat → Nat → Nat) (cyI cyJ cyT : ClassId) (h_p0 : Nat) (sz : Nat) (arr_0 : Nat → Int32) (a1 : Int32) (a2 : Int32) (a3 : Int32) (a4 : Int32) (n : Nat) (o : (Nat → Int32)) (h : s_X7_has n arr_0 a1 a2 a3 a4 = some o) : Met l yX7_has wsX7_has ({ frames := 0, cells := 0, slots := 0, locals := 0 }) (va_Pc [.ref h_p0, .int a1, .int a2, .int a3, .int a4] (PRE (dC, dI) (TYS cyI cyJ cyT) sz [(h_p0, .inl (cyI, 452, .inl arr_0))])) (va_Qv (S := Unit) (fun _ => True) (fun _ t => WLD (dC, dI) (va_A [(h_p0, .inl (cyI, 452, .inl arr_0))] sz) [(h_p0, .inl (cyI, 452, .inl o))] t) (va_A [(h_p0, .inl (cyI, 452, .inl arr_0))] sz)) 0 0 (va_A [(h_p0, .inl (cyI, 452, .inl arr_0))] sz) := by
  refine Met.ofW (cc := cX7_has) (maxL := 6) (ret := none) (by decide) rfl ?_
  intro p e s m args below meth c s₁ B hml hv
  obtain ⟨rfl, hsz, hP, hK, hD0, hNW⟩ := hv
  have hx := B.exec
  have hb := B.bytes
  have hr := B.returns
  have hts := atoms_spec (ws := wsX7_has) B.pre
  have hown : s.vm.findClass RX7 = some m.cls := findClass_of_methodNamed B.named
  have hlocks := B.notSynchronized
  subst hsz
  have hD := hD0.self (sz := s.heap.size)
  generalize hAe : va_A [(h_p0, .inl (cyI, 452, .inl arr_0))] s.heap.size = A at hD ⊢
  have hA : ∀ q : Nat, s.heap.size ≤ q → A q := fun q h => by rw [← hAe]; exact Or.inr h
  have hS : va_S A s.heap s.heap [] := va_S.rf
  have hP : va_P (dC, dI) vwCl [(h_p0, .inl (cyI, 452, .inl arr_0))] s.heap := hP
  have L3 : ∀ (k : Nat), (∀ (arr_0 : Nat → Int32) (x5 : Int32) (H : Heap) (locs : List Loc), va_P (dC, dI) vwCl [(h_p0, .inl (cyI, 452, .inl arr_0))] H → va_D A [(h_p0, .inl (cyI, 452, .inl arr_0))] → va_S A s.heap H locs → ∀ (ls : Array Slot), lv_has ls 6 [(0, .ref h_p0), (1, .int a1), (2, .int a2), (4, .int a4), (5, .int x5)] →  s_X7_has_L3 n a1 a2 a4 k arr_0 x5 = some o → W p l e (headSpec wsX7_has ({ frames := 0, cells := 0, slots := 0, locals := 0 })).room s m (([.ref h_p0, .int a1, .int a2, .int a3, .int a4] : List Value).toArray) below meth c H locs 0 0 (MQ below (va_Qv (S := Unit) (fun _ => True) (fun _ t => WLD (dC, dI) A [(h_p0, .inl (cyI, 452, .inl o))] t) A) (([.ref h_p0, .int a1, .int a2, .int a3, .int a4] : List Value).toArray) s 0 0 A) (F0 m 3 ls [])) := by
    intro k
    induction k with
    | zero =>
      intro  arr_0 x5 H locs hP hD hS ls hl h
      rw [s_X7_has_L3] at h
      cases h
    | succ k ih =>
      intro  arr_0 x5 H locs hP hD hS ls hl h
      rw [s_X7_has_L3] at h
      refine lv_iload hx hb dX7_has_3 (lv_at hl 4 rfl) ?_
      refine lv_iload hx hb dX7_has_5 (lv_at hl 3 rfl) ?_
      refine lv_icmp_ge (tgt := 30) hx hb dX7_has_7 (by decide) (fun c1 => ?_) (fun c1 => ?_)
      · have h := ipos c1 h
        obtain rfl := Option.some.inj h
        exact W.vret hx hb hr (fun t ht hW => ⟨⟨(), rfl, trivial, WLD.of ht hP hD⟩, hS.F ht⟩) hS.2.2 dX7_has_30
      · have h := ineg c1 h
        refine lv_aload_n hx hb dX7_has_10 rfl (lv_at hl 0 rfl) ?_
        refine lv_sipush (v := iI 290) hx hb dX7_has_11 (by decide) ?_
        refine lv_bipush (v := iI 9) hx hb dX7_has_14 (by decide) ?_
        refine lv_iload_n hx hb dX7_has_16 rfl (lv_at hl 2 rfl) ?_
        refine lv_imul hx hb dX7_has_17 ?_
        refine lv_iadd hx hb dX7_has_18 ?_
        refine lv_iload hx hb dX7_has_19 (lv_at hl 4 rfl) ?_
        refine lv_iadd hx hb dX7_has_21 ?_
        refine lv_iload_n hx hb dX7_has_22 rfl (lv_at hl 1 rfl) ?_
        obtain ⟨g2, h⟩ := gsome h
        refine va_iast (D := (dC, dI)) hx hb hK hP hD hS 0 0 rfl rfl g2 dX7_has_23 (fun H locs hP hD hS => ?_)
        have hP : va_P (dC, dI) vwCl [(h_p0, .inl (cyI, 452, .inl (upd arr_0 ((iI 290 + (iI 9 * a2)) + x5).toNatClampNeg a1)))] H := hP
        have hD : va_D A [(h_p0, .inl (cyI, 452, .inl (upd arr_0 ((iI 290 + (iI 9 * a2)) + x5).toNatClampNeg a1)))] := hD
        refine lv_iinc (v := (x5 + iI 1)) hx hb dX7_has_24 hl (k := 4) rfl rfl (by decide) (rfl : _ = ([(5, .int (x5 + iI 1)), (0, .ref h_p0), (1, .int a1), (2, .int a2), (4, .int a4)] : List (Nat × Value))) (fun ls hl => ?_)
        refine lv_goto (tgt := 3) hx hb dX7_has_27 (by decide) ?_
        exact ih (upd arr_0 ((iI 290 + (iI 9 * a2)) + x5).toNatClampNeg a1) (x5 + iI 1) _ _ hP hD hS ls (lv_sub hl [1, 2, 3, 4, 0] rfl) h
  have hl := lv_entry ([.ref h_p0, .int a1, .int a2, .int a3, .int a4]) (n := 6) (Nat.le_of_ble_eq_true rfl)
  rw [lg_entry_eq]
  generalize (lg_sl ([.ref h_p0, .int a1, .int a2, .int a3, .int a4]) ++ List.replicate (6 - (lg_sl ([.ref h_p0, .int a1, .int a2, .int a3, .int a4])).length) Slot.unset).toArray = ls at hl ⊢
  have hl : lv_has ls 6 [(0, .ref h_p0), (1, .int a1), (2, .int a2), (3, .int a3), (4, .int a4)] := hl
  unfold s_X7_has at h
  refine lv_iload_n hx hb dX7_has_0 rfl (lv_at hl 3 rfl) ?_
  refine lv_istore hx hb dX7_has_1 hl (by decide) (rfl : _ = ([(5, .int a3), (0, .ref h_p0), (1, .int a1), (2, .int a2), (3, .int a3), (4, .int a4)] : List (Nat × Value))) (fun ls hl => ?_)
  exact L3 n arr_0 a3 _ _ hP hD hS ls (lv_sub hl [1, 2, 3, 5, 0] rfl) h
def s_X7_frees_L2 (n : Nat) (a1 : Int32) : Nat → (Nat → Int32) → Int32 → Option ((Nat → Int32))
  | 0, _, _ => none
  | k + 1, arr_0, x2 => (if iI 162 ≤ x2 then (some (arr_0)) else (if gd (iI 290 + x2) 452 = true then (if (arr_0 (iI 290 + x2).toNatClampNeg) = a1 then (if gd (iI 290 + x2) 452 = true then (s_X7_frees_L2 n a1 k (upd arr_0 (iI 290 + x2).toNatClampNeg (iI (-1))) (x2 + iI 1)) else none) else (if gd (iI 290 + x2) 452 = true then (if gd (iI 290 + x2) 452 = true then (s_X7_frees_L2 n a1 k (upd arr_0 (iI 290 + x2).toNatClampNeg (arr_0 (iI 290 + x2).toNatClampNeg)) (x2 + iI 1)) else none) else none)) else none))
def s_X7_frees (n : Nat) (arr_0 : Nat → Int32) (a1 : Int32) : Option ((Nat → Int32)) := (s_X7_frees_L2 n a1 n arr_0 (iI 0))
set_option maxHeartbeats 4000000 in
set_option maxRecDepth 100000 in
theorem c_X7_frees (l : Launch) (dC : Nat → ClassId) (dI : Nat → Nat → Nat) (cyI cyJ cyT : ClassId) (h_p0 : Nat) (sz : Nat) (arr_0 : Nat → Int32) (a1 : Int32) (n : Nat) (o : (Nat → Int32)) (h : s_X7_frees n arr_0 a1 = some o) : Met l yX7_frees wsX7_frees ({ frames := 0, cells := 0, slots := 0, locals := 0 }) (va_Pc [.ref h_p0, .int a1] (PRE (dC, dI) (TYS cyI cyJ cyT) sz [(h_p0, .inl (cyI, 452, .inl arr_0))])) (va_Qv (S := Unit) (fun _ => True) (fun _ t => WLD (dC, dI) (va_A [(h_p0, .inl (cyI, 452, .inl arr_0))] sz) [(h_p0, .inl (cyI, 452, .inl o))] t) (va_A [(h_p0, .inl (cyI, 452, .inl arr_0))] sz)) 0 0 (va_A [(h_p0, .inl (cyI, 452, .inl arr_0))] sz) := by
  refine Met.ofW (cc := cX7_frees) (maxL := 3) (ret := none) (by decide) rfl ?_
  intro p e s m args below meth c s₁ B hml hv
  obtain ⟨rfl, hsz, hP, hK, hD0, hNW⟩ := hv
  have hx := B.exec
  have hb := B.bytes
  have hr := B.returns
  have hts := atoms_spec (ws := wsX7_frees) B.pre
  have hown : s.vm.findClass RX7 = some m.cls := findClass_of_methodNamed B.named
  have hlocks := B.notSynchronized
  subst hsz
  have hD := hD0.self (sz := s.heap.size)
  generalize hAe : va_A [(h_p0, .inl (cyI, 452, .inl arr_0))] s.heap.size = A at hD ⊢
  have hA : ∀ q : Nat, s.heap.size ≤ q → A q := fun q h => by rw [← hAe]; exact Or.inr h
  have hS : va_S A s.heap s.heap [] := va_S.rf
  have hP : va_P (dC, dI) vwCl [(h_p0, .inl (cyI, 452, .inl arr_0))] s.heap := hP
  have L2 : ∀ (k : Nat), (∀ (arr_0 : Nat → Int32) (x2 : Int32) (H : Heap) (locs : List Loc), va_P (dC, dI) vwCl [(h_p0, .inl (cyI, 452, .inl arr_0))] H → va_D A [(h_p0, .inl (cyI, 452, .inl arr_0))] → va_S A s.heap H locs → ∀ (ls : Array Slot), lv_has ls 3 [(0, .ref h_p0), (1, .int a1), (2, .int x2)] →  s_X7_frees_L2 n a1 k arr_0 x2 = some o → W p l e (headSpec wsX7_frees ({ frames := 0, cells := 0, slots := 0, locals := 0 })).room s m (([.ref h_p0, .int a1] : List Value).toArray) below meth c H locs 0 0 (MQ below (va_Qv (S := Unit) (fun _ => True) (fun _ t => WLD (dC, dI) A [(h_p0, .inl (cyI, 452, .inl o))] t) A) (([.ref h_p0, .int a1] : List Value).toArray) s 0 0 A) (F0 m 2 ls [])) := by
    intro k
    induction k with
    | zero =>
      intro  arr_0 x2 H locs hP hD hS ls hl h
      rw [s_X7_frees_L2] at h
      cases h
    | succ k ih =>
      intro  arr_0 x2 H locs hP hD hS ls hl h
      rw [s_X7_frees_L2] at h
      refine lv_iload_n hx hb dX7_frees_2 rfl (lv_at hl 2 rfl) ?_
      refine lv_sipush (v := iI 162) hx hb dX7_frees_3 (by decide) ?_
      refine lv_icmp_ge (tgt := 44) hx hb dX7_frees_6 (by decide) (fun c1 => ?_) (fun c1 => ?_)
      · have h := ipos c1 h
        obtain rfl := Option.some.inj h
        exact W.vret hx hb hr (fun t ht hW => ⟨⟨(), rfl, trivial, WLD.of ht hP hD⟩, hS.F ht⟩) hS.2.2 dX7_frees_44
      · have h := ineg c1 h
        refine lv_aload_n hx hb dX7_frees_9 rfl (lv_at hl 0 rfl) ?_
        refine lv_sipush (v := iI 290) hx hb dX7_frees_10 (by decide) ?_
        refine lv_iload_n hx hb dX7_frees_13 rfl (lv_at hl 2 rfl) ?_
        refine lv_iadd hx hb dX7_frees_14 ?_
        refine lv_aload_n hx hb dX7_frees_15 rfl (lv_at hl 0 rfl) ?_
        refine lv_sipush (v := iI 290) hx hb dX7_frees_16 (by decide) ?_
        refine lv_iload_n hx hb dX7_frees_19 rfl (lv_at hl 2 rfl) ?_
        refine lv_iadd hx hb dX7_frees_20 ?_
        obtain ⟨g2, h⟩ := gsome h
        refine va_iald (D := (dC, dI)) hx hb hK hP 0 0 rfl rfl g2 dX7_frees_21 ?_
        refine lv_iload_n hx hb dX7_frees_22 rfl (lv_at hl 1 rfl) ?_
        refine lv_icmp_ne (tgt := 30) hx hb dX7_frees_23 (by decide) (fun c3 => ?_) (fun c3 => ?_)
        · have h := ineg c3 h
          refine lv_aload_n hx hb dX7_frees_30 rfl (lv_at hl 0 rfl) ?_
          refine lv_sipush (v := iI 290) hx hb dX7_frees_31 (by decide) ?_
          refine lv_iload_n hx hb dX7_frees_34 rfl (lv_at hl 2 rfl) ?_
          refine lv_iadd hx hb dX7_frees_35 ?_
          obtain ⟨g4, h⟩ := gsome h
          refine va_iald (D := (dC, dI)) hx hb hK hP 0 0 rfl rfl g4 dX7_frees_36 ?_
          obtain ⟨g5, h⟩ := gsome h
          refine va_iast (D := (dC, dI)) hx hb hK hP hD hS 0 0 rfl rfl g5 dX7_frees_37 (fun H locs hP hD hS => ?_)
          have hP : va_P (dC, dI) vwCl [(h_p0, .inl (cyI, 452, .inl (upd arr_0 (iI 290 + x2).toNatClampNeg (arr_0 (iI 290 + x2).toNatClampNeg))))] H := hP
          have hD : va_D A [(h_p0, .inl (cyI, 452, .inl (upd arr_0 (iI 290 + x2).toNatClampNeg (arr_0 (iI 290 + x2).toNatClampNeg))))] := hD
          refine lv_iinc (v := (x2 + iI 1)) hx hb dX7_frees_38 hl (k := 2) rfl rfl (by decide) (rfl : _ = ([(2, .int (x2 + iI 1)), (0, .ref h_p0), (1, .int a1)] : List (Nat × Value))) (fun ls hl => ?_)
          refine lv_goto (tgt := 2) hx hb dX7_frees_41 (by decide) ?_
          exact ih (upd arr_0 (iI 290 + x2).toNatClampNeg (arr_0 (iI 290 + x2).toNatClampNeg)) (x2 + iI 1) _ _ hP hD hS ls (lv_sub hl [1, 2, 0] rfl) h
        · have h := ipos c3 h
          refine lv_iconst (v := iI (-1)) hx hb dX7_frees_26 rfl ?_
          refine lv_goto (tgt := 37) hx hb dX7_frees_27 (by decide) ?_
          obtain ⟨g6, h⟩ := gsome h
          refine va_iast (D := (dC, dI)) hx hb hK hP hD hS 0 0 rfl rfl g6 dX7_frees_37 (fun H locs hP hD hS => ?_)
          have hP : va_P (dC, dI) vwCl [(h_p0, .inl (cyI, 452, .inl (upd arr_0 (iI 290 + x2).toNatClampNeg (iI (-1)))))] H := hP
          have hD : va_D A [(h_p0, .inl (cyI, 452, .inl (upd arr_0 (iI 290 + x2).toNatClampNeg (iI (-1)))))] := hD
          refine lv_iinc (v := (x2 + iI 1)) hx hb dX7_frees_38 hl (k := 2) rfl rfl (by decide) (rfl : _ = ([(2, .int (x2 + iI 1)), (0, .ref h_p0), (1, .int a1)] : List (Nat × Value))) (fun ls hl => ?_)
          refine lv_goto (tgt := 2) hx hb dX7_frees_41 (by decide) ?_
          exact ih (upd arr_0 (iI 290 + x2).toNatClampNeg (iI (-1))) (x2 + iI 1) _ _ hP hD hS ls (lv_sub hl [1, 2, 0] rfl) h
  have hl := lv_entry ([.ref h_p0, .int a1]) (n := 3) (Nat.le_of_ble_eq_true rfl)
  rw [lg_entry_eq]
  generalize (lg_sl ([.ref h_p0, .int a1]) ++ List.replicate (3 - (lg_sl ([.ref h_p0, .int a1])).length) Slot.unset).toArray = ls at hl ⊢
  have hl : lv_has ls 3 [(0, .ref h_p0), (1, .int a1)] := hl
  unfold s_X7_frees at h
  refine lv_iconst (v := iI 0) hx hb dX7_frees_0 rfl ?_
  refine lv_istore_n hx hb dX7_frees_1 rfl hl (by decide) (rfl : _ = ([(2, .int (iI 0)), (0, .ref h_p0), (1, .int a1)] : List (Nat × Value))) (fun ls hl => ?_)
  exact L2 n arr_0 (iI 0) _ _ hP hD hS ls (lv_sub hl [1, 2, 0] rfl) h
