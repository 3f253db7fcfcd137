def s_X7_thrown (v_thrown : Int32) : Option (Int32) := (some (v_thrown))
set_option maxRecDepth 20000 in
theorem m_X7_thrown_0 : ∀ w ∈ u_ws RX7 TX7 15, w ∈ wsX7_thrown := by decide +kernel
set_option maxRecDepth 20000 in
theorem m_X7_thrown_1 : (.fieldLink RX7 25 "SleeperBerthsModel" "thrown" "I" : Cond) ∈ wsX7_thrown := by decide +kernel
set_option maxHeartbeats 4000000 in
set_option maxRecDepth 100000 in
theorem c_X7_thrown (l : Launch) (dC : Nat → ClassId) (dI : Nat → Nat → Nat) (cyI cyJ cyT : ClassId) (h_p0 : Nat) (h_p0_now : Nat) (h_p0_then : Nat) (h_p0_past : Nat) (h_p0_text : Nat) (h_p0_told : Nat) (sz : Nat) (v_kept : Int32) (v_typed : Int32) (v_thrown : Int32) (v_at : Int32) (v_isFault : Int32) (v_tolds : Int32) (v_one : Int32) (v_other : Int32) (v_change : Int32) (v_woken : Int32) (o : Int32) (h : s_X7_thrown v_thrown = some o) : Met l yX7_thrown wsX7_thrown ({ frames := 0, cells := 0, slots := 0, locals := 0 }) (va_Pc [.ref h_p0] (PRE (dC, dI) (TYS cyI cyJ cyT) sz [(h_p0, .inr (7, [.ref h_p0_now, .ref h_p0_then, .ref h_p0_past, .int v_kept, .ref h_p0_text, .int v_typed, .int v_thrown, .int v_at, .int v_isFault, .ref h_p0_told, .int v_tolds, .int v_one, .int v_other, .int v_change, .int v_woken]))])) (va_Qi (S := Unit) (fun r _ => r = o) (fun _ t => WLD (dC, dI) (va_A [(h_p0, .inr (7, [.ref h_p0_now, .ref h_p0_then, .ref h_p0_past, .int v_kept, .ref h_p0_text, .int v_typed, .int v_thrown, .int v_at, .int v_isFault, .ref h_p0_told, .int v_tolds, .int v_one, .int v_other, .int v_change, .int v_woken]))] sz) [(h_p0, .inr (7, [.ref h_p0_now, .ref h_p0_then, .ref h_p0_past, .int v_kept, .ref h_p0_text, .int v_typed, .int v_thrown, .int v_at, .int v_isFault, .ref h_p0_told, .int v_tolds, .int v_one, .int v_other, .int v_change, .int v_woken]))] t) (va_A [(h_p0, .inr (7, [.ref h_p0_now, .ref h_p0_then, .ref h_p0_past, .int v_kept, .ref h_p0_text, .int v_typed, .int v_thrown, .int v_at, .int v_isFault, .ref h_p0_told, .int v_tolds, .int v_one, .int v_other, .int v_change, .int v_woken]))] sz)) 0 0 (va_A [(h_p0, .inr (7, [.ref h_p0_now, .ref h_p0_then, .ref h_p0_past, .int v_kept, .ref h_p0_text, .int v_typed, .int v_thrown, .int v_at, .int v_isFault, .ref h_p0_told, .int v_tolds, .int v_one, .int v_other, .int v_change, .int v_woken]))] sz) := by
  refine Met.ofW (cc := cX7_thrown) (maxL := 1) (ret := (some .int)) (by decide) rfl ?_
  intro p e s m args below meth c s₁ B hml hv
  obtain ⟨rfl, hsz, hP, hK, hD0, hNW⟩ := hv
  have hx := B.exec
  have hb := B.bytes
  have hr := B.returns
  have hts := atoms_spec (ws := wsX7_thrown) B.pre
  have hown : s.vm.findClass RX7 = some m.cls := findClass_of_methodNamed B.named
  have hlocks := B.notSynchronized
  subst hsz
  have hD := hD0.self (sz := s.heap.size)
  generalize hAe : va_A [(h_p0, .inr (7, [.ref h_p0_now, .ref h_p0_then, .ref h_p0_past, .int v_kept, .ref h_p0_text, .int v_typed, .int v_thrown, .int v_at, .int v_isFault, .ref h_p0_told, .int v_tolds, .int v_one, .int v_other, .int v_change, .int v_woken]))] s.heap.size = A at hD ⊢
  have hA : ∀ q : Nat, s.heap.size ≤ q → A q := fun q h => by rw [← hAe]; exact Or.inr h
  have hS : va_S A s.heap s.heap [] := va_S.rf
  have hP : va_P (dC, dI) vwCl [(h_p0, .inr (7, [.ref h_p0_now, .ref h_p0_then, .ref h_p0_past, .int v_kept, .ref h_p0_text, .int v_typed, .int v_thrown, .int v_at, .int v_isFault, .ref h_p0_told, .int v_tolds, .int v_one, .int v_other, .int v_change, .int v_woken]))] s.heap := hP
  have hl := lv_entry ([.ref h_p0]) (n := 1) (Nat.le_of_ble_eq_true rfl)
  rw [lg_entry_eq]
  generalize (lg_sl ([.ref h_p0]) ++ List.replicate (1 - (lg_sl ([.ref h_p0])).length) Slot.unset).toArray = ls at hl ⊢
  have hl : lv_has ls 1 [(0, .ref h_p0)] := hl
  unfold s_X7_thrown at h
  refine lv_aload_n hx hb dX7_thrown_0 rfl (lv_at hl 0 rfl) ?_
  refine va_get (D := (dC, dI)) (ci := 7) (v := .int v_thrown) (C := RX7) (T := TX7) (N := 15) hx hb hts m_X7_thrown_0 hown hK hP 0 rfl rfl 6 (by decide) (hts (.fieldLink RX7 25 "SleeperBerthsModel" "thrown" "I") m_X7_thrown_1) (fun _ h9 => h9) rfl dX7_thrown_1 ?_
  obtain rfl := Option.some.inj h
  exact W.iret (v := v_thrown) hx hb hr (fun t ht hW => ⟨⟨v_thrown, (), rfl, rfl, WLD.of ht hP hD⟩, hS.F ht⟩) hS.2.2 dX7_thrown_4
def s_X7_fails (v_thrown : Int32) (a1 : Int32) : Option (Int32 × Int32) := (some (iI 0, a1))
set_option maxRecDepth 20000 in
theorem m_X7_fails_0 : ∀ w ∈ u_ws RX7 TX7 15, w ∈ wsX7_fails := by decide +kernel
set_option maxRecDepth 20000 in
theorem m_X7_fails_1 : (.fieldLink RX7 25 "SleeperBerthsModel" "thrown" "I" : Cond) ∈ wsX7_fails := by decide +kernel
set_option maxHeartbeats 4000000 in
set_option maxRecDepth 100000 in
theorem c_X7_fails (l : Launch) (dC : Nat → ClassId) (dI : Nat → Nat → Nat) (cyI cyJ cyT : ClassId) (h_p0 : Nat) (h_p0_now : Nat) (h_p0_then : Nat) (h_p0_past : Nat) (h_p0_text : Nat) (h_p0_told : Nat) (sz : Nat) (v_kept : Int32) (v_typed : Int32) (v_thrown : Int32) (v_at : Int32) (v_isFault : Int32) (v_tolds : Int32) (v_one : Int32) (v_other : Int32) (v_change : Int32) (v_woken : Int32) (a1 : Int32) (o : Int32 × Int32) (h : s_X7_fails v_thrown a1 = some o) : Met l yX7_fails wsX7_fails ({ frames := 0, cells := 0, slots := 0, locals := 0 }) (va_Pc [.ref h_p0, .int a1] (PRE (dC, dI) (TYS cyI cyJ cyT) sz [(h_p0, .inr (7, [.ref h_p0_now, .ref h_p0_then, .ref h_p0_past, .int v_kept, .ref h_p0_text, .int v_typed, .int v_thrown, .int v_at, .int v_isFault, .ref h_p0_told, .int v_tolds, .int v_one, .int v_other, .int v_change, .int v_woken]))])) (va_Qi (S := Unit) (fun r _ => r = o.1) (fun _ t => WLD (dC, dI) (va_A [(h_p0, .inr (7, [.ref h_p0_now, .ref h_p0_then, .ref h_p0_past, .int v_kept, .ref h_p0_text, .int v_typed, .int v_thrown, .int v_at, .int v_isFault, .ref h_p0_told, .int v_tolds, .int v_one, .int v_other, .int v_change, .int v_woken]))] sz) [(h_p0, .inr (7, [.ref h_p0_now, .ref h_p0_then, .ref h_p0_past, .int v_kept, .ref h_p0_text, .int v_typed, .int o.2, .int v_at, .int v_isFault, .ref h_p0_told, .int v_tolds, .int v_one, .int v_other, .int v_change, .int v_woken]))] t) (va_A [(h_p0, .inr (7, [.ref h_p0_now, .ref h_p0_then, .ref h_p0_past, .int v_kept, .ref h_p0_text, .int v_typed, .int v_thrown, .int v_at, .int v_isFault, .ref h_p0_told, .int v_tolds, .int v_one, .int v_other, .int v_change, .int v_woken]))] sz)) 0 0 (va_A [(h_p0, .inr (7, [.ref h_p0_now, .ref h_p0_then, .ref h_p0_past, .int v_kept, .ref h_p0_text, .int v_typed, .int v_thrown, .int v_at, .int v_isFault, .ref h_p0_told, .int v_tolds, .int v_one, .int v_other, .int v_change, .int v_woken]))] sz) := by
  refine Met.ofW (cc := cX7_fails) (maxL := 2) (ret := (some .int)) (by decide) rfl ?_
  intro p e s m args below meth c s₁ B hml hv
  obtain ⟨rfl, hsz, hP, hK, hD0, hNW⟩ := hv
  have hx := B.exec
  have hb := B.bytes
  have hr := B.returns
  have hts := atoms_spec (ws := wsX7_fails) B.pre
  have hown : s.vm.findClass RX7 = some m.cls := findClass_of_methodNamed B.named
  have hlocks := B.notSynchronized
  subst hsz
  have hD := hD0.self (sz := s.heap.size)
  generalize hAe : va_A [(h_p0, .inr (7, [.ref h_p0_now, .ref h_p0_then, .ref h_p0_past, .int v_kept, .ref h_p0_text, .int v_typed, .int v_thrown, .int v_at, .int v_isFault, .ref h_p0_told, .int v_tolds, .int v_one, .int v_other, .int v_change, .int v_woken]))] s.heap.size = A at hD ⊢
  have hA : ∀ q : Nat, s.heap.size ≤ q → A q := fun q h => by rw [← hAe]; exact Or.inr h
  have hS : va_S A s.heap s.heap [] := va_S.rf
  have hP : va_P (dC, dI) vwCl [(h_p0, .inr (7, [.ref h_p0_now, .ref h_p0_then, .ref h_p0_past, .int v_kept, .ref h_p0_text, .int v_typed, .int v_thrown, .int v_at, .int v_isFault, .ref h_p0_told, .int v_tolds, .int v_one, .int v_other, .int v_change, .int v_woken]))] s.heap := hP
  have hl := lv_entry ([.ref h_p0, .int a1]) (n := 2) (Nat.le_of_ble_eq_true rfl)
  rw [lg_entry_eq]
  generalize (lg_sl ([.ref h_p0, .int a1]) ++ List.replicate (2 - (lg_sl ([.ref h_p0, .int a1])).length) Slot.unset).toArray = ls at hl ⊢
  have hl : lv_has ls 2 [(0, .ref h_p0), (1, .int a1)] := hl
  unfold s_X7_fails at h
  refine lv_aload_n hx hb dX7_fails_0 rfl (lv_at hl 0 rfl) ?_
  refine lv_iload_n hx hb dX7_fails_1 rfl (lv_at hl 1 rfl) ?_
  refine va_put (D := (dC, dI)) (ci := 7) (v := .int a1) (ty := .int) (C := RX7) (T := TX7) (N := 15) hx hb hts m_X7_fails_0 tyX7 tyX7_ok nmX7 hown hK hP hD hS 0 rfl rfl 6 (by decide) (hts (.fieldLink RX7 25 "SleeperBerthsModel" "thrown" "I") m_X7_fails_1) (fun _ h9 => h9) rfl (by decide +kernel) rfl rfl (Nat.le_of_ble_eq_true rfl) dX7_fails_2 (fun H locs hP hD hS => ?_)
  have hP : va_P (dC, dI) vwCl [(h_p0, .inr (7, [.ref h_p0_now, .ref h_p0_then, .ref h_p0_past, .int v_kept, .ref h_p0_text, .int v_typed, .int a1, .int v_at, .int v_isFault, .ref h_p0_told, .int v_tolds, .int v_one, .int v_other, .int v_change, .int v_woken]))] H := hP
  have hD : va_D A [(h_p0, .inr (7, [.ref h_p0_now, .ref h_p0_then, .ref h_p0_past, .int v_kept, .ref h_p0_text, .int v_typed, .int a1, .int v_at, .int v_isFault, .ref h_p0_told, .int v_tolds, .int v_one, .int v_other, .int v_change, .int v_woken]))] := hD
  refine lv_iconst (v := iI 0) hx hb dX7_fails_5 rfl ?_
  obtain rfl := Option.some.inj h
  exact W.iret (v := iI 0) hx hb hr (fun t ht hW => ⟨⟨iI 0, (), rfl, rfl, WLD.of ht hP hD⟩, hS.F ht⟩) hS.2.2 dX7_fails_6
def s_X7_in (a0 : Int32) (a1 : Int32) (a2 : Int32) : Option (Int32) := (if a0 < a1 then (some (iI 0)) else (if a2 < a0 then (some (iI 0)) else (some (iI 1))))
set_option maxHeartbeats 4000000 in
set_option maxRecDepth 100000 in
theorem c_X7_in (l : Launch) (dC : Nat → ClassId) (dI : Nat → Nat → Nat) (cyI cyJ cyT : ClassId)  (sz : Nat) (a0 : Int32) (a1 : Int32) (a2 : Int32) (o : Int32) (h : s_X7_in a0 a1 a2 = some o) : Met l yX7_in wsX7_in ({ frames := 0, cells := 0, slots := 0, locals := 0 }) (va_Pc [.int a0, .int a1, .int a2] (PRE (dC, dI) (TYS cyI cyJ cyT) sz [])) (va_Qi (S := Unit) (fun r _ => r = o) (fun _ t => WLD (dC, dI) (va_A [] sz) [] t) (va_A [] sz)) 0 0 (va_A [] sz) := by
  refine Met.ofW (cc := cX7_in) (maxL := 3) (ret := (some .boolean)) (by decide) rfl ?_
  intro p e s m args below meth c s₁ B hml hv
  obtain ⟨rfl, hsz, hP, hK, hD0, hNW⟩ := hv
  have hx := B.exec
  have hb := B.bytes
  have hr := B.returns
  have hts := atoms_spec (ws := wsX7_in) B.pre
  have hown : s.vm.findClass RX7 = some m.cls := findClass_of_methodNamed B.named
  have hlocks := B.notSynchronized
  subst hsz
  have hD := hD0.self (sz := s.heap.size)
  generalize hAe : va_A [] s.heap.size = A at hD ⊢
  have hA : ∀ q : Nat, s.heap.size ≤ q → A q := fun q h => by rw [← hAe]; exact Or.inr h
  have hS : va_S A s.heap s.heap [] := va_S.rf
  have hP : va_P (dC, dI) vwCl [] s.heap := hP
  have hl := lv_entry ([.int a0, .int a1, .int a2]) (n := 3) (Nat.le_of_ble_eq_true rfl)
  rw [lg_entry_eq]
  generalize (lg_sl ([.int a0, .int a1, .int a2]) ++ List.replicate (3 - (lg_sl ([.int a0, .int a1, .int a2])).length) Slot.unset).toArray = ls at hl ⊢
  have hl : lv_has ls 3 [(0, .int a0), (1, .int a1), (2, .int a2)] := hl
  unfold s_X7_in at h
  refine lv_iload_n hx hb dX7_in_0 rfl (lv_at hl 0 rfl) ?_
  refine lv_iload_n hx hb dX7_in_1 rfl (lv_at hl 1 rfl) ?_
  refine lv_icmp_lt (tgt := 14) hx hb dX7_in_2 (by decide) (fun c1 => ?_) (fun c1 => ?_)
  · have h := ipos c1 h
    refine lv_iconst (v := iI 0) hx hb dX7_in_14 rfl ?_
    obtain rfl := Option.some.inj h
    exact W.zret (v := iI 0) hx hb hr (by decide) (fun t ht hW => ⟨⟨iI 0, (), rfl, rfl, WLD.of ht hP hD⟩, hS.F ht⟩) hS.2.2 dX7_in_15
  · have h := ineg c1 h
    refine lv_iload_n hx hb dX7_in_5 rfl (lv_at hl 0 rfl) ?_
    refine lv_iload_n hx hb dX7_in_6 rfl (lv_at hl 2 rfl) ?_
    refine lv_icmp_gt (tgt := 14) hx hb dX7_in_7 (by decide) (fun c2 => ?_) (fun c2 => ?_)
    · have h := ipos c2 h
      refine lv_iconst (v := iI 0) hx hb dX7_in_14 rfl ?_
      obtain rfl := Option.some.inj h
      exact W.zret (v := iI 0) hx hb hr (by decide) (fun t ht hW => ⟨⟨iI 0, (), rfl, rfl, WLD.of ht hP hD⟩, hS.F ht⟩) hS.2.2 dX7_in_15
    · have h := ineg c2 h
      refine lv_iconst (v := iI 1) hx hb dX7_in_10 rfl ?_
      refine lv_goto (tgt := 15) hx hb dX7_in_11 (by decide) ?_
      obtain rfl := Option.some.inj h
      exact W.zret (v := iI 1) hx hb hr (by decide) (fun t ht hW => ⟨⟨iI 1, (), rfl, rfl, WLD.of ht hP hD⟩, hS.F ht⟩) hS.2.2 dX7_in_15
def s_X7_isWay (a0 : Int32) (a1 : Int32) : Option (Int32) := ((s_X7_in a0 (iI 0) (iI 8)).bind fun r1 => (if r1 = 0 then (some (iI 0)) else (if a1 ≤ a0 then (some (iI 0)) else (if iI 9 < a1 then (some (iI 0)) else (some (iI 1))))))
set_option maxHeartbeats 4000000 in
set_option maxRecDepth 100000 in
theorem c_X7_isWay (l : Launch) (dC : Nat → ClassId) (dI : Nat → Nat → Nat) (cyI cyJ cyT : ClassId)  (sz : Nat) (a0 : Int32) (a1 : Int32) (o : Int32) (h : s_X7_isWay a0 a1 = some o) : Met l yX7_isWay wsX7_isWay ({ frames := 1, cells := 0, slots := 0, locals := 22 }) (va_Pc [.int a0, .int a1] (PRE (dC, dI) (TYS cyI cyJ cyT) sz [])) (va_Qi (S := Unit) (fun r _ => r = o) (fun _ t => WLD (dC, dI) (va_A [] sz) [] t) (va_A [] sz)) 0 0 (va_A [] sz) := by
  refine Met.ofW (cc := cX7_isWay) (maxL := 2) (ret := (some .boolean)) (by decide) rfl ?_
  intro p e s m args below meth c s₁ B hml hv
  obtain ⟨rfl, hsz, hP, hK, hD0, hNW⟩ := hv
  have hx := B.exec
  have hb := B.bytes
  have hr := B.returns
  have hts := atoms_spec (ws := wsX7_isWay) B.pre
  have hown : s.vm.findClass RX7 = some m.cls := findClass_of_methodNamed B.named
  have hlocks := B.notSynchronized
  subst hsz
  have hD := hD0.self (sz := s.heap.size)
  generalize hAe : va_A [] s.heap.size = A at hD ⊢
  have hA : ∀ q : Nat, s.heap.size ≤ q → A q := fun q h => by rw [← hAe]; exact Or.inr h
  have hS : va_S A s.heap s.heap [] := va_S.rf
  have hP : va_P (dC, dI) vwCl [] s.heap := hP
  have hl := lv_entry ([.int a0, .int a1]) (n := 2) (Nat.le_of_ble_eq_true rfl)
  rw [lg_entry_eq]
  generalize (lg_sl ([.int a0, .int a1]) ++ List.replicate (2 - (lg_sl ([.int a0, .int a1])).length) Slot.unset).toArray = ls at hl ⊢
  have hl : lv_has ls 2 [(0, .int a0), (1, .int a1)] := hl
  unfold s_X7_isWay at h
  refine lv_iload_n hx hb dX7_isWay_0 rfl (lv_at hl 0 rfl) ?_
  refine lv_iconst (v := iI 0) hx hb dX7_isWay_1 rfl ?_
  refine lv_bipush (v := iI 8) hx hb dX7_isWay_2 (by decide) ?_
  obtain ⟨r1, e2, h⟩ := bsome h
  have hPc := sb_P [] hP [] rfl
  have hDc := sb_D [] hD [] (by decide) rfl
  have hFc := va_free (wc := []) hD hS hA [] rfl
  refine va_calli (va_runS (As := [.int a0, .int (iI 0), .int (iI 8)]) (rest := []) ⟨hx, hb, hml, hown, hts⟩ (c_X7_in l dC dI cyI cyJ cyT s.heap.size a0 (iI 0) (iI 8) r1 e2) (va_cwS 3 hts gX7_isWay_X7_in rfl rfl rfl (by decide +kernel) ⟨Nat.le_of_ble_eq_true rfl, Nat.le_of_ble_eq_true rfl⟩) ⟨PRE.blind, PRE.go hK hPc hDc hNW⟩ rfl rfl hl.1 rfl (lv_room (Nat.le_of_ble_eq_true rfl)) dX7_isWay_4 ⟨Nat.zero_le _, Nat.zero_le _⟩) hS (fun q _ h => hFc q h) hFc (fun z3 u t H locs ht hvm hw hB hz1 hk1 hS => ?_)
  subst z3
  obtain ⟨hP, hD⟩ := va_join (wr := []) (w1 := []) hP hD [] [] rfl rfl (by decide) (by decide) hk1 hFc (WLD.P hB ht) hB.2
  have hP : va_P (dC, dI) vwCl [] H := hP
  have hD : va_D A [] := hD
  refine lv_if_eq (tgt := 25) hx hb dX7_isWay_7 (by decide) (fun c4 => ?_) (fun c4 => ?_)
  · have h := ipos c4 h
    refine lv_iconst (v := iI 0) hx hb dX7_isWay_25 rfl ?_
    obtain rfl := Option.some.inj h
    exact W.zret (v := iI 0) hx hb hr (by decide) (fun t ht hW => ⟨⟨iI 0, (), rfl, rfl, WLD.of ht hP hD⟩, hS.F ht⟩) hS.2.2 dX7_isWay_26
  · have h := ineg c4 h
    refine lv_iload_n hx hb dX7_isWay_10 rfl (lv_at hl 1 rfl) ?_
    refine lv_iload_n hx hb dX7_isWay_11 rfl (lv_at hl 0 rfl) ?_
    refine lv_icmp_le (tgt := 25) hx hb dX7_isWay_12 (by decide) (fun c5 => ?_) (fun c5 => ?_)
    · have h := ipos c5 h
      refine lv_iconst (v := iI 0) hx hb dX7_isWay_25 rfl ?_
      obtain rfl := Option.some.inj h
      exact W.zret (v := iI 0) hx hb hr (by decide) (fun t ht hW => ⟨⟨iI 0, (), rfl, rfl, WLD.of ht hP hD⟩, hS.F ht⟩) hS.2.2 dX7_isWay_26
    · have h := ineg c5 h
      refine lv_iload_n hx hb dX7_isWay_15 rfl (lv_at hl 1 rfl) ?_
      refine lv_bipush (v := iI 9) hx hb dX7_isWay_16 (by decide) ?_
      refine lv_icmp_gt (tgt := 25) hx hb dX7_isWay_18 (by decide) (fun c6 => ?_) (fun c6 => ?_)
      · have h := ipos c6 h
        refine lv_iconst (v := iI 0) hx hb dX7_isWay_25 rfl ?_
        obtain rfl := Option.some.inj h
        exact W.zret (v := iI 0) hx hb hr (by decide) (fun t ht hW => ⟨⟨iI 0, (), rfl, rfl, WLD.of ht hP hD⟩, hS.F ht⟩) hS.2.2 dX7_isWay_26
      · have h := ineg c6 h
        refine lv_iconst (v := iI 1) hx hb dX7_isWay_21 rfl ?_
        refine lv_goto (tgt := 26) hx hb dX7_isWay_22 (by decide) ?_
        obtain rfl := Option.some.inj h
        exact W.zret (v := iI 1) hx hb hr (by decide) (fun t ht hW => ⟨⟨iI 1, (), rfl, rfl, WLD.of ht hP hD⟩, hS.F ht⟩) hS.2.2 dX7_isWay_26
def s_X7_holds (arr_0 : Nat → Int32) (a1 : Int32) (a2 : Int32) : Option (Int32) := (if gd ((iI 290 + (iI 9 * a1)) + a2) 452 = true then (some ((arr_0 ((iI 290 + (iI 9 * a1)) + a2).toNatClampNeg))) else none)
set_option maxHeartbeats 4000000 in
set_option maxRecDepth 100000 in
theorem c_X7_holds (l : Launch) (dC : Nat → ClassId) (dI : Nat → Nat → Nat) (cyI cyJ cyT : ClassId) (h_p0 : Nat) (sz : Nat) (arr_0 : Nat → Int32) (a1 : Int32) (a2 : Int32) (o : Int32) (h : s_X7_holds arr_0 a1 a2 = some o) : Met l yX7_holds wsX7_holds ({ frames := 0, cells := 0, slots := 0, locals := 0 }) (va_Pc [.ref h_p0, .int a1, .int a2] (PRE (dC, dI) (TYS cyI cyJ cyT) sz [(h_p0, .inl (cyI, 452, .inl arr_0))])) (va_Qi (S := Unit) (fun r _ => r = o) (fun _ t => WLD (dC, dI) (va_A [(h_p0, .inl (cyI, 452, .inl arr_0))] sz) [(h_p0, .inl (cyI, 452, .inl arr_0))] t) (va_A [(h_p0, .inl (cyI, 452, .inl arr_0))] sz)) 0 0 (va_A [(h_p0, .inl (cyI, 452, .inl arr_0))] sz) := by
  refine Met.ofW (cc := cX7_holds) (maxL := 3) (ret := (some .int)) (by decide) rfl ?_
  intro p e s m args below meth c s₁ B hml hv
  obtain ⟨rfl, hsz, hP, hK, hD0, hNW⟩ := hv
  have hx := B.exec
  have hb := B.bytes
  have hr := B.returns
  have hts := atoms_spec (ws := wsX7_holds) B.pre
  have hown : s.vm.findClass RX7 = some m.cls := findClass_of_methodNamed B.named
  have hlocks := B.notSynchronized
  subst hsz
  have hD := hD0.self (sz := s.heap.size)
  generalize hAe : va_A [(h_p0, .inl (cyI, 452, .inl arr_0))] s.heap.size = A at hD ⊢
  have hA : ∀ q : Nat, s.heap.size ≤ q → A q := fun q h => by rw [← hAe]; exact Or.inr h
  have hS : va_S A s.heap s.heap [] := va_S.rf
  have hP : va_P (dC, dI) vwCl [(h_p0, .inl (cyI, 452, .inl arr_0))] s.heap := hP
  have hl := lv_entry ([.ref h_p0, .int a1, .int a2]) (n := 3) (Nat.le_of_ble_eq_true rfl)
  rw [lg_entry_eq]
  generalize (lg_sl ([.ref h_p0, .int a1, .int a2]) ++ List.replicate (3 - (lg_sl ([.ref h_p0, .int a1, .int a2])).length) Slot.unset).toArray = ls at hl ⊢
  have hl : lv_has ls 3 [(0, .ref h_p0), (1, .int a1), (2, .int a2)] := hl
  unfold s_X7_holds at h
  refine lv_aload_n hx hb dX7_holds_0 rfl (lv_at hl 0 rfl) ?_
  refine lv_sipush (v := iI 290) hx hb dX7_holds_1 (by decide) ?_
  refine lv_bipush (v := iI 9) hx hb dX7_holds_4 (by decide) ?_
  refine lv_iload_n hx hb dX7_holds_6 rfl (lv_at hl 1 rfl) ?_
  refine lv_imul hx hb dX7_holds_7 ?_
  refine lv_iadd hx hb dX7_holds_8 ?_
  refine lv_iload_n hx hb dX7_holds_9 rfl (lv_at hl 2 rfl) ?_
  refine lv_iadd hx hb dX7_holds_10 ?_
  obtain ⟨g1, h⟩ := gsome h
  refine va_iald (D := (dC, dI)) hx hb hK hP 0 0 rfl rfl g1 dX7_holds_11 ?_
  obtain rfl := Option.some.inj h
  exact W.iret (v := (arr_0 ((iI 290 + (iI 9 * a1)) + a2).toNatClampNeg)) hx hb hr (fun t ht hW => ⟨⟨(arr_0 ((iI 290 + (iI 9 * a1)) + a2).toNatClampNeg), (), rfl, rfl, WLD.of ht hP hD⟩, hS.F ht⟩) hS.2.2 dX7_holds_12
def s_X7_of (arr_0 : Nat → Int32) (a1 : Int32) (a2 : Int32) : Option (Int32) := (if gd ((iI 10 + (iI 7 * a1)) + a2) 452 = true then (some ((arr_0 ((iI 10 + (iI 7 * a1)) + a2).toNatClampNeg))) else none)
set_option maxHeartbeats 4000000 in
set_option maxRecDepth 100000 in
theorem c_X7_of (l : Launch) (dC : Nat → ClassId) (dI : Nat → Nat → Nat) (cyI cyJ cyT : ClassId) (h_p0 : Nat) (sz : Nat) (arr_0 : Nat → Int32) (a1 : Int32) (a2 : Int32) (o : Int32) (h : s_X7_of arr_0 a1 a2 = some o) : Met l yX7_of wsX7_of ({ frames := 0, cells := 0, slots := 0, locals := 0 }) (va_Pc [.ref h_p0, .int a1, .int a2] (PRE (dC, dI) (TYS cyI cyJ cyT) sz [(h_p0, .inl (cyI, 452, .inl arr_0))])) (va_Qi (S := Unit) (fun r _ => r = o) (fun _ t => WLD (dC, dI) (va_A [(h_p0, .inl (cyI, 452, .inl arr_0))] sz) [(h_p0, .inl (cyI, 452, .inl arr_0))] t) (va_A [(h_p0, .inl (cyI, 452, .inl arr_0))] sz)) 0 0 (va_A [(h_p0, .inl (cyI, 452, .inl arr_0))] sz) := by
  refine Met.ofW (cc := cX7_of) (maxL := 3) (ret := (some .int)) (by decide) rfl ?_
  intro p e s m args below meth c s₁ B hml hv
  obtain ⟨rfl, hsz, hP, hK, hD0, hNW⟩ := hv
  have hx := B.exec
  have hb := B.bytes
  have hr := B.returns
  have hts := atoms_spec (ws := wsX7_of) B.pre
  have hown : s.vm.findClass RX7 = some m.cls := findClass_of_methodNamed B.named
  have hlocks := B.notSynchronized
  subst hsz
  have hD := hD0.self (sz := s.heap.size)
  generalize hAe : va_A [(h_p0, .inl (cyI, 452, .inl arr_0))] s.heap.size = A at hD ⊢
  have hA : ∀ q : Nat, s.heap.size ≤ q → A q := fun q h => by rw [← hAe]; exact Or.inr h
  have hS : va_S A s.heap s.heap [] := va_S.rf
  have hP : va_P (dC, dI) vwCl [(h_p0, .inl (cyI, 452, .inl arr_0))] s.heap := hP
  have hl := lv_entry ([.ref h_p0, .int a1, .int a2]) (n := 3) (Nat.le_of_ble_eq_true rfl)
  rw [lg_entry_eq]
  generalize (lg_sl ([.ref h_p0, .int a1, .int a2]) ++ List.replicate (3 - (lg_sl ([.ref h_p0, .int a1, .int a2])).length) Slot.unset).toArray = ls at hl ⊢
  have hl : lv_has ls 3 [(0, .ref h_p0), (1, .int a1), (2, .int a2)] := hl
  unfold s_X7_of at h
  refine lv_aload_n hx hb dX7_of_0 rfl (lv_at hl 0 rfl) ?_
  refine lv_bipush (v := iI 10) hx hb dX7_of_1 (by decide) ?_
  refine lv_bipush (v := iI 7) hx hb dX7_of_3 (by decide) ?_
  refine lv_iload_n hx hb dX7_of_5 rfl (lv_at hl 1 rfl) ?_
  refine lv_imul hx hb dX7_of_6 ?_
  refine lv_iadd hx hb dX7_of_7 ?_
  refine lv_iload_n hx hb dX7_of_8 rfl (lv_at hl 2 rfl) ?_
  refine lv_iadd hx hb dX7_of_9 ?_
  obtain ⟨g1, h⟩ := gsome h
  refine va_iald (D := (dC, dI)) hx hb hK hP 0 0 rfl rfl g1 dX7_of_10 ?_
  obtain rfl := Option.some.inj h
  exact W.iret (v := (arr_0 ((iI 10 + (iI 7 * a1)) + a2).toNatClampNeg)) hx hb hr (fun t ht hW => ⟨⟨(arr_0 ((iI 10 + (iI 7 * a1)) + a2).toNatClampNeg), (), rfl, rfl, WLD.of ht hP hD⟩, hS.F ht⟩) hS.2.2 dX7_of_11
def s_X7_copies_L3 (n : Nat) (vl_0 : Nat) (arr_0 : Nat → Int32) (vl_2 : Nat) (a1 : Int32) (a3 : Int32) : Nat → (Nat → Int32) → Int32 → Option ((Nat → Int32))
  | 0, _, _ => none
  | k + 1, arr_2, x4 => (if iI 452 ≤ x4 then (some (arr_2)) else (if gd (a1 + x4) vl_0 = true then (if gd (a3 + x4) vl_2 = true then (s_X7_copies_L3 n vl_0 arr_0 vl_2 a1 a3 k (upd arr_2 (a3 + x4).toNatClampNeg (arr_0 (a1 + x4).toNatClampNeg)) (x4 + iI 1)) else none) else none))
def s_X7_copies (n : Nat) (vl_0 : Nat) (arr_0 : Nat → Int32) (vl_2 : Nat) (arr_2 : Nat → Int32) (a1 : Int32) (a3 : Int32) : Option ((Nat → Int32)) := (s_X7_copies_L3 n vl_0 arr_0 vl_2 a1 a3 n arr_2 (iI 0))
set_option maxHeartbeats 4000000 in
set_option maxRecDepth 100000 in
theorem c_X7_copies (l : Launch) (dC : Nat → ClassId) (dI : Nat → Nat → Nat) (cyI cyJ cyT : ClassId) (h_p0 : Nat) (h_p2 : Nat) (sz : Nat) (vl_0 : Nat) (vl_2 : Nat) (arr_0 : Nat → Int32) (arr_2 : Nat → Int32) (a1 : Int32) (a3 : Int32) (n : Nat) (o : (Nat → Int32)) (h : s_X7_copies n vl_0 arr_0 vl_2 arr_2 a1 a3 = some o) : Met l yX7_copies wsX7_copies ({ frames := 0, cells := 0, slots := 0, locals := 0 }) (va_Pc [.ref h_p0, .int a1, .ref h_p2, .int a3] (PRE (dC, dI) (TYS cyI cyJ cyT) sz [(h_p0, .inl (cyI, vl_0, .inl arr_0)), (h_p2, .inl (cyI, vl_2, .inl arr_2))])) (va_Qv (S := Unit) (fun _ => True) (fun _ t => WLD (dC, dI) (va_A [(h_p0, .inl (cyI, vl_0, .inl arr_0)), (h_p2, .inl (cyI, vl_2, .inl arr_2))] sz) [(h_p0, .inl (cyI, vl_0, .inl arr_0)), (h_p2, .inl (cyI, vl_2, .inl o))] t) (va_A [(h_p0, .inl (cyI, vl_0, .inl arr_0)), (h_p2, .inl (cyI, vl_2, .inl arr_2))] sz)) 0 0 (va_A [(h_p0, .inl (cyI, vl_0, .inl arr_0)), (h_p2, .inl (cyI, vl_2, .inl arr_2))] sz) := by
  refine Met.ofW (cc := cX7_copies) (maxL := 5) (ret := none) (by decide) rfl ?_
  intro p e s m args below meth c s₁ B hml hv
  obtain ⟨rfl, hsz, hP, hK, hD0, hNW⟩ := hv
  have hx := B.exec
  have hb := B.bytes
  have hr := B.returns
  have hts := atoms_spec (ws := wsX7_copies) B.pre
  have hown : s.vm.findClass RX7 = some m.cls := findClass_of_methodNamed B.named
  have hlocks := B.notSynchronized
  subst hsz
  have hD := hD0.self (sz := s.heap.size)
  generalize hAe : va_A [(h_p0, .inl (cyI, vl_0, .inl arr_0)), (h_p2, .inl (cyI, vl_2, .inl arr_2))] s.heap.size = A at hD ⊢
  have hA : ∀ q : Nat, s.heap.size ≤ q → A q := fun q h => by rw [← hAe]; exact Or.inr h
  have hS : va_S A s.heap s.heap [] := va_S.rf
  have hP : va_P (dC, dI) vwCl [(h_p0, .inl (cyI, vl_0, .inl arr_0)), (h_p2, .inl (cyI, vl_2, .inl arr_2))] s.heap := hP
  have L3 : ∀ (k : Nat), (∀ (arr_2 : Nat → Int32) (x4 : Int32) (H : Heap) (locs : List Loc), va_P (dC, dI) vwCl [(h_p0, .inl (cyI, vl_0, .inl arr_0)), (h_p2, .inl (cyI, vl_2, .inl arr_2))] H → va_D A [(h_p0, .inl (cyI, vl_0, .inl arr_0)), (h_p2, .inl (cyI, vl_2, .inl arr_2))] → va_S A s.heap H locs → ∀ (ls : Array Slot), lv_has ls 5 [(0, .ref h_p0), (1, .int a1), (2, .ref h_p2), (3, .int a3), (4, .int x4)] →  s_X7_copies_L3 n vl_0 arr_0 vl_2 a1 a3 k arr_2 x4 = some o → W p l e (headSpec wsX7_copies ({ frames := 0, cells := 0, slots := 0, locals := 0 })).room s m (([.ref h_p0, .int a1, .ref h_p2, .int a3] : List Value).toArray) below meth c H locs 0 0 (MQ below (va_Qv (S := Unit) (fun _ => True) (fun _ t => WLD (dC, dI) A [(h_p0, .inl (cyI, vl_0, .inl arr_0)), (h_p2, .inl (cyI, vl_2, .inl o))] t) A) (([.ref h_p0, .int a1, .ref h_p2, .int a3] : List Value).toArray) s 0 0 A) (F0 m 3 ls [])) := by
    intro k
    induction k with
    | zero =>
      intro  arr_2 x4 H locs hP hD hS ls hl h
      rw [s_X7_copies_L3] at h
      cases h
    | succ k ih =>
      intro  arr_2 x4 H locs hP hD hS ls hl h
      rw [s_X7_copies_L3] at h
      refine lv_iload hx hb dX7_copies_3 (lv_at hl 4 rfl) ?_
      refine lv_sipush (v := iI 452) hx hb dX7_copies_5 (by decide) ?_
      refine lv_icmp_ge (tgt := 29) hx hb dX7_copies_8 (by decide) (fun c1 => ?_) (fun c1 => ?_)
      · have h := ipos c1 h
        obtain rfl := Option.some.inj h
        exact W.vret hx hb hr (fun t ht hW => ⟨⟨(), rfl, trivial, WLD.of ht hP hD⟩, hS.F ht⟩) hS.2.2 dX7_copies_29
      · have h := ineg c1 h
        refine lv_aload_n hx hb dX7_copies_11 rfl (lv_at hl 2 rfl) ?_
        refine lv_iload_n hx hb dX7_copies_12 rfl (lv_at hl 3 rfl) ?_
        refine lv_iload hx hb dX7_copies_13 (lv_at hl 4 rfl) ?_
        refine lv_iadd hx hb dX7_copies_15 ?_
        refine lv_aload_n hx hb dX7_copies_16 rfl (lv_at hl 0 rfl) ?_
        refine lv_iload_n hx hb dX7_copies_17 rfl (lv_at hl 1 rfl) ?_
        refine lv_iload hx hb dX7_copies_18 (lv_at hl 4 rfl) ?_
        refine lv_iadd hx hb dX7_copies_20 ?_
        obtain ⟨g2, h⟩ := gsome h
        refine va_iald (D := (dC, dI)) hx hb hK hP 0 0 rfl rfl g2 dX7_copies_21 ?_
        obtain ⟨g3, h⟩ := gsome h
        refine va_iast (D := (dC, dI)) hx hb hK hP hD hS 1 0 rfl rfl g3 dX7_copies_22 (fun H locs hP hD hS => ?_)
        have hP : va_P (dC, dI) vwCl [(h_p0, .inl (cyI, vl_0, .inl arr_0)), (h_p2, .inl (cyI, vl_2, .inl (upd arr_2 (a3 + x4).toNatClampNeg (arr_0 (a1 + x4).toNatClampNeg))))] H := hP
        have hD : va_D A [(h_p0, .inl (cyI, vl_0, .inl arr_0)), (h_p2, .inl (cyI, vl_2, .inl (upd arr_2 (a3 + x4).toNatClampNeg (arr_0 (a1 + x4).toNatClampNeg))))] := hD
        refine lv_iinc (v := (x4 + iI 1)) hx hb dX7_copies_23 hl (k := 4) rfl rfl (by decide) (rfl : _ = ([(4, .int (x4 + iI 1)), (0, .ref h_p0), (1, .int a1), (2, .ref h_p2), (3, .int a3)] : List (Nat × Value))) (fun ls hl => ?_)
        refine lv_goto (tgt := 3) hx hb dX7_copies_26 (by decide) ?_
        exact ih (upd arr_2 (a3 + x4).toNatClampNeg (arr_0 (a1 + x4).toNatClampNeg)) (x4 + iI 1) _ _ hP hD hS ls (lv_sub hl [1, 2, 3, 4, 0] rfl) h
  have hl := lv_entry ([.ref h_p0, .int a1, .ref h_p2, .int a3]) (n := 5) (Nat.le_of_ble_eq_true rfl)
  rw [lg_entry_eq]
  generalize (lg_sl ([.ref h_p0, .int a1, .ref h_p2, .int a3]) ++ List.replicate (5 - (lg_sl ([.ref h_p0, .int a1, .ref h_p2, .int a3])).length) Slot.unset).toArray = ls at hl ⊢
  have hl : lv_has ls 5 [(0, .ref h_p0), (1, .int a1), (2, .ref h_p2), (3, .int a3)] := hl
  unfold s_X7_copies at h
  refine lv_iconst (v := iI 0) hx hb dX7_copies_0 rfl ?_
  refine lv_istore hx hb dX7_copies_1 hl (by decide) (rfl : _ = ([(4, .int (iI 0)), (0, .ref h_p0), (1, .int a1), (2, .ref h_p2), (3, .int a3)] : List (Nat × Value))) (fun ls hl => ?_)
  exact L3 n arr_2 (iI 0) _ _ hP hD hS ls (lv_sub hl [1, 2, 3, 4, 0] rfl) h
def s_X7_saves_L11 (n : Nat) (v_now : Nat → Int32) : Nat → Int32 → (Nat → Int32) → Int32 → Option (Int32 × (Nat → Int32))
  | 0, _, _, _ => none
  | k + 1, v_kept, v_past, x1 => (if iI 2260 ≤ x1 then ((s_X7_copies n 452 v_now 2712 v_past (iI 0) (iI 452 * (v_kept - iI 1))).bind fun r2 => (some (((v_kept - iI 1) + iI 1), r2))) else (if gd (x1 + iI 452) 2712 = true then (if gd x1 2712 = true then (s_X7_saves_L11 n v_now k v_kept (upd v_past x1.toNatClampNeg (v_past (x1 + iI 452).toNatClampNeg)) (x1 + iI 1)) else none) else none))
def s_X7_saves (n : Nat) (v_kept : Int32) (v_now : Nat → Int32) (v_past : Nat → Int32) : Option (Int32 × (Nat → Int32)) := (if v_kept = iI 6 then (s_X7_saves_L11 n v_now n v_kept v_past (iI 0)) else ((s_X7_copies n 452 v_now 2712 v_past (iI 0) (iI 452 * v_kept)).bind fun r8 => (some ((v_kept + iI 1), r8))))
set_option maxRecDepth 20000 in
theorem m_X7_saves_0 : ∀ w ∈ u_ws RX7 TX7 15, w ∈ wsX7_saves := by decide +kernel
set_option maxRecDepth 20000 in
theorem m_X7_saves_1 : (.fieldLink RX7 33 "SleeperBerthsModel" "kept" "I" : Cond) ∈ wsX7_saves := by decide +kernel
set_option maxRecDepth 20000 in
theorem m_X7_saves_2 : (.fieldLink RX7 7 "SleeperBerthsModel" "now" "[I" : Cond) ∈ wsX7_saves := by decide +kernel
set_option maxRecDepth 20000 in
theorem m_X7_saves_3 : (.fieldLink RX7 16 "SleeperBerthsModel" "past" "[I" : Cond) ∈ wsX7_saves := by decide +kernel
set_option maxHeartbeats 4000000 in
set_option maxRecDepth 100000 in
theorem c_X7_saves (l : Launch) (dC : Nat → ClassId) (dI : Nat → Nat → Nat) (cyI cyJ cyT : ClassId) (h_p0 : Nat) (h_p0_now : Nat) (h_p0_then : Nat) (h_p0_past : Nat) (h_p0_text : Nat) (h_p0_told : Nat) (sz : Nat) (v_kept : Int32) (v_typed : Int32) (v_thrown : Int32) (v_at : Int32) (v_isFault : Int32) (v_tolds : Int32) (v_one : Int32) (v_other : Int32) (v_change : Int32) (v_woken : Int32) (v_now : Nat → Int32) (v_past : Nat → Int32) (n : Nat) (o : Int32 × (Nat → Int32)) (h : s_X7_saves n v_kept v_now v_past = some o) : Met l yX7_saves wsX7_saves ({ frames := 1, cells := 0, slots := 0, locals := 24 }) (va_Pc [.ref h_p0] (PRE (dC, dI) (TYS cyI cyJ cyT) sz [(h_p0, .inr (7, [.ref h_p0_now, .ref h_p0_then, .ref h_p0_past, .int v_kept, .ref h_p0_text, .int v_typed, .int v_thrown, .int v_at, .int v_isFault, .ref h_p0_told, .int v_tolds, .int v_one, .int v_other, .int v_change, .int v_woken])), (h_p0_now, .inl (cyI, 452, .inl v_now)), (h_p0_past, .inl (cyI, 2712, .inl v_past))])) (va_Qv (S := Unit) (fun _ => True) (fun _ t => WLD (dC, dI) (va_A [(h_p0, .inr (7, [.ref h_p0_now, .ref h_p0_then, .ref h_p0_past, .int v_kept, .ref h_p0_text, .int v_typed, .int v_thrown, .int v_at, .int v_isFault, .ref h_p0_told, .int v_tolds, .int v_one, .int v_other, .int v_change, .int v_woken])), (h_p0_now, .inl (cyI, 452, .inl v_now)), (h_p0_past, .inl (cyI, 2712, .inl v_past))] sz) [(h_p0, .inr (7, [.ref h_p0_now, .ref h_p0_then, .ref h_p0_past, .int o.1, .ref h_p0_text, .int v_typed, .int v_thrown, .int v_at, .int v_isFault, .ref h_p0_told, .int v_tolds, .int v_one, .int v_other, .int v_change, .int v_woken])), (h_p0_now, .inl (cyI, 452, .inl v_now)), (h_p0_past, .inl (cyI, 2712, .inl o.2))] t) (va_A [(h_p0, .inr (7, [.ref h_p0_now, .ref h_p0_then, .ref h_p0_past, .int v_kept, .ref h_p0_text, .int v_typed, .int v_thrown, .int v_at, .int v_isFault, .ref h_p0_told, .int v_tolds, .int v_one, .int v_other, .int v_change, .int v_woken])), (h_p0_now, .inl (cyI, 452, .inl v_now)), (h_p0_past, .inl (cyI, 2712, .inl v_past))] sz)) 0 0 (va_A [(h_p0, .inr (7, [.ref h_p0_now, .ref h_p0_then, .ref h_p0_past, .int v_kept, .ref h_p0_text, .int v_typed, .int v_thrown, .int v_at, .int v_isFault, .ref h_p0_told, .int v_tolds, .int v_one, .int v_other, .int v_change, .int v_woken])), (h_p0_now, .inl (cyI, 452, .inl v_now)), (h_p0_past, .inl (cyI, 2712, .inl v_past))] sz) := by
  refine Met.ofW (cc := cX7_saves) (maxL := 2) (ret := none) (by decide) rfl ?_
  intro p e s m args below meth c s₁ B hml hv
  obtain ⟨rfl, hsz, hP, hK, hD0, hNW⟩ := hv
  have hx := B.exec
  have hb := B.bytes
  have hr := B.returns
  have hts := atoms_spec (ws := wsX7_saves) B.pre
  have hown : s.vm.findClass RX7 = some m.cls := findClass_of_methodNamed B.named
  have hlocks := B.notSynchronized
  subst hsz
  have hD := hD0.self (sz := s.heap.size)
  generalize hAe : va_A [(h_p0, .inr (7, [.ref h_p0_now, .ref h_p0_then, .ref h_p0_past, .int v_kept, .ref h_p0_text, .int v_typed, .int v_thrown, .int v_at, .int v_isFault, .ref h_p0_told, .int v_tolds, .int v_one, .int v_other, .int v_change, .int v_woken])), (h_p0_now, .inl (cyI, 452, .inl v_now)), (h_p0_past, .inl (cyI, 2712, .inl v_past))] s.heap.size = A at hD ⊢
  have hA : ∀ q : Nat, s.heap.size ≤ q → A q := fun q h => by rw [← hAe]; exact Or.inr h
  have hS : va_S A s.heap s.heap [] := va_S.rf
  have hP : va_P (dC, dI) vwCl [(h_p0, .inr (7, [.ref h_p0_now, .ref h_p0_then, .ref h_p0_past, .int v_kept, .ref h_p0_text, .int v_typed, .int v_thrown, .int v_at, .int v_isFault, .ref h_p0_told, .int v_tolds, .int v_one, .int v_other, .int v_change, .int v_woken])), (h_p0_now, .inl (cyI, 452, .inl v_now)), (h_p0_past, .inl (cyI, 2712, .inl v_past))] s.heap := hP
  have L11 : ∀ (k : Nat), (∀ (v_kept : Int32) (v_past : Nat → Int32) (x1 : Int32) (H : Heap) (locs : List Loc), va_P (dC, dI) vwCl [(h_p0, .inr (7, [.ref h_p0_now, .ref h_p0_then, .ref h_p0_past, .int v_kept, .ref h_p0_text, .int v_typed, .int v_thrown, .int v_at, .int v_isFault, .ref h_p0_told, .int v_tolds, .int v_one, .int v_other, .int v_change, .int v_woken])), (h_p0_now, .inl (cyI, 452, .inl v_now)), (h_p0_past, .inl (cyI, 2712, .inl v_past))] H → va_D A [(h_p0, .inr (7, [.ref h_p0_now, .ref h_p0_then, .ref h_p0_past, .int v_kept, .ref h_p0_text, .int v_typed, .int v_thrown, .int v_at, .int v_isFault, .ref h_p0_told, .int v_tolds, .int v_one, .int v_other, .int v_change, .int v_woken])), (h_p0_now, .inl (cyI, 452, .inl v_now)), (h_p0_past, .inl (cyI, 2712, .inl v_past))] → va_S A s.heap H locs → ∀ (ls : Array Slot), lv_has ls 2 [(0, .ref h_p0), (1, .int x1)] →  s_X7_saves_L11 n v_now k v_kept v_past x1 = some o → W p l e (headSpec wsX7_saves ({ frames := 1, cells := 0, slots := 0, locals := 24 })).room s m (([.ref h_p0] : List Value).toArray) below meth c H locs 0 0 (MQ below (va_Qv (S := Unit) (fun _ => True) (fun _ t => WLD (dC, dI) A [(h_p0, .inr (7, [.ref h_p0_now, .ref h_p0_then, .ref h_p0_past, .int o.1, .ref h_p0_text, .int v_typed, .int v_thrown, .int v_at, .int v_isFault, .ref h_p0_told, .int v_tolds, .int v_one, .int v_other, .int v_change, .int v_woken])), (h_p0_now, .inl (cyI, 452, .inl v_now)), (h_p0_past, .inl (cyI, 2712, .inl o.2))] t) A) (([.ref h_p0] : List Value).toArray) s 0 0 A) (F0 m 11 ls [])) := by
    intro k
    induction k with
    | zero =>
      intro  v_kept v_past x1 H locs hP hD hS ls hl h
      rw [s_X7_saves_L11] at h
      cases h
    | succ k ih =>
      intro  v_kept v_past x1 H locs hP hD hS ls hl h
      rw [s_X7_saves_L11] at h
      refine lv_iload_n hx hb dX7_saves_11 rfl (lv_at hl 1 rfl) ?_
      refine lv_sipush (v := iI 2260) hx hb dX7_saves_12 (by decide) ?_
      refine lv_icmp_ge (tgt := 40) hx hb dX7_saves_15 (by decide) (fun c1 => ?_) (fun c1 => ?_)
      · have h := ipos c1 h
        refine lv_aload_n hx hb dX7_saves_40 rfl (lv_at hl 0 rfl) ?_
        refine lv_dup hx hb dX7_saves_41 rfl ?_
        refine va_get (D := (dC, dI)) (ci := 7) (v := .int v_kept) (C := RX7) (T := TX7) (N := 15) hx hb hts m_X7_saves_0 hown hK hP 0 rfl rfl 3 (by decide) (hts (.fieldLink RX7 33 "SleeperBerthsModel" "kept" "I") m_X7_saves_1) (fun _ h9 => h9) rfl dX7_saves_42 ?_
        refine lv_iconst (v := iI 1) hx hb dX7_saves_45 rfl ?_
        refine lv_isub hx hb dX7_saves_46 ?_
        refine va_put (D := (dC, dI)) (ci := 7) (v := .int (v_kept - iI 1)) (ty := .int) (C := RX7) (T := TX7) (N := 15) hx hb hts m_X7_saves_0 tyX7 tyX7_ok nmX7 hown hK hP hD hS 0 rfl rfl 3 (by decide) (hts (.fieldLink RX7 33 "SleeperBerthsModel" "kept" "I") m_X7_saves_1) (fun _ h9 => h9) rfl (by decide +kernel) rfl rfl (Nat.le_of_ble_eq_true rfl) dX7_saves_47 (fun H locs hP hD hS => ?_)
        have hP : va_P (dC, dI) vwCl [(h_p0, .inr (7, [.ref h_p0_now, .ref h_p0_then, .ref h_p0_past, .int (v_kept - iI 1), .ref h_p0_text, .int v_typed, .int v_thrown, .int v_at, .int v_isFault, .ref h_p0_told, .int v_tolds, .int v_one, .int v_other, .int v_change, .int v_woken])), (h_p0_now, .inl (cyI, 452, .inl v_now)), (h_p0_past, .inl (cyI, 2712, .inl v_past))] H := hP
        have hD : va_D A [(h_p0, .inr (7, [.ref h_p0_now, .ref h_p0_then, .ref h_p0_past, .int (v_kept - iI 1), .ref h_p0_text, .int v_typed, .int v_thrown, .int v_at, .int v_isFault, .ref h_p0_told, .int v_tolds, .int v_one, .int v_other, .int v_change, .int v_woken])), (h_p0_now, .inl (cyI, 452, .inl v_now)), (h_p0_past, .inl (cyI, 2712, .inl v_past))] := hD
        refine lv_aload_n hx hb dX7_saves_50 rfl (lv_at hl 0 rfl) ?_
        refine va_get (D := (dC, dI)) (ci := 7) (v := .ref h_p0_now) (C := RX7) (T := TX7) (N := 15) hx hb hts m_X7_saves_0 hown hK hP 0 rfl rfl 0 (by decide) (hts (.fieldLink RX7 7 "SleeperBerthsModel" "now" "[I") m_X7_saves_2) (fun _ h9 => h9) rfl dX7_saves_51 ?_
        refine lv_iconst (v := iI 0) hx hb dX7_saves_54 rfl ?_
        refine lv_aload_n hx hb dX7_saves_55 rfl (lv_at hl 0 rfl) ?_
        refine va_get (D := (dC, dI)) (ci := 7) (v := .ref h_p0_past) (C := RX7) (T := TX7) (N := 15) hx hb hts m_X7_saves_0 hown hK hP 0 rfl rfl 2 (by decide) (hts (.fieldLink RX7 16 "SleeperBerthsModel" "past" "[I") m_X7_saves_3) (fun _ h9 => h9) rfl dX7_saves_56 ?_
        refine lv_sipush (v := iI 452) hx hb dX7_saves_59 (by decide) ?_
        refine lv_aload_n hx hb dX7_saves_62 rfl (lv_at hl 0 rfl) ?_
        refine va_get (D := (dC, dI)) (ci := 7) (v := .int (v_kept - iI 1)) (C := RX7) (T := TX7) (N := 15) hx hb hts m_X7_saves_0 hown hK hP 0 rfl rfl 3 (by decide) (hts (.fieldLink RX7 33 "SleeperBerthsModel" "kept" "I") m_X7_saves_1) (fun _ h9 => h9) rfl dX7_saves_63 ?_
        refine lv_imul hx hb dX7_saves_66 ?_
        obtain ⟨r2, e3, h⟩ := bsome h
        have hPc := sb_P [(h_p0_now, .inl (cyI, 452, .inl v_now)), (h_p0_past, .inl (cyI, 2712, .inl v_past))] hP [1, 2] rfl
        have hDc := sb_D [(h_p0_now, .inl (cyI, 452, .inl v_now)), (h_p0_past, .inl (cyI, 2712, .inl v_past))] hD [1, 2] (by decide) rfl
        have hFc := va_free (wc := [(h_p0_now, .inl (cyI, 452, .inl v_now)), (h_p0_past, .inl (cyI, 2712, .inl v_past))]) hD hS hA [1, 2] rfl
        refine va_callv (va_runS (As := [.ref h_p0_now, .int (iI 0), .ref h_p0_past, .int (iI 452 * (v_kept - iI 1))]) (rest := []) ⟨hx, hb, hml, hown, hts⟩ (c_X7_copies l dC dI cyI cyJ cyT h_p0_now h_p0_past H.size 452 2712 v_now v_past (iI 0) (iI 452 * (v_kept - iI 1)) n r2 e3) (va_cwS 4 hts gX7_saves_X7_copies rfl rfl rfl (by decide +kernel) ⟨Nat.le_of_ble_eq_true rfl, Nat.le_of_ble_eq_true rfl⟩) ⟨PRE.blind, PRE.go hK hPc hDc hNW⟩ rfl rfl hl.1 rfl (lv_room (Nat.le_of_ble_eq_true rfl)) dX7_saves_67 ⟨Nat.zero_le _, Nat.zero_le _⟩) hS (fun q _ h => hFc q h) hFc (fun u t H locs ht hvm hw hB hz1 hk1 hS => ?_)
        obtain ⟨hP, hD⟩ := va_join (wr := [(h_p0, .inr (7, [.ref h_p0_now, .ref h_p0_then, .ref h_p0_past, .int (v_kept - iI 1), .ref h_p0_text, .int v_typed, .int v_thrown, .int v_at, .int v_isFault, .ref h_p0_told, .int v_tolds, .int v_one, .int v_other, .int v_change, .int v_woken]))]) (w1 := [(h_p0_now, .inl (cyI, 452, .inl v_now)), (h_p0_past, .inl (cyI, 2712, .inl r2))]) hP hD [1, 2] [0] rfl rfl (by decide) (by decide) hk1 hFc (WLD.P hB ht) hB.2
        have hP : va_P (dC, dI) vwCl [(h_p0, .inr (7, [.ref h_p0_now, .ref h_p0_then, .ref h_p0_past, .int (v_kept - iI 1), .ref h_p0_text, .int v_typed, .int v_thrown, .int v_at, .int v_isFault, .ref h_p0_told, .int v_tolds, .int v_one, .int v_other, .int v_change, .int v_woken])), (h_p0_now, .inl (cyI, 452, .inl v_now)), (h_p0_past, .inl (cyI, 2712, .inl r2))] H := hP
        have hD : va_D A [(h_p0, .inr (7, [.ref h_p0_now, .ref h_p0_then, .ref h_p0_past, .int (v_kept - iI 1), .ref h_p0_text, .int v_typed, .int v_thrown, .int v_at, .int v_isFault, .ref h_p0_told, .int v_tolds, .int v_one, .int v_other, .int v_change, .int v_woken])), (h_p0_now, .inl (cyI, 452, .inl v_now)), (h_p0_past, .inl (cyI, 2712, .inl r2))] := hD
        refine lv_aload_n hx hb dX7_saves_70 rfl (lv_at hl 0 rfl) ?_
        refine lv_dup hx hb dX7_saves_71 rfl ?_
        refine va_get (D := (dC, dI)) (ci := 7) (v := .int (v_kept - iI 1)) (C := RX7) (T := TX7) (N := 15) hx hb hts m_X7_saves_0 hown hK hP 0 rfl rfl 3 (by decide) (hts (.fieldLink RX7 33 "SleeperBerthsModel" "kept" "I") m_X7_saves_1) (fun _ h9 => h9) rfl dX7_saves_72 ?_
        refine lv_iconst (v := iI 1) hx hb dX7_saves_75 rfl ?_
        refine lv_iadd hx hb dX7_saves_76 ?_
        refine va_put (D := (dC, dI)) (ci := 7) (v := .int ((v_kept - iI 1) + iI 1)) (ty := .int) (C := RX7) (T := TX7) (N := 15) hx hb hts m_X7_saves_0 tyX7 tyX7_ok nmX7 hown hK hP hD hS 0 rfl rfl 3 (by decide) (hts (.fieldLink RX7 33 "SleeperBerthsModel" "kept" "I") m_X7_saves_1) (fun _ h9 => h9) rfl (by decide +kernel) rfl rfl (Nat.le_of_ble_eq_true rfl) dX7_saves_77 (fun H locs hP hD hS => ?_)
        have hP : va_P (dC, dI) vwCl [(h_p0, .inr (7, [.ref h_p0_now, .ref h_p0_then, .ref h_p0_past, .int ((v_kept - iI 1) + iI 1), .ref h_p0_text, .int v_typed, .int v_thrown, .int v_at, .int v_isFault, .ref h_p0_told, .int v_tolds, .int v_one, .int v_other, .int v_change, .int v_woken])), (h_p0_now, .inl (cyI, 452, .inl v_now)), (h_p0_past, .inl (cyI, 2712, .inl r2))] H := hP
        have hD : va_D A [(h_p0, .inr (7, [.ref h_p0_now, .ref h_p0_then, .ref h_p0_past, .int ((v_kept - iI 1) + iI 1), .ref h_p0_text, .int v_typed, .int v_thrown, .int v_at, .int v_isFault, .ref h_p0_told, .int v_tolds, .int v_one, .int v_other, .int v_change, .int v_woken])), (h_p0_now, .inl (cyI, 452, .inl v_now)), (h_p0_past, .inl (cyI, 2712, .inl r2))] := hD
        obtain rfl := Option.some.inj h
        exact W.vret hx hb hr (fun t ht hW => ⟨⟨(), rfl, trivial, WLD.of ht hP hD⟩, hS.F ht⟩) hS.2.2 dX7_saves_80
      · have h := ineg c1 h
        refine lv_aload_n hx hb dX7_saves_18 rfl (lv_at hl 0 rfl) ?_
        refine va_get (D := (dC, dI)) (ci := 7) (v := .ref h_p0_past) (C := RX7) (T := TX7) (N := 15) hx hb hts m_X7_saves_0 hown hK hP 0 rfl rfl 2 (by decide) (hts (.fieldLink RX7 16 "SleeperBerthsModel" "past" "[I") m_X7_saves_3) (fun _ h9 => h9) rfl dX7_saves_19 ?_
        refine lv_iload_n hx hb dX7_saves_22 rfl (lv_at hl 1 rfl) ?_
        refine lv_aload_n hx hb dX7_saves_23 rfl (lv_at hl 0 rfl) ?_
        refine va_get (D := (dC, dI)) (ci := 7) (v := .ref h_p0_past) (C := RX7) (T := TX7) (N := 15) hx hb hts m_X7_saves_0 hown hK hP 0 rfl rfl 2 (by decide) (hts (.fieldLink RX7 16 "SleeperBerthsModel" "past" "[I") m_X7_saves_3) (fun _ h9 => h9) rfl dX7_saves_24 ?_
        refine lv_iload_n hx hb dX7_saves_27 rfl (lv_at hl 1 rfl) ?_
        refine lv_sipush (v := iI 452) hx hb dX7_saves_28 (by decide) ?_
        refine lv_iadd hx hb dX7_saves_31 ?_
        obtain ⟨g5, h⟩ := gsome h
        refine va_iald (D := (dC, dI)) hx hb hK hP 2 0 rfl rfl g5 dX7_saves_32 ?_
        obtain ⟨g6, h⟩ := gsome h
        refine va_iast (D := (dC, dI)) hx hb hK hP hD hS 2 0 rfl rfl g6 dX7_saves_33 (fun H locs hP hD hS => ?_)
        have hP : va_P (dC, dI) vwCl [(h_p0, .inr (7, [.ref h_p0_now, .ref h_p0_then, .ref h_p0_past, .int v_kept, .ref h_p0_text, .int v_typed, .int v_thrown, .int v_at, .int v_isFault, .ref h_p0_told, .int v_tolds, .int v_one, .int v_other, .int v_change, .int v_woken])), (h_p0_now, .inl (cyI, 452, .inl v_now)), (h_p0_past, .inl (cyI, 2712, .inl (upd v_past x1.toNatClampNeg (v_past (x1 + iI 452).toNatClampNeg))))] H := hP
        have hD : va_D A [(h_p0, .inr (7, [.ref h_p0_now, .ref h_p0_then, .ref h_p0_past, .int v_kept, .ref h_p0_text, .int v_typed, .int v_thrown, .int v_at, .int v_isFault, .ref h_p0_told, .int v_tolds, .int v_one, .int v_other, .int v_change, .int v_woken])), (h_p0_now, .inl (cyI, 452, .inl v_now)), (h_p0_past, .inl (cyI, 2712, .inl (upd v_past x1.toNatClampNeg (v_past (x1 + iI 452).toNatClampNeg))))] := hD
        refine lv_iinc (v := (x1 + iI 1)) hx hb dX7_saves_34 hl (k := 1) rfl rfl (by decide) (rfl : _ = ([(1, .int (x1 + iI 1)), (0, .ref h_p0)] : List (Nat × Value))) (fun ls hl => ?_)
        refine lv_goto (tgt := 11) hx hb dX7_saves_37 (by decide) ?_
        exact ih v_kept (upd v_past x1.toNatClampNeg (v_past (x1 + iI 452).toNatClampNeg)) (x1 + iI 1) _ _ hP hD hS ls (lv_sub hl [1, 0] rfl) h
  have hl := lv_entry ([.ref h_p0]) (n := 2) (Nat.le_of_ble_eq_true rfl)
  rw [lg_entry_eq]
  generalize (lg_sl ([.ref h_p0]) ++ List.replicate (2 - (lg_sl ([.ref h_p0])).length) Slot.unset).toArray = ls at hl ⊢
  have hl : lv_has ls 2 [(0, .ref h_p0)] := hl
  unfold s_X7_saves at h
  refine lv_aload_n hx hb dX7_saves_0 rfl (lv_at hl 0 rfl) ?_
  refine va_get (D := (dC, dI)) (ci := 7) (v := .int v_kept) (C := RX7) (T := TX7) (N := 15) hx hb hts m_X7_saves_0 hown hK hP 0 rfl rfl 3 (by decide) (hts (.fieldLink RX7 33 "SleeperBerthsModel" "kept" "I") m_X7_saves_1) (fun _ h9 => h9) rfl dX7_saves_1 ?_
  refine lv_bipush (v := iI 6) hx hb dX7_saves_4 (by decide) ?_
  refine lv_icmp_ne (tgt := 50) hx hb dX7_saves_6 (by decide) (fun c7 => ?_) (fun c7 => ?_)
  · have h := ineg c7 h
    refine lv_aload_n hx hb dX7_saves_50 rfl (lv_at hl 0 rfl) ?_
    refine va_get (D := (dC, dI)) (ci := 7) (v := .ref h_p0_now) (C := RX7) (T := TX7) (N := 15) hx hb hts m_X7_saves_0 hown hK hP 0 rfl rfl 0 (by decide) (hts (.fieldLink RX7 7 "SleeperBerthsModel" "now" "[I") m_X7_saves_2) (fun _ h9 => h9) rfl dX7_saves_51 ?_
    refine lv_iconst (v := iI 0) hx hb dX7_saves_54 rfl ?_
    refine lv_aload_n hx hb dX7_saves_55 rfl (lv_at hl 0 rfl) ?_
    refine va_get (D := (dC, dI)) (ci := 7) (v := .ref h_p0_past) (C := RX7) (T := TX7) (N := 15) hx hb hts m_X7_saves_0 hown hK hP 0 rfl rfl 2 (by decide) (hts (.fieldLink RX7 16 "SleeperBerthsModel" "past" "[I") m_X7_saves_3) (fun _ h9 => h9) rfl dX7_saves_56 ?_
    refine lv_sipush (v := iI 452) hx hb dX7_saves_59 (by decide) ?_
    refine lv_aload_n hx hb dX7_saves_62 rfl (lv_at hl 0 rfl) ?_
    refine va_get (D := (dC, dI)) (ci := 7) (v := .int v_kept) (C := RX7) (T := TX7) (N := 15) hx hb hts m_X7_saves_0 hown hK hP 0 rfl rfl 3 (by decide) (hts (.fieldLink RX7 33 "SleeperBerthsModel" "kept" "I") m_X7_saves_1) (fun _ h9 => h9) rfl dX7_saves_63 ?_
    refine lv_imul hx hb dX7_saves_66 ?_
    obtain ⟨r8, e9, h⟩ := bsome h
    have hPc := sb_P [(h_p0_now, .inl (cyI, 452, .inl v_now)), (h_p0_past, .inl (cyI, 2712, .inl v_past))] hP [1, 2] rfl
    have hDc := sb_D [(h_p0_now, .inl (cyI, 452, .inl v_now)), (h_p0_past, .inl (cyI, 2712, .inl v_past))] hD [1, 2] (by decide) rfl
    have hFc := va_free (wc := [(h_p0_now, .inl (cyI, 452, .inl v_now)), (h_p0_past, .inl (cyI, 2712, .inl v_past))]) hD hS hA [1, 2] rfl
    refine va_callv (va_runS (As := [.ref h_p0_now, .int (iI 0), .ref h_p0_past, .int (iI 452 * v_kept)]) (rest := []) ⟨hx, hb, hml, hown, hts⟩ (c_X7_copies l dC dI cyI cyJ cyT h_p0_now h_p0_past s.heap.size 452 2712 v_now v_past (iI 0) (iI 452 * v_kept) n r8 e9) (va_cwS 4 hts gX7_saves_X7_copies rfl rfl rfl (by decide +kernel) ⟨Nat.le_of_ble_eq_true rfl, Nat.le_of_ble_eq_true rfl⟩) ⟨PRE.blind, PRE.go hK hPc hDc hNW⟩ rfl rfl hl.1 rfl (lv_room (Nat.le_of_ble_eq_true rfl)) dX7_saves_67 ⟨Nat.zero_le _, Nat.zero_le _⟩) hS (fun q _ h => hFc q h) hFc (fun u t H locs ht hvm hw hB hz1 hk1 hS => ?_)
    obtain ⟨hP, hD⟩ := va_join (wr := [(h_p0, .inr (7, [.ref h_p0_now, .ref h_p0_then, .ref h_p0_past, .int v_kept, .ref h_p0_text, .int v_typed, .int v_thrown, .int v_at, .int v_isFault, .ref h_p0_told, .int v_tolds, .int v_one, .int v_other, .int v_change, .int v_woken]))]) (w1 := [(h_p0_now, .inl (cyI, 452, .inl v_now)), (h_p0_past, .inl (cyI, 2712, .inl r8))]) hP hD [1, 2] [0] rfl rfl (by decide) (by decide) hk1 hFc (WLD.P hB ht) hB.2
    have hP : va_P (dC, dI) vwCl [(h_p0, .inr (7, [.ref h_p0_now, .ref h_p0_then, .ref h_p0_past, .int v_kept, .ref h_p0_text, .int v_typed, .int v_thrown, .int v_at, .int v_isFault, .ref h_p0_told, .int v_tolds, .int v_one, .int v_other, .int v_change, .int v_woken])), (h_p0_now, .inl (cyI, 452, .inl v_now)), (h_p0_past, .inl (cyI, 2712, .inl r8))] H := hP
    have hD : va_D A [(h_p0, .inr (7, [.ref h_p0_now, .ref h_p0_then, .ref h_p0_past, .int v_kept, .ref h_p0_text, .int v_typed, .int v_thrown, .int v_at, .int v_isFault, .ref h_p0_told, .int v_tolds, .int v_one, .int v_other, .int v_change, .int v_woken])), (h_p0_now, .inl (cyI, 452, .inl v_now)), (h_p0_past, .inl (cyI, 2712, .inl r8))] := hD
    refine lv_aload_n hx hb dX7_saves_70 rfl (lv_at hl 0 rfl) ?_
    refine lv_dup hx hb dX7_saves_71 rfl ?_
    refine va_get (D := (dC, dI)) (ci := 7) (v := .int v_kept) (C := RX7) (T := TX7) (N := 15) hx hb hts m_X7_saves_0 hown hK hP 0 rfl rfl 3 (by decide) (hts (.fieldLink RX7 33 "SleeperBerthsModel" "kept" "I") m_X7_saves_1) (fun _ h9 => h9) rfl dX7_saves_72 ?_
    refine lv_iconst (v := iI 1) hx hb dX7_saves_75 rfl ?_
    refine lv_iadd hx hb dX7_saves_76 ?_
    refine va_put (D := (dC, dI)) (ci := 7) (v := .int (v_kept + iI 1)) (ty := .int) (C := RX7) (T := TX7) (N := 15) hx hb hts m_X7_saves_0 tyX7 tyX7_ok nmX7 hown hK hP hD hS 0 rfl rfl 3 (by decide) (hts (.fieldLink RX7 33 "SleeperBerthsModel" "kept" "I") m_X7_saves_1) (fun _ h9 => h9) rfl (by decide +kernel) rfl rfl (Nat.le_of_ble_eq_true rfl) dX7_saves_77 (fun H locs hP hD hS => ?_)
    have hP : va_P (dC, dI) vwCl [(h_p0, .inr (7, [.ref h_p0_now, .ref h_p0_then, .ref h_p0_past, .int (v_kept + iI 1), .ref h_p0_text, .int v_typed, .int v_thrown, .int v_at, .int v_isFault, .ref h_p0_told, .int v_tolds, .int v_one, .int v_other, .int v_change, .int v_woken])), (h_p0_now, .inl (cyI, 452, .inl v_now)), (h_p0_past, .inl (cyI, 2712, .inl r8))] H := hP
    have hD : va_D A [(h_p0, .inr (7, [.ref h_p0_now, .ref h_p0_then, .ref h_p0_past, .int (v_kept + iI 1), .ref h_p0_text, .int v_typed, .int v_thrown, .int v_at, .int v_isFault, .ref h_p0_told, .int v_tolds, .int v_one, .int v_other, .int v_change, .int v_woken])), (h_p0_now, .inl (cyI, 452, .inl v_now)), (h_p0_past, .inl (cyI, 2712, .inl r8))] := hD
    obtain rfl := Option.some.inj h
    exact W.vret hx hb hr (fun t ht hW => ⟨⟨(), rfl, trivial, WLD.of ht hP hD⟩, hS.F ht⟩) hS.2.2 dX7_saves_80
  · have h := ipos c7 h
    refine lv_iconst (v := iI 0) hx hb dX7_saves_9 rfl ?_
    refine lv_istore_n hx hb dX7_saves_10 rfl hl (by decide) (rfl : _ = ([(1, .int (iI 0)), (0, .ref h_p0)] : List (Nat × Value))) (fun ls hl => ?_)
    exact L11 n v_kept v_past (iI 0) _ _ hP hD hS ls (lv_sub hl [1, 0] rfl) h
def s_X7_undo (n : Nat) (v_kept : Int32) (v_thrown : Int32) (v_now : Nat → Int32) (v_past : Nat → Int32) : Option (Int32 × Int32 × Int32 × (Nat → Int32)) := (if v_kept = 0 then ((s_X7_fails (iI 0) (iI 1)).bind fun r5 => (some (r5.1, v_kept, r5.2, v_now))) else ((s_X7_copies n 2712 v_past 452 v_now (iI 452 * (v_kept - iI 1)) (iI 0)).bind fun r2 => (some ((v_kept - iI 1), (v_kept - iI 1), iI 0, r2))))
set_option maxRecDepth 20000 in
theorem m_X7_undo_0 : ∀ w ∈ u_ws RX7 TX7 15, w ∈ wsX7_undo := by decide +kernel
set_option maxRecDepth 20000 in
theorem m_X7_undo_1 : (.fieldLink RX7 25 "SleeperBerthsModel" "thrown" "I" : Cond) ∈ wsX7_undo := by decide +kernel
set_option maxRecDepth 20000 in
theorem m_X7_undo_2 : (.fieldLink RX7 33 "SleeperBerthsModel" "kept" "I" : Cond) ∈ wsX7_undo := by decide +kernel
set_option maxRecDepth 20000 in
theorem m_X7_undo_3 : (.fieldLink RX7 16 "SleeperBerthsModel" "past" "[I" : Cond) ∈ wsX7_undo := by decide +kernel
set_option maxRecDepth 20000 in
theorem m_X7_undo_4 : (.fieldLink RX7 7 "SleeperBerthsModel" "now" "[I" : Cond) ∈ wsX7_undo := by decide +kernel
set_option maxHeartbeats 4000000 in
set_option maxRecDepth 100000 in
theorem c_X7_undo (l : Launch) (dC : Nat → ClassId) (dI : Nat → Nat → Nat) (cyI cyJ cyT : ClassId) (h_p0 : Nat) (h_p0_now : Nat) (h_p0_then : Nat) (h_p0_past : Nat) (h_p0_text : Nat) (h_p0_told : Nat) (sz : Nat) (v_kept : Int32) (v_typed : Int32) (v_thrown : Int32) (v_at : Int32) (v_isFault : Int32) (v_tolds : Int32) (v_one : Int32) (v_other : Int32) (v_change : Int32) (v_woken : Int32) (v_now : Nat → Int32) (v_past : Nat → Int32) (n : Nat) (o : Int32 × Int32 × Int32 × (Nat → Int32)) (h : s_X7_undo n v_kept v_thrown v_now v_past = some o) : Met l yX7_undo wsX7_undo ({ frames := 1, cells := 0, slots := 0, locals := 24 }) (va_Pc [.ref h_p0] (PRE (dC, dI) (TYS cyI cyJ cyT) sz [(h_p0, .inr (7, [.ref h_p0_now, .ref h_p0_then, .ref h_p0_past, .int v_kept, .ref h_p0_text, .int v_typed, .int v_thrown, .int v_at, .int v_isFault, .ref h_p0_told, .int v_tolds, .int v_one, .int v_other, .int v_change, .int v_woken])), (h_p0_now, .inl (cyI, 452, .inl v_now)), (h_p0_past, .inl (cyI, 2712, .inl v_past))])) (va_Qi (S := Unit) (fun r _ => r = o.1) (fun _ t => WLD (dC, dI) (va_A [(h_p0, .inr (7, [.ref h_p0_now, .ref h_p0_then, .ref h_p0_past, .int v_kept, .ref h_p0_text, .int v_typed, .int v_thrown, .int v_at, .int v_isFault, .ref h_p0_told, .int v_tolds, .int v_one, .int v_other, .int v_change, .int v_woken])), (h_p0_now, .inl (cyI, 452, .inl v_now)), (h_p0_past, .inl (cyI, 2712, .inl v_past))] sz) [(h_p0, .inr (7, [.ref h_p0_now, .ref h_p0_then, .ref h_p0_past, .int o.2.1, .ref h_p0_text, .int v_typed, .int o.2.2.1, .int v_at, .int v_isFault, .ref h_p0_told, .int v_tolds, .int v_one, .int v_other, .int v_change, .int v_woken])), (h_p0_now, .inl (cyI, 452, .inl o.2.2.2)), (h_p0_past, .inl (cyI, 2712, .inl v_past))] t) (va_A [(h_p0, .inr (7, [.ref h_p0_now, .ref h_p0_then, .ref h_p0_past, .int v_kept, .ref h_p0_text, .int v_typed, .int v_thrown, .int v_at, .int v_isFault, .ref h_p0_told, .int v_tolds, .int v_one, .int v_other, .int v_change, .int v_woken])), (h_p0_now, .inl (cyI, 452, .inl v_now)), (h_p0_past, .inl (cyI, 2712, .inl v_past))] sz)) 0 0 (va_A [(h_p0, .inr (7, [.ref h_p0_now, .ref h_p0_then, .ref h_p0_past, .int v_kept, .ref h_p0_text, .int v_typed, .int v_thrown, .int v_at, .int v_isFault, .ref h_p0_told, .int v_tolds, .int v_one, .int v_other, .int v_change, .int v_woken])), (h_p0_now, .inl (cyI, 452, .inl v_now)), (h_p0_past, .inl (cyI, 2712, .inl v_past))] sz) := by
  refine Met.ofW (cc := cX7_undo) (maxL := 1) (ret := (some .int)) (by decide) rfl ?_
  intro p e s m args below meth c s₁ B hml hv
  obtain ⟨rfl, hsz, hP, hK, hD0, hNW⟩ := hv
  have hx := B.exec
  have hb := B.bytes
  have hr := B.returns
  have hts := atoms_spec (ws := wsX7_undo) B.pre
  have hown : s.vm.findClass RX7 = some m.cls := findClass_of_methodNamed B.named
  have hlocks := B.notSynchronized
  subst hsz
  have hD := hD0.self (sz := s.heap.size)
  generalize hAe : va_A [(h_p0, .inr (7, [.ref h_p0_now, .ref h_p0_then, .ref h_p0_past, .int v_kept, .ref h_p0_text, .int v_typed, .int v_thrown, .int v_at, .int v_isFault, .ref h_p0_told, .int v_tolds, .int v_one, .int v_other, .int v_change, .int v_woken])), (h_p0_now, .inl (cyI, 452, .inl v_now)), (h_p0_past, .inl (cyI, 2712, .inl v_past))] s.heap.size = A at hD ⊢
  have hA : ∀ q : Nat, s.heap.size ≤ q → A q := fun q h => by rw [← hAe]; exact Or.inr h
  have hS : va_S A s.heap s.heap [] := va_S.rf
  have hP : va_P (dC, dI) vwCl [(h_p0, .inr (7, [.ref h_p0_now, .ref h_p0_then, .ref h_p0_past, .int v_kept, .ref h_p0_text, .int v_typed, .int v_thrown, .int v_at, .int v_isFault, .ref h_p0_told, .int v_tolds, .int v_one, .int v_other, .int v_change, .int v_woken])), (h_p0_now, .inl (cyI, 452, .inl v_now)), (h_p0_past, .inl (cyI, 2712, .inl v_past))] s.heap := hP
  have hl := lv_entry ([.ref h_p0]) (n := 1) (Nat.le_of_ble_eq_true rfl)
  rw [lg_entry_eq]
  generalize (lg_sl ([.ref h_p0]) ++ List.replicate (1 - (lg_sl ([.ref h_p0])).length) Slot.unset).toArray = ls at hl ⊢
  have hl : lv_has ls 1 [(0, .ref h_p0)] := hl
  unfold s_X7_undo at h
  refine lv_aload_n hx hb dX7_undo_0 rfl (lv_at hl 0 rfl) ?_
  refine lv_iconst (v := iI 0) hx hb dX7_undo_1 rfl ?_
  refine va_put (D := (dC, dI)) (ci := 7) (v := .int (iI 0)) (ty := .int) (C := RX7) (T := TX7) (N := 15) hx hb hts m_X7_undo_0 tyX7 tyX7_ok nmX7 hown hK hP hD hS 0 rfl rfl 6 (by decide) (hts (.fieldLink RX7 25 "SleeperBerthsModel" "thrown" "I") m_X7_undo_1) (fun _ h9 => h9) rfl (by decide +kernel) rfl rfl (Nat.le_of_ble_eq_true rfl) dX7_undo_2 (fun H locs hP hD hS => ?_)
  have hP : va_P (dC, dI) vwCl [(h_p0, .inr (7, [.ref h_p0_now, .ref h_p0_then, .ref h_p0_past, .int v_kept, .ref h_p0_text, .int v_typed, .int (iI 0), .int v_at, .int v_isFault, .ref h_p0_told, .int v_tolds, .int v_one, .int v_other, .int v_change, .int v_woken])), (h_p0_now, .inl (cyI, 452, .inl v_now)), (h_p0_past, .inl (cyI, 2712, .inl v_past))] H := hP
  have hD : va_D A [(h_p0, .inr (7, [.ref h_p0_now, .ref h_p0_then, .ref h_p0_past, .int v_kept, .ref h_p0_text, .int v_typed, .int (iI 0), .int v_at, .int v_isFault, .ref h_p0_told, .int v_tolds, .int v_one, .int v_other, .int v_change, .int v_woken])), (h_p0_now, .inl (cyI, 452, .inl v_now)), (h_p0_past, .inl (cyI, 2712, .inl v_past))] := hD
  refine lv_aload_n hx hb dX7_undo_5 rfl (lv_at hl 0 rfl) ?_
  refine va_get (D := (dC, dI)) (ci := 7) (v := .int v_kept) (C := RX7) (T := TX7) (N := 15) hx hb hts m_X7_undo_0 hown hK hP 0 rfl rfl 3 (by decide) (hts (.fieldLink RX7 33 "SleeperBerthsModel" "kept" "I") m_X7_undo_2) (fun _ h9 => h9) rfl dX7_undo_6 ?_
  refine lv_if_ne (tgt := 18) hx hb dX7_undo_9 (by decide) (fun c1 => ?_) (fun c1 => ?_)
  · have h := ineg c1 h
    refine lv_aload_n hx hb dX7_undo_18 rfl (lv_at hl 0 rfl) ?_
    refine lv_dup hx hb dX7_undo_19 rfl ?_
    refine va_get (D := (dC, dI)) (ci := 7) (v := .int v_kept) (C := RX7) (T := TX7) (N := 15) hx hb hts m_X7_undo_0 hown hK hP 0 rfl rfl 3 (by decide) (hts (.fieldLink RX7 33 "SleeperBerthsModel" "kept" "I") m_X7_undo_2) (fun _ h9 => h9) rfl dX7_undo_20 ?_
    refine lv_iconst (v := iI 1) hx hb dX7_undo_23 rfl ?_
    refine lv_isub hx hb dX7_undo_24 ?_
    refine va_put (D := (dC, dI)) (ci := 7) (v := .int (v_kept - iI 1)) (ty := .int) (C := RX7) (T := TX7) (N := 15) hx hb hts m_X7_undo_0 tyX7 tyX7_ok nmX7 hown hK hP hD hS 0 rfl rfl 3 (by decide) (hts (.fieldLink RX7 33 "SleeperBerthsModel" "kept" "I") m_X7_undo_2) (fun _ h9 => h9) rfl (by decide +kernel) rfl rfl (Nat.le_of_ble_eq_true rfl) dX7_undo_25 (fun H locs hP hD hS => ?_)
    have hP : va_P (dC, dI) vwCl [(h_p0, .inr (7, [.ref h_p0_now, .ref h_p0_then, .ref h_p0_past, .int (v_kept - iI 1), .ref h_p0_text, .int v_typed, .int (iI 0), .int v_at, .int v_isFault, .ref h_p0_told, .int v_tolds, .int v_one, .int v_other, .int v_change, .int v_woken])), (h_p0_now, .inl (cyI, 452, .inl v_now)), (h_p0_past, .inl (cyI, 2712, .inl v_past))] H := hP
    have hD : va_D A [(h_p0, .inr (7, [.ref h_p0_now, .ref h_p0_then, .ref h_p0_past, .int (v_kept - iI 1), .ref h_p0_text, .int v_typed, .int (iI 0), .int v_at, .int v_isFault, .ref h_p0_told, .int v_tolds, .int v_one, .int v_other, .int v_change, .int v_woken])), (h_p0_now, .inl (cyI, 452, .inl v_now)), (h_p0_past, .inl (cyI, 2712, .inl v_past))] := hD
    refine lv_aload_n hx hb dX7_undo_28 rfl (lv_at hl 0 rfl) ?_
    refine va_get (D := (dC, dI)) (ci := 7) (v := .ref h_p0_past) (C := RX7) (T := TX7) (N := 15) hx hb hts m_X7_undo_0 hown hK hP 0 rfl rfl 2 (by decide) (hts (.fieldLink RX7 16 "SleeperBerthsModel" "past" "[I") m_X7_undo_3) (fun _ h9 => h9) rfl dX7_undo_29 ?_
    refine lv_sipush (v := iI 452) hx hb dX7_undo_32 (by decide) ?_
    refine lv_aload_n hx hb dX7_undo_35 rfl (lv_at hl 0 rfl) ?_
    refine va_get (D := (dC, dI)) (ci := 7) (v := .int (v_kept - iI 1)) (C := RX7) (T := TX7) (N := 15) hx hb hts m_X7_undo_0 hown hK hP 0 rfl rfl 3 (by decide) (hts (.fieldLink RX7 33 "SleeperBerthsModel" "kept" "I") m_X7_undo_2) (fun _ h9 => h9) rfl dX7_undo_36 ?_
    refine lv_imul hx hb dX7_undo_39 ?_
    refine lv_aload_n hx hb dX7_undo_40 rfl (lv_at hl 0 rfl) ?_
    refine va_get (D := (dC, dI)) (ci := 7) (v := .ref h_p0_now) (C := RX7) (T := TX7) (N := 15) hx hb hts m_X7_undo_0 hown hK hP 0 rfl rfl 0 (by decide) (hts (.fieldLink RX7 7 "SleeperBerthsModel" "now" "[I") m_X7_undo_4) (fun _ h9 => h9) rfl dX7_undo_41 ?_
    refine lv_iconst (v := iI 0) hx hb dX7_undo_44 rfl ?_
    obtain ⟨r2, e3, h⟩ := bsome h
    have hPc := sb_P [(h_p0_past, .inl (cyI, 2712, .inl v_past)), (h_p0_now, .inl (cyI, 452, .inl v_now))] hP [2, 1] rfl
    have hDc := sb_D [(h_p0_past, .inl (cyI, 2712, .inl v_past)), (h_p0_now, .inl (cyI, 452, .inl v_now))] hD [2, 1] (by decide) rfl
    have hFc := va_free (wc := [(h_p0_past, .inl (cyI, 2712, .inl v_past)), (h_p0_now, .inl (cyI, 452, .inl v_now))]) hD hS hA [2, 1] rfl
    refine va_callv (va_runS (As := [.ref h_p0_past, .int (iI 452 * (v_kept - iI 1)), .ref h_p0_now, .int (iI 0)]) (rest := []) ⟨hx, hb, hml, hown, hts⟩ (c_X7_copies l dC dI cyI cyJ cyT h_p0_past h_p0_now H.size 2712 452 v_past v_now (iI 452 * (v_kept - iI 1)) (iI 0) n r2 e3) (va_cwS 4 hts gX7_undo_X7_copies rfl rfl rfl (by decide +kernel) ⟨Nat.le_of_ble_eq_true rfl, Nat.le_of_ble_eq_true rfl⟩) ⟨PRE.blind, PRE.go hK hPc hDc hNW⟩ rfl rfl hl.1 rfl (lv_room (Nat.le_of_ble_eq_true rfl)) dX7_undo_45 ⟨Nat.zero_le _, Nat.zero_le _⟩) hS (fun q _ h => hFc q h) hFc (fun u t H locs ht hvm hw hB hz1 hk1 hS => ?_)
    obtain ⟨hP, hD⟩ := va_join (wr := [(h_p0, .inr (7, [.ref h_p0_now, .ref h_p0_then, .ref h_p0_past, .int (v_kept - iI 1), .ref h_p0_text, .int v_typed, .int (iI 0), .int v_at, .int v_isFault, .ref h_p0_told, .int v_tolds, .int v_one, .int v_other, .int v_change, .int v_woken]))]) (w1 := [(h_p0_past, .inl (cyI, 2712, .inl v_past)), (h_p0_now, .inl (cyI, 452, .inl r2))]) hP hD [2, 1] [0] rfl rfl (by decide) (by decide) hk1 hFc (WLD.P hB ht) hB.2
    have hP : va_P (dC, dI) vwCl [(h_p0, .inr (7, [.ref h_p0_now, .ref h_p0_then, .ref h_p0_past, .int (v_kept - iI 1), .ref h_p0_text, .int v_typed, .int (iI 0), .int v_at, .int v_isFault, .ref h_p0_told, .int v_tolds, .int v_one, .int v_other, .int v_change, .int v_woken])), (h_p0_past, .inl (cyI, 2712, .inl v_past)), (h_p0_now, .inl (cyI, 452, .inl r2))] H := hP
    have hD : va_D A [(h_p0, .inr (7, [.ref h_p0_now, .ref h_p0_then, .ref h_p0_past, .int (v_kept - iI 1), .ref h_p0_text, .int v_typed, .int (iI 0), .int v_at, .int v_isFault, .ref h_p0_told, .int v_tolds, .int v_one, .int v_other, .int v_change, .int v_woken])), (h_p0_past, .inl (cyI, 2712, .inl v_past)), (h_p0_now, .inl (cyI, 452, .inl r2))] := hD
    refine lv_aload_n hx hb dX7_undo_48 rfl (lv_at hl 0 rfl) ?_
    refine va_get (D := (dC, dI)) (ci := 7) (v := .int (v_kept - iI 1)) (C := RX7) (T := TX7) (N := 15) hx hb hts m_X7_undo_0 hown hK hP 0 rfl rfl 3 (by decide) (hts (.fieldLink RX7 33 "SleeperBerthsModel" "kept" "I") m_X7_undo_2) (fun _ h9 => h9) rfl dX7_undo_49 ?_
    obtain rfl := Option.some.inj h
    exact W.iret (v := (v_kept - iI 1)) hx hb hr (fun t ht hW => ⟨⟨(v_kept - iI 1), (), rfl, rfl, WLD.of ht (sb_P [(h_p0, .inr (7, [.ref h_p0_now, .ref h_p0_then, .ref h_p0_past, .int (v_kept - iI 1), .ref h_p0_text, .int v_typed, .int (iI 0), .int v_at, .int v_isFault, .ref h_p0_told, .int v_tolds, .int v_one, .int v_other, .int v_change, .int v_woken])), (h_p0_now, .inl (cyI, 452, .inl r2)), (h_p0_past, .inl (cyI, 2712, .inl v_past))] hP [0, 2, 1] rfl) (sb_D [(h_p0, .inr (7, [.ref h_p0_now, .ref h_p0_then, .ref h_p0_past, .int (v_kept - iI 1), .ref h_p0_text, .int v_typed, .int (iI 0), .int v_at, .int v_isFault, .ref h_p0_told, .int v_tolds, .int v_one, .int v_other, .int v_change, .int v_woken])), (h_p0_now, .inl (cyI, 452, .inl r2)), (h_p0_past, .inl (cyI, 2712, .inl v_past))] hD [0, 2, 1] (by decide) rfl)⟩, hS.F ht⟩) hS.2.2 dX7_undo_52
  · have h := ipos c1 h
    refine lv_aload_n hx hb dX7_undo_12 rfl (lv_at hl 0 rfl) ?_
    refine lv_iconst (v := iI 1) hx hb dX7_undo_13 rfl ?_
    obtain ⟨r5, e6, h⟩ := bsome h
    have hPc := sb_P [(h_p0, .inr (7, [.ref h_p0_now, .ref h_p0_then, .ref h_p0_past, .int v_kept, .ref h_p0_text, .int v_typed, .int (iI 0), .int v_at, .int v_isFault, .ref h_p0_told, .int v_tolds, .int v_one, .int v_other, .int v_change, .int v_woken]))] hP [0] rfl
    have hDc := sb_D [(h_p0, .inr (7, [.ref h_p0_now, .ref h_p0_then, .ref h_p0_past, .int v_kept, .ref h_p0_text, .int v_typed, .int (iI 0), .int v_at, .int v_isFault, .ref h_p0_told, .int v_tolds, .int v_one, .int v_other, .int v_change, .int v_woken]))] hD [0] (by decide) rfl
    have hFc := va_free (wc := [(h_p0, .inr (7, [.ref h_p0_now, .ref h_p0_then, .ref h_p0_past, .int v_kept, .ref h_p0_text, .int v_typed, .int (iI 0), .int v_at, .int v_isFault, .ref h_p0_told, .int v_tolds, .int v_one, .int v_other, .int v_change, .int v_woken]))]) hD hS hA [0] rfl
    refine va_calli (va_runV (As := [.int (iI 1)]) (rest := []) ⟨hx, hb, hml, hown, hts⟩ (c_X7_fails l dC dI cyI cyJ cyT h_p0 h_p0_now h_p0_then h_p0_past h_p0_text h_p0_told H.size v_kept v_typed (iI 0) v_at v_isFault v_tolds v_one v_other v_change v_woken (iI 1) r5 e6) (cwV 1 hts gX7_undo_X7_fails rfl rfl rfl (by decide +kernel) ⟨Nat.le_of_ble_eq_true rfl, Nat.le_of_ble_eq_true rfl⟩) ⟨PRE.blind, va_recv hK hPc (ci := 7) (q0 := 0) rfl rfl, PRE.go hK hPc hDc hNW⟩ rfl rfl hl.1 rfl (lv_room (Nat.le_of_ble_eq_true rfl)) dX7_undo_14 ⟨Nat.zero_le _, Nat.zero_le _⟩) hS (fun q _ h => hFc q h) hFc (fun z7 u t H locs ht hvm hw hB hz1 hk1 hS => ?_)
    subst z7
    obtain ⟨hP, hD⟩ := va_join (wr := [(h_p0_now, .inl (cyI, 452, .inl v_now)), (h_p0_past, .inl (cyI, 2712, .inl v_past))]) (w1 := [(h_p0, .inr (7, [.ref h_p0_now, .ref h_p0_then, .ref h_p0_past, .int v_kept, .ref h_p0_text, .int v_typed, .int r5.2, .int v_at, .int v_isFault, .ref h_p0_told, .int v_tolds, .int v_one, .int v_other, .int v_change, .int v_woken]))]) hP hD [0] [1, 2] rfl rfl (by decide) (by decide) hk1 hFc (WLD.P hB ht) hB.2
    have hP : va_P (dC, dI) vwCl [(h_p0_now, .inl (cyI, 452, .inl v_now)), (h_p0_past, .inl (cyI, 2712, .inl v_past)), (h_p0, .inr (7, [.ref h_p0_now, .ref h_p0_then, .ref h_p0_past, .int v_kept, .ref h_p0_text, .int v_typed, .int r5.2, .int v_at, .int v_isFault, .ref h_p0_told, .int v_tolds, .int v_one, .int v_other, .int v_change, .int v_woken]))] H := hP
    have hD : va_D A [(h_p0_now, .inl (cyI, 452, .inl v_now)), (h_p0_past, .inl (cyI, 2712, .inl v_past)), (h_p0, .inr (7, [.ref h_p0_now, .ref h_p0_then, .ref h_p0_past, .int v_kept, .ref h_p0_text, .int v_typed, .int r5.2, .int v_at, .int v_isFault, .ref h_p0_told, .int v_tolds, .int v_one, .int v_other, .int v_change, .int v_woken]))] := hD
    obtain rfl := Option.some.inj h
    exact W.iret (v := r5.1) hx hb hr (fun t ht hW => ⟨⟨r5.1, (), rfl, rfl, WLD.of ht (sb_P [(h_p0, .inr (7, [.ref h_p0_now, .ref h_p0_then, .ref h_p0_past, .int v_kept, .ref h_p0_text, .int v_typed, .int r5.2, .int v_at, .int v_isFault, .ref h_p0_told, .int v_tolds, .int v_one, .int v_other, .int v_change, .int v_woken])), (h_p0_now, .inl (cyI, 452, .inl v_now)), (h_p0_past, .inl (cyI, 2712, .inl v_past))] hP [2, 0, 1] rfl) (sb_D [(h_p0, .inr (7, [.ref h_p0_now, .ref h_p0_then, .ref h_p0_past, .int v_kept, .ref h_p0_text, .int v_typed, .int r5.2, .int v_at, .int v_isFault, .ref h_p0_told, .int v_tolds, .int v_one, .int v_other, .int v_change, .int v_woken])), (h_p0_now, .inl (cyI, 452, .inl v_now)), (h_p0_past, .inl (cyI, 2712, .inl v_past))] hD [2, 0, 1] (by decide) rfl)⟩, hS.F ht⟩) hS.2.2 dX7_undo_17
def s_X7_canBeHad (arr_0 : Nat → Int32) (a1 : Int32) (a2 : Int32) : Option (Int32) := (if gd (iI 3 + (a1 / iI 6)) 452 = true then (if (arr_0 (iI 3 + (a1 / iI 6)).toNatClampNeg) ≤ a2 then (some (iI 0)) else ((s_X7_holds arr_0 a1 a2).bind fun r3 => (if r3 = iI (-1) then (some (iI 1)) else (some (iI 0))))) else none)
set_option maxHeartbeats 4000000 in
set_option maxRecDepth 100000 in
theorem c_X7_canBeHad (l : Launch) (dC : Nat → ClassId) (dI : Nat → Nat → Nat) (cyI cyJ cyT : ClassId) (h_p0 : Nat) (sz : Nat) (arr_0 : Nat → Int32) (a1 : Int32) (a2 : Int32) (o : Int32) (h : s_X7_canBeHad arr_0 a1 a2 = some o) : Met l yX7_canBeHad wsX7_canBeHad ({ frames := 1, cells := 0, slots := 0, locals := 22 }) (va_Pc [.ref h_p0, .int a1, .int a2] (PRE (dC, dI) (TYS cyI cyJ cyT) sz [(h_p0, .inl (cyI, 452, .inl arr_0))])) (va_Qi (S := Unit) (fun r _ => r = o) (fun _ t => WLD (dC, dI) (va_A [(h_p0, .inl (cyI, 452, .inl arr_0))] sz) [(h_p0, .inl (cyI, 452, .inl arr_0))] t) (va_A [(h_p0, .inl (cyI, 452, .inl arr_0))] sz)) 0 0 (va_A [(h_p0, .inl (cyI, 452, .inl arr_0))] sz) := by
  refine Met.ofW (cc := cX7_canBeHad) (maxL := 3) (ret := (some .boolean)) (by decide) rfl ?_
  intro p e s m args below meth c s₁ B hml hv
  obtain ⟨rfl, hsz, hP, hK, hD0, hNW⟩ := hv
  have hx := B.exec
  have hb := B.bytes
  have hr := B.returns
  have hts := atoms_spec (ws := wsX7_canBeHad) B.pre
  have hown : s.vm.findClass RX7 = some m.cls := findClass_of_methodNamed B.named
  have hlocks := B.notSynchronized
  subst hsz
  have hD := hD0.self (sz := s.heap.size)
  generalize hAe : va_A [(h_p0, .inl (cyI, 452, .inl arr_0))] s.heap.size = A at hD ⊢
  have hA : ∀ q : Nat, s.heap.size ≤ q → A q := fun q h => by rw [← hAe]; exact Or.inr h
  have hS : va_S A s.heap s.heap [] := va_S.rf
  have hP : va_P (dC, dI) vwCl [(h_p0, .inl (cyI, 452, .inl arr_0))] s.heap := hP
  have hl := lv_entry ([.ref h_p0, .int a1, .int a2]) (n := 3) (Nat.le_of_ble_eq_true rfl)
  rw [lg_entry_eq]
  generalize (lg_sl ([.ref h_p0, .int a1, .int a2]) ++ List.replicate (3 - (lg_sl ([.ref h_p0, .int a1, .int a2])).length) Slot.unset).toArray = ls at hl ⊢
  have hl : lv_has ls 3 [(0, .ref h_p0), (1, .int a1), (2, .int a2)] := hl
  unfold s_X7_canBeHad at h
  refine lv_iload_n hx hb dX7_canBeHad_0 rfl (lv_at hl 2 rfl) ?_
  refine lv_aload_n hx hb dX7_canBeHad_1 rfl (lv_at hl 0 rfl) ?_
  refine lv_iconst (v := iI 3) hx hb dX7_canBeHad_2 rfl ?_
  refine lv_iload_n hx hb dX7_canBeHad_3 rfl (lv_at hl 1 rfl) ?_
  refine lv_bipush (v := iI 6) hx hb dX7_canBeHad_4 (by decide) ?_
  refine lv_idiv hx hb dX7_canBeHad_6 (by decide) ?_
  refine lv_iadd hx hb dX7_canBeHad_7 ?_
  obtain ⟨g1, h⟩ := gsome h
  refine va_iald (D := (dC, dI)) hx hb hK hP 0 0 rfl rfl g1 dX7_canBeHad_8 ?_
  refine lv_icmp_ge (tgt := 26) hx hb dX7_canBeHad_9 (by decide) (fun c2 => ?_) (fun c2 => ?_)
  · have h := ipos c2 h
    refine lv_iconst (v := iI 0) hx hb dX7_canBeHad_26 rfl ?_
    obtain rfl := Option.some.inj h
    exact W.zret (v := iI 0) hx hb hr (by decide) (fun t ht hW => ⟨⟨iI 0, (), rfl, rfl, WLD.of ht hP hD⟩, hS.F ht⟩) hS.2.2 dX7_canBeHad_27
  · have h := ineg c2 h
    refine lv_aload_n hx hb dX7_canBeHad_12 rfl (lv_at hl 0 rfl) ?_
    refine lv_iload_n hx hb dX7_canBeHad_13 rfl (lv_at hl 1 rfl) ?_
    refine lv_iload_n hx hb dX7_canBeHad_14 rfl (lv_at hl 2 rfl) ?_
    obtain ⟨r3, e4, h⟩ := bsome h
    have hPc := sb_P [(h_p0, .inl (cyI, 452, .inl arr_0))] hP [0] rfl
    have hDc := sb_D [(h_p0, .inl (cyI, 452, .inl arr_0))] hD [0] (by decide) rfl
    have hFc := va_free (wc := [(h_p0, .inl (cyI, 452, .inl arr_0))]) hD hS hA [0] rfl
    refine va_calli (va_runS (As := [.ref h_p0, .int a1, .int a2]) (rest := []) ⟨hx, hb, hml, hown, hts⟩ (c_X7_holds l dC dI cyI cyJ cyT h_p0 s.heap.size arr_0 a1 a2 r3 e4) (va_cwS 3 hts gX7_canBeHad_X7_holds rfl rfl rfl (by decide +kernel) ⟨Nat.le_of_ble_eq_true rfl, Nat.le_of_ble_eq_true rfl⟩) ⟨PRE.blind, PRE.go hK hPc hDc hNW⟩ rfl rfl hl.1 rfl (lv_room (Nat.le_of_ble_eq_true rfl)) dX7_canBeHad_15 ⟨Nat.zero_le _, Nat.zero_le _⟩) hS (fun q _ h => hFc q h) hFc (fun z5 u t H locs ht hvm hw hB hz1 hk1 hS => ?_)
    subst z5
    obtain ⟨hP, hD⟩ := va_join (wr := []) (w1 := [(h_p0, .inl (cyI, 452, .inl arr_0))]) hP hD [0] [] rfl rfl (by decide) (by decide) hk1 hFc (WLD.P hB ht) hB.2
    have hP : va_P (dC, dI) vwCl [(h_p0, .inl (cyI, 452, .inl arr_0))] H := hP
    have hD : va_D A [(h_p0, .inl (cyI, 452, .inl arr_0))] := hD
    refine lv_iconst (v := iI (-1)) hx hb dX7_canBeHad_18 rfl ?_
    refine lv_icmp_ne (tgt := 26) hx hb dX7_canBeHad_19 (by decide) (fun c6 => ?_) (fun c6 => ?_)
    · have h := ineg c6 h
      refine lv_iconst (v := iI 0) hx hb dX7_canBeHad_26 rfl ?_
      obtain rfl := Option.some.inj h
      exact W.zret (v := iI 0) hx hb hr (by decide) (fun t ht hW => ⟨⟨iI 0, (), rfl, rfl, WLD.of ht hP hD⟩, hS.F ht⟩) hS.2.2 dX7_canBeHad_27
    · have h := ipos c6 h
      refine lv_iconst (v := iI 1) hx hb dX7_canBeHad_22 rfl ?_
      refine lv_goto (tgt := 27) hx hb dX7_canBeHad_23 (by decide) ?_
      obtain rfl := Option.some.inj h
      exact W.zret (v := iI 1) hx hb hr (by decide) (fun t ht hW => ⟨⟨iI 1, (), rfl, rfl, WLD.of ht hP hD⟩, hS.F ht⟩) hS.2.2 dX7_canBeHad_27
def s_X7_isFree_L6 (n : Nat) (arr_0 : Nat → Int32) (a1 : Int32) (a3 : Int32) : Nat → Int32 → Int32 → Option (Int32)
  | 0, _, _ => none
  | k + 1, x4, x5 => (if a3 ≤ x5 then ((if zb x4 = true then some (x4) else none)) else (if x4 = 0 then (s_X7_isFree_L6 n arr_0 a1 a3 k (iI 0) (x5 + iI 1)) else ((s_X7_canBeHad arr_0 a1 x5).bind fun r4 => (if r4 = 0 then (s_X7_isFree_L6 n arr_0 a1 a3 k (iI 0) (x5 + iI 1)) else (s_X7_isFree_L6 n arr_0 a1 a3 k (iI 1) (x5 + iI 1))))))
def s_X7_isFree (n : Nat) (arr_0 : Nat → Int32) (a1 : Int32) (a2 : Int32) (a3 : Int32) : Option (Int32) := (s_X7_isFree_L6 n arr_0 a1 a3 n (iI 1) a2)
set_option maxHeartbeats 4000000 in
set_option maxRecDepth 100000 in
theorem c_X7_isFree (l : Launch) (dC : Nat → ClassId) (dI : Nat → Nat → Nat) (cyI cyJ cyT : ClassId) (h_p0 : Nat) (sz : Nat) (arr_0 : Nat → Int32) (a1 : Int32) (a2 : Int32) (a3 : Int32) (n : Nat) (o : Int32) (h : s_X7_isFree n arr_0 a1 a2 a3 = some o) : Met l yX7_isFree wsX7_isFree ({ frames := 2, cells := 0, slots := 0, locals := 44 }) (va_Pc [.ref h_p0, .int a1, .int a2, .int a3] (PRE (dC, dI) (TYS cyI cyJ cyT) sz [(h_p0, .inl (cyI, 452, .inl arr_0))])) (va_Qi (S := Unit) (fun r _ => r = o) (fun _ t => WLD (dC, dI) (va_A [(h_p0, .inl (cyI, 452, .inl arr_0))] sz) [(h_p0, .inl (cyI, 452, .inl arr_0))] t) (va_A [(h_p0, .inl (cyI, 452, .inl arr_0))] sz)) 0 0 (va_A [(h_p0, .inl (cyI, 452, .inl arr_0))] sz) := by
  refine Met.ofW (cc := cX7_isFree) (maxL := 6) (ret := (some .boolean)) (by decide) rfl ?_
  intro p e s m args below meth c s₁ B hml hv
  obtain ⟨rfl, hsz, hP, hK, hD0, hNW⟩ := hv
  have hx := B.exec
  have hb := B.bytes
  have hr := B.returns
  have hts := atoms_spec (ws := wsX7_isFree) B.pre
  have hown : s.vm.findClass RX7 = some m.cls := findClass_of_methodNamed B.named
  have hlocks := B.notSynchronized
  subst hsz
  have hD := hD0.self (sz := s.heap.size)
  generalize hAe : va_A [(h_p0, .inl (cyI, 452, .inl arr_0))] s.heap.size = A at hD ⊢
  have hA : ∀ q : Nat, s.heap.size ≤ q → A q := fun q h => by rw [← hAe]; exact Or.inr h
  have hS : va_S A s.heap s.heap [] := va_S.rf
  have hP : va_P (dC, dI) vwCl [(h_p0, .inl (cyI, 452, .inl arr_0))] s.heap := hP
  have L6 : ∀ (k : Nat), (∀ (x4 : Int32) (x5 : Int32) (H : Heap) (locs : List Loc), va_P (dC, dI) vwCl [(h_p0, .inl (cyI, 452, .inl arr_0))] H → va_D A [(h_p0, .inl (cyI, 452, .inl arr_0))] → va_S A s.heap H locs → ∀ (ls : Array Slot), lv_has ls 6 [(0, .ref h_p0), (1, .int a1), (3, .int a3), (4, .int x4), (5, .int x5)] →  s_X7_isFree_L6 n arr_0 a1 a3 k x4 x5 = some o → W p l e (headSpec wsX7_isFree ({ frames := 2, cells := 0, slots := 0, locals := 44 })).room s m (([.ref h_p0, .int a1, .int a2, .int a3] : List Value).toArray) below meth c H locs 0 0 (MQ below (va_Qi (S := Unit) (fun r _ => r = o) (fun _ t => WLD (dC, dI) A [(h_p0, .inl (cyI, 452, .inl arr_0))] t) A) (([.ref h_p0, .int a1, .int a2, .int a3] : List Value).toArray) s 0 0 A) (F0 m 6 ls [])) := by
    intro k
    induction k with
    | zero =>
      intro  x4 x5 H locs hP hD hS ls hl h
      rw [s_X7_isFree_L6] at h
      cases h
    | succ k ih =>
      intro  x4 x5 H locs hP hD hS ls hl h
      rw [s_X7_isFree_L6] at h
      refine lv_iload hx hb dX7_isFree_6 (lv_at hl 4 rfl) ?_
      refine lv_iload_n hx hb dX7_isFree_8 rfl (lv_at hl 2 rfl) ?_
      refine lv_icmp_ge (tgt := 40) hx hb dX7_isFree_9 (by decide) (fun c1 => ?_) (fun c1 => ?_)
      · have h := ipos c1 h
        refine lv_iload hx hb dX7_isFree_40 (lv_at hl 3 rfl) ?_
        obtain ⟨g2, h⟩ := zsome h
        obtain rfl := Option.some.inj h
        exact W.zret (v := x4) hx hb hr (zb_nar g2) (fun t ht hW => ⟨⟨x4, (), rfl, rfl, WLD.of ht hP hD⟩, hS.F ht⟩) hS.2.2 dX7_isFree_42
      · have h := ineg c1 h
        refine lv_iload hx hb dX7_isFree_12 (lv_at hl 3 rfl) ?_
        refine lv_if_eq (tgt := 31) hx hb dX7_isFree_14 (by decide) (fun c3 => ?_) (fun c3 => ?_)
        · have h := ipos c3 h
          refine lv_iconst (v := iI 0) hx hb dX7_isFree_31 rfl ?_
          refine lv_istore hx hb dX7_isFree_32 hl (by decide) (rfl : _ = ([(4, .int (iI 0)), (0, .ref h_p0), (1, .int a1), (3, .int a3), (5, .int x5)] : List (Nat × Value))) (fun ls hl => ?_)
          refine lv_iinc (v := (x5 + iI 1)) hx hb dX7_isFree_34 hl (k := 4) rfl rfl (by decide) (rfl : _ = ([(5, .int (x5 + iI 1)), (4, .int (iI 0)), (0, .ref h_p0), (1, .int a1), (3, .int a3)] : List (Nat × Value))) (fun ls hl => ?_)
          refine lv_goto (tgt := 6) hx hb dX7_isFree_37 (by decide) ?_
          exact ih (iI 0) (x5 + iI 1) _ _ hP hD hS ls (lv_sub hl [2, 3, 4, 1, 0] rfl) h
        · have h := ineg c3 h
          refine lv_aload_n hx hb dX7_isFree_17 rfl (lv_at hl 0 rfl) ?_
          refine lv_iload_n hx hb dX7_isFree_18 rfl (lv_at hl 1 rfl) ?_
          refine lv_iload hx hb dX7_isFree_19 (lv_at hl 4 rfl) ?_
          obtain ⟨r4, e5, h⟩ := bsome h
          have hPc := sb_P [(h_p0, .inl (cyI, 452, .inl arr_0))] hP [0] rfl
          have hDc := sb_D [(h_p0, .inl (cyI, 452, .inl arr_0))] hD [0] (by decide) rfl
          have hFc := va_free (wc := [(h_p0, .inl (cyI, 452, .inl arr_0))]) hD hS hA [0] rfl
          refine va_calli (va_runS (As := [.ref h_p0, .int a1, .int x5]) (rest := []) ⟨hx, hb, hml, hown, hts⟩ (c_X7_canBeHad l dC dI cyI cyJ cyT h_p0 H.size arr_0 a1 x5 r4 e5) (va_cwS 3 hts gX7_isFree_X7_canBeHad rfl rfl rfl (by decide +kernel) ⟨Nat.le_of_ble_eq_true rfl, Nat.le_of_ble_eq_true rfl⟩) ⟨PRE.blind, PRE.go hK hPc hDc hNW⟩ rfl rfl hl.1 rfl (lv_room (Nat.le_of_ble_eq_true rfl)) dX7_isFree_21 ⟨Nat.zero_le _, Nat.zero_le _⟩) hS (fun q _ h => hFc q h) hFc (fun z6 u t H locs ht hvm hw hB hz1 hk1 hS => ?_)
          subst z6
          obtain ⟨hP, hD⟩ := va_join (wr := []) (w1 := [(h_p0, .inl (cyI, 452, .inl arr_0))]) hP hD [0] [] rfl rfl (by decide) (by decide) hk1 hFc (WLD.P hB ht) hB.2
          have hP : va_P (dC, dI) vwCl [(h_p0, .inl (cyI, 452, .inl arr_0))] H := hP
          have hD : va_D A [(h_p0, .inl (cyI, 452, .inl arr_0))] := hD
          refine lv_if_eq (tgt := 31) hx hb dX7_isFree_24 (by decide) (fun c7 => ?_) (fun c7 => ?_)
          · have h := ipos c7 h
            refine lv_iconst (v := iI 0) hx hb dX7_isFree_31 rfl ?_
            refine lv_istore hx hb dX7_isFree_32 hl (by decide) (rfl : _ = ([(4, .int (iI 0)), (0, .ref h_p0), (1, .int a1), (3, .int a3), (5, .int x5)] : List (Nat × Value))) (fun ls hl => ?_)
            refine lv_iinc (v := (x5 + iI 1)) hx hb dX7_isFree_34 hl (k := 4) rfl rfl (by decide) (rfl : _ = ([(5, .int (x5 + iI 1)), (4, .int (iI 0)), (0, .ref h_p0), (1, .int a1), (3, .int a3)] : List (Nat × Value))) (fun ls hl => ?_)
            refine lv_goto (tgt := 6) hx hb dX7_isFree_37 (by decide) ?_
            exact ih (iI 0) (x5 + iI 1) _ _ hP hD hS ls (lv_sub hl [2, 3, 4, 1, 0] rfl) h
          · have h := ineg c7 h
            refine lv_iconst (v := iI 1) hx hb dX7_isFree_27 rfl ?_
            refine lv_goto (tgt := 32) hx hb dX7_isFree_28 (by decide) ?_
            refine lv_istore hx hb dX7_isFree_32 hl (by decide) (rfl : _ = ([(4, .int (iI 1)), (0, .ref h_p0), (1, .int a1), (3, .int a3), (5, .int x5)] : List (Nat × Value))) (fun ls hl => ?_)
            refine lv_iinc (v := (x5 + iI 1)) hx hb dX7_isFree_34 hl (k := 4) rfl rfl (by decide) (rfl : _ = ([(5, .int (x5 + iI 1)), (4, .int (iI 1)), (0, .ref h_p0), (1, .int a1), (3, .int a3)] : List (Nat × Value))) (fun ls hl => ?_)
            refine lv_goto (tgt := 6) hx hb dX7_isFree_37 (by decide) ?_
            exact ih (iI 1) (x5 + iI 1) _ _ hP hD hS ls (lv_sub hl [2, 3, 4, 1, 0] rfl) h
  have hl := lv_entry ([.ref h_p0, .int a1, .int a2, .int a3]) (n := 6) (Nat.le_of_ble_eq_true rfl)
  rw [lg_entry_eq]
  generalize (lg_sl ([.ref h_p0, .int a1, .int a2, .int a3]) ++ List.replicate (6 - (lg_sl ([.ref h_p0, .int a1, .int a2, .int a3])).length) Slot.unset).toArray = ls at hl ⊢
  have hl : lv_has ls 6 [(0, .ref h_p0), (1, .int a1), (2, .int a2), (3, .int a3)] := hl
  unfold s_X7_isFree at h
  refine lv_iconst (v := iI 1) hx hb dX7_isFree_0 rfl ?_
  refine lv_istore hx hb dX7_isFree_1 hl (by decide) (rfl : _ = ([(4, .int (iI 1)), (0, .ref h_p0), (1, .int a1), (2, .int a2), (3, .int a3)] : List (Nat × Value))) (fun ls hl => ?_)
  refine lv_iload_n hx hb dX7_isFree_3 rfl (lv_at hl 3 rfl) ?_
  refine lv_istore hx hb dX7_isFree_4 hl (by decide) (rfl : _ = ([(5, .int a2), (4, .int (iI 1)), (0, .ref h_p0), (1, .int a1), (2, .int a2), (3, .int a3)] : List (Nat × Value))) (fun ls hl => ?_)
  exact L6 n (iI 1) a2 _ _ hP hD hS ls (lv_sub hl [2, 3, 5, 1, 0] rfl) h
def s_X7_wakes_L25 (n : Nat) (arr_0 : Nat → Int32) (a3 : Int32) : Nat → Int32 → Int32 → Int32 → Option (Int32)
  | 0, _, _, _ => none
  | k + 1, x4, x5, x6 => (if a3 ≤ x6 then (some (x5)) else ((s_X7_holds arr_0 x4 (x6 - iI 1)).bind fun r2 => ((s_X7_holds arr_0 x4 x6).bind fun r5 => (if r2 = r5 then (s_X7_wakes_L25 n arr_0 a3 k x4 (x5 + iI 0) (x6 + iI 1)) else (s_X7_wakes_L25 n arr_0 a3 k x4 (x5 + iI 1) (x6 + iI 1))))))
def s_X7_wakes (n : Nat) (arr_0 : Nat → Int32) (a1 : Int32) (a2 : Int32) (a3 : Int32) : Option (Int32) := (if (a1 - a1 / iI 2 * iI 2) = 0 then (s_X7_wakes_L25 n arr_0 a3 n (a1 + iI 1) (iI 0) (a2 + iI 1)) else (s_X7_wakes_L25 n arr_0 a3 n (a1 - iI 1) (iI 0) (a2 + iI 1)))
set_option maxHeartbeats 4000000 in
set_option maxRecDepth 100000 in
theorem c_X7_wakes (l : Launch) (dC : Nat → ClassId) (dI : Nat → Nat → Nat) (cyI cyJ cyT : ClassId) (h_p0 : Nat) (sz : Nat) (arr_0 : Nat → Int32) (a1 : Int32) (a2 : Int32) (a3 : Int32) (n : Nat) (o : Int32) (h : s_X7_wakes n arr_0 a1 a2 a3 = some o) : Met l yX7_wakes wsX7_wakes ({ frames := 1, cells := 0, slots := 0, locals := 22 }) (va_Pc [.ref h_p0, .int a1, .int a2, .int a3] (PRE (dC, dI) (TYS cyI cyJ cyT) sz [(h_p0, .inl (cyI, 452, .inl arr_0))])) (va_Qi (S := Unit) (fun r _ => r = o) (fun _ t => WLD (dC, dI) (va_A [(h_p0, .inl (cyI, 452, .inl arr_0))] sz) [(h_p0, .inl (cyI, 452, .inl arr_0))] t) (va_A [(h_p0, .inl (cyI, 452, .inl arr_0))] sz)) 0 0 (va_A [(h_p0, .inl (cyI, 452, .inl arr_0))] sz) := by
  refine Met.ofW (cc := cX7_wakes) (maxL := 7) (ret := (some .int)) (by decide) rfl ?_
  intro p e s m args below meth c s₁ B hml hv
  obtain ⟨rfl, hsz, hP, hK, hD0, hNW⟩ := hv
  have hx := B.exec
  have hb := B.bytes
  have hr := B.returns
  have hts := atoms_spec (ws := wsX7_wakes) B.pre
  have hown : s.vm.findClass RX7 = some m.cls := findClass_of_methodNamed B.named
  have hlocks := B.notSynchronized
  subst hsz
  have hD := hD0.self (sz := s.heap.size)
  generalize hAe : va_A [(h_p0, .inl (cyI, 452, .inl arr_0))] s.heap.size = A at hD ⊢
  have hA : ∀ q : Nat, s.heap.size ≤ q → A q := fun q h => by rw [← hAe]; exact Or.inr h
  have hS : va_S A s.heap s.heap [] := va_S.rf
  have hP : va_P (dC, dI) vwCl [(h_p0, .inl (cyI, 452, .inl arr_0))] s.heap := hP
  have L25 : ∀ (k : Nat), (∀ (x4 : Int32) (x5 : Int32) (x6 : Int32) (H : Heap) (locs : List Loc), va_P (dC, dI) vwCl [(h_p0, .inl (cyI, 452, .inl arr_0))] H → va_D A [(h_p0, .inl (cyI, 452, .inl arr_0))] → va_S A s.heap H locs → ∀ (ls : Array Slot), lv_has ls 7 [(0, .ref h_p0), (3, .int a3), (4, .int x4), (5, .int x5), (6, .int x6)] →  s_X7_wakes_L25 n arr_0 a3 k x4 x5 x6 = some o → W p l e (headSpec wsX7_wakes ({ frames := 1, cells := 0, slots := 0, locals := 22 })).room s m (([.ref h_p0, .int a1, .int a2, .int a3] : List Value).toArray) below meth c H locs 0 0 (MQ below (va_Qi (S := Unit) (fun r _ => r = o) (fun _ t => WLD (dC, dI) A [(h_p0, .inl (cyI, 452, .inl arr_0))] t) A) (([.ref h_p0, .int a1, .int a2, .int a3] : List Value).toArray) s 0 0 A) (F0 m 25 ls [])) := by
    intro k
    induction k with
    | zero =>
      intro  x4 x5 x6 H locs hP hD hS ls hl h
      rw [s_X7_wakes_L25] at h
      cases h
    | succ k ih =>
      intro  x4 x5 x6 H locs hP hD hS ls hl h
      rw [s_X7_wakes_L25] at h
      refine lv_iload hx hb dX7_wakes_25 (lv_at hl 4 rfl) ?_
      refine lv_iload_n hx hb dX7_wakes_27 rfl (lv_at hl 1 rfl) ?_
      refine lv_icmp_ge (tgt := 68) hx hb dX7_wakes_28 (by decide) (fun c1 => ?_) (fun c1 => ?_)
      · have h := ipos c1 h
        refine lv_iload hx hb dX7_wakes_68 (lv_at hl 3 rfl) ?_
        obtain rfl := Option.some.inj h
        exact W.iret (v := x5) hx hb hr (fun t ht hW => ⟨⟨x5, (), rfl, rfl, WLD.of ht hP hD⟩, hS.F ht⟩) hS.2.2 dX7_wakes_70
      · have h := ineg c1 h
        refine lv_iload hx hb dX7_wakes_31 (lv_at hl 3 rfl) ?_
        refine lv_aload_n hx hb dX7_wakes_33 rfl (lv_at hl 0 rfl) ?_
        refine lv_iload hx hb dX7_wakes_34 (lv_at hl 2 rfl) ?_
        refine lv_iload hx hb dX7_wakes_36 (lv_at hl 4 rfl) ?_
        refine lv_iconst (v := iI 1) hx hb dX7_wakes_38 rfl ?_
        refine lv_isub hx hb dX7_wakes_39 ?_
        obtain ⟨r2, e3, h⟩ := bsome h
        have hPc := sb_P [(h_p0, .inl (cyI, 452, .inl arr_0))] hP [0] rfl
        have hDc := sb_D [(h_p0, .inl (cyI, 452, .inl arr_0))] hD [0] (by decide) rfl
        have hFc := va_free (wc := [(h_p0, .inl (cyI, 452, .inl arr_0))]) hD hS hA [0] rfl
        refine va_calli (va_runS (As := [.ref h_p0, .int x4, .int (x6 - iI 1)]) (rest := [.int x5]) ⟨hx, hb, hml, hown, hts⟩ (c_X7_holds l dC dI cyI cyJ cyT h_p0 H.size arr_0 x4 (x6 - iI 1) r2 e3) (va_cwS 3 hts gX7_wakes_X7_holds rfl rfl rfl (by decide +kernel) ⟨Nat.le_of_ble_eq_true rfl, Nat.le_of_ble_eq_true rfl⟩) ⟨PRE.blind, PRE.go hK hPc hDc hNW⟩ rfl rfl hl.1 rfl (lv_room (Nat.le_of_ble_eq_true rfl)) dX7_wakes_40 ⟨Nat.zero_le _, Nat.zero_le _⟩) hS (fun q _ h => hFc q h) hFc (fun z4 u t H locs ht hvm hw hB hz1 hk1 hS => ?_)
        subst z4
        obtain ⟨hP, hD⟩ := va_join (wr := []) (w1 := [(h_p0, .inl (cyI, 452, .inl arr_0))]) hP hD [0] [] rfl rfl (by decide) (by decide) hk1 hFc (WLD.P hB ht) hB.2
        have hP : va_P (dC, dI) vwCl [(h_p0, .inl (cyI, 452, .inl arr_0))] H := hP
        have hD : va_D A [(h_p0, .inl (cyI, 452, .inl arr_0))] := hD
        refine lv_aload_n hx hb dX7_wakes_43 rfl (lv_at hl 0 rfl) ?_
        refine lv_iload hx hb dX7_wakes_44 (lv_at hl 2 rfl) ?_
        refine lv_iload hx hb dX7_wakes_46 (lv_at hl 4 rfl) ?_
        obtain ⟨r5, e6, h⟩ := bsome h
        have hPc := sb_P [(h_p0, .inl (cyI, 452, .inl arr_0))] hP [0] rfl
        have hDc := sb_D [(h_p0, .inl (cyI, 452, .inl arr_0))] hD [0] (by decide) rfl
        have hFc := va_free (wc := [(h_p0, .inl (cyI, 452, .inl arr_0))]) hD hS hA [0] rfl
        refine va_calli (va_runS (As := [.ref h_p0, .int x4, .int x6]) (rest := [.int r2, .int x5]) ⟨hx, hb, hml, hown, hts⟩ (c_X7_holds l dC dI cyI cyJ cyT h_p0 H.size arr_0 x4 x6 r5 e6) (va_cwS 3 hts gX7_wakes_X7_holds rfl rfl rfl (by decide +kernel) ⟨Nat.le_of_ble_eq_true rfl, Nat.le_of_ble_eq_true rfl⟩) ⟨PRE.blind, PRE.go hK hPc hDc hNW⟩ rfl rfl hl.1 rfl (lv_room (Nat.le_of_ble_eq_true rfl)) dX7_wakes_48 ⟨Nat.zero_le _, Nat.zero_le _⟩) hS (fun q _ h => hFc q h) hFc (fun z7 u t H locs ht hvm hw hB hz1 hk1 hS => ?_)
        subst z7
        obtain ⟨hP, hD⟩ := va_join (wr := []) (w1 := [(h_p0, .inl (cyI, 452, .inl arr_0))]) hP hD [0] [] rfl rfl (by decide) (by decide) hk1 hFc (WLD.P hB ht) hB.2
        have hP : va_P (dC, dI) vwCl [(h_p0, .inl (cyI, 452, .inl arr_0))] H := hP
        have hD : va_D A [(h_p0, .inl (cyI, 452, .inl arr_0))] := hD
        refine lv_icmp_ne (tgt := 58) hx hb dX7_wakes_51 (by decide) (fun c8 => ?_) (fun c8 => ?_)
        · have h := ineg c8 h
          refine lv_iconst (v := iI 1) hx hb dX7_wakes_58 rfl ?_
          refine lv_iadd hx hb dX7_wakes_59 ?_
          refine lv_istore hx hb dX7_wakes_60 hl (by decide) (rfl : _ = ([(5, .int (x5 + iI 1)), (0, .ref h_p0), (3, .int a3), (4, .int x4), (6, .int x6)] : List (Nat × Value))) (fun ls hl => ?_)
          refine lv_iinc (v := (x6 + iI 1)) hx hb dX7_wakes_62 hl (k := 4) rfl rfl (by decide) (rfl : _ = ([(6, .int (x6 + iI 1)), (5, .int (x5 + iI 1)), (0, .ref h_p0), (3, .int a3), (4, .int x4)] : List (Nat × Value))) (fun ls hl => ?_)
          refine lv_goto (tgt := 25) hx hb dX7_wakes_65 (by decide) ?_
          exact ih x4 (x5 + iI 1) (x6 + iI 1) _ _ hP hD hS ls (lv_sub hl [2, 3, 4, 1, 0] rfl) h
        · have h := ipos c8 h
          refine lv_iconst (v := iI 0) hx hb dX7_wakes_54 rfl ?_
          refine lv_goto (tgt := 59) hx hb dX7_wakes_55 (by decide) ?_
          refine lv_iadd hx hb dX7_wakes_59 ?_
          refine lv_istore hx hb dX7_wakes_60 hl (by decide) (rfl : _ = ([(5, .int (x5 + iI 0)), (0, .ref h_p0), (3, .int a3), (4, .int x4), (6, .int x6)] : List (Nat × Value))) (fun ls hl => ?_)
          refine lv_iinc (v := (x6 + iI 1)) hx hb dX7_wakes_62 hl (k := 4) rfl rfl (by decide) (rfl : _ = ([(6, .int (x6 + iI 1)), (5, .int (x5 + iI 0)), (0, .ref h_p0), (3, .int a3), (4, .int x4)] : List (Nat × Value))) (fun ls hl => ?_)
          refine lv_goto (tgt := 25) hx hb dX7_wakes_65 (by decide) ?_
          exact ih x4 (x5 + iI 0) (x6 + iI 1) _ _ hP hD hS ls (lv_sub hl [2, 3, 4, 1, 0] rfl) h
  have hl := lv_entry ([.ref h_p0, .int a1, .int a2, .int a3]) (n := 7) (Nat.le_of_ble_eq_true rfl)
  rw [lg_entry_eq]
  generalize (lg_sl ([.ref h_p0, .int a1, .int a2, .int a3]) ++ List.replicate (7 - (lg_sl ([.ref h_p0, .int a1, .int a2, .int a3])).length) Slot.unset).toArray = ls at hl ⊢
  have hl : lv_has ls 7 [(0, .ref h_p0), (1, .int a1), (2, .int a2), (3, .int a3)] := hl
  unfold s_X7_wakes at h
  refine lv_iload_n hx hb dX7_wakes_0 rfl (lv_at hl 1 rfl) ?_
  refine lv_iconst (v := iI 2) hx hb dX7_wakes_1 rfl ?_
  refine lv_irem hx hb dX7_wakes_2 (by decide) ?_
  refine lv_if_ne (tgt := 12) hx hb dX7_wakes_3 (by decide) (fun c9 => ?_) (fun c9 => ?_)
  · have h := ineg c9 h
    refine lv_iload_n hx hb dX7_wakes_12 rfl (lv_at hl 1 rfl) ?_
    refine lv_iconst (v := iI 1) hx hb dX7_wakes_13 rfl ?_
    refine lv_isub hx hb dX7_wakes_14 ?_
    refine lv_istore hx hb dX7_wakes_15 hl (by decide) (rfl : _ = ([(4, .int (a1 - iI 1)), (0, .ref h_p0), (1, .int a1), (2, .int a2), (3, .int a3)] : List (Nat × Value))) (fun ls hl => ?_)
    refine lv_iconst (v := iI 0) hx hb dX7_wakes_17 rfl ?_
    refine lv_istore hx hb dX7_wakes_18 hl (by decide) (rfl : _ = ([(5, .int (iI 0)), (4, .int (a1 - iI 1)), (0, .ref h_p0), (1, .int a1), (2, .int a2), (3, .int a3)] : List (Nat × Value))) (fun ls hl => ?_)
    refine lv_iload_n hx hb dX7_wakes_20 rfl (lv_at hl 4 rfl) ?_
    refine lv_iconst (v := iI 1) hx hb dX7_wakes_21 rfl ?_
    refine lv_iadd hx hb dX7_wakes_22 ?_
    refine lv_istore hx hb dX7_wakes_23 hl (by decide) (rfl : _ = ([(6, .int (a2 + iI 1)), (5, .int (iI 0)), (4, .int (a1 - iI 1)), (0, .ref h_p0), (1, .int a1), (2, .int a2), (3, .int a3)] : List (Nat × Value))) (fun ls hl => ?_)
    exact L25 n (a1 - iI 1) (iI 0) (a2 + iI 1) _ _ hP hD hS ls (lv_sub hl [3, 6, 2, 1, 0] rfl) h
  · have h := ipos c9 h
    refine lv_iload_n hx hb dX7_wakes_6 rfl (lv_at hl 1 rfl) ?_
    refine lv_iconst (v := iI 1) hx hb dX7_wakes_7 rfl ?_
    refine lv_iadd hx hb dX7_wakes_8 ?_
    refine lv_goto (tgt := 15) hx hb dX7_wakes_9 (by decide) ?_
    refine lv_istore hx hb dX7_wakes_15 hl (by decide) (rfl : _ = ([(4, .int (a1 + iI 1)), (0, .ref h_p0), (1, .int a1), (2, .int a2), (3, .int a3)] : List (Nat × Value))) (fun ls hl => ?_)
    refine lv_iconst (v := iI 0) hx hb dX7_wakes_17 rfl ?_
    refine lv_istore hx hb dX7_wakes_18 hl (by decide) (rfl : _ = ([(5, .int (iI 0)), (4, .int (a1 + iI 1)), (0, .ref h_p0), (1, .int a1), (2, .int a2), (3, .int a3)] : List (Nat × Value))) (fun ls hl => ?_)
    refine lv_iload_n hx hb dX7_wakes_20 rfl (lv_at hl 4 rfl) ?_
    refine lv_iconst (v := iI 1) hx hb dX7_wakes_21 rfl ?_
    refine lv_iadd hx hb dX7_wakes_22 ?_
    refine lv_istore hx hb dX7_wakes_23 hl (by decide) (rfl : _ = ([(6, .int (a2 + iI 1)), (5, .int (iI 0)), (4, .int (a1 + iI 1)), (0, .ref h_p0), (1, .int a1), (2, .int a2), (3, .int a3)] : List (Nat × Value))) (fun ls hl => ?_)
    exact L25 n (a1 + iI 1) (iI 0) (a2 + iI 1) _ _ hP hD hS ls (lv_sub hl [3, 6, 2, 1, 0] rfl) h
def s_X7_isNight (arr_0 : Nat → Int32) (a1 : Int32) : Option (Int32) := (if gd (iI 0) 452 = true then (if gd (iI 1) 452 = true then ((s_X7_in a1 (arr_0 (iI 0).toNatClampNeg) (arr_0 (iI 1).toNatClampNeg)).bind fun r3 => ((if zb r3 = true then some (r3) else none))) else none) else none)
set_option maxHeartbeats 4000000 in
set_option maxRecDepth 100000 in
theorem c_X7_isNight (l : Launch) (dC : Nat → ClassId) (dI : Nat → Nat → Nat) (cyI cyJ cyT : ClassId) (h_p0 : Nat) (sz : Nat) (arr_0 : Nat → Int32) (a1 : Int32) (o : Int32) (h : s_X7_isNight arr_0 a1 = some o) : Met l yX7_isNight wsX7_isNight ({ frames := 1, cells := 0, slots := 0, locals := 22 }) (va_Pc [.ref h_p0, .int a1] (PRE (dC, dI) (TYS cyI cyJ cyT) sz [(h_p0, .inl (cyI, 452, .inl arr_0))])) (va_Qi (S := Unit) (fun r _ => r = o) (fun _ t => WLD (dC, dI) (va_A [(h_p0, .inl (cyI, 452, .inl arr_0))] sz) [(h_p0, .inl (cyI, 452, .inl arr_0))] t) (va_A [(h_p0, .inl (cyI, 452, .inl arr_0))] sz)) 0 0 (va_A [(h_p0, .inl (cyI, 452, .inl arr_0))] sz) := by
  refine Met.ofW (cc := cX7_isNight) (maxL := 2) (ret := (some .boolean)) (by decide) rfl ?_
  intro p e s m args below meth c s₁ B hml hv
  obtain ⟨rfl, hsz, hP, hK, hD0, hNW⟩ := hv
  have hx := B.exec
  have hb := B.bytes
  have hr := B.returns
  have hts := atoms_spec (ws := wsX7_isNight) B.pre
  have hown : s.vm.findClass RX7 = some m.cls := findClass_of_methodNamed B.named
  have hlocks := B.notSynchronized
  subst hsz
  have hD := hD0.self (sz := s.heap.size)
  generalize hAe : va_A [(h_p0, .inl (cyI, 452, .inl arr_0))] s.heap.size = A at hD ⊢
  have hA : ∀ q : Nat, s.heap.size ≤ q → A q := fun q h => by rw [← hAe]; exact Or.inr h
  have hS : va_S A s.heap s.heap [] := va_S.rf
  have hP : va_P (dC, dI) vwCl [(h_p0, .inl (cyI, 452, .inl arr_0))] s.heap := hP
  have hl := lv_entry ([.ref h_p0, .int a1]) (n := 2) (Nat.le_of_ble_eq_true rfl)
  rw [lg_entry_eq]
  generalize (lg_sl ([.ref h_p0, .int a1]) ++ List.replicate (2 - (lg_sl ([.ref h_p0, .int a1])).length) Slot.unset).toArray = ls at hl ⊢
  have hl : lv_has ls 2 [(0, .ref h_p0), (1, .int a1)] := hl
  unfold s_X7_isNight at h
  refine lv_iload_n hx hb dX7_isNight_0 rfl (lv_at hl 1 rfl) ?_
  refine lv_aload_n hx hb dX7_isNight_1 rfl (lv_at hl 0 rfl) ?_
  refine lv_iconst (v := iI 0) hx hb dX7_isNight_2 rfl ?_
  obtain ⟨g1, h⟩ := gsome h
  refine va_iald (D := (dC, dI)) hx hb hK hP 0 0 rfl rfl g1 dX7_isNight_3 ?_
  refine lv_aload_n hx hb dX7_isNight_4 rfl (lv_at hl 0 rfl) ?_
  refine lv_iconst (v := iI 1) hx hb dX7_isNight_5 rfl ?_
  obtain ⟨g2, h⟩ := gsome h
  refine va_iald (D := (dC, dI)) hx hb hK hP 0 0 rfl rfl g2 dX7_isNight_6 ?_
  obtain ⟨r3, e4, h⟩ := bsome h
  have hPc := sb_P [] hP [] rfl
  have hDc := sb_D [] hD [] (by decide) rfl
  have hFc := va_free (wc := []) hD hS hA [] rfl
  refine va_calli (va_runS (As := [.int a1, .int (arr_0 (iI 0).toNatClampNeg), .int (arr_0 (iI 1).toNatClampNeg)]) (rest := []) ⟨hx, hb, hml, hown, hts⟩ (c_X7_in l dC dI cyI cyJ cyT s.heap.size a1 (arr_0 (iI 0).toNatClampNeg) (arr_0 (iI 1).toNatClampNeg) r3 e4) (va_cwS 3 hts gX7_isNight_X7_in rfl rfl rfl (by decide +kernel) ⟨Nat.le_of_ble_eq_true rfl, Nat.le_of_ble_eq_true rfl⟩) ⟨PRE.blind, PRE.go hK hPc hDc hNW⟩ rfl rfl hl.1 rfl (lv_room (Nat.le_of_ble_eq_true rfl)) dX7_isNight_7 ⟨Nat.zero_le _, Nat.zero_le _⟩) hS (fun q _ h => hFc q h) hFc (fun z5 u t H locs ht hvm hw hB hz1 hk1 hS => ?_)
  subst z5
  obtain ⟨hP, hD⟩ := va_join (wr := [(h_p0, .inl (cyI, 452, .inl arr_0))]) (w1 := []) hP hD [] [0] rfl rfl (by decide) (by decide) hk1 hFc (WLD.P hB ht) hB.2
  have hP : va_P (dC, dI) vwCl [(h_p0, .inl (cyI, 452, .inl arr_0))] H := hP
  have hD : va_D A [(h_p0, .inl (cyI, 452, .inl arr_0))] := hD
  obtain ⟨g6, h⟩ := zsome h
  obtain rfl := Option.some.inj h
  exact W.zret (v := r3) hx hb hr (zb_nar g6) (fun t ht hW => ⟨⟨r3, (), rfl, rfl, WLD.of ht hP hD⟩, hS.F ht⟩) hS.2.2 dX7_isNight_10
