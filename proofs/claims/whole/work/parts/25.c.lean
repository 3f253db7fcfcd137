def s_X6_append (v_length : Int32) (v_codes : Nat → Int32) (a1 : Int32) : Option (Nat × Int32 × Int32 × (Nat → Int32)) := (if a1 < iI 33 then (some (1, 0, v_length, v_codes)) else (if a1 ≤ iI 126 then ((s_X4_isFull v_length).bind fun r4 => (if r4 = 0 then ((s_X4_add v_length v_codes a1).bind fun r8 => (some (0, r8.1, r8.1, r8.2))) else (some (2, 0, v_length, v_codes)))) else (some (1, 0, v_length, v_codes))))
set_option maxRecDepth 20000 in
theorem m_X6_append_0 : ∀ w ∈ (vx_atS RX6 120 "java/lang/IllegalArgumentException" ["java/lang/RuntimeException", "java/lang/Exception"]).filter goodWord, w ∈ wsX6_append := by decide +kernel
set_option maxRecDepth 20000 in
theorem m_X6_append_1 : (.classLink RX6 116 "java/lang/IllegalArgumentException" : Cond) ∈ wsX6_append := by decide +kernel
set_option maxRecDepth 20000 in
theorem m_X6_append_2 : (.initialized "java/lang/IllegalArgumentException" : Cond) ∈ wsX6_append := by decide +kernel
set_option maxRecDepth 20000 in
theorem m_X6_append_3 : ∀ w ∈ u_ws RX6 TX6 3, w ∈ wsX6_append := by decide +kernel
set_option maxRecDepth 20000 in
theorem m_X6_append_4 : (.fieldLink RX6 26 "SleeperBerths" "text" "LSleeperBerths$Text;" : Cond) ∈ wsX6_append := by decide +kernel
set_option maxRecDepth 20000 in
theorem m_X6_append_5 : ∀ w ∈ u_ws RX4 TX4 2, w ∈ wsX6_append := by decide +kernel
set_option maxRecDepth 20000 in
theorem m_X6_append_6 : (.fieldLink RX6 166 "SleeperBerths$Text" "length" "I" : Cond) ∈ wsX6_append := by decide +kernel
set_option maxRecDepth 20000 in
theorem m_X6_append_7 : ∀ w ∈ (vx_atS RX6 57 "java/lang/IllegalStateException" ["java/lang/RuntimeException", "java/lang/Exception"]).filter goodWord, w ∈ wsX6_append := by decide +kernel
set_option maxRecDepth 20000 in
theorem m_X6_append_8 : (.classLink RX6 53 "java/lang/IllegalStateException" : Cond) ∈ wsX6_append := by decide +kernel
set_option maxRecDepth 20000 in
theorem m_X6_append_9 : (.initialized "java/lang/IllegalStateException" : Cond) ∈ wsX6_append := by decide +kernel
set_option maxHeartbeats 4000000 in
set_option maxRecDepth 100000 in
theorem c_X6_append (l : Launch) (hl0 : l.stackTraces = false) (dC : Nat → ClassId) (dI : Nat → Nat → Nat) (cyI cyJ cyT : ClassId) (h_p0 : Nat) (h_p0_train : Nat) (h_p0_history : Nat) (h_p0_text : Nat) (h_p0_text_codes : Nat) (sz : Nat) (v_length : Int32) (v_codes : Nat → Int32) (a1 : Int32) (o : Nat × Int32 × Int32 × (Nat → Int32)) (h : s_X6_append v_length v_codes a1 = some o) : vx_Met l yX6_append wsX6_append ({ frames := 6, cells := 2, slots := 12, locals := 90 }) (va_Pc [.ref h_p0, .int a1] (PREX (dC, dI) (TYS cyI cyJ cyT) sz [(h_p0, .inr (6, [.ref h_p0_train, .ref h_p0_history, .ref h_p0_text])), (h_p0_text, .inr (4, [.ref h_p0_text_codes, .int v_length])), (h_p0_text_codes, .inl (cyI, 60, .inl v_codes))])) (va_Qi (S := Unit) (fun r _ => o.1 = 0 ∧ r = o.2.1) (fun _ t => WLD (dC, dI) (va_A [(h_p0, .inr (6, [.ref h_p0_train, .ref h_p0_history, .ref h_p0_text])), (h_p0_text, .inr (4, [.ref h_p0_text_codes, .int v_length])), (h_p0_text_codes, .inl (cyI, 60, .inl v_codes))] sz) [(h_p0, .inr (6, [.ref h_p0_train, .ref h_p0_history, .ref h_p0_text])), (h_p0_text, .inr (4, [.ref h_p0_text_codes, .int o.2.2.1])), (h_p0_text_codes, .inl (cyI, 60, .inl o.2.2.2))] t) (va_A [(h_p0, .inr (6, [.ref h_p0_train, .ref h_p0_history, .ref h_p0_text])), (h_p0_text, .inr (4, [.ref h_p0_text_codes, .int v_length])), (h_p0_text_codes, .inl (cyI, 60, .inl v_codes))] sz)) (vx_X (S := Unit) (fun _ => True) (fun E _ t => XWL (dC, dI) (va_A [(h_p0, .inr (6, [.ref h_p0_train, .ref h_p0_history, .ref h_p0_text])), (h_p0_text, .inr (4, [.ref h_p0_text_codes, .int v_length])), (h_p0_text_codes, .inl (cyI, 60, .inl v_codes))] sz) o.1 E [(h_p0, .inr (6, [.ref h_p0_train, .ref h_p0_history, .ref h_p0_text])), (h_p0_text, .inr (4, [.ref h_p0_text_codes, .int o.2.2.1])), (h_p0_text_codes, .inl (cyI, 60, .inl o.2.2.2))] t) (va_A [(h_p0, .inr (6, [.ref h_p0_train, .ref h_p0_history, .ref h_p0_text])), (h_p0_text, .inr (4, [.ref h_p0_text_codes, .int v_length])), (h_p0_text_codes, .inl (cyI, 60, .inl v_codes))] sz)) 2 12 (va_A [(h_p0, .inr (6, [.ref h_p0_train, .ref h_p0_history, .ref h_p0_text])), (h_p0_text, .inr (4, [.ref h_p0_text_codes, .int v_length])), (h_p0_text_codes, .inl (cyI, 60, .inl v_codes))] sz) := by
  refine vx_ofW (cc := cX6_append) (maxL := 2) (ret := (some .int)) (by decide) rfl ?_
  intro p e s m args below meth c s₁ B hml hno hv
  obtain ⟨rfl, ⟨hsz, hP, hK, hD0, hNW⟩, hXR, hXS⟩ := hv
  have hx := B.exec
  have hb := B.bytes
  have hr := B.returns
  have hts := atoms_spec (ws := wsX6_append) B.pre
  have hown : s.vm.findClass RX6 = some m.cls := findClass_of_methodNamed B.named
  have hlocks := B.notSynchronized
  subst hsz
  have hD := hD0.self (sz := s.heap.size)
  generalize hAe : va_A [(h_p0, .inr (6, [.ref h_p0_train, .ref h_p0_history, .ref h_p0_text])), (h_p0_text, .inr (4, [.ref h_p0_text_codes, .int v_length])), (h_p0_text_codes, .inl (cyI, 60, .inl v_codes))] s.heap.size = A at hD hXS ⊢
  have hA : ∀ q : Nat, s.heap.size ≤ q → A q := fun q h => by rw [← hAe]; exact Or.inr h
  have hS : va_S A s.heap s.heap [] := va_S.rf
  have hP : va_P (dC, dI) vwCl [(h_p0, .inr (6, [.ref h_p0_train, .ref h_p0_history, .ref h_p0_text])), (h_p0_text, .inr (4, [.ref h_p0_text_codes, .int v_length])), (h_p0_text_codes, .inl (cyI, 60, .inl v_codes))] s.heap := hP
  have hl := lv_entry ([.ref h_p0, .int a1]) (n := 2) (Nat.le_of_ble_eq_true rfl)
  rw [lg_entry_eq]
  generalize (lg_sl ([.ref h_p0, .int a1]) ++ List.replicate (2 - (lg_sl ([.ref h_p0, .int a1])).length) Slot.unset).toArray = ls at hl ⊢
  have hl : lv_has ls 2 [(0, .ref h_p0), (1, .int a1)] := hl
  unfold s_X6_append at h
  refine lv_iload_n hx hb dX6_append_0 rfl (lv_at hl 1 rfl) ?_
  refine lv_bipush (v := iI 33) hx hb dX6_append_1 (by decide) ?_
  refine lv_icmp_lt (tgt := 12) hx hb dX6_append_3 (by decide) (fun c1 => ?_) (fun c1 => ?_)
  · have h := ipos c1 h
    obtain rfl := Option.some.inj h
    obtain ⟨sa2, hstr⟩ := hXR.2.2 8 rfl
    exact vx_throwS (names := ["java/lang/RuntimeException", "java/lang/Exception"]) (sa := sa2) hx hb hl0 hown (by decide +kernel) (by decide +kernel) (hts (.classLink RX6 116 "java/lang/IllegalArgumentException") m_X6_append_1) (hts (.initialized "java/lang/IllegalArgumentException") m_X6_append_2) hstr (xhat hts m_X6_append_0 hXR (by decide +kernel)) (by decide +kernel) hXS.1 hXS.2 hS (hl.1.trans hml.symm) dX6_append_12 dX6_append_15 dX6_append_16 dX6_append_18 dX6_append_21 (fun x hx9 => (hno x hx9).elim) (Nat.le_of_ble_eq_true rfl) (Nat.le_of_ble_eq_true rfl) (Nat.le_of_ble_eq_true rfl) (Nat.le_of_ble_eq_true rfl) hlocks (fun t _ h1 h2 => XWL.of (show ¬ (1 : Nat) = 0 by decide) rfl hP hD hS h1 h2) hS.2.2 (Nat.le_of_ble_eq_true rfl) (Nat.le_of_ble_eq_true rfl)
  · have h := ineg c1 h
    refine lv_iload_n hx hb dX6_append_6 rfl (lv_at hl 1 rfl) ?_
    refine lv_bipush (v := iI 126) hx hb dX6_append_7 (by decide) ?_
    refine lv_icmp_le (tgt := 22) hx hb dX6_append_9 (by decide) (fun c3 => ?_) (fun c3 => ?_)
    · have h := ipos c3 h
      refine lv_aload_n hx hb dX6_append_22 rfl (lv_at hl 0 rfl) ?_
      refine va_get (D := (dC, dI)) (ci := 6) (v := .ref h_p0_text) (C := RX6) (T := TX6) (N := 3) hx hb hts m_X6_append_3 hown hK hP 0 rfl rfl 2 (by decide) (hts (.fieldLink RX6 26 "SleeperBerths" "text" "LSleeperBerths$Text;") m_X6_append_4) (fun _ h9 => h9) rfl dX6_append_23 ?_
      obtain ⟨r4, e5, h⟩ := bsome h
      have hPc := sb_P [(h_p0_text, .inr (4, [.ref h_p0_text_codes, .int v_length]))] hP [1] rfl
      have hDc := sb_D [(h_p0_text, .inr (4, [.ref h_p0_text_codes, .int v_length]))] hD [1] (by decide) rfl
      have hFc := va_free (wc := [(h_p0_text, .inr (4, [.ref h_p0_text_codes, .int v_length]))]) hD hS hA [1] rfl
      refine va_calli (va_runV (As := []) (rest := []) ⟨hx, hb, hml, hown, hts⟩ (c_X4_isFull l dC dI cyI cyJ cyT h_p0_text h_p0_text_codes s.heap.size v_length r4 e5) (cwV 0 hts gX6_append_X4_isFull rfl rfl rfl (by decide +kernel) ⟨Nat.le_of_ble_eq_true rfl, Nat.le_of_ble_eq_true rfl⟩) ⟨PRE.blind, va_recv hK hPc (ci := 4) (q0 := 0) rfl rfl, PRE.go hK hPc hDc hNW⟩ rfl rfl hl.1 rfl (lv_room (Nat.le_of_ble_eq_true rfl)) dX6_append_26 ⟨Nat.zero_le _, Nat.zero_le _⟩) hS (fun q _ h => hFc q h) hFc (fun z6 u t H locs ht hvm hw hB hz1 hk1 hS => ?_)
      subst z6
      obtain ⟨hP, hD⟩ := va_join (wr := [(h_p0, .inr (6, [.ref h_p0_train, .ref h_p0_history, .ref h_p0_text])), (h_p0_text_codes, .inl (cyI, 60, .inl v_codes))]) (w1 := [(h_p0_text, .inr (4, [.ref h_p0_text_codes, .int v_length]))]) hP hD [1] [0, 2] rfl rfl (by decide) (by decide) hk1 hFc (WLD.P hB ht) hB.2
      have hP : va_P (dC, dI) vwCl [(h_p0, .inr (6, [.ref h_p0_train, .ref h_p0_history, .ref h_p0_text])), (h_p0_text_codes, .inl (cyI, 60, .inl v_codes)), (h_p0_text, .inr (4, [.ref h_p0_text_codes, .int v_length]))] H := hP
      have hD : va_D A [(h_p0, .inr (6, [.ref h_p0_train, .ref h_p0_history, .ref h_p0_text])), (h_p0_text_codes, .inl (cyI, 60, .inl v_codes)), (h_p0_text, .inr (4, [.ref h_p0_text_codes, .int v_length]))] := hD
      refine lv_if_eq (tgt := 42) hx hb dX6_append_29 (by decide) (fun c7 => ?_) (fun c7 => ?_)
      · have h := ipos c7 h
        refine lv_aload_n hx hb dX6_append_42 rfl (lv_at hl 0 rfl) ?_
        refine va_get (D := (dC, dI)) (ci := 6) (v := .ref h_p0_text) (C := RX6) (T := TX6) (N := 3) hx hb hts m_X6_append_3 hown hK hP 0 rfl rfl 2 (by decide) (hts (.fieldLink RX6 26 "SleeperBerths" "text" "LSleeperBerths$Text;") m_X6_append_4) (fun _ h9 => h9) rfl dX6_append_43 ?_
        refine lv_iload_n hx hb dX6_append_46 rfl (lv_at hl 1 rfl) ?_
        obtain ⟨r8, e9, h⟩ := bsome h
        have hPc := sb_P [(h_p0_text, .inr (4, [.ref h_p0_text_codes, .int v_length])), (h_p0_text_codes, .inl (cyI, 60, .inl v_codes))] hP [2, 1] rfl
        have hDc := sb_D [(h_p0_text, .inr (4, [.ref h_p0_text_codes, .int v_length])), (h_p0_text_codes, .inl (cyI, 60, .inl v_codes))] hD [2, 1] (by decide) rfl
        have hFc := va_free (wc := [(h_p0_text, .inr (4, [.ref h_p0_text_codes, .int v_length])), (h_p0_text_codes, .inl (cyI, 60, .inl v_codes))]) hD hS hA [2, 1] rfl
        refine va_callv (va_runV (As := [.int a1]) (rest := []) ⟨hx, hb, hml, hown, hts⟩ (c_X4_add l dC dI cyI cyJ cyT h_p0_text h_p0_text_codes H.size v_length v_codes a1 r8 e9) (cwV 1 hts gX6_append_X4_add rfl rfl rfl (by decide +kernel) ⟨Nat.le_of_ble_eq_true rfl, Nat.le_of_ble_eq_true rfl⟩) ⟨PRE.blind, va_recv hK hPc (ci := 4) (q0 := 0) rfl rfl, PRE.go hK hPc hDc hNW⟩ rfl rfl hl.1 rfl (lv_room (Nat.le_of_ble_eq_true rfl)) dX6_append_47 ⟨Nat.zero_le _, Nat.zero_le _⟩) hS (fun q _ h => hFc q h) hFc (fun u t H locs ht hvm hw hB hz1 hk1 hS => ?_)
        obtain ⟨hP, hD⟩ := va_join (wr := [(h_p0, .inr (6, [.ref h_p0_train, .ref h_p0_history, .ref h_p0_text]))]) (w1 := [(h_p0_text, .inr (4, [.ref h_p0_text_codes, .int r8.1])), (h_p0_text_codes, .inl (cyI, 60, .inl r8.2))]) hP hD [2, 1] [0] rfl rfl (by decide) (by decide) hk1 hFc (WLD.P hB ht) hB.2
        have hP : va_P (dC, dI) vwCl [(h_p0, .inr (6, [.ref h_p0_train, .ref h_p0_history, .ref h_p0_text])), (h_p0_text, .inr (4, [.ref h_p0_text_codes, .int r8.1])), (h_p0_text_codes, .inl (cyI, 60, .inl r8.2))] H := hP
        have hD : va_D A [(h_p0, .inr (6, [.ref h_p0_train, .ref h_p0_history, .ref h_p0_text])), (h_p0_text, .inr (4, [.ref h_p0_text_codes, .int r8.1])), (h_p0_text_codes, .inl (cyI, 60, .inl r8.2))] := hD
        refine lv_aload_n hx hb dX6_append_50 rfl (lv_at hl 0 rfl) ?_
        refine va_get (D := (dC, dI)) (ci := 6) (v := .ref h_p0_text) (C := RX6) (T := TX6) (N := 3) hx hb hts m_X6_append_3 hown hK hP 0 rfl rfl 2 (by decide) (hts (.fieldLink RX6 26 "SleeperBerths" "text" "LSleeperBerths$Text;") m_X6_append_4) (fun _ h9 => h9) rfl dX6_append_51 ?_
        refine va_get (D := (dC, dI)) (ci := 4) (v := .int r8.1) (C := RX4) (T := TX4) (N := 2) hx hb hts m_X6_append_5 hown hK hP 1 rfl rfl 1 (by decide) (hts (.fieldLink RX6 166 "SleeperBerths$Text" "length" "I") m_X6_append_6) (fun _ h9 => h9) rfl dX6_append_54 ?_
        obtain rfl := Option.some.inj h
        refine W.widen (k := 2) (n := 12) (Nat.le_of_ble_eq_true rfl) (Nat.le_of_ble_eq_true rfl) ?_
        refine vx_ret ?_
        exact W.iret (v := r8.1) hx hb hr (fun t ht hW => ⟨⟨r8.1, (), rfl, ⟨rfl, rfl⟩, WLD.of ht hP hD⟩, hS.F ht⟩) hS.2.2 dX6_append_57
      · have h := ineg c7 h
        obtain rfl := Option.some.inj h
        obtain ⟨sa11, hstr⟩ := hXR.2.2 9 rfl
        exact vx_throwS (names := ["java/lang/RuntimeException", "java/lang/Exception"]) (sa := sa11) hx hb hl0 hown (by decide +kernel) (by decide +kernel) (hts (.classLink RX6 53 "java/lang/IllegalStateException") m_X6_append_8) (hts (.initialized "java/lang/IllegalStateException") m_X6_append_9) hstr (xhat hts m_X6_append_7 hXR (by decide +kernel)) (by decide +kernel) hXS.1 hXS.2 hS (hl.1.trans hml.symm) dX6_append_32 dX6_append_35 dX6_append_36 dX6_append_38 dX6_append_41 (fun x hx9 => (hno x hx9).elim) (Nat.le_of_ble_eq_true rfl) (Nat.le_of_ble_eq_true rfl) (Nat.le_of_ble_eq_true rfl) (Nat.le_of_ble_eq_true rfl) hlocks (fun t _ h1 h2 => XWL.of (show ¬ (2 : Nat) = 0 by decide) rfl (sb_P [(h_p0, .inr (6, [.ref h_p0_train, .ref h_p0_history, .ref h_p0_text])), (h_p0_text, .inr (4, [.ref h_p0_text_codes, .int v_length])), (h_p0_text_codes, .inl (cyI, 60, .inl v_codes))] hP [0, 2, 1] rfl) (sb_D [(h_p0, .inr (6, [.ref h_p0_train, .ref h_p0_history, .ref h_p0_text])), (h_p0_text, .inr (4, [.ref h_p0_text_codes, .int v_length])), (h_p0_text_codes, .inl (cyI, 60, .inl v_codes))] hD [0, 2, 1] (by decide) rfl) hS h1 h2) hS.2.2 (Nat.le_of_ble_eq_true rfl) (Nat.le_of_ble_eq_true rfl)
    · have h := ineg c3 h
      obtain rfl := Option.some.inj h
      obtain ⟨sa12, hstr⟩ := hXR.2.2 8 rfl
      exact vx_throwS (names := ["java/lang/RuntimeException", "java/lang/Exception"]) (sa := sa12) hx hb hl0 hown (by decide +kernel) (by decide +kernel) (hts (.classLink RX6 116 "java/lang/IllegalArgumentException") m_X6_append_1) (hts (.initialized "java/lang/IllegalArgumentException") m_X6_append_2) hstr (xhat hts m_X6_append_0 hXR (by decide +kernel)) (by decide +kernel) hXS.1 hXS.2 hS (hl.1.trans hml.symm) dX6_append_12 dX6_append_15 dX6_append_16 dX6_append_18 dX6_append_21 (fun x hx9 => (hno x hx9).elim) (Nat.le_of_ble_eq_true rfl) (Nat.le_of_ble_eq_true rfl) (Nat.le_of_ble_eq_true rfl) (Nat.le_of_ble_eq_true rfl) hlocks (fun t _ h1 h2 => XWL.of (show ¬ (1 : Nat) = 0 by decide) rfl hP hD hS h1 h2) hS.2.2 (Nat.le_of_ble_eq_true rfl) (Nat.le_of_ble_eq_true rfl)
def s_X4_empty (v_length : Int32) : Option (Int32 × Int32) := (some (v_length, iI 0))
set_option maxRecDepth 20000 in
theorem m_X4_empty_0 : ∀ w ∈ u_ws RX4 TX4 2, w ∈ wsX4_empty := by decide +kernel
set_option maxRecDepth 20000 in
theorem m_X4_empty_1 : (.fieldLink RX4 15 "SleeperBerths$Text" "length" "I" : Cond) ∈ wsX4_empty := by decide +kernel
set_option maxHeartbeats 4000000 in
set_option maxRecDepth 100000 in
theorem c_X4_empty (l : Launch) (dC : Nat → ClassId) (dI : Nat → Nat → Nat) (cyI cyJ cyT : ClassId) (h_p0 : Nat) (h_p0_codes : Nat) (sz : Nat) (v_length : Int32) (o : Int32 × Int32) (h : s_X4_empty v_length = some o) : Met l yX4_empty wsX4_empty ({ frames := 0, cells := 0, slots := 0, locals := 0 }) (va_Pc [.ref h_p0] (PRE (dC, dI) (TYS cyI cyJ cyT) sz [(h_p0, .inr (4, [.ref h_p0_codes, .int v_length]))])) (va_Qi (S := Unit) (fun r _ => r = o.1) (fun _ t => WLD (dC, dI) (va_A [(h_p0, .inr (4, [.ref h_p0_codes, .int v_length]))] sz) [(h_p0, .inr (4, [.ref h_p0_codes, .int o.2]))] t) (va_A [(h_p0, .inr (4, [.ref h_p0_codes, .int v_length]))] sz)) 0 0 (va_A [(h_p0, .inr (4, [.ref h_p0_codes, .int v_length]))] sz) := by
  refine Met.ofW (cc := cX4_empty) (maxL := 2) (ret := (some .int)) (by decide) rfl ?_
  intro p e s m args below meth c s₁ B hml hv
  obtain ⟨rfl, hsz, hP, hK, hD0, hNW⟩ := hv
  have hx := B.exec
  have hb := B.bytes
  have hr := B.returns
  have hts := atoms_spec (ws := wsX4_empty) B.pre
  have hown : s.vm.findClass RX4 = some m.cls := findClass_of_methodNamed B.named
  have hlocks := B.notSynchronized
  subst hsz
  have hD := hD0.self (sz := s.heap.size)
  generalize hAe : va_A [(h_p0, .inr (4, [.ref h_p0_codes, .int v_length]))] s.heap.size = A at hD ⊢
  have hA : ∀ q : Nat, s.heap.size ≤ q → A q := fun q h => by rw [← hAe]; exact Or.inr h
  have hS : va_S A s.heap s.heap [] := va_S.rf
  have hP : va_P (dC, dI) vwCl [(h_p0, .inr (4, [.ref h_p0_codes, .int v_length]))] s.heap := hP
  have hl := lv_entry ([.ref h_p0]) (n := 2) (Nat.le_of_ble_eq_true rfl)
  rw [lg_entry_eq]
  generalize (lg_sl ([.ref h_p0]) ++ List.replicate (2 - (lg_sl ([.ref h_p0])).length) Slot.unset).toArray = ls at hl ⊢
  have hl : lv_has ls 2 [(0, .ref h_p0)] := hl
  unfold s_X4_empty at h
  refine lv_aload_n hx hb dX4_empty_0 rfl (lv_at hl 0 rfl) ?_
  refine va_get (D := (dC, dI)) (ci := 4) (v := .int v_length) (C := RX4) (T := TX4) (N := 2) hx hb hts m_X4_empty_0 hown hK hP 0 rfl rfl 1 (by decide) (hts (.fieldLink RX4 15 "SleeperBerths$Text" "length" "I") m_X4_empty_1) (fun _ h9 => h9) rfl dX4_empty_1 ?_
  refine lv_istore_n hx hb dX4_empty_4 rfl hl (by decide) (rfl : _ = ([(1, .int v_length), (0, .ref h_p0)] : List (Nat × Value))) (fun ls hl => ?_)
  refine lv_aload_n hx hb dX4_empty_5 rfl (lv_at hl 1 rfl) ?_
  refine lv_iconst (v := iI 0) hx hb dX4_empty_6 rfl ?_
  refine va_put (D := (dC, dI)) (ci := 4) (v := .int (iI 0)) (ty := .int) (C := RX4) (T := TX4) (N := 2) hx hb hts m_X4_empty_0 tyX4 tyX4_ok nmX4 hown hK hP hD hS 0 rfl rfl 1 (by decide) (hts (.fieldLink RX4 15 "SleeperBerths$Text" "length" "I") m_X4_empty_1) (fun _ h9 => h9) rfl (by decide +kernel) rfl rfl (Nat.le_of_ble_eq_true rfl) dX4_empty_7 (fun H locs hP hD hS => ?_)
  have hP : va_P (dC, dI) vwCl [(h_p0, .inr (4, [.ref h_p0_codes, .int (iI 0)]))] H := hP
  have hD : va_D A [(h_p0, .inr (4, [.ref h_p0_codes, .int (iI 0)]))] := hD
  refine lv_iload_n hx hb dX4_empty_10 rfl (lv_at hl 0 rfl) ?_
  obtain rfl := Option.some.inj h
  exact W.iret (v := v_length) hx hb hr (fun t ht hW => ⟨⟨v_length, (), rfl, rfl, WLD.of ht hP hD⟩, hS.F ht⟩) hS.2.2 dX4_empty_11
def s_X6_clearBuffer (v_length : Int32) : Option (Int32 × Int32) := ((s_X4_empty v_length).bind fun r1 => (some (r1.1, r1.2)))
set_option maxRecDepth 20000 in
theorem m_X6_clearBuffer_0 : ∀ w ∈ u_ws RX6 TX6 3, w ∈ wsX6_clearBuffer := by decide +kernel
set_option maxRecDepth 20000 in
theorem m_X6_clearBuffer_1 : (.fieldLink RX6 26 "SleeperBerths" "text" "LSleeperBerths$Text;" : Cond) ∈ wsX6_clearBuffer := by decide +kernel
set_option maxHeartbeats 4000000 in
set_option maxRecDepth 100000 in
theorem c_X6_clearBuffer (l : Launch) (dC : Nat → ClassId) (dI : Nat → Nat → Nat) (cyI cyJ cyT : ClassId) (h_p0 : Nat) (h_p0_train : Nat) (h_p0_history : Nat) (h_p0_text : Nat) (h_p0_text_codes : Nat) (sz : Nat) (v_length : Int32) (o : Int32 × Int32) (h : s_X6_clearBuffer v_length = some o) : Met l yX6_clearBuffer wsX6_clearBuffer ({ frames := 1, cells := 0, slots := 0, locals := 21 }) (va_Pc [.ref h_p0] (PRE (dC, dI) (TYS cyI cyJ cyT) sz [(h_p0, .inr (6, [.ref h_p0_train, .ref h_p0_history, .ref h_p0_text])), (h_p0_text, .inr (4, [.ref h_p0_text_codes, .int v_length]))])) (va_Qi (S := Unit) (fun r _ => r = o.1) (fun _ t => WLD (dC, dI) (va_A [(h_p0, .inr (6, [.ref h_p0_train, .ref h_p0_history, .ref h_p0_text])), (h_p0_text, .inr (4, [.ref h_p0_text_codes, .int v_length]))] sz) [(h_p0, .inr (6, [.ref h_p0_train, .ref h_p0_history, .ref h_p0_text])), (h_p0_text, .inr (4, [.ref h_p0_text_codes, .int o.2]))] t) (va_A [(h_p0, .inr (6, [.ref h_p0_train, .ref h_p0_history, .ref h_p0_text])), (h_p0_text, .inr (4, [.ref h_p0_text_codes, .int v_length]))] sz)) 0 0 (va_A [(h_p0, .inr (6, [.ref h_p0_train, .ref h_p0_history, .ref h_p0_text])), (h_p0_text, .inr (4, [.ref h_p0_text_codes, .int v_length]))] sz) := by
  refine Met.ofW (cc := cX6_clearBuffer) (maxL := 1) (ret := (some .int)) (by decide) rfl ?_
  intro p e s m args below meth c s₁ B hml hv
  obtain ⟨rfl, hsz, hP, hK, hD0, hNW⟩ := hv
  have hx := B.exec
  have hb := B.bytes
  have hr := B.returns
  have hts := atoms_spec (ws := wsX6_clearBuffer) B.pre
  have hown : s.vm.findClass RX6 = some m.cls := findClass_of_methodNamed B.named
  have hlocks := B.notSynchronized
  subst hsz
  have hD := hD0.self (sz := s.heap.size)
  generalize hAe : va_A [(h_p0, .inr (6, [.ref h_p0_train, .ref h_p0_history, .ref h_p0_text])), (h_p0_text, .inr (4, [.ref h_p0_text_codes, .int v_length]))] s.heap.size = A at hD ⊢
  have hA : ∀ q : Nat, s.heap.size ≤ q → A q := fun q h => by rw [← hAe]; exact Or.inr h
  have hS : va_S A s.heap s.heap [] := va_S.rf
  have hP : va_P (dC, dI) vwCl [(h_p0, .inr (6, [.ref h_p0_train, .ref h_p0_history, .ref h_p0_text])), (h_p0_text, .inr (4, [.ref h_p0_text_codes, .int v_length]))] s.heap := hP
  have hl := lv_entry ([.ref h_p0]) (n := 1) (Nat.le_of_ble_eq_true rfl)
  rw [lg_entry_eq]
  generalize (lg_sl ([.ref h_p0]) ++ List.replicate (1 - (lg_sl ([.ref h_p0])).length) Slot.unset).toArray = ls at hl ⊢
  have hl : lv_has ls 1 [(0, .ref h_p0)] := hl
  unfold s_X6_clearBuffer at h
  refine lv_aload_n hx hb dX6_clearBuffer_0 rfl (lv_at hl 0 rfl) ?_
  refine va_get (D := (dC, dI)) (ci := 6) (v := .ref h_p0_text) (C := RX6) (T := TX6) (N := 3) hx hb hts m_X6_clearBuffer_0 hown hK hP 0 rfl rfl 2 (by decide) (hts (.fieldLink RX6 26 "SleeperBerths" "text" "LSleeperBerths$Text;") m_X6_clearBuffer_1) (fun _ h9 => h9) rfl dX6_clearBuffer_1 ?_
  obtain ⟨r1, e2, h⟩ := bsome h
  have hPc := sb_P [(h_p0_text, .inr (4, [.ref h_p0_text_codes, .int v_length]))] hP [1] rfl
  have hDc := sb_D [(h_p0_text, .inr (4, [.ref h_p0_text_codes, .int v_length]))] hD [1] (by decide) rfl
  have hFc := va_free (wc := [(h_p0_text, .inr (4, [.ref h_p0_text_codes, .int v_length]))]) hD hS hA [1] rfl
  refine va_calli (va_runV (As := []) (rest := []) ⟨hx, hb, hml, hown, hts⟩ (c_X4_empty l dC dI cyI cyJ cyT h_p0_text h_p0_text_codes s.heap.size v_length r1 e2) (cwV 0 hts gX6_clearBuffer_X4_empty rfl rfl rfl (by decide +kernel) ⟨Nat.le_of_ble_eq_true rfl, Nat.le_of_ble_eq_true rfl⟩) ⟨PRE.blind, va_recv hK hPc (ci := 4) (q0 := 0) rfl rfl, PRE.go hK hPc hDc hNW⟩ rfl rfl hl.1 rfl (lv_room (Nat.le_of_ble_eq_true rfl)) dX6_clearBuffer_4 ⟨Nat.zero_le _, Nat.zero_le _⟩) hS (fun q _ h => hFc q h) hFc (fun z3 u t H locs ht hvm hw hB hz1 hk1 hS => ?_)
  subst z3
  obtain ⟨hP, hD⟩ := va_join (wr := [(h_p0, .inr (6, [.ref h_p0_train, .ref h_p0_history, .ref h_p0_text]))]) (w1 := [(h_p0_text, .inr (4, [.ref h_p0_text_codes, .int r1.2]))]) hP hD [1] [0] rfl rfl (by decide) (by decide) hk1 hFc (WLD.P hB ht) hB.2
  have hP : va_P (dC, dI) vwCl [(h_p0, .inr (6, [.ref h_p0_train, .ref h_p0_history, .ref h_p0_text])), (h_p0_text, .inr (4, [.ref h_p0_text_codes, .int r1.2]))] H := hP
  have hD : va_D A [(h_p0, .inr (6, [.ref h_p0_train, .ref h_p0_history, .ref h_p0_text])), (h_p0_text, .inr (4, [.ref h_p0_text_codes, .int r1.2]))] := hD
  obtain rfl := Option.some.inj h
  exact W.iret (v := r1.1) hx hb hr (fun t ht hW => ⟨⟨r1.1, (), rfl, rfl, WLD.of ht hP hD⟩, hS.F ht⟩) hS.2.2 dX6_clearBuffer_7
def s_X4_codeAt (v_length : Int32) (v_codes : Nat → Int32) (a1 : Int32) : Option (Int32) := (if v_length ≤ a1 then (some (iI (-1))) else ((s_X6_read 60 v_codes a1).bind fun r2 => (some (r2))))
set_option maxRecDepth 20000 in
theorem m_X4_codeAt_0 : ∀ w ∈ u_ws RX4 TX4 2, w ∈ wsX4_codeAt := by decide +kernel
set_option maxRecDepth 20000 in
theorem m_X4_codeAt_1 : (.fieldLink RX4 15 "SleeperBerths$Text" "length" "I" : Cond) ∈ wsX4_codeAt := by decide +kernel
set_option maxRecDepth 20000 in
theorem m_X4_codeAt_2 : (.fieldLink RX4 9 "SleeperBerths$Text" "codes" "[I" : Cond) ∈ wsX4_codeAt := by decide +kernel
set_option maxRecDepth 20000 in
theorem m_X4_codeAt_3 : (.initialized RX6 : Cond) ∈ wsX4_codeAt := by decide +kernel
set_option maxRecDepth 20000 in
theorem m_X4_codeAt_4 : (.static yX6_read : Cond) ∈ wsX4_codeAt := by decide +kernel
set_option maxHeartbeats 4000000 in
set_option maxRecDepth 100000 in
theorem c_X4_codeAt (l : Launch) (dC : Nat → ClassId) (dI : Nat → Nat → Nat) (cyI cyJ cyT : ClassId) (h_p0 : Nat) (h_p0_codes : Nat) (sz : Nat) (v_length : Int32) (v_codes : Nat → Int32) (a1 : Int32) (o : Int32) (h : s_X4_codeAt v_length v_codes a1 = some o) : Met l yX4_codeAt wsX4_codeAt ({ frames := 1, cells := 0, slots := 0, locals := 21 }) (va_Pc [.ref h_p0, .int a1] (PRE (dC, dI) (TYS cyI cyJ cyT) sz [(h_p0, .inr (4, [.ref h_p0_codes, .int v_length])), (h_p0_codes, .inl (cyI, 60, .inl v_codes))])) (va_Qi (S := Unit) (fun r _ => r = o) (fun _ t => WLD (dC, dI) (va_A [(h_p0, .inr (4, [.ref h_p0_codes, .int v_length])), (h_p0_codes, .inl (cyI, 60, .inl v_codes))] sz) [(h_p0, .inr (4, [.ref h_p0_codes, .int v_length])), (h_p0_codes, .inl (cyI, 60, .inl v_codes))] t) (va_A [(h_p0, .inr (4, [.ref h_p0_codes, .int v_length])), (h_p0_codes, .inl (cyI, 60, .inl v_codes))] sz)) 0 0 (va_A [(h_p0, .inr (4, [.ref h_p0_codes, .int v_length])), (h_p0_codes, .inl (cyI, 60, .inl v_codes))] sz) := by
  refine Met.ofW (cc := cX4_codeAt) (maxL := 2) (ret := (some .int)) (by decide) rfl ?_
  intro p e s m args below meth c s₁ B hml hv
  obtain ⟨rfl, hsz, hP, hK, hD0, hNW⟩ := hv
  have hx := B.exec
  have hb := B.bytes
  have hr := B.returns
  have hts := atoms_spec (ws := wsX4_codeAt) B.pre
  have hown : s.vm.findClass RX4 = some m.cls := findClass_of_methodNamed B.named
  have hlocks := B.notSynchronized
  subst hsz
  have hD := hD0.self (sz := s.heap.size)
  generalize hAe : va_A [(h_p0, .inr (4, [.ref h_p0_codes, .int v_length])), (h_p0_codes, .inl (cyI, 60, .inl v_codes))] s.heap.size = A at hD ⊢
  have hA : ∀ q : Nat, s.heap.size ≤ q → A q := fun q h => by rw [← hAe]; exact Or.inr h
  have hS : va_S A s.heap s.heap [] := va_S.rf
  have hP : va_P (dC, dI) vwCl [(h_p0, .inr (4, [.ref h_p0_codes, .int v_length])), (h_p0_codes, .inl (cyI, 60, .inl v_codes))] s.heap := hP
  have hl := lv_entry ([.ref h_p0, .int a1]) (n := 2) (Nat.le_of_ble_eq_true rfl)
  rw [lg_entry_eq]
  generalize (lg_sl ([.ref h_p0, .int a1]) ++ List.replicate (2 - (lg_sl ([.ref h_p0, .int a1])).length) Slot.unset).toArray = ls at hl ⊢
  have hl : lv_has ls 2 [(0, .ref h_p0), (1, .int a1)] := hl
  unfold s_X4_codeAt at h
  refine lv_iload_n hx hb dX4_codeAt_0 rfl (lv_at hl 1 rfl) ?_
  refine lv_aload_n hx hb dX4_codeAt_1 rfl (lv_at hl 0 rfl) ?_
  refine va_get (D := (dC, dI)) (ci := 4) (v := .int v_length) (C := RX4) (T := TX4) (N := 2) hx hb hts m_X4_codeAt_0 hown hK hP 0 rfl rfl 1 (by decide) (hts (.fieldLink RX4 15 "SleeperBerths$Text" "length" "I") m_X4_codeAt_1) (fun _ h9 => h9) rfl dX4_codeAt_2 ?_
  refine lv_icmp_ge (tgt := 19) hx hb dX4_codeAt_5 (by decide) (fun c1 => ?_) (fun c1 => ?_)
  · have h := ipos c1 h
    refine lv_iconst (v := iI (-1)) hx hb dX4_codeAt_19 rfl ?_
    obtain rfl := Option.some.inj h
    exact W.iret (v := iI (-1)) hx hb hr (fun t ht hW => ⟨⟨iI (-1), (), rfl, rfl, WLD.of ht hP hD⟩, hS.F ht⟩) hS.2.2 dX4_codeAt_20
  · have h := ineg c1 h
    refine lv_aload_n hx hb dX4_codeAt_8 rfl (lv_at hl 0 rfl) ?_
    refine va_get (D := (dC, dI)) (ci := 4) (v := .ref h_p0_codes) (C := RX4) (T := TX4) (N := 2) hx hb hts m_X4_codeAt_0 hown hK hP 0 rfl rfl 0 (by decide) (hts (.fieldLink RX4 9 "SleeperBerths$Text" "codes" "[I") m_X4_codeAt_2) (fun _ h9 => h9) rfl dX4_codeAt_9 ?_
    refine lv_iload_n hx hb dX4_codeAt_12 rfl (lv_at hl 1 rfl) ?_
    obtain ⟨r2, e3, h⟩ := bsome h
    have hPc := sb_P [(h_p0_codes, .inl (cyI, 60, .inl v_codes))] hP [1] rfl
    have hDc := sb_D [(h_p0_codes, .inl (cyI, 60, .inl v_codes))] hD [1] (by decide) rfl
    have hFc := va_free (wc := [(h_p0_codes, .inl (cyI, 60, .inl v_codes))]) hD hS hA [1] rfl
    refine va_calli (va_runSN (As := [.ref h_p0_codes, .int a1]) (rest := []) ⟨hx, hb, hml, hown, hts⟩ (c_X6_read l dC dI cyI cyJ cyT h_p0_codes s.heap.size 60 v_codes a1 r2 e3) ⟨va_cnB (host := "SleeperBerths") 2 hts gX4_codeAt_X6_read_n23 rfl rfl rfl (hNW.1 4 rfl) (hts (.initialized RX6) m_X4_codeAt_3) (by decide +kernel) ⟨Nat.le_of_ble_eq_true rfl, Nat.le_of_ble_eq_true rfl⟩, (hts (.static yX6_read) m_X4_codeAt_4), trivial⟩ ⟨PRE.blind, PRE.go hK hPc hDc hNW⟩ rfl rfl hl.1 rfl (lv_room (Nat.le_of_ble_eq_true rfl)) dX4_codeAt_13 ⟨Nat.zero_le _, Nat.zero_le _⟩) hS (fun q _ h => hFc q h) hFc (fun z4 u t H locs ht hvm hw hB hz1 hk1 hS => ?_)
    subst z4
    obtain ⟨hP, hD⟩ := va_join (wr := [(h_p0, .inr (4, [.ref h_p0_codes, .int v_length]))]) (w1 := [(h_p0_codes, .inl (cyI, 60, .inl v_codes))]) hP hD [1] [0] rfl rfl (by decide) (by decide) hk1 hFc (WLD.P hB ht) hB.2
    have hP : va_P (dC, dI) vwCl [(h_p0, .inr (4, [.ref h_p0_codes, .int v_length])), (h_p0_codes, .inl (cyI, 60, .inl v_codes))] H := hP
    have hD : va_D A [(h_p0, .inr (4, [.ref h_p0_codes, .int v_length])), (h_p0_codes, .inl (cyI, 60, .inl v_codes))] := hD
    refine lv_goto (tgt := 20) hx hb dX4_codeAt_16 (by decide) ?_
    obtain rfl := Option.some.inj h
    exact W.iret (v := r2) hx hb hr (fun t ht hW => ⟨⟨r2, (), rfl, rfl, WLD.of ht hP hD⟩, hS.F ht⟩) hS.2.2 dX4_codeAt_20
def s_X4_fits (v_length : Int32) (v_codes : Nat → Int32) (a1 : Int32) (a2 : Int32) : Option (Int32) := ((s_X4_codeAt v_length v_codes a1).bind fun r1 => (if a2 = iI 0 then (if r1 < iI 48 then (some (iI 0)) else (if iI 56 < r1 then (some (iI 0)) else (some (iI 1)))) else (if a2 = iI 1 then (if r1 = iI 45 then (some (iI 1)) else (some (iI 0))) else (if a2 = iI 2 then ((s_X4_codeAt v_length v_codes (a1 - iI 2)).bind fun r10 => (if r1 ≤ r10 then (some (iI 0)) else (if iI 57 < r1 then (some (iI 0)) else (some (iI 1))))) else (if a2 = iI 3 then (if r1 = iI 33 then (some (iI 1)) else (if r1 = iI 59 then (some (iI 1)) else (some (iI 0)))) else (if r1 = iI 59 then (some (iI 1)) else (some (iI 0))))))))
set_option maxHeartbeats 4000000 in
set_option maxRecDepth 100000 in
theorem c_X4_fits (l : Launch) (dC : Nat → ClassId) (dI : Nat → Nat → Nat) (cyI cyJ cyT : ClassId) (h_p0 : Nat) (h_p0_codes : Nat) (sz : Nat) (v_length : Int32) (v_codes : Nat → Int32) (a1 : Int32) (a2 : Int32) (o : Int32) (h : s_X4_fits v_length v_codes a1 a2 = some o) : Met l yX4_fits wsX4_fits ({ frames := 2, cells := 0, slots := 0, locals := 42 }) (va_Pc [.ref h_p0, .int a1, .int a2] (PRE (dC, dI) (TYS cyI cyJ cyT) sz [(h_p0, .inr (4, [.ref h_p0_codes, .int v_length])), (h_p0_codes, .inl (cyI, 60, .inl v_codes))])) (va_Qi (S := Unit) (fun r _ => r = o) (fun _ t => WLD (dC, dI) (va_A [(h_p0, .inr (4, [.ref h_p0_codes, .int v_length])), (h_p0_codes, .inl (cyI, 60, .inl v_codes))] sz) [(h_p0, .inr (4, [.ref h_p0_codes, .int v_length])), (h_p0_codes, .inl (cyI, 60, .inl v_codes))] t) (va_A [(h_p0, .inr (4, [.ref h_p0_codes, .int v_length])), (h_p0_codes, .inl (cyI, 60, .inl v_codes))] sz)) 0 0 (va_A [(h_p0, .inr (4, [.ref h_p0_codes, .int v_length])), (h_p0_codes, .inl (cyI, 60, .inl v_codes))] sz) := by
  refine Met.ofW (cc := cX4_fits) (maxL := 4) (ret := (some .boolean)) (by decide) rfl ?_
  intro p e s m args below meth c s₁ B hml hv
  obtain ⟨rfl, hsz, hP, hK, hD0, hNW⟩ := hv
  have hx := B.exec
  have hb := B.bytes
  have hr := B.returns
  have hts := atoms_spec (ws := wsX4_fits) B.pre
  have hown : s.vm.findClass RX4 = some m.cls := findClass_of_methodNamed B.named
  have hlocks := B.notSynchronized
  subst hsz
  have hD := hD0.self (sz := s.heap.size)
  generalize hAe : va_A [(h_p0, .inr (4, [.ref h_p0_codes, .int v_length])), (h_p0_codes, .inl (cyI, 60, .inl v_codes))] s.heap.size = A at hD ⊢
  have hA : ∀ q : Nat, s.heap.size ≤ q → A q := fun q h => by rw [← hAe]; exact Or.inr h
  have hS : va_S A s.heap s.heap [] := va_S.rf
  have hP : va_P (dC, dI) vwCl [(h_p0, .inr (4, [.ref h_p0_codes, .int v_length])), (h_p0_codes, .inl (cyI, 60, .inl v_codes))] s.heap := hP
  have hl := lv_entry ([.ref h_p0, .int a1, .int a2]) (n := 4) (Nat.le_of_ble_eq_true rfl)
  rw [lg_entry_eq]
  generalize (lg_sl ([.ref h_p0, .int a1, .int a2]) ++ List.replicate (4 - (lg_sl ([.ref h_p0, .int a1, .int a2])).length) Slot.unset).toArray = ls at hl ⊢
  have hl : lv_has ls 4 [(0, .ref h_p0), (1, .int a1), (2, .int a2)] := hl
  unfold s_X4_fits at h
  refine lv_aload_n hx hb dX4_fits_0 rfl (lv_at hl 0 rfl) ?_
  refine lv_iload_n hx hb dX4_fits_1 rfl (lv_at hl 1 rfl) ?_
  obtain ⟨r1, e2, h⟩ := bsome h
  have hPc := sb_P [(h_p0, .inr (4, [.ref h_p0_codes, .int v_length])), (h_p0_codes, .inl (cyI, 60, .inl v_codes))] hP [0, 1] rfl
  have hDc := sb_D [(h_p0, .inr (4, [.ref h_p0_codes, .int v_length])), (h_p0_codes, .inl (cyI, 60, .inl v_codes))] hD [0, 1] (by decide) rfl
  have hFc := va_free (wc := [(h_p0, .inr (4, [.ref h_p0_codes, .int v_length])), (h_p0_codes, .inl (cyI, 60, .inl v_codes))]) hD hS hA [0, 1] rfl
  refine va_calli (va_runV (As := [.int a1]) (rest := []) ⟨hx, hb, hml, hown, hts⟩ (c_X4_codeAt l dC dI cyI cyJ cyT h_p0 h_p0_codes s.heap.size v_length v_codes a1 r1 e2) (cwV 1 hts gX4_fits_X4_codeAt rfl rfl rfl (by decide +kernel) ⟨Nat.le_of_ble_eq_true rfl, Nat.le_of_ble_eq_true rfl⟩) ⟨PRE.blind, va_recv hK hPc (ci := 4) (q0 := 0) rfl rfl, PRE.go hK hPc hDc hNW⟩ rfl rfl hl.1 rfl (lv_room (Nat.le_of_ble_eq_true rfl)) dX4_fits_2 ⟨Nat.zero_le _, Nat.zero_le _⟩) hS (fun q _ h => hFc q h) hFc (fun z3 u t H locs ht hvm hw hB hz1 hk1 hS => ?_)
  subst z3
  obtain ⟨hP, hD⟩ := va_join (wr := []) (w1 := [(h_p0, .inr (4, [.ref h_p0_codes, .int v_length])), (h_p0_codes, .inl (cyI, 60, .inl v_codes))]) hP hD [0, 1] [] rfl rfl (by decide) (by decide) hk1 hFc (WLD.P hB ht) hB.2
  have hP : va_P (dC, dI) vwCl [(h_p0, .inr (4, [.ref h_p0_codes, .int v_length])), (h_p0_codes, .inl (cyI, 60, .inl v_codes))] H := hP
  have hD : va_D A [(h_p0, .inr (4, [.ref h_p0_codes, .int v_length])), (h_p0_codes, .inl (cyI, 60, .inl v_codes))] := hD
  refine lv_istore_n hx hb dX4_fits_5 rfl hl (by decide) (rfl : _ = ([(3, .int r1), (0, .ref h_p0), (1, .int a1), (2, .int a2)] : List (Nat × Value))) (fun ls hl => ?_)
  refine lv_iload_n hx hb dX4_fits_6 rfl (lv_at hl 3 rfl) ?_
  by_cases c4 : a2 = iI 0
  · have h := ipos c4 h
    refine lv_tableIn (tgt := 36) (off := 29) hx hb dX4_fits_7 (by rw [c4]; decide) (by rw [c4]; decide) (by rw [c4]; rfl) (by decide) ?_
    refine lv_iload_n hx hb dX4_fits_36 rfl (lv_at hl 0 rfl) ?_
    refine lv_bipush (v := iI 48) hx hb dX4_fits_37 (by decide) ?_
    refine lv_icmp_lt (tgt := 52) hx hb dX4_fits_39 (by decide) (fun c5 => ?_) (fun c5 => ?_)
    · have h := ipos c5 h
      refine lv_iconst (v := iI 0) hx hb dX4_fits_52 rfl ?_
      obtain rfl := Option.some.inj h
      exact W.zret (v := iI 0) hx hb hr (by decide) (fun t ht hW => ⟨⟨iI 0, (), rfl, rfl, WLD.of ht hP hD⟩, hS.F ht⟩) hS.2.2 dX4_fits_53
    · have h := ineg c5 h
      refine lv_iload_n hx hb dX4_fits_42 rfl (lv_at hl 0 rfl) ?_
      refine lv_bipush (v := iI 56) hx hb dX4_fits_43 (by decide) ?_
      refine lv_icmp_gt (tgt := 52) hx hb dX4_fits_45 (by decide) (fun c6 => ?_) (fun c6 => ?_)
      · have h := ipos c6 h
        refine lv_iconst (v := iI 0) hx hb dX4_fits_52 rfl ?_
        obtain rfl := Option.some.inj h
        exact W.zret (v := iI 0) hx hb hr (by decide) (fun t ht hW => ⟨⟨iI 0, (), rfl, rfl, WLD.of ht hP hD⟩, hS.F ht⟩) hS.2.2 dX4_fits_53
      · have h := ineg c6 h
        refine lv_iconst (v := iI 1) hx hb dX4_fits_48 rfl ?_
        refine lv_goto (tgt := 53) hx hb dX4_fits_49 (by decide) ?_
        obtain rfl := Option.some.inj h
        exact W.zret (v := iI 1) hx hb hr (by decide) (fun t ht hW => ⟨⟨iI 1, (), rfl, rfl, WLD.of ht hP hD⟩, hS.F ht⟩) hS.2.2 dX4_fits_53
  · have h := ineg c4 h
    by_cases c7 : a2 = iI 1
    · have h := ipos c7 h
      refine lv_tableIn (tgt := 54) (off := 47) hx hb dX4_fits_7 (by rw [c7]; decide) (by rw [c7]; decide) (by rw [c7]; rfl) (by decide) ?_
      refine lv_iload_n hx hb dX4_fits_54 rfl (lv_at hl 0 rfl) ?_
      refine lv_bipush (v := iI 45) hx hb dX4_fits_55 (by decide) ?_
      refine lv_icmp_ne (tgt := 64) hx hb dX4_fits_57 (by decide) (fun c8 => ?_) (fun c8 => ?_)
      · have h := ineg c8 h
        refine lv_iconst (v := iI 0) hx hb dX4_fits_64 rfl ?_
        obtain rfl := Option.some.inj h
        exact W.zret (v := iI 0) hx hb hr (by decide) (fun t ht hW => ⟨⟨iI 0, (), rfl, rfl, WLD.of ht hP hD⟩, hS.F ht⟩) hS.2.2 dX4_fits_65
      · have h := ipos c8 h
        refine lv_iconst (v := iI 1) hx hb dX4_fits_60 rfl ?_
        refine lv_goto (tgt := 65) hx hb dX4_fits_61 (by decide) ?_
        obtain rfl := Option.some.inj h
        exact W.zret (v := iI 1) hx hb hr (by decide) (fun t ht hW => ⟨⟨iI 1, (), rfl, rfl, WLD.of ht hP hD⟩, hS.F ht⟩) hS.2.2 dX4_fits_65
    · have h := ineg c7 h
      by_cases c9 : a2 = iI 2
      · have h := ipos c9 h
        refine lv_tableIn (tgt := 66) (off := 59) hx hb dX4_fits_7 (by rw [c9]; decide) (by rw [c9]; decide) (by rw [c9]; rfl) (by decide) ?_
        refine lv_iload_n hx hb dX4_fits_66 rfl (lv_at hl 0 rfl) ?_
        refine lv_aload_n hx hb dX4_fits_67 rfl (lv_at hl 1 rfl) ?_
        refine lv_iload_n hx hb dX4_fits_68 rfl (lv_at hl 2 rfl) ?_
        refine lv_iconst (v := iI 2) hx hb dX4_fits_69 rfl ?_
        refine lv_isub hx hb dX4_fits_70 ?_
        obtain ⟨r10, e11, h⟩ := bsome h
        have hPc := sb_P [(h_p0, .inr (4, [.ref h_p0_codes, .int v_length])), (h_p0_codes, .inl (cyI, 60, .inl v_codes))] hP [0, 1] rfl
        have hDc := sb_D [(h_p0, .inr (4, [.ref h_p0_codes, .int v_length])), (h_p0_codes, .inl (cyI, 60, .inl v_codes))] hD [0, 1] (by decide) rfl
        have hFc := va_free (wc := [(h_p0, .inr (4, [.ref h_p0_codes, .int v_length])), (h_p0_codes, .inl (cyI, 60, .inl v_codes))]) hD hS hA [0, 1] rfl
        refine va_calli (va_runV (As := [.int (a1 - iI 2)]) (rest := [.int r1]) ⟨hx, hb, hml, hown, hts⟩ (c_X4_codeAt l dC dI cyI cyJ cyT h_p0 h_p0_codes H.size v_length v_codes (a1 - iI 2) r10 e11) (cwV 1 hts gX4_fits_X4_codeAt rfl rfl rfl (by decide +kernel) ⟨Nat.le_of_ble_eq_true rfl, Nat.le_of_ble_eq_true rfl⟩) ⟨PRE.blind, va_recv hK hPc (ci := 4) (q0 := 0) rfl rfl, PRE.go hK hPc hDc hNW⟩ rfl rfl hl.1 rfl (lv_room (Nat.le_of_ble_eq_true rfl)) dX4_fits_71 ⟨Nat.zero_le _, Nat.zero_le _⟩) hS (fun q _ h => hFc q h) hFc (fun z12 u t H locs ht hvm hw hB hz1 hk1 hS => ?_)
        subst z12
        obtain ⟨hP, hD⟩ := va_join (wr := []) (w1 := [(h_p0, .inr (4, [.ref h_p0_codes, .int v_length])), (h_p0_codes, .inl (cyI, 60, .inl v_codes))]) hP hD [0, 1] [] rfl rfl (by decide) (by decide) hk1 hFc (WLD.P hB ht) hB.2
        have hP : va_P (dC, dI) vwCl [(h_p0, .inr (4, [.ref h_p0_codes, .int v_length])), (h_p0_codes, .inl (cyI, 60, .inl v_codes))] H := hP
        have hD : va_D A [(h_p0, .inr (4, [.ref h_p0_codes, .int v_length])), (h_p0_codes, .inl (cyI, 60, .inl v_codes))] := hD
        refine lv_icmp_le (tgt := 87) hx hb dX4_fits_74 (by decide) (fun c13 => ?_) (fun c13 => ?_)
        · have h := ipos c13 h
          refine lv_iconst (v := iI 0) hx hb dX4_fits_87 rfl ?_
          obtain rfl := Option.some.inj h
          exact W.zret (v := iI 0) hx hb hr (by decide) (fun t ht hW => ⟨⟨iI 0, (), rfl, rfl, WLD.of ht hP hD⟩, hS.F ht⟩) hS.2.2 dX4_fits_88
        · have h := ineg c13 h
          refine lv_iload_n hx hb dX4_fits_77 rfl (lv_at hl 0 rfl) ?_
          refine lv_bipush (v := iI 57) hx hb dX4_fits_78 (by decide) ?_
          refine lv_icmp_gt (tgt := 87) hx hb dX4_fits_80 (by decide) (fun c14 => ?_) (fun c14 => ?_)
          · have h := ipos c14 h
            refine lv_iconst (v := iI 0) hx hb dX4_fits_87 rfl ?_
            obtain rfl := Option.some.inj h
            exact W.zret (v := iI 0) hx hb hr (by decide) (fun t ht hW => ⟨⟨iI 0, (), rfl, rfl, WLD.of ht hP hD⟩, hS.F ht⟩) hS.2.2 dX4_fits_88
          · have h := ineg c14 h
            refine lv_iconst (v := iI 1) hx hb dX4_fits_83 rfl ?_
            refine lv_goto (tgt := 88) hx hb dX4_fits_84 (by decide) ?_
            obtain rfl := Option.some.inj h
            exact W.zret (v := iI 1) hx hb hr (by decide) (fun t ht hW => ⟨⟨iI 1, (), rfl, rfl, WLD.of ht hP hD⟩, hS.F ht⟩) hS.2.2 dX4_fits_88
      · have h := ineg c9 h
        by_cases c15 : a2 = iI 3
        · have h := ipos c15 h
          refine lv_tableIn (tgt := 89) (off := 82) hx hb dX4_fits_7 (by rw [c15]; decide) (by rw [c15]; decide) (by rw [c15]; rfl) (by decide) ?_
          refine lv_iload_n hx hb dX4_fits_89 rfl (lv_at hl 0 rfl) ?_
          refine lv_bipush (v := iI 33) hx hb dX4_fits_90 (by decide) ?_
          refine lv_icmp_eq (tgt := 101) hx hb dX4_fits_92 (by decide) (fun c16 => ?_) (fun c16 => ?_)
          · have h := ipos c16 h
            refine lv_iconst (v := iI 1) hx hb dX4_fits_101 rfl ?_
            refine lv_goto (tgt := 106) hx hb dX4_fits_102 (by decide) ?_
            obtain rfl := Option.some.inj h
            exact W.zret (v := iI 1) hx hb hr (by decide) (fun t ht hW => ⟨⟨iI 1, (), rfl, rfl, WLD.of ht hP hD⟩, hS.F ht⟩) hS.2.2 dX4_fits_106
          · have h := ineg c16 h
            refine lv_iload_n hx hb dX4_fits_95 rfl (lv_at hl 0 rfl) ?_
            refine lv_bipush (v := iI 59) hx hb dX4_fits_96 (by decide) ?_
            refine lv_icmp_ne (tgt := 105) hx hb dX4_fits_98 (by decide) (fun c17 => ?_) (fun c17 => ?_)
            · have h := ineg c17 h
              refine lv_iconst (v := iI 0) hx hb dX4_fits_105 rfl ?_
              obtain rfl := Option.some.inj h
              exact W.zret (v := iI 0) hx hb hr (by decide) (fun t ht hW => ⟨⟨iI 0, (), rfl, rfl, WLD.of ht hP hD⟩, hS.F ht⟩) hS.2.2 dX4_fits_106
            · have h := ipos c17 h
              refine lv_iconst (v := iI 1) hx hb dX4_fits_101 rfl ?_
              refine lv_goto (tgt := 106) hx hb dX4_fits_102 (by decide) ?_
              obtain rfl := Option.some.inj h
              exact W.zret (v := iI 1) hx hb hr (by decide) (fun t ht hW => ⟨⟨iI 1, (), rfl, rfl, WLD.of ht hP hD⟩, hS.F ht⟩) hS.2.2 dX4_fits_106
        · have h := ineg c15 h
          refine lv_tableOut (tgt := 107) hx hb dX4_fits_7 (tsw_out 0 3 (fun k h1 h2 => by rcases (show k = 0 ∨ k = 1 ∨ k = 2 ∨ k = 3 by omega) with rfl | rfl | rfl | rfl <;> assumption)) (by decide) ?_
          refine lv_iload_n hx hb dX4_fits_107 rfl (lv_at hl 0 rfl) ?_
          refine lv_bipush (v := iI 59) hx hb dX4_fits_108 (by decide) ?_
          refine lv_icmp_ne (tgt := 117) hx hb dX4_fits_110 (by decide) (fun c18 => ?_) (fun c18 => ?_)
          · have h := ineg c18 h
            refine lv_iconst (v := iI 0) hx hb dX4_fits_117 rfl ?_
            obtain rfl := Option.some.inj h
            exact W.zret (v := iI 0) hx hb hr (by decide) (fun t ht hW => ⟨⟨iI 0, (), rfl, rfl, WLD.of ht hP hD⟩, hS.F ht⟩) hS.2.2 dX4_fits_118
          · have h := ipos c18 h
            refine lv_iconst (v := iI 1) hx hb dX4_fits_113 rfl ?_
            refine lv_goto (tgt := 118) hx hb dX4_fits_114 (by decide) ?_
            obtain rfl := Option.some.inj h
            exact W.zret (v := iI 1) hx hb hr (by decide) (fun t ht hW => ⟨⟨iI 1, (), rfl, rfl, WLD.of ht hP hD⟩, hS.F ht⟩) hS.2.2 dX4_fits_118
def s_X4_firstFault_L4 (n : Nat) (v_length : Int32) (v_codes : Nat → Int32) : Nat → Int32 → Int32 → Option (Int32)
  | 0, _, _ => none
  | k + 1, x1, x2 => (if v_length ≤ x2 then (some (v_length)) else ((s_X4_fits v_length v_codes x2 (x2 - x1)).bind fun r2 => (if r2 = 0 then (some (x2)) else ((s_X4_codeAt v_length v_codes x2).bind fun r6 => (if r6 = iI 59 then (s_X4_firstFault_L4 n v_length v_codes k (x2 + iI 1) (x2 + iI 1)) else (s_X4_firstFault_L4 n v_length v_codes k x1 (x2 + iI 1)))))))
def s_X4_firstFault (n : Nat) (v_length : Int32) (v_codes : Nat → Int32) : Option (Int32) := (s_X4_firstFault_L4 n v_length v_codes n (iI 0) (iI 0))
set_option maxRecDepth 20000 in
theorem m_X4_firstFault_0 : ∀ w ∈ u_ws RX4 TX4 2, w ∈ wsX4_firstFault := by decide +kernel
set_option maxRecDepth 20000 in
theorem m_X4_firstFault_1 : (.fieldLink RX4 15 "SleeperBerths$Text" "length" "I" : Cond) ∈ wsX4_firstFault := by decide +kernel
set_option maxHeartbeats 4000000 in
set_option maxRecDepth 100000 in
theorem c_X4_firstFault (l : Launch) (dC : Nat → ClassId) (dI : Nat → Nat → Nat) (cyI cyJ cyT : ClassId) (h_p0 : Nat) (h_p0_codes : Nat) (sz : Nat) (v_length : Int32) (v_codes : Nat → Int32) (n : Nat) (o : Int32) (h : s_X4_firstFault n v_length v_codes = some o) : Met l yX4_firstFault wsX4_firstFault ({ frames := 3, cells := 0, slots := 0, locals := 65 }) (va_Pc [.ref h_p0] (PRE (dC, dI) (TYS cyI cyJ cyT) sz [(h_p0, .inr (4, [.ref h_p0_codes, .int v_length])), (h_p0_codes, .inl (cyI, 60, .inl v_codes))])) (va_Qi (S := Unit) (fun r _ => r = o) (fun _ t => WLD (dC, dI) (va_A [(h_p0, .inr (4, [.ref h_p0_codes, .int v_length])), (h_p0_codes, .inl (cyI, 60, .inl v_codes))] sz) [(h_p0, .inr (4, [.ref h_p0_codes, .int v_length])), (h_p0_codes, .inl (cyI, 60, .inl v_codes))] t) (va_A [(h_p0, .inr (4, [.ref h_p0_codes, .int v_length])), (h_p0_codes, .inl (cyI, 60, .inl v_codes))] sz)) 0 0 (va_A [(h_p0, .inr (4, [.ref h_p0_codes, .int v_length])), (h_p0_codes, .inl (cyI, 60, .inl v_codes))] sz) := by
  refine Met.ofW (cc := cX4_firstFault) (maxL := 3) (ret := (some .int)) (by decide) rfl ?_
  intro p e s m args below meth c s₁ B hml hv
  obtain ⟨rfl, hsz, hP, hK, hD0, hNW⟩ := hv
  have hx := B.exec
  have hb := B.bytes
  have hr := B.returns
  have hts := atoms_spec (ws := wsX4_firstFault) B.pre
  have hown : s.vm.findClass RX4 = some m.cls := findClass_of_methodNamed B.named
  have hlocks := B.notSynchronized
  subst hsz
  have hD := hD0.self (sz := s.heap.size)
  generalize hAe : va_A [(h_p0, .inr (4, [.ref h_p0_codes, .int v_length])), (h_p0_codes, .inl (cyI, 60, .inl v_codes))] s.heap.size = A at hD ⊢
  have hA : ∀ q : Nat, s.heap.size ≤ q → A q := fun q h => by rw [← hAe]; exact Or.inr h
  have hS : va_S A s.heap s.heap [] := va_S.rf
  have hP : va_P (dC, dI) vwCl [(h_p0, .inr (4, [.ref h_p0_codes, .int v_length])), (h_p0_codes, .inl (cyI, 60, .inl v_codes))] s.heap := hP
  have L4 : ∀ (k : Nat), (∀ (x1 : Int32) (x2 : Int32) (H : Heap) (locs : List Loc), va_P (dC, dI) vwCl [(h_p0, .inr (4, [.ref h_p0_codes, .int v_length])), (h_p0_codes, .inl (cyI, 60, .inl v_codes))] H → va_D A [(h_p0, .inr (4, [.ref h_p0_codes, .int v_length])), (h_p0_codes, .inl (cyI, 60, .inl v_codes))] → va_S A s.heap H locs → ∀ (ls : Array Slot), lv_has ls 3 [(0, .ref h_p0), (1, .int x1), (2, .int x2)] →  s_X4_firstFault_L4 n v_length v_codes k x1 x2 = some o → W p l e (headSpec wsX4_firstFault ({ frames := 3, cells := 0, slots := 0, locals := 65 })).room s m (([.ref h_p0] : List Value).toArray) below meth c H locs 0 0 (MQ below (va_Qi (S := Unit) (fun r _ => r = o) (fun _ t => WLD (dC, dI) A [(h_p0, .inr (4, [.ref h_p0_codes, .int v_length])), (h_p0_codes, .inl (cyI, 60, .inl v_codes))] t) A) (([.ref h_p0] : List Value).toArray) s 0 0 A) (F0 m 4 ls [])) := by
    intro k
    induction k with
    | zero =>
      intro  x1 x2 H locs hP hD hS ls hl h
      rw [s_X4_firstFault_L4] at h
      cases h
    | succ k ih =>
      intro  x1 x2 H locs hP hD hS ls hl h
      rw [s_X4_firstFault_L4] at h
      refine lv_iload_n hx hb dX4_firstFault_4 rfl (lv_at hl 2 rfl) ?_
      refine lv_aload_n hx hb dX4_firstFault_5 rfl (lv_at hl 0 rfl) ?_
      refine va_get (D := (dC, dI)) (ci := 4) (v := .int v_length) (C := RX4) (T := TX4) (N := 2) hx hb hts m_X4_firstFault_0 hown hK hP 0 rfl rfl 1 (by decide) (hts (.fieldLink RX4 15 "SleeperBerths$Text" "length" "I") m_X4_firstFault_1) (fun _ h9 => h9) rfl dX4_firstFault_6 ?_
      refine lv_icmp_ge (tgt := 45) hx hb dX4_firstFault_9 (by decide) (fun c1 => ?_) (fun c1 => ?_)
      · have h := ipos c1 h
        refine lv_aload_n hx hb dX4_firstFault_45 rfl (lv_at hl 0 rfl) ?_
        refine va_get (D := (dC, dI)) (ci := 4) (v := .int v_length) (C := RX4) (T := TX4) (N := 2) hx hb hts m_X4_firstFault_0 hown hK hP 0 rfl rfl 1 (by decide) (hts (.fieldLink RX4 15 "SleeperBerths$Text" "length" "I") m_X4_firstFault_1) (fun _ h9 => h9) rfl dX4_firstFault_46 ?_
        obtain rfl := Option.some.inj h
        exact W.iret (v := v_length) hx hb hr (fun t ht hW => ⟨⟨v_length, (), rfl, rfl, WLD.of ht hP hD⟩, hS.F ht⟩) hS.2.2 dX4_firstFault_49
      · have h := ineg c1 h
        refine lv_aload_n hx hb dX4_firstFault_12 rfl (lv_at hl 0 rfl) ?_
        refine lv_iload_n hx hb dX4_firstFault_13 rfl (lv_at hl 2 rfl) ?_
        refine lv_iload_n hx hb dX4_firstFault_14 rfl (lv_at hl 2 rfl) ?_
        refine lv_iload_n hx hb dX4_firstFault_15 rfl (lv_at hl 1 rfl) ?_
        refine lv_isub hx hb dX4_firstFault_16 ?_
        obtain ⟨r2, e3, h⟩ := bsome h
        have hPc := sb_P [(h_p0, .inr (4, [.ref h_p0_codes, .int v_length])), (h_p0_codes, .inl (cyI, 60, .inl v_codes))] hP [0, 1] rfl
        have hDc := sb_D [(h_p0, .inr (4, [.ref h_p0_codes, .int v_length])), (h_p0_codes, .inl (cyI, 60, .inl v_codes))] hD [0, 1] (by decide) rfl
        have hFc := va_free (wc := [(h_p0, .inr (4, [.ref h_p0_codes, .int v_length])), (h_p0_codes, .inl (cyI, 60, .inl v_codes))]) hD hS hA [0, 1] rfl
        refine va_calli (va_runV (As := [.int x2, .int (x2 - x1)]) (rest := []) ⟨hx, hb, hml, hown, hts⟩ (c_X4_fits l dC dI cyI cyJ cyT h_p0 h_p0_codes H.size v_length v_codes x2 (x2 - x1) r2 e3) (cwV 2 hts gX4_firstFault_X4_fits rfl rfl rfl (by decide +kernel) ⟨Nat.le_of_ble_eq_true rfl, Nat.le_of_ble_eq_true rfl⟩) ⟨PRE.blind, va_recv hK hPc (ci := 4) (q0 := 0) rfl rfl, PRE.go hK hPc hDc hNW⟩ rfl rfl hl.1 rfl (lv_room (Nat.le_of_ble_eq_true rfl)) dX4_firstFault_17 ⟨Nat.zero_le _, Nat.zero_le _⟩) hS (fun q _ h => hFc q h) hFc (fun z4 u t H locs ht hvm hw hB hz1 hk1 hS => ?_)
        subst z4
        obtain ⟨hP, hD⟩ := va_join (wr := []) (w1 := [(h_p0, .inr (4, [.ref h_p0_codes, .int v_length])), (h_p0_codes, .inl (cyI, 60, .inl v_codes))]) hP hD [0, 1] [] rfl rfl (by decide) (by decide) hk1 hFc (WLD.P hB ht) hB.2
        have hP : va_P (dC, dI) vwCl [(h_p0, .inr (4, [.ref h_p0_codes, .int v_length])), (h_p0_codes, .inl (cyI, 60, .inl v_codes))] H := hP
        have hD : va_D A [(h_p0, .inr (4, [.ref h_p0_codes, .int v_length])), (h_p0_codes, .inl (cyI, 60, .inl v_codes))] := hD
        refine lv_if_ne (tgt := 25) hx hb dX4_firstFault_20 (by decide) (fun c5 => ?_) (fun c5 => ?_)
        · have h := ineg c5 h
          refine lv_aload_n hx hb dX4_firstFault_25 rfl (lv_at hl 0 rfl) ?_
          refine lv_iload_n hx hb dX4_firstFault_26 rfl (lv_at hl 2 rfl) ?_
          obtain ⟨r6, e7, h⟩ := bsome h
          have hPc := sb_P [(h_p0, .inr (4, [.ref h_p0_codes, .int v_length])), (h_p0_codes, .inl (cyI, 60, .inl v_codes))] hP [0, 1] rfl
          have hDc := sb_D [(h_p0, .inr (4, [.ref h_p0_codes, .int v_length])), (h_p0_codes, .inl (cyI, 60, .inl v_codes))] hD [0, 1] (by decide) rfl
          have hFc := va_free (wc := [(h_p0, .inr (4, [.ref h_p0_codes, .int v_length])), (h_p0_codes, .inl (cyI, 60, .inl v_codes))]) hD hS hA [0, 1] rfl
          refine va_calli (va_runV (As := [.int x2]) (rest := []) ⟨hx, hb, hml, hown, hts⟩ (c_X4_codeAt l dC dI cyI cyJ cyT h_p0 h_p0_codes H.size v_length v_codes x2 r6 e7) (cwV 1 hts gX4_firstFault_X4_codeAt rfl rfl rfl (by decide +kernel) ⟨Nat.le_of_ble_eq_true rfl, Nat.le_of_ble_eq_true rfl⟩) ⟨PRE.blind, va_recv hK hPc (ci := 4) (q0 := 0) rfl rfl, PRE.go hK hPc hDc hNW⟩ rfl rfl hl.1 rfl (lv_room (Nat.le_of_ble_eq_true rfl)) dX4_firstFault_27 ⟨Nat.zero_le _, Nat.zero_le _⟩) hS (fun q _ h => hFc q h) hFc (fun z8 u t H locs ht hvm hw hB hz1 hk1 hS => ?_)
          subst z8
          obtain ⟨hP, hD⟩ := va_join (wr := []) (w1 := [(h_p0, .inr (4, [.ref h_p0_codes, .int v_length])), (h_p0_codes, .inl (cyI, 60, .inl v_codes))]) hP hD [0, 1] [] rfl rfl (by decide) (by decide) hk1 hFc (WLD.P hB ht) hB.2
          have hP : va_P (dC, dI) vwCl [(h_p0, .inr (4, [.ref h_p0_codes, .int v_length])), (h_p0_codes, .inl (cyI, 60, .inl v_codes))] H := hP
          have hD : va_D A [(h_p0, .inr (4, [.ref h_p0_codes, .int v_length])), (h_p0_codes, .inl (cyI, 60, .inl v_codes))] := hD
          refine lv_bipush (v := iI 59) hx hb dX4_firstFault_30 (by decide) ?_
          refine lv_icmp_ne (tgt := 39) hx hb dX4_firstFault_32 (by decide) (fun c9 => ?_) (fun c9 => ?_)
          · have h := ineg c9 h
            refine lv_iinc (v := (x2 + iI 1)) hx hb dX4_firstFault_39 hl (k := 2) rfl rfl (by decide) (rfl : _ = ([(2, .int (x2 + iI 1)), (0, .ref h_p0), (1, .int x1)] : List (Nat × Value))) (fun ls hl => ?_)
            refine lv_goto (tgt := 4) hx hb dX4_firstFault_42 (by decide) ?_
            exact ih x1 (x2 + iI 1) _ _ hP hD hS ls (lv_sub hl [1, 2, 0] rfl) h
          · have h := ipos c9 h
            refine lv_iload_n hx hb dX4_firstFault_35 rfl (lv_at hl 2 rfl) ?_
            refine lv_iconst (v := iI 1) hx hb dX4_firstFault_36 rfl ?_
            refine lv_iadd hx hb dX4_firstFault_37 ?_
            refine lv_istore_n hx hb dX4_firstFault_38 rfl hl (by decide) (rfl : _ = ([(1, .int (x2 + iI 1)), (0, .ref h_p0), (2, .int x2)] : List (Nat × Value))) (fun ls hl => ?_)
            refine lv_iinc (v := (x2 + iI 1)) hx hb dX4_firstFault_39 hl (k := 2) rfl rfl (by decide) (rfl : _ = ([(2, .int (x2 + iI 1)), (1, .int (x2 + iI 1)), (0, .ref h_p0)] : List (Nat × Value))) (fun ls hl => ?_)
            refine lv_goto (tgt := 4) hx hb dX4_firstFault_42 (by decide) ?_
            exact ih (x2 + iI 1) (x2 + iI 1) _ _ hP hD hS ls (lv_sub hl [2, 1, 0] rfl) h
        · have h := ipos c5 h
          refine lv_iload_n hx hb dX4_firstFault_23 rfl (lv_at hl 2 rfl) ?_
          obtain rfl := Option.some.inj h
          exact W.iret (v := x2) hx hb hr (fun t ht hW => ⟨⟨x2, (), rfl, rfl, WLD.of ht hP hD⟩, hS.F ht⟩) hS.2.2 dX4_firstFault_24
  have hl := lv_entry ([.ref h_p0]) (n := 3) (Nat.le_of_ble_eq_true rfl)
  rw [lg_entry_eq]
  generalize (lg_sl ([.ref h_p0]) ++ List.replicate (3 - (lg_sl ([.ref h_p0])).length) Slot.unset).toArray = ls at hl ⊢
  have hl : lv_has ls 3 [(0, .ref h_p0)] := hl
  unfold s_X4_firstFault at h
  refine lv_iconst (v := iI 0) hx hb dX4_firstFault_0 rfl ?_
  refine lv_istore_n hx hb dX4_firstFault_1 rfl hl (by decide) (rfl : _ = ([(1, .int (iI 0)), (0, .ref h_p0)] : List (Nat × Value))) (fun ls hl => ?_)
  refine lv_iconst (v := iI 0) hx hb dX4_firstFault_2 rfl ?_
  refine lv_istore_n hx hb dX4_firstFault_3 rfl hl (by decide) (rfl : _ = ([(2, .int (iI 0)), (1, .int (iI 0)), (0, .ref h_p0)] : List (Nat × Value))) (fun ls hl => ?_)
  exact L4 n (iI 0) (iI 0) _ _ hP hD hS ls (lv_sub hl [2, 1, 0] rfl) h
def s_X6_firstError (n : Nat) (v_length : Int32) (v_codes : Nat → Int32) : Option (Int32) := ((s_X4_firstFault n v_length v_codes).bind fun r1 => (some (r1)))
set_option maxRecDepth 20000 in
theorem m_X6_firstError_0 : ∀ w ∈ u_ws RX6 TX6 3, w ∈ wsX6_firstError := by decide +kernel
set_option maxRecDepth 20000 in
theorem m_X6_firstError_1 : (.fieldLink RX6 26 "SleeperBerths" "text" "LSleeperBerths$Text;" : Cond) ∈ wsX6_firstError := by decide +kernel
set_option maxHeartbeats 4000000 in
set_option maxRecDepth 100000 in
theorem c_X6_firstError (l : Launch) (dC : Nat → ClassId) (dI : Nat → Nat → Nat) (cyI cyJ cyT : ClassId) (h_p0 : Nat) (h_p0_train : Nat) (h_p0_history : Nat) (h_p0_text : Nat) (h_p0_text_codes : Nat) (sz : Nat) (v_length : Int32) (v_codes : Nat → Int32) (n : Nat) (o : Int32) (h : s_X6_firstError n v_length v_codes = some o) : Met l yX6_firstError wsX6_firstError ({ frames := 4, cells := 0, slots := 0, locals := 87 }) (va_Pc [.ref h_p0] (PRE (dC, dI) (TYS cyI cyJ cyT) sz [(h_p0, .inr (6, [.ref h_p0_train, .ref h_p0_history, .ref h_p0_text])), (h_p0_text, .inr (4, [.ref h_p0_text_codes, .int v_length])), (h_p0_text_codes, .inl (cyI, 60, .inl v_codes))])) (va_Qi (S := Unit) (fun r _ => r = o) (fun _ t => WLD (dC, dI) (va_A [(h_p0, .inr (6, [.ref h_p0_train, .ref h_p0_history, .ref h_p0_text])), (h_p0_text, .inr (4, [.ref h_p0_text_codes, .int v_length])), (h_p0_text_codes, .inl (cyI, 60, .inl v_codes))] sz) [(h_p0, .inr (6, [.ref h_p0_train, .ref h_p0_history, .ref h_p0_text])), (h_p0_text, .inr (4, [.ref h_p0_text_codes, .int v_length])), (h_p0_text_codes, .inl (cyI, 60, .inl v_codes))] t) (va_A [(h_p0, .inr (6, [.ref h_p0_train, .ref h_p0_history, .ref h_p0_text])), (h_p0_text, .inr (4, [.ref h_p0_text_codes, .int v_length])), (h_p0_text_codes, .inl (cyI, 60, .inl v_codes))] sz)) 0 0 (va_A [(h_p0, .inr (6, [.ref h_p0_train, .ref h_p0_history, .ref h_p0_text])), (h_p0_text, .inr (4, [.ref h_p0_text_codes, .int v_length])), (h_p0_text_codes, .inl (cyI, 60, .inl v_codes))] sz) := by
  refine Met.ofW (cc := cX6_firstError) (maxL := 1) (ret := (some .int)) (by decide) rfl ?_
  intro p e s m args below meth c s₁ B hml hv
  obtain ⟨rfl, hsz, hP, hK, hD0, hNW⟩ := hv
  have hx := B.exec
  have hb := B.bytes
  have hr := B.returns
  have hts := atoms_spec (ws := wsX6_firstError) B.pre
  have hown : s.vm.findClass RX6 = some m.cls := findClass_of_methodNamed B.named
  have hlocks := B.notSynchronized
  subst hsz
  have hD := hD0.self (sz := s.heap.size)
  generalize hAe : va_A [(h_p0, .inr (6, [.ref h_p0_train, .ref h_p0_history, .ref h_p0_text])), (h_p0_text, .inr (4, [.ref h_p0_text_codes, .int v_length])), (h_p0_text_codes, .inl (cyI, 60, .inl v_codes))] s.heap.size = A at hD ⊢
  have hA : ∀ q : Nat, s.heap.size ≤ q → A q := fun q h => by rw [← hAe]; exact Or.inr h
  have hS : va_S A s.heap s.heap [] := va_S.rf
  have hP : va_P (dC, dI) vwCl [(h_p0, .inr (6, [.ref h_p0_train, .ref h_p0_history, .ref h_p0_text])), (h_p0_text, .inr (4, [.ref h_p0_text_codes, .int v_length])), (h_p0_text_codes, .inl (cyI, 60, .inl v_codes))] s.heap := hP
  have hl := lv_entry ([.ref h_p0]) (n := 1) (Nat.le_of_ble_eq_true rfl)
  rw [lg_entry_eq]
  generalize (lg_sl ([.ref h_p0]) ++ List.replicate (1 - (lg_sl ([.ref h_p0])).length) Slot.unset).toArray = ls at hl ⊢
  have hl : lv_has ls 1 [(0, .ref h_p0)] := hl
  unfold s_X6_firstError at h
  refine lv_aload_n hx hb dX6_firstError_0 rfl (lv_at hl 0 rfl) ?_
  refine va_get (D := (dC, dI)) (ci := 6) (v := .ref h_p0_text) (C := RX6) (T := TX6) (N := 3) hx hb hts m_X6_firstError_0 hown hK hP 0 rfl rfl 2 (by decide) (hts (.fieldLink RX6 26 "SleeperBerths" "text" "LSleeperBerths$Text;") m_X6_firstError_1) (fun _ h9 => h9) rfl dX6_firstError_1 ?_
  obtain ⟨r1, e2, h⟩ := bsome h
  have hPc := sb_P [(h_p0_text, .inr (4, [.ref h_p0_text_codes, .int v_length])), (h_p0_text_codes, .inl (cyI, 60, .inl v_codes))] hP [1, 2] rfl
  have hDc := sb_D [(h_p0_text, .inr (4, [.ref h_p0_text_codes, .int v_length])), (h_p0_text_codes, .inl (cyI, 60, .inl v_codes))] hD [1, 2] (by decide) rfl
  have hFc := va_free (wc := [(h_p0_text, .inr (4, [.ref h_p0_text_codes, .int v_length])), (h_p0_text_codes, .inl (cyI, 60, .inl v_codes))]) hD hS hA [1, 2] rfl
  refine va_calli (va_runV (As := []) (rest := []) ⟨hx, hb, hml, hown, hts⟩ (c_X4_firstFault l dC dI cyI cyJ cyT h_p0_text h_p0_text_codes s.heap.size v_length v_codes n r1 e2) (cwV 0 hts gX6_firstError_X4_firstFault rfl rfl rfl (by decide +kernel) ⟨Nat.le_of_ble_eq_true rfl, Nat.le_of_ble_eq_true rfl⟩) ⟨PRE.blind, va_recv hK hPc (ci := 4) (q0 := 0) rfl rfl, PRE.go hK hPc hDc hNW⟩ rfl rfl hl.1 rfl (lv_room (Nat.le_of_ble_eq_true rfl)) dX6_firstError_4 ⟨Nat.zero_le _, Nat.zero_le _⟩) hS (fun q _ h => hFc q h) hFc (fun z3 u t H locs ht hvm hw hB hz1 hk1 hS => ?_)
  subst z3
  obtain ⟨hP, hD⟩ := va_join (wr := [(h_p0, .inr (6, [.ref h_p0_train, .ref h_p0_history, .ref h_p0_text]))]) (w1 := [(h_p0_text, .inr (4, [.ref h_p0_text_codes, .int v_length])), (h_p0_text_codes, .inl (cyI, 60, .inl v_codes))]) hP hD [1, 2] [0] rfl rfl (by decide) (by decide) hk1 hFc (WLD.P hB ht) hB.2
  have hP : va_P (dC, dI) vwCl [(h_p0, .inr (6, [.ref h_p0_train, .ref h_p0_history, .ref h_p0_text])), (h_p0_text, .inr (4, [.ref h_p0_text_codes, .int v_length])), (h_p0_text_codes, .inl (cyI, 60, .inl v_codes))] H := hP
  have hD : va_D A [(h_p0, .inr (6, [.ref h_p0_train, .ref h_p0_history, .ref h_p0_text])), (h_p0_text, .inr (4, [.ref h_p0_text_codes, .int v_length])), (h_p0_text_codes, .inl (cyI, 60, .inl v_codes))] := hD
  obtain rfl := Option.some.inj h
  exact W.iret (v := r1) hx hb hr (fun t ht hW => ⟨⟨r1, (), rfl, rfl, WLD.of ht hP hD⟩, hS.F ht⟩) hS.2.2 dX6_firstError_7
def s_X4_isComplete (n : Nat) (v_length : Int32) (v_codes : Nat → Int32) : Option (Int32) := ((s_X4_codeAt v_length v_codes (v_length - iI 1)).bind fun r1 => (if r1 = iI 33 then (if iI 1 = 0 then (some (iI 0)) else ((s_X4_firstFault n v_length v_codes).bind fun r6 => (if r6 = v_length then (some (iI 1)) else (some (iI 0))))) else ((s_X4_codeAt v_length v_codes (v_length - iI 2)).bind fun r10 => (if r10 = iI 45 then (if iI 1 = 0 then (some (iI 0)) else ((s_X4_firstFault n v_length v_codes).bind fun r20 => (if r20 = v_length then (some (iI 1)) else (some (iI 0))))) else (if iI 0 = 0 then (some (iI 0)) else ((s_X4_firstFault n v_length v_codes).bind fun r15 => (if r15 = v_length then (some (iI 1)) else (some (iI 0)))))))))
set_option maxRecDepth 20000 in
theorem m_X4_isComplete_0 : ∀ w ∈ u_ws RX4 TX4 2, w ∈ wsX4_isComplete := by decide +kernel
set_option maxRecDepth 20000 in
theorem m_X4_isComplete_1 : (.fieldLink RX4 15 "SleeperBerths$Text" "length" "I" : Cond) ∈ wsX4_isComplete := by decide +kernel
set_option maxHeartbeats 4000000 in
set_option maxRecDepth 100000 in
theorem c_X4_isComplete (l : Launch) (dC : Nat → ClassId) (dI : Nat → Nat → Nat) (cyI cyJ cyT : ClassId) (h_p0 : Nat) (h_p0_codes : Nat) (sz : Nat) (v_length : Int32) (v_codes : Nat → Int32) (n : Nat) (o : Int32) (h : s_X4_isComplete n v_length v_codes = some o) : Met l yX4_isComplete wsX4_isComplete ({ frames := 4, cells := 0, slots := 0, locals := 87 }) (va_Pc [.ref h_p0] (PRE (dC, dI) (TYS cyI cyJ cyT) sz [(h_p0, .inr (4, [.ref h_p0_codes, .int v_length])), (h_p0_codes, .inl (cyI, 60, .inl v_codes))])) (va_Qi (S := Unit) (fun r _ => r = o) (fun _ t => WLD (dC, dI) (va_A [(h_p0, .inr (4, [.ref h_p0_codes, .int v_length])), (h_p0_codes, .inl (cyI, 60, .inl v_codes))] sz) [(h_p0, .inr (4, [.ref h_p0_codes, .int v_length])), (h_p0_codes, .inl (cyI, 60, .inl v_codes))] t) (va_A [(h_p0, .inr (4, [.ref h_p0_codes, .int v_length])), (h_p0_codes, .inl (cyI, 60, .inl v_codes))] sz)) 0 0 (va_A [(h_p0, .inr (4, [.ref h_p0_codes, .int v_length])), (h_p0_codes, .inl (cyI, 60, .inl v_codes))] sz) := by
  refine Met.ofW (cc := cX4_isComplete) (maxL := 2) (ret := (some .boolean)) (by decide) rfl ?_
  intro p e s m args below meth c s₁ B hml hv
  obtain ⟨rfl, hsz, hP, hK, hD0, hNW⟩ := hv
  have hx := B.exec
  have hb := B.bytes
  have hr := B.returns
  have hts := atoms_spec (ws := wsX4_isComplete) B.pre
  have hown : s.vm.findClass RX4 = some m.cls := findClass_of_methodNamed B.named
  have hlocks := B.notSynchronized
  subst hsz
  have hD := hD0.self (sz := s.heap.size)
  generalize hAe : va_A [(h_p0, .inr (4, [.ref h_p0_codes, .int v_length])), (h_p0_codes, .inl (cyI, 60, .inl v_codes))] s.heap.size = A at hD ⊢
  have hA : ∀ q : Nat, s.heap.size ≤ q → A q := fun q h => by rw [← hAe]; exact Or.inr h
  have hS : va_S A s.heap s.heap [] := va_S.rf
  have hP : va_P (dC, dI) vwCl [(h_p0, .inr (4, [.ref h_p0_codes, .int v_length])), (h_p0_codes, .inl (cyI, 60, .inl v_codes))] s.heap := hP
  have hl := lv_entry ([.ref h_p0]) (n := 2) (Nat.le_of_ble_eq_true rfl)
  rw [lg_entry_eq]
  generalize (lg_sl ([.ref h_p0]) ++ List.replicate (2 - (lg_sl ([.ref h_p0])).length) Slot.unset).toArray = ls at hl ⊢
  have hl : lv_has ls 2 [(0, .ref h_p0)] := hl
  unfold s_X4_isComplete at h
  refine lv_aload_n hx hb dX4_isComplete_0 rfl (lv_at hl 0 rfl) ?_
  refine lv_aload_n hx hb dX4_isComplete_1 rfl (lv_at hl 0 rfl) ?_
  refine va_get (D := (dC, dI)) (ci := 4) (v := .int v_length) (C := RX4) (T := TX4) (N := 2) hx hb hts m_X4_isComplete_0 hown hK hP 0 rfl rfl 1 (by decide) (hts (.fieldLink RX4 15 "SleeperBerths$Text" "length" "I") m_X4_isComplete_1) (fun _ h9 => h9) rfl dX4_isComplete_2 ?_
  refine lv_iconst (v := iI 1) hx hb dX4_isComplete_5 rfl ?_
  refine lv_isub hx hb dX4_isComplete_6 ?_
  obtain ⟨r1, e2, h⟩ := bsome h
  have hPc := sb_P [(h_p0, .inr (4, [.ref h_p0_codes, .int v_length])), (h_p0_codes, .inl (cyI, 60, .inl v_codes))] hP [0, 1] rfl
  have hDc := sb_D [(h_p0, .inr (4, [.ref h_p0_codes, .int v_length])), (h_p0_codes, .inl (cyI, 60, .inl v_codes))] hD [0, 1] (by decide) rfl
  have hFc := va_free (wc := [(h_p0, .inr (4, [.ref h_p0_codes, .int v_length])), (h_p0_codes, .inl (cyI, 60, .inl v_codes))]) hD hS hA [0, 1] rfl
  refine va_calli (va_runV (As := [.int (v_length - iI 1)]) (rest := []) ⟨hx, hb, hml, hown, hts⟩ (c_X4_codeAt l dC dI cyI cyJ cyT h_p0 h_p0_codes s.heap.size v_length v_codes (v_length - iI 1) r1 e2) (cwV 1 hts gX4_isComplete_X4_codeAt rfl rfl rfl (by decide +kernel) ⟨Nat.le_of_ble_eq_true rfl, Nat.le_of_ble_eq_true rfl⟩) ⟨PRE.blind, va_recv hK hPc (ci := 4) (q0 := 0) rfl rfl, PRE.go hK hPc hDc hNW⟩ rfl rfl hl.1 rfl (lv_room (Nat.le_of_ble_eq_true rfl)) dX4_isComplete_7 ⟨Nat.zero_le _, Nat.zero_le _⟩) hS (fun q _ h => hFc q h) hFc (fun z3 u t H locs ht hvm hw hB hz1 hk1 hS => ?_)
  subst z3
  obtain ⟨hP, hD⟩ := va_join (wr := []) (w1 := [(h_p0, .inr (4, [.ref h_p0_codes, .int v_length])), (h_p0_codes, .inl (cyI, 60, .inl v_codes))]) hP hD [0, 1] [] rfl rfl (by decide) (by decide) hk1 hFc (WLD.P hB ht) hB.2
  have hP : va_P (dC, dI) vwCl [(h_p0, .inr (4, [.ref h_p0_codes, .int v_length])), (h_p0_codes, .inl (cyI, 60, .inl v_codes))] H := hP
  have hD : va_D A [(h_p0, .inr (4, [.ref h_p0_codes, .int v_length])), (h_p0_codes, .inl (cyI, 60, .inl v_codes))] := hD
  refine lv_bipush (v := iI 33) hx hb dX4_isComplete_10 (by decide) ?_
  refine lv_icmp_eq (tgt := 30) hx hb dX4_isComplete_12 (by decide) (fun c4 => ?_) (fun c4 => ?_)
  · have h := ipos c4 h
    refine lv_iconst (v := iI 1) hx hb dX4_isComplete_30 rfl ?_
    refine lv_goto (tgt := 35) hx hb dX4_isComplete_31 (by decide) ?_
    refine lv_istore_n hx hb dX4_isComplete_35 rfl hl (by decide) (rfl : _ = ([(1, .int (iI 1)), (0, .ref h_p0)] : List (Nat × Value))) (fun ls hl => ?_)
    refine lv_iload_n hx hb dX4_isComplete_36 rfl (lv_at hl 0 rfl) ?_
    refine lv_if_eq (tgt := 55) hx hb dX4_isComplete_37 (by decide) (fun c5 => ?_) (fun c5 => ?_)
    · have h := ipos c5 h
      refine lv_iconst (v := iI 0) hx hb dX4_isComplete_55 rfl ?_
      obtain rfl := Option.some.inj h
      exact W.zret (v := iI 0) hx hb hr (by decide) (fun t ht hW => ⟨⟨iI 0, (), rfl, rfl, WLD.of ht hP hD⟩, hS.F ht⟩) hS.2.2 dX4_isComplete_56
    · have h := ineg c5 h
      refine lv_aload_n hx hb dX4_isComplete_40 rfl (lv_at hl 1 rfl) ?_
      obtain ⟨r6, e7, h⟩ := bsome h
      have hPc := sb_P [(h_p0, .inr (4, [.ref h_p0_codes, .int v_length])), (h_p0_codes, .inl (cyI, 60, .inl v_codes))] hP [0, 1] rfl
      have hDc := sb_D [(h_p0, .inr (4, [.ref h_p0_codes, .int v_length])), (h_p0_codes, .inl (cyI, 60, .inl v_codes))] hD [0, 1] (by decide) rfl
      have hFc := va_free (wc := [(h_p0, .inr (4, [.ref h_p0_codes, .int v_length])), (h_p0_codes, .inl (cyI, 60, .inl v_codes))]) hD hS hA [0, 1] rfl
      refine va_calli (va_runV (As := []) (rest := []) ⟨hx, hb, hml, hown, hts⟩ (c_X4_firstFault l dC dI cyI cyJ cyT h_p0 h_p0_codes H.size v_length v_codes n r6 e7) (cwV 0 hts gX4_isComplete_X4_firstFault rfl rfl rfl (by decide +kernel) ⟨Nat.le_of_ble_eq_true rfl, Nat.le_of_ble_eq_true rfl⟩) ⟨PRE.blind, va_recv hK hPc (ci := 4) (q0 := 0) rfl rfl, PRE.go hK hPc hDc hNW⟩ rfl rfl hl.1 rfl (lv_room (Nat.le_of_ble_eq_true rfl)) dX4_isComplete_41 ⟨Nat.zero_le _, Nat.zero_le _⟩) hS (fun q _ h => hFc q h) hFc (fun z8 u t H locs ht hvm hw hB hz1 hk1 hS => ?_)
      subst z8
      obtain ⟨hP, hD⟩ := va_join (wr := []) (w1 := [(h_p0, .inr (4, [.ref h_p0_codes, .int v_length])), (h_p0_codes, .inl (cyI, 60, .inl v_codes))]) hP hD [0, 1] [] rfl rfl (by decide) (by decide) hk1 hFc (WLD.P hB ht) hB.2
      have hP : va_P (dC, dI) vwCl [(h_p0, .inr (4, [.ref h_p0_codes, .int v_length])), (h_p0_codes, .inl (cyI, 60, .inl v_codes))] H := hP
      have hD : va_D A [(h_p0, .inr (4, [.ref h_p0_codes, .int v_length])), (h_p0_codes, .inl (cyI, 60, .inl v_codes))] := hD
      refine lv_aload_n hx hb dX4_isComplete_44 rfl (lv_at hl 1 rfl) ?_
      refine va_get (D := (dC, dI)) (ci := 4) (v := .int v_length) (C := RX4) (T := TX4) (N := 2) hx hb hts m_X4_isComplete_0 hown hK hP 0 rfl rfl 1 (by decide) (hts (.fieldLink RX4 15 "SleeperBerths$Text" "length" "I") m_X4_isComplete_1) (fun _ h9 => h9) rfl dX4_isComplete_45 ?_
      refine lv_icmp_ne (tgt := 55) hx hb dX4_isComplete_48 (by decide) (fun c9 => ?_) (fun c9 => ?_)
      · have h := ineg c9 h
        refine lv_iconst (v := iI 0) hx hb dX4_isComplete_55 rfl ?_
        obtain rfl := Option.some.inj h
        exact W.zret (v := iI 0) hx hb hr (by decide) (fun t ht hW => ⟨⟨iI 0, (), rfl, rfl, WLD.of ht hP hD⟩, hS.F ht⟩) hS.2.2 dX4_isComplete_56
      · have h := ipos c9 h
        refine lv_iconst (v := iI 1) hx hb dX4_isComplete_51 rfl ?_
        refine lv_goto (tgt := 56) hx hb dX4_isComplete_52 (by decide) ?_
        obtain rfl := Option.some.inj h
        exact W.zret (v := iI 1) hx hb hr (by decide) (fun t ht hW => ⟨⟨iI 1, (), rfl, rfl, WLD.of ht hP hD⟩, hS.F ht⟩) hS.2.2 dX4_isComplete_56
  · have h := ineg c4 h
    refine lv_aload_n hx hb dX4_isComplete_15 rfl (lv_at hl 0 rfl) ?_
    refine lv_aload_n hx hb dX4_isComplete_16 rfl (lv_at hl 0 rfl) ?_
    refine va_get (D := (dC, dI)) (ci := 4) (v := .int v_length) (C := RX4) (T := TX4) (N := 2) hx hb hts m_X4_isComplete_0 hown hK hP 0 rfl rfl 1 (by decide) (hts (.fieldLink RX4 15 "SleeperBerths$Text" "length" "I") m_X4_isComplete_1) (fun _ h9 => h9) rfl dX4_isComplete_17 ?_
    refine lv_iconst (v := iI 2) hx hb dX4_isComplete_20 rfl ?_
    refine lv_isub hx hb dX4_isComplete_21 ?_
    obtain ⟨r10, e11, h⟩ := bsome h
    have hPc := sb_P [(h_p0, .inr (4, [.ref h_p0_codes, .int v_length])), (h_p0_codes, .inl (cyI, 60, .inl v_codes))] hP [0, 1] rfl
    have hDc := sb_D [(h_p0, .inr (4, [.ref h_p0_codes, .int v_length])), (h_p0_codes, .inl (cyI, 60, .inl v_codes))] hD [0, 1] (by decide) rfl
    have hFc := va_free (wc := [(h_p0, .inr (4, [.ref h_p0_codes, .int v_length])), (h_p0_codes, .inl (cyI, 60, .inl v_codes))]) hD hS hA [0, 1] rfl
    refine va_calli (va_runV (As := [.int (v_length - iI 2)]) (rest := []) ⟨hx, hb, hml, hown, hts⟩ (c_X4_codeAt l dC dI cyI cyJ cyT h_p0 h_p0_codes H.size v_length v_codes (v_length - iI 2) r10 e11) (cwV 1 hts gX4_isComplete_X4_codeAt rfl rfl rfl (by decide +kernel) ⟨Nat.le_of_ble_eq_true rfl, Nat.le_of_ble_eq_true rfl⟩) ⟨PRE.blind, va_recv hK hPc (ci := 4) (q0 := 0) rfl rfl, PRE.go hK hPc hDc hNW⟩ rfl rfl hl.1 rfl (lv_room (Nat.le_of_ble_eq_true rfl)) dX4_isComplete_22 ⟨Nat.zero_le _, Nat.zero_le _⟩) hS (fun q _ h => hFc q h) hFc (fun z12 u t H locs ht hvm hw hB hz1 hk1 hS => ?_)
    subst z12
    obtain ⟨hP, hD⟩ := va_join (wr := []) (w1 := [(h_p0, .inr (4, [.ref h_p0_codes, .int v_length])), (h_p0_codes, .inl (cyI, 60, .inl v_codes))]) hP hD [0, 1] [] rfl rfl (by decide) (by decide) hk1 hFc (WLD.P hB ht) hB.2
    have hP : va_P (dC, dI) vwCl [(h_p0, .inr (4, [.ref h_p0_codes, .int v_length])), (h_p0_codes, .inl (cyI, 60, .inl v_codes))] H := hP
    have hD : va_D A [(h_p0, .inr (4, [.ref h_p0_codes, .int v_length])), (h_p0_codes, .inl (cyI, 60, .inl v_codes))] := hD
    refine lv_bipush (v := iI 45) hx hb dX4_isComplete_25 (by decide) ?_
    refine lv_icmp_ne (tgt := 34) hx hb dX4_isComplete_27 (by decide) (fun c13 => ?_) (fun c13 => ?_)
    · have h := ineg c13 h
      refine lv_iconst (v := iI 0) hx hb dX4_isComplete_34 rfl ?_
      refine lv_istore_n hx hb dX4_isComplete_35 rfl hl (by decide) (rfl : _ = ([(1, .int (iI 0)), (0, .ref h_p0)] : List (Nat × Value))) (fun ls hl => ?_)
      refine lv_iload_n hx hb dX4_isComplete_36 rfl (lv_at hl 0 rfl) ?_
      refine lv_if_eq (tgt := 55) hx hb dX4_isComplete_37 (by decide) (fun c14 => ?_) (fun c14 => ?_)
      · have h := ipos c14 h
        refine lv_iconst (v := iI 0) hx hb dX4_isComplete_55 rfl ?_
        obtain rfl := Option.some.inj h
        exact W.zret (v := iI 0) hx hb hr (by decide) (fun t ht hW => ⟨⟨iI 0, (), rfl, rfl, WLD.of ht hP hD⟩, hS.F ht⟩) hS.2.2 dX4_isComplete_56
      · have h := ineg c14 h
        refine lv_aload_n hx hb dX4_isComplete_40 rfl (lv_at hl 1 rfl) ?_
        obtain ⟨r15, e16, h⟩ := bsome h
        have hPc := sb_P [(h_p0, .inr (4, [.ref h_p0_codes, .int v_length])), (h_p0_codes, .inl (cyI, 60, .inl v_codes))] hP [0, 1] rfl
        have hDc := sb_D [(h_p0, .inr (4, [.ref h_p0_codes, .int v_length])), (h_p0_codes, .inl (cyI, 60, .inl v_codes))] hD [0, 1] (by decide) rfl
        have hFc := va_free (wc := [(h_p0, .inr (4, [.ref h_p0_codes, .int v_length])), (h_p0_codes, .inl (cyI, 60, .inl v_codes))]) hD hS hA [0, 1] rfl
        refine va_calli (va_runV (As := []) (rest := []) ⟨hx, hb, hml, hown, hts⟩ (c_X4_firstFault l dC dI cyI cyJ cyT h_p0 h_p0_codes H.size v_length v_codes n r15 e16) (cwV 0 hts gX4_isComplete_X4_firstFault rfl rfl rfl (by decide +kernel) ⟨Nat.le_of_ble_eq_true rfl, Nat.le_of_ble_eq_true rfl⟩) ⟨PRE.blind, va_recv hK hPc (ci := 4) (q0 := 0) rfl rfl, PRE.go hK hPc hDc hNW⟩ rfl rfl hl.1 rfl (lv_room (Nat.le_of_ble_eq_true rfl)) dX4_isComplete_41 ⟨Nat.zero_le _, Nat.zero_le _⟩) hS (fun q _ h => hFc q h) hFc (fun z17 u t H locs ht hvm hw hB hz1 hk1 hS => ?_)
        subst z17
        obtain ⟨hP, hD⟩ := va_join (wr := []) (w1 := [(h_p0, .inr (4, [.ref h_p0_codes, .int v_length])), (h_p0_codes, .inl (cyI, 60, .inl v_codes))]) hP hD [0, 1] [] rfl rfl (by decide) (by decide) hk1 hFc (WLD.P hB ht) hB.2
        have hP : va_P (dC, dI) vwCl [(h_p0, .inr (4, [.ref h_p0_codes, .int v_length])), (h_p0_codes, .inl (cyI, 60, .inl v_codes))] H := hP
        have hD : va_D A [(h_p0, .inr (4, [.ref h_p0_codes, .int v_length])), (h_p0_codes, .inl (cyI, 60, .inl v_codes))] := hD
        refine lv_aload_n hx hb dX4_isComplete_44 rfl (lv_at hl 1 rfl) ?_
        refine va_get (D := (dC, dI)) (ci := 4) (v := .int v_length) (C := RX4) (T := TX4) (N := 2) hx hb hts m_X4_isComplete_0 hown hK hP 0 rfl rfl 1 (by decide) (hts (.fieldLink RX4 15 "SleeperBerths$Text" "length" "I") m_X4_isComplete_1) (fun _ h9 => h9) rfl dX4_isComplete_45 ?_
        refine lv_icmp_ne (tgt := 55) hx hb dX4_isComplete_48 (by decide) (fun c18 => ?_) (fun c18 => ?_)
        · have h := ineg c18 h
          refine lv_iconst (v := iI 0) hx hb dX4_isComplete_55 rfl ?_
          obtain rfl := Option.some.inj h
          exact W.zret (v := iI 0) hx hb hr (by decide) (fun t ht hW => ⟨⟨iI 0, (), rfl, rfl, WLD.of ht hP hD⟩, hS.F ht⟩) hS.2.2 dX4_isComplete_56
        · have h := ipos c18 h
          refine lv_iconst (v := iI 1) hx hb dX4_isComplete_51 rfl ?_
          refine lv_goto (tgt := 56) hx hb dX4_isComplete_52 (by decide) ?_
          obtain rfl := Option.some.inj h
          exact W.zret (v := iI 1) hx hb hr (by decide) (fun t ht hW => ⟨⟨iI 1, (), rfl, rfl, WLD.of ht hP hD⟩, hS.F ht⟩) hS.2.2 dX4_isComplete_56
    · have h := ipos c13 h
      refine lv_iconst (v := iI 1) hx hb dX4_isComplete_30 rfl ?_
      refine lv_goto (tgt := 35) hx hb dX4_isComplete_31 (by decide) ?_
      refine lv_istore_n hx hb dX4_isComplete_35 rfl hl (by decide) (rfl : _ = ([(1, .int (iI 1)), (0, .ref h_p0)] : List (Nat × Value))) (fun ls hl => ?_)
      refine lv_iload_n hx hb dX4_isComplete_36 rfl (lv_at hl 0 rfl) ?_
      refine lv_if_eq (tgt := 55) hx hb dX4_isComplete_37 (by decide) (fun c19 => ?_) (fun c19 => ?_)
      · have h := ipos c19 h
        refine lv_iconst (v := iI 0) hx hb dX4_isComplete_55 rfl ?_
        obtain rfl := Option.some.inj h
        exact W.zret (v := iI 0) hx hb hr (by decide) (fun t ht hW => ⟨⟨iI 0, (), rfl, rfl, WLD.of ht hP hD⟩, hS.F ht⟩) hS.2.2 dX4_isComplete_56
      · have h := ineg c19 h
        refine lv_aload_n hx hb dX4_isComplete_40 rfl (lv_at hl 1 rfl) ?_
        obtain ⟨r20, e21, h⟩ := bsome h
        have hPc := sb_P [(h_p0, .inr (4, [.ref h_p0_codes, .int v_length])), (h_p0_codes, .inl (cyI, 60, .inl v_codes))] hP [0, 1] rfl
        have hDc := sb_D [(h_p0, .inr (4, [.ref h_p0_codes, .int v_length])), (h_p0_codes, .inl (cyI, 60, .inl v_codes))] hD [0, 1] (by decide) rfl
        have hFc := va_free (wc := [(h_p0, .inr (4, [.ref h_p0_codes, .int v_length])), (h_p0_codes, .inl (cyI, 60, .inl v_codes))]) hD hS hA [0, 1] rfl
        refine va_calli (va_runV (As := []) (rest := []) ⟨hx, hb, hml, hown, hts⟩ (c_X4_firstFault l dC dI cyI cyJ cyT h_p0 h_p0_codes H.size v_length v_codes n r20 e21) (cwV 0 hts gX4_isComplete_X4_firstFault rfl rfl rfl (by decide +kernel) ⟨Nat.le_of_ble_eq_true rfl, Nat.le_of_ble_eq_true rfl⟩) ⟨PRE.blind, va_recv hK hPc (ci := 4) (q0 := 0) rfl rfl, PRE.go hK hPc hDc hNW⟩ rfl rfl hl.1 rfl (lv_room (Nat.le_of_ble_eq_true rfl)) dX4_isComplete_41 ⟨Nat.zero_le _, Nat.zero_le _⟩) hS (fun q _ h => hFc q h) hFc (fun z22 u t H locs ht hvm hw hB hz1 hk1 hS => ?_)
        subst z22
        obtain ⟨hP, hD⟩ := va_join (wr := []) (w1 := [(h_p0, .inr (4, [.ref h_p0_codes, .int v_length])), (h_p0_codes, .inl (cyI, 60, .inl v_codes))]) hP hD [0, 1] [] rfl rfl (by decide) (by decide) hk1 hFc (WLD.P hB ht) hB.2
        have hP : va_P (dC, dI) vwCl [(h_p0, .inr (4, [.ref h_p0_codes, .int v_length])), (h_p0_codes, .inl (cyI, 60, .inl v_codes))] H := hP
        have hD : va_D A [(h_p0, .inr (4, [.ref h_p0_codes, .int v_length])), (h_p0_codes, .inl (cyI, 60, .inl v_codes))] := hD
        refine lv_aload_n hx hb dX4_isComplete_44 rfl (lv_at hl 1 rfl) ?_
        refine va_get (D := (dC, dI)) (ci := 4) (v := .int v_length) (C := RX4) (T := TX4) (N := 2) hx hb hts m_X4_isComplete_0 hown hK hP 0 rfl rfl 1 (by decide) (hts (.fieldLink RX4 15 "SleeperBerths$Text" "length" "I") m_X4_isComplete_1) (fun _ h9 => h9) rfl dX4_isComplete_45 ?_
        refine lv_icmp_ne (tgt := 55) hx hb dX4_isComplete_48 (by decide) (fun c23 => ?_) (fun c23 => ?_)
        · have h := ineg c23 h
          refine lv_iconst (v := iI 0) hx hb dX4_isComplete_55 rfl ?_
          obtain rfl := Option.some.inj h
          exact W.zret (v := iI 0) hx hb hr (by decide) (fun t ht hW => ⟨⟨iI 0, (), rfl, rfl, WLD.of ht hP hD⟩, hS.F ht⟩) hS.2.2 dX4_isComplete_56
        · have h := ipos c23 h
          refine lv_iconst (v := iI 1) hx hb dX4_isComplete_51 rfl ?_
          refine lv_goto (tgt := 56) hx hb dX4_isComplete_52 (by decide) ?_
          obtain rfl := Option.some.inj h
          exact W.zret (v := iI 1) hx hb hr (by decide) (fun t ht hW => ⟨⟨iI 1, (), rfl, rfl, WLD.of ht hP hD⟩, hS.F ht⟩) hS.2.2 dX4_isComplete_56
def s_X4_from (v_length : Int32) (v_codes : Nat → Int32) (a1 : Int32) : Option (Int32) := ((s_X4_codeAt v_length v_codes a1).bind fun r1 => (some ((r1 - iI 48))))
set_option maxHeartbeats 4000000 in
set_option maxRecDepth 100000 in
theorem c_X4_from (l : Launch) (dC : Nat → ClassId) (dI : Nat → Nat → Nat) (cyI cyJ cyT : ClassId) (h_p0 : Nat) (h_p0_codes : Nat) (sz : Nat) (v_length : Int32) (v_codes : Nat → Int32) (a1 : Int32) (o : Int32) (h : s_X4_from v_length v_codes a1 = some o) : Met l yX4_from wsX4_from ({ frames := 2, cells := 0, slots := 0, locals := 42 }) (va_Pc [.ref h_p0, .int a1] (PRE (dC, dI) (TYS cyI cyJ cyT) sz [(h_p0, .inr (4, [.ref h_p0_codes, .int v_length])), (h_p0_codes, .inl (cyI, 60, .inl v_codes))])) (va_Qi (S := Unit) (fun r _ => r = o) (fun _ t => WLD (dC, dI) (va_A [(h_p0, .inr (4, [.ref h_p0_codes, .int v_length])), (h_p0_codes, .inl (cyI, 60, .inl v_codes))] sz) [(h_p0, .inr (4, [.ref h_p0_codes, .int v_length])), (h_p0_codes, .inl (cyI, 60, .inl v_codes))] t) (va_A [(h_p0, .inr (4, [.ref h_p0_codes, .int v_length])), (h_p0_codes, .inl (cyI, 60, .inl v_codes))] sz)) 0 0 (va_A [(h_p0, .inr (4, [.ref h_p0_codes, .int v_length])), (h_p0_codes, .inl (cyI, 60, .inl v_codes))] sz) := by
  refine Met.ofW (cc := cX4_from) (maxL := 2) (ret := (some .int)) (by decide) rfl ?_
  intro p e s m args below meth c s₁ B hml hv
  obtain ⟨rfl, hsz, hP, hK, hD0, hNW⟩ := hv
  have hx := B.exec
  have hb := B.bytes
  have hr := B.returns
  have hts := atoms_spec (ws := wsX4_from) B.pre
  have hown : s.vm.findClass RX4 = some m.cls := findClass_of_methodNamed B.named
  have hlocks := B.notSynchronized
  subst hsz
  have hD := hD0.self (sz := s.heap.size)
  generalize hAe : va_A [(h_p0, .inr (4, [.ref h_p0_codes, .int v_length])), (h_p0_codes, .inl (cyI, 60, .inl v_codes))] s.heap.size = A at hD ⊢
  have hA : ∀ q : Nat, s.heap.size ≤ q → A q := fun q h => by rw [← hAe]; exact Or.inr h
  have hS : va_S A s.heap s.heap [] := va_S.rf
  have hP : va_P (dC, dI) vwCl [(h_p0, .inr (4, [.ref h_p0_codes, .int v_length])), (h_p0_codes, .inl (cyI, 60, .inl v_codes))] s.heap := hP
  have hl := lv_entry ([.ref h_p0, .int a1]) (n := 2) (Nat.le_of_ble_eq_true rfl)
  rw [lg_entry_eq]
  generalize (lg_sl ([.ref h_p0, .int a1]) ++ List.replicate (2 - (lg_sl ([.ref h_p0, .int a1])).length) Slot.unset).toArray = ls at hl ⊢
  have hl : lv_has ls 2 [(0, .ref h_p0), (1, .int a1)] := hl
  unfold s_X4_from at h
  refine lv_aload_n hx hb dX4_from_0 rfl (lv_at hl 0 rfl) ?_
  refine lv_iload_n hx hb dX4_from_1 rfl (lv_at hl 1 rfl) ?_
  obtain ⟨r1, e2, h⟩ := bsome h
  have hPc := sb_P [(h_p0, .inr (4, [.ref h_p0_codes, .int v_length])), (h_p0_codes, .inl (cyI, 60, .inl v_codes))] hP [0, 1] rfl
  have hDc := sb_D [(h_p0, .inr (4, [.ref h_p0_codes, .int v_length])), (h_p0_codes, .inl (cyI, 60, .inl v_codes))] hD [0, 1] (by decide) rfl
  have hFc := va_free (wc := [(h_p0, .inr (4, [.ref h_p0_codes, .int v_length])), (h_p0_codes, .inl (cyI, 60, .inl v_codes))]) hD hS hA [0, 1] rfl
  refine va_calli (va_runV (As := [.int a1]) (rest := []) ⟨hx, hb, hml, hown, hts⟩ (c_X4_codeAt l dC dI cyI cyJ cyT h_p0 h_p0_codes s.heap.size v_length v_codes a1 r1 e2) (cwV 1 hts gX4_from_X4_codeAt rfl rfl rfl (by decide +kernel) ⟨Nat.le_of_ble_eq_true rfl, Nat.le_of_ble_eq_true rfl⟩) ⟨PRE.blind, va_recv hK hPc (ci := 4) (q0 := 0) rfl rfl, PRE.go hK hPc hDc hNW⟩ rfl rfl hl.1 rfl (lv_room (Nat.le_of_ble_eq_true rfl)) dX4_from_2 ⟨Nat.zero_le _, Nat.zero_le _⟩) hS (fun q _ h => hFc q h) hFc (fun z3 u t H locs ht hvm hw hB hz1 hk1 hS => ?_)
  subst z3
  obtain ⟨hP, hD⟩ := va_join (wr := []) (w1 := [(h_p0, .inr (4, [.ref h_p0_codes, .int v_length])), (h_p0_codes, .inl (cyI, 60, .inl v_codes))]) hP hD [0, 1] [] rfl rfl (by decide) (by decide) hk1 hFc (WLD.P hB ht) hB.2
  have hP : va_P (dC, dI) vwCl [(h_p0, .inr (4, [.ref h_p0_codes, .int v_length])), (h_p0_codes, .inl (cyI, 60, .inl v_codes))] H := hP
  have hD : va_D A [(h_p0, .inr (4, [.ref h_p0_codes, .int v_length])), (h_p0_codes, .inl (cyI, 60, .inl v_codes))] := hD
  refine lv_bipush (v := iI 48) hx hb dX4_from_5 (by decide) ?_
  refine lv_isub hx hb dX4_from_7 ?_
  obtain rfl := Option.some.inj h
  exact W.iret (v := (r1 - iI 48)) hx hb hr (fun t ht hW => ⟨⟨(r1 - iI 48), (), rfl, rfl, WLD.of ht hP hD⟩, hS.F ht⟩) hS.2.2 dX4_from_8
def s_X4_to (v_length : Int32) (v_codes : Nat → Int32) (a1 : Int32) : Option (Int32) := ((s_X4_codeAt v_length v_codes (a1 + iI 2)).bind fun r1 => (some ((r1 - iI 48))))
set_option maxHeartbeats 4000000 in
set_option maxRecDepth 100000 in
theorem c_X4_to (l : Launch) (dC : Nat → ClassId) (dI : Nat → Nat → Nat) (cyI cyJ cyT : ClassId) (h_p0 : Nat) (h_p0_codes : Nat) (sz : Nat) (v_length : Int32) (v_codes : Nat → Int32) (a1 : Int32) (o : Int32) (h : s_X4_to v_length v_codes a1 = some o) : Met l yX4_to wsX4_to ({ frames := 2, cells := 0, slots := 0, locals := 42 }) (va_Pc [.ref h_p0, .int a1] (PRE (dC, dI) (TYS cyI cyJ cyT) sz [(h_p0, .inr (4, [.ref h_p0_codes, .int v_length])), (h_p0_codes, .inl (cyI, 60, .inl v_codes))])) (va_Qi (S := Unit) (fun r _ => r = o) (fun _ t => WLD (dC, dI) (va_A [(h_p0, .inr (4, [.ref h_p0_codes, .int v_length])), (h_p0_codes, .inl (cyI, 60, .inl v_codes))] sz) [(h_p0, .inr (4, [.ref h_p0_codes, .int v_length])), (h_p0_codes, .inl (cyI, 60, .inl v_codes))] t) (va_A [(h_p0, .inr (4, [.ref h_p0_codes, .int v_length])), (h_p0_codes, .inl (cyI, 60, .inl v_codes))] sz)) 0 0 (va_A [(h_p0, .inr (4, [.ref h_p0_codes, .int v_length])), (h_p0_codes, .inl (cyI, 60, .inl v_codes))] sz) := by
  refine Met.ofW (cc := cX4_to) (maxL := 2) (ret := (some .int)) (by decide) rfl ?_
  intro p e s m args below meth c s₁ B hml hv
  obtain ⟨rfl, hsz, hP, hK, hD0, hNW⟩ := hv
  have hx := B.exec
  have hb := B.bytes
  have hr := B.returns
  have hts := atoms_spec (ws := wsX4_to) B.pre
  have hown : s.vm.findClass RX4 = some m.cls := findClass_of_methodNamed B.named
  have hlocks := B.notSynchronized
  subst hsz
  have hD := hD0.self (sz := s.heap.size)
  generalize hAe : va_A [(h_p0, .inr (4, [.ref h_p0_codes, .int v_length])), (h_p0_codes, .inl (cyI, 60, .inl v_codes))] s.heap.size = A at hD ⊢
  have hA : ∀ q : Nat, s.heap.size ≤ q → A q := fun q h => by rw [← hAe]; exact Or.inr h
  have hS : va_S A s.heap s.heap [] := va_S.rf
  have hP : va_P (dC, dI) vwCl [(h_p0, .inr (4, [.ref h_p0_codes, .int v_length])), (h_p0_codes, .inl (cyI, 60, .inl v_codes))] s.heap := hP
  have hl := lv_entry ([.ref h_p0, .int a1]) (n := 2) (Nat.le_of_ble_eq_true rfl)
  rw [lg_entry_eq]
  generalize (lg_sl ([.ref h_p0, .int a1]) ++ List.replicate (2 - (lg_sl ([.ref h_p0, .int a1])).length) Slot.unset).toArray = ls at hl ⊢
  have hl : lv_has ls 2 [(0, .ref h_p0), (1, .int a1)] := hl
  unfold s_X4_to at h
  refine lv_aload_n hx hb dX4_to_0 rfl (lv_at hl 0 rfl) ?_
  refine lv_iload_n hx hb dX4_to_1 rfl (lv_at hl 1 rfl) ?_
  refine lv_iconst (v := iI 2) hx hb dX4_to_2 rfl ?_
  refine lv_iadd hx hb dX4_to_3 ?_
  obtain ⟨r1, e2, h⟩ := bsome h
  have hPc := sb_P [(h_p0, .inr (4, [.ref h_p0_codes, .int v_length])), (h_p0_codes, .inl (cyI, 60, .inl v_codes))] hP [0, 1] rfl
  have hDc := sb_D [(h_p0, .inr (4, [.ref h_p0_codes, .int v_length])), (h_p0_codes, .inl (cyI, 60, .inl v_codes))] hD [0, 1] (by decide) rfl
  have hFc := va_free (wc := [(h_p0, .inr (4, [.ref h_p0_codes, .int v_length])), (h_p0_codes, .inl (cyI, 60, .inl v_codes))]) hD hS hA [0, 1] rfl
  refine va_calli (va_runV (As := [.int (a1 + iI 2)]) (rest := []) ⟨hx, hb, hml, hown, hts⟩ (c_X4_codeAt l dC dI cyI cyJ cyT h_p0 h_p0_codes s.heap.size v_length v_codes (a1 + iI 2) r1 e2) (cwV 1 hts gX4_to_X4_codeAt rfl rfl rfl (by decide +kernel) ⟨Nat.le_of_ble_eq_true rfl, Nat.le_of_ble_eq_true rfl⟩) ⟨PRE.blind, va_recv hK hPc (ci := 4) (q0 := 0) rfl rfl, PRE.go hK hPc hDc hNW⟩ rfl rfl hl.1 rfl (lv_room (Nat.le_of_ble_eq_true rfl)) dX4_to_4 ⟨Nat.zero_le _, Nat.zero_le _⟩) hS (fun q _ h => hFc q h) hFc (fun z3 u t H locs ht hvm hw hB hz1 hk1 hS => ?_)
  subst z3
  obtain ⟨hP, hD⟩ := va_join (wr := []) (w1 := [(h_p0, .inr (4, [.ref h_p0_codes, .int v_length])), (h_p0_codes, .inl (cyI, 60, .inl v_codes))]) hP hD [0, 1] [] rfl rfl (by decide) (by decide) hk1 hFc (WLD.P hB ht) hB.2
  have hP : va_P (dC, dI) vwCl [(h_p0, .inr (4, [.ref h_p0_codes, .int v_length])), (h_p0_codes, .inl (cyI, 60, .inl v_codes))] H := hP
  have hD : va_D A [(h_p0, .inr (4, [.ref h_p0_codes, .int v_length])), (h_p0_codes, .inl (cyI, 60, .inl v_codes))] := hD
  refine lv_bipush (v := iI 48) hx hb dX4_to_7 (by decide) ?_
  refine lv_isub hx hb dX4_to_9 ?_
  obtain rfl := Option.some.inj h
  exact W.iret (v := (r1 - iI 48)) hx hb hr (fun t ht hW => ⟨⟨(r1 - iI 48), (), rfl, rfl, WLD.of ht hP hD⟩, hS.F ht⟩) hS.2.2 dX4_to_10
def s_X4_isThrough (v_length : Int32) (v_codes : Nat → Int32) (a1 : Int32) : Option (Int32) := ((s_X4_codeAt v_length v_codes (a1 + iI 3)).bind fun r1 => (if r1 = iI 33 then (some (iI 1)) else (some (iI 0))))
set_option maxHeartbeats 4000000 in
set_option maxRecDepth 100000 in
theorem c_X4_isThrough (l : Launch) (dC : Nat → ClassId) (dI : Nat → Nat → Nat) (cyI cyJ cyT : ClassId) (h_p0 : Nat) (h_p0_codes : Nat) (sz : Nat) (v_length : Int32) (v_codes : Nat → Int32) (a1 : Int32) (o : Int32) (h : s_X4_isThrough v_length v_codes a1 = some o) : Met l yX4_isThrough wsX4_isThrough ({ frames := 2, cells := 0, slots := 0, locals := 42 }) (va_Pc [.ref h_p0, .int a1] (PRE (dC, dI) (TYS cyI cyJ cyT) sz [(h_p0, .inr (4, [.ref h_p0_codes, .int v_length])), (h_p0_codes, .inl (cyI, 60, .inl v_codes))])) (va_Qi (S := Unit) (fun r _ => r = o) (fun _ t => WLD (dC, dI) (va_A [(h_p0, .inr (4, [.ref h_p0_codes, .int v_length])), (h_p0_codes, .inl (cyI, 60, .inl v_codes))] sz) [(h_p0, .inr (4, [.ref h_p0_codes, .int v_length])), (h_p0_codes, .inl (cyI, 60, .inl v_codes))] t) (va_A [(h_p0, .inr (4, [.ref h_p0_codes, .int v_length])), (h_p0_codes, .inl (cyI, 60, .inl v_codes))] sz)) 0 0 (va_A [(h_p0, .inr (4, [.ref h_p0_codes, .int v_length])), (h_p0_codes, .inl (cyI, 60, .inl v_codes))] sz) := by
  refine Met.ofW (cc := cX4_isThrough) (maxL := 2) (ret := (some .boolean)) (by decide) rfl ?_
  intro p e s m args below meth c s₁ B hml hv
  obtain ⟨rfl, hsz, hP, hK, hD0, hNW⟩ := hv
  have hx := B.exec
  have hb := B.bytes
  have hr := B.returns
  have hts := atoms_spec (ws := wsX4_isThrough) B.pre
  have hown : s.vm.findClass RX4 = some m.cls := findClass_of_methodNamed B.named
  have hlocks := B.notSynchronized
  subst hsz
  have hD := hD0.self (sz := s.heap.size)
  generalize hAe : va_A [(h_p0, .inr (4, [.ref h_p0_codes, .int v_length])), (h_p0_codes, .inl (cyI, 60, .inl v_codes))] s.heap.size = A at hD ⊢
  have hA : ∀ q : Nat, s.heap.size ≤ q → A q := fun q h => by rw [← hAe]; exact Or.inr h
  have hS : va_S A s.heap s.heap [] := va_S.rf
  have hP : va_P (dC, dI) vwCl [(h_p0, .inr (4, [.ref h_p0_codes, .int v_length])), (h_p0_codes, .inl (cyI, 60, .inl v_codes))] s.heap := hP
  have hl := lv_entry ([.ref h_p0, .int a1]) (n := 2) (Nat.le_of_ble_eq_true rfl)
  rw [lg_entry_eq]
  generalize (lg_sl ([.ref h_p0, .int a1]) ++ List.replicate (2 - (lg_sl ([.ref h_p0, .int a1])).length) Slot.unset).toArray = ls at hl ⊢
  have hl : lv_has ls 2 [(0, .ref h_p0), (1, .int a1)] := hl
  unfold s_X4_isThrough at h
  refine lv_aload_n hx hb dX4_isThrough_0 rfl (lv_at hl 0 rfl) ?_
  refine lv_iload_n hx hb dX4_isThrough_1 rfl (lv_at hl 1 rfl) ?_
  refine lv_iconst (v := iI 3) hx hb dX4_isThrough_2 rfl ?_
  refine lv_iadd hx hb dX4_isThrough_3 ?_
  obtain ⟨r1, e2, h⟩ := bsome h
  have hPc := sb_P [(h_p0, .inr (4, [.ref h_p0_codes, .int v_length])), (h_p0_codes, .inl (cyI, 60, .inl v_codes))] hP [0, 1] rfl
  have hDc := sb_D [(h_p0, .inr (4, [.ref h_p0_codes, .int v_length])), (h_p0_codes, .inl (cyI, 60, .inl v_codes))] hD [0, 1] (by decide) rfl
  have hFc := va_free (wc := [(h_p0, .inr (4, [.ref h_p0_codes, .int v_length])), (h_p0_codes, .inl (cyI, 60, .inl v_codes))]) hD hS hA [0, 1] rfl
  refine va_calli (va_runV (As := [.int (a1 + iI 3)]) (rest := []) ⟨hx, hb, hml, hown, hts⟩ (c_X4_codeAt l dC dI cyI cyJ cyT h_p0 h_p0_codes s.heap.size v_length v_codes (a1 + iI 3) r1 e2) (cwV 1 hts gX4_isThrough_X4_codeAt rfl rfl rfl (by decide +kernel) ⟨Nat.le_of_ble_eq_true rfl, Nat.le_of_ble_eq_true rfl⟩) ⟨PRE.blind, va_recv hK hPc (ci := 4) (q0 := 0) rfl rfl, PRE.go hK hPc hDc hNW⟩ rfl rfl hl.1 rfl (lv_room (Nat.le_of_ble_eq_true rfl)) dX4_isThrough_4 ⟨Nat.zero_le _, Nat.zero_le _⟩) hS (fun q _ h => hFc q h) hFc (fun z3 u t H locs ht hvm hw hB hz1 hk1 hS => ?_)
  subst z3
  obtain ⟨hP, hD⟩ := va_join (wr := []) (w1 := [(h_p0, .inr (4, [.ref h_p0_codes, .int v_length])), (h_p0_codes, .inl (cyI, 60, .inl v_codes))]) hP hD [0, 1] [] rfl rfl (by decide) (by decide) hk1 hFc (WLD.P hB ht) hB.2
  have hP : va_P (dC, dI) vwCl [(h_p0, .inr (4, [.ref h_p0_codes, .int v_length])), (h_p0_codes, .inl (cyI, 60, .inl v_codes))] H := hP
  have hD : va_D A [(h_p0, .inr (4, [.ref h_p0_codes, .int v_length])), (h_p0_codes, .inl (cyI, 60, .inl v_codes))] := hD
  refine lv_bipush (v := iI 33) hx hb dX4_isThrough_7 (by decide) ?_
  refine lv_icmp_ne (tgt := 16) hx hb dX4_isThrough_9 (by decide) (fun c4 => ?_) (fun c4 => ?_)
  · have h := ineg c4 h
    refine lv_iconst (v := iI 0) hx hb dX4_isThrough_16 rfl ?_
    obtain rfl := Option.some.inj h
    exact W.zret (v := iI 0) hx hb hr (by decide) (fun t ht hW => ⟨⟨iI 0, (), rfl, rfl, WLD.of ht hP hD⟩, hS.F ht⟩) hS.2.2 dX4_isThrough_17
  · have h := ipos c4 h
    refine lv_iconst (v := iI 1) hx hb dX4_isThrough_12 rfl ?_
    refine lv_goto (tgt := 17) hx hb dX4_isThrough_13 (by decide) ?_
    obtain rfl := Option.some.inj h
    exact W.zret (v := iI 1) hx hb hr (by decide) (fun t ht hW => ⟨⟨iI 1, (), rfl, rfl, WLD.of ht hP hD⟩, hS.F ht⟩) hS.2.2 dX4_isThrough_17
