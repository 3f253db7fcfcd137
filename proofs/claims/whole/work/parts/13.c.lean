def s_X6_init (n : Nat) : Option (Int32 × Int32 × Int32 × (Nat → Int32) × Int32 × Int32 × Int32 × (Nat → Int32) × (Nat → Int32) × Int32 × (Nat → Int32) × (Nat → Int32) × (Nat → TS)) := ((s_X5_init n).bind fun r2 => ((s_X1_init n).bind fun r12 => (s_X4_init.bind fun r18 => (some (r12.1, r12.2.1, r18.1, r18.2, r2.1, r2.2.1, r2.2.2.1, r2.2.2.2.1, r2.2.2.2.2.1, r2.2.2.2.2.2.1, r2.2.2.2.2.2.2.1, r2.2.2.2.2.2.2.2, r12.2.2)))))
set_option maxRecDepth 20000 in
theorem m_X6_init_0 : (.methodLink RX6 3 objectInit : Cond) ∈ wsX6_init := by decide +kernel
set_option maxRecDepth 20000 in
theorem m_X6_init_1 : (.instanceMethod objectInit : Cond) ∈ wsX6_init := by decide +kernel
set_option maxRecDepth 20000 in
theorem m_X6_init_2 : (.code objectInit ⟨#[0xb1]⟩ 1 none : Cond) ∈ wsX6_init := by decide +kernel
set_option maxRecDepth 20000 in
theorem m_X6_init_3 : ∀ w ∈ u_ws RX5 TX5 6, w ∈ wsX6_init := by decide +kernel
set_option maxRecDepth 20000 in
theorem m_X6_init_4 : (.classLink RX6 9 RX5 : Cond) ∈ wsX6_init := by decide +kernel
set_option maxRecDepth 20000 in
theorem m_X6_init_5 : (.instantiable RX5 6 : Cond) ∈ wsX6_init := by decide +kernel
set_option maxRecDepth 20000 in
theorem m_X6_init_6 : (.initialized RX5 : Cond) ∈ wsX6_init := by decide +kernel
set_option maxRecDepth 20000 in
theorem m_X6_init_7 : (.instanceMethod yX5_init : Cond) ∈ wsX6_init := by decide +kernel
set_option maxRecDepth 20000 in
theorem m_X6_init_8 : ∀ w ∈ u_ws RX6 TX6 3, w ∈ wsX6_init := by decide +kernel
set_option maxRecDepth 20000 in
theorem m_X6_init_9 : (.fieldLink RX6 12 "SleeperBerths" "train" "LSleeperBerths$Train;" : Cond) ∈ wsX6_init := by decide +kernel
set_option maxRecDepth 20000 in
theorem m_X6_init_10 : ∀ w ∈ u_ws RX1 TX1 3, w ∈ wsX6_init := by decide +kernel
set_option maxRecDepth 20000 in
theorem m_X6_init_11 : (.classLink RX6 16 RX1 : Cond) ∈ wsX6_init := by decide +kernel
set_option maxRecDepth 20000 in
theorem m_X6_init_12 : (.instantiable RX1 3 : Cond) ∈ wsX6_init := by decide +kernel
set_option maxRecDepth 20000 in
theorem m_X6_init_13 : (.initialized RX1 : Cond) ∈ wsX6_init := by decide +kernel
set_option maxRecDepth 20000 in
theorem m_X6_init_14 : (.methodLink RX6 18 yX1_init : Cond) ∈ wsX6_init := by decide +kernel
set_option maxRecDepth 20000 in
theorem m_X6_init_15 : (.instanceMethod yX1_init : Cond) ∈ wsX6_init := by decide +kernel
set_option maxRecDepth 20000 in
theorem m_X6_init_16 : (.fieldLink RX6 19 "SleeperBerths" "history" "LSleeperBerths$History;" : Cond) ∈ wsX6_init := by decide +kernel
set_option maxRecDepth 20000 in
theorem m_X6_init_17 : ∀ w ∈ u_ws RX4 TX4 2, w ∈ wsX6_init := by decide +kernel
set_option maxRecDepth 20000 in
theorem m_X6_init_18 : (.classLink RX6 23 RX4 : Cond) ∈ wsX6_init := by decide +kernel
set_option maxRecDepth 20000 in
theorem m_X6_init_19 : (.instantiable RX4 2 : Cond) ∈ wsX6_init := by decide +kernel
set_option maxRecDepth 20000 in
theorem m_X6_init_20 : (.initialized RX4 : Cond) ∈ wsX6_init := by decide +kernel
set_option maxRecDepth 20000 in
theorem m_X6_init_21 : (.instanceMethod yX4_init : Cond) ∈ wsX6_init := by decide +kernel
set_option maxRecDepth 20000 in
theorem m_X6_init_22 : (.fieldLink RX6 26 "SleeperBerths" "text" "LSleeperBerths$Text;" : Cond) ∈ wsX6_init := by decide +kernel
set_option maxHeartbeats 4000000 in
set_option maxRecDepth 100000 in
theorem c_X6_init (l : Launch) (dC : Nat → ClassId) (dI : Nat → Nat → Nat) (cyI cyJ cyT : ClassId) (h_p0 : Nat) (sz : Nat) (n : Nat) (o : Int32 × Int32 × Int32 × (Nat → Int32) × Int32 × Int32 × Int32 × (Nat → Int32) × (Nat → Int32) × Int32 × (Nat → Int32) × (Nat → Int32) × (Nat → TS)) (h : s_X6_init n = some o) : Met l yX6_init wsX6_init ({ frames := 4, cells := 53, slots := 3277, locals := 74 }) (va_Pc [.ref h_p0] (PRE (dC, dI) (TYS cyI cyJ cyT) sz [(h_p0, .inr (6, [.null, .null, .null]))])) (va_Qv (S := Unit) (fun _ => True) (fun _ t => ∃ (b_history : Nat) (b_history_ring : Nat) (b_text : Nat) (b_text_codes : Nat) (b_train : Nat) (b_train_berths : Nat) (b_train_berths_ends : Nat) (b_train_berths_holders : Nat) (b_train_roster : Nat) (b_train_roster_cells : Nat) (b_train_settings : Nat) (b_history_rings : Nat → Nat), WLD (dC, dI) (va_A [(h_p0, .inr (6, [.null, .null, .null]))] sz) ([(h_p0, .inr (6, [.ref b_train, .ref b_history, .ref b_text])), (b_history, .inr (1, [.ref b_history_ring, .int o.1, .int o.2.1])), (b_history_ring, .inl (cyT, 6, .inr (.inr (.inr (.inr (ringF b_history_rings)))))), (b_text, .inr (4, [.ref b_text_codes, .int o.2.2.1])), (b_text_codes, .inl (cyI, 60, .inl o.2.2.2.1)), (b_train, .inr (5, [.ref b_train_berths, .ref b_train_roster, .ref b_train_settings, .int o.2.2.2.2.1, .int o.2.2.2.2.2.1, .int o.2.2.2.2.2.2.1])), (b_train_berths, .inr (0, [.ref b_train_berths_holders, .ref b_train_berths_ends])), (b_train_berths_ends, .inl (cyI, 3, .inl o.2.2.2.2.2.2.2.1)), (b_train_berths_holders, .inl (cyI, 162, .inl o.2.2.2.2.2.2.2.2.1)), (b_train_roster, .inr (3, [.ref b_train_roster_cells, .int o.2.2.2.2.2.2.2.2.2.1])), (b_train_roster_cells, .inl (cyI, 280, .inl o.2.2.2.2.2.2.2.2.2.2.1)), (b_train_settings, .inl (cyI, 3, .inl o.2.2.2.2.2.2.2.2.2.2.2.1))] ++ ringW cyI b_history_rings o.2.2.2.2.2.2.2.2.2.2.2.2) t) (va_A [(h_p0, .inr (6, [.null, .null, .null]))] sz)) 53 3277 (va_A [(h_p0, .inr (6, [.null, .null, .null]))] sz) := by
  refine Met.ofW (cc := cX6_init) (maxL := 1) (ret := none) (by decide) rfl ?_
  intro p e s m args below meth c s₁ B hml hv
  obtain ⟨rfl, hsz, hP, hK, hD0, hNW⟩ := hv
  have hx := B.exec
  have hb := B.bytes
  have hr := B.returns
  have hts := atoms_spec (ws := wsX6_init) B.pre
  have hown : s.vm.findClass RX6 = some m.cls := findClass_of_methodNamed B.named
  have hlocks := B.notSynchronized
  have hin : meth.name = "<init>" := (name_of_methodNamed B.named B.method).1
  subst hsz
  have hD := hD0.self (sz := s.heap.size)
  generalize hAe : va_A [(h_p0, .inr (6, [.null, .null, .null]))] s.heap.size = A at hD ⊢
  have hA : ∀ q : Nat, s.heap.size ≤ q → A q := fun q h => by rw [← hAe]; exact Or.inr h
  have hS : va_S A s.heap s.heap [] := va_S.rf
  have hP : va_P (dC, dI) vwCl [(h_p0, .inr (6, [.null, .null, .null]))] s.heap := hP
  have hl := lv_entry ([.ref h_p0]) (n := 1) (Nat.le_of_ble_eq_true rfl)
  rw [lg_entry_eq]
  generalize (lg_sl ([.ref h_p0]) ++ List.replicate (1 - (lg_sl ([.ref h_p0])).length) Slot.unset).toArray = ls at hl ⊢
  have hl : lv_has ls 1 [(0, .ref h_p0)] := hl
  unfold s_X6_init at h
  refine lv_aload_n hx hb dX6_init_0 rfl (lv_at hl 0 rfl) ?_
  refine W.objInit hx hb hown (hts (.methodLink RX6 3 objectInit) m_X6_init_0) (hts (.instanceMethod objectInit) m_X6_init_1) (hts (.code objectInit ⟨#[0xb1]⟩ 1 none) m_X6_init_2) rfl (by rw [hml]; exact hl.1) rfl dX6_init_1 (Nat.le_of_ble_eq_true rfl) (Nat.le_of_ble_eq_true rfl) ?_
  refine W.eq (g2 := F0 m 4 ls []) rfl ?_
  refine lv_aload_n hx hb dX6_init_4 rfl (lv_at hl 0 rfl) ?_
  refine va_new (ci := 5) (fs := [.null, .null, .null, .int 0, .int 0, .int 0]) (C := RX5) (T := TX5) (N := 6) hx hb hts m_X6_init_3 tyX5 tyX5_ok hown (hts (.classLink RX6 9 RX5) m_X6_init_4) (hts (.instantiable RX5 6) m_X6_init_5) (hts (.initialized RX5) m_X6_init_6) hK hP hD hS hA rfl (fun j hj => by rcases (show j = 0 ∨ j = 1 ∨ j = 2 ∨ j = 3 ∨ j = 4 ∨ j = 5 by omega) with rfl | rfl | rfl | rfl | rfl | rfl <;> rfl) (Nat.le_of_ble_eq_true rfl) (Nat.le_of_ble_eq_true rfl) dX6_init_5 (fun q1 H hP hD hS => ?_)
  have hP : va_P (dC, dI) vwCl [(h_p0, .inr (6, [.null, .null, .null])), (q1, .inr (5, [.null, .null, .null, .int 0, .int 0, .int 0]))] H := hP
  have hD : va_D A [(h_p0, .inr (6, [.null, .null, .null])), (q1, .inr (5, [.null, .null, .null, .int 0, .int 0, .int 0]))] := hD
  refine lv_dup hx hb dX6_init_8 rfl ?_
  obtain ⟨r2, e3, h⟩ := bsome h
  have hPc := sb_P [(q1, .inr (5, [.null, .null, .null, .int 0, .int 0, .int 0]))] hP [1] rfl
  have hDc := sb_D [(q1, .inr (5, [.null, .null, .null, .int 0, .int 0, .int 0]))] hD [1] (by decide) rfl
  have hFc := va_free (wc := [(q1, .inr (5, [.null, .null, .null, .int 0, .int 0, .int 0]))]) hD hS hA [1] rfl
  refine va_callv (va_runIN (As := []) (rest := [.ref q1, .ref h_p0]) ⟨hx, hb, hml, hown, hts⟩ (c_X5_init l dC dI cyI cyJ cyT q1 H.size n r2 e3) ⟨va_cnB (host := "SleeperBerths") 0 hts gX6_init_X5_init_n11 rfl rfl rfl (hNW.1 0 rfl) (hts (.initialized RX5) m_X6_init_6) (by decide +kernel) ⟨Nat.le_of_ble_eq_true rfl, Nat.le_of_ble_eq_true rfl⟩, rfl, (hts (.instanceMethod yX5_init) m_X6_init_7)⟩ ⟨PRE.blind, PRE.go hK hPc hDc hNW⟩ rfl rfl hl.1 rfl (lv_room (Nat.le_of_ble_eq_true rfl)) dX6_init_9 ⟨(Nat.le_of_ble_eq_true rfl), (Nat.le_of_ble_eq_true rfl)⟩) hS (fun q _ h => hFc q h) hFc (fun u t H locs ht hvm hw hB hz1 hk1 hS => ?_)
  obtain ⟨q4, q5, q6, q7, q8, q9, hB⟩ := hB
  obtain ⟨hP, hD⟩ := va_join (wr := [(h_p0, .inr (6, [.null, .null, .null]))]) (w1 := [(q1, .inr (5, [.ref q4, .ref q7, .ref q9, .int r2.1, .int r2.2.1, .int r2.2.2.1])), (q4, .inr (0, [.ref q6, .ref q5])), (q5, .inl (cyI, 3, .inl r2.2.2.2.1)), (q6, .inl (cyI, 162, .inl r2.2.2.2.2.1)), (q7, .inr (3, [.ref q8, .int r2.2.2.2.2.2.1])), (q8, .inl (cyI, 280, .inl r2.2.2.2.2.2.2.1)), (q9, .inl (cyI, 3, .inl r2.2.2.2.2.2.2.2))]) hP hD [1] [0] rfl rfl (by decide) (by decide) hk1 hFc (WLD.P hB ht) hB.2
  have hP : va_P (dC, dI) vwCl [(h_p0, .inr (6, [.null, .null, .null])), (q1, .inr (5, [.ref q4, .ref q7, .ref q9, .int r2.1, .int r2.2.1, .int r2.2.2.1])), (q4, .inr (0, [.ref q6, .ref q5])), (q5, .inl (cyI, 3, .inl r2.2.2.2.1)), (q6, .inl (cyI, 162, .inl r2.2.2.2.2.1)), (q7, .inr (3, [.ref q8, .int r2.2.2.2.2.2.1])), (q8, .inl (cyI, 280, .inl r2.2.2.2.2.2.2.1)), (q9, .inl (cyI, 3, .inl r2.2.2.2.2.2.2.2))] H := hP
  have hD : va_D A [(h_p0, .inr (6, [.null, .null, .null])), (q1, .inr (5, [.ref q4, .ref q7, .ref q9, .int r2.1, .int r2.2.1, .int r2.2.2.1])), (q4, .inr (0, [.ref q6, .ref q5])), (q5, .inl (cyI, 3, .inl r2.2.2.2.1)), (q6, .inl (cyI, 162, .inl r2.2.2.2.2.1)), (q7, .inr (3, [.ref q8, .int r2.2.2.2.2.2.1])), (q8, .inl (cyI, 280, .inl r2.2.2.2.2.2.2.1)), (q9, .inl (cyI, 3, .inl r2.2.2.2.2.2.2.2))] := hD
  refine va_putF (D := (dC, dI)) (ci := 6) (v := .ref q1) (ty := .object "SleeperBerths$Train") (C := RX6) (T := TX6) (N := 3) hx hb hts m_X6_init_8 tyX6 tyX6_ok nmX6 hown hK hP hD hS 0 rfl rfl 0 (by decide) (hts (.fieldLink RX6 12 "SleeperBerths" "train" "LSleeperBerths$Train;") m_X6_init_9) (fun _ h9 => h9) rfl hin rfl (by decide +kernel) rfl rfl (Nat.le_of_ble_eq_true rfl) dX6_init_12 (fun H locs hP hD hS => ?_)
  have hP : va_P (dC, dI) vwCl [(h_p0, .inr (6, [.ref q1, .null, .null])), (q1, .inr (5, [.ref q4, .ref q7, .ref q9, .int r2.1, .int r2.2.1, .int r2.2.2.1])), (q4, .inr (0, [.ref q6, .ref q5])), (q5, .inl (cyI, 3, .inl r2.2.2.2.1)), (q6, .inl (cyI, 162, .inl r2.2.2.2.2.1)), (q7, .inr (3, [.ref q8, .int r2.2.2.2.2.2.1])), (q8, .inl (cyI, 280, .inl r2.2.2.2.2.2.2.1)), (q9, .inl (cyI, 3, .inl r2.2.2.2.2.2.2.2))] H := hP
  have hD : va_D A [(h_p0, .inr (6, [.ref q1, .null, .null])), (q1, .inr (5, [.ref q4, .ref q7, .ref q9, .int r2.1, .int r2.2.1, .int r2.2.2.1])), (q4, .inr (0, [.ref q6, .ref q5])), (q5, .inl (cyI, 3, .inl r2.2.2.2.1)), (q6, .inl (cyI, 162, .inl r2.2.2.2.2.1)), (q7, .inr (3, [.ref q8, .int r2.2.2.2.2.2.1])), (q8, .inl (cyI, 280, .inl r2.2.2.2.2.2.2.1)), (q9, .inl (cyI, 3, .inl r2.2.2.2.2.2.2.2))] := hD
  refine lv_aload_n hx hb dX6_init_15 rfl (lv_at hl 0 rfl) ?_
  refine va_new (ci := 1) (fs := [.null, .int 0, .int 0]) (C := RX1) (T := TX1) (N := 3) hx hb hts m_X6_init_10 tyX1 tyX1_ok hown (hts (.classLink RX6 16 RX1) m_X6_init_11) (hts (.instantiable RX1 3) m_X6_init_12) (hts (.initialized RX1) m_X6_init_13) hK hP hD hS hA rfl (fun j hj => by rcases (show j = 0 ∨ j = 1 ∨ j = 2 by omega) with rfl | rfl | rfl <;> rfl) (Nat.le_of_ble_eq_true rfl) (Nat.le_of_ble_eq_true rfl) dX6_init_16 (fun q11 H hP hD hS => ?_)
  have hP : va_P (dC, dI) vwCl [(h_p0, .inr (6, [.ref q1, .null, .null])), (q1, .inr (5, [.ref q4, .ref q7, .ref q9, .int r2.1, .int r2.2.1, .int r2.2.2.1])), (q4, .inr (0, [.ref q6, .ref q5])), (q5, .inl (cyI, 3, .inl r2.2.2.2.1)), (q6, .inl (cyI, 162, .inl r2.2.2.2.2.1)), (q7, .inr (3, [.ref q8, .int r2.2.2.2.2.2.1])), (q8, .inl (cyI, 280, .inl r2.2.2.2.2.2.2.1)), (q9, .inl (cyI, 3, .inl r2.2.2.2.2.2.2.2)), (q11, .inr (1, [.null, .int 0, .int 0]))] H := hP
  have hD : va_D A [(h_p0, .inr (6, [.ref q1, .null, .null])), (q1, .inr (5, [.ref q4, .ref q7, .ref q9, .int r2.1, .int r2.2.1, .int r2.2.2.1])), (q4, .inr (0, [.ref q6, .ref q5])), (q5, .inl (cyI, 3, .inl r2.2.2.2.1)), (q6, .inl (cyI, 162, .inl r2.2.2.2.2.1)), (q7, .inr (3, [.ref q8, .int r2.2.2.2.2.2.1])), (q8, .inl (cyI, 280, .inl r2.2.2.2.2.2.2.1)), (q9, .inl (cyI, 3, .inl r2.2.2.2.2.2.2.2)), (q11, .inr (1, [.null, .int 0, .int 0]))] := hD
  refine lv_dup hx hb dX6_init_19 rfl ?_
  obtain ⟨r12, e13, h⟩ := bsome h
  have hPc := sb_P [(q11, .inr (1, [.null, .int 0, .int 0]))] hP [8] rfl
  have hDc := sb_D [(q11, .inr (1, [.null, .int 0, .int 0]))] hD [8] (by decide) rfl
  have hFc := va_free (wc := [(q11, .inr (1, [.null, .int 0, .int 0]))]) hD hS hA [8] rfl
  refine va_callv (va_runI (As := []) (rest := [.ref q11, .ref h_p0]) ⟨hx, hb, hml, hown, hts⟩ (c_X1_init l dC dI cyI cyJ cyT q11 H.size n r12 e13) (cwI 0 hts gX6_init_X1_init rfl rfl rfl (hts (.initialized RX1) m_X6_init_13) (hts (.methodLink RX6 18 yX1_init) m_X6_init_14) (hts (.instanceMethod yX1_init) m_X6_init_15) rfl (by decide +kernel) ⟨Nat.le_of_ble_eq_true rfl, Nat.le_of_ble_eq_true rfl⟩) ⟨PRE.blind, PRE.go hK hPc hDc hNW⟩ rfl rfl hl.1 rfl (lv_room (Nat.le_of_ble_eq_true rfl)) dX6_init_20 ⟨(Nat.le_of_ble_eq_true rfl), (Nat.le_of_ble_eq_true rfl)⟩) hS (fun q _ h => hFc q h) hFc (fun u t H locs ht hvm hw hB hz1 hk1 hS => ?_)
  obtain ⟨q14, q15, hB⟩ := hB
  obtain ⟨hP, hD⟩ := va_join (wr := [(h_p0, .inr (6, [.ref q1, .null, .null])), (q1, .inr (5, [.ref q4, .ref q7, .ref q9, .int r2.1, .int r2.2.1, .int r2.2.2.1])), (q4, .inr (0, [.ref q6, .ref q5])), (q5, .inl (cyI, 3, .inl r2.2.2.2.1)), (q6, .inl (cyI, 162, .inl r2.2.2.2.2.1)), (q7, .inr (3, [.ref q8, .int r2.2.2.2.2.2.1])), (q8, .inl (cyI, 280, .inl r2.2.2.2.2.2.2.1)), (q9, .inl (cyI, 3, .inl r2.2.2.2.2.2.2.2))]) (w1 := ([(q11, .inr (1, [.ref q14, .int r12.1, .int r12.2.1])), (q14, .inl (cyT, 6, .inr (.inr (.inr (.inr (ringF q15))))))] ++ ringW cyI q15 r12.2.2)) hP hD [8] [0, 1, 2, 3, 4, 5, 6, 7] rfl rfl (by decide) (by decide) hk1 hFc (WLD.P hB ht) hB.2
  have hP : va_P (dC, dI) vwCl ([(h_p0, .inr (6, [.ref q1, .null, .null])), (q1, .inr (5, [.ref q4, .ref q7, .ref q9, .int r2.1, .int r2.2.1, .int r2.2.2.1])), (q4, .inr (0, [.ref q6, .ref q5])), (q5, .inl (cyI, 3, .inl r2.2.2.2.1)), (q6, .inl (cyI, 162, .inl r2.2.2.2.2.1)), (q7, .inr (3, [.ref q8, .int r2.2.2.2.2.2.1])), (q8, .inl (cyI, 280, .inl r2.2.2.2.2.2.2.1)), (q9, .inl (cyI, 3, .inl r2.2.2.2.2.2.2.2)), (q11, .inr (1, [.ref q14, .int r12.1, .int r12.2.1])), (q14, .inl (cyT, 6, .inr (.inr (.inr (.inr (ringF q15))))))] ++ ringW cyI q15 r12.2.2) H := hP
  have hD : va_D A ([(h_p0, .inr (6, [.ref q1, .null, .null])), (q1, .inr (5, [.ref q4, .ref q7, .ref q9, .int r2.1, .int r2.2.1, .int r2.2.2.1])), (q4, .inr (0, [.ref q6, .ref q5])), (q5, .inl (cyI, 3, .inl r2.2.2.2.1)), (q6, .inl (cyI, 162, .inl r2.2.2.2.2.1)), (q7, .inr (3, [.ref q8, .int r2.2.2.2.2.2.1])), (q8, .inl (cyI, 280, .inl r2.2.2.2.2.2.2.1)), (q9, .inl (cyI, 3, .inl r2.2.2.2.2.2.2.2)), (q11, .inr (1, [.ref q14, .int r12.1, .int r12.2.1])), (q14, .inl (cyT, 6, .inr (.inr (.inr (.inr (ringF q15))))))] ++ ringW cyI q15 r12.2.2) := hD
  refine va_putF (D := (dC, dI)) (ci := 6) (v := .ref q11) (ty := .object "SleeperBerths$History") (C := RX6) (T := TX6) (N := 3) hx hb hts m_X6_init_8 tyX6 tyX6_ok nmX6 hown hK hP hD hS 0 rfl rfl 1 (by decide) (hts (.fieldLink RX6 19 "SleeperBerths" "history" "LSleeperBerths$History;") m_X6_init_16) (fun _ h9 => h9) rfl hin rfl (by decide +kernel) rfl rfl (Nat.le_of_ble_eq_true rfl) dX6_init_23 (fun H locs hP hD hS => ?_)
  have hP : va_P (dC, dI) vwCl ([(h_p0, .inr (6, [.ref q1, .ref q11, .null])), (q1, .inr (5, [.ref q4, .ref q7, .ref q9, .int r2.1, .int r2.2.1, .int r2.2.2.1])), (q4, .inr (0, [.ref q6, .ref q5])), (q5, .inl (cyI, 3, .inl r2.2.2.2.1)), (q6, .inl (cyI, 162, .inl r2.2.2.2.2.1)), (q7, .inr (3, [.ref q8, .int r2.2.2.2.2.2.1])), (q8, .inl (cyI, 280, .inl r2.2.2.2.2.2.2.1)), (q9, .inl (cyI, 3, .inl r2.2.2.2.2.2.2.2)), (q11, .inr (1, [.ref q14, .int r12.1, .int r12.2.1])), (q14, .inl (cyT, 6, .inr (.inr (.inr (.inr (ringF q15))))))] ++ ringW cyI q15 r12.2.2) H := hP
  have hD : va_D A ([(h_p0, .inr (6, [.ref q1, .ref q11, .null])), (q1, .inr (5, [.ref q4, .ref q7, .ref q9, .int r2.1, .int r2.2.1, .int r2.2.2.1])), (q4, .inr (0, [.ref q6, .ref q5])), (q5, .inl (cyI, 3, .inl r2.2.2.2.1)), (q6, .inl (cyI, 162, .inl r2.2.2.2.2.1)), (q7, .inr (3, [.ref q8, .int r2.2.2.2.2.2.1])), (q8, .inl (cyI, 280, .inl r2.2.2.2.2.2.2.1)), (q9, .inl (cyI, 3, .inl r2.2.2.2.2.2.2.2)), (q11, .inr (1, [.ref q14, .int r12.1, .int r12.2.1])), (q14, .inl (cyT, 6, .inr (.inr (.inr (.inr (ringF q15))))))] ++ ringW cyI q15 r12.2.2) := hD
  refine lv_aload_n hx hb dX6_init_26 rfl (lv_at hl 0 rfl) ?_
  refine va_new (ci := 4) (fs := [.null, .int 0]) (C := RX4) (T := TX4) (N := 2) hx hb hts m_X6_init_17 tyX4 tyX4_ok hown (hts (.classLink RX6 23 RX4) m_X6_init_18) (hts (.instantiable RX4 2) m_X6_init_19) (hts (.initialized RX4) m_X6_init_20) hK hP hD hS hA rfl (fun j hj => by rcases (show j = 0 ∨ j = 1 by omega) with rfl | rfl <;> rfl) (Nat.le_of_ble_eq_true rfl) (Nat.le_of_ble_eq_true rfl) dX6_init_27 (fun q17 H hP hD hS => ?_)
  have hP : va_P (dC, dI) vwCl ([(h_p0, .inr (6, [.ref q1, .ref q11, .null])), (q1, .inr (5, [.ref q4, .ref q7, .ref q9, .int r2.1, .int r2.2.1, .int r2.2.2.1])), (q4, .inr (0, [.ref q6, .ref q5])), (q5, .inl (cyI, 3, .inl r2.2.2.2.1)), (q6, .inl (cyI, 162, .inl r2.2.2.2.2.1)), (q7, .inr (3, [.ref q8, .int r2.2.2.2.2.2.1])), (q8, .inl (cyI, 280, .inl r2.2.2.2.2.2.2.1)), (q9, .inl (cyI, 3, .inl r2.2.2.2.2.2.2.2)), (q11, .inr (1, [.ref q14, .int r12.1, .int r12.2.1])), (q14, .inl (cyT, 6, .inr (.inr (.inr (.inr (ringF q15))))))] ++ ringW cyI q15 r12.2.2 ++ [(q17, .inr (4, [.null, .int 0]))]) H := hP
  have hD : va_D A ([(h_p0, .inr (6, [.ref q1, .ref q11, .null])), (q1, .inr (5, [.ref q4, .ref q7, .ref q9, .int r2.1, .int r2.2.1, .int r2.2.2.1])), (q4, .inr (0, [.ref q6, .ref q5])), (q5, .inl (cyI, 3, .inl r2.2.2.2.1)), (q6, .inl (cyI, 162, .inl r2.2.2.2.2.1)), (q7, .inr (3, [.ref q8, .int r2.2.2.2.2.2.1])), (q8, .inl (cyI, 280, .inl r2.2.2.2.2.2.2.1)), (q9, .inl (cyI, 3, .inl r2.2.2.2.2.2.2.2)), (q11, .inr (1, [.ref q14, .int r12.1, .int r12.2.1])), (q14, .inl (cyT, 6, .inr (.inr (.inr (.inr (ringF q15))))))] ++ ringW cyI q15 r12.2.2 ++ [(q17, .inr (4, [.null, .int 0]))]) := hD
  refine lv_dup hx hb dX6_init_30 rfl ?_
  obtain ⟨r18, e19, h⟩ := bsome h
  have hPc := sb_P [(q17, .inr (4, [.null, .int 0]))] hP [52] rfl
  have hDc := sb_D [(q17, .inr (4, [.null, .int 0]))] hD [52] (by decide) rfl
  have hFc := va_free (wc := [(q17, .inr (4, [.null, .int 0]))]) hD hS hA [52] rfl
  refine va_callv (va_runIN (As := []) (rest := [.ref q17, .ref h_p0]) ⟨hx, hb, hml, hown, hts⟩ (c_X4_init l dC dI cyI cyJ cyT q17 H.size r18 e19) ⟨va_cnB (host := "SleeperBerths") 0 hts gX6_init_X4_init_n25 rfl rfl rfl (hNW.1 3 rfl) (hts (.initialized RX4) m_X6_init_20) (by decide +kernel) ⟨Nat.le_of_ble_eq_true rfl, Nat.le_of_ble_eq_true rfl⟩, rfl, (hts (.instanceMethod yX4_init) m_X6_init_21)⟩ ⟨PRE.blind, PRE.go hK hPc hDc hNW⟩ rfl rfl hl.1 rfl (lv_room (Nat.le_of_ble_eq_true rfl)) dX6_init_31 ⟨(Nat.le_of_ble_eq_true rfl), (Nat.le_of_ble_eq_true rfl)⟩) hS (fun q _ h => hFc q h) hFc (fun u t H locs ht hvm hw hB hz1 hk1 hS => ?_)
  obtain ⟨q20, hB⟩ := hB
  obtain ⟨hP, hD⟩ := va_join (wr := ([(h_p0, .inr (6, [.ref q1, .ref q11, .null])), (q1, .inr (5, [.ref q4, .ref q7, .ref q9, .int r2.1, .int r2.2.1, .int r2.2.2.1])), (q4, .inr (0, [.ref q6, .ref q5])), (q5, .inl (cyI, 3, .inl r2.2.2.2.1)), (q6, .inl (cyI, 162, .inl r2.2.2.2.2.1)), (q7, .inr (3, [.ref q8, .int r2.2.2.2.2.2.1])), (q8, .inl (cyI, 280, .inl r2.2.2.2.2.2.2.1)), (q9, .inl (cyI, 3, .inl r2.2.2.2.2.2.2.2)), (q11, .inr (1, [.ref q14, .int r12.1, .int r12.2.1])), (q14, .inl (cyT, 6, .inr (.inr (.inr (.inr (ringF q15))))))] ++ ringW cyI q15 r12.2.2)) (w1 := [(q17, .inr (4, [.ref q20, .int r18.1])), (q20, .inl (cyI, 60, .inl r18.2))]) hP hD [52] (0 :: 1 :: 2 :: 3 :: 4 :: 5 :: 6 :: 7 :: 8 :: 9 :: 10 :: 11 :: 12 :: 13 :: 14 :: 15 :: 16 :: 17 :: 18 :: 19 :: 20 :: 21 :: 22 :: 23 :: 24 :: 25 :: 26 :: 27 :: 28 :: 29 :: 30 :: 31 :: 32 :: 33 :: 34 :: 35 :: 36 :: 37 :: 38 :: 39 :: 40 :: 41 :: 42 :: 43 :: 44 :: 45 :: 46 :: 47 :: 48 :: 49 :: 50 :: 51 :: []) rfl rfl (by decide) (by decide) hk1 hFc (WLD.P hB ht) hB.2
  have hP : va_P (dC, dI) vwCl ([(h_p0, .inr (6, [.ref q1, .ref q11, .null])), (q1, .inr (5, [.ref q4, .ref q7, .ref q9, .int r2.1, .int r2.2.1, .int r2.2.2.1])), (q4, .inr (0, [.ref q6, .ref q5])), (q5, .inl (cyI, 3, .inl r2.2.2.2.1)), (q6, .inl (cyI, 162, .inl r2.2.2.2.2.1)), (q7, .inr (3, [.ref q8, .int r2.2.2.2.2.2.1])), (q8, .inl (cyI, 280, .inl r2.2.2.2.2.2.2.1)), (q9, .inl (cyI, 3, .inl r2.2.2.2.2.2.2.2)), (q11, .inr (1, [.ref q14, .int r12.1, .int r12.2.1])), (q14, .inl (cyT, 6, .inr (.inr (.inr (.inr (ringF q15))))))] ++ ringW cyI q15 r12.2.2 ++ [(q17, .inr (4, [.ref q20, .int r18.1])), (q20, .inl (cyI, 60, .inl r18.2))]) H := hP
  have hD : va_D A ([(h_p0, .inr (6, [.ref q1, .ref q11, .null])), (q1, .inr (5, [.ref q4, .ref q7, .ref q9, .int r2.1, .int r2.2.1, .int r2.2.2.1])), (q4, .inr (0, [.ref q6, .ref q5])), (q5, .inl (cyI, 3, .inl r2.2.2.2.1)), (q6, .inl (cyI, 162, .inl r2.2.2.2.2.1)), (q7, .inr (3, [.ref q8, .int r2.2.2.2.2.2.1])), (q8, .inl (cyI, 280, .inl r2.2.2.2.2.2.2.1)), (q9, .inl (cyI, 3, .inl r2.2.2.2.2.2.2.2)), (q11, .inr (1, [.ref q14, .int r12.1, .int r12.2.1])), (q14, .inl (cyT, 6, .inr (.inr (.inr (.inr (ringF q15))))))] ++ ringW cyI q15 r12.2.2 ++ [(q17, .inr (4, [.ref q20, .int r18.1])), (q20, .inl (cyI, 60, .inl r18.2))]) := hD
  refine va_putF (D := (dC, dI)) (ci := 6) (v := .ref q17) (ty := .object "SleeperBerths$Text") (C := RX6) (T := TX6) (N := 3) hx hb hts m_X6_init_8 tyX6 tyX6_ok nmX6 hown hK hP hD hS 0 rfl rfl 2 (by decide) (hts (.fieldLink RX6 26 "SleeperBerths" "text" "LSleeperBerths$Text;") m_X6_init_22) (fun _ h9 => h9) rfl hin rfl (by decide +kernel) rfl rfl (Nat.le_of_ble_eq_true rfl) dX6_init_34 (fun H locs hP hD hS => ?_)
  have hP : va_P (dC, dI) vwCl ([(h_p0, .inr (6, [.ref q1, .ref q11, .ref q17])), (q1, .inr (5, [.ref q4, .ref q7, .ref q9, .int r2.1, .int r2.2.1, .int r2.2.2.1])), (q4, .inr (0, [.ref q6, .ref q5])), (q5, .inl (cyI, 3, .inl r2.2.2.2.1)), (q6, .inl (cyI, 162, .inl r2.2.2.2.2.1)), (q7, .inr (3, [.ref q8, .int r2.2.2.2.2.2.1])), (q8, .inl (cyI, 280, .inl r2.2.2.2.2.2.2.1)), (q9, .inl (cyI, 3, .inl r2.2.2.2.2.2.2.2)), (q11, .inr (1, [.ref q14, .int r12.1, .int r12.2.1])), (q14, .inl (cyT, 6, .inr (.inr (.inr (.inr (ringF q15))))))] ++ ringW cyI q15 r12.2.2 ++ [(q17, .inr (4, [.ref q20, .int r18.1])), (q20, .inl (cyI, 60, .inl r18.2))]) H := hP
  have hD : va_D A ([(h_p0, .inr (6, [.ref q1, .ref q11, .ref q17])), (q1, .inr (5, [.ref q4, .ref q7, .ref q9, .int r2.1, .int r2.2.1, .int r2.2.2.1])), (q4, .inr (0, [.ref q6, .ref q5])), (q5, .inl (cyI, 3, .inl r2.2.2.2.1)), (q6, .inl (cyI, 162, .inl r2.2.2.2.2.1)), (q7, .inr (3, [.ref q8, .int r2.2.2.2.2.2.1])), (q8, .inl (cyI, 280, .inl r2.2.2.2.2.2.2.1)), (q9, .inl (cyI, 3, .inl r2.2.2.2.2.2.2.2)), (q11, .inr (1, [.ref q14, .int r12.1, .int r12.2.1])), (q14, .inl (cyT, 6, .inr (.inr (.inr (.inr (ringF q15))))))] ++ ringW cyI q15 r12.2.2 ++ [(q17, .inr (4, [.ref q20, .int r18.1])), (q20, .inl (cyI, 60, .inl r18.2))]) := hD
  obtain rfl := Option.some.inj h
  refine W.widen (k := 53) (n := 3277) (Nat.le_of_ble_eq_true rfl) (Nat.le_of_ble_eq_true rfl) ?_
  exact W.vret hx hb hr (fun t ht hW => ⟨⟨(), rfl, trivial, q11, q14, q17, q20, q1, q4, q5, q6, q7, q8, q9, q15, WLD.of ht (sb_P ([(h_p0, .inr (6, [.ref q1, .ref q11, .ref q17])), (q11, .inr (1, [.ref q14, .int r12.1, .int r12.2.1])), (q14, .inl (cyT, 6, .inr (.inr (.inr (.inr (ringF q15)))))), (q17, .inr (4, [.ref q20, .int r18.1])), (q20, .inl (cyI, 60, .inl r18.2)), (q1, .inr (5, [.ref q4, .ref q7, .ref q9, .int r2.1, .int r2.2.1, .int r2.2.2.1])), (q4, .inr (0, [.ref q6, .ref q5])), (q5, .inl (cyI, 3, .inl r2.2.2.2.1)), (q6, .inl (cyI, 162, .inl r2.2.2.2.2.1)), (q7, .inr (3, [.ref q8, .int r2.2.2.2.2.2.1])), (q8, .inl (cyI, 280, .inl r2.2.2.2.2.2.2.1)), (q9, .inl (cyI, 3, .inl r2.2.2.2.2.2.2.2))] ++ ringW cyI q15 r12.2.2) hP (0 :: 8 :: 9 :: 52 :: 53 :: 1 :: 2 :: 3 :: 4 :: 5 :: 6 :: 7 :: 10 :: 11 :: 12 :: 13 :: 14 :: 15 :: 16 :: 17 :: 18 :: 19 :: 20 :: 21 :: 22 :: 23 :: 24 :: 25 :: 26 :: 27 :: 28 :: 29 :: 30 :: 31 :: 32 :: 33 :: 34 :: 35 :: 36 :: 37 :: 38 :: 39 :: 40 :: 41 :: 42 :: 43 :: 44 :: 45 :: 46 :: 47 :: 48 :: 49 :: 50 :: 51 :: []) rfl) (sb_D ([(h_p0, .inr (6, [.ref q1, .ref q11, .ref q17])), (q11, .inr (1, [.ref q14, .int r12.1, .int r12.2.1])), (q14, .inl (cyT, 6, .inr (.inr (.inr (.inr (ringF q15)))))), (q17, .inr (4, [.ref q20, .int r18.1])), (q20, .inl (cyI, 60, .inl r18.2)), (q1, .inr (5, [.ref q4, .ref q7, .ref q9, .int r2.1, .int r2.2.1, .int r2.2.2.1])), (q4, .inr (0, [.ref q6, .ref q5])), (q5, .inl (cyI, 3, .inl r2.2.2.2.1)), (q6, .inl (cyI, 162, .inl r2.2.2.2.2.1)), (q7, .inr (3, [.ref q8, .int r2.2.2.2.2.2.1])), (q8, .inl (cyI, 280, .inl r2.2.2.2.2.2.2.1)), (q9, .inl (cyI, 3, .inl r2.2.2.2.2.2.2.2))] ++ ringW cyI q15 r12.2.2) hD (0 :: 8 :: 9 :: 52 :: 53 :: 1 :: 2 :: 3 :: 4 :: 5 :: 6 :: 7 :: 10 :: 11 :: 12 :: 13 :: 14 :: 15 :: 16 :: 17 :: 18 :: 19 :: 20 :: 21 :: 22 :: 23 :: 24 :: 25 :: 26 :: 27 :: 28 :: 29 :: 30 :: 31 :: 32 :: 33 :: 34 :: 35 :: 36 :: 37 :: 38 :: 39 :: 40 :: 41 :: 42 :: 43 :: 44 :: 45 :: 46 :: 47 :: 48 :: 49 :: 50 :: 51 :: []) (by decide) rfl)⟩, hS.F ht⟩) hS.2.2 dX6_init_37
def s_X6_isBelow (a0 : Int32) (a1 : Int32) : Option (Int32) := (if a0 < 0 then (some (iI 0)) else (if a1 ≤ a0 then (some (iI 0)) else (some (iI 1))))
set_option maxHeartbeats 4000000 in
set_option maxRecDepth 100000 in
theorem c_X6_isBelow (l : Launch) (dC : Nat → ClassId) (dI : Nat → Nat → Nat) (cyI cyJ cyT : ClassId)  (sz : Nat) (a0 : Int32) (a1 : Int32) (o : Int32) (h : s_X6_isBelow a0 a1 = some o) : Met l yX6_isBelow wsX6_isBelow ({ frames := 0, cells := 0, slots := 0, locals := 0 }) (va_Pc [.int a0, .int a1] (PRE (dC, dI) (TYS cyI cyJ cyT) sz [])) (va_Qi (S := Unit) (fun r _ => r = o) (fun _ t => WLD (dC, dI) (va_A [] sz) [] t) (va_A [] sz)) 0 0 (va_A [] sz) := by
  refine Met.ofW (cc := cX6_isBelow) (maxL := 2) (ret := (some .boolean)) (by decide) rfl ?_
  intro p e s m args below meth c s₁ B hml hv
  obtain ⟨rfl, hsz, hP, hK, hD0, hNW⟩ := hv
  have hx := B.exec
  have hb := B.bytes
  have hr := B.returns
  have hts := atoms_spec (ws := wsX6_isBelow) B.pre
  have hown : s.vm.findClass RX6 = some m.cls := findClass_of_methodNamed B.named
  have hlocks := B.notSynchronized
  subst hsz
  have hD := hD0.self (sz := s.heap.size)
  generalize hAe : va_A [] s.heap.size = A at hD ⊢
  have hA : ∀ q : Nat, s.heap.size ≤ q → A q := fun q h => by rw [← hAe]; exact Or.inr h
  have hS : va_S A s.heap s.heap [] := va_S.rf
  have hP : va_P (dC, dI) vwCl [] s.heap := hP
  have hl := lv_entry ([.int a0, .int a1]) (n := 2) (Nat.le_of_ble_eq_true rfl)
  rw [lg_entry_eq]
  generalize (lg_sl ([.int a0, .int a1]) ++ List.replicate (2 - (lg_sl ([.int a0, .int a1])).length) Slot.unset).toArray = ls at hl ⊢
  have hl : lv_has ls 2 [(0, .int a0), (1, .int a1)] := hl
  unfold s_X6_isBelow at h
  refine lv_iload_n hx hb dX6_isBelow_0 rfl (lv_at hl 0 rfl) ?_
  refine lv_if_lt (tgt := 13) hx hb dX6_isBelow_1 (by decide) (fun c1 => ?_) (fun c1 => ?_)
  · have h := ipos c1 h
    refine lv_iconst (v := iI 0) hx hb dX6_isBelow_13 rfl ?_
    obtain rfl := Option.some.inj h
    exact W.zret (v := iI 0) hx hb hr (by decide) (fun t ht hW => ⟨⟨iI 0, (), rfl, rfl, WLD.of ht hP hD⟩, hS.F ht⟩) hS.2.2 dX6_isBelow_14
  · have h := ineg c1 h
    refine lv_iload_n hx hb dX6_isBelow_4 rfl (lv_at hl 0 rfl) ?_
    refine lv_iload_n hx hb dX6_isBelow_5 rfl (lv_at hl 1 rfl) ?_
    refine lv_icmp_ge (tgt := 13) hx hb dX6_isBelow_6 (by decide) (fun c2 => ?_) (fun c2 => ?_)
    · have h := ipos c2 h
      refine lv_iconst (v := iI 0) hx hb dX6_isBelow_13 rfl ?_
      obtain rfl := Option.some.inj h
      exact W.zret (v := iI 0) hx hb hr (by decide) (fun t ht hW => ⟨⟨iI 0, (), rfl, rfl, WLD.of ht hP hD⟩, hS.F ht⟩) hS.2.2 dX6_isBelow_14
    · have h := ineg c2 h
      refine lv_iconst (v := iI 1) hx hb dX6_isBelow_9 rfl ?_
      refine lv_goto (tgt := 14) hx hb dX6_isBelow_10 (by decide) ?_
      obtain rfl := Option.some.inj h
      exact W.zret (v := iI 1) hx hb hr (by decide) (fun t ht hW => ⟨⟨iI 1, (), rfl, rfl, WLD.of ht hP hD⟩, hS.F ht⟩) hS.2.2 dX6_isBelow_14
def s_X6_requireWay (a0 : Int32) (a1 : Int32) : Option (Nat) := ((s_X6_isBelow a0 (iI 9)).bind fun r1 => (if r1 = 0 then (some (1)) else (if a1 ≤ a0 then (some (1)) else (if a1 ≤ iI 9 then (some (0)) else (some (1))))))
set_option maxRecDepth 20000 in
theorem m_X6_requireWay_0 : ∀ w ∈ (vx_atS RX6 120 "java/lang/IllegalArgumentException" ["java/lang/RuntimeException", "java/lang/Exception"]).filter goodWord, w ∈ wsX6_requireWay := by decide +kernel
set_option maxRecDepth 20000 in
theorem m_X6_requireWay_1 : (.classLink RX6 116 "java/lang/IllegalArgumentException" : Cond) ∈ wsX6_requireWay := by decide +kernel
set_option maxRecDepth 20000 in
theorem m_X6_requireWay_2 : (.initialized "java/lang/IllegalArgumentException" : Cond) ∈ wsX6_requireWay := by decide +kernel
set_option maxHeartbeats 4000000 in
set_option maxRecDepth 100000 in
theorem c_X6_requireWay (l : Launch) (hl0 : l.stackTraces = false) (dC : Nat → ClassId) (dI : Nat → Nat → Nat) (cyI cyJ cyT : ClassId)  (sz : Nat) (a0 : Int32) (a1 : Int32) (o : Nat) (h : s_X6_requireWay a0 a1 = some o) : vx_Met l yX6_requireWay wsX6_requireWay ({ frames := 6, cells := 1, slots := 6, locals := 90 }) (va_Pc [.int a0, .int a1] (PREX (dC, dI) (TYS cyI cyJ cyT) sz [])) (va_Qv (S := Unit) (fun _ => o = 0) (fun _ t => WLD (dC, dI) (va_A [] sz) [] t) (va_A [] sz)) (vx_X (S := Unit) (fun _ => True) (fun E _ t => XWL (dC, dI) (va_A [] sz) o E [] t) (va_A [] sz)) 1 6 (va_A [] sz) := by
  refine vx_ofW (cc := cX6_requireWay) (maxL := 2) (ret := none) (by decide) rfl ?_
  intro p e s m args below meth c s₁ B hml hno hv
  obtain ⟨rfl, ⟨hsz, hP, hK, hD0, hNW⟩, hXR, hXS⟩ := hv
  have hx := B.exec
  have hb := B.bytes
  have hr := B.returns
  have hts := atoms_spec (ws := wsX6_requireWay) B.pre
  have hown : s.vm.findClass RX6 = some m.cls := findClass_of_methodNamed B.named
  have hlocks := B.notSynchronized
  subst hsz
  have hD := hD0.self (sz := s.heap.size)
  generalize hAe : va_A [] s.heap.size = A at hD hXS ⊢
  have hA : ∀ q : Nat, s.heap.size ≤ q → A q := fun q h => by rw [← hAe]; exact Or.inr h
  have hS : va_S A s.heap s.heap [] := va_S.rf
  have hP : va_P (dC, dI) vwCl [] s.heap := hP
  have hl := lv_entry ([.int a0, .int a1]) (n := 2) (Nat.le_of_ble_eq_true rfl)
  rw [lg_entry_eq]
  generalize (lg_sl ([.int a0, .int a1]) ++ List.replicate (2 - (lg_sl ([.int a0, .int a1])).length) Slot.unset).toArray = ls at hl ⊢
  have hl : lv_has ls 2 [(0, .int a0), (1, .int a1)] := hl
  unfold s_X6_requireWay at h
  refine lv_iload_n hx hb dX6_requireWay_0 rfl (lv_at hl 0 rfl) ?_
  refine lv_bipush (v := iI 9) hx hb dX6_requireWay_1 (by decide) ?_
  obtain ⟨r1, e2, h⟩ := bsome h
  have hPc := sb_P [] hP [] rfl
  have hDc := sb_D [] hD [] (by decide) rfl
  have hFc := va_free (wc := []) hD hS hA [] rfl
  refine va_calli (va_runS (As := [.int a0, .int (iI 9)]) (rest := []) ⟨hx, hb, hml, hown, hts⟩ (c_X6_isBelow l dC dI cyI cyJ cyT s.heap.size a0 (iI 9) r1 e2) (va_cwS 2 hts gX6_requireWay_X6_isBelow rfl rfl rfl (by decide +kernel) ⟨Nat.le_of_ble_eq_true rfl, Nat.le_of_ble_eq_true rfl⟩) ⟨PRE.blind, PRE.go hK hPc hDc hNW⟩ rfl rfl hl.1 rfl (lv_room (Nat.le_of_ble_eq_true rfl)) dX6_requireWay_3 ⟨Nat.zero_le _, Nat.zero_le _⟩) hS (fun q _ h => hFc q h) hFc (fun z3 u t H locs ht hvm hw hB hz1 hk1 hS => ?_)
  subst z3
  obtain ⟨hP, hD⟩ := va_join (wr := []) (w1 := []) hP hD [] [] rfl rfl (by decide) (by decide) hk1 hFc (WLD.P hB ht) hB.2
  have hP : va_P (dC, dI) vwCl [] H := hP
  have hD : va_D A [] := hD
  refine lv_if_eq (tgt := 20) hx hb dX6_requireWay_6 (by decide) (fun c4 => ?_) (fun c4 => ?_)
  · have h := ipos c4 h
    obtain rfl := Option.some.inj h
    obtain ⟨sa5, hstr⟩ := hXR.2.2 19 rfl
    exact vx_throwSW (names := ["java/lang/RuntimeException", "java/lang/Exception"]) (sa := sa5) hx hb hl0 hown (by decide +kernel) (by decide +kernel) (hts (.classLink RX6 116 "java/lang/IllegalArgumentException") m_X6_requireWay_1) (hts (.initialized "java/lang/IllegalArgumentException") m_X6_requireWay_2) hstr (xhat hts m_X6_requireWay_0 hXR (by decide +kernel)) (by decide +kernel) hXS.1 hXS.2 hS (hl.1.trans hml.symm) dX6_requireWay_20 dX6_requireWay_23 dX6_requireWay_24 dX6_requireWay_27 dX6_requireWay_30 (fun x hx9 => (hno x hx9).elim) (Nat.le_of_ble_eq_true rfl) (Nat.le_of_ble_eq_true rfl) (Nat.le_of_ble_eq_true rfl) (Nat.le_of_ble_eq_true rfl) hlocks (fun t _ h1 h2 => XWL.of (show ¬ (1 : Nat) = 0 by decide) rfl hP hD hS h1 h2) hS.2.2 (Nat.le_of_ble_eq_true rfl) (Nat.le_of_ble_eq_true rfl)
  · have h := ineg c4 h
    refine lv_iload_n hx hb dX6_requireWay_9 rfl (lv_at hl 1 rfl) ?_
    refine lv_iload_n hx hb dX6_requireWay_10 rfl (lv_at hl 0 rfl) ?_
    refine lv_icmp_le (tgt := 20) hx hb dX6_requireWay_11 (by decide) (fun c6 => ?_) (fun c6 => ?_)
    · have h := ipos c6 h
      obtain rfl := Option.some.inj h
      obtain ⟨sa7, hstr⟩ := hXR.2.2 19 rfl
      exact vx_throwSW (names := ["java/lang/RuntimeException", "java/lang/Exception"]) (sa := sa7) hx hb hl0 hown (by decide +kernel) (by decide +kernel) (hts (.classLink RX6 116 "java/lang/IllegalArgumentException") m_X6_requireWay_1) (hts (.initialized "java/lang/IllegalArgumentException") m_X6_requireWay_2) hstr (xhat hts m_X6_requireWay_0 hXR (by decide +kernel)) (by decide +kernel) hXS.1 hXS.2 hS (hl.1.trans hml.symm) dX6_requireWay_20 dX6_requireWay_23 dX6_requireWay_24 dX6_requireWay_27 dX6_requireWay_30 (fun x hx9 => (hno x hx9).elim) (Nat.le_of_ble_eq_true rfl) (Nat.le_of_ble_eq_true rfl) (Nat.le_of_ble_eq_true rfl) (Nat.le_of_ble_eq_true rfl) hlocks (fun t _ h1 h2 => XWL.of (show ¬ (1 : Nat) = 0 by decide) rfl hP hD hS h1 h2) hS.2.2 (Nat.le_of_ble_eq_true rfl) (Nat.le_of_ble_eq_true rfl)
    · have h := ineg c6 h
      refine lv_iload_n hx hb dX6_requireWay_14 rfl (lv_at hl 1 rfl) ?_
      refine lv_bipush (v := iI 9) hx hb dX6_requireWay_15 (by decide) ?_
      refine lv_icmp_le (tgt := 31) hx hb dX6_requireWay_17 (by decide) (fun c8 => ?_) (fun c8 => ?_)
      · have h := ipos c8 h
        obtain rfl := Option.some.inj h
        refine W.widen (k := 1) (n := 6) (Nat.le_of_ble_eq_true rfl) (Nat.le_of_ble_eq_true rfl) ?_
        refine vx_ret ?_
        exact W.vret hx hb hr (fun t ht hW => ⟨⟨(), rfl, rfl, WLD.of ht hP hD⟩, hS.F ht⟩) hS.2.2 dX6_requireWay_31
      · have h := ineg c8 h
        obtain rfl := Option.some.inj h
        obtain ⟨sa9, hstr⟩ := hXR.2.2 19 rfl
        exact vx_throwSW (names := ["java/lang/RuntimeException", "java/lang/Exception"]) (sa := sa9) hx hb hl0 hown (by decide +kernel) (by decide +kernel) (hts (.classLink RX6 116 "java/lang/IllegalArgumentException") m_X6_requireWay_1) (hts (.initialized "java/lang/IllegalArgumentException") m_X6_requireWay_2) hstr (xhat hts m_X6_requireWay_0 hXR (by decide +kernel)) (by decide +kernel) hXS.1 hXS.2 hS (hl.1.trans hml.symm) dX6_requireWay_20 dX6_requireWay_23 dX6_requireWay_24 dX6_requireWay_27 dX6_requireWay_30 (fun x hx9 => (hno x hx9).elim) (Nat.le_of_ble_eq_true rfl) (Nat.le_of_ble_eq_true rfl) (Nat.le_of_ble_eq_true rfl) (Nat.le_of_ble_eq_true rfl) hlocks (fun t _ h1 h2 => XWL.of (show ¬ (1 : Nat) = 0 by decide) rfl hP hD hS h1 h2) hS.2.2 (Nat.le_of_ble_eq_true rfl) (Nat.le_of_ble_eq_true rfl)
def s_X0_isOpen (v_ends : Nat → Int32) (v_holders : Nat → Int32) (a1 : Int32) (a2 : Int32) : Option (Int32) := (if (a1 / iI 6) < 0 then (some (iI 0)) else (if iI 3 ≤ (a1 / iI 6) then (some (iI 0)) else (if gd (a1 / iI 6) 3 = true then (if (v_ends (a1 / iI 6).toNatClampNeg) ≤ a2 then (some (iI 0)) else (if ((a1 * iI 9) + a2) < 0 then (some (iI 0)) else (if iI 162 ≤ ((a1 * iI 9) + a2) then (some (iI 0)) else (if gd ((a1 * iI 9) + a2) 162 = true then (if (v_holders ((a1 * iI 9) + a2).toNatClampNeg) = iI (-1) then (some (iI 1)) else (some (iI 0))) else none)))) else none)))
set_option maxRecDepth 20000 in
theorem m_X0_isOpen_0 : ∀ w ∈ u_ws RX0 TX0 2, w ∈ wsX0_isOpen := by decide +kernel
set_option maxRecDepth 20000 in
theorem m_X0_isOpen_1 : (.fieldLink RX0 15 "SleeperBerths$Berths" "ends" "[I" : Cond) ∈ wsX0_isOpen := by decide +kernel
set_option maxRecDepth 20000 in
theorem m_X0_isOpen_2 : (.fieldLink RX0 9 "SleeperBerths$Berths" "holders" "[I" : Cond) ∈ wsX0_isOpen := by decide +kernel
set_option maxHeartbeats 4000000 in
set_option maxRecDepth 100000 in
theorem c_X0_isOpen (l : Launch) (dC : Nat → ClassId) (dI : Nat → Nat → Nat) (cyI cyJ cyT : ClassId) (h_p0 : Nat) (h_p0_holders : Nat) (h_p0_ends : Nat) (sz : Nat) (v_ends : Nat → Int32) (v_holders : Nat → Int32) (a1 : Int32) (a2 : Int32) (o : Int32) (h : s_X0_isOpen v_ends v_holders a1 a2 = some o) : Met l yX0_isOpen wsX0_isOpen ({ frames := 0, cells := 0, slots := 0, locals := 0 }) (va_Pc [.ref h_p0, .int a1, .int a2] (PRE (dC, dI) (TYS cyI cyJ cyT) sz [(h_p0, .inr (0, [.ref h_p0_holders, .ref h_p0_ends])), (h_p0_ends, .inl (cyI, 3, .inl v_ends)), (h_p0_holders, .inl (cyI, 162, .inl v_holders))])) (va_Qi (S := Unit) (fun r _ => r = o) (fun _ t => WLD (dC, dI) (va_A [(h_p0, .inr (0, [.ref h_p0_holders, .ref h_p0_ends])), (h_p0_ends, .inl (cyI, 3, .inl v_ends)), (h_p0_holders, .inl (cyI, 162, .inl v_holders))] sz) [(h_p0, .inr (0, [.ref h_p0_holders, .ref h_p0_ends])), (h_p0_ends, .inl (cyI, 3, .inl v_ends)), (h_p0_holders, .inl (cyI, 162, .inl v_holders))] t) (va_A [(h_p0, .inr (0, [.ref h_p0_holders, .ref h_p0_ends])), (h_p0_ends, .inl (cyI, 3, .inl v_ends)), (h_p0_holders, .inl (cyI, 162, .inl v_holders))] sz)) 0 0 (va_A [(h_p0, .inr (0, [.ref h_p0_holders, .ref h_p0_ends])), (h_p0_ends, .inl (cyI, 3, .inl v_ends)), (h_p0_holders, .inl (cyI, 162, .inl v_holders))] sz) := by
  refine Met.ofW (cc := cX0_isOpen) (maxL := 5) (ret := (some .boolean)) (by decide) rfl ?_
  intro p e s m args below meth c s₁ B hml hv
  obtain ⟨rfl, hsz, hP, hK, hD0, hNW⟩ := hv
  have hx := B.exec
  have hb := B.bytes
  have hr := B.returns
  have hts := atoms_spec (ws := wsX0_isOpen) B.pre
  have hown : s.vm.findClass RX0 = some m.cls := findClass_of_methodNamed B.named
  have hlocks := B.notSynchronized
  subst hsz
  have hD := hD0.self (sz := s.heap.size)
  generalize hAe : va_A [(h_p0, .inr (0, [.ref h_p0_holders, .ref h_p0_ends])), (h_p0_ends, .inl (cyI, 3, .inl v_ends)), (h_p0_holders, .inl (cyI, 162, .inl v_holders))] s.heap.size = A at hD ⊢
  have hA : ∀ q : Nat, s.heap.size ≤ q → A q := fun q h => by rw [← hAe]; exact Or.inr h
  have hS : va_S A s.heap s.heap [] := va_S.rf
  have hP : va_P (dC, dI) vwCl [(h_p0, .inr (0, [.ref h_p0_holders, .ref h_p0_ends])), (h_p0_ends, .inl (cyI, 3, .inl v_ends)), (h_p0_holders, .inl (cyI, 162, .inl v_holders))] s.heap := hP
  have hl := lv_entry ([.ref h_p0, .int a1, .int a2]) (n := 5) (Nat.le_of_ble_eq_true rfl)
  rw [lg_entry_eq]
  generalize (lg_sl ([.ref h_p0, .int a1, .int a2]) ++ List.replicate (5 - (lg_sl ([.ref h_p0, .int a1, .int a2])).length) Slot.unset).toArray = ls at hl ⊢
  have hl : lv_has ls 5 [(0, .ref h_p0), (1, .int a1), (2, .int a2)] := hl
  unfold s_X0_isOpen at h
  refine lv_iload_n hx hb dX0_isOpen_0 rfl (lv_at hl 1 rfl) ?_
  refine lv_bipush (v := iI 6) hx hb dX0_isOpen_1 (by decide) ?_
  refine lv_idiv hx hb dX0_isOpen_3 (by decide) ?_
  refine lv_istore_n hx hb dX0_isOpen_4 rfl hl (by decide) (rfl : _ = ([(3, .int (a1 / iI 6)), (0, .ref h_p0), (1, .int a1), (2, .int a2)] : List (Nat × Value))) (fun ls hl => ?_)
  refine lv_iload_n hx hb dX0_isOpen_5 rfl (lv_at hl 2 rfl) ?_
  refine lv_bipush (v := iI 9) hx hb dX0_isOpen_6 (by decide) ?_
  refine lv_imul hx hb dX0_isOpen_8 ?_
  refine lv_iload_n hx hb dX0_isOpen_9 rfl (lv_at hl 3 rfl) ?_
  refine lv_iadd hx hb dX0_isOpen_10 ?_
  refine lv_istore hx hb dX0_isOpen_11 hl (by decide) (rfl : _ = ([(4, .int ((a1 * iI 9) + a2)), (3, .int (a1 / iI 6)), (0, .ref h_p0), (1, .int a1), (2, .int a2)] : List (Nat × Value))) (fun ls hl => ?_)
  refine lv_iload_n hx hb dX0_isOpen_13 rfl (lv_at hl 1 rfl) ?_
  refine lv_if_lt (tgt := 66) hx hb dX0_isOpen_14 (by decide) (fun c1 => ?_) (fun c1 => ?_)
  · have h := ipos c1 h
    refine lv_iconst (v := iI 0) hx hb dX0_isOpen_66 rfl ?_
    obtain rfl := Option.some.inj h
    exact W.zret (v := iI 0) hx hb hr (by decide) (fun t ht hW => ⟨⟨iI 0, (), rfl, rfl, WLD.of ht hP hD⟩, hS.F ht⟩) hS.2.2 dX0_isOpen_67
  · have h := ineg c1 h
    refine lv_iload_n hx hb dX0_isOpen_17 rfl (lv_at hl 1 rfl) ?_
    refine lv_aload_n hx hb dX0_isOpen_18 rfl (lv_at hl 2 rfl) ?_
    refine va_get (D := (dC, dI)) (ci := 0) (v := .ref h_p0_ends) (C := RX0) (T := TX0) (N := 2) hx hb hts m_X0_isOpen_0 hown hK hP 0 rfl rfl 1 (by decide) (hts (.fieldLink RX0 15 "SleeperBerths$Berths" "ends" "[I") m_X0_isOpen_1) (fun _ h9 => h9) rfl dX0_isOpen_19 ?_
    refine va_alen (D := (dC, dI)) (v := iI 3) hx hb hK hP 1 0 rfl rfl (show Int32.ofNat 3 = iI 3 by decide) dX0_isOpen_22 ?_
    refine lv_icmp_ge (tgt := 66) hx hb dX0_isOpen_23 (by decide) (fun c2 => ?_) (fun c2 => ?_)
    · have h := ipos c2 h
      refine lv_iconst (v := iI 0) hx hb dX0_isOpen_66 rfl ?_
      obtain rfl := Option.some.inj h
      exact W.zret (v := iI 0) hx hb hr (by decide) (fun t ht hW => ⟨⟨iI 0, (), rfl, rfl, WLD.of ht hP hD⟩, hS.F ht⟩) hS.2.2 dX0_isOpen_67
    · have h := ineg c2 h
      refine lv_iload_n hx hb dX0_isOpen_26 rfl (lv_at hl 4 rfl) ?_
      refine lv_aload_n hx hb dX0_isOpen_27 rfl (lv_at hl 2 rfl) ?_
      refine va_get (D := (dC, dI)) (ci := 0) (v := .ref h_p0_ends) (C := RX0) (T := TX0) (N := 2) hx hb hts m_X0_isOpen_0 hown hK hP 0 rfl rfl 1 (by decide) (hts (.fieldLink RX0 15 "SleeperBerths$Berths" "ends" "[I") m_X0_isOpen_1) (fun _ h9 => h9) rfl dX0_isOpen_28 ?_
      refine lv_iload_n hx hb dX0_isOpen_31 rfl (lv_at hl 1 rfl) ?_
      obtain ⟨g3, h⟩ := gsome h
      refine va_iald (D := (dC, dI)) hx hb hK hP 1 0 rfl rfl g3 dX0_isOpen_32 ?_
      refine lv_icmp_ge (tgt := 66) hx hb dX0_isOpen_33 (by decide) (fun c4 => ?_) (fun c4 => ?_)
      · have h := ipos c4 h
        refine lv_iconst (v := iI 0) hx hb dX0_isOpen_66 rfl ?_
        obtain rfl := Option.some.inj h
        exact W.zret (v := iI 0) hx hb hr (by decide) (fun t ht hW => ⟨⟨iI 0, (), rfl, rfl, WLD.of ht hP hD⟩, hS.F ht⟩) hS.2.2 dX0_isOpen_67
      · have h := ineg c4 h
        refine lv_iload hx hb dX0_isOpen_36 (lv_at hl 0 rfl) ?_
        refine lv_if_lt (tgt := 66) hx hb dX0_isOpen_38 (by decide) (fun c5 => ?_) (fun c5 => ?_)
        · have h := ipos c5 h
          refine lv_iconst (v := iI 0) hx hb dX0_isOpen_66 rfl ?_
          obtain rfl := Option.some.inj h
          exact W.zret (v := iI 0) hx hb hr (by decide) (fun t ht hW => ⟨⟨iI 0, (), rfl, rfl, WLD.of ht hP hD⟩, hS.F ht⟩) hS.2.2 dX0_isOpen_67
        · have h := ineg c5 h
          refine lv_iload hx hb dX0_isOpen_41 (lv_at hl 0 rfl) ?_
          refine lv_aload_n hx hb dX0_isOpen_43 rfl (lv_at hl 2 rfl) ?_
          refine va_get (D := (dC, dI)) (ci := 0) (v := .ref h_p0_holders) (C := RX0) (T := TX0) (N := 2) hx hb hts m_X0_isOpen_0 hown hK hP 0 rfl rfl 0 (by decide) (hts (.fieldLink RX0 9 "SleeperBerths$Berths" "holders" "[I") m_X0_isOpen_2) (fun _ h9 => h9) rfl dX0_isOpen_44 ?_
          refine va_alen (D := (dC, dI)) (v := iI 162) hx hb hK hP 2 0 rfl rfl (show Int32.ofNat 162 = iI 162 by decide) dX0_isOpen_47 ?_
          refine lv_icmp_ge (tgt := 66) hx hb dX0_isOpen_48 (by decide) (fun c6 => ?_) (fun c6 => ?_)
          · have h := ipos c6 h
            refine lv_iconst (v := iI 0) hx hb dX0_isOpen_66 rfl ?_
            obtain rfl := Option.some.inj h
            exact W.zret (v := iI 0) hx hb hr (by decide) (fun t ht hW => ⟨⟨iI 0, (), rfl, rfl, WLD.of ht hP hD⟩, hS.F ht⟩) hS.2.2 dX0_isOpen_67
          · have h := ineg c6 h
            refine lv_aload_n hx hb dX0_isOpen_51 rfl (lv_at hl 2 rfl) ?_
            refine va_get (D := (dC, dI)) (ci := 0) (v := .ref h_p0_holders) (C := RX0) (T := TX0) (N := 2) hx hb hts m_X0_isOpen_0 hown hK hP 0 rfl rfl 0 (by decide) (hts (.fieldLink RX0 9 "SleeperBerths$Berths" "holders" "[I") m_X0_isOpen_2) (fun _ h9 => h9) rfl dX0_isOpen_52 ?_
            refine lv_iload hx hb dX0_isOpen_55 (lv_at hl 0 rfl) ?_
            obtain ⟨g7, h⟩ := gsome h
            refine va_iald (D := (dC, dI)) hx hb hK hP 2 0 rfl rfl g7 dX0_isOpen_57 ?_
            refine lv_iconst (v := iI (-1)) hx hb dX0_isOpen_58 rfl ?_
            refine lv_icmp_ne (tgt := 66) hx hb dX0_isOpen_59 (by decide) (fun c8 => ?_) (fun c8 => ?_)
            · have h := ineg c8 h
              refine lv_iconst (v := iI 0) hx hb dX0_isOpen_66 rfl ?_
              obtain rfl := Option.some.inj h
              exact W.zret (v := iI 0) hx hb hr (by decide) (fun t ht hW => ⟨⟨iI 0, (), rfl, rfl, WLD.of ht hP hD⟩, hS.F ht⟩) hS.2.2 dX0_isOpen_67
            · have h := ipos c8 h
              refine lv_iconst (v := iI 1) hx hb dX0_isOpen_62 rfl ?_
              refine lv_goto (tgt := 67) hx hb dX0_isOpen_63 (by decide) ?_
              obtain rfl := Option.some.inj h
              exact W.zret (v := iI 1) hx hb hr (by decide) (fun t ht hW => ⟨⟨iI 1, (), rfl, rfl, WLD.of ht hP hD⟩, hS.F ht⟩) hS.2.2 dX0_isOpen_67
def s_X0_openTill_L2 (n : Nat) (v_ends : Nat → Int32) (v_holders : Nat → Int32) (a1 : Int32) : Nat → Int32 → Option (Int32)
  | 0, _ => none
  | k + 1, x3 => (if iI 9 ≤ x3 then (some (x3)) else ((s_X0_isOpen v_ends v_holders a1 x3).bind fun r2 => (if r2 = 0 then (some (x3)) else (s_X0_openTill_L2 n v_ends v_holders a1 k (x3 + iI 1)))))
def s_X0_openTill (n : Nat) (v_ends : Nat → Int32) (v_holders : Nat → Int32) (a1 : Int32) (a2 : Int32) : Option (Int32) := (s_X0_openTill_L2 n v_ends v_holders a1 n a2)
set_option maxHeartbeats 4000000 in
set_option maxRecDepth 100000 in
theorem c_X0_openTill (l : Launch) (dC : Nat → ClassId) (dI : Nat → Nat → Nat) (cyI cyJ cyT : ClassId) (h_p0 : Nat) (h_p0_holders : Nat) (h_p0_ends : Nat) (sz : Nat) (v_ends : Nat → Int32) (v_holders : Nat → Int32) (a1 : Int32) (a2 : Int32) (n : Nat) (o : Int32) (h : s_X0_openTill n v_ends v_holders a1 a2 = some o) : Met l yX0_openTill wsX0_openTill ({ frames := 1, cells := 0, slots := 0, locals := 24 }) (va_Pc [.ref h_p0, .int a1, .int a2] (PRE (dC, dI) (TYS cyI cyJ cyT) sz [(h_p0, .inr (0, [.ref h_p0_holders, .ref h_p0_ends])), (h_p0_ends, .inl (cyI, 3, .inl v_ends)), (h_p0_holders, .inl (cyI, 162, .inl v_holders))])) (va_Qi (S := Unit) (fun r _ => r = o) (fun _ t => WLD (dC, dI) (va_A [(h_p0, .inr (0, [.ref h_p0_holders, .ref h_p0_ends])), (h_p0_ends, .inl (cyI, 3, .inl v_ends)), (h_p0_holders, .inl (cyI, 162, .inl v_holders))] sz) [(h_p0, .inr (0, [.ref h_p0_holders, .ref h_p0_ends])), (h_p0_ends, .inl (cyI, 3, .inl v_ends)), (h_p0_holders, .inl (cyI, 162, .inl v_holders))] t) (va_A [(h_p0, .inr (0, [.ref h_p0_holders, .ref h_p0_ends])), (h_p0_ends, .inl (cyI, 3, .inl v_ends)), (h_p0_holders, .inl (cyI, 162, .inl v_holders))] sz)) 0 0 (va_A [(h_p0, .inr (0, [.ref h_p0_holders, .ref h_p0_ends])), (h_p0_ends, .inl (cyI, 3, .inl v_ends)), (h_p0_holders, .inl (cyI, 162, .inl v_holders))] sz) := by
  refine Met.ofW (cc := cX0_openTill) (maxL := 4) (ret := (some .int)) (by decide) rfl ?_
  intro p e s m args below meth c s₁ B hml hv
  obtain ⟨rfl, hsz, hP, hK, hD0, hNW⟩ := hv
  have hx := B.exec
  have hb := B.bytes
  have hr := B.returns
  have hts := atoms_spec (ws := wsX0_openTill) B.pre
  have hown : s.vm.findClass RX0 = some m.cls := findClass_of_methodNamed B.named
  have hlocks := B.notSynchronized
  subst hsz
  have hD := hD0.self (sz := s.heap.size)
  generalize hAe : va_A [(h_p0, .inr (0, [.ref h_p0_holders, .ref h_p0_ends])), (h_p0_ends, .inl (cyI, 3, .inl v_ends)), (h_p0_holders, .inl (cyI, 162, .inl v_holders))] s.heap.size = A at hD ⊢
  have hA : ∀ q : Nat, s.heap.size ≤ q → A q := fun q h => by rw [← hAe]; exact Or.inr h
  have hS : va_S A s.heap s.heap [] := va_S.rf
  have hP : va_P (dC, dI) vwCl [(h_p0, .inr (0, [.ref h_p0_holders, .ref h_p0_ends])), (h_p0_ends, .inl (cyI, 3, .inl v_ends)), (h_p0_holders, .inl (cyI, 162, .inl v_holders))] s.heap := hP
  have L2 : ∀ (k : Nat), (∀ (x3 : Int32) (H : Heap) (locs : List Loc), va_P (dC, dI) vwCl [(h_p0, .inr (0, [.ref h_p0_holders, .ref h_p0_ends])), (h_p0_ends, .inl (cyI, 3, .inl v_ends)), (h_p0_holders, .inl (cyI, 162, .inl v_holders))] H → va_D A [(h_p0, .inr (0, [.ref h_p0_holders, .ref h_p0_ends])), (h_p0_ends, .inl (cyI, 3, .inl v_ends)), (h_p0_holders, .inl (cyI, 162, .inl v_holders))] → va_S A s.heap H locs → ∀ (ls : Array Slot), lv_has ls 4 [(0, .ref h_p0), (1, .int a1), (3, .int x3)] →  s_X0_openTill_L2 n v_ends v_holders a1 k x3 = some o → W p l e (headSpec wsX0_openTill ({ frames := 1, cells := 0, slots := 0, locals := 24 })).room s m (([.ref h_p0, .int a1, .int a2] : List Value).toArray) below meth c H locs 0 0 (MQ below (va_Qi (S := Unit) (fun r _ => r = o) (fun _ t => WLD (dC, dI) A [(h_p0, .inr (0, [.ref h_p0_holders, .ref h_p0_ends])), (h_p0_ends, .inl (cyI, 3, .inl v_ends)), (h_p0_holders, .inl (cyI, 162, .inl v_holders))] t) A) (([.ref h_p0, .int a1, .int a2] : List Value).toArray) s 0 0 A) (F0 m 2 ls [])) := by
    intro k
    induction k with
    | zero =>
      intro  x3 H locs hP hD hS ls hl h
      rw [s_X0_openTill_L2] at h
      cases h
    | succ k ih =>
      intro  x3 H locs hP hD hS ls hl h
      rw [s_X0_openTill_L2] at h
      refine lv_iload_n hx hb dX0_openTill_2 rfl (lv_at hl 2 rfl) ?_
      refine lv_bipush (v := iI 9) hx hb dX0_openTill_3 (by decide) ?_
      refine lv_icmp_ge (tgt := 23) hx hb dX0_openTill_5 (by decide) (fun c1 => ?_) (fun c1 => ?_)
      · have h := ipos c1 h
        refine lv_iload_n hx hb dX0_openTill_23 rfl (lv_at hl 2 rfl) ?_
        obtain rfl := Option.some.inj h
        exact W.iret (v := x3) hx hb hr (fun t ht hW => ⟨⟨x3, (), rfl, rfl, WLD.of ht hP hD⟩, hS.F ht⟩) hS.2.2 dX0_openTill_24
      · have h := ineg c1 h
        refine lv_aload_n hx hb dX0_openTill_8 rfl (lv_at hl 0 rfl) ?_
        refine lv_iload_n hx hb dX0_openTill_9 rfl (lv_at hl 1 rfl) ?_
        refine lv_iload_n hx hb dX0_openTill_10 rfl (lv_at hl 2 rfl) ?_
        obtain ⟨r2, e3, h⟩ := bsome h
        have hPc := sb_P [(h_p0, .inr (0, [.ref h_p0_holders, .ref h_p0_ends])), (h_p0_ends, .inl (cyI, 3, .inl v_ends)), (h_p0_holders, .inl (cyI, 162, .inl v_holders))] hP [0, 1, 2] rfl
        have hDc := sb_D [(h_p0, .inr (0, [.ref h_p0_holders, .ref h_p0_ends])), (h_p0_ends, .inl (cyI, 3, .inl v_ends)), (h_p0_holders, .inl (cyI, 162, .inl v_holders))] hD [0, 1, 2] (by decide) rfl
        have hFc := va_free (wc := [(h_p0, .inr (0, [.ref h_p0_holders, .ref h_p0_ends])), (h_p0_ends, .inl (cyI, 3, .inl v_ends)), (h_p0_holders, .inl (cyI, 162, .inl v_holders))]) hD hS hA [0, 1, 2] rfl
        refine va_calli (va_runV (As := [.int a1, .int x3]) (rest := []) ⟨hx, hb, hml, hown, hts⟩ (c_X0_isOpen l dC dI cyI cyJ cyT h_p0 h_p0_holders h_p0_ends H.size v_ends v_holders a1 x3 r2 e3) (cwV 2 hts gX0_openTill_X0_isOpen rfl rfl rfl (by decide +kernel) ⟨Nat.le_of_ble_eq_true rfl, Nat.le_of_ble_eq_true rfl⟩) ⟨PRE.blind, va_recv hK hPc (ci := 0) (q0 := 0) rfl rfl, PRE.go hK hPc hDc hNW⟩ rfl rfl hl.1 rfl (lv_room (Nat.le_of_ble_eq_true rfl)) dX0_openTill_11 ⟨Nat.zero_le _, Nat.zero_le _⟩) hS (fun q _ h => hFc q h) hFc (fun z4 u t H locs ht hvm hw hB hz1 hk1 hS => ?_)
        subst z4
        obtain ⟨hP, hD⟩ := va_join (wr := []) (w1 := [(h_p0, .inr (0, [.ref h_p0_holders, .ref h_p0_ends])), (h_p0_ends, .inl (cyI, 3, .inl v_ends)), (h_p0_holders, .inl (cyI, 162, .inl v_holders))]) hP hD [0, 1, 2] [] rfl rfl (by decide) (by decide) hk1 hFc (WLD.P hB ht) hB.2
        have hP : va_P (dC, dI) vwCl [(h_p0, .inr (0, [.ref h_p0_holders, .ref h_p0_ends])), (h_p0_ends, .inl (cyI, 3, .inl v_ends)), (h_p0_holders, .inl (cyI, 162, .inl v_holders))] H := hP
        have hD : va_D A [(h_p0, .inr (0, [.ref h_p0_holders, .ref h_p0_ends])), (h_p0_ends, .inl (cyI, 3, .inl v_ends)), (h_p0_holders, .inl (cyI, 162, .inl v_holders))] := hD
        refine lv_if_eq (tgt := 23) hx hb dX0_openTill_14 (by decide) (fun c5 => ?_) (fun c5 => ?_)
        · have h := ipos c5 h
          refine lv_iload_n hx hb dX0_openTill_23 rfl (lv_at hl 2 rfl) ?_
          obtain rfl := Option.some.inj h
          exact W.iret (v := x3) hx hb hr (fun t ht hW => ⟨⟨x3, (), rfl, rfl, WLD.of ht hP hD⟩, hS.F ht⟩) hS.2.2 dX0_openTill_24
        · have h := ineg c5 h
          refine lv_iinc (v := (x3 + iI 1)) hx hb dX0_openTill_17 hl (k := 2) rfl rfl (by decide) (rfl : _ = ([(3, .int (x3 + iI 1)), (0, .ref h_p0), (1, .int a1)] : List (Nat × Value))) (fun ls hl => ?_)
          refine lv_goto (tgt := 2) hx hb dX0_openTill_20 (by decide) ?_
          exact ih (x3 + iI 1) _ _ hP hD hS ls (lv_sub hl [1, 2, 0] rfl) h
  have hl := lv_entry ([.ref h_p0, .int a1, .int a2]) (n := 4) (Nat.le_of_ble_eq_true rfl)
  rw [lg_entry_eq]
  generalize (lg_sl ([.ref h_p0, .int a1, .int a2]) ++ List.replicate (4 - (lg_sl ([.ref h_p0, .int a1, .int a2])).length) Slot.unset).toArray = ls at hl ⊢
  have hl : lv_has ls 4 [(0, .ref h_p0), (1, .int a1), (2, .int a2)] := hl
  unfold s_X0_openTill at h
  refine lv_iload_n hx hb dX0_openTill_0 rfl (lv_at hl 2 rfl) ?_
  refine lv_istore_n hx hb dX0_openTill_1 rfl hl (by decide) (rfl : _ = ([(3, .int a2), (0, .ref h_p0), (1, .int a1), (2, .int a2)] : List (Nat × Value))) (fun ls hl => ?_)
  exact L2 n a2 _ _ hP hD hS ls (lv_sub hl [1, 2, 0] rfl) h
def s_X0_wokenIn_L25 (n : Nat) (v_holders : Nat → Int32) (a3 : Int32) : Nat → Int32 → Int32 → Int32 → Option (Int32)
  | 0, _, _, _ => none
  | k + 1, x4, x5, x6 => (if a3 ≤ x6 then (some (x5)) else (if ((x4 * iI 9) + x6) ≤ 0 then (s_X0_wokenIn_L25 n v_holders a3 k x4 x5 (x6 + iI 1)) else (if iI 162 ≤ ((x4 * iI 9) + x6) then (s_X0_wokenIn_L25 n v_holders a3 k x4 x5 (x6 + iI 1)) else (if gd (((x4 * iI 9) + x6) - iI 1) 162 = true then (if gd ((x4 * iI 9) + x6) 162 = true then (if (v_holders (((x4 * iI 9) + x6) - iI 1).toNatClampNeg) = (v_holders ((x4 * iI 9) + x6).toNatClampNeg) then (s_X0_wokenIn_L25 n v_holders a3 k x4 x5 (x6 + iI 1)) else (s_X0_wokenIn_L25 n v_holders a3 k x4 (x5 + iI 1) (x6 + iI 1))) else none) else none))))
def s_X0_wokenIn (n : Nat) (v_holders : Nat → Int32) (a1 : Int32) (a2 : Int32) (a3 : Int32) : Option (Int32) := (if (a1 - a1 / iI 2 * iI 2) = 0 then (s_X0_wokenIn_L25 n v_holders a3 n (a1 + iI 1) (iI 0) (a2 + iI 1)) else (s_X0_wokenIn_L25 n v_holders a3 n (a1 - iI 1) (iI 0) (a2 + iI 1)))
set_option maxRecDepth 20000 in
theorem m_X0_wokenIn_0 : ∀ w ∈ u_ws RX0 TX0 2, w ∈ wsX0_wokenIn := by decide +kernel
set_option maxRecDepth 20000 in
theorem m_X0_wokenIn_1 : (.fieldLink RX0 9 "SleeperBerths$Berths" "holders" "[I" : Cond) ∈ wsX0_wokenIn := by decide +kernel
set_option maxHeartbeats 4000000 in
set_option maxRecDepth 100000 in
theorem c_X0_wokenIn (l : Launch) (dC : Nat → ClassId) (dI : Nat → Nat → Nat) (cyI cyJ cyT : ClassId) (h_p0 : Nat) (h_p0_holders : Nat) (h_p0_ends : Nat) (sz : Nat) (v_holders : Nat → Int32) (a1 : Int32) (a2 : Int32) (a3 : Int32) (n : Nat) (o : Int32) (h : s_X0_wokenIn n v_holders a1 a2 a3 = some o) : Met l yX0_wokenIn wsX0_wokenIn ({ frames := 0, cells := 0, slots := 0, locals := 0 }) (va_Pc [.ref h_p0, .int a1, .int a2, .int a3] (PRE (dC, dI) (TYS cyI cyJ cyT) sz [(h_p0, .inr (0, [.ref h_p0_holders, .ref h_p0_ends])), (h_p0_holders, .inl (cyI, 162, .inl v_holders))])) (va_Qi (S := Unit) (fun r _ => r = o) (fun _ t => WLD (dC, dI) (va_A [(h_p0, .inr (0, [.ref h_p0_holders, .ref h_p0_ends])), (h_p0_holders, .inl (cyI, 162, .inl v_holders))] sz) [(h_p0, .inr (0, [.ref h_p0_holders, .ref h_p0_ends])), (h_p0_holders, .inl (cyI, 162, .inl v_holders))] t) (va_A [(h_p0, .inr (0, [.ref h_p0_holders, .ref h_p0_ends])), (h_p0_holders, .inl (cyI, 162, .inl v_holders))] sz)) 0 0 (va_A [(h_p0, .inr (0, [.ref h_p0_holders, .ref h_p0_ends])), (h_p0_holders, .inl (cyI, 162, .inl v_holders))] sz) := by
  refine Met.ofW (cc := cX0_wokenIn) (maxL := 8) (ret := (some .int)) (by decide) rfl ?_
  intro p e s m args below meth c s₁ B hml hv
  obtain ⟨rfl, hsz, hP, hK, hD0, hNW⟩ := hv
  have hx := B.exec
  have hb := B.bytes
  have hr := B.returns
  have hts := atoms_spec (ws := wsX0_wokenIn) B.pre
  have hown : s.vm.findClass RX0 = some m.cls := findClass_of_methodNamed B.named
  have hlocks := B.notSynchronized
  subst hsz
  have hD := hD0.self (sz := s.heap.size)
  generalize hAe : va_A [(h_p0, .inr (0, [.ref h_p0_holders, .ref h_p0_ends])), (h_p0_holders, .inl (cyI, 162, .inl v_holders))] s.heap.size = A at hD ⊢
  have hA : ∀ q : Nat, s.heap.size ≤ q → A q := fun q h => by rw [← hAe]; exact Or.inr h
  have hS : va_S A s.heap s.heap [] := va_S.rf
  have hP : va_P (dC, dI) vwCl [(h_p0, .inr (0, [.ref h_p0_holders, .ref h_p0_ends])), (h_p0_holders, .inl (cyI, 162, .inl v_holders))] s.heap := hP
  have L25 : ∀ (k : Nat), (∀ (x4 : Int32) (x5 : Int32) (x6 : Int32) (H : Heap) (locs : List Loc), va_P (dC, dI) vwCl [(h_p0, .inr (0, [.ref h_p0_holders, .ref h_p0_ends])), (h_p0_holders, .inl (cyI, 162, .inl v_holders))] H → va_D A [(h_p0, .inr (0, [.ref h_p0_holders, .ref h_p0_ends])), (h_p0_holders, .inl (cyI, 162, .inl v_holders))] → va_S A s.heap H locs → ∀ (ls : Array Slot), lv_has ls 8 [(0, .ref h_p0), (3, .int a3), (4, .int x4), (5, .int x5), (6, .int x6)] →  s_X0_wokenIn_L25 n v_holders a3 k x4 x5 x6 = some o → W p l e (headSpec wsX0_wokenIn ({ frames := 0, cells := 0, slots := 0, locals := 0 })).room s m (([.ref h_p0, .int a1, .int a2, .int a3] : List Value).toArray) below meth c H locs 0 0 (MQ below (va_Qi (S := Unit) (fun r _ => r = o) (fun _ t => WLD (dC, dI) A [(h_p0, .inr (0, [.ref h_p0_holders, .ref h_p0_ends])), (h_p0_holders, .inl (cyI, 162, .inl v_holders))] t) A) (([.ref h_p0, .int a1, .int a2, .int a3] : List Value).toArray) s 0 0 A) (F0 m 25 ls [])) := by
    intro k
    induction k with
    | zero =>
      intro  x4 x5 x6 H locs hP hD hS ls hl h
      rw [s_X0_wokenIn_L25] at h
      cases h
    | succ k ih =>
      intro  x4 x5 x6 H locs hP hD hS ls hl h
      rw [s_X0_wokenIn_L25] at h
      refine lv_iload hx hb dX0_wokenIn_25 (lv_at hl 4 rfl) ?_
      refine lv_iload_n hx hb dX0_wokenIn_27 rfl (lv_at hl 1 rfl) ?_
      refine lv_icmp_ge (tgt := 84) hx hb dX0_wokenIn_28 (by decide) (fun c1 => ?_) (fun c1 => ?_)
      · have h := ipos c1 h
        refine lv_iload hx hb dX0_wokenIn_84 (lv_at hl 3 rfl) ?_
        obtain rfl := Option.some.inj h
        exact W.iret (v := x5) hx hb hr (fun t ht hW => ⟨⟨x5, (), rfl, rfl, WLD.of ht hP hD⟩, hS.F ht⟩) hS.2.2 dX0_wokenIn_86
      · have h := ineg c1 h
        refine lv_iload hx hb dX0_wokenIn_31 (lv_at hl 2 rfl) ?_
        refine lv_bipush (v := iI 9) hx hb dX0_wokenIn_33 (by decide) ?_
        refine lv_imul hx hb dX0_wokenIn_35 ?_
        refine lv_iload hx hb dX0_wokenIn_36 (lv_at hl 4 rfl) ?_
        refine lv_iadd hx hb dX0_wokenIn_38 ?_
        refine lv_istore hx hb dX0_wokenIn_39 hl (by decide) (rfl : _ = ([(7, .int ((x4 * iI 9) + x6)), (0, .ref h_p0), (3, .int a3), (4, .int x4), (5, .int x5), (6, .int x6)] : List (Nat × Value))) (fun ls hl => ?_)
        refine lv_iload hx hb dX0_wokenIn_41 (lv_at hl 0 rfl) ?_
        refine lv_if_le (tgt := 78) hx hb dX0_wokenIn_43 (by decide) (fun c2 => ?_) (fun c2 => ?_)
        · have h := ipos c2 h
          refine lv_iinc (v := (x6 + iI 1)) hx hb dX0_wokenIn_78 hl (k := 5) rfl rfl (by decide) (rfl : _ = ([(6, .int (x6 + iI 1)), (7, .int ((x4 * iI 9) + x6)), (0, .ref h_p0), (3, .int a3), (4, .int x4), (5, .int x5)] : List (Nat × Value))) (fun ls hl => ?_)
          refine lv_goto (tgt := 25) hx hb dX0_wokenIn_81 (by decide) ?_
          exact ih x4 x5 (x6 + iI 1) _ _ hP hD hS ls (lv_sub hl [2, 3, 4, 5, 0] rfl) h
        · have h := ineg c2 h
          refine lv_iload hx hb dX0_wokenIn_46 (lv_at hl 0 rfl) ?_
          refine lv_aload_n hx hb dX0_wokenIn_48 rfl (lv_at hl 1 rfl) ?_
          refine va_get (D := (dC, dI)) (ci := 0) (v := .ref h_p0_holders) (C := RX0) (T := TX0) (N := 2) hx hb hts m_X0_wokenIn_0 hown hK hP 0 rfl rfl 0 (by decide) (hts (.fieldLink RX0 9 "SleeperBerths$Berths" "holders" "[I") m_X0_wokenIn_1) (fun _ h9 => h9) rfl dX0_wokenIn_49 ?_
          refine va_alen (D := (dC, dI)) (v := iI 162) hx hb hK hP 1 0 rfl rfl (show Int32.ofNat 162 = iI 162 by decide) dX0_wokenIn_52 ?_
          refine lv_icmp_ge (tgt := 78) hx hb dX0_wokenIn_53 (by decide) (fun c3 => ?_) (fun c3 => ?_)
          · have h := ipos c3 h
            refine lv_iinc (v := (x6 + iI 1)) hx hb dX0_wokenIn_78 hl (k := 5) rfl rfl (by decide) (rfl : _ = ([(6, .int (x6 + iI 1)), (7, .int ((x4 * iI 9) + x6)), (0, .ref h_p0), (3, .int a3), (4, .int x4), (5, .int x5)] : List (Nat × Value))) (fun ls hl => ?_)
            refine lv_goto (tgt := 25) hx hb dX0_wokenIn_81 (by decide) ?_
            exact ih x4 x5 (x6 + iI 1) _ _ hP hD hS ls (lv_sub hl [2, 3, 4, 5, 0] rfl) h
          · have h := ineg c3 h
            refine lv_aload_n hx hb dX0_wokenIn_56 rfl (lv_at hl 1 rfl) ?_
            refine va_get (D := (dC, dI)) (ci := 0) (v := .ref h_p0_holders) (C := RX0) (T := TX0) (N := 2) hx hb hts m_X0_wokenIn_0 hown hK hP 0 rfl rfl 0 (by decide) (hts (.fieldLink RX0 9 "SleeperBerths$Berths" "holders" "[I") m_X0_wokenIn_1) (fun _ h9 => h9) rfl dX0_wokenIn_57 ?_
            refine lv_iload hx hb dX0_wokenIn_60 (lv_at hl 0 rfl) ?_
            refine lv_iconst (v := iI 1) hx hb dX0_wokenIn_62 rfl ?_
            refine lv_isub hx hb dX0_wokenIn_63 ?_
            obtain ⟨g4, h⟩ := gsome h
            refine va_iald (D := (dC, dI)) hx hb hK hP 1 0 rfl rfl g4 dX0_wokenIn_64 ?_
            refine lv_aload_n hx hb dX0_wokenIn_65 rfl (lv_at hl 1 rfl) ?_
            refine va_get (D := (dC, dI)) (ci := 0) (v := .ref h_p0_holders) (C := RX0) (T := TX0) (N := 2) hx hb hts m_X0_wokenIn_0 hown hK hP 0 rfl rfl 0 (by decide) (hts (.fieldLink RX0 9 "SleeperBerths$Berths" "holders" "[I") m_X0_wokenIn_1) (fun _ h9 => h9) rfl dX0_wokenIn_66 ?_
            refine lv_iload hx hb dX0_wokenIn_69 (lv_at hl 0 rfl) ?_
            obtain ⟨g5, h⟩ := gsome h
            refine va_iald (D := (dC, dI)) hx hb hK hP 1 0 rfl rfl g5 dX0_wokenIn_71 ?_
            refine lv_icmp_eq (tgt := 78) hx hb dX0_wokenIn_72 (by decide) (fun c6 => ?_) (fun c6 => ?_)
            · have h := ipos c6 h
              refine lv_iinc (v := (x6 + iI 1)) hx hb dX0_wokenIn_78 hl (k := 5) rfl rfl (by decide) (rfl : _ = ([(6, .int (x6 + iI 1)), (7, .int ((x4 * iI 9) + x6)), (0, .ref h_p0), (3, .int a3), (4, .int x4), (5, .int x5)] : List (Nat × Value))) (fun ls hl => ?_)
              refine lv_goto (tgt := 25) hx hb dX0_wokenIn_81 (by decide) ?_
              exact ih x4 x5 (x6 + iI 1) _ _ hP hD hS ls (lv_sub hl [2, 3, 4, 5, 0] rfl) h
            · have h := ineg c6 h
              refine lv_iinc (v := (x5 + iI 1)) hx hb dX0_wokenIn_75 hl (k := 4) rfl rfl (by decide) (rfl : _ = ([(5, .int (x5 + iI 1)), (7, .int ((x4 * iI 9) + x6)), (0, .ref h_p0), (3, .int a3), (4, .int x4), (6, .int x6)] : List (Nat × Value))) (fun ls hl => ?_)
              refine lv_iinc (v := (x6 + iI 1)) hx hb dX0_wokenIn_78 hl (k := 5) rfl rfl (by decide) (rfl : _ = ([(6, .int (x6 + iI 1)), (5, .int (x5 + iI 1)), (7, .int ((x4 * iI 9) + x6)), (0, .ref h_p0), (3, .int a3), (4, .int x4)] : List (Nat × Value))) (fun ls hl => ?_)
              refine lv_goto (tgt := 25) hx hb dX0_wokenIn_81 (by decide) ?_
              exact ih x4 (x5 + iI 1) (x6 + iI 1) _ _ hP hD hS ls (lv_sub hl [3, 4, 5, 1, 0] rfl) h
  have hl := lv_entry ([.ref h_p0, .int a1, .int a2, .int a3]) (n := 8) (Nat.le_of_ble_eq_true rfl)
  rw [lg_entry_eq]
  generalize (lg_sl ([.ref h_p0, .int a1, .int a2, .int a3]) ++ List.replicate (8 - (lg_sl ([.ref h_p0, .int a1, .int a2, .int a3])).length) Slot.unset).toArray = ls at hl ⊢
  have hl : lv_has ls 8 [(0, .ref h_p0), (1, .int a1), (2, .int a2), (3, .int a3)] := hl
  unfold s_X0_wokenIn at h
  refine lv_iload_n hx hb dX0_wokenIn_0 rfl (lv_at hl 1 rfl) ?_
  refine lv_iconst (v := iI 2) hx hb dX0_wokenIn_1 rfl ?_
  refine lv_irem hx hb dX0_wokenIn_2 (by decide) ?_
  refine lv_if_ne (tgt := 12) hx hb dX0_wokenIn_3 (by decide) (fun c7 => ?_) (fun c7 => ?_)
  · have h := ineg c7 h
    refine lv_iload_n hx hb dX0_wokenIn_12 rfl (lv_at hl 1 rfl) ?_
    refine lv_iconst (v := iI 1) hx hb dX0_wokenIn_13 rfl ?_
    refine lv_isub hx hb dX0_wokenIn_14 ?_
    refine lv_istore hx hb dX0_wokenIn_15 hl (by decide) (rfl : _ = ([(4, .int (a1 - iI 1)), (0, .ref h_p0), (1, .int a1), (2, .int a2), (3, .int a3)] : List (Nat × Value))) (fun ls hl => ?_)
    refine lv_iconst (v := iI 0) hx hb dX0_wokenIn_17 rfl ?_
    refine lv_istore hx hb dX0_wokenIn_18 hl (by decide) (rfl : _ = ([(5, .int (iI 0)), (4, .int (a1 - iI 1)), (0, .ref h_p0), (1, .int a1), (2, .int a2), (3, .int a3)] : List (Nat × Value))) (fun ls hl => ?_)
    refine lv_iload_n hx hb dX0_wokenIn_20 rfl (lv_at hl 4 rfl) ?_
    refine lv_iconst (v := iI 1) hx hb dX0_wokenIn_21 rfl ?_
    refine lv_iadd hx hb dX0_wokenIn_22 ?_
    refine lv_istore hx hb dX0_wokenIn_23 hl (by decide) (rfl : _ = ([(6, .int (a2 + iI 1)), (5, .int (iI 0)), (4, .int (a1 - iI 1)), (0, .ref h_p0), (1, .int a1), (2, .int a2), (3, .int a3)] : List (Nat × Value))) (fun ls hl => ?_)
    exact L25 n (a1 - iI 1) (iI 0) (a2 + iI 1) _ _ hP hD hS ls (lv_sub hl [3, 6, 2, 1, 0] rfl) h
  · have h := ipos c7 h
    refine lv_iload_n hx hb dX0_wokenIn_6 rfl (lv_at hl 1 rfl) ?_
    refine lv_iconst (v := iI 1) hx hb dX0_wokenIn_7 rfl ?_
    refine lv_iadd hx hb dX0_wokenIn_8 ?_
    refine lv_goto (tgt := 15) hx hb dX0_wokenIn_9 (by decide) ?_
    refine lv_istore hx hb dX0_wokenIn_15 hl (by decide) (rfl : _ = ([(4, .int (a1 + iI 1)), (0, .ref h_p0), (1, .int a1), (2, .int a2), (3, .int a3)] : List (Nat × Value))) (fun ls hl => ?_)
    refine lv_iconst (v := iI 0) hx hb dX0_wokenIn_17 rfl ?_
    refine lv_istore hx hb dX0_wokenIn_18 hl (by decide) (rfl : _ = ([(5, .int (iI 0)), (4, .int (a1 + iI 1)), (0, .ref h_p0), (1, .int a1), (2, .int a2), (3, .int a3)] : List (Nat × Value))) (fun ls hl => ?_)
    refine lv_iload_n hx hb dX0_wokenIn_20 rfl (lv_at hl 4 rfl) ?_
    refine lv_iconst (v := iI 1) hx hb dX0_wokenIn_21 rfl ?_
    refine lv_iadd hx hb dX0_wokenIn_22 ?_
    refine lv_istore hx hb dX0_wokenIn_23 hl (by decide) (rfl : _ = ([(6, .int (a2 + iI 1)), (5, .int (iI 0)), (4, .int (a1 + iI 1)), (0, .ref h_p0), (1, .int a1), (2, .int a2), (3, .int a3)] : List (Nat × Value))) (fun ls hl => ?_)
    exact L25 n (a1 + iI 1) (iI 0) (a2 + iI 1) _ _ hP hD hS ls (lv_sub hl [3, 6, 2, 1, 0] rfl) h
def s_X0_calmest_L8 (n : Nat) (v_ends : Nat → Int32) (v_holders : Nat → Int32) (a1 : Int32) (a2 : Int32) : Nat → Int32 → Int32 → Int32 → Option (Int32)
  | 0, _, _, _ => none
  | k + 1, x3, x4, x5 => (if iI 18 ≤ x5 then (some (x3)) else ((s_X0_openTill n v_ends v_holders x5 a1).bind fun r2 => (if r2 < a2 then (s_X0_calmest_L8 n v_ends v_holders a1 a2 k x3 x4 (x5 + iI 1)) else ((s_X0_wokenIn n v_holders x5 a1 a2).bind fun r6 => (if x3 = iI (-1) then (s_X0_calmest_L8 n v_ends v_holders a1 a2 k x5 r6 (x5 + iI 1)) else (if x4 ≤ r6 then (s_X0_calmest_L8 n v_ends v_holders a1 a2 k x3 x4 (x5 + iI 1)) else (s_X0_calmest_L8 n v_ends v_holders a1 a2 k x5 r6 (x5 + iI 1))))))))
def s_X0_calmest (n : Nat) (v_ends : Nat → Int32) (v_holders : Nat → Int32) (a1 : Int32) (a2 : Int32) : Option (Int32) := (s_X0_calmest_L8 n v_ends v_holders a1 a2 n (iI (-1)) (iI 0) (iI 0))
set_option maxHeartbeats 4000000 in
set_option maxRecDepth 100000 in
theorem c_X0_calmest (l : Launch) (dC : Nat → ClassId) (dI : Nat → Nat → Nat) (cyI cyJ cyT : ClassId) (h_p0 : Nat) (h_p0_holders : Nat) (h_p0_ends : Nat) (sz : Nat) (v_ends : Nat → Int32) (v_holders : Nat → Int32) (a1 : Int32) (a2 : Int32) (n : Nat) (o : Int32) (h : s_X0_calmest n v_ends v_holders a1 a2 = some o) : Met l yX0_calmest wsX0_calmest ({ frames := 2, cells := 0, slots := 0, locals := 47 }) (va_Pc [.ref h_p0, .int a1, .int a2] (PRE (dC, dI) (TYS cyI cyJ cyT) sz [(h_p0, .inr (0, [.ref h_p0_holders, .ref h_p0_ends])), (h_p0_ends, .inl (cyI, 3, .inl v_ends)), (h_p0_holders, .inl (cyI, 162, .inl v_holders))])) (va_Qi (S := Unit) (fun r _ => r = o) (fun _ t => WLD (dC, dI) (va_A [(h_p0, .inr (0, [.ref h_p0_holders, .ref h_p0_ends])), (h_p0_ends, .inl (cyI, 3, .inl v_ends)), (h_p0_holders, .inl (cyI, 162, .inl v_holders))] sz) [(h_p0, .inr (0, [.ref h_p0_holders, .ref h_p0_ends])), (h_p0_ends, .inl (cyI, 3, .inl v_ends)), (h_p0_holders, .inl (cyI, 162, .inl v_holders))] t) (va_A [(h_p0, .inr (0, [.ref h_p0_holders, .ref h_p0_ends])), (h_p0_ends, .inl (cyI, 3, .inl v_ends)), (h_p0_holders, .inl (cyI, 162, .inl v_holders))] sz)) 0 0 (va_A [(h_p0, .inr (0, [.ref h_p0_holders, .ref h_p0_ends])), (h_p0_ends, .inl (cyI, 3, .inl v_ends)), (h_p0_holders, .inl (cyI, 162, .inl v_holders))] sz) := by
  refine Met.ofW (cc := cX0_calmest) (maxL := 7) (ret := (some .int)) (by decide) rfl ?_
  intro p e s m args below meth c s₁ B hml hv
  obtain ⟨rfl, hsz, hP, hK, hD0, hNW⟩ := hv
  have hx := B.exec
  have hb := B.bytes
  have hr := B.returns
  have hts := atoms_spec (ws := wsX0_calmest) B.pre
  have hown : s.vm.findClass RX0 = some m.cls := findClass_of_methodNamed B.named
  have hlocks := B.notSynchronized
  subst hsz
  have hD := hD0.self (sz := s.heap.size)
  generalize hAe : va_A [(h_p0, .inr (0, [.ref h_p0_holders, .ref h_p0_ends])), (h_p0_ends, .inl (cyI, 3, .inl v_ends)), (h_p0_holders, .inl (cyI, 162, .inl v_holders))] s.heap.size = A at hD ⊢
  have hA : ∀ q : Nat, s.heap.size ≤ q → A q := fun q h => by rw [← hAe]; exact Or.inr h
  have hS : va_S A s.heap s.heap [] := va_S.rf
  have hP : va_P (dC, dI) vwCl [(h_p0, .inr (0, [.ref h_p0_holders, .ref h_p0_ends])), (h_p0_ends, .inl (cyI, 3, .inl v_ends)), (h_p0_holders, .inl (cyI, 162, .inl v_holders))] s.heap := hP
  have L8 : ∀ (k : Nat), (∀ (x3 : Int32) (x4 : Int32) (x5 : Int32) (H : Heap) (locs : List Loc), va_P (dC, dI) vwCl [(h_p0, .inr (0, [.ref h_p0_holders, .ref h_p0_ends])), (h_p0_ends, .inl (cyI, 3, .inl v_ends)), (h_p0_holders, .inl (cyI, 162, .inl v_holders))] H → va_D A [(h_p0, .inr (0, [.ref h_p0_holders, .ref h_p0_ends])), (h_p0_ends, .inl (cyI, 3, .inl v_ends)), (h_p0_holders, .inl (cyI, 162, .inl v_holders))] → va_S A s.heap H locs → ∀ (ls : Array Slot), lv_has ls 7 [(0, .ref h_p0), (1, .int a1), (2, .int a2), (3, .int x3), (4, .int x4), (5, .int x5)] →  s_X0_calmest_L8 n v_ends v_holders a1 a2 k x3 x4 x5 = some o → W p l e (headSpec wsX0_calmest ({ frames := 2, cells := 0, slots := 0, locals := 47 })).room s m (([.ref h_p0, .int a1, .int a2] : List Value).toArray) below meth c H locs 0 0 (MQ below (va_Qi (S := Unit) (fun r _ => r = o) (fun _ t => WLD (dC, dI) A [(h_p0, .inr (0, [.ref h_p0_holders, .ref h_p0_ends])), (h_p0_ends, .inl (cyI, 3, .inl v_ends)), (h_p0_holders, .inl (cyI, 162, .inl v_holders))] t) A) (([.ref h_p0, .int a1, .int a2] : List Value).toArray) s 0 0 A) (F0 m 8 ls [])) := by
    intro k
    induction k with
    | zero =>
      intro  x3 x4 x5 H locs hP hD hS ls hl h
      rw [s_X0_calmest_L8] at h
      cases h
    | succ k ih =>
      intro  x3 x4 x5 H locs hP hD hS ls hl h
      rw [s_X0_calmest_L8] at h
      refine lv_iload hx hb dX0_calmest_8 (lv_at hl 5 rfl) ?_
      refine lv_bipush (v := iI 18) hx hb dX0_calmest_10 (by decide) ?_
      refine lv_icmp_ge (tgt := 61) hx hb dX0_calmest_12 (by decide) (fun c1 => ?_) (fun c1 => ?_)
      · have h := ipos c1 h
        refine lv_iload_n hx hb dX0_calmest_61 rfl (lv_at hl 3 rfl) ?_
        obtain rfl := Option.some.inj h
        exact W.iret (v := x3) hx hb hr (fun t ht hW => ⟨⟨x3, (), rfl, rfl, WLD.of ht hP hD⟩, hS.F ht⟩) hS.2.2 dX0_calmest_62
      · have h := ineg c1 h
        refine lv_aload_n hx hb dX0_calmest_15 rfl (lv_at hl 0 rfl) ?_
        refine lv_iload hx hb dX0_calmest_16 (lv_at hl 5 rfl) ?_
        refine lv_iload_n hx hb dX0_calmest_18 rfl (lv_at hl 1 rfl) ?_
        obtain ⟨r2, e3, h⟩ := bsome h
        have hPc := sb_P [(h_p0, .inr (0, [.ref h_p0_holders, .ref h_p0_ends])), (h_p0_ends, .inl (cyI, 3, .inl v_ends)), (h_p0_holders, .inl (cyI, 162, .inl v_holders))] hP [0, 1, 2] rfl
        have hDc := sb_D [(h_p0, .inr (0, [.ref h_p0_holders, .ref h_p0_ends])), (h_p0_ends, .inl (cyI, 3, .inl v_ends)), (h_p0_holders, .inl (cyI, 162, .inl v_holders))] hD [0, 1, 2] (by decide) rfl
        have hFc := va_free (wc := [(h_p0, .inr (0, [.ref h_p0_holders, .ref h_p0_ends])), (h_p0_ends, .inl (cyI, 3, .inl v_ends)), (h_p0_holders, .inl (cyI, 162, .inl v_holders))]) hD hS hA [0, 1, 2] rfl
        refine va_calli (va_runV (As := [.int x5, .int a1]) (rest := []) ⟨hx, hb, hml, hown, hts⟩ (c_X0_openTill l dC dI cyI cyJ cyT h_p0 h_p0_holders h_p0_ends H.size v_ends v_holders x5 a1 n r2 e3) (cwV 2 hts gX0_calmest_X0_openTill rfl rfl rfl (by decide +kernel) ⟨Nat.le_of_ble_eq_true rfl, Nat.le_of_ble_eq_true rfl⟩) ⟨PRE.blind, va_recv hK hPc (ci := 0) (q0 := 0) rfl rfl, PRE.go hK hPc hDc hNW⟩ rfl rfl hl.1 rfl (lv_room (Nat.le_of_ble_eq_true rfl)) dX0_calmest_19 ⟨Nat.zero_le _, Nat.zero_le _⟩) hS (fun q _ h => hFc q h) hFc (fun z4 u t H locs ht hvm hw hB hz1 hk1 hS => ?_)
        subst z4
        obtain ⟨hP, hD⟩ := va_join (wr := []) (w1 := [(h_p0, .inr (0, [.ref h_p0_holders, .ref h_p0_ends])), (h_p0_ends, .inl (cyI, 3, .inl v_ends)), (h_p0_holders, .inl (cyI, 162, .inl v_holders))]) hP hD [0, 1, 2] [] rfl rfl (by decide) (by decide) hk1 hFc (WLD.P hB ht) hB.2
        have hP : va_P (dC, dI) vwCl [(h_p0, .inr (0, [.ref h_p0_holders, .ref h_p0_ends])), (h_p0_ends, .inl (cyI, 3, .inl v_ends)), (h_p0_holders, .inl (cyI, 162, .inl v_holders))] H := hP
        have hD : va_D A [(h_p0, .inr (0, [.ref h_p0_holders, .ref h_p0_ends])), (h_p0_ends, .inl (cyI, 3, .inl v_ends)), (h_p0_holders, .inl (cyI, 162, .inl v_holders))] := hD
        refine lv_iload_n hx hb dX0_calmest_22 rfl (lv_at hl 2 rfl) ?_
        refine lv_icmp_lt (tgt := 55) hx hb dX0_calmest_23 (by decide) (fun c5 => ?_) (fun c5 => ?_)
        · have h := ipos c5 h
          refine lv_iinc (v := (x5 + iI 1)) hx hb dX0_calmest_55 hl (k := 5) rfl rfl (by decide) (rfl : _ = ([(5, .int (x5 + iI 1)), (0, .ref h_p0), (1, .int a1), (2, .int a2), (3, .int x3), (4, .int x4)] : List (Nat × Value))) (fun ls hl => ?_)
          refine lv_goto (tgt := 8) hx hb dX0_calmest_58 (by decide) ?_
          exact ih x3 x4 (x5 + iI 1) _ _ hP hD hS ls (lv_sub hl [1, 2, 3, 4, 5, 0] rfl) h
        · have h := ineg c5 h
          refine lv_aload_n hx hb dX0_calmest_26 rfl (lv_at hl 0 rfl) ?_
          refine lv_iload hx hb dX0_calmest_27 (lv_at hl 5 rfl) ?_
          refine lv_iload_n hx hb dX0_calmest_29 rfl (lv_at hl 1 rfl) ?_
          refine lv_iload_n hx hb dX0_calmest_30 rfl (lv_at hl 2 rfl) ?_
          obtain ⟨r6, e7, h⟩ := bsome h
          have hPc := sb_P [(h_p0, .inr (0, [.ref h_p0_holders, .ref h_p0_ends])), (h_p0_holders, .inl (cyI, 162, .inl v_holders))] hP [0, 2] rfl
          have hDc := sb_D [(h_p0, .inr (0, [.ref h_p0_holders, .ref h_p0_ends])), (h_p0_holders, .inl (cyI, 162, .inl v_holders))] hD [0, 2] (by decide) rfl
          have hFc := va_free (wc := [(h_p0, .inr (0, [.ref h_p0_holders, .ref h_p0_ends])), (h_p0_holders, .inl (cyI, 162, .inl v_holders))]) hD hS hA [0, 2] rfl
          refine va_calli (va_runV (As := [.int x5, .int a1, .int a2]) (rest := []) ⟨hx, hb, hml, hown, hts⟩ (c_X0_wokenIn l dC dI cyI cyJ cyT h_p0 h_p0_holders h_p0_ends H.size v_holders x5 a1 a2 n r6 e7) (cwV 3 hts gX0_calmest_X0_wokenIn rfl rfl rfl (by decide +kernel) ⟨Nat.le_of_ble_eq_true rfl, Nat.le_of_ble_eq_true rfl⟩) ⟨PRE.blind, va_recv hK hPc (ci := 0) (q0 := 0) rfl rfl, PRE.go hK hPc hDc hNW⟩ rfl rfl hl.1 rfl (lv_room (Nat.le_of_ble_eq_true rfl)) dX0_calmest_31 ⟨Nat.zero_le _, Nat.zero_le _⟩) hS (fun q _ h => hFc q h) hFc (fun z8 u t H locs ht hvm hw hB hz1 hk1 hS => ?_)
          subst z8
          obtain ⟨hP, hD⟩ := va_join (wr := [(h_p0_ends, .inl (cyI, 3, .inl v_ends))]) (w1 := [(h_p0, .inr (0, [.ref h_p0_holders, .ref h_p0_ends])), (h_p0_holders, .inl (cyI, 162, .inl v_holders))]) hP hD [0, 2] [1] rfl rfl (by decide) (by decide) hk1 hFc (WLD.P hB ht) hB.2
          have hP : va_P (dC, dI) vwCl [(h_p0_ends, .inl (cyI, 3, .inl v_ends)), (h_p0, .inr (0, [.ref h_p0_holders, .ref h_p0_ends])), (h_p0_holders, .inl (cyI, 162, .inl v_holders))] H := hP
          have hD : va_D A [(h_p0_ends, .inl (cyI, 3, .inl v_ends)), (h_p0, .inr (0, [.ref h_p0_holders, .ref h_p0_ends])), (h_p0_holders, .inl (cyI, 162, .inl v_holders))] := hD
          refine lv_istore hx hb dX0_calmest_34 hl (by decide) (rfl : _ = ([(6, .int r6), (0, .ref h_p0), (1, .int a1), (2, .int a2), (3, .int x3), (4, .int x4), (5, .int x5)] : List (Nat × Value))) (fun ls hl => ?_)
          refine lv_iload_n hx hb dX0_calmest_36 rfl (lv_at hl 4 rfl) ?_
          refine lv_iconst (v := iI (-1)) hx hb dX0_calmest_37 rfl ?_
          refine lv_icmp_eq (tgt := 48) hx hb dX0_calmest_38 (by decide) (fun c9 => ?_) (fun c9 => ?_)
          · have h := ipos c9 h
            refine lv_iload hx hb dX0_calmest_48 (lv_at hl 6 rfl) ?_
            refine lv_istore_n hx hb dX0_calmest_50 rfl hl (by decide) (rfl : _ = ([(3, .int x5), (6, .int r6), (0, .ref h_p0), (1, .int a1), (2, .int a2), (4, .int x4), (5, .int x5)] : List (Nat × Value))) (fun ls hl => ?_)
            refine lv_iload hx hb dX0_calmest_51 (lv_at hl 1 rfl) ?_
            refine lv_istore hx hb dX0_calmest_53 hl (by decide) (rfl : _ = ([(4, .int r6), (3, .int x5), (6, .int r6), (0, .ref h_p0), (1, .int a1), (2, .int a2), (5, .int x5)] : List (Nat × Value))) (fun ls hl => ?_)
            refine lv_iinc (v := (x5 + iI 1)) hx hb dX0_calmest_55 hl (k := 6) rfl rfl (by decide) (rfl : _ = ([(5, .int (x5 + iI 1)), (4, .int r6), (3, .int x5), (6, .int r6), (0, .ref h_p0), (1, .int a1), (2, .int a2)] : List (Nat × Value))) (fun ls hl => ?_)
            refine lv_goto (tgt := 8) hx hb dX0_calmest_58 (by decide) ?_
            exact ih x5 r6 (x5 + iI 1) _ _ (sb_P [(h_p0, .inr (0, [.ref h_p0_holders, .ref h_p0_ends])), (h_p0_ends, .inl (cyI, 3, .inl v_ends)), (h_p0_holders, .inl (cyI, 162, .inl v_holders))] hP [1, 0, 2] rfl) (sb_D [(h_p0, .inr (0, [.ref h_p0_holders, .ref h_p0_ends])), (h_p0_ends, .inl (cyI, 3, .inl v_ends)), (h_p0_holders, .inl (cyI, 162, .inl v_holders))] hD [1, 0, 2] (by decide) rfl) hS ls (lv_sub hl [4, 5, 6, 2, 1, 0] rfl) h
          · have h := ineg c9 h
            refine lv_iload hx hb dX0_calmest_41 (lv_at hl 0 rfl) ?_
            refine lv_iload hx hb dX0_calmest_43 (lv_at hl 5 rfl) ?_
            refine lv_icmp_ge (tgt := 55) hx hb dX0_calmest_45 (by decide) (fun c10 => ?_) (fun c10 => ?_)
            · have h := ipos c10 h
              refine lv_iinc (v := (x5 + iI 1)) hx hb dX0_calmest_55 hl (k := 6) rfl rfl (by decide) (rfl : _ = ([(5, .int (x5 + iI 1)), (6, .int r6), (0, .ref h_p0), (1, .int a1), (2, .int a2), (3, .int x3), (4, .int x4)] : List (Nat × Value))) (fun ls hl => ?_)
              refine lv_goto (tgt := 8) hx hb dX0_calmest_58 (by decide) ?_
              exact ih x3 x4 (x5 + iI 1) _ _ (sb_P [(h_p0, .inr (0, [.ref h_p0_holders, .ref h_p0_ends])), (h_p0_ends, .inl (cyI, 3, .inl v_ends)), (h_p0_holders, .inl (cyI, 162, .inl v_holders))] hP [1, 0, 2] rfl) (sb_D [(h_p0, .inr (0, [.ref h_p0_holders, .ref h_p0_ends])), (h_p0_ends, .inl (cyI, 3, .inl v_ends)), (h_p0_holders, .inl (cyI, 162, .inl v_holders))] hD [1, 0, 2] (by decide) rfl) hS ls (lv_sub hl [2, 3, 4, 5, 6, 0] rfl) h
            · have h := ineg c10 h
              refine lv_iload hx hb dX0_calmest_48 (lv_at hl 6 rfl) ?_
              refine lv_istore_n hx hb dX0_calmest_50 rfl hl (by decide) (rfl : _ = ([(3, .int x5), (6, .int r6), (0, .ref h_p0), (1, .int a1), (2, .int a2), (4, .int x4), (5, .int x5)] : List (Nat × Value))) (fun ls hl => ?_)
              refine lv_iload hx hb dX0_calmest_51 (lv_at hl 1 rfl) ?_
              refine lv_istore hx hb dX0_calmest_53 hl (by decide) (rfl : _ = ([(4, .int r6), (3, .int x5), (6, .int r6), (0, .ref h_p0), (1, .int a1), (2, .int a2), (5, .int x5)] : List (Nat × Value))) (fun ls hl => ?_)
              refine lv_iinc (v := (x5 + iI 1)) hx hb dX0_calmest_55 hl (k := 6) rfl rfl (by decide) (rfl : _ = ([(5, .int (x5 + iI 1)), (4, .int r6), (3, .int x5), (6, .int r6), (0, .ref h_p0), (1, .int a1), (2, .int a2)] : List (Nat × Value))) (fun ls hl => ?_)
              refine lv_goto (tgt := 8) hx hb dX0_calmest_58 (by decide) ?_
              exact ih x5 r6 (x5 + iI 1) _ _ (sb_P [(h_p0, .inr (0, [.ref h_p0_holders, .ref h_p0_ends])), (h_p0_ends, .inl (cyI, 3, .inl v_ends)), (h_p0_holders, .inl (cyI, 162, .inl v_holders))] hP [1, 0, 2] rfl) (sb_D [(h_p0, .inr (0, [.ref h_p0_holders, .ref h_p0_ends])), (h_p0_ends, .inl (cyI, 3, .inl v_ends)), (h_p0_holders, .inl (cyI, 162, .inl v_holders))] hD [1, 0, 2] (by decide) rfl) hS ls (lv_sub hl [4, 5, 6, 2, 1, 0] rfl) h
  have hl := lv_entry ([.ref h_p0, .int a1, .int a2]) (n := 7) (Nat.le_of_ble_eq_true rfl)
  rw [lg_entry_eq]
  generalize (lg_sl ([.ref h_p0, .int a1, .int a2]) ++ List.replicate (7 - (lg_sl ([.ref h_p0, .int a1, .int a2])).length) Slot.unset).toArray = ls at hl ⊢
  have hl : lv_has ls 7 [(0, .ref h_p0), (1, .int a1), (2, .int a2)] := hl
  unfold s_X0_calmest at h
  refine lv_iconst (v := iI (-1)) hx hb dX0_calmest_0 rfl ?_
  refine lv_istore_n hx hb dX0_calmest_1 rfl hl (by decide) (rfl : _ = ([(3, .int (iI (-1))), (0, .ref h_p0), (1, .int a1), (2, .int a2)] : List (Nat × Value))) (fun ls hl => ?_)
  refine lv_iconst (v := iI 0) hx hb dX0_calmest_2 rfl ?_
  refine lv_istore hx hb dX0_calmest_3 hl (by decide) (rfl : _ = ([(4, .int (iI 0)), (3, .int (iI (-1))), (0, .ref h_p0), (1, .int a1), (2, .int a2)] : List (Nat × Value))) (fun ls hl => ?_)
  refine lv_iconst (v := iI 0) hx hb dX0_calmest_5 rfl ?_
  refine lv_istore hx hb dX0_calmest_6 hl (by decide) (rfl : _ = ([(5, .int (iI 0)), (4, .int (iI 0)), (3, .int (iI (-1))), (0, .ref h_p0), (1, .int a1), (2, .int a2)] : List (Nat × Value))) (fun ls hl => ?_)
  exact L8 n (iI (-1)) (iI 0) (iI 0) _ _ hP hD hS ls (lv_sub hl [3, 4, 5, 2, 1, 0] rfl) h
def s_X2_init (a1 : Int32) (a2 : Int32) (a3 : Int32) : Option (Int32 × Int32 × Int32) := (some (a1, a2, a3))
set_option maxRecDepth 20000 in
theorem m_X2_init_0 : (.methodLink RX2 3 objectInit : Cond) ∈ wsX2_init := by decide +kernel
set_option maxRecDepth 20000 in
theorem m_X2_init_1 : (.instanceMethod objectInit : Cond) ∈ wsX2_init := by decide +kernel
set_option maxRecDepth 20000 in
theorem m_X2_init_2 : (.code objectInit ⟨#[0xb1]⟩ 1 none : Cond) ∈ wsX2_init := by decide +kernel
set_option maxRecDepth 20000 in
theorem m_X2_init_3 : ∀ w ∈ u_ws RX2 TX2 3, w ∈ wsX2_init := by decide +kernel
set_option maxRecDepth 20000 in
theorem m_X2_init_4 : (.fieldLink RX2 9 "SleeperBerths$Offer" "first" "I" : Cond) ∈ wsX2_init := by decide +kernel
set_option maxRecDepth 20000 in
theorem m_X2_init_5 : (.fieldLink RX2 15 "SleeperBerths$Offer" "last" "I" : Cond) ∈ wsX2_init := by decide +kernel
set_option maxRecDepth 20000 in
theorem m_X2_init_6 : (.fieldLink RX2 18 "SleeperBerths$Offer" "changeAt" "I" : Cond) ∈ wsX2_init := by decide +kernel
set_option maxHeartbeats 4000000 in
set_option maxRecDepth 100000 in
theorem c_X2_init (l : Launch) (dC : Nat → ClassId) (dI : Nat → Nat → Nat) (cyI cyJ cyT : ClassId) (h_p0 : Nat) (sz : Nat) (a1 : Int32) (a2 : Int32) (a3 : Int32) (o : Int32 × Int32 × Int32) (h : s_X2_init a1 a2 a3 = some o) : Met l yX2_init wsX2_init ({ frames := 1, cells := 0, slots := 0, locals := 12 }) (va_Pc [.ref h_p0, .int a1, .int a2, .int a3] (PRE (dC, dI) (TYS cyI cyJ cyT) sz [(h_p0, .inr (2, [.int 0, .int 0, .int 0]))])) (va_Qv (S := Unit) (fun _ => True) (fun _ t => WLD (dC, dI) (va_A [(h_p0, .inr (2, [.int 0, .int 0, .int 0]))] sz) [(h_p0, .inr (2, [.int o.1, .int o.2.1, .int o.2.2]))] t) (va_A [(h_p0, .inr (2, [.int 0, .int 0, .int 0]))] sz)) 0 0 (va_A [(h_p0, .inr (2, [.int 0, .int 0, .int 0]))] sz) := by
  refine Met.ofW (cc := cX2_init) (maxL := 4) (ret := none) (by decide) rfl ?_
  intro p e s m args below meth c s₁ B hml hv
  obtain ⟨rfl, hsz, hP, hK, hD0, hNW⟩ := hv
  have hx := B.exec
  have hb := B.bytes
  have hr := B.returns
  have hts := atoms_spec (ws := wsX2_init) B.pre
  have hown : s.vm.findClass RX2 = some m.cls := findClass_of_methodNamed B.named
  have hlocks := B.notSynchronized
  have hin : meth.name = "<init>" := (name_of_methodNamed B.named B.method).1
  subst hsz
  have hD := hD0.self (sz := s.heap.size)
  generalize hAe : va_A [(h_p0, .inr (2, [.int 0, .int 0, .int 0]))] s.heap.size = A at hD ⊢
  have hA : ∀ q : Nat, s.heap.size ≤ q → A q := fun q h => by rw [← hAe]; exact Or.inr h
  have hS : va_S A s.heap s.heap [] := va_S.rf
  have hP : va_P (dC, dI) vwCl [(h_p0, .inr (2, [.int 0, .int 0, .int 0]))] s.heap := hP
  have hl := lv_entry ([.ref h_p0, .int a1, .int a2, .int a3]) (n := 4) (Nat.le_of_ble_eq_true rfl)
  rw [lg_entry_eq]
  generalize (lg_sl ([.ref h_p0, .int a1, .int a2, .int a3]) ++ List.replicate (4 - (lg_sl ([.ref h_p0, .int a1, .int a2, .int a3])).length) Slot.unset).toArray = ls at hl ⊢
  have hl : lv_has ls 4 [(0, .ref h_p0), (1, .int a1), (2, .int a2), (3, .int a3)] := hl
  unfold s_X2_init at h
  refine lv_aload_n hx hb dX2_init_0 rfl (lv_at hl 0 rfl) ?_
  refine W.objInit hx hb hown (hts (.methodLink RX2 3 objectInit) m_X2_init_0) (hts (.instanceMethod objectInit) m_X2_init_1) (hts (.code objectInit ⟨#[0xb1]⟩ 1 none) m_X2_init_2) rfl (by rw [hml]; exact hl.1) rfl dX2_init_1 (Nat.le_of_ble_eq_true rfl) (Nat.le_of_ble_eq_true rfl) ?_
  refine W.eq (g2 := F0 m 4 ls []) rfl ?_
  refine lv_aload_n hx hb dX2_init_4 rfl (lv_at hl 0 rfl) ?_
  refine lv_iload_n hx hb dX2_init_5 rfl (lv_at hl 1 rfl) ?_
  refine va_putF (D := (dC, dI)) (ci := 2) (v := .int a1) (ty := .int) (C := RX2) (T := TX2) (N := 3) hx hb hts m_X2_init_3 tyX2 tyX2_ok nmX2 hown hK hP hD hS 0 rfl rfl 0 (by decide) (hts (.fieldLink RX2 9 "SleeperBerths$Offer" "first" "I") m_X2_init_4) (fun _ h9 => h9) rfl hin rfl (by decide +kernel) rfl rfl (Nat.le_of_ble_eq_true rfl) dX2_init_6 (fun H locs hP hD hS => ?_)
  have hP : va_P (dC, dI) vwCl [(h_p0, .inr (2, [.int a1, .int 0, .int 0]))] H := hP
  have hD : va_D A [(h_p0, .inr (2, [.int a1, .int 0, .int 0]))] := hD
  refine lv_aload_n hx hb dX2_init_9 rfl (lv_at hl 0 rfl) ?_
  refine lv_iload_n hx hb dX2_init_10 rfl (lv_at hl 2 rfl) ?_
  refine va_putF (D := (dC, dI)) (ci := 2) (v := .int a2) (ty := .int) (C := RX2) (T := TX2) (N := 3) hx hb hts m_X2_init_3 tyX2 tyX2_ok nmX2 hown hK hP hD hS 0 rfl rfl 1 (by decide) (hts (.fieldLink RX2 15 "SleeperBerths$Offer" "last" "I") m_X2_init_5) (fun _ h9 => h9) rfl hin rfl (by decide +kernel) rfl rfl (Nat.le_of_ble_eq_true rfl) dX2_init_11 (fun H locs hP hD hS => ?_)
  have hP : va_P (dC, dI) vwCl [(h_p0, .inr (2, [.int a1, .int a2, .int 0]))] H := hP
  have hD : va_D A [(h_p0, .inr (2, [.int a1, .int a2, .int 0]))] := hD
  refine lv_aload_n hx hb dX2_init_14 rfl (lv_at hl 0 rfl) ?_
  refine lv_iload_n hx hb dX2_init_15 rfl (lv_at hl 3 rfl) ?_
  refine va_putF (D := (dC, dI)) (ci := 2) (v := .int a3) (ty := .int) (C := RX2) (T := TX2) (N := 3) hx hb hts m_X2_init_3 tyX2 tyX2_ok nmX2 hown hK hP hD hS 0 rfl rfl 2 (by decide) (hts (.fieldLink RX2 18 "SleeperBerths$Offer" "changeAt" "I") m_X2_init_6) (fun _ h9 => h9) rfl hin rfl (by decide +kernel) rfl rfl (Nat.le_of_ble_eq_true rfl) dX2_init_16 (fun H locs hP hD hS => ?_)
  have hP : va_P (dC, dI) vwCl [(h_p0, .inr (2, [.int a1, .int a2, .int a3]))] H := hP
  have hD : va_D A [(h_p0, .inr (2, [.int a1, .int a2, .int a3]))] := hD
  obtain rfl := Option.some.inj h
  exact W.vret hx hb hr (fun t ht hW => ⟨⟨(), rfl, trivial, WLD.of ht hP hD⟩, hS.F ht⟩) hS.2.2 dX2_init_19
def s_X6_read (vl_0 : Nat) (arr_0 : Nat → Int32) (a1 : Int32) : Option (Int32) := (if a1 < 0 then (some (iI (-1))) else (if (nI vl_0) ≤ a1 then (some (iI (-1))) else (if gd a1 vl_0 = true then (some ((arr_0 a1.toNatClampNeg))) else none)))
set_option maxHeartbeats 4000000 in
set_option maxRecDepth 100000 in
theorem c_X6_read (l : Launch) (dC : Nat → ClassId) (dI : Nat → Nat → Nat) (cyI cyJ cyT : ClassId) (h_p0 : Nat) (sz : Nat) (vl_0 : Nat) (arr_0 : Nat → Int32) (a1 : Int32) (o : Int32) (h : s_X6_read vl_0 arr_0 a1 = some o) : Met l yX6_read wsX6_read ({ frames := 0, cells := 0, slots := 0, locals := 0 }) (va_Pc [.ref h_p0, .int a1] (PRE (dC, dI) (TYS cyI cyJ cyT) sz [(h_p0, .inl (cyI, vl_0, .inl arr_0))])) (va_Qi (S := Unit) (fun r _ => r = o) (fun _ t => WLD (dC, dI) (va_A [(h_p0, .inl (cyI, vl_0, .inl arr_0))] sz) [(h_p0, .inl (cyI, vl_0, .inl arr_0))] t) (va_A [(h_p0, .inl (cyI, vl_0, .inl arr_0))] sz)) 0 0 (va_A [(h_p0, .inl (cyI, vl_0, .inl arr_0))] sz) := by
  refine Met.ofW (cc := cX6_read) (maxL := 2) (ret := (some .int)) (by decide) rfl ?_
  intro p e s m args below meth c s₁ B hml hv
  obtain ⟨rfl, hsz, hP, hK, hD0, hNW⟩ := hv
  have hx := B.exec
  have hb := B.bytes
  have hr := B.returns
  have hts := atoms_spec (ws := wsX6_read) B.pre
  have hown : s.vm.findClass RX6 = some m.cls := findClass_of_methodNamed B.named
  have hlocks := B.notSynchronized
  subst hsz
  have hD := hD0.self (sz := s.heap.size)
  generalize hAe : va_A [(h_p0, .inl (cyI, vl_0, .inl arr_0))] s.heap.size = A at hD ⊢
  have hA : ∀ q : Nat, s.heap.size ≤ q → A q := fun q h => by rw [← hAe]; exact Or.inr h
  have hS : va_S A s.heap s.heap [] := va_S.rf
  have hP : va_P (dC, dI) vwCl [(h_p0, .inl (cyI, vl_0, .inl arr_0))] s.heap := hP
  have hl := lv_entry ([.ref h_p0, .int a1]) (n := 2) (Nat.le_of_ble_eq_true rfl)
  rw [lg_entry_eq]
  generalize (lg_sl ([.ref h_p0, .int a1]) ++ List.replicate (2 - (lg_sl ([.ref h_p0, .int a1])).length) Slot.unset).toArray = ls at hl ⊢
  have hl : lv_has ls 2 [(0, .ref h_p0), (1, .int a1)] := hl
  unfold s_X6_read at h
  refine lv_iload_n hx hb dX6_read_0 rfl (lv_at hl 1 rfl) ?_
  refine lv_if_lt (tgt := 16) hx hb dX6_read_1 (by decide) (fun c1 => ?_) (fun c1 => ?_)
  · have h := ipos c1 h
    refine lv_iconst (v := iI (-1)) hx hb dX6_read_16 rfl ?_
    obtain rfl := Option.some.inj h
    exact W.iret (v := iI (-1)) hx hb hr (fun t ht hW => ⟨⟨iI (-1), (), rfl, rfl, WLD.of ht hP hD⟩, hS.F ht⟩) hS.2.2 dX6_read_17
  · have h := ineg c1 h
    refine lv_iload_n hx hb dX6_read_4 rfl (lv_at hl 1 rfl) ?_
    refine lv_aload_n hx hb dX6_read_5 rfl (lv_at hl 0 rfl) ?_
    refine va_alen (D := (dC, dI)) (v := (nI vl_0)) hx hb hK hP 0 0 rfl rfl rfl dX6_read_6 ?_
    refine lv_icmp_ge (tgt := 16) hx hb dX6_read_7 (by decide) (fun c2 => ?_) (fun c2 => ?_)
    · have h := ipos c2 h
      refine lv_iconst (v := iI (-1)) hx hb dX6_read_16 rfl ?_
      obtain rfl := Option.some.inj h
      exact W.iret (v := iI (-1)) hx hb hr (fun t ht hW => ⟨⟨iI (-1), (), rfl, rfl, WLD.of ht hP hD⟩, hS.F ht⟩) hS.2.2 dX6_read_17
    · have h := ineg c2 h
      refine lv_aload_n hx hb dX6_read_10 rfl (lv_at hl 0 rfl) ?_
      refine lv_iload_n hx hb dX6_read_11 rfl (lv_at hl 1 rfl) ?_
      obtain ⟨g3, h⟩ := gsome h
      refine va_iald (D := (dC, dI)) hx hb hK hP 0 0 rfl rfl g3 dX6_read_12 ?_
      refine lv_goto (tgt := 17) hx hb dX6_read_13 (by decide) ?_
      obtain rfl := Option.some.inj h
      exact W.iret (v := (arr_0 a1.toNatClampNeg)) hx hb hr (fun t ht hW => ⟨⟨(arr_0 a1.toNatClampNeg), (), rfl, rfl, WLD.of ht hP hD⟩, hS.F ht⟩) hS.2.2 dX6_read_17
def s_X5_isNight (v_settings : Nat → Int32) (a1 : Int32) : Option (Int32) := ((s_X6_read 3 v_settings (iI 0)).bind fun r1 => (if a1 < r1 then (some (iI 0)) else ((s_X6_read 3 v_settings (iI 1)).bind fun r5 => (if r5 < a1 then (some (iI 0)) else (some (iI 1))))))
set_option maxRecDepth 20000 in
theorem m_X5_isNight_0 : ∀ w ∈ u_ws RX5 TX5 6, w ∈ wsX5_isNight := by decide +kernel
set_option maxRecDepth 20000 in
theorem m_X5_isNight_1 : (.fieldLink RX5 25 "SleeperBerths$Train" "settings" "[I" : Cond) ∈ wsX5_isNight := by decide +kernel
set_option maxRecDepth 20000 in
theorem m_X5_isNight_2 : (.initialized RX6 : Cond) ∈ wsX5_isNight := by decide +kernel
set_option maxRecDepth 20000 in
theorem m_X5_isNight_3 : (.static yX6_read : Cond) ∈ wsX5_isNight := by decide +kernel
set_option maxHeartbeats 4000000 in
set_option maxRecDepth 100000 in
theorem c_X5_isNight (l : Launch) (dC : Nat → ClassId) (dI : Nat → Nat → Nat) (cyI cyJ cyT : ClassId) (h_p0 : Nat) (h_p0_berths : Nat) (h_p0_roster : Nat) (h_p0_settings : Nat) (sz : Nat) (v_nextNumber : Int32) (v_bookings : Int32) (v_leftOut : Int32) (v_settings : Nat → Int32) (a1 : Int32) (o : Int32) (h : s_X5_isNight v_settings a1 = some o) : Met l yX5_isNight wsX5_isNight ({ frames := 1, cells := 0, slots := 0, locals := 21 }) (va_Pc [.ref h_p0, .int a1] (PRE (dC, dI) (TYS cyI cyJ cyT) sz [(h_p0, .inr (5, [.ref h_p0_berths, .ref h_p0_roster, .ref h_p0_settings, .int v_nextNumber, .int v_bookings, .int v_leftOut])), (h_p0_settings, .inl (cyI, 3, .inl v_settings))])) (va_Qi (S := Unit) (fun r _ => r = o) (fun _ t => WLD (dC, dI) (va_A [(h_p0, .inr (5, [.ref h_p0_berths, .ref h_p0_roster, .ref h_p0_settings, .int v_nextNumber, .int v_bookings, .int v_leftOut])), (h_p0_settings, .inl (cyI, 3, .inl v_settings))] sz) [(h_p0, .inr (5, [.ref h_p0_berths, .ref h_p0_roster, .ref h_p0_settings, .int v_nextNumber, .int v_bookings, .int v_leftOut])), (h_p0_settings, .inl (cyI, 3, .inl v_settings))] t) (va_A [(h_p0, .inr (5, [.ref h_p0_berths, .ref h_p0_roster, .ref h_p0_settings, .int v_nextNumber, .int v_bookings, .int v_leftOut])), (h_p0_settings, .inl (cyI, 3, .inl v_settings))] sz)) 0 0 (va_A [(h_p0, .inr (5, [.ref h_p0_berths, .ref h_p0_roster, .ref h_p0_settings, .int v_nextNumber, .int v_bookings, .int v_leftOut])), (h_p0_settings, .inl (cyI, 3, .inl v_settings))] sz) := by
  refine Met.ofW (cc := cX5_isNight) (maxL := 2) (ret := (some .boolean)) (by decide) rfl ?_
  intro p e s m args below meth c s₁ B hml hv
  obtain ⟨rfl, hsz, hP, hK, hD0, hNW⟩ := hv
  have hx := B.exec
  have hb := B.bytes
  have hr := B.returns
  have hts := atoms_spec (ws := wsX5_isNight) B.pre
  have hown : s.vm.findClass RX5 = some m.cls := findClass_of_methodNamed B.named
  have hlocks := B.notSynchronized
  subst hsz
  have hD := hD0.self (sz := s.heap.size)
  generalize hAe : va_A [(h_p0, .inr (5, [.ref h_p0_berths, .ref h_p0_roster, .ref h_p0_settings, .int v_nextNumber, .int v_bookings, .int v_leftOut])), (h_p0_settings, .inl (cyI, 3, .inl v_settings))] s.heap.size = A at hD ⊢
  have hA : ∀ q : Nat, s.heap.size ≤ q → A q := fun q h => by rw [← hAe]; exact Or.inr h
  have hS : va_S A s.heap s.heap [] := va_S.rf
  have hP : va_P (dC, dI) vwCl [(h_p0, .inr (5, [.ref h_p0_berths, .ref h_p0_roster, .ref h_p0_settings, .int v_nextNumber, .int v_bookings, .int v_leftOut])), (h_p0_settings, .inl (cyI, 3, .inl v_settings))] s.heap := hP
  have hl := lv_entry ([.ref h_p0, .int a1]) (n := 2) (Nat.le_of_ble_eq_true rfl)
  rw [lg_entry_eq]
  generalize (lg_sl ([.ref h_p0, .int a1]) ++ List.replicate (2 - (lg_sl ([.ref h_p0, .int a1])).length) Slot.unset).toArray = ls at hl ⊢
  have hl : lv_has ls 2 [(0, .ref h_p0), (1, .int a1)] := hl
  unfold s_X5_isNight at h
  refine lv_iload_n hx hb dX5_isNight_0 rfl (lv_at hl 1 rfl) ?_
  refine lv_aload_n hx hb dX5_isNight_1 rfl (lv_at hl 0 rfl) ?_
  refine va_get (D := (dC, dI)) (ci := 5) (v := .ref h_p0_settings) (C := RX5) (T := TX5) (N := 6) hx hb hts m_X5_isNight_0 hown hK hP 0 rfl rfl 2 (by decide) (hts (.fieldLink RX5 25 "SleeperBerths$Train" "settings" "[I") m_X5_isNight_1) (fun _ h9 => h9) rfl dX5_isNight_2 ?_
  refine lv_iconst (v := iI 0) hx hb dX5_isNight_5 rfl ?_
  obtain ⟨r1, e2, h⟩ := bsome h
  have hPc := sb_P [(h_p0_settings, .inl (cyI, 3, .inl v_settings))] hP [1] rfl
  have hDc := sb_D [(h_p0_settings, .inl (cyI, 3, .inl v_settings))] hD [1] (by decide) rfl
  have hFc := va_free (wc := [(h_p0_settings, .inl (cyI, 3, .inl v_settings))]) hD hS hA [1] rfl
  refine va_calli (va_runSN (As := [.ref h_p0_settings, .int (iI 0)]) (rest := [.int a1]) ⟨hx, hb, hml, hown, hts⟩ (c_X6_read l dC dI cyI cyJ cyT h_p0_settings s.heap.size 3 v_settings (iI 0) r1 e2) ⟨va_cnB (host := "SleeperBerths") 2 hts gX5_isNight_X6_read_n50 rfl rfl rfl (hNW.1 5 rfl) (hts (.initialized RX6) m_X5_isNight_2) (by decide +kernel) ⟨Nat.le_of_ble_eq_true rfl, Nat.le_of_ble_eq_true rfl⟩, (hts (.static yX6_read) m_X5_isNight_3), trivial⟩ ⟨PRE.blind, PRE.go hK hPc hDc hNW⟩ rfl rfl hl.1 rfl (lv_room (Nat.le_of_ble_eq_true rfl)) dX5_isNight_6 ⟨Nat.zero_le _, Nat.zero_le _⟩) hS (fun q _ h => hFc q h) hFc (fun z3 u t H locs ht hvm hw hB hz1 hk1 hS => ?_)
  subst z3
  obtain ⟨hP, hD⟩ := va_join (wr := [(h_p0, .inr (5, [.ref h_p0_berths, .ref h_p0_roster, .ref h_p0_settings, .int v_nextNumber, .int v_bookings, .int v_leftOut]))]) (w1 := [(h_p0_settings, .inl (cyI, 3, .inl v_settings))]) hP hD [1] [0] rfl rfl (by decide) (by decide) hk1 hFc (WLD.P hB ht) hB.2
  have hP : va_P (dC, dI) vwCl [(h_p0, .inr (5, [.ref h_p0_berths, .ref h_p0_roster, .ref h_p0_settings, .int v_nextNumber, .int v_bookings, .int v_leftOut])), (h_p0_settings, .inl (cyI, 3, .inl v_settings))] H := hP
  have hD : va_D A [(h_p0, .inr (5, [.ref h_p0_berths, .ref h_p0_roster, .ref h_p0_settings, .int v_nextNumber, .int v_bookings, .int v_leftOut])), (h_p0_settings, .inl (cyI, 3, .inl v_settings))] := hD
  refine lv_icmp_lt (tgt := 28) hx hb dX5_isNight_9 (by decide) (fun c4 => ?_) (fun c4 => ?_)
  · have h := ipos c4 h
    refine lv_iconst (v := iI 0) hx hb dX5_isNight_28 rfl ?_
    obtain rfl := Option.some.inj h
    exact W.zret (v := iI 0) hx hb hr (by decide) (fun t ht hW => ⟨⟨iI 0, (), rfl, rfl, WLD.of ht hP hD⟩, hS.F ht⟩) hS.2.2 dX5_isNight_29
  · have h := ineg c4 h
    refine lv_iload_n hx hb dX5_isNight_12 rfl (lv_at hl 1 rfl) ?_
    refine lv_aload_n hx hb dX5_isNight_13 rfl (lv_at hl 0 rfl) ?_
    refine va_get (D := (dC, dI)) (ci := 5) (v := .ref h_p0_settings) (C := RX5) (T := TX5) (N := 6) hx hb hts m_X5_isNight_0 hown hK hP 0 rfl rfl 2 (by decide) (hts (.fieldLink RX5 25 "SleeperBerths$Train" "settings" "[I") m_X5_isNight_1) (fun _ h9 => h9) rfl dX5_isNight_14 ?_
    refine lv_iconst (v := iI 1) hx hb dX5_isNight_17 rfl ?_
    obtain ⟨r5, e6, h⟩ := bsome h
    have hPc := sb_P [(h_p0_settings, .inl (cyI, 3, .inl v_settings))] hP [1] rfl
    have hDc := sb_D [(h_p0_settings, .inl (cyI, 3, .inl v_settings))] hD [1] (by decide) rfl
    have hFc := va_free (wc := [(h_p0_settings, .inl (cyI, 3, .inl v_settings))]) hD hS hA [1] rfl
    refine va_calli (va_runSN (As := [.ref h_p0_settings, .int (iI 1)]) (rest := [.int a1]) ⟨hx, hb, hml, hown, hts⟩ (c_X6_read l dC dI cyI cyJ cyT h_p0_settings H.size 3 v_settings (iI 1) r5 e6) ⟨va_cnB (host := "SleeperBerths") 2 hts gX5_isNight_X6_read_n50 rfl rfl rfl (hNW.1 5 rfl) (hts (.initialized RX6) m_X5_isNight_2) (by decide +kernel) ⟨Nat.le_of_ble_eq_true rfl, Nat.le_of_ble_eq_true rfl⟩, (hts (.static yX6_read) m_X5_isNight_3), trivial⟩ ⟨PRE.blind, PRE.go hK hPc hDc hNW⟩ rfl rfl hl.1 rfl (lv_room (Nat.le_of_ble_eq_true rfl)) dX5_isNight_18 ⟨Nat.zero_le _, Nat.zero_le _⟩) hS (fun q _ h => hFc q h) hFc (fun z7 u t H locs ht hvm hw hB hz1 hk1 hS => ?_)
    subst z7
    obtain ⟨hP, hD⟩ := va_join (wr := [(h_p0, .inr (5, [.ref h_p0_berths, .ref h_p0_roster, .ref h_p0_settings, .int v_nextNumber, .int v_bookings, .int v_leftOut]))]) (w1 := [(h_p0_settings, .inl (cyI, 3, .inl v_settings))]) hP hD [1] [0] rfl rfl (by decide) (by decide) hk1 hFc (WLD.P hB ht) hB.2
    have hP : va_P (dC, dI) vwCl [(h_p0, .inr (5, [.ref h_p0_berths, .ref h_p0_roster, .ref h_p0_settings, .int v_nextNumber, .int v_bookings, .int v_leftOut])), (h_p0_settings, .inl (cyI, 3, .inl v_settings))] H := hP
    have hD : va_D A [(h_p0, .inr (5, [.ref h_p0_berths, .ref h_p0_roster, .ref h_p0_settings, .int v_nextNumber, .int v_bookings, .int v_leftOut])), (h_p0_settings, .inl (cyI, 3, .inl v_settings))] := hD
    refine lv_icmp_gt (tgt := 28) hx hb dX5_isNight_21 (by decide) (fun c8 => ?_) (fun c8 => ?_)
    · have h := ipos c8 h
      refine lv_iconst (v := iI 0) hx hb dX5_isNight_28 rfl ?_
      obtain rfl := Option.some.inj h
      exact W.zret (v := iI 0) hx hb hr (by decide) (fun t ht hW => ⟨⟨iI 0, (), rfl, rfl, WLD.of ht hP hD⟩, hS.F ht⟩) hS.2.2 dX5_isNight_29
    · have h := ineg c8 h
      refine lv_iconst (v := iI 1) hx hb dX5_isNight_24 rfl ?_
      refine lv_goto (tgt := 29) hx hb dX5_isNight_25 (by decide) ?_
      obtain rfl := Option.some.inj h
      exact W.zret (v := iI 1) hx hb hr (by decide) (fun t ht hW => ⟨⟨iI 1, (), rfl, rfl, WLD.of ht hP hD⟩, hS.F ht⟩) hS.2.2 dX5_isNight_29
