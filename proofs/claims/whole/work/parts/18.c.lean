def s_X3_put (v_cells : Nat → Int32) (a1 : Int32) (a2 : Int32) (a3 : Int32) : Option ((Nat → Int32)) := ((s_X6_write 280 v_cells ((a1 * iI 7) + a2) a3).bind fun r1 => (some (r1)))
set_option maxRecDepth 20000 in
theorem m_X3_put_0 : ∀ w ∈ u_ws RX3 TX3 2, w ∈ wsX3_put := by decide +kernel
set_option maxRecDepth 20000 in
theorem m_X3_put_1 : (.fieldLink RX3 9 "SleeperBerths$Roster" "cells" "[I" : Cond) ∈ wsX3_put := by decide +kernel
set_option maxRecDepth 20000 in
theorem m_X3_put_2 : (.initialized RX6 : Cond) ∈ wsX3_put := by decide +kernel
set_option maxRecDepth 20000 in
theorem m_X3_put_3 : (.static yX6_write : Cond) ∈ wsX3_put := by decide +kernel
set_option maxHeartbeats 4000000 in
set_option maxRecDepth 100000 in
theorem c_X3_put (l : Launch) (dC : Nat → ClassId) (dI : Nat → Nat → Nat) (cyI cyJ cyT : ClassId) (h_p0 : Nat) (h_p0_cells : Nat) (sz : Nat) (v_size : Int32) (v_cells : Nat → Int32) (a1 : Int32) (a2 : Int32) (a3 : Int32) (o : (Nat → Int32)) (h : s_X3_put v_cells a1 a2 a3 = some o) : Met l yX3_put wsX3_put ({ frames := 1, cells := 0, slots := 0, locals := 22 }) (va_Pc [.ref h_p0, .int a1, .int a2, .int a3] (PRE (dC, dI) (TYS cyI cyJ cyT) sz [(h_p0, .inr (3, [.ref h_p0_cells, .int v_size])), (h_p0_cells, .inl (cyI, 280, .inl v_cells))])) (va_Qv (S := Unit) (fun _ => True) (fun _ t => WLD (dC, dI) (va_A [(h_p0, .inr (3, [.ref h_p0_cells, .int v_size])), (h_p0_cells, .inl (cyI, 280, .inl v_cells))] sz) [(h_p0, .inr (3, [.ref h_p0_cells, .int v_size])), (h_p0_cells, .inl (cyI, 280, .inl o))] t) (va_A [(h_p0, .inr (3, [.ref h_p0_cells, .int v_size])), (h_p0_cells, .inl (cyI, 280, .inl v_cells))] sz)) 0 0 (va_A [(h_p0, .inr (3, [.ref h_p0_cells, .int v_size])), (h_p0_cells, .inl (cyI, 280, .inl v_cells))] sz) := by
  refine Met.ofW (cc := cX3_put) (maxL := 4) (ret := none) (by decide) rfl ?_
  intro p e s m args below meth c s₁ B hml hv
  obtain ⟨rfl, hsz, hP, hK, hD0, hNW⟩ := hv
  have hx := B.exec
  have hb := B.bytes
  have hr := B.returns
  have hts := atoms_spec (ws := wsX3_put) B.pre
  have hown : s.vm.findClass RX3 = some m.cls := findClass_of_methodNamed B.named
  have hlocks := B.notSynchronized
  subst hsz
  have hD := hD0.self (sz := s.heap.size)
  generalize hAe : va_A [(h_p0, .inr (3, [.ref h_p0_cells, .int v_size])), (h_p0_cells, .inl (cyI, 280, .inl v_cells))] s.heap.size = A at hD ⊢
  have hA : ∀ q : Nat, s.heap.size ≤ q → A q := fun q h => by rw [← hAe]; exact Or.inr h
  have hS : va_S A s.heap s.heap [] := va_S.rf
  have hP : va_P (dC, dI) vwCl [(h_p0, .inr (3, [.ref h_p0_cells, .int v_size])), (h_p0_cells, .inl (cyI, 280, .inl v_cells))] s.heap := hP
  have hl := lv_entry ([.ref h_p0, .int a1, .int a2, .int a3]) (n := 4) (Nat.le_of_ble_eq_true rfl)
  rw [lg_entry_eq]
  generalize (lg_sl ([.ref h_p0, .int a1, .int a2, .int a3]) ++ List.replicate (4 - (lg_sl ([.ref h_p0, .int a1, .int a2, .int a3])).length) Slot.unset).toArray = ls at hl ⊢
  have hl : lv_has ls 4 [(0, .ref h_p0), (1, .int a1), (2, .int a2), (3, .int a3)] := hl
  unfold s_X3_put at h
  refine lv_aload_n hx hb dX3_put_0 rfl (lv_at hl 0 rfl) ?_
  refine va_get (D := (dC, dI)) (ci := 3) (v := .ref h_p0_cells) (C := RX3) (T := TX3) (N := 2) hx hb hts m_X3_put_0 hown hK hP 0 rfl rfl 0 (by decide) (hts (.fieldLink RX3 9 "SleeperBerths$Roster" "cells" "[I") m_X3_put_1) (fun _ h9 => h9) rfl dX3_put_1 ?_
  refine lv_iload_n hx hb dX3_put_4 rfl (lv_at hl 1 rfl) ?_
  refine lv_bipush (v := iI 7) hx hb dX3_put_5 (by decide) ?_
  refine lv_imul hx hb dX3_put_7 ?_
  refine lv_iload_n hx hb dX3_put_8 rfl (lv_at hl 2 rfl) ?_
  refine lv_iadd hx hb dX3_put_9 ?_
  refine lv_iload_n hx hb dX3_put_10 rfl (lv_at hl 3 rfl) ?_
  obtain ⟨r1, e2, h⟩ := bsome h
  have hPc := sb_P [(h_p0_cells, .inl (cyI, 280, .inl v_cells))] hP [1] rfl
  have hDc := sb_D [(h_p0_cells, .inl (cyI, 280, .inl v_cells))] hD [1] (by decide) rfl
  have hFc := va_free (wc := [(h_p0_cells, .inl (cyI, 280, .inl v_cells))]) hD hS hA [1] rfl
  refine va_callv (va_runSN (As := [.ref h_p0_cells, .int ((a1 * iI 7) + a2), .int a3]) (rest := []) ⟨hx, hb, hml, hown, hts⟩ (c_X6_write l dC dI cyI cyJ cyT h_p0_cells s.heap.size 280 v_cells ((a1 * iI 7) + a2) a3 r1 e2) ⟨va_cnB (host := "SleeperBerths") 3 hts gX3_put_X6_write_n23 rfl rfl rfl (hNW.1 10 rfl) (hts (.initialized RX6) m_X3_put_2) (by decide +kernel) ⟨Nat.le_of_ble_eq_true rfl, Nat.le_of_ble_eq_true rfl⟩, (hts (.static yX6_write) m_X3_put_3), trivial⟩ ⟨PRE.blind, PRE.go hK hPc hDc hNW⟩ rfl rfl hl.1 rfl (lv_room (Nat.le_of_ble_eq_true rfl)) dX3_put_11 ⟨Nat.zero_le _, Nat.zero_le _⟩) hS (fun q _ h => hFc q h) hFc (fun u t H locs ht hvm hw hB hz1 hk1 hS => ?_)
  obtain ⟨hP, hD⟩ := va_join (wr := [(h_p0, .inr (3, [.ref h_p0_cells, .int v_size]))]) (w1 := [(h_p0_cells, .inl (cyI, 280, .inl r1))]) hP hD [1] [0] rfl rfl (by decide) (by decide) hk1 hFc (WLD.P hB ht) hB.2
  have hP : va_P (dC, dI) vwCl [(h_p0, .inr (3, [.ref h_p0_cells, .int v_size])), (h_p0_cells, .inl (cyI, 280, .inl r1))] H := hP
  have hD : va_D A [(h_p0, .inr (3, [.ref h_p0_cells, .int v_size])), (h_p0_cells, .inl (cyI, 280, .inl r1))] := hD
  obtain rfl := Option.some.inj h
  exact W.vret hx hb hr (fun t ht hW => ⟨⟨(), rfl, trivial, WLD.of ht hP hD⟩, hS.F ht⟩) hS.2.2 dX3_put_14
def s_X3_addRow (v_size : Int32) (v_cells : Nat → Int32) (a1 : Int32) (a2 : Int32) (a3 : Int32) (a4 : Int32) : Option (Int32 × Int32 × (Nat → Int32)) := ((s_X3_put v_cells v_size (iI 0) a1).bind fun r1 => ((s_X3_put r1 v_size (iI 1) a2).bind fun r4 => ((s_X3_put r4 v_size (iI 2) a3).bind fun r7 => (if a4 = 0 then ((s_X3_put r7 v_size (iI 3) (iI 0)).bind fun r11 => (some (v_size, (v_size + iI 1), r11))) else ((s_X3_put r7 v_size (iI 3) (iI 1)).bind fun r14 => (some (v_size, (v_size + iI 1), r14)))))))
set_option maxRecDepth 20000 in
theorem m_X3_addRow_0 : ∀ w ∈ u_ws RX3 TX3 2, w ∈ wsX3_addRow := by decide +kernel
set_option maxRecDepth 20000 in
theorem m_X3_addRow_1 : (.fieldLink RX3 19 "SleeperBerths$Roster" "size" "I" : Cond) ∈ wsX3_addRow := by decide +kernel
set_option maxHeartbeats 4000000 in
set_option maxRecDepth 100000 in
theorem c_X3_addRow (l : Launch) (dC : Nat → ClassId) (dI : Nat → Nat → Nat) (cyI cyJ cyT : ClassId) (h_p0 : Nat) (h_p0_cells : Nat) (sz : Nat) (v_size : Int32) (v_cells : Nat → Int32) (a1 : Int32) (a2 : Int32) (a3 : Int32) (a4 : Int32) (o : Int32 × Int32 × (Nat → Int32)) (h : s_X3_addRow v_size v_cells a1 a2 a3 a4 = some o) : Met l yX3_addRow wsX3_addRow ({ frames := 2, cells := 0, slots := 0, locals := 45 }) (va_Pc [.ref h_p0, .int a1, .int a2, .int a3, .int a4] (PRE (dC, dI) (TYS cyI cyJ cyT) sz [(h_p0, .inr (3, [.ref h_p0_cells, .int v_size])), (h_p0_cells, .inl (cyI, 280, .inl v_cells))])) (va_Qi (S := Unit) (fun r _ => r = o.1) (fun _ t => WLD (dC, dI) (va_A [(h_p0, .inr (3, [.ref h_p0_cells, .int v_size])), (h_p0_cells, .inl (cyI, 280, .inl v_cells))] sz) [(h_p0, .inr (3, [.ref h_p0_cells, .int o.2.1])), (h_p0_cells, .inl (cyI, 280, .inl o.2.2))] t) (va_A [(h_p0, .inr (3, [.ref h_p0_cells, .int v_size])), (h_p0_cells, .inl (cyI, 280, .inl v_cells))] sz)) 0 0 (va_A [(h_p0, .inr (3, [.ref h_p0_cells, .int v_size])), (h_p0_cells, .inl (cyI, 280, .inl v_cells))] sz) := by
  refine Met.ofW (cc := cX3_addRow) (maxL := 6) (ret := (some .int)) (by decide) rfl ?_
  intro p e s m args below meth c s₁ B hml hv
  obtain ⟨rfl, hsz, hP, hK, hD0, hNW⟩ := hv
  have hx := B.exec
  have hb := B.bytes
  have hr := B.returns
  have hts := atoms_spec (ws := wsX3_addRow) B.pre
  have hown : s.vm.findClass RX3 = some m.cls := findClass_of_methodNamed B.named
  have hlocks := B.notSynchronized
  subst hsz
  have hD := hD0.self (sz := s.heap.size)
  generalize hAe : va_A [(h_p0, .inr (3, [.ref h_p0_cells, .int v_size])), (h_p0_cells, .inl (cyI, 280, .inl v_cells))] s.heap.size = A at hD ⊢
  have hA : ∀ q : Nat, s.heap.size ≤ q → A q := fun q h => by rw [← hAe]; exact Or.inr h
  have hS : va_S A s.heap s.heap [] := va_S.rf
  have hP : va_P (dC, dI) vwCl [(h_p0, .inr (3, [.ref h_p0_cells, .int v_size])), (h_p0_cells, .inl (cyI, 280, .inl v_cells))] s.heap := hP
  have hl := lv_entry ([.ref h_p0, .int a1, .int a2, .int a3, .int a4]) (n := 6) (Nat.le_of_ble_eq_true rfl)
  rw [lg_entry_eq]
  generalize (lg_sl ([.ref h_p0, .int a1, .int a2, .int a3, .int a4]) ++ List.replicate (6 - (lg_sl ([.ref h_p0, .int a1, .int a2, .int a3, .int a4])).length) Slot.unset).toArray = ls at hl ⊢
  have hl : lv_has ls 6 [(0, .ref h_p0), (1, .int a1), (2, .int a2), (3, .int a3), (4, .int a4)] := hl
  unfold s_X3_addRow at h
  refine lv_aload_n hx hb dX3_addRow_0 rfl (lv_at hl 0 rfl) ?_
  refine va_get (D := (dC, dI)) (ci := 3) (v := .int v_size) (C := RX3) (T := TX3) (N := 2) hx hb hts m_X3_addRow_0 hown hK hP 0 rfl rfl 1 (by decide) (hts (.fieldLink RX3 19 "SleeperBerths$Roster" "size" "I") m_X3_addRow_1) (fun _ h9 => h9) rfl dX3_addRow_1 ?_
  refine lv_istore hx hb dX3_addRow_4 hl (by decide) (rfl : _ = ([(5, .int v_size), (0, .ref h_p0), (1, .int a1), (2, .int a2), (3, .int a3), (4, .int a4)] : List (Nat × Value))) (fun ls hl => ?_)
  refine lv_aload_n hx hb dX3_addRow_6 rfl (lv_at hl 1 rfl) ?_
  refine lv_iload hx hb dX3_addRow_7 (lv_at hl 0 rfl) ?_
  refine lv_iconst (v := iI 0) hx hb dX3_addRow_9 rfl ?_
  refine lv_iload_n hx hb dX3_addRow_10 rfl (lv_at hl 2 rfl) ?_
  obtain ⟨r1, e2, h⟩ := bsome h
  have hPc := sb_P [(h_p0, .inr (3, [.ref h_p0_cells, .int v_size])), (h_p0_cells, .inl (cyI, 280, .inl v_cells))] hP [0, 1] rfl
  have hDc := sb_D [(h_p0, .inr (3, [.ref h_p0_cells, .int v_size])), (h_p0_cells, .inl (cyI, 280, .inl v_cells))] hD [0, 1] (by decide) rfl
  have hFc := va_free (wc := [(h_p0, .inr (3, [.ref h_p0_cells, .int v_size])), (h_p0_cells, .inl (cyI, 280, .inl v_cells))]) hD hS hA [0, 1] rfl
  refine va_callv (va_runV (As := [.int v_size, .int (iI 0), .int a1]) (rest := []) ⟨hx, hb, hml, hown, hts⟩ (c_X3_put l dC dI cyI cyJ cyT h_p0 h_p0_cells s.heap.size v_size v_cells v_size (iI 0) a1 r1 e2) (cwV 3 hts gX3_addRow_X3_put rfl rfl rfl (by decide +kernel) ⟨Nat.le_of_ble_eq_true rfl, Nat.le_of_ble_eq_true rfl⟩) ⟨PRE.blind, va_recv hK hPc (ci := 3) (q0 := 0) rfl rfl, PRE.go hK hPc hDc hNW⟩ rfl rfl hl.1 rfl (lv_room (Nat.le_of_ble_eq_true rfl)) dX3_addRow_11 ⟨Nat.zero_le _, Nat.zero_le _⟩) hS (fun q _ h => hFc q h) hFc (fun u t H locs ht hvm hw hB hz1 hk1 hS => ?_)
  obtain ⟨hP, hD⟩ := va_join (wr := []) (w1 := [(h_p0, .inr (3, [.ref h_p0_cells, .int v_size])), (h_p0_cells, .inl (cyI, 280, .inl r1))]) hP hD [0, 1] [] rfl rfl (by decide) (by decide) hk1 hFc (WLD.P hB ht) hB.2
  have hP : va_P (dC, dI) vwCl [(h_p0, .inr (3, [.ref h_p0_cells, .int v_size])), (h_p0_cells, .inl (cyI, 280, .inl r1))] H := hP
  have hD : va_D A [(h_p0, .inr (3, [.ref h_p0_cells, .int v_size])), (h_p0_cells, .inl (cyI, 280, .inl r1))] := hD
  refine lv_aload_n hx hb dX3_addRow_14 rfl (lv_at hl 1 rfl) ?_
  refine lv_iload hx hb dX3_addRow_15 (lv_at hl 0 rfl) ?_
  refine lv_iconst (v := iI 1) hx hb dX3_addRow_17 rfl ?_
  refine lv_iload_n hx hb dX3_addRow_18 rfl (lv_at hl 3 rfl) ?_
  obtain ⟨r4, e5, h⟩ := bsome h
  have hPc := sb_P [(h_p0, .inr (3, [.ref h_p0_cells, .int v_size])), (h_p0_cells, .inl (cyI, 280, .inl r1))] hP [0, 1] rfl
  have hDc := sb_D [(h_p0, .inr (3, [.ref h_p0_cells, .int v_size])), (h_p0_cells, .inl (cyI, 280, .inl r1))] hD [0, 1] (by decide) rfl
  have hFc := va_free (wc := [(h_p0, .inr (3, [.ref h_p0_cells, .int v_size])), (h_p0_cells, .inl (cyI, 280, .inl r1))]) hD hS hA [0, 1] rfl
  refine va_callv (va_runV (As := [.int v_size, .int (iI 1), .int a2]) (rest := []) ⟨hx, hb, hml, hown, hts⟩ (c_X3_put l dC dI cyI cyJ cyT h_p0 h_p0_cells H.size v_size r1 v_size (iI 1) a2 r4 e5) (cwV 3 hts gX3_addRow_X3_put rfl rfl rfl (by decide +kernel) ⟨Nat.le_of_ble_eq_true rfl, Nat.le_of_ble_eq_true rfl⟩) ⟨PRE.blind, va_recv hK hPc (ci := 3) (q0 := 0) rfl rfl, PRE.go hK hPc hDc hNW⟩ rfl rfl hl.1 rfl (lv_room (Nat.le_of_ble_eq_true rfl)) dX3_addRow_19 ⟨Nat.zero_le _, Nat.zero_le _⟩) hS (fun q _ h => hFc q h) hFc (fun u t H locs ht hvm hw hB hz1 hk1 hS => ?_)
  obtain ⟨hP, hD⟩ := va_join (wr := []) (w1 := [(h_p0, .inr (3, [.ref h_p0_cells, .int v_size])), (h_p0_cells, .inl (cyI, 280, .inl r4))]) hP hD [0, 1] [] rfl rfl (by decide) (by decide) hk1 hFc (WLD.P hB ht) hB.2
  have hP : va_P (dC, dI) vwCl [(h_p0, .inr (3, [.ref h_p0_cells, .int v_size])), (h_p0_cells, .inl (cyI, 280, .inl r4))] H := hP
  have hD : va_D A [(h_p0, .inr (3, [.ref h_p0_cells, .int v_size])), (h_p0_cells, .inl (cyI, 280, .inl r4))] := hD
  refine lv_aload_n hx hb dX3_addRow_22 rfl (lv_at hl 1 rfl) ?_
  refine lv_iload hx hb dX3_addRow_23 (lv_at hl 0 rfl) ?_
  refine lv_iconst (v := iI 2) hx hb dX3_addRow_25 rfl ?_
  refine lv_iload_n hx hb dX3_addRow_26 rfl (lv_at hl 4 rfl) ?_
  obtain ⟨r7, e8, h⟩ := bsome h
  have hPc := sb_P [(h_p0, .inr (3, [.ref h_p0_cells, .int v_size])), (h_p0_cells, .inl (cyI, 280, .inl r4))] hP [0, 1] rfl
  have hDc := sb_D [(h_p0, .inr (3, [.ref h_p0_cells, .int v_size])), (h_p0_cells, .inl (cyI, 280, .inl r4))] hD [0, 1] (by decide) rfl
  have hFc := va_free (wc := [(h_p0, .inr (3, [.ref h_p0_cells, .int v_size])), (h_p0_cells, .inl (cyI, 280, .inl r4))]) hD hS hA [0, 1] rfl
  refine va_callv (va_runV (As := [.int v_size, .int (iI 2), .int a3]) (rest := []) ⟨hx, hb, hml, hown, hts⟩ (c_X3_put l dC dI cyI cyJ cyT h_p0 h_p0_cells H.size v_size r4 v_size (iI 2) a3 r7 e8) (cwV 3 hts gX3_addRow_X3_put rfl rfl rfl (by decide +kernel) ⟨Nat.le_of_ble_eq_true rfl, Nat.le_of_ble_eq_true rfl⟩) ⟨PRE.blind, va_recv hK hPc (ci := 3) (q0 := 0) rfl rfl, PRE.go hK hPc hDc hNW⟩ rfl rfl hl.1 rfl (lv_room (Nat.le_of_ble_eq_true rfl)) dX3_addRow_27 ⟨Nat.zero_le _, Nat.zero_le _⟩) hS (fun q _ h => hFc q h) hFc (fun u t H locs ht hvm hw hB hz1 hk1 hS => ?_)
  obtain ⟨hP, hD⟩ := va_join (wr := []) (w1 := [(h_p0, .inr (3, [.ref h_p0_cells, .int v_size])), (h_p0_cells, .inl (cyI, 280, .inl r7))]) hP hD [0, 1] [] rfl rfl (by decide) (by decide) hk1 hFc (WLD.P hB ht) hB.2
  have hP : va_P (dC, dI) vwCl [(h_p0, .inr (3, [.ref h_p0_cells, .int v_size])), (h_p0_cells, .inl (cyI, 280, .inl r7))] H := hP
  have hD : va_D A [(h_p0, .inr (3, [.ref h_p0_cells, .int v_size])), (h_p0_cells, .inl (cyI, 280, .inl r7))] := hD
  refine lv_aload_n hx hb dX3_addRow_30 rfl (lv_at hl 1 rfl) ?_
  refine lv_iload hx hb dX3_addRow_31 (lv_at hl 0 rfl) ?_
  refine lv_iconst (v := iI 3) hx hb dX3_addRow_33 rfl ?_
  refine lv_iload hx hb dX3_addRow_34 (lv_at hl 5 rfl) ?_
  refine lv_if_eq (tgt := 43) hx hb dX3_addRow_36 (by decide) (fun c10 => ?_) (fun c10 => ?_)
  · have h := ipos c10 h
    refine lv_iconst (v := iI 0) hx hb dX3_addRow_43 rfl ?_
    obtain ⟨r11, e12, h⟩ := bsome h
    have hPc := sb_P [(h_p0, .inr (3, [.ref h_p0_cells, .int v_size])), (h_p0_cells, .inl (cyI, 280, .inl r7))] hP [0, 1] rfl
    have hDc := sb_D [(h_p0, .inr (3, [.ref h_p0_cells, .int v_size])), (h_p0_cells, .inl (cyI, 280, .inl r7))] hD [0, 1] (by decide) rfl
    have hFc := va_free (wc := [(h_p0, .inr (3, [.ref h_p0_cells, .int v_size])), (h_p0_cells, .inl (cyI, 280, .inl r7))]) hD hS hA [0, 1] rfl
    refine va_callv (va_runV (As := [.int v_size, .int (iI 3), .int (iI 0)]) (rest := []) ⟨hx, hb, hml, hown, hts⟩ (c_X3_put l dC dI cyI cyJ cyT h_p0 h_p0_cells H.size v_size r7 v_size (iI 3) (iI 0) r11 e12) (cwV 3 hts gX3_addRow_X3_put rfl rfl rfl (by decide +kernel) ⟨Nat.le_of_ble_eq_true rfl, Nat.le_of_ble_eq_true rfl⟩) ⟨PRE.blind, va_recv hK hPc (ci := 3) (q0 := 0) rfl rfl, PRE.go hK hPc hDc hNW⟩ rfl rfl hl.1 rfl (lv_room (Nat.le_of_ble_eq_true rfl)) dX3_addRow_44 ⟨Nat.zero_le _, Nat.zero_le _⟩) hS (fun q _ h => hFc q h) hFc (fun u t H locs ht hvm hw hB hz1 hk1 hS => ?_)
    obtain ⟨hP, hD⟩ := va_join (wr := []) (w1 := [(h_p0, .inr (3, [.ref h_p0_cells, .int v_size])), (h_p0_cells, .inl (cyI, 280, .inl r11))]) hP hD [0, 1] [] rfl rfl (by decide) (by decide) hk1 hFc (WLD.P hB ht) hB.2
    have hP : va_P (dC, dI) vwCl [(h_p0, .inr (3, [.ref h_p0_cells, .int v_size])), (h_p0_cells, .inl (cyI, 280, .inl r11))] H := hP
    have hD : va_D A [(h_p0, .inr (3, [.ref h_p0_cells, .int v_size])), (h_p0_cells, .inl (cyI, 280, .inl r11))] := hD
    refine lv_aload_n hx hb dX3_addRow_47 rfl (lv_at hl 1 rfl) ?_
    refine lv_dup hx hb dX3_addRow_48 rfl ?_
    refine va_get (D := (dC, dI)) (ci := 3) (v := .int v_size) (C := RX3) (T := TX3) (N := 2) hx hb hts m_X3_addRow_0 hown hK hP 0 rfl rfl 1 (by decide) (hts (.fieldLink RX3 19 "SleeperBerths$Roster" "size" "I") m_X3_addRow_1) (fun _ h9 => h9) rfl dX3_addRow_49 ?_
    refine lv_iconst (v := iI 1) hx hb dX3_addRow_52 rfl ?_
    refine lv_iadd hx hb dX3_addRow_53 ?_
    refine va_put (D := (dC, dI)) (ci := 3) (v := .int (v_size + iI 1)) (ty := .int) (C := RX3) (T := TX3) (N := 2) hx hb hts m_X3_addRow_0 tyX3 tyX3_ok nmX3 hown hK hP hD hS 0 rfl rfl 1 (by decide) (hts (.fieldLink RX3 19 "SleeperBerths$Roster" "size" "I") m_X3_addRow_1) (fun _ h9 => h9) rfl (by decide +kernel) rfl rfl (Nat.le_of_ble_eq_true rfl) dX3_addRow_54 (fun H locs hP hD hS => ?_)
    have hP : va_P (dC, dI) vwCl [(h_p0, .inr (3, [.ref h_p0_cells, .int (v_size + iI 1)])), (h_p0_cells, .inl (cyI, 280, .inl r11))] H := hP
    have hD : va_D A [(h_p0, .inr (3, [.ref h_p0_cells, .int (v_size + iI 1)])), (h_p0_cells, .inl (cyI, 280, .inl r11))] := hD
    refine lv_iload hx hb dX3_addRow_57 (lv_at hl 0 rfl) ?_
    obtain rfl := Option.some.inj h
    exact W.iret (v := v_size) hx hb hr (fun t ht hW => ⟨⟨v_size, (), rfl, rfl, WLD.of ht hP hD⟩, hS.F ht⟩) hS.2.2 dX3_addRow_59
  · have h := ineg c10 h
    refine lv_iconst (v := iI 1) hx hb dX3_addRow_39 rfl ?_
    refine lv_goto (tgt := 44) hx hb dX3_addRow_40 (by decide) ?_
    obtain ⟨r14, e15, h⟩ := bsome h
    have hPc := sb_P [(h_p0, .inr (3, [.ref h_p0_cells, .int v_size])), (h_p0_cells, .inl (cyI, 280, .inl r7))] hP [0, 1] rfl
    have hDc := sb_D [(h_p0, .inr (3, [.ref h_p0_cells, .int v_size])), (h_p0_cells, .inl (cyI, 280, .inl r7))] hD [0, 1] (by decide) rfl
    have hFc := va_free (wc := [(h_p0, .inr (3, [.ref h_p0_cells, .int v_size])), (h_p0_cells, .inl (cyI, 280, .inl r7))]) hD hS hA [0, 1] rfl
    refine va_callv (va_runV (As := [.int v_size, .int (iI 3), .int (iI 1)]) (rest := []) ⟨hx, hb, hml, hown, hts⟩ (c_X3_put l dC dI cyI cyJ cyT h_p0 h_p0_cells H.size v_size r7 v_size (iI 3) (iI 1) r14 e15) (cwV 3 hts gX3_addRow_X3_put rfl rfl rfl (by decide +kernel) ⟨Nat.le_of_ble_eq_true rfl, Nat.le_of_ble_eq_true rfl⟩) ⟨PRE.blind, va_recv hK hPc (ci := 3) (q0 := 0) rfl rfl, PRE.go hK hPc hDc hNW⟩ rfl rfl hl.1 rfl (lv_room (Nat.le_of_ble_eq_true rfl)) dX3_addRow_44 ⟨Nat.zero_le _, Nat.zero_le _⟩) hS (fun q _ h => hFc q h) hFc (fun u t H locs ht hvm hw hB hz1 hk1 hS => ?_)
    obtain ⟨hP, hD⟩ := va_join (wr := []) (w1 := [(h_p0, .inr (3, [.ref h_p0_cells, .int v_size])), (h_p0_cells, .inl (cyI, 280, .inl r14))]) hP hD [0, 1] [] rfl rfl (by decide) (by decide) hk1 hFc (WLD.P hB ht) hB.2
    have hP : va_P (dC, dI) vwCl [(h_p0, .inr (3, [.ref h_p0_cells, .int v_size])), (h_p0_cells, .inl (cyI, 280, .inl r14))] H := hP
    have hD : va_D A [(h_p0, .inr (3, [.ref h_p0_cells, .int v_size])), (h_p0_cells, .inl (cyI, 280, .inl r14))] := hD
    refine lv_aload_n hx hb dX3_addRow_47 rfl (lv_at hl 1 rfl) ?_
    refine lv_dup hx hb dX3_addRow_48 rfl ?_
    refine va_get (D := (dC, dI)) (ci := 3) (v := .int v_size) (C := RX3) (T := TX3) (N := 2) hx hb hts m_X3_addRow_0 hown hK hP 0 rfl rfl 1 (by decide) (hts (.fieldLink RX3 19 "SleeperBerths$Roster" "size" "I") m_X3_addRow_1) (fun _ h9 => h9) rfl dX3_addRow_49 ?_
    refine lv_iconst (v := iI 1) hx hb dX3_addRow_52 rfl ?_
    refine lv_iadd hx hb dX3_addRow_53 ?_
    refine va_put (D := (dC, dI)) (ci := 3) (v := .int (v_size + iI 1)) (ty := .int) (C := RX3) (T := TX3) (N := 2) hx hb hts m_X3_addRow_0 tyX3 tyX3_ok nmX3 hown hK hP hD hS 0 rfl rfl 1 (by decide) (hts (.fieldLink RX3 19 "SleeperBerths$Roster" "size" "I") m_X3_addRow_1) (fun _ h9 => h9) rfl (by decide +kernel) rfl rfl (Nat.le_of_ble_eq_true rfl) dX3_addRow_54 (fun H locs hP hD hS => ?_)
    have hP : va_P (dC, dI) vwCl [(h_p0, .inr (3, [.ref h_p0_cells, .int (v_size + iI 1)])), (h_p0_cells, .inl (cyI, 280, .inl r14))] H := hP
    have hD : va_D A [(h_p0, .inr (3, [.ref h_p0_cells, .int (v_size + iI 1)])), (h_p0_cells, .inl (cyI, 280, .inl r14))] := hD
    refine lv_iload hx hb dX3_addRow_57 (lv_at hl 0 rfl) ?_
    obtain rfl := Option.some.inj h
    exact W.iret (v := v_size) hx hb hr (fun t ht hW => ⟨⟨v_size, (), rfl, rfl, WLD.of ht hP hD⟩, hS.F ht⟩) hS.2.2 dX3_addRow_59
def s_X3_putBerths (v_cells : Nat → Int32) (v_first_2 : Int32) (v_last_2 : Int32) (v_changeAt_2 : Int32) (a1 : Int32) : Option ((Nat → Int32)) := ((s_X3_put v_cells a1 (iI 4) v_first_2).bind fun r1 => ((s_X3_put r1 a1 (iI 5) v_last_2).bind fun r4 => ((s_X3_put r4 a1 (iI 6) v_changeAt_2).bind fun r7 => (some (r7)))))
set_option maxRecDepth 20000 in
theorem m_X3_putBerths_0 : ∀ w ∈ u_ws RX2 TX2 3, w ∈ wsX3_putBerths := by decide +kernel
set_option maxRecDepth 20000 in
theorem m_X3_putBerths_1 : (.fieldLink RX3 35 "SleeperBerths$Offer" "first" "I" : Cond) ∈ wsX3_putBerths := by decide +kernel
set_option maxRecDepth 20000 in
theorem m_X3_putBerths_2 : (.fieldLink RX3 40 "SleeperBerths$Offer" "last" "I" : Cond) ∈ wsX3_putBerths := by decide +kernel
set_option maxRecDepth 20000 in
theorem m_X3_putBerths_3 : (.fieldLink RX3 43 "SleeperBerths$Offer" "changeAt" "I" : Cond) ∈ wsX3_putBerths := by decide +kernel
set_option maxHeartbeats 4000000 in
set_option maxRecDepth 100000 in
theorem c_X3_putBerths (l : Launch) (dC : Nat → ClassId) (dI : Nat → Nat → Nat) (cyI cyJ cyT : ClassId) (h_p0 : Nat) (h_p0_cells : Nat) (h_p2 : Nat) (sz : Nat) (v_size : Int32) (v_cells : Nat → Int32) (v_first_2 : Int32) (v_last_2 : Int32) (v_changeAt_2 : Int32) (a1 : Int32) (o : (Nat → Int32)) (h : s_X3_putBerths v_cells v_first_2 v_last_2 v_changeAt_2 a1 = some o) : Met l yX3_putBerths wsX3_putBerths ({ frames := 2, cells := 0, slots := 0, locals := 45 }) (va_Pc [.ref h_p0, .int a1, .ref h_p2] (PRE (dC, dI) (TYS cyI cyJ cyT) sz [(h_p0, .inr (3, [.ref h_p0_cells, .int v_size])), (h_p0_cells, .inl (cyI, 280, .inl v_cells)), (h_p2, .inr (2, [.int v_first_2, .int v_last_2, .int v_changeAt_2]))])) (va_Qv (S := Unit) (fun _ => True) (fun _ t => WLD (dC, dI) (va_A [(h_p0, .inr (3, [.ref h_p0_cells, .int v_size])), (h_p0_cells, .inl (cyI, 280, .inl v_cells)), (h_p2, .inr (2, [.int v_first_2, .int v_last_2, .int v_changeAt_2]))] sz) [(h_p0, .inr (3, [.ref h_p0_cells, .int v_size])), (h_p0_cells, .inl (cyI, 280, .inl o)), (h_p2, .inr (2, [.int v_first_2, .int v_last_2, .int v_changeAt_2]))] t) (va_A [(h_p0, .inr (3, [.ref h_p0_cells, .int v_size])), (h_p0_cells, .inl (cyI, 280, .inl v_cells)), (h_p2, .inr (2, [.int v_first_2, .int v_last_2, .int v_changeAt_2]))] sz)) 0 0 (va_A [(h_p0, .inr (3, [.ref h_p0_cells, .int v_size])), (h_p0_cells, .inl (cyI, 280, .inl v_cells)), (h_p2, .inr (2, [.int v_first_2, .int v_last_2, .int v_changeAt_2]))] sz) := by
  refine Met.ofW (cc := cX3_putBerths) (maxL := 3) (ret := none) (by decide) rfl ?_
  intro p e s m args below meth c s₁ B hml hv
  obtain ⟨rfl, hsz, hP, hK, hD0, hNW⟩ := hv
  have hx := B.exec
  have hb := B.bytes
  have hr := B.returns
  have hts := atoms_spec (ws := wsX3_putBerths) B.pre
  have hown : s.vm.findClass RX3 = some m.cls := findClass_of_methodNamed B.named
  have hlocks := B.notSynchronized
  subst hsz
  have hD := hD0.self (sz := s.heap.size)
  generalize hAe : va_A [(h_p0, .inr (3, [.ref h_p0_cells, .int v_size])), (h_p0_cells, .inl (cyI, 280, .inl v_cells)), (h_p2, .inr (2, [.int v_first_2, .int v_last_2, .int v_changeAt_2]))] s.heap.size = A at hD ⊢
  have hA : ∀ q : Nat, s.heap.size ≤ q → A q := fun q h => by rw [← hAe]; exact Or.inr h
  have hS : va_S A s.heap s.heap [] := va_S.rf
  have hP : va_P (dC, dI) vwCl [(h_p0, .inr (3, [.ref h_p0_cells, .int v_size])), (h_p0_cells, .inl (cyI, 280, .inl v_cells)), (h_p2, .inr (2, [.int v_first_2, .int v_last_2, .int v_changeAt_2]))] s.heap := hP
  have hl := lv_entry ([.ref h_p0, .int a1, .ref h_p2]) (n := 3) (Nat.le_of_ble_eq_true rfl)
  rw [lg_entry_eq]
  generalize (lg_sl ([.ref h_p0, .int a1, .ref h_p2]) ++ List.replicate (3 - (lg_sl ([.ref h_p0, .int a1, .ref h_p2])).length) Slot.unset).toArray = ls at hl ⊢
  have hl : lv_has ls 3 [(0, .ref h_p0), (1, .int a1), (2, .ref h_p2)] := hl
  unfold s_X3_putBerths at h
  refine lv_aload_n hx hb dX3_putBerths_0 rfl (lv_at hl 0 rfl) ?_
  refine lv_iload_n hx hb dX3_putBerths_1 rfl (lv_at hl 1 rfl) ?_
  refine lv_iconst (v := iI 4) hx hb dX3_putBerths_2 rfl ?_
  refine lv_aload_n hx hb dX3_putBerths_3 rfl (lv_at hl 2 rfl) ?_
  refine va_get (D := (dC, dI)) (ci := 2) (v := .int v_first_2) (C := RX2) (T := TX2) (N := 3) hx hb hts m_X3_putBerths_0 hown hK hP 2 rfl rfl 0 (by decide) (hts (.fieldLink RX3 35 "SleeperBerths$Offer" "first" "I") m_X3_putBerths_1) (fun _ h9 => h9) rfl dX3_putBerths_4 ?_
  obtain ⟨r1, e2, h⟩ := bsome h
  have hPc := sb_P [(h_p0, .inr (3, [.ref h_p0_cells, .int v_size])), (h_p0_cells, .inl (cyI, 280, .inl v_cells))] hP [0, 1] rfl
  have hDc := sb_D [(h_p0, .inr (3, [.ref h_p0_cells, .int v_size])), (h_p0_cells, .inl (cyI, 280, .inl v_cells))] hD [0, 1] (by decide) rfl
  have hFc := va_free (wc := [(h_p0, .inr (3, [.ref h_p0_cells, .int v_size])), (h_p0_cells, .inl (cyI, 280, .inl v_cells))]) hD hS hA [0, 1] rfl
  refine va_callv (va_runV (As := [.int a1, .int (iI 4), .int v_first_2]) (rest := []) ⟨hx, hb, hml, hown, hts⟩ (c_X3_put l dC dI cyI cyJ cyT h_p0 h_p0_cells s.heap.size v_size v_cells a1 (iI 4) v_first_2 r1 e2) (cwV 3 hts gX3_putBerths_X3_put rfl rfl rfl (by decide +kernel) ⟨Nat.le_of_ble_eq_true rfl, Nat.le_of_ble_eq_true rfl⟩) ⟨PRE.blind, va_recv hK hPc (ci := 3) (q0 := 0) rfl rfl, PRE.go hK hPc hDc hNW⟩ rfl rfl hl.1 rfl (lv_room (Nat.le_of_ble_eq_true rfl)) dX3_putBerths_7 ⟨Nat.zero_le _, Nat.zero_le _⟩) hS (fun q _ h => hFc q h) hFc (fun u t H locs ht hvm hw hB hz1 hk1 hS => ?_)
  obtain ⟨hP, hD⟩ := va_join (wr := [(h_p2, .inr (2, [.int v_first_2, .int v_last_2, .int v_changeAt_2]))]) (w1 := [(h_p0, .inr (3, [.ref h_p0_cells, .int v_size])), (h_p0_cells, .inl (cyI, 280, .inl r1))]) hP hD [0, 1] [2] rfl rfl (by decide) (by decide) hk1 hFc (WLD.P hB ht) hB.2
  have hP : va_P (dC, dI) vwCl [(h_p2, .inr (2, [.int v_first_2, .int v_last_2, .int v_changeAt_2])), (h_p0, .inr (3, [.ref h_p0_cells, .int v_size])), (h_p0_cells, .inl (cyI, 280, .inl r1))] H := hP
  have hD : va_D A [(h_p2, .inr (2, [.int v_first_2, .int v_last_2, .int v_changeAt_2])), (h_p0, .inr (3, [.ref h_p0_cells, .int v_size])), (h_p0_cells, .inl (cyI, 280, .inl r1))] := hD
  refine lv_aload_n hx hb dX3_putBerths_10 rfl (lv_at hl 0 rfl) ?_
  refine lv_iload_n hx hb dX3_putBerths_11 rfl (lv_at hl 1 rfl) ?_
  refine lv_iconst (v := iI 5) hx hb dX3_putBerths_12 rfl ?_
  refine lv_aload_n hx hb dX3_putBerths_13 rfl (lv_at hl 2 rfl) ?_
  refine va_get (D := (dC, dI)) (ci := 2) (v := .int v_last_2) (C := RX2) (T := TX2) (N := 3) hx hb hts m_X3_putBerths_0 hown hK hP 0 rfl rfl 1 (by decide) (hts (.fieldLink RX3 40 "SleeperBerths$Offer" "last" "I") m_X3_putBerths_2) (fun _ h9 => h9) rfl dX3_putBerths_14 ?_
  obtain ⟨r4, e5, h⟩ := bsome h
  have hPc := sb_P [(h_p0, .inr (3, [.ref h_p0_cells, .int v_size])), (h_p0_cells, .inl (cyI, 280, .inl r1))] hP [1, 2] rfl
  have hDc := sb_D [(h_p0, .inr (3, [.ref h_p0_cells, .int v_size])), (h_p0_cells, .inl (cyI, 280, .inl r1))] hD [1, 2] (by decide) rfl
  have hFc := va_free (wc := [(h_p0, .inr (3, [.ref h_p0_cells, .int v_size])), (h_p0_cells, .inl (cyI, 280, .inl r1))]) hD hS hA [1, 2] rfl
  refine va_callv (va_runV (As := [.int a1, .int (iI 5), .int v_last_2]) (rest := []) ⟨hx, hb, hml, hown, hts⟩ (c_X3_put l dC dI cyI cyJ cyT h_p0 h_p0_cells H.size v_size r1 a1 (iI 5) v_last_2 r4 e5) (cwV 3 hts gX3_putBerths_X3_put rfl rfl rfl (by decide +kernel) ⟨Nat.le_of_ble_eq_true rfl, Nat.le_of_ble_eq_true rfl⟩) ⟨PRE.blind, va_recv hK hPc (ci := 3) (q0 := 0) rfl rfl, PRE.go hK hPc hDc hNW⟩ rfl rfl hl.1 rfl (lv_room (Nat.le_of_ble_eq_true rfl)) dX3_putBerths_17 ⟨Nat.zero_le _, Nat.zero_le _⟩) hS (fun q _ h => hFc q h) hFc (fun u t H locs ht hvm hw hB hz1 hk1 hS => ?_)
  obtain ⟨hP, hD⟩ := va_join (wr := [(h_p2, .inr (2, [.int v_first_2, .int v_last_2, .int v_changeAt_2]))]) (w1 := [(h_p0, .inr (3, [.ref h_p0_cells, .int v_size])), (h_p0_cells, .inl (cyI, 280, .inl r4))]) hP hD [1, 2] [0] rfl rfl (by decide) (by decide) hk1 hFc (WLD.P hB ht) hB.2
  have hP : va_P (dC, dI) vwCl [(h_p2, .inr (2, [.int v_first_2, .int v_last_2, .int v_changeAt_2])), (h_p0, .inr (3, [.ref h_p0_cells, .int v_size])), (h_p0_cells, .inl (cyI, 280, .inl r4))] H := hP
  have hD : va_D A [(h_p2, .inr (2, [.int v_first_2, .int v_last_2, .int v_changeAt_2])), (h_p0, .inr (3, [.ref h_p0_cells, .int v_size])), (h_p0_cells, .inl (cyI, 280, .inl r4))] := hD
  refine lv_aload_n hx hb dX3_putBerths_20 rfl (lv_at hl 0 rfl) ?_
  refine lv_iload_n hx hb dX3_putBerths_21 rfl (lv_at hl 1 rfl) ?_
  refine lv_bipush (v := iI 6) hx hb dX3_putBerths_22 (by decide) ?_
  refine lv_aload_n hx hb dX3_putBerths_24 rfl (lv_at hl 2 rfl) ?_
  refine va_get (D := (dC, dI)) (ci := 2) (v := .int v_changeAt_2) (C := RX2) (T := TX2) (N := 3) hx hb hts m_X3_putBerths_0 hown hK hP 0 rfl rfl 2 (by decide) (hts (.fieldLink RX3 43 "SleeperBerths$Offer" "changeAt" "I") m_X3_putBerths_3) (fun _ h9 => h9) rfl dX3_putBerths_25 ?_
  obtain ⟨r7, e8, h⟩ := bsome h
  have hPc := sb_P [(h_p0, .inr (3, [.ref h_p0_cells, .int v_size])), (h_p0_cells, .inl (cyI, 280, .inl r4))] hP [1, 2] rfl
  have hDc := sb_D [(h_p0, .inr (3, [.ref h_p0_cells, .int v_size])), (h_p0_cells, .inl (cyI, 280, .inl r4))] hD [1, 2] (by decide) rfl
  have hFc := va_free (wc := [(h_p0, .inr (3, [.ref h_p0_cells, .int v_size])), (h_p0_cells, .inl (cyI, 280, .inl r4))]) hD hS hA [1, 2] rfl
  refine va_callv (va_runV (As := [.int a1, .int (iI 6), .int v_changeAt_2]) (rest := []) ⟨hx, hb, hml, hown, hts⟩ (c_X3_put l dC dI cyI cyJ cyT h_p0 h_p0_cells H.size v_size r4 a1 (iI 6) v_changeAt_2 r7 e8) (cwV 3 hts gX3_putBerths_X3_put rfl rfl rfl (by decide +kernel) ⟨Nat.le_of_ble_eq_true rfl, Nat.le_of_ble_eq_true rfl⟩) ⟨PRE.blind, va_recv hK hPc (ci := 3) (q0 := 0) rfl rfl, PRE.go hK hPc hDc hNW⟩ rfl rfl hl.1 rfl (lv_room (Nat.le_of_ble_eq_true rfl)) dX3_putBerths_28 ⟨Nat.zero_le _, Nat.zero_le _⟩) hS (fun q _ h => hFc q h) hFc (fun u t H locs ht hvm hw hB hz1 hk1 hS => ?_)
  obtain ⟨hP, hD⟩ := va_join (wr := [(h_p2, .inr (2, [.int v_first_2, .int v_last_2, .int v_changeAt_2]))]) (w1 := [(h_p0, .inr (3, [.ref h_p0_cells, .int v_size])), (h_p0_cells, .inl (cyI, 280, .inl r7))]) hP hD [1, 2] [0] rfl rfl (by decide) (by decide) hk1 hFc (WLD.P hB ht) hB.2
  have hP : va_P (dC, dI) vwCl [(h_p2, .inr (2, [.int v_first_2, .int v_last_2, .int v_changeAt_2])), (h_p0, .inr (3, [.ref h_p0_cells, .int v_size])), (h_p0_cells, .inl (cyI, 280, .inl r7))] H := hP
  have hD : va_D A [(h_p2, .inr (2, [.int v_first_2, .int v_last_2, .int v_changeAt_2])), (h_p0, .inr (3, [.ref h_p0_cells, .int v_size])), (h_p0_cells, .inl (cyI, 280, .inl r7))] := hD
  obtain rfl := Option.some.inj h
  exact W.vret hx hb hr (fun t ht hW => ⟨⟨(), rfl, trivial, WLD.of ht (sb_P [(h_p0, .inr (3, [.ref h_p0_cells, .int v_size])), (h_p0_cells, .inl (cyI, 280, .inl r7)), (h_p2, .inr (2, [.int v_first_2, .int v_last_2, .int v_changeAt_2]))] hP [1, 2, 0] rfl) (sb_D [(h_p0, .inr (3, [.ref h_p0_cells, .int v_size])), (h_p0_cells, .inl (cyI, 280, .inl r7)), (h_p2, .inr (2, [.int v_first_2, .int v_last_2, .int v_changeAt_2]))] hD [1, 2, 0] (by decide) rfl)⟩, hS.F ht⟩) hS.2.2 dX3_putBerths_31
def s_X3_at (v_cells : Nat → Int32) (a1 : Int32) (a2 : Int32) : Option (Int32) := (if ((a1 * iI 7) + a2) < 0 then (some (iI (-1))) else (if iI 280 ≤ ((a1 * iI 7) + a2) then (some (iI (-1))) else (if gd ((a1 * iI 7) + a2) 280 = true then (some ((v_cells ((a1 * iI 7) + a2).toNatClampNeg))) else none)))
set_option maxRecDepth 20000 in
theorem m_X3_at_0 : ∀ w ∈ u_ws RX3 TX3 2, w ∈ wsX3_at := by decide +kernel
set_option maxRecDepth 20000 in
theorem m_X3_at_1 : (.fieldLink RX3 9 "SleeperBerths$Roster" "cells" "[I" : Cond) ∈ wsX3_at := by decide +kernel
set_option maxHeartbeats 4000000 in
set_option maxRecDepth 100000 in
theorem c_X3_at (l : Launch) (dC : Nat → ClassId) (dI : Nat → Nat → Nat) (cyI cyJ cyT : ClassId) (h_p0 : Nat) (h_p0_cells : Nat) (sz : Nat) (v_size : Int32) (v_cells : Nat → Int32) (a1 : Int32) (a2 : Int32) (o : Int32) (h : s_X3_at v_cells a1 a2 = some o) : Met l yX3_at wsX3_at ({ frames := 0, cells := 0, slots := 0, locals := 0 }) (va_Pc [.ref h_p0, .int a1, .int a2] (PRE (dC, dI) (TYS cyI cyJ cyT) sz [(h_p0, .inr (3, [.ref h_p0_cells, .int v_size])), (h_p0_cells, .inl (cyI, 280, .inl v_cells))])) (va_Qi (S := Unit) (fun r _ => r = o) (fun _ t => WLD (dC, dI) (va_A [(h_p0, .inr (3, [.ref h_p0_cells, .int v_size])), (h_p0_cells, .inl (cyI, 280, .inl v_cells))] sz) [(h_p0, .inr (3, [.ref h_p0_cells, .int v_size])), (h_p0_cells, .inl (cyI, 280, .inl v_cells))] t) (va_A [(h_p0, .inr (3, [.ref h_p0_cells, .int v_size])), (h_p0_cells, .inl (cyI, 280, .inl v_cells))] sz)) 0 0 (va_A [(h_p0, .inr (3, [.ref h_p0_cells, .int v_size])), (h_p0_cells, .inl (cyI, 280, .inl v_cells))] sz) := by
  refine Met.ofW (cc := cX3_at) (maxL := 4) (ret := (some .int)) (by decide) rfl ?_
  intro p e s m args below meth c s₁ B hml hv
  obtain ⟨rfl, hsz, hP, hK, hD0, hNW⟩ := hv
  have hx := B.exec
  have hb := B.bytes
  have hr := B.returns
  have hts := atoms_spec (ws := wsX3_at) B.pre
  have hown : s.vm.findClass RX3 = some m.cls := findClass_of_methodNamed B.named
  have hlocks := B.notSynchronized
  subst hsz
  have hD := hD0.self (sz := s.heap.size)
  generalize hAe : va_A [(h_p0, .inr (3, [.ref h_p0_cells, .int v_size])), (h_p0_cells, .inl (cyI, 280, .inl v_cells))] s.heap.size = A at hD ⊢
  have hA : ∀ q : Nat, s.heap.size ≤ q → A q := fun q h => by rw [← hAe]; exact Or.inr h
  have hS : va_S A s.heap s.heap [] := va_S.rf
  have hP : va_P (dC, dI) vwCl [(h_p0, .inr (3, [.ref h_p0_cells, .int v_size])), (h_p0_cells, .inl (cyI, 280, .inl v_cells))] s.heap := hP
  have hl := lv_entry ([.ref h_p0, .int a1, .int a2]) (n := 4) (Nat.le_of_ble_eq_true rfl)
  rw [lg_entry_eq]
  generalize (lg_sl ([.ref h_p0, .int a1, .int a2]) ++ List.replicate (4 - (lg_sl ([.ref h_p0, .int a1, .int a2])).length) Slot.unset).toArray = ls at hl ⊢
  have hl : lv_has ls 4 [(0, .ref h_p0), (1, .int a1), (2, .int a2)] := hl
  unfold s_X3_at at h
  refine lv_iload_n hx hb dX3_at_0 rfl (lv_at hl 1 rfl) ?_
  refine lv_bipush (v := iI 7) hx hb dX3_at_1 (by decide) ?_
  refine lv_imul hx hb dX3_at_3 ?_
  refine lv_iload_n hx hb dX3_at_4 rfl (lv_at hl 2 rfl) ?_
  refine lv_iadd hx hb dX3_at_5 ?_
  refine lv_istore_n hx hb dX3_at_6 rfl hl (by decide) (rfl : _ = ([(3, .int ((a1 * iI 7) + a2)), (0, .ref h_p0), (1, .int a1), (2, .int a2)] : List (Nat × Value))) (fun ls hl => ?_)
  refine lv_iload_n hx hb dX3_at_7 rfl (lv_at hl 0 rfl) ?_
  refine lv_if_lt (tgt := 29) hx hb dX3_at_8 (by decide) (fun c1 => ?_) (fun c1 => ?_)
  · have h := ipos c1 h
    refine lv_iconst (v := iI (-1)) hx hb dX3_at_29 rfl ?_
    obtain rfl := Option.some.inj h
    exact W.iret (v := iI (-1)) hx hb hr (fun t ht hW => ⟨⟨iI (-1), (), rfl, rfl, WLD.of ht hP hD⟩, hS.F ht⟩) hS.2.2 dX3_at_30
  · have h := ineg c1 h
    refine lv_iload_n hx hb dX3_at_11 rfl (lv_at hl 0 rfl) ?_
    refine lv_aload_n hx hb dX3_at_12 rfl (lv_at hl 1 rfl) ?_
    refine va_get (D := (dC, dI)) (ci := 3) (v := .ref h_p0_cells) (C := RX3) (T := TX3) (N := 2) hx hb hts m_X3_at_0 hown hK hP 0 rfl rfl 0 (by decide) (hts (.fieldLink RX3 9 "SleeperBerths$Roster" "cells" "[I") m_X3_at_1) (fun _ h9 => h9) rfl dX3_at_13 ?_
    refine va_alen (D := (dC, dI)) (v := iI 280) hx hb hK hP 1 0 rfl rfl (show Int32.ofNat 280 = iI 280 by decide) dX3_at_16 ?_
    refine lv_icmp_ge (tgt := 29) hx hb dX3_at_17 (by decide) (fun c2 => ?_) (fun c2 => ?_)
    · have h := ipos c2 h
      refine lv_iconst (v := iI (-1)) hx hb dX3_at_29 rfl ?_
      obtain rfl := Option.some.inj h
      exact W.iret (v := iI (-1)) hx hb hr (fun t ht hW => ⟨⟨iI (-1), (), rfl, rfl, WLD.of ht hP hD⟩, hS.F ht⟩) hS.2.2 dX3_at_30
    · have h := ineg c2 h
      refine lv_aload_n hx hb dX3_at_20 rfl (lv_at hl 1 rfl) ?_
      refine va_get (D := (dC, dI)) (ci := 3) (v := .ref h_p0_cells) (C := RX3) (T := TX3) (N := 2) hx hb hts m_X3_at_0 hown hK hP 0 rfl rfl 0 (by decide) (hts (.fieldLink RX3 9 "SleeperBerths$Roster" "cells" "[I") m_X3_at_1) (fun _ h9 => h9) rfl dX3_at_21 ?_
      refine lv_iload_n hx hb dX3_at_24 rfl (lv_at hl 0 rfl) ?_
      obtain ⟨g3, h⟩ := gsome h
      refine va_iald (D := (dC, dI)) hx hb hK hP 1 0 rfl rfl g3 dX3_at_25 ?_
      refine lv_goto (tgt := 30) hx hb dX3_at_26 (by decide) ?_
      obtain rfl := Option.some.inj h
      exact W.iret (v := (v_cells ((a1 * iI 7) + a2).toNatClampNeg)) hx hb hr (fun t ht hW => ⟨⟨(v_cells ((a1 * iI 7) + a2).toNatClampNeg), (), rfl, rfl, WLD.of ht hP hD⟩, hS.F ht⟩) hS.2.2 dX3_at_30
def s_X3_middle (v_cells : Nat → Int32) (a1 : Int32) : Option (Int32) := ((s_X3_at v_cells a1 (iI 6)).bind fun r1 => (if r1 = iI (-1) then ((s_X3_at v_cells a1 (iI 2)).bind fun r5 => (some (r5))) else (some (r1))))
set_option maxHeartbeats 4000000 in
set_option maxRecDepth 100000 in
theorem c_X3_middle (l : Launch) (dC : Nat → ClassId) (dI : Nat → Nat → Nat) (cyI cyJ cyT : ClassId) (h_p0 : Nat) (h_p0_cells : Nat) (sz : Nat) (v_size : Int32) (v_cells : Nat → Int32) (a1 : Int32) (o : Int32) (h : s_X3_middle v_cells a1 = some o) : Met l yX3_middle wsX3_middle ({ frames := 1, cells := 0, slots := 0, locals := 23 }) (va_Pc [.ref h_p0, .int a1] (PRE (dC, dI) (TYS cyI cyJ cyT) sz [(h_p0, .inr (3, [.ref h_p0_cells, .int v_size])), (h_p0_cells, .inl (cyI, 280, .inl v_cells))])) (va_Qi (S := Unit) (fun r _ => r = o) (fun _ t => WLD (dC, dI) (va_A [(h_p0, .inr (3, [.ref h_p0_cells, .int v_size])), (h_p0_cells, .inl (cyI, 280, .inl v_cells))] sz) [(h_p0, .inr (3, [.ref h_p0_cells, .int v_size])), (h_p0_cells, .inl (cyI, 280, .inl v_cells))] t) (va_A [(h_p0, .inr (3, [.ref h_p0_cells, .int v_size])), (h_p0_cells, .inl (cyI, 280, .inl v_cells))] sz)) 0 0 (va_A [(h_p0, .inr (3, [.ref h_p0_cells, .int v_size])), (h_p0_cells, .inl (cyI, 280, .inl v_cells))] sz) := by
  refine Met.ofW (cc := cX3_middle) (maxL := 3) (ret := (some .int)) (by decide) rfl ?_
  intro p e s m args below meth c s₁ B hml hv
  obtain ⟨rfl, hsz, hP, hK, hD0, hNW⟩ := hv
  have hx := B.exec
  have hb := B.bytes
  have hr := B.returns
  have hts := atoms_spec (ws := wsX3_middle) B.pre
  have hown : s.vm.findClass RX3 = some m.cls := findClass_of_methodNamed B.named
  have hlocks := B.notSynchronized
  subst hsz
  have hD := hD0.self (sz := s.heap.size)
  generalize hAe : va_A [(h_p0, .inr (3, [.ref h_p0_cells, .int v_size])), (h_p0_cells, .inl (cyI, 280, .inl v_cells))] s.heap.size = A at hD ⊢
  have hA : ∀ q : Nat, s.heap.size ≤ q → A q := fun q h => by rw [← hAe]; exact Or.inr h
  have hS : va_S A s.heap s.heap [] := va_S.rf
  have hP : va_P (dC, dI) vwCl [(h_p0, .inr (3, [.ref h_p0_cells, .int v_size])), (h_p0_cells, .inl (cyI, 280, .inl v_cells))] s.heap := hP
  have hl := lv_entry ([.ref h_p0, .int a1]) (n := 3) (Nat.le_of_ble_eq_true rfl)
  rw [lg_entry_eq]
  generalize (lg_sl ([.ref h_p0, .int a1]) ++ List.replicate (3 - (lg_sl ([.ref h_p0, .int a1])).length) Slot.unset).toArray = ls at hl ⊢
  have hl : lv_has ls 3 [(0, .ref h_p0), (1, .int a1)] := hl
  unfold s_X3_middle at h
  refine lv_aload_n hx hb dX3_middle_0 rfl (lv_at hl 0 rfl) ?_
  refine lv_iload_n hx hb dX3_middle_1 rfl (lv_at hl 1 rfl) ?_
  refine lv_bipush (v := iI 6) hx hb dX3_middle_2 (by decide) ?_
  obtain ⟨r1, e2, h⟩ := bsome h
  have hPc := sb_P [(h_p0, .inr (3, [.ref h_p0_cells, .int v_size])), (h_p0_cells, .inl (cyI, 280, .inl v_cells))] hP [0, 1] rfl
  have hDc := sb_D [(h_p0, .inr (3, [.ref h_p0_cells, .int v_size])), (h_p0_cells, .inl (cyI, 280, .inl v_cells))] hD [0, 1] (by decide) rfl
  have hFc := va_free (wc := [(h_p0, .inr (3, [.ref h_p0_cells, .int v_size])), (h_p0_cells, .inl (cyI, 280, .inl v_cells))]) hD hS hA [0, 1] rfl
  refine va_calli (va_runV (As := [.int a1, .int (iI 6)]) (rest := []) ⟨hx, hb, hml, hown, hts⟩ (c_X3_at l dC dI cyI cyJ cyT h_p0 h_p0_cells s.heap.size v_size v_cells a1 (iI 6) r1 e2) (cwV 2 hts gX3_middle_X3_at rfl rfl rfl (by decide +kernel) ⟨Nat.le_of_ble_eq_true rfl, Nat.le_of_ble_eq_true rfl⟩) ⟨PRE.blind, va_recv hK hPc (ci := 3) (q0 := 0) rfl rfl, PRE.go hK hPc hDc hNW⟩ rfl rfl hl.1 rfl (lv_room (Nat.le_of_ble_eq_true rfl)) dX3_middle_4 ⟨Nat.zero_le _, Nat.zero_le _⟩) hS (fun q _ h => hFc q h) hFc (fun z3 u t H locs ht hvm hw hB hz1 hk1 hS => ?_)
  subst z3
  obtain ⟨hP, hD⟩ := va_join (wr := []) (w1 := [(h_p0, .inr (3, [.ref h_p0_cells, .int v_size])), (h_p0_cells, .inl (cyI, 280, .inl v_cells))]) hP hD [0, 1] [] rfl rfl (by decide) (by decide) hk1 hFc (WLD.P hB ht) hB.2
  have hP : va_P (dC, dI) vwCl [(h_p0, .inr (3, [.ref h_p0_cells, .int v_size])), (h_p0_cells, .inl (cyI, 280, .inl v_cells))] H := hP
  have hD : va_D A [(h_p0, .inr (3, [.ref h_p0_cells, .int v_size])), (h_p0_cells, .inl (cyI, 280, .inl v_cells))] := hD
  refine lv_istore_n hx hb dX3_middle_7 rfl hl (by decide) (rfl : _ = ([(2, .int r1), (0, .ref h_p0), (1, .int a1)] : List (Nat × Value))) (fun ls hl => ?_)
  refine lv_iload_n hx hb dX3_middle_8 rfl (lv_at hl 0 rfl) ?_
  refine lv_iconst (v := iI (-1)) hx hb dX3_middle_9 rfl ?_
  refine lv_icmp_ne (tgt := 22) hx hb dX3_middle_10 (by decide) (fun c4 => ?_) (fun c4 => ?_)
  · have h := ineg c4 h
    refine lv_iload_n hx hb dX3_middle_22 rfl (lv_at hl 0 rfl) ?_
    obtain rfl := Option.some.inj h
    exact W.iret (v := r1) hx hb hr (fun t ht hW => ⟨⟨r1, (), rfl, rfl, WLD.of ht hP hD⟩, hS.F ht⟩) hS.2.2 dX3_middle_23
  · have h := ipos c4 h
    refine lv_aload_n hx hb dX3_middle_13 rfl (lv_at hl 1 rfl) ?_
    refine lv_iload_n hx hb dX3_middle_14 rfl (lv_at hl 2 rfl) ?_
    refine lv_iconst (v := iI 2) hx hb dX3_middle_15 rfl ?_
    obtain ⟨r5, e6, h⟩ := bsome h
    have hPc := sb_P [(h_p0, .inr (3, [.ref h_p0_cells, .int v_size])), (h_p0_cells, .inl (cyI, 280, .inl v_cells))] hP [0, 1] rfl
    have hDc := sb_D [(h_p0, .inr (3, [.ref h_p0_cells, .int v_size])), (h_p0_cells, .inl (cyI, 280, .inl v_cells))] hD [0, 1] (by decide) rfl
    have hFc := va_free (wc := [(h_p0, .inr (3, [.ref h_p0_cells, .int v_size])), (h_p0_cells, .inl (cyI, 280, .inl v_cells))]) hD hS hA [0, 1] rfl
    refine va_calli (va_runV (As := [.int a1, .int (iI 2)]) (rest := []) ⟨hx, hb, hml, hown, hts⟩ (c_X3_at l dC dI cyI cyJ cyT h_p0 h_p0_cells H.size v_size v_cells a1 (iI 2) r5 e6) (cwV 2 hts gX3_middle_X3_at rfl rfl rfl (by decide +kernel) ⟨Nat.le_of_ble_eq_true rfl, Nat.le_of_ble_eq_true rfl⟩) ⟨PRE.blind, va_recv hK hPc (ci := 3) (q0 := 0) rfl rfl, PRE.go hK hPc hDc hNW⟩ rfl rfl hl.1 rfl (lv_room (Nat.le_of_ble_eq_true rfl)) dX3_middle_16 ⟨Nat.zero_le _, Nat.zero_le _⟩) hS (fun q _ h => hFc q h) hFc (fun z7 u t H locs ht hvm hw hB hz1 hk1 hS => ?_)
    subst z7
    obtain ⟨hP, hD⟩ := va_join (wr := []) (w1 := [(h_p0, .inr (3, [.ref h_p0_cells, .int v_size])), (h_p0_cells, .inl (cyI, 280, .inl v_cells))]) hP hD [0, 1] [] rfl rfl (by decide) (by decide) hk1 hFc (WLD.P hB ht) hB.2
    have hP : va_P (dC, dI) vwCl [(h_p0, .inr (3, [.ref h_p0_cells, .int v_size])), (h_p0_cells, .inl (cyI, 280, .inl v_cells))] H := hP
    have hD : va_D A [(h_p0, .inr (3, [.ref h_p0_cells, .int v_size])), (h_p0_cells, .inl (cyI, 280, .inl v_cells))] := hD
    refine lv_goto (tgt := 23) hx hb dX3_middle_19 (by decide) ?_
    obtain rfl := Option.some.inj h
    exact W.iret (v := r5) hx hb hr (fun t ht hW => ⟨⟨r5, (), rfl, rfl, WLD.of ht hP hD⟩, hS.F ht⟩) hS.2.2 dX3_middle_23
def s_X0_give_L3 (n : Nat) (a1 : Int32) (a3 : Int32) (a4 : Int32) : Nat → (Nat → Int32) → Int32 → Option ((Nat → Int32))
  | 0, _, _ => none
  | k + 1, v_holders, x5 => (if a3 ≤ x5 then (some (v_holders)) else ((s_X6_write 162 v_holders ((a1 * iI 9) + x5) a4).bind fun r2 => (s_X0_give_L3 n a1 a3 a4 k r2 (x5 + iI 1))))
def s_X0_give (n : Nat) (v_holders : Nat → Int32) (a1 : Int32) (a2 : Int32) (a3 : Int32) (a4 : Int32) : Option ((Nat → Int32)) := (s_X0_give_L3 n a1 a3 a4 n v_holders a2)
set_option maxRecDepth 20000 in
theorem m_X0_give_0 : ∀ w ∈ u_ws RX0 TX0 2, w ∈ wsX0_give := by decide +kernel
set_option maxRecDepth 20000 in
theorem m_X0_give_1 : (.fieldLink RX0 9 "SleeperBerths$Berths" "holders" "[I" : Cond) ∈ wsX0_give := by decide +kernel
set_option maxRecDepth 20000 in
theorem m_X0_give_2 : (.initialized RX6 : Cond) ∈ wsX0_give := by decide +kernel
set_option maxRecDepth 20000 in
theorem m_X0_give_3 : (.static yX6_write : Cond) ∈ wsX0_give := by decide +kernel
set_option maxHeartbeats 4000000 in
set_option maxRecDepth 100000 in
theorem c_X0_give (l : Launch) (dC : Nat → ClassId) (dI : Nat → Nat → Nat) (cyI cyJ cyT : ClassId) (h_p0 : Nat) (h_p0_holders : Nat) (h_p0_ends : Nat) (sz : Nat) (v_holders : Nat → Int32) (a1 : Int32) (a2 : Int32) (a3 : Int32) (a4 : Int32) (n : Nat) (o : (Nat → Int32)) (h : s_X0_give n v_holders a1 a2 a3 a4 = some o) : Met l yX0_give wsX0_give ({ frames := 1, cells := 0, slots := 0, locals := 22 }) (va_Pc [.ref h_p0, .int a1, .int a2, .int a3, .int a4] (PRE (dC, dI) (TYS cyI cyJ cyT) sz [(h_p0, .inr (0, [.ref h_p0_holders, .ref h_p0_ends])), (h_p0_holders, .inl (cyI, 162, .inl v_holders))])) (va_Qv (S := Unit) (fun _ => True) (fun _ t => WLD (dC, dI) (va_A [(h_p0, .inr (0, [.ref h_p0_holders, .ref h_p0_ends])), (h_p0_holders, .inl (cyI, 162, .inl v_holders))] sz) [(h_p0, .inr (0, [.ref h_p0_holders, .ref h_p0_ends])), (h_p0_holders, .inl (cyI, 162, .inl o))] t) (va_A [(h_p0, .inr (0, [.ref h_p0_holders, .ref h_p0_ends])), (h_p0_holders, .inl (cyI, 162, .inl v_holders))] sz)) 0 0 (va_A [(h_p0, .inr (0, [.ref h_p0_holders, .ref h_p0_ends])), (h_p0_holders, .inl (cyI, 162, .inl v_holders))] sz) := by
  refine Met.ofW (cc := cX0_give) (maxL := 6) (ret := none) (by decide) rfl ?_
  intro p e s m args below meth c s₁ B hml hv
  obtain ⟨rfl, hsz, hP, hK, hD0, hNW⟩ := hv
  have hx := B.exec
  have hb := B.bytes
  have hr := B.returns
  have hts := atoms_spec (ws := wsX0_give) B.pre
  have hown : s.vm.findClass RX0 = some m.cls := findClass_of_methodNamed B.named
  have hlocks := B.notSynchronized
  subst hsz
  have hD := hD0.self (sz := s.heap.size)
  generalize hAe : va_A [(h_p0, .inr (0, [.ref h_p0_holders, .ref h_p0_ends])), (h_p0_holders, .inl (cyI, 162, .inl v_holders))] s.heap.size = A at hD ⊢
  have hA : ∀ q : Nat, s.heap.size ≤ q → A q := fun q h => by rw [← hAe]; exact Or.inr h
  have hS : va_S A s.heap s.heap [] := va_S.rf
  have hP : va_P (dC, dI) vwCl [(h_p0, .inr (0, [.ref h_p0_holders, .ref h_p0_ends])), (h_p0_holders, .inl (cyI, 162, .inl v_holders))] s.heap := hP
  have L3 : ∀ (k : Nat), (∀ (v_holders : Nat → Int32) (x5 : Int32) (H : Heap) (locs : List Loc), va_P (dC, dI) vwCl [(h_p0, .inr (0, [.ref h_p0_holders, .ref h_p0_ends])), (h_p0_holders, .inl (cyI, 162, .inl v_holders))] H → va_D A [(h_p0, .inr (0, [.ref h_p0_holders, .ref h_p0_ends])), (h_p0_holders, .inl (cyI, 162, .inl v_holders))] → va_S A s.heap H locs → ∀ (ls : Array Slot), lv_has ls 6 [(0, .ref h_p0), (1, .int a1), (3, .int a3), (4, .int a4), (5, .int x5)] →  s_X0_give_L3 n a1 a3 a4 k v_holders x5 = some o → W p l e (headSpec wsX0_give ({ frames := 1, cells := 0, slots := 0, locals := 22 })).room s m (([.ref h_p0, .int a1, .int a2, .int a3, .int a4] : List Value).toArray) below meth c H locs 0 0 (MQ below (va_Qv (S := Unit) (fun _ => True) (fun _ t => WLD (dC, dI) A [(h_p0, .inr (0, [.ref h_p0_holders, .ref h_p0_ends])), (h_p0_holders, .inl (cyI, 162, .inl o))] t) A) (([.ref h_p0, .int a1, .int a2, .int a3, .int a4] : List Value).toArray) s 0 0 A) (F0 m 3 ls [])) := by
    intro k
    induction k with
    | zero =>
      intro  v_holders x5 H locs hP hD hS ls hl h
      rw [s_X0_give_L3] at h
      cases h
    | succ k ih =>
      intro  v_holders x5 H locs hP hD hS ls hl h
      rw [s_X0_give_L3] at h
      refine lv_iload hx hb dX0_give_3 (lv_at hl 4 rfl) ?_
      refine lv_iload_n hx hb dX0_give_5 rfl (lv_at hl 2 rfl) ?_
      refine lv_icmp_ge (tgt := 31) hx hb dX0_give_6 (by decide) (fun c1 => ?_) (fun c1 => ?_)
      · have h := ipos c1 h
        obtain rfl := Option.some.inj h
        exact W.vret hx hb hr (fun t ht hW => ⟨⟨(), rfl, trivial, WLD.of ht hP hD⟩, hS.F ht⟩) hS.2.2 dX0_give_31
      · have h := ineg c1 h
        refine lv_aload_n hx hb dX0_give_9 rfl (lv_at hl 0 rfl) ?_
        refine va_get (D := (dC, dI)) (ci := 0) (v := .ref h_p0_holders) (C := RX0) (T := TX0) (N := 2) hx hb hts m_X0_give_0 hown hK hP 0 rfl rfl 0 (by decide) (hts (.fieldLink RX0 9 "SleeperBerths$Berths" "holders" "[I") m_X0_give_1) (fun _ h9 => h9) rfl dX0_give_10 ?_
        refine lv_iload_n hx hb dX0_give_13 rfl (lv_at hl 1 rfl) ?_
        refine lv_bipush (v := iI 9) hx hb dX0_give_14 (by decide) ?_
        refine lv_imul hx hb dX0_give_16 ?_
        refine lv_iload hx hb dX0_give_17 (lv_at hl 4 rfl) ?_
        refine lv_iadd hx hb dX0_give_19 ?_
        refine lv_iload hx hb dX0_give_20 (lv_at hl 3 rfl) ?_
        obtain ⟨r2, e3, h⟩ := bsome h
        have hPc := sb_P [(h_p0_holders, .inl (cyI, 162, .inl v_holders))] hP [1] rfl
        have hDc := sb_D [(h_p0_holders, .inl (cyI, 162, .inl v_holders))] hD [1] (by decide) rfl
        have hFc := va_free (wc := [(h_p0_holders, .inl (cyI, 162, .inl v_holders))]) hD hS hA [1] rfl
        refine va_callv (va_runSN (As := [.ref h_p0_holders, .int ((a1 * iI 9) + x5), .int a4]) (rest := []) ⟨hx, hb, hml, hown, hts⟩ (c_X6_write l dC dI cyI cyJ cyT h_p0_holders H.size 162 v_holders ((a1 * iI 9) + x5) a4 r2 e3) ⟨va_cnB (host := "SleeperBerths") 3 hts gX0_give_X6_write_n26 rfl rfl rfl (hNW.1 11 rfl) (hts (.initialized RX6) m_X0_give_2) (by decide +kernel) ⟨Nat.le_of_ble_eq_true rfl, Nat.le_of_ble_eq_true rfl⟩, (hts (.static yX6_write) m_X0_give_3), trivial⟩ ⟨PRE.blind, PRE.go hK hPc hDc hNW⟩ rfl rfl hl.1 rfl (lv_room (Nat.le_of_ble_eq_true rfl)) dX0_give_22 ⟨Nat.zero_le _, Nat.zero_le _⟩) hS (fun q _ h => hFc q h) hFc (fun u t H locs ht hvm hw hB hz1 hk1 hS => ?_)
        obtain ⟨hP, hD⟩ := va_join (wr := [(h_p0, .inr (0, [.ref h_p0_holders, .ref h_p0_ends]))]) (w1 := [(h_p0_holders, .inl (cyI, 162, .inl r2))]) hP hD [1] [0] rfl rfl (by decide) (by decide) hk1 hFc (WLD.P hB ht) hB.2
        have hP : va_P (dC, dI) vwCl [(h_p0, .inr (0, [.ref h_p0_holders, .ref h_p0_ends])), (h_p0_holders, .inl (cyI, 162, .inl r2))] H := hP
        have hD : va_D A [(h_p0, .inr (0, [.ref h_p0_holders, .ref h_p0_ends])), (h_p0_holders, .inl (cyI, 162, .inl r2))] := hD
        refine lv_iinc (v := (x5 + iI 1)) hx hb dX0_give_25 hl (k := 4) rfl rfl (by decide) (rfl : _ = ([(5, .int (x5 + iI 1)), (0, .ref h_p0), (1, .int a1), (3, .int a3), (4, .int a4)] : List (Nat × Value))) (fun ls hl => ?_)
        refine lv_goto (tgt := 3) hx hb dX0_give_28 (by decide) ?_
        exact ih r2 (x5 + iI 1) _ _ hP hD hS ls (lv_sub hl [1, 2, 3, 4, 0] rfl) h
  have hl := lv_entry ([.ref h_p0, .int a1, .int a2, .int a3, .int a4]) (n := 6) (Nat.le_of_ble_eq_true rfl)
  rw [lg_entry_eq]
  generalize (lg_sl ([.ref h_p0, .int a1, .int a2, .int a3, .int a4]) ++ List.replicate (6 - (lg_sl ([.ref h_p0, .int a1, .int a2, .int a3, .int a4])).length) Slot.unset).toArray = ls at hl ⊢
  have hl : lv_has ls 6 [(0, .ref h_p0), (1, .int a1), (2, .int a2), (3, .int a3), (4, .int a4)] := hl
  unfold s_X0_give at h
  refine lv_iload_n hx hb dX0_give_0 rfl (lv_at hl 2 rfl) ?_
  refine lv_istore hx hb dX0_give_1 hl (by decide) (rfl : _ = ([(5, .int a2), (0, .ref h_p0), (1, .int a1), (2, .int a2), (3, .int a3), (4, .int a4)] : List (Nat × Value))) (fun ls hl => ?_)
  exact L3 n v_holders a2 _ _ hP hD hS ls (lv_sub hl [1, 2, 4, 5, 0] rfl) h
def s_X5_giveBerths (n : Nat) (v_holders : Nat → Int32) (v_cells : Nat → Int32) (a1 : Int32) (a2 : Int32) : Option ((Nat → Int32)) := ((s_X3_middle v_cells a1).bind fun r1 => ((s_X3_at v_cells a1 (iI 4)).bind fun r4 => ((s_X3_at v_cells a1 (iI 1)).bind fun r7 => ((s_X0_give n v_holders r4 r7 r1 a2).bind fun r10 => ((s_X3_at v_cells a1 (iI 5)).bind fun r13 => ((s_X3_at v_cells a1 (iI 2)).bind fun r16 => ((s_X0_give n r10 r13 r1 r16 a2).bind fun r19 => (some (r19)))))))))
set_option maxRecDepth 20000 in
theorem m_X5_giveBerths_0 : ∀ w ∈ u_ws RX5 TX5 6, w ∈ wsX5_giveBerths := by decide +kernel
set_option maxRecDepth 20000 in
theorem m_X5_giveBerths_1 : (.fieldLink RX5 21 "SleeperBerths$Train" "roster" "LSleeperBerths$Roster;" : Cond) ∈ wsX5_giveBerths := by decide +kernel
set_option maxRecDepth 20000 in
theorem m_X5_giveBerths_2 : (.fieldLink RX5 12 "SleeperBerths$Train" "berths" "LSleeperBerths$Berths;" : Cond) ∈ wsX5_giveBerths := by decide +kernel
set_option maxHeartbeats 4000000 in
set_option maxRecDepth 100000 in
theorem c_X5_giveBerths (l : Launch) (dC : Nat → ClassId) (dI : Nat → Nat → Nat) (cyI cyJ cyT : ClassId) (h_p0 : Nat) (h_p0_berths : Nat) (h_p0_roster : Nat) (h_p0_settings : Nat) (h_p0_berths_holders : Nat) (h_p0_berths_ends : Nat) (h_p0_roster_cells : Nat) (sz : Nat) (v_nextNumber : Int32) (v_bookings : Int32) (v_leftOut : Int32) (v_holders : Nat → Int32) (v_size : Int32) (v_cells : Nat → Int32) (a1 : Int32) (a2 : Int32) (n : Nat) (o : (Nat → Int32)) (h : s_X5_giveBerths n v_holders v_cells a1 a2 = some o) : Met l yX5_giveBerths wsX5_giveBerths ({ frames := 2, cells := 0, slots := 0, locals := 47 }) (va_Pc [.ref h_p0, .int a1, .int a2] (PRE (dC, dI) (TYS cyI cyJ cyT) sz [(h_p0, .inr (5, [.ref h_p0_berths, .ref h_p0_roster, .ref h_p0_settings, .int v_nextNumber, .int v_bookings, .int v_leftOut])), (h_p0_berths, .inr (0, [.ref h_p0_berths_holders, .ref h_p0_berths_ends])), (h_p0_berths_holders, .inl (cyI, 162, .inl v_holders)), (h_p0_roster, .inr (3, [.ref h_p0_roster_cells, .int v_size])), (h_p0_roster_cells, .inl (cyI, 280, .inl v_cells))])) (va_Qv (S := Unit) (fun _ => True) (fun _ t => WLD (dC, dI) (va_A [(h_p0, .inr (5, [.ref h_p0_berths, .ref h_p0_roster, .ref h_p0_settings, .int v_nextNumber, .int v_bookings, .int v_leftOut])), (h_p0_berths, .inr (0, [.ref h_p0_berths_holders, .ref h_p0_berths_ends])), (h_p0_berths_holders, .inl (cyI, 162, .inl v_holders)), (h_p0_roster, .inr (3, [.ref h_p0_roster_cells, .int v_size])), (h_p0_roster_cells, .inl (cyI, 280, .inl v_cells))] sz) [(h_p0, .inr (5, [.ref h_p0_berths, .ref h_p0_roster, .ref h_p0_settings, .int v_nextNumber, .int v_bookings, .int v_leftOut])), (h_p0_berths, .inr (0, [.ref h_p0_berths_holders, .ref h_p0_berths_ends])), (h_p0_berths_holders, .inl (cyI, 162, .inl o)), (h_p0_roster, .inr (3, [.ref h_p0_roster_cells, .int v_size])), (h_p0_roster_cells, .inl (cyI, 280, .inl v_cells))] t) (va_A [(h_p0, .inr (5, [.ref h_p0_berths, .ref h_p0_roster, .ref h_p0_settings, .int v_nextNumber, .int v_bookings, .int v_leftOut])), (h_p0_berths, .inr (0, [.ref h_p0_berths_holders, .ref h_p0_berths_ends])), (h_p0_berths_holders, .inl (cyI, 162, .inl v_holders)), (h_p0_roster, .inr (3, [.ref h_p0_roster_cells, .int v_size])), (h_p0_roster_cells, .inl (cyI, 280, .inl v_cells))] sz)) 0 0 (va_A [(h_p0, .inr (5, [.ref h_p0_berths, .ref h_p0_roster, .ref h_p0_settings, .int v_nextNumber, .int v_bookings, .int v_leftOut])), (h_p0_berths, .inr (0, [.ref h_p0_berths_holders, .ref h_p0_berths_ends])), (h_p0_berths_holders, .inl (cyI, 162, .inl v_holders)), (h_p0_roster, .inr (3, [.ref h_p0_roster_cells, .int v_size])), (h_p0_roster_cells, .inl (cyI, 280, .inl v_cells))] sz) := by
  refine Met.ofW (cc := cX5_giveBerths) (maxL := 4) (ret := none) (by decide) rfl ?_
  intro p e s m args below meth c s₁ B hml hv
  obtain ⟨rfl, hsz, hP, hK, hD0, hNW⟩ := hv
  have hx := B.exec
  have hb := B.bytes
  have hr := B.returns
  have hts := atoms_spec (ws := wsX5_giveBerths) B.pre
  have hown : s.vm.findClass RX5 = some m.cls := findClass_of_methodNamed B.named
  have hlocks := B.notSynchronized
  subst hsz
  have hD := hD0.self (sz := s.heap.size)
  generalize hAe : va_A [(h_p0, .inr (5, [.ref h_p0_berths, .ref h_p0_roster, .ref h_p0_settings, .int v_nextNumber, .int v_bookings, .int v_leftOut])), (h_p0_berths, .inr (0, [.ref h_p0_berths_holders, .ref h_p0_berths_ends])), (h_p0_berths_holders, .inl (cyI, 162, .inl v_holders)), (h_p0_roster, .inr (3, [.ref h_p0_roster_cells, .int v_size])), (h_p0_roster_cells, .inl (cyI, 280, .inl v_cells))] s.heap.size = A at hD ⊢
  have hA : ∀ q : Nat, s.heap.size ≤ q → A q := fun q h => by rw [← hAe]; exact Or.inr h
  have hS : va_S A s.heap s.heap [] := va_S.rf
  have hP : va_P (dC, dI) vwCl [(h_p0, .inr (5, [.ref h_p0_berths, .ref h_p0_roster, .ref h_p0_settings, .int v_nextNumber, .int v_bookings, .int v_leftOut])), (h_p0_berths, .inr (0, [.ref h_p0_berths_holders, .ref h_p0_berths_ends])), (h_p0_berths_holders, .inl (cyI, 162, .inl v_holders)), (h_p0_roster, .inr (3, [.ref h_p0_roster_cells, .int v_size])), (h_p0_roster_cells, .inl (cyI, 280, .inl v_cells))] s.heap := hP
  have hl := lv_entry ([.ref h_p0, .int a1, .int a2]) (n := 4) (Nat.le_of_ble_eq_true rfl)
  rw [lg_entry_eq]
  generalize (lg_sl ([.ref h_p0, .int a1, .int a2]) ++ List.replicate (4 - (lg_sl ([.ref h_p0, .int a1, .int a2])).length) Slot.unset).toArray = ls at hl ⊢
  have hl : lv_has ls 4 [(0, .ref h_p0), (1, .int a1), (2, .int a2)] := hl
  unfold s_X5_giveBerths at h
  refine lv_aload_n hx hb dX5_giveBerths_0 rfl (lv_at hl 0 rfl) ?_
  refine va_get (D := (dC, dI)) (ci := 5) (v := .ref h_p0_roster) (C := RX5) (T := TX5) (N := 6) hx hb hts m_X5_giveBerths_0 hown hK hP 0 rfl rfl 1 (by decide) (hts (.fieldLink RX5 21 "SleeperBerths$Train" "roster" "LSleeperBerths$Roster;") m_X5_giveBerths_1) (fun _ h9 => h9) rfl dX5_giveBerths_1 ?_
  refine lv_iload_n hx hb dX5_giveBerths_4 rfl (lv_at hl 1 rfl) ?_
  obtain ⟨r1, e2, h⟩ := bsome h
  have hPc := sb_P [(h_p0_roster, .inr (3, [.ref h_p0_roster_cells, .int v_size])), (h_p0_roster_cells, .inl (cyI, 280, .inl v_cells))] hP [3, 4] rfl
  have hDc := sb_D [(h_p0_roster, .inr (3, [.ref h_p0_roster_cells, .int v_size])), (h_p0_roster_cells, .inl (cyI, 280, .inl v_cells))] hD [3, 4] (by decide) rfl
  have hFc := va_free (wc := [(h_p0_roster, .inr (3, [.ref h_p0_roster_cells, .int v_size])), (h_p0_roster_cells, .inl (cyI, 280, .inl v_cells))]) hD hS hA [3, 4] rfl
  refine va_calli (va_runV (As := [.int a1]) (rest := []) ⟨hx, hb, hml, hown, hts⟩ (c_X3_middle l dC dI cyI cyJ cyT h_p0_roster h_p0_roster_cells s.heap.size v_size v_cells a1 r1 e2) (cwV 1 hts gX5_giveBerths_X3_middle rfl rfl rfl (by decide +kernel) ⟨Nat.le_of_ble_eq_true rfl, Nat.le_of_ble_eq_true rfl⟩) ⟨PRE.blind, va_recv hK hPc (ci := 3) (q0 := 0) rfl rfl, PRE.go hK hPc hDc hNW⟩ rfl rfl hl.1 rfl (lv_room (Nat.le_of_ble_eq_true rfl)) dX5_giveBerths_5 ⟨Nat.zero_le _, Nat.zero_le _⟩) hS (fun q _ h => hFc q h) hFc (fun z3 u t H locs ht hvm hw hB hz1 hk1 hS => ?_)
  subst z3
  obtain ⟨hP, hD⟩ := va_join (wr := [(h_p0, .inr (5, [.ref h_p0_berths, .ref h_p0_roster, .ref h_p0_settings, .int v_nextNumber, .int v_bookings, .int v_leftOut])), (h_p0_berths, .inr (0, [.ref h_p0_berths_holders, .ref h_p0_berths_ends])), (h_p0_berths_holders, .inl (cyI, 162, .inl v_holders))]) (w1 := [(h_p0_roster, .inr (3, [.ref h_p0_roster_cells, .int v_size])), (h_p0_roster_cells, .inl (cyI, 280, .inl v_cells))]) hP hD [3, 4] [0, 1, 2] rfl rfl (by decide) (by decide) hk1 hFc (WLD.P hB ht) hB.2
  have hP : va_P (dC, dI) vwCl [(h_p0, .inr (5, [.ref h_p0_berths, .ref h_p0_roster, .ref h_p0_settings, .int v_nextNumber, .int v_bookings, .int v_leftOut])), (h_p0_berths, .inr (0, [.ref h_p0_berths_holders, .ref h_p0_berths_ends])), (h_p0_berths_holders, .inl (cyI, 162, .inl v_holders)), (h_p0_roster, .inr (3, [.ref h_p0_roster_cells, .int v_size])), (h_p0_roster_cells, .inl (cyI, 280, .inl v_cells))] H := hP
  have hD : va_D A [(h_p0, .inr (5, [.ref h_p0_berths, .ref h_p0_roster, .ref h_p0_settings, .int v_nextNumber, .int v_bookings, .int v_leftOut])), (h_p0_berths, .inr (0, [.ref h_p0_berths_holders, .ref h_p0_berths_ends])), (h_p0_berths_holders, .inl (cyI, 162, .inl v_holders)), (h_p0_roster, .inr (3, [.ref h_p0_roster_cells, .int v_size])), (h_p0_roster_cells, .inl (cyI, 280, .inl v_cells))] := hD
  refine lv_istore_n hx hb dX5_giveBerths_8 rfl hl (by decide) (rfl : _ = ([(3, .int r1), (0, .ref h_p0), (1, .int a1), (2, .int a2)] : List (Nat × Value))) (fun ls hl => ?_)
  refine lv_aload_n hx hb dX5_giveBerths_9 rfl (lv_at hl 1 rfl) ?_
  refine va_get (D := (dC, dI)) (ci := 5) (v := .ref h_p0_berths) (C := RX5) (T := TX5) (N := 6) hx hb hts m_X5_giveBerths_0 hown hK hP 0 rfl rfl 0 (by decide) (hts (.fieldLink RX5 12 "SleeperBerths$Train" "berths" "LSleeperBerths$Berths;") m_X5_giveBerths_2) (fun _ h9 => h9) rfl dX5_giveBerths_10 ?_
  refine lv_aload_n hx hb dX5_giveBerths_13 rfl (lv_at hl 1 rfl) ?_
  refine va_get (D := (dC, dI)) (ci := 5) (v := .ref h_p0_roster) (C := RX5) (T := TX5) (N := 6) hx hb hts m_X5_giveBerths_0 hown hK hP 0 rfl rfl 1 (by decide) (hts (.fieldLink RX5 21 "SleeperBerths$Train" "roster" "LSleeperBerths$Roster;") m_X5_giveBerths_1) (fun _ h9 => h9) rfl dX5_giveBerths_14 ?_
  refine lv_iload_n hx hb dX5_giveBerths_17 rfl (lv_at hl 2 rfl) ?_
  refine lv_iconst (v := iI 4) hx hb dX5_giveBerths_18 rfl ?_
  obtain ⟨r4, e5, h⟩ := bsome h
  have hPc := sb_P [(h_p0_roster, .inr (3, [.ref h_p0_roster_cells, .int v_size])), (h_p0_roster_cells, .inl (cyI, 280, .inl v_cells))] hP [3, 4] rfl
  have hDc := sb_D [(h_p0_roster, .inr (3, [.ref h_p0_roster_cells, .int v_size])), (h_p0_roster_cells, .inl (cyI, 280, .inl v_cells))] hD [3, 4] (by decide) rfl
  have hFc := va_free (wc := [(h_p0_roster, .inr (3, [.ref h_p0_roster_cells, .int v_size])), (h_p0_roster_cells, .inl (cyI, 280, .inl v_cells))]) hD hS hA [3, 4] rfl
  refine va_calli (va_runV (As := [.int a1, .int (iI 4)]) (rest := [.ref h_p0_berths]) ⟨hx, hb, hml, hown, hts⟩ (c_X3_at l dC dI cyI cyJ cyT h_p0_roster h_p0_roster_cells H.size v_size v_cells a1 (iI 4) r4 e5) (cwV 2 hts gX5_giveBerths_X3_at rfl rfl rfl (by decide +kernel) ⟨Nat.le_of_ble_eq_true rfl, Nat.le_of_ble_eq_true rfl⟩) ⟨PRE.blind, va_recv hK hPc (ci := 3) (q0 := 0) rfl rfl, PRE.go hK hPc hDc hNW⟩ rfl rfl hl.1 rfl (lv_room (Nat.le_of_ble_eq_true rfl)) dX5_giveBerths_19 ⟨Nat.zero_le _, Nat.zero_le _⟩) hS (fun q _ h => hFc q h) hFc (fun z6 u t H locs ht hvm hw hB hz1 hk1 hS => ?_)
  subst z6
  obtain ⟨hP, hD⟩ := va_join (wr := [(h_p0, .inr (5, [.ref h_p0_berths, .ref h_p0_roster, .ref h_p0_settings, .int v_nextNumber, .int v_bookings, .int v_leftOut])), (h_p0_berths, .inr (0, [.ref h_p0_berths_holders, .ref h_p0_berths_ends])), (h_p0_berths_holders, .inl (cyI, 162, .inl v_holders))]) (w1 := [(h_p0_roster, .inr (3, [.ref h_p0_roster_cells, .int v_size])), (h_p0_roster_cells, .inl (cyI, 280, .inl v_cells))]) hP hD [3, 4] [0, 1, 2] rfl rfl (by decide) (by decide) hk1 hFc (WLD.P hB ht) hB.2
  have hP : va_P (dC, dI) vwCl [(h_p0, .inr (5, [.ref h_p0_berths, .ref h_p0_roster, .ref h_p0_settings, .int v_nextNumber, .int v_bookings, .int v_leftOut])), (h_p0_berths, .inr (0, [.ref h_p0_berths_holders, .ref h_p0_berths_ends])), (h_p0_berths_holders, .inl (cyI, 162, .inl v_holders)), (h_p0_roster, .inr (3, [.ref h_p0_roster_cells, .int v_size])), (h_p0_roster_cells, .inl (cyI, 280, .inl v_cells))] H := hP
  have hD : va_D A [(h_p0, .inr (5, [.ref h_p0_berths, .ref h_p0_roster, .ref h_p0_settings, .int v_nextNumber, .int v_bookings, .int v_leftOut])), (h_p0_berths, .inr (0, [.ref h_p0_berths_holders, .ref h_p0_berths_ends])), (h_p0_berths_holders, .inl (cyI, 162, .inl v_holders)), (h_p0_roster, .inr (3, [.ref h_p0_roster_cells, .int v_size])), (h_p0_roster_cells, .inl (cyI, 280, .inl v_cells))] := hD
  refine lv_aload_n hx hb dX5_giveBerths_22 rfl (lv_at hl 1 rfl) ?_
  refine va_get (D := (dC, dI)) (ci := 5) (v := .ref h_p0_roster) (C := RX5) (T := TX5) (N := 6) hx hb hts m_X5_giveBerths_0 hown hK hP 0 rfl rfl 1 (by decide) (hts (.fieldLink RX5 21 "SleeperBerths$Train" "roster" "LSleeperBerths$Roster;") m_X5_giveBerths_1) (fun _ h9 => h9) rfl dX5_giveBerths_23 ?_
  refine lv_iload_n hx hb dX5_giveBerths_26 rfl (lv_at hl 2 rfl) ?_
  refine lv_iconst (v := iI 1) hx hb dX5_giveBerths_27 rfl ?_
  obtain ⟨r7, e8, h⟩ := bsome h
  have hPc := sb_P [(h_p0_roster, .inr (3, [.ref h_p0_roster_cells, .int v_size])), (h_p0_roster_cells, .inl (cyI, 280, .inl v_cells))] hP [3, 4] rfl
  have hDc := sb_D [(h_p0_roster, .inr (3, [.ref h_p0_roster_cells, .int v_size])), (h_p0_roster_cells, .inl (cyI, 280, .inl v_cells))] hD [3, 4] (by decide) rfl
  have hFc := va_free (wc := [(h_p0_roster, .inr (3, [.ref h_p0_roster_cells, .int v_size])), (h_p0_roster_cells, .inl (cyI, 280, .inl v_cells))]) hD hS hA [3, 4] rfl
  refine va_calli (va_runV (As := [.int a1, .int (iI 1)]) (rest := [.int r4, .ref h_p0_berths]) ⟨hx, hb, hml, hown, hts⟩ (c_X3_at l dC dI cyI cyJ cyT h_p0_roster h_p0_roster_cells H.size v_size v_cells a1 (iI 1) r7 e8) (cwV 2 hts gX5_giveBerths_X3_at rfl rfl rfl (by decide +kernel) ⟨Nat.le_of_ble_eq_true rfl, Nat.le_of_ble_eq_true rfl⟩) ⟨PRE.blind, va_recv hK hPc (ci := 3) (q0 := 0) rfl rfl, PRE.go hK hPc hDc hNW⟩ rfl rfl hl.1 rfl (lv_room (Nat.le_of_ble_eq_true rfl)) dX5_giveBerths_28 ⟨Nat.zero_le _, Nat.zero_le _⟩) hS (fun q _ h => hFc q h) hFc (fun z9 u t H locs ht hvm hw hB hz1 hk1 hS => ?_)
  subst z9
  obtain ⟨hP, hD⟩ := va_join (wr := [(h_p0, .inr (5, [.ref h_p0_berths, .ref h_p0_roster, .ref h_p0_settings, .int v_nextNumber, .int v_bookings, .int v_leftOut])), (h_p0_berths, .inr (0, [.ref h_p0_berths_holders, .ref h_p0_berths_ends])), (h_p0_berths_holders, .inl (cyI, 162, .inl v_holders))]) (w1 := [(h_p0_roster, .inr (3, [.ref h_p0_roster_cells, .int v_size])), (h_p0_roster_cells, .inl (cyI, 280, .inl v_cells))]) hP hD [3, 4] [0, 1, 2] rfl rfl (by decide) (by decide) hk1 hFc (WLD.P hB ht) hB.2
  have hP : va_P (dC, dI) vwCl [(h_p0, .inr (5, [.ref h_p0_berths, .ref h_p0_roster, .ref h_p0_settings, .int v_nextNumber, .int v_bookings, .int v_leftOut])), (h_p0_berths, .inr (0, [.ref h_p0_berths_holders, .ref h_p0_berths_ends])), (h_p0_berths_holders, .inl (cyI, 162, .inl v_holders)), (h_p0_roster, .inr (3, [.ref h_p0_roster_cells, .int v_size])), (h_p0_roster_cells, .inl (cyI, 280, .inl v_cells))] H := hP
  have hD : va_D A [(h_p0, .inr (5, [.ref h_p0_berths, .ref h_p0_roster, .ref h_p0_settings, .int v_nextNumber, .int v_bookings, .int v_leftOut])), (h_p0_berths, .inr (0, [.ref h_p0_berths_holders, .ref h_p0_berths_ends])), (h_p0_berths_holders, .inl (cyI, 162, .inl v_holders)), (h_p0_roster, .inr (3, [.ref h_p0_roster_cells, .int v_size])), (h_p0_roster_cells, .inl (cyI, 280, .inl v_cells))] := hD
  refine lv_iload_n hx hb dX5_giveBerths_31 rfl (lv_at hl 0 rfl) ?_
  refine lv_iload_n hx hb dX5_giveBerths_32 rfl (lv_at hl 3 rfl) ?_
  obtain ⟨r10, e11, h⟩ := bsome h
  have hPc := sb_P [(h_p0_berths, .inr (0, [.ref h_p0_berths_holders, .ref h_p0_berths_ends])), (h_p0_berths_holders, .inl (cyI, 162, .inl v_holders))] hP [1, 2] rfl
  have hDc := sb_D [(h_p0_berths, .inr (0, [.ref h_p0_berths_holders, .ref h_p0_berths_ends])), (h_p0_berths_holders, .inl (cyI, 162, .inl v_holders))] hD [1, 2] (by decide) rfl
  have hFc := va_free (wc := [(h_p0_berths, .inr (0, [.ref h_p0_berths_holders, .ref h_p0_berths_ends])), (h_p0_berths_holders, .inl (cyI, 162, .inl v_holders))]) hD hS hA [1, 2] rfl
  refine va_callv (va_runV (As := [.int r4, .int r7, .int r1, .int a2]) (rest := []) ⟨hx, hb, hml, hown, hts⟩ (c_X0_give l dC dI cyI cyJ cyT h_p0_berths h_p0_berths_holders h_p0_berths_ends H.size v_holders r4 r7 r1 a2 n r10 e11) (cwV 4 hts gX5_giveBerths_X0_give rfl rfl rfl (by decide +kernel) ⟨Nat.le_of_ble_eq_true rfl, Nat.le_of_ble_eq_true rfl⟩) ⟨PRE.blind, va_recv hK hPc (ci := 0) (q0 := 0) rfl rfl, PRE.go hK hPc hDc hNW⟩ rfl rfl hl.1 rfl (lv_room (Nat.le_of_ble_eq_true rfl)) dX5_giveBerths_33 ⟨Nat.zero_le _, Nat.zero_le _⟩) hS (fun q _ h => hFc q h) hFc (fun u t H locs ht hvm hw hB hz1 hk1 hS => ?_)
  obtain ⟨hP, hD⟩ := va_join (wr := [(h_p0, .inr (5, [.ref h_p0_berths, .ref h_p0_roster, .ref h_p0_settings, .int v_nextNumber, .int v_bookings, .int v_leftOut])), (h_p0_roster, .inr (3, [.ref h_p0_roster_cells, .int v_size])), (h_p0_roster_cells, .inl (cyI, 280, .inl v_cells))]) (w1 := [(h_p0_berths, .inr (0, [.ref h_p0_berths_holders, .ref h_p0_berths_ends])), (h_p0_berths_holders, .inl (cyI, 162, .inl r10))]) hP hD [1, 2] [0, 3, 4] rfl rfl (by decide) (by decide) hk1 hFc (WLD.P hB ht) hB.2
  have hP : va_P (dC, dI) vwCl [(h_p0, .inr (5, [.ref h_p0_berths, .ref h_p0_roster, .ref h_p0_settings, .int v_nextNumber, .int v_bookings, .int v_leftOut])), (h_p0_roster, .inr (3, [.ref h_p0_roster_cells, .int v_size])), (h_p0_roster_cells, .inl (cyI, 280, .inl v_cells)), (h_p0_berths, .inr (0, [.ref h_p0_berths_holders, .ref h_p0_berths_ends])), (h_p0_berths_holders, .inl (cyI, 162, .inl r10))] H := hP
  have hD : va_D A [(h_p0, .inr (5, [.ref h_p0_berths, .ref h_p0_roster, .ref h_p0_settings, .int v_nextNumber, .int v_bookings, .int v_leftOut])), (h_p0_roster, .inr (3, [.ref h_p0_roster_cells, .int v_size])), (h_p0_roster_cells, .inl (cyI, 280, .inl v_cells)), (h_p0_berths, .inr (0, [.ref h_p0_berths_holders, .ref h_p0_berths_ends])), (h_p0_berths_holders, .inl (cyI, 162, .inl r10))] := hD
  refine lv_aload_n hx hb dX5_giveBerths_36 rfl (lv_at hl 1 rfl) ?_
  refine va_get (D := (dC, dI)) (ci := 5) (v := .ref h_p0_berths) (C := RX5) (T := TX5) (N := 6) hx hb hts m_X5_giveBerths_0 hown hK hP 0 rfl rfl 0 (by decide) (hts (.fieldLink RX5 12 "SleeperBerths$Train" "berths" "LSleeperBerths$Berths;") m_X5_giveBerths_2) (fun _ h9 => h9) rfl dX5_giveBerths_37 ?_
  refine lv_aload_n hx hb dX5_giveBerths_40 rfl (lv_at hl 1 rfl) ?_
  refine va_get (D := (dC, dI)) (ci := 5) (v := .ref h_p0_roster) (C := RX5) (T := TX5) (N := 6) hx hb hts m_X5_giveBerths_0 hown hK hP 0 rfl rfl 1 (by decide) (hts (.fieldLink RX5 21 "SleeperBerths$Train" "roster" "LSleeperBerths$Roster;") m_X5_giveBerths_1) (fun _ h9 => h9) rfl dX5_giveBerths_41 ?_
  refine lv_iload_n hx hb dX5_giveBerths_44 rfl (lv_at hl 2 rfl) ?_
  refine lv_iconst (v := iI 5) hx hb dX5_giveBerths_45 rfl ?_
  obtain ⟨r13, e14, h⟩ := bsome h
  have hPc := sb_P [(h_p0_roster, .inr (3, [.ref h_p0_roster_cells, .int v_size])), (h_p0_roster_cells, .inl (cyI, 280, .inl v_cells))] hP [1, 2] rfl
  have hDc := sb_D [(h_p0_roster, .inr (3, [.ref h_p0_roster_cells, .int v_size])), (h_p0_roster_cells, .inl (cyI, 280, .inl v_cells))] hD [1, 2] (by decide) rfl
  have hFc := va_free (wc := [(h_p0_roster, .inr (3, [.ref h_p0_roster_cells, .int v_size])), (h_p0_roster_cells, .inl (cyI, 280, .inl v_cells))]) hD hS hA [1, 2] rfl
  refine va_calli (va_runV (As := [.int a1, .int (iI 5)]) (rest := [.ref h_p0_berths]) ⟨hx, hb, hml, hown, hts⟩ (c_X3_at l dC dI cyI cyJ cyT h_p0_roster h_p0_roster_cells H.size v_size v_cells a1 (iI 5) r13 e14) (cwV 2 hts gX5_giveBerths_X3_at rfl rfl rfl (by decide +kernel) ⟨Nat.le_of_ble_eq_true rfl, Nat.le_of_ble_eq_true rfl⟩) ⟨PRE.blind, va_recv hK hPc (ci := 3) (q0 := 0) rfl rfl, PRE.go hK hPc hDc hNW⟩ rfl rfl hl.1 rfl (lv_room (Nat.le_of_ble_eq_true rfl)) dX5_giveBerths_46 ⟨Nat.zero_le _, Nat.zero_le _⟩) hS (fun q _ h => hFc q h) hFc (fun z15 u t H locs ht hvm hw hB hz1 hk1 hS => ?_)
  subst z15
  obtain ⟨hP, hD⟩ := va_join (wr := [(h_p0, .inr (5, [.ref h_p0_berths, .ref h_p0_roster, .ref h_p0_settings, .int v_nextNumber, .int v_bookings, .int v_leftOut])), (h_p0_berths, .inr (0, [.ref h_p0_berths_holders, .ref h_p0_berths_ends])), (h_p0_berths_holders, .inl (cyI, 162, .inl r10))]) (w1 := [(h_p0_roster, .inr (3, [.ref h_p0_roster_cells, .int v_size])), (h_p0_roster_cells, .inl (cyI, 280, .inl v_cells))]) hP hD [1, 2] [0, 3, 4] rfl rfl (by decide) (by decide) hk1 hFc (WLD.P hB ht) hB.2
  have hP : va_P (dC, dI) vwCl [(h_p0, .inr (5, [.ref h_p0_berths, .ref h_p0_roster, .ref h_p0_settings, .int v_nextNumber, .int v_bookings, .int v_leftOut])), (h_p0_berths, .inr (0, [.ref h_p0_berths_holders, .ref h_p0_berths_ends])), (h_p0_berths_holders, .inl (cyI, 162, .inl r10)), (h_p0_roster, .inr (3, [.ref h_p0_roster_cells, .int v_size])), (h_p0_roster_cells, .inl (cyI, 280, .inl v_cells))] H := hP
  have hD : va_D A [(h_p0, .inr (5, [.ref h_p0_berths, .ref h_p0_roster, .ref h_p0_settings, .int v_nextNumber, .int v_bookings, .int v_leftOut])), (h_p0_berths, .inr (0, [.ref h_p0_berths_holders, .ref h_p0_berths_ends])), (h_p0_berths_holders, .inl (cyI, 162, .inl r10)), (h_p0_roster, .inr (3, [.ref h_p0_roster_cells, .int v_size])), (h_p0_roster_cells, .inl (cyI, 280, .inl v_cells))] := hD
  refine lv_iload_n hx hb dX5_giveBerths_49 rfl (lv_at hl 0 rfl) ?_
  refine lv_aload_n hx hb dX5_giveBerths_50 rfl (lv_at hl 1 rfl) ?_
  refine va_get (D := (dC, dI)) (ci := 5) (v := .ref h_p0_roster) (C := RX5) (T := TX5) (N := 6) hx hb hts m_X5_giveBerths_0 hown hK hP 0 rfl rfl 1 (by decide) (hts (.fieldLink RX5 21 "SleeperBerths$Train" "roster" "LSleeperBerths$Roster;") m_X5_giveBerths_1) (fun _ h9 => h9) rfl dX5_giveBerths_51 ?_
  refine lv_iload_n hx hb dX5_giveBerths_54 rfl (lv_at hl 2 rfl) ?_
  refine lv_iconst (v := iI 2) hx hb dX5_giveBerths_55 rfl ?_
  obtain ⟨r16, e17, h⟩ := bsome h
  have hPc := sb_P [(h_p0_roster, .inr (3, [.ref h_p0_roster_cells, .int v_size])), (h_p0_roster_cells, .inl (cyI, 280, .inl v_cells))] hP [3, 4] rfl
  have hDc := sb_D [(h_p0_roster, .inr (3, [.ref h_p0_roster_cells, .int v_size])), (h_p0_roster_cells, .inl (cyI, 280, .inl v_cells))] hD [3, 4] (by decide) rfl
  have hFc := va_free (wc := [(h_p0_roster, .inr (3, [.ref h_p0_roster_cells, .int v_size])), (h_p0_roster_cells, .inl (cyI, 280, .inl v_cells))]) hD hS hA [3, 4] rfl
  refine va_calli (va_runV (As := [.int a1, .int (iI 2)]) (rest := [.int r1, .int r13, .ref h_p0_berths]) ⟨hx, hb, hml, hown, hts⟩ (c_X3_at l dC dI cyI cyJ cyT h_p0_roster h_p0_roster_cells H.size v_size v_cells a1 (iI 2) r16 e17) (cwV 2 hts gX5_giveBerths_X3_at rfl rfl rfl (by decide +kernel) ⟨Nat.le_of_ble_eq_true rfl, Nat.le_of_ble_eq_true rfl⟩) ⟨PRE.blind, va_recv hK hPc (ci := 3) (q0 := 0) rfl rfl, PRE.go hK hPc hDc hNW⟩ rfl rfl hl.1 rfl (lv_room (Nat.le_of_ble_eq_true rfl)) dX5_giveBerths_56 ⟨Nat.zero_le _, Nat.zero_le _⟩) hS (fun q _ h => hFc q h) hFc (fun z18 u t H locs ht hvm hw hB hz1 hk1 hS => ?_)
  subst z18
  obtain ⟨hP, hD⟩ := va_join (wr := [(h_p0, .inr (5, [.ref h_p0_berths, .ref h_p0_roster, .ref h_p0_settings, .int v_nextNumber, .int v_bookings, .int v_leftOut])), (h_p0_berths, .inr (0, [.ref h_p0_berths_holders, .ref h_p0_berths_ends])), (h_p0_berths_holders, .inl (cyI, 162, .inl r10))]) (w1 := [(h_p0_roster, .inr (3, [.ref h_p0_roster_cells, .int v_size])), (h_p0_roster_cells, .inl (cyI, 280, .inl v_cells))]) hP hD [3, 4] [0, 1, 2] rfl rfl (by decide) (by decide) hk1 hFc (WLD.P hB ht) hB.2
  have hP : va_P (dC, dI) vwCl [(h_p0, .inr (5, [.ref h_p0_berths, .ref h_p0_roster, .ref h_p0_settings, .int v_nextNumber, .int v_bookings, .int v_leftOut])), (h_p0_berths, .inr (0, [.ref h_p0_berths_holders, .ref h_p0_berths_ends])), (h_p0_berths_holders, .inl (cyI, 162, .inl r10)), (h_p0_roster, .inr (3, [.ref h_p0_roster_cells, .int v_size])), (h_p0_roster_cells, .inl (cyI, 280, .inl v_cells))] H := hP
  have hD : va_D A [(h_p0, .inr (5, [.ref h_p0_berths, .ref h_p0_roster, .ref h_p0_settings, .int v_nextNumber, .int v_bookings, .int v_leftOut])), (h_p0_berths, .inr (0, [.ref h_p0_berths_holders, .ref h_p0_berths_ends])), (h_p0_berths_holders, .inl (cyI, 162, .inl r10)), (h_p0_roster, .inr (3, [.ref h_p0_roster_cells, .int v_size])), (h_p0_roster_cells, .inl (cyI, 280, .inl v_cells))] := hD
  refine lv_iload_n hx hb dX5_giveBerths_59 rfl (lv_at hl 3 rfl) ?_
  obtain ⟨r19, e20, h⟩ := bsome h
  have hPc := sb_P [(h_p0_berths, .inr (0, [.ref h_p0_berths_holders, .ref h_p0_berths_ends])), (h_p0_berths_holders, .inl (cyI, 162, .inl r10))] hP [1, 2] rfl
  have hDc := sb_D [(h_p0_berths, .inr (0, [.ref h_p0_berths_holders, .ref h_p0_berths_ends])), (h_p0_berths_holders, .inl (cyI, 162, .inl r10))] hD [1, 2] (by decide) rfl
  have hFc := va_free (wc := [(h_p0_berths, .inr (0, [.ref h_p0_berths_holders, .ref h_p0_berths_ends])), (h_p0_berths_holders, .inl (cyI, 162, .inl r10))]) hD hS hA [1, 2] rfl
  refine va_callv (va_runV (As := [.int r13, .int r1, .int r16, .int a2]) (rest := []) ⟨hx, hb, hml, hown, hts⟩ (c_X0_give l dC dI cyI cyJ cyT h_p0_berths h_p0_berths_holders h_p0_berths_ends H.size r10 r13 r1 r16 a2 n r19 e20) (cwV 4 hts gX5_giveBerths_X0_give rfl rfl rfl (by decide +kernel) ⟨Nat.le_of_ble_eq_true rfl, Nat.le_of_ble_eq_true rfl⟩) ⟨PRE.blind, va_recv hK hPc (ci := 0) (q0 := 0) rfl rfl, PRE.go hK hPc hDc hNW⟩ rfl rfl hl.1 rfl (lv_room (Nat.le_of_ble_eq_true rfl)) dX5_giveBerths_60 ⟨Nat.zero_le _, Nat.zero_le _⟩) hS (fun q _ h => hFc q h) hFc (fun u t H locs ht hvm hw hB hz1 hk1 hS => ?_)
  obtain ⟨hP, hD⟩ := va_join (wr := [(h_p0, .inr (5, [.ref h_p0_berths, .ref h_p0_roster, .ref h_p0_settings, .int v_nextNumber, .int v_bookings, .int v_leftOut])), (h_p0_roster, .inr (3, [.ref h_p0_roster_cells, .int v_size])), (h_p0_roster_cells, .inl (cyI, 280, .inl v_cells))]) (w1 := [(h_p0_berths, .inr (0, [.ref h_p0_berths_holders, .ref h_p0_berths_ends])), (h_p0_berths_holders, .inl (cyI, 162, .inl r19))]) hP hD [1, 2] [0, 3, 4] rfl rfl (by decide) (by decide) hk1 hFc (WLD.P hB ht) hB.2
  have hP : va_P (dC, dI) vwCl [(h_p0, .inr (5, [.ref h_p0_berths, .ref h_p0_roster, .ref h_p0_settings, .int v_nextNumber, .int v_bookings, .int v_leftOut])), (h_p0_roster, .inr (3, [.ref h_p0_roster_cells, .int v_size])), (h_p0_roster_cells, .inl (cyI, 280, .inl v_cells)), (h_p0_berths, .inr (0, [.ref h_p0_berths_holders, .ref h_p0_berths_ends])), (h_p0_berths_holders, .inl (cyI, 162, .inl r19))] H := hP
  have hD : va_D A [(h_p0, .inr (5, [.ref h_p0_berths, .ref h_p0_roster, .ref h_p0_settings, .int v_nextNumber, .int v_bookings, .int v_leftOut])), (h_p0_roster, .inr (3, [.ref h_p0_roster_cells, .int v_size])), (h_p0_roster_cells, .inl (cyI, 280, .inl v_cells)), (h_p0_berths, .inr (0, [.ref h_p0_berths_holders, .ref h_p0_berths_ends])), (h_p0_berths_holders, .inl (cyI, 162, .inl r19))] := hD
  obtain rfl := Option.some.inj h
  exact W.vret hx hb hr (fun t ht hW => ⟨⟨(), rfl, trivial, WLD.of ht (sb_P [(h_p0, .inr (5, [.ref h_p0_berths, .ref h_p0_roster, .ref h_p0_settings, .int v_nextNumber, .int v_bookings, .int v_leftOut])), (h_p0_berths, .inr (0, [.ref h_p0_berths_holders, .ref h_p0_berths_ends])), (h_p0_berths_holders, .inl (cyI, 162, .inl r19)), (h_p0_roster, .inr (3, [.ref h_p0_roster_cells, .int v_size])), (h_p0_roster_cells, .inl (cyI, 280, .inl v_cells))] hP [0, 3, 4, 1, 2] rfl) (sb_D [(h_p0, .inr (5, [.ref h_p0_berths, .ref h_p0_roster, .ref h_p0_settings, .int v_nextNumber, .int v_bookings, .int v_leftOut])), (h_p0_berths, .inr (0, [.ref h_p0_berths_holders, .ref h_p0_berths_ends])), (h_p0_berths_holders, .inl (cyI, 162, .inl r19)), (h_p0_roster, .inr (3, [.ref h_p0_roster_cells, .int v_size])), (h_p0_roster_cells, .inl (cyI, 280, .inl v_cells))] hD [0, 3, 4, 1, 2] (by decide) rfl)⟩, hS.F ht⟩) hS.2.2 dX5_giveBerths_63
def s_X5_admit (n : Nat) (v_nextNumber : Int32) (v_bookings : Int32) (v_holders : Nat → Int32) (v_size : Int32) (v_cells : Nat → Int32) (v_first_4 : Int32) (v_last_4 : Int32) (v_changeAt_4 : Int32) (a1 : Int32) (a2 : Int32) (a3 : Int32) : Option (Int32 × Int32 × Int32 × (Nat → Int32) × Int32 × (Nat → Int32)) := ((s_X3_addRow v_size v_cells v_nextNumber a1 a2 a3).bind fun r1 => ((s_X3_putBerths r1.2.2 v_first_4 v_last_4 v_changeAt_4 r1.1).bind fun r4 => ((s_X5_giveBerths n v_holders r4 r1.1 v_nextNumber).bind fun r7 => (some (v_nextNumber, (v_nextNumber + iI 1), (v_bookings + iI 1), r7, r1.2.1, r4)))))
set_option maxRecDepth 20000 in
theorem m_X5_admit_0 : ∀ w ∈ u_ws RX5 TX5 6, w ∈ wsX5_admit := by decide +kernel
set_option maxRecDepth 20000 in
theorem m_X5_admit_1 : (.fieldLink RX5 40 "SleeperBerths$Train" "nextNumber" "I" : Cond) ∈ wsX5_admit := by decide +kernel
set_option maxRecDepth 20000 in
theorem m_X5_admit_2 : (.fieldLink RX5 21 "SleeperBerths$Train" "roster" "LSleeperBerths$Roster;" : Cond) ∈ wsX5_admit := by decide +kernel
set_option maxRecDepth 20000 in
theorem m_X5_admit_3 : (.fieldLink RX5 44 "SleeperBerths$Train" "bookings" "I" : Cond) ∈ wsX5_admit := by decide +kernel
set_option maxHeartbeats 4000000 in
set_option maxRecDepth 100000 in
theorem c_X5_admit (l : Launch) (dC : Nat → ClassId) (dI : Nat → Nat → Nat) (cyI cyJ cyT : ClassId) (h_p0 : Nat) (h_p0_berths : Nat) (h_p0_roster : Nat) (h_p0_settings : Nat) (h_p0_berths_holders : Nat) (h_p0_berths_ends : Nat) (h_p0_roster_cells : Nat) (h_p4 : Nat) (sz : Nat) (v_nextNumber : Int32) (v_bookings : Int32) (v_leftOut : Int32) (v_holders : Nat → Int32) (v_size : Int32) (v_cells : Nat → Int32) (v_first_4 : Int32) (v_last_4 : Int32) (v_changeAt_4 : Int32) (a1 : Int32) (a2 : Int32) (a3 : Int32) (n : Nat) (o : Int32 × Int32 × Int32 × (Nat → Int32) × Int32 × (Nat → Int32)) (h : s_X5_admit n v_nextNumber v_bookings v_holders v_size v_cells v_first_4 v_last_4 v_changeAt_4 a1 a2 a3 = some o) : Met l yX5_admit wsX5_admit ({ frames := 3, cells := 0, slots := 0, locals := 70 }) (va_Pc [.ref h_p0, .int a1, .int a2, .int a3, .ref h_p4] (PRE (dC, dI) (TYS cyI cyJ cyT) sz [(h_p0, .inr (5, [.ref h_p0_berths, .ref h_p0_roster, .ref h_p0_settings, .int v_nextNumber, .int v_bookings, .int v_leftOut])), (h_p0_berths, .inr (0, [.ref h_p0_berths_holders, .ref h_p0_berths_ends])), (h_p0_berths_holders, .inl (cyI, 162, .inl v_holders)), (h_p0_roster, .inr (3, [.ref h_p0_roster_cells, .int v_size])), (h_p0_roster_cells, .inl (cyI, 280, .inl v_cells)), (h_p4, .inr (2, [.int v_first_4, .int v_last_4, .int v_changeAt_4]))])) (va_Qi (S := Unit) (fun r _ => r = o.1) (fun _ t => WLD (dC, dI) (va_A [(h_p0, .inr (5, [.ref h_p0_berths, .ref h_p0_roster, .ref h_p0_settings, .int v_nextNumber, .int v_bookings, .int v_leftOut])), (h_p0_berths, .inr (0, [.ref h_p0_berths_holders, .ref h_p0_berths_ends])), (h_p0_berths_holders, .inl (cyI, 162, .inl v_holders)), (h_p0_roster, .inr (3, [.ref h_p0_roster_cells, .int v_size])), (h_p0_roster_cells, .inl (cyI, 280, .inl v_cells)), (h_p4, .inr (2, [.int v_first_4, .int v_last_4, .int v_changeAt_4]))] sz) [(h_p0, .inr (5, [.ref h_p0_berths, .ref h_p0_roster, .ref h_p0_settings, .int o.2.1, .int o.2.2.1, .int v_leftOut])), (h_p0_berths, .inr (0, [.ref h_p0_berths_holders, .ref h_p0_berths_ends])), (h_p0_berths_holders, .inl (cyI, 162, .inl o.2.2.2.1)), (h_p0_roster, .inr (3, [.ref h_p0_roster_cells, .int o.2.2.2.2.1])), (h_p0_roster_cells, .inl (cyI, 280, .inl o.2.2.2.2.2)), (h_p4, .inr (2, [.int v_first_4, .int v_last_4, .int v_changeAt_4]))] t) (va_A [(h_p0, .inr (5, [.ref h_p0_berths, .ref h_p0_roster, .ref h_p0_settings, .int v_nextNumber, .int v_bookings, .int v_leftOut])), (h_p0_berths, .inr (0, [.ref h_p0_berths_holders, .ref h_p0_berths_ends])), (h_p0_berths_holders, .inl (cyI, 162, .inl v_holders)), (h_p0_roster, .inr (3, [.ref h_p0_roster_cells, .int v_size])), (h_p0_roster_cells, .inl (cyI, 280, .inl v_cells)), (h_p4, .inr (2, [.int v_first_4, .int v_last_4, .int v_changeAt_4]))] sz)) 0 0 (va_A [(h_p0, .inr (5, [.ref h_p0_berths, .ref h_p0_roster, .ref h_p0_settings, .int v_nextNumber, .int v_bookings, .int v_leftOut])), (h_p0_berths, .inr (0, [.ref h_p0_berths_holders, .ref h_p0_berths_ends])), (h_p0_berths_holders, .inl (cyI, 162, .inl v_holders)), (h_p0_roster, .inr (3, [.ref h_p0_roster_cells, .int v_size])), (h_p0_roster_cells, .inl (cyI, 280, .inl v_cells)), (h_p4, .inr (2, [.int v_first_4, .int v_last_4, .int v_changeAt_4]))] sz) := by
  refine Met.ofW (cc := cX5_admit) (maxL := 7) (ret := (some .int)) (by decide) rfl ?_
  intro p e s m args below meth c s₁ B hml hv
  obtain ⟨rfl, hsz, hP, hK, hD0, hNW⟩ := hv
  have hx := B.exec
  have hb := B.bytes
  have hr := B.returns
  have hts := atoms_spec (ws := wsX5_admit) B.pre
  have hown : s.vm.findClass RX5 = some m.cls := findClass_of_methodNamed B.named
  have hlocks := B.notSynchronized
  subst hsz
  have hD := hD0.self (sz := s.heap.size)
  generalize hAe : va_A [(h_p0, .inr (5, [.ref h_p0_berths, .ref h_p0_roster, .ref h_p0_settings, .int v_nextNumber, .int v_bookings, .int v_leftOut])), (h_p0_berths, .inr (0, [.ref h_p0_berths_holders, .ref h_p0_berths_ends])), (h_p0_berths_holders, .inl (cyI, 162, .inl v_holders)), (h_p0_roster, .inr (3, [.ref h_p0_roster_cells, .int v_size])), (h_p0_roster_cells, .inl (cyI, 280, .inl v_cells)), (h_p4, .inr (2, [.int v_first_4, .int v_last_4, .int v_changeAt_4]))] s.heap.size = A at hD ⊢
  have hA : ∀ q : Nat, s.heap.size ≤ q → A q := fun q h => by rw [← hAe]; exact Or.inr h
  have hS : va_S A s.heap s.heap [] := va_S.rf
  have hP : va_P (dC, dI) vwCl [(h_p0, .inr (5, [.ref h_p0_berths, .ref h_p0_roster, .ref h_p0_settings, .int v_nextNumber, .int v_bookings, .int v_leftOut])), (h_p0_berths, .inr (0, [.ref h_p0_berths_holders, .ref h_p0_berths_ends])), (h_p0_berths_holders, .inl (cyI, 162, .inl v_holders)), (h_p0_roster, .inr (3, [.ref h_p0_roster_cells, .int v_size])), (h_p0_roster_cells, .inl (cyI, 280, .inl v_cells)), (h_p4, .inr (2, [.int v_first_4, .int v_last_4, .int v_changeAt_4]))] s.heap := hP
  have hl := lv_entry ([.ref h_p0, .int a1, .int a2, .int a3, .ref h_p4]) (n := 7) (Nat.le_of_ble_eq_true rfl)
  rw [lg_entry_eq]
  generalize (lg_sl ([.ref h_p0, .int a1, .int a2, .int a3, .ref h_p4]) ++ List.replicate (7 - (lg_sl ([.ref h_p0, .int a1, .int a2, .int a3, .ref h_p4])).length) Slot.unset).toArray = ls at hl ⊢
  have hl : lv_has ls 7 [(0, .ref h_p0), (1, .int a1), (2, .int a2), (3, .int a3), (4, .ref h_p4)] := hl
  unfold s_X5_admit at h
  refine lv_aload_n hx hb dX5_admit_0 rfl (lv_at hl 0 rfl) ?_
  refine va_get (D := (dC, dI)) (ci := 5) (v := .int v_nextNumber) (C := RX5) (T := TX5) (N := 6) hx hb hts m_X5_admit_0 hown hK hP 0 rfl rfl 3 (by decide) (hts (.fieldLink RX5 40 "SleeperBerths$Train" "nextNumber" "I") m_X5_admit_1) (fun _ h9 => h9) rfl dX5_admit_1 ?_
  refine lv_istore hx hb dX5_admit_4 hl (by decide) (rfl : _ = ([(5, .int v_nextNumber), (0, .ref h_p0), (1, .int a1), (2, .int a2), (3, .int a3), (4, .ref h_p4)] : List (Nat × Value))) (fun ls hl => ?_)
  refine lv_aload_n hx hb dX5_admit_6 rfl (lv_at hl 1 rfl) ?_
  refine va_get (D := (dC, dI)) (ci := 5) (v := .ref h_p0_roster) (C := RX5) (T := TX5) (N := 6) hx hb hts m_X5_admit_0 hown hK hP 0 rfl rfl 1 (by decide) (hts (.fieldLink RX5 21 "SleeperBerths$Train" "roster" "LSleeperBerths$Roster;") m_X5_admit_2) (fun _ h9 => h9) rfl dX5_admit_7 ?_
  refine lv_iload hx hb dX5_admit_10 (lv_at hl 0 rfl) ?_
  refine lv_iload_n hx hb dX5_admit_12 rfl (lv_at hl 2 rfl) ?_
  refine lv_iload_n hx hb dX5_admit_13 rfl (lv_at hl 3 rfl) ?_
  refine lv_iload_n hx hb dX5_admit_14 rfl (lv_at hl 4 rfl) ?_
  obtain ⟨r1, e2, h⟩ := bsome h
  have hPc := sb_P [(h_p0_roster, .inr (3, [.ref h_p0_roster_cells, .int v_size])), (h_p0_roster_cells, .inl (cyI, 280, .inl v_cells))] hP [3, 4] rfl
  have hDc := sb_D [(h_p0_roster, .inr (3, [.ref h_p0_roster_cells, .int v_size])), (h_p0_roster_cells, .inl (cyI, 280, .inl v_cells))] hD [3, 4] (by decide) rfl
  have hFc := va_free (wc := [(h_p0_roster, .inr (3, [.ref h_p0_roster_cells, .int v_size])), (h_p0_roster_cells, .inl (cyI, 280, .inl v_cells))]) hD hS hA [3, 4] rfl
  refine va_calli (va_runV (As := [.int v_nextNumber, .int a1, .int a2, .int a3]) (rest := []) ⟨hx, hb, hml, hown, hts⟩ (c_X3_addRow l dC dI cyI cyJ cyT h_p0_roster h_p0_roster_cells s.heap.size v_size v_cells v_nextNumber a1 a2 a3 r1 e2) (cwV 4 hts gX5_admit_X3_addRow rfl rfl rfl (by decide +kernel) ⟨Nat.le_of_ble_eq_true rfl, Nat.le_of_ble_eq_true rfl⟩) ⟨PRE.blind, va_recv hK hPc (ci := 3) (q0 := 0) rfl rfl, PRE.go hK hPc hDc hNW⟩ rfl rfl hl.1 rfl (lv_room (Nat.le_of_ble_eq_true rfl)) dX5_admit_15 ⟨Nat.zero_le _, Nat.zero_le _⟩) hS (fun q _ h => hFc q h) hFc (fun z3 u t H locs ht hvm hw hB hz1 hk1 hS => ?_)
  subst z3
  obtain ⟨hP, hD⟩ := va_join (wr := [(h_p0, .inr (5, [.ref h_p0_berths, .ref h_p0_roster, .ref h_p0_settings, .int v_nextNumber, .int v_bookings, .int v_leftOut])), (h_p0_berths, .inr (0, [.ref h_p0_berths_holders, .ref h_p0_berths_ends])), (h_p0_berths_holders, .inl (cyI, 162, .inl v_holders)), (h_p4, .inr (2, [.int v_first_4, .int v_last_4, .int v_changeAt_4]))]) (w1 := [(h_p0_roster, .inr (3, [.ref h_p0_roster_cells, .int r1.2.1])), (h_p0_roster_cells, .inl (cyI, 280, .inl r1.2.2))]) hP hD [3, 4] [0, 1, 2, 5] rfl rfl (by decide) (by decide) hk1 hFc (WLD.P hB ht) hB.2
  have hP : va_P (dC, dI) vwCl [(h_p0, .inr (5, [.ref h_p0_berths, .ref h_p0_roster, .ref h_p0_settings, .int v_nextNumber, .int v_bookings, .int v_leftOut])), (h_p0_berths, .inr (0, [.ref h_p0_berths_holders, .ref h_p0_berths_ends])), (h_p0_berths_holders, .inl (cyI, 162, .inl v_holders)), (h_p4, .inr (2, [.int v_first_4, .int v_last_4, .int v_changeAt_4])), (h_p0_roster, .inr (3, [.ref h_p0_roster_cells, .int r1.2.1])), (h_p0_roster_cells, .inl (cyI, 280, .inl r1.2.2))] H := hP
  have hD : va_D A [(h_p0, .inr (5, [.ref h_p0_berths, .ref h_p0_roster, .ref h_p0_settings, .int v_nextNumber, .int v_bookings, .int v_leftOut])), (h_p0_berths, .inr (0, [.ref h_p0_berths_holders, .ref h_p0_berths_ends])), (h_p0_berths_holders, .inl (cyI, 162, .inl v_holders)), (h_p4, .inr (2, [.int v_first_4, .int v_last_4, .int v_changeAt_4])), (h_p0_roster, .inr (3, [.ref h_p0_roster_cells, .int r1.2.1])), (h_p0_roster_cells, .inl (cyI, 280, .inl r1.2.2))] := hD
  refine lv_istore hx hb dX5_admit_18 hl (by decide) (rfl : _ = ([(6, .int r1.1), (5, .int v_nextNumber), (0, .ref h_p0), (1, .int a1), (2, .int a2), (3, .int a3), (4, .ref h_p4)] : List (Nat × Value))) (fun ls hl => ?_)
  refine lv_aload_n hx hb dX5_admit_20 rfl (lv_at hl 2 rfl) ?_
  refine va_get (D := (dC, dI)) (ci := 5) (v := .ref h_p0_roster) (C := RX5) (T := TX5) (N := 6) hx hb hts m_X5_admit_0 hown hK hP 0 rfl rfl 1 (by decide) (hts (.fieldLink RX5 21 "SleeperBerths$Train" "roster" "LSleeperBerths$Roster;") m_X5_admit_2) (fun _ h9 => h9) rfl dX5_admit_21 ?_
  refine lv_iload hx hb dX5_admit_24 (lv_at hl 0 rfl) ?_
  refine lv_aload hx hb dX5_admit_26 (lv_at hl 6 rfl) ?_
  obtain ⟨r4, e5, h⟩ := bsome h
  have hPc := sb_P [(h_p0_roster, .inr (3, [.ref h_p0_roster_cells, .int r1.2.1])), (h_p0_roster_cells, .inl (cyI, 280, .inl r1.2.2)), (h_p4, .inr (2, [.int v_first_4, .int v_last_4, .int v_changeAt_4]))] hP [4, 5, 3] rfl
  have hDc := sb_D [(h_p0_roster, .inr (3, [.ref h_p0_roster_cells, .int r1.2.1])), (h_p0_roster_cells, .inl (cyI, 280, .inl r1.2.2)), (h_p4, .inr (2, [.int v_first_4, .int v_last_4, .int v_changeAt_4]))] hD [4, 5, 3] (by decide) rfl
  have hFc := va_free (wc := [(h_p0_roster, .inr (3, [.ref h_p0_roster_cells, .int r1.2.1])), (h_p0_roster_cells, .inl (cyI, 280, .inl r1.2.2)), (h_p4, .inr (2, [.int v_first_4, .int v_last_4, .int v_changeAt_4]))]) hD hS hA [4, 5, 3] rfl
  refine va_callv (va_runV (As := [.int r1.1, .ref h_p4]) (rest := []) ⟨hx, hb, hml, hown, hts⟩ (c_X3_putBerths l dC dI cyI cyJ cyT h_p0_roster h_p0_roster_cells h_p4 H.size r1.2.1 r1.2.2 v_first_4 v_last_4 v_changeAt_4 r1.1 r4 e5) (cwV 2 hts gX5_admit_X3_putBerths rfl rfl rfl (by decide +kernel) ⟨Nat.le_of_ble_eq_true rfl, Nat.le_of_ble_eq_true rfl⟩) ⟨PRE.blind, va_recv hK hPc (ci := 3) (q0 := 0) rfl rfl, PRE.go hK hPc hDc hNW⟩ rfl rfl hl.1 rfl (lv_room (Nat.le_of_ble_eq_true rfl)) dX5_admit_28 ⟨Nat.zero_le _, Nat.zero_le _⟩) hS (fun q _ h => hFc q h) hFc (fun u t H locs ht hvm hw hB hz1 hk1 hS => ?_)
  obtain ⟨hP, hD⟩ := va_join (wr := [(h_p0, .inr (5, [.ref h_p0_berths, .ref h_p0_roster, .ref h_p0_settings, .int v_nextNumber, .int v_bookings, .int v_leftOut])), (h_p0_berths, .inr (0, [.ref h_p0_berths_holders, .ref h_p0_berths_ends])), (h_p0_berths_holders, .inl (cyI, 162, .inl v_holders))]) (w1 := [(h_p0_roster, .inr (3, [.ref h_p0_roster_cells, .int r1.2.1])), (h_p0_roster_cells, .inl (cyI, 280, .inl r4)), (h_p4, .inr (2, [.int v_first_4, .int v_last_4, .int v_changeAt_4]))]) hP hD [4, 5, 3] [0, 1, 2] rfl rfl (by decide) (by decide) hk1 hFc (WLD.P hB ht) hB.2
  have hP : va_P (dC, dI) vwCl [(h_p0, .inr (5, [.ref h_p0_berths, .ref h_p0_roster, .ref h_p0_settings, .int v_nextNumber, .int v_bookings, .int v_leftOut])), (h_p0_berths, .inr (0, [.ref h_p0_berths_holders, .ref h_p0_berths_ends])), (h_p0_berths_holders, .inl (cyI, 162, .inl v_holders)), (h_p0_roster, .inr (3, [.ref h_p0_roster_cells, .int r1.2.1])), (h_p0_roster_cells, .inl (cyI, 280, .inl r4)), (h_p4, .inr (2, [.int v_first_4, .int v_last_4, .int v_changeAt_4]))] H := hP
  have hD : va_D A [(h_p0, .inr (5, [.ref h_p0_berths, .ref h_p0_roster, .ref h_p0_settings, .int v_nextNumber, .int v_bookings, .int v_leftOut])), (h_p0_berths, .inr (0, [.ref h_p0_berths_holders, .ref h_p0_berths_ends])), (h_p0_berths_holders, .inl (cyI, 162, .inl v_holders)), (h_p0_roster, .inr (3, [.ref h_p0_roster_cells, .int r1.2.1])), (h_p0_roster_cells, .inl (cyI, 280, .inl r4)), (h_p4, .inr (2, [.int v_first_4, .int v_last_4, .int v_changeAt_4]))] := hD
  refine lv_aload_n hx hb dX5_admit_31 rfl (lv_at hl 2 rfl) ?_
  refine lv_iload hx hb dX5_admit_32 (lv_at hl 0 rfl) ?_
  refine lv_iload hx hb dX5_admit_34 (lv_at hl 1 rfl) ?_
  obtain ⟨r7, e8, h⟩ := bsome h
  have hPc := sb_P [(h_p0, .inr (5, [.ref h_p0_berths, .ref h_p0_roster, .ref h_p0_settings, .int v_nextNumber, .int v_bookings, .int v_leftOut])), (h_p0_berths, .inr (0, [.ref h_p0_berths_holders, .ref h_p0_berths_ends])), (h_p0_berths_holders, .inl (cyI, 162, .inl v_holders)), (h_p0_roster, .inr (3, [.ref h_p0_roster_cells, .int r1.2.1])), (h_p0_roster_cells, .inl (cyI, 280, .inl r4))] hP [0, 1, 2, 3, 4] rfl
  have hDc := sb_D [(h_p0, .inr (5, [.ref h_p0_berths, .ref h_p0_roster, .ref h_p0_settings, .int v_nextNumber, .int v_bookings, .int v_leftOut])), (h_p0_berths, .inr (0, [.ref h_p0_berths_holders, .ref h_p0_berths_ends])), (h_p0_berths_holders, .inl (cyI, 162, .inl v_holders)), (h_p0_roster, .inr (3, [.ref h_p0_roster_cells, .int r1.2.1])), (h_p0_roster_cells, .inl (cyI, 280, .inl r4))] hD [0, 1, 2, 3, 4] (by decide) rfl
  have hFc := va_free (wc := [(h_p0, .inr (5, [.ref h_p0_berths, .ref h_p0_roster, .ref h_p0_settings, .int v_nextNumber, .int v_bookings, .int v_leftOut])), (h_p0_berths, .inr (0, [.ref h_p0_berths_holders, .ref h_p0_berths_ends])), (h_p0_berths_holders, .inl (cyI, 162, .inl v_holders)), (h_p0_roster, .inr (3, [.ref h_p0_roster_cells, .int r1.2.1])), (h_p0_roster_cells, .inl (cyI, 280, .inl r4))]) hD hS hA [0, 1, 2, 3, 4] rfl
  refine va_callv (va_runV (As := [.int r1.1, .int v_nextNumber]) (rest := []) ⟨hx, hb, hml, hown, hts⟩ (c_X5_giveBerths l dC dI cyI cyJ cyT h_p0 h_p0_berths h_p0_roster h_p0_settings h_p0_berths_holders h_p0_berths_ends h_p0_roster_cells H.size v_nextNumber v_bookings v_leftOut v_holders r1.2.1 r4 r1.1 v_nextNumber n r7 e8) (cwV 2 hts gX5_admit_X5_giveBerths rfl rfl rfl (by decide +kernel) ⟨Nat.le_of_ble_eq_true rfl, Nat.le_of_ble_eq_true rfl⟩) ⟨PRE.blind, va_recv hK hPc (ci := 5) (q0 := 0) rfl rfl, PRE.go hK hPc hDc hNW⟩ rfl rfl hl.1 rfl (lv_room (Nat.le_of_ble_eq_true rfl)) dX5_admit_36 ⟨Nat.zero_le _, Nat.zero_le _⟩) hS (fun q _ h => hFc q h) hFc (fun u t H locs ht hvm hw hB hz1 hk1 hS => ?_)
  obtain ⟨hP, hD⟩ := va_join (wr := [(h_p4, .inr (2, [.int v_first_4, .int v_last_4, .int v_changeAt_4]))]) (w1 := [(h_p0, .inr (5, [.ref h_p0_berths, .ref h_p0_roster, .ref h_p0_settings, .int v_nextNumber, .int v_bookings, .int v_leftOut])), (h_p0_berths, .inr (0, [.ref h_p0_berths_holders, .ref h_p0_berths_ends])), (h_p0_berths_holders, .inl (cyI, 162, .inl r7)), (h_p0_roster, .inr (3, [.ref h_p0_roster_cells, .int r1.2.1])), (h_p0_roster_cells, .inl (cyI, 280, .inl r4))]) hP hD [0, 1, 2, 3, 4] [5] rfl rfl (by decide) (by decide) hk1 hFc (WLD.P hB ht) hB.2
  have hP : va_P (dC, dI) vwCl [(h_p4, .inr (2, [.int v_first_4, .int v_last_4, .int v_changeAt_4])), (h_p0, .inr (5, [.ref h_p0_berths, .ref h_p0_roster, .ref h_p0_settings, .int v_nextNumber, .int v_bookings, .int v_leftOut])), (h_p0_berths, .inr (0, [.ref h_p0_berths_holders, .ref h_p0_berths_ends])), (h_p0_berths_holders, .inl (cyI, 162, .inl r7)), (h_p0_roster, .inr (3, [.ref h_p0_roster_cells, .int r1.2.1])), (h_p0_roster_cells, .inl (cyI, 280, .inl r4))] H := hP
  have hD : va_D A [(h_p4, .inr (2, [.int v_first_4, .int v_last_4, .int v_changeAt_4])), (h_p0, .inr (5, [.ref h_p0_berths, .ref h_p0_roster, .ref h_p0_settings, .int v_nextNumber, .int v_bookings, .int v_leftOut])), (h_p0_berths, .inr (0, [.ref h_p0_berths_holders, .ref h_p0_berths_ends])), (h_p0_berths_holders, .inl (cyI, 162, .inl r7)), (h_p0_roster, .inr (3, [.ref h_p0_roster_cells, .int r1.2.1])), (h_p0_roster_cells, .inl (cyI, 280, .inl r4))] := hD
  refine lv_aload_n hx hb dX5_admit_39 rfl (lv_at hl 2 rfl) ?_
  refine lv_dup hx hb dX5_admit_40 rfl ?_
  refine va_get (D := (dC, dI)) (ci := 5) (v := .int v_nextNumber) (C := RX5) (T := TX5) (N := 6) hx hb hts m_X5_admit_0 hown hK hP 1 rfl rfl 3 (by decide) (hts (.fieldLink RX5 40 "SleeperBerths$Train" "nextNumber" "I") m_X5_admit_1) (fun _ h9 => h9) rfl dX5_admit_41 ?_
  refine lv_iconst (v := iI 1) hx hb dX5_admit_44 rfl ?_
  refine lv_iadd hx hb dX5_admit_45 ?_
  refine va_put (D := (dC, dI)) (ci := 5) (v := .int (v_nextNumber + iI 1)) (ty := .int) (C := RX5) (T := TX5) (N := 6) hx hb hts m_X5_admit_0 tyX5 tyX5_ok nmX5 hown hK hP hD hS 1 rfl rfl 3 (by decide) (hts (.fieldLink RX5 40 "SleeperBerths$Train" "nextNumber" "I") m_X5_admit_1) (fun _ h9 => h9) rfl (by decide +kernel) rfl rfl (Nat.le_of_ble_eq_true rfl) dX5_admit_46 (fun H locs hP hD hS => ?_)
  have hP : va_P (dC, dI) vwCl [(h_p4, .inr (2, [.int v_first_4, .int v_last_4, .int v_changeAt_4])), (h_p0, .inr (5, [.ref h_p0_berths, .ref h_p0_roster, .ref h_p0_settings, .int (v_nextNumber + iI 1), .int v_bookings, .int v_leftOut])), (h_p0_berths, .inr (0, [.ref h_p0_berths_holders, .ref h_p0_berths_ends])), (h_p0_berths_holders, .inl (cyI, 162, .inl r7)), (h_p0_roster, .inr (3, [.ref h_p0_roster_cells, .int r1.2.1])), (h_p0_roster_cells, .inl (cyI, 280, .inl r4))] H := hP
  have hD : va_D A [(h_p4, .inr (2, [.int v_first_4, .int v_last_4, .int v_changeAt_4])), (h_p0, .inr (5, [.ref h_p0_berths, .ref h_p0_roster, .ref h_p0_settings, .int (v_nextNumber + iI 1), .int v_bookings, .int v_leftOut])), (h_p0_berths, .inr (0, [.ref h_p0_berths_holders, .ref h_p0_berths_ends])), (h_p0_berths_holders, .inl (cyI, 162, .inl r7)), (h_p0_roster, .inr (3, [.ref h_p0_roster_cells, .int r1.2.1])), (h_p0_roster_cells, .inl (cyI, 280, .inl r4))] := hD
  refine lv_aload_n hx hb dX5_admit_49 rfl (lv_at hl 2 rfl) ?_
  refine lv_dup hx hb dX5_admit_50 rfl ?_
  refine va_get (D := (dC, dI)) (ci := 5) (v := .int v_bookings) (C := RX5) (T := TX5) (N := 6) hx hb hts m_X5_admit_0 hown hK hP 1 rfl rfl 4 (by decide) (hts (.fieldLink RX5 44 "SleeperBerths$Train" "bookings" "I") m_X5_admit_3) (fun _ h9 => h9) rfl dX5_admit_51 ?_
  refine lv_iconst (v := iI 1) hx hb dX5_admit_54 rfl ?_
  refine lv_iadd hx hb dX5_admit_55 ?_
  refine va_put (D := (dC, dI)) (ci := 5) (v := .int (v_bookings + iI 1)) (ty := .int) (C := RX5) (T := TX5) (N := 6) hx hb hts m_X5_admit_0 tyX5 tyX5_ok nmX5 hown hK hP hD hS 1 rfl rfl 4 (by decide) (hts (.fieldLink RX5 44 "SleeperBerths$Train" "bookings" "I") m_X5_admit_3) (fun _ h9 => h9) rfl (by decide +kernel) rfl rfl (Nat.le_of_ble_eq_true rfl) dX5_admit_56 (fun H locs hP hD hS => ?_)
  have hP : va_P (dC, dI) vwCl [(h_p4, .inr (2, [.int v_first_4, .int v_last_4, .int v_changeAt_4])), (h_p0, .inr (5, [.ref h_p0_berths, .ref h_p0_roster, .ref h_p0_settings, .int (v_nextNumber + iI 1), .int (v_bookings + iI 1), .int v_leftOut])), (h_p0_berths, .inr (0, [.ref h_p0_berths_holders, .ref h_p0_berths_ends])), (h_p0_berths_holders, .inl (cyI, 162, .inl r7)), (h_p0_roster, .inr (3, [.ref h_p0_roster_cells, .int r1.2.1])), (h_p0_roster_cells, .inl (cyI, 280, .inl r4))] H := hP
  have hD : va_D A [(h_p4, .inr (2, [.int v_first_4, .int v_last_4, .int v_changeAt_4])), (h_p0, .inr (5, [.ref h_p0_berths, .ref h_p0_roster, .ref h_p0_settings, .int (v_nextNumber + iI 1), .int (v_bookings + iI 1), .int v_leftOut])), (h_p0_berths, .inr (0, [.ref h_p0_berths_holders, .ref h_p0_berths_ends])), (h_p0_berths_holders, .inl (cyI, 162, .inl r7)), (h_p0_roster, .inr (3, [.ref h_p0_roster_cells, .int r1.2.1])), (h_p0_roster_cells, .inl (cyI, 280, .inl r4))] := hD
  refine lv_iload hx hb dX5_admit_59 (lv_at hl 1 rfl) ?_
  obtain rfl := Option.some.inj h
  exact W.iret (v := v_nextNumber) hx hb hr (fun t ht hW => ⟨⟨v_nextNumber, (), rfl, rfl, WLD.of ht (sb_P [(h_p0, .inr (5, [.ref h_p0_berths, .ref h_p0_roster, .ref h_p0_settings, .int (v_nextNumber + iI 1), .int (v_bookings + iI 1), .int v_leftOut])), (h_p0_berths, .inr (0, [.ref h_p0_berths_holders, .ref h_p0_berths_ends])), (h_p0_berths_holders, .inl (cyI, 162, .inl r7)), (h_p0_roster, .inr (3, [.ref h_p0_roster_cells, .int r1.2.1])), (h_p0_roster_cells, .inl (cyI, 280, .inl r4)), (h_p4, .inr (2, [.int v_first_4, .int v_last_4, .int v_changeAt_4]))] hP [1, 2, 3, 4, 5, 0] rfl) (sb_D [(h_p0, .inr (5, [.ref h_p0_berths, .ref h_p0_roster, .ref h_p0_settings, .int (v_nextNumber + iI 1), .int (v_bookings + iI 1), .int v_leftOut])), (h_p0_berths, .inr (0, [.ref h_p0_berths_holders, .ref h_p0_berths_ends])), (h_p0_berths_holders, .inl (cyI, 162, .inl r7)), (h_p0_roster, .inr (3, [.ref h_p0_roster_cells, .int r1.2.1])), (h_p0_roster_cells, .inl (cyI, 280, .inl r4)), (h_p4, .inr (2, [.int v_first_4, .int v_last_4, .int v_changeAt_4]))] hD [1, 2, 3, 4, 5, 0] (by decide) rfl)⟩, hS.F ht⟩) hS.2.2 dX5_admit_61
