def s_X0_init_L46 (n : Nat) : Nat → (Nat → Int32) → (Nat → Int32) → Int32 → Option ((Nat → Int32) × (Nat → Int32))
  | 0, _, _, _ => none
  | k + 1, v_ends, v_holders, x1 => (if iI 3 ≤ x1 then (some (v_ends, v_holders)) else (if gd x1 3 = true then (s_X0_init_L46 n k (upd v_ends x1.toNatClampNeg (iI 9)) v_holders (x1 + iI 1)) else none))
def s_X0_init_L22 (n : Nat) : Nat → (Nat → Int32) → (Nat → Int32) → Int32 → Option ((Nat → Int32) × (Nat → Int32))
  | 0, _, _, _ => none
  | k + 1, v_ends, v_holders, x1 => (if iI 162 ≤ x1 then (s_X0_init_L46 n n v_ends v_holders (iI 0)) else (if gd x1 162 = true then (s_X0_init_L22 n k v_ends (upd v_holders x1.toNatClampNeg (iI (-1))) (x1 + iI 1)) else none))
def s_X0_init (n : Nat) : Option ((Nat → Int32) × (Nat → Int32)) := (s_X0_init_L22 n n (fun _ => 0) (fun _ => 0) (iI 0))
set_option maxRecDepth 20000 in
theorem m_X0_init_0 : ∀ w ∈ u_ws RX0 TX0 2, w ∈ wsX0_init := by decide +kernel
set_option maxRecDepth 20000 in
theorem m_X0_init_1 : (.fieldLink RX0 15 "SleeperBerths$Berths" "ends" "[I" : Cond) ∈ wsX0_init := by decide +kernel
set_option maxRecDepth 20000 in
theorem m_X0_init_2 : (.fieldLink RX0 9 "SleeperBerths$Berths" "holders" "[I" : Cond) ∈ wsX0_init := by decide +kernel
set_option maxRecDepth 20000 in
theorem m_X0_init_3 : (.methodLink RX0 3 objectInit : Cond) ∈ wsX0_init := by decide +kernel
set_option maxRecDepth 20000 in
theorem m_X0_init_4 : (.instanceMethod objectInit : Cond) ∈ wsX0_init := by decide +kernel
set_option maxRecDepth 20000 in
theorem m_X0_init_5 : (.code objectInit ⟨#[0xb1]⟩ 1 none : Cond) ∈ wsX0_init := by decide +kernel
set_option maxRecDepth 20000 in
theorem m_X0_init_6 : (.arrayClass .int : Cond) ∈ wsX0_init := by decide +kernel
set_option maxHeartbeats 4000000 in
set_option maxRecDepth 100000 in
theorem c_X0_init (l : Launch) (dC : Nat → ClassId) (dI : Nat → Nat → Nat) (cyI cyJ cyT : ClassId) (h_p0 : Nat) (sz : Nat) (n : Nat) (o : (Nat → Int32) × (Nat → Int32)) (h : s_X0_init n = some o) : Met l yX0_init wsX0_init ({ frames := 1, cells := 2, slots := 165, locals := 12 }) (va_Pc [.ref h_p0] (PRE (dC, dI) (TYS cyI cyJ cyT) sz [(h_p0, .inr (0, [.null, .null]))])) (va_Qv (S := Unit) (fun _ => True) (fun _ t => ∃ (b_ends : Nat) (b_holders : Nat), WLD (dC, dI) (va_A [(h_p0, .inr (0, [.null, .null]))] sz) [(h_p0, .inr (0, [.ref b_holders, .ref b_ends])), (b_ends, .inl (cyI, 3, .inl o.1)), (b_holders, .inl (cyI, 162, .inl o.2))] t) (va_A [(h_p0, .inr (0, [.null, .null]))] sz)) 2 165 (va_A [(h_p0, .inr (0, [.null, .null]))] sz) := by
  refine Met.ofW (cc := cX0_init) (maxL := 2) (ret := none) (by decide) rfl ?_
  intro p e s m args below meth c s₁ B hml hv
  obtain ⟨rfl, hsz, hP, hK, hD0, hNW⟩ := hv
  have hx := B.exec
  have hb := B.bytes
  have hr := B.returns
  have hts := atoms_spec (ws := wsX0_init) B.pre
  have hown : s.vm.findClass RX0 = some m.cls := findClass_of_methodNamed B.named
  have hlocks := B.notSynchronized
  have hin : meth.name = "<init>" := (name_of_methodNamed B.named B.method).1
  subst hsz
  have hD := hD0.self (sz := s.heap.size)
  generalize hAe : va_A [(h_p0, .inr (0, [.null, .null]))] s.heap.size = A at hD ⊢
  have hA : ∀ q : Nat, s.heap.size ≤ q → A q := fun q h => by rw [← hAe]; exact Or.inr h
  have hS : va_S A s.heap s.heap [] := va_S.rf
  have hP : va_P (dC, dI) vwCl [(h_p0, .inr (0, [.null, .null]))] s.heap := hP
  have L46 : ∀ (k : Nat), (∀ (b_ends : Nat) (b_holders : Nat) (v_ends : Nat → Int32) (v_holders : Nat → Int32) (x1 : Int32) (H : Heap) (locs : List Loc), va_P (dC, dI) vwCl [(h_p0, .inr (0, [.ref b_holders, .ref b_ends])), (b_ends, .inl (cyI, 3, .inl v_ends)), (b_holders, .inl (cyI, 162, .inl v_holders))] H → va_D A [(h_p0, .inr (0, [.ref b_holders, .ref b_ends])), (b_ends, .inl (cyI, 3, .inl v_ends)), (b_holders, .inl (cyI, 162, .inl v_holders))] → va_S A s.heap H locs → ∀ (ls : Array Slot), lv_has ls 2 [(0, .ref h_p0), (1, .int x1)] →  s_X0_init_L46 n k v_ends v_holders x1 = some o → W p l e (headSpec wsX0_init ({ frames := 1, cells := 2, slots := 165, locals := 12 })).room s m (([.ref h_p0] : List Value).toArray) below meth c H locs 2 165 (MQ below (va_Qv (S := Unit) (fun _ => True) (fun _ t => ∃ (b_ends : Nat) (b_holders : Nat), WLD (dC, dI) A [(h_p0, .inr (0, [.ref b_holders, .ref b_ends])), (b_ends, .inl (cyI, 3, .inl o.1)), (b_holders, .inl (cyI, 162, .inl o.2))] t) A) (([.ref h_p0] : List Value).toArray) s 2 165 A) (F0 m 46 ls [])) := by
    intro k
    induction k with
    | zero =>
      intro b_ends b_holders v_ends v_holders x1 H locs hP hD hS ls hl h
      rw [s_X0_init_L46] at h
      cases h
    | succ k ih =>
      intro b_ends b_holders v_ends v_holders x1 H locs hP hD hS ls hl h
      rw [s_X0_init_L46] at h
      refine lv_iload_n hx hb dX0_init_46 rfl (lv_at hl 1 rfl) ?_
      refine lv_aload_n hx hb dX0_init_47 rfl (lv_at hl 0 rfl) ?_
      refine va_get (D := (dC, dI)) (ci := 0) (v := .ref b_ends) (C := RX0) (T := TX0) (N := 2) hx hb hts m_X0_init_0 hown hK hP 0 rfl rfl 1 (by decide) (hts (.fieldLink RX0 15 "SleeperBerths$Berths" "ends" "[I") m_X0_init_1) (fun _ h9 => h9) rfl dX0_init_48 ?_
      refine va_alen (D := (dC, dI)) (v := iI 3) hx hb hK hP 1 0 rfl rfl (show Int32.ofNat 3 = iI 3 by decide) dX0_init_51 ?_
      refine lv_icmp_ge (tgt := 69) hx hb dX0_init_52 (by decide) (fun c1 => ?_) (fun c1 => ?_)
      · have h := ipos c1 h
        obtain rfl := Option.some.inj h
        refine W.widen (k := 2) (n := 165) (Nat.le_of_ble_eq_true rfl) (Nat.le_of_ble_eq_true rfl) ?_
        exact W.vret hx hb hr (fun t ht hW => ⟨⟨(), rfl, trivial, b_ends, b_holders, WLD.of ht hP hD⟩, hS.F ht⟩) hS.2.2 dX0_init_69
      · have h := ineg c1 h
        refine lv_aload_n hx hb dX0_init_55 rfl (lv_at hl 0 rfl) ?_
        refine va_get (D := (dC, dI)) (ci := 0) (v := .ref b_ends) (C := RX0) (T := TX0) (N := 2) hx hb hts m_X0_init_0 hown hK hP 0 rfl rfl 1 (by decide) (hts (.fieldLink RX0 15 "SleeperBerths$Berths" "ends" "[I") m_X0_init_1) (fun _ h9 => h9) rfl dX0_init_56 ?_
        refine lv_iload_n hx hb dX0_init_59 rfl (lv_at hl 1 rfl) ?_
        refine lv_bipush (v := iI 9) hx hb dX0_init_60 (by decide) ?_
        obtain ⟨g2, h⟩ := gsome h
        refine va_iast (D := (dC, dI)) hx hb hK hP hD hS 1 0 rfl rfl g2 dX0_init_62 (fun H locs hP hD hS => ?_)
        have hP : va_P (dC, dI) vwCl [(h_p0, .inr (0, [.ref b_holders, .ref b_ends])), (b_ends, .inl (cyI, 3, .inl (upd v_ends x1.toNatClampNeg (iI 9)))), (b_holders, .inl (cyI, 162, .inl v_holders))] H := hP
        have hD : va_D A [(h_p0, .inr (0, [.ref b_holders, .ref b_ends])), (b_ends, .inl (cyI, 3, .inl (upd v_ends x1.toNatClampNeg (iI 9)))), (b_holders, .inl (cyI, 162, .inl v_holders))] := hD
        refine lv_iinc (v := (x1 + iI 1)) hx hb dX0_init_63 hl (k := 1) rfl rfl (by decide) (rfl : _ = ([(1, .int (x1 + iI 1)), (0, .ref h_p0)] : List (Nat × Value))) (fun ls hl => ?_)
        refine lv_goto (tgt := 46) hx hb dX0_init_66 (by decide) ?_
        exact ih b_ends b_holders (upd v_ends x1.toNatClampNeg (iI 9)) v_holders (x1 + iI 1) _ _ hP hD hS ls (lv_sub hl [1, 0] rfl) h
  have L22 : ∀ (k : Nat), (∀ (b_ends : Nat) (b_holders : Nat) (v_ends : Nat → Int32) (v_holders : Nat → Int32) (x1 : Int32) (H : Heap) (locs : List Loc), va_P (dC, dI) vwCl [(h_p0, .inr (0, [.ref b_holders, .ref b_ends])), (b_ends, .inl (cyI, 3, .inl v_ends)), (b_holders, .inl (cyI, 162, .inl v_holders))] H → va_D A [(h_p0, .inr (0, [.ref b_holders, .ref b_ends])), (b_ends, .inl (cyI, 3, .inl v_ends)), (b_holders, .inl (cyI, 162, .inl v_holders))] → va_S A s.heap H locs → ∀ (ls : Array Slot), lv_has ls 2 [(0, .ref h_p0), (1, .int x1)] →  s_X0_init_L22 n k v_ends v_holders x1 = some o → W p l e (headSpec wsX0_init ({ frames := 1, cells := 2, slots := 165, locals := 12 })).room s m (([.ref h_p0] : List Value).toArray) below meth c H locs 2 165 (MQ below (va_Qv (S := Unit) (fun _ => True) (fun _ t => ∃ (b_ends : Nat) (b_holders : Nat), WLD (dC, dI) A [(h_p0, .inr (0, [.ref b_holders, .ref b_ends])), (b_ends, .inl (cyI, 3, .inl o.1)), (b_holders, .inl (cyI, 162, .inl o.2))] t) A) (([.ref h_p0] : List Value).toArray) s 2 165 A) (F0 m 22 ls [])) := by
    intro k
    induction k with
    | zero =>
      intro b_ends b_holders v_ends v_holders x1 H locs hP hD hS ls hl h
      rw [s_X0_init_L22] at h
      cases h
    | succ k ih =>
      intro b_ends b_holders v_ends v_holders x1 H locs hP hD hS ls hl h
      rw [s_X0_init_L22] at h
      refine lv_iload_n hx hb dX0_init_22 rfl (lv_at hl 1 rfl) ?_
      refine lv_aload_n hx hb dX0_init_23 rfl (lv_at hl 0 rfl) ?_
      refine va_get (D := (dC, dI)) (ci := 0) (v := .ref b_holders) (C := RX0) (T := TX0) (N := 2) hx hb hts m_X0_init_0 hown hK hP 0 rfl rfl 0 (by decide) (hts (.fieldLink RX0 9 "SleeperBerths$Berths" "holders" "[I") m_X0_init_2) (fun _ h9 => h9) rfl dX0_init_24 ?_
      refine va_alen (D := (dC, dI)) (v := iI 162) hx hb hK hP 2 0 rfl rfl (show Int32.ofNat 162 = iI 162 by decide) dX0_init_27 ?_
      refine lv_icmp_ge (tgt := 44) hx hb dX0_init_28 (by decide) (fun c3 => ?_) (fun c3 => ?_)
      · have h := ipos c3 h
        refine lv_iconst (v := iI 0) hx hb dX0_init_44 rfl ?_
        refine lv_istore_n hx hb dX0_init_45 rfl hl (by decide) (rfl : _ = ([(1, .int (iI 0)), (0, .ref h_p0)] : List (Nat × Value))) (fun ls hl => ?_)
        exact L46 n b_ends b_holders v_ends v_holders (iI 0) _ _ hP hD hS ls (lv_sub hl [1, 0] rfl) h
      · have h := ineg c3 h
        refine lv_aload_n hx hb dX0_init_31 rfl (lv_at hl 0 rfl) ?_
        refine va_get (D := (dC, dI)) (ci := 0) (v := .ref b_holders) (C := RX0) (T := TX0) (N := 2) hx hb hts m_X0_init_0 hown hK hP 0 rfl rfl 0 (by decide) (hts (.fieldLink RX0 9 "SleeperBerths$Berths" "holders" "[I") m_X0_init_2) (fun _ h9 => h9) rfl dX0_init_32 ?_
        refine lv_iload_n hx hb dX0_init_35 rfl (lv_at hl 1 rfl) ?_
        refine lv_iconst (v := iI (-1)) hx hb dX0_init_36 rfl ?_
        obtain ⟨g4, h⟩ := gsome h
        refine va_iast (D := (dC, dI)) hx hb hK hP hD hS 2 0 rfl rfl g4 dX0_init_37 (fun H locs hP hD hS => ?_)
        have hP : va_P (dC, dI) vwCl [(h_p0, .inr (0, [.ref b_holders, .ref b_ends])), (b_ends, .inl (cyI, 3, .inl v_ends)), (b_holders, .inl (cyI, 162, .inl (upd v_holders x1.toNatClampNeg (iI (-1)))))] H := hP
        have hD : va_D A [(h_p0, .inr (0, [.ref b_holders, .ref b_ends])), (b_ends, .inl (cyI, 3, .inl v_ends)), (b_holders, .inl (cyI, 162, .inl (upd v_holders x1.toNatClampNeg (iI (-1)))))] := hD
        refine lv_iinc (v := (x1 + iI 1)) hx hb dX0_init_38 hl (k := 1) rfl rfl (by decide) (rfl : _ = ([(1, .int (x1 + iI 1)), (0, .ref h_p0)] : List (Nat × Value))) (fun ls hl => ?_)
        refine lv_goto (tgt := 22) hx hb dX0_init_41 (by decide) ?_
        exact ih b_ends b_holders v_ends (upd v_holders x1.toNatClampNeg (iI (-1))) (x1 + iI 1) _ _ hP hD hS ls (lv_sub hl [1, 0] rfl) h
  have hl := lv_entry ([.ref h_p0]) (n := 2) (Nat.le_of_ble_eq_true rfl)
  rw [lg_entry_eq]
  generalize (lg_sl ([.ref h_p0]) ++ List.replicate (2 - (lg_sl ([.ref h_p0])).length) Slot.unset).toArray = ls at hl ⊢
  have hl : lv_has ls 2 [(0, .ref h_p0)] := hl
  unfold s_X0_init at h
  refine lv_aload_n hx hb dX0_init_0 rfl (lv_at hl 0 rfl) ?_
  refine W.objInit hx hb hown (hts (.methodLink RX0 3 objectInit) m_X0_init_3) (hts (.instanceMethod objectInit) m_X0_init_4) (hts (.code objectInit ⟨#[0xb1]⟩ 1 none) m_X0_init_5) rfl (by rw [hml]; exact hl.1) rfl dX0_init_1 (Nat.le_of_ble_eq_true rfl) (Nat.le_of_ble_eq_true rfl) ?_
  refine W.eq (g2 := F0 m 4 ls []) rfl ?_
  refine lv_aload_n hx hb dX0_init_4 rfl (lv_at hl 0 rfl) ?_
  refine lv_sipush (v := iI 162) hx hb dX0_init_5 (by decide) ?_
  refine newI hx hb (hts (.arrayClass .int) m_X0_init_6) dX0_init_8 hK hP hD hS hA (NN := 162) (by decide) (by decide) (by decide) (Nat.le_of_ble_eq_true rfl) (Nat.le_of_ble_eq_true rfl) (fun q5 H hP hD hS => ?_)
  have hP : va_P (dC, dI) vwCl [(h_p0, .inr (0, [.null, .null])), (q5, .inl (cyI, 162, .inl (fun _ => 0)))] H := hP
  have hD : va_D A [(h_p0, .inr (0, [.null, .null])), (q5, .inl (cyI, 162, .inl (fun _ => 0)))] := hD
  refine va_putF (D := (dC, dI)) (ci := 0) (v := .ref q5) (ty := .array .int) (C := RX0) (T := TX0) (N := 2) hx hb hts m_X0_init_0 tyX0 tyX0_ok nmX0 hown hK hP hD hS 0 rfl rfl 0 (by decide) (hts (.fieldLink RX0 9 "SleeperBerths$Berths" "holders" "[I") m_X0_init_2) (fun _ h9 => h9) rfl hin rfl (by decide +kernel) rfl rfl (Nat.le_of_ble_eq_true rfl) dX0_init_10 (fun H locs hP hD hS => ?_)
  have hP : va_P (dC, dI) vwCl [(h_p0, .inr (0, [.ref q5, .null])), (q5, .inl (cyI, 162, .inl (fun _ => 0)))] H := hP
  have hD : va_D A [(h_p0, .inr (0, [.ref q5, .null])), (q5, .inl (cyI, 162, .inl (fun _ => 0)))] := hD
  refine lv_aload_n hx hb dX0_init_13 rfl (lv_at hl 0 rfl) ?_
  refine lv_iconst (v := iI 3) hx hb dX0_init_14 rfl ?_
  refine newI hx hb (hts (.arrayClass .int) m_X0_init_6) dX0_init_15 hK hP hD hS hA (NN := 3) (by decide) (by decide) (by decide) (Nat.le_of_ble_eq_true rfl) (Nat.le_of_ble_eq_true rfl) (fun q6 H hP hD hS => ?_)
  have hP : va_P (dC, dI) vwCl [(h_p0, .inr (0, [.ref q5, .null])), (q5, .inl (cyI, 162, .inl (fun _ => 0))), (q6, .inl (cyI, 3, .inl (fun _ => 0)))] H := hP
  have hD : va_D A [(h_p0, .inr (0, [.ref q5, .null])), (q5, .inl (cyI, 162, .inl (fun _ => 0))), (q6, .inl (cyI, 3, .inl (fun _ => 0)))] := hD
  refine va_putF (D := (dC, dI)) (ci := 0) (v := .ref q6) (ty := .array .int) (C := RX0) (T := TX0) (N := 2) hx hb hts m_X0_init_0 tyX0 tyX0_ok nmX0 hown hK hP hD hS 0 rfl rfl 1 (by decide) (hts (.fieldLink RX0 15 "SleeperBerths$Berths" "ends" "[I") m_X0_init_1) (fun _ h9 => h9) rfl hin rfl (by decide +kernel) rfl rfl (Nat.le_of_ble_eq_true rfl) dX0_init_17 (fun H locs hP hD hS => ?_)
  have hP : va_P (dC, dI) vwCl [(h_p0, .inr (0, [.ref q5, .ref q6])), (q5, .inl (cyI, 162, .inl (fun _ => 0))), (q6, .inl (cyI, 3, .inl (fun _ => 0)))] H := hP
  have hD : va_D A [(h_p0, .inr (0, [.ref q5, .ref q6])), (q5, .inl (cyI, 162, .inl (fun _ => 0))), (q6, .inl (cyI, 3, .inl (fun _ => 0)))] := hD
  refine lv_iconst (v := iI 0) hx hb dX0_init_20 rfl ?_
  refine lv_istore_n hx hb dX0_init_21 rfl hl (by decide) (rfl : _ = ([(1, .int (iI 0)), (0, .ref h_p0)] : List (Nat × Value))) (fun ls hl => ?_)
  exact L22 n q6 q5 (fun _ => 0) (fun _ => 0) (iI 0) _ _ (sb_P [(h_p0, .inr (0, [.ref q5, .ref q6])), (q6, .inl (cyI, 3, .inl (fun _ => 0))), (q5, .inl (cyI, 162, .inl (fun _ => 0)))] hP [0, 2, 1] rfl) (sb_D [(h_p0, .inr (0, [.ref q5, .ref q6])), (q6, .inl (cyI, 3, .inl (fun _ => 0))), (q5, .inl (cyI, 162, .inl (fun _ => 0)))] hD [0, 2, 1] (by decide) rfl) hS ls (lv_sub hl [1, 0] rfl) h
def s_X3_init : Option (Int32 × (Nat → Int32)) := (some (0, (fun _ => 0)))
set_option maxRecDepth 20000 in
theorem m_X3_init_0 : (.methodLink RX3 3 objectInit : Cond) ∈ wsX3_init := by decide +kernel
set_option maxRecDepth 20000 in
theorem m_X3_init_1 : (.instanceMethod objectInit : Cond) ∈ wsX3_init := by decide +kernel
set_option maxRecDepth 20000 in
theorem m_X3_init_2 : (.code objectInit ⟨#[0xb1]⟩ 1 none : Cond) ∈ wsX3_init := by decide +kernel
set_option maxRecDepth 20000 in
theorem m_X3_init_3 : (.arrayClass .int : Cond) ∈ wsX3_init := by decide +kernel
set_option maxRecDepth 20000 in
theorem m_X3_init_4 : ∀ w ∈ u_ws RX3 TX3 2, w ∈ wsX3_init := by decide +kernel
set_option maxRecDepth 20000 in
theorem m_X3_init_5 : (.fieldLink RX3 9 "SleeperBerths$Roster" "cells" "[I" : Cond) ∈ wsX3_init := by decide +kernel
set_option maxHeartbeats 4000000 in
set_option maxRecDepth 100000 in
theorem c_X3_init (l : Launch) (dC : Nat → ClassId) (dI : Nat → Nat → Nat) (cyI cyJ cyT : ClassId) (h_p0 : Nat) (sz : Nat) (o : Int32 × (Nat → Int32)) (h : s_X3_init = some o) : Met l yX3_init wsX3_init ({ frames := 1, cells := 1, slots := 280, locals := 12 }) (va_Pc [.ref h_p0] (PRE (dC, dI) (TYS cyI cyJ cyT) sz [(h_p0, .inr (3, [.null, .int 0]))])) (va_Qv (S := Unit) (fun _ => True) (fun _ t => ∃ (b_cells : Nat), WLD (dC, dI) (va_A [(h_p0, .inr (3, [.null, .int 0]))] sz) [(h_p0, .inr (3, [.ref b_cells, .int o.1])), (b_cells, .inl (cyI, 280, .inl o.2))] t) (va_A [(h_p0, .inr (3, [.null, .int 0]))] sz)) 1 280 (va_A [(h_p0, .inr (3, [.null, .int 0]))] sz) := by
  refine Met.ofW (cc := cX3_init) (maxL := 1) (ret := none) (by decide) rfl ?_
  intro p e s m args below meth c s₁ B hml hv
  obtain ⟨rfl, hsz, hP, hK, hD0, hNW⟩ := hv
  have hx := B.exec
  have hb := B.bytes
  have hr := B.returns
  have hts := atoms_spec (ws := wsX3_init) B.pre
  have hown : s.vm.findClass RX3 = some m.cls := findClass_of_methodNamed B.named
  have hlocks := B.notSynchronized
  have hin : meth.name = "<init>" := (name_of_methodNamed B.named B.method).1
  subst hsz
  have hD := hD0.self (sz := s.heap.size)
  generalize hAe : va_A [(h_p0, .inr (3, [.null, .int 0]))] s.heap.size = A at hD ⊢
  have hA : ∀ q : Nat, s.heap.size ≤ q → A q := fun q h => by rw [← hAe]; exact Or.inr h
  have hS : va_S A s.heap s.heap [] := va_S.rf
  have hP : va_P (dC, dI) vwCl [(h_p0, .inr (3, [.null, .int 0]))] s.heap := hP
  have hl := lv_entry ([.ref h_p0]) (n := 1) (Nat.le_of_ble_eq_true rfl)
  rw [lg_entry_eq]
  generalize (lg_sl ([.ref h_p0]) ++ List.replicate (1 - (lg_sl ([.ref h_p0])).length) Slot.unset).toArray = ls at hl ⊢
  have hl : lv_has ls 1 [(0, .ref h_p0)] := hl
  unfold s_X3_init at h
  refine lv_aload_n hx hb dX3_init_0 rfl (lv_at hl 0 rfl) ?_
  refine W.objInit hx hb hown (hts (.methodLink RX3 3 objectInit) m_X3_init_0) (hts (.instanceMethod objectInit) m_X3_init_1) (hts (.code objectInit ⟨#[0xb1]⟩ 1 none) m_X3_init_2) rfl (by rw [hml]; exact hl.1) rfl dX3_init_1 (Nat.le_of_ble_eq_true rfl) (Nat.le_of_ble_eq_true rfl) ?_
  refine W.eq (g2 := F0 m 4 ls []) rfl ?_
  refine lv_aload_n hx hb dX3_init_4 rfl (lv_at hl 0 rfl) ?_
  refine lv_sipush (v := iI 280) hx hb dX3_init_5 (by decide) ?_
  refine newI hx hb (hts (.arrayClass .int) m_X3_init_3) dX3_init_8 hK hP hD hS hA (NN := 280) (by decide) (by decide) (by decide) (Nat.le_of_ble_eq_true rfl) (Nat.le_of_ble_eq_true rfl) (fun q1 H hP hD hS => ?_)
  have hP : va_P (dC, dI) vwCl [(h_p0, .inr (3, [.null, .int 0])), (q1, .inl (cyI, 280, .inl (fun _ => 0)))] H := hP
  have hD : va_D A [(h_p0, .inr (3, [.null, .int 0])), (q1, .inl (cyI, 280, .inl (fun _ => 0)))] := hD
  refine va_putF (D := (dC, dI)) (ci := 3) (v := .ref q1) (ty := .array .int) (C := RX3) (T := TX3) (N := 2) hx hb hts m_X3_init_4 tyX3 tyX3_ok nmX3 hown hK hP hD hS 0 rfl rfl 0 (by decide) (hts (.fieldLink RX3 9 "SleeperBerths$Roster" "cells" "[I") m_X3_init_5) (fun _ h9 => h9) rfl hin rfl (by decide +kernel) rfl rfl (Nat.le_of_ble_eq_true rfl) dX3_init_10 (fun H locs hP hD hS => ?_)
  have hP : va_P (dC, dI) vwCl [(h_p0, .inr (3, [.ref q1, .int 0])), (q1, .inl (cyI, 280, .inl (fun _ => 0)))] H := hP
  have hD : va_D A [(h_p0, .inr (3, [.ref q1, .int 0])), (q1, .inl (cyI, 280, .inl (fun _ => 0)))] := hD
  obtain rfl := Option.some.inj h
  refine W.widen (k := 1) (n := 280) (Nat.le_of_ble_eq_true rfl) (Nat.le_of_ble_eq_true rfl) ?_
  exact W.vret hx hb hr (fun t ht hW => ⟨⟨(), rfl, trivial, q1, WLD.of ht hP hD⟩, hS.F ht⟩) hS.2.2 dX3_init_13
def s_X5_init (n : Nat) : Option (Int32 × Int32 × Int32 × (Nat → Int32) × (Nat → Int32) × Int32 × (Nat → Int32) × (Nat → Int32)) := ((s_X0_init n).bind fun r2 => (s_X3_init.bind fun r8 => (if gd (iI 0) 3 = true then (if gd (iI 1) 3 = true then (if gd (iI 2) 3 = true then (some (0, 0, 0, r2.1, r2.2, r8.1, r8.2, (upd (upd (upd (fun _ => 0) (iI 0).toNatClampNeg (iI 3)) (iI 1).toNatClampNeg (iI 6)) (iI 2).toNatClampNeg (iI 10)))) else none) else none) else none)))
set_option maxRecDepth 20000 in
theorem m_X5_init_0 : (.methodLink RX5 3 objectInit : Cond) ∈ wsX5_init := by decide +kernel
set_option maxRecDepth 20000 in
theorem m_X5_init_1 : (.instanceMethod objectInit : Cond) ∈ wsX5_init := by decide +kernel
set_option maxRecDepth 20000 in
theorem m_X5_init_2 : (.code objectInit ⟨#[0xb1]⟩ 1 none : Cond) ∈ wsX5_init := by decide +kernel
set_option maxRecDepth 20000 in
theorem m_X5_init_3 : ∀ w ∈ u_ws RX0 TX0 2, w ∈ wsX5_init := by decide +kernel
set_option maxRecDepth 20000 in
theorem m_X5_init_4 : (.classLink RX5 9 RX0 : Cond) ∈ wsX5_init := by decide +kernel
set_option maxRecDepth 20000 in
theorem m_X5_init_5 : (.instantiable RX0 2 : Cond) ∈ wsX5_init := by decide +kernel
set_option maxRecDepth 20000 in
theorem m_X5_init_6 : (.initialized RX0 : Cond) ∈ wsX5_init := by decide +kernel
set_option maxRecDepth 20000 in
theorem m_X5_init_7 : (.methodLink RX5 11 yX0_init : Cond) ∈ wsX5_init := by decide +kernel
set_option maxRecDepth 20000 in
theorem m_X5_init_8 : (.instanceMethod yX0_init : Cond) ∈ wsX5_init := by decide +kernel
set_option maxRecDepth 20000 in
theorem m_X5_init_9 : ∀ w ∈ u_ws RX5 TX5 6, w ∈ wsX5_init := by decide +kernel
set_option maxRecDepth 20000 in
theorem m_X5_init_10 : (.fieldLink RX5 12 "SleeperBerths$Train" "berths" "LSleeperBerths$Berths;" : Cond) ∈ wsX5_init := by decide +kernel
set_option maxRecDepth 20000 in
theorem m_X5_init_11 : ∀ w ∈ u_ws RX3 TX3 2, w ∈ wsX5_init := by decide +kernel
set_option maxRecDepth 20000 in
theorem m_X5_init_12 : (.classLink RX5 18 RX3 : Cond) ∈ wsX5_init := by decide +kernel
set_option maxRecDepth 20000 in
theorem m_X5_init_13 : (.instantiable RX3 2 : Cond) ∈ wsX5_init := by decide +kernel
set_option maxRecDepth 20000 in
theorem m_X5_init_14 : (.initialized RX3 : Cond) ∈ wsX5_init := by decide +kernel
set_option maxRecDepth 20000 in
theorem m_X5_init_15 : (.instanceMethod yX3_init : Cond) ∈ wsX5_init := by decide +kernel
set_option maxRecDepth 20000 in
theorem m_X5_init_16 : (.fieldLink RX5 21 "SleeperBerths$Train" "roster" "LSleeperBerths$Roster;" : Cond) ∈ wsX5_init := by decide +kernel
set_option maxRecDepth 20000 in
theorem m_X5_init_17 : (.arrayClass .int : Cond) ∈ wsX5_init := by decide +kernel
set_option maxRecDepth 20000 in
theorem m_X5_init_18 : (.fieldLink RX5 25 "SleeperBerths$Train" "settings" "[I" : Cond) ∈ wsX5_init := by decide +kernel
set_option maxHeartbeats 4000000 in
set_option maxRecDepth 100000 in
theorem c_X5_init (l : Launch) (dC : Nat → ClassId) (dI : Nat → Nat → Nat) (cyI cyJ cyT : ClassId) (h_p0 : Nat) (sz : Nat) (n : Nat) (o : Int32 × Int32 × Int32 × (Nat → Int32) × (Nat → Int32) × Int32 × (Nat → Int32) × (Nat → Int32)) (h : s_X5_init n = some o) : Met l yX5_init wsX5_init ({ frames := 2, cells := 6, slots := 452, locals := 33 }) (va_Pc [.ref h_p0] (PRE (dC, dI) (TYS cyI cyJ cyT) sz [(h_p0, .inr (5, [.null, .null, .null, .int 0, .int 0, .int 0]))])) (va_Qv (S := Unit) (fun _ => True) (fun _ t => ∃ (b_berths : Nat) (b_berths_ends : Nat) (b_berths_holders : Nat) (b_roster : Nat) (b_roster_cells : Nat) (b_settings : Nat), WLD (dC, dI) (va_A [(h_p0, .inr (5, [.null, .null, .null, .int 0, .int 0, .int 0]))] sz) [(h_p0, .inr (5, [.ref b_berths, .ref b_roster, .ref b_settings, .int o.1, .int o.2.1, .int o.2.2.1])), (b_berths, .inr (0, [.ref b_berths_holders, .ref b_berths_ends])), (b_berths_ends, .inl (cyI, 3, .inl o.2.2.2.1)), (b_berths_holders, .inl (cyI, 162, .inl o.2.2.2.2.1)), (b_roster, .inr (3, [.ref b_roster_cells, .int o.2.2.2.2.2.1])), (b_roster_cells, .inl (cyI, 280, .inl o.2.2.2.2.2.2.1)), (b_settings, .inl (cyI, 3, .inl o.2.2.2.2.2.2.2))] t) (va_A [(h_p0, .inr (5, [.null, .null, .null, .int 0, .int 0, .int 0]))] sz)) 6 452 (va_A [(h_p0, .inr (5, [.null, .null, .null, .int 0, .int 0, .int 0]))] sz) := by
  refine Met.ofW (cc := cX5_init) (maxL := 1) (ret := none) (by decide) rfl ?_
  intro p e s m args below meth c s₁ B hml hv
  obtain ⟨rfl, hsz, hP, hK, hD0, hNW⟩ := hv
  have hx := B.exec
  have hb := B.bytes
  have hr := B.returns
  have hts := atoms_spec (ws := wsX5_init) B.pre
  have hown : s.vm.findClass RX5 = some m.cls := findClass_of_methodNamed B.named
  have hlocks := B.notSynchronized
  have hin : meth.name = "<init>" := (name_of_methodNamed B.named B.method).1
  subst hsz
  have hD := hD0.self (sz := s.heap.size)
  generalize hAe : va_A [(h_p0, .inr (5, [.null, .null, .null, .int 0, .int 0, .int 0]))] s.heap.size = A at hD ⊢
  have hA : ∀ q : Nat, s.heap.size ≤ q → A q := fun q h => by rw [← hAe]; exact Or.inr h
  have hS : va_S A s.heap s.heap [] := va_S.rf
  have hP : va_P (dC, dI) vwCl [(h_p0, .inr (5, [.null, .null, .null, .int 0, .int 0, .int 0]))] s.heap := hP
  have hl := lv_entry ([.ref h_p0]) (n := 1) (Nat.le_of_ble_eq_true rfl)
  rw [lg_entry_eq]
  generalize (lg_sl ([.ref h_p0]) ++ List.replicate (1 - (lg_sl ([.ref h_p0])).length) Slot.unset).toArray = ls at hl ⊢
  have hl : lv_has ls 1 [(0, .ref h_p0)] := hl
  unfold s_X5_init at h
  refine lv_aload_n hx hb dX5_init_0 rfl (lv_at hl 0 rfl) ?_
  refine W.objInit hx hb hown (hts (.methodLink RX5 3 objectInit) m_X5_init_0) (hts (.instanceMethod objectInit) m_X5_init_1) (hts (.code objectInit ⟨#[0xb1]⟩ 1 none) m_X5_init_2) rfl (by rw [hml]; exact hl.1) rfl dX5_init_1 (Nat.le_of_ble_eq_true rfl) (Nat.le_of_ble_eq_true rfl) ?_
  refine W.eq (g2 := F0 m 4 ls []) rfl ?_
  refine lv_aload_n hx hb dX5_init_4 rfl (lv_at hl 0 rfl) ?_
  refine va_new (ci := 0) (fs := [.null, .null]) (C := RX0) (T := TX0) (N := 2) hx hb hts m_X5_init_3 tyX0 tyX0_ok hown (hts (.classLink RX5 9 RX0) m_X5_init_4) (hts (.instantiable RX0 2) m_X5_init_5) (hts (.initialized RX0) m_X5_init_6) hK hP hD hS hA rfl (fun j hj => by rcases (show j = 0 ∨ j = 1 by omega) with rfl | rfl <;> rfl) (Nat.le_of_ble_eq_true rfl) (Nat.le_of_ble_eq_true rfl) dX5_init_5 (fun q1 H hP hD hS => ?_)
  have hP : va_P (dC, dI) vwCl [(h_p0, .inr (5, [.null, .null, .null, .int 0, .int 0, .int 0])), (q1, .inr (0, [.null, .null]))] H := hP
  have hD : va_D A [(h_p0, .inr (5, [.null, .null, .null, .int 0, .int 0, .int 0])), (q1, .inr (0, [.null, .null]))] := hD
  refine lv_dup hx hb dX5_init_8 rfl ?_
  obtain ⟨r2, e3, h⟩ := bsome h
  have hPc := sb_P [(q1, .inr (0, [.null, .null]))] hP [1] rfl
  have hDc := sb_D [(q1, .inr (0, [.null, .null]))] hD [1] (by decide) rfl
  have hFc := va_free (wc := [(q1, .inr (0, [.null, .null]))]) hD hS hA [1] rfl
  refine va_callv (va_runI (As := []) (rest := [.ref q1, .ref h_p0]) ⟨hx, hb, hml, hown, hts⟩ (c_X0_init l dC dI cyI cyJ cyT q1 H.size n r2 e3) (cwI 0 hts gX5_init_X0_init rfl rfl rfl (hts (.initialized RX0) m_X5_init_6) (hts (.methodLink RX5 11 yX0_init) m_X5_init_7) (hts (.instanceMethod yX0_init) m_X5_init_8) rfl (by decide +kernel) ⟨Nat.le_of_ble_eq_true rfl, Nat.le_of_ble_eq_true rfl⟩) ⟨PRE.blind, PRE.go hK hPc hDc hNW⟩ rfl rfl hl.1 rfl (lv_room (Nat.le_of_ble_eq_true rfl)) dX5_init_9 ⟨(Nat.le_of_ble_eq_true rfl), (Nat.le_of_ble_eq_true rfl)⟩) hS (fun q _ h => hFc q h) hFc (fun u t H locs ht hvm hw hB hz1 hk1 hS => ?_)
  obtain ⟨q4, q5, hB⟩ := hB
  obtain ⟨hP, hD⟩ := va_join (wr := [(h_p0, .inr (5, [.null, .null, .null, .int 0, .int 0, .int 0]))]) (w1 := [(q1, .inr (0, [.ref q5, .ref q4])), (q4, .inl (cyI, 3, .inl r2.1)), (q5, .inl (cyI, 162, .inl r2.2))]) hP hD [1] [0] rfl rfl (by decide) (by decide) hk1 hFc (WLD.P hB ht) hB.2
  have hP : va_P (dC, dI) vwCl [(h_p0, .inr (5, [.null, .null, .null, .int 0, .int 0, .int 0])), (q1, .inr (0, [.ref q5, .ref q4])), (q4, .inl (cyI, 3, .inl r2.1)), (q5, .inl (cyI, 162, .inl r2.2))] H := hP
  have hD : va_D A [(h_p0, .inr (5, [.null, .null, .null, .int 0, .int 0, .int 0])), (q1, .inr (0, [.ref q5, .ref q4])), (q4, .inl (cyI, 3, .inl r2.1)), (q5, .inl (cyI, 162, .inl r2.2))] := hD
  refine va_putF (D := (dC, dI)) (ci := 5) (v := .ref q1) (ty := .object "SleeperBerths$Berths") (C := RX5) (T := TX5) (N := 6) hx hb hts m_X5_init_9 tyX5 tyX5_ok nmX5 hown hK hP hD hS 0 rfl rfl 0 (by decide) (hts (.fieldLink RX5 12 "SleeperBerths$Train" "berths" "LSleeperBerths$Berths;") m_X5_init_10) (fun _ h9 => h9) rfl hin rfl (by decide +kernel) rfl rfl (Nat.le_of_ble_eq_true rfl) dX5_init_12 (fun H locs hP hD hS => ?_)
  have hP : va_P (dC, dI) vwCl [(h_p0, .inr (5, [.ref q1, .null, .null, .int 0, .int 0, .int 0])), (q1, .inr (0, [.ref q5, .ref q4])), (q4, .inl (cyI, 3, .inl r2.1)), (q5, .inl (cyI, 162, .inl r2.2))] H := hP
  have hD : va_D A [(h_p0, .inr (5, [.ref q1, .null, .null, .int 0, .int 0, .int 0])), (q1, .inr (0, [.ref q5, .ref q4])), (q4, .inl (cyI, 3, .inl r2.1)), (q5, .inl (cyI, 162, .inl r2.2))] := hD
  refine lv_aload_n hx hb dX5_init_15 rfl (lv_at hl 0 rfl) ?_
  refine va_new (ci := 3) (fs := [.null, .int 0]) (C := RX3) (T := TX3) (N := 2) hx hb hts m_X5_init_11 tyX3 tyX3_ok hown (hts (.classLink RX5 18 RX3) m_X5_init_12) (hts (.instantiable RX3 2) m_X5_init_13) (hts (.initialized RX3) m_X5_init_14) hK hP hD hS hA rfl (fun j hj => by rcases (show j = 0 ∨ j = 1 by omega) with rfl | rfl <;> rfl) (Nat.le_of_ble_eq_true rfl) (Nat.le_of_ble_eq_true rfl) dX5_init_16 (fun q7 H hP hD hS => ?_)
  have hP : va_P (dC, dI) vwCl [(h_p0, .inr (5, [.ref q1, .null, .null, .int 0, .int 0, .int 0])), (q1, .inr (0, [.ref q5, .ref q4])), (q4, .inl (cyI, 3, .inl r2.1)), (q5, .inl (cyI, 162, .inl r2.2)), (q7, .inr (3, [.null, .int 0]))] H := hP
  have hD : va_D A [(h_p0, .inr (5, [.ref q1, .null, .null, .int 0, .int 0, .int 0])), (q1, .inr (0, [.ref q5, .ref q4])), (q4, .inl (cyI, 3, .inl r2.1)), (q5, .inl (cyI, 162, .inl r2.2)), (q7, .inr (3, [.null, .int 0]))] := hD
  refine lv_dup hx hb dX5_init_19 rfl ?_
  obtain ⟨r8, e9, h⟩ := bsome h
  have hPc := sb_P [(q7, .inr (3, [.null, .int 0]))] hP [4] rfl
  have hDc := sb_D [(q7, .inr (3, [.null, .int 0]))] hD [4] (by decide) rfl
  have hFc := va_free (wc := [(q7, .inr (3, [.null, .int 0]))]) hD hS hA [4] rfl
  refine va_callv (va_runIN (As := []) (rest := [.ref q7, .ref h_p0]) ⟨hx, hb, hml, hown, hts⟩ (c_X3_init l dC dI cyI cyJ cyT q7 H.size r8 e9) ⟨va_cnB (host := "SleeperBerths") 0 hts gX5_init_X3_init_n20 rfl rfl rfl (hNW.1 1 rfl) (hts (.initialized RX3) m_X5_init_14) (by decide +kernel) ⟨Nat.le_of_ble_eq_true rfl, Nat.le_of_ble_eq_true rfl⟩, rfl, (hts (.instanceMethod yX3_init) m_X5_init_15)⟩ ⟨PRE.blind, PRE.go hK hPc hDc hNW⟩ rfl rfl hl.1 rfl (lv_room (Nat.le_of_ble_eq_true rfl)) dX5_init_20 ⟨(Nat.le_of_ble_eq_true rfl), (Nat.le_of_ble_eq_true rfl)⟩) hS (fun q _ h => hFc q h) hFc (fun u t H locs ht hvm hw hB hz1 hk1 hS => ?_)
  obtain ⟨q10, hB⟩ := hB
  obtain ⟨hP, hD⟩ := va_join (wr := [(h_p0, .inr (5, [.ref q1, .null, .null, .int 0, .int 0, .int 0])), (q1, .inr (0, [.ref q5, .ref q4])), (q4, .inl (cyI, 3, .inl r2.1)), (q5, .inl (cyI, 162, .inl r2.2))]) (w1 := [(q7, .inr (3, [.ref q10, .int r8.1])), (q10, .inl (cyI, 280, .inl r8.2))]) hP hD [4] [0, 1, 2, 3] rfl rfl (by decide) (by decide) hk1 hFc (WLD.P hB ht) hB.2
  have hP : va_P (dC, dI) vwCl [(h_p0, .inr (5, [.ref q1, .null, .null, .int 0, .int 0, .int 0])), (q1, .inr (0, [.ref q5, .ref q4])), (q4, .inl (cyI, 3, .inl r2.1)), (q5, .inl (cyI, 162, .inl r2.2)), (q7, .inr (3, [.ref q10, .int r8.1])), (q10, .inl (cyI, 280, .inl r8.2))] H := hP
  have hD : va_D A [(h_p0, .inr (5, [.ref q1, .null, .null, .int 0, .int 0, .int 0])), (q1, .inr (0, [.ref q5, .ref q4])), (q4, .inl (cyI, 3, .inl r2.1)), (q5, .inl (cyI, 162, .inl r2.2)), (q7, .inr (3, [.ref q10, .int r8.1])), (q10, .inl (cyI, 280, .inl r8.2))] := hD
  refine va_putF (D := (dC, dI)) (ci := 5) (v := .ref q7) (ty := .object "SleeperBerths$Roster") (C := RX5) (T := TX5) (N := 6) hx hb hts m_X5_init_9 tyX5 tyX5_ok nmX5 hown hK hP hD hS 0 rfl rfl 1 (by decide) (hts (.fieldLink RX5 21 "SleeperBerths$Train" "roster" "LSleeperBerths$Roster;") m_X5_init_16) (fun _ h9 => h9) rfl hin rfl (by decide +kernel) rfl rfl (Nat.le_of_ble_eq_true rfl) dX5_init_23 (fun H locs hP hD hS => ?_)
  have hP : va_P (dC, dI) vwCl [(h_p0, .inr (5, [.ref q1, .ref q7, .null, .int 0, .int 0, .int 0])), (q1, .inr (0, [.ref q5, .ref q4])), (q4, .inl (cyI, 3, .inl r2.1)), (q5, .inl (cyI, 162, .inl r2.2)), (q7, .inr (3, [.ref q10, .int r8.1])), (q10, .inl (cyI, 280, .inl r8.2))] H := hP
  have hD : va_D A [(h_p0, .inr (5, [.ref q1, .ref q7, .null, .int 0, .int 0, .int 0])), (q1, .inr (0, [.ref q5, .ref q4])), (q4, .inl (cyI, 3, .inl r2.1)), (q5, .inl (cyI, 162, .inl r2.2)), (q7, .inr (3, [.ref q10, .int r8.1])), (q10, .inl (cyI, 280, .inl r8.2))] := hD
  refine lv_aload_n hx hb dX5_init_26 rfl (lv_at hl 0 rfl) ?_
  refine lv_iconst (v := iI 3) hx hb dX5_init_27 rfl ?_
  refine newI hx hb (hts (.arrayClass .int) m_X5_init_17) dX5_init_28 hK hP hD hS hA (NN := 3) (by decide) (by decide) (by decide) (Nat.le_of_ble_eq_true rfl) (Nat.le_of_ble_eq_true rfl) (fun q12 H hP hD hS => ?_)
  have hP : va_P (dC, dI) vwCl [(h_p0, .inr (5, [.ref q1, .ref q7, .null, .int 0, .int 0, .int 0])), (q1, .inr (0, [.ref q5, .ref q4])), (q4, .inl (cyI, 3, .inl r2.1)), (q5, .inl (cyI, 162, .inl r2.2)), (q7, .inr (3, [.ref q10, .int r8.1])), (q10, .inl (cyI, 280, .inl r8.2)), (q12, .inl (cyI, 3, .inl (fun _ => 0)))] H := hP
  have hD : va_D A [(h_p0, .inr (5, [.ref q1, .ref q7, .null, .int 0, .int 0, .int 0])), (q1, .inr (0, [.ref q5, .ref q4])), (q4, .inl (cyI, 3, .inl r2.1)), (q5, .inl (cyI, 162, .inl r2.2)), (q7, .inr (3, [.ref q10, .int r8.1])), (q10, .inl (cyI, 280, .inl r8.2)), (q12, .inl (cyI, 3, .inl (fun _ => 0)))] := hD
  refine lv_dup hx hb dX5_init_30 rfl ?_
  refine lv_iconst (v := iI 0) hx hb dX5_init_31 rfl ?_
  refine lv_iconst (v := iI 3) hx hb dX5_init_32 rfl ?_
  obtain ⟨g13, h⟩ := gsome h
  refine va_iast (D := (dC, dI)) hx hb hK hP hD hS 6 0 rfl rfl g13 dX5_init_33 (fun H locs hP hD hS => ?_)
  have hP : va_P (dC, dI) vwCl [(h_p0, .inr (5, [.ref q1, .ref q7, .null, .int 0, .int 0, .int 0])), (q1, .inr (0, [.ref q5, .ref q4])), (q4, .inl (cyI, 3, .inl r2.1)), (q5, .inl (cyI, 162, .inl r2.2)), (q7, .inr (3, [.ref q10, .int r8.1])), (q10, .inl (cyI, 280, .inl r8.2)), (q12, .inl (cyI, 3, .inl (upd (fun _ => 0) (iI 0).toNatClampNeg (iI 3))))] H := hP
  have hD : va_D A [(h_p0, .inr (5, [.ref q1, .ref q7, .null, .int 0, .int 0, .int 0])), (q1, .inr (0, [.ref q5, .ref q4])), (q4, .inl (cyI, 3, .inl r2.1)), (q5, .inl (cyI, 162, .inl r2.2)), (q7, .inr (3, [.ref q10, .int r8.1])), (q10, .inl (cyI, 280, .inl r8.2)), (q12, .inl (cyI, 3, .inl (upd (fun _ => 0) (iI 0).toNatClampNeg (iI 3))))] := hD
  refine lv_dup hx hb dX5_init_34 rfl ?_
  refine lv_iconst (v := iI 1) hx hb dX5_init_35 rfl ?_
  refine lv_bipush (v := iI 6) hx hb dX5_init_36 (by decide) ?_
  obtain ⟨g14, h⟩ := gsome h
  refine va_iast (D := (dC, dI)) hx hb hK hP hD hS 6 0 rfl rfl g14 dX5_init_38 (fun H locs hP hD hS => ?_)
  have hP : va_P (dC, dI) vwCl [(h_p0, .inr (5, [.ref q1, .ref q7, .null, .int 0, .int 0, .int 0])), (q1, .inr (0, [.ref q5, .ref q4])), (q4, .inl (cyI, 3, .inl r2.1)), (q5, .inl (cyI, 162, .inl r2.2)), (q7, .inr (3, [.ref q10, .int r8.1])), (q10, .inl (cyI, 280, .inl r8.2)), (q12, .inl (cyI, 3, .inl (upd (upd (fun _ => 0) (iI 0).toNatClampNeg (iI 3)) (iI 1).toNatClampNeg (iI 6))))] H := hP
  have hD : va_D A [(h_p0, .inr (5, [.ref q1, .ref q7, .null, .int 0, .int 0, .int 0])), (q1, .inr (0, [.ref q5, .ref q4])), (q4, .inl (cyI, 3, .inl r2.1)), (q5, .inl (cyI, 162, .inl r2.2)), (q7, .inr (3, [.ref q10, .int r8.1])), (q10, .inl (cyI, 280, .inl r8.2)), (q12, .inl (cyI, 3, .inl (upd (upd (fun _ => 0) (iI 0).toNatClampNeg (iI 3)) (iI 1).toNatClampNeg (iI 6))))] := hD
  refine lv_dup hx hb dX5_init_39 rfl ?_
  refine lv_iconst (v := iI 2) hx hb dX5_init_40 rfl ?_
  refine lv_bipush (v := iI 10) hx hb dX5_init_41 (by decide) ?_
  obtain ⟨g15, h⟩ := gsome h
  refine va_iast (D := (dC, dI)) hx hb hK hP hD hS 6 0 rfl rfl g15 dX5_init_43 (fun H locs hP hD hS => ?_)
  have hP : va_P (dC, dI) vwCl [(h_p0, .inr (5, [.ref q1, .ref q7, .null, .int 0, .int 0, .int 0])), (q1, .inr (0, [.ref q5, .ref q4])), (q4, .inl (cyI, 3, .inl r2.1)), (q5, .inl (cyI, 162, .inl r2.2)), (q7, .inr (3, [.ref q10, .int r8.1])), (q10, .inl (cyI, 280, .inl r8.2)), (q12, .inl (cyI, 3, .inl (upd (upd (upd (fun _ => 0) (iI 0).toNatClampNeg (iI 3)) (iI 1).toNatClampNeg (iI 6)) (iI 2).toNatClampNeg (iI 10))))] H := hP
  have hD : va_D A [(h_p0, .inr (5, [.ref q1, .ref q7, .null, .int 0, .int 0, .int 0])), (q1, .inr (0, [.ref q5, .ref q4])), (q4, .inl (cyI, 3, .inl r2.1)), (q5, .inl (cyI, 162, .inl r2.2)), (q7, .inr (3, [.ref q10, .int r8.1])), (q10, .inl (cyI, 280, .inl r8.2)), (q12, .inl (cyI, 3, .inl (upd (upd (upd (fun _ => 0) (iI 0).toNatClampNeg (iI 3)) (iI 1).toNatClampNeg (iI 6)) (iI 2).toNatClampNeg (iI 10))))] := hD
  refine va_putF (D := (dC, dI)) (ci := 5) (v := .ref q12) (ty := .array .int) (C := RX5) (T := TX5) (N := 6) hx hb hts m_X5_init_9 tyX5 tyX5_ok nmX5 hown hK hP hD hS 0 rfl rfl 2 (by decide) (hts (.fieldLink RX5 25 "SleeperBerths$Train" "settings" "[I") m_X5_init_18) (fun _ h9 => h9) rfl hin rfl (by decide +kernel) rfl rfl (Nat.le_of_ble_eq_true rfl) dX5_init_44 (fun H locs hP hD hS => ?_)
  have hP : va_P (dC, dI) vwCl [(h_p0, .inr (5, [.ref q1, .ref q7, .ref q12, .int 0, .int 0, .int 0])), (q1, .inr (0, [.ref q5, .ref q4])), (q4, .inl (cyI, 3, .inl r2.1)), (q5, .inl (cyI, 162, .inl r2.2)), (q7, .inr (3, [.ref q10, .int r8.1])), (q10, .inl (cyI, 280, .inl r8.2)), (q12, .inl (cyI, 3, .inl (upd (upd (upd (fun _ => 0) (iI 0).toNatClampNeg (iI 3)) (iI 1).toNatClampNeg (iI 6)) (iI 2).toNatClampNeg (iI 10))))] H := hP
  have hD : va_D A [(h_p0, .inr (5, [.ref q1, .ref q7, .ref q12, .int 0, .int 0, .int 0])), (q1, .inr (0, [.ref q5, .ref q4])), (q4, .inl (cyI, 3, .inl r2.1)), (q5, .inl (cyI, 162, .inl r2.2)), (q7, .inr (3, [.ref q10, .int r8.1])), (q10, .inl (cyI, 280, .inl r8.2)), (q12, .inl (cyI, 3, .inl (upd (upd (upd (fun _ => 0) (iI 0).toNatClampNeg (iI 3)) (iI 1).toNatClampNeg (iI 6)) (iI 2).toNatClampNeg (iI 10))))] := hD
  obtain rfl := Option.some.inj h
  refine W.widen (k := 6) (n := 452) (Nat.le_of_ble_eq_true rfl) (Nat.le_of_ble_eq_true rfl) ?_
  exact W.vret hx hb hr (fun t ht hW => ⟨⟨(), rfl, trivial, q1, q4, q5, q7, q10, q12, WLD.of ht hP hD⟩, hS.F ht⟩) hS.2.2 dX5_init_47
