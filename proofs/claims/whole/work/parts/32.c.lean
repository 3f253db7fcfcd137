def s_X3_dropRow_L12 (n : Nat) : Nat → (Int32 → (Nat → Int32) → Int32 → Option (Int32 × (Nat → Int32))) × (Int32 → (Nat → Int32) → Int32 → Int32 → Option (Int32 × (Nat → Int32)))
  | 0 => ((fun _ _ _ => none), (fun _ _ _ _ => none))
  | k + 1 => ((fun v_size v_cells x2 => (if v_size ≤ x2 then (some (v_size, v_cells)) else ((s_X3_dropRow_L12 n k).2 v_size v_cells x2 (iI 0)))), (fun v_size v_cells x2 x3 => (if iI 7 ≤ x3 then ((s_X3_dropRow_L12 n k).1 v_size v_cells (x2 + iI 1)) else ((s_X3_at v_cells (x2 + iI 1) x3).bind fun r3 => ((s_X3_put v_cells x2 x3 r3).bind fun r6 => ((s_X3_dropRow_L12 n k).2 v_size r6 x2 (x3 + iI 1)))))))
def s_X3_dropRow (n : Nat) (v_size : Int32) (v_cells : Nat → Int32) (a1 : Int32) : Option (Int32 × (Nat → Int32)) := ((s_X3_dropRow_L12 n n).1 (v_size - iI 1) v_cells a1)
set_option maxRecDepth 20000 in
theorem m_X3_dropRow_0 : ∀ w ∈ u_ws RX3 TX3 2, w ∈ wsX3_dropRow := by decide +kernel
set_option maxRecDepth 20000 in
theorem m_X3_dropRow_1 : (.fieldLink RX3 19 "SleeperBerths$Roster" "size" "I" : Cond) ∈ wsX3_dropRow := by decide +kernel
set_option maxHeartbeats 4000000 in
set_option maxRecDepth 100000 in
theorem c_X3_dropRow (l : Launch) (dC : Nat → ClassId) (dI : Nat → Nat → Nat) (cyI cyJ cyT : ClassId) (h_p0 : Nat) (h_p0_cells : Nat) (sz : Nat) (v_size : Int32) (v_cells : Nat → Int32) (a1 : Int32) (n : Nat) (o : Int32 × (Nat → Int32)) (h : s_X3_dropRow n v_size v_cells a1 = some o) : Met l yX3_dropRow wsX3_dropRow ({ frames := 2, cells := 0, slots := 0, locals := 45 }) (va_Pc [.ref h_p0, .int a1] (PRE (dC, dI) (TYS cyI cyJ cyT) sz [(h_p0, .inr (3, [.ref h_p0_cells, .int v_size])), (h_p0_cells, .inl (cyI, 280, .inl v_cells))])) (va_Qv (S := Unit) (fun _ => True) (fun _ t => WLD (dC, dI) (va_A [(h_p0, .inr (3, [.ref h_p0_cells, .int v_size])), (h_p0_cells, .inl (cyI, 280, .inl v_cells))] sz) [(h_p0, .inr (3, [.ref h_p0_cells, .int o.1])), (h_p0_cells, .inl (cyI, 280, .inl o.2))] t) (va_A [(h_p0, .inr (3, [.ref h_p0_cells, .int v_size])), (h_p0_cells, .inl (cyI, 280, .inl v_cells))] sz)) 0 0 (va_A [(h_p0, .inr (3, [.ref h_p0_cells, .int v_size])), (h_p0_cells, .inl (cyI, 280, .inl v_cells))] sz) := by
  refine Met.ofW (cc := cX3_dropRow) (maxL := 4) (ret := none) (by decide) rfl ?_
  intro p e s m args below meth c s₁ B hml hv
  obtain ⟨rfl, hsz, hP, hK, hD0, hNW⟩ := hv
  have hx := B.exec
  have hb := B.bytes
  have hr := B.returns
  have hts := atoms_spec (ws := wsX3_dropRow) B.pre
  have hown : s.vm.findClass RX3 = some m.cls := findClass_of_methodNamed B.named
  have hlocks := B.notSynchronized
  subst hsz
  have hD := hD0.self (sz := s.heap.size)
  generalize hAe : va_A [(h_p0, .inr (3, [.ref h_p0_cells, .int v_size])), (h_p0_cells, .inl (cyI, 280, .inl v_cells))] s.heap.size = A at hD ⊢
  have hA : ∀ q : Nat, s.heap.size ≤ q → A q := fun q h => by rw [← hAe]; exact Or.inr h
  have hS : va_S A s.heap s.heap [] := va_S.rf
  have hP : va_P (dC, dI) vwCl [(h_p0, .inr (3, [.ref h_p0_cells, .int v_size])), (h_p0_cells, .inl (cyI, 280, .inl v_cells))] s.heap := hP
  have L12 : ∀ (k : Nat), (∀ (v_size : Int32) (v_cells : Nat → Int32) (x2 : Int32) (H : Heap) (locs : List Loc), va_P (dC, dI) vwCl [(h_p0, .inr (3, [.ref h_p0_cells, .int v_size])), (h_p0_cells, .inl (cyI, 280, .inl v_cells))] H → va_D A [(h_p0, .inr (3, [.ref h_p0_cells, .int v_size])), (h_p0_cells, .inl (cyI, 280, .inl v_cells))] → va_S A s.heap H locs → ∀ (ls : Array Slot), lv_has ls 4 [(0, .ref h_p0), (2, .int x2)] →  (s_X3_dropRow_L12 n k).2 v_size v_cells x2 x3 = some o → W p l e (headSpec wsX3_dropRow ({ frames := 2, cells := 0, slots := 0, locals := 45 })).room s m (([.ref h_p0, .int a1] : List Value).toArray) below meth c H locs 0 0 (MQ below (va_Qv (S := Unit) (fun _ => True) (fun _ t => WLD (dC, dI) A [(h_p0, .inr (3, [.ref h_p0_cells, .int o.1])), (h_p0_cells, .inl (cyI, 280, .inl o.2))] t) A) (([.ref h_p0, .int a1] : List Value).toArray) s 0 0 A) (F0 m 12 ls [])) ∧ (∀ (v_size : Int32) (v_cells : Nat → Int32) (x2 : Int32) (x3 : Int32) (H : Heap) (locs : List Loc), va_P (dC, dI) vwCl [(h_p0, .inr (3, [.ref h_p0_cells, .int v_size])), (h_p0_cells, .inl (cyI, 280, .inl v_cells))] H → va_D A [(h_p0, .inr (3, [.ref h_p0_cells, .int v_size])), (h_p0_cells, .inl (cyI, 280, .inl v_cells))] → va_S A s.heap H locs → ∀ (ls : Array Slot), lv_has ls 4 [(0, .ref h_p0), (2, .int x2), (3, .int x3)] →  (s_X3_dropRow_L12 n k).2 v_size v_cells x2 x3 = some o → W p l e (headSpec wsX3_dropRow ({ frames := 2, cells := 0, slots := 0, locals := 45 })).room s m (([.ref h_p0, .int a1] : List Value).toArray) below meth c H locs 0 0 (MQ below (va_Qv (S := Unit) (fun _ => True) (fun _ t => WLD (dC, dI) A [(h_p0, .inr (3, [.ref h_p0_cells, .int o.1])), (h_p0_cells, .inl (cyI, 280, .inl o.2))] t) A) (([.ref h_p0, .int a1] : List Value).toArray) s 0 0 A) (F0 m 22 ls [])) := by
    intro k
    induction k with
    | zero =>
      refine ⟨?_, ?_⟩
      · intro  v_size v_cells x2 H locs hP hD hS ls hl h
        have h : none = some o := h
        cases h
      · intro  v_size v_cells x2 x3 H locs hP hD hS ls hl h
        have h : none = some o := h
        cases h
    | succ k ih =>
      refine ⟨?_, ?_⟩
      · intro  v_size v_cells x2 H locs hP hD hS ls hl h
        have h : (if v_size ≤ x2 then (some (v_size, v_cells)) else ((s_X3_dropRow_L12 n k).2 v_size v_cells x2 (iI 0))) = some o := h
        refine lv_iload_n hx hb dX3_dropRow_12 rfl (lv_at hl 1 rfl) ?_
        refine lv_aload_n hx hb dX3_dropRow_13 rfl (lv_at hl 0 rfl) ?_
        refine va_get (D := (dC, dI)) (ci := 3) (v := .int v_size) (C := RX3) (T := TX3) (N := 2) hx hb hts m_X3_dropRow_0 hown hK hP 0 rfl rfl 1 (by decide) (hts (.fieldLink RX3 19 "SleeperBerths$Roster" "size" "I") m_X3_dropRow_1) (fun _ h9 => h9) rfl dX3_dropRow_14 ?_
        refine lv_icmp_ge (tgt := 54) hx hb dX3_dropRow_17 (by decide) (fun c1 => ?_) (fun c1 => ?_)
        · have h := ipos c1 h
          obtain rfl := Option.some.inj h
          exact W.vret hx hb hr (fun t ht hW => ⟨⟨(), rfl, trivial, WLD.of ht hP hD⟩, hS.F ht⟩) hS.2.2 dX3_dropRow_54
        · have h := ineg c1 h
          refine lv_iconst (v := iI 0) hx hb dX3_dropRow_20 rfl ?_
          refine lv_istore_n hx hb dX3_dropRow_21 rfl hl (by decide) (rfl : _ = ([(3, .int (iI 0)), (0, .ref h_p0), (2, .int x2)] : List (Nat × Value))) (fun ls hl => ?_)
          exact (ih).2 v_size v_cells x2 (iI 0) _ _ hP hD hS ls (lv_sub hl [1, 2, 0] rfl) h
      · intro  v_size v_cells x2 x3 H locs hP hD hS ls hl h
        have h : (if iI 7 ≤ x3 then ((s_X3_dropRow_L12 n k).1 v_size v_cells (x2 + iI 1)) else ((s_X3_at v_cells (x2 + iI 1) x3).bind fun r3 => ((s_X3_put v_cells x2 x3 r3).bind fun r6 => ((s_X3_dropRow_L12 n k).2 v_size r6 x2 (x3 + iI 1))))) = some o := h
        refine lv_iload_n hx hb dX3_dropRow_22 rfl (lv_at hl 2 rfl) ?_
        refine lv_bipush (v := iI 7) hx hb dX3_dropRow_23 (by decide) ?_
        refine lv_icmp_ge (tgt := 48) hx hb dX3_dropRow_25 (by decide) (fun c2 => ?_) (fun c2 => ?_)
        · have h := ipos c2 h
          refine lv_iinc (v := (x2 + iI 1)) hx hb dX3_dropRow_48 hl (k := 1) rfl rfl (by decide) (rfl : _ = ([(2, .int (x2 + iI 1)), (0, .ref h_p0), (3, .int x3)] : List (Nat × Value))) (fun ls hl => ?_)
          refine lv_goto (tgt := 12) hx hb dX3_dropRow_51 (by decide) ?_
          exact (ih).1 v_size v_cells (x2 + iI 1) _ _ hP hD hS ls (lv_sub hl [1, 0] rfl) h
        · have h := ineg c2 h
          refine lv_aload_n hx hb dX3_dropRow_28 rfl (lv_at hl 0 rfl) ?_
          refine lv_iload_n hx hb dX3_dropRow_29 rfl (lv_at hl 1 rfl) ?_
          refine lv_iload_n hx hb dX3_dropRow_30 rfl (lv_at hl 2 rfl) ?_
          refine lv_aload_n hx hb dX3_dropRow_31 rfl (lv_at hl 0 rfl) ?_
          refine lv_iload_n hx hb dX3_dropRow_32 rfl (lv_at hl 1 rfl) ?_
          refine lv_iconst (v := iI 1) hx hb dX3_dropRow_33 rfl ?_
          refine lv_iadd hx hb dX3_dropRow_34 ?_
          refine lv_iload_n hx hb dX3_dropRow_35 rfl (lv_at hl 2 rfl) ?_
          obtain ⟨r3, e4, h⟩ := bsome h
          have hPc := sb_P [(h_p0, .inr (3, [.ref h_p0_cells, .int v_size])), (h_p0_cells, .inl (cyI, 280, .inl v_cells))] hP [0, 1] rfl
          have hDc := sb_D [(h_p0, .inr (3, [.ref h_p0_cells, .int v_size])), (h_p0_cells, .inl (cyI, 280, .inl v_cells))] hD [0, 1] (by decide) rfl
          have hFc := va_free (wc := [(h_p0, .inr (3, [.ref h_p0_cells, .int v_size])), (h_p0_cells, .inl (cyI, 280, .inl v_cells))]) hD hS hA [0, 1] rfl
          refine va_calli (va_runV (As := [.int (x2 + iI 1), .int x3]) (rest := [.int x3, .int x2, .ref h_p0]) ⟨hx, hb, hml, hown, hts⟩ (c_X3_at l dC dI cyI cyJ cyT h_p0 h_p0_cells H.size v_size v_cells (x2 + iI 1) x3 r3 e4) (cwV 2 hts gX3_dropRow_X3_at rfl rfl rfl (by decide +kernel) ⟨Nat.le_of_ble_eq_true rfl, Nat.le_of_ble_eq_true rfl⟩) ⟨PRE.blind, va_recv hK hPc (ci := 3) (q0 := 0) rfl rfl, PRE.go hK hPc hDc hNW⟩ rfl rfl hl.1 rfl (lv_room (Nat.le_of_ble_eq_true rfl)) dX3_dropRow_36 ⟨Nat.zero_le _, Nat.zero_le _⟩) hS (fun q _ h => hFc q h) hFc (fun z5 u t H locs ht hvm hw hB hz1 hk1 hS => ?_)
          subst z5
          obtain ⟨hP, hD⟩ := va_join (wr := []) (w1 := [(h_p0, .inr (3, [.ref h_p0_cells, .int v_size])), (h_p0_cells, .inl (cyI, 280, .inl v_cells))]) hP hD [0, 1] [] rfl rfl (by decide) (by decide) hk1 hFc (WLD.P hB ht) hB.2
          have hP : va_P (dC, dI) vwCl [(h_p0, .inr (3, [.ref h_p0_cells, .int v_size])), (h_p0_cells, .inl (cyI, 280, .inl v_cells))] H := hP
          have hD : va_D A [(h_p0, .inr (3, [.ref h_p0_cells, .int v_size])), (h_p0_cells, .inl (cyI, 280, .inl v_cells))] := hD
          obtain ⟨r6, e7, h⟩ := bsome h
          have hPc := sb_P [(h_p0, .inr (3, [.ref h_p0_cells, .int v_size])), (h_p0_cells, .inl (cyI, 280, .inl v_cells))] hP [0, 1] rfl
          have hDc := sb_D [(h_p0, .inr (3, [.ref h_p0_cells, .int v_size])), (h_p0_cells, .inl (cyI, 280, .inl v_cells))] hD [0, 1] (by decide) rfl
          have hFc := va_free (wc := [(h_p0, .inr (3, [.ref h_p0_cells, .int v_size])), (h_p0_cells, .inl (cyI, 280, .inl v_cells))]) hD hS hA [0, 1] rfl
          refine va_callv (va_runV (As := [.int x2, .int x3, .int r3]) (rest := []) ⟨hx, hb, hml, hown, hts⟩ (c_X3_put l dC dI cyI cyJ cyT h_p0 h_p0_cells H.size v_size v_cells x2 x3 r3 r6 e7) (cwV 3 hts gX3_dropRow_X3_put rfl rfl rfl (by decide +kernel) ⟨Nat.le_of_ble_eq_true rfl, Nat.le_of_ble_eq_true rfl⟩) ⟨PRE.blind, va_recv hK hPc (ci := 3) (q0 := 0) rfl rfl, PRE.go hK hPc hDc hNW⟩ rfl rfl hl.1 rfl (lv_room (Nat.le_of_ble_eq_true rfl)) dX3_dropRow_39 ⟨Nat.zero_le _, Nat.zero_le _⟩) hS (fun q _ h => hFc q h) hFc (fun u t H locs ht hvm hw hB hz1 hk1 hS => ?_)
          obtain ⟨hP, hD⟩ := va_join (wr := []) (w1 := [(h_p0, .inr (3, [.ref h_p0_cells, .int v_size])), (h_p0_cells, .inl (cyI, 280, .inl r6))]) hP hD [0, 1] [] rfl rfl (by decide) (by decide) hk1 hFc (WLD.P hB ht) hB.2
          have hP : va_P (dC, dI) vwCl [(h_p0, .inr (3, [.ref h_p0_cells, .int v_size])), (h_p0_cells, .inl (cyI, 280, .inl r6))] H := hP
          have hD : va_D A [(h_p0, .inr (3, [.ref h_p0_cells, .int v_size])), (h_p0_cells, .inl (cyI, 280, .inl r6))] := hD
          refine lv_iinc (v := (x3 + iI 1)) hx hb dX3_dropRow_42 hl (k := 2) rfl rfl (by decide) (rfl : _ = ([(3, .int (x3 + iI 1)), (0, .ref h_p0), (2, .int x2)] : List (Nat × Value))) (fun ls hl => ?_)
          refine lv_goto (tgt := 22) hx hb dX3_dropRow_45 (by decide) ?_
          exact (ih).2 v_size r6 x2 (x3 + iI 1) _ _ hP hD hS ls (lv_sub hl [1, 2, 0] rfl) h
  have hl := lv_entry ([.ref h_p0, .int a1]) (n := 4) (Nat.le_of_ble_eq_true rfl)
  rw [lg_entry_eq]
  generalize (lg_sl ([.ref h_p0, .int a1]) ++ List.replicate (4 - (lg_sl ([.ref h_p0, .int a1])).length) Slot.unset).toArray = ls at hl ⊢
  have hl : lv_has ls 4 [(0, .ref h_p0), (1, .int a1)] := hl
  unfold s_X3_dropRow at h
  refine lv_aload_n hx hb dX3_dropRow_0 rfl (lv_at hl 0 rfl) ?_
  refine lv_dup hx hb dX3_dropRow_1 rfl ?_
  refine va_get (D := (dC, dI)) (ci := 3) (v := .int v_size) (C := RX3) (T := TX3) (N := 2) hx hb hts m_X3_dropRow_0 hown hK hP 0 rfl rfl 1 (by decide) (hts (.fieldLink RX3 19 "SleeperBerths$Roster" "size" "I") m_X3_dropRow_1) (fun _ h9 => h9) rfl dX3_dropRow_2 ?_
  refine lv_iconst (v := iI 1) hx hb dX3_dropRow_5 rfl ?_
  refine lv_isub hx hb dX3_dropRow_6 ?_
  refine va_put (D := (dC, dI)) (ci := 3) (v := .int (v_size - iI 1)) (ty := .int) (C := RX3) (T := TX3) (N := 2) hx hb hts m_X3_dropRow_0 tyX3 tyX3_ok nmX3 hown hK hP hD hS 0 rfl rfl 1 (by decide) (hts (.fieldLink RX3 19 "SleeperBerths$Roster" "size" "I") m_X3_dropRow_1) (fun _ h9 => h9) rfl (by decide +kernel) rfl rfl (Nat.le_of_ble_eq_true rfl) dX3_dropRow_7 (fun H locs hP hD hS => ?_)
  have hP : va_P (dC, dI) vwCl [(h_p0, .inr (3, [.ref h_p0_cells, .int (v_size - iI 1)])), (h_p0_cells, .inl (cyI, 280, .inl v_cells))] H := hP
  have hD : va_D A [(h_p0, .inr (3, [.ref h_p0_cells, .int (v_size - iI 1)])), (h_p0_cells, .inl (cyI, 280, .inl v_cells))] := hD
  refine lv_iload_n hx hb dX3_dropRow_10 rfl (lv_at hl 1 rfl) ?_
  refine lv_istore_n hx hb dX3_dropRow_11 rfl hl (by decide) (rfl : _ = ([(2, .int a1), (0, .ref h_p0), (1, .int a1)] : List (Nat × Value))) (fun ls hl => ?_)
  exact (L12 n).1 (v_size - iI 1) v_cells a1 _ _ hP hD hS ls (lv_sub hl [1, 0] rfl) h
def s_X4_init : Option (Int32 × (Nat → Int32)) := (some (0, (fun _ => 0)))
set_option maxRecDepth 20000 in
theorem m_X4_init_0 : (.methodLink RX4 3 objectInit : Cond) ∈ wsX4_init := by decide +kernel
set_option maxRecDepth 20000 in
theorem m_X4_init_1 : (.instanceMethod objectInit : Cond) ∈ wsX4_init := by decide +kernel
set_option maxRecDepth 20000 in
theorem m_X4_init_2 : (.code objectInit ⟨#[0xb1]⟩ 1 none : Cond) ∈ wsX4_init := by decide +kernel
set_option maxRecDepth 20000 in
theorem m_X4_init_3 : (.arrayClass .int : Cond) ∈ wsX4_init := by decide +kernel
set_option maxRecDepth 20000 in
theorem m_X4_init_4 : ∀ w ∈ u_ws RX4 TX4 2, w ∈ wsX4_init := by decide +kernel
set_option maxRecDepth 20000 in
theorem m_X4_init_5 : (.fieldLink RX4 9 "SleeperBerths$Text" "codes" "[I" : Cond) ∈ wsX4_init := by decide +kernel
set_option maxHeartbeats 4000000 in
set_option maxRecDepth 100000 in
theorem c_X4_init (l : Launch) (dC : Nat → ClassId) (dI : Nat → Nat → Nat) (cyI cyJ cyT : ClassId) (h_p0 : Nat) (sz : Nat) (o : Int32 × (Nat → Int32)) (h : s_X4_init = some o) : Met l yX4_init wsX4_init ({ frames := 1, cells := 1, slots := 60, locals := 12 }) (va_Pc [.ref h_p0] (PRE (dC, dI) (TYS cyI cyJ cyT) sz [(h_p0, .inr (4, [.null, .int 0]))])) (va_Qv (S := Unit) (fun _ => True) (fun _ t => ∃ (b_codes : Nat), WLD (dC, dI) (va_A [(h_p0, .inr (4, [.null, .int 0]))] sz) [(h_p0, .inr (4, [.ref b_codes, .int o.1])), (b_codes, .inl (cyI, 60, .inl o.2))] t) (va_A [(h_p0, .inr (4, [.null, .int 0]))] sz)) 1 60 (va_A [(h_p0, .inr (4, [.null, .int 0]))] sz) := by
  refine Met.ofW (cc := cX4_init) (maxL := 1) (ret := none) (by decide) rfl ?_
  intro p e s m args below meth c s₁ B hml hv
  obtain ⟨rfl, hsz, hP, hK, hD0, hNW⟩ := hv
  have hx := B.exec
  have hb := B.bytes
  have hr := B.returns
  have hts := atoms_spec (ws := wsX4_init) B.pre
  have hown : s.vm.findClass RX4 = some m.cls := findClass_of_methodNamed B.named
  have hlocks := B.notSynchronized
  have hin : meth.name = "<init>" := (name_of_methodNamed B.named B.method).1
  subst hsz
  have hD := hD0.self (sz := s.heap.size)
  generalize hAe : va_A [(h_p0, .inr (4, [.null, .int 0]))] s.heap.size = A at hD ⊢
  have hA : ∀ q : Nat, s.heap.size ≤ q → A q := fun q h => by rw [← hAe]; exact Or.inr h
  have hS : va_S A s.heap s.heap [] := va_S.rf
  have hP : va_P (dC, dI) vwCl [(h_p0, .inr (4, [.null, .int 0]))] s.heap := hP
  have hl := lv_entry ([.ref h_p0]) (n := 1) (Nat.le_of_ble_eq_true rfl)
  rw [lg_entry_eq]
  generalize (lg_sl ([.ref h_p0]) ++ List.replicate (1 - (lg_sl ([.ref h_p0])).length) Slot.unset).toArray = ls at hl ⊢
  have hl : lv_has ls 1 [(0, .ref h_p0)] := hl
  unfold s_X4_init at h
  refine lv_aload_n hx hb dX4_init_0 rfl (lv_at hl 0 rfl) ?_
  refine W.objInit hx hb hown (hts (.methodLink RX4 3 objectInit) m_X4_init_0) (hts (.instanceMethod objectInit) m_X4_init_1) (hts (.code objectInit ⟨#[0xb1]⟩ 1 none) m_X4_init_2) rfl (by rw [hml]; exact hl.1) rfl dX4_init_1 (Nat.le_of_ble_eq_true rfl) (Nat.le_of_ble_eq_true rfl) ?_
  refine W.eq (g2 := F0 m 4 ls []) rfl ?_
  refine lv_aload_n hx hb dX4_init_4 rfl (lv_at hl 0 rfl) ?_
  refine lv_bipush (v := iI 60) hx hb dX4_init_5 (by decide) ?_
  refine newI hx hb (hts (.arrayClass .int) m_X4_init_3) dX4_init_7 hK hP hD hS hA (NN := 60) (by decide) (by decide) (by decide) (Nat.le_of_ble_eq_true rfl) (Nat.le_of_ble_eq_true rfl) (fun q1 H hP hD hS => ?_)
  have hP : va_P (dC, dI) vwCl [(h_p0, .inr (4, [.null, .int 0])), (q1, .inl (cyI, 60, .inl (fun _ => 0)))] H := hP
  have hD : va_D A [(h_p0, .inr (4, [.null, .int 0])), (q1, .inl (cyI, 60, .inl (fun _ => 0)))] := hD
  refine va_putF (D := (dC, dI)) (ci := 4) (v := .ref q1) (ty := .array .int) (C := RX4) (T := TX4) (N := 2) hx hb hts m_X4_init_4 tyX4 tyX4_ok nmX4 hown hK hP hD hS 0 rfl rfl 0 (by decide) (hts (.fieldLink RX4 9 "SleeperBerths$Text" "codes" "[I") m_X4_init_5) (fun _ h9 => h9) rfl hin rfl (by decide +kernel) rfl rfl (Nat.le_of_ble_eq_true rfl) dX4_init_9 (fun H locs hP hD hS => ?_)
  have hP : va_P (dC, dI) vwCl [(h_p0, .inr (4, [.ref q1, .int 0])), (q1, .inl (cyI, 60, .inl (fun _ => 0)))] H := hP
  have hD : va_D A [(h_p0, .inr (4, [.ref q1, .int 0])), (q1, .inl (cyI, 60, .inl (fun _ => 0)))] := hD
  obtain rfl := Option.some.inj h
  refine W.widen (k := 1) (n := 60) (Nat.le_of_ble_eq_true rfl) (Nat.le_of_ble_eq_true rfl) ?_
  exact W.vret hx hb hr (fun t ht hW => ⟨⟨(), rfl, trivial, q1, WLD.of ht hP hD⟩, hS.F ht⟩) hS.2.2 dX4_init_12
def s_X4_isComplete (n : Nat) (v_length : Int32) (v_codes : Nat → Int32) : Option (Int32) := ((s_X4_codeAt v_length v_codes (v_length - iI 1)).bind fun r1 => (if r1 = iI 33 then (if iI 1 = 0 then (some (iI 0)) else ((s_X4_firstFault n v_length v_codes).bind fun r6 => (if r6 = v_length then (some (iI 1)) else (some (iI 0))))) else ((s_X4_codeAt v_length v_codes (v_length - iI 2)).bind fun r10 => (if r10 = iI 45 then (if iI 1 = 0 then (some (iI 0)) else ((s_X4_firstFault n v_length v_codes).bind fun r20 => (if r20 = v_length then (some (iI 1)) else (some (iI 0))))) else (if iI 0 = 0 then (some (iI 0)) else ((s_X4_firstFault n v_length v_codes).bind fun r15 => (if r15 = v_length then (some (iI 1)) else (some (iI 0)))))))))
set_option maxRecDepth 20000 in
theorem m_X4_isComplete_0 : ∀ w ∈ u_ws RX4 TX4 2, w ∈ wsX4_isComplete := by decide +kernel
set_option maxRecDepth 20000 in
theorem m_X4_isComplete_1 : (.fieldLink RX4 15 "SleeperBerths$Text" "length" "I" : Cond) ∈ wsX4_isComplete := by decide +kernel
set_option maxHeartbeats 4000000 in
set_option maxRecDepth 100000 in
theorem c_X4_isComplete (l : Launch) (dC : Nat → ClassId) (dI : Nat → Nat → Nat) (cyI cyJ cyT : ClassId) (h_p0 : Nat) (h_p0_codes : Nat) (sz : Nat) (v_length : Int32) (v_codes : Nat → Int32) (n : Nat) (o : Int32) (h : s_X4_isComplete n v_length v_codes = some o) : Met l yX4_isComplete wsX4_isComplete ({ frames := 4, cells := 0, slots := 0, locals := 87 }) (va_Pc [.ref h_p0] (PRE (dC, dI) (TYS cyI cyJ cyT) sz [(h_p0, .inr (4, [.ref h_p0_codes, .int v_length])), (h_p0_codes, .inl (cyI, 60, .inl v_codes))])) (va_Qi (S := Unit) (fun r _ => r = o) (fun _ t => WLD (dC, dI) (va_A [(h_p0, .inr (4, [.ref h_p0_codes, .int v_length])), (h_p0_codes, .inl (cyI, 60, .inl v_codes))] sz) [(h_p0, .inr (4, [.ref h_p0_codes, .int v_length])), (h_p0_codes, .inl (cyI, 60, .inl v_codes))] t) (va_A [(h_p0, .inr (4, [.ref h_p0_codes, .int v_length])), (h_p0_codes, .inl (cyI, 60, .inl v_codes))] sz)) 0 0 (va_A [(h_p0, .inr (4, [.ref h_p0_codes, .int v_length])), (h_p0_codes, .inl (cyI, 60, .inl v_codes))] sz) := by
  refine Met.ofW (cc := cX4_isComplete) (maxL := 2) (ret := (some .boolean)) (by decide) rfl ?_
  intro p e s m args below meth c s₁ B hml hv
  obtain ⟨rfl, hsz, hP, hK, hD0, hNW⟩ := hv
  have hx := B.exec
  have hb := B.bytes
  have hr := B.returns
  have hts := atoms_spec (ws := wsX4_isComplete) B.pre
  have hown : s.vm.findClass RX4 = some m.cls := findClass_of_methodNamed B.named
  have hlocks := B.notSynchronized
  subst hsz
  have hD := hD0.self (sz := s.heap.size)
  generalize hAe : va_A [(h_p0, .inr (4, [.ref h_p0_codes, .int v_length])), (h_p0_codes, .inl (cyI, 60, .inl v_codes))] s.heap.size = A at hD ⊢
  have hA : ∀ q : Nat, s.heap.size ≤ q → A q := fun q h => by rw [← hAe]; exact Or.inr h
  have hS : va_S A s.heap s.heap [] := va_S.rf
  have hP : va_P (dC, dI) vwCl [(h_p0, .inr (4, [.ref h_p0_codes, .int v_length])), (h_p0_codes, .inl (cyI, 60, .inl v_codes))] s.heap := hP
  have hl := lv_entry ([.ref h_p0]) (n := 2) (Nat.le_of_ble_eq_true rfl)
  rw [lg_entry_eq]
  generalize (lg_sl ([.ref h_p0]) ++ List.replicate (2 - (lg_sl ([.ref h_p0])).length) Slot.unset).toArray = ls at hl ⊢
  have hl : lv_has ls 2 [(0, .ref h_p0)] := hl
  unfold s_X4_isComplete at h
  refine lv_aload_n hx hb dX4_isComplete_0 rfl (lv_at hl 0 rfl) ?_
  refine lv_aload_n hx hb dX4_isComplete_1 rfl (lv_at hl 0 rfl) ?_
  refine va_get (D := (dC, dI)) (ci := 4) (v := .int v_length) (C := RX4) (T := TX4) (N := 2) hx hb hts m_X4_isComplete_0 hown hK hP 0 rfl rfl 1 (by decide) (hts (.fieldLink RX4 15 "SleeperBerths$Text" "length" "I") m_X4_isComplete_1) (fun _ h9 => h9) rfl dX4_isComplete_2 ?_
  refine lv_iconst (v := iI 1) hx hb dX4_isComplete_5 rfl ?_
  refine lv_isub hx hb dX4_isComplete_6 ?_
  obtain ⟨r1, e2, h⟩ := bsome h
  have hPc := sb_P [(h_p0, .inr (4, [.ref h_p0_codes, .int v_length])), (h_p0_codes, .inl (cyI, 60, .inl v_codes))] hP [0, 1] rfl
  have hDc := sb_D [(h_p0, .inr (4, [.ref h_p0_codes, .int v_length])), (h_p0_codes, .inl (cyI, 60, .inl v_codes))] hD [0, 1] (by decide) rfl
  have hFc := va_free (wc := [(h_p0, .inr (4, [.ref h_p0_codes, .int v_length])), (h_p0_codes, .inl (cyI, 60, .inl v_codes))]) hD hS hA [0, 1] rfl
  refine va_calli (va_runV (As := [.int (v_length - iI 1)]) (rest := []) ⟨hx, hb, hml, hown, hts⟩ (c_X4_codeAt l dC dI cyI cyJ cyT h_p0 h_p0_codes s.heap.size v_length v_codes (v_length - iI 1) r1 e2) (cwV 1 hts gX4_isComplete_X4_codeAt rfl rfl rfl (by decide +kernel) ⟨Nat.le_of_ble_eq_true rfl, Nat.le_of_ble_eq_true rfl⟩) ⟨PRE.blind, va_recv hK hPc (ci := 4) (q0 := 0) rfl rfl, PRE.go hK hPc hDc hNW⟩ rfl rfl hl.1 rfl (lv_room (Nat.le_of_ble_eq_true rfl)) dX4_isComplete_7 ⟨Nat.zero_le _, Nat.zero_le _⟩) hS (fun q _ h => hFc q h) hFc (fun z3 u t H locs ht hvm hw hB hz1 hk1 hS => ?_)
  subst z3
  obtain ⟨hP, hD⟩ := va_join (wr := []) (w1 := [(h_p0, .inr (4, [.ref h_p0_codes, .int v_length])), (h_p0_codes, .inl (cyI, 60, .inl v_codes))]) hP hD [0, 1] [] rfl rfl (by decide) (by decide) hk1 hFc (WLD.P hB ht) hB.2
  have hP : va_P (dC, dI) vwCl [(h_p0, .inr (4, [.ref h_p0_codes, .int v_length])), (h_p0_codes, .inl (cyI, 60, .inl v_codes))] H := hP
  have hD : va_D A [(h_p0, .inr (4, [.ref h_p0_codes, .int v_length])), (h_p0_codes, .inl (cyI, 60, .inl v_codes))] := hD
  refine lv_bipush (v := iI 33) hx hb dX4_isComplete_10 (by decide) ?_
  refine lv_icmp_eq (tgt := 30) hx hb dX4_isComplete_12 (by decide) (fun c4 => ?_) (fun c4 => ?_)
  · have h := ipos c4 h
    refine lv_iconst (v := iI 1) hx hb dX4_isComplete_30 rfl ?_
    refine lv_goto (tgt := 35) hx hb dX4_isComplete_31 (by decide) ?_
    refine lv_istore_n hx hb dX4_isComplete_35 rfl hl (by decide) (rfl : _ = ([(1, .int (iI 1)), (0, .ref h_p0)] : List (Nat × Value))) (fun ls hl => ?_)
    refine lv_iload_n hx hb dX4_isComplete_36 rfl (lv_at hl 0 rfl) ?_
    refine lv_if_eq (tgt := 55) hx hb dX4_isComplete_37 (by decide) (fun c5 => ?_) (fun c5 => ?_)
    · have h := ipos c5 h
      refine lv_iconst (v := iI 0) hx hb dX4_isComplete_55 rfl ?_
      obtain rfl := Option.some.inj h
      exact W.zret (v := iI 0) hx hb hr (by decide) (fun t ht hW => ⟨⟨iI 0, (), rfl, rfl, WLD.of ht hP hD⟩, hS.F ht⟩) hS.2.2 dX4_isComplete_56
    · have h := ineg c5 h
      refine lv_aload_n hx hb dX4_isComplete_40 rfl (lv_at hl 1 rfl) ?_
      obtain ⟨r6, e7, h⟩ := bsome h
      have hPc := sb_P [(h_p0, .inr (4, [.ref h_p0_codes, .int v_length])), (h_p0_codes, .inl (cyI, 60, .inl v_codes))] hP [0, 1] rfl
      have hDc := sb_D [(h_p0, .inr (4, [.ref h_p0_codes, .int v_length])), (h_p0_codes, .inl (cyI, 60, .inl v_codes))] hD [0, 1] (by decide) rfl
      have hFc := va_free (wc := [(h_p0, .inr (4, [.ref h_p0_codes, .int v_length])), (h_p0_codes, .inl (cyI, 60, .inl v_codes))]) hD hS hA [0, 1] rfl
      refine va_calli (va_runV (As := []) (rest := []) ⟨hx, hb, hml, hown, hts⟩ (c_X4_firstFault l dC dI cyI cyJ cyT h_p0 h_p0_codes H.size v_length v_codes n r6 e7) (cwV 0 hts gX4_isComplete_X4_firstFault rfl rfl rfl (by decide +kernel) ⟨Nat.le_of_ble_eq_true rfl, Nat.le_of_ble_eq_true rfl⟩) ⟨PRE.blind, va_recv hK hPc (ci := 4) (q0 := 0) rfl rfl, PRE.go hK hPc hDc hNW⟩ rfl rfl hl.1 rfl (lv_room (Nat.le_of_ble_eq_true rfl)) dX4_isComplete_41 ⟨Nat.zero_le _, Nat.zero_le _⟩) hS (fun q _ h => hFc q h) hFc (fun z8 u t H locs ht hvm hw hB hz1 hk1 hS => ?_)
      subst z8
      obtain ⟨hP, hD⟩ := va_join (wr := []) (w1 := [(h_p0, .inr (4, [.ref h_p0_codes, .int v_length])), (h_p0_codes, .inl (cyI, 60, .inl v_codes))]) hP hD [0, 1] [] rfl rfl (by decide) (by decide) hk1 hFc (WLD.P hB ht) hB.2
      have hP : va_P (dC, dI) vwCl [(h_p0, .inr (4, [.ref h_p0_codes, .int v_length])), (h_p0_codes, .inl (cyI, 60, .inl v_codes))] H := hP
      have hD : va_D A [(h_p0, .inr (4, [.ref h_p0_codes, .int v_length])), (h_p0_codes, .inl (cyI, 60, .inl v_codes))] := hD
      refine lv_aload_n hx hb dX4_isComplete_44 rfl (lv_at hl 1 rfl) ?_
      refine va_get (D := (dC, dI)) (ci := 4) (v := .int v_length) (C := RX4) (T := TX4) (N := 2) hx hb hts m_X4_isComplete_0 hown hK hP 0 rfl rfl 1 (by decide) (hts (.fieldLink RX4 15 "SleeperBerths$Text" "length" "I") m_X4_isComplete_1) (fun _ h9 => h9) rfl dX4_isComplete_45 ?_
      refine lv_icmp_ne (tgt := 55) hx hb dX4_isComplete_48 (by decide) (fun c9 => ?_) (fun c9 => ?_)
      · have h := ineg c9 h
        refine lv_iconst (v := iI 0) hx hb dX4_isComplete_55 rfl ?_
        obtain rfl := Option.some.inj h
        exact W.zret (v := iI 0) hx hb hr (by decide) (fun t ht hW => ⟨⟨iI 0, (), rfl, rfl, WLD.of ht hP hD⟩, hS.F ht⟩) hS.2.2 dX4_isComplete_56
      · have h := ipos c9 h
        refine lv_iconst (v := iI 1) hx hb dX4_isComplete_51 rfl ?_
        refine lv_goto (tgt := 56) hx hb dX4_isComplete_52 (by decide) ?_
        obtain rfl := Option.some.inj h
        exact W.zret (v := iI 1) hx hb hr (by decide) (fun t ht hW => ⟨⟨iI 1, (), rfl, rfl, WLD.of ht hP hD⟩, hS.F ht⟩) hS.2.2 dX4_isComplete_56
  · have h := ineg c4 h
    refine lv_aload_n hx hb dX4_isComplete_15 rfl (lv_at hl 0 rfl) ?_
    refine lv_aload_n hx hb dX4_isComplete_16 rfl (lv_at hl 0 rfl) ?_
    refine va_get (D := (dC, dI)) (ci := 4) (v := .int v_length) (C := RX4) (T := TX4) (N := 2) hx hb hts m_X4_isComplete_0 hown hK hP 0 rfl rfl 1 (by decide) (hts (.fieldLink RX4 15 "SleeperBerths$Text" "length" "I") m_X4_isComplete_1) (fun _ h9 => h9) rfl dX4_isComplete_17 ?_
    refine lv_iconst (v := iI 2) hx hb dX4_isComplete_20 rfl ?_
    refine lv_isub hx hb dX4_isComplete_21 ?_
    obtain ⟨r10, e11, h⟩ := bsome h
    have hPc := sb_P [(h_p0, .inr (4, [.ref h_p0_codes, .int v_length])), (h_p0_codes, .inl (cyI, 60, .inl v_codes))] hP [0, 1] rfl
    have hDc := sb_D [(h_p0, .inr (4, [.ref h_p0_codes, .int v_length])), (h_p0_codes, .inl (cyI, 60, .inl v_codes))] hD [0, 1] (by decide) rfl
    have hFc := va_free (wc := [(h_p0, .inr (4, [.ref h_p0_codes, .int v_length])), (h_p0_codes, .inl (cyI, 60, .inl v_codes))]) hD hS hA [0, 1] rfl
    refine va_calli (va_runV (As := [.int (v_length - iI 2)]) (rest := []) ⟨hx, hb, hml, hown, hts⟩ (c_X4_codeAt l dC dI cyI cyJ cyT h_p0 h_p0_codes H.size v_length v_codes (v_length - iI 2) r10 e11) (cwV 1 hts gX4_isComplete_X4_codeAt rfl rfl rfl (by decide +kernel) ⟨Nat.le_of_ble_eq_true rfl, Nat.le_of_ble_eq_true rfl⟩) ⟨PRE.blind, va_recv hK hPc (ci := 4) (q0 := 0) rfl rfl, PRE.go hK hPc hDc hNW⟩ rfl rfl hl.1 rfl (lv_room (Nat.le_of_ble_eq_true rfl)) dX4_isComplete_22 ⟨Nat.zero_le _, Nat.zero_le _⟩) hS (fun q _ h => hFc q h) hFc (fun z12 u t H locs ht hvm hw hB hz1 hk1 hS => ?_)
    subst z12
    obtain ⟨hP, hD⟩ := va_join (wr := []) (w1 := [(h_p0, .inr (4, [.ref h_p0_codes, .int v_length])), (h_p0_codes, .inl (cyI, 60, .inl v_codes))]) hP hD [0, 1] [] rfl rfl (by decide) (by decide) hk1 hFc (WLD.P hB ht) hB.2
    have hP : va_P (dC, dI) vwCl [(h_p0, .inr (4, [.ref h_p0_codes, .int v_length])), (h_p0_codes, .inl (cyI, 60, .inl v_codes))] H := hP
    have hD : va_D A [(h_p0, .inr (4, [.ref h_p0_codes, .int v_length])), (h_p0_codes, .inl (cyI, 60, .inl v_codes))] := hD
    refine lv_bipush (v := iI 45) hx hb dX4_isComplete_25 (by decide) ?_
    refine lv_icmp_ne (tgt := 34) hx hb dX4_isComplete_27 (by decide) (fun c13 => ?_) (fun c13 => ?_)
    · have h := ineg c13 h
      refine lv_iconst (v := iI 0) hx hb dX4_isComplete_34 rfl ?_
      refine lv_istore_n hx hb dX4_isComplete_35 rfl hl (by decide) (rfl : _ = ([(1, .int (iI 0)), (0, .ref h_p0)] : List (Nat × Value))) (fun ls hl => ?_)
      refine lv_iload_n hx hb dX4_isComplete_36 rfl (lv_at hl 0 rfl) ?_
      refine lv_if_eq (tgt := 55) hx hb dX4_isComplete_37 (by decide) (fun c14 => ?_) (fun c14 => ?_)
      · have h := ipos c14 h
        refine lv_iconst (v := iI 0) hx hb dX4_isComplete_55 rfl ?_
        obtain rfl := Option.some.inj h
        exact W.zret (v := iI 0) hx hb hr (by decide) (fun t ht hW => ⟨⟨iI 0, (), rfl, rfl, WLD.of ht hP hD⟩, hS.F ht⟩) hS.2.2 dX4_isComplete_56
      · have h := ineg c14 h
        refine lv_aload_n hx hb dX4_isComplete_40 rfl (lv_at hl 1 rfl) ?_
        obtain ⟨r15, e16, h⟩ := bsome h
        have hPc := sb_P [(h_p0, .inr (4, [.ref h_p0_codes, .int v_length])), (h_p0_codes, .inl (cyI, 60, .inl v_codes))] hP [0, 1] rfl
        have hDc := sb_D [(h_p0, .inr (4, [.ref h_p0_codes, .int v_length])), (h_p0_codes, .inl (cyI, 60, .inl v_codes))] hD [0, 1] (by decide) rfl
        have hFc := va_free (wc := [(h_p0, .inr (4, [.ref h_p0_codes, .int v_length])), (h_p0_codes, .inl (cyI, 60, .inl v_codes))]) hD hS hA [0, 1] rfl
        refine va_calli (va_runV (As := []) (rest := []) ⟨hx, hb, hml, hown, hts⟩ (c_X4_firstFault l dC dI cyI cyJ cyT h_p0 h_p0_codes H.size v_length v_codes n r15 e16) (cwV 0 hts gX4_isComplete_X4_firstFault rfl rfl rfl (by decide +kernel) ⟨Nat.le_of_ble_eq_true rfl, Nat.le_of_ble_eq_true rfl⟩) ⟨PRE.blind, va_recv hK hPc (ci := 4) (q0 := 0) rfl rfl, PRE.go hK hPc hDc hNW⟩ rfl rfl hl.1 rfl (lv_room (Nat.le_of_ble_eq_true rfl)) dX4_isComplete_41 ⟨Nat.zero_le _, Nat.zero_le _⟩) hS (fun q _ h => hFc q h) hFc (fun z17 u t H locs ht hvm hw hB hz1 hk1 hS => ?_)
        subst z17
        obtain ⟨hP, hD⟩ := va_join (wr := []) (w1 := [(h_p0, .inr (4, [.ref h_p0_codes, .int v_length])), (h_p0_codes, .inl (cyI, 60, .inl v_codes))]) hP hD [0, 1] [] rfl rfl (by decide) (by decide) hk1 hFc (WLD.P hB ht) hB.2
        have hP : va_P (dC, dI) vwCl [(h_p0, .inr (4, [.ref h_p0_codes, .int v_length])), (h_p0_codes, .inl (cyI, 60, .inl v_codes))] H := hP
        have hD : va_D A [(h_p0, .inr (4, [.ref h_p0_codes, .int v_length])), (h_p0_codes, .inl (cyI, 60, .inl v_codes))] := hD
        refine lv_aload_n hx hb dX4_isComplete_44 rfl (lv_at hl 1 rfl) ?_
        refine va_get (D := (dC, dI)) (ci := 4) (v := .int v_length) (C := RX4) (T := TX4) (N := 2) hx hb hts m_X4_isComplete_0 hown hK hP 0 rfl rfl 1 (by decide) (hts (.fieldLink RX4 15 "SleeperBerths$Text" "length" "I") m_X4_isComplete_1) (fun _ h9 => h9) rfl dX4_isComplete_45 ?_
        refine lv_icmp_ne (tgt := 55) hx hb dX4_isComplete_48 (by decide) (fun c18 => ?_) (fun c18 => ?_)
        · have h := ineg c18 h
          refine lv_iconst (v := iI 0) hx hb dX4_isComplete_55 rfl ?_
          obtain rfl := Option.some.inj h
          exact W.zret (v := iI 0) hx hb hr (by decide) (fun t ht hW => ⟨⟨iI 0, (), rfl, rfl, WLD.of ht hP hD⟩, hS.F ht⟩) hS.2.2 dX4_isComplete_56
        · have h := ipos c18 h
          refine lv_iconst (v := iI 1) hx hb dX4_isComplete_51 rfl ?_
          refine lv_goto (tgt := 56) hx hb dX4_isComplete_52 (by decide) ?_
          obtain rfl := Option.some.inj h
          exact W.zret (v := iI 1) hx hb hr (by decide) (fun t ht hW => ⟨⟨iI 1, (), rfl, rfl, WLD.of ht hP hD⟩, hS.F ht⟩) hS.2.2 dX4_isComplete_56
    · have h := ipos c13 h
      refine lv_iconst (v := iI 1) hx hb dX4_isComplete_30 rfl ?_
      refine lv_goto (tgt := 35) hx hb dX4_isComplete_31 (by decide) ?_
      refine lv_istore_n hx hb dX4_isComplete_35 rfl hl (by decide) (rfl : _ = ([(1, .int (iI 1)), (0, .ref h_p0)] : List (Nat × Value))) (fun ls hl => ?_)
      refine lv_iload_n hx hb dX4_isComplete_36 rfl (lv_at hl 0 rfl) ?_
      refine lv_if_eq (tgt := 55) hx hb dX4_isComplete_37 (by decide) (fun c19 => ?_) (fun c19 => ?_)
      · have h := ipos c19 h
        refine lv_iconst (v := iI 0) hx hb dX4_isComplete_55 rfl ?_
        obtain rfl := Option.some.inj h
        exact W.zret (v := iI 0) hx hb hr (by decide) (fun t ht hW => ⟨⟨iI 0, (), rfl, rfl, WLD.of ht hP hD⟩, hS.F ht⟩) hS.2.2 dX4_isComplete_56
      · have h := ineg c19 h
        refine lv_aload_n hx hb dX4_isComplete_40 rfl (lv_at hl 1 rfl) ?_
        obtain ⟨r20, e21, h⟩ := bsome h
        have hPc := sb_P [(h_p0, .inr (4, [.ref h_p0_codes, .int v_length])), (h_p0_codes, .inl (cyI, 60, .inl v_codes))] hP [0, 1] rfl
        have hDc := sb_D [(h_p0, .inr (4, [.ref h_p0_codes, .int v_length])), (h_p0_codes, .inl (cyI, 60, .inl v_codes))] hD [0, 1] (by decide) rfl
        have hFc := va_free (wc := [(h_p0, .inr (4, [.ref h_p0_codes, .int v_length])), (h_p0_codes, .inl (cyI, 60, .inl v_codes))]) hD hS hA [0, 1] rfl
        refine va_calli (va_runV (As := []) (rest := []) ⟨hx, hb, hml, hown, hts⟩ (c_X4_firstFault l dC dI cyI cyJ cyT h_p0 h_p0_codes H.size v_length v_codes n r20 e21) (cwV 0 hts gX4_isComplete_X4_firstFault rfl rfl rfl (by decide +kernel) ⟨Nat.le_of_ble_eq_true rfl, Nat.le_of_ble_eq_true rfl⟩) ⟨PRE.blind, va_recv hK hPc (ci := 4) (q0 := 0) rfl rfl, PRE.go hK hPc hDc hNW⟩ rfl rfl hl.1 rfl (lv_room (Nat.le_of_ble_eq_true rfl)) dX4_isComplete_41 ⟨Nat.zero_le _, Nat.zero_le _⟩) hS (fun q _ h => hFc q h) hFc (fun z22 u t H locs ht hvm hw hB hz1 hk1 hS => ?_)
        subst z22
        obtain ⟨hP, hD⟩ := va_join (wr := []) (w1 := [(h_p0, .inr (4, [.ref h_p0_codes, .int v_length])), (h_p0_codes, .inl (cyI, 60, .inl v_codes))]) hP hD [0, 1] [] rfl rfl (by decide) (by decide) hk1 hFc (WLD.P hB ht) hB.2
        have hP : va_P (dC, dI) vwCl [(h_p0, .inr (4, [.ref h_p0_codes, .int v_length])), (h_p0_codes, .inl (cyI, 60, .inl v_codes))] H := hP
        have hD : va_D A [(h_p0, .inr (4, [.ref h_p0_codes, .int v_length])), (h_p0_codes, .inl (cyI, 60, .inl v_codes))] := hD
        refine lv_aload_n hx hb dX4_isComplete_44 rfl (lv_at hl 1 rfl) ?_
        refine va_get (D := (dC, dI)) (ci := 4) (v := .int v_length) (C := RX4) (T := TX4) (N := 2) hx hb hts m_X4_isComplete_0 hown hK hP 0 rfl rfl 1 (by decide) (hts (.fieldLink RX4 15 "SleeperBerths$Text" "length" "I") m_X4_isComplete_1) (fun _ h9 => h9) rfl dX4_isComplete_45 ?_
        refine lv_icmp_ne (tgt := 55) hx hb dX4_isComplete_48 (by decide) (fun c23 => ?_) (fun c23 => ?_)
        · have h := ineg c23 h
          refine lv_iconst (v := iI 0) hx hb dX4_isComplete_55 rfl ?_
          obtain rfl := Option.some.inj h
          exact W.zret (v := iI 0) hx hb hr (by decide) (fun t ht hW => ⟨⟨iI 0, (), rfl, rfl, WLD.of ht hP hD⟩, hS.F ht⟩) hS.2.2 dX4_isComplete_56
        · have h := ipos c23 h
          refine lv_iconst (v := iI 1) hx hb dX4_isComplete_51 rfl ?_
          refine lv_goto (tgt := 56) hx hb dX4_isComplete_52 (by decide) ?_
          obtain rfl := Option.some.inj h
          exact W.zret (v := iI 1) hx hb hr (by decide) (fun t ht hW => ⟨⟨iI 1, (), rfl, rfl, WLD.of ht hP hD⟩, hS.F ht⟩) hS.2.2 dX4_isComplete_56
def s_X4_from (v_length : Int32) (v_codes : Nat → Int32) (a1 : Int32) : Option (Int32) := ((s_X4_codeAt v_length v_codes a1).bind fun r1 => (some ((r1 - iI 48))))
set_option maxHeartbeats 4000000 in
set_option maxRecDepth 100000 in
theorem c_X4_from (l : Launch) (dC : Nat → ClassId) (dI : Nat → Nat → Nat) (cyI cyJ cyT : ClassId) (h_p0 : Nat) (h_p0_codes : Nat) (sz : Nat) (v_length : Int32) (v_codes : Nat → Int32) (a1 : Int32) (o : Int32) (h : s_X4_from v_length v_codes a1 = some o) : Met l yX4_from wsX4_from ({ frames := 2, cells := 0, slots := 0, locals := 42 }) (va_Pc [.ref h_p0, .int a1] (PRE (dC, dI) (TYS cyI cyJ cyT) sz [(h_p0, .inr (4, [.ref h_p0_codes, .int v_length])), (h_p0_codes, .inl (cyI, 60, .inl v_codes))])) (va_Qi (S := Unit) (fun r _ => r = o) (fun _ t => WLD (dC, dI) (va_A [(h_p0, .inr (4, [.ref h_p0_codes, .int v_length])), (h_p0_codes, .inl (cyI, 60, .inl v_codes))] sz) [(h_p0, .inr (4, [.ref h_p0_codes, .int v_length])), (h_p0_codes, .inl (cyI, 60, .inl v_codes))] t) (va_A [(h_p0, .inr (4, [.ref h_p0_codes, .int v_length])), (h_p0_codes, .inl (cyI, 60, .inl v_codes))] sz)) 0 0 (va_A [(h_p0, .inr (4, [.ref h_p0_codes, .int v_length])), (h_p0_codes, .inl (cyI, 60, .inl v_codes))] sz) := by
  refine Met.ofW (cc := cX4_from) (maxL := 2) (ret := (some .int)) (by decide) rfl ?_
  intro p e s m args below meth c s₁ B hml hv
  obtain ⟨rfl, hsz, hP, hK, hD0, hNW⟩ := hv
  have hx := B.exec
  have hb := B.bytes
  have hr := B.returns
  have hts := atoms_spec (ws := wsX4_from) B.pre
  have hown : s.vm.findClass RX4 = some m.cls := findClass_of_methodNamed B.named
  have hlocks := B.notSynchronized
  subst hsz
  have hD := hD0.self (sz := s.heap.size)
  generalize hAe : va_A [(h_p0, .inr (4, [.ref h_p0_codes, .int v_length])), (h_p0_codes, .inl (cyI, 60, .inl v_codes))] s.heap.size = A at hD ⊢
  have hA : ∀ q : Nat, s.heap.size ≤ q → A q := fun q h => by rw [← hAe]; exact Or.inr h
  have hS : va_S A s.heap s.heap [] := va_S.rf
  have hP : va_P (dC, dI) vwCl [(h_p0, .inr (4, [.ref h_p0_codes, .int v_length])), (h_p0_codes, .inl (cyI, 60, .inl v_codes))] s.heap := hP
  have hl := lv_entry ([.ref h_p0, .int a1]) (n := 2) (Nat.le_of_ble_eq_true rfl)
  rw [lg_entry_eq]
  generalize (lg_sl ([.ref h_p0, .int a1]) ++ List.replicate (2 - (lg_sl ([.ref h_p0, .int a1])).length) Slot.unset).toArray = ls at hl ⊢
  have hl : lv_has ls 2 [(0, .ref h_p0), (1, .int a1)] := hl
  unfold s_X4_from at h
  refine lv_aload_n hx hb dX4_from_0 rfl (lv_at hl 0 rfl) ?_
  refine lv_iload_n hx hb dX4_from_1 rfl (lv_at hl 1 rfl) ?_
  obtain ⟨r1, e2, h⟩ := bsome h
  have hPc := sb_P [(h_p0, .inr (4, [.ref h_p0_codes, .int v_length])), (h_p0_codes, .inl (cyI, 60, .inl v_codes))] hP [0, 1] rfl
  have hDc := sb_D [(h_p0, .inr (4, [.ref h_p0_codes, .int v_length])), (h_p0_codes, .inl (cyI, 60, .inl v_codes))] hD [0, 1] (by decide) rfl
  have hFc := va_free (wc := [(h_p0, .inr (4, [.ref h_p0_codes, .int v_length])), (h_p0_codes, .inl (cyI, 60, .inl v_codes))]) hD hS hA [0, 1] rfl
  refine va_calli (va_runV (As := [.int a1]) (rest := []) ⟨hx, hb, hml, hown, hts⟩ (c_X4_codeAt l dC dI cyI cyJ cyT h_p0 h_p0_codes s.heap.size v_length v_codes a1 r1 e2) (cwV 1 hts gX4_from_X4_codeAt rfl rfl rfl (by decide +kernel) ⟨Nat.le_of_ble_eq_true rfl, Nat.le_of_ble_eq_true rfl⟩) ⟨PRE.blind, va_recv hK hPc (ci := 4) (q0 := 0) rfl rfl, PRE.go hK hPc hDc hNW⟩ rfl rfl hl.1 rfl (lv_room (Nat.le_of_ble_eq_true rfl)) dX4_from_2 ⟨Nat.zero_le _, Nat.zero_le _⟩) hS (fun q _ h => hFc q h) hFc (fun z3 u t H locs ht hvm hw hB hz1 hk1 hS => ?_)
  subst z3
  obtain ⟨hP, hD⟩ := va_join (wr := []) (w1 := [(h_p0, .inr (4, [.ref h_p0_codes, .int v_length])), (h_p0_codes, .inl (cyI, 60, .inl v_codes))]) hP hD [0, 1] [] rfl rfl (by decide) (by decide) hk1 hFc (WLD.P hB ht) hB.2
  have hP : va_P (dC, dI) vwCl [(h_p0, .inr (4, [.ref h_p0_codes, .int v_length])), (h_p0_codes, .inl (cyI, 60, .inl v_codes))] H := hP
  have hD : va_D A [(h_p0, .inr (4, [.ref h_p0_codes, .int v_length])), (h_p0_codes, .inl (cyI, 60, .inl v_codes))] := hD
  refine lv_bipush (v := iI 48) hx hb dX4_from_5 (by decide) ?_
  refine lv_isub hx hb dX4_from_7 ?_
  obtain rfl := Option.some.inj h
  exact W.iret (v := (r1 - iI 48)) hx hb hr (fun t ht hW => ⟨⟨(r1 - iI 48), (), rfl, rfl, WLD.of ht hP hD⟩, hS.F ht⟩) hS.2.2 dX4_from_8
def s_X4_to (v_length : Int32) (v_codes : Nat → Int32) (a1 : Int32) : Option (Int32) := ((s_X4_codeAt v_length v_codes (a1 + iI 2)).bind fun r1 => (some ((r1 - iI 48))))
set_option maxHeartbeats 4000000 in
set_option maxRecDepth 100000 in
theorem c_X4_to (l : Launch) (dC : Nat → ClassId) (dI : Nat → Nat → Nat) (cyI cyJ cyT : ClassId) (h_p0 : Nat) (h_p0_codes : Nat) (sz : Nat) (v_length : Int32) (v_codes : Nat → Int32) (a1 : Int32) (o : Int32) (h : s_X4_to v_length v_codes a1 = some o) : Met l yX4_to wsX4_to ({ frames := 2, cells := 0, slots := 0, locals := 42 }) (va_Pc [.ref h_p0, .int a1] (PRE (dC, dI) (TYS cyI cyJ cyT) sz [(h_p0, .inr (4, [.ref h_p0_codes, .int v_length])), (h_p0_codes, .inl (cyI, 60, .inl v_codes))])) (va_Qi (S := Unit) (fun r _ => r = o) (fun _ t => WLD (dC, dI) (va_A [(h_p0, .inr (4, [.ref h_p0_codes, .int v_length])), (h_p0_codes, .inl (cyI, 60, .inl v_codes))] sz) [(h_p0, .inr (4, [.ref h_p0_codes, .int v_length])), (h_p0_codes, .inl (cyI, 60, .inl v_codes))] t) (va_A [(h_p0, .inr (4, [.ref h_p0_codes, .int v_length])), (h_p0_codes, .inl (cyI, 60, .inl v_codes))] sz)) 0 0 (va_A [(h_p0, .inr (4, [.ref h_p0_codes, .int v_length])), (h_p0_codes, .inl (cyI, 60, .inl v_codes))] sz) := by
  refine Met.ofW (cc := cX4_to) (maxL := 2) (ret := (some .int)) (by decide) rfl ?_
  intro p e s m args below meth c s₁ B hml hv
  obtain ⟨rfl, hsz, hP, hK, hD0, hNW⟩ := hv
  have hx := B.exec
  have hb := B.bytes
  have hr := B.returns
  have hts := atoms_spec (ws := wsX4_to) B.pre
  have hown : s.vm.findClass RX4 = some m.cls := findClass_of_methodNamed B.named
  have hlocks := B.notSynchronized
  subst hsz
  have hD := hD0.self (sz := s.heap.size)
  generalize hAe : va_A [(h_p0, .inr (4, [.ref h_p0_codes, .int v_length])), (h_p0_codes, .inl (cyI, 60, .inl v_codes))] s.heap.size = A at hD ⊢
  have hA : ∀ q : Nat, s.heap.size ≤ q → A q := fun q h => by rw [← hAe]; exact Or.inr h
  have hS : va_S A s.heap s.heap [] := va_S.rf
  have hP : va_P (dC, dI) vwCl [(h_p0, .inr (4, [.ref h_p0_codes, .int v_length])), (h_p0_codes, .inl (cyI, 60, .inl v_codes))] s.heap := hP
  have hl := lv_entry ([.ref h_p0, .int a1]) (n := 2) (Nat.le_of_ble_eq_true rfl)
  rw [lg_entry_eq]
  generalize (lg_sl ([.ref h_p0, .int a1]) ++ List.replicate (2 - (lg_sl ([.ref h_p0, .int a1])).length) Slot.unset).toArray = ls at hl ⊢
  have hl : lv_has ls 2 [(0, .ref h_p0), (1, .int a1)] := hl
  unfold s_X4_to at h
  refine lv_aload_n hx hb dX4_to_0 rfl (lv_at hl 0 rfl) ?_
  refine lv_iload_n hx hb dX4_to_1 rfl (lv_at hl 1 rfl) ?_
  refine lv_iconst (v := iI 2) hx hb dX4_to_2 rfl ?_
  refine lv_iadd hx hb dX4_to_3 ?_
  obtain ⟨r1, e2, h⟩ := bsome h
  have hPc := sb_P [(h_p0, .inr (4, [.ref h_p0_codes, .int v_length])), (h_p0_codes, .inl (cyI, 60, .inl v_codes))] hP [0, 1] rfl
  have hDc := sb_D [(h_p0, .inr (4, [.ref h_p0_codes, .int v_length])), (h_p0_codes, .inl (cyI, 60, .inl v_codes))] hD [0, 1] (by decide) rfl
  have hFc := va_free (wc := [(h_p0, .inr (4, [.ref h_p0_codes, .int v_length])), (h_p0_codes, .inl (cyI, 60, .inl v_codes))]) hD hS hA [0, 1] rfl
  refine va_calli (va_runV (As := [.int (a1 + iI 2)]) (rest := []) ⟨hx, hb, hml, hown, hts⟩ (c_X4_codeAt l dC dI cyI cyJ cyT h_p0 h_p0_codes s.heap.size v_length v_codes (a1 + iI 2) r1 e2) (cwV 1 hts gX4_to_X4_codeAt rfl rfl rfl (by decide +kernel) ⟨Nat.le_of_ble_eq_true rfl, Nat.le_of_ble_eq_true rfl⟩) ⟨PRE.blind, va_recv hK hPc (ci := 4) (q0 := 0) rfl rfl, PRE.go hK hPc hDc hNW⟩ rfl rfl hl.1 rfl (lv_room (Nat.le_of_ble_eq_true rfl)) dX4_to_4 ⟨Nat.zero_le _, Nat.zero_le _⟩) hS (fun q _ h => hFc q h) hFc (fun z3 u t H locs ht hvm hw hB hz1 hk1 hS => ?_)
  subst z3
  obtain ⟨hP, hD⟩ := va_join (wr := []) (w1 := [(h_p0, .inr (4, [.ref h_p0_codes, .int v_length])), (h_p0_codes, .inl (cyI, 60, .inl v_codes))]) hP hD [0, 1] [] rfl rfl (by decide) (by decide) hk1 hFc (WLD.P hB ht) hB.2
  have hP : va_P (dC, dI) vwCl [(h_p0, .inr (4, [.ref h_p0_codes, .int v_length])), (h_p0_codes, .inl (cyI, 60, .inl v_codes))] H := hP
  have hD : va_D A [(h_p0, .inr (4, [.ref h_p0_codes, .int v_length])), (h_p0_codes, .inl (cyI, 60, .inl v_codes))] := hD
  refine lv_bipush (v := iI 48) hx hb dX4_to_7 (by decide) ?_
  refine lv_isub hx hb dX4_to_9 ?_
  obtain rfl := Option.some.inj h
  exact W.iret (v := (r1 - iI 48)) hx hb hr (fun t ht hW => ⟨⟨(r1 - iI 48), (), rfl, rfl, WLD.of ht hP hD⟩, hS.F ht⟩) hS.2.2 dX4_to_10
def s_X4_isThrough (v_length : Int32) (v_codes : Nat → Int32) (a1 : Int32) : Option (Int32) := ((s_X4_codeAt v_length v_codes (a1 + iI 3)).bind fun r1 => (if r1 = iI 33 then (some (iI 1)) else (some (iI 0))))
set_option maxHeartbeats 4000000 in
set_option maxRecDepth 100000 in
theorem c_X4_isThrough (l : Launch) (dC : Nat → ClassId) (dI : Nat → Nat → Nat) (cyI cyJ cyT : ClassId) (h_p0 : Nat) (h_p0_codes : Nat) (sz : Nat) (v_length : Int32) (v_codes : Nat → Int32) (a1 : Int32) (o : Int32) (h : s_X4_isThrough v_length v_codes a1 = some o) : Met l yX4_isThrough wsX4_isThrough ({ frames := 2, cells := 0, slots := 0, locals := 42 }) (va_Pc [.ref h_p0, .int a1] (PRE (dC, dI) (TYS cyI cyJ cyT) sz [(h_p0, .inr (4, [.ref h_p0_codes, .int v_length])), (h_p0_codes, .inl (cyI, 60, .inl v_codes))])) (va_Qi (S := Unit) (fun r _ => r = o) (fun _ t => WLD (dC, dI) (va_A [(h_p0, .inr (4, [.ref h_p0_codes, .int v_length])), (h_p0_codes, .inl (cyI, 60, .inl v_codes))] sz) [(h_p0, .inr (4, [.ref h_p0_codes, .int v_length])), (h_p0_codes, .inl (cyI, 60, .inl v_codes))] t) (va_A [(h_p0, .inr (4, [.ref h_p0_codes, .int v_length])), (h_p0_codes, .inl (cyI, 60, .inl v_codes))] sz)) 0 0 (va_A [(h_p0, .inr (4, [.ref h_p0_codes, .int v_length])), (h_p0_codes, .inl (cyI, 60, .inl v_codes))] sz) := by
  refine Met.ofW (cc := cX4_isThrough) (maxL := 2) (ret := (some .boolean)) (by decide) rfl ?_
  intro p e s m args below meth c s₁ B hml hv
  obtain ⟨rfl, hsz, hP, hK, hD0, hNW⟩ := hv
  have hx := B.exec
  have hb := B.bytes
  have hr := B.returns
  have hts := atoms_spec (ws := wsX4_isThrough) B.pre
  have hown : s.vm.findClass RX4 = some m.cls := findClass_of_methodNamed B.named
  have hlocks := B.notSynchronized
  subst hsz
  have hD := hD0.self (sz := s.heap.size)
  generalize hAe : va_A [(h_p0, .inr (4, [.ref h_p0_codes, .int v_length])), (h_p0_codes, .inl (cyI, 60, .inl v_codes))] s.heap.size = A at hD ⊢
  have hA : ∀ q : Nat, s.heap.size ≤ q → A q := fun q h => by rw [← hAe]; exact Or.inr h
  have hS : va_S A s.heap s.heap [] := va_S.rf
  have hP : va_P (dC, dI) vwCl [(h_p0, .inr (4, [.ref h_p0_codes, .int v_length])), (h_p0_codes, .inl (cyI, 60, .inl v_codes))] s.heap := hP
  have hl := lv_entry ([.ref h_p0, .int a1]) (n := 2) (Nat.le_of_ble_eq_true rfl)
  rw [lg_entry_eq]
  generalize (lg_sl ([.ref h_p0, .int a1]) ++ List.replicate (2 - (lg_sl ([.ref h_p0, .int a1])).length) Slot.unset).toArray = ls at hl ⊢
  have hl : lv_has ls 2 [(0, .ref h_p0), (1, .int a1)] := hl
  unfold s_X4_isThrough at h
  refine lv_aload_n hx hb dX4_isThrough_0 rfl (lv_at hl 0 rfl) ?_
  refine lv_iload_n hx hb dX4_isThrough_1 rfl (lv_at hl 1 rfl) ?_
  refine lv_iconst (v := iI 3) hx hb dX4_isThrough_2 rfl ?_
  refine lv_iadd hx hb dX4_isThrough_3 ?_
  obtain ⟨r1, e2, h⟩ := bsome h
  have hPc := sb_P [(h_p0, .inr (4, [.ref h_p0_codes, .int v_length])), (h_p0_codes, .inl (cyI, 60, .inl v_codes))] hP [0, 1] rfl
  have hDc := sb_D [(h_p0, .inr (4, [.ref h_p0_codes, .int v_length])), (h_p0_codes, .inl (cyI, 60, .inl v_codes))] hD [0, 1] (by decide) rfl
  have hFc := va_free (wc := [(h_p0, .inr (4, [.ref h_p0_codes, .int v_length])), (h_p0_codes, .inl (cyI, 60, .inl v_codes))]) hD hS hA [0, 1] rfl
  refine va_calli (va_runV (As := [.int (a1 + iI 3)]) (rest := []) ⟨hx, hb, hml, hown, hts⟩ (c_X4_codeAt l dC dI cyI cyJ cyT h_p0 h_p0_codes s.heap.size v_length v_codes (a1 + iI 3) r1 e2) (cwV 1 hts gX4_isThrough_X4_codeAt rfl rfl rfl (by decide +kernel) ⟨Nat.le_of_ble_eq_true rfl, Nat.le_of_ble_eq_true rfl⟩) ⟨PRE.blind, va_recv hK hPc (ci := 4) (q0 := 0) rfl rfl, PRE.go hK hPc hDc hNW⟩ rfl rfl hl.1 rfl (lv_room (Nat.le_of_ble_eq_true rfl)) dX4_isThrough_4 ⟨Nat.zero_le _, Nat.zero_le _⟩) hS (fun q _ h => hFc q h) hFc (fun z3 u t H locs ht hvm hw hB hz1 hk1 hS => ?_)
  subst z3
  obtain ⟨hP, hD⟩ := va_join (wr := []) (w1 := [(h_p0, .inr (4, [.ref h_p0_codes, .int v_length])), (h_p0_codes, .inl (cyI, 60, .inl v_codes))]) hP hD [0, 1] [] rfl rfl (by decide) (by decide) hk1 hFc (WLD.P hB ht) hB.2
  have hP : va_P (dC, dI) vwCl [(h_p0, .inr (4, [.ref h_p0_codes, .int v_length])), (h_p0_codes, .inl (cyI, 60, .inl v_codes))] H := hP
  have hD : va_D A [(h_p0, .inr (4, [.ref h_p0_codes, .int v_length])), (h_p0_codes, .inl (cyI, 60, .inl v_codes))] := hD
  refine lv_bipush (v := iI 33) hx hb dX4_isThrough_7 (by decide) ?_
  refine lv_icmp_ne (tgt := 16) hx hb dX4_isThrough_9 (by decide) (fun c4 => ?_) (fun c4 => ?_)
  · have h := ineg c4 h
    refine lv_iconst (v := iI 0) hx hb dX4_isThrough_16 rfl ?_
    obtain rfl := Option.some.inj h
    exact W.zret (v := iI 0) hx hb hr (by decide) (fun t ht hW => ⟨⟨iI 0, (), rfl, rfl, WLD.of ht hP hD⟩, hS.F ht⟩) hS.2.2 dX4_isThrough_17
  · have h := ipos c4 h
    refine lv_iconst (v := iI 1) hx hb dX4_isThrough_12 rfl ?_
    refine lv_goto (tgt := 17) hx hb dX4_isThrough_13 (by decide) ?_
    obtain rfl := Option.some.inj h
    exact W.zret (v := iI 1) hx hb hr (by decide) (fun t ht hW => ⟨⟨iI 1, (), rfl, rfl, WLD.of ht hP hD⟩, hS.F ht⟩) hS.2.2 dX4_isThrough_17
def s_X5_init (n : Nat) : Option (Int32 × Int32 × Int32 × (Nat → Int32) × (Nat → Int32) × Int32 × (Nat → Int32) × (Nat → Int32)) := ((s_X0_init n).bind fun r2 => (s_X3_init.bind fun r8 => (if gd (iI 0) 3 = true then (if gd (iI 1) 3 = true then (if gd (iI 2) 3 = true then (some (0, 0, 0, r2.1, r2.2, r8.1, r8.2, (upd (upd (upd (fun _ => 0) (iI 0).toNatClampNeg (iI 3)) (iI 1).toNatClampNeg (iI 6)) (iI 2).toNatClampNeg (iI 10)))) else none) else none) else none)))
set_option maxRecDepth 20000 in
theorem m_X5_init_0 : (.methodLink RX5 3 objectInit : Cond) ∈ wsX5_init := by decide +kernel
set_option maxRecDepth 20000 in
theorem m_X5_init_1 : (.instanceMethod objectInit : Cond) ∈ wsX5_init := by decide +kernel
set_option maxRecDepth 20000 in
theorem m_X5_init_2 : (.code objectInit ⟨#[0xb1]⟩ 1 none : Cond) ∈ wsX5_init := by decide +kernel
set_option maxRecDepth 20000 in
theorem m_X5_init_3 : ∀ w ∈ u_ws RX0 TX0 2, w ∈ wsX5_init := by decide +kernel
set_option maxRecDepth 20000 in
theorem m_X5_init_4 : (.classLink RX5 9 RX0 : Cond) ∈ wsX5_init := by decide +kernel
set_option maxRecDepth 20000 in
theorem m_X5_init_5 : (.instantiable RX0 2 : Cond) ∈ wsX5_init := by decide +kernel
set_option maxRecDepth 20000 in
theorem m_X5_init_6 : (.initialized RX0 : Cond) ∈ wsX5_init := by decide +kernel
set_option maxRecDepth 20000 in
theorem m_X5_init_7 : (.methodLink RX5 11 yX0_init : Cond) ∈ wsX5_init := by decide +kernel
set_option maxRecDepth 20000 in
theorem m_X5_init_8 : (.instanceMethod yX0_init : Cond) ∈ wsX5_init := by decide +kernel
set_option maxRecDepth 20000 in
theorem m_X5_init_9 : ∀ w ∈ u_ws RX5 TX5 6, w ∈ wsX5_init := by decide +kernel
set_option maxRecDepth 20000 in
theorem m_X5_init_10 : (.fieldLink RX5 12 "SleeperBerths$Train" "berths" "LSleeperBerths$Berths;" : Cond) ∈ wsX5_init := by decide +kernel
set_option maxRecDepth 20000 in
theorem m_X5_init_11 : ∀ w ∈ u_ws RX3 TX3 2, w ∈ wsX5_init := by decide +kernel
set_option maxRecDepth 20000 in
theorem m_X5_init_12 : (.classLink RX5 18 RX3 : Cond) ∈ wsX5_init := by decide +kernel
set_option maxRecDepth 20000 in
theorem m_X5_init_13 : (.instantiable RX3 2 : Cond) ∈ wsX5_init := by decide +kernel
set_option maxRecDepth 20000 in
theorem m_X5_init_14 : (.initialized RX3 : Cond) ∈ wsX5_init := by decide +kernel
set_option maxRecDepth 20000 in
theorem m_X5_init_15 : (.instanceMethod yX3_init : Cond) ∈ wsX5_init := by decide +kernel
set_option maxRecDepth 20000 in
theorem m_X5_init_16 : (.fieldLink RX5 21 "SleeperBerths$Train" "roster" "LSleeperBerths$Roster;" : Cond) ∈ wsX5_init := by decide +kernel
set_option maxRecDepth 20000 in
theorem m_X5_init_17 : (.arrayClass .int : Cond) ∈ wsX5_init := by decide +kernel
set_option maxRecDepth 20000 in
theorem m_X5_init_18 : (.fieldLink RX5 25 "SleeperBerths$Train" "settings" "[I" : Cond) ∈ wsX5_init := by decide +kernel
set_option maxHeartbeats 4000000 in
set_option maxRecDepth 100000 in
theorem c_X5_init (l : Launch) (dC : Nat → ClassId) (dI : Nat → Nat → Nat) (cyI cyJ cyT : ClassId) (h_p0 : Nat) (sz : Nat) (n : Nat) (o : Int32 × Int32 × Int32 × (Nat → Int32) × (Nat → Int32) × Int32 × (Nat → Int32) × (Nat → Int32)) (h : s_X5_init n = some o) : Met l yX5_init wsX5_init ({ frames := 2, cells := 6, slots := 452, locals := 33 }) (va_Pc [.ref h_p0] (PRE (dC, dI) (TYS cyI cyJ cyT) sz [(h_p0, .inr (5, [.null, .null, .null, .int 0, .int 0, .int 0]))])) (va_Qv (S := Unit) (fun _ => True) (fun _ t => ∃ (b_berths b_berths_ends b_berths_holders b_roster b_roster_cells b_settings : Nat), WLD (dC, dI) (va_A [(h_p0, .inr (5, [.null, .null, .null, .int 0, .int 0, .int 0]))] sz) [(h_p0, .inr (5, [.ref b_berths, .ref b_roster, .ref b_settings, .int o.1, .int o.2.1, .int o.2.2.1])), (b_berths, .inr (0, [.ref b_berths_holders, .ref b_berths_ends])), (b_berths_ends, .inl (cyI, 3, .inl o.2.2.2.1)), (b_berths_holders, .inl (cyI, 162, .inl o.2.2.2.2.1)), (b_roster, .inr (3, [.ref b_roster_cells, .int o.2.2.2.2.2.1])), (b_roster_cells, .inl (cyI, 280, .inl o.2.2.2.2.2.2.1)), (b_settings, .inl (cyI, 3, .inl o.2.2.2.2.2.2.2))] t) (va_A [(h_p0, .inr (5, [.null, .null, .null, .int 0, .int 0, .int 0]))] sz)) 6 452 (va_A [(h_p0, .inr (5, [.null, .null, .null, .int 0, .int 0, .int 0]))] sz) := by
  refine Met.ofW (cc := cX5_init) (maxL := 1) (ret := none) (by decide) rfl ?_
  intro p e s m args below meth c s₁ B hml hv
  obtain ⟨rfl, hsz, hP, hK, hD0, hNW⟩ := hv
  have hx := B.exec
  have hb := B.bytes
  have hr := B.returns
  have hts := atoms_spec (ws := wsX5_init) B.pre
  have hown : s.vm.findClass RX5 = some m.cls := findClass_of_methodNamed B.named
  have hlocks := B.notSynchronized
  have hin : meth.name = "<init>" := (name_of_methodNamed B.named B.method).1
  subst hsz
  have hD := hD0.self (sz := s.heap.size)
  generalize hAe : va_A [(h_p0, .inr (5, [.null, .null, .null, .int 0, .int 0, .int 0]))] s.heap.size = A at hD ⊢
  have hA : ∀ q : Nat, s.heap.size ≤ q → A q := fun q h => by rw [← hAe]; exact Or.inr h
  have hS : va_S A s.heap s.heap [] := va_S.rf
  have hP : va_P (dC, dI) vwCl [(h_p0, .inr (5, [.null, .null, .null, .int 0, .int 0, .int 0]))] s.heap := hP
  have hl := lv_entry ([.ref h_p0]) (n := 1) (Nat.le_of_ble_eq_true rfl)
  rw [lg_entry_eq]
  generalize (lg_sl ([.ref h_p0]) ++ List.replicate (1 - (lg_sl ([.ref h_p0])).length) Slot.unset).toArray = ls at hl ⊢
  have hl : lv_has ls 1 [(0, .ref h_p0)] := hl
  unfold s_X5_init at h
  refine lv_aload_n hx hb dX5_init_0 rfl (lv_at hl 0 rfl) ?_
  refine W.objInit hx hb hown (hts (.methodLink RX5 3 objectInit) m_X5_init_0) (hts (.instanceMethod objectInit) m_X5_init_1) (hts (.code objectInit ⟨#[0xb1]⟩ 1 none) m_X5_init_2) rfl (by rw [hml]; exact hl.1) rfl dX5_init_1 (Nat.le_of_ble_eq_true rfl) (Nat.le_of_ble_eq_true rfl) ?_
  refine W.eq (g2 := F0 m 4 ls []) rfl ?_
  refine lv_aload_n hx hb dX5_init_4 rfl (lv_at hl 0 rfl) ?_
  refine va_new (ci := 0) (fs := [.null, .null]) (C := RX0) (T := TX0) (N := 2) hx hb hts m_X5_init_3 tyX0 tyX0_ok hown (hts (.classLink RX5 9 RX0) m_X5_init_4) (hts (.instantiable RX0 2) m_X5_init_5) (hts (.initialized RX0) m_X5_init_6) hK hP hD hS hA rfl (fun j hj => by rcases (show j = 0 ∨ j = 1 by omega) with rfl | rfl <;> rfl) (Nat.le_of_ble_eq_true rfl) (Nat.le_of_ble_eq_true rfl) dX5_init_5 (fun q1 H hP hD hS => ?_)
  have hP : va_P (dC, dI) vwCl [(h_p0, .inr (5, [.null, .null, .null, .int 0, .int 0, .int 0])), (q1, .inr (0, [.null, .null]))] H := hP
  have hD : va_D A [(h_p0, .inr (5, [.null, .null, .null, .int 0, .int 0, .int 0])), (q1, .inr (0, [.null, .null]))] := hD
  refine lv_dup hx hb dX5_init_8 rfl ?_
  obtain ⟨r2, e3, h⟩ := bsome h
  have hPc := sb_P [(q1, .inr (0, [.null, .null]))] hP [1] rfl
  have hDc := sb_D [(q1, .inr (0, [.null, .null]))] hD [1] (by decide) rfl
  have hFc := va_free (wc := [(q1, .inr (0, [.null, .null]))]) hD hS hA [1] rfl
  refine va_callv (va_runI (As := []) (rest := [.ref q1, .ref h_p0]) ⟨hx, hb, hml, hown, hts⟩ (c_X0_init l dC dI cyI cyJ cyT q1 H.size n r2 e3) (cwI 0 hts gX5_init_X0_init rfl rfl rfl (hts (.initialized RX0) m_X5_init_6) (hts (.methodLink RX5 11 yX0_init) m_X5_init_7) (hts (.instanceMethod yX0_init) m_X5_init_8) rfl (by decide +kernel) ⟨Nat.le_of_ble_eq_true rfl, Nat.le_of_ble_eq_true rfl⟩) ⟨PRE.blind, PRE.go hK hPc hDc hNW⟩ rfl rfl hl.1 rfl (lv_room (Nat.le_of_ble_eq_true rfl)) dX5_init_9 ⟨(Nat.le_of_ble_eq_true rfl), (Nat.le_of_ble_eq_true rfl)⟩) hS (fun q _ h => hFc q h) hFc (fun u t H locs ht hvm hw hB hz1 hk1 hS => ?_)
  obtain ⟨q4, q5, hB⟩ := hB
  obtain ⟨hP, hD⟩ := va_join (wr := [(h_p0, .inr (5, [.null, .null, .null, .int 0, .int 0, .int 0]))]) (w1 := [(q1, .inr (0, [.ref q5, .ref q4])), (q4, .inl (cyI, 3, .inl r2.1)), (q5, .inl (cyI, 162, .inl r2.2))]) hP hD [1] [0] rfl rfl (by decide) (by decide) hk1 hFc (WLD.P hB ht) hB.2
  have hP : va_P (dC, dI) vwCl [(h_p0, .inr (5, [.null, .null, .null, .int 0, .int 0, .int 0])), (q1, .inr (0, [.ref q5, .ref q4])), (q4, .inl (cyI, 3, .inl r2.1)), (q5, .inl (cyI, 162, .inl r2.2))] H := hP
  have hD : va_D A [(h_p0, .inr (5, [.null, .null, .null, .int 0, .int 0, .int 0])), (q1, .inr (0, [.ref q5, .ref q4])), (q4, .inl (cyI, 3, .inl r2.1)), (q5, .inl (cyI, 162, .inl r2.2))] := hD
  refine va_putF (D := (dC, dI)) (ci := 5) (v := .ref q1) (ty := .object "SleeperBerths$Berths") (C := RX5) (T := TX5) (N := 6) hx hb hts m_X5_init_9 tyX5 tyX5_ok nmX5 hown hK hP hD hS 0 rfl rfl 0 (by decide) (hts (.fieldLink RX5 12 "SleeperBerths$Train" "berths" "LSleeperBerths$Berths;") m_X5_init_10) (fun _ h9 => h9) rfl hin rfl (by decide +kernel) rfl rfl (Nat.le_of_ble_eq_true rfl) dX5_init_12 (fun H locs hP hD hS => ?_)
  have hP : va_P (dC, dI) vwCl [(h_p0, .inr (5, [.ref q1, .null, .null, .int 0, .int 0, .int 0])), (q1, .inr (0, [.ref q5, .ref q4])), (q4, .inl (cyI, 3, .inl r2.1)), (q5, .inl (cyI, 162, .inl r2.2))] H := hP
  have hD : va_D A [(h_p0, .inr (5, [.ref q1, .null, .null, .int 0, .int 0, .int 0])), (q1, .inr (0, [.ref q5, .ref q4])), (q4, .inl (cyI, 3, .inl r2.1)), (q5, .inl (cyI, 162, .inl r2.2))] := hD
  refine lv_aload_n hx hb dX5_init_15 rfl (lv_at hl 0 rfl) ?_
  refine va_new (ci := 3) (fs := [.null, .int 0]) (C := RX3) (T := TX3) (N := 2) hx hb hts m_X5_init_11 tyX3 tyX3_ok hown (hts (.classLink RX5 18 RX3) m_X5_init_12) (hts (.instantiable RX3 2) m_X5_init_13) (hts (.initialized RX3) m_X5_init_14) hK hP hD hS hA rfl (fun j hj => by rcases (show j = 0 ∨ j = 1 by omega) with rfl | rfl <;> rfl) (Nat.le_of_ble_eq_true rfl) (Nat.le_of_ble_eq_true rfl) dX5_init_16 (fun q7 H hP hD hS => ?_)
  have hP : va_P (dC, dI) vwCl [(h_p0, .inr (5, [.ref q1, .null, .null, .int 0, .int 0, .int 0])), (q1, .inr (0, [.ref q5, .ref q4])), (q4, .inl (cyI, 3, .inl r2.1)), (q5, .inl (cyI, 162, .inl r2.2)), (q7, .inr (3, [.null, .int 0]))] H := hP
  have hD : va_D A [(h_p0, .inr (5, [.ref q1, .null, .null, .int 0, .int 0, .int 0])), (q1, .inr (0, [.ref q5, .ref q4])), (q4, .inl (cyI, 3, .inl r2.1)), (q5, .inl (cyI, 162, .inl r2.2)), (q7, .inr (3, [.null, .int 0]))] := hD
  refine lv_dup hx hb dX5_init_19 rfl ?_
  obtain ⟨r8, e9, h⟩ := bsome h
  have hPc := sb_P [(q7, .inr (3, [.null, .int 0]))] hP [4] rfl
  have hDc := sb_D [(q7, .inr (3, [.null, .int 0]))] hD [4] (by decide) rfl
  have hFc := va_free (wc := [(q7, .inr (3, [.null, .int 0]))]) hD hS hA [4] rfl
  refine va_callv (va_runIN (As := []) (rest := [.ref q7, .ref h_p0]) ⟨hx, hb, hml, hown, hts⟩ (c_X3_init l dC dI cyI cyJ cyT q7 H.size r8 e9) ⟨va_cnB (host := "SleeperBerths") 0 hts gX5_init_X3_init_n20 rfl rfl rfl (hNW 1 rfl) (hts (.initialized RX3) m_X5_init_14) (by decide +kernel) ⟨Nat.le_of_ble_eq_true rfl, Nat.le_of_ble_eq_true rfl⟩, rfl, (hts (.instanceMethod yX3_init) m_X5_init_15)⟩ ⟨PRE.blind, PRE.go hK hPc hDc hNW⟩ rfl rfl hl.1 rfl (lv_room (Nat.le_of_ble_eq_true rfl)) dX5_init_20 ⟨(Nat.le_of_ble_eq_true rfl), (Nat.le_of_ble_eq_true rfl)⟩) hS (fun q _ h => hFc q h) hFc (fun u t H locs ht hvm hw hB hz1 hk1 hS => ?_)
  obtain ⟨q10, hB⟩ := hB
  obtain ⟨hP, hD⟩ := va_join (wr := [(h_p0, .inr (5, [.ref q1, .null, .null, .int 0, .int 0, .int 0])), (q1, .inr (0, [.ref q5, .ref q4])), (q4, .inl (cyI, 3, .inl r2.1)), (q5, .inl (cyI, 162, .inl r2.2))]) (w1 := [(q7, .inr (3, [.ref q10, .int r8.1])), (q10, .inl (cyI, 280, .inl r8.2))]) hP hD [4] [0, 1, 2, 3] rfl rfl (by decide) (by decide) hk1 hFc (WLD.P hB ht) hB.2
  have hP : va_P (dC, dI) vwCl [(h_p0, .inr (5, [.ref q1, .null, .null, .int 0, .int 0, .int 0])), (q1, .inr (0, [.ref q5, .ref q4])), (q4, .inl (cyI, 3, .inl r2.1)), (q5, .inl (cyI, 162, .inl r2.2)), (q7, .inr (3, [.ref q10, .int r8.1])), (q10, .inl (cyI, 280, .inl r8.2))] H := hP
  have hD : va_D A [(h_p0, .inr (5, [.ref q1, .null, .null, .int 0, .int 0, .int 0])), (q1, .inr (0, [.ref q5, .ref q4])), (q4, .inl (cyI, 3, .inl r2.1)), (q5, .inl (cyI, 162, .inl r2.2)), (q7, .inr (3, [.ref q10, .int r8.1])), (q10, .inl (cyI, 280, .inl r8.2))] := hD
  refine va_putF (D := (dC, dI)) (ci := 5) (v := .ref q7) (ty := .object "SleeperBerths$Roster") (C := RX5) (T := TX5) (N := 6) hx hb hts m_X5_init_9 tyX5 tyX5_ok nmX5 hown hK hP hD hS 0 rfl rfl 1 (by decide) (hts (.fieldLink RX5 21 "SleeperBerths$Train" "roster" "LSleeperBerths$Roster;") m_X5_init_16) (fun _ h9 => h9) rfl hin rfl (by decide +kernel) rfl rfl (Nat.le_of_ble_eq_true rfl) dX5_init_23 (fun H locs hP hD hS => ?_)
  have hP : va_P (dC, dI) vwCl [(h_p0, .inr (5, [.ref q1, .ref q7, .null, .int 0, .int 0, .int 0])), (q1, .inr (0, [.ref q5, .ref q4])), (q4, .inl (cyI, 3, .inl r2.1)), (q5, .inl (cyI, 162, .inl r2.2)), (q7, .inr (3, [.ref q10, .int r8.1])), (q10, .inl (cyI, 280, .inl r8.2))] H := hP
  have hD : va_D A [(h_p0, .inr (5, [.ref q1, .ref q7, .null, .int 0, .int 0, .int 0])), (q1, .inr (0, [.ref q5, .ref q4])), (q4, .inl (cyI, 3, .inl r2.1)), (q5, .inl (cyI, 162, .inl r2.2)), (q7, .inr (3, [.ref q10, .int r8.1])), (q10, .inl (cyI, 280, .inl r8.2))] := hD
  refine lv_aload_n hx hb dX5_init_26 rfl (lv_at hl 0 rfl) ?_
  refine lv_iconst (v := iI 3) hx hb dX5_init_27 rfl ?_
  refine newI hx hb (hts (.arrayClass .int) m_X5_init_17) dX5_init_28 hK hP hD hS hA (NN := 3) (by decide) (by decide) (by decide) (Nat.le_of_ble_eq_true rfl) (Nat.le_of_ble_eq_true rfl) (fun q12 H hP hD hS => ?_)
  have hP : va_P (dC, dI) vwCl [(h_p0, .inr (5, [.ref q1, .ref q7, .null, .int 0, .int 0, .int 0])), (q1, .inr (0, [.ref q5, .ref q4])), (q4, .inl (cyI, 3, .inl r2.1)), (q5, .inl (cyI, 162, .inl r2.2)), (q7, .inr (3, [.ref q10, .int r8.1])), (q10, .inl (cyI, 280, .inl r8.2)), (q12, .inl (cyI, 3, .inl (fun _ => 0)))] H := hP
  have hD : va_D A [(h_p0, .inr (5, [.ref q1, .ref q7, .null, .int 0, .int 0, .int 0])), (q1, .inr (0, [.ref q5, .ref q4])), (q4, .inl (cyI, 3, .inl r2.1)), (q5, .inl (cyI, 162, .inl r2.2)), (q7, .inr (3, [.ref q10, .int r8.1])), (q10, .inl (cyI, 280, .inl r8.2)), (q12, .inl (cyI, 3, .inl (fun _ => 0)))] := hD
  refine lv_dup hx hb dX5_init_30 rfl ?_
  refine lv_iconst (v := iI 0) hx hb dX5_init_31 rfl ?_
  refine lv_iconst (v := iI 3) hx hb dX5_init_32 rfl ?_
  obtain ⟨g13, h⟩ := gsome h
  refine va_iast (D := (dC, dI)) hx hb hK hP hD hS 6 0 rfl rfl g13 dX5_init_33 (fun H locs hP hD hS => ?_)
  have hP : va_P (dC, dI) vwCl [(h_p0, .inr (5, [.ref q1, .ref q7, .null, .int 0, .int 0, .int 0])), (q1, .inr (0, [.ref q5, .ref q4])), (q4, .inl (cyI, 3, .inl r2.1)), (q5, .inl (cyI, 162, .inl r2.2)), (q7, .inr (3, [.ref q10, .int r8.1])), (q10, .inl (cyI, 280, .inl r8.2)), (q12, .inl (cyI, 3, .inl (upd (fun _ => 0) (iI 0).toNatClampNeg (iI 3))))] H := hP
  have hD : va_D A [(h_p0, .inr (5, [.ref q1, .ref q7, .null, .int 0, .int 0, .int 0])), (q1, .inr (0, [.ref q5, .ref q4])), (q4, .inl (cyI, 3, .inl r2.1)), (q5, .inl (cyI, 162, .inl r2.2)), (q7, .inr (3, [.ref q10, .int r8.1])), (q10, .inl (cyI, 280, .inl r8.2)), (q12, .inl (cyI, 3, .inl (upd (fun _ => 0) (iI 0).toNatClampNeg (iI 3))))] := hD
  refine lv_dup hx hb dX5_init_34 rfl ?_
  refine lv_iconst (v := iI 1) hx hb dX5_init_35 rfl ?_
  refine lv_bipush (v := iI 6) hx hb dX5_init_36 (by decide) ?_
  obtain ⟨g14, h⟩ := gsome h
  refine va_iast (D := (dC, dI)) hx hb hK hP hD hS 6 0 rfl rfl g14 dX5_init_38 (fun H locs hP hD hS => ?_)
  have hP : va_P (dC, dI) vwCl [(h_p0, .inr (5, [.ref q1, .ref q7, .null, .int 0, .int 0, .int 0])), (q1, .inr (0, [.ref q5, .ref q4])), (q4, .inl (cyI, 3, .inl r2.1)), (q5, .inl (cyI, 162, .inl r2.2)), (q7, .inr (3, [.ref q10, .int r8.1])), (q10, .inl (cyI, 280, .inl r8.2)), (q12, .inl (cyI, 3, .inl (upd (upd (fun _ => 0) (iI 0).toNatClampNeg (iI 3)) (iI 1).toNatClampNeg (iI 6))))] H := hP
  have hD : va_D A [(h_p0, .inr (5, [.ref q1, .ref q7, .null, .int 0, .int 0, .int 0])), (q1, .inr (0, [.ref q5, .ref q4])), (q4, .inl (cyI, 3, .inl r2.1)), (q5, .inl (cyI, 162, .inl r2.2)), (q7, .inr (3, [.ref q10, .int r8.1])), (q10, .inl (cyI, 280, .inl r8.2)), (q12, .inl (cyI, 3, .inl (upd (upd (fun _ => 0) (iI 0).toNatClampNeg (iI 3)) (iI 1).toNatClampNeg (iI 6))))] := hD
  refine lv_dup hx hb dX5_init_39 rfl ?_
  refine lv_iconst (v := iI 2) hx hb dX5_init_40 rfl ?_
  refine lv_bipush (v := iI 10) hx hb dX5_init_41 (by decide) ?_
  obtain ⟨g15, h⟩ := gsome h
  refine va_iast (D := (dC, dI)) hx hb hK hP hD hS 6 0 rfl rfl g15 dX5_init_43 (fun H locs hP hD hS => ?_)
  have hP : va_P (dC, dI) vwCl [(h_p0, .inr (5, [.ref q1, .ref q7, .null, .int 0, .int 0, .int 0])), (q1, .inr (0, [.ref q5, .ref q4])), (q4, .inl (cyI, 3, .inl r2.1)), (q5, .inl (cyI, 162, .inl r2.2)), (q7, .inr (3, [.ref q10, .int r8.1])), (q10, .inl (cyI, 280, .inl r8.2)), (q12, .inl (cyI, 3, .inl (upd (upd (upd (fun _ => 0) (iI 0).toNatClampNeg (iI 3)) (iI 1).toNatClampNeg (iI 6)) (iI 2).toNatClampNeg (iI 10))))] H := hP
  have hD : va_D A [(h_p0, .inr (5, [.ref q1, .ref q7, .null, .int 0, .int 0, .int 0])), (q1, .inr (0, [.ref q5, .ref q4])), (q4, .inl (cyI, 3, .inl r2.1)), (q5, .inl (cyI, 162, .inl r2.2)), (q7, .inr (3, [.ref q10, .int r8.1])), (q10, .inl (cyI, 280, .inl r8.2)), (q12, .inl (cyI, 3, .inl (upd (upd (upd (fun _ => 0) (iI 0).toNatClampNeg (iI 3)) (iI 1).toNatClampNeg (iI 6)) (iI 2).toNatClampNeg (iI 10))))] := hD
  refine va_putF (D := (dC, dI)) (ci := 5) (v := .ref q12) (ty := .array .int) (C := RX5) (T := TX5) (N := 6) hx hb hts m_X5_init_9 tyX5 tyX5_ok nmX5 hown hK hP hD hS 0 rfl rfl 2 (by decide) (hts (.fieldLink RX5 25 "SleeperBerths$Train" "settings" "[I") m_X5_init_18) (fun _ h9 => h9) rfl hin rfl (by decide +kernel) rfl rfl (Nat.le_of_ble_eq_true rfl) dX5_init_44 (fun H locs hP hD hS => ?_)
  have hP : va_P (dC, dI) vwCl [(h_p0, .inr (5, [.ref q1, .ref q7, .ref q12, .int 0, .int 0, .int 0])), (q1, .inr (0, [.ref q5, .ref q4])), (q4, .inl (cyI, 3, .inl r2.1)), (q5, .inl (cyI, 162, .inl r2.2)), (q7, .inr (3, [.ref q10, .int r8.1])), (q10, .inl (cyI, 280, .inl r8.2)), (q12, .inl (cyI, 3, .inl (upd (upd (upd (fun _ => 0) (iI 0).toNatClampNeg (iI 3)) (iI 1).toNatClampNeg (iI 6)) (iI 2).toNatClampNeg (iI 10))))] H := hP
  have hD : va_D A [(h_p0, .inr (5, [.ref q1, .ref q7, .ref q12, .int 0, .int 0, .int 0])), (q1, .inr (0, [.ref q5, .ref q4])), (q4, .inl (cyI, 3, .inl r2.1)), (q5, .inl (cyI, 162, .inl r2.2)), (q7, .inr (3, [.ref q10, .int r8.1])), (q10, .inl (cyI, 280, .inl r8.2)), (q12, .inl (cyI, 3, .inl (upd (upd (upd (fun _ => 0) (iI 0).toNatClampNeg (iI 3)) (iI 1).toNatClampNeg (iI 6)) (iI 2).toNatClampNeg (iI 10))))] := hD
  obtain rfl := Option.some.inj h
  refine W.widen (k := 6) (n := 452) (Nat.le_of_ble_eq_true rfl) (Nat.le_of_ble_eq_true rfl) ?_
  exact W.vret hx hb hr (fun t ht hW => ⟨⟨(), rfl, trivial, q1, q4, q5, q7, q10, q12, WLD.of ht hP hD⟩, hS.F ht⟩) hS.2.2 dX5_init_47
def s_X5_takeOver (n : Nat) (v_nextNumber : Int32) (v_bookings : Int32) (v_leftOut : Int32) (v_ends : Nat → Int32) (v_holders : Nat → Int32) (v_size : Int32) (v_cells : Nat → Int32) (v_settings : Nat → Int32) (v_nextNumber_1 : Int32) (v_bookings_1 : Int32) (v_leftOut_1 : Int32) (v_ends_1 : Nat → Int32) (v_holders_1 : Nat → Int32) (v_size_1 : Int32) (v_cells_1 : Nat → Int32) (v_settings_1 : Nat → Int32) : Option (Int32 × Int32 × Int32 × (Nat → Int32) × (Nat → Int32) × Int32 × (Nat → Int32) × (Nat → Int32)) := ((s_X0_takeOver n v_ends v_holders v_ends_1 v_holders_1).bind fun r1 => ((s_X3_takeOver n v_size v_cells v_size_1 v_cells_1).bind fun r4 => ((s_X6_copyAll n 3 v_settings_1 3 v_settings).bind fun r7 => (some (v_nextNumber_1, v_bookings_1, v_leftOut_1, r1.1, r1.2, r4.1, r4.2, r7)))))
set_option maxRecDepth 20000 in
theorem m_X5_takeOver_0 : ∀ w ∈ u_ws RX5 TX5 6, w ∈ wsX5_takeOver := by decide +kernel
set_option maxRecDepth 20000 in
theorem m_X5_takeOver_1 : (.fieldLink RX5 12 "SleeperBerths$Train" "berths" "LSleeperBerths$Berths;" : Cond) ∈ wsX5_takeOver := by decide +kernel
set_option maxRecDepth 20000 in
theorem m_X5_takeOver_2 : (.fieldLink RX5 21 "SleeperBerths$Train" "roster" "LSleeperBerths$Roster;" : Cond) ∈ wsX5_takeOver := by decide +kernel
set_option maxRecDepth 20000 in
theorem m_X5_takeOver_3 : (.fieldLink RX5 25 "SleeperBerths$Train" "settings" "[I" : Cond) ∈ wsX5_takeOver := by decide +kernel
set_option maxRecDepth 20000 in
theorem m_X5_takeOver_4 : (.initialized RX6 : Cond) ∈ wsX5_takeOver := by decide +kernel
set_option maxRecDepth 20000 in
theorem m_X5_takeOver_5 : (.static yX6_copyAll : Cond) ∈ wsX5_takeOver := by decide +kernel
set_option maxRecDepth 20000 in
theorem m_X5_takeOver_6 : (.fieldLink RX5 40 "SleeperBerths$Train" "nextNumber" "I" : Cond) ∈ wsX5_takeOver := by decide +kernel
set_option maxRecDepth 20000 in
theorem m_X5_takeOver_7 : (.fieldLink RX5 44 "SleeperBerths$Train" "bookings" "I" : Cond) ∈ wsX5_takeOver := by decide +kernel
set_option maxRecDepth 20000 in
theorem m_X5_takeOver_8 : (.fieldLink RX5 47 "SleeperBerths$Train" "leftOut" "I" : Cond) ∈ wsX5_takeOver := by decide +kernel
set_option maxHeartbeats 4000000 in
set_option maxRecDepth 100000 in
theorem c_X5_takeOver (l : Launch) (dC : Nat → ClassId) (dI : Nat → Nat → Nat) (cyI cyJ cyT : ClassId) (h_p0 : Nat) (h_p0_berths : Nat) (h_p0_roster : Nat) (h_p0_settings : Nat) (h_p0_berths_holders : Nat) (h_p0_berths_ends : Nat) (h_p0_roster_cells : Nat) (h_p1 : Nat) (h_p1_berths : Nat) (h_p1_roster : Nat) (h_p1_settings : Nat) (h_p1_berths_holders : Nat) (h_p1_berths_ends : Nat) (h_p1_roster_cells : Nat) (sz : Nat) (v_nextNumber : Int32) (v_bookings : Int32) (v_leftOut : Int32) (v_ends : Nat → Int32) (v_holders : Nat → Int32) (v_size : Int32) (v_cells : Nat → Int32) (v_settings : Nat → Int32) (v_nextNumber_1 : Int32) (v_bookings_1 : Int32) (v_leftOut_1 : Int32) (v_ends_1 : Nat → Int32) (v_holders_1 : Nat → Int32) (v_size_1 : Int32) (v_cells_1 : Nat → Int32) (v_settings_1 : Nat → Int32) (n : Nat) (o : Int32 × Int32 × Int32 × (Nat → Int32) × (Nat → Int32) × Int32 × (Nat → Int32) × (Nat → Int32)) (h : s_X5_takeOver n v_nextNumber v_bookings v_leftOut v_ends v_holders v_size v_cells v_settings v_nextNumber_1 v_bookings_1 v_leftOut_1 v_ends_1 v_holders_1 v_size_1 v_cells_1 v_settings_1 = some o) : Met l yX5_takeOver wsX5_takeOver ({ frames := 3, cells := 0, slots := 0, locals := 65 }) (va_Pc [.ref h_p0, .ref h_p1] (PRE (dC, dI) (TYS cyI cyJ cyT) sz [(h_p0, .inr (5, [.ref h_p0_berths, .ref h_p0_roster, .ref h_p0_settings, .int v_nextNumber, .int v_bookings, .int v_leftOut])), (h_p0_berths, .inr (0, [.ref h_p0_berths_holders, .ref h_p0_berths_ends])), (h_p0_berths_ends, .inl (cyI, 3, .inl v_ends)), (h_p0_berths_holders, .inl (cyI, 162, .inl v_holders)), (h_p0_roster, .inr (3, [.ref h_p0_roster_cells, .int v_size])), (h_p0_roster_cells, .inl (cyI, 280, .inl v_cells)), (h_p0_settings, .inl (cyI, 3, .inl v_settings)), (h_p1, .inr (5, [.ref h_p1_berths, .ref h_p1_roster, .ref h_p1_settings, .int v_nextNumber_1, .int v_bookings_1, .int v_leftOut_1])), (h_p1_berths, .inr (0, [.ref h_p1_berths_holders, .ref h_p1_berths_ends])), (h_p1_berths_ends, .inl (cyI, 3, .inl v_ends_1)), (h_p1_berths_holders, .inl (cyI, 162, .inl v_holders_1)), (h_p1_roster, .inr (3, [.ref h_p1_roster_cells, .int v_size_1])), (h_p1_roster_cells, .inl (cyI, 280, .inl v_cells_1)), (h_p1_settings, .inl (cyI, 3, .inl v_settings_1))])) (va_Qv (S := Unit) (fun _ => True) (fun _ t => WLD (dC, dI) (va_A [(h_p0, .inr (5, [.ref h_p0_berths, .ref h_p0_roster, .ref h_p0_settings, .int v_nextNumber, .int v_bookings, .int v_leftOut])), (h_p0_berths, .inr (0, [.ref h_p0_berths_holders, .ref h_p0_berths_ends])), (h_p0_berths_ends, .inl (cyI, 3, .inl v_ends)), (h_p0_berths_holders, .inl (cyI, 162, .inl v_holders)), (h_p0_roster, .inr (3, [.ref h_p0_roster_cells, .int v_size])), (h_p0_roster_cells, .inl (cyI, 280, .inl v_cells)), (h_p0_settings, .inl (cyI, 3, .inl v_settings)), (h_p1, .inr (5, [.ref h_p1_berths, .ref h_p1_roster, .ref h_p1_settings, .int v_nextNumber_1, .int v_bookings_1, .int v_leftOut_1])), (h_p1_berths, .inr (0, [.ref h_p1_berths_holders, .ref h_p1_berths_ends])), (h_p1_berths_ends, .inl (cyI, 3, .inl v_ends_1)), (h_p1_berths_holders, .inl (cyI, 162, .inl v_holders_1)), (h_p1_roster, .inr (3, [.ref h_p1_roster_cells, .int v_size_1])), (h_p1_roster_cells, .inl (cyI, 280, .inl v_cells_1)), (h_p1_settings, .inl (cyI, 3, .inl v_settings_1))] sz) [(h_p0, .inr (5, [.ref h_p0_berths, .ref h_p0_roster, .ref h_p0_settings, .int o.1, .int o.2.1, .int o.2.2.1])), (h_p0_berths, .inr (0, [.ref h_p0_berths_holders, .ref h_p0_berths_ends])), (h_p0_berths_ends, .inl (cyI, 3, .inl o.2.2.2.1)), (h_p0_berths_holders, .inl (cyI, 162, .inl o.2.2.2.2.1)), (h_p0_roster, .inr (3, [.ref h_p0_roster_cells, .int o.2.2.2.2.2.1])), (h_p0_roster_cells, .inl (cyI, 280, .inl o.2.2.2.2.2.2.1)), (h_p0_settings, .inl (cyI, 3, .inl o.2.2.2.2.2.2.2)), (h_p1, .inr (5, [.ref h_p1_berths, .ref h_p1_roster, .ref h_p1_settings, .int v_nextNumber_1, .int v_bookings_1, .int v_leftOut_1])), (h_p1_berths, .inr (0, [.ref h_p1_berths_holders, .ref h_p1_berths_ends])), (h_p1_berths_ends, .inl (cyI, 3, .inl v_ends_1)), (h_p1_berths_holders, .inl (cyI, 162, .inl v_holders_1)), (h_p1_roster, .inr (3, [.ref h_p1_roster_cells, .int v_size_1])), (h_p1_roster_cells, .inl (cyI, 280, .inl v_cells_1)), (h_p1_settings, .inl (cyI, 3, .inl v_settings_1))] t) (va_A [(h_p0, .inr (5, [.ref h_p0_berths, .ref h_p0_roster, .ref h_p0_settings, .int v_nextNumber, .int v_bookings, .int v_leftOut])), (h_p0_berths, .inr (0, [.ref h_p0_berths_holders, .ref h_p0_berths_ends])), (h_p0_berths_ends, .inl (cyI, 3, .inl v_ends)), (h_p0_berths_holders, .inl (cyI, 162, .inl v_holders)), (h_p0_roster, .inr (3, [.ref h_p0_roster_cells, .int v_size])), (h_p0_roster_cells, .inl (cyI, 280, .inl v_cells)), (h_p0_settings, .inl (cyI, 3, .inl v_settings)), (h_p1, .inr (5, [.ref h_p1_berths, .ref h_p1_roster, .ref h_p1_settings, .int v_nextNumber_1, .int v_bookings_1, .int v_leftOut_1])), (h_p1_berths, .inr (0, [.ref h_p1_berths_holders, .ref h_p1_berths_ends])), (h_p1_berths_ends, .inl (cyI, 3, .inl v_ends_1)), (h_p1_berths_holders, .inl (cyI, 162, .inl v_holders_1)), (h_p1_roster, .inr (3, [.ref h_p1_roster_cells, .int v_size_1])), (h_p1_roster_cells, .inl (cyI, 280, .inl v_cells_1)), (h_p1_settings, .inl (cyI, 3, .inl v_settings_1))] sz)) 0 0 (va_A [(h_p0, .inr (5, [.ref h_p0_berths, .ref h_p0_roster, .ref h_p0_settings, .int v_nextNumber, .int v_bookings, .int v_leftOut])), (h_p0_berths, .inr (0, [.ref h_p0_berths_holders, .ref h_p0_berths_ends])), (h_p0_berths_ends, .inl (cyI, 3, .inl v_ends)), (h_p0_berths_holders, .inl (cyI, 162, .inl v_holders)), (h_p0_roster, .inr (3, [.ref h_p0_roster_cells, .int v_size])), (h_p0_roster_cells, .inl (cyI, 280, .inl v_cells)), (h_p0_settings, .inl (cyI, 3, .inl v_settings)), (h_p1, .inr (5, [.ref h_p1_berths, .ref h_p1_roster, .ref h_p1_settings, .int v_nextNumber_1, .int v_bookings_1, .int v_leftOut_1])), (h_p1_berths, .inr (0, [.ref h_p1_berths_holders, .ref h_p1_berths_ends])), (h_p1_berths_ends, .inl (cyI, 3, .inl v_ends_1)), (h_p1_berths_holders, .inl (cyI, 162, .inl v_holders_1)), (h_p1_roster, .inr (3, [.ref h_p1_roster_cells, .int v_size_1])), (h_p1_roster_cells, .inl (cyI, 280, .inl v_cells_1)), (h_p1_settings, .inl (cyI, 3, .inl v_settings_1))] sz) := by
  refine Met.ofW (cc := cX5_takeOver) (maxL := 2) (ret := none) (by decide) rfl ?_
  intro p e s m args below meth c s₁ B hml hv
  obtain ⟨rfl, hsz, hP, hK, hD0, hNW⟩ := hv
  have hx := B.exec
  have hb := B.bytes
  have hr := B.returns
  have hts := atoms_spec (ws := wsX5_takeOver) B.pre
  have hown : s.vm.findClass RX5 = some m.cls := findClass_of_methodNamed B.named
  have hlocks := B.notSynchronized
  subst hsz
  have hD := hD0.self (sz := s.heap.size)
  generalize hAe : va_A [(h_p0, .inr (5, [.ref h_p0_berths, .ref h_p0_roster, .ref h_p0_settings, .int v_nextNumber, .int v_bookings, .int v_leftOut])), (h_p0_berths, .inr (0, [.ref h_p0_berths_holders, .ref h_p0_berths_ends])), (h_p0_berths_ends, .inl (cyI, 3, .inl v_ends)), (h_p0_berths_holders, .inl (cyI, 162, .inl v_holders)), (h_p0_roster, .inr (3, [.ref h_p0_roster_cells, .int v_size])), (h_p0_roster_cells, .inl (cyI, 280, .inl v_cells)), (h_p0_settings, .inl (cyI, 3, .inl v_settings)), (h_p1, .inr (5, [.ref h_p1_berths, .ref h_p1_roster, .ref h_p1_settings, .int v_nextNumber_1, .int v_bookings_1, .int v_leftOut_1])), (h_p1_berths, .inr (0, [.ref h_p1_berths_holders, .ref h_p1_berths_ends])), (h_p1_berths_ends, .inl (cyI, 3, .inl v_ends_1)), (h_p1_berths_holders, .inl (cyI, 162, .inl v_holders_1)), (h_p1_roster, .inr (3, [.ref h_p1_roster_cells, .int v_size_1])), (h_p1_roster_cells, .inl (cyI, 280, .inl v_cells_1)), (h_p1_settings, .inl (cyI, 3, .inl v_settings_1))] s.heap.size = A at hD ⊢
  have hA : ∀ q : Nat, s.heap.size ≤ q → A q := fun q h => by rw [← hAe]; exact Or.inr h
  have hS : va_S A s.heap s.heap [] := va_S.rf
  have hP : va_P (dC, dI) vwCl [(h_p0, .inr (5, [.ref h_p0_berths, .ref h_p0_roster, .ref h_p0_settings, .int v_nextNumber, .int v_bookings, .int v_leftOut])), (h_p0_berths, .inr (0, [.ref h_p0_berths_holders, .ref h_p0_berths_ends])), (h_p0_berths_ends, .inl (cyI, 3, .inl v_ends)), (h_p0_berths_holders, .inl (cyI, 162, .inl v_holders)), (h_p0_roster, .inr (3, [.ref h_p0_roster_cells, .int v_size])), (h_p0_roster_cells, .inl (cyI, 280, .inl v_cells)), (h_p0_settings, .inl (cyI, 3, .inl v_settings)), (h_p1, .inr (5, [.ref h_p1_berths, .ref h_p1_roster, .ref h_p1_settings, .int v_nextNumber_1, .int v_bookings_1, .int v_leftOut_1])), (h_p1_berths, .inr (0, [.ref h_p1_berths_holders, .ref h_p1_berths_ends])), (h_p1_berths_ends, .inl (cyI, 3, .inl v_ends_1)), (h_p1_berths_holders, .inl (cyI, 162, .inl v_holders_1)), (h_p1_roster, .inr (3, [.ref h_p1_roster_cells, .int v_size_1])), (h_p1_roster_cells, .inl (cyI, 280, .inl v_cells_1)), (h_p1_settings, .inl (cyI, 3, .inl v_settings_1))] s.heap := hP
  have hl := lv_entry ([.ref h_p0, .ref h_p1]) (n := 2) (Nat.le_of_ble_eq_true rfl)
  rw [lg_entry_eq]
  generalize (lg_sl ([.ref h_p0, .ref h_p1]) ++ List.replicate (2 - (lg_sl ([.ref h_p0, .ref h_p1])).length) Slot.unset).toArray = ls at hl ⊢
  have hl : lv_has ls 2 [(0, .ref h_p0), (1, .ref h_p1)] := hl
  unfold s_X5_takeOver at h
  refine lv_aload_n hx hb dX5_takeOver_0 rfl (lv_at hl 0 rfl) ?_
  refine va_get (D := (dC, dI)) (ci := 5) (v := .ref h_p0_berths) (C := RX5) (T := TX5) (N := 6) hx hb hts m_X5_takeOver_0 hown hK hP 0 rfl rfl 0 (by decide) (hts (.fieldLink RX5 12 "SleeperBerths$Train" "berths" "LSleeperBerths$Berths;") m_X5_takeOver_1) (fun _ h9 => h9) rfl dX5_takeOver_1 ?_
  refine lv_aload_n hx hb dX5_takeOver_4 rfl (lv_at hl 1 rfl) ?_
  refine va_get (D := (dC, dI)) (ci := 5) (v := .ref h_p1_berths) (C := RX5) (T := TX5) (N := 6) hx hb hts m_X5_takeOver_0 hown hK hP 7 rfl rfl 0 (by decide) (hts (.fieldLink RX5 12 "SleeperBerths$Train" "berths" "LSleeperBerths$Berths;") m_X5_takeOver_1) (fun _ h9 => h9) rfl dX5_takeOver_5 ?_
  obtain ⟨r1, e2, h⟩ := bsome h
  have hPc := sb_P [(h_p0_berths, .inr (0, [.ref h_p0_berths_holders, .ref h_p0_berths_ends])), (h_p0_berths_ends, .inl (cyI, 3, .inl v_ends)), (h_p0_berths_holders, .inl (cyI, 162, .inl v_holders)), (h_p1_berths, .inr (0, [.ref h_p1_berths_holders, .ref h_p1_berths_ends])), (h_p1_berths_ends, .inl (cyI, 3, .inl v_ends_1)), (h_p1_berths_holders, .inl (cyI, 162, .inl v_holders_1))] hP [1, 2, 3, 8, 9, 10] rfl
  have hDc := sb_D [(h_p0_berths, .inr (0, [.ref h_p0_berths_holders, .ref h_p0_berths_ends])), (h_p0_berths_ends, .inl (cyI, 3, .inl v_ends)), (h_p0_berths_holders, .inl (cyI, 162, .inl v_holders)), (h_p1_berths, .inr (0, [.ref h_p1_berths_holders, .ref h_p1_berths_ends])), (h_p1_berths_ends, .inl (cyI, 3, .inl v_ends_1)), (h_p1_berths_holders, .inl (cyI, 162, .inl v_holders_1))] hD [1, 2, 3, 8, 9, 10] (by decide) rfl
  have hFc := va_free (wc := [(h_p0_berths, .inr (0, [.ref h_p0_berths_holders, .ref h_p0_berths_ends])), (h_p0_berths_ends, .inl (cyI, 3, .inl v_ends)), (h_p0_berths_holders, .inl (cyI, 162, .inl v_holders)), (h_p1_berths, .inr (0, [.ref h_p1_berths_holders, .ref h_p1_berths_ends])), (h_p1_berths_ends, .inl (cyI, 3, .inl v_ends_1)), (h_p1_berths_holders, .inl (cyI, 162, .inl v_holders_1))]) hD hS hA [1, 2, 3, 8, 9, 10] rfl
  refine va_callv (va_runV (As := [.ref h_p1_berths]) (rest := []) ⟨hx, hb, hml, hown, hts⟩ (c_X0_takeOver l dC dI cyI cyJ cyT h_p0_berths h_p0_berths_holders h_p0_berths_ends h_p1_berths h_p1_berths_holders h_p1_berths_ends s.heap.size v_ends v_holders v_ends_1 v_holders_1 n r1 e2) (cwV 1 hts gX5_takeOver_X0_takeOver rfl rfl rfl (by decide +kernel) ⟨Nat.le_of_ble_eq_true rfl, Nat.le_of_ble_eq_true rfl⟩) ⟨PRE.blind, va_recv hK hPc (ci := 0) (q0 := 0) rfl rfl, PRE.go hK hPc hDc hNW⟩ rfl rfl hl.1 rfl (lv_room (Nat.le_of_ble_eq_true rfl)) dX5_takeOver_8 ⟨Nat.zero_le _, Nat.zero_le _⟩) hS (fun q _ h => hFc q h) hFc (fun u t H locs ht hvm hw hB hz1 hk1 hS => ?_)
  obtain ⟨hP, hD⟩ := va_join (wr := [(h_p0, .inr (5, [.ref h_p0_berths, .ref h_p0_roster, .ref h_p0_settings, .int v_nextNumber, .int v_bookings, .int v_leftOut])), (h_p0_roster, .inr (3, [.ref h_p0_roster_cells, .int v_size])), (h_p0_roster_cells, .inl (cyI, 280, .inl v_cells)), (h_p0_settings, .inl (cyI, 3, .inl v_settings)), (h_p1, .inr (5, [.ref h_p1_berths, .ref h_p1_roster, .ref h_p1_settings, .int v_nextNumber_1, .int v_bookings_1, .int v_leftOut_1])), (h_p1_roster, .inr (3, [.ref h_p1_roster_cells, .int v_size_1])), (h_p1_roster_cells, .inl (cyI, 280, .inl v_cells_1)), (h_p1_settings, .inl (cyI, 3, .inl v_settings_1))]) (w1 := [(h_p0_berths, .inr (0, [.ref h_p0_berths_holders, .ref h_p0_berths_ends])), (h_p0_berths_ends, .inl (cyI, 3, .inl r1.1)), (h_p0_berths_holders, .inl (cyI, 162, .inl r1.2)), (h_p1_berths, .inr (0, [.ref h_p1_berths_holders, .ref h_p1_berths_ends])), (h_p1_berths_ends, .inl (cyI, 3, .inl v_ends_1)), (h_p1_berths_holders, .inl (cyI, 162, .inl v_holders_1))]) hP hD [1, 2, 3, 8, 9, 10] [0, 4, 5, 6, 7, 11, 12, 13] rfl rfl (by decide) (by decide) hk1 hFc (WLD.P hB ht) hB.2
  have hP : va_P (dC, dI) vwCl [(h_p0, .inr (5, [.ref h_p0_berths, .ref h_p0_roster, .ref h_p0_settings, .int v_nextNumber, .int v_bookings, .int v_leftOut])), (h_p0_roster, .inr (3, [.ref h_p0_roster_cells, .int v_size])), (h_p0_roster_cells, .inl (cyI, 280, .inl v_cells)), (h_p0_settings, .inl (cyI, 3, .inl v_settings)), (h_p1, .inr (5, [.ref h_p1_berths, .ref h_p1_roster, .ref h_p1_settings, .int v_nextNumber_1, .int v_bookings_1, .int v_leftOut_1])), (h_p1_roster, .inr (3, [.ref h_p1_roster_cells, .int v_size_1])), (h_p1_roster_cells, .inl (cyI, 280, .inl v_cells_1)), (h_p1_settings, .inl (cyI, 3, .inl v_settings_1)), (h_p0_berths, .inr (0, [.ref h_p0_berths_holders, .ref h_p0_berths_ends])), (h_p0_berths_ends, .inl (cyI, 3, .inl r1.1)), (h_p0_berths_holders, .inl (cyI, 162, .inl r1.2)), (h_p1_berths, .inr (0, [.ref h_p1_berths_holders, .ref h_p1_berths_ends])), (h_p1_berths_ends, .inl (cyI, 3, .inl v_ends_1)), (h_p1_berths_holders, .inl (cyI, 162, .inl v_holders_1))] H := hP
  have hD : va_D A [(h_p0, .inr (5, [.ref h_p0_berths, .ref h_p0_roster, .ref h_p0_settings, .int v_nextNumber, .int v_bookings, .int v_leftOut])), (h_p0_roster, .inr (3, [.ref h_p0_roster_cells, .int v_size])), (h_p0_roster_cells, .inl (cyI, 280, .inl v_cells)), (h_p0_settings, .inl (cyI, 3, .inl v_settings)), (h_p1, .inr (5, [.ref h_p1_berths, .ref h_p1_roster, .ref h_p1_settings, .int v_nextNumber_1, .int v_bookings_1, .int v_leftOut_1])), (h_p1_roster, .inr (3, [.ref h_p1_roster_cells, .int v_size_1])), (h_p1_roster_cells, .inl (cyI, 280, .inl v_cells_1)), (h_p1_settings, .inl (cyI, 3, .inl v_settings_1)), (h_p0_berths, .inr (0, [.ref h_p0_berths_holders, .ref h_p0_berths_ends])), (h_p0_berths_ends, .inl (cyI, 3, .inl r1.1)), (h_p0_berths_holders, .inl (cyI, 162, .inl r1.2)), (h_p1_berths, .inr (0, [.ref h_p1_berths_holders, .ref h_p1_berths_ends])), (h_p1_berths_ends, .inl (cyI, 3, .inl v_ends_1)), (h_p1_berths_holders, .inl (cyI, 162, .inl v_holders_1))] := hD
  refine lv_aload_n hx hb dX5_takeOver_11 rfl (lv_at hl 0 rfl) ?_
  refine va_get (D := (dC, dI)) (ci := 5) (v := .ref h_p0_roster) (C := RX5) (T := TX5) (N := 6) hx hb hts m_X5_takeOver_0 hown hK hP 0 rfl rfl 1 (by decide) (hts (.fieldLink RX5 21 "SleeperBerths$Train" "roster" "LSleeperBerths$Roster;") m_X5_takeOver_2) (fun _ h9 => h9) rfl dX5_takeOver_12 ?_
  refine lv_aload_n hx hb dX5_takeOver_15 rfl (lv_at hl 1 rfl) ?_
  refine va_get (D := (dC, dI)) (ci := 5) (v := .ref h_p1_roster) (C := RX5) (T := TX5) (N := 6) hx hb hts m_X5_takeOver_0 hown hK hP 4 rfl rfl 1 (by decide) (hts (.fieldLink RX5 21 "SleeperBerths$Train" "roster" "LSleeperBerths$Roster;") m_X5_takeOver_2) (fun _ h9 => h9) rfl dX5_takeOver_16 ?_
  obtain ⟨r4, e5, h⟩ := bsome h
  have hPc := sb_P [(h_p0_roster, .inr (3, [.ref h_p0_roster_cells, .int v_size])), (h_p0_roster_cells, .inl (cyI, 280, .inl v_cells)), (h_p1_roster, .inr (3, [.ref h_p1_roster_cells, .int v_size_1])), (h_p1_roster_cells, .inl (cyI, 280, .inl v_cells_1))] hP [1, 2, 5, 6] rfl
  have hDc := sb_D [(h_p0_roster, .inr (3, [.ref h_p0_roster_cells, .int v_size])), (h_p0_roster_cells, .inl (cyI, 280, .inl v_cells)), (h_p1_roster, .inr (3, [.ref h_p1_roster_cells, .int v_size_1])), (h_p1_roster_cells, .inl (cyI, 280, .inl v_cells_1))] hD [1, 2, 5, 6] (by decide) rfl
  have hFc := va_free (wc := [(h_p0_roster, .inr (3, [.ref h_p0_roster_cells, .int v_size])), (h_p0_roster_cells, .inl (cyI, 280, .inl v_cells)), (h_p1_roster, .inr (3, [.ref h_p1_roster_cells, .int v_size_1])), (h_p1_roster_cells, .inl (cyI, 280, .inl v_cells_1))]) hD hS hA [1, 2, 5, 6] rfl
  refine va_callv (va_runV (As := [.ref h_p1_roster]) (rest := []) ⟨hx, hb, hml, hown, hts⟩ (c_X3_takeOver l dC dI cyI cyJ cyT h_p0_roster h_p0_roster_cells h_p1_roster h_p1_roster_cells H.size v_size v_cells v_size_1 v_cells_1 n r4 e5) (cwV 1 hts gX5_takeOver_X3_takeOver rfl rfl rfl (by decide +kernel) ⟨Nat.le_of_ble_eq_true rfl, Nat.le_of_ble_eq_true rfl⟩) ⟨PRE.blind, va_recv hK hPc (ci := 3) (q0 := 0) rfl rfl, PRE.go hK hPc hDc hNW⟩ rfl rfl hl.1 rfl (lv_room (Nat.le_of_ble_eq_true rfl)) dX5_takeOver_19 ⟨Nat.zero_le _, Nat.zero_le _⟩) hS (fun q _ h => hFc q h) hFc (fun u t H locs ht hvm hw hB hz1 hk1 hS => ?_)
  obtain ⟨hP, hD⟩ := va_join (wr := [(h_p0, .inr (5, [.ref h_p0_berths, .ref h_p0_roster, .ref h_p0_settings, .int v_nextNumber, .int v_bookings, .int v_leftOut])), (h_p0_settings, .inl (cyI, 3, .inl v_settings)), (h_p1, .inr (5, [.ref h_p1_berths, .ref h_p1_roster, .ref h_p1_settings, .int v_nextNumber_1, .int v_bookings_1, .int v_leftOut_1])), (h_p1_settings, .inl (cyI, 3, .inl v_settings_1)), (h_p0_berths, .inr (0, [.ref h_p0_berths_holders, .ref h_p0_berths_ends])), (h_p0_berths_ends, .inl (cyI, 3, .inl r1.1)), (h_p0_berths_holders, .inl (cyI, 162, .inl r1.2)), (h_p1_berths, .inr (0, [.ref h_p1_berths_holders, .ref h_p1_berths_ends])), (h_p1_berths_ends, .inl (cyI, 3, .inl v_ends_1)), (h_p1_berths_holders, .inl (cyI, 162, .inl v_holders_1))]) (w1 := [(h_p0_roster, .inr (3, [.ref h_p0_roster_cells, .int r4.1])), (h_p0_roster_cells, .inl (cyI, 280, .inl r4.2)), (h_p1_roster, .inr (3, [.ref h_p1_roster_cells, .int v_size_1])), (h_p1_roster_cells, .inl (cyI, 280, .inl v_cells_1))]) hP hD [1, 2, 5, 6] [0, 3, 4, 7, 8, 9, 10, 11, 12, 13] rfl rfl (by decide) (by decide) hk1 hFc (WLD.P hB ht) hB.2
  have hP : va_P (dC, dI) vwCl [(h_p0, .inr (5, [.ref h_p0_berths, .ref h_p0_roster, .ref h_p0_settings, .int v_nextNumber, .int v_bookings, .int v_leftOut])), (h_p0_settings, .inl (cyI, 3, .inl v_settings)), (h_p1, .inr (5, [.ref h_p1_berths, .ref h_p1_roster, .ref h_p1_settings, .int v_nextNumber_1, .int v_bookings_1, .int v_leftOut_1])), (h_p1_settings, .inl (cyI, 3, .inl v_settings_1)), (h_p0_berths, .inr (0, [.ref h_p0_berths_holders, .ref h_p0_berths_ends])), (h_p0_berths_ends, .inl (cyI, 3, .inl r1.1)), (h_p0_berths_holders, .inl (cyI, 162, .inl r1.2)), (h_p1_berths, .inr (0, [.ref h_p1_berths_holders, .ref h_p1_berths_ends])), (h_p1_berths_ends, .inl (cyI, 3, .inl v_ends_1)), (h_p1_berths_holders, .inl (cyI, 162, .inl v_holders_1)), (h_p0_roster, .inr (3, [.ref h_p0_roster_cells, .int r4.1])), (h_p0_roster_cells, .inl (cyI, 280, .inl r4.2)), (h_p1_roster, .inr (3, [.ref h_p1_roster_cells, .int v_size_1])), (h_p1_roster_cells, .inl (cyI, 280, .inl v_cells_1))] H := hP
  have hD : va_D A [(h_p0, .inr (5, [.ref h_p0_berths, .ref h_p0_roster, .ref h_p0_settings, .int v_nextNumber, .int v_bookings, .int v_leftOut])), (h_p0_settings, .inl (cyI, 3, .inl v_settings)), (h_p1, .inr (5, [.ref h_p1_berths, .ref h_p1_roster, .ref h_p1_settings, .int v_nextNumber_1, .int v_bookings_1, .int v_leftOut_1])), (h_p1_settings, .inl (cyI, 3, .inl v_settings_1)), (h_p0_berths, .inr (0, [.ref h_p0_berths_holders, .ref h_p0_berths_ends])), (h_p0_berths_ends, .inl (cyI, 3, .inl r1.1)), (h_p0_berths_holders, .inl (cyI, 162, .inl r1.2)), (h_p1_berths, .inr (0, [.ref h_p1_berths_holders, .ref h_p1_berths_ends])), (h_p1_berths_ends, .inl (cyI, 3, .inl v_ends_1)), (h_p1_berths_holders, .inl (cyI, 162, .inl v_holders_1)), (h_p0_roster, .inr (3, [.ref h_p0_roster_cells, .int r4.1])), (h_p0_roster_cells, .inl (cyI, 280, .inl r4.2)), (h_p1_roster, .inr (3, [.ref h_p1_roster_cells, .int v_size_1])), (h_p1_roster_cells, .inl (cyI, 280, .inl v_cells_1))] := hD
  refine lv_aload_n hx hb dX5_takeOver_22 rfl (lv_at hl 1 rfl) ?_
  refine va_get (D := (dC, dI)) (ci := 5) (v := .ref h_p1_settings) (C := RX5) (T := TX5) (N := 6) hx hb hts m_X5_takeOver_0 hown hK hP 2 rfl rfl 2 (by decide) (hts (.fieldLink RX5 25 "SleeperBerths$Train" "settings" "[I") m_X5_takeOver_3) (fun _ h9 => h9) rfl dX5_takeOver_23 ?_
  refine lv_aload_n hx hb dX5_takeOver_26 rfl (lv_at hl 0 rfl) ?_
  refine va_get (D := (dC, dI)) (ci := 5) (v := .ref h_p0_settings) (C := RX5) (T := TX5) (N := 6) hx hb hts m_X5_takeOver_0 hown hK hP 0 rfl rfl 2 (by decide) (hts (.fieldLink RX5 25 "SleeperBerths$Train" "settings" "[I") m_X5_takeOver_3) (fun _ h9 => h9) rfl dX5_takeOver_27 ?_
  obtain ⟨r7, e8, h⟩ := bsome h
  have hPc := sb_P [(h_p1_settings, .inl (cyI, 3, .inl v_settings_1)), (h_p0_settings, .inl (cyI, 3, .inl v_settings))] hP [3, 1] rfl
  have hDc := sb_D [(h_p1_settings, .inl (cyI, 3, .inl v_settings_1)), (h_p0_settings, .inl (cyI, 3, .inl v_settings))] hD [3, 1] (by decide) rfl
  have hFc := va_free (wc := [(h_p1_settings, .inl (cyI, 3, .inl v_settings_1)), (h_p0_settings, .inl (cyI, 3, .inl v_settings))]) hD hS hA [3, 1] rfl
  refine va_callv (va_runSN (As := [.ref h_p1_settings, .ref h_p0_settings]) (rest := []) ⟨hx, hb, hml, hown, hts⟩ (c_X6_copyAll l dC dI cyI cyJ cyT h_p1_settings h_p0_settings H.size 3 3 v_settings_1 v_settings n r7 e8) ⟨va_cnB (host := "SleeperBerths") 2 hts gX5_takeOver_X6_copyAll_n36 rfl rfl rfl (hNW 9 rfl) (hts (.initialized RX6) m_X5_takeOver_4) (by decide +kernel) ⟨Nat.le_of_ble_eq_true rfl, Nat.le_of_ble_eq_true rfl⟩, (hts (.static yX6_copyAll) m_X5_takeOver_5), trivial⟩ ⟨PRE.blind, PRE.go hK hPc hDc hNW⟩ rfl rfl hl.1 rfl (lv_room (Nat.le_of_ble_eq_true rfl)) dX5_takeOver_30 ⟨Nat.zero_le _, Nat.zero_le _⟩) hS (fun q _ h => hFc q h) hFc (fun u t H locs ht hvm hw hB hz1 hk1 hS => ?_)
  obtain ⟨hP, hD⟩ := va_join (wr := [(h_p0, .inr (5, [.ref h_p0_berths, .ref h_p0_roster, .ref h_p0_settings, .int v_nextNumber, .int v_bookings, .int v_leftOut])), (h_p1, .inr (5, [.ref h_p1_berths, .ref h_p1_roster, .ref h_p1_settings, .int v_nextNumber_1, .int v_bookings_1, .int v_leftOut_1])), (h_p0_berths, .inr (0, [.ref h_p0_berths_holders, .ref h_p0_berths_ends])), (h_p0_berths_ends, .inl (cyI, 3, .inl r1.1)), (h_p0_berths_holders, .inl (cyI, 162, .inl r1.2)), (h_p1_berths, .inr (0, [.ref h_p1_berths_holders, .ref h_p1_berths_ends])), (h_p1_berths_ends, .inl (cyI, 3, .inl v_ends_1)), (h_p1_berths_holders, .inl (cyI, 162, .inl v_holders_1)), (h_p0_roster, .inr (3, [.ref h_p0_roster_cells, .int r4.1])), (h_p0_roster_cells, .inl (cyI, 280, .inl r4.2)), (h_p1_roster, .inr (3, [.ref h_p1_roster_cells, .int v_size_1])), (h_p1_roster_cells, .inl (cyI, 280, .inl v_cells_1))]) (w1 := [(h_p1_settings, .inl (cyI, 3, .inl v_settings_1)), (h_p0_settings, .inl (cyI, 3, .inl r7))]) hP hD [3, 1] [0, 2, 4, 5, 6, 7, 8, 9, 10, 11, 12, 13] rfl rfl (by decide) (by decide) hk1 hFc (WLD.P hB ht) hB.2
  have hP : va_P (dC, dI) vwCl [(h_p0, .inr (5, [.ref h_p0_berths, .ref h_p0_roster, .ref h_p0_settings, .int v_nextNumber, .int v_bookings, .int v_leftOut])), (h_p1, .inr (5, [.ref h_p1_berths, .ref h_p1_roster, .ref h_p1_settings, .int v_nextNumber_1, .int v_bookings_1, .int v_leftOut_1])), (h_p0_berths, .inr (0, [.ref h_p0_berths_holders, .ref h_p0_berths_ends])), (h_p0_berths_ends, .inl (cyI, 3, .inl r1.1)), (h_p0_berths_holders, .inl (cyI, 162, .inl r1.2)), (h_p1_berths, .inr (0, [.ref h_p1_berths_holders, .ref h_p1_berths_ends])), (h_p1_berths_ends, .inl (cyI, 3, .inl v_ends_1)), (h_p1_berths_holders, .inl (cyI, 162, .inl v_holders_1)), (h_p0_roster, .inr (3, [.ref h_p0_roster_cells, .int r4.1])), (h_p0_roster_cells, .inl (cyI, 280, .inl r4.2)), (h_p1_roster, .inr (3, [.ref h_p1_roster_cells, .int v_size_1])), (h_p1_roster_cells, .inl (cyI, 280, .inl v_cells_1)), (h_p1_settings, .inl (cyI, 3, .inl v_settings_1)), (h_p0_settings, .inl (cyI, 3, .inl r7))] H := hP
  have hD : va_D A [(h_p0, .inr (5, [.ref h_p0_berths, .ref h_p0_roster, .ref h_p0_settings, .int v_nextNumber, .int v_bookings, .int v_leftOut])), (h_p1, .inr (5, [.ref h_p1_berths, .ref h_p1_roster, .ref h_p1_settings, .int v_nextNumber_1, .int v_bookings_1, .int v_leftOut_1])), (h_p0_berths, .inr (0, [.ref h_p0_berths_holders, .ref h_p0_berths_ends])), (h_p0_berths_ends, .inl (cyI, 3, .inl r1.1)), (h_p0_berths_holders, .inl (cyI, 162, .inl r1.2)), (h_p1_berths, .inr (0, [.ref h_p1_berths_holders, .ref h_p1_berths_ends])), (h_p1_berths_ends, .inl (cyI, 3, .inl v_ends_1)), (h_p1_berths_holders, .inl (cyI, 162, .inl v_holders_1)), (h_p0_roster, .inr (3, [.ref h_p0_roster_cells, .int r4.1])), (h_p0_roster_cells, .inl (cyI, 280, .inl r4.2)), (h_p1_roster, .inr (3, [.ref h_p1_roster_cells, .int v_size_1])), (h_p1_roster_cells, .inl (cyI, 280, .inl v_cells_1)), (h_p1_settings, .inl (cyI, 3, .inl v_settings_1)), (h_p0_settings, .inl (cyI, 3, .inl r7))] := hD
  refine lv_aload_n hx hb dX5_takeOver_33 rfl (lv_at hl 0 rfl) ?_
  refine lv_aload_n hx hb dX5_takeOver_34 rfl (lv_at hl 1 rfl) ?_
  refine va_get (D := (dC, dI)) (ci := 5) (v := .int v_nextNumber_1) (C := RX5) (T := TX5) (N := 6) hx hb hts m_X5_takeOver_0 hown hK hP 1 rfl rfl 3 (by decide) (hts (.fieldLink RX5 40 "SleeperBerths$Train" "nextNumber" "I") m_X5_takeOver_6) (fun _ h9 => h9) rfl dX5_takeOver_35 ?_
  refine va_put (D := (dC, dI)) (ci := 5) (v := .int v_nextNumber_1) (ty := .int) (C := RX5) (T := TX5) (N := 6) hx hb hts m_X5_takeOver_0 tyX5 tyX5_ok nmX5 hown hK hP hD hS 0 rfl rfl 3 (by decide) (hts (.fieldLink RX5 40 "SleeperBerths$Train" "nextNumber" "I") m_X5_takeOver_6) (fun _ h9 => h9) rfl (by decide +kernel) rfl rfl (Nat.le_of_ble_eq_true rfl) dX5_takeOver_38 (fun H locs hP hD hS => ?_)
  have hP : va_P (dC, dI) vwCl [(h_p0, .inr (5, [.ref h_p0_berths, .ref h_p0_roster, .ref h_p0_settings, .int v_nextNumber_1, .int v_bookings, .int v_leftOut])), (h_p1, .inr (5, [.ref h_p1_berths, .ref h_p1_roster, .ref h_p1_settings, .int v_nextNumber_1, .int v_bookings_1, .int v_leftOut_1])), (h_p0_berths, .inr (0, [.ref h_p0_berths_holders, .ref h_p0_berths_ends])), (h_p0_berths_ends, .inl (cyI, 3, .inl r1.1)), (h_p0_berths_holders, .inl (cyI, 162, .inl r1.2)), (h_p1_berths, .inr (0, [.ref h_p1_berths_holders, .ref h_p1_berths_ends])), (h_p1_berths_ends, .inl (cyI, 3, .inl v_ends_1)), (h_p1_berths_holders, .inl (cyI, 162, .inl v_holders_1)), (h_p0_roster, .inr (3, [.ref h_p0_roster_cells, .int r4.1])), (h_p0_roster_cells, .inl (cyI, 280, .inl r4.2)), (h_p1_roster, .inr (3, [.ref h_p1_roster_cells, .int v_size_1])), (h_p1_roster_cells, .inl (cyI, 280, .inl v_cells_1)), (h_p1_settings, .inl (cyI, 3, .inl v_settings_1)), (h_p0_settings, .inl (cyI, 3, .inl r7))] H := hP
  have hD : va_D A [(h_p0, .inr (5, [.ref h_p0_berths, .ref h_p0_roster, .ref h_p0_settings, .int v_nextNumber_1, .int v_bookings, .int v_leftOut])), (h_p1, .inr (5, [.ref h_p1_berths, .ref h_p1_roster, .ref h_p1_settings, .int v_nextNumber_1, .int v_bookings_1, .int v_leftOut_1])), (h_p0_berths, .inr (0, [.ref h_p0_berths_holders, .ref h_p0_berths_ends])), (h_p0_berths_ends, .inl (cyI, 3, .inl r1.1)), (h_p0_berths_holders, .inl (cyI, 162, .inl r1.2)), (h_p1_berths, .inr (0, [.ref h_p1_berths_holders, .ref h_p1_berths_ends])), (h_p1_berths_ends, .inl (cyI, 3, .inl v_ends_1)), (h_p1_berths_holders, .inl (cyI, 162, .inl v_holders_1)), (h_p0_roster, .inr (3, [.ref h_p0_roster_cells, .int r4.1])), (h_p0_roster_cells, .inl (cyI, 280, .inl r4.2)), (h_p1_roster, .inr (3, [.ref h_p1_roster_cells, .int v_size_1])), (h_p1_roster_cells, .inl (cyI, 280, .inl v_cells_1)), (h_p1_settings, .inl (cyI, 3, .inl v_settings_1)), (h_p0_settings, .inl (cyI, 3, .inl r7))] := hD
  refine lv_aload_n hx hb dX5_takeOver_41 rfl (lv_at hl 0 rfl) ?_
  refine lv_aload_n hx hb dX5_takeOver_42 rfl (lv_at hl 1 rfl) ?_
  refine va_get (D := (dC, dI)) (ci := 5) (v := .int v_bookings_1) (C := RX5) (T := TX5) (N := 6) hx hb hts m_X5_takeOver_0 hown hK hP 1 rfl rfl 4 (by decide) (hts (.fieldLink RX5 44 "SleeperBerths$Train" "bookings" "I") m_X5_takeOver_7) (fun _ h9 => h9) rfl dX5_takeOver_43 ?_
  refine va_put (D := (dC, dI)) (ci := 5) (v := .int v_bookings_1) (ty := .int) (C := RX5) (T := TX5) (N := 6) hx hb hts m_X5_takeOver_0 tyX5 tyX5_ok nmX5 hown hK hP hD hS 0 rfl rfl 4 (by decide) (hts (.fieldLink RX5 44 "SleeperBerths$Train" "bookings" "I") m_X5_takeOver_7) (fun _ h9 => h9) rfl (by decide +kernel) rfl rfl (Nat.le_of_ble_eq_true rfl) dX5_takeOver_46 (fun H locs hP hD hS => ?_)
  have hP : va_P (dC, dI) vwCl [(h_p0, .inr (5, [.ref h_p0_berths, .ref h_p0_roster, .ref h_p0_settings, .int v_nextNumber_1, .int v_bookings_1, .int v_leftOut])), (h_p1, .inr (5, [.ref h_p1_berths, .ref h_p1_roster, .ref h_p1_settings, .int v_nextNumber_1, .int v_bookings_1, .int v_leftOut_1])), (h_p0_berths, .inr (0, [.ref h_p0_berths_holders, .ref h_p0_berths_ends])), (h_p0_berths_ends, .inl (cyI, 3, .inl r1.1)), (h_p0_berths_holders, .inl (cyI, 162, .inl r1.2)), (h_p1_berths, .inr (0, [.ref h_p1_berths_holders, .ref h_p1_berths_ends])), (h_p1_berths_ends, .inl (cyI, 3, .inl v_ends_1)), (h_p1_berths_holders, .inl (cyI, 162, .inl v_holders_1)), (h_p0_roster, .inr (3, [.ref h_p0_roster_cells, .int r4.1])), (h_p0_roster_cells, .inl (cyI, 280, .inl r4.2)), (h_p1_roster, .inr (3, [.ref h_p1_roster_cells, .int v_size_1])), (h_p1_roster_cells, .inl (cyI, 280, .inl v_cells_1)), (h_p1_settings, .inl (cyI, 3, .inl v_settings_1)), (h_p0_settings, .inl (cyI, 3, .inl r7))] H := hP
  have hD : va_D A [(h_p0, .inr (5, [.ref h_p0_berths, .ref h_p0_roster, .ref h_p0_settings, .int v_nextNumber_1, .int v_bookings_1, .int v_leftOut])), (h_p1, .inr (5, [.ref h_p1_berths, .ref h_p1_roster, .ref h_p1_settings, .int v_nextNumber_1, .int v_bookings_1, .int v_leftOut_1])), (h_p0_berths, .inr (0, [.ref h_p0_berths_holders, .ref h_p0_berths_ends])), (h_p0_berths_ends, .inl (cyI, 3, .inl r1.1)), (h_p0_berths_holders, .inl (cyI, 162, .inl r1.2)), (h_p1_berths, .inr (0, [.ref h_p1_berths_holders, .ref h_p1_berths_ends])), (h_p1_berths_ends, .inl (cyI, 3, .inl v_ends_1)), (h_p1_berths_holders, .inl (cyI, 162, .inl v_holders_1)), (h_p0_roster, .inr (3, [.ref h_p0_roster_cells, .int r4.1])), (h_p0_roster_cells, .inl (cyI, 280, .inl r4.2)), (h_p1_roster, .inr (3, [.ref h_p1_roster_cells, .int v_size_1])), (h_p1_roster_cells, .inl (cyI, 280, .inl v_cells_1)), (h_p1_settings, .inl (cyI, 3, .inl v_settings_1)), (h_p0_settings, .inl (cyI, 3, .inl r7))] := hD
  refine lv_aload_n hx hb dX5_takeOver_49 rfl (lv_at hl 0 rfl) ?_
  refine lv_aload_n hx hb dX5_takeOver_50 rfl (lv_at hl 1 rfl) ?_
  refine va_get (D := (dC, dI)) (ci := 5) (v := .int v_leftOut_1) (C := RX5) (T := TX5) (N := 6) hx hb hts m_X5_takeOver_0 hown hK hP 1 rfl rfl 5 (by decide) (hts (.fieldLink RX5 47 "SleeperBerths$Train" "leftOut" "I") m_X5_takeOver_8) (fun _ h9 => h9) rfl dX5_takeOver_51 ?_
  refine va_put (D := (dC, dI)) (ci := 5) (v := .int v_leftOut_1) (ty := .int) (C := RX5) (T := TX5) (N := 6) hx hb hts m_X5_takeOver_0 tyX5 tyX5_ok nmX5 hown hK hP hD hS 0 rfl rfl 5 (by decide) (hts (.fieldLink RX5 47 "SleeperBerths$Train" "leftOut" "I") m_X5_takeOver_8) (fun _ h9 => h9) rfl (by decide +kernel) rfl rfl (Nat.le_of_ble_eq_true rfl) dX5_takeOver_54 (fun H locs hP hD hS => ?_)
  have hP : va_P (dC, dI) vwCl [(h_p0, .inr (5, [.ref h_p0_berths, .ref h_p0_roster, .ref h_p0_settings, .int v_nextNumber_1, .int v_bookings_1, .int v_leftOut_1])), (h_p1, .inr (5, [.ref h_p1_berths, .ref h_p1_roster, .ref h_p1_settings, .int v_nextNumber_1, .int v_bookings_1, .int v_leftOut_1])), (h_p0_berths, .inr (0, [.ref h_p0_berths_holders, .ref h_p0_berths_ends])), (h_p0_berths_ends, .inl (cyI, 3, .inl r1.1)), (h_p0_berths_holders, .inl (cyI, 162, .inl r1.2)), (h_p1_berths, .inr (0, [.ref h_p1_berths_holders, .ref h_p1_berths_ends])), (h_p1_berths_ends, .inl (cyI, 3, .inl v_ends_1)), (h_p1_berths_holders, .inl (cyI, 162, .inl v_holders_1)), (h_p0_roster, .inr (3, [.ref h_p0_roster_cells, .int r4.1])), (h_p0_roster_cells, .inl (cyI, 280, .inl r4.2)), (h_p1_roster, .inr (3, [.ref h_p1_roster_cells, .int v_size_1])), (h_p1_roster_cells, .inl (cyI, 280, .inl v_cells_1)), (h_p1_settings, .inl (cyI, 3, .inl v_settings_1)), (h_p0_settings, .inl (cyI, 3, .inl r7))] H := hP
  have hD : va_D A [(h_p0, .inr (5, [.ref h_p0_berths, .ref h_p0_roster, .ref h_p0_settings, .int v_nextNumber_1, .int v_bookings_1, .int v_leftOut_1])), (h_p1, .inr (5, [.ref h_p1_berths, .ref h_p1_roster, .ref h_p1_settings, .int v_nextNumber_1, .int v_bookings_1, .int v_leftOut_1])), (h_p0_berths, .inr (0, [.ref h_p0_berths_holders, .ref h_p0_berths_ends])), (h_p0_berths_ends, .inl (cyI, 3, .inl r1.1)), (h_p0_berths_holders, .inl (cyI, 162, .inl r1.2)), (h_p1_berths, .inr (0, [.ref h_p1_berths_holders, .ref h_p1_berths_ends])), (h_p1_berths_ends, .inl (cyI, 3, .inl v_ends_1)), (h_p1_berths_holders, .inl (cyI, 162, .inl v_holders_1)), (h_p0_roster, .inr (3, [.ref h_p0_roster_cells, .int r4.1])), (h_p0_roster_cells, .inl (cyI, 280, .inl r4.2)), (h_p1_roster, .inr (3, [.ref h_p1_roster_cells, .int v_size_1])), (h_p1_roster_cells, .inl (cyI, 280, .inl v_cells_1)), (h_p1_settings, .inl (cyI, 3, .inl v_settings_1)), (h_p0_settings, .inl (cyI, 3, .inl r7))] := hD
  obtain rfl := Option.some.inj h
  exact W.vret hx hb hr (fun t ht hW => ⟨⟨(), rfl, trivial, WLD.of ht (sb_P [(h_p0, .inr (5, [.ref h_p0_berths, .ref h_p0_roster, .ref h_p0_settings, .int v_nextNumber_1, .int v_bookings_1, .int v_leftOut_1])), (h_p0_berths, .inr (0, [.ref h_p0_berths_holders, .ref h_p0_berths_ends])), (h_p0_berths_ends, .inl (cyI, 3, .inl r1.1)), (h_p0_berths_holders, .inl (cyI, 162, .inl r1.2)), (h_p0_roster, .inr (3, [.ref h_p0_roster_cells, .int r4.1])), (h_p0_roster_cells, .inl (cyI, 280, .inl r4.2)), (h_p0_settings, .inl (cyI, 3, .inl r7)), (h_p1, .inr (5, [.ref h_p1_berths, .ref h_p1_roster, .ref h_p1_settings, .int v_nextNumber_1, .int v_bookings_1, .int v_leftOut_1])), (h_p1_berths, .inr (0, [.ref h_p1_berths_holders, .ref h_p1_berths_ends])), (h_p1_berths_ends, .inl (cyI, 3, .inl v_ends_1)), (h_p1_berths_holders, .inl (cyI, 162, .inl v_holders_1)), (h_p1_roster, .inr (3, [.ref h_p1_roster_cells, .int v_size_1])), (h_p1_roster_cells, .inl (cyI, 280, .inl v_cells_1)), (h_p1_settings, .inl (cyI, 3, .inl v_settings_1))] hP [0, 2, 3, 4, 8, 9, 13, 1, 5, 6, 7, 10, 11, 12] rfl) (sb_D [(h_p0, .inr (5, [.ref h_p0_berths, .ref h_p0_roster, .ref h_p0_settings, .int v_nextNumber_1, .int v_bookings_1, .int v_leftOut_1])), (h_p0_berths, .inr (0, [.ref h_p0_berths_holders, .ref h_p0_berths_ends])), (h_p0_berths_ends, .inl (cyI, 3, .inl r1.1)), (h_p0_berths_holders, .inl (cyI, 162, .inl r1.2)), (h_p0_roster, .inr (3, [.ref h_p0_roster_cells, .int r4.1])), (h_p0_roster_cells, .inl (cyI, 280, .inl r4.2)), (h_p0_settings, .inl (cyI, 3, .inl r7)), (h_p1, .inr (5, [.ref h_p1_berths, .ref h_p1_roster, .ref h_p1_settings, .int v_nextNumber_1, .int v_bookings_1, .int v_leftOut_1])), (h_p1_berths, .inr (0, [.ref h_p1_berths_holders, .ref h_p1_berths_ends])), (h_p1_berths_ends, .inl (cyI, 3, .inl v_ends_1)), (h_p1_berths_holders, .inl (cyI, 162, .inl v_holders_1)), (h_p1_roster, .inr (3, [.ref h_p1_roster_cells, .int v_size_1])), (h_p1_roster_cells, .inl (cyI, 280, .inl v_cells_1)), (h_p1_settings, .inl (cyI, 3, .inl v_settings_1))] hD [0, 2, 3, 4, 8, 9, 13, 1, 5, 6, 7, 10, 11, 12] (by decide) rfl)⟩, hS.F ht⟩) hS.2.2 dX5_takeOver_57
