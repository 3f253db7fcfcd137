def s_X0_openOn_L4 (n : Nat) (v_ends : Nat → Int32) (v_holders : Nat → Int32) (a1 : Int32) : Nat → Int32 → Int32 → Option (Int32)
  | 0, _, _ => none
  | k + 1, x2, x3 => (if iI 18 ≤ x3 then (some (x2)) else ((s_X0_isOpen v_ends v_holders x3 a1).bind fun r2 => (if r2 = 0 then (s_X0_openOn_L4 n v_ends v_holders a1 k x2 (x3 + iI 1)) else (s_X0_openOn_L4 n v_ends v_holders a1 k (x2 + iI 1) (x3 + iI 1)))))
def s_X0_openOn (n : Nat) (v_ends : Nat → Int32) (v_holders : Nat → Int32) (a1 : Int32) : Option (Int32) := (s_X0_openOn_L4 n v_ends v_holders a1 n (iI 0) (iI 0))
set_option maxHeartbeats 4000000 in
set_option maxRecDepth 100000 in
theorem c_X0_openOn (l : Launch) (dC : Nat → ClassId) (dI : Nat → Nat → Nat) (cyI cyJ cyT : ClassId) (h_p0 : Nat) (h_p0_holders : Nat) (h_p0_ends : Nat) (sz : Nat) (v_ends : Nat → Int32) (v_holders : Nat → Int32) (a1 : Int32) (n : Nat) (o : Int32) (h : s_X0_openOn n v_ends v_holders a1 = some o) : Met l yX0_openOn wsX0_openOn ({ frames := 1, cells := 0, slots := 0, locals := 24 }) (va_Pc [.ref h_p0, .int a1] (PRE (dC, dI) (TYS cyI cyJ cyT) sz [(h_p0, .inr (0, [.ref h_p0_holders, .ref h_p0_ends])), (h_p0_ends, .inl (cyI, 3, .inl v_ends)), (h_p0_holders, .inl (cyI, 162, .inl v_holders))])) (va_Qi (S := Unit) (fun r _ => r = o) (fun _ t => WLD (dC, dI) (va_A [(h_p0, .inr (0, [.ref h_p0_holders, .ref h_p0_ends])), (h_p0_ends, .inl (cyI, 3, .inl v_ends)), (h_p0_holders, .inl (cyI, 162, .inl v_holders))] sz) [(h_p0, .inr (0, [.ref h_p0_holders, .ref h_p0_ends])), (h_p0_ends, .inl (cyI, 3, .inl v_ends)), (h_p0_holders, .inl (cyI, 162, .inl v_holders))] t) (va_A [(h_p0, .inr (0, [.ref h_p0_holders, .ref h_p0_ends])), (h_p0_ends, .inl (cyI, 3, .inl v_ends)), (h_p0_holders, .inl (cyI, 162, .inl v_holders))] sz)) 0 0 (va_A [(h_p0, .inr (0, [.ref h_p0_holders, .ref h_p0_ends])), (h_p0_ends, .inl (cyI, 3, .inl v_ends)), (h_p0_holders, .inl (cyI, 162, .inl v_holders))] sz) := by
  refine Met.ofW (cc := cX0_openOn) (maxL := 4) (ret := (some .int)) (by decide) rfl ?_
  intro p e s m args below meth c s₁ B hml hv
  obtain ⟨rfl, hsz, hP, hK, hD0, hNW⟩ := hv
  have hx := B.exec
  have hb := B.bytes
  have hr := B.returns
  have hts := atoms_spec (ws := wsX0_openOn) B.pre
  have hown : s.vm.findClass RX0 = some m.cls := findClass_of_methodNamed B.named
  have hlocks := B.notSynchronized
  subst hsz
  have hD := hD0.self (sz := s.heap.size)
  generalize hAe : va_A [(h_p0, .inr (0, [.ref h_p0_holders, .ref h_p0_ends])), (h_p0_ends, .inl (cyI, 3, .inl v_ends)), (h_p0_holders, .inl (cyI, 162, .inl v_holders))] s.heap.size = A at hD ⊢
  have hA : ∀ q : Nat, s.heap.size ≤ q → A q := fun q h => by rw [← hAe]; exact Or.inr h
  have hS : va_S A s.heap s.heap [] := va_S.rf
  have hP : va_P (dC, dI) vwCl [(h_p0, .inr (0, [.ref h_p0_holders, .ref h_p0_ends])), (h_p0_ends, .inl (cyI, 3, .inl v_ends)), (h_p0_holders, .inl (cyI, 162, .inl v_holders))] s.heap := hP
  have L4 : ∀ (k : Nat), (∀ (x2 : Int32) (x3 : Int32) (H : Heap) (locs : List Loc), va_P (dC, dI) vwCl [(h_p0, .inr (0, [.ref h_p0_holders, .ref h_p0_ends])), (h_p0_ends, .inl (cyI, 3, .inl v_ends)), (h_p0_holders, .inl (cyI, 162, .inl v_holders))] H → va_D A [(h_p0, .inr (0, [.ref h_p0_holders, .ref h_p0_ends])), (h_p0_ends, .inl (cyI, 3, .inl v_ends)), (h_p0_holders, .inl (cyI, 162, .inl v_holders))] → va_S A s.heap H locs → ∀ (ls : Array Slot), lv_has ls 4 [(0, .ref h_p0), (1, .int a1), (2, .int x2), (3, .int x3)] →  s_X0_openOn_L4 n v_ends v_holders a1 k x2 x3 = some o → W p l e (headSpec wsX0_openOn ({ frames := 1, cells := 0, slots := 0, locals := 24 })).room s m (([.ref h_p0, .int a1] : List Value).toArray) below meth c H locs 0 0 (MQ below (va_Qi (S := Unit) (fun r _ => r = o) (fun _ t => WLD (dC, dI) A [(h_p0, .inr (0, [.ref h_p0_holders, .ref h_p0_ends])), (h_p0_ends, .inl (cyI, 3, .inl v_ends)), (h_p0_holders, .inl (cyI, 162, .inl v_holders))] t) A) (([.ref h_p0, .int a1] : List Value).toArray) s 0 0 A) (F0 m 4 ls [])) := by
    intro k
    induction k with
    | zero =>
      intro  x2 x3 H locs hP hD hS ls hl h
      rw [s_X0_openOn_L4] at h
      cases h
    | succ k ih =>
      intro  x2 x3 H locs hP hD hS ls hl h
      rw [s_X0_openOn_L4] at h
      refine lv_iload_n hx hb dX0_openOn_4 rfl (lv_at hl 3 rfl) ?_
      refine lv_bipush (v := iI 18) hx hb dX0_openOn_5 (by decide) ?_
      refine lv_icmp_ge (tgt := 28) hx hb dX0_openOn_7 (by decide) (fun c1 => ?_) (fun c1 => ?_)
      · have h := ipos c1 h
        refine lv_iload_n hx hb dX0_openOn_28 rfl (lv_at hl 2 rfl) ?_
        obtain rfl := Option.some.inj h
        exact W.iret (v := x2) hx hb hr (fun t ht hW => ⟨⟨x2, (), rfl, rfl, WLD.of ht hP hD⟩, hS.F ht⟩) hS.2.2 dX0_openOn_29
      · have h := ineg c1 h
        refine lv_aload_n hx hb dX0_openOn_10 rfl (lv_at hl 0 rfl) ?_
        refine lv_iload_n hx hb dX0_openOn_11 rfl (lv_at hl 3 rfl) ?_
        refine lv_iload_n hx hb dX0_openOn_12 rfl (lv_at hl 1 rfl) ?_
        obtain ⟨r2, e3, h⟩ := bsome h
        have hPc := sb_P [(h_p0, .inr (0, [.ref h_p0_holders, .ref h_p0_ends])), (h_p0_ends, .inl (cyI, 3, .inl v_ends)), (h_p0_holders, .inl (cyI, 162, .inl v_holders))] hP [0, 1, 2] rfl
        have hDc := sb_D [(h_p0, .inr (0, [.ref h_p0_holders, .ref h_p0_ends])), (h_p0_ends, .inl (cyI, 3, .inl v_ends)), (h_p0_holders, .inl (cyI, 162, .inl v_holders))] hD [0, 1, 2] (by decide) rfl
        have hFc := va_free (wc := [(h_p0, .inr (0, [.ref h_p0_holders, .ref h_p0_ends])), (h_p0_ends, .inl (cyI, 3, .inl v_ends)), (h_p0_holders, .inl (cyI, 162, .inl v_holders))]) hD hS hA [0, 1, 2] rfl
        refine va_calli (va_runV (As := [.int x3, .int a1]) (rest := []) ⟨hx, hb, hml, hown, hts⟩ (c_X0_isOpen l dC dI cyI cyJ cyT h_p0 h_p0_holders h_p0_ends H.size v_ends v_holders x3 a1 r2 e3) (cwV 2 hts gX0_openOn_X0_isOpen rfl rfl rfl (by decide +kernel) ⟨Nat.le_of_ble_eq_true rfl, Nat.le_of_ble_eq_true rfl⟩) ⟨PRE.blind, va_recv hK hPc (ci := 0) (q0 := 0) rfl rfl, PRE.go hK hPc hDc hNW⟩ rfl rfl hl.1 rfl (lv_room (Nat.le_of_ble_eq_true rfl)) dX0_openOn_13 ⟨Nat.zero_le _, Nat.zero_le _⟩) hS (fun q _ h => hFc q h) hFc (fun z4 u t H locs ht hvm hw hB hz1 hk1 hS => ?_)
        subst z4
        obtain ⟨hP, hD⟩ := va_join (wr := []) (w1 := [(h_p0, .inr (0, [.ref h_p0_holders, .ref h_p0_ends])), (h_p0_ends, .inl (cyI, 3, .inl v_ends)), (h_p0_holders, .inl (cyI, 162, .inl v_holders))]) hP hD [0, 1, 2] [] rfl rfl (by decide) (by decide) hk1 hFc (WLD.P hB ht) hB.2
        have hP : va_P (dC, dI) vwCl [(h_p0, .inr (0, [.ref h_p0_holders, .ref h_p0_ends])), (h_p0_ends, .inl (cyI, 3, .inl v_ends)), (h_p0_holders, .inl (cyI, 162, .inl v_holders))] H := hP
        have hD : va_D A [(h_p0, .inr (0, [.ref h_p0_holders, .ref h_p0_ends])), (h_p0_ends, .inl (cyI, 3, .inl v_ends)), (h_p0_holders, .inl (cyI, 162, .inl v_holders))] := hD
        refine lv_if_eq (tgt := 22) hx hb dX0_openOn_16 (by decide) (fun c5 => ?_) (fun c5 => ?_)
        · have h := ipos c5 h
          refine lv_iinc (v := (x3 + iI 1)) hx hb dX0_openOn_22 hl (k := 3) rfl rfl (by decide) (rfl : _ = ([(3, .int (x3 + iI 1)), (0, .ref h_p0), (1, .int a1), (2, .int x2)] : List (Nat × Value))) (fun ls hl => ?_)
          refine lv_goto (tgt := 4) hx hb dX0_openOn_25 (by decide) ?_
          exact ih x2 (x3 + iI 1) _ _ hP hD hS ls (lv_sub hl [1, 2, 3, 0] rfl) h
        · have h := ineg c5 h
          refine lv_iinc (v := (x2 + iI 1)) hx hb dX0_openOn_19 hl (k := 2) rfl rfl (by decide) (rfl : _ = ([(2, .int (x2 + iI 1)), (0, .ref h_p0), (1, .int a1), (3, .int x3)] : List (Nat × Value))) (fun ls hl => ?_)
          refine lv_iinc (v := (x3 + iI 1)) hx hb dX0_openOn_22 hl (k := 3) rfl rfl (by decide) (rfl : _ = ([(3, .int (x3 + iI 1)), (2, .int (x2 + iI 1)), (0, .ref h_p0), (1, .int a1)] : List (Nat × Value))) (fun ls hl => ?_)
          refine lv_goto (tgt := 4) hx hb dX0_openOn_25 (by decide) ?_
          exact ih (x2 + iI 1) (x3 + iI 1) _ _ hP hD hS ls (lv_sub hl [2, 3, 1, 0] rfl) h
  have hl := lv_entry ([.ref h_p0, .int a1]) (n := 4) (Nat.le_of_ble_eq_true rfl)
  rw [lg_entry_eq]
  generalize (lg_sl ([.ref h_p0, .int a1]) ++ List.replicate (4 - (lg_sl ([.ref h_p0, .int a1])).length) Slot.unset).toArray = ls at hl ⊢
  have hl : lv_has ls 4 [(0, .ref h_p0), (1, .int a1)] := hl
  unfold s_X0_openOn at h
  refine lv_iconst (v := iI 0) hx hb dX0_openOn_0 rfl ?_
  refine lv_istore_n hx hb dX0_openOn_1 rfl hl (by decide) (rfl : _ = ([(2, .int (iI 0)), (0, .ref h_p0), (1, .int a1)] : List (Nat × Value))) (fun ls hl => ?_)
  refine lv_iconst (v := iI 0) hx hb dX0_openOn_2 rfl ?_
  refine lv_istore_n hx hb dX0_openOn_3 rfl hl (by decide) (rfl : _ = ([(3, .int (iI 0)), (2, .int (iI 0)), (0, .ref h_p0), (1, .int a1)] : List (Nat × Value))) (fun ls hl => ?_)
  exact L4 n (iI 0) (iI 0) _ _ hP hD hS ls (lv_sub hl [2, 3, 1, 0] rfl) h
def s_X0_lowestOpenOn_L2 (n : Nat) (v_ends : Nat → Int32) (v_holders : Nat → Int32) (a1 : Int32) : Nat → Int32 → Option (Int32)
  | 0, _ => none
  | k + 1, x2 => (if iI 18 ≤ x2 then (some (iI (-1))) else ((s_X0_isOpen v_ends v_holders x2 a1).bind fun r2 => (if r2 = 0 then (s_X0_lowestOpenOn_L2 n v_ends v_holders a1 k (x2 + iI 1)) else (some (x2)))))
def s_X0_lowestOpenOn (n : Nat) (v_ends : Nat → Int32) (v_holders : Nat → Int32) (a1 : Int32) : Option (Int32) := (s_X0_lowestOpenOn_L2 n v_ends v_holders a1 n (iI 0))
set_option maxHeartbeats 4000000 in
set_option maxRecDepth 100000 in
theorem c_X0_lowestOpenOn (l : Launch) (dC : Nat → ClassId) (dI : Nat → Nat → Nat) (cyI cyJ cyT : ClassId) (h_p0 : Nat) (h_p0_holders : Nat) (h_p0_ends : Nat) (sz : Nat) (v_ends : Nat → Int32) (v_holders : Nat → Int32) (a1 : Int32) (n : Nat) (o : Int32) (h : s_X0_lowestOpenOn n v_ends v_holders a1 = some o) : Met l yX0_lowestOpenOn wsX0_lowestOpenOn ({ frames := 1, cells := 0, slots := 0, locals := 24 }) (va_Pc [.ref h_p0, .int a1] (PRE (dC, dI) (TYS cyI cyJ cyT) sz [(h_p0, .inr (0, [.ref h_p0_holders, .ref h_p0_ends])), (h_p0_ends, .inl (cyI, 3, .inl v_ends)), (h_p0_holders, .inl (cyI, 162, .inl v_holders))])) (va_Qi (S := Unit) (fun r _ => r = o) (fun _ t => WLD (dC, dI) (va_A [(h_p0, .inr (0, [.ref h_p0_holders, .ref h_p0_ends])), (h_p0_ends, .inl (cyI, 3, .inl v_ends)), (h_p0_holders, .inl (cyI, 162, .inl v_holders))] sz) [(h_p0, .inr (0, [.ref h_p0_holders, .ref h_p0_ends])), (h_p0_ends, .inl (cyI, 3, .inl v_ends)), (h_p0_holders, .inl (cyI, 162, .inl v_holders))] t) (va_A [(h_p0, .inr (0, [.ref h_p0_holders, .ref h_p0_ends])), (h_p0_ends, .inl (cyI, 3, .inl v_ends)), (h_p0_holders, .inl (cyI, 162, .inl v_holders))] sz)) 0 0 (va_A [(h_p0, .inr (0, [.ref h_p0_holders, .ref h_p0_ends])), (h_p0_ends, .inl (cyI, 3, .inl v_ends)), (h_p0_holders, .inl (cyI, 162, .inl v_holders))] sz) := by
  refine Met.ofW (cc := cX0_lowestOpenOn) (maxL := 3) (ret := (some .int)) (by decide) rfl ?_
  intro p e s m args below meth c s₁ B hml hv
  obtain ⟨rfl, hsz, hP, hK, hD0, hNW⟩ := hv
  have hx := B.exec
  have hb := B.bytes
  have hr := B.returns
  have hts := atoms_spec (ws := wsX0_lowestOpenOn) B.pre
  have hown : s.vm.findClass RX0 = some m.cls := findClass_of_methodNamed B.named
  have hlocks := B.notSynchronized
  subst hsz
  have hD := hD0.self (sz := s.heap.size)
  generalize hAe : va_A [(h_p0, .inr (0, [.ref h_p0_holders, .ref h_p0_ends])), (h_p0_ends, .inl (cyI, 3, .inl v_ends)), (h_p0_holders, .inl (cyI, 162, .inl v_holders))] s.heap.size = A at hD ⊢
  have hA : ∀ q : Nat, s.heap.size ≤ q → A q := fun q h => by rw [← hAe]; exact Or.inr h
  have hS : va_S A s.heap s.heap [] := va_S.rf
  have hP : va_P (dC, dI) vwCl [(h_p0, .inr (0, [.ref h_p0_holders, .ref h_p0_ends])), (h_p0_ends, .inl (cyI, 3, .inl v_ends)), (h_p0_holders, .inl (cyI, 162, .inl v_holders))] s.heap := hP
  have L2 : ∀ (k : Nat), (∀ (x2 : Int32) (H : Heap) (locs : List Loc), va_P (dC, dI) vwCl [(h_p0, .inr (0, [.ref h_p0_holders, .ref h_p0_ends])), (h_p0_ends, .inl (cyI, 3, .inl v_ends)), (h_p0_holders, .inl (cyI, 162, .inl v_holders))] H → va_D A [(h_p0, .inr (0, [.ref h_p0_holders, .ref h_p0_ends])), (h_p0_ends, .inl (cyI, 3, .inl v_ends)), (h_p0_holders, .inl (cyI, 162, .inl v_holders))] → va_S A s.heap H locs → ∀ (ls : Array Slot), lv_has ls 3 [(0, .ref h_p0), (1, .int a1), (2, .int x2)] →  s_X0_lowestOpenOn_L2 n v_ends v_holders a1 k x2 = some o → W p l e (headSpec wsX0_lowestOpenOn ({ frames := 1, cells := 0, slots := 0, locals := 24 })).room s m (([.ref h_p0, .int a1] : List Value).toArray) below meth c H locs 0 0 (MQ below (va_Qi (S := Unit) (fun r _ => r = o) (fun _ t => WLD (dC, dI) A [(h_p0, .inr (0, [.ref h_p0_holders, .ref h_p0_ends])), (h_p0_ends, .inl (cyI, 3, .inl v_ends)), (h_p0_holders, .inl (cyI, 162, .inl v_holders))] t) A) (([.ref h_p0, .int a1] : List Value).toArray) s 0 0 A) (F0 m 2 ls [])) := by
    intro k
    induction k with
    | zero =>
      intro  x2 H locs hP hD hS ls hl h
      rw [s_X0_lowestOpenOn_L2] at h
      cases h
    | succ k ih =>
      intro  x2 H locs hP hD hS ls hl h
      rw [s_X0_lowestOpenOn_L2] at h
      refine lv_iload_n hx hb dX0_lowestOpenOn_2 rfl (lv_at hl 2 rfl) ?_
      refine lv_bipush (v := iI 18) hx hb dX0_lowestOpenOn_3 (by decide) ?_
      refine lv_icmp_ge (tgt := 25) hx hb dX0_lowestOpenOn_5 (by decide) (fun c1 => ?_) (fun c1 => ?_)
      · have h := ipos c1 h
        refine lv_iconst (v := iI (-1)) hx hb dX0_lowestOpenOn_25 rfl ?_
        obtain rfl := Option.some.inj h
        exact W.iret (v := iI (-1)) hx hb hr (fun t ht hW => ⟨⟨iI (-1), (), rfl, rfl, WLD.of ht hP hD⟩, hS.F ht⟩) hS.2.2 dX0_lowestOpenOn_26
      · have h := ineg c1 h
        refine lv_aload_n hx hb dX0_lowestOpenOn_8 rfl (lv_at hl 0 rfl) ?_
        refine lv_iload_n hx hb dX0_lowestOpenOn_9 rfl (lv_at hl 2 rfl) ?_
        refine lv_iload_n hx hb dX0_lowestOpenOn_10 rfl (lv_at hl 1 rfl) ?_
        obtain ⟨r2, e3, h⟩ := bsome h
        have hPc := sb_P [(h_p0, .inr (0, [.ref h_p0_holders, .ref h_p0_ends])), (h_p0_ends, .inl (cyI, 3, .inl v_ends)), (h_p0_holders, .inl (cyI, 162, .inl v_holders))] hP [0, 1, 2] rfl
        have hDc := sb_D [(h_p0, .inr (0, [.ref h_p0_holders, .ref h_p0_ends])), (h_p0_ends, .inl (cyI, 3, .inl v_ends)), (h_p0_holders, .inl (cyI, 162, .inl v_holders))] hD [0, 1, 2] (by decide) rfl
        have hFc := va_free (wc := [(h_p0, .inr (0, [.ref h_p0_holders, .ref h_p0_ends])), (h_p0_ends, .inl (cyI, 3, .inl v_ends)), (h_p0_holders, .inl (cyI, 162, .inl v_holders))]) hD hS hA [0, 1, 2] rfl
        refine va_calli (va_runV (As := [.int x2, .int a1]) (rest := []) ⟨hx, hb, hml, hown, hts⟩ (c_X0_isOpen l dC dI cyI cyJ cyT h_p0 h_p0_holders h_p0_ends H.size v_ends v_holders x2 a1 r2 e3) (cwV 2 hts gX0_lowestOpenOn_X0_isOpen rfl rfl rfl (by decide +kernel) ⟨Nat.le_of_ble_eq_true rfl, Nat.le_of_ble_eq_true rfl⟩) ⟨PRE.blind, va_recv hK hPc (ci := 0) (q0 := 0) rfl rfl, PRE.go hK hPc hDc hNW⟩ rfl rfl hl.1 rfl (lv_room (Nat.le_of_ble_eq_true rfl)) dX0_lowestOpenOn_11 ⟨Nat.zero_le _, Nat.zero_le _⟩) hS (fun q _ h => hFc q h) hFc (fun z4 u t H locs ht hvm hw hB hz1 hk1 hS => ?_)
        subst z4
        obtain ⟨hP, hD⟩ := va_join (wr := []) (w1 := [(h_p0, .inr (0, [.ref h_p0_holders, .ref h_p0_ends])), (h_p0_ends, .inl (cyI, 3, .inl v_ends)), (h_p0_holders, .inl (cyI, 162, .inl v_holders))]) hP hD [0, 1, 2] [] rfl rfl (by decide) (by decide) hk1 hFc (WLD.P hB ht) hB.2
        have hP : va_P (dC, dI) vwCl [(h_p0, .inr (0, [.ref h_p0_holders, .ref h_p0_ends])), (h_p0_ends, .inl (cyI, 3, .inl v_ends)), (h_p0_holders, .inl (cyI, 162, .inl v_holders))] H := hP
        have hD : va_D A [(h_p0, .inr (0, [.ref h_p0_holders, .ref h_p0_ends])), (h_p0_ends, .inl (cyI, 3, .inl v_ends)), (h_p0_holders, .inl (cyI, 162, .inl v_holders))] := hD
        refine lv_if_eq (tgt := 19) hx hb dX0_lowestOpenOn_14 (by decide) (fun c5 => ?_) (fun c5 => ?_)
        · have h := ipos c5 h
          refine lv_iinc (v := (x2 + iI 1)) hx hb dX0_lowestOpenOn_19 hl (k := 2) rfl rfl (by decide) (rfl : _ = ([(2, .int (x2 + iI 1)), (0, .ref h_p0), (1, .int a1)] : List (Nat × Value))) (fun ls hl => ?_)
          refine lv_goto (tgt := 2) hx hb dX0_lowestOpenOn_22 (by decide) ?_
          exact ih (x2 + iI 1) _ _ hP hD hS ls (lv_sub hl [1, 2, 0] rfl) h
        · have h := ineg c5 h
          refine lv_iload_n hx hb dX0_lowestOpenOn_17 rfl (lv_at hl 2 rfl) ?_
          obtain rfl := Option.some.inj h
          exact W.iret (v := x2) hx hb hr (fun t ht hW => ⟨⟨x2, (), rfl, rfl, WLD.of ht hP hD⟩, hS.F ht⟩) hS.2.2 dX0_lowestOpenOn_18
  have hl := lv_entry ([.ref h_p0, .int a1]) (n := 3) (Nat.le_of_ble_eq_true rfl)
  rw [lg_entry_eq]
  generalize (lg_sl ([.ref h_p0, .int a1]) ++ List.replicate (3 - (lg_sl ([.ref h_p0, .int a1])).length) Slot.unset).toArray = ls at hl ⊢
  have hl : lv_has ls 3 [(0, .ref h_p0), (1, .int a1)] := hl
  unfold s_X0_lowestOpenOn at h
  refine lv_iconst (v := iI 0) hx hb dX0_lowestOpenOn_0 rfl ?_
  refine lv_istore_n hx hb dX0_lowestOpenOn_1 rfl hl (by decide) (rfl : _ = ([(2, .int (iI 0)), (0, .ref h_p0), (1, .int a1)] : List (Nat × Value))) (fun ls hl => ?_)
  exact L2 n (iI 0) _ _ hP hD hS ls (lv_sub hl [1, 2, 0] rfl) h
def s_X6_free (n : Nat) (v_ends : Nat → Int32) (v_holders : Nat → Int32) (a1 : Int32) (a2 : Int32) : Option (Nat × Int32) := ((s_X6_isBelow a1 (iI 9)).bind fun r1 => (if r1 = 0 then (some (3, 0)) else ((s_X6_isBelow a2 (iI 2)).bind fun r5 => (if r5 = 0 then (some (1, 0)) else (if a2 = 0 then ((s_X0_openOn n v_ends v_holders a1).bind fun r13 => (some (0, r13))) else ((s_X0_lowestOpenOn n v_ends v_holders a1).bind fun r10 => (some (0, r10))))))))
set_option maxRecDepth 20000 in
theorem m_X6_free_0 : ∀ w ∈ u_ws RX6 TX6 3, w ∈ wsX6_free := by decide +kernel
set_option maxRecDepth 20000 in
theorem m_X6_free_1 : (.fieldLink RX6 12 "SleeperBerths" "train" "LSleeperBerths$Train;" : Cond) ∈ wsX6_free := by decide +kernel
set_option maxRecDepth 20000 in
theorem m_X6_free_2 : ∀ w ∈ u_ws RX5 TX5 6, w ∈ wsX6_free := by decide +kernel
set_option maxRecDepth 20000 in
theorem m_X6_free_3 : (.fieldLink RX6 121 "SleeperBerths$Train" "berths" "LSleeperBerths$Berths;" : Cond) ∈ wsX6_free := by decide +kernel
set_option maxRecDepth 20000 in
theorem m_X6_free_4 : ∀ w ∈ (vx_atS RX6 120 "java/lang/IllegalArgumentException" ["java/lang/RuntimeException", "java/lang/Exception"]).filter goodWord, w ∈ wsX6_free := by decide +kernel
set_option maxRecDepth 20000 in
theorem m_X6_free_5 : (.classLink RX6 116 "java/lang/IllegalArgumentException" : Cond) ∈ wsX6_free := by decide +kernel
set_option maxRecDepth 20000 in
theorem m_X6_free_6 : (.initialized "java/lang/IllegalArgumentException" : Cond) ∈ wsX6_free := by decide +kernel
set_option maxRecDepth 20000 in
theorem m_X6_free_7 : ∀ w ∈ (vx_atS RX6 88 "java/lang/IndexOutOfBoundsException" ["java/lang/RuntimeException", "java/lang/Exception"]).filter goodWord, w ∈ wsX6_free := by decide +kernel
set_option maxRecDepth 20000 in
theorem m_X6_free_8 : (.classLink RX6 84 "java/lang/IndexOutOfBoundsException" : Cond) ∈ wsX6_free := by decide +kernel
set_option maxRecDepth 20000 in
theorem m_X6_free_9 : (.initialized "java/lang/IndexOutOfBoundsException" : Cond) ∈ wsX6_free := by decide +kernel
set_option maxHeartbeats 4000000 in
set_option maxRecDepth 100000 in
theorem c_X6_free (l : Launch) (hl0 : l.stackTraces = false) (dC : Nat → ClassId) (dI : Nat → Nat → Nat) (cyI cyJ cyT : ClassId) (h_p0 : Nat) (h_p0_train : Nat) (h_p0_history : Nat) (h_p0_text : Nat) (h_p0_train_berths : Nat) (h_p0_train_roster : Nat) (h_p0_train_settings : Nat) (h_p0_train_berths_holders : Nat) (h_p0_train_berths_ends : Nat) (sz : Nat) (v_nextNumber : Int32) (v_bookings : Int32) (v_leftOut : Int32) (v_ends : Nat → Int32) (v_holders : Nat → Int32) (a1 : Int32) (a2 : Int32) (n : Nat) (o : Nat × Int32) (h : s_X6_free n v_ends v_holders a1 a2 = some o) : vx_Met l yX6_free wsX6_free ({ frames := 6, cells := 2, slots := 12, locals := 90 }) (va_Pc [.ref h_p0, .int a1, .int a2] (PREX (dC, dI) (TYS cyI cyJ cyT) sz [(h_p0, .inr (6, [.ref h_p0_train, .ref h_p0_history, .ref h_p0_text])), (h_p0_train, .inr (5, [.ref h_p0_train_berths, .ref h_p0_train_roster, .ref h_p0_train_settings, .int v_nextNumber, .int v_bookings, .int v_leftOut])), (h_p0_train_berths, .inr (0, [.ref h_p0_train_berths_holders, .ref h_p0_train_berths_ends])), (h_p0_train_berths_ends, .inl (cyI, 3, .inl v_ends)), (h_p0_train_berths_holders, .inl (cyI, 162, .inl v_holders))])) (va_Qi (S := Unit) (fun r _ => o.1 = 0 ∧ r = o.2) (fun _ t => WLD (dC, dI) (va_A [(h_p0, .inr (6, [.ref h_p0_train, .ref h_p0_history, .ref h_p0_text])), (h_p0_train, .inr (5, [.ref h_p0_train_berths, .ref h_p0_train_roster, .ref h_p0_train_settings, .int v_nextNumber, .int v_bookings, .int v_leftOut])), (h_p0_train_berths, .inr (0, [.ref h_p0_train_berths_holders, .ref h_p0_train_berths_ends])), (h_p0_train_berths_ends, .inl (cyI, 3, .inl v_ends)), (h_p0_train_berths_holders, .inl (cyI, 162, .inl v_holders))] sz) [(h_p0, .inr (6, [.ref h_p0_train, .ref h_p0_history, .ref h_p0_text])), (h_p0_train, .inr (5, [.ref h_p0_train_berths, .ref h_p0_train_roster, .ref h_p0_train_settings, .int v_nextNumber, .int v_bookings, .int v_leftOut])), (h_p0_train_berths, .inr (0, [.ref h_p0_train_berths_holders, .ref h_p0_train_berths_ends])), (h_p0_train_berths_ends, .inl (cyI, 3, .inl v_ends)), (h_p0_train_berths_holders, .inl (cyI, 162, .inl v_holders))] t) (va_A [(h_p0, .inr (6, [.ref h_p0_train, .ref h_p0_history, .ref h_p0_text])), (h_p0_train, .inr (5, [.ref h_p0_train_berths, .ref h_p0_train_roster, .ref h_p0_train_settings, .int v_nextNumber, .int v_bookings, .int v_leftOut])), (h_p0_train_berths, .inr (0, [.ref h_p0_train_berths_holders, .ref h_p0_train_berths_ends])), (h_p0_train_berths_ends, .inl (cyI, 3, .inl v_ends)), (h_p0_train_berths_holders, .inl (cyI, 162, .inl v_holders))] sz)) (vx_X (S := Unit) (fun _ => True) (fun E _ t => XWL (dC, dI) (va_A [(h_p0, .inr (6, [.ref h_p0_train, .ref h_p0_history, .ref h_p0_text])), (h_p0_train, .inr (5, [.ref h_p0_train_berths, .ref h_p0_train_roster, .ref h_p0_train_settings, .int v_nextNumber, .int v_bookings, .int v_leftOut])), (h_p0_train_berths, .inr (0, [.ref h_p0_train_berths_holders, .ref h_p0_train_berths_ends])), (h_p0_train_berths_ends, .inl (cyI, 3, .inl v_ends)), (h_p0_train_berths_holders, .inl (cyI, 162, .inl v_holders))] sz) o.1 E [(h_p0, .inr (6, [.ref h_p0_train, .ref h_p0_history, .ref h_p0_text])), (h_p0_train, .inr (5, [.ref h_p0_train_berths, .ref h_p0_train_roster, .ref h_p0_train_settings, .int v_nextNumber, .int v_bookings, .int v_leftOut])), (h_p0_train_berths, .inr (0, [.ref h_p0_train_berths_holders, .ref h_p0_train_berths_ends])), (h_p0_train_berths_ends, .inl (cyI, 3, .inl v_ends)), (h_p0_train_berths_holders, .inl (cyI, 162, .inl v_holders))] t) (va_A [(h_p0, .inr (6, [.ref h_p0_train, .ref h_p0_history, .ref h_p0_text])), (h_p0_train, .inr (5, [.ref h_p0_train_berths, .ref h_p0_train_roster, .ref h_p0_train_settings, .int v_nextNumber, .int v_bookings, .int v_leftOut])), (h_p0_train_berths, .inr (0, [.ref h_p0_train_berths_holders, .ref h_p0_train_berths_ends])), (h_p0_train_berths_ends, .inl (cyI, 3, .inl v_ends)), (h_p0_train_berths_holders, .inl (cyI, 162, .inl v_holders))] sz)) 2 12 (va_A [(h_p0, .inr (6, [.ref h_p0_train, .ref h_p0_history, .ref h_p0_text])), (h_p0_train, .inr (5, [.ref h_p0_train_berths, .ref h_p0_train_roster, .ref h_p0_train_settings, .int v_nextNumber, .int v_bookings, .int v_leftOut])), (h_p0_train_berths, .inr (0, [.ref h_p0_train_berths_holders, .ref h_p0_train_berths_ends])), (h_p0_train_berths_ends, .inl (cyI, 3, .inl v_ends)), (h_p0_train_berths_holders, .inl (cyI, 162, .inl v_holders))] sz) := by
  refine vx_ofW (cc := cX6_free) (maxL := 3) (ret := (some .int)) (by decide) rfl ?_
  intro p e s m args below meth c s₁ B hml hno hv
  obtain ⟨rfl, ⟨hsz, hP, hK, hD0, hNW⟩, hXR, hXS⟩ := hv
  have hx := B.exec
  have hb := B.bytes
  have hr := B.returns
  have hts := atoms_spec (ws := wsX6_free) B.pre
  have hown : s.vm.findClass RX6 = some m.cls := findClass_of_methodNamed B.named
  have hlocks := B.notSynchronized
  subst hsz
  have hD := hD0.self (sz := s.heap.size)
  generalize hAe : va_A [(h_p0, .inr (6, [.ref h_p0_train, .ref h_p0_history, .ref h_p0_text])), (h_p0_train, .inr (5, [.ref h_p0_train_berths, .ref h_p0_train_roster, .ref h_p0_train_settings, .int v_nextNumber, .int v_bookings, .int v_leftOut])), (h_p0_train_berths, .inr (0, [.ref h_p0_train_berths_holders, .ref h_p0_train_berths_ends])), (h_p0_train_berths_ends, .inl (cyI, 3, .inl v_ends)), (h_p0_train_berths_holders, .inl (cyI, 162, .inl v_holders))] s.heap.size = A at hD hXS ⊢
  have hA : ∀ q : Nat, s.heap.size ≤ q → A q := fun q h => by rw [← hAe]; exact Or.inr h
  have hS : va_S A s.heap s.heap [] := va_S.rf
  have hP : va_P (dC, dI) vwCl [(h_p0, .inr (6, [.ref h_p0_train, .ref h_p0_history, .ref h_p0_text])), (h_p0_train, .inr (5, [.ref h_p0_train_berths, .ref h_p0_train_roster, .ref h_p0_train_settings, .int v_nextNumber, .int v_bookings, .int v_leftOut])), (h_p0_train_berths, .inr (0, [.ref h_p0_train_berths_holders, .ref h_p0_train_berths_ends])), (h_p0_train_berths_ends, .inl (cyI, 3, .inl v_ends)), (h_p0_train_berths_holders, .inl (cyI, 162, .inl v_holders))] s.heap := hP
  have hl := lv_entry ([.ref h_p0, .int a1, .int a2]) (n := 3) (Nat.le_of_ble_eq_true rfl)
  rw [lg_entry_eq]
  generalize (lg_sl ([.ref h_p0, .int a1, .int a2]) ++ List.replicate (3 - (lg_sl ([.ref h_p0, .int a1, .int a2])).length) Slot.unset).toArray = ls at hl ⊢
  have hl : lv_has ls 3 [(0, .ref h_p0), (1, .int a1), (2, .int a2)] := hl
  unfold s_X6_free at h
  refine lv_iload_n hx hb dX6_free_0 rfl (lv_at hl 1 rfl) ?_
  refine lv_bipush (v := iI 9) hx hb dX6_free_1 (by decide) ?_
  obtain ⟨r1, e2, h⟩ := bsome h
  have hPc := sb_P [] hP [] rfl
  have hDc := sb_D [] hD [] (by decide) rfl
  have hFc := va_free (wc := []) hD hS hA [] rfl
  refine va_calli (va_runS (As := [.int a1, .int (iI 9)]) (rest := []) ⟨hx, hb, hml, hown, hts⟩ (c_X6_isBelow l dC dI cyI cyJ cyT s.heap.size a1 (iI 9) r1 e2) (va_cwS 2 hts gX6_free_X6_isBelow rfl rfl rfl (by decide +kernel) ⟨Nat.le_of_ble_eq_true rfl, Nat.le_of_ble_eq_true rfl⟩) ⟨PRE.blind, PRE.go hK hPc hDc hNW⟩ rfl rfl hl.1 rfl (lv_room (Nat.le_of_ble_eq_true rfl)) dX6_free_3 ⟨Nat.zero_le _, Nat.zero_le _⟩) hS (fun q _ h => hFc q h) hFc (fun z3 u t H locs ht hvm hw hB hz1 hk1 hS => ?_)
  subst z3
  obtain ⟨hP, hD⟩ := va_join (wr := [(h_p0, .inr (6, [.ref h_p0_train, .ref h_p0_history, .ref h_p0_text])), (h_p0_train, .inr (5, [.ref h_p0_train_berths, .ref h_p0_train_roster, .ref h_p0_train_settings, .int v_nextNumber, .int v_bookings, .int v_leftOut])), (h_p0_train_berths, .inr (0, [.ref h_p0_train_berths_holders, .ref h_p0_train_berths_ends])), (h_p0_train_berths_ends, .inl (cyI, 3, .inl v_ends)), (h_p0_train_berths_holders, .inl (cyI, 162, .inl v_holders))]) (w1 := []) hP hD [] [0, 1, 2, 3, 4] rfl rfl (by decide) (by decide) hk1 hFc (WLD.P hB ht) hB.2
  have hP : va_P (dC, dI) vwCl [(h_p0, .inr (6, [.ref h_p0_train, .ref h_p0_history, .ref h_p0_text])), (h_p0_train, .inr (5, [.ref h_p0_train_berths, .ref h_p0_train_roster, .ref h_p0_train_settings, .int v_nextNumber, .int v_bookings, .int v_leftOut])), (h_p0_train_berths, .inr (0, [.ref h_p0_train_berths_holders, .ref h_p0_train_berths_ends])), (h_p0_train_berths_ends, .inl (cyI, 3, .inl v_ends)), (h_p0_train_berths_holders, .inl (cyI, 162, .inl v_holders))] H := hP
  have hD : va_D A [(h_p0, .inr (6, [.ref h_p0_train, .ref h_p0_history, .ref h_p0_text])), (h_p0_train, .inr (5, [.ref h_p0_train_berths, .ref h_p0_train_roster, .ref h_p0_train_settings, .int v_nextNumber, .int v_bookings, .int v_leftOut])), (h_p0_train_berths, .inr (0, [.ref h_p0_train_berths_holders, .ref h_p0_train_berths_ends])), (h_p0_train_berths_ends, .inl (cyI, 3, .inl v_ends)), (h_p0_train_berths_holders, .inl (cyI, 162, .inl v_holders))] := hD
  refine lv_if_ne (tgt := 19) hx hb dX6_free_6 (by decide) (fun c4 => ?_) (fun c4 => ?_)
  · have h := ineg c4 h
    refine lv_iload_n hx hb dX6_free_19 rfl (lv_at hl 2 rfl) ?_
    refine lv_iconst (v := iI 2) hx hb dX6_free_20 rfl ?_
    obtain ⟨r5, e6, h⟩ := bsome h
    have hPc := sb_P [] hP [] rfl
    have hDc := sb_D [] hD [] (by decide) rfl
    have hFc := va_free (wc := []) hD hS hA [] rfl
    refine va_calli (va_runS (As := [.int a2, .int (iI 2)]) (rest := []) ⟨hx, hb, hml, hown, hts⟩ (c_X6_isBelow l dC dI cyI cyJ cyT H.size a2 (iI 2) r5 e6) (va_cwS 2 hts gX6_free_X6_isBelow rfl rfl rfl (by decide +kernel) ⟨Nat.le_of_ble_eq_true rfl, Nat.le_of_ble_eq_true rfl⟩) ⟨PRE.blind, PRE.go hK hPc hDc hNW⟩ rfl rfl hl.1 rfl (lv_room (Nat.le_of_ble_eq_true rfl)) dX6_free_21 ⟨Nat.zero_le _, Nat.zero_le _⟩) hS (fun q _ h => hFc q h) hFc (fun z7 u t H locs ht hvm hw hB hz1 hk1 hS => ?_)
    subst z7
    obtain ⟨hP, hD⟩ := va_join (wr := [(h_p0, .inr (6, [.ref h_p0_train, .ref h_p0_history, .ref h_p0_text])), (h_p0_train, .inr (5, [.ref h_p0_train_berths, .ref h_p0_train_roster, .ref h_p0_train_settings, .int v_nextNumber, .int v_bookings, .int v_leftOut])), (h_p0_train_berths, .inr (0, [.ref h_p0_train_berths_holders, .ref h_p0_train_berths_ends])), (h_p0_train_berths_ends, .inl (cyI, 3, .inl v_ends)), (h_p0_train_berths_holders, .inl (cyI, 162, .inl v_holders))]) (w1 := []) hP hD [] [0, 1, 2, 3, 4] rfl rfl (by decide) (by decide) hk1 hFc (WLD.P hB ht) hB.2
    have hP : va_P (dC, dI) vwCl [(h_p0, .inr (6, [.ref h_p0_train, .ref h_p0_history, .ref h_p0_text])), (h_p0_train, .inr (5, [.ref h_p0_train_berths, .ref h_p0_train_roster, .ref h_p0_train_settings, .int v_nextNumber, .int v_bookings, .int v_leftOut])), (h_p0_train_berths, .inr (0, [.ref h_p0_train_berths_holders, .ref h_p0_train_berths_ends])), (h_p0_train_berths_ends, .inl (cyI, 3, .inl v_ends)), (h_p0_train_berths_holders, .inl (cyI, 162, .inl v_holders))] H := hP
    have hD : va_D A [(h_p0, .inr (6, [.ref h_p0_train, .ref h_p0_history, .ref h_p0_text])), (h_p0_train, .inr (5, [.ref h_p0_train_berths, .ref h_p0_train_roster, .ref h_p0_train_settings, .int v_nextNumber, .int v_bookings, .int v_leftOut])), (h_p0_train_berths, .inr (0, [.ref h_p0_train_berths_holders, .ref h_p0_train_berths_ends])), (h_p0_train_berths_ends, .inl (cyI, 3, .inl v_ends)), (h_p0_train_berths_holders, .inl (cyI, 162, .inl v_holders))] := hD
    refine lv_if_ne (tgt := 37) hx hb dX6_free_24 (by decide) (fun c8 => ?_) (fun c8 => ?_)
    · have h := ineg c8 h
      refine lv_iload_n hx hb dX6_free_37 rfl (lv_at hl 2 rfl) ?_
      refine lv_if_ne (tgt := 55) hx hb dX6_free_38 (by decide) (fun c9 => ?_) (fun c9 => ?_)
      · have h := ineg c9 h
        refine lv_aload_n hx hb dX6_free_55 rfl (lv_at hl 0 rfl) ?_
        refine va_get (D := (dC, dI)) (ci := 6) (v := .ref h_p0_train) (C := RX6) (T := TX6) (N := 3) hx hb hts m_X6_free_0 hown hK hP 0 rfl rfl 0 (by decide) (hts (.fieldLink RX6 12 "SleeperBerths" "train" "LSleeperBerths$Train;") m_X6_free_1) (fun _ h9 => h9) rfl dX6_free_56 ?_
        refine va_get (D := (dC, dI)) (ci := 5) (v := .ref h_p0_train_berths) (C := RX5) (T := TX5) (N := 6) hx hb hts m_X6_free_2 hown hK hP 1 rfl rfl 0 (by decide) (hts (.fieldLink RX6 121 "SleeperBerths$Train" "berths" "LSleeperBerths$Berths;") m_X6_free_3) (fun _ h9 => h9) rfl dX6_free_59 ?_
        refine lv_iload_n hx hb dX6_free_62 rfl (lv_at hl 1 rfl) ?_
        obtain ⟨r10, e11, h⟩ := bsome h
        have hPc := sb_P [(h_p0_train_berths, .inr (0, [.ref h_p0_train_berths_holders, .ref h_p0_train_berths_ends])), (h_p0_train_berths_ends, .inl (cyI, 3, .inl v_ends)), (h_p0_train_berths_holders, .inl (cyI, 162, .inl v_holders))] hP [2, 3, 4] rfl
        have hDc := sb_D [(h_p0_train_berths, .inr (0, [.ref h_p0_train_berths_holders, .ref h_p0_train_berths_ends])), (h_p0_train_berths_ends, .inl (cyI, 3, .inl v_ends)), (h_p0_train_berths_holders, .inl (cyI, 162, .inl v_holders))] hD [2, 3, 4] (by decide) rfl
        have hFc := va_free (wc := [(h_p0_train_berths, .inr (0, [.ref h_p0_train_berths_holders, .ref h_p0_train_berths_ends])), (h_p0_train_berths_ends, .inl (cyI, 3, .inl v_ends)), (h_p0_train_berths_holders, .inl (cyI, 162, .inl v_holders))]) hD hS hA [2, 3, 4] rfl
        refine va_calli (va_runV (As := [.int a1]) (rest := []) ⟨hx, hb, hml, hown, hts⟩ (c_X0_lowestOpenOn l dC dI cyI cyJ cyT h_p0_train_berths h_p0_train_berths_holders h_p0_train_berths_ends H.size v_ends v_holders a1 n r10 e11) (cwV 1 hts gX6_free_X0_lowestOpenOn rfl rfl rfl (by decide +kernel) ⟨Nat.le_of_ble_eq_true rfl, Nat.le_of_ble_eq_true rfl⟩) ⟨PRE.blind, va_recv hK hPc (ci := 0) (q0 := 0) rfl rfl, PRE.go hK hPc hDc hNW⟩ rfl rfl hl.1 rfl (lv_room (Nat.le_of_ble_eq_true rfl)) dX6_free_63 ⟨Nat.zero_le _, Nat.zero_le _⟩) hS (fun q _ h => hFc q h) hFc (fun z12 u t H locs ht hvm hw hB hz1 hk1 hS => ?_)
        subst z12
        obtain ⟨hP, hD⟩ := va_join (wr := [(h_p0, .inr (6, [.ref h_p0_train, .ref h_p0_history, .ref h_p0_text])), (h_p0_train, .inr (5, [.ref h_p0_train_berths, .ref h_p0_train_roster, .ref h_p0_train_settings, .int v_nextNumber, .int v_bookings, .int v_leftOut]))]) (w1 := [(h_p0_train_berths, .inr (0, [.ref h_p0_train_berths_holders, .ref h_p0_train_berths_ends])), (h_p0_train_berths_ends, .inl (cyI, 3, .inl v_ends)), (h_p0_train_berths_holders, .inl (cyI, 162, .inl v_holders))]) hP hD [2, 3, 4] [0, 1] rfl rfl (by decide) (by decide) hk1 hFc (WLD.P hB ht) hB.2
        have hP : va_P (dC, dI) vwCl [(h_p0, .inr (6, [.ref h_p0_train, .ref h_p0_history, .ref h_p0_text])), (h_p0_train, .inr (5, [.ref h_p0_train_berths, .ref h_p0_train_roster, .ref h_p0_train_settings, .int v_nextNumber, .int v_bookings, .int v_leftOut])), (h_p0_train_berths, .inr (0, [.ref h_p0_train_berths_holders, .ref h_p0_train_berths_ends])), (h_p0_train_berths_ends, .inl (cyI, 3, .inl v_ends)), (h_p0_train_berths_holders, .inl (cyI, 162, .inl v_holders))] H := hP
        have hD : va_D A [(h_p0, .inr (6, [.ref h_p0_train, .ref h_p0_history, .ref h_p0_text])), (h_p0_train, .inr (5, [.ref h_p0_train_berths, .ref h_p0_train_roster, .ref h_p0_train_settings, .int v_nextNumber, .int v_bookings, .int v_leftOut])), (h_p0_train_berths, .inr (0, [.ref h_p0_train_berths_holders, .ref h_p0_train_berths_ends])), (h_p0_train_berths_ends, .inl (cyI, 3, .inl v_ends)), (h_p0_train_berths_holders, .inl (cyI, 162, .inl v_holders))] := hD
        obtain rfl := Option.some.inj h
        refine W.widen (k := 2) (n := 12) (Nat.le_of_ble_eq_true rfl) (Nat.le_of_ble_eq_true rfl) ?_
        refine vx_ret ?_
        exact W.iret (v := r10) hx hb hr (fun t ht hW => ⟨⟨r10, (), rfl, ⟨rfl, rfl⟩, WLD.of ht hP hD⟩, hS.F ht⟩) hS.2.2 dX6_free_66
      · have h := ipos c9 h
        refine lv_aload_n hx hb dX6_free_41 rfl (lv_at hl 0 rfl) ?_
        refine va_get (D := (dC, dI)) (ci := 6) (v := .ref h_p0_train) (C := RX6) (T := TX6) (N := 3) hx hb hts m_X6_free_0 hown hK hP 0 rfl rfl 0 (by decide) (hts (.fieldLink RX6 12 "SleeperBerths" "train" "LSleeperBerths$Train;") m_X6_free_1) (fun _ h9 => h9) rfl dX6_free_42 ?_
        refine va_get (D := (dC, dI)) (ci := 5) (v := .ref h_p0_train_berths) (C := RX5) (T := TX5) (N := 6) hx hb hts m_X6_free_2 hown hK hP 1 rfl rfl 0 (by decide) (hts (.fieldLink RX6 121 "SleeperBerths$Train" "berths" "LSleeperBerths$Berths;") m_X6_free_3) (fun _ h9 => h9) rfl dX6_free_45 ?_
        refine lv_iload_n hx hb dX6_free_48 rfl (lv_at hl 1 rfl) ?_
        obtain ⟨r13, e14, h⟩ := bsome h
        have hPc := sb_P [(h_p0_train_berths, .inr (0, [.ref h_p0_train_berths_holders, .ref h_p0_train_berths_ends])), (h_p0_train_berths_ends, .inl (cyI, 3, .inl v_ends)), (h_p0_train_berths_holders, .inl (cyI, 162, .inl v_holders))] hP [2, 3, 4] rfl
        have hDc := sb_D [(h_p0_train_berths, .inr (0, [.ref h_p0_train_berths_holders, .ref h_p0_train_berths_ends])), (h_p0_train_berths_ends, .inl (cyI, 3, .inl v_ends)), (h_p0_train_berths_holders, .inl (cyI, 162, .inl v_holders))] hD [2, 3, 4] (by decide) rfl
        have hFc := va_free (wc := [(h_p0_train_berths, .inr (0, [.ref h_p0_train_berths_holders, .ref h_p0_train_berths_ends])), (h_p0_train_berths_ends, .inl (cyI, 3, .inl v_ends)), (h_p0_train_berths_holders, .inl (cyI, 162, .inl v_holders))]) hD hS hA [2, 3, 4] rfl
        refine va_calli (va_runV (As := [.int a1]) (rest := []) ⟨hx, hb, hml, hown, hts⟩ (c_X0_openOn l dC dI cyI cyJ cyT h_p0_train_berths h_p0_train_berths_holders h_p0_train_berths_ends H.size v_ends v_holders a1 n r13 e14) (cwV 1 hts gX6_free_X0_openOn rfl rfl rfl (by decide +kernel) ⟨Nat.le_of_ble_eq_true rfl, Nat.le_of_ble_eq_true rfl⟩) ⟨PRE.blind, va_recv hK hPc (ci := 0) (q0 := 0) rfl rfl, PRE.go hK hPc hDc hNW⟩ rfl rfl hl.1 rfl (lv_room (Nat.le_of_ble_eq_true rfl)) dX6_free_49 ⟨Nat.zero_le _, Nat.zero_le _⟩) hS (fun q _ h => hFc q h) hFc (fun z15 u t H locs ht hvm hw hB hz1 hk1 hS => ?_)
        subst z15
        obtain ⟨hP, hD⟩ := va_join (wr := [(h_p0, .inr (6, [.ref h_p0_train, .ref h_p0_history, .ref h_p0_text])), (h_p0_train, .inr (5, [.ref h_p0_train_berths, .ref h_p0_train_roster, .ref h_p0_train_settings, .int v_nextNumber, .int v_bookings, .int v_leftOut]))]) (w1 := [(h_p0_train_berths, .inr (0, [.ref h_p0_train_berths_holders, .ref h_p0_train_berths_ends])), (h_p0_train_berths_ends, .inl (cyI, 3, .inl v_ends)), (h_p0_train_berths_holders, .inl (cyI, 162, .inl v_holders))]) hP hD [2, 3, 4] [0, 1] rfl rfl (by decide) (by decide) hk1 hFc (WLD.P hB ht) hB.2
        have hP : va_P (dC, dI) vwCl [(h_p0, .inr (6, [.ref h_p0_train, .ref h_p0_history, .ref h_p0_text])), (h_p0_train, .inr (5, [.ref h_p0_train_berths, .ref h_p0_train_roster, .ref h_p0_train_settings, .int v_nextNumber, .int v_bookings, .int v_leftOut])), (h_p0_train_berths, .inr (0, [.ref h_p0_train_berths_holders, .ref h_p0_train_berths_ends])), (h_p0_train_berths_ends, .inl (cyI, 3, .inl v_ends)), (h_p0_train_berths_holders, .inl (cyI, 162, .inl v_holders))] H := hP
        have hD : va_D A [(h_p0, .inr (6, [.ref h_p0_train, .ref h_p0_history, .ref h_p0_text])), (h_p0_train, .inr (5, [.ref h_p0_train_berths, .ref h_p0_train_roster, .ref h_p0_train_settings, .int v_nextNumber, .int v_bookings, .int v_leftOut])), (h_p0_train_berths, .inr (0, [.ref h_p0_train_berths_holders, .ref h_p0_train_berths_ends])), (h_p0_train_berths_ends, .inl (cyI, 3, .inl v_ends)), (h_p0_train_berths_holders, .inl (cyI, 162, .inl v_holders))] := hD
        refine lv_goto (tgt := 66) hx hb dX6_free_52 (by decide) ?_
        obtain rfl := Option.some.inj h
        refine W.widen (k := 2) (n := 12) (Nat.le_of_ble_eq_true rfl) (Nat.le_of_ble_eq_true rfl) ?_
        refine vx_ret ?_
        exact W.iret (v := r13) hx hb hr (fun t ht hW => ⟨⟨r13, (), rfl, ⟨rfl, rfl⟩, WLD.of ht hP hD⟩, hS.F ht⟩) hS.2.2 dX6_free_66
    · have h := ipos c8 h
      obtain rfl := Option.some.inj h
      obtain ⟨sa16, hstr⟩ := hXR.2.2 16 rfl
      exact vx_throwS (names := ["java/lang/RuntimeException", "java/lang/Exception"]) (sa := sa16) hx hb hl0 hown (by decide +kernel) (by decide +kernel) (hts (.classLink RX6 116 "java/lang/IllegalArgumentException") m_X6_free_5) (hts (.initialized "java/lang/IllegalArgumentException") m_X6_free_6) hstr (xhat hts m_X6_free_4 hXR (by decide +kernel)) (by decide +kernel) hXS.1 hXS.2 hS (hl.1.trans hml.symm) dX6_free_27 dX6_free_30 dX6_free_31 dX6_free_33 dX6_free_36 (fun x hx9 => (hno x hx9).elim) (Nat.le_of_ble_eq_true rfl) (Nat.le_of_ble_eq_true rfl) (Nat.le_of_ble_eq_true rfl) (Nat.le_of_ble_eq_true rfl) hlocks (fun t _ h1 h2 => XWL.of (show ¬ (1 : Nat) = 0 by decide) rfl hP hD hS h1 h2) hS.2.2 (Nat.le_of_ble_eq_true rfl) (Nat.le_of_ble_eq_true rfl)
  · have h := ipos c4 h
    obtain rfl := Option.some.inj h
    obtain ⟨sa17, hstr⟩ := hXR.2.2 15 rfl
    exact vx_throwS (names := ["java/lang/RuntimeException", "java/lang/Exception"]) (sa := sa17) hx hb hl0 hown (by decide +kernel) (by decide +kernel) (hts (.classLink RX6 84 "java/lang/IndexOutOfBoundsException") m_X6_free_8) (hts (.initialized "java/lang/IndexOutOfBoundsException") m_X6_free_9) hstr (xhat hts m_X6_free_7 hXR (by decide +kernel)) (by decide +kernel) hXS.1 hXS.2 hS (hl.1.trans hml.symm) dX6_free_9 dX6_free_12 dX6_free_13 dX6_free_15 dX6_free_18 (fun x hx9 => (hno x hx9).elim) (Nat.le_of_ble_eq_true rfl) (Nat.le_of_ble_eq_true rfl) (Nat.le_of_ble_eq_true rfl) (Nat.le_of_ble_eq_true rfl) hlocks (fun t _ h1 h2 => XWL.of (show ¬ (3 : Nat) = 0 by decide) rfl hP hD hS h1 h2) hS.2.2 (Nat.le_of_ble_eq_true rfl) (Nat.le_of_ble_eq_true rfl)
def s_X6_goesTo (v_ends : Nat → Int32) (a1 : Int32) : Option (Nat × Int32) := ((s_X6_requireCoach a1).bind fun r1 => (if r1 = 0 then ((s_X0_endOf v_ends a1).bind fun r4 => (some (0, r4))) else (some (r1, 0))))
set_option maxRecDepth 20000 in
theorem m_X6_goesTo_0 : ∀ w ∈ u_ws RX6 TX6 3, w ∈ wsX6_goesTo := by decide +kernel
set_option maxRecDepth 20000 in
theorem m_X6_goesTo_1 : (.fieldLink RX6 12 "SleeperBerths" "train" "LSleeperBerths$Train;" : Cond) ∈ wsX6_goesTo := by decide +kernel
set_option maxRecDepth 20000 in
theorem m_X6_goesTo_2 : ∀ w ∈ u_ws RX5 TX5 6, w ∈ wsX6_goesTo := by decide +kernel
set_option maxRecDepth 20000 in
theorem m_X6_goesTo_3 : (.fieldLink RX6 121 "SleeperBerths$Train" "berths" "LSleeperBerths$Berths;" : Cond) ∈ wsX6_goesTo := by decide +kernel
set_option maxHeartbeats 4000000 in
set_option maxRecDepth 100000 in
theorem c_X6_goesTo (l : Launch) (hl0 : l.stackTraces = false) (dC : Nat → ClassId) (dI : Nat → Nat → Nat) (cyI cyJ cyT : ClassId) (h_p0 : Nat) (h_p0_train : Nat) (h_p0_history : Nat) (h_p0_text : Nat) (h_p0_train_berths : Nat) (h_p0_train_roster : Nat) (h_p0_train_settings : Nat) (h_p0_train_berths_holders : Nat) (h_p0_train_berths_ends : Nat) (sz : Nat) (v_nextNumber : Int32) (v_bookings : Int32) (v_leftOut : Int32) (v_ends : Nat → Int32) (a1 : Int32) (o : Nat × Int32) (h : s_X6_goesTo v_ends a1 = some o) : vx_Met l yX6_goesTo wsX6_goesTo ({ frames := 7, cells := 1, slots := 6, locals := 110 }) (va_Pc [.ref h_p0, .int a1] (PREX (dC, dI) (TYS cyI cyJ cyT) sz [(h_p0, .inr (6, [.ref h_p0_train, .ref h_p0_history, .ref h_p0_text])), (h_p0_train, .inr (5, [.ref h_p0_train_berths, .ref h_p0_train_roster, .ref h_p0_train_settings, .int v_nextNumber, .int v_bookings, .int v_leftOut])), (h_p0_train_berths, .inr (0, [.ref h_p0_train_berths_holders, .ref h_p0_train_berths_ends])), (h_p0_train_berths_ends, .inl (cyI, 3, .inl v_ends))])) (va_Qi (S := Unit) (fun r _ => o.1 = 0 ∧ r = o.2) (fun _ t => WLD (dC, dI) (va_A [(h_p0, .inr (6, [.ref h_p0_train, .ref h_p0_history, .ref h_p0_text])), (h_p0_train, .inr (5, [.ref h_p0_train_berths, .ref h_p0_train_roster, .ref h_p0_train_settings, .int v_nextNumber, .int v_bookings, .int v_leftOut])), (h_p0_train_berths, .inr (0, [.ref h_p0_train_berths_holders, .ref h_p0_train_berths_ends])), (h_p0_train_berths_ends, .inl (cyI, 3, .inl v_ends))] sz) [(h_p0, .inr (6, [.ref h_p0_train, .ref h_p0_history, .ref h_p0_text])), (h_p0_train, .inr (5, [.ref h_p0_train_berths, .ref h_p0_train_roster, .ref h_p0_train_settings, .int v_nextNumber, .int v_bookings, .int v_leftOut])), (h_p0_train_berths, .inr (0, [.ref h_p0_train_berths_holders, .ref h_p0_train_berths_ends])), (h_p0_train_berths_ends, .inl (cyI, 3, .inl v_ends))] t) (va_A [(h_p0, .inr (6, [.ref h_p0_train, .ref h_p0_history, .ref h_p0_text])), (h_p0_train, .inr (5, [.ref h_p0_train_berths, .ref h_p0_train_roster, .ref h_p0_train_settings, .int v_nextNumber, .int v_bookings, .int v_leftOut])), (h_p0_train_berths, .inr (0, [.ref h_p0_train_berths_holders, .ref h_p0_train_berths_ends])), (h_p0_train_berths_ends, .inl (cyI, 3, .inl v_ends))] sz)) (vx_X (S := Unit) (fun _ => True) (fun E _ t => XWL (dC, dI) (va_A [(h_p0, .inr (6, [.ref h_p0_train, .ref h_p0_history, .ref h_p0_text])), (h_p0_train, .inr (5, [.ref h_p0_train_berths, .ref h_p0_train_roster, .ref h_p0_train_settings, .int v_nextNumber, .int v_bookings, .int v_leftOut])), (h_p0_train_berths, .inr (0, [.ref h_p0_train_berths_holders, .ref h_p0_train_berths_ends])), (h_p0_train_berths_ends, .inl (cyI, 3, .inl v_ends))] sz) o.1 E [(h_p0, .inr (6, [.ref h_p0_train, .ref h_p0_history, .ref h_p0_text])), (h_p0_train, .inr (5, [.ref h_p0_train_berths, .ref h_p0_train_roster, .ref h_p0_train_settings, .int v_nextNumber, .int v_bookings, .int v_leftOut])), (h_p0_train_berths, .inr (0, [.ref h_p0_train_berths_holders, .ref h_p0_train_berths_ends])), (h_p0_train_berths_ends, .inl (cyI, 3, .inl v_ends))] t) (va_A [(h_p0, .inr (6, [.ref h_p0_train, .ref h_p0_history, .ref h_p0_text])), (h_p0_train, .inr (5, [.ref h_p0_train_berths, .ref h_p0_train_roster, .ref h_p0_train_settings, .int v_nextNumber, .int v_bookings, .int v_leftOut])), (h_p0_train_berths, .inr (0, [.ref h_p0_train_berths_holders, .ref h_p0_train_berths_ends])), (h_p0_train_berths_ends, .inl (cyI, 3, .inl v_ends))] sz)) 1 6 (va_A [(h_p0, .inr (6, [.ref h_p0_train, .ref h_p0_history, .ref h_p0_text])), (h_p0_train, .inr (5, [.ref h_p0_train_berths, .ref h_p0_train_roster, .ref h_p0_train_settings, .int v_nextNumber, .int v_bookings, .int v_leftOut])), (h_p0_train_berths, .inr (0, [.ref h_p0_train_berths_holders, .ref h_p0_train_berths_ends])), (h_p0_train_berths_ends, .inl (cyI, 3, .inl v_ends))] sz) := by
  refine vx_ofW (cc := cX6_goesTo) (maxL := 2) (ret := (some .int)) (by decide) rfl ?_
  intro p e s m args below meth c s₁ B hml hno hv
  obtain ⟨rfl, ⟨hsz, hP, hK, hD0, hNW⟩, hXR, hXS⟩ := hv
  have hx := B.exec
  have hb := B.bytes
  have hr := B.returns
  have hts := atoms_spec (ws := wsX6_goesTo) B.pre
  have hown : s.vm.findClass RX6 = some m.cls := findClass_of_methodNamed B.named
  have hlocks := B.notSynchronized
  subst hsz
  have hD := hD0.self (sz := s.heap.size)
  generalize hAe : va_A [(h_p0, .inr (6, [.ref h_p0_train, .ref h_p0_history, .ref h_p0_text])), (h_p0_train, .inr (5, [.ref h_p0_train_berths, .ref h_p0_train_roster, .ref h_p0_train_settings, .int v_nextNumber, .int v_bookings, .int v_leftOut])), (h_p0_train_berths, .inr (0, [.ref h_p0_train_berths_holders, .ref h_p0_train_berths_ends])), (h_p0_train_berths_ends, .inl (cyI, 3, .inl v_ends))] s.heap.size = A at hD hXS ⊢
  have hA : ∀ q : Nat, s.heap.size ≤ q → A q := fun q h => by rw [← hAe]; exact Or.inr h
  have hS : va_S A s.heap s.heap [] := va_S.rf
  have hP : va_P (dC, dI) vwCl [(h_p0, .inr (6, [.ref h_p0_train, .ref h_p0_history, .ref h_p0_text])), (h_p0_train, .inr (5, [.ref h_p0_train_berths, .ref h_p0_train_roster, .ref h_p0_train_settings, .int v_nextNumber, .int v_bookings, .int v_leftOut])), (h_p0_train_berths, .inr (0, [.ref h_p0_train_berths_holders, .ref h_p0_train_berths_ends])), (h_p0_train_berths_ends, .inl (cyI, 3, .inl v_ends))] s.heap := hP
  have hl := lv_entry ([.ref h_p0, .int a1]) (n := 2) (Nat.le_of_ble_eq_true rfl)
  rw [lg_entry_eq]
  generalize (lg_sl ([.ref h_p0, .int a1]) ++ List.replicate (2 - (lg_sl ([.ref h_p0, .int a1])).length) Slot.unset).toArray = ls at hl ⊢
  have hl : lv_has ls 2 [(0, .ref h_p0), (1, .int a1)] := hl
  unfold s_X6_goesTo at h
  refine lv_iload_n hx hb dX6_goesTo_0 rfl (lv_at hl 1 rfl) ?_
  obtain ⟨r1, e2, h⟩ := bsome h
  have hPc := sb_P [] hP [] rfl
  have hDc := sb_D [] hD [] (by decide) rfl
  have hFc := va_free (wc := []) hD hS hA [] rfl
  refine vx_callv (vx_runS (As := [.int a1]) (rest := []) ⟨hx, hb, hml, hown, hts⟩ (c_X6_requireCoach l hl0 dC dI cyI cyJ cyT s.heap.size a1 r1 e2) (va_cwS 1 hts gX6_goesTo_X6_requireCoach rfl rfl rfl (by decide +kernel) ⟨Nat.le_of_ble_eq_true rfl, Nat.le_of_ble_eq_true rfl⟩) ⟨PREX.blind, PREX.go hK hPc hDc hNW hXR hXS hS hFc⟩ rfl rfl hl.1 rfl (lv_room (Nat.le_of_ble_eq_true rfl)) dX6_goesTo_1 ⟨(Nat.le_of_ble_eq_true rfl), (Nat.le_of_ble_eq_true rfl)⟩) hS (fun q _ h => hFc q h) hFc (fun q _ h => hFc q h) (fun E9 ce9 q9 u t H locs ht hvm _ hB hz1 hk1 hS hce hcv hcl => by
      have h := ineg hB.1 h
      obtain ⟨hP, hD⟩ := va_join (wr := [(h_p0, .inr (6, [.ref h_p0_train, .ref h_p0_history, .ref h_p0_text])), (h_p0_train, .inr (5, [.ref h_p0_train_berths, .ref h_p0_train_roster, .ref h_p0_train_settings, .int v_nextNumber, .int v_bookings, .int v_leftOut])), (h_p0_train_berths, .inr (0, [.ref h_p0_train_berths_holders, .ref h_p0_train_berths_ends])), (h_p0_train_berths_ends, .inl (cyI, 3, .inl v_ends))]) (w1 := []) hP hD [] [0, 1, 2, 3] rfl rfl (by decide) (by decide) hk1 hFc (WLD.P hB.2.2 ht) hB.2.2.2
      have hP : va_P (dC, dI) vwCl [(h_p0, .inr (6, [.ref h_p0_train, .ref h_p0_history, .ref h_p0_text])), (h_p0_train, .inr (5, [.ref h_p0_train_berths, .ref h_p0_train_roster, .ref h_p0_train_settings, .int v_nextNumber, .int v_bookings, .int v_leftOut])), (h_p0_train_berths, .inr (0, [.ref h_p0_train_berths_holders, .ref h_p0_train_berths_ends])), (h_p0_train_berths_ends, .inl (cyI, 3, .inl v_ends))] H := hP
      have hD : va_D A [(h_p0, .inr (6, [.ref h_p0_train, .ref h_p0_history, .ref h_p0_text])), (h_p0_train, .inr (5, [.ref h_p0_train_berths, .ref h_p0_train_roster, .ref h_p0_train_settings, .int v_nextNumber, .int v_bookings, .int v_leftOut])), (h_p0_train_berths, .inr (0, [.ref h_p0_train_berths_holders, .ref h_p0_train_berths_ends])), (h_p0_train_berths_ends, .inl (cyI, 3, .inl v_ends))] := hD
      obtain rfl := Option.some.inj h
      exact vx_out (fun x hx9 => (hno x hx9).elim) hlocks hce hcv hcl (fun t ht _ => XWL.of2 hB.1 hB.2.1 hP hD hS ht) hS.2.2 (Nat.le_of_ble_eq_true rfl) (Nat.le_of_ble_eq_true rfl)) (fun u t H locs ht hvm hw hB hz1 hk1 hS => ?_)
  have h := ipos hw h
  obtain ⟨hP, hD⟩ := va_join (wr := [(h_p0, .inr (6, [.ref h_p0_train, .ref h_p0_history, .ref h_p0_text])), (h_p0_train, .inr (5, [.ref h_p0_train_berths, .ref h_p0_train_roster, .ref h_p0_train_settings, .int v_nextNumber, .int v_bookings, .int v_leftOut])), (h_p0_train_berths, .inr (0, [.ref h_p0_train_berths_holders, .ref h_p0_train_berths_ends])), (h_p0_train_berths_ends, .inl (cyI, 3, .inl v_ends))]) (w1 := []) hP hD [] [0, 1, 2, 3] rfl rfl (by decide) (by decide) hk1 hFc (WLD.P hB ht) hB.2
  have hP : va_P (dC, dI) vwCl [(h_p0, .inr (6, [.ref h_p0_train, .ref h_p0_history, .ref h_p0_text])), (h_p0_train, .inr (5, [.ref h_p0_train_berths, .ref h_p0_train_roster, .ref h_p0_train_settings, .int v_nextNumber, .int v_bookings, .int v_leftOut])), (h_p0_train_berths, .inr (0, [.ref h_p0_train_berths_holders, .ref h_p0_train_berths_ends])), (h_p0_train_berths_ends, .inl (cyI, 3, .inl v_ends))] H := hP
  have hD : va_D A [(h_p0, .inr (6, [.ref h_p0_train, .ref h_p0_history, .ref h_p0_text])), (h_p0_train, .inr (5, [.ref h_p0_train_berths, .ref h_p0_train_roster, .ref h_p0_train_settings, .int v_nextNumber, .int v_bookings, .int v_leftOut])), (h_p0_train_berths, .inr (0, [.ref h_p0_train_berths_holders, .ref h_p0_train_berths_ends])), (h_p0_train_berths_ends, .inl (cyI, 3, .inl v_ends))] := hD
  refine lv_aload_n hx hb dX6_goesTo_4 rfl (lv_at hl 0 rfl) ?_
  refine va_get (D := (dC, dI)) (ci := 6) (v := .ref h_p0_train) (C := RX6) (T := TX6) (N := 3) hx hb hts m_X6_goesTo_0 hown hK hP 0 rfl rfl 0 (by decide) (hts (.fieldLink RX6 12 "SleeperBerths" "train" "LSleeperBerths$Train;") m_X6_goesTo_1) (fun _ h9 => h9) rfl dX6_goesTo_5 ?_
  refine va_get (D := (dC, dI)) (ci := 5) (v := .ref h_p0_train_berths) (C := RX5) (T := TX5) (N := 6) hx hb hts m_X6_goesTo_2 hown hK hP 1 rfl rfl 0 (by decide) (hts (.fieldLink RX6 121 "SleeperBerths$Train" "berths" "LSleeperBerths$Berths;") m_X6_goesTo_3) (fun _ h9 => h9) rfl dX6_goesTo_8 ?_
  refine lv_iload_n hx hb dX6_goesTo_11 rfl (lv_at hl 1 rfl) ?_
  obtain ⟨r4, e5, h⟩ := bsome h
  have hPc := sb_P [(h_p0_train_berths, .inr (0, [.ref h_p0_train_berths_holders, .ref h_p0_train_berths_ends])), (h_p0_train_berths_ends, .inl (cyI, 3, .inl v_ends))] hP [2, 3] rfl
  have hDc := sb_D [(h_p0_train_berths, .inr (0, [.ref h_p0_train_berths_holders, .ref h_p0_train_berths_ends])), (h_p0_train_berths_ends, .inl (cyI, 3, .inl v_ends))] hD [2, 3] (by decide) rfl
  have hFc := va_free (wc := [(h_p0_train_berths, .inr (0, [.ref h_p0_train_berths_holders, .ref h_p0_train_berths_ends])), (h_p0_train_berths_ends, .inl (cyI, 3, .inl v_ends))]) hD hS hA [2, 3] rfl
  refine va_calli (va_runV (As := [.int a1]) (rest := []) ⟨hx, hb, hml, hown, hts⟩ (c_X0_endOf l dC dI cyI cyJ cyT h_p0_train_berths h_p0_train_berths_holders h_p0_train_berths_ends H.size v_ends a1 r4 e5) (cwV 1 hts gX6_goesTo_X0_endOf rfl rfl rfl (by decide +kernel) ⟨Nat.le_of_ble_eq_true rfl, Nat.le_of_ble_eq_true rfl⟩) ⟨PRE.blind, va_recv hK hPc (ci := 0) (q0 := 0) rfl rfl, PRE.go hK hPc hDc hNW⟩ rfl rfl hl.1 rfl (lv_room (Nat.le_of_ble_eq_true rfl)) dX6_goesTo_12 ⟨(Nat.le_of_ble_eq_true rfl), (Nat.le_of_ble_eq_true rfl)⟩) hS (fun q _ h => hFc q h) hFc (fun z6 u t H locs ht hvm hw hB hz1 hk1 hS => ?_)
  subst z6
  obtain ⟨hP, hD⟩ := va_join (wr := [(h_p0, .inr (6, [.ref h_p0_train, .ref h_p0_history, .ref h_p0_text])), (h_p0_train, .inr (5, [.ref h_p0_train_berths, .ref h_p0_train_roster, .ref h_p0_train_settings, .int v_nextNumber, .int v_bookings, .int v_leftOut]))]) (w1 := [(h_p0_train_berths, .inr (0, [.ref h_p0_train_berths_holders, .ref h_p0_train_berths_ends])), (h_p0_train_berths_ends, .inl (cyI, 3, .inl v_ends))]) hP hD [2, 3] [0, 1] rfl rfl (by decide) (by decide) hk1 hFc (WLD.P hB ht) hB.2
  have hP : va_P (dC, dI) vwCl [(h_p0, .inr (6, [.ref h_p0_train, .ref h_p0_history, .ref h_p0_text])), (h_p0_train, .inr (5, [.ref h_p0_train_berths, .ref h_p0_train_roster, .ref h_p0_train_settings, .int v_nextNumber, .int v_bookings, .int v_leftOut])), (h_p0_train_berths, .inr (0, [.ref h_p0_train_berths_holders, .ref h_p0_train_berths_ends])), (h_p0_train_berths_ends, .inl (cyI, 3, .inl v_ends))] H := hP
  have hD : va_D A [(h_p0, .inr (6, [.ref h_p0_train, .ref h_p0_history, .ref h_p0_text])), (h_p0_train, .inr (5, [.ref h_p0_train_berths, .ref h_p0_train_roster, .ref h_p0_train_settings, .int v_nextNumber, .int v_bookings, .int v_leftOut])), (h_p0_train_berths, .inr (0, [.ref h_p0_train_berths_holders, .ref h_p0_train_berths_ends])), (h_p0_train_berths_ends, .inl (cyI, 3, .inl v_ends))] := hD
  obtain rfl := Option.some.inj h
  refine W.widen (k := 1) (n := 6) (Nat.le_of_ble_eq_true rfl) (Nat.le_of_ble_eq_true rfl) ?_
  refine vx_ret ?_
  exact W.iret (v := r4) hx hb hr (fun t ht hW => ⟨⟨r4, (), rfl, ⟨rfl, rfl⟩, WLD.of ht hP hD⟩, hS.F ht⟩) hS.2.2 dX6_goesTo_15
def s_X6_setting (v_settings : Nat → Int32) (a1 : Int32) : Option (Nat × Int32) := ((s_X6_requireSetting a1).bind fun r1 => (if r1 = 0 then ((s_X6_read 3 v_settings a1).bind fun r4 => (some (0, r4))) else (some (r1, 0))))
set_option maxRecDepth 20000 in
theorem m_X6_setting_0 : ∀ w ∈ u_ws RX6 TX6 3, w ∈ wsX6_setting := by decide +kernel
set_option maxRecDepth 20000 in
theorem m_X6_setting_1 : (.fieldLink RX6 12 "SleeperBerths" "train" "LSleeperBerths$Train;" : Cond) ∈ wsX6_setting := by decide +kernel
set_option maxRecDepth 20000 in
theorem m_X6_setting_2 : ∀ w ∈ u_ws RX5 TX5 6, w ∈ wsX6_setting := by decide +kernel
set_option maxRecDepth 20000 in
theorem m_X6_setting_3 : (.fieldLink RX6 146 "SleeperBerths$Train" "settings" "[I" : Cond) ∈ wsX6_setting := by decide +kernel
set_option maxHeartbeats 4000000 in
set_option maxRecDepth 100000 in
theorem c_X6_setting (l : Launch) (hl0 : l.stackTraces = false) (dC : Nat → ClassId) (dI : Nat → Nat → Nat) (cyI cyJ cyT : ClassId) (h_p0 : Nat) (h_p0_train : Nat) (h_p0_history : Nat) (h_p0_text : Nat) (h_p0_train_berths : Nat) (h_p0_train_roster : Nat) (h_p0_train_settings : Nat) (sz : Nat) (v_nextNumber : Int32) (v_bookings : Int32) (v_leftOut : Int32) (v_settings : Nat → Int32) (a1 : Int32) (o : Nat × Int32) (h : s_X6_setting v_settings a1 = some o) : vx_Met l yX6_setting wsX6_setting ({ frames := 7, cells := 1, slots := 6, locals := 110 }) (va_Pc [.ref h_p0, .int a1] (PREX (dC, dI) (TYS cyI cyJ cyT) sz [(h_p0, .inr (6, [.ref h_p0_train, .ref h_p0_history, .ref h_p0_text])), (h_p0_train, .inr (5, [.ref h_p0_train_berths, .ref h_p0_train_roster, .ref h_p0_train_settings, .int v_nextNumber, .int v_bookings, .int v_leftOut])), (h_p0_train_settings, .inl (cyI, 3, .inl v_settings))])) (va_Qi (S := Unit) (fun r _ => o.1 = 0 ∧ r = o.2) (fun _ t => WLD (dC, dI) (va_A [(h_p0, .inr (6, [.ref h_p0_train, .ref h_p0_history, .ref h_p0_text])), (h_p0_train, .inr (5, [.ref h_p0_train_berths, .ref h_p0_train_roster, .ref h_p0_train_settings, .int v_nextNumber, .int v_bookings, .int v_leftOut])), (h_p0_train_settings, .inl (cyI, 3, .inl v_settings))] sz) [(h_p0, .inr (6, [.ref h_p0_train, .ref h_p0_history, .ref h_p0_text])), (h_p0_train, .inr (5, [.ref h_p0_train_berths, .ref h_p0_train_roster, .ref h_p0_train_settings, .int v_nextNumber, .int v_bookings, .int v_leftOut])), (h_p0_train_settings, .inl (cyI, 3, .inl v_settings))] t) (va_A [(h_p0, .inr (6, [.ref h_p0_train, .ref h_p0_history, .ref h_p0_text])), (h_p0_train, .inr (5, [.ref h_p0_train_berths, .ref h_p0_train_roster, .ref h_p0_train_settings, .int v_nextNumber, .int v_bookings, .int v_leftOut])), (h_p0_train_settings, .inl (cyI, 3, .inl v_settings))] sz)) (vx_X (S := Unit) (fun _ => True) (fun E _ t => XWL (dC, dI) (va_A [(h_p0, .inr (6, [.ref h_p0_train, .ref h_p0_history, .ref h_p0_text])), (h_p0_train, .inr (5, [.ref h_p0_train_berths, .ref h_p0_train_roster, .ref h_p0_train_settings, .int v_nextNumber, .int v_bookings, .int v_leftOut])), (h_p0_train_settings, .inl (cyI, 3, .inl v_settings))] sz) o.1 E [(h_p0, .inr (6, [.ref h_p0_train, .ref h_p0_history, .ref h_p0_text])), (h_p0_train, .inr (5, [.ref h_p0_train_berths, .ref h_p0_train_roster, .ref h_p0_train_settings, .int v_nextNumber, .int v_bookings, .int v_leftOut])), (h_p0_train_settings, .inl (cyI, 3, .inl v_settings))] t) (va_A [(h_p0, .inr (6, [.ref h_p0_train, .ref h_p0_history, .ref h_p0_text])), (h_p0_train, .inr (5, [.ref h_p0_train_berths, .ref h_p0_train_roster, .ref h_p0_train_settings, .int v_nextNumber, .int v_bookings, .int v_leftOut])), (h_p0_train_settings, .inl (cyI, 3, .inl v_settings))] sz)) 1 6 (va_A [(h_p0, .inr (6, [.ref h_p0_train, .ref h_p0_history, .ref h_p0_text])), (h_p0_train, .inr (5, [.ref h_p0_train_berths, .ref h_p0_train_roster, .ref h_p0_train_settings, .int v_nextNumber, .int v_bookings, .int v_leftOut])), (h_p0_train_settings, .inl (cyI, 3, .inl v_settings))] sz) := by
  refine vx_ofW (cc := cX6_setting) (maxL := 2) (ret := (some .int)) (by decide) rfl ?_
  intro p e s m args below meth c s₁ B hml hno hv
  obtain ⟨rfl, ⟨hsz, hP, hK, hD0, hNW⟩, hXR, hXS⟩ := hv
  have hx := B.exec
  have hb := B.bytes
  have hr := B.returns
  have hts := atoms_spec (ws := wsX6_setting) B.pre
  have hown : s.vm.findClass RX6 = some m.cls := findClass_of_methodNamed B.named
  have hlocks := B.notSynchronized
  subst hsz
  have hD := hD0.self (sz := s.heap.size)
  generalize hAe : va_A [(h_p0, .inr (6, [.ref h_p0_train, .ref h_p0_history, .ref h_p0_text])), (h_p0_train, .inr (5, [.ref h_p0_train_berths, .ref h_p0_train_roster, .ref h_p0_train_settings, .int v_nextNumber, .int v_bookings, .int v_leftOut])), (h_p0_train_settings, .inl (cyI, 3, .inl v_settings))] s.heap.size = A at hD hXS ⊢
  have hA : ∀ q : Nat, s.heap.size ≤ q → A q := fun q h => by rw [← hAe]; exact Or.inr h
  have hS : va_S A s.heap s.heap [] := va_S.rf
  have hP : va_P (dC, dI) vwCl [(h_p0, .inr (6, [.ref h_p0_train, .ref h_p0_history, .ref h_p0_text])), (h_p0_train, .inr (5, [.ref h_p0_train_berths, .ref h_p0_train_roster, .ref h_p0_train_settings, .int v_nextNumber, .int v_bookings, .int v_leftOut])), (h_p0_train_settings, .inl (cyI, 3, .inl v_settings))] s.heap := hP
  have hl := lv_entry ([.ref h_p0, .int a1]) (n := 2) (Nat.le_of_ble_eq_true rfl)
  rw [lg_entry_eq]
  generalize (lg_sl ([.ref h_p0, .int a1]) ++ List.replicate (2 - (lg_sl ([.ref h_p0, .int a1])).length) Slot.unset).toArray = ls at hl ⊢
  have hl : lv_has ls 2 [(0, .ref h_p0), (1, .int a1)] := hl
  unfold s_X6_setting at h
  refine lv_iload_n hx hb dX6_setting_0 rfl (lv_at hl 1 rfl) ?_
  obtain ⟨r1, e2, h⟩ := bsome h
  have hPc := sb_P [] hP [] rfl
  have hDc := sb_D [] hD [] (by decide) rfl
  have hFc := va_free (wc := []) hD hS hA [] rfl
  refine vx_callv (vx_runS (As := [.int a1]) (rest := []) ⟨hx, hb, hml, hown, hts⟩ (c_X6_requireSetting l hl0 dC dI cyI cyJ cyT s.heap.size a1 r1 e2) (va_cwS 1 hts gX6_setting_X6_requireSetting rfl rfl rfl (by decide +kernel) ⟨Nat.le_of_ble_eq_true rfl, Nat.le_of_ble_eq_true rfl⟩) ⟨PREX.blind, PREX.go hK hPc hDc hNW hXR hXS hS hFc⟩ rfl rfl hl.1 rfl (lv_room (Nat.le_of_ble_eq_true rfl)) dX6_setting_1 ⟨(Nat.le_of_ble_eq_true rfl), (Nat.le_of_ble_eq_true rfl)⟩) hS (fun q _ h => hFc q h) hFc (fun q _ h => hFc q h) (fun E9 ce9 q9 u t H locs ht hvm _ hB hz1 hk1 hS hce hcv hcl => by
      have h := ineg hB.1 h
      obtain ⟨hP, hD⟩ := va_join (wr := [(h_p0, .inr (6, [.ref h_p0_train, .ref h_p0_history, .ref h_p0_text])), (h_p0_train, .inr (5, [.ref h_p0_train_berths, .ref h_p0_train_roster, .ref h_p0_train_settings, .int v_nextNumber, .int v_bookings, .int v_leftOut])), (h_p0_train_settings, .inl (cyI, 3, .inl v_settings))]) (w1 := []) hP hD [] [0, 1, 2] rfl rfl (by decide) (by decide) hk1 hFc (WLD.P hB.2.2 ht) hB.2.2.2
      have hP : va_P (dC, dI) vwCl [(h_p0, .inr (6, [.ref h_p0_train, .ref h_p0_history, .ref h_p0_text])), (h_p0_train, .inr (5, [.ref h_p0_train_berths, .ref h_p0_train_roster, .ref h_p0_train_settings, .int v_nextNumber, .int v_bookings, .int v_leftOut])), (h_p0_train_settings, .inl (cyI, 3, .inl v_settings))] H := hP
      have hD : va_D A [(h_p0, .inr (6, [.ref h_p0_train, .ref h_p0_history, .ref h_p0_text])), (h_p0_train, .inr (5, [.ref h_p0_train_berths, .ref h_p0_train_roster, .ref h_p0_train_settings, .int v_nextNumber, .int v_bookings, .int v_leftOut])), (h_p0_train_settings, .inl (cyI, 3, .inl v_settings))] := hD
      obtain rfl := Option.some.inj h
      exact vx_out (fun x hx9 => (hno x hx9).elim) hlocks hce hcv hcl (fun t ht _ => XWL.of2 hB.1 hB.2.1 hP hD hS ht) hS.2.2 (Nat.le_of_ble_eq_true rfl) (Nat.le_of_ble_eq_true rfl)) (fun u t H locs ht hvm hw hB hz1 hk1 hS => ?_)
  have h := ipos hw h
  obtain ⟨hP, hD⟩ := va_join (wr := [(h_p0, .inr (6, [.ref h_p0_train, .ref h_p0_history, .ref h_p0_text])), (h_p0_train, .inr (5, [.ref h_p0_train_berths, .ref h_p0_train_roster, .ref h_p0_train_settings, .int v_nextNumber, .int v_bookings, .int v_leftOut])), (h_p0_train_settings, .inl (cyI, 3, .inl v_settings))]) (w1 := []) hP hD [] [0, 1, 2] rfl rfl (by decide) (by decide) hk1 hFc (WLD.P hB ht) hB.2
  have hP : va_P (dC, dI) vwCl [(h_p0, .inr (6, [.ref h_p0_train, .ref h_p0_history, .ref h_p0_text])), (h_p0_train, .inr (5, [.ref h_p0_train_berths, .ref h_p0_train_roster, .ref h_p0_train_settings, .int v_nextNumber, .int v_bookings, .int v_leftOut])), (h_p0_train_settings, .inl (cyI, 3, .inl v_settings))] H := hP
  have hD : va_D A [(h_p0, .inr (6, [.ref h_p0_train, .ref h_p0_history, .ref h_p0_text])), (h_p0_train, .inr (5, [.ref h_p0_train_berths, .ref h_p0_train_roster, .ref h_p0_train_settings, .int v_nextNumber, .int v_bookings, .int v_leftOut])), (h_p0_train_settings, .inl (cyI, 3, .inl v_settings))] := hD
  refine lv_aload_n hx hb dX6_setting_4 rfl (lv_at hl 0 rfl) ?_
  refine va_get (D := (dC, dI)) (ci := 6) (v := .ref h_p0_train) (C := RX6) (T := TX6) (N := 3) hx hb hts m_X6_setting_0 hown hK hP 0 rfl rfl 0 (by decide) (hts (.fieldLink RX6 12 "SleeperBerths" "train" "LSleeperBerths$Train;") m_X6_setting_1) (fun _ h9 => h9) rfl dX6_setting_5 ?_
  refine va_get (D := (dC, dI)) (ci := 5) (v := .ref h_p0_train_settings) (C := RX5) (T := TX5) (N := 6) hx hb hts m_X6_setting_2 hown hK hP 1 rfl rfl 2 (by decide) (hts (.fieldLink RX6 146 "SleeperBerths$Train" "settings" "[I") m_X6_setting_3) (fun _ h9 => h9) rfl dX6_setting_8 ?_
  refine lv_iload_n hx hb dX6_setting_11 rfl (lv_at hl 1 rfl) ?_
  obtain ⟨r4, e5, h⟩ := bsome h
  have hPc := sb_P [(h_p0_train_settings, .inl (cyI, 3, .inl v_settings))] hP [2] rfl
  have hDc := sb_D [(h_p0_train_settings, .inl (cyI, 3, .inl v_settings))] hD [2] (by decide) rfl
  have hFc := va_free (wc := [(h_p0_train_settings, .inl (cyI, 3, .inl v_settings))]) hD hS hA [2] rfl
  refine va_calli (va_runS (As := [.ref h_p0_train_settings, .int a1]) (rest := []) ⟨hx, hb, hml, hown, hts⟩ (c_X6_read l dC dI cyI cyJ cyT h_p0_train_settings H.size 3 v_settings a1 r4 e5) (va_cwS 2 hts gX6_setting_X6_read rfl rfl rfl (by decide +kernel) ⟨Nat.le_of_ble_eq_true rfl, Nat.le_of_ble_eq_true rfl⟩) ⟨PRE.blind, PRE.go hK hPc hDc hNW⟩ rfl rfl hl.1 rfl (lv_room (Nat.le_of_ble_eq_true rfl)) dX6_setting_12 ⟨(Nat.le_of_ble_eq_true rfl), (Nat.le_of_ble_eq_true rfl)⟩) hS (fun q _ h => hFc q h) hFc (fun z6 u t H locs ht hvm hw hB hz1 hk1 hS => ?_)
  subst z6
  obtain ⟨hP, hD⟩ := va_join (wr := [(h_p0, .inr (6, [.ref h_p0_train, .ref h_p0_history, .ref h_p0_text])), (h_p0_train, .inr (5, [.ref h_p0_train_berths, .ref h_p0_train_roster, .ref h_p0_train_settings, .int v_nextNumber, .int v_bookings, .int v_leftOut]))]) (w1 := [(h_p0_train_settings, .inl (cyI, 3, .inl v_settings))]) hP hD [2] [0, 1] rfl rfl (by decide) (by decide) hk1 hFc (WLD.P hB ht) hB.2
  have hP : va_P (dC, dI) vwCl [(h_p0, .inr (6, [.ref h_p0_train, .ref h_p0_history, .ref h_p0_text])), (h_p0_train, .inr (5, [.ref h_p0_train_berths, .ref h_p0_train_roster, .ref h_p0_train_settings, .int v_nextNumber, .int v_bookings, .int v_leftOut])), (h_p0_train_settings, .inl (cyI, 3, .inl v_settings))] H := hP
  have hD : va_D A [(h_p0, .inr (6, [.ref h_p0_train, .ref h_p0_history, .ref h_p0_text])), (h_p0_train, .inr (5, [.ref h_p0_train_berths, .ref h_p0_train_roster, .ref h_p0_train_settings, .int v_nextNumber, .int v_bookings, .int v_leftOut])), (h_p0_train_settings, .inl (cyI, 3, .inl v_settings))] := hD
  obtain rfl := Option.some.inj h
  refine W.widen (k := 1) (n := 6) (Nat.le_of_ble_eq_true rfl) (Nat.le_of_ble_eq_true rfl) ?_
  refine vx_ret ?_
  exact W.iret (v := r4) hx hb hr (fun t ht hW => ⟨⟨r4, (), rfl, ⟨rfl, rfl⟩, WLD.of ht hP hD⟩, hS.F ht⟩) hS.2.2 dX6_setting_15
def s_X2_middle (v_changeAt : Int32) (a1 : Int32) : Option (Int32) := (if v_changeAt = iI (-1) then (some (a1)) else (some (v_changeAt)))
set_option maxRecDepth 20000 in
theorem m_X2_middle_0 : ∀ w ∈ u_ws RX2 TX2 3, w ∈ wsX2_middle := by decide +kernel
set_option maxRecDepth 20000 in
theorem m_X2_middle_1 : (.fieldLink RX2 18 "SleeperBerths$Offer" "changeAt" "I" : Cond) ∈ wsX2_middle := by decide +kernel
set_option maxHeartbeats 4000000 in
set_option maxRecDepth 100000 in
theorem c_X2_middle (l : Launch) (dC : Nat → ClassId) (dI : Nat → Nat → Nat) (cyI cyJ cyT : ClassId) (h_p0 : Nat) (sz : Nat) (v_first : Int32) (v_last : Int32) (v_changeAt : Int32) (a1 : Int32) (o : Int32) (h : s_X2_middle v_changeAt a1 = some o) : Met l yX2_middle wsX2_middle ({ frames := 0, cells := 0, slots := 0, locals := 0 }) (va_Pc [.ref h_p0, .int a1] (PRE (dC, dI) (TYS cyI cyJ cyT) sz [(h_p0, .inr (2, [.int v_first, .int v_last, .int v_changeAt]))])) (va_Qi (S := Unit) (fun r _ => r = o) (fun _ t => WLD (dC, dI) (va_A [(h_p0, .inr (2, [.int v_first, .int v_last, .int v_changeAt]))] sz) [(h_p0, .inr (2, [.int v_first, .int v_last, .int v_changeAt]))] t) (va_A [(h_p0, .inr (2, [.int v_first, .int v_last, .int v_changeAt]))] sz)) 0 0 (va_A [(h_p0, .inr (2, [.int v_first, .int v_last, .int v_changeAt]))] sz) := by
  refine Met.ofW (cc := cX2_middle) (maxL := 2) (ret := (some .int)) (by decide) rfl ?_
  intro p e s m args below meth c s₁ B hml hv
  obtain ⟨rfl, hsz, hP, hK, hD0, hNW⟩ := hv
  have hx := B.exec
  have hb := B.bytes
  have hr := B.returns
  have hts := atoms_spec (ws := wsX2_middle) B.pre
  have hown : s.vm.findClass RX2 = some m.cls := findClass_of_methodNamed B.named
  have hlocks := B.notSynchronized
  subst hsz
  have hD := hD0.self (sz := s.heap.size)
  generalize hAe : va_A [(h_p0, .inr (2, [.int v_first, .int v_last, .int v_changeAt]))] s.heap.size = A at hD ⊢
  have hA : ∀ q : Nat, s.heap.size ≤ q → A q := fun q h => by rw [← hAe]; exact Or.inr h
  have hS : va_S A s.heap s.heap [] := va_S.rf
  have hP : va_P (dC, dI) vwCl [(h_p0, .inr (2, [.int v_first, .int v_last, .int v_changeAt]))] s.heap := hP
  have hl := lv_entry ([.ref h_p0, .int a1]) (n := 2) (Nat.le_of_ble_eq_true rfl)
  rw [lg_entry_eq]
  generalize (lg_sl ([.ref h_p0, .int a1]) ++ List.replicate (2 - (lg_sl ([.ref h_p0, .int a1])).length) Slot.unset).toArray = ls at hl ⊢
  have hl : lv_has ls 2 [(0, .ref h_p0), (1, .int a1)] := hl
  unfold s_X2_middle at h
  refine lv_aload_n hx hb dX2_middle_0 rfl (lv_at hl 0 rfl) ?_
  refine va_get (D := (dC, dI)) (ci := 2) (v := .int v_changeAt) (C := RX2) (T := TX2) (N := 3) hx hb hts m_X2_middle_0 hown hK hP 0 rfl rfl 2 (by decide) (hts (.fieldLink RX2 18 "SleeperBerths$Offer" "changeAt" "I") m_X2_middle_1) (fun _ h9 => h9) rfl dX2_middle_1 ?_
  refine lv_iconst (v := iI (-1)) hx hb dX2_middle_4 rfl ?_
  refine lv_icmp_ne (tgt := 12) hx hb dX2_middle_5 (by decide) (fun c1 => ?_) (fun c1 => ?_)
  · have h := ineg c1 h
    refine lv_aload_n hx hb dX2_middle_12 rfl (lv_at hl 0 rfl) ?_
    refine va_get (D := (dC, dI)) (ci := 2) (v := .int v_changeAt) (C := RX2) (T := TX2) (N := 3) hx hb hts m_X2_middle_0 hown hK hP 0 rfl rfl 2 (by decide) (hts (.fieldLink RX2 18 "SleeperBerths$Offer" "changeAt" "I") m_X2_middle_1) (fun _ h9 => h9) rfl dX2_middle_13 ?_
    obtain rfl := Option.some.inj h
    exact W.iret (v := v_changeAt) hx hb hr (fun t ht hW => ⟨⟨v_changeAt, (), rfl, rfl, WLD.of ht hP hD⟩, hS.F ht⟩) hS.2.2 dX2_middle_16
  · have h := ipos c1 h
    refine lv_iload_n hx hb dX2_middle_8 rfl (lv_at hl 1 rfl) ?_
    refine lv_goto (tgt := 16) hx hb dX2_middle_9 (by decide) ?_
    obtain rfl := Option.some.inj h
    exact W.iret (v := a1) hx hb hr (fun t ht hW => ⟨⟨a1, (), rfl, rfl, WLD.of ht hP hD⟩, hS.F ht⟩) hS.2.2 dX2_middle_16
def s_X6_tell (n : Nat) (v_holders : Nat → Int32) (v_first_1 : Int32) (v_last_1 : Int32) (v_changeAt_1 : Int32) (a2 : Int32) (a3 : Int32) (a4 : Int32) : Option (Int32) := ((s_X2_isRefused v_first_1).bind fun r1 => (if r1 = 0 then (if a4 = iI 0 then (if v_changeAt_1 = iI (-1) then (some (iI 1)) else (some (iI 2))) else (if a4 = iI 1 then (some (v_first_1)) else (if a4 = iI 2 then (some (v_changeAt_1)) else ((s_X2_middle v_changeAt_1 a3).bind fun r9 => ((s_X0_wokenIn n v_holders v_first_1 a2 r9).bind fun r12 => ((s_X2_middle v_changeAt_1 a3).bind fun r15 => ((s_X0_wokenIn n v_holders v_last_1 r15 a3).bind fun r18 => (some ((r12 + r18)))))))))) else (if a4 = 0 then (some (iI 0)) else (some (iI (-1))))))
set_option maxRecDepth 20000 in
theorem m_X6_tell_0 : ∀ w ∈ u_ws RX2 TX2 3, w ∈ wsX6_tell := by decide +kernel
set_option maxRecDepth 20000 in
theorem m_X6_tell_1 : (.fieldLink RX6 285 "SleeperBerths$Offer" "changeAt" "I" : Cond) ∈ wsX6_tell := by decide +kernel
set_option maxRecDepth 20000 in
theorem m_X6_tell_2 : (.fieldLink RX6 288 "SleeperBerths$Offer" "first" "I" : Cond) ∈ wsX6_tell := by decide +kernel
set_option maxRecDepth 20000 in
theorem m_X6_tell_3 : ∀ w ∈ u_ws RX6 TX6 3, w ∈ wsX6_tell := by decide +kernel
set_option maxRecDepth 20000 in
theorem m_X6_tell_4 : (.fieldLink RX6 12 "SleeperBerths" "train" "LSleeperBerths$Train;" : Cond) ∈ wsX6_tell := by decide +kernel
set_option maxRecDepth 20000 in
theorem m_X6_tell_5 : ∀ w ∈ u_ws RX5 TX5 6, w ∈ wsX6_tell := by decide +kernel
set_option maxRecDepth 20000 in
theorem m_X6_tell_6 : (.fieldLink RX6 121 "SleeperBerths$Train" "berths" "LSleeperBerths$Berths;" : Cond) ∈ wsX6_tell := by decide +kernel
set_option maxRecDepth 20000 in
theorem m_X6_tell_7 : (.fieldLink RX6 298 "SleeperBerths$Offer" "last" "I" : Cond) ∈ wsX6_tell := by decide +kernel
set_option maxHeartbeats 4000000 in
set_option maxRecDepth 100000 in
theorem c_X6_tell (l : Launch) (dC : Nat → ClassId) (dI : Nat → Nat → Nat) (cyI cyJ cyT : ClassId) (h_p0 : Nat) (h_p0_train : Nat) (h_p0_history : Nat) (h_p0_text : Nat) (h_p0_train_berths : Nat) (h_p0_train_roster : Nat) (h_p0_train_settings : Nat) (h_p0_train_berths_holders : Nat) (h_p0_train_berths_ends : Nat) (h_p1 : Nat) (sz : Nat) (v_nextNumber : Int32) (v_bookings : Int32) (v_leftOut : Int32) (v_holders : Nat → Int32) (v_first_1 : Int32) (v_last_1 : Int32) (v_changeAt_1 : Int32) (a2 : Int32) (a3 : Int32) (a4 : Int32) (n : Nat) (o : Int32) (h : s_X6_tell n v_holders v_first_1 v_last_1 v_changeAt_1 a2 a3 a4 = some o) : Met l yX6_tell wsX6_tell ({ frames := 1, cells := 0, slots := 0, locals := 27 }) (va_Pc [.ref h_p0, .ref h_p1, .int a2, .int a3, .int a4] (PRE (dC, dI) (TYS cyI cyJ cyT) sz [(h_p0, .inr (6, [.ref h_p0_train, .ref h_p0_history, .ref h_p0_text])), (h_p0_train, .inr (5, [.ref h_p0_train_berths, .ref h_p0_train_roster, .ref h_p0_train_settings, .int v_nextNumber, .int v_bookings, .int v_leftOut])), (h_p0_train_berths, .inr (0, [.ref h_p0_train_berths_holders, .ref h_p0_train_berths_ends])), (h_p0_train_berths_holders, .inl (cyI, 162, .inl v_holders)), (h_p1, .inr (2, [.int v_first_1, .int v_last_1, .int v_changeAt_1]))])) (va_Qi (S := Unit) (fun r _ => r = o) (fun _ t => WLD (dC, dI) (va_A [(h_p0, .inr (6, [.ref h_p0_train, .ref h_p0_history, .ref h_p0_text])), (h_p0_train, .inr (5, [.ref h_p0_train_berths, .ref h_p0_train_roster, .ref h_p0_train_settings, .int v_nextNumber, .int v_bookings, .int v_leftOut])), (h_p0_train_berths, .inr (0, [.ref h_p0_train_berths_holders, .ref h_p0_train_berths_ends])), (h_p0_train_berths_holders, .inl (cyI, 162, .inl v_holders)), (h_p1, .inr (2, [.int v_first_1, .int v_last_1, .int v_changeAt_1]))] sz) [(h_p0, .inr (6, [.ref h_p0_train, .ref h_p0_history, .ref h_p0_text])), (h_p0_train, .inr (5, [.ref h_p0_train_berths, .ref h_p0_train_roster, .ref h_p0_train_settings, .int v_nextNumber, .int v_bookings, .int v_leftOut])), (h_p0_train_berths, .inr (0, [.ref h_p0_train_berths_holders, .ref h_p0_train_berths_ends])), (h_p0_train_berths_holders, .inl (cyI, 162, .inl v_holders)), (h_p1, .inr (2, [.int v_first_1, .int v_last_1, .int v_changeAt_1]))] t) (va_A [(h_p0, .inr (6, [.ref h_p0_train, .ref h_p0_history, .ref h_p0_text])), (h_p0_train, .inr (5, [.ref h_p0_train_berths, .ref h_p0_train_roster, .ref h_p0_train_settings, .int v_nextNumber, .int v_bookings, .int v_leftOut])), (h_p0_train_berths, .inr (0, [.ref h_p0_train_berths_holders, .ref h_p0_train_berths_ends])), (h_p0_train_berths_holders, .inl (cyI, 162, .inl v_holders)), (h_p1, .inr (2, [.int v_first_1, .int v_last_1, .int v_changeAt_1]))] sz)) 0 0 (va_A [(h_p0, .inr (6, [.ref h_p0_train, .ref h_p0_history, .ref h_p0_text])), (h_p0_train, .inr (5, [.ref h_p0_train_berths, .ref h_p0_train_roster, .ref h_p0_train_settings, .int v_nextNumber, .int v_bookings, .int v_leftOut])), (h_p0_train_berths, .inr (0, [.ref h_p0_train_berths_holders, .ref h_p0_train_berths_ends])), (h_p0_train_berths_holders, .inl (cyI, 162, .inl v_holders)), (h_p1, .inr (2, [.int v_first_1, .int v_last_1, .int v_changeAt_1]))] sz) := by
  refine Met.ofW (cc := cX6_tell) (maxL := 5) (ret := (some .int)) (by decide) rfl ?_
  intro p e s m args below meth c s₁ B hml hv
  obtain ⟨rfl, hsz, hP, hK, hD0, hNW⟩ := hv
  have hx := B.exec
  have hb := B.bytes
  have hr := B.returns
  have hts := atoms_spec (ws := wsX6_tell) B.pre
  have hown : s.vm.findClass RX6 = some m.cls := findClass_of_methodNamed B.named
  have hlocks := B.notSynchronized
  subst hsz
  have hD := hD0.self (sz := s.heap.size)
  generalize hAe : va_A [(h_p0, .inr (6, [.ref h_p0_train, .ref h_p0_history, .ref h_p0_text])), (h_p0_train, .inr (5, [.ref h_p0_train_berths, .ref h_p0_train_roster, .ref h_p0_train_settings, .int v_nextNumber, .int v_bookings, .int v_leftOut])), (h_p0_train_berths, .inr (0, [.ref h_p0_train_berths_holders, .ref h_p0_train_berths_ends])), (h_p0_train_berths_holders, .inl (cyI, 162, .inl v_holders)), (h_p1, .inr (2, [.int v_first_1, .int v_last_1, .int v_changeAt_1]))] s.heap.size = A at hD ⊢
  have hA : ∀ q : Nat, s.heap.size ≤ q → A q := fun q h => by rw [← hAe]; exact Or.inr h
  have hS : va_S A s.heap s.heap [] := va_S.rf
  have hP : va_P (dC, dI) vwCl [(h_p0, .inr (6, [.ref h_p0_train, .ref h_p0_history, .ref h_p0_text])), (h_p0_train, .inr (5, [.ref h_p0_train_berths, .ref h_p0_train_roster, .ref h_p0_train_settings, .int v_nextNumber, .int v_bookings, .int v_leftOut])), (h_p0_train_berths, .inr (0, [.ref h_p0_train_berths_holders, .ref h_p0_train_berths_ends])), (h_p0_train_berths_holders, .inl (cyI, 162, .inl v_holders)), (h_p1, .inr (2, [.int v_first_1, .int v_last_1, .int v_changeAt_1]))] s.heap := hP
  have hl := lv_entry ([.ref h_p0, .ref h_p1, .int a2, .int a3, .int a4]) (n := 5) (Nat.le_of_ble_eq_true rfl)
  rw [lg_entry_eq]
  generalize (lg_sl ([.ref h_p0, .ref h_p1, .int a2, .int a3, .int a4]) ++ List.replicate (5 - (lg_sl ([.ref h_p0, .ref h_p1, .int a2, .int a3, .int a4])).length) Slot.unset).toArray = ls at hl ⊢
  have hl : lv_has ls 5 [(0, .ref h_p0), (1, .ref h_p1), (2, .int a2), (3, .int a3), (4, .int a4)] := hl
  unfold s_X6_tell at h
  refine lv_aload_n hx hb dX6_tell_0 rfl (lv_at hl 1 rfl) ?_
  obtain ⟨r1, e2, h⟩ := bsome h
  have hPc := sb_P [(h_p1, .inr (2, [.int v_first_1, .int v_last_1, .int v_changeAt_1]))] hP [4] rfl
  have hDc := sb_D [(h_p1, .inr (2, [.int v_first_1, .int v_last_1, .int v_changeAt_1]))] hD [4] (by decide) rfl
  have hFc := va_free (wc := [(h_p1, .inr (2, [.int v_first_1, .int v_last_1, .int v_changeAt_1]))]) hD hS hA [4] rfl
  refine va_calli (va_runV (As := []) (rest := []) ⟨hx, hb, hml, hown, hts⟩ (c_X2_isRefused l dC dI cyI cyJ cyT h_p1 s.heap.size v_first_1 v_last_1 v_changeAt_1 r1 e2) (cwV 0 hts gX6_tell_X2_isRefused rfl rfl rfl (by decide +kernel) ⟨Nat.le_of_ble_eq_true rfl, Nat.le_of_ble_eq_true rfl⟩) ⟨PRE.blind, va_recv hK hPc (ci := 2) (q0 := 0) rfl rfl, PRE.go hK hPc hDc hNW⟩ rfl rfl hl.1 rfl (lv_room (Nat.le_of_ble_eq_true rfl)) dX6_tell_1 ⟨Nat.zero_le _, Nat.zero_le _⟩) hS (fun q _ h => hFc q h) hFc (fun z3 u t H locs ht hvm hw hB hz1 hk1 hS => ?_)
  subst z3
  obtain ⟨hP, hD⟩ := va_join (wr := [(h_p0, .inr (6, [.ref h_p0_train, .ref h_p0_history, .ref h_p0_text])), (h_p0_train, .inr (5, [.ref h_p0_train_berths, .ref h_p0_train_roster, .ref h_p0_train_settings, .int v_nextNumber, .int v_bookings, .int v_leftOut])), (h_p0_train_berths, .inr (0, [.ref h_p0_train_berths_holders, .ref h_p0_train_berths_ends])), (h_p0_train_berths_holders, .inl (cyI, 162, .inl v_holders))]) (w1 := [(h_p1, .inr (2, [.int v_first_1, .int v_last_1, .int v_changeAt_1]))]) hP hD [4] [0, 1, 2, 3] rfl rfl (by decide) (by decide) hk1 hFc (WLD.P hB ht) hB.2
  have hP : va_P (dC, dI) vwCl [(h_p0, .inr (6, [.ref h_p0_train, .ref h_p0_history, .ref h_p0_text])), (h_p0_train, .inr (5, [.ref h_p0_train_berths, .ref h_p0_train_roster, .ref h_p0_train_settings, .int v_nextNumber, .int v_bookings, .int v_leftOut])), (h_p0_train_berths, .inr (0, [.ref h_p0_train_berths_holders, .ref h_p0_train_berths_ends])), (h_p0_train_berths_holders, .inl (cyI, 162, .inl v_holders)), (h_p1, .inr (2, [.int v_first_1, .int v_last_1, .int v_changeAt_1]))] H := hP
  have hD : va_D A [(h_p0, .inr (6, [.ref h_p0_train, .ref h_p0_history, .ref h_p0_text])), (h_p0_train, .inr (5, [.ref h_p0_train_berths, .ref h_p0_train_roster, .ref h_p0_train_settings, .int v_nextNumber, .int v_bookings, .int v_leftOut])), (h_p0_train_berths, .inr (0, [.ref h_p0_train_berths_holders, .ref h_p0_train_berths_ends])), (h_p0_train_berths_holders, .inl (cyI, 162, .inl v_holders)), (h_p1, .inr (2, [.int v_first_1, .int v_last_1, .int v_changeAt_1]))] := hD
  refine lv_if_eq (tgt := 18) hx hb dX6_tell_4 (by decide) (fun c4 => ?_) (fun c4 => ?_)
  · have h := ipos c4 h
    refine lv_iload hx hb dX6_tell_18 (lv_at hl 4 rfl) ?_
    by_cases c5 : a4 = iI 0
    · have h := ipos c5 h
      refine lv_tableIn (tgt := 48) (off := 28) hx hb dX6_tell_20 (by rw [c5]; decide) (by rw [c5]; decide) (by rw [c5]; rfl) (by decide) ?_
      refine lv_aload_n hx hb dX6_tell_48 rfl (lv_at hl 1 rfl) ?_
      refine va_get (D := (dC, dI)) (ci := 2) (v := .int v_changeAt_1) (C := RX2) (T := TX2) (N := 3) hx hb hts m_X6_tell_0 hown hK hP 4 rfl rfl 2 (by decide) (hts (.fieldLink RX6 285 "SleeperBerths$Offer" "changeAt" "I") m_X6_tell_1) (fun _ h9 => h9) rfl dX6_tell_49 ?_
      refine lv_iconst (v := iI (-1)) hx hb dX6_tell_52 rfl ?_
      refine lv_icmp_ne (tgt := 60) hx hb dX6_tell_53 (by decide) (fun c6 => ?_) (fun c6 => ?_)
      · have h := ineg c6 h
        refine lv_iconst (v := iI 2) hx hb dX6_tell_60 rfl ?_
        obtain rfl := Option.some.inj h
        exact W.iret (v := iI 2) hx hb hr (fun t ht hW => ⟨⟨iI 2, (), rfl, rfl, WLD.of ht hP hD⟩, hS.F ht⟩) hS.2.2 dX6_tell_61
      · have h := ipos c6 h
        refine lv_iconst (v := iI 1) hx hb dX6_tell_56 rfl ?_
        refine lv_goto (tgt := 61) hx hb dX6_tell_57 (by decide) ?_
        obtain rfl := Option.some.inj h
        exact W.iret (v := iI 1) hx hb hr (fun t ht hW => ⟨⟨iI 1, (), rfl, rfl, WLD.of ht hP hD⟩, hS.F ht⟩) hS.2.2 dX6_tell_61
    · have h := ineg c5 h
      by_cases c7 : a4 = iI 1
      · have h := ipos c7 h
        refine lv_tableIn (tgt := 62) (off := 42) hx hb dX6_tell_20 (by rw [c7]; decide) (by rw [c7]; decide) (by rw [c7]; rfl) (by decide) ?_
        refine lv_aload_n hx hb dX6_tell_62 rfl (lv_at hl 1 rfl) ?_
        refine va_get (D := (dC, dI)) (ci := 2) (v := .int v_first_1) (C := RX2) (T := TX2) (N := 3) hx hb hts m_X6_tell_0 hown hK hP 4 rfl rfl 0 (by decide) (hts (.fieldLink RX6 288 "SleeperBerths$Offer" "first" "I") m_X6_tell_2) (fun _ h9 => h9) rfl dX6_tell_63 ?_
        obtain rfl := Option.some.inj h
        exact W.iret (v := v_first_1) hx hb hr (fun t ht hW => ⟨⟨v_first_1, (), rfl, rfl, WLD.of ht hP hD⟩, hS.F ht⟩) hS.2.2 dX6_tell_66
      · have h := ineg c7 h
        by_cases c8 : a4 = iI 2
        · have h := ipos c8 h
          refine lv_tableIn (tgt := 67) (off := 47) hx hb dX6_tell_20 (by rw [c8]; decide) (by rw [c8]; decide) (by rw [c8]; rfl) (by decide) ?_
          refine lv_aload_n hx hb dX6_tell_67 rfl (lv_at hl 1 rfl) ?_
          refine va_get (D := (dC, dI)) (ci := 2) (v := .int v_changeAt_1) (C := RX2) (T := TX2) (N := 3) hx hb hts m_X6_tell_0 hown hK hP 4 rfl rfl 2 (by decide) (hts (.fieldLink RX6 285 "SleeperBerths$Offer" "changeAt" "I") m_X6_tell_1) (fun _ h9 => h9) rfl dX6_tell_68 ?_
          obtain rfl := Option.some.inj h
          exact W.iret (v := v_changeAt_1) hx hb hr (fun t ht hW => ⟨⟨v_changeAt_1, (), rfl, rfl, WLD.of ht hP hD⟩, hS.F ht⟩) hS.2.2 dX6_tell_71
        · have h := ineg c8 h
          refine lv_tableOut (tgt := 72) hx hb dX6_tell_20 (tsw_out 0 2 (fun k h1 h2 => by rcases (show k = 0 ∨ k = 1 ∨ k = 2 by omega) with rfl | rfl | rfl <;> assumption)) (by decide) ?_
          refine lv_aload_n hx hb dX6_tell_72 rfl (lv_at hl 0 rfl) ?_
          refine va_get (D := (dC, dI)) (ci := 6) (v := .ref h_p0_train) (C := RX6) (T := TX6) (N := 3) hx hb hts m_X6_tell_3 hown hK hP 0 rfl rfl 0 (by decide) (hts (.fieldLink RX6 12 "SleeperBerths" "train" "LSleeperBerths$Train;") m_X6_tell_4) (fun _ h9 => h9) rfl dX6_tell_73 ?_
          refine va_get (D := (dC, dI)) (ci := 5) (v := .ref h_p0_train_berths) (C := RX5) (T := TX5) (N := 6) hx hb hts m_X6_tell_5 hown hK hP 1 rfl rfl 0 (by decide) (hts (.fieldLink RX6 121 "SleeperBerths$Train" "berths" "LSleeperBerths$Berths;") m_X6_tell_6) (fun _ h9 => h9) rfl dX6_tell_76 ?_
          refine lv_aload_n hx hb dX6_tell_79 rfl (lv_at hl 1 rfl) ?_
          refine va_get (D := (dC, dI)) (ci := 2) (v := .int v_first_1) (C := RX2) (T := TX2) (N := 3) hx hb hts m_X6_tell_0 hown hK hP 4 rfl rfl 0 (by decide) (hts (.fieldLink RX6 288 "SleeperBerths$Offer" "first" "I") m_X6_tell_2) (fun _ h9 => h9) rfl dX6_tell_80 ?_
          refine lv_iload_n hx hb dX6_tell_83 rfl (lv_at hl 2 rfl) ?_
          refine lv_aload_n hx hb dX6_tell_84 rfl (lv_at hl 1 rfl) ?_
          refine lv_iload_n hx hb dX6_tell_85 rfl (lv_at hl 3 rfl) ?_
          obtain ⟨r9, e10, h⟩ := bsome h
          have hPc := sb_P [(h_p1, .inr (2, [.int v_first_1, .int v_last_1, .int v_changeAt_1]))] hP [4] rfl
          have hDc := sb_D [(h_p1, .inr (2, [.int v_first_1, .int v_last_1, .int v_changeAt_1]))] hD [4] (by decide) rfl
          have hFc := va_free (wc := [(h_p1, .inr (2, [.int v_first_1, .int v_last_1, .int v_changeAt_1]))]) hD hS hA [4] rfl
          refine va_calli (va_runV (As := [.int a3]) (rest := [.int a2, .int v_first_1, .ref h_p0_train_berths]) ⟨hx, hb, hml, hown, hts⟩ (c_X2_middle l dC dI cyI cyJ cyT h_p1 H.size v_first_1 v_last_1 v_changeAt_1 a3 r9 e10) (cwV 1 hts gX6_tell_X2_middle rfl rfl rfl (by decide +kernel) ⟨Nat.le_of_ble_eq_true rfl, Nat.le_of_ble_eq_true rfl⟩) ⟨PRE.blind, va_recv hK hPc (ci := 2) (q0 := 0) rfl rfl, PRE.go hK hPc hDc hNW⟩ rfl rfl hl.1 rfl (lv_room (Nat.le_of_ble_eq_true rfl)) dX6_tell_86 ⟨Nat.zero_le _, Nat.zero_le _⟩) hS (fun q _ h => hFc q h) hFc (fun z11 u t H locs ht hvm hw hB hz1 hk1 hS => ?_)
          subst z11
          obtain ⟨hP, hD⟩ := va_join (wr := [(h_p0, .inr (6, [.ref h_p0_train, .ref h_p0_history, .ref h_p0_text])), (h_p0_train, .inr (5, [.ref h_p0_train_berths, .ref h_p0_train_roster, .ref h_p0_train_settings, .int v_nextNumber, .int v_bookings, .int v_leftOut])), (h_p0_train_berths, .inr (0, [.ref h_p0_train_berths_holders, .ref h_p0_train_berths_ends])), (h_p0_train_berths_holders, .inl (cyI, 162, .inl v_holders))]) (w1 := [(h_p1, .inr (2, [.int v_first_1, .int v_last_1, .int v_changeAt_1]))]) hP hD [4] [0, 1, 2, 3] rfl rfl (by decide) (by decide) hk1 hFc (WLD.P hB ht) hB.2
          have hP : va_P (dC, dI) vwCl [(h_p0, .inr (6, [.ref h_p0_train, .ref h_p0_history, .ref h_p0_text])), (h_p0_train, .inr (5, [.ref h_p0_train_berths, .ref h_p0_train_roster, .ref h_p0_train_settings, .int v_nextNumber, .int v_bookings, .int v_leftOut])), (h_p0_train_berths, .inr (0, [.ref h_p0_train_berths_holders, .ref h_p0_train_berths_ends])), (h_p0_train_berths_holders, .inl (cyI, 162, .inl v_holders)), (h_p1, .inr (2, [.int v_first_1, .int v_last_1, .int v_changeAt_1]))] H := hP
          have hD : va_D A [(h_p0, .inr (6, [.ref h_p0_train, .ref h_p0_history, .ref h_p0_text])), (h_p0_train, .inr (5, [.ref h_p0_train_berths, .ref h_p0_train_roster, .ref h_p0_train_settings, .int v_nextNumber, .int v_bookings, .int v_leftOut])), (h_p0_train_berths, .inr (0, [.ref h_p0_train_berths_holders, .ref h_p0_train_berths_ends])), (h_p0_train_berths_holders, .inl (cyI, 162, .inl v_holders)), (h_p1, .inr (2, [.int v_first_1, .int v_last_1, .int v_changeAt_1]))] := hD
          obtain ⟨r12, e13, h⟩ := bsome h
          have hPc := sb_P [(h_p0_train_berths, .inr (0, [.ref h_p0_train_berths_holders, .ref h_p0_train_berths_ends])), (h_p0_train_berths_holders, .inl (cyI, 162, .inl v_holders))] hP [2, 3] rfl
          have hDc := sb_D [(h_p0_train_berths, .inr (0, [.ref h_p0_train_berths_holders, .ref h_p0_train_berths_ends])), (h_p0_train_berths_holders, .inl (cyI, 162, .inl v_holders))] hD [2, 3] (by decide) rfl
          have hFc := va_free (wc := [(h_p0_train_berths, .inr (0, [.ref h_p0_train_berths_holders, .ref h_p0_train_berths_ends])), (h_p0_train_berths_holders, .inl (cyI, 162, .inl v_holders))]) hD hS hA [2, 3] rfl
          refine va_calli (va_runV (As := [.int v_first_1, .int a2, .int r9]) (rest := []) ⟨hx, hb, hml, hown, hts⟩ (c_X0_wokenIn l dC dI cyI cyJ cyT h_p0_train_berths h_p0_train_berths_holders h_p0_train_berths_ends H.size v_holders v_first_1 a2 r9 n r12 e13) (cwV 3 hts gX6_tell_X0_wokenIn rfl rfl rfl (by decide +kernel) ⟨Nat.le_of_ble_eq_true rfl, Nat.le_of_ble_eq_true rfl⟩) ⟨PRE.blind, va_recv hK hPc (ci := 0) (q0 := 0) rfl rfl, PRE.go hK hPc hDc hNW⟩ rfl rfl hl.1 rfl (lv_room (Nat.le_of_ble_eq_true rfl)) dX6_tell_89 ⟨Nat.zero_le _, Nat.zero_le _⟩) hS (fun q _ h => hFc q h) hFc (fun z14 u t H locs ht hvm hw hB hz1 hk1 hS => ?_)
          subst z14
          obtain ⟨hP, hD⟩ := va_join (wr := [(h_p0, .inr (6, [.ref h_p0_train, .ref h_p0_history, .ref h_p0_text])), (h_p0_train, .inr (5, [.ref h_p0_train_berths, .ref h_p0_train_roster, .ref h_p0_train_settings, .int v_nextNumber, .int v_bookings, .int v_leftOut])), (h_p1, .inr (2, [.int v_first_1, .int v_last_1, .int v_changeAt_1]))]) (w1 := [(h_p0_train_berths, .inr (0, [.ref h_p0_train_berths_holders, .ref h_p0_train_berths_ends])), (h_p0_train_berths_holders, .inl (cyI, 162, .inl v_holders))]) hP hD [2, 3] [0, 1, 4] rfl rfl (by decide) (by decide) hk1 hFc (WLD.P hB ht) hB.2
          have hP : va_P (dC, dI) vwCl [(h_p0, .inr (6, [.ref h_p0_train, .ref h_p0_history, .ref h_p0_text])), (h_p0_train, .inr (5, [.ref h_p0_train_berths, .ref h_p0_train_roster, .ref h_p0_train_settings, .int v_nextNumber, .int v_bookings, .int v_leftOut])), (h_p1, .inr (2, [.int v_first_1, .int v_last_1, .int v_changeAt_1])), (h_p0_train_berths, .inr (0, [.ref h_p0_train_berths_holders, .ref h_p0_train_berths_ends])), (h_p0_train_berths_holders, .inl (cyI, 162, .inl v_holders))] H := hP
          have hD : va_D A [(h_p0, .inr (6, [.ref h_p0_train, .ref h_p0_history, .ref h_p0_text])), (h_p0_train, .inr (5, [.ref h_p0_train_berths, .ref h_p0_train_roster, .ref h_p0_train_settings, .int v_nextNumber, .int v_bookings, .int v_leftOut])), (h_p1, .inr (2, [.int v_first_1, .int v_last_1, .int v_changeAt_1])), (h_p0_train_berths, .inr (0, [.ref h_p0_train_berths_holders, .ref h_p0_train_berths_ends])), (h_p0_train_berths_holders, .inl (cyI, 162, .inl v_holders))] := hD
          refine lv_aload_n hx hb dX6_tell_92 rfl (lv_at hl 0 rfl) ?_
          refine va_get (D := (dC, dI)) (ci := 6) (v := .ref h_p0_train) (C := RX6) (T := TX6) (N := 3) hx hb hts m_X6_tell_3 hown hK hP 0 rfl rfl 0 (by decide) (hts (.fieldLink RX6 12 "SleeperBerths" "train" "LSleeperBerths$Train;") m_X6_tell_4) (fun _ h9 => h9) rfl dX6_tell_93 ?_
          refine va_get (D := (dC, dI)) (ci := 5) (v := .ref h_p0_train_berths) (C := RX5) (T := TX5) (N := 6) hx hb hts m_X6_tell_5 hown hK hP 1 rfl rfl 0 (by decide) (hts (.fieldLink RX6 121 "SleeperBerths$Train" "berths" "LSleeperBerths$Berths;") m_X6_tell_6) (fun _ h9 => h9) rfl dX6_tell_96 ?_
          refine lv_aload_n hx hb dX6_tell_99 rfl (lv_at hl 1 rfl) ?_
          refine va_get (D := (dC, dI)) (ci := 2) (v := .int v_last_1) (C := RX2) (T := TX2) (N := 3) hx hb hts m_X6_tell_0 hown hK hP 2 rfl rfl 1 (by decide) (hts (.fieldLink RX6 298 "SleeperBerths$Offer" "last" "I") m_X6_tell_7) (fun _ h9 => h9) rfl dX6_tell_100 ?_
          refine lv_aload_n hx hb dX6_tell_103 rfl (lv_at hl 1 rfl) ?_
          refine lv_iload_n hx hb dX6_tell_104 rfl (lv_at hl 3 rfl) ?_
          obtain ⟨r15, e16, h⟩ := bsome h
          have hPc := sb_P [(h_p1, .inr (2, [.int v_first_1, .int v_last_1, .int v_changeAt_1]))] hP [2] rfl
          have hDc := sb_D [(h_p1, .inr (2, [.int v_first_1, .int v_last_1, .int v_changeAt_1]))] hD [2] (by decide) rfl
          have hFc := va_free (wc := [(h_p1, .inr (2, [.int v_first_1, .int v_last_1, .int v_changeAt_1]))]) hD hS hA [2] rfl
          refine va_calli (va_runV (As := [.int a3]) (rest := [.int v_last_1, .ref h_p0_train_berths, .int r12]) ⟨hx, hb, hml, hown, hts⟩ (c_X2_middle l dC dI cyI cyJ cyT h_p1 H.size v_first_1 v_last_1 v_changeAt_1 a3 r15 e16) (cwV 1 hts gX6_tell_X2_middle rfl rfl rfl (by decide +kernel) ⟨Nat.le_of_ble_eq_true rfl, Nat.le_of_ble_eq_true rfl⟩) ⟨PRE.blind, va_recv hK hPc (ci := 2) (q0 := 0) rfl rfl, PRE.go hK hPc hDc hNW⟩ rfl rfl hl.1 rfl (lv_room (Nat.le_of_ble_eq_true rfl)) dX6_tell_105 ⟨Nat.zero_le _, Nat.zero_le _⟩) hS (fun q _ h => hFc q h) hFc (fun z17 u t H locs ht hvm hw hB hz1 hk1 hS => ?_)
          subst z17
          obtain ⟨hP, hD⟩ := va_join (wr := [(h_p0, .inr (6, [.ref h_p0_train, .ref h_p0_history, .ref h_p0_text])), (h_p0_train, .inr (5, [.ref h_p0_train_berths, .ref h_p0_train_roster, .ref h_p0_train_settings, .int v_nextNumber, .int v_bookings, .int v_leftOut])), (h_p0_train_berths, .inr (0, [.ref h_p0_train_berths_holders, .ref h_p0_train_berths_ends])), (h_p0_train_berths_holders, .inl (cyI, 162, .inl v_holders))]) (w1 := [(h_p1, .inr (2, [.int v_first_1, .int v_last_1, .int v_changeAt_1]))]) hP hD [2] [0, 1, 3, 4] rfl rfl (by decide) (by decide) hk1 hFc (WLD.P hB ht) hB.2
          have hP : va_P (dC, dI) vwCl [(h_p0, .inr (6, [.ref h_p0_train, .ref h_p0_history, .ref h_p0_text])), (h_p0_train, .inr (5, [.ref h_p0_train_berths, .ref h_p0_train_roster, .ref h_p0_train_settings, .int v_nextNumber, .int v_bookings, .int v_leftOut])), (h_p0_train_berths, .inr (0, [.ref h_p0_train_berths_holders, .ref h_p0_train_berths_ends])), (h_p0_train_berths_holders, .inl (cyI, 162, .inl v_holders)), (h_p1, .inr (2, [.int v_first_1, .int v_last_1, .int v_changeAt_1]))] H := hP
          have hD : va_D A [(h_p0, .inr (6, [.ref h_p0_train, .ref h_p0_history, .ref h_p0_text])), (h_p0_train, .inr (5, [.ref h_p0_train_berths, .ref h_p0_train_roster, .ref h_p0_train_settings, .int v_nextNumber, .int v_bookings, .int v_leftOut])), (h_p0_train_berths, .inr (0, [.ref h_p0_train_berths_holders, .ref h_p0_train_berths_ends])), (h_p0_train_berths_holders, .inl (cyI, 162, .inl v_holders)), (h_p1, .inr (2, [.int v_first_1, .int v_last_1, .int v_changeAt_1]))] := hD
          refine lv_iload_n hx hb dX6_tell_108 rfl (lv_at hl 3 rfl) ?_
          obtain ⟨r18, e19, h⟩ := bsome h
          have hPc := sb_P [(h_p0_train_berths, .inr (0, [.ref h_p0_train_berths_holders, .ref h_p0_train_berths_ends])), (h_p0_train_berths_holders, .inl (cyI, 162, .inl v_holders))] hP [2, 3] rfl
          have hDc := sb_D [(h_p0_train_berths, .inr (0, [.ref h_p0_train_berths_holders, .ref h_p0_train_berths_ends])), (h_p0_train_berths_holders, .inl (cyI, 162, .inl v_holders))] hD [2, 3] (by decide) rfl
          have hFc := va_free (wc := [(h_p0_train_berths, .inr (0, [.ref h_p0_train_berths_holders, .ref h_p0_train_berths_ends])), (h_p0_train_berths_holders, .inl (cyI, 162, .inl v_holders))]) hD hS hA [2, 3] rfl
          refine va_calli (va_runV (As := [.int v_last_1, .int r15, .int a3]) (rest := [.int r12]) ⟨hx, hb, hml, hown, hts⟩ (c_X0_wokenIn l dC dI cyI cyJ cyT h_p0_train_berths h_p0_train_berths_holders h_p0_train_berths_ends H.size v_holders v_last_1 r15 a3 n r18 e19) (cwV 3 hts gX6_tell_X0_wokenIn rfl rfl rfl (by decide +kernel) ⟨Nat.le_of_ble_eq_true rfl, Nat.le_of_ble_eq_true rfl⟩) ⟨PRE.blind, va_recv hK hPc (ci := 0) (q0 := 0) rfl rfl, PRE.go hK hPc hDc hNW⟩ rfl rfl hl.1 rfl (lv_room (Nat.le_of_ble_eq_true rfl)) dX6_tell_109 ⟨Nat.zero_le _, Nat.zero_le _⟩) hS (fun q _ h => hFc q h) hFc (fun z20 u t H locs ht hvm hw hB hz1 hk1 hS => ?_)
          subst z20
          obtain ⟨hP, hD⟩ := va_join (wr := [(h_p0, .inr (6, [.ref h_p0_train, .ref h_p0_history, .ref h_p0_text])), (h_p0_train, .inr (5, [.ref h_p0_train_berths, .ref h_p0_train_roster, .ref h_p0_train_settings, .int v_nextNumber, .int v_bookings, .int v_leftOut])), (h_p1, .inr (2, [.int v_first_1, .int v_last_1, .int v_changeAt_1]))]) (w1 := [(h_p0_train_berths, .inr (0, [.ref h_p0_train_berths_holders, .ref h_p0_train_berths_ends])), (h_p0_train_berths_holders, .inl (cyI, 162, .inl v_holders))]) hP hD [2, 3] [0, 1, 4] rfl rfl (by decide) (by decide) hk1 hFc (WLD.P hB ht) hB.2
          have hP : va_P (dC, dI) vwCl [(h_p0, .inr (6, [.ref h_p0_train, .ref h_p0_history, .ref h_p0_text])), (h_p0_train, .inr (5, [.ref h_p0_train_berths, .ref h_p0_train_roster, .ref h_p0_train_settings, .int v_nextNumber, .int v_bookings, .int v_leftOut])), (h_p1, .inr (2, [.int v_first_1, .int v_last_1, .int v_changeAt_1])), (h_p0_train_berths, .inr (0, [.ref h_p0_train_berths_holders, .ref h_p0_train_berths_ends])), (h_p0_train_berths_holders, .inl (cyI, 162, .inl v_holders))] H := hP
          have hD : va_D A [(h_p0, .inr (6, [.ref h_p0_train, .ref h_p0_history, .ref h_p0_text])), (h_p0_train, .inr (5, [.ref h_p0_train_berths, .ref h_p0_train_roster, .ref h_p0_train_settings, .int v_nextNumber, .int v_bookings, .int v_leftOut])), (h_p1, .inr (2, [.int v_first_1, .int v_last_1, .int v_changeAt_1])), (h_p0_train_berths, .inr (0, [.ref h_p0_train_berths_holders, .ref h_p0_train_berths_ends])), (h_p0_train_berths_holders, .inl (cyI, 162, .inl v_holders))] := hD
          refine lv_iadd hx hb dX6_tell_112 ?_
          obtain rfl := Option.some.inj h
          exact W.iret (v := (r12 + r18)) hx hb hr (fun t ht hW => ⟨⟨(r12 + r18), (), rfl, rfl, WLD.of ht (sb_P [(h_p0, .inr (6, [.ref h_p0_train, .ref h_p0_history, .ref h_p0_text])), (h_p0_train, .inr (5, [.ref h_p0_train_berths, .ref h_p0_train_roster, .ref h_p0_train_settings, .int v_nextNumber, .int v_bookings, .int v_leftOut])), (h_p0_train_berths, .inr (0, [.ref h_p0_train_berths_holders, .ref h_p0_train_berths_ends])), (h_p0_train_berths_holders, .inl (cyI, 162, .inl v_holders)), (h_p1, .inr (2, [.int v_first_1, .int v_last_1, .int v_changeAt_1]))] hP [0, 1, 3, 4, 2] rfl) (sb_D [(h_p0, .inr (6, [.ref h_p0_train, .ref h_p0_history, .ref h_p0_text])), (h_p0_train, .inr (5, [.ref h_p0_train_berths, .ref h_p0_train_roster, .ref h_p0_train_settings, .int v_nextNumber, .int v_bookings, .int v_leftOut])), (h_p0_train_berths, .inr (0, [.ref h_p0_train_berths_holders, .ref h_p0_train_berths_ends])), (h_p0_train_berths_holders, .inl (cyI, 162, .inl v_holders)), (h_p1, .inr (2, [.int v_first_1, .int v_last_1, .int v_changeAt_1]))] hD [0, 1, 3, 4, 2] (by decide) rfl)⟩, hS.F ht⟩) hS.2.2 dX6_tell_113
  · have h := ineg c4 h
    refine lv_iload hx hb dX6_tell_7 (lv_at hl 4 rfl) ?_
    refine lv_if_ne (tgt := 16) hx hb dX6_tell_9 (by decide) (fun c21 => ?_) (fun c21 => ?_)
    · have h := ineg c21 h
      refine lv_iconst (v := iI (-1)) hx hb dX6_tell_16 rfl ?_
      obtain rfl := Option.some.inj h
      exact W.iret (v := iI (-1)) hx hb hr (fun t ht hW => ⟨⟨iI (-1), (), rfl, rfl, WLD.of ht hP hD⟩, hS.F ht⟩) hS.2.2 dX6_tell_17
    · have h := ipos c21 h
      refine lv_iconst (v := iI 0) hx hb dX6_tell_12 rfl ?_
      refine lv_goto (tgt := 17) hx hb dX6_tell_13 (by decide) ?_
      obtain rfl := Option.some.inj h
      exact W.iret (v := iI 0) hx hb hr (fun t ht hW => ⟨⟨iI 0, (), rfl, rfl, WLD.of ht hP hD⟩, hS.F ht⟩) hS.2.2 dX6_tell_17
