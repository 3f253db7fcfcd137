def s_X7_digest_L283 (n : Nat) (v_kept : Int32) (v_typed : Int32) (v_now : Nat → Int32) (v_text : Nat → Int32) : Nat → Int32 → Int32 → Int32 → Int32 → Int32 → Int64 → Int32 → Option (Int64 × Int32 × Int32 × Int32 × Int32 × Int32)
  | 0, _, _, _, _, _, _, _ => none
  | k + 1, v_thrown, v_one, v_other, v_change, v_woken, x1, x3 => (if v_typed ≤ x3 then (some (x1, v_thrown, v_one, v_other, v_change, v_woken)) else (if gd x3 60 = true then (s_X7_digest_L283 n v_kept v_typed v_now v_text k v_thrown v_one v_other v_change v_woken (((31 : Int64) * x1) + (v_text x3.toNatClampNeg).toInt64) (x3 + iI 1)) else none))
def s_X7_digest_L229 (n : Nat) (v_kept : Int32) (v_typed : Int32) (v_now : Nat → Int32) (v_text : Nat → Int32) : Nat → Int32 → Int32 → Int32 → Int32 → Int32 → Int64 → Int32 → Option (Int64 × Int32 × Int32 × Int32 × Int32 × Int32)
  | 0, _, _, _, _, _, _, _ => none
  | k + 1, v_thrown, v_one, v_other, v_change, v_woken, x1, x3 => (if iI 4 ≤ x3 then ((s_X7_full n v_now).bind fun r4 => ((s_Jxe99ae_doubleToLongBits_ccdee r4).bind fun r7 => (s_X7_digest_L283 n v_kept v_typed v_now v_text n v_thrown v_one v_other v_change v_woken (((31 : Int64) * (((31 : Int64) * x1) + r7)) + v_typed.toInt64) (iI 0)))) else ((s_X7_byBooking n v_one v_other v_change v_woken v_now (iI 1) (iI 8) (iI 0) x3).bind fun r10 => (s_X7_digest_L229 n v_kept v_typed v_now v_text k v_thrown r10.2.1 r10.2.2.1 r10.2.2.2.1 r10.2.2.2.2 (((31 : Int64) * x1) + r10.1.toInt64) (x3 + iI 1))))
def s_X7_digest_L189 (n : Nat) (v_kept : Int32) (v_typed : Int32) (v_now : Nat → Int32) (v_text : Nat → Int32) : Nat → Int32 → Int32 → Int32 → Int32 → Int32 → Int64 → Int32 → Option (Int64 × Int32 × Int32 × Int32 × Int32 × Int32)
  | 0, _, _, _, _, _, _, _ => none
  | k + 1, v_thrown, v_one, v_other, v_change, v_woken, x1, x3 => (if iI 9 ≤ x3 then (s_X7_digest_L229 n v_kept v_typed v_now v_text n v_thrown v_one v_other v_change v_woken x1 (iI 0)) else ((s_X7_longest n v_one v_other v_change v_woken v_now x3).bind fun r14 => ((s_X7_reason n r14.2.1 r14.2.2.1 r14.2.2.2.1 r14.2.2.2.2 v_now x3 (iI 9)).bind fun r17 => (s_X7_digest_L189 n v_kept v_typed v_now v_text k v_thrown r17.2.1 r17.2.2.1 r17.2.2.2.1 r17.2.2.2.2 (((31 : Int64) * (((31 : Int64) * x1) + r14.1.toInt64)) + r17.1.toInt64) (x3 + iI 1)))))
def s_X7_digest_L149 (n : Nat) (v_kept : Int32) (v_typed : Int32) (v_now : Nat → Int32) (v_text : Nat → Int32) : Nat → Int32 → Int32 → Int32 → Int32 → Int32 → Int64 → Int32 → Option (Int64 × Int32 × Int32 × Int32 × Int32 × Int32)
  | 0, _, _, _, _, _, _, _ => none
  | k + 1, v_thrown, v_one, v_other, v_change, v_woken, x1, x3 => (if iI 9 ≤ x3 then (s_X7_digest_L189 n v_kept v_typed v_now v_text n v_thrown v_one v_other v_change v_woken x1 (iI 0)) else ((s_X7_freeOn n v_now x3 (iI 0)).bind fun r21 => ((s_X7_freeOn n v_now x3 (iI 1)).bind fun r24 => (s_X7_digest_L149 n v_kept v_typed v_now v_text k v_thrown v_one v_other v_change v_woken (((31 : Int64) * (((31 : Int64) * x1) + r21.toInt64)) + r24.toInt64) (x3 + iI 1)))))
def s_X7_digest_L99 (n : Nat) (v_kept : Int32) (v_typed : Int32) (v_now : Nat → Int32) (v_text : Nat → Int32) : Nat → (Int32 → Int32 → Int32 → Int32 → Int32 → Int64 → Int32 → Option (Int64 × Int32 × Int32 × Int32 × Int32 × Int32)) × (Int32 → Int32 → Int32 → Int32 → Int32 → Int64 → Int32 → Int32 → Option (Int64 × Int32 × Int32 × Int32 × Int32 × Int32))
  | 0 => ((fun _ _ _ _ _ _ _ => none), (fun _ _ _ _ _ _ _ _ => none))
  | k + 1 => ((fun v_thrown v_one v_other v_change v_woken x1 x3 => (if gd (iI 6) 452 = true then (if (v_now (iI 6).toNatClampNeg) ≤ x3 then (s_X7_digest_L149 n v_kept v_typed v_now v_text n v_thrown v_one v_other v_change v_woken x1 (iI 0)) else ((s_X7_digest_L99 n v_kept v_typed v_now v_text k).2 v_thrown v_one v_other v_change v_woken x1 x3 (iI 0))) else none)), (fun v_thrown v_one v_other v_change v_woken x1 x3 x4 => (if iI 9 ≤ x4 then ((s_X7_digest_L99 n v_kept v_typed v_now v_text k).1 v_thrown v_one v_other v_change v_woken x1 (x3 + iI 1)) else ((s_X7_ofPassenger n v_now x3 x4).bind fun r30 => ((s_X7_digest_L99 n v_kept v_typed v_now v_text k).2 v_thrown v_one v_other v_change v_woken (((31 : Int64) * x1) + r30.toInt64) x3 (x4 + iI 1))))))
def s_X7_digest_L66 (n : Nat) (v_kept : Int32) (v_typed : Int32) (v_now : Nat → Int32) (v_text : Nat → Int32) : Nat → Int32 → Int32 → Int32 → Int32 → Int32 → Int64 → Int32 → Option (Int64 × Int32 × Int32 × Int32 × Int32 × Int32)
  | 0, _, _, _, _, _, _, _ => none
  | k + 1, v_thrown, v_one, v_other, v_change, v_woken, x1, x3 => (if iI 162 ≤ x3 then ((s_X7_digest_L99 n v_kept v_typed v_now v_text n).1 v_thrown v_one v_other v_change v_woken x1 (iI 0)) else (if gd (iI 290 + x3) 452 = true then (s_X7_digest_L66 n v_kept v_typed v_now v_text k v_thrown v_one v_other v_change v_woken (((31 : Int64) * x1) + (v_now (iI 290 + x3).toNatClampNeg).toInt64) (x3 + iI 1)) else none))
def s_X7_digest_L38 (n : Nat) (v_kept : Int32) (v_typed : Int32) (v_now : Nat → Int32) (v_text : Nat → Int32) : Nat → Int32 → Int32 → Int32 → Int32 → Int32 → Int64 → Int32 → Option (Int64 × Int32 × Int32 × Int32 × Int32 × Int32)
  | 0, _, _, _, _, _, _, _ => none
  | k + 1, v_thrown, v_one, v_other, v_change, v_woken, x1, x3 => (if iI 6 ≤ x3 then (s_X7_digest_L66 n v_kept v_typed v_now v_text n v_thrown v_one v_other v_change v_woken x1 (iI 0)) else (if gd x3 452 = true then (s_X7_digest_L38 n v_kept v_typed v_now v_text k v_thrown v_one v_other v_change v_woken (((31 : Int64) * x1) + (v_now x3.toNatClampNeg).toInt64) (x3 + iI 1)) else none))
def s_X7_digest_L11 (n : Nat) (v_kept : Int32) (v_typed : Int32) (v_now : Nat → Int32) (v_text : Nat → Int32) : Nat → Int32 → Int32 → Int32 → Int32 → Int32 → Int64 → Int32 → Option (Int64 × Int32 × Int32 × Int32 × Int32 × Int32)
  | 0, _, _, _, _, _, _, _ => none
  | k + 1, v_thrown, v_one, v_other, v_change, v_woken, x1, x3 => (if iI 9 ≤ x3 then (s_X7_digest_L38 n v_kept v_typed v_now v_text n v_thrown v_one v_other v_change v_woken x1 (iI 0)) else ((s_X7_counted n v_kept v_now x3).bind fun r38 => (s_X7_digest_L11 n v_kept v_typed v_now v_text k v_thrown v_one v_other v_change v_woken (((31 : Int64) * x1) + r38.toInt64) (x3 + iI 1))))
def s_X7_digest (n : Nat) (v_kept : Int32) (v_typed : Int32) (v_thrown : Int32) (v_one : Int32) (v_other : Int32) (v_change : Int32) (v_woken : Int32) (v_now : Nat → Int32) (v_text : Nat → Int32) : Option (Int64 × Int32 × Int32 × Int32 × Int32 × Int32) := (s_X7_digest_L11 n v_kept v_typed v_now v_text n (iI 0) v_one v_other v_change v_woken (2999 : Int64) (iI 0))
set_option maxRecDepth 20000 in
theorem m_X7_digest_0 : ∀ w ∈ u_ws RX7 TX7 15, w ∈ wsX7_digest := by decide +kernel
set_option maxRecDepth 20000 in
theorem m_X7_digest_1 : (.fieldLink RX7 139 "SleeperBerthsModel" "typed" "I" : Cond) ∈ wsX7_digest := by decide +kernel
set_option maxRecDepth 20000 in
theorem m_X7_digest_2 : (.constantLong RX7 193 31 : Cond) ∈ wsX7_digest := by decide +kernel
set_option maxRecDepth 20000 in
theorem m_X7_digest_3 : (.fieldLink RX7 19 "SleeperBerthsModel" "text" "[I" : Cond) ∈ wsX7_digest := by decide +kernel
set_option maxRecDepth 20000 in
theorem m_X7_digest_4 : (.fieldLink RX7 7 "SleeperBerthsModel" "now" "[I" : Cond) ∈ wsX7_digest := by decide +kernel
set_option maxRecDepth 20000 in
theorem m_X7_digest_5 : (.fieldLink RX7 25 "SleeperBerthsModel" "thrown" "I" : Cond) ∈ wsX7_digest := by decide +kernel
set_option maxRecDepth 20000 in
theorem m_X7_digest_6 : (.constantLong RX7 191 2999 : Cond) ∈ wsX7_digest := by decide +kernel
set_option maxHeartbeats 4000000 in
set_option maxRecDepth 100000 in
theorem c_X7_digest (l : Launch) (dC : Nat → ClassId) (dI : Nat → Nat → Nat) (cyI cyJ cyT : ClassId) (h_p0 : Nat) (h_p0_now : Nat) (h_p0_then : Nat) (h_p0_past : Nat) (h_p0_text : Nat) (h_p0_told : Nat) (sz : Nat) (v_kept : Int32) (v_typed : Int32) (v_thrown : Int32) (v_at : Int32) (v_isFault : Int32) (v_tolds : Int32) (v_one : Int32) (v_other : Int32) (v_change : Int32) (v_woken : Int32) (v_now : Nat → Int32) (v_text : Nat → Int32) (n : Nat) (o : Int64 × Int32 × Int32 × Int32 × Int32 × Int32) (h : s_X7_digest n v_kept v_typed v_thrown v_one v_other v_change v_woken v_now v_text = some o) : Met l yX7_digest wsX7_digest ({ frames := 7, cells := 0, slots := 0, locals := 170 }) (va_Pc [.ref h_p0] (PRE (dC, dI) (TYS cyI cyJ cyT) sz [(h_p0, .inr (7, [.ref h_p0_now, .ref h_p0_then, .ref h_p0_past, .int v_kept, .ref h_p0_text, .int v_typed, .int v_thrown, .int v_at, .int v_isFault, .ref h_p0_told, .int v_tolds, .int v_one, .int v_other, .int v_change, .int v_woken])), (h_p0_now, .inl (cyI, 452, .inl v_now)), (h_p0_text, .inl (cyI, 60, .inl v_text))])) (va_Ql (S := Unit) (fun r _ => r = o.1) (fun _ t => WLD (dC, dI) (va_A [(h_p0, .inr (7, [.ref h_p0_now, .ref h_p0_then, .ref h_p0_past, .int v_kept, .ref h_p0_text, .int v_typed, .int v_thrown, .int v_at, .int v_isFault, .ref h_p0_told, .int v_tolds, .int v_one, .int v_other, .int v_change, .int v_woken])), (h_p0_now, .inl (cyI, 452, .inl v_now)), (h_p0_text, .inl (cyI, 60, .inl v_text))] sz) [(h_p0, .inr (7, [.ref h_p0_now, .ref h_p0_then, .ref h_p0_past, .int v_kept, .ref h_p0_text, .int v_typed, .int o.2.1, .int v_at, .int v_isFault, .ref h_p0_told, .int v_tolds, .int o.2.2.1, .int o.2.2.2.1, .int o.2.2.2.2.1, .int o.2.2.2.2.2])), (h_p0_now, .inl (cyI, 452, .inl v_now)), (h_p0_text, .inl (cyI, 60, .inl v_text))] t) (va_A [(h_p0, .inr (7, [.ref h_p0_now, .ref h_p0_then, .ref h_p0_past, .int v_kept, .ref h_p0_text, .int v_typed, .int v_thrown, .int v_at, .int v_isFault, .ref h_p0_told, .int v_tolds, .int v_one, .int v_other, .int v_change, .int v_woken])), (h_p0_now, .inl (cyI, 452, .inl v_now)), (h_p0_text, .inl (cyI, 60, .inl v_text))] sz)) 0 0 (va_A [(h_p0, .inr (7, [.ref h_p0_now, .ref h_p0_then, .ref h_p0_past, .int v_kept, .ref h_p0_text, .int v_typed, .int v_thrown, .int v_at, .int v_isFault, .ref h_p0_told, .int v_tolds, .int v_one, .int v_other, .int v_change, .int v_woken])), (h_p0_now, .inl (cyI, 452, .inl v_now)), (h_p0_text, .inl (cyI, 60, .inl v_text))] sz) := by
  refine Met.ofW (cc := cX7_digest) (maxL := 5) (ret := (some .long)) (by decide) rfl ?_
  intro p e s m args below meth c s₁ B hml hv
  obtain ⟨rfl, hsz, hP, hK, hD0, hNW⟩ := hv
  have hx := B.exec
  have hb := B.bytes
  have hr := B.returns
  have hts := atoms_spec (ws := wsX7_digest) B.pre
  have hown : s.vm.findClass RX7 = some m.cls := findClass_of_methodNamed B.named
  have hlocks := B.notSynchronized
  subst hsz
  have hD := hD0.self (sz := s.heap.size)
  generalize hAe : va_A [(h_p0, .inr (7, [.ref h_p0_now, .ref h_p0_then, .ref h_p0_past, .int v_kept, .ref h_p0_text, .int v_typed, .int v_thrown, .int v_at, .int v_isFault, .ref h_p0_told, .int v_tolds, .int v_one, .int v_other, .int v_change, .int v_woken])), (h_p0_now, .inl (cyI, 452, .inl v_now)), (h_p0_text, .inl (cyI, 60, .inl v_text))] s.heap.size = A at hD ⊢
  have hA : ∀ q : Nat, s.heap.size ≤ q → A q := fun q h => by rw [← hAe]; exact Or.inr h
  have hS : va_S A s.heap s.heap [] := va_S.rf
  have hP : va_P (dC, dI) vwCl [(h_p0, .inr (7, [.ref h_p0_now, .ref h_p0_then, .ref h_p0_past, .int v_kept, .ref h_p0_text, .int v_typed, .int v_thrown, .int v_at, .int v_isFault, .ref h_p0_told, .int v_tolds, .int v_one, .int v_other, .int v_change, .int v_woken])), (h_p0_now, .inl (cyI, 452, .inl v_now)), (h_p0_text, .inl (cyI, 60, .inl v_text))] s.heap := hP
  have L283 : ∀ (k : Nat), (∀ (v_thrown : Int32) (v_one : Int32) (v_other : Int32) (v_change : Int32) (v_woken : Int32) (x1 : Int64) (x3 : Int32) (H : Heap) (locs : List Loc), va_P (dC, dI) vwCl [(h_p0, .inr (7, [.ref h_p0_now, .ref h_p0_then, .ref h_p0_past, .int v_kept, .ref h_p0_text, .int v_typed, .int v_thrown, .int v_at, .int v_isFault, .ref h_p0_told, .int v_tolds, .int v_one, .int v_other, .int v_change, .int v_woken])), (h_p0_now, .inl (cyI, 452, .inl v_now)), (h_p0_text, .inl (cyI, 60, .inl v_text))] H → va_D A [(h_p0, .inr (7, [.ref h_p0_now, .ref h_p0_then, .ref h_p0_past, .int v_kept, .ref h_p0_text, .int v_typed, .int v_thrown, .int v_at, .int v_isFault, .ref h_p0_told, .int v_tolds, .int v_one, .int v_other, .int v_change, .int v_woken])), (h_p0_now, .inl (cyI, 452, .inl v_now)), (h_p0_text, .inl (cyI, 60, .inl v_text))] → va_S A s.heap H locs → ∀ (ls : Array Slot), lv_has ls 5 [(0, .ref h_p0), (1, .long x1), (3, .int x3)] →  s_X7_digest_L283 n v_kept v_typed v_now v_text k v_thrown v_one v_other v_change v_woken x1 x3 = some o → W p l e (headSpec wsX7_digest ({ frames := 7, cells := 0, slots := 0, locals := 170 })).room s m (([.ref h_p0] : List Value).toArray) below meth c H locs 0 0 (MQ below (va_Ql (S := Unit) (fun r _ => r = o.1) (fun _ t => WLD (dC, dI) A [(h_p0, .inr (7, [.ref h_p0_now, .ref h_p0_then, .ref h_p0_past, .int v_kept, .ref h_p0_text, .int v_typed, .int o.2.1, .int v_at, .int v_isFault, .ref h_p0_told, .int v_tolds, .int o.2.2.1, .int o.2.2.2.1, .int o.2.2.2.2.1, .int o.2.2.2.2.2])), (h_p0_now, .inl (cyI, 452, .inl v_now)), (h_p0_text, .inl (cyI, 60, .inl v_text))] t) A) (([.ref h_p0] : List Value).toArray) s 0 0 A) (F0 m 283 ls [])) := by
    intro k
    induction k with
    | zero =>
      intro  v_thrown v_one v_other v_change v_woken x1 x3 H locs hP hD hS ls hl h
      rw [s_X7_digest_L283] at h
      cases h
    | succ k ih =>
      intro  v_thrown v_one v_other v_change v_woken x1 x3 H locs hP hD hS ls hl h
      rw [s_X7_digest_L283] at h
      refine lv_iload_n hx hb dX7_digest_283 rfl (lv_at hl 2 rfl) ?_
      refine lv_aload_n hx hb dX7_digest_284 rfl (lv_at hl 0 rfl) ?_
      refine va_get (D := (dC, dI)) (ci := 7) (v := .int v_typed) (C := RX7) (T := TX7) (N := 15) hx hb hts m_X7_digest_0 hown hK hP 0 rfl rfl 5 (by decide) (hts (.fieldLink RX7 139 "SleeperBerthsModel" "typed" "I") m_X7_digest_1) (fun _ h9 => h9) rfl dX7_digest_285 ?_
      refine lv_icmp_ge (tgt := 311) hx hb dX7_digest_288 (by decide) (fun c1 => ?_) (fun c1 => ?_)
      · have h := ipos c1 h
        refine lv_lload_n hx hb dX7_digest_311 rfl (lv_at hl 1 rfl) ?_
        obtain rfl := Option.some.inj h
        exact W.lret (v := x1) hx hb hr (fun t ht hW => ⟨⟨x1, (), rfl, rfl, WLD.of ht hP hD⟩, hS.F ht⟩) hS.2.2 dX7_digest_312
      · have h := ineg c1 h
        refine lv_ldc2 (v := 31) hx hb hown (hts (.constantLong RX7 193 31) m_X7_digest_2) dX7_digest_291 ?_
        refine lv_lload_n hx hb dX7_digest_294 rfl (lv_at hl 1 rfl) ?_
        refine lv_lmul hx hb dX7_digest_295 ?_
        refine lv_aload_n hx hb dX7_digest_296 rfl (lv_at hl 0 rfl) ?_
        refine va_get (D := (dC, dI)) (ci := 7) (v := .ref h_p0_text) (C := RX7) (T := TX7) (N := 15) hx hb hts m_X7_digest_0 hown hK hP 0 rfl rfl 4 (by decide) (hts (.fieldLink RX7 19 "SleeperBerthsModel" "text" "[I") m_X7_digest_3) (fun _ h9 => h9) rfl dX7_digest_297 ?_
        refine lv_iload_n hx hb dX7_digest_300 rfl (lv_at hl 2 rfl) ?_
        obtain ⟨g2, h⟩ := gsome h
        refine va_iald (D := (dC, dI)) hx hb hK hP 2 0 rfl rfl g2 dX7_digest_301 ?_
        refine lv_i2l hx hb dX7_digest_302 rfl ?_
        refine lv_ladd hx hb dX7_digest_303 ?_
        refine lv_lstore_n hx hb dX7_digest_304 rfl hl (by decide) (rfl : _ = ([(1, .long (((31 : Int64) * x1) + (v_text x3.toNatClampNeg).toInt64)), (0, .ref h_p0), (3, .int x3)] : List (Nat × Value))) (fun ls hl => ?_)
        refine lv_iinc (v := (x3 + iI 1)) hx hb dX7_digest_305 hl (k := 2) rfl rfl (by decide) (rfl : _ = ([(3, .int (x3 + iI 1)), (1, .long (((31 : Int64) * x1) + (v_text x3.toNatClampNeg).toInt64)), (0, .ref h_p0)] : List (Nat × Value))) (fun ls hl => ?_)
        refine lv_goto (tgt := 283) hx hb dX7_digest_308 (by decide) ?_
        exact ih v_thrown v_one v_other v_change v_woken (((31 : Int64) * x1) + (v_text x3.toNatClampNeg).toInt64) (x3 + iI 1) _ _ hP hD hS ls (lv_sub hl [2, 1, 0] rfl) h
  have L229 : ∀ (k : Nat), (∀ (v_thrown : Int32) (v_one : Int32) (v_other : Int32) (v_change : Int32) (v_woken : Int32) (x1 : Int64) (x3 : Int32) (H : Heap) (locs : List Loc), va_P (dC, dI) vwCl [(h_p0, .inr (7, [.ref h_p0_now, .ref h_p0_then, .ref h_p0_past, .int v_kept, .ref h_p0_text, .int v_typed, .int v_thrown, .int v_at, .int v_isFault, .ref h_p0_told, .int v_tolds, .int v_one, .int v_other, .int v_change, .int v_woken])), (h_p0_now, .inl (cyI, 452, .inl v_now)), (h_p0_text, .inl (cyI, 60, .inl v_text))] H → va_D A [(h_p0, .inr (7, [.ref h_p0_now, .ref h_p0_then, .ref h_p0_past, .int v_kept, .ref h_p0_text, .int v_typed, .int v_thrown, .int v_at, .int v_isFault, .ref h_p0_told, .int v_tolds, .int v_one, .int v_other, .int v_change, .int v_woken])), (h_p0_now, .inl (cyI, 452, .inl v_now)), (h_p0_text, .inl (cyI, 60, .inl v_text))] → va_S A s.heap H locs → ∀ (ls : Array Slot), lv_has ls 5 [(0, .ref h_p0), (1, .long x1), (3, .int x3)] →  s_X7_digest_L229 n v_kept v_typed v_now v_text k v_thrown v_one v_other v_change v_woken x1 x3 = some o → W p l e (headSpec wsX7_digest ({ frames := 7, cells := 0, slots := 0, locals := 170 })).room s m (([.ref h_p0] : List Value).toArray) below meth c H locs 0 0 (MQ below (va_Ql (S := Unit) (fun r _ => r = o.1) (fun _ t => WLD (dC, dI) A [(h_p0, .inr (7, [.ref h_p0_now, .ref h_p0_then, .ref h_p0_past, .int v_kept, .ref h_p0_text, .int v_typed, .int o.2.1, .int v_at, .int v_isFault, .ref h_p0_told, .int v_tolds, .int o.2.2.1, .int o.2.2.2.1, .int o.2.2.2.2.1, .int o.2.2.2.2.2])), (h_p0_now, .inl (cyI, 452, .inl v_now)), (h_p0_text, .inl (cyI, 60, .inl v_text))] t) A) (([.ref h_p0] : List Value).toArray) s 0 0 A) (F0 m 229 ls [])) := by
    intro k
    induction k with
    | zero =>
      intro  v_thrown v_one v_other v_change v_woken x1 x3 H locs hP hD hS ls hl h
      rw [s_X7_digest_L229] at h
      cases h
    | succ k ih =>
      intro  v_thrown v_one v_other v_change v_woken x1 x3 H locs hP hD hS ls hl h
      rw [s_X7_digest_L229] at h
      refine lv_iload_n hx hb dX7_digest_229 rfl (lv_at hl 2 rfl) ?_
      refine lv_iconst (v := iI 4) hx hb dX7_digest_230 rfl ?_
      refine lv_icmp_ge (tgt := 257) hx hb dX7_digest_231 (by decide) (fun c3 => ?_) (fun c3 => ?_)
      · have h := ipos c3 h
        refine lv_ldc2 (v := 31) hx hb hown (hts (.constantLong RX7 193 31) m_X7_digest_2) dX7_digest_257 ?_
        refine lv_ldc2 (v := 31) hx hb hown (hts (.constantLong RX7 193 31) m_X7_digest_2) dX7_digest_260 ?_
        refine lv_lload_n hx hb dX7_digest_263 rfl (lv_at hl 1 rfl) ?_
        refine lv_lmul hx hb dX7_digest_264 ?_
        refine lv_aload_n hx hb dX7_digest_265 rfl (lv_at hl 0 rfl) ?_
        obtain ⟨r4, e5, h⟩ := bsome h
        have hPc := sb_P [(h_p0, .inr (7, [.ref h_p0_now, .ref h_p0_then, .ref h_p0_past, .int v_kept, .ref h_p0_text, .int v_typed, .int v_thrown, .int v_at, .int v_isFault, .ref h_p0_told, .int v_tolds, .int v_one, .int v_other, .int v_change, .int v_woken])), (h_p0_now, .inl (cyI, 452, .inl v_now))] hP [0, 1] rfl
        have hDc := sb_D [(h_p0, .inr (7, [.ref h_p0_now, .ref h_p0_then, .ref h_p0_past, .int v_kept, .ref h_p0_text, .int v_typed, .int v_thrown, .int v_at, .int v_isFault, .ref h_p0_told, .int v_tolds, .int v_one, .int v_other, .int v_change, .int v_woken])), (h_p0_now, .inl (cyI, 452, .inl v_now))] hD [0, 1] (by decide) rfl
        have hFc := va_free (wc := [(h_p0, .inr (7, [.ref h_p0_now, .ref h_p0_then, .ref h_p0_past, .int v_kept, .ref h_p0_text, .int v_typed, .int v_thrown, .int v_at, .int v_isFault, .ref h_p0_told, .int v_tolds, .int v_one, .int v_other, .int v_change, .int v_woken])), (h_p0_now, .inl (cyI, 452, .inl v_now))]) hD hS hA [0, 1] rfl
        refine va_calld (va_runV (As := []) (rest := [.long ((31 : Int64) * x1), .long (31 : Int64)]) ⟨hx, hb, hml, hown, hts⟩ (c_X7_full l dC dI cyI cyJ cyT h_p0 h_p0_now h_p0_then h_p0_past h_p0_text h_p0_told H.size v_kept v_typed v_thrown v_at v_isFault v_tolds v_one v_other v_change v_woken v_now n r4 e5) (cwV 0 hts gX7_digest_X7_full rfl rfl rfl (by decide +kernel) ⟨Nat.le_of_ble_eq_true rfl, Nat.le_of_ble_eq_true rfl⟩) ⟨PRE.blind, va_recv hK hPc (ci := 7) (q0 := 0) rfl rfl, PRE.go hK hPc hDc hNW⟩ rfl rfl hl.1 rfl (lv_room (Nat.le_of_ble_eq_true rfl)) dX7_digest_266 ⟨Nat.zero_le _, Nat.zero_le _⟩) hS (fun q _ h => hFc q h) hFc (fun z6 u t H locs ht hvm hw hB hz1 hk1 hS => ?_)
        subst z6
        obtain ⟨hP, hD⟩ := va_join (wr := [(h_p0_text, .inl (cyI, 60, .inl v_text))]) (w1 := [(h_p0, .inr (7, [.ref h_p0_now, .ref h_p0_then, .ref h_p0_past, .int v_kept, .ref h_p0_text, .int v_typed, .int v_thrown, .int v_at, .int v_isFault, .ref h_p0_told, .int v_tolds, .int v_one, .int v_other, .int v_change, .int v_woken])), (h_p0_now, .inl (cyI, 452, .inl v_now))]) hP hD [0, 1] [2] rfl rfl (by decide) (by decide) hk1 hFc (WLD.P hB ht) hB.2
        have hP : va_P (dC, dI) vwCl [(h_p0_text, .inl (cyI, 60, .inl v_text)), (h_p0, .inr (7, [.ref h_p0_now, .ref h_p0_then, .ref h_p0_past, .int v_kept, .ref h_p0_text, .int v_typed, .int v_thrown, .int v_at, .int v_isFault, .ref h_p0_told, .int v_tolds, .int v_one, .int v_other, .int v_change, .int v_woken])), (h_p0_now, .inl (cyI, 452, .inl v_now))] H := hP
        have hD : va_D A [(h_p0_text, .inl (cyI, 60, .inl v_text)), (h_p0, .inr (7, [.ref h_p0_now, .ref h_p0_then, .ref h_p0_past, .int v_kept, .ref h_p0_text, .int v_typed, .int v_thrown, .int v_at, .int v_isFault, .ref h_p0_told, .int v_tolds, .int v_one, .int v_other, .int v_change, .int v_woken])), (h_p0_now, .inl (cyI, 452, .inl v_now))] := hD
        obtain ⟨r7, e8, h⟩ := bsome h
        have hPc := sb_P [] hP [] rfl
        have hDc := sb_D [] hD [] (by decide) rfl
        have hFc := va_free (wc := []) hD hS hA [] rfl
        refine va_calll (va_runS (As := [.double r4]) (rest := [.long ((31 : Int64) * x1), .long (31 : Int64)]) ⟨hx, hb, hml, hown, hts⟩ (c_Jxe99ae_doubleToLongBits_ccdee l dC dI cyI cyJ cyT H.size r4 r7 e8) (va_cwS 1 hts gX7_digest_Jxe99ae_doubleToLongBits_ccdee rfl rfl rfl (by decide +kernel) ⟨Nat.le_of_ble_eq_true rfl, Nat.le_of_ble_eq_true rfl⟩) ⟨PRE.blind, PRE.go hK hPc hDc hNW⟩ rfl rfl hl.1 rfl (lv_room (Nat.le_of_ble_eq_true rfl)) dX7_digest_269 ⟨Nat.zero_le _, Nat.zero_le _⟩) hS (fun q _ h => hFc q h) hFc (fun z9 u t H locs ht hvm hw hB hz1 hk1 hS => ?_)
        subst z9
        obtain ⟨hP, hD⟩ := va_join (wr := [(h_p0_text, .inl (cyI, 60, .inl v_text)), (h_p0, .inr (7, [.ref h_p0_now, .ref h_p0_then, .ref h_p0_past, .int v_kept, .ref h_p0_text, .int v_typed, .int v_thrown, .int v_at, .int v_isFault, .ref h_p0_told, .int v_tolds, .int v_one, .int v_other, .int v_change, .int v_woken])), (h_p0_now, .inl (cyI, 452, .inl v_now))]) (w1 := []) hP hD [] [0, 1, 2] rfl rfl (by decide) (by decide) hk1 hFc (WLD.P hB ht) hB.2
        have hP : va_P (dC, dI) vwCl [(h_p0_text, .inl (cyI, 60, .inl v_text)), (h_p0, .inr (7, [.ref h_p0_now, .ref h_p0_then, .ref h_p0_past, .int v_kept, .ref h_p0_text, .int v_typed, .int v_thrown, .int v_at, .int v_isFault, .ref h_p0_told, .int v_tolds, .int v_one, .int v_other, .int v_change, .int v_woken])), (h_p0_now, .inl (cyI, 452, .inl v_now))] H := hP
        have hD : va_D A [(h_p0_text, .inl (cyI, 60, .inl v_text)), (h_p0, .inr (7, [.ref h_p0_now, .ref h_p0_then, .ref h_p0_past, .int v_kept, .ref h_p0_text, .int v_typed, .int v_thrown, .int v_at, .int v_isFault, .ref h_p0_told, .int v_tolds, .int v_one, .int v_other, .int v_change, .int v_woken])), (h_p0_now, .inl (cyI, 452, .inl v_now))] := hD
        refine lv_ladd hx hb dX7_digest_272 ?_
        refine lv_lmul hx hb dX7_digest_273 ?_
        refine lv_aload_n hx hb dX7_digest_274 rfl (lv_at hl 0 rfl) ?_
        refine va_get (D := (dC, dI)) (ci := 7) (v := .int v_typed) (C := RX7) (T := TX7) (N := 15) hx hb hts m_X7_digest_0 hown hK hP 1 rfl rfl 5 (by decide) (hts (.fieldLink RX7 139 "SleeperBerthsModel" "typed" "I") m_X7_digest_1) (fun _ h9 => h9) rfl dX7_digest_275 ?_
        refine lv_i2l hx hb dX7_digest_278 rfl ?_
        refine lv_ladd hx hb dX7_digest_279 ?_
        refine lv_lstore_n hx hb dX7_digest_280 rfl hl (by decide) (rfl : _ = ([(1, .long (((31 : Int64) * (((31 : Int64) * x1) + r7)) + v_typed.toInt64)), (0, .ref h_p0), (3, .int x3)] : List (Nat × Value))) (fun ls hl => ?_)
        refine lv_iconst (v := iI 0) hx hb dX7_digest_281 rfl ?_
        refine lv_istore_n hx hb dX7_digest_282 rfl hl (by decide) (rfl : _ = ([(3, .int (iI 0)), (1, .long (((31 : Int64) * (((31 : Int64) * x1) + r7)) + v_typed.toInt64)), (0, .ref h_p0)] : List (Nat × Value))) (fun ls hl => ?_)
        exact L283 n v_thrown v_one v_other v_change v_woken (((31 : Int64) * (((31 : Int64) * x1) + r7)) + v_typed.toInt64) (iI 0) _ _ (sb_P [(h_p0, .inr (7, [.ref h_p0_now, .ref h_p0_then, .ref h_p0_past, .int v_kept, .ref h_p0_text, .int v_typed, .int v_thrown, .int v_at, .int v_isFault, .ref h_p0_told, .int v_tolds, .int v_one, .int v_other, .int v_change, .int v_woken])), (h_p0_now, .inl (cyI, 452, .inl v_now)), (h_p0_text, .inl (cyI, 60, .inl v_text))] hP [1, 2, 0] rfl) (sb_D [(h_p0, .inr (7, [.ref h_p0_now, .ref h_p0_then, .ref h_p0_past, .int v_kept, .ref h_p0_text, .int v_typed, .int v_thrown, .int v_at, .int v_isFault, .ref h_p0_told, .int v_tolds, .int v_one, .int v_other, .int v_change, .int v_woken])), (h_p0_now, .inl (cyI, 452, .inl v_now)), (h_p0_text, .inl (cyI, 60, .inl v_text))] hD [1, 2, 0] (by decide) rfl) hS ls (lv_sub hl [2, 1, 0] rfl) h
      · have h := ineg c3 h
        refine lv_ldc2 (v := 31) hx hb hown (hts (.constantLong RX7 193 31) m_X7_digest_2) dX7_digest_234 ?_
        refine lv_lload_n hx hb dX7_digest_237 rfl (lv_at hl 1 rfl) ?_
        refine lv_lmul hx hb dX7_digest_238 ?_
        refine lv_aload_n hx hb dX7_digest_239 rfl (lv_at hl 0 rfl) ?_
        refine lv_iconst (v := iI 1) hx hb dX7_digest_240 rfl ?_
        refine lv_bipush (v := iI 8) hx hb dX7_digest_241 (by decide) ?_
        refine lv_iconst (v := iI 0) hx hb dX7_digest_243 rfl ?_
        refine lv_iload_n hx hb dX7_digest_244 rfl (lv_at hl 2 rfl) ?_
        obtain ⟨r10, e11, h⟩ := bsome h
        have hPc := sb_P [(h_p0, .inr (7, [.ref h_p0_now, .ref h_p0_then, .ref h_p0_past, .int v_kept, .ref h_p0_text, .int v_typed, .int v_thrown, .int v_at, .int v_isFault, .ref h_p0_told, .int v_tolds, .int v_one, .int v_other, .int v_change, .int v_woken])), (h_p0_now, .inl (cyI, 452, .inl v_now))] hP [0, 1] rfl
        have hDc := sb_D [(h_p0, .inr (7, [.ref h_p0_now, .ref h_p0_then, .ref h_p0_past, .int v_kept, .ref h_p0_text, .int v_typed, .int v_thrown, .int v_at, .int v_isFault, .ref h_p0_told, .int v_tolds, .int v_one, .int v_other, .int v_change, .int v_woken])), (h_p0_now, .inl (cyI, 452, .inl v_now))] hD [0, 1] (by decide) rfl
        have hFc := va_free (wc := [(h_p0, .inr (7, [.ref h_p0_now, .ref h_p0_then, .ref h_p0_past, .int v_kept, .ref h_p0_text, .int v_typed, .int v_thrown, .int v_at, .int v_isFault, .ref h_p0_told, .int v_tolds, .int v_one, .int v_other, .int v_change, .int v_woken])), (h_p0_now, .inl (cyI, 452, .inl v_now))]) hD hS hA [0, 1] rfl
        refine va_calli (va_runV (As := [.int (iI 1), .int (iI 8), .int (iI 0), .int x3]) (rest := [.long ((31 : Int64) * x1)]) ⟨hx, hb, hml, hown, hts⟩ (c_X7_byBooking l dC dI cyI cyJ cyT h_p0 h_p0_now h_p0_then h_p0_past h_p0_text h_p0_told H.size v_kept v_typed v_thrown v_at v_isFault v_tolds v_one v_other v_change v_woken v_now (iI 1) (iI 8) (iI 0) x3 n r10 e11) (cwV 4 hts gX7_digest_X7_byBooking rfl rfl rfl (by decide +kernel) ⟨Nat.le_of_ble_eq_true rfl, Nat.le_of_ble_eq_true rfl⟩) ⟨PRE.blind, va_recv hK hPc (ci := 7) (q0 := 0) rfl rfl, PRE.go hK hPc hDc hNW⟩ rfl rfl hl.1 rfl (lv_room (Nat.le_of_ble_eq_true rfl)) dX7_digest_245 ⟨Nat.zero_le _, Nat.zero_le _⟩) hS (fun q _ h => hFc q h) hFc (fun z12 u t H locs ht hvm hw hB hz1 hk1 hS => ?_)
        subst z12
        obtain ⟨hP, hD⟩ := va_join (wr := [(h_p0_text, .inl (cyI, 60, .inl v_text))]) (w1 := [(h_p0, .inr (7, [.ref h_p0_now, .ref h_p0_then, .ref h_p0_past, .int v_kept, .ref h_p0_text, .int v_typed, .int v_thrown, .int v_at, .int v_isFault, .ref h_p0_told, .int v_tolds, .int r10.2.1, .int r10.2.2.1, .int r10.2.2.2.1, .int r10.2.2.2.2])), (h_p0_now, .inl (cyI, 452, .inl v_now))]) hP hD [0, 1] [2] rfl rfl (by decide) (by decide) hk1 hFc (WLD.P hB ht) hB.2
        have hP : va_P (dC, dI) vwCl [(h_p0_text, .inl (cyI, 60, .inl v_text)), (h_p0, .inr (7, [.ref h_p0_now, .ref h_p0_then, .ref h_p0_past, .int v_kept, .ref h_p0_text, .int v_typed, .int v_thrown, .int v_at, .int v_isFault, .ref h_p0_told, .int v_tolds, .int r10.2.1, .int r10.2.2.1, .int r10.2.2.2.1, .int r10.2.2.2.2])), (h_p0_now, .inl (cyI, 452, .inl v_now))] H := hP
        have hD : va_D A [(h_p0_text, .inl (cyI, 60, .inl v_text)), (h_p0, .inr (7, [.ref h_p0_now, .ref h_p0_then, .ref h_p0_past, .int v_kept, .ref h_p0_text, .int v_typed, .int v_thrown, .int v_at, .int v_isFault, .ref h_p0_told, .int v_tolds, .int r10.2.1, .int r10.2.2.1, .int r10.2.2.2.1, .int r10.2.2.2.2])), (h_p0_now, .inl (cyI, 452, .inl v_now))] := hD
        refine lv_i2l hx hb dX7_digest_248 rfl ?_
        refine lv_ladd hx hb dX7_digest_249 ?_
        refine lv_lstore_n hx hb dX7_digest_250 rfl hl (by decide) (rfl : _ = ([(1, .long (((31 : Int64) * x1) + r10.1.toInt64)), (0, .ref h_p0), (3, .int x3)] : List (Nat × Value))) (fun ls hl => ?_)
        refine lv_iinc (v := (x3 + iI 1)) hx hb dX7_digest_251 hl (k := 2) rfl rfl (by decide) (rfl : _ = ([(3, .int (x3 + iI 1)), (1, .long (((31 : Int64) * x1) + r10.1.toInt64)), (0, .ref h_p0)] : List (Nat × Value))) (fun ls hl => ?_)
        refine lv_goto (tgt := 229) hx hb dX7_digest_254 (by decide) ?_
        exact ih v_thrown r10.2.1 r10.2.2.1 r10.2.2.2.1 r10.2.2.2.2 (((31 : Int64) * x1) + r10.1.toInt64) (x3 + iI 1) _ _ (sb_P [(h_p0, .inr (7, [.ref h_p0_now, .ref h_p0_then, .ref h_p0_past, .int v_kept, .ref h_p0_text, .int v_typed, .int v_thrown, .int v_at, .int v_isFault, .ref h_p0_told, .int v_tolds, .int r10.2.1, .int r10.2.2.1, .int r10.2.2.2.1, .int r10.2.2.2.2])), (h_p0_now, .inl (cyI, 452, .inl v_now)), (h_p0_text, .inl (cyI, 60, .inl v_text))] hP [1, 2, 0] rfl) (sb_D [(h_p0, .inr (7, [.ref h_p0_now, .ref h_p0_then, .ref h_p0_past, .int v_kept, .ref h_p0_text, .int v_typed, .int v_thrown, .int v_at, .int v_isFault, .ref h_p0_told, .int v_tolds, .int r10.2.1, .int r10.2.2.1, .int r10.2.2.2.1, .int r10.2.2.2.2])), (h_p0_now, .inl (cyI, 452, .inl v_now)), (h_p0_text, .inl (cyI, 60, .inl v_text))] hD [1, 2, 0] (by decide) rfl) hS ls (lv_sub hl [2, 1, 0] rfl) h
  have L189 : ∀ (k : Nat), (∀ (v_thrown : Int32) (v_one : Int32) (v_other : Int32) (v_change : Int32) (v_woken : Int32) (x1 : Int64) (x3 : Int32) (H : Heap) (locs : List Loc), va_P (dC, dI) vwCl [(h_p0, .inr (7, [.ref h_p0_now, .ref h_p0_then, .ref h_p0_past, .int v_kept, .ref h_p0_text, .int v_typed, .int v_thrown, .int v_at, .int v_isFault, .ref h_p0_told, .int v_tolds, .int v_one, .int v_other, .int v_change, .int v_woken])), (h_p0_now, .inl (cyI, 452, .inl v_now)), (h_p0_text, .inl (cyI, 60, .inl v_text))] H → va_D A [(h_p0, .inr (7, [.ref h_p0_now, .ref h_p0_then, .ref h_p0_past, .int v_kept, .ref h_p0_text, .int v_typed, .int v_thrown, .int v_at, .int v_isFault, .ref h_p0_told, .int v_tolds, .int v_one, .int v_other, .int v_change, .int v_woken])), (h_p0_now, .inl (cyI, 452, .inl v_now)), (h_p0_text, .inl (cyI, 60, .inl v_text))] → va_S A s.heap H locs → ∀ (ls : Array Slot), lv_has ls 5 [(0, .ref h_p0), (1, .long x1), (3, .int x3)] →  s_X7_digest_L189 n v_kept v_typed v_now v_text k v_thrown v_one v_other v_change v_woken x1 x3 = some o → W p l e (headSpec wsX7_digest ({ frames := 7, cells := 0, slots := 0, locals := 170 })).room s m (([.ref h_p0] : List Value).toArray) below meth c H locs 0 0 (MQ below (va_Ql (S := Unit) (fun r _ => r = o.1) (fun _ t => WLD (dC, dI) A [(h_p0, .inr (7, [.ref h_p0_now, .ref h_p0_then, .ref h_p0_past, .int v_kept, .ref h_p0_text, .int v_typed, .int o.2.1, .int v_at, .int v_isFault, .ref h_p0_told, .int v_tolds, .int o.2.2.1, .int o.2.2.2.1, .int o.2.2.2.2.1, .int o.2.2.2.2.2])), (h_p0_now, .inl (cyI, 452, .inl v_now)), (h_p0_text, .inl (cyI, 60, .inl v_text))] t) A) (([.ref h_p0] : List Value).toArray) s 0 0 A) (F0 m 189 ls [])) := by
    intro k
    induction k with
    | zero =>
      intro  v_thrown v_one v_other v_change v_woken x1 x3 H locs hP hD hS ls hl h
      rw [s_X7_digest_L189] at h
      cases h
    | succ k ih =>
      intro  v_thrown v_one v_other v_change v_woken x1 x3 H locs hP hD hS ls hl h
      rw [s_X7_digest_L189] at h
      refine lv_iload_n hx hb dX7_digest_189 rfl (lv_at hl 2 rfl) ?_
      refine lv_bipush (v := iI 9) hx hb dX7_digest_190 (by decide) ?_
      refine lv_icmp_ge (tgt := 227) hx hb dX7_digest_192 (by decide) (fun c13 => ?_) (fun c13 => ?_)
      · have h := ipos c13 h
        refine lv_iconst (v := iI 0) hx hb dX7_digest_227 rfl ?_
        refine lv_istore_n hx hb dX7_digest_228 rfl hl (by decide) (rfl : _ = ([(3, .int (iI 0)), (0, .ref h_p0), (1, .long x1)] : List (Nat × Value))) (fun ls hl => ?_)
        exact L229 n v_thrown v_one v_other v_change v_woken x1 (iI 0) _ _ hP hD hS ls (lv_sub hl [1, 2, 0] rfl) h
      · have h := ineg c13 h
        refine lv_ldc2 (v := 31) hx hb hown (hts (.constantLong RX7 193 31) m_X7_digest_2) dX7_digest_195 ?_
        refine lv_ldc2 (v := 31) hx hb hown (hts (.constantLong RX7 193 31) m_X7_digest_2) dX7_digest_198 ?_
        refine lv_lload_n hx hb dX7_digest_201 rfl (lv_at hl 1 rfl) ?_
        refine lv_lmul hx hb dX7_digest_202 ?_
        refine lv_aload_n hx hb dX7_digest_203 rfl (lv_at hl 0 rfl) ?_
        refine lv_iload_n hx hb dX7_digest_204 rfl (lv_at hl 2 rfl) ?_
        obtain ⟨r14, e15, h⟩ := bsome h
        have hPc := sb_P [(h_p0, .inr (7, [.ref h_p0_now, .ref h_p0_then, .ref h_p0_past, .int v_kept, .ref h_p0_text, .int v_typed, .int v_thrown, .int v_at, .int v_isFault, .ref h_p0_told, .int v_tolds, .int v_one, .int v_other, .int v_change, .int v_woken])), (h_p0_now, .inl (cyI, 452, .inl v_now))] hP [0, 1] rfl
        have hDc := sb_D [(h_p0, .inr (7, [.ref h_p0_now, .ref h_p0_then, .ref h_p0_past, .int v_kept, .ref h_p0_text, .int v_typed, .int v_thrown, .int v_at, .int v_isFault, .ref h_p0_told, .int v_tolds, .int v_one, .int v_other, .int v_change, .int v_woken])), (h_p0_now, .inl (cyI, 452, .inl v_now))] hD [0, 1] (by decide) rfl
        have hFc := va_free (wc := [(h_p0, .inr (7, [.ref h_p0_now, .ref h_p0_then, .ref h_p0_past, .int v_kept, .ref h_p0_text, .int v_typed, .int v_thrown, .int v_at, .int v_isFault, .ref h_p0_told, .int v_tolds, .int v_one, .int v_other, .int v_change, .int v_woken])), (h_p0_now, .inl (cyI, 452, .inl v_now))]) hD hS hA [0, 1] rfl
        refine va_calli (va_runV (As := [.int x3]) (rest := [.long ((31 : Int64) * x1), .long (31 : Int64)]) ⟨hx, hb, hml, hown, hts⟩ (c_X7_longest l dC dI cyI cyJ cyT h_p0 h_p0_now h_p0_then h_p0_past h_p0_text h_p0_told H.size v_kept v_typed v_thrown v_at v_isFault v_tolds v_one v_other v_change v_woken v_now x3 n r14 e15) (cwV 1 hts gX7_digest_X7_longest rfl rfl rfl (by decide +kernel) ⟨Nat.le_of_ble_eq_true rfl, Nat.le_of_ble_eq_true rfl⟩) ⟨PRE.blind, va_recv hK hPc (ci := 7) (q0 := 0) rfl rfl, PRE.go hK hPc hDc hNW⟩ rfl rfl hl.1 rfl (lv_room (Nat.le_of_ble_eq_true rfl)) dX7_digest_205 ⟨Nat.zero_le _, Nat.zero_le _⟩) hS (fun q _ h => hFc q h) hFc (fun z16 u t H locs ht hvm hw hB hz1 hk1 hS => ?_)
        subst z16
        obtain ⟨hP, hD⟩ := va_join (wr := [(h_p0_text, .inl (cyI, 60, .inl v_text))]) (w1 := [(h_p0, .inr (7, [.ref h_p0_now, .ref h_p0_then, .ref h_p0_past, .int v_kept, .ref h_p0_text, .int v_typed, .int v_thrown, .int v_at, .int v_isFault, .ref h_p0_told, .int v_tolds, .int r14.2.1, .int r14.2.2.1, .int r14.2.2.2.1, .int r14.2.2.2.2])), (h_p0_now, .inl (cyI, 452, .inl v_now))]) hP hD [0, 1] [2] rfl rfl (by decide) (by decide) hk1 hFc (WLD.P hB ht) hB.2
        have hP : va_P (dC, dI) vwCl [(h_p0_text, .inl (cyI, 60, .inl v_text)), (h_p0, .inr (7, [.ref h_p0_now, .ref h_p0_then, .ref h_p0_past, .int v_kept, .ref h_p0_text, .int v_typed, .int v_thrown, .int v_at, .int v_isFault, .ref h_p0_told, .int v_tolds, .int r14.2.1, .int r14.2.2.1, .int r14.2.2.2.1, .int r14.2.2.2.2])), (h_p0_now, .inl (cyI, 452, .inl v_now))] H := hP
        have hD : va_D A [(h_p0_text, .inl (cyI, 60, .inl v_text)), (h_p0, .inr (7, [.ref h_p0_now, .ref h_p0_then, .ref h_p0_past, .int v_kept, .ref h_p0_text, .int v_typed, .int v_thrown, .int v_at, .int v_isFault, .ref h_p0_told, .int v_tolds, .int r14.2.1, .int r14.2.2.1, .int r14.2.2.2.1, .int r14.2.2.2.2])), (h_p0_now, .inl (cyI, 452, .inl v_now))] := hD
        refine lv_i2l hx hb dX7_digest_208 rfl ?_
        refine lv_ladd hx hb dX7_digest_209 ?_
        refine lv_lmul hx hb dX7_digest_210 ?_
        refine lv_aload_n hx hb dX7_digest_211 rfl (lv_at hl 0 rfl) ?_
        refine lv_iload_n hx hb dX7_digest_212 rfl (lv_at hl 2 rfl) ?_
        refine lv_bipush (v := iI 9) hx hb dX7_digest_213 (by decide) ?_
        obtain ⟨r17, e18, h⟩ := bsome h
        have hPc := sb_P [(h_p0, .inr (7, [.ref h_p0_now, .ref h_p0_then, .ref h_p0_past, .int v_kept, .ref h_p0_text, .int v_typed, .int v_thrown, .int v_at, .int v_isFault, .ref h_p0_told, .int v_tolds, .int r14.2.1, .int r14.2.2.1, .int r14.2.2.2.1, .int r14.2.2.2.2])), (h_p0_now, .inl (cyI, 452, .inl v_now))] hP [1, 2] rfl
        have hDc := sb_D [(h_p0, .inr (7, [.ref h_p0_now, .ref h_p0_then, .ref h_p0_past, .int v_kept, .ref h_p0_text, .int v_typed, .int v_thrown, .int v_at, .int v_isFault, .ref h_p0_told, .int v_tolds, .int r14.2.1, .int r14.2.2.1, .int r14.2.2.2.1, .int r14.2.2.2.2])), (h_p0_now, .inl (cyI, 452, .inl v_now))] hD [1, 2] (by decide) rfl
        have hFc := va_free (wc := [(h_p0, .inr (7, [.ref h_p0_now, .ref h_p0_then, .ref h_p0_past, .int v_kept, .ref h_p0_text, .int v_typed, .int v_thrown, .int v_at, .int v_isFault, .ref h_p0_told, .int v_tolds, .int r14.2.1, .int r14.2.2.1, .int r14.2.2.2.1, .int r14.2.2.2.2])), (h_p0_now, .inl (cyI, 452, .inl v_now))]) hD hS hA [1, 2] rfl
        refine va_calli (va_runV (As := [.int x3, .int (iI 9)]) (rest := [.long ((31 : Int64) * (((31 : Int64) * x1) + r14.1.toInt64))]) ⟨hx, hb, hml, hown, hts⟩ (c_X7_reason l dC dI cyI cyJ cyT h_p0 h_p0_now h_p0_then h_p0_past h_p0_text h_p0_told H.size v_kept v_typed v_thrown v_at v_isFault v_tolds r14.2.1 r14.2.2.1 r14.2.2.2.1 r14.2.2.2.2 v_now x3 (iI 9) n r17 e18) (cwV 2 hts gX7_digest_X7_reason rfl rfl rfl (by decide +kernel) ⟨Nat.le_of_ble_eq_true rfl, Nat.le_of_ble_eq_true rfl⟩) ⟨PRE.blind, va_recv hK hPc (ci := 7) (q0 := 0) rfl rfl, PRE.go hK hPc hDc hNW⟩ rfl rfl hl.1 rfl (lv_room (Nat.le_of_ble_eq_true rfl)) dX7_digest_215 ⟨Nat.zero_le _, Nat.zero_le _⟩) hS (fun q _ h => hFc q h) hFc (fun z19 u t H locs ht hvm hw hB hz1 hk1 hS => ?_)
        subst z19
        obtain ⟨hP, hD⟩ := va_join (wr := [(h_p0_text, .inl (cyI, 60, .inl v_text))]) (w1 := [(h_p0, .inr (7, [.ref h_p0_now, .ref h_p0_then, .ref h_p0_past, .int v_kept, .ref h_p0_text, .int v_typed, .int v_thrown, .int v_at, .int v_isFault, .ref h_p0_told, .int v_tolds, .int r17.2.1, .int r17.2.2.1, .int r17.2.2.2.1, .int r17.2.2.2.2])), (h_p0_now, .inl (cyI, 452, .inl v_now))]) hP hD [1, 2] [0] rfl rfl (by decide) (by decide) hk1 hFc (WLD.P hB ht) hB.2
        have hP : va_P (dC, dI) vwCl [(h_p0_text, .inl (cyI, 60, .inl v_text)), (h_p0, .inr (7, [.ref h_p0_now, .ref h_p0_then, .ref h_p0_past, .int v_kept, .ref h_p0_text, .int v_typed, .int v_thrown, .int v_at, .int v_isFault, .ref h_p0_told, .int v_tolds, .int r17.2.1, .int r17.2.2.1, .int r17.2.2.2.1, .int r17.2.2.2.2])), (h_p0_now, .inl (cyI, 452, .inl v_now))] H := hP
        have hD : va_D A [(h_p0_text, .inl (cyI, 60, .inl v_text)), (h_p0, .inr (7, [.ref h_p0_now, .ref h_p0_then, .ref h_p0_past, .int v_kept, .ref h_p0_text, .int v_typed, .int v_thrown, .int v_at, .int v_isFault, .ref h_p0_told, .int v_tolds, .int r17.2.1, .int r17.2.2.1, .int r17.2.2.2.1, .int r17.2.2.2.2])), (h_p0_now, .inl (cyI, 452, .inl v_now))] := hD
        refine lv_i2l hx hb dX7_digest_218 rfl ?_
        refine lv_ladd hx hb dX7_digest_219 ?_
        refine lv_lstore_n hx hb dX7_digest_220 rfl hl (by decide) (rfl : _ = ([(1, .long (((31 : Int64) * (((31 : Int64) * x1) + r14.1.toInt64)) + r17.1.toInt64)), (0, .ref h_p0), (3, .int x3)] : List (Nat × Value))) (fun ls hl => ?_)
        refine lv_iinc (v := (x3 + iI 1)) hx hb dX7_digest_221 hl (k := 2) rfl rfl (by decide) (rfl : _ = ([(3, .int (x3 + iI 1)), (1, .long (((31 : Int64) * (((31 : Int64) * x1) + r14.1.toInt64)) + r17.1.toInt64)), (0, .ref h_p0)] : List (Nat × Value))) (fun ls hl => ?_)
        refine lv_goto (tgt := 189) hx hb dX7_digest_224 (by decide) ?_
        exact ih v_thrown r17.2.1 r17.2.2.1 r17.2.2.2.1 r17.2.2.2.2 (((31 : Int64) * (((31 : Int64) * x1) + r14.1.toInt64)) + r17.1.toInt64) (x3 + iI 1) _ _ (sb_P [(h_p0, .inr (7, [.ref h_p0_now, .ref h_p0_then, .ref h_p0_past, .int v_kept, .ref h_p0_text, .int v_typed, .int v_thrown, .int v_at, .int v_isFault, .ref h_p0_told, .int v_tolds, .int r17.2.1, .int r17.2.2.1, .int r17.2.2.2.1, .int r17.2.2.2.2])), (h_p0_now, .inl (cyI, 452, .inl v_now)), (h_p0_text, .inl (cyI, 60, .inl v_text))] hP [1, 2, 0] rfl) (sb_D [(h_p0, .inr (7, [.ref h_p0_now, .ref h_p0_then, .ref h_p0_past, .int v_kept, .ref h_p0_text, .int v_typed, .int v_thrown, .int v_at, .int v_isFault, .ref h_p0_told, .int v_tolds, .int r17.2.1, .int r17.2.2.1, .int r17.2.2.2.1, .int r17.2.2.2.2])), (h_p0_now, .inl (cyI, 452, .inl v_now)), (h_p0_text, .inl (cyI, 60, .inl v_text))] hD [1, 2, 0] (by decide) rfl) hS ls (lv_sub hl [2, 1, 0] rfl) h
  have L149 : ∀ (k : Nat), (∀ (v_thrown : Int32) (v_one : Int32) (v_other : Int32) (v_change : Int32) (v_woken : Int32) (x1 : Int64) (x3 : Int32) (H : Heap) (locs : List Loc), va_P (dC, dI) vwCl [(h_p0, .inr (7, [.ref h_p0_now, .ref h_p0_then, .ref h_p0_past, .int v_kept, .ref h_p0_text, .int v_typed, .int v_thrown, .int v_at, .int v_isFault, .ref h_p0_told, .int v_tolds, .int v_one, .int v_other, .int v_change, .int v_woken])), (h_p0_now, .inl (cyI, 452, .inl v_now)), (h_p0_text, .inl (cyI, 60, .inl v_text))] H → va_D A [(h_p0, .inr (7, [.ref h_p0_now, .ref h_p0_then, .ref h_p0_past, .int v_kept, .ref h_p0_text, .int v_typed, .int v_thrown, .int v_at, .int v_isFault, .ref h_p0_told, .int v_tolds, .int v_one, .int v_other, .int v_change, .int v_woken])), (h_p0_now, .inl (cyI, 452, .inl v_now)), (h_p0_text, .inl (cyI, 60, .inl v_text))] → va_S A s.heap H locs → ∀ (ls : Array Slot), lv_has ls 5 [(0, .ref h_p0), (1, .long x1), (3, .int x3)] →  s_X7_digest_L149 n v_kept v_typed v_now v_text k v_thrown v_one v_other v_change v_woken x1 x3 = some o → W p l e (headSpec wsX7_digest ({ frames := 7, cells := 0, slots := 0, locals := 170 })).room s m (([.ref h_p0] : List Value).toArray) below meth c H locs 0 0 (MQ below (va_Ql (S := Unit) (fun r _ => r = o.1) (fun _ t => WLD (dC, dI) A [(h_p0, .inr (7, [.ref h_p0_now, .ref h_p0_then, .ref h_p0_past, .int v_kept, .ref h_p0_text, .int v_typed, .int o.2.1, .int v_at, .int v_isFault, .ref h_p0_told, .int v_tolds, .int o.2.2.1, .int o.2.2.2.1, .int o.2.2.2.2.1, .int o.2.2.2.2.2])), (h_p0_now, .inl (cyI, 452, .inl v_now)), (h_p0_text, .inl (cyI, 60, .inl v_text))] t) A) (([.ref h_p0] : List Value).toArray) s 0 0 A) (F0 m 149 ls [])) := by
    intro k
    induction k with
    | zero =>
      intro  v_thrown v_one v_other v_change v_woken x1 x3 H locs hP hD hS ls hl h
      rw [s_X7_digest_L149] at h
      cases h
    | succ k ih =>
      intro  v_thrown v_one v_other v_change v_woken x1 x3 H locs hP hD hS ls hl h
      rw [s_X7_digest_L149] at h
      refine lv_iload_n hx hb dX7_digest_149 rfl (lv_at hl 2 rfl) ?_
      refine lv_bipush (v := iI 9) hx hb dX7_digest_150 (by decide) ?_
      refine lv_icmp_ge (tgt := 187) hx hb dX7_digest_152 (by decide) (fun c20 => ?_) (fun c20 => ?_)
      · have h := ipos c20 h
        refine lv_iconst (v := iI 0) hx hb dX7_digest_187 rfl ?_
        refine lv_istore_n hx hb dX7_digest_188 rfl hl (by decide) (rfl : _ = ([(3, .int (iI 0)), (0, .ref h_p0), (1, .long x1)] : List (Nat × Value))) (fun ls hl => ?_)
        exact L189 n v_thrown v_one v_other v_change v_woken x1 (iI 0) _ _ hP hD hS ls (lv_sub hl [1, 2, 0] rfl) h
      · have h := ineg c20 h
        refine lv_ldc2 (v := 31) hx hb hown (hts (.constantLong RX7 193 31) m_X7_digest_2) dX7_digest_155 ?_
        refine lv_ldc2 (v := 31) hx hb hown (hts (.constantLong RX7 193 31) m_X7_digest_2) dX7_digest_158 ?_
        refine lv_lload_n hx hb dX7_digest_161 rfl (lv_at hl 1 rfl) ?_
        refine lv_lmul hx hb dX7_digest_162 ?_
        refine lv_aload_n hx hb dX7_digest_163 rfl (lv_at hl 0 rfl) ?_
        refine lv_iload_n hx hb dX7_digest_164 rfl (lv_at hl 2 rfl) ?_
        refine lv_iconst (v := iI 0) hx hb dX7_digest_165 rfl ?_
        obtain ⟨r21, e22, h⟩ := bsome h
        have hPc := sb_P [(h_p0, .inr (7, [.ref h_p0_now, .ref h_p0_then, .ref h_p0_past, .int v_kept, .ref h_p0_text, .int v_typed, .int v_thrown, .int v_at, .int v_isFault, .ref h_p0_told, .int v_tolds, .int v_one, .int v_other, .int v_change, .int v_woken])), (h_p0_now, .inl (cyI, 452, .inl v_now))] hP [0, 1] rfl
        have hDc := sb_D [(h_p0, .inr (7, [.ref h_p0_now, .ref h_p0_then, .ref h_p0_past, .int v_kept, .ref h_p0_text, .int v_typed, .int v_thrown, .int v_at, .int v_isFault, .ref h_p0_told, .int v_tolds, .int v_one, .int v_other, .int v_change, .int v_woken])), (h_p0_now, .inl (cyI, 452, .inl v_now))] hD [0, 1] (by decide) rfl
        have hFc := va_free (wc := [(h_p0, .inr (7, [.ref h_p0_now, .ref h_p0_then, .ref h_p0_past, .int v_kept, .ref h_p0_text, .int v_typed, .int v_thrown, .int v_at, .int v_isFault, .ref h_p0_told, .int v_tolds, .int v_one, .int v_other, .int v_change, .int v_woken])), (h_p0_now, .inl (cyI, 452, .inl v_now))]) hD hS hA [0, 1] rfl
        refine va_calli (va_runV (As := [.int x3, .int (iI 0)]) (rest := [.long ((31 : Int64) * x1), .long (31 : Int64)]) ⟨hx, hb, hml, hown, hts⟩ (c_X7_freeOn l dC dI cyI cyJ cyT h_p0 h_p0_now h_p0_then h_p0_past h_p0_text h_p0_told H.size v_kept v_typed v_thrown v_at v_isFault v_tolds v_one v_other v_change v_woken v_now x3 (iI 0) n r21 e22) (cwV 2 hts gX7_digest_X7_freeOn rfl rfl rfl (by decide +kernel) ⟨Nat.le_of_ble_eq_true rfl, Nat.le_of_ble_eq_true rfl⟩) ⟨PRE.blind, va_recv hK hPc (ci := 7) (q0 := 0) rfl rfl, PRE.go hK hPc hDc hNW⟩ rfl rfl hl.1 rfl (lv_room (Nat.le_of_ble_eq_true rfl)) dX7_digest_166 ⟨Nat.zero_le _, Nat.zero_le _⟩) hS (fun q _ h => hFc q h) hFc (fun z23 u t H locs ht hvm hw hB hz1 hk1 hS => ?_)
        subst z23
        obtain ⟨hP, hD⟩ := va_join (wr := [(h_p0_text, .inl (cyI, 60, .inl v_text))]) (w1 := [(h_p0, .inr (7, [.ref h_p0_now, .ref h_p0_then, .ref h_p0_past, .int v_kept, .ref h_p0_text, .int v_typed, .int v_thrown, .int v_at, .int v_isFault, .ref h_p0_told, .int v_tolds, .int v_one, .int v_other, .int v_change, .int v_woken])), (h_p0_now, .inl (cyI, 452, .inl v_now))]) hP hD [0, 1] [2] rfl rfl (by decide) (by decide) hk1 hFc (WLD.P hB ht) hB.2
        have hP : va_P (dC, dI) vwCl [(h_p0_text, .inl (cyI, 60, .inl v_text)), (h_p0, .inr (7, [.ref h_p0_now, .ref h_p0_then, .ref h_p0_past, .int v_kept, .ref h_p0_text, .int v_typed, .int v_thrown, .int v_at, .int v_isFault, .ref h_p0_told, .int v_tolds, .int v_one, .int v_other, .int v_change, .int v_woken])), (h_p0_now, .inl (cyI, 452, .inl v_now))] H := hP
        have hD : va_D A [(h_p0_text, .inl (cyI, 60, .inl v_text)), (h_p0, .inr (7, [.ref h_p0_now, .ref h_p0_then, .ref h_p0_past, .int v_kept, .ref h_p0_text, .int v_typed, .int v_thrown, .int v_at, .int v_isFault, .ref h_p0_told, .int v_tolds, .int v_one, .int v_other, .int v_change, .int v_woken])), (h_p0_now, .inl (cyI, 452, .inl v_now))] := hD
        refine lv_i2l hx hb dX7_digest_169 rfl ?_
        refine lv_ladd hx hb dX7_digest_170 ?_
        refine lv_lmul hx hb dX7_digest_171 ?_
        refine lv_aload_n hx hb dX7_digest_172 rfl (lv_at hl 0 rfl) ?_
        refine lv_iload_n hx hb dX7_digest_173 rfl (lv_at hl 2 rfl) ?_
        refine lv_iconst (v := iI 1) hx hb dX7_digest_174 rfl ?_
        obtain ⟨r24, e25, h⟩ := bsome h
        have hPc := sb_P [(h_p0, .inr (7, [.ref h_p0_now, .ref h_p0_then, .ref h_p0_past, .int v_kept, .ref h_p0_text, .int v_typed, .int v_thrown, .int v_at, .int v_isFault, .ref h_p0_told, .int v_tolds, .int v_one, .int v_other, .int v_change, .int v_woken])), (h_p0_now, .inl (cyI, 452, .inl v_now))] hP [1, 2] rfl
        have hDc := sb_D [(h_p0, .inr (7, [.ref h_p0_now, .ref h_p0_then, .ref h_p0_past, .int v_kept, .ref h_p0_text, .int v_typed, .int v_thrown, .int v_at, .int v_isFault, .ref h_p0_told, .int v_tolds, .int v_one, .int v_other, .int v_change, .int v_woken])), (h_p0_now, .inl (cyI, 452, .inl v_now))] hD [1, 2] (by decide) rfl
        have hFc := va_free (wc := [(h_p0, .inr (7, [.ref h_p0_now, .ref h_p0_then, .ref h_p0_past, .int v_kept, .ref h_p0_text, .int v_typed, .int v_thrown, .int v_at, .int v_isFault, .ref h_p0_told, .int v_tolds, .int v_one, .int v_other, .int v_change, .int v_woken])), (h_p0_now, .inl (cyI, 452, .inl v_now))]) hD hS hA [1, 2] rfl
        refine va_calli (va_runV (As := [.int x3, .int (iI 1)]) (rest := [.long ((31 : Int64) * (((31 : Int64) * x1) + r21.toInt64))]) ⟨hx, hb, hml, hown, hts⟩ (c_X7_freeOn l dC dI cyI cyJ cyT h_p0 h_p0_now h_p0_then h_p0_past h_p0_text h_p0_told H.size v_kept v_typed v_thrown v_at v_isFault v_tolds v_one v_other v_change v_woken v_now x3 (iI 1) n r24 e25) (cwV 2 hts gX7_digest_X7_freeOn rfl rfl rfl (by decide +kernel) ⟨Nat.le_of_ble_eq_true rfl, Nat.le_of_ble_eq_true rfl⟩) ⟨PRE.blind, va_recv hK hPc (ci := 7) (q0 := 0) rfl rfl, PRE.go hK hPc hDc hNW⟩ rfl rfl hl.1 rfl (lv_room (Nat.le_of_ble_eq_true rfl)) dX7_digest_175 ⟨Nat.zero_le _, Nat.zero_le _⟩) hS (fun q _ h => hFc q h) hFc (fun z26 u t H locs ht hvm hw hB hz1 hk1 hS => ?_)
        subst z26
        obtain ⟨hP, hD⟩ := va_join (wr := [(h_p0_text, .inl (cyI, 60, .inl v_text))]) (w1 := [(h_p0, .inr (7, [.ref h_p0_now, .ref h_p0_then, .ref h_p0_past, .int v_kept, .ref h_p0_text, .int v_typed, .int v_thrown, .int v_at, .int v_isFault, .ref h_p0_told, .int v_tolds, .int v_one, .int v_other, .int v_change, .int v_woken])), (h_p0_now, .inl (cyI, 452, .inl v_now))]) hP hD [1, 2] [0] rfl rfl (by decide) (by decide) hk1 hFc (WLD.P hB ht) hB.2
        have hP : va_P (dC, dI) vwCl [(h_p0_text, .inl (cyI, 60, .inl v_text)), (h_p0, .inr (7, [.ref h_p0_now, .ref h_p0_then, .ref h_p0_past, .int v_kept, .ref h_p0_text, .int v_typed, .int v_thrown, .int v_at, .int v_isFault, .ref h_p0_told, .int v_tolds, .int v_one, .int v_other, .int v_change, .int v_woken])), (h_p0_now, .inl (cyI, 452, .inl v_now))] H := hP
        have hD : va_D A [(h_p0_text, .inl (cyI, 60, .inl v_text)), (h_p0, .inr (7, [.ref h_p0_now, .ref h_p0_then, .ref h_p0_past, .int v_kept, .ref h_p0_text, .int v_typed, .int v_thrown, .int v_at, .int v_isFault, .ref h_p0_told, .int v_tolds, .int v_one, .int v_other, .int v_change, .int v_woken])), (h_p0_now, .inl (cyI, 452, .inl v_now))] := hD
        refine lv_i2l hx hb dX7_digest_178 rfl ?_
        refine lv_ladd hx hb dX7_digest_179 ?_
        refine lv_lstore_n hx hb dX7_digest_180 rfl hl (by decide) (rfl : _ = ([(1, .long (((31 : Int64) * (((31 : Int64) * x1) + r21.toInt64)) + r24.toInt64)), (0, .ref h_p0), (3, .int x3)] : List (Nat × Value))) (fun ls hl => ?_)
        refine lv_iinc (v := (x3 + iI 1)) hx hb dX7_digest_181 hl (k := 2) rfl rfl (by decide) (rfl : _ = ([(3, .int (x3 + iI 1)), (1, .long (((31 : Int64) * (((31 : Int64) * x1) + r21.toInt64)) + r24.toInt64)), (0, .ref h_p0)] : List (Nat × Value))) (fun ls hl => ?_)
        refine lv_goto (tgt := 149) hx hb dX7_digest_184 (by decide) ?_
        exact ih v_thrown v_one v_other v_change v_woken (((31 : Int64) * (((31 : Int64) * x1) + r21.toInt64)) + r24.toInt64) (x3 + iI 1) _ _ (sb_P [(h_p0, .inr (7, [.ref h_p0_now, .ref h_p0_then, .ref h_p0_past, .int v_kept, .ref h_p0_text, .int v_typed, .int v_thrown, .int v_at, .int v_isFault, .ref h_p0_told, .int v_tolds, .int v_one, .int v_other, .int v_change, .int v_woken])), (h_p0_now, .inl (cyI, 452, .inl v_now)), (h_p0_text, .inl (cyI, 60, .inl v_text))] hP [1, 2, 0] rfl) (sb_D [(h_p0, .inr (7, [.ref h_p0_now, .ref h_p0_then, .ref h_p0_past, .int v_kept, .ref h_p0_text, .int v_typed, .int v_thrown, .int v_at, .int v_isFault, .ref h_p0_told, .int v_tolds, .int v_one, .int v_other, .int v_change, .int v_woken])), (h_p0_now, .inl (cyI, 452, .inl v_now)), (h_p0_text, .inl (cyI, 60, .inl v_text))] hD [1, 2, 0] (by decide) rfl) hS ls (lv_sub hl [2, 1, 0] rfl) h
  have L99 : ∀ (k : Nat), (∀ (v_thrown : Int32) (v_one : Int32) (v_other : Int32) (v_change : Int32) (v_woken : Int32) (x1 : Int64) (x3 : Int32) (H : Heap) (locs : List Loc), va_P (dC, dI) vwCl [(h_p0, .inr (7, [.ref h_p0_now, .ref h_p0_then, .ref h_p0_past, .int v_kept, .ref h_p0_text, .int v_typed, .int v_thrown, .int v_at, .int v_isFault, .ref h_p0_told, .int v_tolds, .int v_one, .int v_other, .int v_change, .int v_woken])), (h_p0_now, .inl (cyI, 452, .inl v_now)), (h_p0_text, .inl (cyI, 60, .inl v_text))] H → va_D A [(h_p0, .inr (7, [.ref h_p0_now, .ref h_p0_then, .ref h_p0_past, .int v_kept, .ref h_p0_text, .int v_typed, .int v_thrown, .int v_at, .int v_isFault, .ref h_p0_told, .int v_tolds, .int v_one, .int v_other, .int v_change, .int v_woken])), (h_p0_now, .inl (cyI, 452, .inl v_now)), (h_p0_text, .inl (cyI, 60, .inl v_text))] → va_S A s.heap H locs → ∀ (ls : Array Slot), lv_has ls 5 [(0, .ref h_p0), (1, .long x1), (3, .int x3)] →  (s_X7_digest_L99 n v_kept v_typed v_now v_text k).1 v_thrown v_one v_other v_change v_woken x1 x3 = some o → W p l e (headSpec wsX7_digest ({ frames := 7, cells := 0, slots := 0, locals := 170 })).room s m (([.ref h_p0] : List Value).toArray) below meth c H locs 0 0 (MQ below (va_Ql (S := Unit) (fun r _ => r = o.1) (fun _ t => WLD (dC, dI) A [(h_p0, .inr (7, [.ref h_p0_now, .ref h_p0_then, .ref h_p0_past, .int v_kept, .ref h_p0_text, .int v_typed, .int o.2.1, .int v_at, .int v_isFault, .ref h_p0_told, .int v_tolds, .int o.2.2.1, .int o.2.2.2.1, .int o.2.2.2.2.1, .int o.2.2.2.2.2])), (h_p0_now, .inl (cyI, 452, .inl v_now)), (h_p0_text, .inl (cyI, 60, .inl v_text))] t) A) (([.ref h_p0] : List Value).toArray) s 0 0 A) (F0 m 99 ls [])) ∧ (∀ (v_thrown : Int32) (v_one : Int32) (v_other : Int32) (v_change : Int32) (v_woken : Int32) (x1 : Int64) (x3 : Int32) (x4 : Int32) (H : Heap) (locs : List Loc), va_P (dC, dI) vwCl [(h_p0, .inr (7, [.ref h_p0_now, .ref h_p0_then, .ref h_p0_past, .int v_kept, .ref h_p0_text, .int v_typed, .int v_thrown, .int v_at, .int v_isFault, .ref h_p0_told, .int v_tolds, .int v_one, .int v_other, .int v_change, .int v_woken])), (h_p0_now, .inl (cyI, 452, .inl v_now)), (h_p0_text, .inl (cyI, 60, .inl v_text))] H → va_D A [(h_p0, .inr (7, [.ref h_p0_now, .ref h_p0_then, .ref h_p0_past, .int v_kept, .ref h_p0_text, .int v_typed, .int v_thrown, .int v_at, .int v_isFault, .ref h_p0_told, .int v_tolds, .int v_one, .int v_other, .int v_change, .int v_woken])), (h_p0_now, .inl (cyI, 452, .inl v_now)), (h_p0_text, .inl (cyI, 60, .inl v_text))] → va_S A s.heap H locs → ∀ (ls : Array Slot), lv_has ls 5 [(0, .ref h_p0), (1, .long x1), (3, .int x3), (4, .int x4)] →  (s_X7_digest_L99 n v_kept v_typed v_now v_text k).2 v_thrown v_one v_other v_change v_woken x1 x3 x4 = some o → W p l e (headSpec wsX7_digest ({ frames := 7, cells := 0, slots := 0, locals := 170 })).room s m (([.ref h_p0] : List Value).toArray) below meth c H locs 0 0 (MQ below (va_Ql (S := Unit) (fun r _ => r = o.1) (fun _ t => WLD (dC, dI) A [(h_p0, .inr (7, [.ref h_p0_now, .ref h_p0_then, .ref h_p0_past, .int v_kept, .ref h_p0_text, .int v_typed, .int o.2.1, .int v_at, .int v_isFault, .ref h_p0_told, .int v_tolds, .int o.2.2.1, .int o.2.2.2.1, .int o.2.2.2.2.1, .int o.2.2.2.2.2])), (h_p0_now, .inl (cyI, 452, .inl v_now)), (h_p0_text, .inl (cyI, 60, .inl v_text))] t) A) (([.ref h_p0] : List Value).toArray) s 0 0 A) (F0 m 113 ls [])) := by
    intro k
    induction k with
    | zero =>
      refine ⟨?_, ?_⟩
      · intro  v_thrown v_one v_other v_change v_woken x1 x3 H locs hP hD hS ls hl h
        have h : none = some o := h
        cases h
      · intro  v_thrown v_one v_other v_change v_woken x1 x3 x4 H locs hP hD hS ls hl h
        have h : none = some o := h
        cases h
    | succ k ih =>
      refine ⟨?_, ?_⟩
      · intro  v_thrown v_one v_other v_change v_woken x1 x3 H locs hP hD hS ls hl h
        have h : (if gd (iI 6) 452 = true then (if (v_now (iI 6).toNatClampNeg) ≤ x3 then (s_X7_digest_L149 n v_kept v_typed v_now v_text n v_thrown v_one v_other v_change v_woken x1 (iI 0)) else ((s_X7_digest_L99 n v_kept v_typed v_now v_text k).2 v_thrown v_one v_other v_change v_woken x1 x3 (iI 0))) else none) = some o := h
        refine lv_iload_n hx hb dX7_digest_99 rfl (lv_at hl 2 rfl) ?_
        refine lv_aload_n hx hb dX7_digest_100 rfl (lv_at hl 0 rfl) ?_
        refine va_get (D := (dC, dI)) (ci := 7) (v := .ref h_p0_now) (C := RX7) (T := TX7) (N := 15) hx hb hts m_X7_digest_0 hown hK hP 0 rfl rfl 0 (by decide) (hts (.fieldLink RX7 7 "SleeperBerthsModel" "now" "[I") m_X7_digest_4) (fun _ h9 => h9) rfl dX7_digest_101 ?_
        refine lv_bipush (v := iI 6) hx hb dX7_digest_104 (by decide) ?_
        obtain ⟨g27, h⟩ := gsome h
        refine va_iald (D := (dC, dI)) hx hb hK hP 1 0 rfl rfl g27 dX7_digest_106 ?_
        refine lv_icmp_ge (tgt := 147) hx hb dX7_digest_107 (by decide) (fun c28 => ?_) (fun c28 => ?_)
        · have h := ipos c28 h
          refine lv_iconst (v := iI 0) hx hb dX7_digest_147 rfl ?_
          refine lv_istore_n hx hb dX7_digest_148 rfl hl (by decide) (rfl : _ = ([(3, .int (iI 0)), (0, .ref h_p0), (1, .long x1)] : List (Nat × Value))) (fun ls hl => ?_)
          exact L149 n v_thrown v_one v_other v_change v_woken x1 (iI 0) _ _ hP hD hS ls (lv_sub hl [1, 2, 0] rfl) h
        · have h := ineg c28 h
          refine lv_iconst (v := iI 0) hx hb dX7_digest_110 rfl ?_
          refine lv_istore hx hb dX7_digest_111 hl (by decide) (rfl : _ = ([(4, .int (iI 0)), (0, .ref h_p0), (1, .long x1), (3, .int x3)] : List (Nat × Value))) (fun ls hl => ?_)
          exact (ih).2 v_thrown v_one v_other v_change v_woken x1 x3 (iI 0) _ _ hP hD hS ls (lv_sub hl [1, 2, 3, 0] rfl) h
      · intro  v_thrown v_one v_other v_change v_woken x1 x3 x4 H locs hP hD hS ls hl h
        have h : (if iI 9 ≤ x4 then ((s_X7_digest_L99 n v_kept v_typed v_now v_text k).1 v_thrown v_one v_other v_change v_woken x1 (x3 + iI 1)) else ((s_X7_ofPassenger n v_now x3 x4).bind fun r30 => ((s_X7_digest_L99 n v_kept v_typed v_now v_text k).2 v_thrown v_one v_other v_change v_woken (((31 : Int64) * x1) + r30.toInt64) x3 (x4 + iI 1)))) = some o := h
        refine lv_iload hx hb dX7_digest_113 (lv_at hl 3 rfl) ?_
        refine lv_bipush (v := iI 9) hx hb dX7_digest_115 (by decide) ?_
        refine lv_icmp_ge (tgt := 141) hx hb dX7_digest_117 (by decide) (fun c29 => ?_) (fun c29 => ?_)
        · have h := ipos c29 h
          refine lv_iinc (v := (x3 + iI 1)) hx hb dX7_digest_141 hl (k := 2) rfl rfl (by decide) (rfl : _ = ([(3, .int (x3 + iI 1)), (0, .ref h_p0), (1, .long x1), (4, .int x4)] : List (Nat × Value))) (fun ls hl => ?_)
          refine lv_goto (tgt := 99) hx hb dX7_digest_144 (by decide) ?_
          exact (ih).1 v_thrown v_one v_other v_change v_woken x1 (x3 + iI 1) _ _ hP hD hS ls (lv_sub hl [1, 2, 0] rfl) h
        · have h := ineg c29 h
          refine lv_ldc2 (v := 31) hx hb hown (hts (.constantLong RX7 193 31) m_X7_digest_2) dX7_digest_120 ?_
          refine lv_lload_n hx hb dX7_digest_123 rfl (lv_at hl 1 rfl) ?_
          refine lv_lmul hx hb dX7_digest_124 ?_
          refine lv_aload_n hx hb dX7_digest_125 rfl (lv_at hl 0 rfl) ?_
          refine lv_iload_n hx hb dX7_digest_126 rfl (lv_at hl 2 rfl) ?_
          refine lv_iload hx hb dX7_digest_127 (lv_at hl 3 rfl) ?_
          obtain ⟨r30, e31, h⟩ := bsome h
          have hPc := sb_P [(h_p0, .inr (7, [.ref h_p0_now, .ref h_p0_then, .ref h_p0_past, .int v_kept, .ref h_p0_text, .int v_typed, .int v_thrown, .int v_at, .int v_isFault, .ref h_p0_told, .int v_tolds, .int v_one, .int v_other, .int v_change, .int v_woken])), (h_p0_now, .inl (cyI, 452, .inl v_now))] hP [0, 1] rfl
          have hDc := sb_D [(h_p0, .inr (7, [.ref h_p0_now, .ref h_p0_then, .ref h_p0_past, .int v_kept, .ref h_p0_text, .int v_typed, .int v_thrown, .int v_at, .int v_isFault, .ref h_p0_told, .int v_tolds, .int v_one, .int v_other, .int v_change, .int v_woken])), (h_p0_now, .inl (cyI, 452, .inl v_now))] hD [0, 1] (by decide) rfl
          have hFc := va_free (wc := [(h_p0, .inr (7, [.ref h_p0_now, .ref h_p0_then, .ref h_p0_past, .int v_kept, .ref h_p0_text, .int v_typed, .int v_thrown, .int v_at, .int v_isFault, .ref h_p0_told, .int v_tolds, .int v_one, .int v_other, .int v_change, .int v_woken])), (h_p0_now, .inl (cyI, 452, .inl v_now))]) hD hS hA [0, 1] rfl
          refine va_calli (va_runV (As := [.int x3, .int x4]) (rest := [.long ((31 : Int64) * x1)]) ⟨hx, hb, hml, hown, hts⟩ (c_X7_ofPassenger l dC dI cyI cyJ cyT h_p0 h_p0_now h_p0_then h_p0_past h_p0_text h_p0_told H.size v_kept v_typed v_thrown v_at v_isFault v_tolds v_one v_other v_change v_woken v_now x3 x4 n r30 e31) (cwV 2 hts gX7_digest_X7_ofPassenger rfl rfl rfl (by decide +kernel) ⟨Nat.le_of_ble_eq_true rfl, Nat.le_of_ble_eq_true rfl⟩) ⟨PRE.blind, va_recv hK hPc (ci := 7) (q0 := 0) rfl rfl, PRE.go hK hPc hDc hNW⟩ rfl rfl hl.1 rfl (lv_room (Nat.le_of_ble_eq_true rfl)) dX7_digest_129 ⟨Nat.zero_le _, Nat.zero_le _⟩) hS (fun q _ h => hFc q h) hFc (fun z32 u t H locs ht hvm hw hB hz1 hk1 hS => ?_)
          subst z32
          obtain ⟨hP, hD⟩ := va_join (wr := [(h_p0_text, .inl (cyI, 60, .inl v_text))]) (w1 := [(h_p0, .inr (7, [.ref h_p0_now, .ref h_p0_then, .ref h_p0_past, .int v_kept, .ref h_p0_text, .int v_typed, .int v_thrown, .int v_at, .int v_isFault, .ref h_p0_told, .int v_tolds, .int v_one, .int v_other, .int v_change, .int v_woken])), (h_p0_now, .inl (cyI, 452, .inl v_now))]) hP hD [0, 1] [2] rfl rfl (by decide) (by decide) hk1 hFc (WLD.P hB ht) hB.2
          have hP : va_P (dC, dI) vwCl [(h_p0_text, .inl (cyI, 60, .inl v_text)), (h_p0, .inr (7, [.ref h_p0_now, .ref h_p0_then, .ref h_p0_past, .int v_kept, .ref h_p0_text, .int v_typed, .int v_thrown, .int v_at, .int v_isFault, .ref h_p0_told, .int v_tolds, .int v_one, .int v_other, .int v_change, .int v_woken])), (h_p0_now, .inl (cyI, 452, .inl v_now))] H := hP
          have hD : va_D A [(h_p0_text, .inl (cyI, 60, .inl v_text)), (h_p0, .inr (7, [.ref h_p0_now, .ref h_p0_then, .ref h_p0_past, .int v_kept, .ref h_p0_text, .int v_typed, .int v_thrown, .int v_at, .int v_isFault, .ref h_p0_told, .int v_tolds, .int v_one, .int v_other, .int v_change, .int v_woken])), (h_p0_now, .inl (cyI, 452, .inl v_now))] := hD
          refine lv_i2l hx hb dX7_digest_132 rfl ?_
          refine lv_ladd hx hb dX7_digest_133 ?_
          refine lv_lstore_n hx hb dX7_digest_134 rfl hl (by decide) (rfl : _ = ([(1, .long (((31 : Int64) * x1) + r30.toInt64)), (0, .ref h_p0), (3, .int x3), (4, .int x4)] : List (Nat × Value))) (fun ls hl => ?_)
          refine lv_iinc (v := (x4 + iI 1)) hx hb dX7_digest_135 hl (k := 3) rfl rfl (by decide) (rfl : _ = ([(4, .int (x4 + iI 1)), (1, .long (((31 : Int64) * x1) + r30.toInt64)), (0, .ref h_p0), (3, .int x3)] : List (Nat × Value))) (fun ls hl => ?_)
          refine lv_goto (tgt := 113) hx hb dX7_digest_138 (by decide) ?_
          exact (ih).2 v_thrown v_one v_other v_change v_woken (((31 : Int64) * x1) + r30.toInt64) x3 (x4 + iI 1) _ _ (sb_P [(h_p0, .inr (7, [.ref h_p0_now, .ref h_p0_then, .ref h_p0_past, .int v_kept, .ref h_p0_text, .int v_typed, .int v_thrown, .int v_at, .int v_isFault, .ref h_p0_told, .int v_tolds, .int v_one, .int v_other, .int v_change, .int v_woken])), (h_p0_now, .inl (cyI, 452, .inl v_now)), (h_p0_text, .inl (cyI, 60, .inl v_text))] hP [1, 2, 0] rfl) (sb_D [(h_p0, .inr (7, [.ref h_p0_now, .ref h_p0_then, .ref h_p0_past, .int v_kept, .ref h_p0_text, .int v_typed, .int v_thrown, .int v_at, .int v_isFault, .ref h_p0_told, .int v_tolds, .int v_one, .int v_other, .int v_change, .int v_woken])), (h_p0_now, .inl (cyI, 452, .inl v_now)), (h_p0_text, .inl (cyI, 60, .inl v_text))] hD [1, 2, 0] (by decide) rfl) hS ls (lv_sub hl [2, 1, 3, 0] rfl) h
  have L66 : ∀ (k : Nat), (∀ (v_thrown : Int32) (v_one : Int32) (v_other : Int32) (v_change : Int32) (v_woken : Int32) (x1 : Int64) (x3 : Int32) (H : Heap) (locs : List Loc), va_P (dC, dI) vwCl [(h_p0, .inr (7, [.ref h_p0_now, .ref h_p0_then, .ref h_p0_past, .int v_kept, .ref h_p0_text, .int v_typed, .int v_thrown, .int v_at, .int v_isFault, .ref h_p0_told, .int v_tolds, .int v_one, .int v_other, .int v_change, .int v_woken])), (h_p0_now, .inl (cyI, 452, .inl v_now)), (h_p0_text, .inl (cyI, 60, .inl v_text))] H → va_D A [(h_p0, .inr (7, [.ref h_p0_now, .ref h_p0_then, .ref h_p0_past, .int v_kept, .ref h_p0_text, .int v_typed, .int v_thrown, .int v_at, .int v_isFault, .ref h_p0_told, .int v_tolds, .int v_one, .int v_other, .int v_change, .int v_woken])), (h_p0_now, .inl (cyI, 452, .inl v_now)), (h_p0_text, .inl (cyI, 60, .inl v_text))] → va_S A s.heap H locs → ∀ (ls : Array Slot), lv_has ls 5 [(0, .ref h_p0), (1, .long x1), (3, .int x3)] →  s_X7_digest_L66 n v_kept v_typed v_now v_text k v_thrown v_one v_other v_change v_woken x1 x3 = some o → W p l e (headSpec wsX7_digest ({ frames := 7, cells := 0, slots := 0, locals := 170 })).room s m (([.ref h_p0] : List Value).toArray) below meth c H locs 0 0 (MQ below (va_Ql (S := Unit) (fun r _ => r = o.1) (fun _ t => WLD (dC, dI) A [(h_p0, .inr (7, [.ref h_p0_now, .ref h_p0_then, .ref h_p0_past, .int v_kept, .ref h_p0_text, .int v_typed, .int o.2.1, .int v_at, .int v_isFault, .ref h_p0_told, .int v_tolds, .int o.2.2.1, .int o.2.2.2.1, .int o.2.2.2.2.1, .int o.2.2.2.2.2])), (h_p0_now, .inl (cyI, 452, .inl v_now)), (h_p0_text, .inl (cyI, 60, .inl v_text))] t) A) (([.ref h_p0] : List Value).toArray) s 0 0 A) (F0 m 66 ls [])) := by
    intro k
    induction k with
    | zero =>
      intro  v_thrown v_one v_other v_change v_woken x1 x3 H locs hP hD hS ls hl h
      rw [s_X7_digest_L66] at h
      cases h
    | succ k ih =>
      intro  v_thrown v_one v_other v_change v_woken x1 x3 H locs hP hD hS ls hl h
      rw [s_X7_digest_L66] at h
      refine lv_iload_n hx hb dX7_digest_66 rfl (lv_at hl 2 rfl) ?_
      refine lv_sipush (v := iI 162) hx hb dX7_digest_67 (by decide) ?_
      refine lv_icmp_ge (tgt := 97) hx hb dX7_digest_70 (by decide) (fun c33 => ?_) (fun c33 => ?_)
      · have h := ipos c33 h
        refine lv_iconst (v := iI 0) hx hb dX7_digest_97 rfl ?_
        refine lv_istore_n hx hb dX7_digest_98 rfl hl (by decide) (rfl : _ = ([(3, .int (iI 0)), (0, .ref h_p0), (1, .long x1)] : List (Nat × Value))) (fun ls hl => ?_)
        exact (L99 n).1 v_thrown v_one v_other v_change v_woken x1 (iI 0) _ _ hP hD hS ls (lv_sub hl [1, 2, 0] rfl) h
      · have h := ineg c33 h
        refine lv_ldc2 (v := 31) hx hb hown (hts (.constantLong RX7 193 31) m_X7_digest_2) dX7_digest_73 ?_
        refine lv_lload_n hx hb dX7_digest_76 rfl (lv_at hl 1 rfl) ?_
        refine lv_lmul hx hb dX7_digest_77 ?_
        refine lv_aload_n hx hb dX7_digest_78 rfl (lv_at hl 0 rfl) ?_
        refine va_get (D := (dC, dI)) (ci := 7) (v := .ref h_p0_now) (C := RX7) (T := TX7) (N := 15) hx hb hts m_X7_digest_0 hown hK hP 0 rfl rfl 0 (by decide) (hts (.fieldLink RX7 7 "SleeperBerthsModel" "now" "[I") m_X7_digest_4) (fun _ h9 => h9) rfl dX7_digest_79 ?_
        refine lv_sipush (v := iI 290) hx hb dX7_digest_82 (by decide) ?_
        refine lv_iload_n hx hb dX7_digest_85 rfl (lv_at hl 2 rfl) ?_
        refine lv_iadd hx hb dX7_digest_86 ?_
        obtain ⟨g34, h⟩ := gsome h
        refine va_iald (D := (dC, dI)) hx hb hK hP 1 0 rfl rfl g34 dX7_digest_87 ?_
        refine lv_i2l hx hb dX7_digest_88 rfl ?_
        refine lv_ladd hx hb dX7_digest_89 ?_
        refine lv_lstore_n hx hb dX7_digest_90 rfl hl (by decide) (rfl : _ = ([(1, .long (((31 : Int64) * x1) + (v_now (iI 290 + x3).toNatClampNeg).toInt64)), (0, .ref h_p0), (3, .int x3)] : List (Nat × Value))) (fun ls hl => ?_)
        refine lv_iinc (v := (x3 + iI 1)) hx hb dX7_digest_91 hl (k := 2) rfl rfl (by decide) (rfl : _ = ([(3, .int (x3 + iI 1)), (1, .long (((31 : Int64) * x1) + (v_now (iI 290 + x3).toNatClampNeg).toInt64)), (0, .ref h_p0)] : List (Nat × Value))) (fun ls hl => ?_)
        refine lv_goto (tgt := 66) hx hb dX7_digest_94 (by decide) ?_
        exact ih v_thrown v_one v_other v_change v_woken (((31 : Int64) * x1) + (v_now (iI 290 + x3).toNatClampNeg).toInt64) (x3 + iI 1) _ _ hP hD hS ls (lv_sub hl [2, 1, 0] rfl) h
  have L38 : ∀ (k : Nat), (∀ (v_thrown : Int32) (v_one : Int32) (v_other : Int32) (v_change : Int32) (v_woken : Int32) (x1 : Int64) (x3 : Int32) (H : Heap) (locs : List Loc), va_P (dC, dI) vwCl [(h_p0, .inr (7, [.ref h_p0_now, .ref h_p0_then, .ref h_p0_past, .int v_kept, .ref h_p0_text, .int v_typed, .int v_thrown, .int v_at, .int v_isFault, .ref h_p0_told, .int v_tolds, .int v_one, .int v_other, .int v_change, .int v_woken])), (h_p0_now, .inl (cyI, 452, .inl v_now)), (h_p0_text, .inl (cyI, 60, .inl v_text))] H → va_D A [(h_p0, .inr (7, [.ref h_p0_now, .ref h_p0_then, .ref h_p0_past, .int v_kept, .ref h_p0_text, .int v_typed, .int v_thrown, .int v_at, .int v_isFault, .ref h_p0_told, .int v_tolds, .int v_one, .int v_other, .int v_change, .int v_woken])), (h_p0_now, .inl (cyI, 452, .inl v_now)), (h_p0_text, .inl (cyI, 60, .inl v_text))] → va_S A s.heap H locs → ∀ (ls : Array Slot), lv_has ls 5 [(0, .ref h_p0), (1, .long x1), (3, .int x3)] →  s_X7_digest_L38 n v_kept v_typed v_now v_text k v_thrown v_one v_other v_change v_woken x1 x3 = some o → W p l e (headSpec wsX7_digest ({ frames := 7, cells := 0, slots := 0, locals := 170 })).room s m (([.ref h_p0] : List Value).toArray) below meth c H locs 0 0 (MQ below (va_Ql (S := Unit) (fun r _ => r = o.1) (fun _ t => WLD (dC, dI) A [(h_p0, .inr (7, [.ref h_p0_now, .ref h_p0_then, .ref h_p0_past, .int v_kept, .ref h_p0_text, .int v_typed, .int o.2.1, .int v_at, .int v_isFault, .ref h_p0_told, .int v_tolds, .int o.2.2.1, .int o.2.2.2.1, .int o.2.2.2.2.1, .int o.2.2.2.2.2])), (h_p0_now, .inl (cyI, 452, .inl v_now)), (h_p0_text, .inl (cyI, 60, .inl v_text))] t) A) (([.ref h_p0] : List Value).toArray) s 0 0 A) (F0 m 38 ls [])) := by
    intro k
    induction k with
    | zero =>
      intro  v_thrown v_one v_other v_change v_woken x1 x3 H locs hP hD hS ls hl h
      rw [s_X7_digest_L38] at h
      cases h
    | succ k ih =>
      intro  v_thrown v_one v_other v_change v_woken x1 x3 H locs hP hD hS ls hl h
      rw [s_X7_digest_L38] at h
      refine lv_iload_n hx hb dX7_digest_38 rfl (lv_at hl 2 rfl) ?_
      refine lv_bipush (v := iI 6) hx hb dX7_digest_39 (by decide) ?_
      refine lv_icmp_ge (tgt := 64) hx hb dX7_digest_41 (by decide) (fun c35 => ?_) (fun c35 => ?_)
      · have h := ipos c35 h
        refine lv_iconst (v := iI 0) hx hb dX7_digest_64 rfl ?_
        refine lv_istore_n hx hb dX7_digest_65 rfl hl (by decide) (rfl : _ = ([(3, .int (iI 0)), (0, .ref h_p0), (1, .long x1)] : List (Nat × Value))) (fun ls hl => ?_)
        exact L66 n v_thrown v_one v_other v_change v_woken x1 (iI 0) _ _ hP hD hS ls (lv_sub hl [1, 2, 0] rfl) h
      · have h := ineg c35 h
        refine lv_ldc2 (v := 31) hx hb hown (hts (.constantLong RX7 193 31) m_X7_digest_2) dX7_digest_44 ?_
        refine lv_lload_n hx hb dX7_digest_47 rfl (lv_at hl 1 rfl) ?_
        refine lv_lmul hx hb dX7_digest_48 ?_
        refine lv_aload_n hx hb dX7_digest_49 rfl (lv_at hl 0 rfl) ?_
        refine va_get (D := (dC, dI)) (ci := 7) (v := .ref h_p0_now) (C := RX7) (T := TX7) (N := 15) hx hb hts m_X7_digest_0 hown hK hP 0 rfl rfl 0 (by decide) (hts (.fieldLink RX7 7 "SleeperBerthsModel" "now" "[I") m_X7_digest_4) (fun _ h9 => h9) rfl dX7_digest_50 ?_
        refine lv_iload_n hx hb dX7_digest_53 rfl (lv_at hl 2 rfl) ?_
        obtain ⟨g36, h⟩ := gsome h
        refine va_iald (D := (dC, dI)) hx hb hK hP 1 0 rfl rfl g36 dX7_digest_54 ?_
        refine lv_i2l hx hb dX7_digest_55 rfl ?_
        refine lv_ladd hx hb dX7_digest_56 ?_
        refine lv_lstore_n hx hb dX7_digest_57 rfl hl (by decide) (rfl : _ = ([(1, .long (((31 : Int64) * x1) + (v_now x3.toNatClampNeg).toInt64)), (0, .ref h_p0), (3, .int x3)] : List (Nat × Value))) (fun ls hl => ?_)
        refine lv_iinc (v := (x3 + iI 1)) hx hb dX7_digest_58 hl (k := 2) rfl rfl (by decide) (rfl : _ = ([(3, .int (x3 + iI 1)), (1, .long (((31 : Int64) * x1) + (v_now x3.toNatClampNeg).toInt64)), (0, .ref h_p0)] : List (Nat × Value))) (fun ls hl => ?_)
        refine lv_goto (tgt := 38) hx hb dX7_digest_61 (by decide) ?_
        exact ih v_thrown v_one v_other v_change v_woken (((31 : Int64) * x1) + (v_now x3.toNatClampNeg).toInt64) (x3 + iI 1) _ _ hP hD hS ls (lv_sub hl [2, 1, 0] rfl) h
  have L11 : ∀ (k : Nat), (∀ (v_thrown : Int32) (v_one : Int32) (v_other : Int32) (v_change : Int32) (v_woken : Int32) (x1 : Int64) (x3 : Int32) (H : Heap) (locs : List Loc), va_P (dC, dI) vwCl [(h_p0, .inr (7, [.ref h_p0_now, .ref h_p0_then, .ref h_p0_past, .int v_kept, .ref h_p0_text, .int v_typed, .int v_thrown, .int v_at, .int v_isFault, .ref h_p0_told, .int v_tolds, .int v_one, .int v_other, .int v_change, .int v_woken])), (h_p0_now, .inl (cyI, 452, .inl v_now)), (h_p0_text, .inl (cyI, 60, .inl v_text))] H → va_D A [(h_p0, .inr (7, [.ref h_p0_now, .ref h_p0_then, .ref h_p0_past, .int v_kept, .ref h_p0_text, .int v_typed, .int v_thrown, .int v_at, .int v_isFault, .ref h_p0_told, .int v_tolds, .int v_one, .int v_other, .int v_change, .int v_woken])), (h_p0_now, .inl (cyI, 452, .inl v_now)), (h_p0_text, .inl (cyI, 60, .inl v_text))] → va_S A s.heap H locs → ∀ (ls : Array Slot), lv_has ls 5 [(0, .ref h_p0), (1, .long x1), (3, .int x3)] →  s_X7_digest_L11 n v_kept v_typed v_now v_text k v_thrown v_one v_other v_change v_woken x1 x3 = some o → W p l e (headSpec wsX7_digest ({ frames := 7, cells := 0, slots := 0, locals := 170 })).room s m (([.ref h_p0] : List Value).toArray) below meth c H locs 0 0 (MQ below (va_Ql (S := Unit) (fun r _ => r = o.1) (fun _ t => WLD (dC, dI) A [(h_p0, .inr (7, [.ref h_p0_now, .ref h_p0_then, .ref h_p0_past, .int v_kept, .ref h_p0_text, .int v_typed, .int o.2.1, .int v_at, .int v_isFault, .ref h_p0_told, .int v_tolds, .int o.2.2.1, .int o.2.2.2.1, .int o.2.2.2.2.1, .int o.2.2.2.2.2])), (h_p0_now, .inl (cyI, 452, .inl v_now)), (h_p0_text, .inl (cyI, 60, .inl v_text))] t) A) (([.ref h_p0] : List Value).toArray) s 0 0 A) (F0 m 11 ls [])) := by
    intro k
    induction k with
    | zero =>
      intro  v_thrown v_one v_other v_change v_woken x1 x3 H locs hP hD hS ls hl h
      rw [s_X7_digest_L11] at h
      cases h
    | succ k ih =>
      intro  v_thrown v_one v_other v_change v_woken x1 x3 H locs hP hD hS ls hl h
      rw [s_X7_digest_L11] at h
      refine lv_iload_n hx hb dX7_digest_11 rfl (lv_at hl 2 rfl) ?_
      refine lv_bipush (v := iI 9) hx hb dX7_digest_12 (by decide) ?_
      refine lv_icmp_ge (tgt := 36) hx hb dX7_digest_14 (by decide) (fun c37 => ?_) (fun c37 => ?_)
      · have h := ipos c37 h
        refine lv_iconst (v := iI 0) hx hb dX7_digest_36 rfl ?_
        refine lv_istore_n hx hb dX7_digest_37 rfl hl (by decide) (rfl : _ = ([(3, .int (iI 0)), (0, .ref h_p0), (1, .long x1)] : List (Nat × Value))) (fun ls hl => ?_)
        exact L38 n v_thrown v_one v_other v_change v_woken x1 (iI 0) _ _ hP hD hS ls (lv_sub hl [1, 2, 0] rfl) h
      · have h := ineg c37 h
        refine lv_ldc2 (v := 31) hx hb hown (hts (.constantLong RX7 193 31) m_X7_digest_2) dX7_digest_17 ?_
        refine lv_lload_n hx hb dX7_digest_20 rfl (lv_at hl 1 rfl) ?_
        refine lv_lmul hx hb dX7_digest_21 ?_
        refine lv_aload_n hx hb dX7_digest_22 rfl (lv_at hl 0 rfl) ?_
        refine lv_iload_n hx hb dX7_digest_23 rfl (lv_at hl 2 rfl) ?_
        obtain ⟨r38, e39, h⟩ := bsome h
        have hPc := sb_P [(h_p0, .inr (7, [.ref h_p0_now, .ref h_p0_then, .ref h_p0_past, .int v_kept, .ref h_p0_text, .int v_typed, .int v_thrown, .int v_at, .int v_isFault, .ref h_p0_told, .int v_tolds, .int v_one, .int v_other, .int v_change, .int v_woken])), (h_p0_now, .inl (cyI, 452, .inl v_now))] hP [0, 1] rfl
        have hDc := sb_D [(h_p0, .inr (7, [.ref h_p0_now, .ref h_p0_then, .ref h_p0_past, .int v_kept, .ref h_p0_text, .int v_typed, .int v_thrown, .int v_at, .int v_isFault, .ref h_p0_told, .int v_tolds, .int v_one, .int v_other, .int v_change, .int v_woken])), (h_p0_now, .inl (cyI, 452, .inl v_now))] hD [0, 1] (by decide) rfl
        have hFc := va_free (wc := [(h_p0, .inr (7, [.ref h_p0_now, .ref h_p0_then, .ref h_p0_past, .int v_kept, .ref h_p0_text, .int v_typed, .int v_thrown, .int v_at, .int v_isFault, .ref h_p0_told, .int v_tolds, .int v_one, .int v_other, .int v_change, .int v_woken])), (h_p0_now, .inl (cyI, 452, .inl v_now))]) hD hS hA [0, 1] rfl
        refine va_calli (va_runV (As := [.int x3]) (rest := [.long ((31 : Int64) * x1)]) ⟨hx, hb, hml, hown, hts⟩ (c_X7_counted l dC dI cyI cyJ cyT h_p0 h_p0_now h_p0_then h_p0_past h_p0_text h_p0_told H.size v_kept v_typed v_thrown v_at v_isFault v_tolds v_one v_other v_change v_woken v_now x3 n r38 e39) (cwV 1 hts gX7_digest_X7_counted rfl rfl rfl (by decide +kernel) ⟨Nat.le_of_ble_eq_true rfl, Nat.le_of_ble_eq_true rfl⟩) ⟨PRE.blind, va_recv hK hPc (ci := 7) (q0 := 0) rfl rfl, PRE.go hK hPc hDc hNW⟩ rfl rfl hl.1 rfl (lv_room (Nat.le_of_ble_eq_true rfl)) dX7_digest_24 ⟨Nat.zero_le _, Nat.zero_le _⟩) hS (fun q _ h => hFc q h) hFc (fun z40 u t H locs ht hvm hw hB hz1 hk1 hS => ?_)
        subst z40
        obtain ⟨hP, hD⟩ := va_join (wr := [(h_p0_text, .inl (cyI, 60, .inl v_text))]) (w1 := [(h_p0, .inr (7, [.ref h_p0_now, .ref h_p0_then, .ref h_p0_past, .int v_kept, .ref h_p0_text, .int v_typed, .int v_thrown, .int v_at, .int v_isFault, .ref h_p0_told, .int v_tolds, .int v_one, .int v_other, .int v_change, .int v_woken])), (h_p0_now, .inl (cyI, 452, .inl v_now))]) hP hD [0, 1] [2] rfl rfl (by decide) (by decide) hk1 hFc (WLD.P hB ht) hB.2
        have hP : va_P (dC, dI) vwCl [(h_p0_text, .inl (cyI, 60, .inl v_text)), (h_p0, .inr (7, [.ref h_p0_now, .ref h_p0_then, .ref h_p0_past, .int v_kept, .ref h_p0_text, .int v_typed, .int v_thrown, .int v_at, .int v_isFault, .ref h_p0_told, .int v_tolds, .int v_one, .int v_other, .int v_change, .int v_woken])), (h_p0_now, .inl (cyI, 452, .inl v_now))] H := hP
        have hD : va_D A [(h_p0_text, .inl (cyI, 60, .inl v_text)), (h_p0, .inr (7, [.ref h_p0_now, .ref h_p0_then, .ref h_p0_past, .int v_kept, .ref h_p0_text, .int v_typed, .int v_thrown, .int v_at, .int v_isFault, .ref h_p0_told, .int v_tolds, .int v_one, .int v_other, .int v_change, .int v_woken])), (h_p0_now, .inl (cyI, 452, .inl v_now))] := hD
        refine lv_i2l hx hb dX7_digest_27 rfl ?_
        refine lv_ladd hx hb dX7_digest_28 ?_
        refine lv_lstore_n hx hb dX7_digest_29 rfl hl (by decide) (rfl : _ = ([(1, .long (((31 : Int64) * x1) + r38.toInt64)), (0, .ref h_p0), (3, .int x3)] : List (Nat × Value))) (fun ls hl => ?_)
        refine lv_iinc (v := (x3 + iI 1)) hx hb dX7_digest_30 hl (k := 2) rfl rfl (by decide) (rfl : _ = ([(3, .int (x3 + iI 1)), (1, .long (((31 : Int64) * x1) + r38.toInt64)), (0, .ref h_p0)] : List (Nat × Value))) (fun ls hl => ?_)
        refine lv_goto (tgt := 11) hx hb dX7_digest_33 (by decide) ?_
        exact ih v_thrown v_one v_other v_change v_woken (((31 : Int64) * x1) + r38.toInt64) (x3 + iI 1) _ _ (sb_P [(h_p0, .inr (7, [.ref h_p0_now, .ref h_p0_then, .ref h_p0_past, .int v_kept, .ref h_p0_text, .int v_typed, .int v_thrown, .int v_at, .int v_isFault, .ref h_p0_told, .int v_tolds, .int v_one, .int v_other, .int v_change, .int v_woken])), (h_p0_now, .inl (cyI, 452, .inl v_now)), (h_p0_text, .inl (cyI, 60, .inl v_text))] hP [1, 2, 0] rfl) (sb_D [(h_p0, .inr (7, [.ref h_p0_now, .ref h_p0_then, .ref h_p0_past, .int v_kept, .ref h_p0_text, .int v_typed, .int v_thrown, .int v_at, .int v_isFault, .ref h_p0_told, .int v_tolds, .int v_one, .int v_other, .int v_change, .int v_woken])), (h_p0_now, .inl (cyI, 452, .inl v_now)), (h_p0_text, .inl (cyI, 60, .inl v_text))] hD [1, 2, 0] (by decide) rfl) hS ls (lv_sub hl [2, 1, 0] rfl) h
  have hl := lv_entry ([.ref h_p0]) (n := 5) (Nat.le_of_ble_eq_true rfl)
  rw [lg_entry_eq]
  generalize (lg_sl ([.ref h_p0]) ++ List.replicate (5 - (lg_sl ([.ref h_p0])).length) Slot.unset).toArray = ls at hl ⊢
  have hl : lv_has ls 5 [(0, .ref h_p0)] := hl
  unfold s_X7_digest at h
  refine lv_aload_n hx hb dX7_digest_0 rfl (lv_at hl 0 rfl) ?_
  refine lv_iconst (v := iI 0) hx hb dX7_digest_1 rfl ?_
  refine va_put (D := (dC, dI)) (ci := 7) (v := .int (iI 0)) (ty := .int) (C := RX7) (T := TX7) (N := 15) hx hb hts m_X7_digest_0 tyX7 tyX7_ok nmX7 hown hK hP hD hS 0 rfl rfl 6 (by decide) (hts (.fieldLink RX7 25 "SleeperBerthsModel" "thrown" "I") m_X7_digest_5) (fun _ h9 => h9) rfl (by decide +kernel) rfl rfl (Nat.le_of_ble_eq_true rfl) dX7_digest_2 (fun H locs hP hD hS => ?_)
  have hP : va_P (dC, dI) vwCl [(h_p0, .inr (7, [.ref h_p0_now, .ref h_p0_then, .ref h_p0_past, .int v_kept, .ref h_p0_text, .int v_typed, .int (iI 0), .int v_at, .int v_isFault, .ref h_p0_told, .int v_tolds, .int v_one, .int v_other, .int v_change, .int v_woken])), (h_p0_now, .inl (cyI, 452, .inl v_now)), (h_p0_text, .inl (cyI, 60, .inl v_text))] H := hP
  have hD : va_D A [(h_p0, .inr (7, [.ref h_p0_now, .ref h_p0_then, .ref h_p0_past, .int v_kept, .ref h_p0_text, .int v_typed, .int (iI 0), .int v_at, .int v_isFault, .ref h_p0_told, .int v_tolds, .int v_one, .int v_other, .int v_change, .int v_woken])), (h_p0_now, .inl (cyI, 452, .inl v_now)), (h_p0_text, .inl (cyI, 60, .inl v_text))] := hD
  refine lv_ldc2 (v := 2999) hx hb hown (hts (.constantLong RX7 191 2999) m_X7_digest_6) dX7_digest_5 ?_
  refine lv_lstore_n hx hb dX7_digest_8 rfl hl (by decide) (rfl : _ = ([(1, .long (2999 : Int64)), (0, .ref h_p0)] : List (Nat × Value))) (fun ls hl => ?_)
  refine lv_iconst (v := iI 0) hx hb dX7_digest_9 rfl ?_
  refine lv_istore_n hx hb dX7_digest_10 rfl hl (by decide) (rfl : _ = ([(3, .int (iI 0)), (1, .long (2999 : Int64)), (0, .ref h_p0)] : List (Nat × Value))) (fun ls hl => ?_)
  exact L11 n (iI 0) v_one v_other v_change v_woken (2999 : Int64) (iI 0) _ _ hP hD hS ls (lv_sub hl [2, 1, 0] rfl) h
