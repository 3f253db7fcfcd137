set_option maxHeartbeats 8000000 in
set_option maxRecDepth 100000 in
theorem law_run {p : Program} {e : Env} {s : State} {m9 : MethodId} {below : List Frame} {meth : Method} {c : Code} {l : Launch} {b L : Nat} {xs : Nat → Int32} {dC : Nat → ClassId} {dI : Nat → Nat → Nat} {cyI cyJ cyT : ClassId} {A : Nat → Prop} (CX : lawCtx p s m9 meth c l b L xs dC dI cyI cyJ cyT A) (n : Nat) (h : s_L_law n L xs = some (iI 1)) : W p l e room_1 s m9 #[Value.ref b] below meth c s.heap [] 0 0 (lw_Z below #[Value.ref b] s) (entryFrame m9 ([Value.ref b] : List Value).toArray 9) := by
  obtain ⟨hl0, hx, hb, hr, hml, hown, hts, hX, hbl, hlocks, hA, hbA, hK, hNW, hXR, hXS, hXP⟩ := id CX
  have L23 : ∀ (k : Nat), ∀ (cs ss : Nat), cs + k * 186 ≤ 96781 → ss + k * 897 ≤ 473460 → ∀ (q_n0 : Nat) (q_n0_history : Nat) (q_n0_history_ring : Nat) (q_n0_text : Nat) (q_n0_text_codes : Nat) (q_n0_train : Nat) (q_n0_train_berths : Nat) (q_n0_train_berths_ends : Nat) (q_n0_train_berths_holders : Nat) (q_n0_train_roster : Nat) (q_n0_train_roster_cells : Nat) (q_n0_train_settings : Nat) (q_n8 : Nat) (q_n8_now : Nat) (q_n8_past : Nat) (q_n8_text : Nat) (q_n8_then : Nat) (q_n8_told : Nat) (q_n17 : Nat) (q_n0_history_rings : Nat → Nat) (x : XST) (m : MST) (u : Nat → Int64) (x4 : Int32) (H : Heap) (locs : List Loc), va_P (dC, dI) vwCl ([(q_n0, .inr (6, [.ref q_n0_train, .ref q_n0_history, .ref q_n0_text])), (q_n0_history, .inr (1, [.ref q_n0_history_ring, .int x.1, .int x.2.1])), (q_n0_history_ring, .inl (cyT, 6, .inr (.inr (.inr (.inr (ringF q_n0_history_rings)))))), (q_n0_text, .inr (4, [.ref q_n0_text_codes, .int x.2.2.1])), (q_n0_text_codes, .inl (cyI, 60, .inl x.2.2.2.1)), (q_n0_train, .inr (5, [.ref q_n0_train_berths, .ref q_n0_train_roster, .ref q_n0_train_settings, .int x.2.2.2.2.1, .int x.2.2.2.2.2.1, .int x.2.2.2.2.2.2.1])), (q_n0_train_berths, .inr (0, [.ref q_n0_train_berths_holders, .ref q_n0_train_berths_ends])), (q_n0_train_berths_ends, .inl (cyI, 3, .inl x.2.2.2.2.2.2.2.1)), (q_n0_train_berths_holders, .inl (cyI, 162, .inl x.2.2.2.2.2.2.2.2.1)), (q_n0_train_roster, .inr (3, [.ref q_n0_train_roster_cells, .int x.2.2.2.2.2.2.2.2.2.1])), (q_n0_train_roster_cells, .inl (cyI, 280, .inl x.2.2.2.2.2.2.2.2.2.2.1)), (q_n0_train_settings, .inl (cyI, 3, .inl x.2.2.2.2.2.2.2.2.2.2.2.1)), (q_n8, .inr (7, [.ref q_n8_now, .ref q_n8_then, .ref q_n8_past, .int m.1, .ref q_n8_text, .int m.2.1, .int m.2.2.1, .int m.2.2.2.1, .int m.2.2.2.2.1, .ref q_n8_told, .int m.2.2.2.2.2.1, .int m.2.2.2.2.2.2.1, .int m.2.2.2.2.2.2.2.1, .int m.2.2.2.2.2.2.2.2.1, .int m.2.2.2.2.2.2.2.2.2.1])), (q_n8_now, .inl (cyI, 452, .inl m.2.2.2.2.2.2.2.2.2.2.1)), (q_n8_past, .inl (cyI, 2712, .inl m.2.2.2.2.2.2.2.2.2.2.2.1)), (q_n8_text, .inl (cyI, 60, .inl m.2.2.2.2.2.2.2.2.2.2.2.2.1)), (q_n8_then, .inl (cyI, 452, .inl m.2.2.2.2.2.2.2.2.2.2.2.2.2.1)), (q_n8_told, .inl (cyI, 48, .inl m.2.2.2.2.2.2.2.2.2.2.2.2.2.2)), (q_n17, .inl (cyJ, 1, .inr (.inl u)))] ++ ringW cyI q_n0_history_rings x.2.2.2.2.2.2.2.2.2.2.2.2) H → va_D A ([(q_n0, .inr (6, [.ref q_n0_train, .ref q_n0_history, .ref q_n0_text])), (q_n0_history, .inr (1, [.ref q_n0_history_ring, .int x.1, .int x.2.1])), (q_n0_history_ring, .inl (cyT, 6, .inr (.inr (.inr (.inr (ringF q_n0_history_rings)))))), (q_n0_text, .inr (4, [.ref q_n0_text_codes, .int x.2.2.1])), (q_n0_text_codes, .inl (cyI, 60, .inl x.2.2.2.1)), (q_n0_train, .inr (5, [.ref q_n0_train_berths, .ref q_n0_train_roster, .ref q_n0_train_settings, .int x.2.2.2.2.1, .int x.2.2.2.2.2.1, .int x.2.2.2.2.2.2.1])), (q_n0_train_berths, .inr (0, [.ref q_n0_train_berths_holders, .ref q_n0_train_berths_ends])), (q_n0_train_berths_ends, .inl (cyI, 3, .inl x.2.2.2.2.2.2.2.1)), (q_n0_train_berths_holders, .inl (cyI, 162, .inl x.2.2.2.2.2.2.2.2.1)), (q_n0_train_roster, .inr (3, [.ref q_n0_train_roster_cells, .int x.2.2.2.2.2.2.2.2.2.1])), (q_n0_train_roster_cells, .inl (cyI, 280, .inl x.2.2.2.2.2.2.2.2.2.2.1)), (q_n0_train_settings, .inl (cyI, 3, .inl x.2.2.2.2.2.2.2.2.2.2.2.1)), (q_n8, .inr (7, [.ref q_n8_now, .ref q_n8_then, .ref q_n8_past, .int m.1, .ref q_n8_text, .int m.2.1, .int m.2.2.1, .int m.2.2.2.1, .int m.2.2.2.2.1, .ref q_n8_told, .int m.2.2.2.2.2.1, .int m.2.2.2.2.2.2.1, .int m.2.2.2.2.2.2.2.1, .int m.2.2.2.2.2.2.2.2.1, .int m.2.2.2.2.2.2.2.2.2.1])), (q_n8_now, .inl (cyI, 452, .inl m.2.2.2.2.2.2.2.2.2.2.1)), (q_n8_past, .inl (cyI, 2712, .inl m.2.2.2.2.2.2.2.2.2.2.2.1)), (q_n8_text, .inl (cyI, 60, .inl m.2.2.2.2.2.2.2.2.2.2.2.2.1)), (q_n8_then, .inl (cyI, 452, .inl m.2.2.2.2.2.2.2.2.2.2.2.2.2.1)), (q_n8_told, .inl (cyI, 48, .inl m.2.2.2.2.2.2.2.2.2.2.2.2.2.2)), (q_n17, .inl (cyJ, 1, .inr (.inl u)))] ++ ringW cyI q_n0_history_rings x.2.2.2.2.2.2.2.2.2.2.2.2) → va_S A s.heap H locs → ∀ (ls : Array Slot), lv_has ls 9 [(0, .ref b), (1, .ref q_n0), (2, .ref q_n8), (3, .ref q_n17), (4, .int x4)] → s_law23 n L xs k x m u x4 = some (iI 1) → W p l e room_1 s m9 #[Value.ref b] below meth c H locs cs ss (lw_Z below #[Value.ref b] s) (F0 m9 23 ls []) := by
    intro k
    induction k with
    | zero =>
      intro cs ss hkc hks q_n0 q_n0_history q_n0_history_ring q_n0_text q_n0_text_codes q_n0_train q_n0_train_berths q_n0_train_berths_ends q_n0_train_berths_holders q_n0_train_roster q_n0_train_roster_cells q_n0_train_settings q_n8 q_n8_now q_n8_past q_n8_text q_n8_then q_n8_told q_n17 q_n0_history_rings x m u x4 H locs hP hD hS ls hl h
      rw [s_law23] at h
      cases h
    | succ k ih =>
      intro cs ss hkc hks q_n0 q_n0_history q_n0_history_ring q_n0_text q_n0_text_codes q_n0_train q_n0_train_berths q_n0_train_berths_ends q_n0_train_berths_holders q_n0_train_roster q_n0_train_roster_cells q_n0_train_settings q_n8 q_n8_now q_n8_past q_n8_text q_n8_then q_n8_told q_n17 q_n0_history_rings x m u x4 H locs hP hD hS ls hl h
      rw [s_law23] at h
      refine lv_iload hx hb dL_law_23 (lv_at hl 4 rfl) ?_
      refine lv_aload_n hx hb dL_law_25 rfl (lv_at hl 0 rfl) ?_
      refine va_slen hx hb hX hbl hbA hS dL_law_26 ?_
      refine lv_iconst (v := iI 5) hx hb dL_law_27 rfl ?_
      refine lv_isub hx hb dL_law_28 ?_
      refine lv_icmp_gt (tgt := 1387) hx hb dL_law_29 (by decide) (fun c1 => ?_) (fun c1 => ?_)
      · refine lv_iconst (v := iI 1) hx hb dL_law_1387 rfl ?_
        refine va_forget (fun q hq => hA.2 _ (hS.2.2 q hq)) ?_
        refine W.widen (k := 601024) (n := 7293034) (by omega) (by omega) ?_
        refine W.eq (g2 := F0 m9 1388 ls [.int 1]) (by rw [show iI 1 = (1 : Int32) by decide]) ?_
        exact lw_ret (d0 := s.drawn) (Drawn.sameBut.refl s.drawn lw_cs) hx hb hr hlocks dL_law_1388
      have h := ineg c1 h
      obtain ⟨g1, h⟩ := gsome h
      refine lv_aload_n hx hb dL_law_32 rfl (lv_at hl 0 rfl) ?_
      refine lv_iload hx hb dL_law_33 (lv_at hl 4 rfl) ?_
      refine va_sld hx hb hX hbl hbA hS g1 dL_law_35 ?_
      refine lv_bipush (v := iI 31) hx hb dL_law_36 (by decide) ?_
      refine lv_iand hx hb dL_law_38 ?_
      by_cases c2 : (xs x4.toNatClampNeg &&& iI 31) = iI 0
      · have h := ipos c2 h
        obtain ⟨r, e1, h⟩ := bsome h
        cases r with
        | none => exact absurd (Option.some.inj h) (by decide)
        | some r =>
          refine lv_tableIn (tgt := 140) (off := 101) hx hb dL_law_39 (by rw [c2]; decide) (by rw [c2]; decide) (by rw [c2]; rfl) (by decide) ?_
          refine law_c0 CX n q_n0 q_n0_history q_n0_history_ring q_n0_text q_n0_text_codes q_n0_train q_n0_train_berths q_n0_train_berths_ends q_n0_train_berths_holders q_n0_train_roster q_n0_train_roster_cells q_n0_train_settings q_n8 q_n8_now q_n8_past q_n8_text q_n8_then q_n8_told q_n17 q_n0_history_rings x m u x4 cs ss (by omega) (by omega) r e1 H locs hP hD hS ls hl (fun H locs hP hD hS ls hl => ?_)
          refine lv_iinc (v := (x4 + iI 5)) hx hb dL_law_1381 hl (k := 4) rfl rfl (by decide) (rfl : _ = ([(4, .int (x4 + iI 5)), (0, .ref b), (1, .ref q_n0), (2, .ref q_n8), (3, .ref q_n17)] : List (Nat × Value))) (fun ls hl => ?_)
          refine lv_goto (tgt := 23) hx hb dL_law_1384 (by decide) ?_
          exact ih _ _ (by omega) (by omega) q_n0 q_n0_history q_n0_history_ring q_n0_text q_n0_text_codes q_n0_train q_n0_train_berths q_n0_train_berths_ends q_n0_train_berths_holders q_n0_train_roster q_n0_train_roster_cells q_n0_train_settings q_n8 q_n8_now q_n8_past q_n8_text q_n8_then q_n8_told q_n17 q_n0_history_rings r.1 r.2.1 r.2.2 (x4 + iI 5) _ _ hP hD hS ls (lv_sub hl [1, 2, 3, 4, 0] rfl) h
      have c2_0 := c2
      have h := ineg c2 h
      by_cases c2 : (xs x4.toNatClampNeg &&& iI 31) = iI 1
      · have h := ipos c2 h
        obtain ⟨r, e1, h⟩ := bsome h
        cases r with
        | none => exact absurd (Option.some.inj h) (by decide)
        | some r =>
          refine lv_tableIn (tgt := 236) (off := 197) hx hb dL_law_39 (by rw [c2]; decide) (by rw [c2]; decide) (by rw [c2]; rfl) (by decide) ?_
          refine law_c1 CX n q_n0 q_n0_history q_n0_history_ring q_n0_text q_n0_text_codes q_n0_train q_n0_train_berths q_n0_train_berths_ends q_n0_train_berths_holders q_n0_train_roster q_n0_train_roster_cells q_n0_train_settings q_n8 q_n8_now q_n8_past q_n8_text q_n8_then q_n8_told q_n17 q_n0_history_rings x m u x4 cs ss (by omega) (by omega) r e1 H locs hP hD hS ls hl (fun H locs hP hD hS ls hl => ?_)
          refine lv_iinc (v := (x4 + iI 5)) hx hb dL_law_1381 hl (k := 4) rfl rfl (by decide) (rfl : _ = ([(4, .int (x4 + iI 5)), (0, .ref b), (1, .ref q_n0), (2, .ref q_n8), (3, .ref q_n17)] : List (Nat × Value))) (fun ls hl => ?_)
          refine lv_goto (tgt := 23) hx hb dL_law_1384 (by decide) ?_
          exact ih _ _ (by omega) (by omega) q_n0 q_n0_history q_n0_history_ring q_n0_text q_n0_text_codes q_n0_train q_n0_train_berths q_n0_train_berths_ends q_n0_train_berths_holders q_n0_train_roster q_n0_train_roster_cells q_n0_train_settings q_n8 q_n8_now q_n8_past q_n8_text q_n8_then q_n8_told q_n17 q_n0_history_rings r.1 r.2.1 r.2.2 (x4 + iI 5) _ _ hP hD hS ls (lv_sub hl [1, 2, 3, 4, 0] rfl) h
      have c2_1 := c2
      have h := ineg c2 h
      by_cases c2 : (xs x4.toNatClampNeg &&& iI 31) = iI 2
      · have h := ipos c2 h
        obtain ⟨r, e1, h⟩ := bsome h
        cases r with
        | none => exact absurd (Option.some.inj h) (by decide)
        | some r =>
          refine lv_tableIn (tgt := 292) (off := 253) hx hb dL_law_39 (by rw [c2]; decide) (by rw [c2]; decide) (by rw [c2]; rfl) (by decide) ?_
          refine law_c2 CX n q_n0 q_n0_history q_n0_history_ring q_n0_text q_n0_text_codes q_n0_train q_n0_train_berths q_n0_train_berths_ends q_n0_train_berths_holders q_n0_train_roster q_n0_train_roster_cells q_n0_train_settings q_n8 q_n8_now q_n8_past q_n8_text q_n8_then q_n8_told q_n17 q_n0_history_rings x m u x4 cs ss (by omega) (by omega) r e1 H locs hP hD hS ls hl (fun H locs hP hD hS ls hl => ?_)
          refine lv_iinc (v := (x4 + iI 5)) hx hb dL_law_1381 hl (k := 4) rfl rfl (by decide) (rfl : _ = ([(4, .int (x4 + iI 5)), (0, .ref b), (1, .ref q_n0), (2, .ref q_n8), (3, .ref q_n17)] : List (Nat × Value))) (fun ls hl => ?_)
          refine lv_goto (tgt := 23) hx hb dL_law_1384 (by decide) ?_
          exact ih _ _ (by omega) (by omega) q_n0 q_n0_history q_n0_history_ring q_n0_text q_n0_text_codes q_n0_train q_n0_train_berths q_n0_train_berths_ends q_n0_train_berths_holders q_n0_train_roster q_n0_train_roster_cells q_n0_train_settings q_n8 q_n8_now q_n8_past q_n8_text q_n8_then q_n8_told q_n17 q_n0_history_rings r.1 r.2.1 r.2.2 (x4 + iI 5) _ _ hP hD hS ls (lv_sub hl [1, 2, 3, 4, 0] rfl) h
      have c2_2 := c2
      have h := ineg c2 h
      by_cases c2 : (xs x4.toNatClampNeg &&& iI 31) = iI 3
      · have h := ipos c2 h
        obtain ⟨r, e1, h⟩ := bsome h
        cases r with
        | none => exact absurd (Option.some.inj h) (by decide)
        | some r =>
          refine lv_tableIn (tgt := 360) (off := 321) hx hb dL_law_39 (by rw [c2]; decide) (by rw [c2]; decide) (by rw [c2]; rfl) (by decide) ?_
          refine law_c3 CX n q_n0 q_n0_history q_n0_history_ring q_n0_text q_n0_text_codes q_n0_train q_n0_train_berths q_n0_train_berths_ends q_n0_train_berths_holders q_n0_train_roster q_n0_train_roster_cells q_n0_train_settings q_n8 q_n8_now q_n8_past q_n8_text q_n8_then q_n8_told q_n17 q_n0_history_rings x m u x4 cs ss (by omega) (by omega) r e1 H locs hP hD hS ls hl (fun H locs hP hD hS ls hl => ?_)
          refine lv_iinc (v := (x4 + iI 5)) hx hb dL_law_1381 hl (k := 4) rfl rfl (by decide) (rfl : _ = ([(4, .int (x4 + iI 5)), (0, .ref b), (1, .ref q_n0), (2, .ref q_n8), (3, .ref q_n17)] : List (Nat × Value))) (fun ls hl => ?_)
          refine lv_goto (tgt := 23) hx hb dL_law_1384 (by decide) ?_
          exact ih _ _ (by omega) (by omega) q_n0 q_n0_history q_n0_history_ring q_n0_text q_n0_text_codes q_n0_train q_n0_train_berths q_n0_train_berths_ends q_n0_train_berths_holders q_n0_train_roster q_n0_train_roster_cells q_n0_train_settings q_n8 q_n8_now q_n8_past q_n8_text q_n8_then q_n8_told q_n17 q_n0_history_rings r.1 r.2.1 r.2.2 (x4 + iI 5) _ _ hP hD hS ls (lv_sub hl [1, 2, 3, 4, 0] rfl) h
      have c2_3 := c2
      have h := ineg c2 h
      by_cases c2 : (xs x4.toNatClampNeg &&& iI 31) = iI 4
      · have h := ipos c2 h
        obtain ⟨r, e1, h⟩ := bsome h
        cases r with
        | none => exact absurd (Option.some.inj h) (by decide)
        | some r =>
          refine lv_tableIn (tgt := 416) (off := 377) hx hb dL_law_39 (by rw [c2]; decide) (by rw [c2]; decide) (by rw [c2]; rfl) (by decide) ?_
          refine law_c4 CX n q_n0 q_n0_history q_n0_history_ring q_n0_text q_n0_text_codes q_n0_train q_n0_train_berths q_n0_train_berths_ends q_n0_train_berths_holders q_n0_train_roster q_n0_train_roster_cells q_n0_train_settings q_n8 q_n8_now q_n8_past q_n8_text q_n8_then q_n8_told q_n17 q_n0_history_rings x m u x4 cs ss (by omega) (by omega) r e1 H locs hP hD hS ls hl (fun H locs hP hD hS ls hl => ?_)
          refine lv_iinc (v := (x4 + iI 5)) hx hb dL_law_1381 hl (k := 4) rfl rfl (by decide) (rfl : _ = ([(4, .int (x4 + iI 5)), (0, .ref b), (1, .ref q_n0), (2, .ref q_n8), (3, .ref q_n17)] : List (Nat × Value))) (fun ls hl => ?_)
          refine lv_goto (tgt := 23) hx hb dL_law_1384 (by decide) ?_
          exact ih _ _ (by omega) (by omega) q_n0 q_n0_history q_n0_history_ring q_n0_text q_n0_text_codes q_n0_train q_n0_train_berths q_n0_train_berths_ends q_n0_train_berths_holders q_n0_train_roster q_n0_train_roster_cells q_n0_train_settings q_n8 q_n8_now q_n8_past q_n8_text q_n8_then q_n8_told q_n17 q_n0_history_rings r.1 r.2.1 r.2.2 (x4 + iI 5) _ _ hP hD hS ls (lv_sub hl [1, 2, 3, 4, 0] rfl) h
      have c2_4 := c2
      have h := ineg c2 h
      by_cases c2 : (xs x4.toNatClampNeg &&& iI 31) = iI 5
      · have h := ipos c2 h
        obtain ⟨r, e1, h⟩ := bsome h
        cases r with
        | none => exact absurd (Option.some.inj h) (by decide)
        | some r =>
          refine lv_tableIn (tgt := 484) (off := 445) hx hb dL_law_39 (by rw [c2]; decide) (by rw [c2]; decide) (by rw [c2]; rfl) (by decide) ?_
          refine law_c5 CX n q_n0 q_n0_history q_n0_history_ring q_n0_text q_n0_text_codes q_n0_train q_n0_train_berths q_n0_train_berths_ends q_n0_train_berths_holders q_n0_train_roster q_n0_train_roster_cells q_n0_train_settings q_n8 q_n8_now q_n8_past q_n8_text q_n8_then q_n8_told q_n17 q_n0_history_rings x m u x4 cs ss (by omega) (by omega) r e1 H locs hP hD hS ls hl (fun H locs hP hD hS ls hl => ?_)
          refine lv_iinc (v := (x4 + iI 5)) hx hb dL_law_1381 hl (k := 4) rfl rfl (by decide) (rfl : _ = ([(4, .int (x4 + iI 5)), (0, .ref b), (1, .ref q_n0), (2, .ref q_n8), (3, .ref q_n17)] : List (Nat × Value))) (fun ls hl => ?_)
          refine lv_goto (tgt := 23) hx hb dL_law_1384 (by decide) ?_
          exact ih _ _ (by omega) (by omega) q_n0 q_n0_history q_n0_history_ring q_n0_text q_n0_text_codes q_n0_train q_n0_train_berths q_n0_train_berths_ends q_n0_train_berths_holders q_n0_train_roster q_n0_train_roster_cells q_n0_train_settings q_n8 q_n8_now q_n8_past q_n8_text q_n8_then q_n8_told q_n17 q_n0_history_rings r.1 r.2.1 r.2.2 (x4 + iI 5) _ _ hP hD hS ls (lv_sub hl [1, 2, 3, 4, 0] rfl) h
      have c2_5 := c2
      have h := ineg c2 h
      by_cases c2 : (xs x4.toNatClampNeg &&& iI 31) = iI 6
      · have h := ipos c2 h
        obtain ⟨r, e1, h⟩ := bsome h
        cases r with
        | none => exact absurd (Option.some.inj h) (by decide)
        | some r =>
          refine lv_tableIn (tgt := 552) (off := 513) hx hb dL_law_39 (by rw [c2]; decide) (by rw [c2]; decide) (by rw [c2]; rfl) (by decide) ?_
          refine law_c6 CX n q_n0 q_n0_history q_n0_history_ring q_n0_text q_n0_text_codes q_n0_train q_n0_train_berths q_n0_train_berths_ends q_n0_train_berths_holders q_n0_train_roster q_n0_train_roster_cells q_n0_train_settings q_n8 q_n8_now q_n8_past q_n8_text q_n8_then q_n8_told q_n17 q_n0_history_rings x m u x4 cs ss (by omega) (by omega) r e1 H locs hP hD hS ls hl (fun H locs hP hD hS ls hl => ?_)
          refine lv_iinc (v := (x4 + iI 5)) hx hb dL_law_1381 hl (k := 4) rfl rfl (by decide) (rfl : _ = ([(4, .int (x4 + iI 5)), (0, .ref b), (1, .ref q_n0), (2, .ref q_n8), (3, .ref q_n17)] : List (Nat × Value))) (fun ls hl => ?_)
          refine lv_goto (tgt := 23) hx hb dL_law_1384 (by decide) ?_
          exact ih _ _ (by omega) (by omega) q_n0 q_n0_history q_n0_history_ring q_n0_text q_n0_text_codes q_n0_train q_n0_train_berths q_n0_train_berths_ends q_n0_train_berths_holders q_n0_train_roster q_n0_train_roster_cells q_n0_train_settings q_n8 q_n8_now q_n8_past q_n8_text q_n8_then q_n8_told q_n17 q_n0_history_rings r.1 r.2.1 r.2.2 (x4 + iI 5) _ _ hP hD hS ls (lv_sub hl [1, 2, 3, 4, 0] rfl) h
      have c2_6 := c2
      have h := ineg c2 h
      by_cases c2 : (xs x4.toNatClampNeg &&& iI 31) = iI 7
      · have h := ipos c2 h
        obtain ⟨r, e1, h⟩ := bsome h
        cases r with
        | none => exact absurd (Option.some.inj h) (by decide)
        | some r =>
          refine lv_tableIn (tgt := 608) (off := 569) hx hb dL_law_39 (by rw [c2]; decide) (by rw [c2]; decide) (by rw [c2]; rfl) (by decide) ?_
          refine law_c7 CX n q_n0 q_n0_history q_n0_history_ring q_n0_text q_n0_text_codes q_n0_train q_n0_train_berths q_n0_train_berths_ends q_n0_train_berths_holders q_n0_train_roster q_n0_train_roster_cells q_n0_train_settings q_n8 q_n8_now q_n8_past q_n8_text q_n8_then q_n8_told q_n17 q_n0_history_rings x m u x4 cs ss (by omega) (by omega) r e1 H locs hP hD hS ls hl (fun H locs hP hD hS ls hl => ?_)
          refine lv_iinc (v := (x4 + iI 5)) hx hb dL_law_1381 hl (k := 4) rfl rfl (by decide) (rfl : _ = ([(4, .int (x4 + iI 5)), (0, .ref b), (1, .ref q_n0), (2, .ref q_n8), (3, .ref q_n17)] : List (Nat × Value))) (fun ls hl => ?_)
          refine lv_goto (tgt := 23) hx hb dL_law_1384 (by decide) ?_
          exact ih _ _ (by omega) (by omega) q_n0 q_n0_history q_n0_history_ring q_n0_text q_n0_text_codes q_n0_train q_n0_train_berths q_n0_train_berths_ends q_n0_train_berths_holders q_n0_train_roster q_n0_train_roster_cells q_n0_train_settings q_n8 q_n8_now q_n8_past q_n8_text q_n8_then q_n8_told q_n17 q_n0_history_rings r.1 r.2.1 r.2.2 (x4 + iI 5) _ _ hP hD hS ls (lv_sub hl [1, 2, 3, 4, 0] rfl) h
      have c2_7 := c2
      have h := ineg c2 h
      by_cases c2 : (xs x4.toNatClampNeg &&& iI 31) = iI 8
      · have h := ipos c2 h
        obtain ⟨r, e1, h⟩ := bsome h
        cases r with
        | none => exact absurd (Option.some.inj h) (by decide)
        | some r =>
          refine lv_tableIn (tgt := 621) (off := 582) hx hb dL_law_39 (by rw [c2]; decide) (by rw [c2]; decide) (by rw [c2]; rfl) (by decide) ?_
          refine law_c8 CX n q_n0 q_n0_history q_n0_history_ring q_n0_text q_n0_text_codes q_n0_train q_n0_train_berths q_n0_train_berths_ends q_n0_train_berths_holders q_n0_train_roster q_n0_train_roster_cells q_n0_train_settings q_n8 q_n8_now q_n8_past q_n8_text q_n8_then q_n8_told q_n17 q_n0_history_rings x m u x4 cs ss (by omega) (by omega) r e1 H locs hP hD hS ls hl (fun H locs hP hD hS ls hl => ?_)
          refine lv_iinc (v := (x4 + iI 5)) hx hb dL_law_1381 hl (k := 4) rfl rfl (by decide) (rfl : _ = ([(4, .int (x4 + iI 5)), (0, .ref b), (1, .ref q_n0), (2, .ref q_n8), (3, .ref q_n17)] : List (Nat × Value))) (fun ls hl => ?_)
          refine lv_goto (tgt := 23) hx hb dL_law_1384 (by decide) ?_
          exact ih _ _ (by omega) (by omega) q_n0 q_n0_history q_n0_history_ring q_n0_text q_n0_text_codes q_n0_train q_n0_train_berths q_n0_train_berths_ends q_n0_train_berths_holders q_n0_train_roster q_n0_train_roster_cells q_n0_train_settings q_n8 q_n8_now q_n8_past q_n8_text q_n8_then q_n8_told q_n17 q_n0_history_rings r.1 r.2.1 r.2.2 (x4 + iI 5) _ _ hP hD hS ls (lv_sub hl [1, 2, 3, 4, 0] rfl) h
      have c2_8 := c2
      have h := ineg c2 h
      by_cases c2 : (xs x4.toNatClampNeg &&& iI 31) = iI 9
      · have h := ipos c2 h
        obtain ⟨r, e1, h⟩ := bsome h
        cases r with
        | none => exact absurd (Option.some.inj h) (by decide)
        | some r =>
          refine lv_tableIn (tgt := 634) (off := 595) hx hb dL_law_39 (by rw [c2]; decide) (by rw [c2]; decide) (by rw [c2]; rfl) (by decide) ?_
          refine law_c9 CX n q_n0 q_n0_history q_n0_history_ring q_n0_text q_n0_text_codes q_n0_train q_n0_train_berths q_n0_train_berths_ends q_n0_train_berths_holders q_n0_train_roster q_n0_train_roster_cells q_n0_train_settings q_n8 q_n8_now q_n8_past q_n8_text q_n8_then q_n8_told q_n17 q_n0_history_rings x m u x4 cs ss (by omega) (by omega) r e1 H locs hP hD hS ls hl (fun H locs hP hD hS ls hl => ?_)
          refine lv_iinc (v := (x4 + iI 5)) hx hb dL_law_1381 hl (k := 4) rfl rfl (by decide) (rfl : _ = ([(4, .int (x4 + iI 5)), (0, .ref b), (1, .ref q_n0), (2, .ref q_n8), (3, .ref q_n17)] : List (Nat × Value))) (fun ls hl => ?_)
          refine lv_goto (tgt := 23) hx hb dL_law_1384 (by decide) ?_
          exact ih _ _ (by omega) (by omega) q_n0 q_n0_history q_n0_history_ring q_n0_text q_n0_text_codes q_n0_train q_n0_train_berths q_n0_train_berths_ends q_n0_train_berths_holders q_n0_train_roster q_n0_train_roster_cells q_n0_train_settings q_n8 q_n8_now q_n8_past q_n8_text q_n8_then q_n8_told q_n17 q_n0_history_rings r.1 r.2.1 r.2.2 (x4 + iI 5) _ _ hP hD hS ls (lv_sub hl [1, 2, 3, 4, 0] rfl) h
      have c2_9 := c2
      have h := ineg c2 h
      by_cases c2 : (xs x4.toNatClampNeg &&& iI 31) = iI 10
      · have h := ipos c2 h
        obtain ⟨r, e1, h⟩ := bsome h
        cases r with
        | none => exact absurd (Option.some.inj h) (by decide)
        | some r =>
          refine lv_tableIn (tgt := 678) (off := 639) hx hb dL_law_39 (by rw [c2]; decide) (by rw [c2]; decide) (by rw [c2]; rfl) (by decide) ?_
          refine law_c10 CX n q_n0 q_n0_history q_n0_history_ring q_n0_text q_n0_text_codes q_n0_train q_n0_train_berths q_n0_train_berths_ends q_n0_train_berths_holders q_n0_train_roster q_n0_train_roster_cells q_n0_train_settings q_n8 q_n8_now q_n8_past q_n8_text q_n8_then q_n8_told q_n17 q_n0_history_rings x m u x4 cs ss (by omega) (by omega) r e1 H locs hP hD hS ls hl (fun H locs hP hD hS ls hl => ?_)
          refine lv_iinc (v := (x4 + iI 5)) hx hb dL_law_1381 hl (k := 4) rfl rfl (by decide) (rfl : _ = ([(4, .int (x4 + iI 5)), (0, .ref b), (1, .ref q_n0), (2, .ref q_n8), (3, .ref q_n17)] : List (Nat × Value))) (fun ls hl => ?_)
          refine lv_goto (tgt := 23) hx hb dL_law_1384 (by decide) ?_
          exact ih _ _ (by omega) (by omega) q_n0 q_n0_history q_n0_history_ring q_n0_text q_n0_text_codes q_n0_train q_n0_train_berths q_n0_train_berths_ends q_n0_train_berths_holders q_n0_train_roster q_n0_train_roster_cells q_n0_train_settings q_n8 q_n8_now q_n8_past q_n8_text q_n8_then q_n8_told q_n17 q_n0_history_rings r.1 r.2.1 r.2.2 (x4 + iI 5) _ _ hP hD hS ls (lv_sub hl [1, 2, 3, 4, 0] rfl) h
      have c2_10 := c2
      have h := ineg c2 h
      by_cases c2 : (xs x4.toNatClampNeg &&& iI 31) = iI 11
      · have h := ipos c2 h
        obtain ⟨r, e1, h⟩ := bsome h
        cases r with
        | none => exact absurd (Option.some.inj h) (by decide)
        | some r =>
          refine lv_tableIn (tgt := 722) (off := 683) hx hb dL_law_39 (by rw [c2]; decide) (by rw [c2]; decide) (by rw [c2]; rfl) (by decide) ?_
          refine law_c11 CX n q_n0 q_n0_history q_n0_history_ring q_n0_text q_n0_text_codes q_n0_train q_n0_train_berths q_n0_train_berths_ends q_n0_train_berths_holders q_n0_train_roster q_n0_train_roster_cells q_n0_train_settings q_n8 q_n8_now q_n8_past q_n8_text q_n8_then q_n8_told q_n17 q_n0_history_rings x m u x4 cs ss (by omega) (by omega) r e1 H locs hP hD hS ls hl (fun H locs hP hD hS ls hl => ?_)
          refine lv_iinc (v := (x4 + iI 5)) hx hb dL_law_1381 hl (k := 4) rfl rfl (by decide) (rfl : _ = ([(4, .int (x4 + iI 5)), (0, .ref b), (1, .ref q_n0), (2, .ref q_n8), (3, .ref q_n17)] : List (Nat × Value))) (fun ls hl => ?_)
          refine lv_goto (tgt := 23) hx hb dL_law_1384 (by decide) ?_
          exact ih _ _ (by omega) (by omega) q_n0 q_n0_history q_n0_history_ring q_n0_text q_n0_text_codes q_n0_train q_n0_train_berths q_n0_train_berths_ends q_n0_train_berths_holders q_n0_train_roster q_n0_train_roster_cells q_n0_train_settings q_n8 q_n8_now q_n8_past q_n8_text q_n8_then q_n8_told q_n17 q_n0_history_rings r.1 r.2.1 r.2.2 (x4 + iI 5) _ _ hP hD hS ls (lv_sub hl [1, 2, 3, 4, 0] rfl) h
      have c2_11 := c2
      have h := ineg c2 h
      by_cases c2 : (xs x4.toNatClampNeg &&& iI 31) = iI 12
      · have h := ipos c2 h
        obtain ⟨r, e1, h⟩ := bsome h
        cases r with
        | none => exact absurd (Option.some.inj h) (by decide)
        | some r =>
          refine lv_tableIn (tgt := 790) (off := 751) hx hb dL_law_39 (by rw [c2]; decide) (by rw [c2]; decide) (by rw [c2]; rfl) (by decide) ?_
          refine law_c12 CX n q_n0 q_n0_history q_n0_history_ring q_n0_text q_n0_text_codes q_n0_train q_n0_train_berths q_n0_train_berths_ends q_n0_train_berths_holders q_n0_train_roster q_n0_train_roster_cells q_n0_train_settings q_n8 q_n8_now q_n8_past q_n8_text q_n8_then q_n8_told q_n17 q_n0_history_rings x m u x4 cs ss (by omega) (by omega) r e1 H locs hP hD hS ls hl (fun H locs hP hD hS ls hl => ?_)
          refine lv_iinc (v := (x4 + iI 5)) hx hb dL_law_1381 hl (k := 4) rfl rfl (by decide) (rfl : _ = ([(4, .int (x4 + iI 5)), (0, .ref b), (1, .ref q_n0), (2, .ref q_n8), (3, .ref q_n17)] : List (Nat × Value))) (fun ls hl => ?_)
          refine lv_goto (tgt := 23) hx hb dL_law_1384 (by decide) ?_
          exact ih _ _ (by omega) (by omega) q_n0 q_n0_history q_n0_history_ring q_n0_text q_n0_text_codes q_n0_train q_n0_train_berths q_n0_train_berths_ends q_n0_train_berths_holders q_n0_train_roster q_n0_train_roster_cells q_n0_train_settings q_n8 q_n8_now q_n8_past q_n8_text q_n8_then q_n8_told q_n17 q_n0_history_rings r.1 r.2.1 r.2.2 (x4 + iI 5) _ _ hP hD hS ls (lv_sub hl [1, 2, 3, 4, 0] rfl) h
      have c2_12 := c2
      have h := ineg c2 h
      by_cases c2 : (xs x4.toNatClampNeg &&& iI 31) = iI 13
      · have h := ipos c2 h
        obtain ⟨r, e1, h⟩ := bsome h
        cases r with
        | none => exact absurd (Option.some.inj h) (by decide)
        | some r =>
          refine lv_tableIn (tgt := 858) (off := 819) hx hb dL_law_39 (by rw [c2]; decide) (by rw [c2]; decide) (by rw [c2]; rfl) (by decide) ?_
          refine law_c13 CX n q_n0 q_n0_history q_n0_history_ring q_n0_text q_n0_text_codes q_n0_train q_n0_train_berths q_n0_train_berths_ends q_n0_train_berths_holders q_n0_train_roster q_n0_train_roster_cells q_n0_train_settings q_n8 q_n8_now q_n8_past q_n8_text q_n8_then q_n8_told q_n17 q_n0_history_rings x m u x4 cs ss (by omega) (by omega) r e1 H locs hP hD hS ls hl (fun H locs hP hD hS ls hl => ?_)
          refine lv_iinc (v := (x4 + iI 5)) hx hb dL_law_1381 hl (k := 4) rfl rfl (by decide) (rfl : _ = ([(4, .int (x4 + iI 5)), (0, .ref b), (1, .ref q_n0), (2, .ref q_n8), (3, .ref q_n17)] : List (Nat × Value))) (fun ls hl => ?_)
          refine lv_goto (tgt := 23) hx hb dL_law_1384 (by decide) ?_
          exact ih _ _ (by omega) (by omega) q_n0 q_n0_history q_n0_history_ring q_n0_text q_n0_text_codes q_n0_train q_n0_train_berths q_n0_train_berths_ends q_n0_train_berths_holders q_n0_train_roster q_n0_train_roster_cells q_n0_train_settings q_n8 q_n8_now q_n8_past q_n8_text q_n8_then q_n8_told q_n17 q_n0_history_rings r.1 r.2.1 r.2.2 (x4 + iI 5) _ _ hP hD hS ls (lv_sub hl [1, 2, 3, 4, 0] rfl) h
      have c2_13 := c2
      have h := ineg c2 h
      by_cases c2 : (xs x4.toNatClampNeg &&& iI 31) = iI 14
      · have h := ipos c2 h
        obtain ⟨r, e1, h⟩ := bsome h
        cases r with
        | none => exact absurd (Option.some.inj h) (by decide)
        | some r =>
          refine lv_tableIn (tgt := 914) (off := 875) hx hb dL_law_39 (by rw [c2]; decide) (by rw [c2]; decide) (by rw [c2]; rfl) (by decide) ?_
          refine law_c14 CX n q_n0 q_n0_history q_n0_history_ring q_n0_text q_n0_text_codes q_n0_train q_n0_train_berths q_n0_train_berths_ends q_n0_train_berths_holders q_n0_train_roster q_n0_train_roster_cells q_n0_train_settings q_n8 q_n8_now q_n8_past q_n8_text q_n8_then q_n8_told q_n17 q_n0_history_rings x m u x4 cs ss (by omega) (by omega) r e1 H locs hP hD hS ls hl (fun H locs hP hD hS ls hl => ?_)
          refine lv_iinc (v := (x4 + iI 5)) hx hb dL_law_1381 hl (k := 4) rfl rfl (by decide) (rfl : _ = ([(4, .int (x4 + iI 5)), (0, .ref b), (1, .ref q_n0), (2, .ref q_n8), (3, .ref q_n17)] : List (Nat × Value))) (fun ls hl => ?_)
          refine lv_goto (tgt := 23) hx hb dL_law_1384 (by decide) ?_
          exact ih _ _ (by omega) (by omega) q_n0 q_n0_history q_n0_history_ring q_n0_text q_n0_text_codes q_n0_train q_n0_train_berths q_n0_train_berths_ends q_n0_train_berths_holders q_n0_train_roster q_n0_train_roster_cells q_n0_train_settings q_n8 q_n8_now q_n8_past q_n8_text q_n8_then q_n8_told q_n17 q_n0_history_rings r.1 r.2.1 r.2.2 (x4 + iI 5) _ _ hP hD hS ls (lv_sub hl [1, 2, 3, 4, 0] rfl) h
      have c2_14 := c2
      have h := ineg c2 h
      by_cases c2 : (xs x4.toNatClampNeg &&& iI 31) = iI 15
      · have h := ipos c2 h
        obtain ⟨r, e1, h⟩ := bsome h
        cases r with
        | none => exact absurd (Option.some.inj h) (by decide)
        | some r =>
          refine lv_tableIn (tgt := 982) (off := 943) hx hb dL_law_39 (by rw [c2]; decide) (by rw [c2]; decide) (by rw [c2]; rfl) (by decide) ?_
          refine law_c15 CX n q_n0 q_n0_history q_n0_history_ring q_n0_text q_n0_text_codes q_n0_train q_n0_train_berths q_n0_train_berths_ends q_n0_train_berths_holders q_n0_train_roster q_n0_train_roster_cells q_n0_train_settings q_n8 q_n8_now q_n8_past q_n8_text q_n8_then q_n8_told q_n17 q_n0_history_rings x m u x4 cs ss (by omega) (by omega) r e1 H locs hP hD hS ls hl (fun H locs hP hD hS ls hl => ?_)
          refine lv_iinc (v := (x4 + iI 5)) hx hb dL_law_1381 hl (k := 4) rfl rfl (by decide) (rfl : _ = ([(4, .int (x4 + iI 5)), (0, .ref b), (1, .ref q_n0), (2, .ref q_n8), (3, .ref q_n17)] : List (Nat × Value))) (fun ls hl => ?_)
          refine lv_goto (tgt := 23) hx hb dL_law_1384 (by decide) ?_
          exact ih _ _ (by omega) (by omega) q_n0 q_n0_history q_n0_history_ring q_n0_text q_n0_text_codes q_n0_train q_n0_train_berths q_n0_train_berths_ends q_n0_train_berths_holders q_n0_train_roster q_n0_train_roster_cells q_n0_train_settings q_n8 q_n8_now q_n8_past q_n8_text q_n8_then q_n8_told q_n17 q_n0_history_rings r.1 r.2.1 r.2.2 (x4 + iI 5) _ _ hP hD hS ls (lv_sub hl [1, 2, 3, 4, 0] rfl) h
      have c2_15 := c2
      have h := ineg c2 h
      by_cases c2 : (xs x4.toNatClampNeg &&& iI 31) = iI 16
      · have h := ipos c2 h
        obtain ⟨r, e1, h⟩ := bsome h
        cases r with
        | none => exact absurd (Option.some.inj h) (by decide)
        | some r =>
          refine lv_tableIn (tgt := 1038) (off := 999) hx hb dL_law_39 (by rw [c2]; decide) (by rw [c2]; decide) (by rw [c2]; rfl) (by decide) ?_
          refine law_c16 CX n q_n0 q_n0_history q_n0_history_ring q_n0_text q_n0_text_codes q_n0_train q_n0_train_berths q_n0_train_berths_ends q_n0_train_berths_holders q_n0_train_roster q_n0_train_roster_cells q_n0_train_settings q_n8 q_n8_now q_n8_past q_n8_text q_n8_then q_n8_told q_n17 q_n0_history_rings x m u x4 cs ss (by omega) (by omega) r e1 H locs hP hD hS ls hl (fun H locs hP hD hS ls hl => ?_)
          refine lv_iinc (v := (x4 + iI 5)) hx hb dL_law_1381 hl (k := 4) rfl rfl (by decide) (rfl : _ = ([(4, .int (x4 + iI 5)), (0, .ref b), (1, .ref q_n0), (2, .ref q_n8), (3, .ref q_n17)] : List (Nat × Value))) (fun ls hl => ?_)
          refine lv_goto (tgt := 23) hx hb dL_law_1384 (by decide) ?_
          exact ih _ _ (by omega) (by omega) q_n0 q_n0_history q_n0_history_ring q_n0_text q_n0_text_codes q_n0_train q_n0_train_berths q_n0_train_berths_ends q_n0_train_berths_holders q_n0_train_roster q_n0_train_roster_cells q_n0_train_settings q_n8 q_n8_now q_n8_past q_n8_text q_n8_then q_n8_told q_n17 q_n0_history_rings r.1 r.2.1 r.2.2 (x4 + iI 5) _ _ hP hD hS ls (lv_sub hl [1, 2, 3, 4, 0] rfl) h
      have c2_16 := c2
      have h := ineg c2 h
      by_cases c2 : (xs x4.toNatClampNeg &&& iI 31) = iI 17
      · have h := ipos c2 h
        obtain ⟨r, e1, h⟩ := bsome h
        cases r with
        | none => exact absurd (Option.some.inj h) (by decide)
        | some r =>
          refine lv_tableIn (tgt := 1094) (off := 1055) hx hb dL_law_39 (by rw [c2]; decide) (by rw [c2]; decide) (by rw [c2]; rfl) (by decide) ?_
          refine law_c17 CX n q_n0 q_n0_history q_n0_history_ring q_n0_text q_n0_text_codes q_n0_train q_n0_train_berths q_n0_train_berths_ends q_n0_train_berths_holders q_n0_train_roster q_n0_train_roster_cells q_n0_train_settings q_n8 q_n8_now q_n8_past q_n8_text q_n8_then q_n8_told q_n17 q_n0_history_rings x m u x4 cs ss (by omega) (by omega) r e1 H locs hP hD hS ls hl (fun H locs hP hD hS ls hl => ?_)
          refine lv_iinc (v := (x4 + iI 5)) hx hb dL_law_1381 hl (k := 4) rfl rfl (by decide) (rfl : _ = ([(4, .int (x4 + iI 5)), (0, .ref b), (1, .ref q_n0), (2, .ref q_n8), (3, .ref q_n17)] : List (Nat × Value))) (fun ls hl => ?_)
          refine lv_goto (tgt := 23) hx hb dL_law_1384 (by decide) ?_
          exact ih _ _ (by omega) (by omega) q_n0 q_n0_history q_n0_history_ring q_n0_text q_n0_text_codes q_n0_train q_n0_train_berths q_n0_train_berths_ends q_n0_train_berths_holders q_n0_train_roster q_n0_train_roster_cells q_n0_train_settings q_n8 q_n8_now q_n8_past q_n8_text q_n8_then q_n8_told q_n17 q_n0_history_rings r.1 r.2.1 r.2.2 (x4 + iI 5) _ _ hP hD hS ls (lv_sub hl [1, 2, 3, 4, 0] rfl) h
      have c2_17 := c2
      have h := ineg c2 h
      by_cases c2 : (xs x4.toNatClampNeg &&& iI 31) = iI 18
      · have h := ipos c2 h
        obtain ⟨r, e1, h⟩ := bsome h
        cases r with
        | none => exact absurd (Option.some.inj h) (by decide)
        | some r =>
          refine lv_tableIn (tgt := 1202) (off := 1163) hx hb dL_law_39 (by rw [c2]; decide) (by rw [c2]; decide) (by rw [c2]; rfl) (by decide) ?_
          refine law_c18 CX n q_n0 q_n0_history q_n0_history_ring q_n0_text q_n0_text_codes q_n0_train q_n0_train_berths q_n0_train_berths_ends q_n0_train_berths_holders q_n0_train_roster q_n0_train_roster_cells q_n0_train_settings q_n8 q_n8_now q_n8_past q_n8_text q_n8_then q_n8_told q_n17 q_n0_history_rings x m u x4 cs ss (by omega) (by omega) r e1 H locs hP hD hS ls hl (fun H locs hP hD hS ls hl => ?_)
          refine lv_iinc (v := (x4 + iI 5)) hx hb dL_law_1381 hl (k := 4) rfl rfl (by decide) (rfl : _ = ([(4, .int (x4 + iI 5)), (0, .ref b), (1, .ref q_n0), (2, .ref q_n8), (3, .ref q_n17)] : List (Nat × Value))) (fun ls hl => ?_)
          refine lv_goto (tgt := 23) hx hb dL_law_1384 (by decide) ?_
          exact ih _ _ (by omega) (by omega) q_n0 q_n0_history q_n0_history_ring q_n0_text q_n0_text_codes q_n0_train q_n0_train_berths q_n0_train_berths_ends q_n0_train_berths_holders q_n0_train_roster q_n0_train_roster_cells q_n0_train_settings q_n8 q_n8_now q_n8_past q_n8_text q_n8_then q_n8_told q_n17 q_n0_history_rings r.1 r.2.1 r.2.2 (x4 + iI 5) _ _ hP hD hS ls (lv_sub hl [1, 2, 3, 4, 0] rfl) h
      have c2_18 := c2
      have h := ineg c2 h
      by_cases c2 : (xs x4.toNatClampNeg &&& iI 31) = iI 19
      · have h := ipos c2 h
        obtain ⟨r, e1, h⟩ := bsome h
        cases r with
        | none => exact absurd (Option.some.inj h) (by decide)
        | some r =>
          refine lv_tableIn (tgt := 1270) (off := 1231) hx hb dL_law_39 (by rw [c2]; decide) (by rw [c2]; decide) (by rw [c2]; rfl) (by decide) ?_
          refine law_c19 CX n q_n0 q_n0_history q_n0_history_ring q_n0_text q_n0_text_codes q_n0_train q_n0_train_berths q_n0_train_berths_ends q_n0_train_berths_holders q_n0_train_roster q_n0_train_roster_cells q_n0_train_settings q_n8 q_n8_now q_n8_past q_n8_text q_n8_then q_n8_told q_n17 q_n0_history_rings x m u x4 cs ss (by omega) (by omega) r e1 H locs hP hD hS ls hl (fun H locs hP hD hS ls hl => ?_)
          refine lv_iinc (v := (x4 + iI 5)) hx hb dL_law_1381 hl (k := 4) rfl rfl (by decide) (rfl : _ = ([(4, .int (x4 + iI 5)), (0, .ref b), (1, .ref q_n0), (2, .ref q_n8), (3, .ref q_n17)] : List (Nat × Value))) (fun ls hl => ?_)
          refine lv_goto (tgt := 23) hx hb dL_law_1384 (by decide) ?_
          exact ih _ _ (by omega) (by omega) q_n0 q_n0_history q_n0_history_ring q_n0_text q_n0_text_codes q_n0_train q_n0_train_berths q_n0_train_berths_ends q_n0_train_berths_holders q_n0_train_roster q_n0_train_roster_cells q_n0_train_settings q_n8 q_n8_now q_n8_past q_n8_text q_n8_then q_n8_told q_n17 q_n0_history_rings r.1 r.2.1 r.2.2 (x4 + iI 5) _ _ hP hD hS ls (lv_sub hl [1, 2, 3, 4, 0] rfl) h
      have c2_19 := c2
      have h := ineg c2 h
      by_cases c2 : (xs x4.toNatClampNeg &&& iI 31) = iI 20
      · have h := ipos c2 h
        obtain ⟨r, e1, h⟩ := bsome h
        cases r with
        | none => exact absurd (Option.some.inj h) (by decide)
        | some r =>
          refine lv_tableIn (tgt := 1326) (off := 1287) hx hb dL_law_39 (by rw [c2]; decide) (by rw [c2]; decide) (by rw [c2]; rfl) (by decide) ?_
          refine law_c20 CX n q_n0 q_n0_history q_n0_history_ring q_n0_text q_n0_text_codes q_n0_train q_n0_train_berths q_n0_train_berths_ends q_n0_train_berths_holders q_n0_train_roster q_n0_train_roster_cells q_n0_train_settings q_n8 q_n8_now q_n8_past q_n8_text q_n8_then q_n8_told q_n17 q_n0_history_rings x m u x4 cs ss (by omega) (by omega) r e1 H locs hP hD hS ls hl (fun H locs hP hD hS ls hl => ?_)
          refine lv_iinc (v := (x4 + iI 5)) hx hb dL_law_1381 hl (k := 4) rfl rfl (by decide) (rfl : _ = ([(4, .int (x4 + iI 5)), (0, .ref b), (1, .ref q_n0), (2, .ref q_n8), (3, .ref q_n17)] : List (Nat × Value))) (fun ls hl => ?_)
          refine lv_goto (tgt := 23) hx hb dL_law_1384 (by decide) ?_
          exact ih _ _ (by omega) (by omega) q_n0 q_n0_history q_n0_history_ring q_n0_text q_n0_text_codes q_n0_train q_n0_train_berths q_n0_train_berths_ends q_n0_train_berths_holders q_n0_train_roster q_n0_train_roster_cells q_n0_train_settings q_n8 q_n8_now q_n8_past q_n8_text q_n8_then q_n8_told q_n17 q_n0_history_rings r.1 r.2.1 r.2.2 (x4 + iI 5) _ _ hP hD hS ls (lv_sub hl [1, 2, 3, 4, 0] rfl) h
      have c2_20 := c2
      have h := ineg c2 h
      by_cases c2 : (xs x4.toNatClampNeg &&& iI 31) = iI 21
      · have h := ipos c2 h
        obtain ⟨r, e1, h⟩ := bsome h
        cases r with
        | none => exact absurd (Option.some.inj h) (by decide)
        | some r =>
          refine lv_tableIn (tgt := 1367) (off := 1328) hx hb dL_law_39 (by rw [c2]; decide) (by rw [c2]; decide) (by rw [c2]; rfl) (by decide) ?_
          refine law_c21 CX n q_n0 q_n0_history q_n0_history_ring q_n0_text q_n0_text_codes q_n0_train q_n0_train_berths q_n0_train_berths_ends q_n0_train_berths_holders q_n0_train_roster q_n0_train_roster_cells q_n0_train_settings q_n8 q_n8_now q_n8_past q_n8_text q_n8_then q_n8_told q_n17 q_n0_history_rings x m u x4 cs ss (by omega) (by omega) r e1 H locs hP hD hS ls hl (fun H locs hP hD hS ls hl => ?_)
          refine lv_iinc (v := (x4 + iI 5)) hx hb dL_law_1381 hl (k := 4) rfl rfl (by decide) (rfl : _ = ([(4, .int (x4 + iI 5)), (0, .ref b), (1, .ref q_n0), (2, .ref q_n8), (3, .ref q_n17)] : List (Nat × Value))) (fun ls hl => ?_)
          refine lv_goto (tgt := 23) hx hb dL_law_1384 (by decide) ?_
          exact ih _ _ (by omega) (by omega) q_n0 q_n0_history q_n0_history_ring q_n0_text q_n0_text_codes q_n0_train q_n0_train_berths q_n0_train_berths_ends q_n0_train_berths_holders q_n0_train_roster q_n0_train_roster_cells q_n0_train_settings q_n8 q_n8_now q_n8_past q_n8_text q_n8_then q_n8_told q_n17 q_n0_history_rings r.1 r.2.1 r.2.2 (x4 + iI 5) _ _ hP hD hS ls (lv_sub hl [1, 2, 3, 4, 0] rfl) h
      have c2_21 := c2
      have h := ineg c2 h
      refine lv_tableOut (tgt := 1381) hx hb dL_law_39 (tsw_out 0 21 (fun k h1 h2 => by rcases (show k = 0 ∨ k = 1 ∨ k = 2 ∨ k = 3 ∨ k = 4 ∨ k = 5 ∨ k = 6 ∨ k = 7 ∨ k = 8 ∨ k = 9 ∨ k = 10 ∨ k = 11 ∨ k = 12 ∨ k = 13 ∨ k = 14 ∨ k = 15 ∨ k = 16 ∨ k = 17 ∨ k = 18 ∨ k = 19 ∨ k = 20 ∨ k = 21 by omega) with rfl | rfl | rfl | rfl | rfl | rfl | rfl | rfl | rfl | rfl | rfl | rfl | rfl | rfl | rfl | rfl | rfl | rfl | rfl | rfl | rfl | rfl <;> assumption)) (by decide) ?_
      refine lv_iinc (v := (x4 + iI 5)) hx hb dL_law_1381 hl (k := 4) rfl rfl (by decide) (rfl : _ = ([(4, .int (x4 + iI 5)), (0, .ref b), (1, .ref q_n0), (2, .ref q_n8), (3, .ref q_n17)] : List (Nat × Value))) (fun ls hl => ?_)
      refine lv_goto (tgt := 23) hx hb dL_law_1384 (by decide) ?_
      exact ih _ _ (by omega) (by omega) q_n0 q_n0_history q_n0_history_ring q_n0_text q_n0_text_codes q_n0_train q_n0_train_berths q_n0_train_berths_ends q_n0_train_berths_holders q_n0_train_roster q_n0_train_roster_cells q_n0_train_settings q_n8 q_n8_now q_n8_past q_n8_text q_n8_then q_n8_told q_n17 q_n0_history_rings x m u (x4 + iI 5) _ _ hP hD hS ls (lv_sub hl [1, 2, 3, 4, 0] rfl) h
  have hS : va_S A s.heap s.heap [] := va_S.rf
  have hP : va_P (dC, dI) vwCl [] s.heap := fun k q h => by simp at h
  have hD : va_D A [] := ⟨fun i j p q h => by simp at h, fun k q h => by simp at h⟩
  have hl := lv_entry ([.ref b]) (n := 9) (Nat.le_of_ble_eq_true rfl)
  rw [lg_entry_eq]
  generalize (lg_sl ([.ref b]) ++ List.replicate (9 - (lg_sl ([.ref b])).length) Slot.unset).toArray = ls at hl ⊢
  have hl : lv_has ls 9 [(0, .ref b)] := hl
  unfold s_L_law at h
  refine va_new (ci := 6) (fs := [.null, .null, .null]) (C := RX6) (T := TX6) (N := 3) hx hb hts m_L_law_0 tyX6 tyX6_ok hown (hts (.classLink RL 8 RX6) m_L_law_1) (hts (.instantiable RX6 3) m_L_law_2) (hts (.initialized RX6) m_L_law_3) hK hP hD hS hA.1 rfl (fun j hj => by rcases (show j = 0 ∨ j = 1 ∨ j = 2 by omega) with rfl | rfl | rfl <;> rfl) (Nat.le_of_ble_eq_true rfl) (Nat.le_of_ble_eq_true rfl) dL_law_0 (fun q1 H hP hD hS => ?_)
  have hP : va_P (dC, dI) vwCl [(q1, .inr (6, [.null, .null, .null]))] H := hP
  have hD : va_D A [(q1, .inr (6, [.null, .null, .null]))] := hD
  refine lv_dup hx hb dL_law_3 rfl ?_
  obtain ⟨r2, e3, h⟩ := bsome h
  have hPc := sb_P [(q1, .inr (6, [.null, .null, .null]))] hP [0] rfl
  have hDc := sb_D [(q1, .inr (6, [.null, .null, .null]))] hD [0] (by decide) rfl
  have hFc := va_free (wc := [(q1, .inr (6, [.null, .null, .null]))]) hD hS hA.1 [0] rfl
  refine va_callv (va_runI (As := []) (rest := [.ref q1]) ⟨hx, hb, hml, hown, hts⟩ (c_X6_init l dC dI cyI cyJ cyT q1 H.size n r2 e3) (cwI 0 hts gL_law_X6_init rfl rfl rfl (hts (.initialized RX6) m_L_law_3) (hts (.methodLink RL 74 yX6_init) m_L_law_4) (hts (.instanceMethod yX6_init) m_L_law_5) rfl (by decide +kernel) ⟨Nat.le_of_ble_eq_true rfl, Nat.le_of_ble_eq_true rfl⟩) ⟨PRE.blind, PRE.go hK hPc hDc hNW⟩ rfl rfl hl.1 rfl (lv_room (Nat.le_of_ble_eq_true rfl)) dL_law_4 ⟨(Nat.le_of_ble_eq_true rfl), (Nat.le_of_ble_eq_true rfl)⟩) hS (fun q _ h => hFc q h) hFc (fun u t H locs ht hvm hw hB hz1 hk1 hS => ?_)
  obtain ⟨q4, q5, q6, q7, q8, q9, q10, q11, q12, q13, q14, q15, hB⟩ := hB
  obtain ⟨hP, hD⟩ := va_join (wr := []) (w1 := ([(q1, .inr (6, [.ref q8, .ref q4, .ref q6])), (q4, .inr (1, [.ref q5, .int r2.1, .int r2.2.1])), (q5, .inl (cyT, 6, .inr (.inr (.inr (.inr (ringF q15)))))), (q6, .inr (4, [.ref q7, .int r2.2.2.1])), (q7, .inl (cyI, 60, .inl r2.2.2.2.1)), (q8, .inr (5, [.ref q9, .ref q12, .ref q14, .int r2.2.2.2.2.1, .int r2.2.2.2.2.2.1, .int r2.2.2.2.2.2.2.1])), (q9, .inr (0, [.ref q11, .ref q10])), (q10, .inl (cyI, 3, .inl r2.2.2.2.2.2.2.2.1)), (q11, .inl (cyI, 162, .inl r2.2.2.2.2.2.2.2.2.1)), (q12, .inr (3, [.ref q13, .int r2.2.2.2.2.2.2.2.2.2.1])), (q13, .inl (cyI, 280, .inl r2.2.2.2.2.2.2.2.2.2.2.1)), (q14, .inl (cyI, 3, .inl r2.2.2.2.2.2.2.2.2.2.2.2.1))] ++ ringW cyI q15 r2.2.2.2.2.2.2.2.2.2.2.2.2)) hP hD [0] [] rfl rfl (by decide) (by decide) hk1 hFc (WLD.P hB ht) hB.2
  have hP : va_P (dC, dI) vwCl ([(q1, .inr (6, [.ref q8, .ref q4, .ref q6])), (q4, .inr (1, [.ref q5, .int r2.1, .int r2.2.1])), (q5, .inl (cyT, 6, .inr (.inr (.inr (.inr (ringF q15)))))), (q6, .inr (4, [.ref q7, .int r2.2.2.1])), (q7, .inl (cyI, 60, .inl r2.2.2.2.1)), (q8, .inr (5, [.ref q9, .ref q12, .ref q14, .int r2.2.2.2.2.1, .int r2.2.2.2.2.2.1, .int r2.2.2.2.2.2.2.1])), (q9, .inr (0, [.ref q11, .ref q10])), (q10, .inl (cyI, 3, .inl r2.2.2.2.2.2.2.2.1)), (q11, .inl (cyI, 162, .inl r2.2.2.2.2.2.2.2.2.1)), (q12, .inr (3, [.ref q13, .int r2.2.2.2.2.2.2.2.2.2.1])), (q13, .inl (cyI, 280, .inl r2.2.2.2.2.2.2.2.2.2.2.1)), (q14, .inl (cyI, 3, .inl r2.2.2.2.2.2.2.2.2.2.2.2.1))] ++ ringW cyI q15 r2.2.2.2.2.2.2.2.2.2.2.2.2) H := hP
  have hD : va_D A ([(q1, .inr (6, [.ref q8, .ref q4, .ref q6])), (q4, .inr (1, [.ref q5, .int r2.1, .int r2.2.1])), (q5, .inl (cyT, 6, .inr (.inr (.inr (.inr (ringF q15)))))), (q6, .inr (4, [.ref q7, .int r2.2.2.1])), (q7, .inl (cyI, 60, .inl r2.2.2.2.1)), (q8, .inr (5, [.ref q9, .ref q12, .ref q14, .int r2.2.2.2.2.1, .int r2.2.2.2.2.2.1, .int r2.2.2.2.2.2.2.1])), (q9, .inr (0, [.ref q11, .ref q10])), (q10, .inl (cyI, 3, .inl r2.2.2.2.2.2.2.2.1)), (q11, .inl (cyI, 162, .inl r2.2.2.2.2.2.2.2.2.1)), (q12, .inr (3, [.ref q13, .int r2.2.2.2.2.2.2.2.2.2.1])), (q13, .inl (cyI, 280, .inl r2.2.2.2.2.2.2.2.2.2.2.1)), (q14, .inl (cyI, 3, .inl r2.2.2.2.2.2.2.2.2.2.2.2.1))] ++ ringW cyI q15 r2.2.2.2.2.2.2.2.2.2.2.2.2) := hD
  refine lv_astore_n hx hb dL_law_7 rfl hl (by decide) (rfl : _ = ([(1, .ref q1), (0, .ref b)] : List (Nat × Value))) (fun ls hl => ?_)
  refine va_new (ci := 7) (fs := [.null, .null, .null, .int 0, .null, .int 0, .int 0, .int 0, .int 0, .null, .int 0, .int 0, .int 0, .int 0, .int 0]) (C := RX7) (T := TX7) (N := 15) hx hb hts m_L_law_6 tyX7 tyX7_ok hown (hts (.classLink RL 75 RX7) m_L_law_7) (hts (.instantiable RX7 15) m_L_law_8) (hts (.initialized RX7) m_L_law_9) hK hP hD hS hA.1 rfl (fun j hj => by rcases (show j = 0 ∨ j = 1 ∨ j = 2 ∨ j = 3 ∨ j = 4 ∨ j = 5 ∨ j = 6 ∨ j = 7 ∨ j = 8 ∨ j = 9 ∨ j = 10 ∨ j = 11 ∨ j = 12 ∨ j = 13 ∨ j = 14 by omega) with rfl | rfl | rfl | rfl | rfl | rfl | rfl | rfl | rfl | rfl | rfl | rfl | rfl | rfl | rfl <;> rfl) (Nat.le_of_ble_eq_true rfl) (Nat.le_of_ble_eq_true rfl) dL_law_8 (fun q17 H hP hD hS => ?_)
  have hP : va_P (dC, dI) vwCl ([(q1, .inr (6, [.ref q8, .ref q4, .ref q6])), (q4, .inr (1, [.ref q5, .int r2.1, .int r2.2.1])), (q5, .inl (cyT, 6, .inr (.inr (.inr (.inr (ringF q15)))))), (q6, .inr (4, [.ref q7, .int r2.2.2.1])), (q7, .inl (cyI, 60, .inl r2.2.2.2.1)), (q8, .inr (5, [.ref q9, .ref q12, .ref q14, .int r2.2.2.2.2.1, .int r2.2.2.2.2.2.1, .int r2.2.2.2.2.2.2.1])), (q9, .inr (0, [.ref q11, .ref q10])), (q10, .inl (cyI, 3, .inl r2.2.2.2.2.2.2.2.1)), (q11, .inl (cyI, 162, .inl r2.2.2.2.2.2.2.2.2.1)), (q12, .inr (3, [.ref q13, .int r2.2.2.2.2.2.2.2.2.2.1])), (q13, .inl (cyI, 280, .inl r2.2.2.2.2.2.2.2.2.2.2.1)), (q14, .inl (cyI, 3, .inl r2.2.2.2.2.2.2.2.2.2.2.2.1))] ++ ringW cyI q15 r2.2.2.2.2.2.2.2.2.2.2.2.2 ++ [(q17, .inr (7, [.null, .null, .null, .int 0, .null, .int 0, .int 0, .int 0, .int 0, .null, .int 0, .int 0, .int 0, .int 0, .int 0]))]) H := hP
  have hD : va_D A ([(q1, .inr (6, [.ref q8, .ref q4, .ref q6])), (q4, .inr (1, [.ref q5, .int r2.1, .int r2.2.1])), (q5, .inl (cyT, 6, .inr (.inr (.inr (.inr (ringF q15)))))), (q6, .inr (4, [.ref q7, .int r2.2.2.1])), (q7, .inl (cyI, 60, .inl r2.2.2.2.1)), (q8, .inr (5, [.ref q9, .ref q12, .ref q14, .int r2.2.2.2.2.1, .int r2.2.2.2.2.2.1, .int r2.2.2.2.2.2.2.1])), (q9, .inr (0, [.ref q11, .ref q10])), (q10, .inl (cyI, 3, .inl r2.2.2.2.2.2.2.2.1)), (q11, .inl (cyI, 162, .inl r2.2.2.2.2.2.2.2.2.1)), (q12, .inr (3, [.ref q13, .int r2.2.2.2.2.2.2.2.2.2.1])), (q13, .inl (cyI, 280, .inl r2.2.2.2.2.2.2.2.2.2.2.1)), (q14, .inl (cyI, 3, .inl r2.2.2.2.2.2.2.2.2.2.2.2.1))] ++ ringW cyI q15 r2.2.2.2.2.2.2.2.2.2.2.2.2 ++ [(q17, .inr (7, [.null, .null, .null, .int 0, .null, .int 0, .int 0, .int 0, .int 0, .null, .int 0, .int 0, .int 0, .int 0, .int 0]))]) := hD
  refine lv_dup hx hb dL_law_11 rfl ?_
  obtain ⟨r18, e19, h⟩ := bsome h
  have hPc := sb_P [(q17, .inr (7, [.null, .null, .null, .int 0, .null, .int 0, .int 0, .int 0, .int 0, .null, .int 0, .int 0, .int 0, .int 0, .int 0]))] hP [54] rfl
  have hDc := sb_D [(q17, .inr (7, [.null, .null, .null, .int 0, .null, .int 0, .int 0, .int 0, .int 0, .null, .int 0, .int 0, .int 0, .int 0, .int 0]))] hD [54] (by decide) rfl
  have hFc := va_free (wc := [(q17, .inr (7, [.null, .null, .null, .int 0, .null, .int 0, .int 0, .int 0, .int 0, .null, .int 0, .int 0, .int 0, .int 0, .int 0]))]) hD hS hA.1 [54] rfl
  refine va_callv (va_runI (As := []) (rest := [.ref q17]) ⟨hx, hb, hml, hown, hts⟩ (c_X7_init l dC dI cyI cyJ cyT q17 H.size n r18 e19) (cwI 0 hts gL_law_X7_init rfl rfl rfl (hts (.initialized RX7) m_L_law_9) (hts (.methodLink RL 77 yX7_init) m_L_law_10) (hts (.instanceMethod yX7_init) m_L_law_11) rfl (by decide +kernel) ⟨Nat.le_of_ble_eq_true rfl, Nat.le_of_ble_eq_true rfl⟩) ⟨PRE.blind, PRE.go hK hPc hDc hNW⟩ rfl rfl hl.1 rfl (lv_room (Nat.le_of_ble_eq_true rfl)) dL_law_12 ⟨(Nat.le_of_ble_eq_true rfl), (Nat.le_of_ble_eq_true rfl)⟩) hS (fun q _ h => hFc q h) hFc (fun u t H locs ht hvm hw hB hz1 hk1 hS => ?_)
  obtain ⟨q20, q21, q22, q23, q24, hB⟩ := hB
  obtain ⟨hP, hD⟩ := va_join (wr := ([(q1, .inr (6, [.ref q8, .ref q4, .ref q6])), (q4, .inr (1, [.ref q5, .int r2.1, .int r2.2.1])), (q5, .inl (cyT, 6, .inr (.inr (.inr (.inr (ringF q15)))))), (q6, .inr (4, [.ref q7, .int r2.2.2.1])), (q7, .inl (cyI, 60, .inl r2.2.2.2.1)), (q8, .inr (5, [.ref q9, .ref q12, .ref q14, .int r2.2.2.2.2.1, .int r2.2.2.2.2.2.1, .int r2.2.2.2.2.2.2.1])), (q9, .inr (0, [.ref q11, .ref q10])), (q10, .inl (cyI, 3, .inl r2.2.2.2.2.2.2.2.1)), (q11, .inl (cyI, 162, .inl r2.2.2.2.2.2.2.2.2.1)), (q12, .inr (3, [.ref q13, .int r2.2.2.2.2.2.2.2.2.2.1])), (q13, .inl (cyI, 280, .inl r2.2.2.2.2.2.2.2.2.2.2.1)), (q14, .inl (cyI, 3, .inl r2.2.2.2.2.2.2.2.2.2.2.2.1))] ++ ringW cyI q15 r2.2.2.2.2.2.2.2.2.2.2.2.2)) (w1 := [(q17, .inr (7, [.ref q20, .ref q23, .ref q21, .int r18.1, .ref q22, .int r18.2.1, .int r18.2.2.1, .int r18.2.2.2.1, .int r18.2.2.2.2.1, .ref q24, .int r18.2.2.2.2.2.1, .int r18.2.2.2.2.2.2.1, .int r18.2.2.2.2.2.2.2.1, .int r18.2.2.2.2.2.2.2.2.1, .int r18.2.2.2.2.2.2.2.2.2.1])), (q20, .inl (cyI, 452, .inl r18.2.2.2.2.2.2.2.2.2.2.1)), (q21, .inl (cyI, 2712, .inl r18.2.2.2.2.2.2.2.2.2.2.2.1)), (q22, .inl (cyI, 60, .inl r18.2.2.2.2.2.2.2.2.2.2.2.2.1)), (q23, .inl (cyI, 452, .inl r18.2.2.2.2.2.2.2.2.2.2.2.2.2.1)), (q24, .inl (cyI, 48, .inl r18.2.2.2.2.2.2.2.2.2.2.2.2.2.2))]) hP hD [54] (0 :: 1 :: 2 :: 3 :: 4 :: 5 :: 6 :: 7 :: 8 :: 9 :: 10 :: 11 :: 12 :: 13 :: 14 :: 15 :: 16 :: 17 :: 18 :: 19 :: 20 :: 21 :: 22 :: 23 :: 24 :: 25 :: 26 :: 27 :: 28 :: 29 :: 30 :: 31 :: 32 :: 33 :: 34 :: 35 :: 36 :: 37 :: 38 :: 39 :: 40 :: 41 :: 42 :: 43 :: 44 :: 45 :: 46 :: 47 :: 48 :: 49 :: 50 :: 51 :: 52 :: 53 :: []) rfl rfl (by decide) (by decide) hk1 hFc (WLD.P hB ht) hB.2
  have hP : va_P (dC, dI) vwCl ([(q1, .inr (6, [.ref q8, .ref q4, .ref q6])), (q4, .inr (1, [.ref q5, .int r2.1, .int r2.2.1])), (q5, .inl (cyT, 6, .inr (.inr (.inr (.inr (ringF q15)))))), (q6, .inr (4, [.ref q7, .int r2.2.2.1])), (q7, .inl (cyI, 60, .inl r2.2.2.2.1)), (q8, .inr (5, [.ref q9, .ref q12, .ref q14, .int r2.2.2.2.2.1, .int r2.2.2.2.2.2.1, .int r2.2.2.2.2.2.2.1])), (q9, .inr (0, [.ref q11, .ref q10])), (q10, .inl (cyI, 3, .inl r2.2.2.2.2.2.2.2.1)), (q11, .inl (cyI, 162, .inl r2.2.2.2.2.2.2.2.2.1)), (q12, .inr (3, [.ref q13, .int r2.2.2.2.2.2.2.2.2.2.1])), (q13, .inl (cyI, 280, .inl r2.2.2.2.2.2.2.2.2.2.2.1)), (q14, .inl (cyI, 3, .inl r2.2.2.2.2.2.2.2.2.2.2.2.1))] ++ ringW cyI q15 r2.2.2.2.2.2.2.2.2.2.2.2.2 ++ [(q17, .inr (7, [.ref q20, .ref q23, .ref q21, .int r18.1, .ref q22, .int r18.2.1, .int r18.2.2.1, .int r18.2.2.2.1, .int r18.2.2.2.2.1, .ref q24, .int r18.2.2.2.2.2.1, .int r18.2.2.2.2.2.2.1, .int r18.2.2.2.2.2.2.2.1, .int r18.2.2.2.2.2.2.2.2.1, .int r18.2.2.2.2.2.2.2.2.2.1])), (q20, .inl (cyI, 452, .inl r18.2.2.2.2.2.2.2.2.2.2.1)), (q21, .inl (cyI, 2712, .inl r18.2.2.2.2.2.2.2.2.2.2.2.1)), (q22, .inl (cyI, 60, .inl r18.2.2.2.2.2.2.2.2.2.2.2.2.1)), (q23, .inl (cyI, 452, .inl r18.2.2.2.2.2.2.2.2.2.2.2.2.2.1)), (q24, .inl (cyI, 48, .inl r18.2.2.2.2.2.2.2.2.2.2.2.2.2.2))]) H := hP
  have hD : va_D A ([(q1, .inr (6, [.ref q8, .ref q4, .ref q6])), (q4, .inr (1, [.ref q5, .int r2.1, .int r2.2.1])), (q5, .inl (cyT, 6, .inr (.inr (.inr (.inr (ringF q15)))))), (q6, .inr (4, [.ref q7, .int r2.2.2.1])), (q7, .inl (cyI, 60, .inl r2.2.2.2.1)), (q8, .inr (5, [.ref q9, .ref q12, .ref q14, .int r2.2.2.2.2.1, .int r2.2.2.2.2.2.1, .int r2.2.2.2.2.2.2.1])), (q9, .inr (0, [.ref q11, .ref q10])), (q10, .inl (cyI, 3, .inl r2.2.2.2.2.2.2.2.1)), (q11, .inl (cyI, 162, .inl r2.2.2.2.2.2.2.2.2.1)), (q12, .inr (3, [.ref q13, .int r2.2.2.2.2.2.2.2.2.2.1])), (q13, .inl (cyI, 280, .inl r2.2.2.2.2.2.2.2.2.2.2.1)), (q14, .inl (cyI, 3, .inl r2.2.2.2.2.2.2.2.2.2.2.2.1))] ++ ringW cyI q15 r2.2.2.2.2.2.2.2.2.2.2.2.2 ++ [(q17, .inr (7, [.ref q20, .ref q23, .ref q21, .int r18.1, .ref q22, .int r18.2.1, .int r18.2.2.1, .int r18.2.2.2.1, .int r18.2.2.2.2.1, .ref q24, .int r18.2.2.2.2.2.1, .int r18.2.2.2.2.2.2.1, .int r18.2.2.2.2.2.2.2.1, .int r18.2.2.2.2.2.2.2.2.1, .int r18.2.2.2.2.2.2.2.2.2.1])), (q20, .inl (cyI, 452, .inl r18.2.2.2.2.2.2.2.2.2.2.1)), (q21, .inl (cyI, 2712, .inl r18.2.2.2.2.2.2.2.2.2.2.2.1)), (q22, .inl (cyI, 60, .inl r18.2.2.2.2.2.2.2.2.2.2.2.2.1)), (q23, .inl (cyI, 452, .inl r18.2.2.2.2.2.2.2.2.2.2.2.2.2.1)), (q24, .inl (cyI, 48, .inl r18.2.2.2.2.2.2.2.2.2.2.2.2.2.2))]) := hD
  refine lv_astore_n hx hb dL_law_15 rfl hl (by decide) (rfl : _ = ([(2, .ref q17), (1, .ref q1), (0, .ref b)] : List (Nat × Value))) (fun ls hl => ?_)
  refine lv_iconst (v := iI 1) hx hb dL_law_16 rfl ?_
  refine newJ hx hb (hts (.arrayClass .long) m_L_law_12) dL_law_17 hK hP hD hS hA.1 (NN := 1) (by decide) (by decide) (by decide) (Nat.le_of_ble_eq_true rfl) (Nat.le_of_ble_eq_true rfl) (fun q26 H hP hD hS => ?_)
  have hP : va_P (dC, dI) vwCl ([(q1, .inr (6, [.ref q8, .ref q4, .ref q6])), (q4, .inr (1, [.ref q5, .int r2.1, .int r2.2.1])), (q5, .inl (cyT, 6, .inr (.inr (.inr (.inr (ringF q15)))))), (q6, .inr (4, [.ref q7, .int r2.2.2.1])), (q7, .inl (cyI, 60, .inl r2.2.2.2.1)), (q8, .inr (5, [.ref q9, .ref q12, .ref q14, .int r2.2.2.2.2.1, .int r2.2.2.2.2.2.1, .int r2.2.2.2.2.2.2.1])), (q9, .inr (0, [.ref q11, .ref q10])), (q10, .inl (cyI, 3, .inl r2.2.2.2.2.2.2.2.1)), (q11, .inl (cyI, 162, .inl r2.2.2.2.2.2.2.2.2.1)), (q12, .inr (3, [.ref q13, .int r2.2.2.2.2.2.2.2.2.2.1])), (q13, .inl (cyI, 280, .inl r2.2.2.2.2.2.2.2.2.2.2.1)), (q14, .inl (cyI, 3, .inl r2.2.2.2.2.2.2.2.2.2.2.2.1))] ++ ringW cyI q15 r2.2.2.2.2.2.2.2.2.2.2.2.2 ++ [(q17, .inr (7, [.ref q20, .ref q23, .ref q21, .int r18.1, .ref q22, .int r18.2.1, .int r18.2.2.1, .int r18.2.2.2.1, .int r18.2.2.2.2.1, .ref q24, .int r18.2.2.2.2.2.1, .int r18.2.2.2.2.2.2.1, .int r18.2.2.2.2.2.2.2.1, .int r18.2.2.2.2.2.2.2.2.1, .int r18.2.2.2.2.2.2.2.2.2.1])), (q20, .inl (cyI, 452, .inl r18.2.2.2.2.2.2.2.2.2.2.1)), (q21, .inl (cyI, 2712, .inl r18.2.2.2.2.2.2.2.2.2.2.2.1)), (q22, .inl (cyI, 60, .inl r18.2.2.2.2.2.2.2.2.2.2.2.2.1)), (q23, .inl (cyI, 452, .inl r18.2.2.2.2.2.2.2.2.2.2.2.2.2.1)), (q24, .inl (cyI, 48, .inl r18.2.2.2.2.2.2.2.2.2.2.2.2.2.2)), (q26, .inl (cyJ, 1, .inr (.inl (fun _ => 0))))]) H := hP
  have hD : va_D A ([(q1, .inr (6, [.ref q8, .ref q4, .ref q6])), (q4, .inr (1, [.ref q5, .int r2.1, .int r2.2.1])), (q5, .inl (cyT, 6, .inr (.inr (.inr (.inr (ringF q15)))))), (q6, .inr (4, [.ref q7, .int r2.2.2.1])), (q7, .inl (cyI, 60, .inl r2.2.2.2.1)), (q8, .inr (5, [.ref q9, .ref q12, .ref q14, .int r2.2.2.2.2.1, .int r2.2.2.2.2.2.1, .int r2.2.2.2.2.2.2.1])), (q9, .inr (0, [.ref q11, .ref q10])), (q10, .inl (cyI, 3, .inl r2.2.2.2.2.2.2.2.1)), (q11, .inl (cyI, 162, .inl r2.2.2.2.2.2.2.2.2.1)), (q12, .inr (3, [.ref q13, .int r2.2.2.2.2.2.2.2.2.2.1])), (q13, .inl (cyI, 280, .inl r2.2.2.2.2.2.2.2.2.2.2.1)), (q14, .inl (cyI, 3, .inl r2.2.2.2.2.2.2.2.2.2.2.2.1))] ++ ringW cyI q15 r2.2.2.2.2.2.2.2.2.2.2.2.2 ++ [(q17, .inr (7, [.ref q20, .ref q23, .ref q21, .int r18.1, .ref q22, .int r18.2.1, .int r18.2.2.1, .int r18.2.2.2.1, .int r18.2.2.2.2.1, .ref q24, .int r18.2.2.2.2.2.1, .int r18.2.2.2.2.2.2.1, .int r18.2.2.2.2.2.2.2.1, .int r18.2.2.2.2.2.2.2.2.1, .int r18.2.2.2.2.2.2.2.2.2.1])), (q20, .inl (cyI, 452, .inl r18.2.2.2.2.2.2.2.2.2.2.1)), (q21, .inl (cyI, 2712, .inl r18.2.2.2.2.2.2.2.2.2.2.2.1)), (q22, .inl (cyI, 60, .inl r18.2.2.2.2.2.2.2.2.2.2.2.2.1)), (q23, .inl (cyI, 452, .inl r18.2.2.2.2.2.2.2.2.2.2.2.2.2.1)), (q24, .inl (cyI, 48, .inl r18.2.2.2.2.2.2.2.2.2.2.2.2.2.2)), (q26, .inl (cyJ, 1, .inr (.inl (fun _ => 0))))]) := hD
  refine lv_astore_n hx hb dL_law_19 rfl hl (by decide) (rfl : _ = ([(3, .ref q26), (2, .ref q17), (1, .ref q1), (0, .ref b)] : List (Nat × Value))) (fun ls hl => ?_)
  refine lv_iconst (v := iI 0) hx hb dL_law_20 rfl ?_
  refine lv_istore hx hb dL_law_21 hl (by decide) (rfl : _ = ([(4, .int (iI 0)), (3, .ref q26), (2, .ref q17), (1, .ref q1), (0, .ref b)] : List (Nat × Value))) (fun ls hl => ?_)
  refine W.widen (k := 61) (n := 7020) (Nat.le_of_ble_eq_true rfl) (Nat.le_of_ble_eq_true rfl) ?_
  exact L23 520 61 7020 (Nat.le_of_ble_eq_true rfl) (Nat.le_of_ble_eq_true rfl) q1 q4 q5 q6 q7 q8 q9 q10 q11 q12 q13 q14 q17 q20 q21 q22 q23 q24 q26 q15 (r2.1, r2.2.1, r2.2.2.1, r2.2.2.2.1, r2.2.2.2.2.1, r2.2.2.2.2.2.1, r2.2.2.2.2.2.2.1, r2.2.2.2.2.2.2.2.1, r2.2.2.2.2.2.2.2.2.1, r2.2.2.2.2.2.2.2.2.2.1, r2.2.2.2.2.2.2.2.2.2.2.1, r2.2.2.2.2.2.2.2.2.2.2.2.1, r2.2.2.2.2.2.2.2.2.2.2.2.2) (r18.1, r18.2.1, r18.2.2.1, r18.2.2.2.1, r18.2.2.2.2.1, r18.2.2.2.2.2.1, r18.2.2.2.2.2.2.1, r18.2.2.2.2.2.2.2.1, r18.2.2.2.2.2.2.2.2.1, r18.2.2.2.2.2.2.2.2.2.1, r18.2.2.2.2.2.2.2.2.2.2.1, r18.2.2.2.2.2.2.2.2.2.2.2.1, r18.2.2.2.2.2.2.2.2.2.2.2.2.1, r18.2.2.2.2.2.2.2.2.2.2.2.2.2.1, r18.2.2.2.2.2.2.2.2.2.2.2.2.2.2) (fun _ => 0) (iI 0) _ _ (sb_P ([(q1, .inr (6, [.ref q8, .ref q4, .ref q6])), (q4, .inr (1, [.ref q5, .int r2.1, .int r2.2.1])), (q5, .inl (cyT, 6, .inr (.inr (.inr (.inr (ringF q15)))))), (q6, .inr (4, [.ref q7, .int r2.2.2.1])), (q7, .inl (cyI, 60, .inl r2.2.2.2.1)), (q8, .inr (5, [.ref q9, .ref q12, .ref q14, .int r2.2.2.2.2.1, .int r2.2.2.2.2.2.1, .int r2.2.2.2.2.2.2.1])), (q9, .inr (0, [.ref q11, .ref q10])), (q10, .inl (cyI, 3, .inl r2.2.2.2.2.2.2.2.1)), (q11, .inl (cyI, 162, .inl r2.2.2.2.2.2.2.2.2.1)), (q12, .inr (3, [.ref q13, .int r2.2.2.2.2.2.2.2.2.2.1])), (q13, .inl (cyI, 280, .inl r2.2.2.2.2.2.2.2.2.2.2.1)), (q14, .inl (cyI, 3, .inl r2.2.2.2.2.2.2.2.2.2.2.2.1)), (q17, .inr (7, [.ref q20, .ref q23, .ref q21, .int r18.1, .ref q22, .int r18.2.1, .int r18.2.2.1, .int r18.2.2.2.1, .int r18.2.2.2.2.1, .ref q24, .int r18.2.2.2.2.2.1, .int r18.2.2.2.2.2.2.1, .int r18.2.2.2.2.2.2.2.1, .int r18.2.2.2.2.2.2.2.2.1, .int r18.2.2.2.2.2.2.2.2.2.1])), (q20, .inl (cyI, 452, .inl r18.2.2.2.2.2.2.2.2.2.2.1)), (q21, .inl (cyI, 2712, .inl r18.2.2.2.2.2.2.2.2.2.2.2.1)), (q22, .inl (cyI, 60, .inl r18.2.2.2.2.2.2.2.2.2.2.2.2.1)), (q23, .inl (cyI, 452, .inl r18.2.2.2.2.2.2.2.2.2.2.2.2.2.1)), (q24, .inl (cyI, 48, .inl r18.2.2.2.2.2.2.2.2.2.2.2.2.2.2)), (q26, .inl (cyJ, 1, .inr (.inl (fun _ => 0))))] ++ ringW cyI q15 r2.2.2.2.2.2.2.2.2.2.2.2.2) hP (0 :: 1 :: 2 :: 3 :: 4 :: 5 :: 6 :: 7 :: 8 :: 9 :: 10 :: 11 :: 54 :: 55 :: 56 :: 57 :: 58 :: 59 :: 60 :: 12 :: 13 :: 14 :: 15 :: 16 :: 17 :: 18 :: 19 :: 20 :: 21 :: 22 :: 23 :: 24 :: 25 :: 26 :: 27 :: 28 :: 29 :: 30 :: 31 :: 32 :: 33 :: 34 :: 35 :: 36 :: 37 :: 38 :: 39 :: 40 :: 41 :: 42 :: 43 :: 44 :: 45 :: 46 :: 47 :: 48 :: 49 :: 50 :: 51 :: 52 :: 53 :: []) rfl) (sb_D ([(q1, .inr (6, [.ref q8, .ref q4, .ref q6])), (q4, .inr (1, [.ref q5, .int r2.1, .int r2.2.1])), (q5, .inl (cyT, 6, .inr (.inr (.inr (.inr (ringF q15)))))), (q6, .inr (4, [.ref q7, .int r2.2.2.1])), (q7, .inl (cyI, 60, .inl r2.2.2.2.1)), (q8, .inr (5, [.ref q9, .ref q12, .ref q14, .int r2.2.2.2.2.1, .int r2.2.2.2.2.2.1, .int r2.2.2.2.2.2.2.1])), (q9, .inr (0, [.ref q11, .ref q10])), (q10, .inl (cyI, 3, .inl r2.2.2.2.2.2.2.2.1)), (q11, .inl (cyI, 162, .inl r2.2.2.2.2.2.2.2.2.1)), (q12, .inr (3, [.ref q13, .int r2.2.2.2.2.2.2.2.2.2.1])), (q13, .inl (cyI, 280, .inl r2.2.2.2.2.2.2.2.2.2.2.1)), (q14, .inl (cyI, 3, .inl r2.2.2.2.2.2.2.2.2.2.2.2.1)), (q17, .inr (7, [.ref q20, .ref q23, .ref q21, .int r18.1, .ref q22, .int r18.2.1, .int r18.2.2.1, .int r18.2.2.2.1, .int r18.2.2.2.2.1, .ref q24, .int r18.2.2.2.2.2.1, .int r18.2.2.2.2.2.2.1, .int r18.2.2.2.2.2.2.2.1, .int r18.2.2.2.2.2.2.2.2.1, .int r18.2.2.2.2.2.2.2.2.2.1])), (q20, .inl (cyI, 452, .inl r18.2.2.2.2.2.2.2.2.2.2.1)), (q21, .inl (cyI, 2712, .inl r18.2.2.2.2.2.2.2.2.2.2.2.1)), (q22, .inl (cyI, 60, .inl r18.2.2.2.2.2.2.2.2.2.2.2.2.1)), (q23, .inl (cyI, 452, .inl r18.2.2.2.2.2.2.2.2.2.2.2.2.2.1)), (q24, .inl (cyI, 48, .inl r18.2.2.2.2.2.2.2.2.2.2.2.2.2.2)), (q26, .inl (cyJ, 1, .inr (.inl (fun _ => 0))))] ++ ringW cyI q15 r2.2.2.2.2.2.2.2.2.2.2.2.2) hD (0 :: 1 :: 2 :: 3 :: 4 :: 5 :: 6 :: 7 :: 8 :: 9 :: 10 :: 11 :: 54 :: 55 :: 56 :: 57 :: 58 :: 59 :: 60 :: 12 :: 13 :: 14 :: 15 :: 16 :: 17 :: 18 :: 19 :: 20 :: 21 :: 22 :: 23 :: 24 :: 25 :: 26 :: 27 :: 28 :: 29 :: 30 :: 31 :: 32 :: 33 :: 34 :: 35 :: 36 :: 37 :: 38 :: 39 :: 40 :: 41 :: 42 :: 43 :: 44 :: 45 :: 46 :: 47 :: 48 :: 49 :: 50 :: 51 :: 52 :: 53 :: []) (by decide) rfl) hS ls (lv_sub hl [4, 3, 2, 1, 0] rfl) h
