/-- an Int32 by its number -/
def iI (z : Int) : Int32 := Int32.ofInt z
/-- an index is in a row of n -/
def gd (i : Int32) (n : Nat) : Bool := !(decide (i < 0)) && decide (i.toNatClampNeg < n)
theorem gd_in {i : Int32} {n : Nat} (h : gd i n = true) : vp_in i n := by
  unfold gd at h
  rw [Bool.and_eq_true, Bool.not_eq_true', decide_eq_false_iff_not, decide_eq_true_eq] at h
  intro q
  rcases q with q | q
  · exact h.1 q
  · exact Nat.not_le.mpr h.2 q
theorem gsome {α : Type} {i : Int32} {n : Nat} {a : Option α} {o : α} (h : (if gd i n = true then a else none) = some o) : vp_in i n ∧ a = some o := by
  by_cases q : gd i n = true
  · rw [if_pos q] at h; exact ⟨gd_in q, h⟩
  · rw [if_neg q] at h; cases h
theorem ipos {α : Type} {c : Prop} [Decidable c] (hc : c) {a b : Option α} {o : α} (h : (if c then a else b) = some o) : a = some o := by rw [if_pos hc] at h; exact h
theorem ineg {α : Type} {c : Prop} [Decidable c] (hc : ¬ c) {a b : Option α} {o : α} (h : (if c then a else b) = some o) : b = some o := by rw [if_neg hc] at h; exact h
theorem bsome {α β : Type} {x : Option α} {f : α → Option β} {o : β} (h : x.bind f = some o) : ∃ r, x = some r ∧ f r = some o := by
  cases x with
  | none => cases h
  | some r => exact ⟨r, rfl, h⟩
/-- a truth value -/
def zb (x : Int32) : Bool := decide (x = 0) || decide (x = 1)
theorem zb_nar {x : Int32} (h : zb x = true) : narrow .boolean (.int x) = .int x := by
  unfold zb at h
  rw [Bool.or_eq_true, decide_eq_true_eq, decide_eq_true_eq] at h
  rcases h with rfl | rfl <;> decide
theorem zsome {α : Type} {x : Int32} {a : Option α} {o : α} (h : (if zb x = true then a else none) = some o) : zb x = true ∧ a = some o := by
  by_cases q : zb x = true
  · rw [if_pos q] at h; exact ⟨q, h⟩
  · rw [if_neg q] at h; cases h
/-- no NaN -/
def nn64 (r : UInt64) : Bool := decide (r &&& 0x7fffffffffffffff ≤ 0x7ff0000000000000)
theorem nsome {α : Type} {x : UInt64} {a : Option α} {o : α} (h : (if nn64 x = true then a else none) = some o) : vf_n64 x ∧ a = some o := by
  by_cases q : nn64 x = true
  · rw [if_pos q] at h; have q2 : decide (x &&& 0x7fffffffffffffff ≤ 0x7ff0000000000000) = true := q; have q3 : x &&& 0x7fffffffffffffff ≤ 0x7ff0000000000000 := of_decide_eq_true q2; exact ⟨q3, h⟩
  · rw [if_neg q] at h; cases h
theorem tsw_ne {x : Int32} {k : Int} (h : ¬ x = iI k) (hk : Int32.toInt (iI k) = k) : x.toInt ≠ k := fun q => h (Int32.toInt_inj.mp (q.trans hk.symm))
theorem tsw_out {x : Int32} (lo hi : Int) (h : ∀ k : Int, lo ≤ k → k ≤ hi → ¬ x = iI k) (hr : Int32.toInt (iI x.toInt) = x.toInt := by simp [iI]) : x.toInt < lo ∨ hi < x.toInt := by
  rcases Int.lt_or_le x.toInt lo with q | q
  · exact Or.inl q
  · rcases Int.lt_or_le hi x.toInt with q2 | q2
    · exact Or.inr q2
    · exact absurd (Int32.toInt_inj.mp hr).symm (h x.toInt q q2)
-- the words of calls between mates of a nest
def NWT : List (String × Nat × MethodName) := [(RX6, 11, yX5_init), (RX5, 20, yX3_init), (RX1, 17, yX5_init), (RX6, 25, yX4_init), (RX4, 23, yX6_read), (RX5, 50, yX6_read), (RX0, 22, yX6_read), (RX0, 18, yX6_copyAll), (RX3, 15, yX6_copyAll), (RX5, 36, yX6_copyAll), (RX3, 23, yX6_write), (RX0, 26, yX6_write), (RX4, 19, yX6_write)]
def NW (U : State) : Prop := (∀ (i : Nat) {q : String × Nat × MethodName}, NWT[i]? = some q → va_Nw (.methodLinkNest q.1 q.2.1 q.2.2 "SleeperBerths") U) ∧ va_AO "SleeperBerths$Train" U
theorem NW.warm {s U : State} (hW : s.WarmedH U.vm) (h : NW s) : NW U := ⟨fun i q hq => va_Nw.warmM hW (h.1 i hq), h.2.moved hW.alike⟩
theorem NW.same {u U : State} (e : u.vm = U.vm) (h : NW u) : NW U := ⟨fun i q hq => va_Nw.same rfl e (h.1 i hq), h.2.moved (e ▸ Vm.Alike.refl _)⟩
abbrev TYS (cyI cyJ cyT : ClassId) : List (ClassId × FieldType) := [(cyI, .int), (cyJ, .long), (cyT, .object "SleeperBerths$Train")]
/-- a world at a method's start -/
def PRE (D : va_G) (tys : List (ClassId × FieldType)) (sz : Nat) (ws : va_W) : State → Prop := fun U => U.heap.size = sz ∧ va_P D vwCl ws U.heap ∧ va_K D vwCl tys U ∧ va_D (fun _ => True) ws ∧ NW U
theorem PRE.blind {D : va_G} {tys : List (ClassId × FieldType)} {sz : Nat} {ws : va_W} {av : List Value} : FrameBlind (va_Pc av (PRE D tys sz ws)) := fun a U g mk q => by
  obtain ⟨q0, q1, qP, qK, qD, qN⟩ := q
  exact ⟨q0, q1, qP, va_K.moved (u := U) (U := U.calling g mk a) (Vm.Alike.refl U.vm) qK, qD, NW.same (u := U) (U := U.calling g mk a) rfl qN⟩
theorem PRE.go {D : va_G} {tys : List (ClassId × FieldType)} {ws : va_W} {av : List Value} {A : Nat → Prop} {s : State} {H : Heap} (hK : va_K D vwCl tys s) (hP : va_P D vwCl ws H) (hD : va_D A ws) (hN : NW s) : ∀ U : State, U.heap = H → s.WarmedH U.vm → va_Pc av (PRE D tys H.size ws) av.toArray U := fun U hU hW =>
  ⟨rfl, by rw [hU], by rw [hU]; exact hP, va_K.moved hW.alike hK, hD.weaken (fun _ _ _ _ => trivial), hN.warm hW⟩
/-- a world at a method's end -/
def WLD (D : va_G) (A : Nat → Prop) (ws : va_W) (t : State) : Prop := va_P D vwCl ws t.heap ∧ va_D A ws
theorem WLD.of {D : va_G} {A : Nat → Prop} {ws : va_W} {t : State} {H : Heap} (ht : t.heap = H) (hP : va_P D vwCl ws H) (hD : va_D A ws) : WLD D A ws t := ⟨by rw [ht]; exact hP, hD⟩
theorem WLD.P {D : va_G} {A : Nat → Prop} {ws : va_W} {t : State} {H : Heap} (h : WLD D A ws t) (ht : t.heap = H) : va_P D vwCl ws H := by rw [← ht]; exact h.1
section NewRows
variable {p : Program} {l : Launch} {e : Env} {R : Room} {s : State} {m : MethodId} {args : Array Value} {below : List Frame} {meth : Method} {c : Code} {H : Heap} {locs : List Loc} {cells slots : Nat} {Q : State → Prop} {cc : ByteArray} {pc : Nat} {ls : Array Slot} {rest : List Value} {D : va_G} {ws : va_W} {A : Nat → Prop} {H0 : Heap} {cyI cyJ cyT : ClassId}
/-- a new row of ints, of the one class of such rows -/
theorem newI (hexec : p.tables.exec = Jvm.exec) (hb : c.code = cc) (harr : (Cond.arrayClass .int).before args s = true) (hdg : decode cc pc = .ok (.newarray .int, 2)) (hK : va_K D vwCl (TYS cyI cyJ cyT) s) (hP : va_P D vwCl ws H) (hD : va_D A ws) (hS : va_S A H0 H locs) (hA : ∀ q, H0.size ≤ q → A q)
    {n : Int32} {NN : Nat} (hn : ¬ n < 0) (hN : n.toNatClampNeg = NN) (hbytes : NN * 4 ≤ 536870912) (hcells : cells + 1 ≤ R.cells) (hslots : slots + NN ≤ R.slots)
    (kk : ∀ (q : Nat) (H1 : Heap), va_P D vwCl (ws ++ [(q, .inl (cyI, NN, .inl (fun _ => 0)))]) H1 → va_D A (ws ++ [(q, .inl (cyI, NN, .inl (fun _ => 0)))]) → va_S A H0 H1 locs → W p l e R s m args below meth c H1 locs (cells + 1) (slots + NN) Q (F0 m (pc + 2) ls (.ref q :: rest))) : W p l e R s m args below meth c H locs cells slots Q (F0 m pc ls (.int n :: rest)) := by
  refine va_newa (atype := .int) (ty := .int) hexec hb harr rfl hK hP hD hS hA (a0 := (NN, .inl (fun _ => 0))) (fun cA => rfl) hn hN hbytes hcells hslots hdg (fun q cA H1 hK1 hP1 hD1 hS1 => ?_)
  have h1 : s.vm.findClass _ = some cA := (hK1.2 3 (cA, .int) rfl).2
  have h2 : s.vm.findClass _ = some cyI := (hK.2 0 (cyI, .int) rfl).2
  have e : cA = cyI := Option.some.inj (h1.symm.trans h2)
  subst e
  exact kk q H1 hP1 hD1 hS1
end NewRows
-- exceptions: kinds, words that are not good words, texts
def exN (k : Nat) : String := if k = 1 then "java/lang/IllegalArgumentException" else if k = 2 then "java/lang/IllegalStateException" else "java/lang/IndexOutOfBoundsException"
def XNC : List String := ["java/lang/IllegalArgumentException", "java/lang/IllegalStateException", "java/lang/IndexOutOfBoundsException"]
def XND : List MethodName := [⟨"java/lang/RuntimeException", "<init>", "(Ljava/lang/String;)V"⟩, ⟨"java/lang/Exception", "<init>", "(Ljava/lang/String;)V"⟩, ⟨"java/lang/Throwable", "<init>", "(Ljava/lang/String;)V"⟩]
def XNB : List Cond := XNC.map (fun c => .castable c c) ++ XND.map (fun c => .declares c)
def XSTR : List (Nat × String) := [(55, "the booking is refused"), (86, "no such berth"), (92, "the passenger cannot have this berth"), (101, "the passenger has paid through"), (107, "the booking would be refused"), (118, "a coach goes as far as a station from 1 to 9"), (130, "a passenger has a berth behind the station"), (144, "the value is out of range"), (158, "the code is not 33 to 126"), (161, "the buffer is full"), (179, "the buffer is not complete passengers as a text"), (198, "no state is saved"), (203, "no such berth or leg"), (208, "no such place or property"), (223, "no such count"), (225, "no such leg"), (227, "what is not 0 or 1"), (235, "what is not 0 to 3"), (250, "from is out of range"), (321, "from or to is out of range"), (323, "no such coach"), (325, "no such setting"), (330, "no such passenger")]
def XR (U : State) : Prop := (∀ (i : Nat) {q : String}, XNC[i]? = some q → va_Nw (.castable q q) U) ∧ (∀ (i : Nat) {q : MethodName}, XND[i]? = some q → va_Nw (.declares q) U) ∧ ∀ (i : Nat) {q : Nat × String}, XSTR[i]? = some q → ∃ a, vk_R RX6 q.1 q.2 a U
theorem XR.warm {s U : State} (hW : s.WarmedH U.vm) (h : XR s) : XR U := ⟨fun i q hq => va_Nw.warmC hW (h.1 i hq), fun i q hq => va_Nw.warmD hW (h.2.1 i hq), fun i q hq => (h.2.2 i hq).imp fun a ha => ha.warm hW⟩
theorem XR.same {u U : State} (e : u.vm = U.vm) (h : XR u) : XR U := ⟨fun i q hq => va_Nw.same rfl e (h.1 i hq), fun i q hq => va_Nw.same rfl e (h.2.1 i hq), fun i q hq => (h.2.2 i hq).imp fun a ha => ha.same e.symm⟩
theorem XR.bad {s : State} {args : Array Value} (h : XR s) : ∀ w ∈ XNB, w.before args s = true := by
  intro w hw
  rcases List.mem_append.mp hw with hw | hw
  · obtain ⟨c, hc, rfl⟩ := List.mem_map.mp hw
    obtain ⟨i, hi⟩ := List.getElem?_of_mem hc
    exact va_Nw.use rfl (h.1 i hi)
  · obtain ⟨c, hc, rfl⟩ := List.mem_map.mp hw
    obtain ⟨i, hi⟩ := List.getElem?_of_mem hc
    exact va_Nw.use rfl (h.2.1 i hi)
def XS (A : Nat → Prop) (U : State) (H : Heap) : Prop := vx_Zq Bundle.tN "UNASSIGNED_STACK" Bundle.steD A U H ∧ vx_Zq Bundle.tN "SUPPRESSED_SENTINEL" Bundle.listD A U H
theorem XS.go {A B : Nat → Prop} {s U : State} {H0 H : Heap} {locs : List Loc} (h : XS A s H0) (hS : va_S A H0 H locs) (hAB : ∀ q, B q → A q) (hU : U.heap = H) (hW : s.vm.Alike U.vm) : XS B U U.heap := by
  subst hU
  exact ⟨((h.1.kept hS.2.1).narrow hAB).moved hW, ((h.2.kept hS.2.1).narrow hAB).moved hW⟩
def PREX (D : va_G) (tys : List (ClassId × FieldType)) (sz : Nat) (ws : va_W) : State → Prop := fun U => PRE D tys sz ws U ∧ XR U ∧ XS (va_A ws sz) U U.heap
theorem PREX.blind {D : va_G} {tys : List (ClassId × FieldType)} {sz : Nat} {ws : va_W} {av : List Value} : FrameBlind (va_Pc av (PREX D tys sz ws)) := fun a U g mk q => by
  obtain ⟨q0, q1, qR, qS⟩ := q
  have h := PRE.blind (av := av) (D := D) (tys := tys) (sz := sz) (ws := ws) a U g mk ⟨q0, q1⟩
  exact ⟨h.1, h.2, XR.same (u := U) (U := U.calling g mk a) rfl qR, qS.1.moved (u := U) (U := U.calling g mk a) (Vm.Alike.refl U.vm), qS.2.moved (u := U) (U := U.calling g mk a) (Vm.Alike.refl U.vm)⟩
theorem PREX.go {D : va_G} {tys : List (ClassId × FieldType)} {ws : va_W} {av : List Value} {A : Nat → Prop} {s : State} {H0 H : Heap} {locs : List Loc} (hK : va_K D vwCl tys s) (hP : va_P D vwCl ws H) (hD : va_D A ws) (hN : NW s) (hR : XR s) (hXS : XS A s H0) (hS : va_S A H0 H locs) (hF : ∀ q, va_A ws H.size q → A q) : ∀ U : State, U.heap = H → s.WarmedH U.vm → va_Pc av (PREX D tys H.size ws) av.toArray U := fun U hU hW =>
  ⟨rfl, (PRE.go hK hP hD hN (av := av) U hU hW).2, hR.warm hW, hXS.go hS hF hU hW.alike⟩
theorem xhat {args : Array Value} {s : State} {Ts : List Cond} {cls : String} {ic : Nat} {names : List String} (hts : ∀ w ∈ Ts, w.before args s = true) (hsub : ∀ w ∈ (vx_atS RX6 ic cls names).filter goodWord, w ∈ Ts) (hR : XR s) (hng : ∀ w ∈ (vx_atS RX6 ic cls names).filter (fun w => !goodWord w), w ∈ XNB) : ∀ w ∈ vx_atS RX6 ic cls names, w.before args s = true :=
  vx_hat (fun w h => hts w (hsub w h)) hng hR.bad
/-- a world when something was thrown -/
def XWL (D : va_G) (A : Nat → Prop) (k : Nat) (E : String) (ws : va_W) (t : State) : Prop := ¬ k = 0 ∧ E = exN k ∧ WLD D A ws t
theorem XWL.of {D : va_G} {A : Nat → Prop} {ws : va_W} {t s : State} {H : Heap} {locs : List Loc} {k : Nat} {E : String} (hk : ¬ k = 0) (hE : E = exN k) (hP : va_P D vwCl ws H) (hD : va_D A ws) (hS : va_S A s.heap H locs) (h1 : H.size ≤ t.heap.size) (h2 : ∀ q : Nat, q < H.size → t.heap[q]? = H[q]?) : vx_X (S := Unit) (fun _ => True) (fun E _ t => XWL D A k E ws t) A E s t :=
  ⟨(), trivial, ⟨hk, hE, hP.kept (fun i q hi => h2 q.1 (vx_lt hP hi)), hD⟩, Nat.le_trans hS.1 h1, fun q hq hn => (h2 q (Nat.lt_of_lt_of_le hq hS.1)).trans (hS.2.1 q hq hn)⟩
theorem XWL.of2 {D : va_G} {A : Nat → Prop} {ws : va_W} {t s : State} {H : Heap} {locs : List Loc} {k : Nat} {E : String} (hk : ¬ k = 0) (hE : E = exN k) (hP : va_P D vwCl ws H) (hD : va_D A ws) (hS : va_S A s.heap H locs) (ht : t.heap = H) : vx_X (S := Unit) (fun _ => True) (fun E _ t => XWL D A k E ws t) A E s t :=
  XWL.of hk hE hP hD hS (by rw [ht]; exact Nat.le_refl _) (fun q _ => by rw [ht])
theorem sb_P {D : va_G} {cl : List vw_C} {ws : va_W} {H : Heap} (w2 : va_W) (h : va_P D cl ws H) (is : List Nat) (e : is.filterMap (fun i => ws[i]?) = w2) : va_P D cl w2 H := h.sub is e
theorem sb_D {A : Nat → Prop} {ws : va_W} (w2 : va_W) (h : va_D A ws) (is : List Nat) (n : va_nd is = true) (e : is.map (fun i => ws[i]?) = w2.map some) : va_D A w2 := h.sub is n e
/-- a train's state: holders, ends, cells, size, settings, nextNumber, bookings, leftOut -/
abbrev TS : Type := (Nat → Int32) × (Nat → Int32) × (Nat → Int32) × Int32 × (Nat → Int32) × Int32 × Int32 × Int32
/-- the ring's row: the addresses of six trains -/
def ringF (hr : Nat → Nat) : Nat → Option Nat := va_up (va_up (va_up (va_up (va_up (va_up (fun _ => none) 0 (some (hr 0))) 1 (some (hr 7))) 2 (some (hr 14))) 3 (some (hr 21))) 4 (some (hr 28))) 5 (some (hr 35))
abbrev trainW (cyI : ClassId) (a0 a1 a2 a3 a4 a5 a6 : Nat) (T : TS) : va_W := [(a0, .inr (5, [.ref a1, .ref a4, .ref a6, .int T.2.2.2.2.2.1, .int T.2.2.2.2.2.2.1, .int T.2.2.2.2.2.2.2])), (a1, .inr (0, [.ref a2, .ref a3])), (a2, .inl (cyI, 162, .inl T.1)), (a3, .inl (cyI, 3, .inl T.2.1)), (a4, .inr (3, [.ref a5, .int T.2.2.2.1])), (a5, .inl (cyI, 280, .inl T.2.2.1)), (a6, .inl (cyI, 3, .inl T.2.2.2.2.1))]
abbrev ringW (cyI : ClassId) (hr : Nat → Nat) (hs : Nat → TS) : va_W := trainW cyI (hr 0) (hr 1) (hr 2) (hr 3) (hr 4) (hr 5) (hr 6) (hs 0) ++ trainW cyI (hr 7) (hr 8) (hr 9) (hr 10) (hr 11) (hr 12) (hr 13) (hs 1) ++ trainW cyI (hr 14) (hr 15) (hr 16) (hr 17) (hr 18) (hr 19) (hr 20) (hs 2) ++ trainW cyI (hr 21) (hr 22) (hr 23) (hr 24) (hr 25) (hr 26) (hr 27) (hs 3) ++ trainW cyI (hr 28) (hr 29) (hr 30) (hr 31) (hr 32) (hr 33) (hr 34) (hs 4) ++ trainW cyI (hr 35) (hr 36) (hr 37) (hr 38) (hr 39) (hr 40) (hr 41) (hs 5)
theorem ringF_at (hr : Nat → Nat) : ∀ j, j < 6 → ringF hr j = some (hr (7 * j)) := by
  intro j hj
  match j, hj with
  | 0, _ => rfl
  | 1, _ => rfl
  | 2, _ => rfl
  | 3, _ => rfl
  | 4, _ => rfl
  | 5, _ => rfl
theorem six_pos : ∀ j : Nat, j < 6 → ¬ iI (j : Int) < 0 := by decide
theorem six_lt : ∀ j : Nat, j < 6 → ¬ iI 6 ≤ iI (j : Int) := by decide
theorem six_cl : ∀ j : Nat, j < 6 → (iI (j : Int)).toNatClampNeg = j := by decide
theorem six_gd : ∀ j : Nat, j < 6 → gd (iI (j : Int)) 6 = true := by decide
def six {α : Type} (a0 a1 a2 a3 a4 a5 : α) : Nat → α := fun j => match j with
  | 0 => a0
  | 1 => a1
  | 2 => a2
  | 3 => a3
  | 4 => a4
  | _ => a5
def l42 (L : List Nat) : Nat → Nat := fun i => L.getD i 0
section NewT
variable {p : Program} {l : Launch} {e : Env} {R : Room} {s : State} {m : MethodId} {args : Array Value} {below : List Frame} {meth : Method} {c : Code} {H : Heap} {locs : List Loc} {cells slots : Nat} {Q : State → Prop} {cc : ByteArray} {pc : Nat} {ls : Array Slot} {rest : List Value} {D : va_G} {ws : va_W} {A : Nat → Prop} {H0 : Heap} {cyI cyJ cyT : ClassId}
theorem newT (hexec : p.tables.exec = Jvm.exec) (hb : c.code = cc) {own : String} {index : Nat} (hown : s.vm.findClass own = some m.cls) (hcl : (Cond.classLink own index "SleeperBerths$Train").before args s = true) (hover : va_AO "SleeperBerths$Train" s) (hdg : decode cc pc = .ok (.anewarray index, 3)) (hK : va_K D vwCl (TYS cyI cyJ cyT) s) (hP : va_P D vwCl ws H) (hD : va_D A ws) (hS : va_S A H0 H locs) (hA : ∀ q, H0.size ≤ q → A q)
    {n : Int32} {NN : Nat} (hn : ¬ n < 0) (hN : n.toNatClampNeg = NN) (hbytes : NN * 4 ≤ 536870912) (hcells : cells + 1 ≤ R.cells) (hslots : slots + NN ≤ R.slots)
    (kk : ∀ (q : Nat) (H1 : Heap), va_P D vwCl (ws ++ [(q, .inl (cyT, NN, .inr (.inr (.inr (.inr (fun _ => none))))))]) H1 → va_D A (ws ++ [(q, .inl (cyT, NN, .inr (.inr (.inr (.inr (fun _ => none))))))]) → va_S A H0 H1 locs → W p l e R s m args below meth c H1 locs (cells + 1) (slots + NN) Q (F0 m (pc + 3) ls (.ref q :: rest))) : W p l e R s m args below meth c H locs cells slots Q (F0 m pc ls (.int n :: rest)) := by
  refine va_newq hexec hb hown hcl hover hK hP hD hS hA hn hN hbytes hcells hslots hdg (fun q cA H1 hK1 hP1 hD1 hS1 => ?_)
  obtain ⟨_, _, _, _, _, h1⟩ := (hK1.2 3 (cA, .object "SleeperBerths$Train") rfl).2
  obtain ⟨_, _, _, _, _, h2⟩ := (hK.2 2 (cyT, .object "SleeperBerths$Train") rfl).2
  have e : cA = cyT := Option.some.inj (h1.symm.trans h2)
  subst e
  exact kk q H1 hP1 hD1 hS1
end NewT
set_option maxRecDepth 20000 in
theorem m_X1_saved_c : ∀ w ∈ u_ws RX1 TX1 3, w ∈ wsX1_saved := by decide +kernel
set_option maxRecDepth 20000 in
theorem m_X1_saved_f18 : (.fieldLink RX1 18 "SleeperBerths$History" "oldest" "I" : Cond) ∈ wsX1_saved := by decide +kernel
set_option maxRecDepth 20000 in
theorem m_X1_saved_f11 : (.fieldLink RX1 11 "SleeperBerths$History" "ring" "[LSleeperBerths$Train;" : Cond) ∈ wsX1_saved := by decide +kernel
set_option maxHeartbeats 4000000 in
set_option maxRecDepth 100000 in
theorem c_X1_saved (l : Launch) (dC : Nat → ClassId) (dI : Nat → Nat → Nat) (cyI cyJ cyT : ClassId) (h_p0 h_p0_ring : Nat) (hr : Nat → Nat) (sz : Nat) (v_oldest v_size a1 : Int32) (j : Nat) (hj : j < 6) (hi : (v_oldest + a1) - (v_oldest + a1) / iI 6 * iI 6 = iI (j : Int)) : Met l yX1_saved wsX1_saved ({ frames := 0, cells := 0, slots := 0, locals := 0 }) (va_Pc [.ref h_p0, .int a1] (PRE (dC, dI) (TYS cyI cyJ cyT) sz [(h_p0, .inr (1, [.ref h_p0_ring, .int v_oldest, .int v_size])), (h_p0_ring, .inl (cyT, 6, .inr (.inr (.inr (.inr (ringF hr))))))])) (va_Qr (S := Unit) (fun _ => True) (fun _ ra t => ra = hr (7 * j) ∧ WLD (dC, dI) (va_A [(h_p0, .inr (1, [.ref h_p0_ring, .int v_oldest, .int v_size])), (h_p0_ring, .inl (cyT, 6, .inr (.inr (.inr (.inr (ringF hr))))))] sz) [(h_p0, .inr (1, [.ref h_p0_ring, .int v_oldest, .int v_size])), (h_p0_ring, .inl (cyT, 6, .inr (.inr (.inr (.inr (ringF hr))))))] t) (va_A [(h_p0, .inr (1, [.ref h_p0_ring, .int v_oldest, .int v_size])), (h_p0_ring, .inl (cyT, 6, .inr (.inr (.inr (.inr (ringF hr))))))] sz)) 0 0 (va_A [(h_p0, .inr (1, [.ref h_p0_ring, .int v_oldest, .int v_size])), (h_p0_ring, .inl (cyT, 6, .inr (.inr (.inr (.inr (ringF hr))))))] sz) := by
  refine Met.ofW (cc := cX1_saved) (maxL := 3) (ret := (some (.object "SleeperBerths$Train"))) (by decide) rfl ?_
  intro p e s m args below meth c s₁ B hml hv
  obtain ⟨rfl, hsz, hP, hK, hD0, hNW⟩ := hv
  have hx := B.exec
  have hb := B.bytes
  have hr9 := B.returns
  have hts := atoms_spec (ws := wsX1_saved) B.pre
  have hown : s.vm.findClass RX1 = some m.cls := findClass_of_methodNamed B.named
  have hlocks := B.notSynchronized
  subst hsz
  have hD := hD0.self (sz := s.heap.size)
  generalize hAe : va_A [(h_p0, .inr (1, [.ref h_p0_ring, .int v_oldest, .int v_size])), (h_p0_ring, .inl (cyT, 6, .inr (.inr (.inr (.inr (ringF hr))))))] s.heap.size = A at hD ⊢
  have hS : va_S A s.heap s.heap [] := va_S.rf
  have hl := lv_entry ([.ref h_p0, .int a1]) (n := 3) (Nat.le_of_ble_eq_true rfl)
  rw [lg_entry_eq]
  generalize (lg_sl ([.ref h_p0, .int a1]) ++ List.replicate (3 - (lg_sl ([.ref h_p0, .int a1])).length) Slot.unset).toArray = ls at hl ⊢
  have hl : lv_has ls 3 [(0, .ref h_p0), (1, .int a1)] := hl
  refine lv_aload_n hx hb dX1_saved_0 rfl (lv_at hl 0 rfl) ?_
  refine va_get (D := (dC, dI)) (ci := 1) (v := .int v_oldest) (C := RX1) (T := TX1) (N := 3) hx hb hts m_X1_saved_c hown hK hP 0 rfl rfl 1 (by decide) (hts (.fieldLink RX1 18 "SleeperBerths$History" "oldest" "I") m_X1_saved_f18) (fun _ h9 => h9) rfl dX1_saved_1 ?_
  refine lv_iload_n hx hb dX1_saved_4 rfl (lv_at hl 1 rfl) ?_
  refine lv_iadd hx hb dX1_saved_5 ?_
  refine lv_bipush (v := iI 6) hx hb dX1_saved_6 (by decide) ?_
  refine lv_irem hx hb dX1_saved_8 (by decide) ?_
  rw [hi]
  refine lv_istore_n hx hb dX1_saved_9 rfl hl (by decide) (rfl : _ = ([(2, .int (iI (j : Int))), (0, .ref h_p0), (1, .int a1)] : List (Nat × Value))) (fun ls hl => ?_)
  refine lv_iload_n hx hb dX1_saved_10 rfl (lv_at hl 0 rfl) ?_
  refine lv_if_lt (tgt := 32) hx hb dX1_saved_11 (by decide) (fun c1 => ?_) (fun _ => ?_)
  · exact absurd c1 (six_pos j hj)
  refine lv_iload_n hx hb dX1_saved_14 rfl (lv_at hl 0 rfl) ?_
  refine lv_aload_n hx hb dX1_saved_15 rfl (lv_at hl 1 rfl) ?_
  refine va_get (D := (dC, dI)) (ci := 1) (v := .ref h_p0_ring) (C := RX1) (T := TX1) (N := 3) hx hb hts m_X1_saved_c hown hK hP 0 rfl rfl 0 (by decide) (hts (.fieldLink RX1 11 "SleeperBerths$History" "ring" "[LSleeperBerths$Train;") m_X1_saved_f11) (fun _ h9 => h9) rfl dX1_saved_16 ?_
  refine va_alen (D := (dC, dI)) (v := iI 6) hx hb hK hP 1 2 rfl rfl (show Int32.ofNat 6 = iI 6 by decide) dX1_saved_19 ?_
  refine lv_icmp_ge (tgt := 32) hx hb dX1_saved_20 (by decide) (fun c1 => ?_) (fun _ => ?_)
  · exact absurd c1 (six_lt j hj)
  refine lv_aload_n hx hb dX1_saved_23 rfl (lv_at hl 1 rfl) ?_
  refine va_get (D := (dC, dI)) (ci := 1) (v := .ref h_p0_ring) (C := RX1) (T := TX1) (N := 3) hx hb hts m_X1_saved_c hown hK hP 0 rfl rfl 0 (by decide) (hts (.fieldLink RX1 11 "SleeperBerths$History" "ring" "[LSleeperBerths$Train;") m_X1_saved_f11) (fun _ h9 => h9) rfl dX1_saved_24 ?_
  refine lv_iload_n hx hb dX1_saved_27 rfl (lv_at hl 0 rfl) ?_
  refine va_aldq (D := (dC, dI)) (C := "SleeperBerths$Train") hx hb hK hP 1 2 rfl rfl (gd_in (six_gd j hj)) dX1_saved_28 ?_
  rw [six_cl j hj, ringF_at hr j hj]
  refine lv_goto (tgt := 33) hx hb dX1_saved_29 (by decide) ?_
  exact W.aret (v := .ref (hr (7 * j))) hx hb hr9 (Or.inl ⟨_, rfl⟩) (Or.inr ⟨_, rfl⟩) (fun t ht hW => ⟨⟨(), hr (7 * j), rfl, trivial, rfl, WLD.of ht hP hD⟩, hS.F ht⟩) hS.2.2 dX1_saved_33
