section NewLongs
variable {p : Program} {l : Launch} {e : Env} {R : Room} {s : State} {m : MethodId} {args : Array Value} {below : List Frame} {meth : Method} {c : Code} {H : Heap} {locs : List Loc} {cells slots : Nat} {Q : State → Prop} {cc : ByteArray} {pc : Nat} {ls : Array Slot} {rest : List Value} {D : va_G} {ws : va_W} {A : Nat → Prop} {H0 : Heap} {cyI cyJ cyT : ClassId}
theorem newJ (hexec : p.tables.exec = Jvm.exec) (hb : c.code = cc) (harr : (Cond.arrayClass .long).before args s = true) (hdg : decode cc pc = .ok (.newarray .long, 2)) (hK : va_K D vwCl (TYS cyI cyJ cyT) s) (hP : va_P D vwCl ws H) (hD : va_D A ws) (hS : va_S A H0 H locs) (hA : ∀ q, H0.size ≤ q → A q)
    {n : Int32} {NN : Nat} (hn : ¬ n < 0) (hN : n.toNatClampNeg = NN) (hbytes : NN * 8 ≤ 536870912) (hcells : cells + 1 ≤ R.cells) (hslots : slots + NN ≤ R.slots)
    (kk : ∀ (q : Nat) (H1 : Heap), va_P D vwCl (ws ++ [(q, .inl (cyJ, NN, .inr (.inl (fun _ => 0))))]) H1 → va_D A (ws ++ [(q, .inl (cyJ, NN, .inr (.inl (fun _ => 0))))]) → va_S A H0 H1 locs → W p l e R s m args below meth c H1 locs (cells + 1) (slots + NN) Q (F0 m (pc + 2) ls (.ref q :: rest))) : W p l e R s m args below meth c H locs cells slots Q (F0 m pc ls (.int n :: rest)) := by
  refine va_newa (atype := .long) (ty := .long) hexec hb harr rfl hK hP hD hS hA (a0 := (NN, .inr (.inl (fun _ => 0)))) (fun cA => rfl) hn hN hbytes hcells hslots hdg (fun q cA H1 hK1 hP1 hD1 hS1 => ?_)
  have h1 : s.vm.findClass _ = some cA := (hK1.2 3 (cA, .long) rfl).2
  have h2 : s.vm.findClass _ = some cyJ := (hK.2 1 (cyJ, .long) rfl).2
  have e : cA = cyJ := Option.some.inj (h1.symm.trans h2)
  subst e
  exact kk q H1 hP1 hD1 hS1
end NewLongs