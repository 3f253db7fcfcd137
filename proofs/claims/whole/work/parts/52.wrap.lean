/-- pairs of exceptions of which one is not the other -/
def XPP : List (String × String) := [("java/lang/IllegalArgumentException", "java/lang/IllegalStateException"), ("java/lang/IllegalArgumentException", "java/lang/IndexOutOfBoundsException"), ("java/lang/IllegalStateException", "java/lang/IllegalArgumentException"), ("java/lang/IllegalStateException", "java/lang/IndexOutOfBoundsException"), ("java/lang/IndexOutOfBoundsException", "java/lang/IllegalArgumentException"), ("java/lang/IndexOutOfBoundsException", "java/lang/IllegalStateException")]
def XPQ (U : State) : Prop := ∀ (i : Nat) {q : String × String}, XPP[i]? = some q → va_Nc q.1 q.2 U
theorem XPQ.moved {u U : State} (hvm : u.vm.Alike U.vm) (h : XPQ u) : XPQ U := fun i q hq => (h i hq).moved hvm
def PREW (D : va_G) (tys : List (ClassId × FieldType)) (sz : Nat) (ws : va_W) : State → Prop := fun U => PREX D tys sz ws U ∧ XPQ U
theorem PREW.blind {D : va_G} {tys : List (ClassId × FieldType)} {sz : Nat} {ws : va_W} {av : List Value} : FrameBlind (va_Pc av (PREW D tys sz ws)) := fun a U g mk q => by
  obtain ⟨q0, q1, qP⟩ := q
  have h := PREX.blind (av := av) (D := D) (tys := tys) (sz := sz) (ws := ws) a U g mk ⟨q0, q1⟩
  exact ⟨h.1, h.2, XPQ.moved (u := U) (U := U.calling g mk a) (Vm.Alike.refl U.vm) qP⟩
theorem PREW.go {D : va_G} {tys : List (ClassId × FieldType)} {ws : va_W} {av : List Value} {A : Nat → Prop} {s : State} {H0 H : Heap} {locs : List Loc} (hK : va_K D vwCl tys s) (hP : va_P D vwCl ws H) (hD : va_D A ws) (hN : NW s) (hR : XR s) (hXS : XS A s H0) (hS : va_S A H0 H locs) (hF : ∀ q, va_A ws H.size q → A q) (hXP : XPQ s) : ∀ U : State, U.heap = H → s.WarmedH U.vm → va_Pc av (PREW D tys H.size ws) av.toArray U := fun U hU hW =>
  ⟨rfl, (PREX.go hK hP hD hN hR hXS hS hF (av := av) U hU hW).2, hXP.moved hW.alike⟩
