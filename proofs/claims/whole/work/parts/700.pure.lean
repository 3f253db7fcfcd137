def pz_qdiv (h a : Nat) : UInt64 := FP.ddiv (FP.i2d (iI (h : Int))) (FP.i2d (iI (a : Int)))
def pz_chk (h a : Nat) : Bool := nn64 (pz_qdiv h a) && (if 0 < (Op.cmpValue (FP.dcmp (pz_qdiv h a) FP.dconst0) .l) then (s_X6_bitsOf_L15 0 12 (1023 : Int64) (pz_qdiv h a)) == some (pz_qdiv h a).toInt64 else (pz_qdiv h a).toInt64 == 0) && decide ((Op.cmpValue (FP.dcmp (pz_qdiv h a) (pz_qdiv h a)) .l) = 0)
def pz_upto (f : Nat → Bool) : Nat → Bool
  | 0 => true
  | n + 1 => f n && pz_upto f n
theorem pz_upto_at {f : Nat → Bool} : ∀ (n : Nat), pz_upto f n = true → ∀ i, i < n → f i = true := by
  intro n
  induction n with
  | zero => intro h i hi; omega
  | succ n ih =>
    intro h i hi
    have h2 : (f n && pz_upto f n) = true := h
    rw [Bool.and_eq_true] at h2
    by_cases e : i = n
    · rw [e]; exact h2.1
    · exact ih h2.2 i (by omega)
def pz_rowk (lo i : Nat) : Bool := pz_upto (fun h => pz_chk h (lo + i)) (lo + i + 1)
set_option maxRecDepth 100000 in
theorem pz_chk_0 : pz_upto (pz_rowk 18) 29 = true := by decide +kernel
set_option maxRecDepth 100000 in
theorem pz_chk_1 : pz_upto (pz_rowk 47) 17 = true := by decide +kernel
set_option maxRecDepth 100000 in
theorem pz_chk_2 : pz_upto (pz_rowk 64) 14 = true := by decide +kernel
set_option maxRecDepth 100000 in
theorem pz_chk_3 : pz_upto (pz_rowk 78) 12 = true := by decide +kernel
set_option maxRecDepth 100000 in
theorem pz_chk_4 : pz_upto (pz_rowk 90) 10 = true := by decide +kernel
set_option maxRecDepth 100000 in
theorem pz_chk_5 : pz_upto (pz_rowk 100) 9 = true := by decide +kernel
set_option maxRecDepth 100000 in
theorem pz_chk_6 : pz_upto (pz_rowk 109) 9 = true := by decide +kernel
set_option maxRecDepth 100000 in
theorem pz_chk_7 : pz_upto (pz_rowk 118) 8 = true := by decide +kernel
set_option maxRecDepth 100000 in
theorem pz_chk_8 : pz_upto (pz_rowk 126) 8 = true := by decide +kernel
set_option maxRecDepth 100000 in
theorem pz_chk_9 : pz_upto (pz_rowk 134) 7 = true := by decide +kernel
set_option maxRecDepth 100000 in
theorem pz_chk_10 : pz_upto (pz_rowk 141) 7 = true := by decide +kernel
set_option maxRecDepth 100000 in
theorem pz_chk_11 : pz_upto (pz_rowk 148) 7 = true := by decide +kernel
set_option maxRecDepth 100000 in
theorem pz_chk_12 : pz_upto (pz_rowk 155) 6 = true := by decide +kernel
set_option maxRecDepth 100000 in
theorem pz_chk_13 : pz_upto (pz_rowk 161) 2 = true := by decide +kernel
theorem pz_chk_of {lo c : Nat} (q : pz_upto (pz_rowk lo) c = true) {h a : Nat} (h1 : lo ≤ a) (h2 : a < lo + c) (h3 : h ≤ a) : pz_chk h a = true := by
  have r := pz_upto_at c q (a - lo) (by omega)
  unfold pz_rowk at r
  have r2 := pz_upto_at _ r h (by omega)
  rwa [show lo + (a - lo) = a by omega] at r2
theorem pz_chk_all : ∀ h, h < 163 → ∀ a, a < 163 → 18 ≤ a → h ≤ a → pz_chk h a = true := by
  intro h _ a ha h18 hle
  by_cases c0 : a < 47
  · exact pz_chk_of pz_chk_0 (by omega) (by omega) hle
  by_cases c1 : a < 64
  · exact pz_chk_of pz_chk_1 (by omega) (by omega) hle
  by_cases c2 : a < 78
  · exact pz_chk_of pz_chk_2 (by omega) (by omega) hle
  by_cases c3 : a < 90
  · exact pz_chk_of pz_chk_3 (by omega) (by omega) hle
  by_cases c4 : a < 100
  · exact pz_chk_of pz_chk_4 (by omega) (by omega) hle
  by_cases c5 : a < 109
  · exact pz_chk_of pz_chk_5 (by omega) (by omega) hle
  by_cases c6 : a < 118
  · exact pz_chk_of pz_chk_6 (by omega) (by omega) hle
  by_cases c7 : a < 126
  · exact pz_chk_of pz_chk_7 (by omega) (by omega) hle
  by_cases c8 : a < 134
  · exact pz_chk_of pz_chk_8 (by omega) (by omega) hle
  by_cases c9 : a < 141
  · exact pz_chk_of pz_chk_9 (by omega) (by omega) hle
  by_cases c10 : a < 148
  · exact pz_chk_of pz_chk_10 (by omega) (by omega) hle
  by_cases c11 : a < 155
  · exact pz_chk_of pz_chk_11 (by omega) (by omega) hle
  by_cases c12 : a < 161
  · exact pz_chk_of pz_chk_12 (by omega) (by omega) hle
  by_cases c13 : a < 163
  · exact pz_chk_of pz_chk_13 (by omega) (by omega) hle
  omega
