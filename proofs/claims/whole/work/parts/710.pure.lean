theorem pz_bits_mono (n : Nat) : ∀ (k k2 : Nat) (e : Int64) (x : UInt64) (r : Int64), k ≤ k2 → s_X6_bitsOf_L15 0 k e x = some r → s_X6_bitsOf_L15 n k2 e x = some r := by
  intro k
  induction k with
  | zero => intro k2 e x r h1 h2; cases h2
  | succ k ih =>
    intro k2 e x r h1 h2
    obtain ⟨k2, rfl⟩ : ∃ z, k2 = z + 1 := ⟨k2 - 1, by omega⟩
    rw [s_X6_bitsOf_L15] at h2 ⊢
    by_cases a : 0 ≤ (Op.cmpValue (FP.dcmp x FP.dconst1) .g)
    · rw [if_pos a] at h2 ⊢; exact h2
    · rw [if_neg a] at h2 ⊢
      by_cases b : (lg_cmp e (1 : Int64)) ≤ 0
      · rw [if_pos b] at h2 ⊢; exact h2
      · rw [if_neg b] at h2 ⊢
        by_cases c : nn64 (FP.dmul x (4611686018427387904 : UInt64)) = true
        · rw [if_pos c] at h2 ⊢; exact ih k2 _ _ r (by omega) h2
        · rw [if_neg c] at h2; cases h2
def pz_shr (F : Int → Int) : UInt64 := FP.ddiv (FP.i2d (iI (pz_hadN F))) (FP.i2d (iI (pz_hadN F + pz_smc (fun l => pz_opnN F l) 9 0)))
theorem pz_had_rg (F : Int → Int) : 0 ≤ pz_hadN F ∧ pz_hadN F ≤ 162 := by
  have q := pz_smc_rg (f := fun z => if F (290 + z) = -1 then 0 else 1) 1 162 0 (fun z _ _ => by split <;> omega)
  unfold pz_hadN
  omega
theorem pz_all_rg {B : Int} {F : Int → Int} (h : pz_Inv B F) : 18 ≤ pz_hadN F + pz_smc (fun l => pz_opnN F l) 9 0 ∧ pz_hadN F + pz_smc (fun l => pz_opnN F l) 9 0 ≤ 162 := by
  have r1 : pz_smc (fun l => pz_opnN F l) 9 0 = pz_smc (fun b => pz_smc (fun l => pz_bi (pz_opB F b l)) 9 0) 18 0 := by
    unfold pz_opnN
    exact pz_smc_swap (fun l b => pz_bi (pz_opB F b l)) 18 0 9 0
  have r2 : pz_hadN F = pz_smc (fun b => pz_smc (fun l => if F (290 + (b * 9 + l)) = -1 then (0 : Int) else 1) 9 0) 18 0 := by
    have key : ∀ (c : Nat), pz_smc (fun z => if F (290 + z) = -1 then (0 : Int) else 1) (9 * c) 0 = pz_smc (fun b => pz_smc (fun l => if F (290 + (b * 9 + l)) = -1 then (0 : Int) else 1) 9 0) c 0 := by
      intro c
      induction c with
      | zero => rfl
      | succ c ih =>
        rw [show 9 * (c + 1) = 9 * c + 9 by omega, pz_smc_split, ih, pz_smc_last (fun b => pz_smc (fun l => if F (290 + (b * 9 + l)) = -1 then (0 : Int) else 1) 9 0) c 0]
        refine congrArg (fun w => pz_smc (fun b => pz_smc (fun l => if F (290 + (b * 9 + l)) = -1 then (0 : Int) else 1) 9 0) c 0 + w) ?_
        have sh : ∀ (d : Nat) (x : Int), pz_smc (fun z => if F (290 + z) = -1 then (0 : Int) else 1) d (0 + ((9 * c : Nat) : Int) + x) = pz_smc (fun l => if F (290 + ((0 + (c : Int)) * 9 + l)) = -1 then (0 : Int) else 1) d x := by
          intro d
          induction d with
          | zero => intro x; rfl
          | succ d ihd =>
            intro x
            rw [pz_smc_s, pz_smc_s, show 0 + ((9 * c : Nat) : Int) + x + 1 = 0 + ((9 * c : Nat) : Int) + (x + 1) by omega, ihd (x + 1), show 290 + (0 + ((9 * c : Nat) : Int) + x) = 290 + ((0 + (c : Int)) * 9 + x) by omega]
        have := sh 9 0
        rw [Int.add_zero] at this
        exact this
    exact key 18
  have cell : ∀ b l : Int, 0 ≤ (if F (290 + (b * 9 + l)) = -1 then (0 : Int) else 1) + pz_bi (pz_opB F b l) ∧ (if F (290 + (b * 9 + l)) = -1 then (0 : Int) else 1) + pz_bi (pz_opB F b l) ≤ 1 := by
    intro b l
    unfold pz_opB
    by_cases d : F (290 + (b * 9 + l)) = -1
    · rw [if_pos d]
      have := pz_bi_rg (decide (l < F (3 + b / 6)) && decide (F (290 + (b * 9 + l)) = -1))
      omega
    · rw [if_neg d, decide_eq_false d, Bool.and_false]; decide
  have cell0 : ∀ b : Int, 0 ≤ b → b < 18 → (if F (290 + (b * 9 + 0)) = -1 then (0 : Int) else 1) + pz_bi (pz_opB F b 0) = 1 := by
    intro b b0 b1
    have en := h.en (b / 6) (by omega) (by omega)
    unfold pz_opB
    by_cases d : F (290 + (b * 9 + 0)) = -1
    · rw [if_pos d, decide_eq_true d, decide_eq_true (show 0 < F (3 + b / 6) by omega)]; rfl
    · rw [if_neg d, decide_eq_false d, Bool.and_false]; rfl
  rw [r1, r2, ← pz_smc_add]
  have pz_row : ∀ b : Int, 0 ≤ b → b < 18 → 1 ≤ pz_smc (fun l => if F (290 + (b * 9 + l)) = -1 then (0 : Int) else 1) 9 0 + pz_smc (fun l => pz_bi (pz_opB F b l)) 9 0 ∧ pz_smc (fun l => if F (290 + (b * 9 + l)) = -1 then (0 : Int) else 1) 9 0 + pz_smc (fun l => pz_bi (pz_opB F b l)) 9 0 ≤ 9 := by
    intro b b0 b1
    rw [← pz_smc_add]
    have q := pz_smc_rg (f := fun l => (if F (290 + (b * 9 + l)) = -1 then (0 : Int) else 1) + pz_bi (pz_opB F b l)) 1 9 0 (fun z _ _ => cell b z)
    have q8 := pz_smc_rg (f := fun l => (if F (290 + (b * 9 + l)) = -1 then (0 : Int) else 1) + pz_bi (pz_opB F b l)) 1 8 (0 + 1) (fun z _ _ => cell b z)
    refine ⟨?_, by omega⟩
    rw [pz_smc_s]
    have c0 := cell0 b b0 b1
    omega
  have tot : ∀ (c : Nat), c ≤ 18 → ∀ x : Int, 0 ≤ x → x + c ≤ 18 → (c : Int) ≤ pz_smc (fun z => pz_smc (fun l => if F (290 + (z * 9 + l)) = -1 then (0 : Int) else 1) 9 0 + pz_smc (fun l => pz_bi (pz_opB F z l)) 9 0) c x ∧ pz_smc (fun z => pz_smc (fun l => if F (290 + (z * 9 + l)) = -1 then (0 : Int) else 1) 9 0 + pz_smc (fun l => pz_bi (pz_opB F z l)) 9 0) c x ≤ 9 * c := by
    intro c
    induction c with
    | zero => intro _ x _ _; show ((0 : Nat) : Int) ≤ 0 ∧ (0 : Int) ≤ 9 * ((0 : Nat) : Int); omega
    | succ c ih =>
      intro hc x h0 h1
      have a := ih (by omega) (x + 1) (by omega) (by omega)
      have b := pz_row x h0 (by omega)
      rw [pz_smc_s]
      omega
  have := tot 18 (by omega) 0 (by omega) (by omega)
  omega
theorem pz_shr_chk {B : Int} {F : Int → Int} (h : pz_Inv B F) : nn64 (pz_shr F) = true ∧ (∀ n, 3000 ≤ n → s_X6_bitsOf n (pz_shr F) = some (pz_shr F).toInt64) ∧ (Op.cmpValue (FP.dcmp (pz_shr F) (pz_shr F)) .l) = 0 := by
  have a := pz_had_rg F
  have b := pz_all_rg h
  have o : 0 ≤ pz_smc (fun l => pz_opnN F l) 9 0 := (pz_smc_rg (f := fun l => pz_opnN F l) 18 9 0 (fun z _ _ => pz_opnN_rg F z)).1
  have c := pz_chk_all (pz_hadN F).toNat (by omega) (pz_hadN F + pz_smc (fun l => pz_opnN F l) 9 0).toNat (by omega) (by omega) (by omega)
  have e : pz_qdiv (pz_hadN F).toNat (pz_hadN F + pz_smc (fun l => pz_opnN F l) 9 0).toNat = pz_shr F := by
    unfold pz_qdiv pz_shr
    rw [show (((pz_hadN F).toNat : Nat) : Int) = pz_hadN F by omega, show (((pz_hadN F + pz_smc (fun l => pz_opnN F l) 9 0).toNat : Nat) : Int) = pz_hadN F + pz_smc (fun l => pz_opnN F l) 9 0 by omega]
  unfold pz_chk at c
  rw [e, Bool.and_eq_true, Bool.and_eq_true, decide_eq_true_eq] at c
  refine ⟨c.1.1, fun n hn => ?_, c.2⟩
  unfold s_X6_bitsOf
  have d := c.1.2
  by_cases g : 0 < (Op.cmpValue (FP.dcmp (pz_shr F) FP.dconst0) .l)
  · rw [if_pos g] at d ⊢
    exact pz_bits_mono n 12 n _ _ _ (by omega) (eq_of_beq d)
  · rw [if_neg g] at d ⊢
    rw [eq_of_beq d]
theorem pz_allOpen_L {F : Int → Int} (hr : pz_rng F) {n : Nat} (hn : 3000 ≤ n) : ∀ (c : Nat) (x s : Int), 0 ≤ x → x + c = 9 → ∀ k, c < k → s_X0_allOpen_L4 n (pz_ar F 3 3) (pz_ar F 290 162) k (iI s) (iI x) = some (iI (s + pz_smc (fun l => pz_opnN F l) c x)) := by
  intro c
  induction c with
  | zero =>
    intro x s hx hc k hk
    obtain ⟨k, rfl⟩ : ∃ z, k = z + 1 := ⟨k - 1, by omega⟩
    rw [s_X0_allOpen_L4, if_pos (by rw [pz_iI_le (by omega) (by omega) (by omega) (by omega)]; omega)]
    show _ = some (iI (s + 0)); rw [Int.add_zero]
  | succ c ih =>
    intro x s hx hc k hk
    obtain ⟨k, rfl⟩ : ∃ z, k = z + 1 := ⟨k - 1, by omega⟩
    rw [s_X0_allOpen_L4, if_neg (by rw [pz_iI_le (by omega) (by omega) (by omega) (by omega)]; omega), pz_openOn_a hr hn hx (by omega), Option.bind_some, pz_iI_add, pz_iI_add, ih (x + 1) _ (by omega) (by omega) k (by omega), pz_smc_s]
    congr 2; omega
theorem pz_full_c6 {B : Int} {F : Int → Int} (h : pz_Inv B F) {n : Nat} (hn : 3000 ≤ n) : s_X6_fullness n (pz_ar F 3 3) (pz_ar F 290 162) = some (pz_shr F) := by
  have c := pz_shr_chk h
  have b := pz_all_rg h
  unfold s_X6_fullness s_X0_allOpen
  rw [pz_allHad_a h.rg hn, pz_allOpen_L h.rg hn 9 0 0 (by omega) (by omega) n (by omega), Int.zero_add]
  simp only [Option.bind_some, pz_iI_add]
  rw [if_neg (by rw [pz_iI_0, pz_iI_eq (by omega) (by omega) (by omega) (by omega)]; omega)]
  exact if_pos c.1
theorem pz_full_L {B : Int} {F : Int → Int} (h : pz_Inv B F) {n : Nat} (hn : 3000 ≤ n) : ∀ (c : Nat) (x s : Int), 0 ≤ x → x + c = 9 → s + pz_smc (fun l => pz_opnN F l) c x = pz_smc (fun l => pz_opnN F l) 9 0 → ∀ k, c < k → s_X7_full_L10 n (pz_ar F 0 452) k (iI (pz_hadN F)) (iI s) (iI x) = some (pz_shr F) := by
  have q := pz_shr_chk h
  intro c
  induction c with
  | zero =>
    intro x s hx hc hs k hk
    obtain ⟨k, rfl⟩ : ∃ z, k = z + 1 := ⟨k - 1, by omega⟩
    have e : s = pz_smc (fun l => pz_opnN F l) 9 0 := by rw [← hs]; show s = s + 0; omega
    rw [s_X7_full_L10, if_pos (by rw [pz_iI_le (by omega) (by omega) (by omega) (by omega)]; omega), pz_iI_add, e]
    exact if_pos q.1
  | succ c ih =>
    intro x s hx hc hs k hk
    obtain ⟨k, rfl⟩ : ∃ z, k = z + 1 := ⟨k - 1, by omega⟩
    rw [pz_smc_s] at hs
    rw [s_X7_full_L10, if_neg (by rw [pz_iI_le (by omega) (by omega) (by omega) (by omega)]; omega), pz_freeOn_m h.rg hn hx (by omega) (by omega) (by omega), if_pos rfl, Option.bind_some, pz_iI_add, pz_iI_add]
    exact ih (x + 1) _ (by omega) (by omega) (by omega) k (by omega)
theorem pz_full_m {B : Int} {F : Int → Int} (h : pz_Inv B F) {n : Nat} (hn : 3000 ≤ n) : s_X7_full n (pz_ar F 0 452) = some (pz_shr F) := by
  unfold s_X7_full
  rw [pz_overAll_a h hn (by omega) (by omega), Option.bind_some, ← pz_had_5 h]
  exact pz_full_L h hn 9 0 0 (by omega) (by omega) (by omega) n (by omega)
def pz_mxs (f : Int → Int) : Nat → Int → Int64 → Int64
  | 0, _, h => h
  | c + 1, x, h => pz_mxs f c (x + 1) (((31 : Int64) * h) + (iI (f x)).toInt64)
theorem pz_mxs_s (f : Int → Int) (c : Nat) (x : Int) (h : Int64) : pz_mxs f (c + 1) x h = pz_mxs f c (x + 1) (((31 : Int64) * h) + (iI (f x)).toInt64) := rfl
theorem pz_mxs_split (f : Int → Int) : ∀ (c d : Nat) (x : Int) (h : Int64), pz_mxs f (c + d) x h = pz_mxs f d (x + c) (pz_mxs f c x h) := by
  intro c
  induction c with
  | zero => intro d x h; rw [show 0 + d = d by omega, show x + ((0 : Nat) : Int) = x by omega]; rfl
  | succ c ih =>
    intro d x h
    rw [show c + 1 + d = (c + d) + 1 by omega, pz_mxs_s, pz_mxs_s, ih d (x + 1), show x + 1 + (c : Int) = x + ((c + 1 : Nat) : Int) by omega]
theorem pz_mxs_congr {f g : Int → Int} : ∀ (c : Nat) (x y : Int) (h : Int64), (∀ z : Int, 0 ≤ z → z < c → f (x + z) = g (y + z)) → pz_mxs f c x h = pz_mxs g c y h := by
  intro c
  induction c with
  | zero => intro x y h _; rfl
  | succ c ih =>
    intro x y h e
    have e0 := e 0 (by omega) (by omega)
    rw [Int.add_zero, Int.add_zero] at e0
    rw [pz_mxs_s, pz_mxs_s, e0]
    exact ih (x + 1) (y + 1) _ (fun z h1 h2 => by have := e (z + 1) (by omega) (by omega); rw [show x + 1 + z = x + (z + 1) by omega, show y + 1 + z = y + (z + 1) by omega]; exact this)
def pz_fP (F : Int → Int) (z : Int) : Int := pz_prp F (z / 9) (z % 9)
def pz_fW (F : Int → Int) (z : Int) : Int := if z % 2 = 0 then pz_opnN F (z / 2) else pz_lowN F (z / 2)
def pz_fS (F : Int → Int) (z : Int) : Int := if z % 2 = 0 then pz_farN F (z / 2) else pz_rsn F (z / 2) 9
def pz_fT (F : Int → Int) (w : Int) : Int := pz_telV F 1 8 (pz_fnd F 1 8 false) w
def pz_dgv (F : Int → Int) (k t : Int) (X : Int → Int) : Int64 :=
  pz_mxs X t.toNat 0 (((31 : Int64) * (((31 : Int64) * pz_mxs (pz_fT F) 4 0 (pz_mxs (pz_fS F) 18 0 (pz_mxs (pz_fW F) 18 0 (pz_mxs (pz_fP F) (9 * (F 6).toNat) 0 (pz_mxs (fun z => F (290 + z)) 162 0 (pz_mxs F 6 0 (pz_mxs (pz_cntV F k) 9 0 (2999 : Int64)))))))) + (pz_shr F).toInt64)) + (iI t).toInt64)
theorem pz_dg_ends {F : Int → Int} (n : Nat) (rest : Int64 → Option Int64) (hrest : ∀ h, (s_X6_mixCoaches_L38 n (pz_ar F 3 3) (pz_ar F 290 162) n).1 h (iI 0) = rest h) : ∀ (c : Nat) (x : Int) (h : Int64), 0 ≤ x → x + c = 3 → ∀ k, c < k → s_X6_mixCoaches_L5 n (pz_ar F 3 3) (pz_ar F 290 162) k h (iI x) = rest (pz_mxs F c (3 + x) h) := by
  intro c
  induction c with
  | zero =>
    intro x h hx hc k hk
    obtain ⟨k, rfl⟩ : ∃ z, k = z + 1 := ⟨k - 1, by omega⟩
    rw [s_X6_mixCoaches_L5, if_pos (by rw [pz_iI_le (by omega) (by omega) (by omega) (by omega)]; omega), hrest]
    rfl
  | succ c ih =>
    intro x h hx hc k hk
    obtain ⟨k, rfl⟩ : ∃ z, k = z + 1 := ⟨k - 1, by omega⟩
    rw [s_X6_mixCoaches_L5, if_neg (by rw [pz_iI_le (by omega) (by omega) (by omega) (by omega)]; omega), pz_endOf_a hx (by omega), Option.bind_some]
    unfold s_X6_mix
    rw [Option.bind_some, pz_iI_add, ih (x + 1) _ (by omega) (by omega) k (by omega), pz_mxs_s, show 3 + (x + 1) = 3 + x + 1 by omega]
theorem pz_dg_hold_in {F : Int → Int} (n m : Nat) {b : Int} (hb : 0 ≤ b) (hb2 : b < 18) : ∀ (c : Nat) (x : Int) (h : Int64), 0 ≤ x → x + c = 9 → (s_X6_mixCoaches_L38 n (pz_ar F 3 3) (pz_ar F 290 162) (m + 1 + c)).2 h (iI b) (iI x) = (s_X6_mixCoaches_L38 n (pz_ar F 3 3) (pz_ar F 290 162) m).1 (pz_mxs (fun z => F (290 + z)) c (b * 9 + x) h) (iI (b + 1)) := by
  intro c
  induction c with
  | zero =>
    intro x h hx hc
    rw [show m + 1 + 0 = m + 1 from rfl, s_X6_mixCoaches_L38]
    dsimp only
    rw [if_pos (by rw [pz_iI_le (by omega) (by omega) (by omega) (by omega)]; omega), pz_iI_add]
    rfl
  | succ c ih =>
    intro x h hx hc
    rw [show m + 1 + (c + 1) = (m + 1 + c) + 1 by omega, s_X6_mixCoaches_L38]
    dsimp only
    rw [if_neg (by rw [pz_iI_le (by omega) (by omega) (by omega) (by omega)]; omega), pz_holderOn_a hb hb2 hx (by omega), Option.bind_some]
    unfold s_X6_mix
    rw [Option.bind_some, pz_iI_add, ih (x + 1) _ (by omega) (by omega), pz_mxs_s, show b * 9 + (x + 1) = b * 9 + x + 1 by omega]
theorem pz_dg_hold {F : Int → Int} (n : Nat) : ∀ (c : Nat) (b : Int) (h : Int64), 0 ≤ b → b + c = 18 → ∀ k, 11 * c < k → (s_X6_mixCoaches_L38 n (pz_ar F 3 3) (pz_ar F 290 162) k).1 h (iI b) = some (pz_mxs (fun z => F (290 + z)) (9 * c) (b * 9) h) := by
  intro c
  induction c with
  | zero =>
    intro b h hb hc k hk
    obtain ⟨k, rfl⟩ : ∃ z, k = z + 1 := ⟨k - 1, by omega⟩
    rw [s_X6_mixCoaches_L38]
    dsimp only
    rw [if_pos (by rw [pz_iI_le (by omega) (by omega) (by omega) (by omega)]; omega)]
    rfl
  | succ c ih =>
    intro b h hb hc k hk
    obtain ⟨k, rfl⟩ : ∃ z, k = z + 11 := ⟨k - 11, by omega⟩
    have i := pz_dg_hold_in (F := F) n k hb (by omega) 9 0 h (by omega) (by omega)
    rw [show k + 11 = (k + 10) + 1 from rfl, s_X6_mixCoaches_L38]
    dsimp only
    rw [show k + 1 + 9 = k + 10 from rfl, Int.add_zero] at i
    rw [if_neg (by rw [pz_iI_le (by omega) (by omega) (by omega) (by omega)]; omega), i, ih (b + 1) _ (by omega) (by omega) k (by omega), show 9 * (c + 1) = 9 + 9 * c by omega, pz_mxs_split, show b * 9 + ((9 : Nat) : Int) = (b + 1) * 9 by omega]
theorem pz_dg_coach {F : Int → Int} {n : Nat} (hn : 3000 ≤ n) (h : Int64) : s_X6_mixCoaches n (pz_ar F 3 3) (pz_ar F 290 162) h = some (pz_mxs (fun z => F (290 + z)) 162 0 (pz_mxs F 3 3 h)) := by
  unfold s_X6_mixCoaches
  exact pz_dg_ends n (fun h => some (pz_mxs (fun z => F (290 + z)) 162 0 h)) (fun h => pz_dg_hold n 18 0 h (by omega) (by omega) n (by omega)) 3 0 h (by omega) (by omega) n (by omega)
theorem pz_dg_pas_in {B : Int} {F : Int → Int} (iv : pz_Inv B F) {n : Nat} (hn : 3000 ≤ n) (m : Nat) {p : Int} (hp : 0 ≤ p) (hp2 : p < F 6) : ∀ (c : Nat) (x : Int) (h : Int64), 0 ≤ x → x + c = 9 → (s_X6_mixPassengers_L5 n (pz_ar F 290 162) (iI (F 6)) (pz_ar F 10 280) (pz_ar F 0 3) (m + 1 + c)).2 h (iI p) (iI x) = (s_X6_mixPassengers_L5 n (pz_ar F 290 162) (iI (F 6)) (pz_ar F 10 280) (pz_ar F 0 3) m).1 (pz_mxs (pz_fP F) c (p * 9 + x) h) (iI (p + 1)) := by
  have sz := iv.sz
  have st := iv.st
  intro c
  induction c with
  | zero =>
    intro x h hx hc
    rw [show m + 1 + 0 = m + 1 from rfl, s_X6_mixPassengers_L5]
    dsimp only
    rw [if_pos (by rw [pz_iI_le (by omega) (by omega) (by omega) (by omega)]; omega), pz_iI_add]
    rfl
  | succ c ih =>
    intro x h hx hc
    have e : pz_fP F (p * 9 + x) = pz_prp F p x := by unfold pz_fP; rw [show (p * 9 + x) / 9 = p by omega, show (p * 9 + x) % 9 = x by omega]
    rw [show m + 1 + (c + 1) = (m + 1 + c) + 1 by omega, s_X6_mixPassengers_L5]
    dsimp only
    rw [if_neg (by rw [pz_iI_le (by omega) (by omega) (by omega) (by omega)]; omega), pz_property_a iv.rg hn hp (by omega) (iv.ps p hp hp2).1 ⟨st.2.2.2.2.1, st.2.2.2.2.2⟩ hx (by omega), Option.bind_some]
    unfold s_X6_mix
    rw [Option.bind_some, pz_iI_add, ih (x + 1) _ (by omega) (by omega), pz_mxs_s, e, show p * 9 + (x + 1) = p * 9 + x + 1 by omega]
theorem pz_dg_pas {B : Int} {F : Int → Int} (iv : pz_Inv B F) {n : Nat} (hn : 3000 ≤ n) : ∀ (c : Nat) (p : Int) (h : Int64), 0 ≤ p → p + c = F 6 → ∀ k, 11 * c < k → (s_X6_mixPassengers_L5 n (pz_ar F 290 162) (iI (F 6)) (pz_ar F 10 280) (pz_ar F 0 3) k).1 h (iI p) = some (pz_mxs (pz_fP F) (9 * c) (p * 9) h) := by
  have sz := iv.sz
  intro c
  induction c with
  | zero =>
    intro p h hp hc k hk
    obtain ⟨k, rfl⟩ : ∃ z, k = z + 1 := ⟨k - 1, by omega⟩
    rw [s_X6_mixPassengers_L5]
    dsimp only
    rw [if_pos (by rw [pz_iI_le (by omega) (by omega) (by omega) (by omega)]; omega)]
    rfl
  | succ c ih =>
    intro p h hp hc k hk
    obtain ⟨k, rfl⟩ : ∃ z, k = z + 11 := ⟨k - 11, by omega⟩
    have i := pz_dg_pas_in iv hn k hp (by omega) 9 0 h (by omega) (by omega)
    rw [show k + 11 = (k + 10) + 1 from rfl, s_X6_mixPassengers_L5]
    dsimp only
    rw [show k + 1 + 9 = k + 10 from rfl, Int.add_zero] at i
    rw [if_neg (by rw [pz_iI_le (by omega) (by omega) (by omega) (by omega)]; omega), i, ih (p + 1) _ (by omega) (by omega) k (by omega), show 9 * (c + 1) = 9 + 9 * c by omega, pz_mxs_split, show p * 9 + ((9 : Nat) : Int) = (p + 1) * 9 by omega]
theorem pz_dg_pas_a {B : Int} {F : Int → Int} (iv : pz_Inv B F) {n : Nat} (hn : 3000 ≤ n) (h : Int64) : s_X6_mixPassengers n (pz_ar F 290 162) (iI (F 6)) (pz_ar F 10 280) (pz_ar F 0 3) h = some (pz_mxs (pz_fP F) (9 * (F 6).toNat) 0 h) := by
  have sz := iv.sz
  unfold s_X6_mixPassengers
  exact pz_dg_pas iv hn (F 6).toNat 0 h (by omega) (by omega) n (by omega)
theorem pz_fW_0 (F : Int → Int) (l : Int) : pz_fW F (2 * l) = pz_opnN F l := by unfold pz_fW; rw [if_pos (by omega), show 2 * l / 2 = l by omega]
theorem pz_fW_1 (F : Int → Int) (l : Int) : pz_fW F (2 * l + 1) = pz_lowN F l := by unfold pz_fW; rw [if_neg (by omega), show (2 * l + 1) / 2 = l by omega]
theorem pz_fS_0 (F : Int → Int) (l : Int) : pz_fS F (2 * l) = pz_farN F l := by unfold pz_fS; rw [if_pos (by omega), show 2 * l / 2 = l by omega]
theorem pz_fS_1 (F : Int → Int) (l : Int) : pz_fS F (2 * l + 1) = pz_rsn F l 9 := by unfold pz_fS; rw [if_neg (by omega), show (2 * l + 1) / 2 = l by omega]
theorem pz_dg_tell {F : Int → Int} (hr : pz_rng F) {n : Nat} (hn : 3000 ≤ n) : ∀ (c : Nat) (x : Int) (h : Int64), 0 ≤ x → x + c = 4 → ∀ k, c < k → s_X6_mixWays_L102 n (pz_ar F 3 3) (pz_ar F 290 162) (pz_ar F 0 3) k (iI (pz_fnd F 1 8 false).1) (iI (pz_fnd F 1 8 false).2.1) (iI (pz_fnd F 1 8 false).2.2) h (iI x) = some (0, pz_mxs (pz_fT F) c x h) := by
  have hw : pz_okWay 1 8 := by unfold pz_okWay; omega
  have can := pz_fnd_can (F := F) (pz_thr := false) hw
  have rg := pz_fnd_rg (F := F) hw false
  intro c
  induction c with
  | zero =>
    intro x h hx hc k hk
    obtain ⟨k, rfl⟩ : ∃ z, k = z + 1 := ⟨k - 1, by omega⟩
    rw [s_X6_mixWays_L102, if_pos (by rw [pz_iI_le (by omega) (by omega) (by omega) (by omega)]; omega)]
    rfl
  | succ c ih =>
    intro x h hx hc k hk
    obtain ⟨k, rfl⟩ : ∃ z, k = z + 1 := ⟨k - 1, by omega⟩
    rw [s_X6_mixWays_L102, if_neg (by rw [pz_iI_le (by omega) (by omega) (by omega) (by omega)]; omega), pz_tell_c hr hn hw (fun x => (can x).ok) rg hx (by omega), Option.bind_some]
    unfold s_X6_mix
    rw [Option.bind_some, pz_iI_add, ih (x + 1) _ (by omega) (by omega) k (by omega), pz_mxs_s]
    rfl
theorem pz_dg_stat {B : Int} {F : Int → Int} (iv : pz_Inv B F) {n : Nat} (hn : 3000 ≤ n) : ∀ (c : Nat) (x : Int) (h : Int64), 0 ≤ x → x + c = 9 → ∀ k, c < k → s_X6_mixWays_L47 n (pz_ar F 3 3) (pz_ar F 290 162) (pz_ar F 0 3) k h (iI x) = some (0, pz_mxs (pz_fT F) 4 0 (pz_mxs (pz_fS F) (2 * c) (2 * x) h)) := by
  intro c
  induction c with
  | zero =>
    intro x h hx hc k hk
    obtain ⟨k, rfl⟩ : ∃ z, k = z + 1 := ⟨k - 1, by omega⟩
    have f := pz_find_c iv.rg hn (f := 1) (t := 8) (by unfold pz_okWay; omega) (iI 0)
    rw [show (!decide (iI 0 = (0 : Int32))) = false from rfl] at f
    rw [s_X6_mixWays_L47, if_pos (by rw [pz_iI_le (by omega) (by omega) (by omega) (by omega)]; omega), f, Option.bind_some]
    exact pz_dg_tell iv.rg hn 4 0 h (by omega) (by omega) 12 (by omega)
  | succ c ih =>
    intro x h hx hc k hk
    obtain ⟨k, rfl⟩ : ∃ z, k = z + 1 := ⟨k - 1, by omega⟩
    have fa : s_X6_farthest n (pz_ar F 3 3) (pz_ar F 290 162) (iI x) = some (0, iI (pz_farN F x)) := by
      unfold s_X6_farthest
      rw [pz_isBelow_T hx (by omega) (by omega), pz_far_c iv.rg hn hx (by omega)]
      rfl
    rw [s_X6_mixWays_L47, if_neg (by rw [pz_iI_le (by omega) (by omega) (by omega) (by omega)]; omega), fa, Option.bind_some, if_pos rfl, pz_why_c iv hn (by unfold pz_okWay; omega)]
    unfold s_X6_mix
    simp only [Option.bind_some, if_true]
    rw [pz_iI_add, ih (x + 1) _ (by omega) (by omega) k (by omega), show 2 * (c + 1) = 2 + 2 * c by omega, pz_mxs_split]
    rw [show 2 * x + ((2 : Nat) : Int) = 2 * (x + 1) by omega]
    rw [pz_mxs_s (pz_fS F), pz_mxs_s (pz_fS F), pz_fS_0, pz_fS_1]
    rfl
theorem pz_dg_legs {B : Int} {F : Int → Int} (iv : pz_Inv B F) {n : Nat} (hn : 3000 ≤ n) : ∀ (c : Nat) (x : Int) (h : Int64), 0 ≤ x → x + c = 9 → ∀ k, c < k → s_X6_mixWays_L5 n (pz_ar F 3 3) (pz_ar F 290 162) (pz_ar F 0 3) k h (iI x) = some (0, pz_mxs (pz_fT F) 4 0 (pz_mxs (pz_fS F) 18 0 (pz_mxs (pz_fW F) (2 * c) (2 * x) h))) := by
  intro c
  induction c with
  | zero =>
    intro x h hx hc k hk
    obtain ⟨k, rfl⟩ : ∃ z, k = z + 1 := ⟨k - 1, by omega⟩
    rw [s_X6_mixWays_L5, if_pos (by rw [pz_iI_le (by omega) (by omega) (by omega) (by omega)]; omega)]
    exact pz_dg_stat iv hn 9 0 h (by omega) (by omega) 12 (by omega)
  | succ c ih =>
    intro x h hx hc k hk
    obtain ⟨k, rfl⟩ : ∃ z, k = z + 1 := ⟨k - 1, by omega⟩
    rw [s_X6_mixWays_L5, if_neg (by rw [pz_iI_le (by omega) (by omega) (by omega) (by omega)]; omega), pz_free_c iv.rg hn hx (by omega) (by omega) (by omega), pz_free_c iv.rg hn hx (by omega) (by omega) (by omega), if_pos rfl, if_neg (show ¬ (1 : Int) = 0 by omega)]
    unfold s_X6_mix
    simp only [Option.bind_some, if_true]
    rw [pz_iI_add, ih (x + 1) _ (by omega) (by omega) k (by omega), show 2 * (c + 1) = 2 + 2 * c by omega, pz_mxs_split]
    rw [show 2 * x + ((2 : Nat) : Int) = 2 * (x + 1) by omega]
    rw [pz_mxs_s (pz_fW F), pz_mxs_s (pz_fW F), pz_fW_0, pz_fW_1]
    rfl
theorem pz_dg_text {X : Int → Int} {t : Int} (hT : pz_okT X t) (n : Nat) : ∀ (c : Nat) (x : Int) (h : Int64), 0 ≤ x → x + c = t → ∀ k, c < k → s_X6_mixText_L16 n (iI t) (pz_ar X 0 60) k h (iI x) = some (pz_mxs X c x h) := by
  have t6 := hT.2.1
  intro c
  induction c with
  | zero =>
    intro x h hx hc k hk
    obtain ⟨k, rfl⟩ : ∃ z, k = z + 1 := ⟨k - 1, by omega⟩
    rw [s_X6_mixText_L16, if_pos (by rw [pz_iI_le (by omega) (by omega) (by omega) (by omega)]; omega)]
    rfl
  | succ c ih =>
    intro x h hx hc k hk
    obtain ⟨k, rfl⟩ : ∃ z, k = z + 1 := ⟨k - 1, by omega⟩
    rw [s_X6_mixText_L16, if_neg (by rw [pz_iI_le (by omega) (by omega) (by omega) (by omega)]; omega), pz_codeAt_a ⟨hT.1, hT.2.1⟩ (by omega) (by omega), pz_cd_in hx (by omega), Option.bind_some]
    unfold s_X6_mix
    rw [Option.bind_some, pz_iI_add, ih (x + 1) _ (by omega) (by omega) k (by omega), pz_mxs_s]
theorem pz_dg_set {B : Int} {F X : Int → Int} {t : Int} (iv : pz_Inv B F) (hT : pz_okT X t) (kk : Int32) {n : Nat} (hn : 3000 ≤ n) : ∀ (c : Nat) (x : Int) (h : Int64), 0 ≤ x → x + c = 3 → ∀ k, c < k → s_X6_digest_L31 n kk (iI t) (pz_ar X 0 60) (iI (F 8)) (iI (F 9)) (pz_ar F 3 3) (pz_ar F 290 162) (iI (F 6)) (pz_ar F 10 280) (pz_ar F 0 3) k h (iI x) = some (0, pz_mxs X t.toNat 0 (((31 : Int64) * (((31 : Int64) * pz_mxs (pz_fT F) 4 0 (pz_mxs (pz_fS F) 18 0 (pz_mxs (pz_fW F) 18 0 (pz_mxs (pz_fP F) (9 * (F 6).toNat) 0 (pz_mxs (fun z => F (290 + z)) 162 0 (pz_mxs F 3 3 (pz_mxs F c x h))))))) + (pz_shr F).toInt64)) + (iI t).toInt64)) := by
  intro c
  induction c with
  | zero =>
    intro x h hx hc k hk
    obtain ⟨k, rfl⟩ : ∃ z, k = z + 1 := ⟨k - 1, by omega⟩
    have lg := fun h => pz_dg_legs iv hn 9 0 h (by omega) (by omega) 12 (by omega)
    have sc := (pz_shr_chk iv).2.1 n hn
    rw [s_X6_digest_L31, if_pos (by rw [pz_iI_le (by omega) (by omega) (by omega) (by omega)]; omega), pz_dg_coach hn, Option.bind_some, pz_dg_pas_a iv hn, Option.bind_some]
    unfold s_X6_mixWays
    rw [lg, Option.bind_some, if_pos rfl, pz_full_c6 iv hn, Option.bind_some, sc, Option.bind_some]
    unfold s_X6_mixText s_X6_mix
    rw [Option.bind_some, Option.bind_some, pz_dg_text hT n t.toNat 0 _ (by omega) (by have := hT.1; omega) n (by have := hT.2.1; omega)]
    rfl
  | succ c ih =>
    intro x h hx hc k hk
    obtain ⟨k, rfl⟩ : ∃ z, k = z + 1 := ⟨k - 1, by omega⟩
    rw [s_X6_digest_L31, if_neg (by rw [pz_iI_le (by omega) (by omega) (by omega) (by omega)]; omega), pz_read_a (by decide) hx (by omega), Option.bind_some]
    unfold s_X6_mix
    rw [Option.bind_some, pz_iI_add, ih (x + 1) _ (by omega) (by omega) k (by omega), pz_mxs_s F c x h, show 0 + x = x by omega]
theorem pz_dg_cnt {B : Int} {F X : Int → Int} {t : Int} (iv : pz_Inv B F) (hT : pz_okT X t) (kk : Int) {n : Nat} (hn : 3000 ≤ n) : ∀ (c : Nat) (x : Int) (h : Int64), 0 ≤ x → x + c = 9 → ∀ k, c < k → s_X6_digest_L6 n (iI kk) (iI t) (pz_ar X 0 60) (iI (F 8)) (iI (F 9)) (pz_ar F 3 3) (pz_ar F 290 162) (iI (F 6)) (pz_ar F 10 280) (pz_ar F 0 3) k h (iI x) = some (0, pz_mxs X t.toNat 0 (((31 : Int64) * (((31 : Int64) * pz_mxs (pz_fT F) 4 0 (pz_mxs (pz_fS F) 18 0 (pz_mxs (pz_fW F) 18 0 (pz_mxs (pz_fP F) (9 * (F 6).toNat) 0 (pz_mxs (fun z => F (290 + z)) 162 0 (pz_mxs F 3 3 (pz_mxs F 3 0 (pz_mxs (pz_cntV F kk) c x h)))))))) + (pz_shr F).toInt64)) + (iI t).toInt64)) := by
  intro c
  induction c with
  | zero =>
    intro x h hx hc k hk
    obtain ⟨k, rfl⟩ : ∃ z, k = z + 1 := ⟨k - 1, by omega⟩
    rw [s_X6_digest_L6, if_pos (by rw [pz_iI_le (by omega) (by omega) (by omega) (by omega)]; omega)]
    exact pz_dg_set iv hT (iI kk) hn 3 0 h (by omega) (by omega) 12 (by omega)
  | succ c ih =>
    intro x h hx hc k hk
    obtain ⟨k, rfl⟩ : ∃ z, k = z + 1 := ⟨k - 1, by omega⟩
    rw [s_X6_digest_L6, if_neg (by rw [pz_iI_le (by omega) (by omega) (by omega) (by omega)]; omega), pz_count_c iv hn kk hx (by omega), Option.bind_some, if_pos rfl]
    unfold s_X6_mix
    rw [Option.bind_some, pz_iI_add, ih (x + 1) _ (by omega) (by omega) k (by omega), pz_mxs_s (pz_cntV F kk) c x h]
theorem pz_digest_c {B : Int} {F X : Int → Int} {t : Int} (iv : pz_Inv B F) (hT : pz_okT X t) (kk : Int) {n : Nat} (hn : 3000 ≤ n) : s_X6_digest n (iI kk) (iI t) (pz_ar X 0 60) (iI (F 8)) (iI (F 9)) (pz_ar F 3 3) (pz_ar F 290 162) (iI (F 6)) (pz_ar F 10 280) (pz_ar F 0 3) = some (0, pz_dgv F kk t X) := by
  unfold s_X6_digest pz_dgv
  rw [pz_dg_cnt iv hT kk hn 9 0 _ (by omega) (by omega) 12 (by omega)]
  have e : ∀ h, pz_mxs F 6 0 h = pz_mxs F 3 3 (pz_mxs F 3 0 h) := fun h => pz_mxs_split F 3 3 0 h
  rw [e]
theorem pz_dm_text {X : Int → Int} {t : Int} (hT : pz_okT X t) (n : Nat) (kp : Int32) (A : Nat → Int32) (th on ot ch wo : Int32) : ∀ (c : Nat) (x : Int) (h : Int64), 0 ≤ x → x + c = t → ∀ k, c < k → s_X7_digest_L283 n kp (iI t) A (pz_ar X 0 60) k th on ot ch wo h (iI x) = some (pz_mxs X c x h, th, on, ot, ch, wo) := by
  have t6 := hT.2.1
  intro c
  induction c with
  | zero =>
    intro x h hx hc k hk
    obtain ⟨k, rfl⟩ : ∃ z, k = z + 1 := ⟨k - 1, by omega⟩
    rw [s_X7_digest_L283, if_pos (by rw [pz_iI_le (by omega) (by omega) (by omega) (by omega)]; omega)]
    rfl
  | succ c ih =>
    intro x h hx hc k hk
    obtain ⟨k, rfl⟩ : ∃ z, k = z + 1 := ⟨k - 1, by omega⟩
    rw [s_X7_digest_L283, if_neg (by rw [pz_iI_le (by omega) (by omega) (by omega) (by omega)]; omega), if_pos (pz_gd_Y (by omega) (by omega) (by omega)), pz_ar_at hx (by omega) (by omega), pz_iI_add, ih (x + 1) _ (by omega) (by omega) k (by omega), pz_mxs_s, show 0 + x = x by omega]
theorem pz_dm_tell {B : Int} {F X : Int → Int} {t : Int} (iv : pz_Inv B F) (hT : pz_okT X t) {n : Nat} (hn : 3000 ≤ n) (kp th : Int32) : ∀ (c : Nat) (x : Int) (h : Int64), 0 ≤ x → x + c = 4 → ∀ (on ot ch wo : Int32) (k : Nat), c < k → ∃ o1 o2 o3 o4, s_X7_digest_L229 n kp (iI t) (pz_ar F 0 452) (pz_ar X 0 60) k th on ot ch wo h (iI x) = some (pz_mxs X t.toNat 0 (((31 : Int64) * (((31 : Int64) * pz_mxs (pz_fT F) c x h) + (pz_shr F).toInt64)) + (iI t).toInt64), th, o1, o2, o3, o4) := by
  have q := pz_shr_chk iv
  have t0 := hT.1
  have t6 := hT.2.1
  intro c
  induction c with
  | zero =>
    intro x h hx hc on ot ch wo k hk
    obtain ⟨k, rfl⟩ : ∃ z, k = z + 1 := ⟨k - 1, by omega⟩
    rw [s_X7_digest_L229, if_pos (by rw [pz_iI_le (by omega) (by omega) (by omega) (by omega)]; omega), pz_full_m iv hn, Option.bind_some]
    unfold s_Jxe99ae_doubleToLongBits_ccdee s_Jxe99ae_isNaN_b9ae7
    rw [if_pos q.2.2, Option.bind_some, if_pos (by decide), Option.bind_some, pz_dm_text hT n kp _ th on ot ch wo t.toNat 0 _ (by omega) (by omega) n (by omega)]
    exact ⟨_, _, _, _, rfl⟩
  | succ c ih =>
    intro x h hx hc on ot ch wo k hk
    obtain ⟨k, rfl⟩ : ∃ z, k = z + 1 := ⟨k - 1, by omega⟩
    obtain ⟨o1, o2, o3, o4, e⟩ := pz_byB_m iv.rg hn (f := 1) (t := 8) (w := x) (by unfold pz_okWay; omega) on ot ch wo (iI 0) hx (by omega)
    rw [show (!decide (iI 0 = (0 : Int32))) = false from rfl] at e
    rw [s_X7_digest_L229, if_neg (by rw [pz_iI_le (by omega) (by omega) (by omega) (by omega)]; omega), e, Option.bind_some, pz_iI_add]
    exact ih (x + 1) _ (by omega) (by omega) o1 o2 o3 o4 k (by omega)
theorem pz_dm_stat {B : Int} {F X : Int → Int} {t : Int} (iv : pz_Inv B F) (hT : pz_okT X t) {n : Nat} (hn : 3000 ≤ n) (kp th : Int32) : ∀ (c : Nat) (x : Int) (h : Int64), 0 ≤ x → x + c = 9 → ∀ (on ot ch wo : Int32) (k : Nat), c < k → ∃ o1 o2 o3 o4, s_X7_digest_L189 n kp (iI t) (pz_ar F 0 452) (pz_ar X 0 60) k th on ot ch wo h (iI x) = some (pz_mxs X t.toNat 0 (((31 : Int64) * (((31 : Int64) * pz_mxs (pz_fT F) 4 0 (pz_mxs (pz_fS F) (2 * c) (2 * x) h)) + (pz_shr F).toInt64)) + (iI t).toInt64), th, o1, o2, o3, o4) := by
  intro c
  induction c with
  | zero =>
    intro x h hx hc on ot ch wo k hk
    obtain ⟨k, rfl⟩ : ∃ z, k = z + 1 := ⟨k - 1, by omega⟩
    rw [s_X7_digest_L189, if_pos (by rw [pz_iI_le (by omega) (by omega) (by omega) (by omega)]; omega)]
    exact pz_dm_tell iv hT hn kp th 4 0 h (by omega) (by omega) on ot ch wo n (by omega)
  | succ c ih =>
    intro x h hx hc on ot ch wo k hk
    obtain ⟨k, rfl⟩ : ∃ z, k = z + 1 := ⟨k - 1, by omega⟩
    obtain ⟨o1, o2, o3, o4, e⟩ := pz_longest_m iv.rg hn hx (by omega) on ot ch wo
    obtain ⟨p1, p2, p3, p4, e2⟩ := pz_reason_m iv hn (f := x) (t := 9) (by unfold pz_okWay; omega) o1 o2 o3 o4
    rw [s_X7_digest_L189, if_neg (by rw [pz_iI_le (by omega) (by omega) (by omega) (by omega)]; omega), e, Option.bind_some]
    dsimp only
    rw [e2, Option.bind_some, pz_iI_add]
    have g := ih (x + 1) (((31 : Int64) * (((31 : Int64) * h) + (iI (pz_farN F x)).toInt64)) + (iI (pz_rsn F x 9)).toInt64) (by omega) (by omega) p1 p2 p3 p4 k (by omega)
    rw [show 2 * (c + 1) = 2 + 2 * c by omega, pz_mxs_split, show 2 * x + ((2 : Nat) : Int) = 2 * (x + 1) by omega, pz_mxs_s (pz_fS F), pz_mxs_s (pz_fS F), pz_fS_0, pz_fS_1]
    exact g
theorem pz_dm_legs {B : Int} {F X : Int → Int} {t : Int} (iv : pz_Inv B F) (hT : pz_okT X t) {n : Nat} (hn : 3000 ≤ n) (kp th : Int32) : ∀ (c : Nat) (x : Int) (h : Int64), 0 ≤ x → x + c = 9 → ∀ (on ot ch wo : Int32) (k : Nat), c < k → ∃ o1 o2 o3 o4, s_X7_digest_L149 n kp (iI t) (pz_ar F 0 452) (pz_ar X 0 60) k th on ot ch wo h (iI x) = some (pz_mxs X t.toNat 0 (((31 : Int64) * (((31 : Int64) * pz_mxs (pz_fT F) 4 0 (pz_mxs (pz_fS F) 18 0 (pz_mxs (pz_fW F) (2 * c) (2 * x) h))) + (pz_shr F).toInt64)) + (iI t).toInt64), th, o1, o2, o3, o4) := by
  intro c
  induction c with
  | zero =>
    intro x h hx hc on ot ch wo k hk
    obtain ⟨k, rfl⟩ : ∃ z, k = z + 1 := ⟨k - 1, by omega⟩
    rw [s_X7_digest_L149, if_pos (by rw [pz_iI_le (by omega) (by omega) (by omega) (by omega)]; omega)]
    exact pz_dm_stat iv hT hn kp th 9 0 h (by omega) (by omega) on ot ch wo n (by omega)
  | succ c ih =>
    intro x h hx hc on ot ch wo k hk
    obtain ⟨k, rfl⟩ : ∃ z, k = z + 1 := ⟨k - 1, by omega⟩
    rw [s_X7_digest_L149, if_neg (by rw [pz_iI_le (by omega) (by omega) (by omega) (by omega)]; omega), pz_freeOn_m iv.rg hn hx (by omega) (by omega) (by omega), pz_freeOn_m iv.rg hn hx (by omega) (by omega) (by omega), if_pos rfl, if_neg (show ¬ (1 : Int) = 0 by omega), Option.bind_some, Option.bind_some, pz_iI_add]
    have g := ih (x + 1) (((31 : Int64) * (((31 : Int64) * h) + (iI (pz_opnN F x)).toInt64)) + (iI (pz_lowN F x)).toInt64) (by omega) (by omega) on ot ch wo k (by omega)
    rw [show 2 * (c + 1) = 2 + 2 * c by omega, pz_mxs_split, show 2 * x + ((2 : Nat) : Int) = 2 * (x + 1) by omega, pz_mxs_s (pz_fW F), pz_mxs_s (pz_fW F), pz_fW_0, pz_fW_1]
    exact g
theorem pz_dm_pas_in {B : Int} {F : Int → Int} (iv : pz_Inv B F) {n : Nat} (hn : 3000 ≤ n) (kp ty : Int32) (XX : Nat → Int32) (th on ot ch wo : Int32) (m : Nat) {p : Int} (hp : 0 ≤ p) (hp2 : p < F 6) : ∀ (c : Nat) (x : Int) (h : Int64), 0 ≤ x → x + c = 9 → (s_X7_digest_L99 n kp ty (pz_ar F 0 452) XX (m + 1 + c)).2 th on ot ch wo h (iI p) (iI x) = (s_X7_digest_L99 n kp ty (pz_ar F 0 452) XX m).1 th on ot ch wo (pz_mxs (pz_fP F) c (p * 9 + x) h) (iI (p + 1)) := by
  have sz := iv.sz
  have st := iv.st
  intro c
  induction c with
  | zero =>
    intro x h hx hc
    rw [show m + 1 + 0 = m + 1 from rfl, s_X7_digest_L99]
    dsimp only
    rw [if_pos (by rw [pz_iI_le (by omega) (by omega) (by omega) (by omega)]; omega), pz_iI_add]
    rfl
  | succ c ih =>
    intro x h hx hc
    have e : pz_fP F (p * 9 + x) = pz_prp F p x := by unfold pz_fP; rw [show (p * 9 + x) / 9 = p by omega, show (p * 9 + x) % 9 = x by omega]
    rw [show m + 1 + (c + 1) = (m + 1 + c) + 1 by omega, s_X7_digest_L99]
    dsimp only
    rw [if_neg (by rw [pz_iI_le (by omega) (by omega) (by omega) (by omega)]; omega), pz_ofPas_m iv.rg hn hp (by omega) (iv.ps p hp hp2).1 ⟨st.2.2.2.2.1, st.2.2.2.2.2⟩ hx (by omega), Option.bind_some, pz_iI_add, ih (x + 1) _ (by omega) (by omega), pz_mxs_s, e, show p * 9 + (x + 1) = p * 9 + x + 1 by omega]
theorem pz_dm_pas {B : Int} {F X : Int → Int} {t : Int} (iv : pz_Inv B F) (hT : pz_okT X t) {n : Nat} (hn : 3000 ≤ n) (kp th on ot ch wo : Int32) : ∀ (c : Nat) (p : Int) (h : Int64), 0 ≤ p → p + c = F 6 → ∀ (k : Nat), 11 * c < k → ∃ o1 o2 o3 o4, (s_X7_digest_L99 n kp (iI t) (pz_ar F 0 452) (pz_ar X 0 60) k).1 th on ot ch wo h (iI p) = some (pz_mxs X t.toNat 0 (((31 : Int64) * (((31 : Int64) * pz_mxs (pz_fT F) 4 0 (pz_mxs (pz_fS F) 18 0 (pz_mxs (pz_fW F) 18 0 (pz_mxs (pz_fP F) (9 * c) (p * 9) h)))) + (pz_shr F).toInt64)) + (iI t).toInt64), th, o1, o2, o3, o4) := by
  have sz := iv.sz
  intro c
  induction c with
  | zero =>
    intro p h hp hc k hk
    obtain ⟨k, rfl⟩ : ∃ z, k = z + 1 := ⟨k - 1, by omega⟩
    rw [s_X7_digest_L99]
    dsimp only
    rw [if_pos (pz_gd_Y (by omega) (by omega) (by omega)), pz_ar_at (by omega) (by omega) (by omega), show (0 : Int) + 6 = 6 from rfl, if_pos (by rw [pz_iI_le (by omega) (by omega) (by omega) (by omega)]; omega)]
    exact pz_dm_legs iv hT hn kp th 9 0 h (by omega) (by omega) on ot ch wo n (by omega)
  | succ c ih =>
    intro p h hp hc k hk
    obtain ⟨k, rfl⟩ : ∃ z, k = z + 11 := ⟨k - 11, by omega⟩
    have i := pz_dm_pas_in iv hn kp (iI t) (pz_ar X 0 60) th on ot ch wo k hp (by omega) 9 0 h (by omega) (by omega)
    have g := ih (p + 1) (pz_mxs (pz_fP F) 9 (p * 9) h) (by omega) (by omega) k (by omega)
    rw [show k + 11 = (k + 10) + 1 from rfl, s_X7_digest_L99]
    dsimp only
    rw [show k + 1 + 9 = k + 10 from rfl, Int.add_zero] at i
    rw [if_pos (pz_gd_Y (by omega) (by omega) (by omega)), pz_ar_at (by omega) (by omega) (by omega), show (0 : Int) + 6 = 6 from rfl, if_neg (by rw [pz_iI_le (by omega) (by omega) (by omega) (by omega)]; omega), i, show 9 * (c + 1) = 9 + 9 * c by omega, pz_mxs_split, show p * 9 + ((9 : Nat) : Int) = (p + 1) * 9 by omega]
    exact g
theorem pz_dm_hold {B : Int} {F X : Int → Int} {t : Int} (iv : pz_Inv B F) (hT : pz_okT X t) {n : Nat} (hn : 3000 ≤ n) (kp th on ot ch wo : Int32) : ∀ (c : Nat) (x : Int) (h : Int64), 0 ≤ x → x + c = 162 → ∀ (k : Nat), c < k → ∃ o1 o2 o3 o4, s_X7_digest_L66 n kp (iI t) (pz_ar F 0 452) (pz_ar X 0 60) k th on ot ch wo h (iI x) = some (pz_mxs X t.toNat 0 (((31 : Int64) * (((31 : Int64) * pz_mxs (pz_fT F) 4 0 (pz_mxs (pz_fS F) 18 0 (pz_mxs (pz_fW F) 18 0 (pz_mxs (pz_fP F) (9 * (F 6).toNat) 0 (pz_mxs (fun z => F (290 + z)) c x h))))) + (pz_shr F).toInt64)) + (iI t).toInt64), th, o1, o2, o3, o4) := by
  have sz := iv.sz
  intro c
  induction c with
  | zero =>
    intro x h hx hc k hk
    obtain ⟨k, rfl⟩ : ∃ z, k = z + 1 := ⟨k - 1, by omega⟩
    rw [s_X7_digest_L66, if_pos (by rw [pz_iI_le (by omega) (by omega) (by omega) (by omega)]; omega)]
    exact pz_dm_pas iv hT hn kp th on ot ch wo (F 6).toNat 0 h (by omega) (by omega) n (by omega)
  | succ c ih =>
    intro x h hx hc k hk
    obtain ⟨k, rfl⟩ : ∃ z, k = z + 1 := ⟨k - 1, by omega⟩
    rw [s_X7_digest_L66, if_neg (by rw [pz_iI_le (by omega) (by omega) (by omega) (by omega)]; omega), pz_iI_add, pz_iI_add, if_pos (pz_gd_Y (by omega) (by omega) (by omega)), pz_ar_at (by omega) (by omega) (by omega), show 0 + (290 + x) = 290 + x by omega, pz_mxs_s (fun z => F (290 + z)) c x h]
    exact ih (x + 1) _ (by omega) (by omega) k (by omega)
theorem pz_dm_low {B : Int} {F X : Int → Int} {t : Int} (iv : pz_Inv B F) (hT : pz_okT X t) {n : Nat} (hn : 3000 ≤ n) (kp th on ot ch wo : Int32) : ∀ (c : Nat) (x : Int) (h : Int64), 0 ≤ x → x + c = 6 → ∀ (k : Nat), c < k → ∃ o1 o2 o3 o4, s_X7_digest_L38 n kp (iI t) (pz_ar F 0 452) (pz_ar X 0 60) k th on ot ch wo h (iI x) = some (pz_mxs X t.toNat 0 (((31 : Int64) * (((31 : Int64) * pz_mxs (pz_fT F) 4 0 (pz_mxs (pz_fS F) 18 0 (pz_mxs (pz_fW F) 18 0 (pz_mxs (pz_fP F) (9 * (F 6).toNat) 0 (pz_mxs (fun z => F (290 + z)) 162 0 (pz_mxs F c x h)))))) + (pz_shr F).toInt64)) + (iI t).toInt64), th, o1, o2, o3, o4) := by
  intro c
  induction c with
  | zero =>
    intro x h hx hc k hk
    obtain ⟨k, rfl⟩ : ∃ z, k = z + 1 := ⟨k - 1, by omega⟩
    rw [s_X7_digest_L38, if_pos (by rw [pz_iI_le (by omega) (by omega) (by omega) (by omega)]; omega)]
    exact pz_dm_hold iv hT hn kp th on ot ch wo 162 0 h (by omega) (by omega) n (by omega)
  | succ c ih =>
    intro x h hx hc k hk
    obtain ⟨k, rfl⟩ : ∃ z, k = z + 1 := ⟨k - 1, by omega⟩
    rw [s_X7_digest_L38, if_neg (by rw [pz_iI_le (by omega) (by omega) (by omega) (by omega)]; omega), pz_iI_add, if_pos (pz_gd_Y (by omega) (by omega) (by omega)), pz_ar_at (by omega) (by omega) (by omega), show 0 + x = x by omega, pz_mxs_s F c x h]
    exact ih (x + 1) _ (by omega) (by omega) k (by omega)
theorem pz_dm_cnt {B : Int} {F X : Int → Int} {t : Int} (iv : pz_Inv B F) (hT : pz_okT X t) {n : Nat} (hn : 3000 ≤ n) (kk : Int) (th on ot ch wo : Int32) : ∀ (c : Nat) (x : Int) (h : Int64), 0 ≤ x → x + c = 9 → ∀ (k : Nat), c < k → ∃ o1 o2 o3 o4, s_X7_digest_L11 n (iI kk) (iI t) (pz_ar F 0 452) (pz_ar X 0 60) k th on ot ch wo h (iI x) = some (pz_mxs X t.toNat 0 (((31 : Int64) * (((31 : Int64) * pz_mxs (pz_fT F) 4 0 (pz_mxs (pz_fS F) 18 0 (pz_mxs (pz_fW F) 18 0 (pz_mxs (pz_fP F) (9 * (F 6).toNat) 0 (pz_mxs (fun z => F (290 + z)) 162 0 (pz_mxs F 6 0 (pz_mxs (pz_cntV F kk) c x h))))))) + (pz_shr F).toInt64)) + (iI t).toInt64), th, o1, o2, o3, o4) := by
  intro c
  induction c with
  | zero =>
    intro x h hx hc k hk
    obtain ⟨k, rfl⟩ : ∃ z, k = z + 1 := ⟨k - 1, by omega⟩
    rw [s_X7_digest_L11, if_pos (by rw [pz_iI_le (by omega) (by omega) (by omega) (by omega)]; omega)]
    exact pz_dm_low iv hT hn (iI kk) th on ot ch wo 6 0 h (by omega) (by omega) n (by omega)
  | succ c ih =>
    intro x h hx hc k hk
    obtain ⟨k, rfl⟩ : ∃ z, k = z + 1 := ⟨k - 1, by omega⟩
    rw [s_X7_digest_L11, if_neg (by rw [pz_iI_le (by omega) (by omega) (by omega) (by omega)]; omega), pz_counted_m iv hn kk hx (by omega), Option.bind_some, pz_iI_add, pz_mxs_s (pz_cntV F kk) c x h]
    exact ih (x + 1) _ (by omega) (by omega) k (by omega)
theorem pz_digest_m {B : Int} {F X : Int → Int} {t : Int} (iv : pz_Inv B F) (hT : pz_okT X t) {n : Nat} (hn : 3000 ≤ n) (kk : Int) (th on ot ch wo : Int32) : ∃ o1 o2 o3 o4, s_X7_digest n (iI kk) (iI t) th on ot ch wo (pz_ar F 0 452) (pz_ar X 0 60) = some (pz_dgv F kk t X, iI 0, o1, o2, o3, o4) := by
  unfold s_X7_digest pz_dgv
  exact pz_dm_cnt iv hT hn kk (iI 0) on ot ch wo 9 0 _ (by omega) (by omega) n (by omega)
