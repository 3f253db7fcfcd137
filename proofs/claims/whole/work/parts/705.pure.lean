def pz_rowc (F : Int → Int) (v : Int) : Nat → Int → Int
  | 0, _ => -1
  | c + 1, x => if pz_fld F x 0 = v then x else pz_rowc F v c (x + 1)
theorem pz_rowc_s (F : Int → Int) (v : Int) (c : Nat) (x : Int) : pz_rowc F v (c + 1) x = if pz_fld F x 0 = v then x else pz_rowc F v c (x + 1) := rfl
def pz_rowN (F : Int → Int) (v : Int) : Int := pz_rowc F v (F 6).toNat 0
theorem pz_rowOf_L {F : Int → Int} (hr : pz_rng F) (h6 : F 6 ≤ 40) (n : Nat) {v : Int} (h1 : -2147483648 ≤ v) (h2 : v < 2147483648) : ∀ (c : Nat) (x : Int), 0 ≤ x → x + c = F 6 → ∀ k, c < k → s_X3_rowOf_L2 n (iI (F 6)) (pz_ar F 10 280) (iI v) k (iI x) = some (iI (pz_rowc F v c x)) := by
  intro c
  induction c with
  | zero =>
    intro x hx hc k hk
    obtain ⟨k, rfl⟩ : ∃ z, k = z + 1 := ⟨k - 1, by omega⟩
    rw [s_X3_rowOf_L2]
    simp (disch := omega) only [pz_iI_add, pz_iI_sub, pz_iI_mul, pz_iI_div, pz_iI_0, pz_nI_iI, pz_gd_T, pz_iI_lt_T, pz_iI_lt_F, pz_iI_le_T, pz_iI_le_F, pz_iI_eq_F, if_true, if_false, Option.bind_some, pz_ar_at, pz_ar_upd, pz_setF_at, pz_setF_ne, pz_setR_ne, pz_rowc]
  | succ c ih =>
    intro x hx hc k hk
    obtain ⟨k, rfl⟩ : ∃ z, k = z + 1 := ⟨k - 1, by omega⟩
    have go := ih (x + 1) (by omega) (by omega) k (by omega)
    have r : -1 ≤ pz_fld F x 0 ∧ pz_fld F x 0 < 1000000 := hr (10 + (7 * x + 0))
    rw [s_X3_rowOf_L2, pz_at_a hx (by omega) (by omega) (by omega)]
    simp (disch := omega) only [pz_iI_add, pz_iI_sub, pz_iI_mul, pz_iI_div, pz_iI_0, pz_nI_iI, pz_gd_T, pz_iI_lt_T, pz_iI_lt_F, pz_iI_le_T, pz_iI_le_F, pz_iI_eq_F, if_true, if_false, Option.bind_some, pz_ar_at, pz_ar_upd, pz_setF_at, pz_setF_ne, pz_setR_ne, go]
    simp (disch := omega) only [pz_iI_add, pz_iI_sub, pz_iI_mul, pz_iI_div, pz_iI_0, pz_iI_lt, pz_iI_le, pz_iI_eq, pz_gd_iI, pz_nI_iI, if_true, if_false, Option.bind_some, ite_self, reduceCtorEq]
    rw [pz_rowc_s]
    split <;> rfl
theorem pz_rowOf_a {F : Int → Int} (hr : pz_rng F) (h0 : 0 ≤ F 6) (h6 : F 6 ≤ 40) {n : Nat} (hn : 3000 ≤ n) {v : Int} (h1 : -2147483648 ≤ v) (h2 : v < 2147483648) : s_X3_rowOf n (iI (F 6)) (pz_ar F 10 280) (iI v) = some (iI (pz_rowN F v)) := by
  unfold s_X3_rowOf pz_rowN
  exact pz_rowOf_L hr h6 n h1 h2 _ 0 (by omega) (by omega) n (by omega)
theorem pz_placeOf_L {F : Int → Int} (hr : pz_rng F) (h6 : F 6 ≤ 40) (n : Nat) {v : Int} (h1 : -2147483648 ≤ v) (h2 : v < 2147483648) : ∀ (c : Nat) (x : Int), 0 ≤ x → x + c = F 6 → ∀ k, c < k → s_X7_placeOf_L2 n (pz_ar F 0 452) (iI v) k (iI x) = some (iI (pz_rowc F v c x)) := by
  intro c
  induction c with
  | zero =>
    intro x hx hc k hk
    obtain ⟨k, rfl⟩ : ∃ z, k = z + 1 := ⟨k - 1, by omega⟩
    rw [s_X7_placeOf_L2]
    simp (disch := omega) only [pz_iI_add, pz_iI_sub, pz_iI_mul, pz_iI_div, pz_iI_0, pz_nI_iI, pz_gd_T, pz_iI_lt_T, pz_iI_lt_F, pz_iI_le_T, pz_iI_le_F, pz_iI_eq_F, if_true, if_false, Option.bind_some, pz_ar_at, pz_ar_upd, pz_setF_at, pz_setF_ne, pz_setR_ne, pz_rowc, Int.zero_add]
  | succ c ih =>
    intro x hx hc k hk
    obtain ⟨k, rfl⟩ : ∃ z, k = z + 1 := ⟨k - 1, by omega⟩
    have go := ih (x + 1) (by omega) (by omega) k (by omega)
    have r : -1 ≤ pz_fld F x 0 ∧ pz_fld F x 0 < 1000000 := hr (10 + (7 * x + 0))
    rw [s_X7_placeOf_L2, pz_of_a hx (by omega) (by omega) (by omega)]
    simp (disch := omega) only [pz_iI_add, pz_iI_sub, pz_iI_mul, pz_iI_div, pz_iI_0, pz_nI_iI, pz_gd_T, pz_iI_lt_T, pz_iI_lt_F, pz_iI_le_T, pz_iI_le_F, pz_iI_eq_F, if_true, if_false, Option.bind_some, pz_ar_at, pz_ar_upd, pz_setF_at, pz_setF_ne, pz_setR_ne, go, Int.zero_add]
    simp (disch := omega) only [pz_iI_add, pz_iI_sub, pz_iI_mul, pz_iI_div, pz_iI_0, pz_iI_lt, pz_iI_le, pz_iI_eq, pz_gd_iI, pz_nI_iI, if_true, if_false, Option.bind_some, ite_self, reduceCtorEq]
    rw [pz_rowc_s]
    split <;> rfl
theorem pz_placeOf_a {F : Int → Int} (hr : pz_rng F) (h0 : 0 ≤ F 6) (h6 : F 6 ≤ 40) {n : Nat} (hn : 3000 ≤ n) {v : Int} (h1 : -2147483648 ≤ v) (h2 : v < 2147483648) : s_X7_placeOf n (pz_ar F 0 452) (iI v) = some (iI (pz_rowN F v)) := by
  unfold s_X7_placeOf pz_rowN
  exact pz_placeOf_L hr h6 n h1 h2 _ 0 (by omega) (by omega) n (by omega)
theorem pz_rowc_spec (F : Int → Int) (v : Int) : ∀ (c : Nat) (x : Int), 0 ≤ x → pz_rowc F v c x = -1 ∨ (x ≤ pz_rowc F v c x ∧ pz_rowc F v c x < x + c ∧ pz_fld F (pz_rowc F v c x) 0 = v) := by
  intro c
  induction c with
  | zero => intro x hx; exact Or.inl rfl
  | succ c ih =>
    intro x hx
    unfold pz_rowc
    split
    · next h => exact Or.inr ⟨by omega, by omega, h⟩
    · rcases ih (x + 1) (by omega) with q | q
      · exact Or.inl q
      · exact Or.inr ⟨by omega, by omega, q.2.2⟩
theorem pz_rowN_spec (F : Int → Int) (v : Int) (h0 : 0 ≤ F 6) : pz_rowN F v = -1 ∨ (0 ≤ pz_rowN F v ∧ pz_rowN F v < F 6 ∧ pz_fld F (pz_rowN F v) 0 = v) := by
  rcases pz_rowc_spec F v (F 6).toNat 0 (by omega) with q | q
  · exact Or.inl q
  · exact Or.inr ⟨q.1, by unfold pz_rowN; omega, q.2.2⟩
def pz_wok (F : Int → Int) (p : Int) : Int := pz_wk F (pz_fld F p 4) (pz_fld F p 1) (pz_mid F p) + pz_wk F (pz_fld F p 5) (pz_mid F p) (pz_fld F p 2)
def pz_tipF (F : Int → Int) (p : Int) : Int := if 0 < F 2 - pz_wok F p - (if pz_fld F p 6 = -1 then 0 else 3) then F 2 - pz_wok F p - (if pz_fld F p 6 = -1 then 0 else 3) else 0
def pz_prp (F : Int → Int) (p d : Int) : Int := if d = 7 then pz_wok F p else if d = 8 then pz_tipF F p else pz_fld F p d
theorem pz_wok_rg {F : Int → Int} {p : Int} (ok : pz_okw F p) : 0 ≤ pz_wok F p ∧ pz_wok F p ≤ 18 := by
  have m := pz_okw_mid ok
  unfold pz_okw at ok
  have a := pz_wk_rg F (pz_fld F p 4) (pz_fld F p 1) (pz_mid F p) (by omega) (by omega)
  have b := pz_wk_rg F (pz_fld F p 5) (pz_mid F p) (pz_fld F p 2) (by omega) (by omega)
  unfold pz_wok
  omega
theorem pz_tipF_rg {F : Int → Int} {p : Int} (ok : pz_okw F p) (h : 0 ≤ F 2 ∧ F 2 ≤ 50) : 0 ≤ pz_tipF F p ∧ pz_tipF F p ≤ 50 := by
  have a := pz_wok_rg ok
  unfold pz_tipF
  split <;> split <;> omega
theorem pz_woken_a {F : Int → Int} (hr : pz_rng F) {n : Nat} (hn : 3000 ≤ n) {p : Int} (h0 : 0 ≤ p) (h1 : p < 40) (ok : pz_okw F p) : s_X5_woken n (pz_ar F 290 162) (pz_ar F 10 280) (iI p) = some (iI (pz_wok F p)) := by
  have m := pz_okw_mid ok
  unfold pz_okw at ok
  unfold s_X5_woken pz_wok
  rw [pz_middle_a hr h0 h1, pz_at_a h0 h1 (by omega) (by omega), pz_at_a h0 h1 (by omega) (by omega), pz_at_a h0 h1 (by omega) (by omega), pz_at_a h0 h1 (by omega) (by omega)]
  simp only [Option.bind_some]
  rw [pz_wokenIn_s (pz_ar_row F 290 162) hr (by omega) (by omega) (by omega) (by omega) (by omega) (by omega), pz_wokenIn_s (pz_ar_row F 290 162) hr (by omega) (by omega) (by omega) (by omega) (by omega) (by omega)]
  simp only [Option.bind_some, pz_iI_add]
theorem pz_wakesOf_a {F : Int → Int} (hr : pz_rng F) {n : Nat} (hn : 3000 ≤ n) {p : Int} (h0 : 0 ≤ p) (h1 : p < 40) (ok : pz_okw F p) : s_X7_wakesOf n (pz_ar F 0 452) (iI p) = some (iI (pz_wok F p)) := by
  have m := pz_okw_mid ok
  have r : -1 ≤ pz_fld F p 6 ∧ pz_fld F p 6 < 1000000 := hr (10 + (7 * p + 6))
  unfold pz_okw at ok
  unfold s_X7_wakesOf pz_wok
  rw [pz_of_a h0 h1 (by omega) (by omega), pz_of_a h0 h1 (by omega) (by omega), pz_of_a h0 h1 (by omega) (by omega), pz_of_a h0 h1 (by omega) (by omega), pz_of_a h0 h1 (by omega) (by omega)]
  simp only [Option.bind_some]
  by_cases d : pz_fld F p 6 = -1
  · have e : pz_mid F p = pz_fld F p 2 := if_pos d
    rw [if_pos (by rw [d]), pz_wakes_s (pz_ar_row F 0 452) hr (by omega) (by omega) (by omega) (by omega) (by omega) (by omega), pz_wakes_s (pz_ar_row F 0 452) hr (by omega) (by omega) (by omega) (by omega) (by omega) (by omega), e]
    simp only [Option.bind_some, pz_iI_add]
  · have e : pz_mid F p = pz_fld F p 6 := if_neg d
    rw [if_neg (by rw [pz_iI_eq (by omega) (by omega) (by omega) (by omega)]; exact d), pz_wakes_s (pz_ar_row F 0 452) hr (by omega) (by omega) (by omega) (by omega) (by omega) (by omega), pz_wakes_s (pz_ar_row F 0 452) hr (by omega) (by omega) (by omega) (by omega) (by omega) (by omega), e]
    simp only [Option.bind_some, pz_iI_add]
theorem pz_tip_c {F : Int → Int} (hr : pz_rng F) {p : Int} (h0 : 0 ≤ p) (h1 : p < 40) (ok : pz_okw F p) (hs : 0 ≤ F 2 ∧ F 2 ≤ 50) : s_X5_tipLessBy (pz_ar F 10 280) (pz_ar F 0 3) (iI p) (iI (pz_wok F p)) = some (iI (pz_tipF F p)) := by
  have a := pz_wok_rg ok
  have r : -1 ≤ pz_fld F p 6 ∧ pz_fld F p 6 < 1000000 := hr (10 + (7 * p + 6))
  unfold s_X5_tipLessBy pz_tipF
  rw [pz_at_a h0 h1 (by omega) (by omega), pz_read_a (by decide) (by omega) (by omega)]
  simp (disch := omega) only [pz_iI_add, pz_iI_sub, pz_iI_mul, pz_iI_div, pz_iI_0, pz_iI_lt, pz_iI_le, pz_iI_eq, pz_gd_iI, pz_nI_iI, if_true, if_false, Option.bind_some, ite_self, reduceCtorEq, Int.zero_add]
  by_cases d : pz_fld F p 6 = -1
  · rw [if_pos d, if_pos d]
    split <;> rfl
  · rw [if_neg d, if_neg d]
    split <;> rfl
theorem pz_tip_m {F : Int → Int} (hr : pz_rng F) {n : Nat} (hn : 3000 ≤ n) {p : Int} (h0 : 0 ≤ p) (h1 : p < 40) (ok : pz_okw F p) (hs : 0 ≤ F 2 ∧ F 2 ≤ 50) : s_X7_tip n (pz_ar F 0 452) (iI p) = some (iI (pz_tipF F p)) := by
  have a := pz_wok_rg ok
  have r : -1 ≤ pz_fld F p 6 ∧ pz_fld F p 6 < 1000000 := hr (10 + (7 * p + 6))
  unfold s_X7_tip pz_tipF
  rw [pz_wakesOf_a hr hn h0 h1 ok, pz_of_a h0 h1 (by omega) (by omega)]
  simp (disch := omega) only [pz_iI_add, pz_iI_sub, pz_iI_mul, pz_iI_div, pz_iI_0, pz_nI_iI, pz_gd_T, pz_iI_lt_T, pz_iI_lt_F, pz_iI_le_T, pz_iI_le_F, pz_iI_eq_F, if_true, if_false, Option.bind_some, pz_ar_at, pz_ar_upd, pz_setF_at, pz_setF_ne, pz_setR_ne, Int.zero_add]
  simp (disch := omega) only [pz_iI_add, pz_iI_sub, pz_iI_mul, pz_iI_div, pz_iI_0, pz_iI_lt, pz_iI_le, pz_iI_eq, pz_gd_iI, pz_nI_iI, if_true, if_false, Option.bind_some, ite_self, reduceCtorEq]
  by_cases d : pz_fld F p 6 = -1
  · rw [if_pos d, if_pos d]
    by_cases g : 0 < F 2 - pz_wok F p - 0
    · rw [if_pos g, if_pos (by omega)]
    · rw [if_neg g]
      by_cases g2 : 0 ≤ F 2 - pz_wok F p - 0
      · rw [if_pos g2]; congr 2; omega
      · rw [if_neg g2]
  · rw [if_neg d, if_neg d]
    by_cases g : 0 < F 2 - pz_wok F p - 3
    · rw [if_pos g, if_pos (by omega)]
    · rw [if_neg g]
      by_cases g2 : 0 ≤ F 2 - pz_wok F p - 3
      · rw [if_pos g2]; congr 2; omega
      · rw [if_neg g2]
theorem pz_property_a {F : Int → Int} (hr : pz_rng F) {n : Nat} (hn : 3000 ≤ n) {p d : Int} (h0 : 0 ≤ p) (h1 : p < 40) (ok : pz_okw F p) (hs : 0 ≤ F 2 ∧ F 2 ≤ 50) (hd : 0 ≤ d) (hd2 : d < 9) : s_X5_property n (pz_ar F 290 162) (pz_ar F 10 280) (pz_ar F 0 3) (iI p) (iI d) = some (iI (pz_prp F p d)) := by
  unfold s_X5_property pz_prp
  rw [pz_woken_a hr hn h0 h1 ok]
  simp (disch := omega) only [pz_iI_add, pz_iI_sub, pz_iI_mul, pz_iI_div, pz_iI_0, pz_iI_lt, pz_iI_le, pz_iI_eq, pz_gd_iI, pz_nI_iI, if_true, if_false, Option.bind_some, ite_self, reduceCtorEq, pz_tip_c hr h0 h1 ok hs]
  by_cases c : d = 7
  · rw [if_pos c, if_pos c]
  · rw [if_neg c, if_neg c]
    by_cases e : d = 8
    · rw [if_pos e, if_pos e]
    · rw [if_neg e, if_neg e, pz_at_a h0 h1 hd (by omega)]
      rfl
def pz_drc (F : Int → Int) (p c : Int) : Int → Int := fun z => if 10 + 7 * p ≤ z ∧ z < c then F (z + 7) else F z
theorem pz_drc_step {F : Int → Int} {p c : Int} (h : 10 + 7 * p ≤ c) : pz_setF (pz_drc F p c) c (F (c + 7)) = pz_drc F p (c + 1) := by
  funext z
  unfold pz_setF pz_drc
  by_cases e : z = c
  · rw [if_pos e, if_pos (by omega), e]
  · rw [if_neg e]
    by_cases d : 10 + 7 * p ≤ z ∧ z < c
    · rw [if_pos d, if_pos (by omega)]
    · rw [if_neg d, if_neg (by omega)]
theorem pz_drc_hi {F : Int → Int} {p c z : Int} (h : ¬ (10 + 7 * p ≤ z ∧ z < c)) : pz_drc F p c z = F z := if_neg h
theorem pz_drop_in {F : Int → Int} (n m : Nat) {p s : Int} (hp : 0 ≤ p) : ∀ (c : Nat) (q x : Int), p ≤ q → q < s → s < 40 → 0 ≤ x → x + c = 7 → (s_X3_dropRow_L12 n (m + 1 + c)).2 (iI s) (pz_ar (pz_drc F p (10 + (7 * q + x))) 10 280) (iI q) (iI x) = (s_X3_dropRow_L12 n m).1 (iI s) (pz_ar (pz_drc F p (10 + 7 * (q + 1))) 10 280) (iI (q + 1)) := by
  intro c
  induction c with
  | zero =>
    intro q x h1 h2 h3 h4 h5
    rw [show m + 1 + 0 = m + 1 from rfl, s_X3_dropRow_L12]
    dsimp only
    rw [if_pos (by rw [pz_iI_le (by omega) (by omega) (by omega) (by omega)]; omega), pz_iI_add, show 10 + (7 * q + x) = 10 + 7 * (q + 1) by omega]
  | succ c ih =>
    intro q x h1 h2 h3 h4 h5
    have go := ih q (x + 1) h1 h2 h3 (by omega) (by omega)
    rw [show m + 1 + (c + 1) = (m + 1 + c) + 1 by omega, s_X3_dropRow_L12]
    dsimp only
    rw [if_neg (by rw [pz_iI_le (by omega) (by omega) (by omega) (by omega)]; omega), pz_iI_add, pz_at_a (by omega) (by omega) h4 (by omega), Option.bind_some, pz_put_a (by omega) (by omega) h4 (by omega), Option.bind_some, pz_iI_add]
    have e : pz_setP (pz_drc F p (10 + (7 * q + x))) q x (pz_fld (pz_drc F p (10 + (7 * q + x))) (q + 1) x) = pz_drc F p (10 + (7 * q + (x + 1))) := by
      unfold pz_fld pz_setP
      rw [pz_drc_hi (by omega), show 10 + (7 * (q + 1) + x) = 10 + (7 * q + x) + 7 by omega, pz_drc_step (by omega), show 10 + (7 * q + x) + 1 = 10 + (7 * q + (x + 1)) by omega]
    rw [e, go]
theorem pz_drop_L {F : Int → Int} (n : Nat) {p s : Int} (hp : 0 ≤ p) (hs : s < 40) : ∀ (c : Nat) (q : Int), p ≤ q → q + c = s → ∀ k, 9 * c < k → (s_X3_dropRow_L12 n k).1 (iI s) (pz_ar (pz_drc F p (10 + 7 * q)) 10 280) (iI q) = some (iI s, pz_ar (pz_drc F p (10 + 7 * s)) 10 280) := by
  intro c
  induction c with
  | zero =>
    intro q h1 h2 k hk
    obtain ⟨k, rfl⟩ : ∃ z, k = z + 1 := ⟨k - 1, by omega⟩
    obtain rfl : q = s := by omega
    rw [s_X3_dropRow_L12]
    dsimp only
    rw [if_pos (by rw [pz_iI_le (by omega) (by omega) (by omega) (by omega)]; omega)]
  | succ c ih =>
    intro q h1 h2 k hk
    obtain ⟨k, rfl⟩ : ∃ z, k = z + 9 := ⟨k - 9, by omega⟩
    have go := ih (q + 1) (by omega) (by omega) k (by omega)
    have i := pz_drop_in (F := F) n k hp (s := s) 7 q 0 h1 (by omega) hs (by omega) (by omega)
    rw [show k + 9 = (k + 8) + 1 from rfl, s_X3_dropRow_L12]
    dsimp only
    rw [if_neg (by rw [pz_iI_le (by omega) (by omega) (by omega) (by omega)]; omega)]
    rw [show k + 1 + 7 = k + 8 from rfl, show 10 + (7 * q + 0) = 10 + 7 * q by omega] at i
    rw [i, go]
def pz_dropF (F : Int → Int) (p : Int) : Int → Int := pz_drc (pz_setF (pz_wayF F p (-1)) 6 (F 6 - 1)) p (10 + 7 * (F 6 - 1))
theorem pz_dismiss_a {F : Int → Int} (hr : pz_rng F) {n : Nat} (hn : 3000 ≤ n) {p : Int} (h0 : 0 ≤ p) (h1 : p < F 6) (h6 : F 6 ≤ 40) (ok : pz_okw F p) : s_X5_dismiss n (pz_ar F 290 162) (iI (F 6)) (pz_ar F 10 280) (iI p) = some (pz_ar (pz_dropF F p) 290 162, iI (F 6 - 1), pz_ar (pz_dropF F p) 10 280) := by
  have q := pz_drop_L (F := F) n h0 (show F 6 - 1 < 40 by omega) (F 6 - 1 - p).toNat p (by omega) (by omega) n (by omega)
  have e : pz_ar F 10 280 = pz_ar (pz_drc F p (10 + 7 * p)) 10 280 := pz_ar_congr (fun z _ _ => by rw [pz_drc_hi (by omega)])
  unfold s_X5_dismiss s_X3_dropRow
  rw [pz_giveBerths_a hr hn h0 (by omega) ok, Option.bind_some, pz_iI_sub, e, q, Option.bind_some]
  have e1 : pz_ar (pz_wayF F p (-1)) 290 162 = pz_ar (pz_dropF F p) 290 162 := pz_ar_congr (fun z x1 x2 => by
    unfold pz_dropF
    rw [pz_drc_hi (by omega), pz_setF_ne (by omega)])
  have e2 : pz_ar (pz_drc F p (10 + 7 * (F 6 - 1))) 10 280 = pz_ar (pz_dropF F p) 10 280 := pz_ar_congr (fun z x1 x2 => by
    unfold pz_dropF pz_drc
    by_cases g : 10 + 7 * p ≤ z ∧ z < 10 + 7 * (F 6 - 1)
    · rw [if_pos g, if_pos g, pz_setF_ne (by omega), pz_way_out ok (by omega)]
    · rw [if_neg g, if_neg g, pz_setF_ne (by omega), pz_way_out ok (by omega)])
  rw [e1, e2]
theorem pz_cancel_L {G : Int → Int} (n : Nat) {p s : Int} (hp : 0 ≤ p) (hs : s < 40) (hs2 : p ≤ s) (hG : G 6 = s) (kp th : Int32) (past : Nat → Int32) (tp : Int32) : ∀ (c : Nat) (x : Int), 10 + 7 * p ≤ x → x + c = 10 + 7 * s → ∀ k, c < k → s_X7_cancel_L66 n k kp th (pz_ar (pz_drc G p x) 0 452) past tp (iI x) = some (tp, kp, th, pz_ar (pz_drc G p (10 + 7 * s)) 0 452, past) := by
  intro c
  induction c with
  | zero =>
    intro x hx hc k hk
    obtain ⟨k, rfl⟩ : ∃ z, k = z + 1 := ⟨k - 1, by omega⟩
    rw [s_X7_cancel_L66]
    simp (disch := omega) only [pz_iI_add, pz_iI_sub, pz_iI_mul, pz_iI_div, pz_iI_0, pz_nI_iI, pz_gd_T, pz_iI_lt_T, pz_iI_lt_F, pz_iI_le_T, pz_iI_le_F, pz_iI_eq_F, if_true, if_false, Option.bind_some, pz_ar_at, pz_ar_upd, pz_setF_at, pz_setF_ne, pz_setR_ne, Int.zero_add, pz_drc_hi, hG]
    rw [show x = 10 + 7 * s by omega]
  | succ c ih =>
    intro x hx hc k hk
    obtain ⟨k, rfl⟩ : ∃ z, k = z + 1 := ⟨k - 1, by omega⟩
    have go := ih (x + 1) (by omega) (by omega) k (by omega)
    rw [s_X7_cancel_L66]
    simp (disch := omega) only [pz_iI_add, pz_iI_sub, pz_iI_mul, pz_iI_div, pz_iI_0, pz_nI_iI, pz_gd_T, pz_iI_lt_T, pz_iI_lt_F, pz_iI_le_T, pz_iI_le_F, pz_iI_eq_F, if_true, if_false, Option.bind_some, pz_ar_at, pz_ar_upd, pz_setF_at, pz_setF_ne, pz_setR_ne, Int.zero_add, pz_drc_hi, hG, pz_drc_step, go]
theorem pz_drc_fld {F : Int → Int} {p s q d : Int} (h0 : 0 ≤ d) (h1 : d < 7) (hq : q < s) : pz_fld (pz_drc F p (10 + 7 * s)) q d = pz_fld F (if q < p then q else q + 1) d := by
  unfold pz_fld pz_drc
  by_cases g : q < p
  · rw [if_pos g, if_neg (by omega)]
  · rw [if_neg g, if_pos (by omega)]
    congr 1; omega
def pz_sk (p q : Int) : Int := if q < p then q else q + 1
theorem pz_dropF_fld {F : Int → Int} {p q d : Int} (ok : pz_okw F p) (h6 : F 6 ≤ 40) (h0 : 0 ≤ d) (h1 : d < 7) (hq0 : 0 ≤ q) (hq : q < F 6 - 1) : pz_fld (pz_dropF F p) q d = pz_fld F (pz_sk p q) d := by
  unfold pz_dropF
  rw [pz_drc_fld h0 h1 hq]
  show pz_fld (pz_setF (pz_wayF F p (-1)) 6 (F 6 - 1)) (pz_sk p q) d = pz_fld F (pz_sk p q) d
  have : pz_sk p q ≤ q + 1 ∧ 0 ≤ pz_sk p q := by unfold pz_sk; split <;> omega
  unfold pz_fld
  rw [pz_setF_ne (by omega), pz_way_out ok (by omega)]
theorem pz_dropF_hold {F : Int → Int} {p z : Int} (h6 : F 6 ≤ 40) (hz : 290 ≤ z) : pz_dropF F p z = pz_wayF F p (-1) z := by
  unfold pz_dropF
  rw [pz_drc_hi (by omega), pz_setF_ne (by omega)]
theorem pz_dropF_lo {F : Int → Int} {p z : Int} (ok : pz_okw F p) (hp : 0 ≤ p) (hz : z < 10) : pz_dropF F p z = if z = 6 then F 6 - 1 else F z := by
  unfold pz_dropF
  rw [pz_drc_hi (by omega)]
  by_cases g : z = 6
  · rw [if_pos g, pz_setF_at g]
  · rw [if_neg g, pz_setF_ne g, pz_way_out ok (by omega)]
theorem pz_inv_drop {B : Int} {F : Int → Int} (h : pz_Inv B F) {p : Int} (h0 : 0 ≤ p) (h1 : p < F 6) : pz_Inv B (pz_dropF F p) := by
  have sz := h.sz
  have pp := h.ps p h0 h1
  have ok := pp.1
  have lo : ∀ z : Int, z < 10 → _ := fun z hz => pz_dropF_lo ok h0 (z := z) hz
  have e6 : pz_dropF F p 6 = F 6 - 1 := by rw [lo 6 (by omega), if_pos rfl]
  have e9 : ∀ z : Int, z < 10 → z ≠ 6 → pz_dropF F p z = F z := fun z x1 x2 => by rw [lo z x1, if_neg x2]
  have fl : ∀ q d, 0 ≤ q → q < F 6 - 1 → 0 ≤ d → d < 7 → pz_fld (pz_dropF F p) q d = pz_fld F (pz_sk p q) d := fun q d x0 x1 y0 y1 => pz_dropF_fld ok sz.2 y0 y1 x0 x1
  have skr : ∀ q, 0 ≤ q → q < F 6 - 1 → 0 ≤ pz_sk p q ∧ pz_sk p q < F 6 ∧ pz_sk p q ≠ p := fun q x0 x1 => by unfold pz_sk; split <;> omega
  refine ⟨?_, ?_, ?_, ?_, ?_, ?_, ?_, ?_, ?_⟩
  · have r : pz_rng (pz_setF (pz_wayF F p (-1)) 6 (F 6 - 1)) := pz_rng_set (pz_rng_way h.rg (by omega) (by omega)) (by omega) (by omega)
    intro z
    unfold pz_dropF pz_drc
    split
    · exact r _
    · exact r _
  · rw [e9 0 (by omega) (by omega), e9 1 (by omega) (by omega), e9 2 (by omega) (by omega)]; exact h.st
  · intro x x0 x1; rw [e9 (3 + x) (by omega) (by omega)]; exact h.en x x0 x1
  · rw [e6]; omega
  · rw [e9 7 (by omega) (by omega), e9 8 (by omega) (by omega), e9 9 (by omega) (by omega)]; exact h.ct
  · intro q x0 x1
    rw [e6] at x1
    have s := skr q x0 x1
    have w := h.ps (pz_sk p q) s.1 s.2.1
    rw [e9 7 (by omega) (by omega), fl q 0 x0 x1 (by omega) (by omega), fl q 3 x0 x1 (by omega) (by omega)]
    exact ⟨(pz_okw_congr (fun d y0 y1 => fl q d x0 x1 y0 y1)).mpr w.1, w.2⟩
  · intro q r x0 x1 y0 y1 e
    rw [e6] at x1 y1
    rw [fl q 0 x0 x1 (by omega) (by omega), fl r 0 y0 y1 (by omega) (by omega)] at e
    have s := skr q x0 x1
    have s2 := skr r y0 y1
    have z := h.nj _ _ s.1 s.2.1 s2.1 s2.2.1 e
    unfold pz_sk at z
    split at z <;> split at z <;> omega
  · intro q b l x0 x1 hcov
    rw [e6] at x1
    have s := skr q x0 x1
    have w := h.ps (pz_sk p q) s.1 s.2.1
    have hcov2 : pz_cov F (pz_sk p q) b l := (pz_cov_congr (fun d y0 y1 => fl q d x0 x1 y0 y1)).mp hcov
    have r := pz_cov_rg w.1 hcov2
    have e := h.h1 (pz_sk p q) b l s.1 s.2.1 hcov2
    have ne : pz_fld F (pz_sk p q) 0 ≠ pz_fld F p 0 := fun z => s.2.2 (h.nj _ _ s.1 s.2.1 h0 h1 z)
    rw [fl q 0 x0 x1 (by omega) (by omega), pz_dropF_hold sz.2 (by omega), pz_way_not ok r.1 r.2.2.1 r.2.2.2 (fun y => by have := h.h1 p b l h0 h1 y; omega)]
    exact e
  · intro b l x0 x1 x2 x3
    rw [e6, pz_dropF_hold sz.2 (by omega)]
    by_cases g2 : pz_cov F p b l
    · exact Or.inl (pz_way_cov ok g2)
    · rw [pz_way_not ok x0 x2 x3 g2]
      rcases h.h2 b l x0 x1 x2 x3 with w | ⟨r, y0, y1, w⟩
      · exact Or.inl w
      · have hrp : r ≠ p := fun z => g2 (z ▸ w)
        refine Or.inr ⟨if r < p then r else r - 1, by split <;> omega, by split <;> omega, ?_⟩
        have hsk : pz_sk p (if r < p then r else r - 1) = r := by
          unfold pz_sk
          by_cases g : r < p
          · rw [if_pos g, if_pos g]
          · rw [if_neg g, if_neg (by omega)]; omega
        refine (pz_cov_congr (q := r) (fun d z1 z2 => ?_)).mpr w
        rw [fl _ d (by split <;> omega) (by split <;> omega) z1 z2, hsk]
theorem pz_inv_low {B C : Int} {F : Int → Int} (h : pz_Inv B F) {k v : Int} (hk0 : 0 ≤ k) (hk : k < 10) (h6 : k ≠ 6) (h7 : k ≠ 7) (hv : -1 ≤ v ∧ v < 1000000)
    (st : 0 ≤ pz_setF F k v 0 ∧ pz_setF F k v 0 ≤ 9 ∧ 0 ≤ pz_setF F k v 1 ∧ pz_setF F k v 1 ≤ 9 ∧ 0 ≤ pz_setF F k v 2 ∧ pz_setF F k v 2 ≤ 50)
    (en : ∀ c, 0 ≤ c → c < 3 → 1 ≤ pz_setF F k v (3 + c) ∧ pz_setF F k v (3 + c) ≤ 9)
    (ct : 0 ≤ pz_setF F k v 7 ∧ pz_setF F k v 7 ≤ C ∧ 0 ≤ pz_setF F k v 8 ∧ pz_setF F k v 8 ≤ C ∧ 0 ≤ pz_setF F k v 9 ∧ pz_setF F k v 9 ≤ C) : pz_Inv C (pz_setF F k v) := by
  have e6 : pz_setF F k v 6 = F 6 := pz_setF_ne (by omega)
  have e7 : pz_setF F k v 7 = F 7 := pz_setF_ne (by omega)
  have fl : ∀ q d, 0 ≤ q → 0 ≤ d → d < 7 → pz_fld (pz_setF F k v) q d = pz_fld F q d := fun q d x0 y0 y1 => pz_setF_ne (by omega)
  have hi : ∀ z : Int, 290 ≤ z → pz_setF F k v z = F z := fun z hz => pz_setF_ne (by omega)
  refine ⟨pz_rng_set h.rg hv.1 hv.2, st, en, by rw [e6]; exact h.sz, ct, ?_, ?_, ?_, ?_⟩
  · intro p x0 x1
    rw [e6] at x1
    rw [e7, fl p 0 x0 (by omega) (by omega), fl p 3 x0 (by omega) (by omega)]
    have w := h.ps p x0 x1
    exact ⟨(pz_okw_congr (fun d y0 y1 => fl p d x0 y0 y1)).mpr w.1, w.2⟩
  · intro p q x0 x1 y0 y1 e
    rw [e6] at x1 y1
    rw [fl p 0 x0 (by omega) (by omega), fl q 0 y0 (by omega) (by omega)] at e
    exact h.nj p q x0 x1 y0 y1 e
  · intro p b l x0 x1 hc
    rw [e6] at x1
    have hc2 := (pz_cov_congr (fun d y0 y1 => fl p d x0 y0 y1)).mp hc
    have r := pz_cov_rg (h.ps p x0 x1).1 hc2
    rw [hi _ (by omega), fl p 0 x0 (by omega) (by omega)]
    exact h.h1 p b l x0 x1 hc2
  · intro b l x0 x1 x2 x3
    rw [hi _ (by omega), e6]
    rcases h.h2 b l x0 x1 x2 x3 with w | ⟨p, y0, y1, w⟩
    · exact Or.inl w
    · exact Or.inr ⟨p, y0, y1, (pz_cov_congr (fun d z0 z1 => fl p d y0 z0 z1)).mpr w⟩
def pz_lgs (F : Int → Int) (v b : Int) : Nat → Int → Bool
  | 0, _ => true
  | c + 1, x => (decide (F (290 + (b * 9 + x)) = -1) || decide (F (290 + (b * 9 + x)) = v)) && pz_lgs F v b c (x + 1)
theorem pz_lgs_s (F : Int → Int) (v b : Int) (c : Nat) (x : Int) : pz_lgs F v b (c + 1) x = ((decide (F (290 + (b * 9 + x)) = -1) || decide (F (290 + (b * 9 + x)) = v)) && pz_lgs F v b c (x + 1)) := rfl
def pz_mhB (F : Int → Int) (p b : Int) : Bool := (decide (pz_fld F p 3 = 0) || decide (pz_fld F p 4 = b)) && (decide (pz_fld F p 2 ≤ F (3 + b / 6)) && pz_lgs F (pz_fld F p 0) b (pz_fld F p 2 - pz_fld F p 1).toNat (pz_fld F p 1))
theorem pz_holderOn_a {F : Int → Int} {b l : Int} (hb : 0 ≤ b) (hb2 : b < 18) (hl : 0 ≤ l) (hl2 : l < 9) : s_X0_holderOn (pz_ar F 290 162) (iI b) (iI l) = some (iI (F (290 + (b * 9 + l)))) := by
  unfold s_X0_holderOn
  rw [pz_iI_mul, pz_iI_add, pz_read_a (by decide) (by omega) (by omega)]
  rfl
theorem pz_endOf_a {F : Int → Int} {c : Int} (hb : 0 ≤ c) (hb2 : c < 3) : s_X0_endOf (pz_ar F 3 3) (iI c) = some (iI (F (3 + c))) := by
  unfold s_X0_endOf
  rw [pz_read_a (by decide) (by omega) (by omega)]
  rfl
theorem pz_mayHave_L {F : Int → Int} (hr : pz_rng F) (n : Nat) {p b t : Int} (h0 : 0 ≤ p) (h1 : p < 40) (hb : 0 ≤ b) (hb2 : b < 18) (ht : t ≤ 9) : ∀ (c : Nat) (x : Int), 0 ≤ x → x + c = t → ∀ k, c < k → s_X5_mayHave_L66 n (pz_ar F 3 3) (pz_ar F 290 162) (pz_ar F 10 280) (iI p) (iI b) k (iI t) (iI x) = some (iI (pz_bi (pz_lgs F (pz_fld F p 0) b c x))) := by
  intro c
  induction c with
  | zero =>
    intro x hx hc k hk
    obtain ⟨k, rfl⟩ : ∃ z, k = z + 1 := ⟨k - 1, by omega⟩
    rw [s_X5_mayHave_L66]
    simp (disch := omega) only [pz_iI_add, pz_iI_sub, pz_iI_mul, pz_iI_div, pz_iI_0, pz_nI_iI, pz_gd_T, pz_iI_lt_T, pz_iI_lt_F, pz_iI_le_T, pz_iI_le_F, pz_iI_eq_F, if_true, if_false, Option.bind_some, pz_ar_at, pz_ar_upd, pz_setF_at, pz_setF_ne, pz_setR_ne, pz_lgs]
    rfl
  | succ c ih =>
    intro x hx hc k hk
    obtain ⟨k, rfl⟩ : ∃ z, k = z + 1 := ⟨k - 1, by omega⟩
    have go := ih (x + 1) (by omega) (by omega) k (by omega)
    have r := hr (290 + (b * 9 + x))
    have r2 : -1 ≤ pz_fld F p 0 ∧ pz_fld F p 0 < 1000000 := hr (10 + (7 * p + 0))
    rw [s_X5_mayHave_L66, pz_holderOn_a hb hb2 hx (by omega), pz_at_a h0 h1 (by omega) (by omega)]
    simp (disch := omega) only [pz_iI_add, pz_iI_sub, pz_iI_mul, pz_iI_div, pz_iI_0, pz_nI_iI, pz_gd_T, pz_iI_lt_T, pz_iI_lt_F, pz_iI_le_T, pz_iI_le_F, pz_iI_eq_F, if_true, if_false, Option.bind_some, pz_ar_at, pz_ar_upd, pz_setF_at, pz_setF_ne, pz_setR_ne, go]
    simp (disch := omega) only [pz_iI_add, pz_iI_sub, pz_iI_mul, pz_iI_div, pz_iI_0, pz_iI_lt, pz_iI_le, pz_iI_eq, pz_gd_iI, pz_nI_iI, if_true, if_false, Option.bind_some, ite_self, reduceCtorEq]
    rw [pz_lgs_s]
    by_cases d : F (290 + (b * 9 + x)) = -1
    · rw [if_pos d, decide_eq_true d, Bool.true_or, Bool.true_and]
    · rw [if_neg d, decide_eq_false d, Bool.false_or]
      by_cases e : F (290 + (b * 9 + x)) = pz_fld F p 0
      · rw [if_pos e, decide_eq_true e, Bool.true_and]
      · rw [if_neg e, decide_eq_false e]; rfl
theorem pz_mayHave_a {F : Int → Int} (hr : pz_rng F) {n : Nat} (hn : 3000 ≤ n) {p b : Int} (h0 : 0 ≤ p) (h1 : p < 40) (hb : 0 ≤ b) (hb2 : b < 18) (ok : pz_okw F p) (h3 : 0 ≤ pz_fld F p 3 ∧ pz_fld F p 3 ≤ 1) : s_X5_mayHave n (pz_ar F 3 3) (pz_ar F 290 162) (pz_ar F 10 280) (iI p) (iI b) = some (iI (pz_bi (pz_mhB F p b))) := by
  have ok2 := ok
  unfold pz_okw at ok2
  have r := hr (3 + b / 6)
  have L := pz_mayHave_L hr n h0 h1 hb hb2 (t := pz_fld F p 2) (by omega) (pz_fld F p 2 - pz_fld F p 1).toNat (pz_fld F p 1) (by omega) (by omega) n (by omega)
  unfold s_X5_mayHave pz_mhB
  rw [pz_at_a h0 h1 (by omega) (by omega), pz_at_a h0 h1 (by omega) (by omega), pz_at_a h0 h1 (by omega) (by omega), pz_at_a h0 h1 (by omega) (by omega), pz_iI_div hb (by omega) (by omega) (by omega), pz_endOf_a (by omega) (by omega)]
  simp (disch := omega) only [pz_iI_add, pz_iI_sub, pz_iI_mul, pz_iI_div, pz_iI_0, pz_iI_lt, pz_iI_le, pz_iI_eq, pz_gd_iI, pz_nI_iI, if_true, if_false, Option.bind_some, ite_self, reduceCtorEq, L]
  by_cases d : pz_fld F p 3 = 1
  · rw [if_pos d, decide_eq_false (show ¬ pz_fld F p 3 = 0 by omega), Bool.false_or]
    by_cases e : pz_fld F p 4 = b
    · rw [if_pos e, decide_eq_true e, Bool.true_and]
      by_cases g : pz_fld F p 2 ≤ F (3 + b / 6)
      · rw [if_pos g, decide_eq_true g, Bool.true_and]
      · rw [if_neg g, decide_eq_false g]; rfl
    · rw [if_neg e, decide_eq_false e]; rfl
  · rw [if_neg d, decide_eq_true (show pz_fld F p 3 = 0 by omega), Bool.true_or, Bool.true_and]
    by_cases g : pz_fld F p 2 ≤ F (3 + b / 6)
    · rw [if_pos g, decide_eq_true g, Bool.true_and]
    · rw [if_neg g, decide_eq_false g]; rfl
def pz_lge (F : Int → Int) (v b : Int) : Nat → Int → Bool
  | 0, _ => true
  | c + 1, x => (decide (x < F (3 + b / 6)) && (decide (F (290 + (b * 9 + x)) = -1) || decide (F (290 + (b * 9 + x)) = v))) && pz_lge F v b c (x + 1)
theorem pz_lge_s (F : Int → Int) (v b : Int) (c : Nat) (x : Int) : pz_lge F v b (c + 1) x = ((decide (x < F (3 + b / 6)) && (decide (F (290 + (b * 9 + x)) = -1) || decide (F (290 + (b * 9 + x)) = v))) && pz_lge F v b c (x + 1)) := rfl
theorem pz_lge_eq (F : Int → Int) (v b : Int) : ∀ (c : Nat) (x : Int), pz_lge F v b c x = ((decide (c = 0) || decide (x + c ≤ F (3 + b / 6))) && pz_lgs F v b c x) := by
  intro c
  induction c with
  | zero => intro x; rfl
  | succ c ih =>
    intro x
    rw [pz_lge_s, pz_lgs_s, ih, decide_eq_false (show ¬ c + 1 = 0 by omega), Bool.false_or]
    by_cases d : x < F (3 + b / 6)
    · rw [decide_eq_true d, Bool.true_and]
      by_cases e : x + ((c + 1 : Nat) : Int) ≤ F (3 + b / 6)
      · rw [decide_eq_true e, decide_eq_true (show x + 1 + (c : Int) ≤ F (3 + b / 6) by omega), Bool.or_true, Bool.true_and, Bool.true_and]
      · rw [decide_eq_false e, decide_eq_false (show ¬ x + 1 + (c : Int) ≤ F (3 + b / 6) by omega), decide_eq_false (show ¬ c = 0 by omega)]
        simp
    · rw [decide_eq_false d, decide_eq_false (show ¬ x + ((c + 1 : Nat) : Int) ≤ F (3 + b / 6) by omega)]
      simp
theorem pz_canHave_L {F : Int → Int} (hr : pz_rng F) (n : Nat) {p b : Int} (h0 : 0 ≤ p) (h1 : p < 40) (hb : 0 ≤ b) (hb2 : b < 18) (ok : pz_okw F p) : ∀ (c : Nat) (x : Int) (w : Bool), 0 ≤ x → x + c = pz_fld F p 2 → ∀ k, c < k → s_X7_canHave_L42 n (pz_ar F 0 452) (iI p) (iI b) k (iI (pz_bi w)) (iI x) = some (iI (pz_bi (w && pz_lge F (pz_fld F p 0) b c x))) := by
  have ok2 := ok
  unfold pz_okw at ok2
  intro c
  induction c with
  | zero =>
    intro x w hx hc k hk
    obtain ⟨k, rfl⟩ : ∃ z, k = z + 1 := ⟨k - 1, by omega⟩
    rw [s_X7_canHave_L42, pz_of_a h0 h1 (by omega) (by omega)]
    simp (disch := omega) only [pz_iI_add, pz_iI_sub, pz_iI_mul, pz_iI_div, pz_iI_0, pz_nI_iI, pz_gd_T, pz_iI_lt_T, pz_iI_lt_F, pz_iI_le_T, pz_iI_le_F, pz_iI_eq_F, if_true, if_false, Option.bind_some, pz_ar_at, pz_ar_upd, pz_setF_at, pz_setF_ne, pz_setR_ne, pz_lge]
    rw [if_pos (pz_zb_bi w), Bool.and_true]
  | succ c ih =>
    intro x w hx hc k hk
    obtain ⟨k, rfl⟩ : ∃ z, k = z + 1 := ⟨k - 1, by omega⟩
    have go := fun w => ih (x + 1) w (by omega) (by omega) k (by omega)
    have go0 := go false
    have go1 := go true
    rw [show pz_bi false = 0 from rfl] at go0
    rw [show pz_bi true = 1 from rfl] at go1
    have r := hr (290 + (b * 9 + x))
    have r3 := hr (3 + b / 6)
    have r2 : -1 ≤ pz_fld F p 0 ∧ pz_fld F p 0 < 1000000 := hr (10 + (7 * p + 0))
    rw [s_X7_canHave_L42, pz_of_a h0 h1 (by omega) (by omega), pz_of_a h0 h1 (by omega) (by omega), pz_holds_s (pz_ar_row F 0 452) hr hb hb2 hx (by omega), pz_lge_s]
    cases w with
    | false =>
      rw [show pz_bi false = 0 from rfl]
      simp (disch := omega) only [pz_iI_add, pz_iI_sub, pz_iI_mul, pz_iI_div, pz_iI_0, pz_nI_iI, pz_gd_T, pz_iI_lt_T, pz_iI_lt_F, pz_iI_le_T, pz_iI_le_F, pz_iI_eq_F, if_true, if_false, Option.bind_some, pz_ar_at, pz_ar_upd, pz_setF_at, pz_setF_ne, pz_setR_ne, go0, go1, Int.zero_add, Bool.false_and]
    | true =>
      rw [show pz_bi true = 1 from rfl]
      simp (disch := omega) only [pz_iI_add, pz_iI_sub, pz_iI_mul, pz_iI_div, pz_iI_0, pz_nI_iI, pz_gd_T, pz_iI_lt_T, pz_iI_lt_F, pz_iI_le_T, pz_iI_le_F, pz_iI_eq_F, if_true, if_false, Option.bind_some, pz_ar_at, pz_ar_upd, pz_setF_at, pz_setF_ne, pz_setR_ne, go0, go1, Int.zero_add, Bool.false_and, Bool.true_and]
      simp (disch := omega) only [pz_iI_add, pz_iI_sub, pz_iI_mul, pz_iI_div, pz_iI_0, pz_iI_lt, pz_iI_le, pz_iI_eq, pz_gd_iI, pz_nI_iI, if_true, if_false, Option.bind_some, ite_self, reduceCtorEq]
      by_cases a : F (3 + b / 6) ≤ x
      · rw [if_pos a, decide_eq_false (show ¬ x < F (3 + b / 6) by omega)]; rfl
      · rw [if_neg a, decide_eq_true (show x < F (3 + b / 6) by omega), Bool.true_and]
        by_cases d : F (290 + (b * 9 + x)) = -1
        · rw [if_pos d, decide_eq_true d, Bool.true_or, Bool.true_and]
        · rw [if_neg d, decide_eq_false d, Bool.false_or]
          by_cases e : F (290 + (b * 9 + x)) = pz_fld F p 0
          · rw [if_pos e, decide_eq_true e, Bool.true_and]
          · rw [if_neg e, decide_eq_false e]; rfl
theorem pz_canHave_a {F : Int → Int} (hr : pz_rng F) {n : Nat} (hn : 3000 ≤ n) {p b : Int} (h0 : 0 ≤ p) (h1 : p < 40) (hb : 0 ≤ b) (hb2 : b < 18) (ok : pz_okw F p) (h3 : 0 ≤ pz_fld F p 3 ∧ pz_fld F p 3 ≤ 1) : s_X7_canHave n (pz_ar F 0 452) (iI p) (iI b) = some (iI (pz_bi (pz_mhB F p b))) := by
  have ok2 := ok
  unfold pz_okw at ok2
  have L := fun w => pz_canHave_L hr n h0 h1 hb hb2 ok (pz_fld F p 2 - pz_fld F p 1).toNat (pz_fld F p 1) w (by omega) (by omega) n (by omega)
  have L0 := L false
  have L1 := L true
  rw [show pz_bi false = 0 from rfl, Bool.false_and] at L0
  rw [show pz_bi true = 1 from rfl, Bool.true_and, pz_lge_eq, decide_eq_false (show ¬ (pz_fld F p 2 - pz_fld F p 1).toNat = 0 by omega), Bool.false_or, show pz_fld F p 1 + (((pz_fld F p 2 - pz_fld F p 1).toNat : Nat) : Int) = pz_fld F p 2 by omega] at L1
  unfold s_X7_canHave pz_mhB
  rw [pz_of_a h0 h1 (by omega) (by omega), pz_of_a h0 h1 (by omega) (by omega), pz_of_a h0 h1 (by omega) (by omega)]
  simp (disch := omega) only [pz_iI_add, pz_iI_sub, pz_iI_mul, pz_iI_div, pz_iI_0, pz_iI_lt, pz_iI_le, pz_iI_eq, pz_gd_iI, pz_nI_iI, if_true, if_false, Option.bind_some, ite_self, reduceCtorEq, L0, L1]
  by_cases d : pz_fld F p 3 = 0
  · rw [if_pos d, decide_eq_true d, Bool.true_or, Bool.true_and]
  · rw [if_neg d, decide_eq_false d, Bool.false_or]
    by_cases e : pz_fld F p 4 = b
    · rw [if_pos e, decide_eq_true e, Bool.true_and]
    · rw [if_neg e, decide_eq_false e]; rfl
theorem pz_lgs_at (F : Int → Int) (v b : Int) : ∀ (c : Nat) (x : Int), pz_lgs F v b c x = true → ∀ l, x ≤ l → l < x + c → F (290 + (b * 9 + l)) = -1 ∨ F (290 + (b * 9 + l)) = v := by
  intro c
  induction c with
  | zero => intro x h l h1 h2; omega
  | succ c ih =>
    intro x h l h1 h2
    rw [pz_lgs_s, Bool.and_eq_true, Bool.or_eq_true, decide_eq_true_eq, decide_eq_true_eq] at h
    by_cases e : l = x
    · rw [e]; exact h.1
    · exact ih (x + 1) h.2 l (by omega) (by omega)
theorem pz_mhB_can {F : Int → Int} {p b : Int} (hb : 0 ≤ b) (hb2 : b < 18) (h : pz_mhB F p b = true) : pz_Can2 F p (pz_fld F p 1) (pz_fld F p 2) b b (-1) := by
  unfold pz_mhB at h
  rw [Bool.and_eq_true, Bool.and_eq_true] at h
  have q := pz_lgs_at F (pz_fld F p 0) b _ _ h.2.2
  refine ⟨by unfold pz_okO; omega, ?_, ?_⟩
  · intro l h1 h2; rw [if_pos rfl] at h2; exact q l h1 (by omega)
  · intro l h1 h2; rw [if_pos rfl] at h1; omega
theorem pz_reseat_a {B : Int} {F : Int → Int} (h : pz_Inv B F) {n : Nat} (hn : 3000 ≤ n) {p a b c : Int} (h0 : 0 ≤ p) (h1 : p < F 6) (hc : pz_Can2 F p (pz_fld F p 1) (pz_fld F p 2) a b c) : s_X5_reseat n (pz_ar F 290 162) (pz_ar F 10 280) (iI a) (iI b) (iI c) (iI p) = some (pz_ar (pz_reF F p a b c) 290 162, pz_ar (pz_reF F p a b c) 10 280) := by
  have sz := h.sz
  have ok := (h.ps p h0 h1).1
  have o := pz_okw_re h h0 h1 hc.ok
  have ho := hc.ok
  unfold pz_okO at ho
  unfold pz_okw at ok
  have r2 : pz_rng (pz_setB (pz_wayF F p (-1)) p a b c) := pz_rng_setB (pz_rng_way h.rg (by omega) (by omega)) p (by omega) (by omega) (by omega)
  unfold s_X5_reseat
  rw [pz_giveBerths_a h.rg hn h0 (by omega) (h.ps p h0 h1).1, Option.bind_some, pz_putBerths_a h0 (by omega), Option.bind_some, pz_at_a h0 (by omega) (by omega) (by omega), Option.bind_some]
  have e1 : pz_ar (pz_wayF F p (-1)) 290 162 = pz_ar (pz_setB (pz_wayF F p (-1)) p a b c) 290 162 := (pz_ar_setB h0 (by omega) (by omega)).symm
  have e2 : pz_ar (pz_setB F p a b c) 10 280 = pz_ar (pz_setB (pz_wayF F p (-1)) p a b c) 10 280 := pz_ar_congr (fun z x1 x2 => by
    unfold pz_setB pz_setP pz_setF
    rw [pz_way_out (h.ps p h0 h1).1 (by omega)])
  have e3 : pz_fld (pz_setB F p a b c) p 0 = pz_fld F p 0 := pz_setB_lo _ _ _ _ _ (by omega) (by omega) h0 h0
  rw [e1, e2, e3, pz_giveBerths_a r2 hn h0 (by omega) o, Option.bind_some]
  have e4 : pz_ar (pz_setB (pz_wayF F p (-1)) p a b c) 10 280 = pz_ar (pz_reF F p a b c) 10 280 := (pz_ar_way (by omega) o).symm
  rw [e4]
  rfl
