def pz_ar (F : Int → Int) (o : Int) (n : Nat) : Nat → Int32 := fun k => if k < n then iI (F (o + (k : Int))) else 0
theorem pz_ar_row (F : Int → Int) (o : Int) (n : Nat) : pz_row F o n (pz_ar F o n) := by
  intro z h0 h1
  unfold pz_ar
  rw [if_pos (by omega), show o + ((z.toNat : Nat) : Int) = o + z by omega]
theorem pz_ar_at {F : Int → Int} {o : Int} {n : Nat} {z : Int} (h0 : 0 ≤ z) (h1 : z < n) (hn : (n : Int) ≤ 1000000) : pz_ar F o n (iI z).toNatClampNeg = iI (F (o + z)) := pz_row_at (pz_ar_row F o n) hn h0 h1
theorem pz_ar_upd {F : Int → Int} {o : Int} {n : Nat} {z v : Int} (h0 : 0 ≤ z) (h1 : z < n) (hn : (n : Int) ≤ 1000000) : upd (pz_ar F o n) (iI z).toNatClampNeg (iI v) = pz_ar (pz_setF F (o + z) v) o n := by
  funext k
  unfold upd pz_ar pz_setF
  rw [pz_iI_cl h0 (by omega)]
  by_cases c : k = z.toNat
  · rw [if_pos c, if_pos (by omega), if_pos (by omega)]
  · rw [if_neg c]
    by_cases d : k < n
    · rw [if_pos d, if_pos d, if_neg (by omega)]
    · rw [if_neg d, if_neg d]
theorem pz_ar_congr {F G : Int → Int} {o : Int} {n : Nat} (h : ∀ z : Int, o ≤ z → z < o + n → F z = G z) : pz_ar F o n = pz_ar G o n := by
  funext k
  unfold pz_ar
  by_cases d : k < n
  · rw [if_pos d, if_pos d, h _ (by omega) (by omega)]
  · rw [if_neg d, if_neg d]
theorem pz_ar_out {F : Int → Int} {o : Int} {n : Nat} {k v : Int} (h : k < o ∨ o + n ≤ k) : pz_ar (pz_setF F k v) o n = pz_ar F o n := pz_ar_congr (fun z h1 h2 => by unfold pz_setF; rw [if_neg (by omega)])
def pz_setR (F : Int → Int) (a b v : Int) : Int → Int := fun z => if a ≤ z ∧ z < b then v else F z
theorem pz_ar_outR {F : Int → Int} {o : Int} {n : Nat} {a b v : Int} (h : b ≤ o ∨ o + n ≤ a) : pz_ar (pz_setR F a b v) o n = pz_ar F o n := pz_ar_congr (fun z h1 h2 => by unfold pz_setR; rw [if_neg (by omega)])
theorem pz_setF_eq (F : Int → Int) (k v : Int) : pz_setF F k v k = v := if_pos rfl
theorem pz_setF_at {F : Int → Int} {j k v : Int} (h : j = k) : pz_setF F k v j = v := if_pos h
theorem pz_setF_ne {F : Int → Int} {j k v : Int} (h : ¬ j = k) : pz_setF F k v j = F j := if_neg h
theorem pz_setR_in {F : Int → Int} {a b v j : Int} (h : a ≤ j ∧ j < b) : pz_setR F a b v j = v := if_pos h
theorem pz_setR_ne {F : Int → Int} {a b v j : Int} (h : ¬ (a ≤ j ∧ j < b)) : pz_setR F a b v j = F j := if_neg h
theorem pz_setR_no {F : Int → Int} {a b v : Int} (h : b ≤ a) : pz_setR F a b v = F := by
  funext z; unfold pz_setR; rw [if_neg (by omega)]
theorem pz_rng_set {F : Int → Int} (h : pz_rng F) {k v : Int} (h1 : -1 ≤ v) (h2 : v < 1000000) : pz_rng (pz_setF F k v) := by
  intro z; unfold pz_setF; split
  · exact ⟨h1, h2⟩
  · exact h z
theorem pz_rng_setR {F : Int → Int} (h : pz_rng F) {a b v : Int} (h1 : -1 ≤ v) (h2 : v < 1000000) : pz_rng (pz_setR F a b v) := by
  intro z; unfold pz_setR; split
  · exact ⟨h1, h2⟩
  · exact h z
def pz_freeF (F : Int → Int) (k : Int) : Int → Int := fun z => if 290 ≤ z ∧ z < 452 ∧ F z = k then -1 else F z
theorem pz_rng_free {F : Int → Int} (h : pz_rng F) {k : Int} : pz_rng (pz_freeF F k) := by
  intro z; unfold pz_freeF; split
  · decide
  · exact h z
theorem pz_ar_free {F : Int → Int} {o : Int} {n : Nat} {k : Int} (h : o + n ≤ 290) : pz_ar (pz_freeF F k) o n = pz_ar F o n := pz_ar_congr (fun z h1 h2 => by unfold pz_freeF; rw [if_neg (by omega)])
theorem pz_read_a {F : Int → Int} {o : Int} {n : Nat} (hn : (n : Int) ≤ 1000000) {z : Int} (h0 : 0 ≤ z) (h1 : z < n) : s_X6_read n (pz_ar F o n) (iI z) = some (iI (F (o + z))) := pz_read_s (pz_ar_row F o n) (by omega) h0 h1
theorem pz_write_a {F : Int → Int} {o : Int} {n : Nat} (hn : (n : Int) ≤ 1000000) {z v : Int} (h0 : 0 ≤ z) (h1 : z < n) : s_X6_write n (pz_ar F o n) (iI z) (iI v) = some (pz_ar (pz_setF F (o + z) v) o n) := by
  unfold s_X6_write
  simp (disch := omega) only [pz_iI_add, pz_iI_sub, pz_iI_mul, pz_iI_div, pz_iI_0, pz_iI_lt, pz_iI_le, pz_iI_eq, pz_gd_iI, pz_nI_iI, pz_ar_upd]
  rw [if_neg (by omega), if_neg (by omega), if_pos (by omega)]
def pz_mixF (F H : Int → Int) (c : Int) : Int → Int := fun z => if z < c then F z else H z
theorem pz_mixF_step (F H : Int → Int) (c : Int) : pz_setF (pz_mixF F H c) c (F c) = pz_mixF F H (c + 1) := by
  funext z
  unfold pz_setF pz_mixF
  by_cases a : z = c
  · rw [if_pos a, if_pos (by omega), a]
  · rw [if_neg a]
    by_cases b : z < c
    · rw [if_pos b, if_pos (by omega)]
    · rw [if_neg b, if_neg (by omega)]
theorem pz_copyAll_L {F H : Int → Int} {o : Int} {N : Nat} (hN : (N : Int) ≤ 1000000) (n : Nat) : ∀ (c : Nat) (x : Int), 0 ≤ x → x + c = N → ∀ k, c < k → s_X6_copyAll_L2 n N (pz_ar F o N) N k (pz_ar (pz_mixF F H (o + x)) o N) (iI x) = some (pz_ar F o N) := by
  intro c
  induction c with
  | zero =>
    intro x hx hc k hk
    obtain ⟨k, rfl⟩ : ∃ z, k = z + 1 := ⟨k - 1, by omega⟩
    rw [s_X6_copyAll_L2]
    simp (disch := omega) only [pz_iI_add, pz_iI_sub, pz_iI_mul, pz_iI_div, pz_iI_0, pz_iI_lt, pz_iI_le, pz_iI_eq, pz_gd_iI, pz_nI_iI]
    rw [if_pos (by omega)]
    congr 1
    exact pz_ar_congr (fun z h1 h2 => if_pos (by omega))
  | succ c ih =>
    intro x hx hc k hk
    obtain ⟨k, rfl⟩ : ∃ z, k = z + 1 := ⟨k - 1, by omega⟩
    rw [s_X6_copyAll_L2, pz_read_a hN hx (by omega), Option.bind_some, pz_write_a hN hx (by omega), Option.bind_some, pz_mixF_step, pz_iI_add, Int.add_assoc, ih (x + 1) (by omega) (by omega) k (by omega)]
    simp (disch := omega) only [pz_iI_add, pz_iI_sub, pz_iI_mul, pz_iI_div, pz_iI_0, pz_iI_lt, pz_iI_le, pz_iI_eq, pz_gd_iI, pz_nI_iI]
    rw [if_neg (by omega)]
theorem pz_copyAll_a {F H : Int → Int} {o : Int} {N : Nat} (hN : (N : Int) ≤ 1000000) {n : Nat} (hn : N < n) : s_X6_copyAll n N (pz_ar F o N) N (pz_ar H o N) = some (pz_ar F o N) := by
  unfold s_X6_copyAll
  have h := pz_copyAll_L (F := F) (H := H) (o := o) hN n N 0 (by omega) (by omega) n hn
  rw [← h]
  congr 1
  exact pz_ar_congr (fun z h1 h2 => by unfold pz_mixF; rw [if_neg (by omega)])
def pz_tsF (F : Int → Int) : TS := (pz_ar F 290 162, pz_ar F 3 3, pz_ar F 10 280, iI (F 6), pz_ar F 0 3, iI (F 7), iI (F 8), iI (F 9))
theorem pz_takeOver_a (F H : Int → Int) {n : Nat} (hn : 3000 ≤ n) (a b c d : Int32) : s_X5_takeOver n a b c (pz_ar H 3 3) (pz_ar H 290 162) d (pz_ar H 10 280) (pz_ar H 0 3) (iI (F 7)) (iI (F 8)) (iI (F 9)) (pz_ar F 3 3) (pz_ar F 290 162) (iI (F 6)) (pz_ar F 10 280) (pz_ar F 0 3) = some (iI (F 7), iI (F 8), iI (F 9), pz_ar F 3 3, pz_ar F 290 162, iI (F 6), pz_ar F 10 280, pz_ar F 0 3) := by
  unfold s_X5_takeOver s_X0_takeOver s_X3_takeOver
  rw [pz_copyAll_a (by decide) (by omega), pz_copyAll_a (by decide) (by omega), pz_copyAll_a (by decide) (by omega), pz_copyAll_a (by decide) (by omega)]
  rfl
theorem pz_gd_T {z : Int} {n : Nat} (h : 0 ≤ z) (h2 : z < n) (h3 : (n : Int) ≤ 1000000) : (gd (iI z) n = true) = True := by
  rw [pz_gd_iI (by omega) (by omega)]; exact eq_true ⟨h, h2⟩
theorem pz_iI_lt_T {a b : Int} (h1 : -2147483648 ≤ a) (h4 : b < 2147483648) (h : a < b) : (iI a < iI b) = True := by rw [pz_iI_lt h1 (by omega) (by omega) h4]; exact eq_true h
theorem pz_iI_lt_F {a b : Int} (h2 : a < 2147483648) (h3 : -2147483648 ≤ b) (h : b ≤ a) : (iI a < iI b) = False := by rw [pz_iI_lt (by omega) h2 h3 (by omega)]; exact eq_false (by omega)
theorem pz_iI_le_T {a b : Int} (h1 : -2147483648 ≤ a) (h4 : b < 2147483648) (h : a ≤ b) : (iI a ≤ iI b) = True := by rw [pz_iI_le h1 (by omega) (by omega) h4]; exact eq_true h
theorem pz_iI_le_F {a b : Int} (h2 : a < 2147483648) (h3 : -2147483648 ≤ b) (h : b < a) : (iI a ≤ iI b) = False := by rw [pz_iI_le (by omega) h2 h3 (by omega)]; exact eq_false (by omega)
theorem pz_iI_eq_F {a b : Int} (h1 : -2147483648 ≤ a) (h2 : a < 2147483648) (h3 : -2147483648 ≤ b) (h4 : b < 2147483648) (h : a < b ∨ b < a) : (iI a = iI b) = False := by rw [pz_iI_eq h1 h2 h3 h4]; exact eq_false (by omega)
def pz_fld (F : Int → Int) (p c : Int) : Int := F (10 + (7 * p + c))
def pz_setP (F : Int → Int) (p c v : Int) : Int → Int := pz_setF F (10 + (7 * p + c)) v
def pz_mid (F : Int → Int) (p : Int) : Int := if pz_fld F p 6 = -1 then pz_fld F p 2 else pz_fld F p 6
theorem pz_at_a {F : Int → Int} {p c : Int} (h0 : 0 ≤ p) (h1 : p < 40) (h2 : 0 ≤ c) (h3 : c < 7) : s_X3_at (pz_ar F 10 280) (iI p) (iI c) = some (iI (pz_fld F p c)) := by
  unfold s_X3_at pz_fld
  simp (disch := omega) only [pz_iI_add, pz_iI_sub, pz_iI_mul, pz_iI_div, pz_iI_0, pz_nI_iI, pz_gd_T, pz_iI_lt_T, pz_iI_lt_F, pz_iI_le_T, pz_iI_le_F, pz_iI_eq_F, if_true, if_false, Option.bind_some, pz_ar_at, pz_ar_upd, pz_setF_at, pz_setF_ne, pz_setR_ne]
  rw [show p * 7 + c = 7 * p + c by omega]
theorem pz_put_a {F : Int → Int} {p c v : Int} (h0 : 0 ≤ p) (h1 : p < 40) (h2 : 0 ≤ c) (h3 : c < 7) : s_X3_put (pz_ar F 10 280) (iI p) (iI c) (iI v) = some (pz_ar (pz_setP F p c v) 10 280) := by
  unfold s_X3_put pz_setP
  rw [pz_iI_mul, pz_iI_add, pz_write_a (by decide) (by omega) (by omega), show p * 7 + c = 7 * p + c by omega]
  rfl
theorem pz_middle_a {F : Int → Int} (hr : pz_rng F) {p : Int} (h0 : 0 ≤ p) (h1 : p < 40) : s_X3_middle (pz_ar F 10 280) (iI p) = some (iI (pz_mid F p)) := by
  have r : -1 ≤ pz_fld F p 6 ∧ pz_fld F p 6 < 1000000 := hr (10 + (7 * p + 6))
  unfold s_X3_middle pz_mid
  rw [pz_at_a h0 h1 (by omega) (by omega), pz_at_a h0 h1 (by omega) (by omega)]
  simp (disch := omega) only [pz_iI_add, pz_iI_sub, pz_iI_mul, pz_iI_div, pz_iI_0, pz_iI_lt, pz_iI_le, pz_iI_eq, pz_gd_iI, pz_nI_iI, if_true, if_false, Option.bind_some, ite_self, reduceCtorEq]
  split <;> rfl
theorem pz_setR_step {F : Int → Int} {a c v : Int} (h : a ≤ c) : pz_setF (pz_setR F a c v) c v = pz_setR F a (c + 1) v := by
  funext z
  unfold pz_setF pz_setR
  by_cases e : z = c
  · rw [if_pos e, if_pos (by omega)]
  · rw [if_neg e]
    by_cases d : a ≤ z ∧ z < c
    · rw [if_pos d, if_pos (by omega)]
    · rw [if_neg d, if_neg (by omega)]
theorem pz_give_L {F : Int → Int} (n : Nat) {b f t v : Int} (hb : 0 ≤ b) (hb2 : b < 18) (hf : 0 ≤ f) (ht : t ≤ 9) : ∀ (c : Nat) (x : Int), f ≤ x → x + c = t → ∀ k, c < k → s_X0_give_L3 n (iI b) (iI t) (iI v) k (pz_ar (pz_setR F (290 + (9 * b + f)) (290 + (9 * b + x)) v) 290 162) (iI x) = some (pz_ar (pz_setR F (290 + (9 * b + f)) (290 + (9 * b + t)) v) 290 162) := by
  intro c
  induction c with
  | zero =>
    intro x hx hc k hk
    obtain ⟨k, rfl⟩ : ∃ z, k = z + 1 := ⟨k - 1, by omega⟩
    rw [s_X0_give_L3]
    simp (disch := omega) only [pz_iI_add, pz_iI_sub, pz_iI_mul, pz_iI_div, pz_iI_0, pz_nI_iI, pz_gd_T, pz_iI_lt_T, pz_iI_lt_F, pz_iI_le_T, pz_iI_le_F, pz_iI_eq_F, if_true, if_false, Option.bind_some, pz_ar_at, pz_ar_upd, pz_setF_at, pz_setF_ne, pz_setR_ne]
    rw [show x = t by omega]
  | succ c ih =>
    intro x hx hc k hk
    obtain ⟨k, rfl⟩ : ∃ z, k = z + 1 := ⟨k - 1, by omega⟩
    have go := ih (x + 1) (by omega) (by omega) k (by omega)
    rw [s_X0_give_L3, pz_iI_mul, pz_iI_add, pz_write_a (by decide) (by omega) (by omega), Option.bind_some, show 290 + (b * 9 + x) = 290 + (9 * b + x) by omega, pz_setR_step (by omega), show 290 + (9 * b + x) + 1 = 290 + (9 * b + (x + 1)) by omega, pz_iI_add, go]
    simp (disch := omega) only [pz_iI_add, pz_iI_sub, pz_iI_mul, pz_iI_div, pz_iI_0, pz_nI_iI, pz_gd_T, pz_iI_lt_T, pz_iI_lt_F, pz_iI_le_T, pz_iI_le_F, pz_iI_eq_F, if_true, if_false, Option.bind_some, pz_ar_at, pz_ar_upd, pz_setF_at, pz_setF_ne, pz_setR_ne]
theorem pz_give_a {F : Int → Int} {n : Nat} (hn : 3000 ≤ n) {b f t v : Int} (hb : 0 ≤ b) (hb2 : b < 18) (hf : 0 ≤ f) (hft : f ≤ t) (ht : t ≤ 9) : s_X0_give n (pz_ar F 290 162) (iI b) (iI f) (iI t) (iI v) = some (pz_ar (pz_setR F (290 + (9 * b + f)) (290 + (9 * b + t)) v) 290 162) := by
  unfold s_X0_give
  have h := pz_give_L (F := F) (v := v) n hb hb2 hf ht (t - f).toNat f (by omega) (by omega) n (by omega)
  rw [pz_setR_no (by omega)] at h
  exact h
def pz_wayF (F : Int → Int) (p h : Int) : Int → Int := pz_setR (pz_setR F (290 + (9 * pz_fld F p 4 + pz_fld F p 1)) (290 + (9 * pz_fld F p 4 + pz_mid F p)) h) (290 + (9 * pz_fld F p 5 + pz_mid F p)) (290 + (9 * pz_fld F p 5 + pz_fld F p 2)) h
def pz_okw (F : Int → Int) (p : Int) : Prop := 0 ≤ pz_fld F p 1 ∧ pz_fld F p 1 < pz_fld F p 2 ∧ pz_fld F p 2 ≤ 9 ∧ 0 ≤ pz_fld F p 4 ∧ pz_fld F p 4 < 18 ∧ 0 ≤ pz_fld F p 5 ∧ pz_fld F p 5 < 18 ∧ ((pz_fld F p 6 = -1 ∧ pz_fld F p 5 = pz_fld F p 4) ∨ (pz_fld F p 1 < pz_fld F p 6 ∧ pz_fld F p 6 < pz_fld F p 2))
theorem pz_okw_mid {F : Int → Int} {p : Int} (h : pz_okw F p) : pz_fld F p 1 < pz_mid F p ∧ pz_mid F p ≤ pz_fld F p 2 := by
  unfold pz_okw at h; unfold pz_mid; split <;> omega
theorem pz_giveBerths_a {F : Int → Int} (hr : pz_rng F) {n : Nat} (hn : 3000 ≤ n) {p v : Int} (h0 : 0 ≤ p) (h1 : p < 40) (ok : pz_okw F p) : s_X5_giveBerths n (pz_ar F 290 162) (pz_ar F 10 280) (iI p) (iI v) = some (pz_ar (pz_wayF F p v) 290 162) := by
  have m := pz_okw_mid ok
  unfold pz_okw at ok
  unfold s_X5_giveBerths pz_wayF
  rw [pz_middle_a hr h0 h1, pz_at_a h0 h1 (by omega) (by omega), pz_at_a h0 h1 (by omega) (by omega), pz_at_a h0 h1 (by omega) (by omega), pz_at_a h0 h1 (by omega) (by omega)]
  simp only [Option.bind_some]
  rw [pz_give_a hn (by omega) (by omega) (by omega) (by omega) (by omega), Option.bind_some, pz_give_a hn (by omega) (by omega) (by omega) (by omega) (by omega)]
  rfl
theorem pz_ar_way {F : Int → Int} {o : Int} {n : Nat} (h : o + n ≤ 290) {p v : Int} (ok : pz_okw F p) : pz_ar (pz_wayF F p v) o n = pz_ar F o n := by
  have m := pz_okw_mid ok
  unfold pz_okw at ok
  unfold pz_wayF
  rw [pz_ar_outR (by omega), pz_ar_outR (by omega)]
theorem pz_rng_way {F : Int → Int} (h : pz_rng F) {p v : Int} (h1 : -1 ≤ v) (h2 : v < 1000000) : pz_rng (pz_wayF F p v) := pz_rng_setR (pz_rng_setR h h1 h2) h1 h2
theorem pz_of_a {F : Int → Int} {p c : Int} (h0 : 0 ≤ p) (h1 : p < 40) (h2 : 0 ≤ c) (h3 : c < 7) : s_X7_of (pz_ar F 0 452) (iI p) (iI c) = some (iI (pz_fld F p c)) := by
  unfold s_X7_of pz_fld
  simp (disch := omega) only [pz_iI_add, pz_iI_sub, pz_iI_mul, pz_iI_div, pz_iI_0, pz_nI_iI, pz_gd_T, pz_iI_lt_T, pz_iI_lt_F, pz_iI_le_T, pz_iI_le_F, pz_iI_eq_F, if_true, if_false, Option.bind_some, pz_ar_at, pz_ar_upd, pz_setF_at, pz_setF_ne, pz_setR_ne]
  rw [show 0 + (10 + 7 * p + c) = 10 + (7 * p + c) by omega]
theorem pz_has_L {F : Int → Int} (n : Nat) {b f t v : Int} (hb : 0 ≤ b) (hb2 : b < 18) (hf : 0 ≤ f) (ht : t ≤ 9) : ∀ (c : Nat) (x : Int), f ≤ x → x + c = t → ∀ k, c < k → s_X7_has_L3 n (iI v) (iI b) (iI t) k (pz_ar (pz_setR F (290 + (9 * b + f)) (290 + (9 * b + x)) v) 0 452) (iI x) = some (pz_ar (pz_setR F (290 + (9 * b + f)) (290 + (9 * b + t)) v) 0 452) := by
  intro c
  induction c with
  | zero =>
    intro x hx hc k hk
    obtain ⟨k, rfl⟩ : ∃ z, k = z + 1 := ⟨k - 1, by omega⟩
    rw [s_X7_has_L3]
    simp (disch := omega) only [pz_iI_add, pz_iI_sub, pz_iI_mul, pz_iI_div, pz_iI_0, pz_nI_iI, pz_gd_T, pz_iI_lt_T, pz_iI_lt_F, pz_iI_le_T, pz_iI_le_F, pz_iI_eq_F, if_true, if_false, Option.bind_some, pz_ar_at, pz_ar_upd, pz_setF_at, pz_setF_ne, pz_setR_ne]
    rw [show x = t by omega]
  | succ c ih =>
    intro x hx hc k hk
    obtain ⟨k, rfl⟩ : ∃ z, k = z + 1 := ⟨k - 1, by omega⟩
    have go := ih (x + 1) (by omega) (by omega) k (by omega)
    rw [s_X7_has_L3]
    simp (disch := omega) only [pz_iI_add, pz_iI_sub, pz_iI_mul, pz_iI_div, pz_iI_0, pz_nI_iI, pz_gd_T, pz_iI_lt_T, pz_iI_lt_F, pz_iI_le_T, pz_iI_le_F, pz_iI_eq_F, if_true, if_false, Option.bind_some, pz_ar_at, pz_ar_upd, pz_setF_at, pz_setF_ne, pz_setR_ne]
    rw [show 0 + (290 + 9 * b + x) = 290 + (9 * b + x) by omega, pz_setR_step (by omega), show 290 + (9 * b + x) + 1 = 290 + (9 * b + (x + 1)) by omega, go]
theorem pz_has_a {F : Int → Int} {n : Nat} (hn : 3000 ≤ n) {b f t v : Int} (hb : 0 ≤ b) (hb2 : b < 18) (hf : 0 ≤ f) (hft : f ≤ t) (ht : t ≤ 9) : s_X7_has n (pz_ar F 0 452) (iI v) (iI b) (iI f) (iI t) = some (pz_ar (pz_setR F (290 + (9 * b + f)) (290 + (9 * b + t)) v) 0 452) := by
  unfold s_X7_has
  have h := pz_has_L (F := F) (v := v) n hb hb2 hf ht (t - f).toNat f (by omega) (by omega) n (by omega)
  rw [pz_setR_no (by omega)] at h
  exact h
def pz_frc (F : Int → Int) (k c : Int) : Int → Int := fun z => if 290 ≤ z ∧ z < 290 + c ∧ F z = k then -1 else F z
theorem pz_frees_L {F : Int → Int} (hr : pz_rng F) (n : Nat) {v : Int} (h1 : -2147483648 ≤ v) (h2 : v < 2147483648) : ∀ (c : Nat) (x : Int), 0 ≤ x → x + c = 162 → ∀ k, c < k → s_X7_frees_L2 n (iI v) k (pz_ar (pz_frc F v x) 0 452) (iI x) = some (pz_ar (pz_freeF F v) 0 452) := by
  intro c
  induction c with
  | zero =>
    intro x hx hc k hk
    obtain ⟨k, rfl⟩ : ∃ z, k = z + 1 := ⟨k - 1, by omega⟩
    rw [s_X7_frees_L2]
    simp (disch := omega) only [pz_iI_add, pz_iI_sub, pz_iI_mul, pz_iI_div, pz_iI_0, pz_nI_iI, pz_gd_T, pz_iI_lt_T, pz_iI_lt_F, pz_iI_le_T, pz_iI_le_F, pz_iI_eq_F, if_true, if_false, Option.bind_some, pz_ar_at, pz_ar_upd, pz_setF_at, pz_setF_ne, pz_setR_ne]
    obtain rfl : x = 162 := by omega
    rfl
  | succ c ih =>
    intro x hx hc k hk
    obtain ⟨k, rfl⟩ : ∃ z, k = z + 1 := ⟨k - 1, by omega⟩
    have go := ih (x + 1) (by omega) (by omega) k (by omega)
    have r := hr (290 + x)
    have e : pz_frc F v x (290 + x) = F (290 + x) := by unfold pz_frc; rw [if_neg (by omega)]
    rw [s_X7_frees_L2]
    simp (disch := omega) only [pz_iI_add, pz_iI_sub, pz_iI_mul, pz_iI_div, pz_iI_0, pz_nI_iI, pz_gd_T, pz_iI_lt_T, pz_iI_lt_F, pz_iI_le_T, pz_iI_le_F, pz_iI_eq_F, if_true, if_false, Option.bind_some, pz_ar_at, pz_ar_upd, pz_setF_at, pz_setF_ne, pz_setR_ne, Int.zero_add, e]
    simp (disch := omega) only [pz_iI_add, pz_iI_sub, pz_iI_mul, pz_iI_div, pz_iI_0, pz_iI_lt, pz_iI_le, pz_iI_eq, pz_gd_iI, pz_nI_iI, if_true, if_false, Option.bind_some, ite_self, reduceCtorEq]
    by_cases d : F (290 + x) = v
    · rw [if_pos d, ← go]
      congr 2
      funext z
      unfold pz_setF pz_frc
      by_cases g : z = 290 + x
      · rw [if_pos g, if_pos (by rw [g]; omega)]
      · rw [if_neg g]
        by_cases g2 : 290 ≤ z ∧ z < 290 + x ∧ F z = v
        · rw [if_pos g2, if_pos (by omega)]
        · rw [if_neg g2, if_neg (by omega)]
    · rw [if_neg d, ← go]
      congr 2
      funext z
      unfold pz_setF pz_frc
      by_cases g : z = 290 + x
      · rw [if_pos g, if_neg (by rw [g]; omega), g]
      · rw [if_neg g]
        by_cases g2 : 290 ≤ z ∧ z < 290 + x ∧ F z = v
        · rw [if_pos g2, if_pos (by omega)]
        · rw [if_neg g2, if_neg (by omega)]
theorem pz_frees_a {F : Int → Int} (hr : pz_rng F) {n : Nat} (hn : 3000 ≤ n) {v : Int} (h1 : -2147483648 ≤ v) (h2 : v < 2147483648) : s_X7_frees n (pz_ar F 0 452) (iI v) = some (pz_ar (pz_freeF F v) 0 452) := by
  unfold s_X7_frees
  have h := pz_frees_L hr n h1 h2 162 0 (by omega) (by omega) n (by omega)
  rw [← h]
  congr 2
  funext z
  unfold pz_frc
  rw [if_neg (by omega)]
def pz_setB (F : Int → Int) (p a b c : Int) : Int → Int := pz_setP (pz_setP (pz_setP F p 4 a) p 5 b) p 6 c
theorem pz_setB_4 (F : Int → Int) (p a b c : Int) : pz_fld (pz_setB F p a b c) p 4 = a := by unfold pz_fld pz_setB pz_setP; simp (disch := omega) only [pz_setF_at, pz_setF_ne]
theorem pz_setB_5 (F : Int → Int) (p a b c : Int) : pz_fld (pz_setB F p a b c) p 5 = b := by unfold pz_fld pz_setB pz_setP; simp (disch := omega) only [pz_setF_at, pz_setF_ne]
theorem pz_setB_6 (F : Int → Int) (p a b c : Int) : pz_fld (pz_setB F p a b c) p 6 = c := by unfold pz_fld pz_setB pz_setP; simp (disch := omega) only [pz_setF_at, pz_setF_ne]
theorem pz_setB_lo (F : Int → Int) (p a b c : Int) {q d : Int} (h : d < 4) (h0 : 0 ≤ d) (hq : 0 ≤ q) (hp : 0 ≤ p) : pz_fld (pz_setB F p a b c) q d = pz_fld F q d := by unfold pz_fld pz_setB pz_setP; simp (disch := omega) only [pz_setF_ne]
theorem pz_setB_ne (F : Int → Int) (p a b c : Int) {q d : Int} (h : d < 7) (h0 : 0 ≤ d) (hq : ¬ q = p) : pz_fld (pz_setB F p a b c) q d = pz_fld F q d := by unfold pz_fld pz_setB pz_setP; simp (disch := omega) only [pz_setF_ne]
theorem pz_setB_out (F : Int → Int) (p a b c : Int) (hp : 0 ≤ p) (hp2 : p < 40) {z : Int} (h : z < 10 ∨ 290 ≤ z) : pz_setB F p a b c z = F z := by unfold pz_setB pz_setP; simp (disch := omega) only [pz_setF_ne]
theorem pz_rng_setB {F : Int → Int} (h : pz_rng F) (p : Int) {a b c : Int} (ha : -1 ≤ a ∧ a < 1000000) (hb : -1 ≤ b ∧ b < 1000000) (hc : -1 ≤ c ∧ c < 1000000) : pz_rng (pz_setB F p a b c) := pz_rng_set (pz_rng_set (pz_rng_set h ha.1 ha.2) hb.1 hb.2) hc.1 hc.2
theorem pz_ar_setB {F : Int → Int} {p a b c : Int} (hp : 0 ≤ p) (hp2 : p < 40) {o : Int} {n : Nat} (h : o + n ≤ 10 ∨ 290 ≤ o) : pz_ar (pz_setB F p a b c) o n = pz_ar F o n := pz_ar_congr (fun z h1 h2 => pz_setB_out F p a b c hp hp2 (by omega))
def pz_layF (F : Int → Int) (p a b c : Int) : Int → Int := pz_setF (pz_wayF (pz_setB F p a b c) p (pz_fld F p 0)) 8 (F 8 + 1)
theorem pz_lays_a {F : Int → Int} (hr : pz_rng F) {n : Nat} (hn : 3000 ≤ n) {p a b c : Int} (h0 : 0 ≤ p) (h1 : p < 40) (ok : pz_okw (pz_setB F p a b c) p) : s_X7_lays n (iI a) (iI b) (iI c) (pz_ar F 0 452) (iI p) = some (pz_ar (pz_layF F p a b c) 0 452) := by
  have m := pz_okw_mid ok
  have ok2 := ok
  unfold pz_okw at ok
  have e1 : pz_fld (pz_setB F p a b c) p 1 = F (10 + (7 * p + 1)) := pz_setB_lo F p a b c (by omega) (by omega) h0 h0
  have e2 : pz_fld (pz_setB F p a b c) p 2 = F (10 + (7 * p + 2)) := pz_setB_lo F p a b c (by omega) (by omega) h0 h0
  have e0 : pz_fld F p 0 = F (10 + (7 * p + 0)) := rfl
  have e8 : pz_setB F p a b c 8 = F 8 := pz_setB_out F p a b c h0 h1 (by omega)
  have e4 := pz_setB_4 F p a b c
  have e5 := pz_setB_5 F p a b c
  have e6 := pz_setB_6 F p a b c
  have f0 : pz_setB F p a b c (10 + 7 * p) = F (10 + 7 * p) := by unfold pz_setB pz_setP; simp (disch := omega) only [pz_setF_ne]
  have f1 : pz_setB F p a b c (10 + (7 * p + 1)) = F (10 + (7 * p + 1)) := by unfold pz_setB pz_setP; simp (disch := omega) only [pz_setF_ne]
  have f2 : pz_setB F p a b c (10 + (7 * p + 2)) = F (10 + (7 * p + 2)) := by unfold pz_setB pz_setP; simp (disch := omega) only [pz_setF_ne]
  unfold pz_layF pz_wayF
  rw [e1, e2, e4, e5, e6] at ok
  rw [e1, e2] at m
  rw [e1, e2, e4, e5, e0]
  have hS : pz_setF (pz_setF (pz_setF F (10 + (7 * p + 4)) a) (10 + (7 * p + 5)) b) (10 + (7 * p + 6)) c = pz_setB F p a b c := rfl
  have hm : pz_mid (pz_setB F p a b c) p = if c = -1 then F (10 + (7 * p + 2)) else c := by unfold pz_mid; rw [e2, e6]
  rw [hm] at m ⊢
  unfold s_X7_lays
  rw [show 7 * p + 0 = 7 * p by omega]
  by_cases d : c = -1
  · rw [if_pos d] at m ⊢
    simp (disch := omega) only [pz_iI_add, pz_iI_sub, pz_iI_mul, pz_iI_div, pz_iI_0, pz_nI_iI, pz_gd_T, pz_iI_lt_T, pz_iI_lt_F, pz_iI_le_T, pz_iI_le_F, pz_iI_eq_F, if_true, if_false, Option.bind_some, pz_ar_at, pz_ar_upd, pz_setF_at, pz_setF_ne, pz_setR_ne, Int.zero_add, Int.add_assoc, hS, show (iI c = iI (-1)) = True from by rw [d]; exact eq_true rfl, pz_has_a, f0, f1, f2, e8]
  · rw [if_neg d] at m ⊢
    simp (disch := omega) only [pz_iI_add, pz_iI_sub, pz_iI_mul, pz_iI_div, pz_iI_0, pz_nI_iI, pz_gd_T, pz_iI_lt_T, pz_iI_lt_F, pz_iI_le_T, pz_iI_le_F, pz_iI_eq_F, if_true, if_false, Option.bind_some, pz_ar_at, pz_ar_upd, pz_setF_at, pz_setF_ne, pz_setR_ne, Int.zero_add, Int.add_assoc, hS, pz_has_a, f0, f1, f2, e8]
def pz_newF (F : Int → Int) (f t th : Int) : Int → Int := pz_setP (pz_setP (pz_setP (pz_setP F (F 6) 0 (F 7)) (F 6) 1 f) (F 6) 2 t) (F 6) 3 th
def pz_admitF (F : Int → Int) (f t th a b c : Int) : Int → Int := pz_setF (pz_setF (pz_layF (pz_newF F f t th) (F 6) a b c) 6 (F 6 + 1)) 7 (F 7 + 1)
def pz_okO (f t a b c : Int) : Prop := 0 ≤ a ∧ a < 18 ∧ 0 ≤ b ∧ b < 18 ∧ ((c = -1 ∧ b = a) ∨ (f < c ∧ c < t))
def pz_okWay (f t : Int) : Prop := 0 ≤ f ∧ f < t ∧ t ≤ 9
theorem pz_newF_0 (F : Int → Int) (f t th : Int) : pz_fld (pz_newF F f t th) (F 6) 0 = F 7 := by unfold pz_fld pz_newF pz_setP; simp (disch := omega) only [pz_setF_at, pz_setF_ne]
theorem pz_newF_1 (F : Int → Int) (f t th : Int) : pz_fld (pz_newF F f t th) (F 6) 1 = f := by unfold pz_fld pz_newF pz_setP; simp (disch := omega) only [pz_setF_at, pz_setF_ne]
theorem pz_newF_2 (F : Int → Int) (f t th : Int) : pz_fld (pz_newF F f t th) (F 6) 2 = t := by unfold pz_fld pz_newF pz_setP; simp (disch := omega) only [pz_setF_at, pz_setF_ne]
theorem pz_newF_3 (F : Int → Int) (f t th : Int) : pz_fld (pz_newF F f t th) (F 6) 3 = th := by unfold pz_fld pz_newF pz_setP; simp (disch := omega) only [pz_setF_at, pz_setF_ne]
theorem pz_newF_ne (F : Int → Int) (f t th : Int) {q d : Int} (h : d < 7) (h0 : 0 ≤ d) (hq : ¬ q = F 6) : pz_fld (pz_newF F f t th) q d = pz_fld F q d := by unfold pz_fld pz_newF pz_setP; simp (disch := omega) only [pz_setF_ne]
theorem pz_newF_out (F : Int → Int) (f t th : Int) (hp : 0 ≤ F 6) (hp2 : F 6 < 40) {z : Int} (h : z < 10 ∨ 290 ≤ z) : pz_newF F f t th z = F z := by unfold pz_newF pz_setP; simp (disch := omega) only [pz_setF_ne]
theorem pz_rng_newF {F : Int → Int} (h : pz_rng F) {f t th : Int} (h1 : -1 ≤ f ∧ f < 1000000) (h2 : -1 ≤ t ∧ t < 1000000) (h3 : -1 ≤ th ∧ th < 1000000) : pz_rng (pz_newF F f t th) := pz_rng_set (pz_rng_set (pz_rng_set (pz_rng_set h (h 7).1 (h 7).2) h1.1 h1.2) h2.1 h2.2) h3.1 h3.2
theorem pz_ar_newF {F : Int → Int} {f t th : Int} (hp : 0 ≤ F 6) (hp2 : F 6 < 40) {o : Int} {n : Nat} (h : o + n ≤ 10 ∨ 290 ≤ o) : pz_ar (pz_newF F f t th) o n = pz_ar F o n := pz_ar_congr (fun z h1 h2 => pz_newF_out F f t th hp hp2 (by omega))
theorem pz_okw_new {F : Int → Int} {f t th a b c : Int} (hp : 0 ≤ F 6) (hw : pz_okWay f t) (ho : pz_okO f t a b c) : pz_okw (pz_setB (pz_newF F f t th) (F 6) a b c) (F 6) := by
  unfold pz_okWay at hw; unfold pz_okO at ho
  unfold pz_okw
  rw [pz_setB_4, pz_setB_5, pz_setB_6, pz_setB_lo _ _ _ _ _ (by omega) (by omega) hp hp, pz_setB_lo _ _ _ _ _ (by omega) (by omega) hp hp, pz_newF_1, pz_newF_2]
  omega
theorem pz_okO_rg {f t a b c : Int} (hw : pz_okWay f t) (ho : pz_okO f t a b c) : (-1 ≤ a ∧ a < 1000000) ∧ (-1 ≤ b ∧ b < 1000000) ∧ (-1 ≤ c ∧ c < 1000000) := by
  unfold pz_okWay at hw; unfold pz_okO at ho; omega
theorem pz_rng_admitF {F : Int → Int} (h : pz_rng F) {f t th a b c : Int} (hp : 0 ≤ F 6) (hp2 : F 6 < 40) (h7 : F 7 < 999999) (h8 : F 8 < 999999) (hw : pz_okWay f t) (ht : 0 ≤ th ∧ th ≤ 1) (ho : pz_okO f t a b c) : pz_rng (pz_admitF F f t th a b c) := by
  have q := pz_okO_rg hw ho
  have r7 := h 7
  have r8 := h 8
  unfold pz_okWay at hw
  have r := pz_rng_newF h (f := f) (t := t) (th := th) (by omega) (by omega) (by omega)
  unfold pz_admitF pz_layF
  rw [pz_newF_out F f t th hp hp2 (by omega)]
  refine pz_rng_set (pz_rng_set (pz_rng_set (pz_rng_way (pz_rng_setB r (F 6) q.1 q.2.1 q.2.2) ?_ ?_) ?_ ?_) ?_ ?_) ?_ ?_
  · rw [pz_newF_0]; omega
  · rw [pz_newF_0]; omega
  all_goals omega
def pz_thI (x : Int32) : Int := if x = 0 then 0 else 1
theorem pz_thI_0 {x : Int32} (h : x = 0) : pz_thI x = 0 := if_pos h
theorem pz_thI_1 {x : Int32} (h : ¬ x = 0) : pz_thI x = 1 := if_neg h
theorem pz_thI_rg (x : Int32) : 0 ≤ pz_thI x ∧ pz_thI x ≤ 1 := by unfold pz_thI; split <;> omega
theorem pz_comes_a {F : Int → Int} (hr : pz_rng F) {n : Nat} (hn : 3000 ≤ n) {f t a b c : Int} (hp : 0 ≤ F 6) (hp2 : F 6 < 40) (hw : pz_okWay f t) (ho : pz_okO f t a b c) (pz_thr : Int32) : s_X7_comes n (iI a) (iI b) (iI c) (pz_ar F 0 452) (iI f) (iI t) pz_thr = some (iI (F 7), pz_ar (pz_admitF F f t (pz_thI pz_thr) a b c) 0 452) := by
  have q := pz_okO_rg hw ho
  have hw2 := hw
  unfold pz_okWay at hw2
  have key : ∀ th : Int, 0 ≤ th → th ≤ 1 → s_X7_lays n (iI a) (iI b) (iI c) (pz_ar (pz_newF F f t th) 0 452) (iI (F 6)) = some (pz_ar (pz_layF (pz_newF F f t th) (F 6) a b c) 0 452) := fun th h1 h2 => pz_lays_a (pz_rng_newF hr (by omega) (by omega) (by omega)) hn hp hp2 (pz_okw_new hp hw ho)
  have e : ∀ th : Int, pz_setF (pz_setF (pz_setF (pz_setF F (10 + 7 * F 6) (F 7)) (10 + (7 * F 6 + 1)) f) (10 + (7 * F 6 + 2)) t) (10 + (7 * F 6 + 3)) th = pz_newF F f t th := fun th => by
    unfold pz_newF pz_setP; rw [show 7 * F 6 + 0 = 7 * F 6 by omega]
  have e6 : ∀ th : Int, pz_layF (pz_newF F f t th) (F 6) a b c 6 = F 6 := fun th => by
    have o := pz_okw_new (F := F) (th := th) hp hw ho
    have m := pz_okw_mid o
    unfold pz_okw at o
    unfold pz_layF pz_wayF
    simp (disch := omega) only [pz_setF_ne, pz_setR_ne, pz_setB_out, pz_newF_out]
  have e7 : ∀ th : Int, pz_layF (pz_newF F f t th) (F 6) a b c 7 = F 7 := fun th => by
    have o := pz_okw_new (F := F) (th := th) hp hw ho
    have m := pz_okw_mid o
    unfold pz_okw at o
    unfold pz_layF pz_wayF
    simp (disch := omega) only [pz_setF_ne, pz_setR_ne, pz_setB_out, pz_newF_out]
  have n6 : ∀ th : Int, pz_newF F f t th 6 = F 6 := fun th => pz_newF_out F f t th hp hp2 (by omega)
  unfold s_X7_comes pz_admitF
  by_cases d : pz_thr = 0
  · rw [if_pos d, pz_thI_0 d]
    simp (disch := omega) only [pz_iI_add, pz_iI_sub, pz_iI_mul, pz_iI_div, pz_iI_0, pz_nI_iI, pz_gd_T, pz_iI_lt_T, pz_iI_lt_F, pz_iI_le_T, pz_iI_le_F, pz_iI_eq_F, if_true, if_false, Option.bind_some, pz_ar_at, pz_ar_upd, pz_setF_at, pz_setF_ne, pz_setR_ne, Int.zero_add, Int.add_assoc, e, key, e6, e7, n6, Int.add_sub_cancel]
  · rw [if_neg d, pz_thI_1 d]
    simp (disch := omega) only [pz_iI_add, pz_iI_sub, pz_iI_mul, pz_iI_div, pz_iI_0, pz_nI_iI, pz_gd_T, pz_iI_lt_T, pz_iI_lt_F, pz_iI_le_T, pz_iI_le_F, pz_iI_eq_F, if_true, if_false, Option.bind_some, pz_ar_at, pz_ar_upd, pz_setF_at, pz_setF_ne, pz_setR_ne, Int.zero_add, Int.add_assoc, e, key, e6, e7, n6, Int.add_sub_cancel]

theorem pz_putBerths_a {F : Int → Int} {p a b c : Int} (h0 : 0 ≤ p) (h1 : p < 40) : s_X3_putBerths (pz_ar F 10 280) (iI a) (iI b) (iI c) (iI p) = some (pz_ar (pz_setB F p a b c) 10 280) := by
  unfold s_X3_putBerths
  rw [pz_put_a h0 h1 (by omega) (by omega), Option.bind_some, pz_put_a h0 h1 (by omega) (by omega), Option.bind_some, pz_put_a h0 h1 (by omega) (by omega)]
  rfl
theorem pz_addRow_a {F : Int → Int} {f t : Int} (hp : 0 ≤ F 6) (hp2 : F 6 < 40) (pz_thr : Int32) : s_X3_addRow (iI (F 6)) (pz_ar F 10 280) (iI (F 7)) (iI f) (iI t) pz_thr = some (iI (F 6), iI (F 6 + 1), pz_ar (pz_newF F f t (pz_thI pz_thr)) 10 280) := by
  unfold s_X3_addRow
  rw [pz_put_a hp hp2 (by omega) (by omega), Option.bind_some, pz_put_a hp hp2 (by omega) (by omega), Option.bind_some, pz_put_a hp hp2 (by omega) (by omega), Option.bind_some]
  by_cases d : pz_thr = 0
  · rw [if_pos d, pz_thI_0 d, pz_put_a hp hp2 (by omega) (by omega), pz_iI_add]; rfl
  · rw [if_neg d, pz_thI_1 d, pz_put_a hp hp2 (by omega) (by omega), pz_iI_add]; rfl
theorem pz_admitF_lo (F : Int → Int) {f t th a b c : Int} (hp : 0 ≤ F 6) (hp2 : F 6 < 40) (hw : pz_okWay f t) (ho : pz_okO f t a b c) {z : Int} (h : z < 10) : pz_admitF F f t th a b c z = if z = 6 then F 6 + 1 else if z = 7 then F 7 + 1 else if z = 8 then F 8 + 1 else F z := by
  have o := pz_okw_new (F := F) (th := th) hp hw ho
  have m := pz_okw_mid o
  unfold pz_okw at o
  unfold pz_admitF pz_layF pz_wayF
  by_cases h6 : z = 6
  · rw [if_pos h6, h6]; simp (disch := omega) only [pz_setF_at, pz_setF_ne]
  · rw [if_neg h6]
    by_cases h7 : z = 7
    · rw [if_pos h7, h7]; simp (disch := omega) only [pz_setF_at, pz_setF_ne]
    · rw [if_neg h7]
      by_cases h8 : z = 8
      · rw [if_pos h8, h8]; simp (disch := omega) only [pz_setF_at, pz_setF_ne, pz_newF_out]
      · rw [if_neg h8]; simp (disch := omega) only [pz_setF_ne, pz_setR_ne, pz_setB_out, pz_newF_out]
theorem pz_admit_a {F : Int → Int} (hr : pz_rng F) {n : Nat} (hn : 3000 ≤ n) {f t a b c : Int} (hp : 0 ≤ F 6) (hp2 : F 6 < 40) (hw : pz_okWay f t) (ho : pz_okO f t a b c) (pz_thr : Int32) : s_X5_admit n (iI (F 7)) (iI (F 8)) (pz_ar F 290 162) (iI (F 6)) (pz_ar F 10 280) (iI a) (iI b) (iI c) (iI f) (iI t) pz_thr = some (iI (F 7), iI (F 7 + 1), iI (F 8 + 1), pz_ar (pz_admitF F f t (pz_thI pz_thr) a b c) 290 162, iI (F 6 + 1), pz_ar (pz_admitF F f t (pz_thI pz_thr) a b c) 10 280) := by
  have q := pz_okO_rg hw ho
  have hw2 := hw
  unfold pz_okWay at hw2
  have h3 := pz_thI_rg pz_thr
  have r := pz_rng_newF hr (f := f) (t := t) (th := pz_thI pz_thr) (by omega) (by omega) (by omega)
  have o := pz_okw_new (F := F) (th := pz_thI pz_thr) hp hw ho
  have m := pz_okw_mid o
  have o2 := o
  unfold pz_okw at o2
  have e1 : pz_ar (pz_admitF F f t (pz_thI pz_thr) a b c) 290 162 = pz_ar (pz_wayF (pz_setB (pz_newF F f t (pz_thI pz_thr)) (F 6) a b c) (F 6) (F 7)) 290 162 := by
    unfold pz_admitF pz_layF
    rw [pz_newF_0, pz_ar_out (by omega), pz_ar_out (by omega), pz_ar_out (by omega)]
  have e2 : pz_ar (pz_admitF F f t (pz_thI pz_thr) a b c) 10 280 = pz_ar (pz_setB (pz_newF F f t (pz_thI pz_thr)) (F 6) a b c) 10 280 := by
    unfold pz_admitF pz_layF
    rw [pz_ar_out (by omega), pz_ar_out (by omega), pz_ar_out (by omega), pz_ar_way (by omega) o]
  unfold s_X5_admit
  rw [pz_addRow_a hp hp2]
  simp only [Option.bind_some]
  rw [pz_putBerths_a hp hp2, Option.bind_some, show pz_ar F 290 162 = pz_ar (pz_setB (pz_newF F f t (pz_thI pz_thr)) (F 6) a b c) 290 162 from by rw [pz_ar_setB hp hp2 (by omega), pz_ar_newF hp hp2 (by omega)], pz_giveBerths_a (pz_rng_setB r _ q.1 q.2.1 q.2.2) hn hp hp2 o]
  simp only [Option.bind_some, pz_iI_add]
  rw [e1, e2]
