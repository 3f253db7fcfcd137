theorem pz_iI_add (a b : Int) : iI a + iI b = iI (a + b) := (Int32.ofInt_add a b).symm
theorem pz_iI_sub (a b : Int) : iI a - iI b = iI (a - b) := (Int32.ofInt_sub a b).symm
theorem pz_iI_mul (a b : Int) : iI a * iI b = iI (a * b) := (Int32.ofInt_mul a b).symm
theorem pz_iI_toInt {z : Int} (h : -2147483648 ≤ z) (h2 : z < 2147483648) : (iI z).toInt = z := Int32.toInt_ofInt_of_le (by omega) (by omega)
theorem pz_iI_lt {a b : Int} (h1 : -2147483648 ≤ a) (h2 : a < 2147483648) (h3 : -2147483648 ≤ b) (h4 : b < 2147483648) : (iI a < iI b) = (a < b) := by
  rw [Int32.lt_iff_toInt_lt, pz_iI_toInt h1 h2, pz_iI_toInt h3 h4]
theorem pz_iI_le {a b : Int} (h1 : -2147483648 ≤ a) (h2 : a < 2147483648) (h3 : -2147483648 ≤ b) (h4 : b < 2147483648) : (iI a ≤ iI b) = (a ≤ b) := by
  rw [Int32.le_iff_toInt_le, pz_iI_toInt h1 h2, pz_iI_toInt h3 h4]
theorem pz_iI_eq {a b : Int} (h1 : -2147483648 ≤ a) (h2 : a < 2147483648) (h3 : -2147483648 ≤ b) (h4 : b < 2147483648) : (iI a = iI b) = (a = b) := by
  rw [← Int32.toInt_inj, pz_iI_toInt h1 h2, pz_iI_toInt h3 h4]
theorem pz_iI_0 : (0 : Int32) = iI 0 := by decide
theorem pz_iI_cl {z : Int} (h : 0 ≤ z) (h2 : z < 2147483648) : (iI z).toNatClampNeg = z.toNat := Int32.toNatClampNeg_ofInt_of_le (by omega) (by omega)
theorem pz_nI_iI (n : Nat) : nI n = iI (n : Int) := Int32.ofInt_eq_ofNat.symm
theorem pz_gd_iI {z : Int} {n : Nat} (h : -2147483648 ≤ z) (h2 : z < 2147483648) : (gd (iI z) n = true) = (0 ≤ z ∧ z < (n : Int)) := by
  unfold gd
  rw [Bool.and_eq_true, Bool.not_eq_true', decide_eq_false_iff_not, decide_eq_true_eq, pz_iI_0, pz_iI_lt h h2 (by omega) (by omega)]
  apply propext
  constructor
  · rintro ⟨q1, q2⟩
    rw [pz_iI_cl (by omega) h2] at q2
    omega
  · rintro ⟨q1, q2⟩
    rw [pz_iI_cl q1 h2]
    omega
theorem pz_iI_div {a b : Int} (ha : 0 ≤ a) (ha2 : a < 2147483648) (hb : 0 < b) (hb2 : b < 2147483648) : iI a / iI b = iI (a / b) := by
  have e := Int32.ofInt_tdiv (a := a) (b := b) (by show (-2147483648 : Int) ≤ a; omega) (by show a ≤ (2147483647 : Int); omega) (by show (-2147483648 : Int) ≤ b; omega) (by show b ≤ (2147483647 : Int); omega)
  rw [Int.tdiv_eq_ediv_of_nonneg ha] at e
  exact e.symm
theorem pz_iI_surj (x : Int32) : ∃ z : Int, x = iI z ∧ -2147483648 ≤ z ∧ z < 2147483648 := ⟨x.toInt, (Int32.ofInt_toInt x).symm, Int32.le_toInt x, Int32.toInt_lt x⟩
theorem pz_ite_ii {c : Prop} [Decidable c] {a b : Int} : (if c then iI a else iI b) = iI (if c then a else b) := by split <;> rfl
theorem pz_some_ite {α : Type} {c : Prop} [Decidable c] {a b : α} : (if c then some a else some b) = some (if c then a else b) := by split <;> rfl
def pz_row (F : Int → Int) (o : Int) (n : Int) (f : Nat → Int32) : Prop := ∀ z : Int, 0 ≤ z → z < n → f z.toNat = iI (F (o + z))
theorem pz_row_at {F : Int → Int} {o n : Int} {f : Nat → Int32} (h : pz_row F o n f) (hn : n ≤ 1000000) {z : Int} (h0 : 0 ≤ z) (h1 : z < n) : f (iI z).toNatClampNeg = iI (F (o + z)) := by
  rw [pz_iI_cl h0 (by omega)]; exact h z h0 h1
def pz_setF (F : Int → Int) (k v : Int) : Int → Int := fun j => if j = k then v else F j
theorem pz_row_upd {F : Int → Int} {o n : Int} {f : Nat → Int32} (h : pz_row F o n f) (hn : n ≤ 1000000) {z v : Int} (h0 : 0 ≤ z) (h1 : z < n) : pz_row (pz_setF F (o + z) v) o n (upd f (iI z).toNatClampNeg (iI v)) := by
  intro y hy hy2
  rw [pz_iI_cl h0 (by omega)]
  unfold pz_setF upd
  by_cases c : y = z
  · rw [if_pos (by omega), if_pos (by omega)]
  · rw [if_neg (by omega), if_neg (by omega)]; exact h y hy hy2
theorem pz_row_out {F : Int → Int} {o n k v : Int} {f : Nat → Int32} (h : pz_row F o n f) (hk : k < o ∨ o + n ≤ k) : pz_row (pz_setF F k v) o n f := by
  intro y hy hy2
  unfold pz_setF
  rw [if_neg (by omega)]; exact h y hy hy2
theorem pz_row_congr {F G : Int → Int} {o n : Int} {f : Nat → Int32} (h : pz_row F o n f) (e : ∀ z : Int, o ≤ z → z < o + n → G z = F z) : pz_row G o n f := by
  intro y hy hy2
  rw [e _ (by omega) (by omega)]; exact h y hy hy2
def pz_rng (F : Int → Int) : Prop := ∀ z : Int, -1 ≤ F z ∧ F z < 1000000
def pz_isB (z : Int) : Bool := if z = -1 then false else true
theorem pz_isB_no {z : Int} (h : z = -1) : pz_isB z = false := if_pos h
theorem pz_isB_yes {z : Int} (h : ¬ z = -1) : pz_isB z = true := if_neg h
def pz_bi (c : Bool) : Int := if c = true then 1 else 0
def pz_opB (F : Int → Int) (b l : Int) : Bool := decide (l < F (3 + b / 6)) && decide (F (290 + (b * 9 + l)) = -1)
theorem pz_isOpen_s {F : Int → Int} {E G : Nat → Int32} (hE : pz_row F 3 3 E) (hG : pz_row F 290 162 G) (hr : pz_rng F) {b l : Int} (hb : 0 ≤ b) (hb2 : b < 18) (hl : 0 ≤ l) (hl2 : l < 9) : s_X0_isOpen E G (iI b) (iI l) = some (iI (pz_bi (pz_opB F b l))) := by
  have h1 := hr (3 + b / 6)
  have h2 := hr (290 + (b * 9 + l))
  unfold s_X0_isOpen
  simp (disch := omega) only [pz_iI_add, pz_iI_sub, pz_iI_mul, pz_iI_div, pz_iI_0, pz_iI_lt, pz_iI_le, pz_iI_eq, pz_gd_iI, pz_nI_iI, pz_row_at hE (by decide), pz_row_at hG (by decide)]
  rw [if_neg (by omega), if_neg (by omega), if_pos (by omega)]
  unfold pz_bi pz_opB
  by_cases c : F (3 + b / 6) ≤ l
  · have e : decide (l < F (3 + b / 6)) = false := decide_eq_false (by omega)
    rw [if_pos c, e]; rfl
  · have e : decide (l < F (3 + b / 6)) = true := decide_eq_true (by omega)
    rw [if_neg c, if_neg (by omega), if_neg (by omega), if_pos (by omega), e]
    by_cases d : F (290 + (b * 9 + l)) = -1
    · rw [if_pos d, decide_eq_true d]; rfl
    · rw [if_neg d, decide_eq_false d]; rfl
def pz_tillc (F : Int → Int) (b : Int) : Nat → Int → Int
  | 0, x => x
  | c + 1, x => if pz_opB F b x = true then pz_tillc F b c (x + 1) else x
theorem pz_tillc_rg (F : Int → Int) (b : Int) : ∀ (c : Nat) (x : Int), x ≤ pz_tillc F b c x ∧ pz_tillc F b c x ≤ x + c := by
  intro c
  induction c with
  | zero => intro x; unfold pz_tillc; omega
  | succ c ih =>
    intro x
    unfold pz_tillc
    have h := ih (x + 1)
    split <;> omega
theorem pz_openTill_L {F : Int → Int} {E G : Nat → Int32} (hE : pz_row F 3 3 E) (hG : pz_row F 290 162 G) (hr : pz_rng F) (n : Nat) {b : Int} (hb : 0 ≤ b) (hb2 : b < 18) : ∀ (c : Nat) (x : Int), 0 ≤ x → x + c = 9 → ∀ k, c < k → s_X0_openTill_L2 n E G (iI b) k (iI x) = some (iI (pz_tillc F b c x)) := by
  intro c
  induction c with
  | zero =>
    intro x hx hc k hk
    obtain ⟨k, rfl⟩ : ∃ z, k = z + 1 := ⟨k - 1, by omega⟩
    rw [s_X0_openTill_L2]
    simp (disch := omega) only [pz_iI_add, pz_iI_sub, pz_iI_mul, pz_iI_div, pz_iI_0, pz_iI_lt, pz_iI_le, pz_iI_eq, pz_gd_iI, pz_nI_iI, pz_tillc]
    rw [if_pos (by omega)]
  | succ c ih =>
    intro x hx hc k hk
    obtain ⟨k, rfl⟩ : ∃ z, k = z + 1 := ⟨k - 1, by omega⟩
    rw [s_X0_openTill_L2, pz_isOpen_s hE hG hr hb hb2 hx (by omega)]
    simp (disch := omega) only [pz_iI_add, pz_iI_sub, pz_iI_mul, pz_iI_div, pz_iI_0, pz_iI_lt, pz_iI_le, pz_iI_eq, pz_gd_iI, pz_nI_iI, Option.bind_some]
    rw [if_neg (by omega), ih (x + 1) (by omega) (by omega) k (by omega)]
    rw [pz_tillc]
    cases pz_opB F b x with
    | true => rfl
    | false => rfl
def pz_till (F : Int → Int) (b x : Int) : Int := pz_tillc F b (9 - x).toNat x
theorem pz_openTill_s {F : Int → Int} {E G : Nat → Int32} (hE : pz_row F 3 3 E) (hG : pz_row F 290 162 G) (hr : pz_rng F) {n : Nat} (hn : 20 ≤ n) {b x : Int} (hb : 0 ≤ b) (hb2 : b < 18) (hx : 0 ≤ x) (hx2 : x ≤ 9) : s_X0_openTill n E G (iI b) (iI x) = some (iI (pz_till F b x)) := by
  unfold s_X0_openTill pz_till
  exact pz_openTill_L hE hG hr n hb hb2 _ x hx (by omega) n (by omega)
def pz_wkc (F : Int → Int) (q : Int) : Nat → Int → Int
  | 0, _ => 0
  | c + 1, x => (if F (290 + (q * 9 + x - 1)) = F (290 + (q * 9 + x)) then 0 else 1) + pz_wkc F q c (x + 1)
theorem pz_wkc_rg (F : Int → Int) (q : Int) : ∀ (c : Nat) (x : Int), 0 ≤ pz_wkc F q c x ∧ pz_wkc F q c x ≤ c := by
  intro c
  induction c with
  | zero => intro x; unfold pz_wkc; omega
  | succ c ih => intro x; unfold pz_wkc; have h := ih (x + 1); split <;> omega
def pz_nbr (b : Int) : Int := if b % 2 = 0 then b + 1 else b - 1
def pz_wk (F : Int → Int) (b f t : Int) : Int := pz_wkc F (pz_nbr b) (t - (f + 1)).toNat (f + 1)
theorem pz_wk_rg (F : Int → Int) (b f t : Int) (h : 0 ≤ f) (h2 : t ≤ 9) : 0 ≤ pz_wk F b f t ∧ pz_wk F b f t ≤ 9 := by
  have q := pz_wkc_rg F (pz_nbr b) (t - (f + 1)).toNat (f + 1)
  unfold pz_wk
  omega
theorem pz_wokenIn_L {F : Int → Int} {G : Nat → Int32} (hG : pz_row F 290 162 G) (hr : pz_rng F) (n : Nat) {q t : Int} (hq : 0 ≤ q) (hq2 : q < 18) (ht0 : 0 ≤ t) (ht : t ≤ 9) : ∀ (c : Nat) (x w : Int), 1 ≤ x → x ≤ 10 → 0 ≤ w → w + c ≤ 100 → (x ≤ t → x + c = t) → (t < x → c = 0) → ∀ k, c < k → s_X0_wokenIn_L25 n G (iI t) k (iI q) (iI w) (iI x) = some (iI (w + pz_wkc F q c x)) := by
  intro c
  induction c with
  | zero =>
    intro x w hx hx10 hw hw2 h1 h2 k hk
    obtain ⟨k, rfl⟩ : ∃ z, k = z + 1 := ⟨k - 1, by omega⟩
    rw [s_X0_wokenIn_L25]
    simp (disch := omega) only [pz_iI_add, pz_iI_sub, pz_iI_mul, pz_iI_div, pz_iI_0, pz_iI_lt, pz_iI_le, pz_iI_eq, pz_gd_iI, pz_nI_iI, pz_wkc]
    rw [if_pos (by omega)]
    simp
  | succ c ih =>
    intro x w hx hx10 hw hw2 h1 h2 k hk
    obtain ⟨k, rfl⟩ : ∃ z, k = z + 1 := ⟨k - 1, by omega⟩
    have h1 : x + (c + 1) = t := by omega
    have r1 := hr (290 + (q * 9 + x - 1))
    have r2 := hr (290 + (q * 9 + x))
    rw [s_X0_wokenIn_L25]
    simp (disch := omega) only [pz_iI_add, pz_iI_sub, pz_iI_mul, pz_iI_div, pz_iI_0, pz_iI_lt, pz_iI_le, pz_iI_eq, pz_gd_iI, pz_nI_iI, pz_row_at hG (by decide)]
    rw [if_neg (by omega), if_neg (by omega), if_neg (by omega), if_pos (by omega), if_pos (by omega)]
    unfold pz_wkc
    by_cases d : F (290 + (q * 9 + x - 1)) = F (290 + (q * 9 + x))
    · rw [if_pos d, if_pos d, ih (x + 1) w (by omega) (by omega) hw (by omega) (by omega) (by omega) k (by omega)]
      congr 2; omega
    · rw [if_neg d, if_neg d]
      rw [ih (x + 1) (w + 1) (by omega) (by omega) (by omega) (by omega) (by omega) (by omega) k (by omega)]
      congr 2; omega
theorem pz_wokenIn_s {F : Int → Int} {G : Nat → Int32} (hG : pz_row F 290 162 G) (hr : pz_rng F) {n : Nat} (hn : 20 ≤ n) {b f t : Int} (hb : 0 ≤ b) (hb2 : b < 18) (hf : 0 ≤ f) (ht0 : f ≤ t) (ht : t ≤ 9) : s_X0_wokenIn n G (iI b) (iI f) (iI t) = some (iI (pz_wk F b f t)) := by
  unfold s_X0_wokenIn pz_wk pz_nbr
  simp (disch := omega) only [pz_iI_add, pz_iI_sub, pz_iI_mul, pz_iI_div, pz_iI_0, pz_iI_lt, pz_iI_le, pz_iI_eq, pz_gd_iI, pz_nI_iI]
  have e : (b - b / 2 * 2 = 0) ↔ (b % 2 = 0) := by omega
  by_cases c : b % 2 = 0
  · rw [if_pos (e.mpr c), if_pos c, pz_wokenIn_L hG hr n (by omega) (by omega) (show 0 ≤ t by omega) ht (t - (f + 1)).toNat (f + 1) 0 (by omega) (by omega) (by omega) (by omega) (by omega) (by omega) n (by omega)]
    simp
  · rw [if_neg (fun q => c (e.mp q)), if_neg c, pz_wokenIn_L hG hr n (by omega) (by omega) (show 0 ≤ t by omega) ht (t - (f + 1)).toNat (f + 1) 0 (by omega) (by omega) (by omega) (by omega) (by omega) (by omega) n (by omega)]
    simp
def pz_calm (F : Int → Int) (f t : Int) : Nat → Int → Int → Int → Int × Int
  | 0, _, best, few => (best, few)
  | c + 1, b, best, few => if pz_till F b f < t then pz_calm F f t c (b + 1) best few else if best = -1 ∨ pz_wk F b f t < few then pz_calm F f t c (b + 1) b (pz_wk F b f t) else pz_calm F f t c (b + 1) best few
theorem pz_calmest_L {F : Int → Int} {E G : Nat → Int32} (hE : pz_row F 3 3 E) (hG : pz_row F 290 162 G) (hr : pz_rng F) {n : Nat} (hn : 20 ≤ n) {f t : Int} (hf : 0 ≤ f) (ht0 : f ≤ t) (ht : t ≤ 9) : ∀ (c : Nat) (b best few : Int), 0 ≤ b → b + c = 18 → -1 ≤ best → best < 18 → -1 ≤ few → few < 100 → ∀ k, c < k → s_X0_calmest_L8 n E G (iI f) (iI t) k (iI best) (iI few) (iI b) = some (iI (pz_calm F f t c b best few).1) := by
  intro c
  induction c with
  | zero =>
    intro b best few hb hc h1 h2 h3 h4 k hk
    obtain ⟨k, rfl⟩ : ∃ z, k = z + 1 := ⟨k - 1, by omega⟩
    rw [s_X0_calmest_L8]
    simp (disch := omega) only [pz_iI_add, pz_iI_sub, pz_iI_mul, pz_iI_div, pz_iI_0, pz_iI_lt, pz_iI_le, pz_iI_eq, pz_gd_iI, pz_nI_iI, pz_calm]
    rw [if_pos (by omega)]
  | succ c ih =>
    intro b best few hb hc h1 h2 h3 h4 k hk
    obtain ⟨k, rfl⟩ : ∃ z, k = z + 1 := ⟨k - 1, by omega⟩
    have r1 := pz_tillc_rg F b (9 - f).toNat f
    have r2 := pz_wk_rg F b f t hf ht
    rw [s_X0_calmest_L8, pz_openTill_s hE hG hr hn hb (by omega) hf (by omega)]
    unfold pz_till at *
    simp (disch := omega) only [pz_iI_add, pz_iI_sub, pz_iI_mul, pz_iI_div, pz_iI_0, pz_iI_lt, pz_iI_le, pz_iI_eq, pz_gd_iI, pz_nI_iI, Option.bind_some]
    rw [if_neg (by omega), pz_wokenIn_s hG hr hn hb (by omega) hf ht0 ht]
    simp (disch := omega) only [pz_iI_add, pz_iI_sub, pz_iI_mul, pz_iI_div, pz_iI_0, pz_iI_lt, pz_iI_le, pz_iI_eq, pz_gd_iI, pz_nI_iI, Option.bind_some]
    unfold pz_calm pz_till
    by_cases d : pz_tillc F b (9 - f).toNat f < t
    · rw [if_pos d, if_pos d, ih (b + 1) best few (by omega) (by omega) h1 h2 h3 h4 k (by omega)]
    · rw [if_neg d, if_neg d]
      by_cases d1 : best = -1
      · rw [if_pos d1, if_pos (Or.inl d1), ih (b + 1) b _ (by omega) (by omega) (by omega) (by omega) (by omega) (by omega) k (by omega)]
      · rw [if_neg d1]
        by_cases d2 : few ≤ pz_wk F b f t
        · rw [if_pos d2, if_neg (by omega), ih (b + 1) best few (by omega) (by omega) h1 h2 h3 h4 k (by omega)]
        · rw [if_neg d2, if_pos (by omega), ih (b + 1) b _ (by omega) (by omega) (by omega) (by omega) (by omega) (by omega) k (by omega)]
theorem pz_calmest_s {F : Int → Int} {E G : Nat → Int32} (hE : pz_row F 3 3 E) (hG : pz_row F 290 162 G) (hr : pz_rng F) {n : Nat} (hn : 20 ≤ n) {f t : Int} (hf : 0 ≤ f) (ht0 : f ≤ t) (ht : t ≤ 9) : s_X0_calmest n E G (iI f) (iI t) = some (iI (pz_calm F f t 18 0 (-1) 0).1) := by
  unfold s_X0_calmest
  exact pz_calmest_L hE hG hr hn hf ht0 ht 18 0 (-1) 0 (by omega) (by omega) (by omega) (by omega) (by omega) (by omega) n (by omega)
theorem pz_calm_rg (F : Int → Int) (f t : Int) : ∀ (c : Nat) (b best few : Int), 0 ≤ b → b + c ≤ 18 → -1 ≤ best → best < 18 → -1 ≤ (pz_calm F f t c b best few).1 ∧ (pz_calm F f t c b best few).1 < 18 := by
  intro c
  induction c with
  | zero => intro b best few h1 h2 h3 h4; unfold pz_calm; exact ⟨h3, h4⟩
  | succ c ih =>
    intro b best few h1 h2 h3 h4
    unfold pz_calm
    split
    · exact ih _ _ _ (by omega) (by omega) h3 h4
    · split
      · exact ih _ _ _ (by omega) (by omega) (by omega) (by omega)
      · exact ih _ _ _ (by omega) (by omega) h3 h4
theorem pz_zb_bi (c : Bool) : zb (iI (pz_bi c)) = true := by cases c <;> decide
theorem pz_holds_s {F : Int → Int} {A : Nat → Int32} (hA : pz_row F 0 452 A) (hr : pz_rng F) {b l : Int} (hb : 0 ≤ b) (hb2 : b < 18) (hl : 0 ≤ l) (hl2 : l < 9) : s_X7_holds A (iI b) (iI l) = some (iI (F (290 + (b * 9 + l)))) := by
  unfold s_X7_holds
  simp (disch := omega) only [pz_iI_add, pz_iI_sub, pz_iI_mul, pz_iI_div, pz_iI_0, pz_iI_lt, pz_iI_le, pz_iI_eq, pz_gd_iI, pz_nI_iI, pz_row_at hA (by decide)]
  rw [if_pos (by omega)]
  congr 3; omega
theorem pz_canBeHad_s {F : Int → Int} {A : Nat → Int32} (hA : pz_row F 0 452 A) (hr : pz_rng F) {b l : Int} (hb : 0 ≤ b) (hb2 : b < 18) (hl : 0 ≤ l) (hl2 : l < 9) : s_X7_canBeHad A (iI b) (iI l) = some (iI (pz_bi (pz_opB F b l))) := by
  have h1 := hr (3 + b / 6)
  have h2 := hr (290 + (b * 9 + l))
  unfold s_X7_canBeHad
  rw [pz_holds_s hA hr hb hb2 hl hl2]
  simp (disch := omega) only [pz_iI_add, pz_iI_sub, pz_iI_mul, pz_iI_div, pz_iI_0, pz_iI_lt, pz_iI_le, pz_iI_eq, pz_gd_iI, pz_nI_iI, pz_row_at hA (by decide), Option.bind_some, Int.zero_add]
  rw [if_pos (by omega)]
  unfold pz_bi pz_opB
  by_cases c : F (3 + b / 6) ≤ l
  · have e : decide (l < F (3 + b / 6)) = false := decide_eq_false (by omega)
    rw [if_pos c, e]; rfl
  · have e : decide (l < F (3 + b / 6)) = true := decide_eq_true (by omega)
    rw [if_neg c, e]
    by_cases d : F (290 + (b * 9 + l)) = -1
    · rw [if_pos d, decide_eq_true d]; rfl
    · rw [if_neg d, decide_eq_false d]; rfl
def pz_freB (F : Int → Int) (b : Int) : Nat → Int → Bool
  | 0, _ => true
  | c + 1, x => pz_opB F b x && pz_freB F b c (x + 1)
theorem pz_isFree_L {F : Int → Int} {A : Nat → Int32} (hA : pz_row F 0 452 A) (hr : pz_rng F) (n : Nat) {b t : Int} (hb : 0 ≤ b) (hb2 : b < 18) (ht : t ≤ 9) : ∀ (c : Nat) (x : Int) (w : Bool), 0 ≤ x → x + c = t → ∀ k, c < k → s_X7_isFree_L6 n A (iI b) (iI t) k (iI (pz_bi w)) (iI x) = some (iI (pz_bi (w && pz_freB F b c x))) := by
  intro c
  induction c with
  | zero =>
    intro x w hx hc k hk
    obtain ⟨k, rfl⟩ : ∃ z, k = z + 1 := ⟨k - 1, by omega⟩
    rw [s_X7_isFree_L6]
    simp (disch := omega) only [pz_iI_add, pz_iI_sub, pz_iI_mul, pz_iI_div, pz_iI_0, pz_iI_lt, pz_iI_le, pz_iI_eq, pz_gd_iI, pz_nI_iI]
    rw [if_pos (by omega), if_pos (pz_zb_bi w)]
    unfold pz_freB
    rw [Bool.and_true]
  | succ c ih =>
    intro x w hx hc k hk
    obtain ⟨k, rfl⟩ : ∃ z, k = z + 1 := ⟨k - 1, by omega⟩
    rw [s_X7_isFree_L6, pz_canBeHad_s hA hr hb hb2 hx (by omega)]
    cases w with
    | false =>
      have h := ih (x + 1) false (by omega) (by omega) k (by omega)
      rw [show pz_bi false = 0 from rfl] at h ⊢
      simp (disch := omega) only [pz_iI_add, pz_iI_sub, pz_iI_mul, pz_iI_div, pz_iI_0, pz_iI_lt, pz_iI_le, pz_iI_eq, pz_gd_iI, pz_nI_iI]
      rw [if_neg (by omega), if_pos trivial, h]
      rfl
    | true =>
      rw [show pz_bi true = 1 from rfl]
      simp (disch := omega) only [pz_iI_add, pz_iI_sub, pz_iI_mul, pz_iI_div, pz_iI_0, pz_iI_lt, pz_iI_le, pz_iI_eq, pz_gd_iI, pz_nI_iI, Option.bind_some]
      rw [if_neg (by omega), if_neg (by omega)]
      unfold pz_freB
      cases e : pz_opB F b x with
      | false =>
        have h := ih (x + 1) false (by omega) (by omega) k (by omega)
        rw [show pz_bi false = 0 from rfl] at h ⊢
        simp (disch := omega) only [pz_iI_add, pz_iI_sub, pz_iI_mul, pz_iI_div, pz_iI_0, pz_iI_lt, pz_iI_le, pz_iI_eq, pz_gd_iI, pz_nI_iI]
        rw [if_pos trivial, h]
        rfl
      | true =>
        have h := ih (x + 1) true (by omega) (by omega) k (by omega)
        rw [show pz_bi true = 1 from rfl] at h ⊢
        simp (disch := omega) only [pz_iI_add, pz_iI_sub, pz_iI_mul, pz_iI_div, pz_iI_0, pz_iI_lt, pz_iI_le, pz_iI_eq, pz_gd_iI, pz_nI_iI]
        rw [if_neg (by omega), h]
        rfl
theorem pz_isFree_s {F : Int → Int} {A : Nat → Int32} (hA : pz_row F 0 452 A) (hr : pz_rng F) {n : Nat} (hn : 20 ≤ n) {b f t : Int} (hb : 0 ≤ b) (hb2 : b < 18) (hf : 0 ≤ f) (hft : f ≤ t) (ht : t ≤ 9) : s_X7_isFree n A (iI b) (iI f) (iI t) = some (iI (pz_bi (pz_freB F b (t - f).toNat f))) := by
  unfold s_X7_isFree
  exact pz_isFree_L hA hr n hb hb2 ht (t - f).toNat f true hf (by omega) n (by omega)
theorem pz_till_fre (F : Int → Int) (b : Int) : ∀ (c d : Nat) (x : Int), d ≤ c → (pz_freB F b d x = true ↔ x + d ≤ pz_tillc F b c x) := by
  intro c
  induction c with
  | zero =>
    intro d x h
    obtain rfl : d = 0 := by omega
    unfold pz_freB pz_tillc
    simp
  | succ c ih =>
    intro d x h
    have q := pz_tillc_rg F b c (x + 1)
    cases d with
    | zero =>
      unfold pz_freB pz_tillc
      split <;> simp <;> omega
    | succ d =>
      unfold pz_freB pz_tillc
      cases e : pz_opB F b x with
      | false => simp; omega
      | true =>
        have w := ih d (x + 1) (by omega)
        simp only [Bool.true_and, if_true]
        rw [w]
        omega
theorem pz_fre_till (F : Int → Int) (b f t : Int) (hft : f ≤ t) (ht : t ≤ 9) : pz_freB F b (t - f).toNat f = !decide (pz_till F b f < t) := by
  have h := pz_till_fre F b (9 - f).toNat (t - f).toNat f (by omega)
  unfold pz_till
  by_cases c : pz_tillc F b (9 - f).toNat f < t
  · rw [decide_eq_true c]
    cases e : pz_freB F b (t - f).toNat f with
    | false => rfl
    | true => have := h.mp e; omega
  · rw [decide_eq_false c]
    have : pz_freB F b (t - f).toNat f = true := h.mpr (by omega)
    rw [this]; rfl
theorem pz_wakes_L {F : Int → Int} {A : Nat → Int32} (hA : pz_row F 0 452 A) (hr : pz_rng F) (n : Nat) {q t : Int} (hq : 0 ≤ q) (hq2 : q < 18) (ht0 : 0 ≤ t) (ht : t ≤ 9) : ∀ (c : Nat) (x w : Int), 1 ≤ x → x ≤ 10 → 0 ≤ w → w + c ≤ 100 → (x ≤ t → x + c = t) → (t < x → c = 0) → ∀ k, c < k → s_X7_wakes_L25 n A (iI t) k (iI q) (iI w) (iI x) = some (iI (w + pz_wkc F q c x)) := by
  intro c
  induction c with
  | zero =>
    intro x w hx hx10 hw hw2 h1 h2 k hk
    obtain ⟨k, rfl⟩ : ∃ z, k = z + 1 := ⟨k - 1, by omega⟩
    rw [s_X7_wakes_L25]
    simp (disch := omega) only [pz_iI_add, pz_iI_sub, pz_iI_mul, pz_iI_div, pz_iI_0, pz_iI_lt, pz_iI_le, pz_iI_eq, pz_gd_iI, pz_nI_iI, pz_wkc]
    rw [if_pos (by omega)]
    simp
  | succ c ih =>
    intro x w hx hx10 hw hw2 h1 h2 k hk
    obtain ⟨k, rfl⟩ : ∃ z, k = z + 1 := ⟨k - 1, by omega⟩
    have h1 : x + (c + 1) = t := by omega
    have r1 := hr (290 + (q * 9 + x - 1))
    have r2 := hr (290 + (q * 9 + x))
    rw [s_X7_wakes_L25, pz_iI_sub, pz_holds_s hA hr hq hq2 (show 0 ≤ x - 1 by omega) (by omega), pz_holds_s hA hr hq hq2 (show 0 ≤ x by omega) (by omega)]
    rw [show q * 9 + (x - 1) = q * 9 + x - 1 by omega]
    simp (disch := omega) only [pz_iI_add, pz_iI_sub, pz_iI_mul, pz_iI_div, pz_iI_0, pz_iI_lt, pz_iI_le, pz_iI_eq, pz_gd_iI, pz_nI_iI, Option.bind_some]
    rw [if_neg (by omega)]
    unfold pz_wkc
    by_cases d : F (290 + (q * 9 + x - 1)) = F (290 + (q * 9 + x))
    · rw [if_pos d, if_pos d, ih (x + 1) (w + 0) (by omega) (by omega) (by omega) (by omega) (by omega) (by omega) k (by omega)]
      congr 2; omega
    · rw [if_neg d, if_neg d, ih (x + 1) (w + 1) (by omega) (by omega) (by omega) (by omega) (by omega) (by omega) k (by omega)]
      congr 2; omega
theorem pz_wakes_s {F : Int → Int} {A : Nat → Int32} (hA : pz_row F 0 452 A) (hr : pz_rng F) {n : Nat} (hn : 20 ≤ n) {b f t : Int} (hb : 0 ≤ b) (hb2 : b < 18) (hf : 0 ≤ f) (ht0 : f ≤ t) (ht : t ≤ 9) : s_X7_wakes n A (iI b) (iI f) (iI t) = some (iI (pz_wk F b f t)) := by
  unfold s_X7_wakes pz_wk pz_nbr
  simp (disch := omega) only [pz_iI_add, pz_iI_sub, pz_iI_mul, pz_iI_div, pz_iI_0, pz_iI_lt, pz_iI_le, pz_iI_eq, pz_gd_iI, pz_nI_iI]
  have e : (b - b / 2 * 2 = 0) ↔ (b % 2 = 0) := by omega
  by_cases c : b % 2 = 0
  · rw [if_pos (e.mpr c), if_pos c, pz_wakes_L hA hr n (by omega) (by omega) (show 0 ≤ t by omega) ht (t - (f + 1)).toNat (f + 1) 0 (by omega) (by omega) (by omega) (by omega) (by omega) (by omega) n (by omega)]
    simp
  · rw [if_neg (fun q => c (e.mp q)), if_neg c, pz_wakes_L hA hr n (by omega) (by omega) (show 0 ≤ t by omega) ht (t - (f + 1)).toNat (f + 1) 0 (by omega) (by omega) (by omega) (by omega) (by omega) (by omega) n (by omega)]
    simp
theorem pz_findsOne_L {F : Int → Int} {A : Nat → Int32} (hA : pz_row F 0 452 A) (hr : pz_rng F) {n : Nat} (hn : 20 ≤ n) {f t : Int} (hf : 0 ≤ f) (ht0 : f ≤ t) (ht : t ≤ 9) (ot ch : Int32) : ∀ (c : Nat) (b best few : Int), 0 ≤ b → b + c = 18 → -1 ≤ best → best < 18 → -2147483648 ≤ few → few < 2147483648 → ∀ k, c < k → s_X7_findsOne_L13 n A (iI f) (iI t) k (iI best) ot ch (iI few) (iI b) = some (iI (pz_bi (pz_isB ((pz_calm F f t c b best few).1))), iI (pz_calm F f t c b best few).1, iI (pz_calm F f t c b best few).1, ch, iI (pz_calm F f t c b best few).2) := by
  intro c
  induction c with
  | zero =>
    intro b best few hb hc h1 h2 h3 h4 k hk
    obtain ⟨k, rfl⟩ : ∃ z, k = z + 1 := ⟨k - 1, by omega⟩
    rw [s_X7_findsOne_L13]
    simp (disch := omega) only [pz_iI_add, pz_iI_sub, pz_iI_mul, pz_iI_div, pz_iI_0, pz_iI_lt, pz_iI_le, pz_iI_eq, pz_gd_iI, pz_nI_iI, pz_calm]
    rw [if_pos (by omega)]
    by_cases d : best = -1
    · rw [if_pos d, pz_isB_no d]; rfl
    · rw [if_neg d, pz_isB_yes d]; rfl
  | succ c ih =>
    intro b best few hb hc h1 h2 h3 h4 k hk
    obtain ⟨k, rfl⟩ : ∃ z, k = z + 1 := ⟨k - 1, by omega⟩
    have r2 := pz_wk_rg F b f t hf ht
    rw [s_X7_findsOne_L13, pz_isFree_s hA hr hn hb (by omega) hf ht0 ht, pz_wakes_s hA hr hn hb (by omega) hf ht0 ht, pz_fre_till F b f t ht0 ht]
    simp (disch := omega) only [pz_iI_add, pz_iI_sub, pz_iI_mul, pz_iI_div, pz_iI_0, pz_iI_lt, pz_iI_le, pz_iI_eq, pz_gd_iI, pz_nI_iI, Option.bind_some]
    rw [if_neg (by omega)]
    unfold pz_calm
    by_cases d : pz_till F b f < t
    · rw [decide_eq_true d, if_pos d, show pz_bi (!true) = 0 from rfl, if_pos rfl, ih (b + 1) best few (by omega) (by omega) h1 h2 h3 h4 k (by omega)]
    · rw [decide_eq_false d, if_neg d, show pz_bi (!false) = 1 from rfl]
      simp (disch := omega) only [pz_iI_add, pz_iI_sub, pz_iI_mul, pz_iI_div, pz_iI_0, pz_iI_lt, pz_iI_le, pz_iI_eq, pz_gd_iI, pz_nI_iI]
      rw [if_neg (by omega)]
      by_cases d1 : best = -1
      · rw [if_pos d1, if_pos (Or.inl d1), ih (b + 1) b _ (by omega) (by omega) (by omega) (by omega) (by omega) (by omega) k (by omega)]
      · rw [if_neg d1]
        by_cases d2 : few ≤ pz_wk F b f t
        · rw [if_pos d2, if_neg (by omega), ih (b + 1) best few (by omega) (by omega) h1 h2 h3 h4 k (by omega)]
        · rw [if_neg d2, if_pos (by omega), ih (b + 1) b _ (by omega) (by omega) (by omega) (by omega) (by omega) (by omega) k (by omega)]
theorem pz_findsOne_s {F : Int → Int} {A : Nat → Int32} (hA : pz_row F 0 452 A) (hr : pz_rng F) {n : Nat} (hn : 20 ≤ n) {f t : Int} (hf : 0 ≤ f) (ht0 : f ≤ t) (ht : t ≤ 9) (on ot ch : Int32) {w : Int} (hw : -2147483648 ≤ w) (hw2 : w < 2147483648) : s_X7_findsOne n on ot ch (iI w) A (iI f) (iI t) = some (iI (pz_bi (pz_isB ((pz_calm F f t 18 0 (-1) w).1))), iI (pz_calm F f t 18 0 (-1) w).1, iI (pz_calm F f t 18 0 (-1) w).1, iI (-1), iI (pz_calm F f t 18 0 (-1) w).2) := by
  unfold s_X7_findsOne
  exact pz_findsOne_L hA hr hn hf ht0 ht ot (iI (-1)) 18 0 (-1) w (by omega) (by omega) (by omega) (by omega) hw hw2 n (by omega)
theorem pz_calm_few (F : Int → Int) (f t : Int) : ∀ (c : Nat) (b w w2 : Int), 0 ≤ b → (pz_calm F f t c b (-1) w).1 = (pz_calm F f t c b (-1) w2).1 ∧ ((pz_calm F f t c b (-1) w).1 ≠ -1 → (pz_calm F f t c b (-1) w).2 = (pz_calm F f t c b (-1) w2).2) := by
  intro c
  induction c with
  | zero => intro b w w2 hb; unfold pz_calm; simp
  | succ c ih =>
    intro b w w2 hb
    unfold pz_calm
    by_cases d : pz_till F b f < t
    · rw [if_pos d, if_pos d]; exact ih (b + 1) w w2 (by omega)
    · rw [if_neg d, if_neg d, if_pos (Or.inl rfl), if_pos (Or.inl rfl)]
      exact ⟨rfl, fun _ => rfl⟩
theorem pz_calm_spec (F : Int → Int) (f t : Int) : ∀ (c : Nat) (b best few : Int), 0 ≤ b → (best ≠ -1 → ¬ pz_till F best f < t ∧ few = pz_wk F best f t) →
    ((pz_calm F f t c b best few).1 ≠ -1 → ¬ pz_till F (pz_calm F f t c b best few).1 f < t ∧ (pz_calm F f t c b best few).2 = pz_wk F (pz_calm F f t c b best few).1 f t) ∧
    ((pz_calm F f t c b best few).1 = -1 → best = -1 ∧ ∀ z, b ≤ z → z < b + c → pz_till F z f < t) := by
  intro c
  induction c with
  | zero => intro b best few hb h; unfold pz_calm; exact ⟨h, fun q => ⟨q, fun z h1 h2 => by omega⟩⟩
  | succ c ih =>
    intro b best few hb h
    unfold pz_calm
    by_cases d : pz_till F b f < t
    · rw [if_pos d]
      have q := ih (b + 1) best few (by omega) h
      refine ⟨q.1, fun e => ⟨(q.2 e).1, fun z h1 h2 => ?_⟩⟩
      by_cases e2 : z = b
      · rw [e2]; exact d
      · exact (q.2 e).2 z (by omega) (by omega)
    · rw [if_neg d]
      by_cases d1 : best = -1 ∨ pz_wk F b f t < few
      · rw [if_pos d1]
        have q := ih (b + 1) b (pz_wk F b f t) (by omega) (fun _ => ⟨d, rfl⟩)
        exact ⟨q.1, fun e => absurd (q.2 e).1 (by omega)⟩
      · rw [if_neg d1]
        have q := ih (b + 1) best few (by omega) h
        refine ⟨q.1, fun e => absurd (q.2 e).1 (fun x => d1 (Or.inl x))⟩
def pz_bestc (F : Int → Int) (f t but : Int) : Nat → Int → Int → Int
  | 0, _, found => found
  | c + 1, b, found => if b = but ∨ pz_till F b f < t then pz_bestc F f t but c (b + 1) found else if found = -1 ∨ pz_wk F b f t < pz_wk F found f t then pz_bestc F f t but c (b + 1) b else pz_bestc F f t but c (b + 1) found
theorem pz_best_calm (F : Int → Int) (f t but : Int) (hbut : pz_till F but f < t) : ∀ (c : Nat) (b found few : Int), 0 ≤ b → (found ≠ -1 → few = pz_wk F found f t) → pz_bestc F f t but c b found = (pz_calm F f t c b found few).1 := by
  intro c
  induction c with
  | zero => intro b found few hb h; rfl
  | succ c ih =>
    intro b found few hb h
    unfold pz_bestc pz_calm
    by_cases d : pz_till F b f < t
    · rw [if_pos (Or.inr d), if_pos d]; exact ih (b + 1) found few (by omega) h
    · have e : ¬ b = but := fun q => d (q ▸ hbut)
      rw [if_neg (fun q => q.elim e d), if_neg d]
      by_cases d1 : found = -1
      · rw [if_pos (Or.inl d1), if_pos (Or.inl d1)]; exact ih (b + 1) b _ (by omega) (fun _ => rfl)
      · rw [h d1]
        by_cases d2 : pz_wk F b f t < pz_wk F found f t
        · rw [if_pos (Or.inr d2), if_pos (Or.inr d2)]; exact ih (b + 1) b _ (by omega) (fun _ => rfl)
        · rw [if_neg (fun q => q.elim d1 d2), if_neg (fun q => q.elim d1 d2)]; exact ih (b + 1) found _ (by omega) (fun _ => rfl)
theorem pz_best_L {F : Int → Int} {A : Nat → Int32} (hA : pz_row F 0 452 A) (hr : pz_rng F) {n : Nat} (hn : 20 ≤ n) {f t but : Int} (hf : 0 ≤ f) (ht0 : f ≤ t) (ht : t ≤ 9) (hb0 : -1 ≤ but) (hb1 : but < 18) : ∀ (c : Nat) (b found : Int), 0 ≤ b → b + c = 18 → -1 ≤ found → found < 18 → ∀ k, c < k → s_X7_best_L6 n A (iI f) (iI t) (iI but) k (iI found) (iI b) = some (iI (pz_bestc F f t but c b found)) := by
  intro c
  induction c with
  | zero =>
    intro b found hb hc h1 h2 k hk
    obtain ⟨k, rfl⟩ : ∃ z, k = z + 1 := ⟨k - 1, by omega⟩
    rw [s_X7_best_L6]
    simp (disch := omega) only [pz_iI_add, pz_iI_sub, pz_iI_mul, pz_iI_div, pz_iI_0, pz_iI_lt, pz_iI_le, pz_iI_eq, pz_gd_iI, pz_nI_iI, pz_bestc]
    rw [if_pos (by omega)]
  | succ c ih =>
    intro b found hb hc h1 h2 k hk
    obtain ⟨k, rfl⟩ : ∃ z, k = z + 1 := ⟨k - 1, by omega⟩
    have r2 := pz_wk_rg F b f t hf ht
    have r3 := pz_wk_rg F found f t hf ht
    rw [s_X7_best_L6, pz_isFree_s hA hr hn hb (by omega) hf ht0 ht, pz_wakes_s hA hr hn hb (by omega) hf ht0 ht, pz_fre_till F b f t ht0 ht]
    simp (disch := omega) only [pz_iI_add, pz_iI_sub, pz_iI_mul, pz_iI_div, pz_iI_0, pz_iI_lt, pz_iI_le, pz_iI_eq, pz_gd_iI, pz_nI_iI, Option.bind_some]
    rw [if_neg (by omega)]
    unfold pz_bestc
    have go := ih (b + 1) found (by omega) (by omega) h1 h2 k (by omega)
    have go2 := ih (b + 1) b (by omega) (by omega) (by omega) (by omega) k (by omega)
    by_cases e : b = but
    · rw [if_pos e, if_pos trivial, if_pos (Or.inl e), go]
    · rw [if_neg e]
      by_cases d : pz_till F b f < t
      · rw [decide_eq_true d, show pz_bi (!true) = 0 from rfl, if_pos rfl, if_pos trivial, if_pos (Or.inr d), go]
      · rw [decide_eq_false d, show pz_bi (!false) = 1 from rfl, if_neg (show ¬ iI 1 = iI 0 by decide), if_neg (show ¬ (1 : Int) = 0 by omega), if_neg (show ¬ (b = but ∨ pz_till F b f < t) from fun q => q.elim e d)]
        by_cases d1 : found = -1
        · rw [if_pos d1, if_pos (Or.inl d1), go2]
        · rw [if_neg d1, pz_wakes_s hA hr hn (show 0 ≤ found by omega) h2 hf ht0 ht]
          simp (disch := omega) only [pz_iI_add, pz_iI_sub, pz_iI_mul, pz_iI_div, pz_iI_0, pz_iI_lt, pz_iI_le, pz_iI_eq, pz_gd_iI, pz_nI_iI, Option.bind_some]
          by_cases d2 : pz_wk F found f t ≤ pz_wk F b f t
          · rw [if_pos d2, if_neg (by omega), go]
          · rw [if_neg d2, if_pos (by omega), go2]
