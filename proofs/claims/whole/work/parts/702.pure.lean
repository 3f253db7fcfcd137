def pz_ngt (F : Int → Int) (x : Int) : Bool := decide (F 0 ≤ x) && decide (x ≤ F 1)
theorem pz_tillc_skip (F : Int → Int) (b : Int) : ∀ (d c : Nat) (f x : Int), f + d = x → d ≤ c → x ≤ pz_tillc F b c f → pz_tillc F b (c - d) x = pz_tillc F b c f := by
  intro d
  induction d with
  | zero => intro c f x h1 h2 h3; have : f = x := by omega
            subst this; rfl
  | succ d ih =>
    intro c f x h1 h2 h3
    obtain ⟨c, rfl⟩ : ∃ z, c = z + 1 := ⟨c - 1, by omega⟩
    unfold pz_tillc at h3
    by_cases e : pz_opB F b f = true
    · rw [if_pos e] at h3
      have q := ih c (f + 1) x (by omega) (by omega) h3
      rw [show c + 1 - (d + 1) = c - d by omega, q]
      conv => rhs; unfold pz_tillc
      rw [if_pos e]
    · rw [if_neg e] at h3; omega
theorem pz_till_skip (F : Int → Int) (b f x : Int) (hf : f ≤ x) (hx : x ≤ 9) (h : x ≤ pz_till F b f) : pz_till F b x = pz_till F b f := by
  unfold pz_till at h ⊢
  have q := pz_tillc_skip F b (x - f).toNat (9 - f).toNat f x (by omega) (by omega) h
  rw [show (9 - f).toNat - (x - f).toNat = (9 - x).toNat by omega] at q
  exact q
def pz_chg (F : Int → Int) (f t : Int) : Nat → Int → Int → Int → Int × Int
  | 0, _, best, few => (best, few)
  | c + 1, x, best, few =>
    if pz_ngt F x = true then pz_chg F f t c (x + 1) best few else
    if (pz_calm F f x 18 0 (-1) 0).1 = -1 then pz_chg F f t c (x + 1) best few else
    if (pz_calm F x t 18 0 (-1) 0).1 = -1 then pz_chg F f t c (x + 1) best few else
    if best = -1 ∨ pz_wk F (pz_calm F f x 18 0 (-1) 0).1 f x + pz_wk F (pz_calm F x t 18 0 (-1) 0).1 x t < few then pz_chg F f t c (x + 1) x (pz_wk F (pz_calm F f x 18 0 (-1) 0).1 f x + pz_wk F (pz_calm F x t 18 0 (-1) 0).1 x t)
    else pz_chg F f t c (x + 1) best few
theorem pz_read_s {F : Int → Int} {o : Int} {n : Nat} {A : Nat → Int32} (hA : pz_row F o n A) (hn : n ≤ 1000000) {z : Int} (h0 : 0 ≤ z) (h1 : z < n) : s_X6_read n A (iI z) = some (iI (F (o + z))) := by
  unfold s_X6_read
  simp (disch := omega) only [pz_iI_add, pz_iI_sub, pz_iI_mul, pz_iI_div, pz_iI_0, pz_iI_lt, pz_iI_le, pz_iI_eq, pz_gd_iI, pz_nI_iI, pz_row_at hA (show (n : Int) ≤ 1000000 by omega)]
  rw [if_neg (by omega), if_neg (by omega), if_pos (by omega)]
theorem pz_isNight_s {F : Int → Int} {A : Nat → Int32} (hA : pz_row F 0 3 A) (hr : pz_rng F) {x : Int} (hx : 0 ≤ x) (hx2 : x ≤ 9) : s_X5_isNight A (iI x) = some (iI (pz_bi (pz_ngt F x))) := by
  have h1 := hr 0
  have h2 := hr 1
  unfold s_X5_isNight
  rw [pz_read_s (n := 3) hA (by decide) (show (0 : Int) ≤ 0 by decide) (by decide), pz_read_s (n := 3) hA (by decide) (show (0 : Int) ≤ 1 by decide) (by decide)]
  simp (disch := omega) only [pz_iI_add, pz_iI_sub, pz_iI_mul, pz_iI_div, pz_iI_0, pz_iI_lt, pz_iI_le, pz_iI_eq, pz_gd_iI, pz_nI_iI, Option.bind_some, Int.zero_add]
  unfold pz_ngt pz_bi
  by_cases c : x < F 0
  · have e : decide (F 0 ≤ x) = false := decide_eq_false (by omega)
    rw [if_pos c, e]; rfl
  · have e : decide (F 0 ≤ x) = true := decide_eq_true (by omega)
    rw [if_neg c, e]
    by_cases d : F 1 < x
    · have e : decide (x ≤ F 1) = false := decide_eq_false (by omega)
      rw [if_pos d, e]; rfl
    · have e : decide (x ≤ F 1) = true := decide_eq_true (by omega)
      rw [if_neg d, e]; rfl
theorem pz_isNight_m {F : Int → Int} {A : Nat → Int32} (hA : pz_row F 0 452 A) (hr : pz_rng F) {x : Int} (hx : 0 ≤ x) (hx2 : x ≤ 9) : s_X7_isNight A (iI x) = some (iI (pz_bi (pz_ngt F x))) := by
  have h1 := hr 0
  have h2 := hr 1
  unfold s_X7_isNight s_X7_in
  simp (disch := omega) only [pz_iI_add, pz_iI_sub, pz_iI_mul, pz_iI_div, pz_iI_0, pz_iI_lt, pz_iI_le, pz_iI_eq, pz_gd_iI, pz_nI_iI, pz_row_at hA (by decide), Int.zero_add]
  rw [if_pos (by omega), if_pos (by omega)]
  unfold pz_ngt pz_bi
  by_cases c : x < F 0
  · have e : decide (F 0 ≤ x) = false := decide_eq_false (by omega)
    rw [if_pos c, e]; rfl
  · have e : decide (F 0 ≤ x) = true := decide_eq_true (by omega)
    rw [if_neg c, e]
    by_cases d : F 1 < x
    · have e : decide (x ≤ F 1) = false := decide_eq_false (by omega)
      rw [if_pos d, e]; rfl
    · have e : decide (x ≤ F 1) = true := decide_eq_true (by omega)
      rw [if_neg d, e]; rfl
theorem pz_change_L {F : Int → Int} {E G S : Nat → Int32} (hE : pz_row F 3 3 E) (hG : pz_row F 290 162 G) (hS : pz_row F 0 3 S) (hr : pz_rng F) {n : Nat} (hn : 20 ≤ n) {f t : Int} (hf : 0 ≤ f) (ht : t ≤ 9) : ∀ (c : Nat) (x best few : Int), f < x → x + c = t → -1 ≤ best → best < 10 → -1 ≤ few → few < 100 → ∀ k, c < k → s_X5_calmestChange_L10 n E G S (iI f) (iI t) k (iI best) (iI few) (iI x) = some (iI (pz_chg F f t c x best few).1) := by
  intro c
  induction c with
  | zero =>
    intro x best few hx hc h1 h2 h3 h4 k hk
    obtain ⟨k, rfl⟩ : ∃ z, k = z + 1 := ⟨k - 1, by omega⟩
    rw [s_X5_calmestChange_L10]
    simp (disch := omega) only [pz_iI_add, pz_iI_sub, pz_iI_mul, pz_iI_div, pz_iI_0, pz_iI_lt, pz_iI_le, pz_iI_eq, pz_gd_iI, pz_nI_iI, pz_chg]
    rw [if_pos (by omega)]
  | succ c ih =>
    intro x best few hx hc h1 h2 h3 h4 k hk
    obtain ⟨k, rfl⟩ : ∃ z, k = z + 1 := ⟨k - 1, by omega⟩
    have go := ih (x + 1) best few (by omega) (by omega) h1 h2 h3 h4 k (by omega)
    have q1 := pz_calm_rg F f x 18 0 (-1) 0 (by omega) (by omega) (by omega) (by omega)
    have q2 := pz_calm_rg F x t 18 0 (-1) 0 (by omega) (by omega) (by omega) (by omega)
    rw [s_X5_calmestChange_L10, pz_isNight_s hS hr (show 0 ≤ x by omega) (by omega), pz_calmest_s hE hG hr hn hf (show f ≤ x by omega) (by omega), pz_calmest_s hE hG hr hn (show 0 ≤ x by omega) (show x ≤ t by omega) ht]
    unfold pz_chg
    cases e : pz_ngt F x with
    | true =>
      rw [show pz_bi true = 1 from rfl]
      simp (disch := omega) only [pz_iI_add, pz_iI_sub, pz_iI_mul, pz_iI_div, pz_iI_0, pz_iI_lt, pz_iI_le, pz_iI_eq, pz_gd_iI, pz_nI_iI, Option.bind_some, if_true, if_false]
      rw [if_neg (by omega), if_neg (by omega), go]
    | false =>
      rw [show pz_bi false = 0 from rfl]
      simp (disch := omega) only [pz_iI_add, pz_iI_sub, pz_iI_mul, pz_iI_div, pz_iI_0, pz_iI_lt, pz_iI_le, pz_iI_eq, pz_gd_iI, pz_nI_iI, Option.bind_some]
      simp only [if_true]
      rw [if_neg (by omega), if_neg (show ¬ (false = true) by decide)]
      by_cases d1 : (pz_calm F f x 18 0 (-1) 0).1 = -1
      · rw [if_pos d1, if_pos d1, go]
      · rw [if_neg d1, if_neg d1]
        by_cases d2 : (pz_calm F x t 18 0 (-1) 0).1 = -1
        · rw [if_pos d2, if_pos d2, go]
        · have w1 := pz_wk_rg F (pz_calm F f x 18 0 (-1) 0).1 f x hf (by omega)
          have w2 := pz_wk_rg F (pz_calm F x t 18 0 (-1) 0).1 x t (by omega) ht
          rw [if_neg d2, if_neg d2, pz_wokenIn_s hG hr hn (show 0 ≤ (pz_calm F f x 18 0 (-1) 0).1 by omega) q1.2 hf (by omega) (by omega), pz_wokenIn_s hG hr hn (show 0 ≤ (pz_calm F x t 18 0 (-1) 0).1 by omega) q2.2 (by omega) (by omega) ht]
          simp (disch := omega) only [pz_iI_add, pz_iI_sub, pz_iI_mul, pz_iI_div, pz_iI_0, pz_iI_lt, pz_iI_le, pz_iI_eq, pz_gd_iI, pz_nI_iI, Option.bind_some]
          have go2 := ih (x + 1) x (pz_wk F (pz_calm F f x 18 0 (-1) 0).1 f x + pz_wk F (pz_calm F x t 18 0 (-1) 0).1 x t) (by omega) (by omega) (by omega) (by omega) (by omega) (by omega) k (by omega)
          by_cases d3 : best = -1
          · rw [if_pos d3, if_pos (Or.inl d3), go2]
          · rw [if_neg d3]
            by_cases d4 : few ≤ pz_wk F (pz_calm F f x 18 0 (-1) 0).1 f x + pz_wk F (pz_calm F x t 18 0 (-1) 0).1 x t
            · rw [if_pos d4, if_neg (by omega), go]
            · rw [if_neg d4, if_pos (by omega), go2]
theorem pz_change_s {F : Int → Int} {E G S : Nat → Int32} (hE : pz_row F 3 3 E) (hG : pz_row F 290 162 G) (hS : pz_row F 0 3 S) (hr : pz_rng F) {n : Nat} (hn : 20 ≤ n) {f t : Int} (hf : 0 ≤ f) (hft : f < t) (ht : t ≤ 9) : s_X5_calmestChange n E G S (iI f) (iI t) = some (iI (pz_chg F f t (t - (f + 1)).toNat (f + 1) (-1) 0).1) := by
  unfold s_X5_calmestChange
  rw [pz_iI_add]
  exact pz_change_L hE hG hS hr hn hf ht _ (f + 1) (-1) 0 (by omega) (by omega) (by omega) (by omega) (by omega) (by omega) n (by omega)
theorem pz_chg_rg (F : Int → Int) (f t : Int) (hf : 0 ≤ f) : ∀ (c : Nat) (x best few : Int), f < x → x + c ≤ t → (best = -1 ∨ (f < best ∧ best < t)) → ((pz_chg F f t c x best few).1 = -1 ∨ (f < (pz_chg F f t c x best few).1 ∧ (pz_chg F f t c x best few).1 < t)) := by
  intro c
  induction c with
  | zero => intro x best few h1 h2 h3; unfold pz_chg; exact h3
  | succ c ih =>
    intro x best few h1 h2 h3
    unfold pz_chg
    have a := ih (x + 1) best few (by omega) (by omega) h3
    split
    · exact a
    · split
      · exact a
      · split
        · exact a
        · split
          · exact ih (x + 1) x _ (by omega) (by omega) (Or.inr (by omega))
          · exact a
def pz_fnd (F : Int → Int) (f t : Int) (pz_thr : Bool) : Int × Int × Int :=
  if (pz_calm F f t 18 0 (-1) 0).1 ≠ -1 ∨ pz_thr = true then ((pz_calm F f t 18 0 (-1) 0).1, (pz_calm F f t 18 0 (-1) 0).1, -1)
  else if (pz_chg F f t (t - (f + 1)).toNat (f + 1) (-1) 0).1 = -1 then (-1, -1, -1)
  else ((pz_calm F f (pz_chg F f t (t - (f + 1)).toNat (f + 1) (-1) 0).1 18 0 (-1) 0).1, (pz_calm F (pz_chg F f t (t - (f + 1)).toNat (f + 1) (-1) 0).1 t 18 0 (-1) 0).1, (pz_chg F f t (t - (f + 1)).toNat (f + 1) (-1) 0).1)
theorem pz_findBerths_s {F : Int → Int} {E G S : Nat → Int32} (hE : pz_row F 3 3 E) (hG : pz_row F 290 162 G) (hS : pz_row F 0 3 S) (hr : pz_rng F) {n : Nat} (hn : 20 ≤ n) {f t : Int} (hf : 0 ≤ f) (hft : f < t) (ht : t ≤ 9) {pz_thr : Int32} : s_X5_findBerths n E G S (iI f) (iI t) pz_thr = some (iI (pz_fnd F f t (!decide (pz_thr = 0))).1, iI (pz_fnd F f t (!decide (pz_thr = 0))).2.1, iI (pz_fnd F f t (!decide (pz_thr = 0))).2.2) := by
  have q1 := pz_calm_rg F f t 18 0 (-1) 0 (by omega) (by omega) (by omega) (by omega)
  have q2 := pz_chg_rg F f t hf (t - (f + 1)).toNat (f + 1) (-1) 0 (by omega) (by omega) (Or.inl rfl)
  unfold s_X5_findBerths pz_fnd s_X2_init
  rw [pz_calmest_s hE hG hr hn hf (by omega) ht, pz_change_s hE hG hS hr hn hf hft ht]
  rw [Option.bind_some]
  by_cases d : (pz_calm F f t 18 0 (-1) 0).1 = -1
  · rw [if_pos (show iI (pz_calm F f t 18 0 (-1) 0).1 = iI (-1) by rw [d])]
    by_cases e : pz_thr = 0
    · rw [if_pos e, decide_eq_true e, if_neg (by simp [d]), Option.bind_some]
      by_cases d2 : (pz_chg F f t (t - (f + 1)).toNat (f + 1) (-1) 0).1 = -1
      · rw [if_pos (by rw [d2]), if_pos d2]; rfl
      · rw [if_neg (by rw [pz_iI_eq (by omega) (by omega) (by omega) (by omega)]; exact d2), if_neg d2, pz_calmest_s hE hG hr hn hf (by omega) (by omega), pz_calmest_s hE hG hr hn (by omega) (by omega) ht]
        rfl
    · rw [if_neg e, decide_eq_false e, if_pos (Or.inr (show (!false) = true from rfl))]; rfl
  · rw [if_neg (by rw [pz_iI_eq (by omega) (by omega) (by omega) (by omega)]; exact d), if_pos (Or.inl d)]; rfl
def pz_inn (F : Int → Int) (f t x : Int) : Nat → Int → Int × Int × Int × Int → Int × Int × Int × Int
  | 0, _, st => st
  | c + 1, b, st => if pz_till F b f < x ∨ pz_bestc F x t b 18 0 (-1) = -1 then pz_inn F f t x c (b + 1) st else if st.2.2.1 = -1 ∨ pz_wk F b f x + pz_wk F (pz_bestc F x t b 18 0 (-1)) x t < st.2.2.2 then pz_inn F f t x c (b + 1) (b, pz_bestc F x t b 18 0 (-1), x, pz_wk F b f x + pz_wk F (pz_bestc F x t b 18 0 (-1)) x t) else pz_inn F f t x c (b + 1) st
theorem pz_bestc_rg (F : Int → Int) (f t but : Int) : ∀ (c : Nat) (b found : Int), 0 ≤ b → b + c ≤ 18 → -1 ≤ found → found < 18 → -1 ≤ pz_bestc F f t but c b found ∧ pz_bestc F f t but c b found < 18 := by
  intro c
  induction c with
  | zero => intro b found h1 h2 h3 h4; exact ⟨h3, h4⟩
  | succ c ih =>
    intro b found h1 h2 h3 h4
    unfold pz_bestc
    split
    · exact ih _ _ (by omega) (by omega) h3 h4
    · split
      · exact ih _ _ (by omega) (by omega) (by omega) (by omega)
      · exact ih _ _ (by omega) (by omega) h3 h4
theorem pz_best_s {F : Int → Int} {A : Nat → Int32} (hA : pz_row F 0 452 A) (hr : pz_rng F) {n : Nat} (hn : 20 ≤ n) {f t but : Int} (hf : 0 ≤ f) (ht0 : f ≤ t) (ht : t ≤ 9) (hb0 : -1 ≤ but) (hb1 : but < 18) : s_X7_best n A (iI f) (iI t) (iI but) = some (iI (pz_bestc F f t but 18 0 (-1))) := by
  unfold s_X7_best
  exact pz_best_L hA hr hn hf ht0 ht hb0 hb1 18 0 (-1) (by omega) (by omega) (by omega) (by omega) n (by omega)
def pz_okst (st : Int × Int × Int × Int) : Prop := (-1 ≤ st.1 ∧ st.1 < 18) ∧ (-1 ≤ st.2.1 ∧ st.2.1 < 18) ∧ (-1 ≤ st.2.2.1 ∧ st.2.2.1 < 10) ∧ (-2147483648 ≤ st.2.2.2 ∧ st.2.2.2 < 2147483648)
theorem pz_inn_ok (F : Int → Int) (f t x : Int) (hf : 0 ≤ f) (hx : f ≤ x) (hxt : x ≤ t) (ht : t ≤ 9) : ∀ (c : Nat) (b : Int) (st : Int × Int × Int × Int), 0 ≤ b → b + c ≤ 18 → pz_okst st → pz_okst (pz_inn F f t x c b st) := by
  intro c
  induction c with
  | zero => intro b st h1 h2 h3; exact h3
  | succ c ih =>
    intro b st h1 h2 h3
    have q := pz_bestc_rg F x t b 18 0 (-1) (by omega) (by omega) (by omega) (by omega)
    have w1 := pz_wk_rg F b f x hf (by omega)
    have w2 := pz_wk_rg F (pz_bestc F x t b 18 0 (-1)) x t (by omega) ht
    unfold pz_inn
    split
    · exact ih _ _ (by omega) (by omega) h3
    · split
      · exact ih _ _ (by omega) (by omega) ⟨⟨by show -1 ≤ b; omega, by show b < 18; omega⟩, q, ⟨by show -1 ≤ x; omega, by show x < 10; omega⟩, ⟨by show -2147483648 ≤ pz_wk F b f x + pz_wk F (pz_bestc F x t b 18 0 (-1)) x t; omega, by show pz_wk F b f x + pz_wk F (pz_bestc F x t b 18 0 (-1)) x t < 2147483648; omega⟩⟩
      · exact ih _ _ (by omega) (by omega) h3
theorem pz_two_in {F : Int → Int} {A : Nat → Int32} (hA : pz_row F 0 452 A) (hr : pz_rng F) {n : Nat} (hn : 20 ≤ n) {f t x : Int} (hf : 0 ≤ f) (hx : f ≤ x) (hxt : x ≤ t) (ht : t ≤ 9) (hday : pz_ngt F x = false) (k : Nat) : ∀ (c : Nat) (b : Int) (st : Int × Int × Int × Int), 0 ≤ b → b + c = 18 → pz_okst st →
    (s_X7_findsTwo_L5 n A (iI f) (iI t) (k + 1 + c)).2 (iI st.1) (iI st.2.1) (iI st.2.2.1) (iI st.2.2.2) (iI x) (iI b) = (s_X7_findsTwo_L5 n A (iI f) (iI t) k).1 (iI (pz_inn F f t x c b st).1) (iI (pz_inn F f t x c b st).2.1) (iI (pz_inn F f t x c b st).2.2.1) (iI (pz_inn F f t x c b st).2.2.2) (iI (x + 1)) := by
  intro c
  induction c with
  | zero =>
    intro b st hb hc hst
    rw [show k + 1 + 0 = k + 1 from rfl, s_X7_findsTwo_L5]
    dsimp only
    rw [if_pos (by rw [pz_iI_le (by omega) (by omega) (by omega) (by omega)]; omega), pz_iI_add, pz_inn]
  | succ c ih =>
    intro b st hb hc hst
    have hst2 := hst
    obtain ⟨h1, h2, h3, h4⟩ := hst2
    have q := pz_bestc_rg F x t b 18 0 (-1) (by omega) (by omega) (by omega) (by omega)
    have w1 := pz_wk_rg F b f x hf (by omega)
    have w2 := pz_wk_rg F (pz_bestc F x t b 18 0 (-1)) x t (by omega) ht
    have go := ih (b + 1) st (by omega) (by omega) hst
    rw [show k + 1 + (c + 1) = (k + 1 + c) + 1 by omega, s_X7_findsTwo_L5]
    dsimp only
    rw [pz_isNight_m hA hr (show 0 ≤ x by omega) (by omega), hday, pz_isFree_s hA hr hn hb (by omega) hf hx (by omega), pz_best_s hA hr hn (show 0 ≤ x by omega) hxt ht (show -1 ≤ b by omega) (by omega), pz_fre_till F b f x hx (by omega), pz_wakes_s hA hr hn hb (by omega) hf hx (by omega)]
    rw [show pz_bi false = 0 from rfl]
    simp (disch := omega) only [pz_iI_add, pz_iI_sub, pz_iI_mul, pz_iI_div, pz_iI_0, pz_iI_lt, pz_iI_le, pz_iI_eq, pz_gd_iI, pz_nI_iI, Option.bind_some, if_true]
    rw [if_neg (by omega)]
    unfold pz_inn
    by_cases d : pz_till F b f < x
    · rw [decide_eq_true d, show pz_bi (!true) = 0 from rfl, if_pos rfl, if_pos (Or.inl d), go]
    · rw [decide_eq_false d, show pz_bi (!false) = 1 from rfl, if_neg (show ¬ iI 1 = iI 0 by decide)]
      by_cases d2 : pz_bestc F x t b 18 0 (-1) = -1
      · rw [if_pos d2, if_pos d2, if_pos (Or.inr d2), go]
      · rw [if_neg d2, if_neg (fun q => q.elim d d2), pz_wakes_s hA hr hn (show 0 ≤ pz_bestc F x t b 18 0 (-1) by omega) q.2 (by omega) hxt ht]
        simp (disch := omega) only [pz_iI_add, pz_iI_sub, pz_iI_mul, pz_iI_div, pz_iI_0, pz_iI_lt, pz_iI_le, pz_iI_eq, pz_gd_iI, pz_nI_iI, Option.bind_some]
        rw [if_neg d2]
        have hst3 : pz_okst (b, pz_bestc F x t b 18 0 (-1), x, pz_wk F b f x + pz_wk F (pz_bestc F x t b 18 0 (-1)) x t) := ⟨⟨by show -1 ≤ b; omega, by show b < 18; omega⟩, q, ⟨by show -1 ≤ x; omega, by show x < 10; omega⟩, ⟨by show -2147483648 ≤ pz_wk F b f x + pz_wk F (pz_bestc F x t b 18 0 (-1)) x t; omega, by show pz_wk F b f x + pz_wk F (pz_bestc F x t b 18 0 (-1)) x t < 2147483648; omega⟩⟩
        have go2 := ih (b + 1) _ (by omega) (by omega) hst3
        by_cases d3 : st.2.2.1 = -1
        · rw [if_pos d3, if_pos (Or.inl d3)]; exact go2
        · rw [if_neg d3]
          by_cases d4 : st.2.2.2 ≤ pz_wk F b f x + pz_wk F (pz_bestc F x t b 18 0 (-1)) x t
          · rw [if_pos d4, if_neg (by omega), go]
          · rw [if_neg d4, if_pos (by omega)]; exact go2
def pz_mix (st : Int × Int × Int × Int) (r x wr pb pf : Int) : Int × Int × Int × Int := if pb ≠ -1 ∧ (st.2.2.1 = -1 ∨ pf + wr < st.2.2.2) then (pb, r, x, pf + wr) else st
theorem pz_inn_mix (F : Int → Int) (f t x : Int) (hx0 : 0 ≤ x) (hr0 : (pz_calm F x t 18 0 (-1) 0).1 ≠ -1) (hfx : f ≤ x) (hx9 : x ≤ 9) (hxt : x ≤ t) (hno : ∀ z, 0 ≤ z → z < 18 → pz_till F z f < t) (st : Int × Int × Int × Int) : ∀ (c : Nat) (b pb pf : Int), 0 ≤ b → b + c = 18 →
    pz_inn F f t x c b (pz_mix st (pz_calm F x t 18 0 (-1) 0).1 x (pz_wk F (pz_calm F x t 18 0 (-1) 0).1 x t) pb pf) = pz_mix st (pz_calm F x t 18 0 (-1) 0).1 x (pz_wk F (pz_calm F x t 18 0 (-1) 0).1 x t) (pz_calm F f x c b pb pf).1 (pz_calm F f x c b pb pf).2 := by
  intro c
  generalize hr : (pz_calm F x t 18 0 (-1) 0).1 = r at hr0 ⊢
  generalize hw : pz_wk F r x t = wr
  induction c with
  | zero => intro b pb pf hb hc; rfl
  | succ c ih =>
    intro b pb pf hb hc
    unfold pz_inn pz_calm
    by_cases d : pz_till F b f < x
    · rw [if_pos (Or.inl d), if_pos d, ih (b + 1) pb pf (by omega) (by omega)]
    · have e1 : pz_till F b x = pz_till F b f := pz_till_skip F b f x hfx hx9 (by omega)
      have e2 : pz_bestc F x t b 18 0 (-1) = r := by
        rw [pz_best_calm F x t b (by rw [e1]; exact hno b hb (by omega)) 18 0 (-1) 0 (by omega) (fun q => absurd rfl q), hr]
      rw [e2, hw, if_neg (fun q => q.elim d hr0), if_neg d]
      by_cases c1 : pb = -1
      · rw [if_pos (Or.inl c1)]
        have m1 : pz_mix st r x wr pb pf = st := by unfold pz_mix; rw [if_neg (fun q => q.1 c1)]
        rw [m1]
        by_cases c2 : st.2.2.1 = -1 ∨ pz_wk F b f x + wr < st.2.2.2
        · rw [if_pos c2]
          have m2 : pz_mix st r x wr b (pz_wk F b f x) = (b, r, x, pz_wk F b f x + wr) := by unfold pz_mix; rw [if_pos ⟨by omega, c2⟩]
          rw [← m2, ih (b + 1) b _ (by omega) (by omega)]
        · rw [if_neg c2]
          have m2 : pz_mix st r x wr b (pz_wk F b f x) = st := by unfold pz_mix; rw [if_neg (fun q => c2 q.2)]
          conv => lhs; rw [← m2]
          rw [ih (b + 1) b _ (by omega) (by omega)]
      · by_cases c3 : st.2.2.1 = -1 ∨ pf + wr < st.2.2.2
        · have m1 : pz_mix st r x wr pb pf = (pb, r, x, pf + wr) := by unfold pz_mix; rw [if_pos ⟨c1, c3⟩]
          rw [m1]
          by_cases c4 : pz_wk F b f x < pf
          · rw [if_pos (Or.inr (by show pz_wk F b f x + wr < pf + wr; omega)), if_pos (Or.inr c4)]
            have m2 : pz_mix st r x wr b (pz_wk F b f x) = (b, r, x, pz_wk F b f x + wr) := by unfold pz_mix; rw [if_pos ⟨by omega, by omega⟩]
            rw [← m2, ih (b + 1) b _ (by omega) (by omega)]
          · rw [if_neg (fun q => q.elim (fun z => by have z2 : x = -1 := z; omega) (fun z => by have z2 : pz_wk F b f x + wr < pf + wr := z; omega)), if_neg (fun q => q.elim c1 c4), ← m1, ih (b + 1) pb pf (by omega) (by omega)]
        · have m1 : pz_mix st r x wr pb pf = st := by unfold pz_mix; rw [if_neg (fun q => c3 q.2)]
          rw [m1]
          by_cases c4 : pz_wk F b f x < pf
          · rw [if_pos (Or.inr c4)]
            by_cases c2 : st.2.2.1 = -1 ∨ pz_wk F b f x + wr < st.2.2.2
            · rw [if_pos c2]
              have m2 : pz_mix st r x wr b (pz_wk F b f x) = (b, r, x, pz_wk F b f x + wr) := by unfold pz_mix; rw [if_pos ⟨by omega, c2⟩]
              rw [← m2, ih (b + 1) b _ (by omega) (by omega)]
            · rw [if_neg c2]
              have m2 : pz_mix st r x wr b (pz_wk F b f x) = st := by unfold pz_mix; rw [if_neg (fun q => c2 q.2)]
              conv => lhs; rw [← m2]
              rw [ih (b + 1) b _ (by omega) (by omega)]
          · rw [if_neg (by omega), if_neg (fun q => q.elim c1 c4)]
            conv => lhs; rw [← m1]
            rw [ih (b + 1) pb pf (by omega) (by omega)]
def pz_out (F : Int → Int) (f t : Int) : Nat → Int → Int × Int × Int × Int → Int × Int × Int × Int
  | 0, _, st => st
  | c + 1, x, st => if pz_ngt F x = true then pz_out F f t c (x + 1) st else pz_out F f t c (x + 1) (pz_inn F f t x 18 0 st)
theorem pz_two_out {F : Int → Int} {A : Nat → Int32} (hA : pz_row F 0 452 A) (hr : pz_rng F) {n : Nat} (hn : 20 ≤ n) {f t : Int} (hf : 0 ≤ f) (ht : t ≤ 9) : ∀ (c : Nat) (x : Int) (st : Int × Int × Int × Int), f < x → x + c = t → pz_okst st → ∀ k, 20 * c < k →
    (s_X7_findsTwo_L5 n A (iI f) (iI t) k).1 (iI st.1) (iI st.2.1) (iI st.2.2.1) (iI st.2.2.2) (iI x) = some (iI (pz_bi (pz_isB ((pz_out F f t c x st).2.2.1))), iI (pz_out F f t c x st).1, iI (pz_out F f t c x st).2.1, iI (pz_out F f t c x st).2.2.1, iI (pz_out F f t c x st).2.2.2) := by
  intro c
  induction c with
  | zero =>
    intro x st hx hc hst k hk
    obtain ⟨k, rfl⟩ : ∃ z, k = z + 1 := ⟨k - 1, by omega⟩
    obtain ⟨h1, h2, h3, h4⟩ := hst
    rw [s_X7_findsTwo_L5]
    dsimp only
    simp (disch := omega) only [pz_iI_add, pz_iI_sub, pz_iI_mul, pz_iI_div, pz_iI_0, pz_iI_lt, pz_iI_le, pz_iI_eq, pz_gd_iI, pz_nI_iI, pz_out]
    rw [if_pos (by omega)]
    by_cases d : st.2.2.1 = -1
    · rw [if_pos d, pz_isB_no d]; rfl
    · rw [if_neg d, pz_isB_yes d]; rfl
  | succ c ih =>
    intro x st hx hc hst k hk
    have hst2 := hst
    obtain ⟨h1, h2, h3, h4⟩ := hst2
    obtain ⟨k, rfl⟩ : ∃ z, k = z + 20 := ⟨k - 20, by omega⟩
    rw [show k + 20 = (k + 19) + 1 from rfl, s_X7_findsTwo_L5]
    dsimp only
    simp (disch := omega) only [pz_iI_add, pz_iI_sub, pz_iI_mul, pz_iI_div, pz_iI_0, pz_iI_lt, pz_iI_le, pz_iI_eq, pz_gd_iI, pz_nI_iI]
    rw [if_neg (by omega)]
    unfold pz_out
    cases e : pz_ngt F x with
    | true =>
      rw [show k + 19 = (k + 18) + 1 from rfl, s_X7_findsTwo_L5]
      dsimp only
      rw [pz_isNight_m hA hr (show 0 ≤ x by omega) (by omega), e, show pz_bi true = 1 from rfl]
      rw [if_neg (show ¬ iI 18 ≤ iI 0 by decide), Option.bind_some, if_neg (show ¬ iI 1 = 0 by decide), pz_iI_add]
      exact ih (x + 1) st (by omega) (by omega) hst (k + 18) (by omega)
    | false =>
      rw [if_neg (by simp)]
      have q := pz_two_in hA hr hn hf (show f ≤ x by omega) (show x ≤ t by omega) ht e k 18 0 st (by omega) (by omega) hst
      rw [show k + 1 + 18 = k + 19 from rfl] at q
      rw [q]
      exact ih (x + 1) _ (by omega) (by omega) (pz_inn_ok F f t x hf (by omega) (by omega) ht 18 0 st (by omega) (by omega) hst) k (by omega)
theorem pz_wk_calm_few (F : Int → Int) (f x : Int) (h : (pz_calm F f x 18 0 (-1) 0).1 ≠ -1) : (pz_calm F f x 18 0 (-1) 0).2 = pz_wk F (pz_calm F f x 18 0 (-1) 0).1 f x := ((pz_calm_spec F f x 18 0 (-1) 0 (by omega) (fun q => absurd rfl q)).1 h).2
theorem pz_inn_step (F : Int → Int) (f t x : Int) (hx0 : 0 < x) (hf : 0 ≤ f) (hfx : f ≤ x) (hx9 : x ≤ 9) (hxt : x ≤ t) (ht : t ≤ 9) (hno : ∀ z, 0 ≤ z → z < 18 → pz_till F z f < t) (st : Int × Int × Int × Int) :
    pz_inn F f t x 18 0 st = if (pz_calm F f x 18 0 (-1) 0).1 = -1 then st else if (pz_calm F x t 18 0 (-1) 0).1 = -1 then st else if st.2.2.1 = -1 ∨ pz_wk F (pz_calm F f x 18 0 (-1) 0).1 f x + pz_wk F (pz_calm F x t 18 0 (-1) 0).1 x t < st.2.2.2 then ((pz_calm F f x 18 0 (-1) 0).1, (pz_calm F x t 18 0 (-1) 0).1, x, pz_wk F (pz_calm F f x 18 0 (-1) 0).1 f x + pz_wk F (pz_calm F x t 18 0 (-1) 0).1 x t) else st := by
  by_cases d : (pz_calm F x t 18 0 (-1) 0).1 = -1
  · have key : ∀ (c : Nat) (b : Int), 0 ≤ b → b + c = 18 → pz_inn F f t x c b st = st := by
      intro c
      induction c with
      | zero => intro b h1 h2; rfl
      | succ c ih =>
        intro b h1 h2
        unfold pz_inn
        by_cases e : pz_till F b f < x
        · rw [if_pos (Or.inl e)]; exact ih (b + 1) (by omega) (by omega)
        · have e1 : pz_till F b x = pz_till F b f := pz_till_skip F b f x hfx hx9 (by omega)
          have e2 : pz_bestc F x t b 18 0 (-1) = -1 := by
            rw [pz_best_calm F x t b (by rw [e1]; exact hno b h1 (by omega)) 18 0 (-1) 0 (by omega) (fun q => absurd rfl q), d]
          rw [if_pos (Or.inr e2)]; exact ih (b + 1) (by omega) (by omega)
    rw [key 18 0 (by omega) (by omega), if_pos d]
    split <;> rfl
  · have q := pz_inn_mix F f t x (by omega) d hfx hx9 hxt hno st 18 0 (-1) 0 (by omega) (by omega)
    have m : pz_mix st (pz_calm F x t 18 0 (-1) 0).1 x (pz_wk F (pz_calm F x t 18 0 (-1) 0).1 x t) (-1) 0 = st := by unfold pz_mix; rw [if_neg (fun q => q.1 rfl)]
    rw [m] at q
    rw [q, if_neg d]
    unfold pz_mix
    by_cases a : (pz_calm F f x 18 0 (-1) 0).1 = -1
    · rw [if_pos a, if_neg (fun q => q.1 a)]
    · rw [if_neg a, pz_wk_calm_few F f x a]
      by_cases b : st.2.2.1 = -1 ∨ pz_wk F (pz_calm F f x 18 0 (-1) 0).1 f x + pz_wk F (pz_calm F x t 18 0 (-1) 0).1 x t < st.2.2.2
      · rw [if_pos ⟨a, b⟩, if_pos b]
      · rw [if_neg (fun q => b q.2), if_neg b]
theorem pz_out_chg (F : Int → Int) (f t : Int) (hf : 0 ≤ f) (ht : t ≤ 9) (hno : ∀ z, 0 ≤ z → z < 18 → pz_till F z f < t) : ∀ (c : Nat) (x best few : Int) (st : Int × Int × Int × Int), f < x → x + c = t → st.2.2.1 = best → (best ≠ -1 → st.2.2.2 = few ∧ st.1 = (pz_calm F f best 18 0 (-1) 0).1 ∧ st.2.1 = (pz_calm F best t 18 0 (-1) 0).1) →
    (pz_out F f t c x st).2.2.1 = (pz_chg F f t c x best few).1 ∧ ((pz_chg F f t c x best few).1 ≠ -1 → (pz_out F f t c x st).2.2.2 = (pz_chg F f t c x best few).2 ∧ (pz_out F f t c x st).1 = (pz_calm F f (pz_chg F f t c x best few).1 18 0 (-1) 0).1 ∧ (pz_out F f t c x st).2.1 = (pz_calm F (pz_chg F f t c x best few).1 t 18 0 (-1) 0).1) := by
  intro c
  induction c with
  | zero => intro x best few st h1 h2 h3 h4; exact ⟨h3, h4⟩
  | succ c ih =>
    intro x best few st h1 h2 h3 h4
    unfold pz_out pz_chg
    by_cases e : pz_ngt F x = true
    · rw [if_pos e, if_pos e]; exact ih (x + 1) best few st (by omega) (by omega) h3 h4
    · rw [if_neg e, if_neg e, pz_inn_step F f t x (by omega) hf (by omega) (by omega) (by omega) ht hno st]
      by_cases a : (pz_calm F f x 18 0 (-1) 0).1 = -1
      · rw [if_pos a, if_pos a]; exact ih (x + 1) best few st (by omega) (by omega) h3 h4
      · rw [if_neg a, if_neg a]
        by_cases b : (pz_calm F x t 18 0 (-1) 0).1 = -1
        · rw [if_pos b, if_pos b]; exact ih (x + 1) best few st (by omega) (by omega) h3 h4
        · rw [if_neg b, if_neg b]
          by_cases g : best = -1
          · rw [if_pos (Or.inl (h3.trans g)), if_pos (Or.inl g)]
            exact ih (x + 1) x _ _ (by omega) (by omega) rfl (fun _ => ⟨rfl, rfl, rfl⟩)
          · have h5 := h4 g
            rw [h3, h5.1]
            by_cases w : pz_wk F (pz_calm F f x 18 0 (-1) 0).1 f x + pz_wk F (pz_calm F x t 18 0 (-1) 0).1 x t < few
            · rw [if_pos (Or.inr w), if_pos (Or.inr w)]
              exact ih (x + 1) x _ _ (by omega) (by omega) rfl (fun _ => ⟨rfl, rfl, rfl⟩)
            · rw [if_neg (fun q => q.elim g w), if_neg (fun q => q.elim g w)]
              exact ih (x + 1) best few st (by omega) (by omega) h3 h4
def pz_fwk (F : Int → Int) (f t : Int) (r : Int × Int × Int) : Int := if r.2.2 = -1 then pz_wk F r.1 f t else pz_wk F r.1 f r.2.2 + pz_wk F r.2.1 r.2.2 t
theorem pz_calm2_rg (F : Int → Int) (f t : Int) (hf : 0 ≤ f) (ht : t ≤ 9) : ∀ (c : Nat) (b best few : Int), (-2147483648 ≤ few ∧ few < 2147483648) → -2147483648 ≤ (pz_calm F f t c b best few).2 ∧ (pz_calm F f t c b best few).2 < 2147483648 := by
  intro c
  induction c with
  | zero => intro b best few h; exact h
  | succ c ih =>
    intro b best few h
    have q := pz_wk_rg F b f t hf ht
    unfold pz_calm
    split
    · exact ih _ _ _ h
    · split
      · exact ih _ _ _ (by omega)
      · exact ih _ _ _ h
theorem pz_out_chg_few (F : Int → Int) (f t : Int) : ∀ (c : Nat) (x best few : Int), (best ≠ -1 → few = pz_wk F (pz_calm F f best 18 0 (-1) 0).1 f best + pz_wk F (pz_calm F best t 18 0 (-1) 0).1 best t) → (pz_chg F f t c x best few).1 ≠ -1 → (pz_chg F f t c x best few).2 = pz_wk F (pz_calm F f (pz_chg F f t c x best few).1 18 0 (-1) 0).1 f (pz_chg F f t c x best few).1 + pz_wk F (pz_calm F (pz_chg F f t c x best few).1 t 18 0 (-1) 0).1 (pz_chg F f t c x best few).1 t := by
  intro c
  induction c with
  | zero => intro x best few h g; exact h g
  | succ c ih =>
    intro x best few h
    unfold pz_chg
    split
    · exact ih _ _ _ h
    · split
      · exact ih _ _ _ h
      · split
        · exact ih _ _ _ h
        · split
          · exact ih _ _ _ (fun _ => rfl)
          · exact ih _ _ _ h
theorem pz_out_ok (F : Int → Int) (f t : Int) (hf : 0 ≤ f) (ht : t ≤ 9) : ∀ (c : Nat) (x : Int) (st : Int × Int × Int × Int), f < x → x + c = t → pz_okst st → pz_okst (pz_out F f t c x st) := by
  intro c
  induction c with
  | zero => intro x st h1 h2 h3; exact h3
  | succ c ih =>
    intro x st h1 h2 h3
    unfold pz_out
    split
    · exact ih _ _ (by omega) (by omega) h3
    · exact ih _ _ (by omega) (by omega) (pz_inn_ok F f t x hf (by omega) (by omega) ht 18 0 st (by omega) (by omega) h3)
theorem pz_chg_ok (F : Int → Int) (f t : Int) : ∀ (c : Nat) (x best few : Int), (best ≠ -1 → (pz_calm F f best 18 0 (-1) 0).1 ≠ -1 ∧ (pz_calm F best t 18 0 (-1) 0).1 ≠ -1 ∧ pz_ngt F best = false) → (pz_chg F f t c x best few).1 ≠ -1 → (pz_calm F f (pz_chg F f t c x best few).1 18 0 (-1) 0).1 ≠ -1 ∧ (pz_calm F (pz_chg F f t c x best few).1 t 18 0 (-1) 0).1 ≠ -1 ∧ pz_ngt F (pz_chg F f t c x best few).1 = false := by
  intro c
  induction c with
  | zero => intro x best few h g; exact h g
  | succ c ih =>
    intro x best few h
    unfold pz_chg
    split
    · exact ih _ _ _ h
    · split
      · exact ih _ _ _ h
      · split
        · exact ih _ _ _ h
        · split
          · next h1 h2 h3 h4 => exact ih _ _ _ (fun _ => ⟨h2, h3, by simpa using h1⟩)
          · exact ih _ _ _ h
abbrev pz_cm (F : Int → Int) (f t : Int) : Int := (pz_calm F f t 18 0 (-1) 0).1
abbrev pz_cx (F : Int → Int) (f t : Int) : Int := (pz_chg F f t (t - (f + 1)).toNat (f + 1) (-1) 0).1
theorem pz_fnd_one {F : Int → Int} {f t : Int} {pz_thr : Bool} (h : pz_cm F f t ≠ -1) : pz_fnd F f t pz_thr = (pz_cm F f t, pz_cm F f t, -1) := by
  unfold pz_fnd; rw [if_pos (Or.inl h)]
theorem pz_fnd_thr {F : Int → Int} {f t : Int} (h : pz_cm F f t = -1) : pz_fnd F f t true = (-1, -1, -1) := by
  unfold pz_fnd; rw [if_pos (Or.inr rfl)]; unfold pz_cm at h; rw [h]
theorem pz_fnd_no {F : Int → Int} {f t : Int} {pz_thr : Bool} (h : pz_cm F f t = -1) (h2 : pz_cx F f t = -1) : pz_fnd F f t pz_thr = (-1, -1, -1) := by
  cases pz_thr with
  | true => exact pz_fnd_thr h
  | false => unfold pz_fnd; rw [if_neg (fun x => x.elim (fun y => y h) (fun y => by cases y)), if_pos h2]
theorem pz_fnd_two {F : Int → Int} {f t : Int} (h : pz_cm F f t = -1) (h2 : pz_cx F f t ≠ -1) : pz_fnd F f t false = (pz_cm F f (pz_cx F f t), pz_cm F (pz_cx F f t) t, pz_cx F f t) := by
  unfold pz_fnd; rw [if_neg (fun x => x.elim (fun y => y h) (fun y => by cases y)), if_neg h2]
theorem pz_finds_m {F : Int → Int} {A : Nat → Int32} (hA : pz_row F 0 452 A) (hr : pz_rng F) {n : Nat} (hn : 300 ≤ n) {f t : Int} (hf : 0 ≤ f) (hft : f < t) (ht : t ≤ 9) (on ot ch : Int32) {w : Int} (hw : -2147483648 ≤ w) (hw2 : w < 2147483648) (pz_thr : Int32) :
    ∃ (o1 o2 o3 : Int32) (w2 : Int), s_X7_finds n on ot ch (iI w) A (iI f) (iI t) pz_thr = some (iI (pz_bi (pz_isB (pz_fnd F f t (!decide (pz_thr = 0))).1)), o1, o2, o3, iI w2) ∧ (-2147483648 ≤ w2 ∧ w2 < 2147483648) ∧
      ((pz_fnd F f t (!decide (pz_thr = 0))).1 ≠ -1 → o1 = iI (pz_fnd F f t (!decide (pz_thr = 0))).1 ∧ o2 = iI (pz_fnd F f t (!decide (pz_thr = 0))).2.1 ∧ o3 = iI (pz_fnd F f t (!decide (pz_thr = 0))).2.2 ∧ w2 = pz_fwk F f t (pz_fnd F f t (!decide (pz_thr = 0)))) := by
  have e0 := pz_calm_few F f t 18 0 0 w (by omega)
  have r1 := pz_calm_rg F f t 18 0 (-1) w (by omega) (by omega) (by omega) (by omega)
  have r2 := pz_calm2_rg F f t hf ht 18 0 (-1) w ⟨hw, hw2⟩
  have s1 := pz_calm_spec F f t 18 0 (-1) w (by omega) (fun q => absurd rfl q)
  unfold s_X7_finds
  rw [pz_findsOne_s hA hr (by omega) hf (by omega) ht on ot ch hw hw2]
  rw [Option.bind_some]
  generalize pz_calm F f t 18 0 (-1) w = C at *
  obtain ⟨C1, C2⟩ := C
  dsimp only at *
  by_cases d : C1 = -1
  · have d0 : pz_cm F f t = -1 := e0.1.trans d
    have hno : ∀ z, 0 ≤ z → z < 18 → pz_till F z f < t := fun z h1 h2 => (s1.2 d).2 z h1 (by omega)
    rw [pz_isB_no d]
    rw [show iI (pz_bi false) = 0 from rfl, if_pos rfl]
    by_cases e : pz_thr = 0
    · rw [if_pos e, decide_eq_true e]
      have ok : pz_okst (C1, C1, -1, C2) := ⟨r1, r1, ⟨by show (-1 : Int) ≤ -1; omega, by show (-1 : Int) < 10; omega⟩, r2⟩
      have q := pz_two_out hA hr (show 20 ≤ n by omega) hf ht (t - (f + 1)).toNat (f + 1) _ (by omega) (by omega) ok n (by omega)
      unfold s_X7_findsTwo
      rw [pz_iI_add]
      have q2 := pz_out_chg F f t hf ht hno (t - (f + 1)).toNat (f + 1) (-1) 0 (C1, C1, -1, C2) (by omega) (by omega) rfl (fun x => absurd rfl x)
      have q3 := pz_out_ok F f t hf ht (t - (f + 1)).toNat (f + 1) (C1, C1, -1, C2) (by omega) (by omega) ok
      have q4 := pz_chg_ok F f t (t - (f + 1)).toNat (f + 1) (-1) 0 (fun x => absurd rfl x)
      dsimp only at q
      rw [q, Option.bind_some]
      generalize pz_out F f t (t - (f + 1)).toNat (f + 1) (C1, C1, -1, C2) = O at *
      obtain ⟨O1, O2, O3, O4⟩ := O
      dsimp only at *
      by_cases g : pz_cx F f t = -1
      · rw [pz_isB_no (show O3 = -1 from q2.1.trans g), show iI (pz_bi false) = 0 from rfl, if_pos rfl, show (!true) = false from rfl, pz_fnd_no d0 g]
        exact ⟨_, _, _, _, rfl, q3.2.2.2, fun x => absurd rfl x⟩
      · have g2 := q2.2 g
        have g3 := q4 g
        rw [pz_isB_yes (show ¬ O3 = -1 from fun x => g (q2.1.symm.trans x)), if_neg (show ¬ iI (pz_bi true) = 0 by decide), show (!true) = false from rfl, pz_fnd_two d0 g]
        rw [pz_isB_yes (show ¬ (pz_cm F f (pz_cx F f t), pz_cm F (pz_cx F f t) t, pz_cx F f t).1 = -1 from g3.1)]
        refine ⟨_, _, _, _, rfl, q3.2.2.2, fun _ => ⟨by rw [g2.2.1], by rw [g2.2.2], by rw [q2.1], ?_⟩⟩
        rw [g2.1]
        unfold pz_fwk
        rw [if_neg g]
        have hc := pz_out_chg_few F f t (t - (f + 1)).toNat (f + 1) (-1) 0 (fun x => absurd rfl x) g
        exact hc
    · rw [if_neg e, decide_eq_false e, show (!false) = true from rfl, pz_fnd_thr d0]
      exact ⟨_, _, _, _, rfl, r2, fun x => absurd rfl x⟩
  · have d0 : ¬ pz_cm F f t = -1 := fun x => d (e0.1.symm.trans x)
    rw [pz_isB_yes d]
    rw [if_neg (show ¬ iI (pz_bi true) = 0 by decide)]
    rw [pz_fnd_one d0, pz_isB_yes (show ¬ (pz_cm F f t, pz_cm F f t, (-1 : Int)).1 = -1 from d0)]
    refine ⟨_, _, _, _, rfl, r2, fun _ => ⟨by rw [← e0.1], by rw [← e0.1], rfl, ?_⟩⟩
    unfold pz_fwk
    rw [if_pos rfl, (s1.1 d).2, ← e0.1]
