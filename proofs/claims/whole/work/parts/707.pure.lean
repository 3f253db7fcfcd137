def pz_cd (X : Int → Int) (t i : Int) : Int := if 0 ≤ i ∧ i < t then X i else -1
def pz_okT (X : Int → Int) (t : Int) : Prop := 0 ≤ t ∧ t ≤ 60 ∧ ∀ j, 0 ≤ j → j < t → 33 ≤ X j ∧ X j ≤ 126
theorem pz_cd_in {X : Int → Int} {t i : Int} (h : 0 ≤ i) (h2 : i < t) : pz_cd X t i = X i := if_pos ⟨h, h2⟩
theorem pz_codeAt_a {X : Int → Int} {t i : Int} (ht : 0 ≤ t ∧ t ≤ 60) (h0 : -1000 ≤ i) (h1 : i < 1000) : s_X4_codeAt (iI t) (pz_ar X 0 60) (iI i) = some (iI (pz_cd X t i)) := by
  unfold s_X4_codeAt pz_cd
  by_cases a : t ≤ i
  · rw [if_pos (by rw [pz_iI_le (by omega) (by omega) (by omega) (by omega)]; exact a), if_neg (by omega)]
  · rw [if_neg (by rw [pz_iI_le (by omega) (by omega) (by omega) (by omega)]; exact a)]
    by_cases b : 0 ≤ i
    · rw [pz_read_a (by decide) b (by omega), if_pos (by omega), show 0 + i = i by omega]; rfl
    · unfold s_X6_read
      rw [if_pos (show iI i < 0 by rw [pz_iI_0, pz_iI_lt (by omega) (by omega) (by omega) (by omega)]; omega), Option.bind_some, if_neg (show ¬ (0 ≤ i ∧ i < t) by omega)]
def pz_fitP (X : Int → Int) (t d i : Int) : Prop := (d = 0 ∧ 48 ≤ X i ∧ X i ≤ 56) ∨ (d = 1 ∧ X i = 45) ∨ (d = 2 ∧ pz_cd X t (i - 2) < X i ∧ X i ≤ 57) ∨ (d = 3 ∧ (X i = 33 ∨ X i = 59)) ∨ (3 < d ∧ X i = 59)
theorem pz_cd_rg {X : Int → Int} {t : Int} (h : pz_okT X t) (i : Int) : -1 ≤ pz_cd X t i ∧ pz_cd X t i ≤ 126 := by
  unfold pz_cd
  split
  · next g => have := h.2.2 i g.1 g.2; omega
  · omega
theorem pz_fits_a {X : Int → Int} {t : Int} (h : pz_okT X t) {d i : Int} (hd : 0 ≤ d) (hd2 : d < 100) (h0 : 0 ≤ i) (h1 : i < t) : (pz_fitP X t d i → s_X4_fits (iI t) (pz_ar X 0 60) (iI i) (iI d) = some (iI 1)) ∧ (¬ pz_fitP X t d i → s_X4_fits (iI t) (pz_ar X 0 60) (iI i) (iI d) = some (iI 0)) := by
  have r := h.2.2 i h0 h1
  have r2 := pz_cd_rg h (i - 2)
  have t6 := h.2.1
  unfold s_X4_fits pz_fitP
  rw [pz_codeAt_a ⟨h.1, h.2.1⟩ (by omega) (by omega), pz_cd_in h0 h1, pz_iI_sub, pz_codeAt_a ⟨h.1, h.2.1⟩ (by omega) (by omega)]
  simp (disch := omega) only [pz_iI_add, pz_iI_sub, pz_iI_mul, pz_iI_div, pz_iI_0, pz_iI_lt, pz_iI_le, pz_iI_eq, pz_gd_iI, pz_nI_iI, if_true, if_false, Option.bind_some, ite_self, reduceCtorEq]
  constructor
  · intro g
    repeat' split
    all_goals first | rfl | (exfalso; omega)
  · intro g
    repeat' split
    all_goals first | rfl | (exfalso; omega)
theorem pz_ff_end {X : Int → Int} {t : Int} (h : 0 ≤ t ∧ t ≤ 60) (n k : Nat) {p i : Int} (h1 : t ≤ i) (h2 : i < 1000) : s_X4_firstFault_L4 n (iI t) (pz_ar X 0 60) (k + 1) (iI p) (iI i) = some (iI t) := by
  rw [s_X4_firstFault_L4, if_pos (by rw [pz_iI_le (by omega) (by omega) (by omega) (by omega)]; exact h1)]
theorem pz_ff_bad {X : Int → Int} {t : Int} (h : pz_okT X t) (n k : Nat) {p i : Int} (hp : p ≤ i) (hp0 : 0 ≤ p) (h1 : i < t) (g : ¬ pz_fitP X t (i - p) i) : s_X4_firstFault_L4 n (iI t) (pz_ar X 0 60) (k + 1) (iI p) (iI i) = some (iI i) := by
  have t6 := h.2.1
  rw [s_X4_firstFault_L4, if_neg (by rw [pz_iI_le (by omega) (by omega) (by omega) (by omega)]; omega), pz_iI_sub, (pz_fits_a h (by omega) (by omega) (by omega) h1).2 g, Option.bind_some, if_pos (by decide)]
theorem pz_ff_ok {X : Int → Int} {t : Int} (h : pz_okT X t) (n k : Nat) {p i : Int} (hp : p ≤ i) (hp0 : 0 ≤ p) (h1 : i < t) (g : pz_fitP X t (i - p) i) (g2 : X i ≠ 59) : s_X4_firstFault_L4 n (iI t) (pz_ar X 0 60) (k + 1) (iI p) (iI i) = s_X4_firstFault_L4 n (iI t) (pz_ar X 0 60) k (iI p) (iI (i + 1)) := by
  have t6 := h.2.1
  have r := h.2.2 i (by omega) h1
  rw [s_X4_firstFault_L4, if_neg (by rw [pz_iI_le (by omega) (by omega) (by omega) (by omega)]; omega), pz_iI_sub, (pz_fits_a h (by omega) (by omega) (by omega) h1).1 g, Option.bind_some, if_neg (by decide), pz_codeAt_a ⟨h.1, h.2.1⟩ (by omega) (by omega), pz_cd_in (by omega) h1, Option.bind_some, if_neg (by rw [pz_iI_eq (by omega) (by omega) (by omega) (by omega)]; exact g2), pz_iI_add]
theorem pz_ff_semi {X : Int → Int} {t : Int} (h : pz_okT X t) (n k : Nat) {p i : Int} (hp : p ≤ i) (hp0 : 0 ≤ p) (h1 : i < t) (g : pz_fitP X t (i - p) i) (g2 : X i = 59) : s_X4_firstFault_L4 n (iI t) (pz_ar X 0 60) (k + 1) (iI p) (iI i) = s_X4_firstFault_L4 n (iI t) (pz_ar X 0 60) k (iI (i + 1)) (iI (i + 1)) := by
  have t6 := h.2.1
  have r := h.2.2 i (by omega) h1
  rw [s_X4_firstFault_L4, if_neg (by rw [pz_iI_le (by omega) (by omega) (by omega) (by omega)]; omega), pz_iI_sub, (pz_fits_a h (by omega) (by omega) (by omega) h1).1 g, Option.bind_some, if_neg (by decide), pz_codeAt_a ⟨h.1, h.2.1⟩ (by omega) (by omega), pz_cd_in (by omega) h1, Option.bind_some, if_pos (by rw [g2]), pz_iI_add]
def pz_bad (X : Int → Int) (t a : Int) : Int := if ¬ (a < t ∧ 48 ≤ X a ∧ X a ≤ 56) then a else if ¬ (a + 1 < t ∧ X (a + 1) = 45) then a + 1 else if ¬ (a + 2 < t ∧ X a + 1 ≤ X (a + 2) ∧ X (a + 2) ≤ 57) then a + 2 else -1
def pz_thr (X : Int → Int) (t a : Int) : Int := if a + 3 < t ∧ X (a + 3) = 33 then 1 else 0
def pz_txt (X : Int → Int) (t : Int) : Nat → Int → Int → Bool × Int × Int
  | 0, a, m => (false, a, m)
  | c + 1, a, m => if pz_bad X t a ≠ -1 then (false, pz_bad X t a, m) else if a + 3 + pz_thr X t a < t ∧ X (a + 3 + pz_thr X t a) = 59 then pz_txt X t c (a + 3 + pz_thr X t a + 1) (m + 1) else (decide (a + 3 + pz_thr X t a = t), a + 3 + pz_thr X t a, m + 1)
theorem pz_txt_s (X : Int → Int) (t : Int) (c : Nat) (a m : Int) : pz_txt X t (c + 1) a m = if pz_bad X t a ≠ -1 then (false, pz_bad X t a, m) else if a + 3 + pz_thr X t a < t ∧ X (a + 3 + pz_thr X t a) = 59 then pz_txt X t c (a + 3 + pz_thr X t a + 1) (m + 1) else (decide (a + 3 + pz_thr X t a = t), a + 3 + pz_thr X t a, m + 1) := rfl
theorem pz_bad_spec {X : Int → Int} {t a : Int} (h0 : 0 ≤ a) (h1 : a ≤ t) : (pz_bad X t a = a ∧ ¬ (a < t ∧ 48 ≤ X a ∧ X a ≤ 56)) ∨ (pz_bad X t a = a + 1 ∧ (a < t ∧ 48 ≤ X a ∧ X a ≤ 56) ∧ ¬ (a + 1 < t ∧ X (a + 1) = 45)) ∨ (pz_bad X t a = a + 2 ∧ (a < t ∧ 48 ≤ X a ∧ X a ≤ 56) ∧ (a + 1 < t ∧ X (a + 1) = 45) ∧ ¬ (a + 2 < t ∧ X a + 1 ≤ X (a + 2) ∧ X (a + 2) ≤ 57)) ∨ (pz_bad X t a = -1 ∧ (a < t ∧ 48 ≤ X a ∧ X a ≤ 56) ∧ (a + 1 < t ∧ X (a + 1) = 45) ∧ (a + 2 < t ∧ X a + 1 ≤ X (a + 2) ∧ X (a + 2) ≤ 57)) := by
  unfold pz_bad
  split
  · next g => exact Or.inl ⟨rfl, g⟩
  · next g =>
    split
    · next g2 => exact Or.inr (Or.inl ⟨rfl, by omega, g2⟩)
    · next g2 =>
      split
      · next g3 => exact Or.inr (Or.inr (Or.inl ⟨rfl, by omega, by omega, g3⟩))
      · next g3 => exact Or.inr (Or.inr (Or.inr ⟨rfl, by omega, by omega, by omega⟩))
theorem pz_thr_spec (X : Int → Int) (t a : Int) : (pz_thr X t a = 1 ∧ a + 3 < t ∧ X (a + 3) = 33) ∨ (pz_thr X t a = 0 ∧ ¬ (a + 3 < t ∧ X (a + 3) = 33)) := by
  unfold pz_thr
  split
  · next g => exact Or.inl ⟨rfl, g⟩
  · next g => exact Or.inr ⟨rfl, g⟩
theorem pz_ff_L {X : Int → Int} {t : Int} (h : pz_okT X t) (n : Nat) : ∀ (c : Nat) (a m : Int), 0 ≤ a → a ≤ t → t < a + 4 * c → ∀ k, 5 * c < k → s_X4_firstFault_L4 n (iI t) (pz_ar X 0 60) k (iI a) (iI a) = some (iI (pz_txt X t c a m).2.1) := by
  have t6 := h.2.1
  intro c
  induction c with
  | zero => intro a m h0 h1 h2; omega
  | succ c ih =>
    intro a m h0 h1 h2 k hk
    obtain ⟨k, rfl⟩ : ∃ z, k = z + 5 := ⟨k - 5, by omega⟩
    rw [pz_txt_s]
    rcases pz_bad_spec (X := X) h0 h1 with ⟨e, g⟩ | ⟨e, g, g2⟩ | ⟨e, g, g2, g3⟩ | ⟨e, g, g2, g3⟩
    · rw [e, if_pos (by omega)]
      by_cases d : a < t
      · exact pz_ff_bad h n (k + 4) (by omega) h0 d (by unfold pz_fitP; omega)
      · rw [show k + 5 = (k + 4) + 1 from rfl, pz_ff_end ⟨h.1, h.2.1⟩ n _ (by omega) (by omega)]
        congr 2; show t = a; omega
    · rw [e, if_pos (by omega), show k + 5 = (k + 4) + 1 from rfl, pz_ff_ok h n (k + 4) (by omega) h0 g.1 (by unfold pz_fitP; omega) (by omega)]
      by_cases d : a + 1 < t
      · exact pz_ff_bad h n (k + 3) (by omega) h0 d (by unfold pz_fitP; rw [show a + 1 - a = 1 by omega]; omega)
      · rw [show k + 4 = (k + 3) + 1 from rfl, pz_ff_end ⟨h.1, h.2.1⟩ n _ (by omega) (by omega)]
        congr 2; show t = a + 1; omega
    · rw [e, if_pos (by omega), show k + 5 = (k + 4) + 1 from rfl, pz_ff_ok h n (k + 4) (by omega) h0 g.1 (by unfold pz_fitP; omega) (by omega), pz_ff_ok h n (k + 3) (by omega) h0 g2.1 (by unfold pz_fitP; rw [show a + 1 - a = 1 by omega]; omega) (by omega), show a + 1 + 1 = a + 2 by omega]
      have c0 : pz_cd X t (a + 2 - 2) = X a := by rw [show a + 2 - 2 = a by omega]; exact pz_cd_in h0 g.1
      by_cases d : a + 2 < t
      · exact pz_ff_bad h n (k + 2) (by omega) h0 d (by unfold pz_fitP; rw [c0, show a + 2 - a = 2 by omega]; omega)
      · rw [show k + 3 = (k + 2) + 1 from rfl, pz_ff_end ⟨h.1, h.2.1⟩ n _ (by omega) (by omega)]
        congr 2; show t = a + 2; omega
    · have c0 : pz_cd X t (a + 2 - 2) = X a := by rw [show a + 2 - 2 = a by omega]; exact pz_cd_in h0 g.1
      rw [e, if_neg (by omega), show k + 5 = (k + 4) + 1 from rfl, pz_ff_ok h n (k + 4) (by omega) h0 g.1 (by unfold pz_fitP; omega) (by omega), pz_ff_ok h n (k + 3) (by omega) h0 g2.1 (by unfold pz_fitP; rw [show a + 1 - a = 1 by omega]; omega) (by omega), show a + 1 + 1 = a + 2 by omega, pz_ff_ok h n (k + 2) (by omega) h0 g3.1 (by unfold pz_fitP; rw [c0, show a + 2 - a = 2 by omega]; omega) (by omega), show a + 2 + 1 = a + 3 by omega]
      rcases pz_thr_spec X t a with ⟨w, w1, w2⟩ | ⟨w, w1⟩
      · rw [w, pz_ff_ok h n (k + 1) (by omega) h0 w1 (by unfold pz_fitP; rw [show a + 3 - a = 3 by omega]; omega) (by omega), show a + 3 + 1 = a + 4 by omega]
        by_cases d : a + 4 < t ∧ X (a + 4) = 59
        · rw [if_pos d, pz_ff_semi h n k (by omega) h0 d.1 (by unfold pz_fitP; omega) d.2]
          exact ih (a + 4 + 1) (m + 1) (by omega) (by omega) (by omega) k (by omega)
        · rw [if_neg d]
          by_cases d2 : a + 4 < t
          · exact pz_ff_bad h n k (by omega) h0 d2 (by unfold pz_fitP; omega)
          · rw [pz_ff_end ⟨h.1, h.2.1⟩ n _ (by omega) (by omega)]
            congr 2; show t = a + 4; omega
      · rw [w, show a + 3 + 0 = a + 3 by omega]
        by_cases d : a + 3 < t ∧ X (a + 3) = 59
        · rw [if_pos d, pz_ff_semi h n (k + 1) (by omega) h0 d.1 (by unfold pz_fitP; omega) d.2]
          exact ih (a + 3 + 1) (m + 1) (by omega) (by omega) (by omega) (k + 1) (by omega)
        · rw [if_neg d]
          by_cases d2 : a + 3 < t
          · exact pz_ff_bad h n (k + 1) (by omega) h0 d2 (by unfold pz_fitP; rw [show a + 3 - a = 3 by omega]; omega)
          · rw [show k + 2 = (k + 1) + 1 from rfl, pz_ff_end ⟨h.1, h.2.1⟩ n _ (by omega) (by omega)]
            congr 2; show t = a + 3; omega
theorem pz_ff_a {X : Int → Int} {t : Int} (h : pz_okT X t) {n : Nat} (hn : 3000 ≤ n) : s_X4_firstFault n (iI t) (pz_ar X 0 60) = some (iI (pz_txt X t 16 0 0).2.1) := by
  unfold s_X4_firstFault
  exact pz_ff_L h n 16 0 0 (by omega) h.1 (by have := h.2.1; omega) n (by omega)
theorem pz_txt_at {X : Int → Int} {t : Int} : ∀ (c : Nat) (a m : Int), 0 ≤ a → a ≤ t → t < a + 4 * c → 0 ≤ (pz_txt X t c a m).2.1 ∧ (pz_txt X t c a m).2.1 ≤ t ∧ ((pz_txt X t c a m).1 = true → (pz_txt X t c a m).2.1 = t) := by
  intro c
  induction c with
  | zero => intro a m h0 h1 h2; omega
  | succ c ih =>
    intro a m h0 h1 h2
    rw [pz_txt_s]
    have b := pz_bad_spec (X := X) h0 h1
    have w := pz_thr_spec X t a
    split
    · dsimp only
      refine ⟨by omega, by omega, fun x => by cases x⟩
    · split
      · exact ih _ _ (by omega) (by omega) (by omega)
      · dsimp only
        refine ⟨by omega, by omega, fun x => ?_⟩
        exact of_decide_eq_true x
theorem pz_txt_ends {X : Int → Int} {t : Int} (h : pz_okT X t) : ∀ (c : Nat) (a m : Int), 0 ≤ a → a ≤ t → t < a + 4 * c → (a = 0 ∨ (0 < a ∧ X (a - 1) = 59 ∧ (X (a - 2) ≠ 45))) → ((pz_txt X t c a m).1 = true ↔ ((pz_cd X t (t - 1) = 33 ∨ pz_cd X t (t - 2) = 45) ∧ (pz_txt X t c a m).2.1 = t)) := by
  intro c
  induction c with
  | zero => intro a m h0 h1 h2; omega
  | succ c ih =>
    intro a m h0 h1 h2 hp
    rw [pz_txt_s]
    have hno : ∀ i, ¬ (0 ≤ i ∧ i < t) → pz_cd X t i = -1 := fun i q => if_neg q
    have hc : ∀ i, 0 ≤ i → i < t → pz_cd X t i = X i := fun i q q2 => pz_cd_in q q2
    rcases pz_bad_spec (X := X) h0 h1 with ⟨e, g⟩ | ⟨e, g, g2⟩ | ⟨e, g, g2, g3⟩ | ⟨e, g, g2, g3⟩
    · rw [e, if_pos (by omega)]
      dsimp only
      refine ⟨fun x => (by cases x), fun x => ?_⟩
      exfalso
      obtain ⟨x1, x2⟩ := x
      subst x2
      rcases hp with p | p
      · rw [hno _ (by omega), hno _ (by omega)] at x1; omega
      · rw [hc (a - 1) (by omega) (by omega)] at x1
        by_cases q : 2 ≤ a
        · rw [hc (a - 2) (by omega) (by omega)] at x1; omega
        · rw [hno (a - 2) (by omega)] at x1; omega
    · rw [e, if_pos (by omega)]
      dsimp only
      refine ⟨fun x => (by cases x), fun x => ?_⟩
      exfalso
      obtain ⟨x1, x2⟩ := x
      rw [hc (t - 1) (by omega) (by omega), show t - 1 = a by omega] at x1
      rcases hp with p | p
      · rw [hno (t - 2) (by omega)] at x1; omega
      · rw [hc (t - 2) (by omega) (by omega), show t - 2 = a - 1 by omega] at x1; omega
    · rw [e, if_pos (by omega)]
      dsimp only
      refine ⟨fun x => (by cases x), fun x => ?_⟩
      exfalso
      obtain ⟨x1, x2⟩ := x
      rw [hc (t - 1) (by omega) (by omega), show t - 1 = a + 1 by omega, hc (t - 2) (by omega) (by omega), show t - 2 = a by omega] at x1
      omega
    · rw [e, if_neg (by omega)]
      rcases pz_thr_spec X t a with ⟨w, w1, w2⟩ | ⟨w, w1⟩
      · rw [w, show a + 3 + 1 = a + 4 by omega]
        by_cases d : a + 4 < t ∧ X (a + 4) = 59
        · rw [if_pos d]
          refine ih (a + 4 + 1) (m + 1) (by omega) (by omega) (by omega) (Or.inr ⟨by omega, ?_, ?_⟩)
          · rw [show a + 4 + 1 - 1 = a + 4 by omega]; exact d.2
          · rw [show a + 4 + 1 - 2 = a + 3 by omega]; omega
        · rw [if_neg d]
          dsimp only
          rw [decide_eq_true_eq]
          refine ⟨fun x => ⟨Or.inl ?_, x⟩, fun x => x.2⟩
          rw [hc (t - 1) (by omega) (by omega), show t - 1 = a + 3 by omega]; exact w2
      · rw [w, show a + 3 + 0 = a + 3 by omega]
        by_cases d : a + 3 < t ∧ X (a + 3) = 59
        · rw [if_pos d]
          refine ih (a + 3 + 1) (m + 1) (by omega) (by omega) (by omega) (Or.inr ⟨by omega, ?_, ?_⟩)
          · rw [show a + 3 + 1 - 1 = a + 3 by omega]; exact d.2
          · rw [show a + 3 + 1 - 2 = a + 2 by omega]; omega
        · rw [if_neg d]
          dsimp only
          rw [decide_eq_true_eq]
          refine ⟨fun x => ⟨Or.inr ?_, x⟩, fun x => x.2⟩
          rw [hc (t - 2) (by omega) (by omega), show t - 2 = a + 1 by omega]; exact g2.2
theorem pz_isComplete_a {X : Int → Int} {t : Int} (h : pz_okT X t) {n : Nat} (hn : 3000 ≤ n) : s_X4_isComplete n (iI t) (pz_ar X 0 60) = some (iI (pz_bi (pz_txt X t 16 0 0).1)) := by
  have t6 := h.2.1
  have t0 := h.1
  have e := pz_txt_ends h 16 0 0 (by omega) h.1 (by omega) (Or.inl rfl)
  have r := pz_txt_at (X := X) (t := t) 16 0 0 (by omega) h.1 (by omega)
  have r1 := pz_cd_rg h (t - 1)
  have r2 := pz_cd_rg h (t - 2)
  unfold s_X4_isComplete
  rw [pz_ff_a h hn, pz_iI_sub, pz_iI_sub, pz_codeAt_a ⟨h.1, h.2.1⟩ (by omega) (by omega), pz_codeAt_a ⟨h.1, h.2.1⟩ (by omega) (by omega)]
  generalize pz_txt X t 16 0 0 = O at *
  obtain ⟨O1, O2, O3⟩ := O
  dsimp only at *
  simp (disch := omega) only [pz_iI_add, pz_iI_sub, pz_iI_mul, pz_iI_div, pz_iI_0, pz_iI_lt, pz_iI_le, pz_iI_eq, pz_gd_iI, pz_nI_iI, if_true, if_false, Option.bind_some, ite_self, reduceCtorEq]
  by_cases a : pz_cd X t (t - 1) = 33
  · rw [if_pos a]
    by_cases b : O2 = t
    · rw [if_pos b, e.mpr ⟨Or.inl a, b⟩]; rfl
    · rw [if_neg b, show O1 = false from by cases O1 with | false => rfl | true => exact absurd (e.mp rfl).2 b]; rfl
  · rw [if_neg a]
    by_cases c : pz_cd X t (t - 2) = 45
    · rw [if_pos c]
      by_cases b : O2 = t
      · rw [if_pos b, e.mpr ⟨Or.inr c, b⟩]; rfl
      · rw [if_neg b, show O1 = false from by cases O1 with | false => rfl | true => exact absurd (e.mp rfl).2 b]; rfl
    · rw [if_neg c, show O1 = false from by cases O1 with | false => rfl | true => exact absurd (e.mp rfl).1 (by omega)]; rfl
theorem pz_isAt_T {X : Int → Int} {t i lo hi : Int} (h : pz_okT X t) (h0 : 0 ≤ i) (h1 : i < t) (h2 : lo ≤ X i) (h3 : X i ≤ hi) (ha : -1000000 ≤ lo) (hb : hi < 1000000) : s_X7_isAt (iI t) (iI i) (pz_ar X 0 60) (iI lo) (iI hi) = some (iI 1) := by
  have t6 := h.2.1
  unfold s_X7_isAt
  simp (disch := omega) only [pz_iI_add, pz_iI_sub, pz_iI_mul, pz_iI_div, pz_iI_0, pz_nI_iI, pz_gd_T, pz_iI_lt_T, pz_iI_lt_F, pz_iI_le_T, pz_iI_le_F, pz_iI_eq_F, if_true, if_false, Option.bind_some, pz_ar_at, pz_ar_upd, pz_setF_at, pz_setF_ne, pz_setR_ne, Int.zero_add]
  rw [pz_in_T h2 h3 ha hb, Option.bind_some, if_neg (by decide)]
theorem pz_isAt_F {X : Int → Int} {t i lo hi : Int} (h : pz_okT X t) (h0 : 0 ≤ i) (h00 : i < 1000) (h1 : ¬ (i < t ∧ lo ≤ X i ∧ X i ≤ hi)) (ha : -1000000 ≤ lo) (ha2 : lo < 1000000) (hb0 : -1000000 ≤ hi) (hb : hi < 1000000) : s_X7_isAt (iI t) (iI i) (pz_ar X 0 60) (iI lo) (iI hi) = some (iI 0) := by
  have t6 := h.2.1
  have t0 := h.1
  unfold s_X7_isAt
  by_cases d : i < t
  · have r := h.2.2 i h0 d
    simp (disch := omega) only [pz_iI_add, pz_iI_sub, pz_iI_mul, pz_iI_div, pz_iI_0, pz_nI_iI, pz_gd_T, pz_iI_lt_T, pz_iI_lt_F, pz_iI_le_T, pz_iI_le_F, pz_iI_eq_F, if_true, if_false, Option.bind_some, pz_ar_at, pz_ar_upd, pz_setF_at, pz_setF_ne, pz_setR_ne, Int.zero_add]
    rw [pz_in_F (by omega) (by omega) (show ¬ (lo ≤ X i ∧ X i ≤ hi) by omega) ha ha2 hb0 hb, Option.bind_some, if_pos (by decide)]
  · simp (disch := omega) only [pz_iI_add, pz_iI_sub, pz_iI_mul, pz_iI_div, pz_iI_0, pz_nI_iI, pz_gd_T, pz_iI_lt_T, pz_iI_lt_F, pz_iI_le_T, pz_iI_le_F, pz_iI_eq_F, if_true, if_false, Option.bind_some, pz_ar_at, pz_ar_upd, pz_setF_at, pz_setF_ne, pz_setR_ne]
theorem pz_stops_a {t e : Int} (ht : 0 ≤ t ∧ t ≤ 60) (h0 : 0 ≤ e) (h1 : e < 1000) (fl : Int32) : s_X7_stops (iI t) (iI e) fl = some (iI 0, iI (if e < t then 1 else 0)) := by
  unfold s_X7_stops
  by_cases d : e < t
  · rw [if_pos d]
    simp (disch := omega) only [pz_iI_add, pz_iI_sub, pz_iI_mul, pz_iI_div, pz_iI_0, pz_nI_iI, pz_gd_T, pz_iI_lt_T, pz_iI_lt_F, pz_iI_le_T, pz_iI_le_F, pz_iI_eq_F, if_true, if_false, Option.bind_some, pz_ar_at, pz_ar_upd, pz_setF_at, pz_setF_ne, pz_setR_ne]
  · rw [if_neg d]
    simp (disch := omega) only [pz_iI_add, pz_iI_sub, pz_iI_mul, pz_iI_div, pz_iI_0, pz_nI_iI, pz_gd_T, pz_iI_lt_T, pz_iI_lt_F, pz_iI_le_T, pz_iI_le_F, pz_iI_eq_F, if_true, if_false, Option.bind_some, pz_ar_at, pz_ar_upd, pz_setF_at, pz_setF_ne, pz_setR_ne]
def pz_put3 (D : Int → Int) (m a b c : Int) : Int → Int := pz_setF (pz_setF (pz_setF D (3 * m) a) (3 * m + 1) b) (3 * m + 2) c
theorem pz_gd_Y {z : Int} {n : Nat} (h : 0 ≤ z) (h2 : z < n) (h3 : (n : Int) ≤ 1000000) : gd (iI z) n = true := by rw [pz_gd_T h h2 h3]; trivial
theorem pz_isPart_bad {X : Int → Int} {t a : Int} (h : pz_okT X t) (h0 : 0 ≤ a) (h1 : a ≤ t) (hb : pz_bad X t a ≠ -1) (fl : Int32) (m : Int32) (D : Nat → Int32) : s_X7_isPart (iI t) (iI a) fl m (pz_ar X 0 60) D = some (iI 0, iI (pz_bad X t a), iI (if pz_bad X t a < t then 1 else 0), D) := by
  have t6 := h.2.1
  have t0 := h.1
  unfold s_X7_isPart
  rcases pz_bad_spec (X := X) h0 h1 with ⟨e, g⟩ | ⟨e, g, g2⟩ | ⟨e, g, g2, g3⟩ | ⟨e, g, g2, g3⟩
  · rw [e, pz_isAt_F h h0 (by omega) g (by omega) (by omega) (by omega) (by omega), pz_stops_a ⟨t0, t6⟩ h0 (by omega)]
    rfl
  · rw [e, pz_isAt_T h h0 g.1 g.2.1 g.2.2 (by omega) (by omega), Option.bind_some, if_neg (by decide), if_pos (pz_gd_Y (by omega) (by omega) (by omega)), pz_iI_add, pz_isAt_F h (by omega) (by omega) (show ¬ (a + 1 < t ∧ 45 ≤ X (a + 1) ∧ X (a + 1) ≤ 45) by omega) (by omega) (by omega) (by omega) (by omega), Option.bind_some, if_pos (by decide), pz_stops_a ⟨t0, t6⟩ (by omega) (by omega)]
    rfl
  · rw [e, pz_isAt_T h h0 g.1 g.2.1 g.2.2 (by omega) (by omega), Option.bind_some, if_neg (by decide), if_pos (pz_gd_Y (by omega) (by omega) (by omega)), pz_iI_add, pz_isAt_T h (by omega) g2.1 (by omega) (by omega) (by omega) (by omega), Option.bind_some, if_neg (by decide), pz_ar_at (by omega) (by omega) (by omega), pz_iI_add, pz_iI_add, show a + 1 + 1 = a + 2 by omega, show 0 + a = a by omega, pz_isAt_F h (by omega) (by omega) (show ¬ (a + 2 < t ∧ X a + 1 ≤ X (a + 2) ∧ X (a + 2) ≤ 57) by omega) (by omega) (by omega) (by omega) (by omega), Option.bind_some, if_pos (by decide), pz_stops_a ⟨t0, t6⟩ (by omega) (by omega)]
    rfl
  · exact absurd e hb
theorem pz_isPart_ok {X D : Int → Int} {t a m : Int} (h : pz_okT X t) (h0 : 0 ≤ a) (h1 : a ≤ t) (hb : pz_bad X t a = -1) (fl : Int32) (hm : 0 ≤ m) (hm2 : 4 * m ≤ a) : s_X7_isPart (iI t) (iI a) fl (iI m) (pz_ar X 0 60) (pz_ar D 0 48) = some (iI 1, iI (a + 3 + pz_thr X t a), fl, pz_ar (pz_put3 D m (X a - 48) (X (a + 2) - 48) (pz_thr X t a)) 0 48) := by
  have t6 := h.2.1
  have t0 := h.1
  unfold s_X7_isPart
  rcases pz_bad_spec (X := X) h0 h1 with ⟨e, g⟩ | ⟨e, g, g2⟩ | ⟨e, g, g2, g3⟩ | ⟨e, g, g2, g3⟩
  · omega
  · omega
  · omega
  · rw [pz_isAt_T h h0 g.1 g.2.1 g.2.2 (by omega) (by omega), Option.bind_some, if_neg (by decide), if_pos (pz_gd_Y (by omega) (by omega) (by omega)), pz_iI_add, pz_isAt_T h (by omega) g2.1 (by omega) (by omega) (by omega) (by omega), Option.bind_some, if_neg (by decide), pz_ar_at (by omega) (by omega) (by omega), pz_iI_add, pz_iI_add, show a + 1 + 1 = a + 2 by omega, show 0 + a = a by omega, pz_isAt_T h (by omega) g3.1 g3.2.1 g3.2.2 (by omega) (by omega), Option.bind_some, if_neg (by decide), pz_iI_mul, if_pos (pz_gd_Y (by omega) (by omega) (by omega)), if_pos (pz_gd_Y (by omega) (by omega) (by omega)), pz_iI_add, if_pos (pz_gd_Y (by omega) (by omega) (by omega)), pz_iI_add, show a + 2 + 1 = a + 3 by omega, pz_iI_add, pz_ar_at (by omega) (by omega) (by omega), pz_iI_sub, pz_iI_sub, pz_ar_upd (by omega) (by omega) (by omega), pz_ar_upd (by omega) (by omega) (by omega), pz_ar_upd (by omega) (by omega) (by omega), pz_ar_upd (by omega) (by omega) (by omega), show 0 + (a + 2) = a + 2 by omega, show 0 + 3 * m = 3 * m by omega, show 0 + (3 * m + 1) = 3 * m + 1 by omega, show 0 + (3 * m + 2) = 3 * m + 2 by omega]
    rcases pz_thr_spec X t a with ⟨w, w1, w2⟩ | ⟨w, w1⟩
    · rw [w, pz_isAt_T h (by omega) w1 (by omega) (by omega) (by omega) (by omega), Option.bind_some, if_neg (by decide), if_pos (pz_gd_Y (by omega) (by omega) (by omega)), if_pos (pz_gd_Y (by omega) (by omega) (by omega)), pz_ar_at (by omega) (by omega) (by omega), pz_setF_at (by omega), pz_iI_add]
      rfl
    · rw [w, pz_isAt_F h (by omega) (by omega) (show ¬ (a + 3 < t ∧ 33 ≤ X (a + 3) ∧ X (a + 3) ≤ 33) by omega) (by omega) (by omega) (by omega) (by omega), Option.bind_some, if_pos (by decide), if_pos (pz_gd_Y (by omega) (by omega) (by omega)), if_pos (pz_gd_Y (by omega) (by omega) (by omega)), pz_ar_at (by omega) (by omega) (by omega), pz_setF_at (by omega), pz_iI_add]
      rfl
def pz_tld (X : Int → Int) (t : Int) : Nat → Int → Int → (Int → Int) → Int → Int
  | 0, _, _, D => D
  | c + 1, a, m, D => if pz_bad X t a ≠ -1 then D else if a + 3 + pz_thr X t a < t ∧ X (a + 3 + pz_thr X t a) = 59 then pz_tld X t c (a + 3 + pz_thr X t a + 1) (m + 1) (pz_put3 D m (X a - 48) (X (a + 2) - 48) (pz_thr X t a)) else pz_put3 D m (X a - 48) (X (a + 2) - 48) (pz_thr X t a)
theorem pz_tld_s (X : Int → Int) (t : Int) (c : Nat) (a m : Int) (D : Int → Int) : pz_tld X t (c + 1) a m D = if pz_bad X t a ≠ -1 then D else if a + 3 + pz_thr X t a < t ∧ X (a + 3 + pz_thr X t a) = 59 then pz_tld X t c (a + 3 + pz_thr X t a + 1) (m + 1) (pz_put3 D m (X a - 48) (X (a + 2) - 48) (pz_thr X t a)) else pz_put3 D m (X a - 48) (X (a + 2) - 48) (pz_thr X t a) := rfl
theorem pz_isText_L {X : Int → Int} {t : Int} (h : pz_okT X t) (n : Nat) : ∀ (c : Nat) (a m : Int) (D : Int → Int), 0 ≤ a → a ≤ t → t < a + 4 * c → 0 ≤ m → 4 * m ≤ a → ∀ (fl : Int32) (k : Nat), c + 1 < k → s_X7_isText_L17 n (iI t) (pz_ar X 0 60) k (iI a) fl (iI m) (pz_ar D 0 48) (iI 1) = some (iI (pz_bi (pz_txt X t c a m).1), iI (pz_txt X t c a m).2.1, iI (if (pz_txt X t c a m).2.1 < t then 1 else 0), iI (pz_txt X t c a m).2.2, pz_ar (pz_tld X t c a m D) 0 48) := by
  have t6 := h.2.1
  have t0 := h.1
  intro c
  induction c with
  | zero => intro a m D h0 h1 h2; omega
  | succ c ih =>
    intro a m D h0 h1 h2 hm hm2 fl k hk
    obtain ⟨k, rfl⟩ : ∃ z, k = z + 2 := ⟨k - 2, by omega⟩
    have w := pz_thr_spec X t a
    rw [pz_txt_s, pz_tld_s, show k + 2 = (k + 1) + 1 from rfl, s_X7_isText_L17, if_neg (by decide)]
    by_cases b : pz_bad X t a = -1
    · have b2 := pz_bad_spec (X := X) h0 h1
      rw [if_neg (show ¬ pz_bad X t a ≠ -1 from fun q => q b), if_neg (show ¬ pz_bad X t a ≠ -1 from fun q => q b), pz_isPart_ok h h0 h1 b fl hm hm2, Option.bind_some]
      dsimp only
      rw [if_neg (by decide), pz_iI_add, pz_iI_add, pz_iI_add]
      by_cases d : a + 3 + pz_thr X t a < t ∧ X (a + 3 + pz_thr X t a) = 59
      · rw [if_pos d, if_pos d, pz_isAt_T h (by omega) d.1 (by omega) (by omega) (by omega) (by omega), Option.bind_some, if_neg (by decide)]
        exact ih _ _ _ (by omega) (by omega) (by omega) (by omega) (by omega) fl (k + 1) (by omega)
      · rw [if_neg d, if_neg d, pz_isAt_F h (by omega) (by omega) (show ¬ (a + 3 + pz_thr X t a < t ∧ 59 ≤ X (a + 3 + pz_thr X t a) ∧ X (a + 3 + pz_thr X t a) ≤ 59) by omega) (by omega) (by omega) (by omega) (by omega), Option.bind_some, if_pos (by decide), show a + 3 + pz_thr X t a + 0 = a + 3 + pz_thr X t a by omega, s_X7_isText_L17, if_pos (by decide)]
        dsimp only
        by_cases g : a + 3 + pz_thr X t a = t
        · rw [g, decide_eq_true rfl, if_neg (Int.lt_irrefl t), if_pos (by rw [pz_iI_le (by omega) (by omega) (by omega) (by omega)]; omega), if_pos rfl]
          rfl
        · rw [decide_eq_false g]
          by_cases g2 : a + 3 + pz_thr X t a < t
          · rw [if_pos g2, if_neg (by rw [pz_iI_le (by omega) (by omega) (by omega) (by omega)]; omega), if_neg (by rw [pz_iI_eq (by omega) (by omega) (by omega) (by omega)]; omega)]
            rfl
          · omega
    · rw [if_pos b, if_pos b, pz_isPart_bad h h0 h1 b, Option.bind_some]
      rfl
theorem pz_isText_a {X D : Int → Int} {t : Int} (h : pz_okT X t) {n : Nat} (hn : 3000 ≤ n) (at0 fl tl : Int32) : s_X7_isText n (iI t) at0 fl tl (pz_ar X 0 60) (pz_ar D 0 48) = some (iI (pz_bi (pz_txt X t 16 0 0).1), iI (pz_txt X t 16 0 0).2.1, iI (if (pz_txt X t 16 0 0).2.1 < t then 1 else 0), iI (pz_txt X t 16 0 0).2.2, pz_ar (pz_tld X t 16 0 0 D) 0 48) := by
  unfold s_X7_isText
  exact pz_isText_L h n 16 0 0 D (by omega) h.1 (by have := h.2.1; omega) (by omega) (by omega) _ n (by omega)
theorem pz_firstError_p {X D : Int → Int} {t : Int} (h : pz_okT X t) {n : Nat} (hn : 3000 ≤ n) (th at0 fl tl : Int32) : ∃ (r a2 f2 l2 : Int32) (D2 : Int → Int), s_X6_firstError n (iI t) (pz_ar X 0 60) = some r ∧ s_X7_firstError n (iI t) th at0 fl tl (pz_ar X 0 60) (pz_ar D 0 48) = some (r, iI 0, a2, f2, l2, pz_ar D2 0 48) := by
  have r := pz_txt_at (X := X) (t := t) 16 0 0 (by omega) h.1 (by have := h.2.1; omega)
  unfold s_X6_firstError s_X7_firstError
  rw [pz_ff_a h hn, pz_isText_a h hn]
  simp only [Option.bind_some]
  generalize pz_txt X t 16 0 0 = O at *
  obtain ⟨O1, O2, O3⟩ := O
  dsimp only at *
  cases O1 with
  | true =>
    have e := r.2.2 rfl
    rw [e]
    exact ⟨_, _, _, _, _, rfl, rfl⟩
  | false =>
    by_cases d : O2 < t
    · rw [if_pos d]
      exact ⟨_, _, _, _, _, rfl, rfl⟩
    · rw [if_neg d]
      have e : O2 = t := by omega
      rw [e]
      exact ⟨_, _, _, _, _, rfl, rfl⟩
theorem pz_append_p {X : Int → Int} {t : Int} (h : pz_okT X t) (th a1 : Int32) (u : Nat → Int64) : ∃ (r b : Int32) (X2 : Int → Int) (t2 : Int) (u2 : Nat → Int64), s_L_append (iI t) (pz_ar X 0 60) u a1 = some (r, iI t2, pz_ar X2 0 60, u2) ∧ s_X7_append (iI t) th (pz_ar X 0 60) a1 = some (b, iI t2, r, pz_ar X2 0 60) ∧ (r = 0 → lg_cmp (u2 0) b.toInt64 = 0) ∧ pz_okT X2 t2 := by
  obtain ⟨v, rfl, v1, v2⟩ := pz_iI_surj a1
  have t6 := h.2.1
  have t0 := h.1
  unfold s_L_append s_X6_append s_X7_append s_X4_isFull s_X4_add
  by_cases g : 33 ≤ v ∧ v ≤ 126
  · rw [pz_in_T g.1 g.2 (by omega) (by omega)]
    by_cases d : t = 60
    · have e : (iI t = iI 60) = True := by rw [d]; exact eq_true rfl
      simp (disch := omega) only [pz_iI_add, pz_iI_sub, pz_iI_mul, pz_iI_div, pz_iI_0, pz_nI_iI, pz_gd_T, pz_iI_lt_T, pz_iI_lt_F, pz_iI_le_T, pz_iI_le_F, pz_iI_eq_F, if_true, if_false, Option.bind_some, pz_ar_at, pz_ar_upd, pz_setF_at, pz_setF_ne, pz_setR_ne, e]
      exact ⟨_, _, X, t, _, rfl, rfl, fun q => absurd q (by decide), h⟩
    · rw [pz_write_a (by decide) t0 (by omega)]
      simp (disch := omega) only [pz_iI_add, pz_iI_sub, pz_iI_mul, pz_iI_div, pz_iI_0, pz_nI_iI, pz_gd_T, pz_iI_lt_T, pz_iI_lt_F, pz_iI_le_T, pz_iI_le_F, pz_iI_eq_F, if_true, if_false, Option.bind_some, pz_ar_at, pz_ar_upd, pz_setF_at, pz_setF_ne, pz_setR_ne, Int.zero_add]
      refine ⟨iI 0, iI (t + 1), pz_setF X t v, t + 1, vp_updL u (iI 0).toNatClampNeg (iI (t + 1)).toInt64, rfl, rfl, fun _ => by rw [pz_updL_0]; exact pz_lg_self _, by omega, by omega, ?_⟩
      intro j j0 j1
      by_cases w : j = t
      · rw [pz_setF_at w]; exact g
      · rw [pz_setF_ne w]; exact h.2.2 j j0 (by omega)
  · rw [pz_in_F v1 v2 g (by omega) (by omega) (by omega) (by omega)]
    by_cases d : v < 33
    · simp (disch := omega) only [pz_iI_add, pz_iI_sub, pz_iI_mul, pz_iI_div, pz_iI_0, pz_nI_iI, pz_gd_T, pz_iI_lt_T, pz_iI_lt_F, pz_iI_le_T, pz_iI_le_F, pz_iI_eq_F, if_true, if_false, Option.bind_some, pz_ar_at, pz_ar_upd, pz_setF_at, pz_setF_ne, pz_setR_ne]
      exact ⟨_, _, X, t, _, rfl, rfl, fun q => absurd q (by decide), h⟩
    · simp (disch := omega) only [pz_iI_add, pz_iI_sub, pz_iI_mul, pz_iI_div, pz_iI_0, pz_nI_iI, pz_gd_T, pz_iI_lt_T, pz_iI_lt_F, pz_iI_le_T, pz_iI_le_F, pz_iI_eq_F, if_true, if_false, Option.bind_some, pz_ar_at, pz_ar_upd, pz_setF_at, pz_setF_ne, pz_setR_ne]
      exact ⟨_, _, X, t, _, rfl, rfl, fun q => absurd q (by decide), h⟩
def pz_stp (F : Int → Int) (f t : Int) (w : Int32) : Int → Int := if F 6 = 40 ∨ (pz_fnd F f t (!decide (w = 0))).1 = -1 then pz_setF F 9 (F 9 + 1) else pz_admitF F f t (pz_thI w) (pz_fnd F f t (!decide (w = 0))).1 (pz_fnd F f t (!decide (w = 0))).2.1 (pz_fnd F f t (!decide (w = 0))).2.2
def pz_stB (F : Int → Int) (f t : Int) (w : Int32) : Bool := if F 6 = 40 ∨ (pz_fnd F f t (!decide (w = 0))).1 = -1 then false else true
theorem pz_stp_inv {B : Int} {F : Int → Int} (h : pz_Inv B F) (hB : B < 900000) {f t : Int} (hw : pz_okWay f t) (w : Int32) : pz_Inv (B + 1) (pz_stp F f t w) := by
  have sz := h.sz
  have ct := h.ct
  unfold pz_stp
  by_cases d : F 6 = 40 ∨ (pz_fnd F f t (!decide (w = 0))).1 = -1
  · rw [if_pos d]
    refine pz_inv_low h (by omega) (by omega) (by omega) (by omega) (by omega) ?_ ?_ ?_
    · rw [pz_setF_ne (by omega), pz_setF_ne (by omega), pz_setF_ne (by omega)]; exact h.st
    · intro x x0 x1; rw [pz_setF_ne (by omega)]; exact h.en x x0 x1
    · rw [pz_setF_ne (by omega), pz_setF_ne (by omega), pz_setF_eq]; omega
  · rw [if_neg d]
    exact pz_inv_admit h hB (by omega) hw (pz_thI_rg w) (pz_fnd_can hw (fun x => d (Or.inr x)))
theorem pz_stp_keep {B : Int} {F : Int → Int} (h : pz_Inv B F) {f t : Int} (hw : pz_okWay f t) (w : Int32) : pz_ar (pz_stp F f t w) 3 3 = pz_ar F 3 3 ∧ pz_ar (pz_stp F f t w) 0 3 = pz_ar F 0 3 := by
  have sz := h.sz
  unfold pz_stp
  by_cases d : F 6 = 40 ∨ (pz_fnd F f t (!decide (w = 0))).1 = -1
  · rw [if_pos d]
    exact ⟨pz_ar_out (by omega), pz_ar_out (by omega)⟩
  · rw [if_neg d]
    have cc := pz_fnd_can (F := F) (pz_thr := !decide (w = 0)) hw (fun x => d (Or.inr x))
    have lo := fun z hz => pz_admitF_lo F (th := pz_thI w) sz.1 (by omega) hw cc.ok (z := z) hz
    have e9 : ∀ z : Int, z < 10 → z ≠ 6 → z ≠ 7 → z ≠ 8 → pz_admitF F f t (pz_thI w) (pz_fnd F f t (!decide (w = 0))).1 (pz_fnd F f t (!decide (w = 0))).2.1 (pz_fnd F f t (!decide (w = 0))).2.2 z = F z := fun z h1 h2 h3 h4 => by rw [lo z h1, if_neg h2, if_neg h3, if_neg h4]
    exact ⟨pz_ar_congr (fun z x1 x2 => e9 z (by omega) (by omega) (by omega) (by omega)), pz_ar_congr (fun z x1 x2 => e9 z (by omega) (by omega) (by omega) (by omega))⟩
theorem pz_leaveOut_a {B : Int} {F : Int → Int} (h : pz_Inv B F) {n : Nat} (hn : 3000 ≤ n) {f t : Int} (hw : pz_okWay f t) (w : Int32) : s_X5_admitOrLeaveOut n (iI (F 7)) (iI (F 8)) (iI (F 9)) (pz_ar F 3 3) (pz_ar F 290 162) (iI (F 6)) (pz_ar F 10 280) (pz_ar F 0 3) (iI f) (iI t) w = some (iI (pz_bi (pz_stB F f t w)), iI (pz_stp F f t w 7), iI (pz_stp F f t w 8), iI (pz_stp F f t w 9), pz_ar (pz_stp F f t w) 290 162, iI (pz_stp F f t w 6), pz_ar (pz_stp F f t w) 10 280) := by
  have sz := h.sz
  have rg := pz_fnd_rg (F := F) hw (!decide (w = 0))
  have can := pz_fnd_can (F := F) (pz_thr := !decide (w = 0)) hw
  unfold s_X5_admitOrLeaveOut pz_stp pz_stB
  rw [pz_find_c h.rg hn hw, Option.bind_some]
  generalize pz_fnd F f t (!decide (w = 0)) = O at *
  obtain ⟨a, b, c⟩ := O
  dsimp only at *
  have no : iI (F 9) + iI 1 = iI (pz_setF F 9 (F 9 + 1) 9) := by rw [pz_setF_eq, pz_iI_add]
  by_cases g : F 6 = 40
  · rw [pz_full_cF g, if_pos (Or.inl g), if_pos (Or.inl g), no, pz_ar_out (by omega), pz_ar_out (by omega), pz_setF_ne (show ¬ (7 : Int) = 9 by omega), pz_setF_ne (show ¬ (8 : Int) = 9 by omega), pz_setF_ne (show ¬ (6 : Int) = 9 by omega)]
    rfl
  · rw [pz_full_c sz.1 (by omega)]
    by_cases e : a = -1
    · rw [e, pz_refused_T, if_pos (Or.inr rfl), if_pos (Or.inr rfl), no, pz_ar_out (by omega), pz_ar_out (by omega), pz_setF_ne (show ¬ (7 : Int) = 9 by omega), pz_setF_ne (show ¬ (8 : Int) = 9 by omega), pz_setF_ne (show ¬ (6 : Int) = 9 by omega)]
      rfl
    · have cc := can e
      have lo := fun z hz => pz_admitF_lo F (th := pz_thI w) sz.1 (by omega) hw cc.ok (z := z) hz
      have e6 : pz_admitF F f t (pz_thI w) a b c 6 = F 6 + 1 := by rw [lo 6 (by omega), if_pos rfl]
      have e7 : pz_admitF F f t (pz_thI w) a b c 7 = F 7 + 1 := by rw [lo 7 (by omega), if_neg (by omega), if_pos rfl]
      have e8 : pz_admitF F f t (pz_thI w) a b c 8 = F 8 + 1 := by rw [lo 8 (by omega), if_neg (by omega), if_neg (by omega), if_pos rfl]
      have e9 : pz_admitF F f t (pz_thI w) a b c 9 = F 9 := by rw [lo 9 (by omega), if_neg (by omega), if_neg (by omega), if_neg (by omega)]
      rw [pz_refused_F e (by omega) (by omega), if_neg (fun x => x.elim g e), if_neg (fun x => x.elim g e), pz_admit_a h.rg hn sz.1 (by omega) hw cc.ok, e6, e7, e8, e9]
      rfl
theorem pz_tld_lo (X : Int → Int) (t : Int) : ∀ (c : Nat) (a m : Int) (D : Int → Int) (j : Int), j < 3 * m → pz_tld X t c a m D j = D j := by
  intro c
  induction c with
  | zero => intro a m D j hj; rfl
  | succ c ih =>
    intro a m D j hj
    rw [pz_tld_s]
    have e : ∀ x y z, pz_put3 D m x y z j = D j := fun x y z => by unfold pz_put3; rw [pz_setF_ne (by omega), pz_setF_ne (by omega), pz_setF_ne (by omega)]
    split
    · rfl
    · split
      · rw [ih _ _ _ j (by omega), e]
      · rw [e]
theorem pz_txt_num (X : Int → Int) (t : Int) : ∀ (c : Nat) (a m : Int), (pz_txt X t c a m).1 = true → m < (pz_txt X t c a m).2.2 ∧ (pz_txt X t c a m).2.2 ≤ m + c := by
  intro c
  induction c with
  | zero => intro a m h; cases h
  | succ c ih =>
    intro a m
    rw [pz_txt_s]
    split
    · intro h; cases h
    · split
      · intro h; have q := ih _ _ h; omega
      · intro h; dsimp only; omega
theorem pz_txt_good {X : Int → Int} {t : Int} {c : Nat} {a m : Int} (h : (pz_txt X t (c + 1) a m).1 = true) : pz_bad X t a = -1 := by
  rw [pz_txt_s] at h
  by_cases b : pz_bad X t a = -1
  · exact b
  · rw [if_pos b] at h; cases h
theorem pz_tld_head {X : Int → Int} {t : Int} {c : Nat} {a m : Int} {D : Int → Int} (b : pz_bad X t a = -1) : pz_tld X t (c + 1) a m D (3 * m) = X a - 48 ∧ pz_tld X t (c + 1) a m D (3 * m + 1) = X (a + 2) - 48 ∧ pz_tld X t (c + 1) a m D (3 * m + 2) = pz_thr X t a := by
  rw [pz_tld_s, if_neg (fun q => q b)]
  have e0 : pz_put3 D m (X a - 48) (X (a + 2) - 48) (pz_thr X t a) (3 * m) = X a - 48 := by unfold pz_put3; rw [pz_setF_ne (by omega), pz_setF_ne (by omega), pz_setF_eq]
  have e1 : pz_put3 D m (X a - 48) (X (a + 2) - 48) (pz_thr X t a) (3 * m + 1) = X (a + 2) - 48 := by unfold pz_put3; rw [pz_setF_ne (by omega), pz_setF_eq]
  have e2 : pz_put3 D m (X a - 48) (X (a + 2) - 48) (pz_thr X t a) (3 * m + 2) = pz_thr X t a := by unfold pz_put3; rw [pz_setF_eq]
  split
  · rw [pz_tld_lo _ _ _ _ _ _ _ (by omega), pz_tld_lo _ _ _ _ _ _ _ (by omega), pz_tld_lo _ _ _ _ _ _ _ (by omega)]
    exact ⟨e0, e1, e2⟩
  · exact ⟨e0, e1, e2⟩
theorem pz_isThrough_a {X : Int → Int} {t a : Int} (h : pz_okT X t) (h0 : 0 ≤ a) (h1 : a < t) : s_X4_isThrough (iI t) (pz_ar X 0 60) (iI a) = some (iI (pz_thr X t a)) := by
  have t6 := h.2.1
  have r := pz_cd_rg h (a + 3)
  unfold s_X4_isThrough pz_thr
  rw [pz_iI_add, pz_codeAt_a ⟨h.1, h.2.1⟩ (by omega) (by omega), Option.bind_some]
  by_cases d : a + 3 < t
  · rw [pz_cd_in (by omega) d] at r ⊢
    by_cases e : X (a + 3) = 33
    · rw [if_pos (by rw [e]), if_pos ⟨d, e⟩]
    · rw [if_neg (by rw [pz_iI_eq (by omega) (by omega) (by omega) (by omega)]; exact e), if_neg (fun q => e q.2)]
  · rw [show pz_cd X t (a + 3) = -1 from if_neg (by omega), if_neg (by decide), if_neg (fun q => d q.1)]
theorem pz_stepm {B : Int} {F : Int → Int} (h : pz_Inv B F) {n : Nat} (hn : 3000 ≤ n) {f t : Int} (hw : pz_okWay f t) (w : Int32) (on ot ch wo : Int32) :
    (F 6 = 40 ∧ pz_stB F f t w = false ∧ pz_stp F f t w = pz_setF F 9 (F 9 + 1)) ∨ (F 6 < 40 ∧ ∃ o1 o2 o3 o4, s_X7_finds n on ot ch wo (pz_ar F 0 452) (iI f) (iI t) w = some (iI (pz_bi (pz_stB F f t w)), o1, o2, o3, o4) ∧ (pz_stB F f t w = false → pz_stp F f t w = pz_setF F 9 (F 9 + 1)) ∧ (pz_stB F f t w = true → ∃ z, s_X7_comes n o1 o2 o3 (pz_ar F 0 452) (iI f) (iI t) w = some (z, pz_ar (pz_stp F f t w) 0 452))) := by
  have sz := h.sz
  by_cases g : F 6 = 40
  · refine Or.inl ⟨g, ?_, ?_⟩
    · unfold pz_stB; rw [if_pos (Or.inl g)]
    · unfold pz_stp; rw [if_pos (Or.inl g)]
  · refine Or.inr ⟨by omega, ?_⟩
    obtain ⟨o1, o2, o3, o4, fe, fo⟩ := pz_find_m h.rg hn hw on ot ch wo w
    refine ⟨o1, o2, o3, o4, ?_, ?_, ?_⟩
    · rw [fe]
      unfold pz_stB pz_isB
      by_cases e : (pz_fnd F f t (!decide (w = 0))).1 = -1
      · rw [if_pos e, if_pos (Or.inr e)]
      · rw [if_neg e, if_neg (fun x => x.elim g e)]
    · unfold pz_stB pz_stp
      intro x
      by_cases e : F 6 = 40 ∨ (pz_fnd F f t (!decide (w = 0))).1 = -1
      · rw [if_pos e]
      · rw [if_neg e] at x; cases x
    · unfold pz_stB pz_stp
      intro x
      by_cases e : F 6 = 40 ∨ (pz_fnd F f t (!decide (w = 0))).1 = -1
      · rw [if_pos e] at x; cases x
      · have cc := pz_fnd_can (F := F) (pz_thr := !decide (w = 0)) hw (fun x => e (Or.inr x))
        have q := fo (fun x => e (Or.inr x))
        rw [if_neg e, q.1, q.2.1, q.2.2.1]
        exact ⟨_, pz_comes_a h.rg hn sz.1 (by omega) hw cc.ok w⟩
theorem pz_ar_up9 {F : Int → Int} : upd (pz_ar F 0 452) (iI 9).toNatClampNeg (pz_ar F 0 452 (iI 9).toNatClampNeg + iI 1) = pz_ar (pz_setF F 9 (F 9 + 1)) 0 452 := by
  rw [pz_ar_at (by omega) (by omega) (by omega), show (0 : Int) + 9 = 9 from rfl, pz_iI_add, pz_ar_upd (by omega) (by omega) (by omega)]
  rfl
theorem pz_all_L {X : Int → Int} {t : Int} (h : pz_okT X t) {n : Nat} (hn : 3000 ≤ n) (oldv hsv : Int32) (hist : Nat → TS) (kp ty th at0 fl : Int32) (past : Nat → Int32) (XE : Nat → Int32) : ∀ (c : Nat) (B : Int) (a m : Int) (F D : Int → Int) (z : Int) (on ot ch wo : Int32), pz_Inv B F → B + c < 900000 → 0 ≤ a → a ≤ t → t < a + 4 * c → 0 ≤ m → 4 * m ≤ a → (pz_txt X t c a m).1 = true → ∀ (k k2 : Nat), c + 1 ≤ k → c + 1 ≤ k2 → c ≤ 16 →
    ∃ (G : Int → Int) (z2 : Int) (on2 ot2 ch2 wo2 : Int32), pz_Inv (B + c) G ∧ pz_ar G 3 3 = pz_ar F 3 3 ∧ pz_ar G 0 3 = pz_ar F 0 3 ∧
      s_X6_bookAll_L35 n (pz_ar X 0 60) (pz_ar F 3 3) (pz_ar F 0 3) k oldv hsv (iI t) (iI (F 7)) (iI (F 8)) (iI (F 9)) (pz_ar F 290 162) (iI (F 6)) (pz_ar F 10 280) hist (iI z) (iI a) = some (0, iI z2, oldv, hsv, iI 0, iI (G 7), iI (G 8), iI (G 9), pz_ar G 290 162, iI (G 6), pz_ar G 10 280, hist) ∧
      s_X7_bookAll_L31 n XE k2 kp ty th at0 fl (iI (pz_txt X t c a m).2.2) on ot ch wo (pz_ar F 0 452) past (pz_ar (pz_tld X t c a m D) 0 48) (iI z) (iI m) = some (iI z2, kp, ty, th, at0, fl, iI (pz_txt X t c a m).2.2, on2, ot2, ch2, wo2, pz_ar G 0 452, past, pz_ar (pz_tld X t c a m D) 0 48) := by
  have t6 := h.2.1
  have t0 := h.1
  intro c
  induction c with
  | zero => intro B a m F D z on ot ch wo iv hB h0 h1 h2; omega
  | succ c ih =>
    intro B a m F D z on ot ch wo iv hB h0 h1 h2 hm hm2 hx k k2 hk hk2 hc16
    obtain ⟨k, rfl⟩ : ∃ z, k = z + 2 := ⟨k - 2, by omega⟩
    obtain ⟨k2, rfl⟩ : ∃ z, k2 = z + 2 := ⟨k2 - 2, by omega⟩
    have b := pz_txt_good hx
    have tn := pz_txt_num X t (c + 1) a m hx
    have th3 := pz_tld_head (D := D) (c := c) (m := m) b
    have w := pz_thr_spec X t a
    have g : (a < t ∧ 48 ≤ X a ∧ X a ≤ 56) ∧ (a + 1 < t ∧ X (a + 1) = 45) ∧ (a + 2 < t ∧ X a + 1 ≤ X (a + 2) ∧ X (a + 2) ≤ 57) := by
      rcases pz_bad_spec (X := X) h0 h1 with ⟨e, _⟩ | ⟨e, _⟩ | ⟨e, _⟩ | ⟨e, g⟩
      · omega
      · omega
      · omega
      · exact g
    have hw : pz_okWay (X a - 48) (X (a + 2) - 48) := by unfold pz_okWay; omega
    have sI := pz_stp_inv iv (by omega) hw (iI (pz_thr X t a))
    have sK := pz_stp_keep iv hw (iI (pz_thr X t a))
    have lo := pz_leaveOut_a iv hn hw (iI (pz_thr X t a))
    have sz := iv.sz
    have ct := iv.ct
    have hC : s_X6_bookAll_L35 n (pz_ar X 0 60) (pz_ar F 3 3) (pz_ar F 0 3) (k + 2) oldv hsv (iI t) (iI (F 7)) (iI (F 8)) (iI (F 9)) (pz_ar F 290 162) (iI (F 6)) (pz_ar F 10 280) hist (iI z) (iI a) = s_X6_bookAll_L35 n (pz_ar X 0 60) (pz_ar (pz_stp F (X a - 48) (X (a + 2) - 48) (iI (pz_thr X t a))) 3 3) (pz_ar (pz_stp F (X a - 48) (X (a + 2) - 48) (iI (pz_thr X t a))) 0 3) (k + 1) oldv hsv (iI t) (iI (pz_stp F (X a - 48) (X (a + 2) - 48) (iI (pz_thr X t a)) 7)) (iI (pz_stp F (X a - 48) (X (a + 2) - 48) (iI (pz_thr X t a)) 8)) (iI (pz_stp F (X a - 48) (X (a + 2) - 48) (iI (pz_thr X t a)) 9)) (pz_ar (pz_stp F (X a - 48) (X (a + 2) - 48) (iI (pz_thr X t a))) 290 162) (iI (pz_stp F (X a - 48) (X (a + 2) - 48) (iI (pz_thr X t a)) 6)) (pz_ar (pz_stp F (X a - 48) (X (a + 2) - 48) (iI (pz_thr X t a))) 10 280) hist (iI (z + pz_bi (pz_stB F (X a - 48) (X (a + 2) - 48) (iI (pz_thr X t a))))) (iI (a + 4 + pz_thr X t a)) := by
      rw [sK.1, sK.2, s_X6_bookAll_L35, if_neg (by rw [pz_iI_le (by omega) (by omega) (by omega) (by omega)]; omega)]
      unfold s_X4_from s_X4_to
      rw [pz_codeAt_a ⟨t0, t6⟩ (by omega) (by omega), pz_cd_in h0 g.1.1, pz_iI_add, pz_codeAt_a ⟨t0, t6⟩ (by omega) (by omega), pz_cd_in (by omega) g.2.2.1, pz_isThrough_a h h0 g.1.1]
      simp only [Option.bind_some]
      rw [pz_iI_sub, pz_iI_sub, lo]
      simp only [Option.bind_some]
      cases hb : pz_stB F (X a - 48) (X (a + 2) - 48) (iI (pz_thr X t a)) with
      | true =>
        rw [if_neg (by decide)]
        rcases w with ⟨w, _⟩ | ⟨w, _⟩
        · rw [w, if_neg (by decide), pz_iI_add, pz_iI_add, show a + 4 + 1 = a + 5 by omega]; rfl
        · rw [w, if_pos (by decide), pz_iI_add, pz_iI_add, show a + 4 + 0 = a + 4 by omega]; rfl
      | false =>
        rw [if_pos (by decide)]
        rcases w with ⟨w, _⟩ | ⟨w, _⟩
        · rw [w, if_neg (by decide), pz_iI_add, show z + pz_bi false = z from Int.add_zero z, show a + 4 + 1 = a + 5 by omega]
        · rw [w, if_pos (by decide), pz_iI_add, show z + pz_bi false = z from Int.add_zero z, show a + 4 + 0 = a + 4 by omega]
    have hM : ∃ on1 ot1 ch1 wo1, ∀ kk, s_X7_bookAll_L31 n XE (kk + 1) kp ty th at0 fl (iI (pz_txt X t (c + 1) a m).2.2) on ot ch wo (pz_ar F 0 452) past (pz_ar (pz_tld X t (c + 1) a m D) 0 48) (iI z) (iI m) = s_X7_bookAll_L31 n XE kk kp ty th at0 fl (iI (pz_txt X t (c + 1) a m).2.2) on1 ot1 ch1 wo1 (pz_ar (pz_stp F (X a - 48) (X (a + 2) - 48) (iI (pz_thr X t a))) 0 452) past (pz_ar (pz_tld X t (c + 1) a m D) 0 48) (iI (z + pz_bi (pz_stB F (X a - 48) (X (a + 2) - 48) (iI (pz_thr X t a))))) (iI (m + 1)) := by
      have r0 : pz_ar (pz_tld X t (c + 1) a m D) 0 48 (iI (3 * m)).toNatClampNeg = iI (X a - 48) := by rw [pz_ar_at (by omega) (by omega) (by omega), show 0 + 3 * m = 3 * m by omega, th3.1]
      have r1 : pz_ar (pz_tld X t (c + 1) a m D) 0 48 (iI (3 * m + 1)).toNatClampNeg = iI (X (a + 2) - 48) := by rw [pz_ar_at (by omega) (by omega) (by omega), show 0 + (3 * m + 1) = 3 * m + 1 by omega, th3.2.1]
      have r2 : pz_ar (pz_tld X t (c + 1) a m D) 0 48 (iI (3 * m + 2)).toNatClampNeg = iI (pz_thr X t a) := by rw [pz_ar_at (by omega) (by omega) (by omega), show 0 + (3 * m + 2) = 3 * m + 2 by omega, th3.2.2]
      have r6 : pz_ar F 0 452 (iI 6).toNatClampNeg = iI (F 6) := by rw [pz_ar_at (by omega) (by omega) (by omega)]; rfl
      have G0 : (gd (iI (3 * m)) 48 = true) = True := pz_gd_T (by omega) (by omega) (by omega)
      have G1 : (gd (iI (3 * m + 1)) 48 = true) = True := pz_gd_T (by omega) (by omega) (by omega)
      have G2 : (gd (iI (3 * m + 2)) 48 = true) = True := pz_gd_T (by omega) (by omega) (by omega)
      have G6 : (gd (iI 6) 452 = true) = True := pz_gd_T (by omega) (by omega) (by omega)
      have G9 : (gd (iI 9) 452 = true) = True := pz_gd_T (by omega) (by omega) (by omega)
      rcases pz_stepm iv hn hw (iI (pz_thr X t a)) on ot ch wo with ⟨s1, s2, s3⟩ | ⟨s1, o1, o2, o3, o4, s2, s3, s4⟩
      · refine ⟨on, ot, ch, wo, fun kk => ?_⟩
        have L : (iI 40 ≤ iI (F 6)) = True := by rw [s1]; exact eq_true (by decide)
        rw [s_X7_bookAll_L31, if_neg (by rw [pz_iI_le (by omega) (by omega) (by omega) (by omega)]; omega), pz_iI_mul, pz_iI_add, pz_iI_add, pz_iI_add, r2, r6, s2, s3, show z + pz_bi false = z from Int.add_zero z]
        simp only [G2, G6, G9, L, if_true, pz_ar_up9, ite_self]
      · refine ⟨o1, o2, o3, o4, fun kk => ?_⟩
        have L : (iI 40 ≤ iI (F 6)) = False := by rw [pz_iI_le (by omega) (by omega) (by omega) (by omega)]; exact eq_false (by omega)
        rw [s_X7_bookAll_L31, if_neg (by rw [pz_iI_le (by omega) (by omega) (by omega) (by omega)]; omega), pz_iI_mul, pz_iI_add, pz_iI_add, pz_iI_add, r0, r1, r2, r6]
        simp only [G0, G1, G2, G6, G9, L, if_true, if_false, pz_ar_up9]
        rcases w with ⟨w, _⟩ | ⟨w, _⟩
        · rw [w] at s2 s3 s4 ⊢
          rw [if_pos rfl, s2, Option.bind_some]
          cases hb : pz_stB F (X a - 48) (X (a + 2) - 48) (iI 1) with
          | true =>
            obtain ⟨zz, e⟩ := s4 hb
            dsimp only
            rw [if_neg (by decide), e, Option.bind_some, pz_iI_add]
            rfl
          | false =>
            dsimp only
            rw [if_pos (by decide), s3 hb, show z + pz_bi false = z from Int.add_zero z]
        · rw [w] at s2 s3 s4 ⊢
          rw [if_neg (by decide), s2, Option.bind_some]
          cases hb : pz_stB F (X a - 48) (X (a + 2) - 48) (iI 0) with
          | true =>
            obtain ⟨zz, e⟩ := s4 hb
            dsimp only
            rw [if_neg (by decide), e, Option.bind_some, pz_iI_add]
            rfl
          | false =>
            dsimp only
            rw [if_pos (by decide), s3 hb, show z + pz_bi false = z from Int.add_zero z]
    obtain ⟨on1, ot1, ch1, wo1, hM⟩ := hM
    rw [hC, show k2 + 2 = (k2 + 1) + 1 from rfl, hM (k2 + 1)]
    by_cases d : a + 3 + pz_thr X t a < t ∧ X (a + 3 + pz_thr X t a) = 59
    · have e1 : pz_txt X t (c + 1) a m = pz_txt X t c (a + 3 + pz_thr X t a + 1) (m + 1) := by rw [pz_txt_s, if_neg (fun q => q b), if_pos d]
      have e2 : pz_tld X t (c + 1) a m D = pz_tld X t c (a + 3 + pz_thr X t a + 1) (m + 1) (pz_put3 D m (X a - 48) (X (a + 2) - 48) (pz_thr X t a)) := by rw [pz_tld_s, if_neg (fun q => q b), if_pos d]
      rw [e1] at hx
      rw [e1, e2, show a + 4 + pz_thr X t a = a + 3 + pz_thr X t a + 1 by omega]
      obtain ⟨G, z2, on2, ot2, ch2, wo2, i1, i2, i3, i4, i5⟩ := ih (B + 1) (a + 3 + pz_thr X t a + 1) (m + 1) _ (pz_put3 D m (X a - 48) (X (a + 2) - 48) (pz_thr X t a)) (z + pz_bi (pz_stB F (X a - 48) (X (a + 2) - 48) (iI (pz_thr X t a)))) on1 ot1 ch1 wo1 sI (by omega) (by omega) (by omega) (by omega) (by omega) (by omega) hx (k + 1) (k2 + 1) (by omega) (by omega) (by omega)
      exact ⟨G, z2, on2, ot2, ch2, wo2, i1.mono (by omega), i2.trans sK.1, i3.trans sK.2, i4, i5⟩
    · have e1 : pz_txt X t (c + 1) a m = (decide (a + 3 + pz_thr X t a = t), a + 3 + pz_thr X t a, m + 1) := by rw [pz_txt_s, if_neg (fun q => q b), if_neg d]
      rw [e1] at hx
      have e : a + 3 + pz_thr X t a = t := of_decide_eq_true hx
      rw [e1]
      refine ⟨pz_stp F (X a - 48) (X (a + 2) - 48) (iI (pz_thr X t a)), z + pz_bi (pz_stB F (X a - 48) (X (a + 2) - 48) (iI (pz_thr X t a))), on1, ot1, ch1, wo1, sI.mono (by omega), sK.1, sK.2, ?_, ?_⟩
      · rw [s_X6_bookAll_L35, if_pos (by rw [pz_iI_le (by omega) (by omega) (by omega) (by omega)]; omega)]
        rfl
      · dsimp only
        rw [s_X7_bookAll_L31, if_pos (by rw [pz_iI_le (by omega) (by omega) (by omega) (by omega)]; omega)]
theorem pz_bookAll_p {B : Int} {F X D : Int → Int} {t : Int} {k : Nat} {E : Nat → Int → Int} {hist : Nat → TS} {old : Nat} {past : Nat → Int32} (h : pz_SC B F k E hist old past) (hT : pz_okT X t) (hB : B < 800000) {n : Nat} (hn : 3000 ≤ n) (th at0 fl tl on ot ch wo : Int32) (u : Nat → Int64) :
    ∃ (r b at2 fl2 tl2 on2 ot2 ch2 wo2 : Int32) (G D2 : Int → Int) (t2 : Int) (k2 : Nat) (E2 : Nat → Int → Int) (hist2 : Nat → TS) (old2 : Nat) (past2 : Nat → Int32) (u2 : Nat → Int64),
      s_L_bookAll n (iI old) (iI k) (iI t) (pz_ar X 0 60) (iI (F 7)) (iI (F 8)) (iI (F 9)) (pz_ar F 3 3) (pz_ar F 290 162) (iI (F 6)) (pz_ar F 10 280) (pz_ar F 0 3) u hist = some (r, iI old2, iI k2, iI t2, iI (G 7), iI (G 8), iI (G 9), pz_ar G 290 162, iI (G 6), pz_ar G 10 280, u2, hist2) ∧
      s_X7_bookAll n (iI k) (iI t) th at0 fl tl on ot ch wo (pz_ar F 0 452) past (pz_ar X 0 60) (pz_ar D 0 48) = some (b, iI k2, iI t2, r, at2, fl2, tl2, on2, ot2, ch2, wo2, pz_ar G 0 452, past2, pz_ar D2 0 48) ∧
      (r = 0 → lg_cmp (u2 0) b.toInt64 = 0) ∧ pz_SC (B + 16) G k2 E2 hist2 old2 past2 ∧ pz_okT X t2 ∧ pz_ar F 3 3 = pz_ar G 3 3 ∧ pz_ar F 0 3 = pz_ar G 0 3 := by
  have t6 := hT.2.1
  have t0 := hT.1
  unfold s_L_bookAll s_X6_bookAll s_X7_bookAll
  rw [pz_isComplete_a hT hn, pz_isText_a hT hn, Option.bind_some, Option.bind_some]
  cases e : (pz_txt X t 16 0 0).1 with
  | false =>
    rw [if_pos (by decide)]
    exact ⟨_, _, _, _, _, _, _, _, _, F, _, t, k, E, hist, old, past, _, rfl, rfl, fun q => absurd q (by decide), h.mono (by omega), hT, rfl, rfl⟩
  | true =>
    obtain ⟨hist2, k1, k2⟩ := pz_keep_a F hn h.hc
    obtain ⟨past2, p1, p2⟩ := pz_saves_a F hn h.k6 h.pr
    obtain ⟨G, z2, on2, ot2, ch2, wo2, i1, i2, i3, i4, i5⟩ := pz_all_L hT hn (iI (pz_oup old k)) (iI (pz_kup k)) hist2 (iI (pz_kup k)) (iI 0) (iI 0) (iI (pz_txt X t 16 0 0).2.1) (iI (if (pz_txt X t 16 0 0).2.1 < t then 1 else 0)) past2 (pz_ar X 0 60) 16 B 0 0 F D 0 on ot ch wo h.iv (by omega) (by omega) t0 (by omega) (by omega) (by omega) e 20 n (by omega) (by omega) (by omega)
    rw [if_neg (by decide), k1, p1, Option.bind_some, Option.bind_some]
    dsimp only
    rw [i4, if_neg (by decide), i5]
    refine ⟨iI 0, iI z2, _, _, _, _, _, _, _, G, _, 0, _, _, hist2, _, past2, vp_updL u (iI 0).toNatClampNeg (iI z2).toInt64, rfl, rfl, fun _ => by rw [pz_updL_0]; exact pz_lg_self _, h.save k2 p2 i1 (by omega), ⟨by omega, by omega, fun j j0 j1 => by omega⟩, i2.symm, i3.symm⟩
