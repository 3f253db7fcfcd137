def pz_smc (f : Int → Int) : Nat → Int → Int
  | 0, _ => 0
  | c + 1, x => f x + pz_smc f c (x + 1)
theorem pz_smc_s (f : Int → Int) (c : Nat) (x : Int) : pz_smc f (c + 1) x = f x + pz_smc f c (x + 1) := rfl
theorem pz_smc_split (f : Int → Int) : ∀ (c d : Nat) (x : Int), pz_smc f (c + d) x = pz_smc f c x + pz_smc f d (x + c) := by
  intro c
  induction c with
  | zero => intro d x; rw [show (0 + d) = d by omega, show x + ((0 : Nat) : Int) = x by omega]; show _ = 0 + _; omega
  | succ c ih =>
    intro d x
    rw [show c + 1 + d = (c + d) + 1 by omega, pz_smc_s, pz_smc_s, ih d (x + 1), show x + 1 + (c : Int) = x + ((c + 1 : Nat) : Int) by omega]
    omega
theorem pz_smc_last (f : Int → Int) (c : Nat) (x : Int) : pz_smc f (c + 1) x = pz_smc f c x + f (x + c) := by
  rw [pz_smc_split f c 1 x]
  show _ + (f (x + c) + 0) = _
  omega
theorem pz_smc_congr {f g : Int → Int} : ∀ (c : Nat) (x : Int), (∀ z, x ≤ z → z < x + c → f z = g z) → pz_smc f c x = pz_smc g c x := by
  intro c
  induction c with
  | zero => intro x h; rfl
  | succ c ih =>
    intro x h
    rw [pz_smc_s, pz_smc_s, h x (by omega) (by omega), ih (x + 1) (fun z h1 h2 => h z (by omega) (by omega))]
theorem pz_smc_const (v : Int) : ∀ (c : Nat) (x : Int), pz_smc (fun _ => v) c x = v * c := by
  intro c
  induction c with
  | zero => intro x; show 0 = v * ((0 : Nat) : Int); simp
  | succ c ih =>
    intro x
    rw [pz_smc_s, ih (x + 1), show ((c + 1 : Nat) : Int) = (c : Int) + 1 from rfl, Int.mul_add, Int.mul_one]
    omega
theorem pz_smc_zero {f : Int → Int} (c : Nat) (x : Int) (h : ∀ z, x ≤ z → z < x + c → f z = 0) : pz_smc f c x = 0 := by
  rw [pz_smc_congr (g := fun _ => 0) c x h, pz_smc_const]; simp
theorem pz_smc_add (f g : Int → Int) : ∀ (c : Nat) (x : Int), pz_smc (fun z => f z + g z) c x = pz_smc f c x + pz_smc g c x := by
  intro c
  induction c with
  | zero => intro x; rfl
  | succ c ih => intro x; rw [pz_smc_s, pz_smc_s, pz_smc_s, ih (x + 1)]; omega
theorem pz_smc_swap (h : Int → Int → Int) (P : Nat) (p0 : Int) : ∀ (c : Nat) (x : Int), pz_smc (fun z => pz_smc (fun p => h z p) P p0) c x = pz_smc (fun p => pz_smc (fun z => h z p) c x) P p0 := by
  intro c
  induction c with
  | zero =>
    intro x
    show (0 : Int) = pz_smc (fun p => pz_smc (fun z => h z p) 0 x) P p0
    exact (pz_smc_zero P p0 (fun z _ _ => rfl)).symm
  | succ c ih =>
    intro x
    rw [pz_smc_s, ih (x + 1), ← pz_smc_add]
    rfl
theorem pz_smc_one {f : Int → Int} (c : Nat) (x p : Int) (h0 : x ≤ p) (h1 : p < x + c) (hp : f p = 1) (h : ∀ z, x ≤ z → z < x + c → z ≠ p → f z = 0) : pz_smc f c x = 1 := by
  have e : c = (p - x).toNat + (1 + (c - (p - x).toNat - 1)) := by omega
  rw [e, pz_smc_split, pz_smc_split, pz_smc_zero (p - x).toNat x (fun z a b => h z a (by omega) (by omega)), pz_smc_zero (c - (p - x).toNat - 1) _ (fun z a b => h z (by omega) (by omega) (by omega))]
  show 0 + ((f (x + ((p - x).toNat : Nat)) + 0) + 0) = 1
  rw [show x + (((p - x).toNat : Nat) : Int) = p by omega, hp]
  rfl
theorem pz_smc_rg {f : Int → Int} (m : Int) : ∀ (c : Nat) (x : Int), (∀ z, x ≤ z → z < x + c → 0 ≤ f z ∧ f z ≤ m) → 0 ≤ pz_smc f c x ∧ pz_smc f c x ≤ m * c := by
  intro c
  induction c with
  | zero => intro x h; show (0 : Int) ≤ 0 ∧ 0 ≤ m * ((0 : Nat) : Int); simp
  | succ c ih =>
    intro x h
    have a := h x (by omega) (by omega)
    have b := ih (x + 1) (fun z h1 h2 => h z (by omega) (by omega))
    rw [pz_smc_s, show ((c + 1 : Nat) : Int) = (c : Int) + 1 from rfl, Int.mul_add, Int.mul_one]
    omega
def pz_ind (A B : Int) (z : Int) : Int := if A ≤ z ∧ z < B then 1 else 0
theorem pz_ind_T {A B z : Int} (h : A ≤ z ∧ z < B) : pz_ind A B z = 1 := if_pos h
theorem pz_ind_F {A B z : Int} (h : ¬ (A ≤ z ∧ z < B)) : pz_ind A B z = 0 := if_neg h
theorem pz_smc_ind {A B : Int} (h0 : 0 ≤ A) (h1 : A ≤ B) (h2 : B ≤ 162) : pz_smc (pz_ind A B) 162 0 = B - A := by
  have e : 162 = A.toNat + ((B - A).toNat + (162 - B).toNat) := by omega
  rw [e, pz_smc_split, pz_smc_split, pz_smc_zero A.toNat 0 (fun z a b => pz_ind_F (by omega)), pz_smc_zero (162 - B).toNat _ (fun z a b => pz_ind_F (by omega)), pz_smc_congr (g := fun _ => 1) (B - A).toNat _ (fun z a b => pz_ind_T (by omega)), pz_smc_const]
  omega
def pz_cvN (F : Int → Int) (p z : Int) : Int := pz_ind (9 * pz_fld F p 4 + pz_fld F p 1) (9 * pz_fld F p 4 + pz_mid F p) z + pz_ind (9 * pz_fld F p 5 + pz_mid F p) (9 * pz_fld F p 5 + pz_fld F p 2) z
theorem pz_cvN_T {F : Int → Int} {p b l : Int} (ok : pz_okw F p) (h : pz_cov F p b l) : pz_cvN F p (b * 9 + l) = 1 := by
  have m := pz_okw_mid ok
  unfold pz_okw at ok
  unfold pz_cov at h
  unfold pz_cvN
  rcases h with h | h
  · rw [pz_ind_T (by omega), pz_ind_F (by omega)]; rfl
  · rw [pz_ind_F (by omega), pz_ind_T (by omega)]; rfl
theorem pz_cvN_F {F : Int → Int} {p b l : Int} (ok : pz_okw F p) (hl : 0 ≤ l) (hl2 : l < 9) (h : ¬ pz_cov F p b l) : pz_cvN F p (b * 9 + l) = 0 := by
  have m := pz_okw_mid ok
  unfold pz_okw at ok
  unfold pz_cov at h
  unfold pz_cvN
  rw [pz_ind_F (by omega), pz_ind_F (by omega)]; rfl
def pz_hadN (F : Int → Int) : Int := pz_smc (fun z => if F (290 + z) = -1 then 0 else 1) 162 0
theorem pz_had_eq {B : Int} {F : Int → Int} (h : pz_Inv B F) : pz_hadN F = pz_smc (fun p => pz_fld F p 2 - pz_fld F p 1) (F 6).toNat 0 := by
  have sz := h.sz
  have e : pz_hadN F = pz_smc (fun z => pz_smc (fun p => pz_cvN F p z) (F 6).toNat 0) 162 0 := by
    unfold pz_hadN
    apply pz_smc_congr
    intro z h0 h1
    have hz : z = (z / 9) * 9 + z % 9 := by omega
    by_cases d : F (290 + z) = -1
    · rw [if_pos d, pz_smc_zero]
      intro p p0 p1
      have pp := h.ps p p0 (by omega)
      rw [hz]
      refine pz_cvN_F pp.1 (by omega) (by omega) (fun c => ?_)
      have q := h.h1 p _ _ p0 (by omega) c
      rw [← hz] at q
      omega
    · rw [if_neg d]
      rcases h.h2 (z / 9) (z % 9) (by omega) (by omega) (by omega) (by omega) with w | ⟨p, p0, p1, w⟩
      · rw [← hz] at w; exact absurd w d
      · have pp := h.ps p p0 p1
        have q := h.h1 p _ _ p0 p1 w
        refine (pz_smc_one _ 0 p p0 (by omega) ?_ ?_).symm
        · show pz_cvN F p z = 1
          rw [hz]; exact pz_cvN_T pp.1 w
        · intro r r0 r1 ne
          show pz_cvN F r z = 0
          rw [hz]
          refine pz_cvN_F (h.ps r r0 (by omega)).1 (by omega) (by omega) (fun c => ?_)
          have q2 := h.h1 r _ _ r0 (by omega) c
          exact ne (h.nj r p r0 (by omega) p0 p1 (by omega))
  rw [e, pz_smc_swap]
  apply pz_smc_congr
  intro p p0 p1
  have ok := (h.ps p p0 (by omega)).1
  have m := pz_okw_mid ok
  unfold pz_okw at ok
  unfold pz_cvN
  rw [pz_smc_add, pz_smc_ind (by omega) (by omega) (by omega), pz_smc_ind (by omega) (by omega) (by omega)]
  omega
theorem pz_sumOf_L {B : Int} {F : Int → Int} (h : pz_Inv B F) {n : Nat} (hn : 3000 ≤ n) {d : Int} (hd : 0 ≤ d) (hd2 : d < 9) : ∀ (c : Nat) (x s : Int), 0 ≤ x → x + c = F 6 → ∀ k, c < k → s_X5_sumOf_L4 n (pz_ar F 290 162) (iI (F 6)) (pz_ar F 10 280) (pz_ar F 0 3) (iI d) k (iI s) (iI x) = some (iI (s + pz_smc (fun p => pz_prp F p d) c x)) := by
  have sz := h.sz
  have st := h.st
  intro c
  induction c with
  | zero =>
    intro x s hx hc k hk
    obtain ⟨k, rfl⟩ : ∃ z, k = z + 1 := ⟨k - 1, by omega⟩
    rw [s_X5_sumOf_L4, if_pos (by rw [pz_iI_le (by omega) (by omega) (by omega) (by omega)]; omega)]
    show _ = some (iI (s + 0)); rw [Int.add_zero]
  | succ c ih =>
    intro x s hx hc k hk
    obtain ⟨k, rfl⟩ : ∃ z, k = z + 1 := ⟨k - 1, by omega⟩
    rw [s_X5_sumOf_L4, if_neg (by rw [pz_iI_le (by omega) (by omega) (by omega) (by omega)]; omega), pz_property_a h.rg hn hx (by omega) (h.ps x hx (by omega)).1 ⟨st.2.2.2.2.1, st.2.2.2.2.2⟩ hd hd2, Option.bind_some, pz_iI_add, pz_iI_add, ih (x + 1) _ (by omega) (by omega) k (by omega), pz_smc_s]
    congr 2; omega
theorem pz_sumOf_a {B : Int} {F : Int → Int} (h : pz_Inv B F) {n : Nat} (hn : 3000 ≤ n) {d : Int} (hd : 0 ≤ d) (hd2 : d < 9) : s_X5_sumOf n (pz_ar F 290 162) (iI (F 6)) (pz_ar F 10 280) (pz_ar F 0 3) (iI d) = some (iI (pz_smc (fun p => pz_prp F p d) (F 6).toNat 0)) := by
  have sz := h.sz
  unfold s_X5_sumOf
  rw [pz_sumOf_L h hn hd hd2 (F 6).toNat 0 0 (by omega) (by omega) n (by omega), Int.zero_add]
def pz_chN (F : Int → Int) (p : Int) : Int := if pz_fld F p 6 = -1 then 0 else 1
theorem pz_changing_L {F : Int → Int} (hr : pz_rng F) (h6 : F 6 ≤ 40) (n : Nat) : ∀ (c : Nat) (x s : Int), 0 ≤ x → x + c = F 6 → ∀ k, c < k → s_X3_changing_L4 n (iI (F 6)) (pz_ar F 10 280) k (iI s) (iI x) = some (iI (s + pz_smc (pz_chN F) c x)) := by
  intro c
  induction c with
  | zero =>
    intro x s hx hc k hk
    obtain ⟨k, rfl⟩ : ∃ z, k = z + 1 := ⟨k - 1, by omega⟩
    rw [s_X3_changing_L4, if_pos (by rw [pz_iI_le (by omega) (by omega) (by omega) (by omega)]; omega)]
    show _ = some (iI (s + 0)); rw [Int.add_zero]
  | succ c ih =>
    intro x s hx hc k hk
    obtain ⟨k, rfl⟩ : ∃ z, k = z + 1 := ⟨k - 1, by omega⟩
    have r : -1 ≤ pz_fld F x 6 ∧ pz_fld F x 6 < 1000000 := hr (10 + (7 * x + 6))
    rw [s_X3_changing_L4, if_neg (by rw [pz_iI_le (by omega) (by omega) (by omega) (by omega)]; omega), pz_at_a hx (by omega) (by omega) (by omega), Option.bind_some, pz_iI_add, pz_iI_add, ih (x + 1) _ (by omega) (by omega) k (by omega), ih (x + 1) _ (by omega) (by omega) k (by omega), pz_smc_s]
    unfold pz_chN
    by_cases d : pz_fld F x 6 = -1
    · rw [if_pos (by rw [d]), if_pos d]; congr 2; omega
    · rw [if_neg (by rw [pz_iI_eq (by omega) (by omega) (by omega) (by omega)]; exact d), if_neg d]; congr 2; omega
theorem pz_changing_a {F : Int → Int} (hr : pz_rng F) (h0 : 0 ≤ F 6) (h6 : F 6 ≤ 40) {n : Nat} (hn : 3000 ≤ n) : s_X3_changing n (iI (F 6)) (pz_ar F 10 280) = some (iI (pz_smc (pz_chN F) (F 6).toNat 0)) := by
  unfold s_X3_changing
  rw [pz_changing_L hr h6 n (F 6).toNat 0 0 (by omega) (by omega) n (by omega), Int.zero_add]
theorem pz_allHad_L {F : Int → Int} (hr : pz_rng F) (n : Nat) : ∀ (c : Nat) (x s : Int), 0 ≤ x → x + c = 162 → ∀ k, c < k → s_X0_allHad_L4 n (pz_ar F 290 162) k (iI s) (iI x) = some (iI (s + pz_smc (fun z => if F (290 + z) = -1 then 0 else 1) c x)) := by
  intro c
  induction c with
  | zero =>
    intro x s hx hc k hk
    obtain ⟨k, rfl⟩ : ∃ z, k = z + 1 := ⟨k - 1, by omega⟩
    rw [s_X0_allHad_L4, if_pos (by rw [pz_iI_le (by omega) (by omega) (by omega) (by omega)]; omega)]
    show _ = some (iI (s + 0)); rw [Int.add_zero]
  | succ c ih =>
    intro x s hx hc k hk
    obtain ⟨k, rfl⟩ : ∃ z, k = z + 1 := ⟨k - 1, by omega⟩
    have r := hr (290 + x)
    rw [s_X0_allHad_L4, if_neg (by rw [pz_iI_le (by omega) (by omega) (by omega) (by omega)]; omega), if_pos (pz_gd_Y (by omega) (by omega) (by omega)), pz_ar_at hx (by omega) (by omega), pz_iI_add, pz_iI_add, ih (x + 1) _ (by omega) (by omega) k (by omega), ih (x + 1) _ (by omega) (by omega) k (by omega), pz_smc_s]
    by_cases d : F (290 + x) = -1
    · rw [if_pos (by rw [d]), if_pos d]; congr 2; omega
    · rw [if_neg (by rw [pz_iI_eq (by omega) (by omega) (by omega) (by omega)]; exact d), if_neg d]; congr 2; omega
theorem pz_allHad_a {F : Int → Int} (hr : pz_rng F) {n : Nat} (hn : 3000 ≤ n) : s_X0_allHad n (pz_ar F 290 162) = some (iI (pz_hadN F)) := by
  unfold s_X0_allHad
  rw [pz_allHad_L hr n 162 0 0 (by omega) (by omega) n (by omega), Int.zero_add]
  rfl
def pz_ovf (F : Int → Int) (w p : Int) : Int := if w = 1 then pz_fld F p 3 else if w = 2 then pz_chN F p else if w = 3 then pz_wok F p else if w = 4 then pz_tipF F p else pz_fld F p 2 - pz_fld F p 1
theorem pz_overAll_L {B : Int} {F : Int → Int} (h : pz_Inv B F) {n : Nat} (hn : 3000 ≤ n) {w : Int} (hw : 0 ≤ w) (hw2 : w < 9) : ∀ (c : Nat) (x s : Int), 0 ≤ x → x + c = F 6 → ∀ k, c < k → s_X7_overAll_L4 n (pz_ar F 0 452) (iI w) k (iI s) (iI x) = some (iI (s + pz_smc (pz_ovf F w) c x)) := by
  have sz := h.sz
  have st := h.st
  intro c
  induction c with
  | zero =>
    intro x s hx hc k hk
    obtain ⟨k, rfl⟩ : ∃ z, k = z + 1 := ⟨k - 1, by omega⟩
    rw [s_X7_overAll_L4, if_pos (pz_gd_Y (by omega) (by omega) (by omega)), pz_ar_at (by omega) (by omega) (by omega), show (0 : Int) + 6 = 6 from rfl, if_pos (by rw [pz_iI_le (by omega) (by omega) (by omega) (by omega)]; omega)]
    show _ = some (iI (s + 0)); rw [Int.add_zero]
  | succ c ih =>
    intro x s hx hc k hk
    obtain ⟨k, rfl⟩ : ∃ z, k = z + 1 := ⟨k - 1, by omega⟩
    have r : -1 ≤ pz_fld F x 6 ∧ pz_fld F x 6 < 1000000 := h.rg (10 + (7 * x + 6))
    have pp := h.ps x hx (by omega)
    have go := fun v => ih (x + 1) (s + v) (by omega) (by omega) k (by omega)
    rw [s_X7_overAll_L4, if_pos (pz_gd_Y (by omega) (by omega) (by omega)), pz_ar_at (by omega) (by omega) (by omega), show (0 : Int) + 6 = 6 from rfl, if_neg (by rw [pz_iI_le (by omega) (by omega) (by omega) (by omega)]; omega), pz_of_a hx (by omega) (by omega) (by omega), pz_of_a hx (by omega) (by omega) (by omega), pz_of_a hx (by omega) (by omega) (by omega), pz_of_a hx (by omega) (by omega) (by omega), pz_wakesOf_a h.rg hn hx (by omega) pp.1, pz_tip_m h.rg hn hx (by omega) pp.1 ⟨st.2.2.2.2.1, st.2.2.2.2.2⟩, pz_smc_s]
    simp only [Option.bind_some, pz_iI_add, pz_iI_sub, go]
    unfold pz_ovf pz_chN
    simp (disch := omega) only [pz_iI_eq]
    by_cases a1 : w = 1
    · rw [if_pos a1, if_pos a1]; congr 2; omega
    · rw [if_neg a1, if_neg a1]
      by_cases a2 : w = 2
      · rw [if_pos a2, if_pos a2]
        by_cases d : pz_fld F x 6 = -1
        · rw [if_pos d, if_pos d]; congr 2; omega
        · rw [if_neg d, if_neg d]; congr 2; omega
      · rw [if_neg a2, if_neg a2]
        by_cases a3 : w = 3
        · rw [if_pos a3, if_pos a3]; congr 2; omega
        · rw [if_neg a3, if_neg a3]
          by_cases a4 : w = 4
          · rw [if_pos a4, if_pos a4]; congr 2; omega
          · rw [if_neg a4, if_neg a4]; congr 2; omega
theorem pz_overAll_a {B : Int} {F : Int → Int} (h : pz_Inv B F) {n : Nat} (hn : 3000 ≤ n) {w : Int} (hw : 0 ≤ w) (hw2 : w < 9) : s_X7_overAll n (pz_ar F 0 452) (iI w) = some (iI (pz_smc (pz_ovf F w) (F 6).toNat 0)) := by
  have sz := h.sz
  unfold s_X7_overAll
  rw [pz_overAll_L h hn hw hw2 (F 6).toNat 0 0 (by omega) (by omega) n (by omega), Int.zero_add]
def pz_cntV (F : Int → Int) (k w : Int) : Int := if w = 0 then F 6 else if w = 1 then pz_smc (pz_ovf F 1) (F 6).toNat 0 else if w = 2 then pz_smc (pz_ovf F 2) (F 6).toNat 0 else if w = 3 then pz_smc (pz_ovf F 3) (F 6).toNat 0 else if w = 4 then pz_smc (pz_ovf F 4) (F 6).toNat 0 else if w = 5 then pz_smc (pz_ovf F 5) (F 6).toNat 0 else if w = 6 then F 8 else if w = 7 then F 9 else k
theorem pz_nine {w : Int} (h0 : 0 ≤ w) (h1 : w < 9) : w = 0 ∨ w = 1 ∨ w = 2 ∨ w = 3 ∨ w = 4 ∨ w = 5 ∨ w = 6 ∨ w = 7 ∨ w = 8 := by omega
theorem pz_had_5 {B : Int} {F : Int → Int} (h : pz_Inv B F) : pz_hadN F = pz_smc (pz_ovf F 5) (F 6).toNat 0 := pz_had_eq h
theorem pz_count_c {B : Int} {F : Int → Int} (h : pz_Inv B F) {n : Nat} (hn : 3000 ≤ n) (k : Int) {w : Int} (h0 : 0 ≤ w) (h1 : w < 9) : s_X6_count n (iI k) (iI (F 8)) (iI (F 9)) (pz_ar F 290 162) (iI (F 6)) (pz_ar F 10 280) (pz_ar F 0 3) (iI w) = some (0, iI (pz_cntV F k w)) := by
  have sz := h.sz
  unfold s_X6_count
  rw [pz_sumOf_a h hn (by omega) (by omega), pz_sumOf_a h hn (by omega) (by omega), pz_sumOf_a h hn (by omega) (by omega), pz_changing_a h.rg sz.1 sz.2 hn, pz_allHad_a h.rg hn, pz_had_5 h]
  rcases pz_nine h0 h1 with rfl | rfl | rfl | rfl | rfl | rfl | rfl | rfl | rfl
  · rfl
  · rw [if_neg (by decide), if_pos rfl]; rfl
  · rw [if_neg (by decide), if_neg (by decide), if_pos rfl]; rfl
  · rw [if_neg (by decide), if_neg (by decide), if_neg (by decide), if_pos rfl]; rfl
  · rw [if_neg (by decide), if_neg (by decide), if_neg (by decide), if_neg (by decide), if_pos rfl]; rfl
  · rw [if_neg (by decide), if_neg (by decide), if_neg (by decide), if_neg (by decide), if_neg (by decide), if_pos rfl]; rfl
  · rw [if_neg (by decide), if_neg (by decide), if_neg (by decide), if_neg (by decide), if_neg (by decide), if_neg (by decide), if_pos rfl]; rfl
  · rw [if_neg (by decide), if_neg (by decide), if_neg (by decide), if_neg (by decide), if_neg (by decide), if_neg (by decide), if_neg (by decide), if_pos rfl]; rfl
  · rw [if_neg (by decide), if_neg (by decide), if_neg (by decide), if_neg (by decide), if_neg (by decide), if_neg (by decide), if_neg (by decide), if_neg (by decide), if_pos rfl]; rfl
theorem pz_counted_m {B : Int} {F : Int → Int} (h : pz_Inv B F) {n : Nat} (hn : 3000 ≤ n) (k : Int) {w : Int} (h0 : 0 ≤ w) (h1 : w < 9) : s_X7_counted n (iI k) (pz_ar F 0 452) (iI w) = some (iI (pz_cntV F k w)) := by
  have sz := h.sz
  unfold s_X7_counted
  rw [pz_overAll_a h hn h0 h1]
  by_cases a : w = 0
  · subst a
    rw [if_pos (by decide), if_pos (by decide), pz_ar_at (by omega) (by omega) (by omega)]; rfl
  · rw [if_neg (by rw [pz_iI_0, pz_iI_eq (by omega) (by omega) (by omega) (by omega)]; exact a)]
    by_cases b : w < 6
    · rw [if_neg (by rw [pz_iI_le (by omega) (by omega) (by omega) (by omega)]; omega)]
      have e : w = 1 ∨ w = 2 ∨ w = 3 ∨ w = 4 ∨ w = 5 := by omega
      rcases e with rfl | rfl | rfl | rfl | rfl <;> rfl
    · rw [if_pos (by rw [pz_iI_le (by omega) (by omega) (by omega) (by omega)]; omega)]
      by_cases c : w = 8
      · subst c
        rw [if_pos (by decide)]; rfl
      · rw [if_neg (by rw [pz_iI_le (by omega) (by omega) (by omega) (by omega)]; omega), pz_iI_add, pz_iI_sub, if_pos (pz_gd_Y (by omega) (by omega) (by omega)), pz_ar_at (by omega) (by omega) (by omega)]
        have e : w = 6 ∨ w = 7 := by omega
        rcases e with rfl | rfl <;> rfl
theorem pz_count_p {B : Int} {F : Int → Int} (h : pz_Inv B F) {n : Nat} (hn : 3000 ≤ n) (k : Int) (th a1 : Int32) (u : Nat → Int64) : ∃ (r b : Int32) (u2 : Nat → Int64), s_L_count n (iI k) (iI (F 8)) (iI (F 9)) (pz_ar F 290 162) (iI (F 6)) (pz_ar F 10 280) (pz_ar F 0 3) u a1 = some (r, u2) ∧ s_X7_count n (iI k) th (pz_ar F 0 452) a1 = some (b, r) ∧ (r = 0 → lg_cmp (u2 0) b.toInt64 = 0) := by
  obtain ⟨w, rfl, w1, w2⟩ := pz_iI_surj a1
  unfold s_L_count s_X7_count
  by_cases g : 0 ≤ w ∧ w < 9
  · rw [pz_count_c h hn k g.1 g.2, pz_counted_m h hn k g.1 g.2, pz_in_T g.1 (show w ≤ 8 by omega) (by omega) (by omega)]
    exact ⟨iI 0, iI (pz_cntV F k w), _, rfl, rfl, fun _ => by rw [pz_updL_0]; exact pz_lg_self _⟩
  · rw [pz_in_F w1 w2 (show ¬ (0 ≤ w ∧ w ≤ 8) by omega) (by omega) (by omega) (by omega) (by omega)]
    have e : s_X6_count n (iI k) (iI (F 8)) (iI (F 9)) (pz_ar F 290 162) (iI (F 6)) (pz_ar F 10 280) (pz_ar F 0 3) (iI w) = some (1, 0) := by
      unfold s_X6_count
      simp (disch := omega) only [pz_iI_eq_F, if_false]
    rw [e]
    exact ⟨_, _, _, rfl, rfl, fun q => absurd q (by decide)⟩
theorem pz_holder_p {B : Int} {F : Int → Int} (h : pz_Inv B F) (th a1 a2 : Int32) (u : Nat → Int64) : ∃ (r b : Int32) (u2 : Nat → Int64), s_L_holder (pz_ar F 290 162) u a1 a2 = some (r, u2) ∧ s_X7_holder th (pz_ar F 0 452) a1 a2 = some (b, r) ∧ (r = 0 → lg_cmp (u2 0) b.toInt64 = 0) := by
  obtain ⟨b, rfl, b1, b2⟩ := pz_iI_surj a1
  obtain ⟨l, rfl, l1, l2⟩ := pz_iI_surj a2
  unfold s_L_holder s_X6_holder s_X7_holder
  by_cases g : 0 ≤ b ∧ b < 18
  · rw [pz_isBelow_T g.1 g.2 (by omega), pz_in_T g.1 (show b ≤ 17 by omega) (by omega) (by omega)]
    by_cases g2 : 0 ≤ l ∧ l < 9
    · rw [pz_isBelow_T g2.1 g2.2 (by omega), pz_in_T g2.1 (show l ≤ 8 by omega) (by omega) (by omega), pz_holderOn_a g.1 g.2 g2.1 g2.2, pz_holds_s (pz_ar_row F 0 452) h.rg g.1 g.2 g2.1 g2.2]
      exact ⟨iI 0, iI (F (290 + (b * 9 + l))), _, rfl, rfl, fun _ => by rw [pz_updL_0]; exact pz_lg_self _⟩
    · rw [pz_isBelow_F l1 l2 g2 (by omega) (by omega), pz_in_F l1 l2 (show ¬ (0 ≤ l ∧ l ≤ 8) by omega) (by omega) (by omega) (by omega) (by omega)]
      exact ⟨_, _, _, rfl, rfl, fun q => absurd q (by decide)⟩
  · rw [pz_isBelow_F b1 b2 g (by omega) (by omega), pz_in_F b1 b2 (show ¬ (0 ≤ b ∧ b ≤ 17) by omega) (by omega) (by omega) (by omega) (by omega)]
    exact ⟨_, _, _, rfl, rfl, fun q => absurd q (by decide)⟩
theorem pz_ofPas_m {F : Int → Int} (hr : pz_rng F) {n : Nat} (hn : 3000 ≤ n) {p d : Int} (h0 : 0 ≤ p) (h1 : p < 40) (ok : pz_okw F p) (hs : 0 ≤ F 2 ∧ F 2 ≤ 50) (hd : 0 ≤ d) (hd2 : d < 9) : s_X7_ofPassenger n (pz_ar F 0 452) (iI p) (iI d) = some (iI (pz_prp F p d)) := by
  unfold s_X7_ofPassenger pz_prp
  rw [pz_wakesOf_a hr hn h0 h1 ok, pz_tip_m hr hn h0 h1 ok hs]
  by_cases a : d < 7
  · rw [if_neg (by rw [pz_iI_le (by omega) (by omega) (by omega) (by omega)]; omega), pz_of_a h0 h1 hd a, if_neg (by omega), if_neg (by omega)]; rfl
  · rw [if_pos (by rw [pz_iI_le (by omega) (by omega) (by omega) (by omega)]; omega)]
    by_cases b : d = 7
    · rw [if_pos (by rw [b]), if_pos b]; rfl
    · rw [if_neg (by rw [pz_iI_eq (by omega) (by omega) (by omega) (by omega)]; exact b), if_neg b, if_pos (by omega)]; rfl
theorem pz_passenger_p {B : Int} {F : Int → Int} (h : pz_Inv B F) {n : Nat} (hn : 3000 ≤ n) (th a1 a2 : Int32) (u : Nat → Int64) : ∃ (r b : Int32) (u2 : Nat → Int64), s_L_passenger n (pz_ar F 290 162) (iI (F 6)) (pz_ar F 10 280) (pz_ar F 0 3) u a1 a2 = some (r, u2) ∧ s_X7_passenger n th (pz_ar F 0 452) a1 a2 = some (b, r) ∧ (r = 0 → lg_cmp (u2 0) b.toInt64 = 0) := by
  obtain ⟨p, rfl, p1, p2⟩ := pz_iI_surj a1
  obtain ⟨d, rfl, d1, d2⟩ := pz_iI_surj a2
  have sz := h.sz
  have st := h.st
  unfold s_L_passenger s_X6_passenger s_X7_passenger
  by_cases g : p < 0
  · rw [if_pos (show iI p < 0 by rw [pz_iI_0, pz_iI_lt (by omega) (by omega) (by omega) (by omega)]; exact g), if_pos (show iI p < 0 by rw [pz_iI_0, pz_iI_lt (by omega) (by omega) (by omega) (by omega)]; exact g)]
    exact ⟨_, _, _, rfl, rfl, fun q => absurd q (by decide)⟩
  · rw [if_neg (show ¬ iI p < 0 by rw [pz_iI_0, pz_iI_lt (by omega) (by omega) (by omega) (by omega)]; exact g), if_neg (show ¬ iI p < 0 by rw [pz_iI_0, pz_iI_lt (by omega) (by omega) (by omega) (by omega)]; exact g)]
    by_cases g2 : 0 ≤ d ∧ d < 9
    · rw [pz_isBelow_T g2.1 g2.2 (by omega), pz_in_T g2.1 (show d ≤ 8 by omega) (by omega) (by omega), if_pos (pz_gd_Y (z := 6) (n := 452) (by omega) (by omega) (by omega)), pz_ar_at (by omega) (by omega) (by omega), show (0 : Int) + 6 = 6 from rfl]
      by_cases g3 : p < F 6
      · rw [if_neg (show ¬ iI (F 6) ≤ iI p by rw [pz_iI_le (by omega) (by omega) (by omega) (by omega)]; omega), if_neg (show ¬ iI (F 6) ≤ iI p by rw [pz_iI_le (by omega) (by omega) (by omega) (by omega)]; omega)]
        have ok := (h.ps p (by omega) g3).1
        rw [pz_property_a h.rg hn (by omega) (by omega) ok ⟨st.2.2.2.2.1, st.2.2.2.2.2⟩ g2.1 g2.2, pz_ofPas_m h.rg hn (by omega) (by omega) ok ⟨st.2.2.2.2.1, st.2.2.2.2.2⟩ g2.1 g2.2]
        exact ⟨iI 0, iI (pz_prp F p d), _, rfl, rfl, fun _ => by rw [pz_updL_0]; exact pz_lg_self _⟩
      · rw [if_pos (show iI (F 6) ≤ iI p by rw [pz_iI_le (by omega) (by omega) (by omega) (by omega)]; omega), if_pos (show iI (F 6) ≤ iI p by rw [pz_iI_le (by omega) (by omega) (by omega) (by omega)]; omega)]
        exact ⟨iI 0, iI (-1), _, rfl, rfl, fun _ => by rw [pz_updL_0]; exact pz_lg_self _⟩
    · rw [pz_isBelow_F d1 d2 g2 (by omega) (by omega), pz_in_F d1 d2 (show ¬ (0 ≤ d ∧ d ≤ 8) by omega) (by omega) (by omega) (by omega) (by omega)]
      exact ⟨_, _, _, rfl, rfl, fun q => absurd q (by decide)⟩
def pz_opnN (F : Int → Int) (l : Int) : Int := pz_smc (fun b => pz_bi (pz_opB F b l)) 18 0
def pz_low (F : Int → Int) (l : Int) : Nat → Int → Int
  | 0, _ => -1
  | c + 1, x => if pz_opB F x l = true then x else pz_low F l c (x + 1)
theorem pz_low_s (F : Int → Int) (l : Int) (c : Nat) (x : Int) : pz_low F l (c + 1) x = if pz_opB F x l = true then x else pz_low F l c (x + 1) := rfl
def pz_lowN (F : Int → Int) (l : Int) : Int := pz_low F l 18 0
theorem pz_low_last (F : Int → Int) (l : Int) : ∀ (c : Nat) (x : Int), 0 ≤ x → pz_low F l (c + 1) x = if pz_low F l c x = -1 then (if pz_opB F (x + c) l = true then x + c else -1) else pz_low F l c x := by
  intro c
  induction c with
  | zero =>
    intro x hx
    rw [pz_low_s]
    show (if pz_opB F x l = true then x else -1) = if (-1 : Int) = -1 then _ else _
    rw [if_pos rfl, show x + ((0 : Nat) : Int) = x by omega]
  | succ c ih =>
    intro x hx
    rw [pz_low_s, ih (x + 1) (by omega), pz_low_s, show x + 1 + (c : Int) = x + ((c + 1 : Nat) : Int) by omega]
    by_cases d : pz_opB F x l = true
    · rw [if_pos d, if_pos d, if_neg (by omega)]
    · rw [if_neg d, if_neg d]
theorem pz_openOn_L {F : Int → Int} (hr : pz_rng F) (n : Nat) {l : Int} (hl : 0 ≤ l) (hl2 : l < 9) : ∀ (c : Nat) (x s : Int), 0 ≤ x → x + c = 18 → ∀ k, c < k → s_X0_openOn_L4 n (pz_ar F 3 3) (pz_ar F 290 162) (iI l) k (iI s) (iI x) = some (iI (s + pz_smc (fun b => pz_bi (pz_opB F b l)) c x)) := by
  intro c
  induction c with
  | zero =>
    intro x s hx hc k hk
    obtain ⟨k, rfl⟩ : ∃ z, k = z + 1 := ⟨k - 1, by omega⟩
    rw [s_X0_openOn_L4, if_pos (by rw [pz_iI_le (by omega) (by omega) (by omega) (by omega)]; omega)]
    show _ = some (iI (s + 0)); rw [Int.add_zero]
  | succ c ih =>
    intro x s hx hc k hk
    obtain ⟨k, rfl⟩ : ∃ z, k = z + 1 := ⟨k - 1, by omega⟩
    rw [s_X0_openOn_L4, if_neg (by rw [pz_iI_le (by omega) (by omega) (by omega) (by omega)]; omega), pz_isOpen_s (pz_ar_row F 3 3) (pz_ar_row F 290 162) hr hx (by omega) hl hl2, Option.bind_some, pz_iI_add, pz_iI_add, ih (x + 1) _ (by omega) (by omega) k (by omega), ih (x + 1) _ (by omega) (by omega) k (by omega), pz_smc_s]
    cases pz_opB F x l with
    | true => rw [if_neg (by decide), show pz_bi true = 1 from rfl]; congr 2; omega
    | false => rw [if_pos (by decide), show pz_bi false = 0 from rfl]; congr 2; omega
theorem pz_openOn_a {F : Int → Int} (hr : pz_rng F) {n : Nat} (hn : 3000 ≤ n) {l : Int} (hl : 0 ≤ l) (hl2 : l < 9) : s_X0_openOn n (pz_ar F 3 3) (pz_ar F 290 162) (iI l) = some (iI (pz_opnN F l)) := by
  unfold s_X0_openOn
  rw [pz_openOn_L hr n hl hl2 18 0 0 (by omega) (by omega) n (by omega), Int.zero_add]
  rfl
theorem pz_lowest_L {F : Int → Int} (hr : pz_rng F) (n : Nat) {l : Int} (hl : 0 ≤ l) (hl2 : l < 9) : ∀ (c : Nat) (x : Int), 0 ≤ x → x + c = 18 → ∀ k, c < k → s_X0_lowestOpenOn_L2 n (pz_ar F 3 3) (pz_ar F 290 162) (iI l) k (iI x) = some (iI (pz_low F l c x)) := by
  intro c
  induction c with
  | zero =>
    intro x hx hc k hk
    obtain ⟨k, rfl⟩ : ∃ z, k = z + 1 := ⟨k - 1, by omega⟩
    rw [s_X0_lowestOpenOn_L2, if_pos (by rw [pz_iI_le (by omega) (by omega) (by omega) (by omega)]; omega)]
    rfl
  | succ c ih =>
    intro x hx hc k hk
    obtain ⟨k, rfl⟩ : ∃ z, k = z + 1 := ⟨k - 1, by omega⟩
    rw [s_X0_lowestOpenOn_L2, if_neg (by rw [pz_iI_le (by omega) (by omega) (by omega) (by omega)]; omega), pz_isOpen_s (pz_ar_row F 3 3) (pz_ar_row F 290 162) hr hx (by omega) hl hl2, Option.bind_some, pz_iI_add, ih (x + 1) (by omega) (by omega) k (by omega), pz_low_s]
    cases pz_opB F x l with
    | true => rw [if_neg (by decide), if_pos rfl]
    | false => rw [if_pos (by decide), if_neg (by decide)]
theorem pz_lowest_a {F : Int → Int} (hr : pz_rng F) {n : Nat} (hn : 3000 ≤ n) {l : Int} (hl : 0 ≤ l) (hl2 : l < 9) : s_X0_lowestOpenOn n (pz_ar F 3 3) (pz_ar F 290 162) (iI l) = some (iI (pz_lowN F l)) := by
  unfold s_X0_lowestOpenOn
  exact pz_lowest_L hr n hl hl2 18 0 (by omega) (by omega) n (by omega)
theorem pz_freeOn_L {F : Int → Int} (hr : pz_rng F) (n : Nat) {l w : Int} (hl : 0 ≤ l) (hl2 : l < 9) (hw : 0 ≤ w) (hw2 : w < 2) : ∀ (c : Nat) (s v : Int), c ≤ 18 → ∀ k, c < k → s_X7_freeOn_L9 n (pz_ar F 0 452) (iI l) (iI w) k (iI s) (iI v) (iI ((c : Int) - 1)) = some (iI (if w = 0 then s + pz_smc (fun b => pz_bi (pz_opB F b l)) c 0 else if pz_low F l c 0 = -1 then v else pz_low F l c 0)) := by
  intro c
  induction c with
  | zero =>
    intro s v hc k hk
    obtain ⟨k, rfl⟩ : ∃ z, k = z + 1 := ⟨k - 1, by omega⟩
    rw [s_X7_freeOn_L9, if_pos (by decide)]
    by_cases d : w = 0
    · rw [if_pos (by rw [d]; rfl), if_pos d]
      show _ = some (iI (s + 0)); rw [Int.add_zero]
    · rw [if_neg (by rw [pz_iI_0, pz_iI_eq (by omega) (by omega) (by omega) (by omega)]; exact d), if_neg d]
      rfl
  | succ c ih =>
    intro s v hc k hk
    obtain ⟨k, rfl⟩ : ∃ z, k = z + 1 := ⟨k - 1, by omega⟩
    have ex : ((c + 1 : Nat) : Int) - 1 = (c : Int) := by omega
    rw [ex, s_X7_freeOn_L9, if_neg (by rw [pz_iI_0, pz_iI_lt (by omega) (by omega) (by omega) (by omega)]; omega), pz_canBeHad_s (pz_ar_row F 0 452) hr (by omega) (by omega) hl hl2]
    simp only [Option.bind_some, pz_iI_add]
    rw [show (c : Int) + -1 = (c : Int) - 1 by omega, pz_smc_last, pz_low_last F l c 0 (by omega), show (0 : Int) + (c : Int) = (c : Int) by omega]
    cases e : pz_opB F (c : Int) l with
    | true =>
      rw [if_neg (by decide), if_neg (by decide), ih _ _ (by omega) k (by omega), if_pos rfl, show pz_bi true = 1 from rfl]
      by_cases d : w = 0
      · rw [if_pos d, if_pos d]; congr 2; omega
      · rw [if_neg d, if_neg d]
        by_cases g : pz_low F l c 0 = -1
        · rw [if_pos g, if_neg (by omega)]
        · rw [if_neg g, if_neg g]
    | false =>
      rw [if_pos (by decide), if_pos (by decide), ih _ _ (by omega) k (by omega), if_neg (show ¬ (false = true) by decide), show pz_bi false = 0 from rfl]
      by_cases d : w = 0
      · rw [if_pos d, if_pos d]; congr 2; omega
      · rw [if_neg d, if_neg d]
        by_cases g : pz_low F l c 0 = -1
        · rw [if_pos g, if_pos g, if_pos rfl]
        · rw [if_neg g, if_neg g, if_neg g]
theorem pz_freeOn_m {F : Int → Int} (hr : pz_rng F) {n : Nat} (hn : 3000 ≤ n) {l w : Int} (hl : 0 ≤ l) (hl2 : l < 9) (hw : 0 ≤ w) (hw2 : w < 2) : s_X7_freeOn n (pz_ar F 0 452) (iI l) (iI w) = some (iI (if w = 0 then pz_opnN F l else pz_lowN F l)) := by
  unfold s_X7_freeOn
  have h := pz_freeOn_L hr n hl hl2 hw hw2 18 0 (-1) (by omega) n (by omega)
  rw [show ((18 : Nat) : Int) - 1 = 17 from rfl] at h
  rw [h]
  by_cases d : w = 0
  · rw [if_pos d, if_pos d, Int.zero_add]; rfl
  · rw [if_neg d, if_neg d]
    unfold pz_lowN
    by_cases g : pz_low F l 18 0 = -1
    · rw [if_pos g, g]
    · rw [if_neg g]
theorem pz_free_c {F : Int → Int} (hr : pz_rng F) {n : Nat} (hn : 3000 ≤ n) {l w : Int} (hl : 0 ≤ l) (hl2 : l < 9) (hw : 0 ≤ w) (hw2 : w < 2) : s_X6_free n (pz_ar F 3 3) (pz_ar F 290 162) (iI l) (iI w) = some (0, iI (if w = 0 then pz_opnN F l else pz_lowN F l)) := by
  unfold s_X6_free
  rw [pz_isBelow_T hl hl2 (by omega), pz_isBelow_T hw hw2 (by omega), pz_openOn_a hr hn hl hl2, pz_lowest_a hr hn hl hl2]
  by_cases d : w = 0
  · rw [if_pos (show iI w = 0 by rw [d]; rfl), if_pos d]; rfl
  · rw [if_neg (show ¬ iI w = 0 by rw [pz_iI_0, pz_iI_eq (by omega) (by omega) (by omega) (by omega)]; exact d), if_neg d]; rfl
theorem pz_free_p {B : Int} {F : Int → Int} (h : pz_Inv B F) {n : Nat} (hn : 3000 ≤ n) (th a1 a2 : Int32) (u : Nat → Int64) : ∃ (r b : Int32) (u2 : Nat → Int64), s_L_free n (pz_ar F 3 3) (pz_ar F 290 162) u a1 a2 = some (r, u2) ∧ s_X7_free n th (pz_ar F 0 452) a1 a2 = some (b, r) ∧ (r = 0 → lg_cmp (u2 0) b.toInt64 = 0) := by
  obtain ⟨l, rfl, l1, l2⟩ := pz_iI_surj a1
  obtain ⟨w, rfl, w1, w2⟩ := pz_iI_surj a2
  unfold s_L_free s_X7_free
  by_cases g : 0 ≤ l ∧ l < 9
  · rw [pz_in_T g.1 (show l ≤ 8 by omega) (by omega) (by omega)]
    by_cases g2 : 0 ≤ w ∧ w < 2
    · rw [pz_in_T g2.1 (show w ≤ 1 by omega) (by omega) (by omega), pz_free_c h.rg hn g.1 g.2 g2.1 g2.2, pz_freeOn_m h.rg hn g.1 g.2 g2.1 g2.2]
      exact ⟨iI 0, _, _, rfl, rfl, fun _ => by rw [pz_updL_0]; exact pz_lg_self _⟩
    · unfold s_X6_free
      rw [pz_isBelow_T g.1 g.2 (by omega), pz_isBelow_F w1 w2 g2 (by omega) (by omega), pz_in_F w1 w2 (show ¬ (0 ≤ w ∧ w ≤ 1) by omega) (by omega) (by omega) (by omega) (by omega)]
      exact ⟨_, _, _, rfl, rfl, fun q => absurd q (by decide)⟩
  · unfold s_X6_free
    rw [pz_isBelow_F l1 l2 g (by omega) (by omega), pz_in_F l1 l2 (show ¬ (0 ≤ l ∧ l ≤ 8) by omega) (by omega) (by omega) (by omega) (by omega)]
    exact ⟨_, _, _, rfl, rfl, fun q => absurd q (by decide)⟩
theorem pz_goesTo_p {B : Int} {F : Int → Int} (h : pz_Inv B F) (th a1 : Int32) (u : Nat → Int64) : ∃ (r b : Int32) (u2 : Nat → Int64), s_L_goesTo (pz_ar F 3 3) u a1 = some (r, u2) ∧ s_X7_goesTo th (pz_ar F 0 452) a1 = some (b, r) ∧ (r = 0 → lg_cmp (u2 0) b.toInt64 = 0) := by
  obtain ⟨c, rfl, c1, c2⟩ := pz_iI_surj a1
  unfold s_L_goesTo s_X6_goesTo s_X7_goesTo s_X6_requireCoach
  by_cases g : 0 ≤ c ∧ c < 3
  · rw [pz_isBelow_T g.1 g.2 (by omega), pz_in_T g.1 (show c ≤ 2 by omega) (by omega) (by omega), pz_endOf_a g.1 g.2, pz_iI_add, if_pos (pz_gd_Y (by omega) (by omega) (by omega)), pz_ar_at (by omega) (by omega) (by omega), show 0 + (3 + c) = 3 + c by omega]
    exact ⟨iI 0, iI (F (3 + c)), _, rfl, rfl, fun _ => by rw [pz_updL_0]; exact pz_lg_self _⟩
  · rw [pz_isBelow_F c1 c2 g (by omega) (by omega), pz_in_F c1 c2 (show ¬ (0 ≤ c ∧ c ≤ 2) by omega) (by omega) (by omega) (by omega) (by omega)]
    exact ⟨_, _, _, rfl, rfl, fun q => absurd q (by decide)⟩
theorem pz_setting_p {B : Int} {F : Int → Int} (h : pz_Inv B F) (th a1 : Int32) (u : Nat → Int64) : ∃ (r b : Int32) (u2 : Nat → Int64), s_L_setting (pz_ar F 0 3) u a1 = some (r, u2) ∧ s_X7_setting th (pz_ar F 0 452) a1 = some (b, r) ∧ (r = 0 → lg_cmp (u2 0) b.toInt64 = 0) := by
  obtain ⟨c, rfl, c1, c2⟩ := pz_iI_surj a1
  unfold s_L_setting s_X6_setting s_X7_setting s_X6_requireSetting
  by_cases g : 0 ≤ c ∧ c < 3
  · rw [pz_isBelow_T g.1 g.2 (by omega), pz_in_T g.1 (show c ≤ 2 by omega) (by omega) (by omega), pz_read_a (by decide) g.1 g.2, if_pos (pz_gd_Y (by omega) (by omega) (by omega)), pz_ar_at (by omega) (by omega) (by omega)]
    exact ⟨iI 0, iI (F (0 + c)), _, rfl, rfl, fun _ => by rw [pz_updL_0]; exact pz_lg_self _⟩
  · rw [pz_isBelow_F c1 c2 g (by omega) (by omega), pz_in_F c1 c2 (show ¬ (0 ≤ c ∧ c ≤ 2) by omega) (by omega) (by omega) (by omega) (by omega)]
    exact ⟨_, _, _, rfl, rfl, fun q => absurd q (by decide)⟩
