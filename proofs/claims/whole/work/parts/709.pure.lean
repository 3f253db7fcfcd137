theorem pz_wk_self (F : Int → Int) (b t : Int) : pz_wk F b t t = 0 := by
  unfold pz_wk
  rw [show (t - (t + 1)).toNat = 0 by omega]
  rfl
def pz_telV (F : Int → Int) (f t : Int) (O : Int × Int × Int) (w : Int) : Int := if O.1 = -1 then (if w = 0 then 0 else -1) else if w = 0 then (if O.2.2 = -1 then 1 else 2) else if w = 1 then O.1 else if w = 2 then O.2.2 else pz_fwk F f t O
theorem pz_tell_c {F : Int → Int} (hr : pz_rng F) {n : Nat} (hn : 3000 ≤ n) {f t a b c w : Int} (hw : pz_okWay f t) (ho : a ≠ -1 → pz_okO f t a b c) (ha : -1 ≤ a ∧ a < 18) (h0 : 0 ≤ w) (h1 : w < 4) : s_X6_tell n (pz_ar F 290 162) (iI a) (iI b) (iI c) (iI f) (iI t) (iI w) = some (iI (pz_telV F f t (a, b, c) w)) := by
  unfold pz_okWay at hw
  unfold s_X6_tell pz_telV
  dsimp only
  by_cases e : a = -1
  · rw [e, pz_refused_T, if_pos rfl, Option.bind_some, if_neg (by decide)]
    by_cases d : w = 0
    · rw [if_pos (by rw [d]; rfl), if_pos d]
    · rw [if_neg (show ¬ iI w = 0 by rw [pz_iI_0, pz_iI_eq (by omega) (by omega) (by omega) (by omega)]; exact d), if_neg d]
  · have o := ho e
    unfold pz_okO at o
    rw [pz_refused_F e (by omega) (by omega), if_neg e, Option.bind_some, if_pos (by decide)]
    unfold s_X2_middle pz_fwk
    dsimp only
    by_cases g : c = -1
    · have w1 := pz_wokenIn_s (pz_ar_row F 290 162) hr (n := n) (by omega) (b := a) (f := f) (t := t) (by omega) (by omega) (by omega) (by omega) (by omega)
      have w2 := pz_wokenIn_s (pz_ar_row F 290 162) hr (n := n) (by omega) (b := b) (f := t) (t := t) (by omega) (by omega) (by omega) (by omega) (by omega)
      rw [pz_wk_self] at w2
      simp only [show (iI c = iI (-1)) = True from by rw [g]; exact eq_true rfl, if_true, Option.bind_some, w1, w2, pz_iI_add, Int.add_zero]
      rw [if_pos g, if_pos g]
      simp (disch := omega) only [pz_iI_eq]
      split
      · rfl
      · split
        · rfl
        · split <;> rfl
    · have w1 := pz_wokenIn_s (pz_ar_row F 290 162) hr (n := n) (by omega) (b := a) (f := f) (t := c) (by omega) (by omega) (by omega) (by omega) (by omega)
      have w2 := pz_wokenIn_s (pz_ar_row F 290 162) hr (n := n) (by omega) (b := b) (f := c) (t := t) (by omega) (by omega) (by omega) (by omega) (by omega)
      simp only [show (iI c = iI (-1)) = False from by rw [pz_iI_eq (by omega) (by omega) (by omega) (by omega)]; exact eq_false g, if_false, Option.bind_some, w1, w2, pz_iI_add]
      rw [if_neg g, if_neg g]
      simp (disch := omega) only [pz_iI_eq]
      split
      · rfl
      · split
        · rfl
        · split <;> rfl
theorem pz_byB_m {F : Int → Int} (hr : pz_rng F) {n : Nat} (hn : 3000 ≤ n) {f t w : Int} (hw : pz_okWay f t) (on ot ch wo pz_thr : Int32) (h0 : 0 ≤ w) (h1 : w < 4) : ∃ o1 o2 o3 o4, s_X7_byBooking n on ot ch wo (pz_ar F 0 452) (iI f) (iI t) pz_thr (iI w) = some (iI (pz_telV F f t (pz_fnd F f t (!decide (pz_thr = 0))) w), o1, o2, o3, o4) := by
  obtain ⟨o1, o2, o3, o4, fe, fo⟩ := pz_find_m hr hn hw on ot ch wo pz_thr
  have can := pz_fnd_can (F := F) (pz_thr := !decide (pz_thr = 0)) hw
  unfold pz_okWay at hw
  unfold s_X7_byBooking pz_telV
  rw [fe, Option.bind_some]
  generalize pz_fnd F f t (!decide (pz_thr = 0)) = O at *
  obtain ⟨a, b, c⟩ := O
  dsimp only at *
  by_cases e : a = -1
  · rw [pz_isB_no e, if_pos e, if_pos (by decide)]
    by_cases d : w = 0
    · rw [if_pos (show iI w = 0 by rw [d]; rfl), if_pos d]; exact ⟨_, _, _, _, rfl⟩
    · rw [if_neg (show ¬ iI w = 0 by rw [pz_iI_0, pz_iI_eq (by omega) (by omega) (by omega) (by omega)]; exact d), if_neg d]; exact ⟨_, _, _, _, rfl⟩
  · have o := (can e).ok
    have q := fo e
    unfold pz_okO at o
    rw [pz_isB_yes e, if_neg e, if_neg (by decide), q.1, q.2.1, q.2.2.1, q.2.2.2]
    by_cases d : w = 0
    · rw [if_pos (show iI w = 0 by rw [d]; rfl), if_pos d]
      by_cases g : c = -1
      · rw [if_pos (by rw [g]), if_pos g]; exact ⟨_, _, _, _, rfl⟩
      · rw [if_neg (show ¬ iI c = iI (-1) by rw [pz_iI_eq (by omega) (by omega) (by omega) (by omega)]; exact g), if_neg g]; exact ⟨_, _, _, _, rfl⟩
    · rw [if_neg (show ¬ iI w = 0 by rw [pz_iI_0, pz_iI_eq (by omega) (by omega) (by omega) (by omega)]; exact d), if_neg d]
      by_cases d1 : w = 1
      · rw [if_pos (by rw [d1]), if_pos d1]; exact ⟨_, _, _, _, rfl⟩
      · rw [if_neg (show ¬ iI w = iI 1 by rw [pz_iI_eq (by omega) (by omega) (by omega) (by omega)]; exact d1), if_neg d1]
        by_cases d2 : w = 2
        · rw [if_pos (by rw [d2]), if_pos d2]; exact ⟨_, _, _, _, rfl⟩
        · rw [if_neg (show ¬ iI w = iI 2 by rw [pz_iI_eq (by omega) (by omega) (by omega) (by omega)]; exact d2), if_neg d2]; exact ⟨_, _, _, _, rfl⟩
theorem pz_ifBooked_p {B : Int} {F : Int → Int} (h : pz_Inv B F) {n : Nat} (hn : 3000 ≤ n) (th on ot ch wo a1 a2 a3 a4 : Int32) (u : Nat → Int64) : ∃ (r b o1 o2 o3 o4 : Int32) (u2 : Nat → Int64), s_L_ifBooked n (pz_ar F 3 3) (pz_ar F 290 162) (pz_ar F 0 3) u a1 a2 a3 a4 = some (r, u2) ∧ s_X7_ifBooked n th on ot ch wo (pz_ar F 0 452) a1 a2 a3 a4 = some (b, r, o1, o2, o3, o4) ∧ (r = 0 → lg_cmp (u2 0) b.toInt64 = 0) := by
  obtain ⟨f, rfl, f1, f2⟩ := pz_iI_surj a1
  obtain ⟨t, rfl, t1, t2⟩ := pz_iI_surj a2
  obtain ⟨w, rfl, w1, w2⟩ := pz_iI_surj a4
  unfold s_L_ifBooked s_X6_ifBooked s_X7_ifBooked
  by_cases hw : pz_okWay f t
  · rw [pz_way_c hw, pz_way_m hw, Option.bind_some, Option.bind_some]
    by_cases g : 0 ≤ w ∧ w < 4
    · obtain ⟨o1, o2, o3, o4, e⟩ := pz_byB_m h.rg hn hw on ot ch wo a3 g.1 g.2
      rw [pz_isBelow_T g.1 g.2 (by omega), pz_in_T g.1 (show w ≤ 3 by omega) (by omega) (by omega), pz_find_c h.rg hn hw, e]
      have can := pz_fnd_can (F := F) (pz_thr := !decide (a3 = 0)) hw
      have rg := pz_fnd_rg (F := F) hw (!decide (a3 = 0))
      simp only [Option.bind_some]
      rw [pz_tell_c h.rg hn hw (fun x => (can x).ok) rg g.1 g.2]
      exact ⟨iI 0, _, _, _, _, _, _, rfl, rfl, fun _ => by rw [pz_updL_0]; exact pz_lg_self _⟩
    · rw [pz_isBelow_F w1 w2 g (by omega) (by omega), pz_in_F w1 w2 (show ¬ (0 ≤ w ∧ w ≤ 3) by omega) (by omega) (by omega) (by omega) (by omega)]
      exact ⟨_, _, _, _, _, _, _, rfl, rfl, fun q => absurd q (by decide)⟩
  · rw [pz_way_cF f1 f2 t1 t2 hw, pz_way_mF f1 f2 t1 t2 hw]
    exact ⟨_, _, _, _, _, _, _, rfl, rfl, fun q => absurd q (by decide)⟩
def pz_farc (F : Int → Int) (f : Int) : Nat → Int → Int → Int
  | 0, _, m => m
  | c + 1, b, m => pz_farc F f c (b + 1) (if m < pz_till F b f then pz_till F b f else m)
theorem pz_farc_s (F : Int → Int) (f : Int) (c : Nat) (b m : Int) : pz_farc F f (c + 1) b m = pz_farc F f c (b + 1) (if m < pz_till F b f then pz_till F b f else m) := rfl
def pz_farN (F : Int → Int) (f : Int) : Int := pz_farc F f 18 0 f
theorem pz_till_rg (F : Int → Int) (b f : Int) (h : f ≤ 9) : f ≤ pz_till F b f ∧ pz_till F b f ≤ 9 := by
  have q := pz_tillc_rg F b (9 - f).toNat f
  unfold pz_till
  omega
theorem pz_farc_spec (F : Int → Int) (f : Int) : ∀ (c : Nat) (b m : Int), m ≤ pz_farc F f c b m ∧ (∀ z, b ≤ z → z < b + c → pz_till F z f ≤ pz_farc F f c b m) ∧ (pz_farc F f c b m = m ∨ ∃ z, b ≤ z ∧ z < b + c ∧ pz_till F z f = pz_farc F f c b m) := by
  intro c
  induction c with
  | zero => intro b m; exact ⟨Int.le_refl m, fun z h1 h2 => by omega, Or.inl rfl⟩
  | succ c ih =>
    intro b m
    rw [pz_farc_s]
    have q := ih (b + 1) (if m < pz_till F b f then pz_till F b f else m)
    by_cases d : m < pz_till F b f
    · rw [if_pos d] at q ⊢
      refine ⟨by omega, fun z h1 h2 => ?_, ?_⟩
      · by_cases e : z = b
        · rw [e]; exact q.1
        · exact q.2.1 z (by omega) (by omega)
      · rcases q.2.2 with w | ⟨z, z1, z2, w⟩
        · exact Or.inr ⟨b, by omega, by omega, w.symm⟩
        · exact Or.inr ⟨z, by omega, by omega, w⟩
    · rw [if_neg d] at q ⊢
      refine ⟨q.1, fun z h1 h2 => ?_, ?_⟩
      · by_cases e : z = b
        · rw [e]; omega
        · exact q.2.1 z (by omega) (by omega)
      · rcases q.2.2 with w | ⟨z, z1, z2, w⟩
        · exact Or.inl w
        · exact Or.inr ⟨z, by omega, by omega, w⟩
theorem pz_far_L {F : Int → Int} (hr : pz_rng F) {n : Nat} (hn : 3000 ≤ n) {f : Int} (hf : 0 ≤ f) (hf2 : f < 9) : ∀ (c : Nat) (b m : Int), 0 ≤ b → b + c = 18 → 0 ≤ m → m ≤ 9 → ∀ k, c < k → s_X0_farthestOpen_L4 n (pz_ar F 3 3) (pz_ar F 290 162) (iI f) k (iI m) (iI b) = some (iI (pz_farc F f c b m)) := by
  intro c
  induction c with
  | zero =>
    intro b m hb hc h0 h1 k hk
    obtain ⟨k, rfl⟩ : ∃ z, k = z + 1 := ⟨k - 1, by omega⟩
    rw [s_X0_farthestOpen_L4, if_pos (by rw [pz_iI_le (by omega) (by omega) (by omega) (by omega)]; omega)]
    rfl
  | succ c ih =>
    intro b m hb hc h0 h1 k hk
    obtain ⟨k, rfl⟩ : ∃ z, k = z + 1 := ⟨k - 1, by omega⟩
    have t := pz_till_rg F b f (by omega)
    rw [s_X0_farthestOpen_L4, if_neg (by rw [pz_iI_le (by omega) (by omega) (by omega) (by omega)]; omega), pz_openTill_s (pz_ar_row F 3 3) (pz_ar_row F 290 162) hr (by omega) hb (by omega) hf (by omega), Option.bind_some, pz_iI_add, pz_farc_s]
    simp (disch := omega) only [pz_iI_lt]
    by_cases d : m < pz_till F b f
    · rw [if_pos d, if_pos d, ih (b + 1) _ (by omega) (by omega) (by omega) (by omega) k (by omega)]
    · rw [if_neg d, if_neg d, ih (b + 1) _ (by omega) (by omega) (by omega) (by omega) k (by omega)]
theorem pz_far_c {F : Int → Int} (hr : pz_rng F) {n : Nat} (hn : 3000 ≤ n) {f : Int} (hf : 0 ≤ f) (hf2 : f < 9) : s_X0_farthestOpen n (pz_ar F 3 3) (pz_ar F 290 162) (iI f) = some (iI (pz_farN F f)) := by
  unfold s_X0_farthestOpen
  exact pz_far_L hr hn hf hf2 18 0 f (by omega) (by omega) (by omega) (by omega) n (by omega)
theorem pz_cm_far {F : Int → Int} {f t : Int} (hf : 0 ≤ f) (ht : f < t) (ht9 : t ≤ 9) : pz_cm F f t ≠ -1 ↔ t ≤ pz_farN F f := by
  have s := pz_calm_spec F f t 18 0 (-1) 0 (by omega) (fun q => absurd rfl q)
  have r := pz_cm_rg F f t
  have w := pz_farc_spec F f 18 0 f
  constructor
  · intro h
    have q := (s.1 h).1
    have q2 := w.2.1 (pz_cm F f t) (by omega) (by omega)
    unfold pz_farN
    unfold pz_cm at q2
    omega
  · intro h e
    have q := (s.2 e).2
    unfold pz_farN at h
    rcases w.2.2 with w2 | ⟨z, z1, z2, w2⟩
    · omega
    · have := q z z1 (by omega)
      omega
theorem pz_one_m {F : Int → Int} (hr : pz_rng F) {n : Nat} (hn : 3000 ≤ n) {f t : Int} (hf : 0 ≤ f) (hft : f < t) (ht : t ≤ 9) (on ot ch wo : Int32) : ∃ o1 o2 o3 o4, s_X7_findsOne n on ot ch wo (pz_ar F 0 452) (iI f) (iI t) = some (iI (pz_bi (decide (t ≤ pz_farN F f))), o1, o2, o3, o4) := by
  obtain ⟨w, rfl, w1, w2⟩ := pz_iI_surj wo
  have e := pz_findsOne_s (pz_ar_row F 0 452) hr (n := n) (by omega) hf (by omega) ht on ot ch w1 w2
  have c := pz_calm_few F f t 18 0 0 w (by omega)
  rw [e]
  have q := pz_cm_far (F := F) hf hft ht
  have x : pz_isB ((pz_calm F f t 18 0 (-1) w).1) = decide (t ≤ pz_farN F f) := by
    rw [← c.1]
    by_cases d : t ≤ pz_farN F f
    · rw [decide_eq_true d]; exact pz_isB_yes (q.mpr d)
    · rw [decide_eq_false d]; exact pz_isB_no (by
        by_cases z : pz_cm F f t = -1
        · exact z
        · exact absurd (q.mp z) d)
  rw [x]
  exact ⟨_, _, _, _, rfl⟩
theorem pz_longest_L {F : Int → Int} (hr : pz_rng F) {n : Nat} (hn : 3000 ≤ n) {f : Int} (hf : 0 ≤ f) (hf2 : f < 9) : ∀ (c : Nat) (x : Int), pz_farN F f ≤ x → x ≤ 9 → x = f + c → ∀ (on ot ch wo : Int32) (k : Nat), c < k → ∃ o1 o2 o3 o4, s_X7_longest_L3 n (pz_ar F 0 452) (iI f) k on ot ch wo (iI x) = some (iI (pz_farN F f), o1, o2, o3, o4) := by
  have w := pz_farc_spec F f 18 0 f
  have ff : f ≤ pz_farN F f := w.1
  intro c
  induction c with
  | zero =>
    intro x h1 h2 hc on ot ch wo k hk
    obtain ⟨k, rfl⟩ : ∃ z, k = z + 1 := ⟨k - 1, by omega⟩
    rw [s_X7_longest_L3, if_pos (by rw [pz_iI_le (by omega) (by omega) (by omega) (by omega)]; omega), show x = pz_farN F f by omega]
    exact ⟨_, _, _, _, rfl⟩
  | succ c ih =>
    intro x h1 h2 hc on ot ch wo k hk
    obtain ⟨k, rfl⟩ : ∃ z, k = z + 1 := ⟨k - 1, by omega⟩
    obtain ⟨o1, o2, o3, o4, e⟩ := pz_one_m hr hn hf (show f < x by omega) h2 on ot ch wo
    rw [s_X7_longest_L3, if_neg (by rw [pz_iI_le (by omega) (by omega) (by omega) (by omega)]; omega), e, Option.bind_some]
    by_cases d : x ≤ pz_farN F f
    · rw [decide_eq_true d, if_neg (show ¬ iI (pz_bi true) = 0 by decide), show x = pz_farN F f by omega]
      exact ⟨_, _, _, _, rfl⟩
    · rw [decide_eq_false d, if_pos (show iI (pz_bi false) = 0 by decide), pz_iI_add, show x + -1 = x - 1 by omega]
      exact ih (x - 1) (by omega) (by omega) (by omega) _ _ _ _ k (by omega)
theorem pz_farN_rg {F : Int → Int} {f : Int} (hf2 : f ≤ 9) : f ≤ pz_farN F f ∧ pz_farN F f ≤ 9 := by
  have w := pz_farc_spec F f 18 0 f
  refine ⟨w.1, ?_⟩
  unfold pz_farN
  rcases w.2.2 with e | ⟨z, _, _, e⟩
  · omega
  · have := pz_till_rg F z f hf2; omega
theorem pz_longest_m {F : Int → Int} (hr : pz_rng F) {n : Nat} (hn : 3000 ≤ n) {f : Int} (hf : 0 ≤ f) (hf2 : f < 9) (on ot ch wo : Int32) : ∃ o1 o2 o3 o4, s_X7_longest n on ot ch wo (pz_ar F 0 452) (iI f) = some (iI (pz_farN F f), o1, o2, o3, o4) := by
  have r := pz_farN_rg (F := F) (f := f) (by omega)
  unfold s_X7_longest
  exact pz_longest_L hr hn hf hf2 (9 - f).toNat 9 r.2 (by omega) (by omega) on ot ch wo n (by omega)
theorem pz_farthest_p {B : Int} {F : Int → Int} (h : pz_Inv B F) {n : Nat} (hn : 3000 ≤ n) (th on ot ch wo a1 : Int32) (u : Nat → Int64) : ∃ (r b o1 o2 o3 o4 : Int32) (u2 : Nat → Int64), s_L_farthest n (pz_ar F 3 3) (pz_ar F 290 162) u a1 = some (r, u2) ∧ s_X7_farthest n th on ot ch wo (pz_ar F 0 452) a1 = some (b, r, o1, o2, o3, o4) ∧ (r = 0 → lg_cmp (u2 0) b.toInt64 = 0) := by
  obtain ⟨f, rfl, f1, f2⟩ := pz_iI_surj a1
  unfold s_L_farthest s_X6_farthest s_X7_farthest
  by_cases g : 0 ≤ f ∧ f < 9
  · obtain ⟨o1, o2, o3, o4, e⟩ := pz_longest_m h.rg hn g.1 g.2 on ot ch wo
    rw [pz_isBelow_T g.1 g.2 (by omega), pz_in_T g.1 (show f ≤ 8 by omega) (by omega) (by omega), pz_far_c h.rg hn g.1 g.2, e]
    exact ⟨iI 0, _, _, _, _, _, _, rfl, rfl, fun _ => by rw [pz_updL_0]; exact pz_lg_self _⟩
  · rw [pz_isBelow_F f1 f2 g (by omega) (by omega), pz_in_F f1 f2 (show ¬ (0 ≤ f ∧ f ≤ 8) by omega) (by omega) (by omega) (by omega) (by omega)]
    exact ⟨_, _, _, _, _, _, _, rfl, rfl, fun q => absurd q (by decide)⟩
def pz_aho (F : Int → Int) : Nat → Int → Bool
  | 0, _ => false
  | c + 1, x => if pz_opnN F x = 0 then true else pz_aho F c (x + 1)
theorem pz_aho_s (F : Int → Int) (c : Nat) (x : Int) : pz_aho F (c + 1) x = if pz_opnN F x = 0 then true else pz_aho F c (x + 1) := rfl
theorem pz_bi_rg (b : Bool) : 0 ≤ pz_bi b ∧ pz_bi b ≤ 1 := by cases b <;> decide
theorem pz_opnN_rg (F : Int → Int) (l : Int) : 0 ≤ pz_opnN F l ∧ pz_opnN F l ≤ 18 := by
  have q := pz_smc_rg (f := fun b => pz_bi (pz_opB F b l)) 1 18 0 (fun z _ _ => pz_bi_rg _)
  unfold pz_opnN
  omega
theorem pz_aho_L {F : Int → Int} (hr : pz_rng F) {n : Nat} (hn : 3000 ≤ n) {t : Int} (ht : t ≤ 9) : ∀ (c : Nat) (x : Int), 0 ≤ x → x + c = t → ∀ k, c < k → s_X0_areAllHadOnce_L2 n (pz_ar F 3 3) (pz_ar F 290 162) (iI t) k (iI x) = some (iI (pz_bi (pz_aho F c x))) := by
  intro c
  induction c with
  | zero =>
    intro x hx hc k hk
    obtain ⟨k, rfl⟩ : ∃ z, k = z + 1 := ⟨k - 1, by omega⟩
    rw [s_X0_areAllHadOnce_L2, if_pos (by rw [pz_iI_le (by omega) (by omega) (by omega) (by omega)]; omega)]
    rfl
  | succ c ih =>
    intro x hx hc k hk
    obtain ⟨k, rfl⟩ : ∃ z, k = z + 1 := ⟨k - 1, by omega⟩
    have r := pz_opnN_rg F x
    rw [s_X0_areAllHadOnce_L2, if_neg (by rw [pz_iI_le (by omega) (by omega) (by omega) (by omega)]; omega), pz_openOn_a hr hn hx (by omega), Option.bind_some, pz_iI_add, ih (x + 1) (by omega) (by omega) k (by omega), pz_aho_s]
    by_cases d : pz_opnN F x = 0
    · rw [if_pos (show iI (pz_opnN F x) = 0 by rw [d]; rfl), if_pos d]; rfl
    · rw [if_neg (show ¬ iI (pz_opnN F x) = 0 by rw [pz_iI_0, pz_iI_eq (by omega) (by omega) (by omega) (by omega)]; exact d), if_neg d]
theorem pz_aho_c {F : Int → Int} (hr : pz_rng F) {n : Nat} (hn : 3000 ≤ n) {f t : Int} (hw : pz_okWay f t) : s_X0_areAllHadOnce n (pz_ar F 3 3) (pz_ar F 290 162) (iI f) (iI t) = some (iI (pz_bi (pz_aho F (t - f).toNat f))) := by
  unfold pz_okWay at hw
  unfold s_X0_areAllHadOnce
  exact pz_aho_L hr hn hw.2.2 _ f hw.1 (by omega) n (by omega)
def pz_rsn (F : Int → Int) (f t : Int) : Int := if t ≤ pz_farN F f then 0 else if F 3 < t ∧ F 4 < t ∧ F 5 < t then 1 else if pz_aho F (t - f).toNat f = true then 2 else 3
theorem pz_fend_c {B : Int} {F : Int → Int} (h : pz_Inv B F) {n : Nat} (hn : 3000 ≤ n) : ∃ m, s_X0_farthestEnd n (pz_ar F 3 3) = some (iI m) ∧ 0 ≤ m ∧ m ≤ 9 ∧ (∀ t, 0 < t → (m < t ↔ (F 3 < t ∧ F 4 < t ∧ F 5 < t))) := by
  have e0 := h.en 0 (by omega) (by omega)
  have e1 := h.en 1 (by omega) (by omega)
  have e2 := h.en 2 (by omega) (by omega)
  obtain ⟨n, rfl⟩ : ∃ z, n = z + 4 := ⟨n - 4, by omega⟩
  refine ⟨(if (if (if (0 : Int) < F (3 + 0) then F (3 + 0) else 0) < F (3 + 1) then F (3 + 1) else (if (0 : Int) < F (3 + 0) then F (3 + 0) else 0)) < F (3 + 2) then F (3 + 2) else (if (if (0 : Int) < F (3 + 0) then F (3 + 0) else 0) < F (3 + 1) then F (3 + 1) else (if (0 : Int) < F (3 + 0) then F (3 + 0) else 0))), ?_, ?_⟩
  · unfold s_X0_farthestEnd
    have st : ∀ k m x, 0 ≤ x → x < 3 → 0 ≤ m → m ≤ 9 → s_X0_farthestEnd_L4 (n + 4) (pz_ar F 3 3) (k + 1) (iI m) (iI x) = s_X0_farthestEnd_L4 (n + 4) (pz_ar F 3 3) k (iI (if m < F (3 + x) then F (3 + x) else m)) (iI (x + 1)) := by
      intro k m x x0 x1 m0 m1
      have e := h.en x x0 x1
      rw [s_X0_farthestEnd_L4, if_neg (by rw [pz_iI_le (by omega) (by omega) (by omega) (by omega)]; omega), pz_endOf_a x0 x1, Option.bind_some, pz_iI_add]
      simp (disch := omega) only [pz_iI_lt]
      rw [pz_ite_ii]
    rw [show n + 4 = (n + 3) + 1 from rfl]
    rw [show (n + 3 + 1) = n + 4 from rfl]
    have a := st (n + 3) 0 0 (by omega) (by omega) (by omega) (by omega)
    rw [show n + 3 + 1 = n + 4 from rfl] at a
    rw [a, show (0 : Int) + 1 = 1 from rfl]
    have b := st (n + 2) (if (0 : Int) < F (3 + 0) then F (3 + 0) else 0) 1 (by omega) (by omega) (by split <;> omega) (by split <;> omega)
    rw [show n + 2 + 1 = n + 3 from rfl] at b
    rw [b, show (1 : Int) + 1 = 2 from rfl]
    have c := st (n + 1) (if (if (0 : Int) < F (3 + 0) then F (3 + 0) else 0) < F (3 + 1) then F (3 + 1) else (if (0 : Int) < F (3 + 0) then F (3 + 0) else 0)) 2 (by omega) (by omega) (by split <;> (try split) <;> omega) (by split <;> (try split) <;> omega)
    rw [show n + 1 + 1 = n + 2 from rfl] at c
    rw [c, s_X0_farthestEnd_L4, if_pos (by decide)]
  · rw [show (3 : Int) + 0 = 3 from rfl, show (3 : Int) + 1 = 4 from rfl, show (3 : Int) + 2 = 5 from rfl] at *
    rw [if_pos (show (0 : Int) < F 3 by omega)]
    by_cases a : F 3 < F 4
    · rw [if_pos a]
      by_cases b : F 4 < F 5
      · rw [if_pos b]; exact ⟨by omega, by omega, fun t _ => by omega⟩
      · rw [if_neg b]; exact ⟨by omega, by omega, fun t _ => by omega⟩
    · rw [if_neg a]
      by_cases b : F 3 < F 5
      · rw [if_pos b]; exact ⟨by omega, by omega, fun t _ => by omega⟩
      · rw [if_neg b]; exact ⟨by omega, by omega, fun t _ => by omega⟩
theorem pz_why_c {B : Int} {F : Int → Int} (h : pz_Inv B F) {n : Nat} (hn : 3000 ≤ n) {f t : Int} (hw : pz_okWay f t) : s_X6_whyNot n (pz_ar F 3 3) (pz_ar F 290 162) (iI f) (iI t) = some (0, iI (pz_rsn F f t)) := by
  have hw2 := hw
  unfold pz_okWay at hw2
  have r := pz_farN_rg (F := F) (f := f) (by omega)
  obtain ⟨m, e, m0, m1, hm⟩ := pz_fend_c h hn
  have hm2 := hm t (by omega)
  unfold s_X6_whyNot pz_rsn
  rw [pz_way_c hw, Option.bind_some, if_pos rfl, pz_far_c h.rg hn hw2.1 (by omega), Option.bind_some, e, pz_aho_c h.rg hn hw]
  simp only [Option.bind_some]
  simp (disch := omega) only [pz_iI_lt, pz_iI_le]
  by_cases a : t ≤ pz_farN F f
  · rw [if_neg (show ¬ pz_farN F f < t by omega), if_pos a]
  · rw [if_pos (show pz_farN F f < t by omega), if_neg a]
    by_cases b : m < t
    · rw [if_neg (show ¬ t ≤ m by omega), if_pos (hm2.mp b)]
    · rw [if_pos (show t ≤ m by omega), if_neg (fun q => b (hm2.mpr q))]
      cases pz_aho F (t - f).toNat f with
      | true => rfl
      | false => rfl
theorem pz_aho_open {F : Int → Int} {b : Int} (hb : 0 ≤ b) (hb2 : b < 18) : ∀ (c : Nat) (x : Int), (∀ l, x ≤ l → l < x + c → pz_opB F b l = true) → pz_aho F c x = false := by
  intro c
  induction c with
  | zero => intro x h; rfl
  | succ c ih =>
    intro x h
    rw [pz_aho_s, ih (x + 1) (fun l h1 h2 => h l (by omega) (by omega))]
    rw [if_neg]
    intro e
    unfold pz_opnN at e
    have sp : (18 : Nat) = b.toNat + (1 + (18 - b.toNat - 1)) := by omega
    rw [sp, pz_smc_split, pz_smc_split] at e
    have a1 := pz_smc_rg (f := fun b => pz_bi (pz_opB F b x)) 1 b.toNat 0 (fun z _ _ => pz_bi_rg _)
    have a2 := pz_smc_rg (f := fun b => pz_bi (pz_opB F b x)) 1 (18 - b.toNat - 1) (0 + (b.toNat : Int) + ((1 : Nat) : Int)) (fun z _ _ => pz_bi_rg _)
    have a3 : pz_smc (fun b => pz_bi (pz_opB F b x)) 1 (0 + (b.toNat : Int)) = 1 := by
      show pz_bi (pz_opB F (0 + (b.toNat : Int)) x) + 0 = 1
      rw [show 0 + ((b.toNat : Nat) : Int) = b by omega, h x (by omega) (by omega)]; rfl
    omega
theorem pz_reason_L {F : Int → Int} (hr : pz_rng F) {n : Nat} (hn : 3000 ≤ n) {f t : Int} (hw : pz_okWay f t) : ∀ (c : Nat) (x : Int), 0 ≤ x → x + c = t → ∀ (on ot ch wo : Int32) (k : Nat), c < k → ∃ o1 o2 o3 o4, s_X7_reason_L34 n (pz_ar F 0 452) (iI f) (iI t) k on ot ch wo (iI x) = some (iI (if pz_aho F c x = true then 2 else if t ≤ pz_farN F f then 0 else 3), o1, o2, o3, o4) := by
  unfold pz_okWay at hw
  intro c
  induction c with
  | zero =>
    intro x hx hc on ot ch wo k hk
    obtain ⟨k, rfl⟩ : ∃ z, k = z + 1 := ⟨k - 1, by omega⟩
    obtain ⟨o1, o2, o3, o4, e⟩ := pz_one_m hr hn hw.1 hw.2.1 hw.2.2 on ot ch wo
    rw [s_X7_reason_L34, if_pos (by rw [pz_iI_le (by omega) (by omega) (by omega) (by omega)]; omega), e, Option.bind_some]
    rw [if_neg (show ¬ pz_aho F 0 x = true from fun q => by cases q)]
    by_cases d : t ≤ pz_farN F f
    · rw [decide_eq_true d, if_pos d, if_neg (show ¬ iI (pz_bi true) = 0 by decide)]; exact ⟨_, _, _, _, rfl⟩
    · rw [decide_eq_false d, if_neg d, if_pos (show iI (pz_bi false) = 0 by decide)]; exact ⟨_, _, _, _, rfl⟩
  | succ c ih =>
    intro x hx hc on ot ch wo k hk
    obtain ⟨k, rfl⟩ : ∃ z, k = z + 1 := ⟨k - 1, by omega⟩
    have r := pz_opnN_rg F x
    rw [s_X7_reason_L34, if_neg (by rw [pz_iI_le (by omega) (by omega) (by omega) (by omega)]; omega), pz_freeOn_m hr hn hx (by omega) (by omega) (by omega), if_pos rfl, Option.bind_some, pz_iI_add, pz_aho_s]
    by_cases d : pz_opnN F x = 0
    · rw [if_pos (show iI (pz_opnN F x) = 0 by rw [d]; rfl), if_pos d, if_pos rfl]; exact ⟨_, _, _, _, rfl⟩
    · rw [if_neg (show ¬ iI (pz_opnN F x) = 0 by rw [pz_iI_0, pz_iI_eq (by omega) (by omega) (by omega) (by omega)]; exact d), if_neg d]
      exact ih (x + 1) (by omega) (by omega) on ot ch wo k (by omega)
theorem pz_reason_m {B : Int} {F : Int → Int} (h : pz_Inv B F) {n : Nat} (hn : 3000 ≤ n) {f t : Int} (hw : pz_okWay f t) (on ot ch wo : Int32) : ∃ o1 o2 o3 o4, s_X7_reason n on ot ch wo (pz_ar F 0 452) (iI f) (iI t) = some (iI (pz_rsn F f t), o1, o2, o3, o4) := by
  have hw2 := hw
  unfold pz_okWay at hw2
  have e0 := h.en 0 (by omega) (by omega)
  have e1 := h.en 1 (by omega) (by omega)
  have e2 := h.en 2 (by omega) (by omega)
  rw [show (3 : Int) + 0 = 3 from rfl] at e0
  rw [show (3 : Int) + 1 = 4 from rfl] at e1
  rw [show (3 : Int) + 2 = 5 from rfl] at e2
  obtain ⟨o1, o2, o3, o4, e⟩ := pz_reason_L h.rg hn hw (t - f).toNat f hw2.1 (by omega) on ot ch wo n (by omega)
  have key : t ≤ pz_farN F f → ¬ (F 3 < t ∧ F 4 < t ∧ F 5 < t) ∧ pz_aho F (t - f).toNat f = false := by
    intro g
    have c := (pz_cm_far (F := F) hw2.1 hw2.2.1 hw2.2.2).mpr g
    have r := pz_cm_rg F f t
    have op : ∀ l, f ≤ l → l < t → pz_opB F (pz_cm F f t) l = true := fun l h1 h2 => pz_cm_op c h1 h2
    refine ⟨?_, pz_aho_open (by omega) r.2 _ f (fun l h1 h2 => op l h1 (by omega))⟩
    have o := op (t - 1) (by omega) (by omega)
    unfold pz_opB at o
    rw [Bool.and_eq_true, decide_eq_true_eq] at o
    have d : pz_cm F f t / 6 = 0 ∨ pz_cm F f t / 6 = 1 ∨ pz_cm F f t / 6 = 2 := by omega
    rcases d with d | d | d
    · rw [d, show (3 : Int) + 0 = 3 from rfl] at o; omega
    · rw [d, show (3 : Int) + 1 = 4 from rfl] at o; omega
    · rw [d, show (3 : Int) + 2 = 5 from rfl] at o; omega
  have fin : ¬ (F 3 < t ∧ F 4 < t ∧ F 5 < t) → (if pz_aho F (t - f).toNat f = true then (2 : Int) else if t ≤ pz_farN F f then 0 else 3) = pz_rsn F f t := by
    intro g
    unfold pz_rsn
    by_cases a : t ≤ pz_farN F f
    · rw [if_pos a, if_pos a, (key a).2, if_neg (by decide)]
    · rw [if_neg a, if_neg a, if_neg g]
  unfold s_X7_reason
  rw [if_pos (pz_gd_Y (z := 3) (n := 452) (by omega) (by omega) (by omega)), if_pos (pz_gd_Y (z := 4) (n := 452) (by omega) (by omega) (by omega)), if_pos (pz_gd_Y (z := 5) (n := 452) (by omega) (by omega) (by omega)), pz_ar_at (by omega) (by omega) (by omega), pz_ar_at (by omega) (by omega) (by omega), pz_ar_at (by omega) (by omega) (by omega), show (0 : Int) + 3 = 3 from rfl, show (0 : Int) + 4 = 4 from rfl, show (0 : Int) + 5 = 5 from rfl, e]
  simp (disch := omega) only [pz_iI_le]
  by_cases a : t ≤ F 3
  · rw [if_pos a, fin (by omega)]; exact ⟨_, _, _, _, rfl⟩
  · rw [if_neg a]
    by_cases b : t ≤ F 4
    · rw [if_pos b, fin (by omega)]; exact ⟨_, _, _, _, rfl⟩
    · rw [if_neg b]
      by_cases c : t ≤ F 5
      · rw [if_pos c, fin (by omega)]; exact ⟨_, _, _, _, rfl⟩
      · rw [if_neg c]
        have g : F 3 < t ∧ F 4 < t ∧ F 5 < t := by omega
        have : pz_rsn F f t = 1 := by
          unfold pz_rsn
          rw [if_neg (fun q => (key q).1 g), if_pos g]
        rw [this]
        exact ⟨_, _, _, _, rfl⟩
theorem pz_whyNot_p {B : Int} {F : Int → Int} (h : pz_Inv B F) {n : Nat} (hn : 3000 ≤ n) (th on ot ch wo a1 a2 : Int32) (u : Nat → Int64) : ∃ (r b o1 o2 o3 o4 : Int32) (u2 : Nat → Int64), s_L_whyNot n (pz_ar F 3 3) (pz_ar F 290 162) u a1 a2 = some (r, u2) ∧ s_X7_whyNot n th on ot ch wo (pz_ar F 0 452) a1 a2 = some (b, r, o1, o2, o3, o4) ∧ (r = 0 → lg_cmp (u2 0) b.toInt64 = 0) := by
  obtain ⟨f, rfl, f1, f2⟩ := pz_iI_surj a1
  obtain ⟨t, rfl, t1, t2⟩ := pz_iI_surj a2
  unfold s_L_whyNot s_X7_whyNot
  by_cases hw : pz_okWay f t
  · obtain ⟨o1, o2, o3, o4, e⟩ := pz_reason_m h hn hw on ot ch wo
    rw [pz_why_c h hn hw, pz_way_m hw, e]
    exact ⟨iI 0, _, _, _, _, _, _, rfl, rfl, fun _ => by rw [pz_updL_0]; exact pz_lg_self _⟩
  · unfold s_X6_whyNot
    rw [pz_way_cF f1 f2 t1 t2 hw, pz_way_mF f1 f2 t1 t2 hw]
    exact ⟨_, _, _, _, _, _, _, rfl, rfl, fun q => absurd q (by decide)⟩
