def pz_HC (hist : Nat → TS) (old k : Nat) (E : Nat → Int → Int) : Prop := old < 6 ∧ k ≤ 6 ∧ ∃ H : Nat → Int → Int, (∀ j, j < 6 → hist j = pz_tsF (H j)) ∧ ∀ i, i < k → H ((old + i) % 6) = E i
def pz_kup (k : Nat) : Nat := if k = 6 then 6 else k + 1
def pz_oup (old k : Nat) : Nat := if k = 6 then (old + 1) % 6 else old
def pz_pushE (E : Nat → Int → Int) (k : Nat) (F : Int → Int) : Nat → Int → Int := fun i => if k = 6 then (if i < 5 then E (i + 1) else F) else (if i < k then E i else F)
theorem pz_md6 (a : Int) (h : 0 ≤ a) (h2 : a < 1000) : iI a - iI a / iI 6 * iI 6 = iI (a % 6) := by
  rw [pz_iI_div h (by omega) (by omega) (by omega), pz_iI_mul, pz_iI_sub, show a - a / 6 * 6 = a % 6 by omega]
theorem pz_keep_L {F : Int → Int} {n : Nat} (hn : 3000 ≤ n) {hist : Nat → TS} {H : Nat → Int → Int} (hH : ∀ j, j < 6 → hist j = pz_tsF (H j)) {old k j : Nat} (ho : old < 6) (hk : k < 6) (hj : (old + k) % 6 = j) (m : Nat) : s_X1_keep_L32 n (iI (F 7)) (iI (F 8)) (iI (F 9)) (pz_ar F 3 3) (pz_ar F 290 162) (iI (F 6)) (pz_ar F 10 280) (pz_ar F 0 3) (m + 1) (iI old) (iI k) hist = some (iI old, iI (k + 1 : Nat), va_up hist j (pz_tsF F)) := by
  have e : (((old : Int) + (k : Int)) % 6) = (j : Int) := by omega
  have hj6 : j < 6 := by omega
  have ek : iI (k : Int) + iI 1 = iI ((k + 1 : Nat) : Int) := by rw [pz_iI_add]; rfl
  rw [s_X1_keep_L32, pz_iI_add, pz_md6 _ (by omega) (by omega), e, ek, hH 0 (by decide), hH 1 (by decide), hH 2 (by decide), hH 3 (by decide), hH 4 (by decide), hH 5 (by decide)]
  dsimp only [pz_tsF]
  simp only [pz_takeOver_a F _ hn, Option.bind_some]
  match j, hj6 with
  | 0, _ => rw [if_pos (by decide)]
  | 1, _ => rw [if_neg (by decide), if_pos (by decide)]
  | 2, _ => rw [if_neg (by decide), if_neg (by decide), if_pos (by decide)]
  | 3, _ => rw [if_neg (by decide), if_neg (by decide), if_neg (by decide), if_pos (by decide)]
  | 4, _ => rw [if_neg (by decide), if_neg (by decide), if_neg (by decide), if_neg (by decide), if_pos (by decide)]
  | 5, _ => rw [if_neg (by decide), if_neg (by decide), if_neg (by decide), if_neg (by decide), if_neg (by decide), if_pos (by decide)]
theorem pz_keep_a (F : Int → Int) {n : Nat} (hn : 3000 ≤ n) {hist : Nat → TS} {old k : Nat} {E : Nat → Int → Int} (hc : pz_HC hist old k E) : ∃ hist2, s_X1_keep n (iI old) (iI k) (iI (F 7)) (iI (F 8)) (iI (F 9)) (pz_ar F 3 3) (pz_ar F 290 162) (iI (F 6)) (pz_ar F 10 280) (pz_ar F 0 3) hist = some (iI (pz_oup old k), iI (pz_kup k), hist2) ∧ pz_HC hist2 (pz_oup old k) (pz_kup k) (pz_pushE E k F) := by
  obtain ⟨ho, hk, H, hH, hE⟩ := hc
  obtain ⟨n, rfl⟩ : ∃ z, n = z + 1 := ⟨n - 1, by omega⟩
  unfold s_X1_keep pz_oup pz_kup
  have hup : ∀ j : Nat, ∀ i, i < 6 → va_up hist j (pz_tsF F) i = pz_tsF (if i = j then F else H i) := by
    intro j i hi
    unfold va_up
    by_cases c : i = j
    · rw [if_pos c, if_pos c]
    · rw [if_neg c, if_neg c, hH i hi]
  by_cases d : k = 6
  · subst d
    rw [if_pos (show iI ((6 : Nat) : Int) = iI 6 from rfl), if_pos rfl, if_pos rfl, pz_iI_add, pz_md6 _ (by omega) (by omega), show ((old : Int) + 1) % 6 = (((old + 1) % 6 : Nat) : Int) by omega, show iI ((6 : Nat) : Int) - iI 1 = iI ((5 : Nat) : Int) by decide, pz_keep_L hn hH (by omega) (by omega) rfl]
    refine ⟨_, rfl, by omega, by omega, _, hup _, ?_⟩
    intro i hi
    unfold pz_pushE
    rw [if_pos rfl]
    by_cases c : i < 5
    · rw [if_neg (by omega), if_pos c, ← hE (i + 1) (by omega)]
      congr 1; omega
    · rw [if_pos (by omega), if_neg c]
  · rw [if_neg (by rw [pz_iI_eq (by omega) (by omega) (by omega) (by omega)]; omega), if_neg d, if_neg d, pz_keep_L hn hH ho (by omega) rfl]
    refine ⟨_, rfl, by omega, by omega, _, hup _, ?_⟩
    intro i hi
    unfold pz_pushE
    rw [if_neg d]
    by_cases c : i < k
    · rw [if_neg (by omega), if_pos c, ← hE i c]
    · rw [if_pos (by have : i = k := by omega
                     rw [this]), if_neg c]
theorem pz_restore_a (F : Int → Int) {n : Nat} (hn : 3000 ≤ n) {hist : Nat → TS} {old k : Nat} {E : Nat → Int → Int} (hc : pz_HC hist old (k + 1) E) : s_X1_restore n (iI old) (iI (k + 1 : Nat)) (iI (F 7)) (iI (F 8)) (iI (F 9)) (pz_ar F 3 3) (pz_ar F 290 162) (iI (F 6)) (pz_ar F 10 280) (pz_ar F 0 3) hist = some (iI k, iI (E k 7), iI (E k 8), iI (E k 9), pz_ar (E k) 3 3, pz_ar (E k) 290 162, iI (E k 6), pz_ar (E k) 10 280, pz_ar (E k) 0 3) := by
  obtain ⟨ho, hk, H, hH, hE⟩ := hc
  have hk2 := hE k (by omega)
  generalize hj : (old + k) % 6 = j at hk2
  have hj6 : j < 6 := by omega
  have e : (((old : Int) + (k : Int)) % 6) = (j : Int) := by omega
  have ek : iI ((k + 1 : Nat) : Int) - iI 1 = iI (k : Int) := by rw [pz_iI_sub]; congr 1; omega
  unfold s_X1_restore
  rw [ek, pz_iI_add, pz_md6 _ (by omega) (by omega), e, hH 0 (by decide), hH 1 (by decide), hH 2 (by decide), hH 3 (by decide), hH 4 (by decide), hH 5 (by decide)]
  dsimp only [pz_tsF]
  simp only [pz_takeOver_a _ F hn, Option.bind_some]
  match j, hj6 with
  | 0, _ => rw [if_pos (by decide), hk2]
  | 1, _ => rw [if_neg (by decide), if_pos (by decide), hk2]
  | 2, _ => rw [if_neg (by decide), if_neg (by decide), if_pos (by decide), hk2]
  | 3, _ => rw [if_neg (by decide), if_neg (by decide), if_neg (by decide), if_pos (by decide), hk2]
  | 4, _ => rw [if_neg (by decide), if_neg (by decide), if_neg (by decide), if_neg (by decide), if_pos (by decide), hk2]
  | 5, _ => rw [if_neg (by decide), if_neg (by decide), if_neg (by decide), if_neg (by decide), if_neg (by decide), if_pos (by decide), hk2]
def pz_cpy (A B : Nat → Int32) (a c m : Nat) : Nat → Int32 := fun j => if c ≤ j ∧ j < c + m then A (j - c + a) else B j
theorem pz_cpy_step (A B : Nat → Int32) (a c m : Nat) : upd (pz_cpy A B a c m) (c + m) (A (a + m)) = pz_cpy A B a c (m + 1) := by
  funext j
  unfold upd pz_cpy
  by_cases e : j = c + m
  · rw [if_pos e, if_pos (by omega), e]; congr 1; omega
  · rw [if_neg e]
    by_cases d : c ≤ j ∧ j < c + m
    · rw [if_pos d, if_pos (by omega)]
    · rw [if_neg d, if_neg (by omega)]
theorem pz_copies_L {A B : Nat → Int32} (n : Nat) {v1 v2 a c : Nat} (h1 : a + 452 ≤ v1) (h2 : c + 452 ≤ v2) (h3 : v1 ≤ 100000) (h4 : v2 ≤ 100000) : ∀ (d x : Nat), x + d = 452 → ∀ k, d < k → s_X7_copies_L3 n v1 A v2 (iI a) (iI c) k (pz_cpy A B a c x) (iI x) = some (pz_cpy A B a c 452) := by
  intro d
  induction d with
  | zero =>
    intro x hx k hk
    obtain ⟨k, rfl⟩ : ∃ z, k = z + 1 := ⟨k - 1, by omega⟩
    rw [s_X7_copies_L3]
    simp (disch := omega) only [pz_iI_add, pz_iI_sub, pz_iI_mul, pz_iI_div, pz_iI_0, pz_nI_iI, pz_gd_T, pz_iI_lt_T, pz_iI_lt_F, pz_iI_le_T, pz_iI_le_F, pz_iI_eq_F, if_true, if_false, Option.bind_some, pz_ar_at, pz_ar_upd, pz_setF_at, pz_setF_ne, pz_setR_ne]
    rw [show x = 452 by omega]
  | succ d ih =>
    intro x hx k hk
    obtain ⟨k, rfl⟩ : ∃ z, k = z + 1 := ⟨k - 1, by omega⟩
    have go := ih (x + 1) (by omega) k (by omega)
    rw [s_X7_copies_L3]
    simp (disch := omega) only [pz_iI_add, pz_iI_sub, pz_iI_mul, pz_iI_div, pz_iI_0, pz_nI_iI, pz_gd_T, pz_iI_lt_T, pz_iI_lt_F, pz_iI_le_T, pz_iI_le_F, pz_iI_eq_F, if_true, if_false, Option.bind_some, pz_ar_at, pz_ar_upd, pz_setF_at, pz_setF_ne, pz_setR_ne]
    rw [pz_iI_cl (by omega) (by omega), pz_iI_cl (by omega) (by omega), show ((c : Int) + (x : Int)).toNat = c + x by omega, show ((a : Int) + (x : Int)).toNat = a + x by omega, pz_cpy_step]
    exact go
theorem pz_copies_a {A B : Nat → Int32} {n : Nat} (hn : 3000 ≤ n) {v1 v2 a c : Nat} (h1 : a + 452 ≤ v1) (h2 : c + 452 ≤ v2) (h3 : v1 ≤ 100000) (h4 : v2 ≤ 100000) : s_X7_copies n v1 A v2 B (iI a) (iI c) = some (pz_cpy A B a c 452) := by
  unfold s_X7_copies
  rw [← pz_copies_L (B := B) n h1 h2 h3 h4 452 0 (by omega) n (by omega)]
  congr 1
  funext j
  unfold pz_cpy
  rw [if_neg (by omega)]
def pz_PR (past : Nat → Int32) (k : Nat) (E : Nat → Int → Int) : Prop := ∀ i, i < k → ∀ z : Nat, z < 452 → past (452 * i + z) = iI (E i z)
def pz_shf (P : Nat → Int32) (m : Nat) : Nat → Int32 := fun j => if j < m then P (j + 452) else P j
theorem pz_shf_step (P : Nat → Int32) (m : Nat) : upd (pz_shf P m) m (P (m + 452)) = pz_shf P (m + 1) := by
  funext j
  unfold upd pz_shf
  by_cases e : j = m
  · rw [if_pos e, if_pos (by omega), e]
  · rw [if_neg e]
    by_cases d : j < m
    · rw [if_pos d, if_pos (by omega)]
    · rw [if_neg d, if_neg (by omega)]
theorem pz_saves_L {A P : Nat → Int32} (n : Nat) (kp : Int32) : ∀ (d x : Nat), x + d = 2260 → ∀ k, d < k → s_X7_saves_L11 n A k kp (pz_shf P x) (iI x) = (s_X7_copies n 452 A 2712 (pz_shf P 2260) (iI 0) (iI 452 * (kp - iI 1))).bind fun r2 => some ((kp - iI 1) + iI 1, r2) := by
  intro d
  induction d with
  | zero =>
    intro x hx k hk
    obtain ⟨k, rfl⟩ : ∃ z, k = z + 1 := ⟨k - 1, by omega⟩
    obtain rfl : x = 2260 := by omega
    rw [s_X7_saves_L11, if_pos (by decide)]
  | succ d ih =>
    intro x hx k hk
    obtain ⟨k, rfl⟩ : ∃ z, k = z + 1 := ⟨k - 1, by omega⟩
    have go := ih (x + 1) (by omega) k (by omega)
    rw [s_X7_saves_L11]
    simp (disch := omega) only [pz_iI_add, pz_iI_sub, pz_iI_mul, pz_iI_div, pz_iI_0, pz_nI_iI, pz_gd_T, pz_iI_lt_T, pz_iI_lt_F, pz_iI_le_T, pz_iI_le_F, pz_iI_eq_F, if_true, if_false, Option.bind_some, pz_ar_at, pz_ar_upd, pz_setF_at, pz_setF_ne, pz_setR_ne]
    rw [pz_iI_cl (by omega) (by omega), pz_iI_cl (by omega) (by omega), show ((x : Int) + 452).toNat = x + 452 by omega, show ((x : Int)).toNat = x by omega, show pz_shf P x (x + 452) = P (x + 452) from if_neg (by omega), pz_shf_step]
    rw [show ((x + 1 : Nat) : Int) = (x : Int) + 1 from rfl] at go
    exact go
theorem pz_PR_cpy {F : Int → Int} {P : Nat → Int32} {k : Nat} {E : Nat → Int → Int} (h : pz_PR P k E) : pz_PR (pz_cpy (pz_ar F 0 452) P 0 (452 * k) 452) (k + 1) (fun i => if i < k then E i else F) := by
  intro i hi z hz
  unfold pz_cpy
  dsimp only
  by_cases c : i < k
  · rw [if_neg (by omega), if_pos c, h i c z hz]
  · have e : i = k := by omega
    subst e
    rw [if_pos (by omega), if_neg c]
    unfold pz_ar
    rw [if_pos (by omega)]
    congr 2; omega
theorem pz_saves_a (F : Int → Int) {n : Nat} (hn : 3000 ≤ n) {past : Nat → Int32} {k : Nat} {E : Nat → Int → Int} (hk : k ≤ 6) (hp : pz_PR past k E) : ∃ past2, s_X7_saves n (iI k) (pz_ar F 0 452) past = some (iI (pz_kup k), past2) ∧ pz_PR past2 (pz_kup k) (pz_pushE E k F) := by
  unfold s_X7_saves pz_kup
  by_cases d : k = 6
  · subst d
    rw [if_pos (show iI ((6 : Nat) : Int) = iI 6 from rfl), if_pos rfl]
    have h := pz_saves_L (A := pz_ar F 0 452) (P := past) n (iI ((6 : Nat) : Int)) 2260 0 (by omega) n (by omega)
    rw [show pz_shf past 0 = past from by funext j; unfold pz_shf; rw [if_neg (by omega)]] at h
    rw [show iI 452 * (iI ((6 : Nat) : Int) - iI 1) = iI ((452 * 5 : Nat) : Int) by decide, show iI 0 = iI ((0 : Nat) : Int) from rfl, pz_copies_a hn (by omega) (by omega) (by omega) (by omega)] at h
    rw [show iI 0 = iI ((0 : Nat) : Int) from rfl, h]
    refine ⟨_, rfl, ?_⟩
    have q : pz_PR (pz_shf past 2260) 5 (fun i => E (i + 1)) := by
      intro i hi z hz
      unfold pz_shf
      rw [if_pos (by omega), ← hp (i + 1) (by omega) z hz]
      congr 1; omega
    have w := pz_PR_cpy (F := F) q
    intro i hi z hz
    rw [w i hi z hz]
    unfold pz_pushE
    dsimp only
    rw [if_pos rfl]
  · rw [if_neg (by rw [pz_iI_eq (by omega) (by omega) (by omega) (by omega)]; omega), if_neg d, pz_iI_mul, show (452 : Int) * (k : Int) = ((452 * k : Nat) : Int) by omega, show iI 0 = iI ((0 : Nat) : Int) from rfl, pz_copies_a hn (by omega) (by omega) (by omega) (by omega), Option.bind_some, pz_iI_add]
    refine ⟨_, rfl, ?_⟩
    have w := pz_PR_cpy (F := F) hp
    intro i hi z hz
    rw [w i hi z hz]
    unfold pz_pushE
    dsimp only
    rw [if_neg d]
theorem pz_undo_m {F : Int → Int} {n : Nat} (hn : 3000 ≤ n) {past : Nat → Int32} {k : Nat} {E : Nat → Int → Int} (hk : k + 1 ≤ 6) (hp : pz_PR past (k + 1) E) : s_X7_copies n 2712 past 452 (pz_ar F 0 452) (iI 452 * (iI (k + 1 : Nat) - iI 1)) (iI 0) = some (pz_ar (E k) 0 452) := by
  have ek : iI ((k + 1 : Nat) : Int) - iI 1 = iI (k : Int) := by rw [pz_iI_sub]; congr 1; omega
  rw [ek, pz_iI_mul, show (452 : Int) * (k : Int) = ((452 * k : Nat) : Int) by omega, show iI 0 = iI ((0 : Nat) : Int) from rfl, pz_copies_a hn (by omega) (by omega) (by omega) (by omega)]
  congr 1
  funext j
  unfold pz_cpy pz_ar
  by_cases c : j < 452
  · rw [if_pos (by omega), if_pos c, show j - 0 + 452 * k = 452 * k + j by omega, hp k (by omega) j c]
    congr 2; omega
  · rw [if_neg (by omega), if_neg c, if_neg c]
def pz_cov (F : Int → Int) (p b l : Int) : Prop := (b = pz_fld F p 4 ∧ pz_fld F p 1 ≤ l ∧ l < pz_mid F p) ∨ (b = pz_fld F p 5 ∧ pz_mid F p ≤ l ∧ l < pz_fld F p 2)
theorem pz_way_cov {F : Int → Int} {p b l h : Int} (ok : pz_okw F p) (hc : pz_cov F p b l) : pz_wayF F p h (290 + (b * 9 + l)) = h := by
  have m := pz_okw_mid ok
  unfold pz_okw at ok
  unfold pz_cov at hc
  unfold pz_wayF
  by_cases d : b = pz_fld F p 5 ∧ pz_mid F p ≤ l ∧ l < pz_fld F p 2
  · exact pz_setR_in (by omega)
  · rw [pz_setR_ne (by omega)]
    exact pz_setR_in (by omega)
theorem pz_way_not {F : Int → Int} {p b l h : Int} (ok : pz_okw F p) (hb : 0 ≤ b) (hl : 0 ≤ l) (hl2 : l < 9) (hc : ¬ pz_cov F p b l) : pz_wayF F p h (290 + (b * 9 + l)) = F (290 + (b * 9 + l)) := by
  have m := pz_okw_mid ok
  unfold pz_okw at ok
  unfold pz_cov at hc
  unfold pz_wayF
  rw [pz_setR_ne (by omega), pz_setR_ne (by omega)]
theorem pz_way_out {F : Int → Int} {p h z : Int} (ok : pz_okw F p) (hz : z < 290 ∨ 452 ≤ z) : pz_wayF F p h z = F z := by
  have m := pz_okw_mid ok
  unfold pz_okw at ok
  unfold pz_wayF
  rw [pz_setR_ne (by omega), pz_setR_ne (by omega)]
theorem pz_cov_rg {F : Int → Int} {p b l : Int} (ok : pz_okw F p) (hc : pz_cov F p b l) : 0 ≤ b ∧ b < 18 ∧ 0 ≤ l ∧ l < 9 := by
  have m := pz_okw_mid ok
  unfold pz_okw at ok
  unfold pz_cov at hc
  omega
theorem pz_cell_split {z : Int} (h : 290 ≤ z) (h2 : z < 452) : ∃ b l : Int, z = 290 + (b * 9 + l) ∧ 0 ≤ b ∧ b < 18 ∧ 0 ≤ l ∧ l < 9 := ⟨(z - 290) / 9, (z - 290) % 9, by omega, by omega, by omega, by omega, by omega⟩
abbrev pz_Inv (B : Int) (F : Int → Int) : Prop :=(pz_rng F) ∧ (0 ≤ F 0 ∧ F 0 ≤ 9 ∧ 0 ≤ F 1 ∧ F 1 ≤ 9 ∧ 0 ≤ F 2 ∧ F 2 ≤ 50) ∧ (∀ c, 0 ≤ c → c < 3 → 1 ≤ F (3 + c) ∧ F (3 + c) ≤ 9) ∧ (0 ≤ F 6 ∧ F 6 ≤ 40) ∧ (0 ≤ F 7 ∧ F 7 ≤ B ∧ 0 ≤ F 8 ∧ F 8 ≤ B ∧ 0 ≤ F 9 ∧ F 9 ≤ B) ∧ (∀ p, 0 ≤ p → p < F 6 → pz_okw F p ∧ 0 ≤ pz_fld F p 0 ∧ pz_fld F p 0 < F 7 ∧ 0 ≤ pz_fld F p 3 ∧ pz_fld F p 3 ≤ 1) ∧ (∀ p q, 0 ≤ p → p < F 6 → 0 ≤ q → q < F 6 → pz_fld F p 0 = pz_fld F q 0 → p = q) ∧ (∀ p b l, 0 ≤ p → p < F 6 → pz_cov F p b l → F (290 + (b * 9 + l)) = pz_fld F p 0) ∧ (∀ b l, 0 ≤ b → b < 18 → 0 ≤ l → l < 9 → F (290 + (b * 9 + l)) = -1 ∨ ∃ p, 0 ≤ p ∧ p < F 6 ∧ pz_cov F p b l)
theorem pz_Inv.rg {B : Int} {F : Int → Int} (h : pz_Inv B F) : pz_rng F := h.1
theorem pz_Inv.st {B : Int} {F : Int → Int} (h : pz_Inv B F) : 0 ≤ F 0 ∧ F 0 ≤ 9 ∧ 0 ≤ F 1 ∧ F 1 ≤ 9 ∧ 0 ≤ F 2 ∧ F 2 ≤ 50 := h.2.1
theorem pz_Inv.en {B : Int} {F : Int → Int} (h : pz_Inv B F) : ∀ c, 0 ≤ c → c < 3 → 1 ≤ F (3 + c) ∧ F (3 + c) ≤ 9 := h.2.2.1
theorem pz_Inv.sz {B : Int} {F : Int → Int} (h : pz_Inv B F) : 0 ≤ F 6 ∧ F 6 ≤ 40 := h.2.2.2.1
theorem pz_Inv.ct {B : Int} {F : Int → Int} (h : pz_Inv B F) : 0 ≤ F 7 ∧ F 7 ≤ B ∧ 0 ≤ F 8 ∧ F 8 ≤ B ∧ 0 ≤ F 9 ∧ F 9 ≤ B := h.2.2.2.2.1
theorem pz_Inv.ps {B : Int} {F : Int → Int} (h : pz_Inv B F) : ∀ p, 0 ≤ p → p < F 6 → pz_okw F p ∧ 0 ≤ pz_fld F p 0 ∧ pz_fld F p 0 < F 7 ∧ 0 ≤ pz_fld F p 3 ∧ pz_fld F p 3 ≤ 1 := h.2.2.2.2.2.1
theorem pz_Inv.nj {B : Int} {F : Int → Int} (h : pz_Inv B F) : ∀ p q, 0 ≤ p → p < F 6 → 0 ≤ q → q < F 6 → pz_fld F p 0 = pz_fld F q 0 → p = q := h.2.2.2.2.2.2.1
theorem pz_Inv.h1 {B : Int} {F : Int → Int} (h : pz_Inv B F) : ∀ p b l, 0 ≤ p → p < F 6 → pz_cov F p b l → F (290 + (b * 9 + l)) = pz_fld F p 0 := h.2.2.2.2.2.2.2.1
theorem pz_Inv.h2 {B : Int} {F : Int → Int} (h : pz_Inv B F) : ∀ b l, 0 ≤ b → b < 18 → 0 ≤ l → l < 9 → F (290 + (b * 9 + l)) = -1 ∨ ∃ p, 0 ≤ p ∧ p < F 6 ∧ pz_cov F p b l := h.2.2.2.2.2.2.2.2
theorem pz_Inv.mono {B C : Int} {F : Int → Int} (h : pz_Inv B F) (hc : B ≤ C) : pz_Inv C F := ⟨h.rg, h.st, h.en, h.sz, by have := h.ct; omega, h.ps, h.nj, h.h1, h.h2⟩
theorem pz_free_way {B : Int} {F : Int → Int} (h : pz_Inv B F) {p : Int} (h0 : 0 ≤ p) (h1 : p < F 6) : pz_freeF F (pz_fld F p 0) = pz_wayF F p (-1) := by
  have ok := h.ps p h0 h1
  funext z
  by_cases c : 290 ≤ z ∧ z < 452
  · obtain ⟨b, l, e, hb, hb2, hl, hl2⟩ := pz_cell_split c.1 c.2
    subst e
    by_cases d : pz_cov F p b l
    · rw [pz_way_cov ok.1 d]
      unfold pz_freeF
      rw [if_pos ⟨c.1, c.2, h.h1 p b l h0 h1 d⟩]
    · rw [pz_way_not ok.1 hb hl hl2 d]
      unfold pz_freeF
      rw [if_neg]
      intro q
      rcases h.h2 b l hb hb2 hl hl2 with w | ⟨p2, hp0, hp1, w⟩
      · omega
      · have e1 := h.h1 p2 b l hp0 hp1 w
        have e2 := h.nj p2 p hp0 hp1 h0 h1 (by omega)
        exact d (e2 ▸ w)
  · rw [pz_way_out ok.1 (by omega)]
    unfold pz_freeF
    rw [if_neg (by omega)]
theorem pz_way_fld {F : Int → Int} {p h : Int} (ok : pz_okw F p) {q d : Int} (hq2 : q < 40) (hd2 : d < 7) : pz_fld (pz_wayF F p h) q d = pz_fld F q d := by
  unfold pz_fld
  rw [pz_way_out ok (by omega)]
theorem pz_mid_congr {F G : Int → Int} {p : Int} (h2 : pz_fld G p 2 = pz_fld F p 2) (h6 : pz_fld G p 6 = pz_fld F p 6) : pz_mid G p = pz_mid F p := by unfold pz_mid; rw [h2, h6]
theorem pz_okw_congr {F G : Int → Int} {p q : Int} (h : ∀ d, 0 ≤ d → d < 7 → pz_fld G p d = pz_fld F q d) : pz_okw G p ↔ pz_okw F q := by
  unfold pz_okw
  rw [h 1 (by omega) (by omega), h 2 (by omega) (by omega), h 4 (by omega) (by omega), h 5 (by omega) (by omega), h 6 (by omega) (by omega)]
theorem pz_cov_congr {F G : Int → Int} {p q b l : Int} (h : ∀ d, 0 ≤ d → d < 7 → pz_fld G p d = pz_fld F q d) : pz_cov G p b l ↔ pz_cov F q b l := by
  unfold pz_cov pz_mid
  rw [h 1 (by omega) (by omega), h 2 (by omega) (by omega), h 4 (by omega) (by omega), h 5 (by omega) (by omega), h 6 (by omega) (by omega)]
theorem pz_way_back {B : Int} {F : Int → Int} (h : pz_Inv B F) {p : Int} (h0 : 0 ≤ p) (h1 : p < F 6) : pz_wayF (pz_wayF F p (-1)) p (pz_fld F p 0) = F := by
  have ok := (h.ps p h0 h1).1
  have sz := h.sz
  have ok2 : pz_okw (pz_wayF F p (-1)) p := (pz_okw_congr (fun d h3 h4 => pz_way_fld ok (by omega) h4)).mpr ok
  funext z
  by_cases c : 290 ≤ z ∧ z < 452
  · obtain ⟨b, l, e, hb, hb2, hl, hl2⟩ := pz_cell_split c.1 c.2
    subst e
    have cc : pz_cov (pz_wayF F p (-1)) p b l ↔ pz_cov F p b l := pz_cov_congr (fun d h3 h4 => pz_way_fld ok (by omega) h4)
    by_cases d : pz_cov F p b l
    · rw [pz_way_cov ok2 (cc.mpr d), h.h1 p b l h0 h1 d]
    · rw [pz_way_not ok2 hb hl hl2 (fun w => d (cc.mp w)), pz_way_not ok hb hl hl2 d]
  · rw [pz_way_out ok2 (by omega), pz_way_out ok (by omega)]
theorem pz_till_op (F : Int → Int) (b : Int) : ∀ (c : Nat) (x l : Int), x ≤ l → l < pz_tillc F b c x → pz_opB F b l = true := by
  intro c
  induction c with
  | zero => intro x l h1 h2; unfold pz_tillc at h2; omega
  | succ c ih =>
    intro x l h1 h2
    unfold pz_tillc at h2
    by_cases e : pz_opB F b x = true
    · rw [if_pos e] at h2
      by_cases g : l = x
      · rw [g]; exact e
      · exact ih (x + 1) l (by omega) h2
    · rw [if_neg e] at h2; omega
theorem pz_cm_op {F : Int → Int} {f t : Int} (h : pz_cm F f t ≠ -1) {l : Int} (h1 : f ≤ l) (h2 : l < t) : pz_opB F (pz_cm F f t) l = true := by
  have s := (pz_calm_spec F f t 18 0 (-1) 0 (by omega) (fun q => absurd rfl q)).1 h
  exact pz_till_op F _ (9 - f).toNat f l h1 (by have := s.1; unfold pz_till at this; unfold pz_cm; omega)
theorem pz_cm_rg (F : Int → Int) (f t : Int) : -1 ≤ pz_cm F f t ∧ pz_cm F f t < 18 := pz_calm_rg F f t 18 0 (-1) 0 (by omega) (by omega) (by omega) (by omega)
theorem pz_opB_hold {F : Int → Int} {b l : Int} (h : pz_opB F b l = true) : F (290 + (b * 9 + l)) = -1 := by
  unfold pz_opB at h
  rw [Bool.and_eq_true, decide_eq_true_eq, decide_eq_true_eq] at h
  exact h.2
abbrev pz_Can (F : Int → Int) (f t a b c : Int) : Prop :=(pz_okO f t a b c) ∧ (∀ l, f ≤ l → l < (if c = -1 then t else c) → F (290 + (a * 9 + l)) = -1) ∧ (∀ l, (if c = -1 then t else c) ≤ l → l < t → F (290 + (b * 9 + l)) = -1)
theorem pz_Can.ok {F : Int → Int} {f t a b c : Int} (h : pz_Can F f t a b c) : pz_okO f t a b c := h.1
theorem pz_Can.o1 {F : Int → Int} {f t a b c : Int} (h : pz_Can F f t a b c) : ∀ l, f ≤ l → l < (if c = -1 then t else c) → F (290 + (a * 9 + l)) = -1 := h.2.1
theorem pz_Can.o2 {F : Int → Int} {f t a b c : Int} (h : pz_Can F f t a b c) : ∀ l, (if c = -1 then t else c) ≤ l → l < t → F (290 + (b * 9 + l)) = -1 := h.2.2
theorem pz_fnd_can {F : Int → Int} {f t : Int} {pz_thr : Bool} (hw : pz_okWay f t) (h : (pz_fnd F f t pz_thr).1 ≠ -1) : pz_Can F f t (pz_fnd F f t pz_thr).1 (pz_fnd F f t pz_thr).2.1 (pz_fnd F f t pz_thr).2.2 := by
  have hw2 := hw
  unfold pz_okWay at hw2
  have r := pz_cm_rg F f t
  by_cases d : pz_cm F f t = -1
  · cases pz_thr with
    | true => rw [pz_fnd_thr d] at h; exact absurd rfl h
    | false =>
      by_cases e : pz_cx F f t = -1
      · rw [pz_fnd_no d e] at h; exact absurd rfl h
      · have g := pz_chg_rg F f t hw2.1 (t - (f + 1)).toNat (f + 1) (-1) 0 (by omega) (by omega) (Or.inl rfl)
        have g2 := pz_chg_ok F f t (t - (f + 1)).toNat (f + 1) (-1) 0 (fun x => absurd rfl x) e
        have r1 := pz_cm_rg F f (pz_cx F f t)
        have r2 := pz_cm_rg F (pz_cx F f t) t
        rw [pz_fnd_two d e]
        dsimp only
        have g3 : f < pz_cx F f t ∧ pz_cx F f t < t := g.resolve_left e
        have n1 : pz_cm F f (pz_cx F f t) ≠ -1 := g2.1
        have n2 : pz_cm F (pz_cx F f t) t ≠ -1 := g2.2.1
        refine ⟨by unfold pz_okO; omega, ?_, ?_⟩
        · intro l h1 h2; rw [if_neg e] at h2; exact pz_opB_hold (pz_cm_op g2.1 h1 h2)
        · intro l h1 h2; rw [if_neg e] at h1; exact pz_opB_hold (pz_cm_op g2.2.1 h1 h2)
  · rw [pz_fnd_one d]
    dsimp only
    refine ⟨by unfold pz_okO; omega, ?_, ?_⟩
    · intro l h1 h2; rw [if_pos rfl] at h2; exact pz_opB_hold (pz_cm_op d h1 h2)
    · intro l h1 h2; rw [if_pos rfl] at h1; omega
theorem pz_admitF_fld {F : Int → Int} {f t th a b c : Int} (hp : 0 ≤ F 6) (hp2 : F 6 < 40) (hw : pz_okWay f t) (ho : pz_okO f t a b c) {q d : Int} (h0 : 0 ≤ q) (hq2 : q < 40) (hd : 0 ≤ d) (hd2 : d < 7) : pz_fld (pz_admitF F f t th a b c) q d = pz_fld (pz_setB (pz_newF F f t th) (F 6) a b c) q d := by
  have o := pz_okw_new (F := F) (th := th) hp hw ho
  have e : pz_fld (pz_admitF F f t th a b c) q d = pz_fld (pz_wayF (pz_setB (pz_newF F f t th) (F 6) a b c) (F 6) (pz_fld (pz_newF F f t th) (F 6) 0)) q d := by
    unfold pz_fld pz_admitF pz_layF
    rw [pz_setF_ne (by omega), pz_setF_ne (by omega), pz_setF_ne (by omega)]
    rfl
  rw [e, pz_way_fld o hq2 hd2]
theorem pz_admitF_old {F : Int → Int} {f t th a b c : Int} (hp : 0 ≤ F 6) (hp2 : F 6 < 40) (hw : pz_okWay f t) (ho : pz_okO f t a b c) {q d : Int} (h0 : 0 ≤ q) (hq2 : q < F 6) (hd : 0 ≤ d) (hd2 : d < 7) : pz_fld (pz_admitF F f t th a b c) q d = pz_fld F q d := by
  rw [pz_admitF_fld hp hp2 hw ho h0 (by omega) hd hd2, pz_setB_ne _ _ _ _ _ hd2 hd (by omega), pz_newF_ne _ _ _ _ hd2 hd (by omega)]
theorem pz_admitF_hold {F : Int → Int} {f t th a b c : Int} (hp : 0 ≤ F 6) (hp2 : F 6 < 40) (hw : pz_okWay f t) (ho : pz_okO f t a b c) {z : Int} (hz : 290 ≤ z) : pz_admitF F f t th a b c z = pz_wayF (pz_setB (pz_newF F f t th) (F 6) a b c) (F 6) (F 7) z := by
  unfold pz_admitF pz_layF
  rw [pz_setF_ne (by omega), pz_setF_ne (by omega), pz_setF_ne (by omega), pz_newF_0]
theorem pz_inv_admit {B : Int} {F : Int → Int} (h : pz_Inv B F) (hB : B < 900000) {f t th a b c : Int} (hp2 : F 6 < 40) (hw : pz_okWay f t) (ht : 0 ≤ th ∧ th ≤ 1) (hc : pz_Can F f t a b c) : pz_Inv (B + 1) (pz_admitF F f t th a b c) := by
  have hp := h.sz.1
  have ct := h.ct
  have ho := hc.ok
  have hw2 := hw
  unfold pz_okWay at hw2
  have ho2 := ho
  unfold pz_okO at ho2
  have o := pz_okw_new (F := F) (th := th) hp hw ho
  have lo : ∀ z : Int, z < 10 → _ := fun z hz => pz_admitF_lo F (th := th) hp hp2 hw ho (z := z) hz
  have e6 : pz_admitF F f t th a b c 6 = F 6 + 1 := by rw [lo 6 (by omega), if_pos rfl]
  have e7 : pz_admitF F f t th a b c 7 = F 7 + 1 := by rw [lo 7 (by omega), if_neg (by omega), if_pos rfl]
  have e8 : pz_admitF F f t th a b c 8 = F 8 + 1 := by rw [lo 8 (by omega), if_neg (by omega), if_neg (by omega), if_pos rfl]
  have e9 : ∀ z, z < 10 → z ≠ 6 → z ≠ 7 → z ≠ 8 → pz_admitF F f t th a b c z = F z := fun z h1 h2 h3 h4 => by rw [lo z h1, if_neg h2, if_neg h3, if_neg h4]
  have old : ∀ q d, 0 ≤ q → q < F 6 → 0 ≤ d → d < 7 → pz_fld (pz_admitF F f t th a b c) q d = pz_fld F q d := fun q d x1 x2 x3 x4 => pz_admitF_old hp hp2 hw ho x1 x2 x3 x4
  have new : ∀ d, 0 ≤ d → d < 7 → pz_fld (pz_admitF F f t th a b c) (F 6) d = pz_fld (pz_setB (pz_newF F f t th) (F 6) a b c) (F 6) d := fun d x3 x4 => pz_admitF_fld hp hp2 hw ho hp hp2 x3 x4
  have n0 : pz_fld (pz_admitF F f t th a b c) (F 6) 0 = F 7 := by rw [new 0 (by omega) (by omega), pz_setB_lo _ _ _ _ _ (by omega) (by omega) hp hp, pz_newF_0]
  have n3 : pz_fld (pz_admitF F f t th a b c) (F 6) 3 = th := by rw [new 3 (by omega) (by omega), pz_setB_lo _ _ _ _ _ (by omega) (by omega) hp hp, pz_newF_3]
  have cn : ∀ bq l, pz_cov (pz_admitF F f t th a b c) (F 6) bq l ↔ pz_cov (pz_setB (pz_newF F f t th) (F 6) a b c) (F 6) bq l := fun bq l => pz_cov_congr new
  have cnF : ∀ bq l, pz_cov (pz_setB (pz_newF F f t th) (F 6) a b c) (F 6) bq l → F (290 + (bq * 9 + l)) = -1 := by
    intro bq l hcov
    unfold pz_cov pz_mid at hcov
    rw [pz_setB_4, pz_setB_5, pz_setB_6, pz_setB_lo _ _ _ _ _ (by omega) (by omega) hp hp, pz_setB_lo _ _ _ _ _ (by omega) (by omega) hp hp, pz_newF_1, pz_newF_2] at hcov
    rcases hcov with w | w
    · rw [w.1]; exact hc.o1 l w.2.1 w.2.2
    · rw [w.1]; exact hc.o2 l w.2.1 w.2.2
  have gF : ∀ bq l : Int, 0 ≤ bq → bq < 18 → 0 ≤ l → l < 9 → pz_setB (pz_newF F f t th) (F 6) a b c (290 + (bq * 9 + l)) = F (290 + (bq * 9 + l)) := fun bq l x1 x2 x3 x4 => by
    rw [pz_setB_out _ _ _ _ _ hp hp2 (by omega), pz_newF_out _ _ _ _ hp hp2 (by omega)]
  refine ⟨pz_rng_admitF h.rg hp hp2 (by omega) (by omega) hw ht ho, ?_, ?_, ?_, ?_, ?_, ?_, ?_, ?_⟩
  · have := h.st
    rw [e9 0 (by omega) (by omega) (by omega) (by omega), e9 1 (by omega) (by omega) (by omega) (by omega), e9 2 (by omega) (by omega) (by omega) (by omega)]
    exact this
  · intro x x0 x1
    rw [e9 (3 + x) (by omega) (by omega) (by omega) (by omega)]
    exact h.en x x0 x1
  · rw [e6]; omega
  · rw [e7, e8, e9 9 (by omega) (by omega) (by omega) (by omega)]; omega
  · intro p x0 x1
    rw [e6] at x1
    rw [e7]
    by_cases g : p = F 6
    · subst g
      rw [n0, n3]
      exact ⟨(pz_okw_congr new).mpr o, by omega⟩
    · have q := h.ps p x0 (by omega)
      rw [old p 0 x0 (by omega) (by omega) (by omega), old p 3 x0 (by omega) (by omega) (by omega)]
      exact ⟨(pz_okw_congr (fun d y1 y2 => old p d x0 (by omega) y1 y2)).mpr q.1, by omega⟩
  · intro p q x0 x1 y0 y1 hpq
    rw [e6] at x1 y1
    by_cases g : p = F 6
    · by_cases g2 : q = F 6
      · omega
      · have w := h.ps q y0 (by omega)
        rw [g, n0, old q 0 y0 (by omega) (by omega) (by omega)] at hpq
        omega
    · by_cases g2 : q = F 6
      · have w := h.ps p x0 (by omega)
        rw [g2, n0, old p 0 x0 (by omega) (by omega) (by omega)] at hpq
        omega
      · rw [old p 0 x0 (by omega) (by omega) (by omega), old q 0 y0 (by omega) (by omega) (by omega)] at hpq
        exact h.nj p q x0 (by omega) y0 (by omega) hpq
  · intro p bq l x0 x1 hcov
    rw [e6] at x1
    by_cases g : p = F 6
    · subst g
      rw [n0, pz_admitF_hold hp hp2 hw ho (by have := pz_cov_rg o ((cn bq l).mp hcov); omega)]
      exact pz_way_cov o ((cn bq l).mp hcov)
    · have ok := (h.ps p x0 (by omega)).1
      have w := h.ps p x0 (by omega)
      have hcov2 : pz_cov F p bq l := (pz_cov_congr (fun d y1 y2 => old p d x0 (by omega) y1 y2)).mp hcov
      have r := pz_cov_rg ok hcov2
      have e := h.h1 p bq l x0 (by omega) hcov2
      rw [old p 0 x0 (by omega) (by omega) (by omega), pz_admitF_hold hp hp2 hw ho (by omega), pz_way_not o r.1 r.2.2.1 r.2.2.2 (fun y => by have := cnF bq l y; omega), gF bq l r.1 r.2.1 r.2.2.1 r.2.2.2]
      exact e
  · intro bq l x0 x1 x2 x3
    rw [pz_admitF_hold hp hp2 hw ho (by omega), e6]
    by_cases g : pz_cov (pz_setB (pz_newF F f t th) (F 6) a b c) (F 6) bq l
    · exact Or.inr ⟨F 6, by omega, by omega, (cn bq l).mpr g⟩
    · rw [pz_way_not o x0 x2 x3 g, gF bq l x0 x1 x2 x3]
      rcases h.h2 bq l x0 x1 x2 x3 with w | ⟨p, y0, y1, w⟩
      · exact Or.inl w
      · exact Or.inr ⟨p, y0, by omega, (pz_cov_congr (fun d z1 z2 => old p d y0 (by omega) z1 z2)).mpr w⟩
def pz_reF (F : Int → Int) (p a b c : Int) : Int → Int := pz_wayF (pz_setB (pz_wayF F p (-1)) p a b c) p (pz_fld F p 0)
abbrev pz_Can2 (F : Int → Int) (p f t a b c : Int) : Prop :=(pz_okO f t a b c) ∧ (∀ l, f ≤ l → l < (if c = -1 then t else c) → F (290 + (a * 9 + l)) = -1 ∨ F (290 + (a * 9 + l)) = pz_fld F p 0) ∧ (∀ l, (if c = -1 then t else c) ≤ l → l < t → F (290 + (b * 9 + l)) = -1 ∨ F (290 + (b * 9 + l)) = pz_fld F p 0)
theorem pz_Can2.ok {F : Int → Int} {p f t a b c : Int} (h : pz_Can2 F p f t a b c) : pz_okO f t a b c := h.1
theorem pz_Can2.o1 {F : Int → Int} {p f t a b c : Int} (h : pz_Can2 F p f t a b c) : ∀ l, f ≤ l → l < (if c = -1 then t else c) → F (290 + (a * 9 + l)) = -1 ∨ F (290 + (a * 9 + l)) = pz_fld F p 0 := h.2.1
theorem pz_Can2.o2 {F : Int → Int} {p f t a b c : Int} (h : pz_Can2 F p f t a b c) : ∀ l, (if c = -1 then t else c) ≤ l → l < t → F (290 + (b * 9 + l)) = -1 ∨ F (290 + (b * 9 + l)) = pz_fld F p 0 := h.2.2
theorem pz_okw_re {B : Int} {F : Int → Int} (h : pz_Inv B F) {p a b c : Int} (h0 : 0 ≤ p) (h1 : p < F 6) (ho : pz_okO (pz_fld F p 1) (pz_fld F p 2) a b c) : pz_okw (pz_setB (pz_wayF F p (-1)) p a b c) p := by
  have ok := (h.ps p h0 h1).1
  have sz := h.sz
  unfold pz_okO at ho
  have e : ∀ d, d < 4 → 0 ≤ d → pz_fld (pz_setB (pz_wayF F p (-1)) p a b c) p d = pz_fld F p d := fun d x1 x2 => by rw [pz_setB_lo _ _ _ _ _ x1 x2 h0 h0, pz_way_fld ok (by omega) (by omega)]
  unfold pz_okw at ok ⊢
  rw [pz_setB_4, pz_setB_5, pz_setB_6, e 1 (by omega) (by omega), e 2 (by omega) (by omega)]
  omega
theorem pz_reF_fld {B : Int} {F : Int → Int} (h : pz_Inv B F) {p a b c : Int} (h0 : 0 ≤ p) (h1 : p < F 6) (ho : pz_okO (pz_fld F p 1) (pz_fld F p 2) a b c) {q d : Int} (x0 : 0 ≤ q) (x1 : q < F 6) (y0 : 0 ≤ d) (y1 : d < 7) : pz_fld (pz_reF F p a b c) q d = pz_fld (pz_setB (pz_wayF F p (-1)) p a b c) q d := by
  have sz := h.sz
  unfold pz_reF
  rw [pz_way_fld (pz_okw_re h h0 h1 ho) (by omega) y1]
theorem pz_reF_lo {B : Int} {F : Int → Int} (h : pz_Inv B F) {p a b c : Int} (h0 : 0 ≤ p) (h1 : p < F 6) (ho : pz_okO (pz_fld F p 1) (pz_fld F p 2) a b c) {z : Int} (hz : z < 10) : pz_reF F p a b c z = F z := by
  have sz := h.sz
  unfold pz_reF
  rw [pz_way_out (pz_okw_re h h0 h1 ho) (by omega), pz_setB_out _ _ _ _ _ h0 (by omega) (by omega), pz_way_out (h.ps p h0 h1).1 (by omega)]
theorem pz_inv_re {B : Int} {F : Int → Int} (h : pz_Inv B F) {p a b c : Int} (h0 : 0 ≤ p) (h1 : p < F 6) (hc : pz_Can2 F p (pz_fld F p 1) (pz_fld F p 2) a b c) : pz_Inv B (pz_reF F p a b c) := by
  have sz := h.sz
  have ho := hc.ok
  have ok := (h.ps p h0 h1).1
  have pp := h.ps p h0 h1
  have o := pz_okw_re h h0 h1 ho
  have lo : ∀ z, z < 10 → pz_reF F p a b c z = F z := fun z hz => pz_reF_lo h h0 h1 ho hz
  have fl : ∀ q d, 0 ≤ q → q < F 6 → 0 ≤ d → d < 7 → pz_fld (pz_reF F p a b c) q d = pz_fld (pz_setB (pz_wayF F p (-1)) p a b c) q d := fun q d x0 x1 y0 y1 => pz_reF_fld h h0 h1 ho x0 x1 y0 y1
  have old : ∀ q d, 0 ≤ q → q < F 6 → ¬ q = p → 0 ≤ d → d < 7 → pz_fld (pz_reF F p a b c) q d = pz_fld F q d := fun q d x0 x1 hq y0 y1 => by
    rw [fl q d x0 x1 y0 y1, pz_setB_ne _ _ _ _ _ y1 y0 hq, pz_way_fld ok (by omega) y1]
  have lo4 : ∀ q d, 0 ≤ q → q < F 6 → 0 ≤ d → d < 4 → pz_fld (pz_reF F p a b c) q d = pz_fld F q d := fun q d x0 x1 y0 y1 => by
    rw [fl q d x0 x1 y0 (by omega), pz_setB_lo _ _ _ _ _ y1 y0 x0 h0, pz_way_fld ok (by omega) (by omega)]
  have cn : ∀ bq l, pz_cov (pz_reF F p a b c) p bq l ↔ pz_cov (pz_setB (pz_wayF F p (-1)) p a b c) p bq l := fun bq l => pz_cov_congr (fun d y0 y1 => fl p d h0 h1 y0 y1)
  have cnF : ∀ bq l, pz_cov (pz_setB (pz_wayF F p (-1)) p a b c) p bq l → F (290 + (bq * 9 + l)) = -1 ∨ F (290 + (bq * 9 + l)) = pz_fld F p 0 := by
    intro bq l hcov
    unfold pz_cov pz_mid at hcov
    rw [pz_setB_4, pz_setB_5, pz_setB_6, pz_setB_lo _ _ _ _ _ (by omega) (by omega) h0 h0, pz_setB_lo _ _ _ _ _ (by omega) (by omega) h0 h0, pz_way_fld ok (by omega) (by omega), pz_way_fld ok (by omega) (by omega)] at hcov
    rcases hcov with w | w
    · rw [w.1]; exact hc.o1 l w.2.1 w.2.2
    · rw [w.1]; exact hc.o2 l w.2.1 w.2.2
  have gF : ∀ bq l : Int, 0 ≤ bq → bq < 18 → 0 ≤ l → l < 9 → pz_setB (pz_wayF F p (-1)) p a b c (290 + (bq * 9 + l)) = pz_wayF F p (-1) (290 + (bq * 9 + l)) := fun bq l x1 x2 x3 x4 => pz_setB_out _ _ _ _ _ h0 (by omega) (by omega)
  have hq : ∀ bq l : Int, pz_reF F p a b c (290 + (bq * 9 + l)) = pz_wayF (pz_setB (pz_wayF F p (-1)) p a b c) p (pz_fld F p 0) (290 + (bq * 9 + l)) := fun _ _ => rfl
  have oo := ho
  unfold pz_okO at oo
  unfold pz_okw at ok
  refine ⟨?_, ?_, ?_, ?_, ?_, ?_, ?_, ?_, ?_⟩
  · unfold pz_reF
    refine pz_rng_way (pz_rng_setB (pz_rng_way h.rg (by omega) (by omega)) p ?_ ?_ ?_) ?_ ?_
    · omega
    · omega
    · omega
    · have := h.rg (10 + (7 * p + 0)); exact this.1
    · have := h.rg (10 + (7 * p + 0)); exact this.2
  · rw [lo 0 (by omega), lo 1 (by omega), lo 2 (by omega)]; exact h.st
  · intro x x0 x1; rw [lo (3 + x) (by omega)]; exact h.en x x0 x1
  · rw [lo 6 (by omega)]; exact h.sz
  · rw [lo 7 (by omega), lo 8 (by omega), lo 9 (by omega)]; exact h.ct
  · intro q x0 x1
    rw [lo 6 (by omega)] at x1
    rw [lo 7 (by omega), lo4 q 0 x0 x1 (by omega) (by omega), lo4 q 3 x0 x1 (by omega) (by omega)]
    have w := h.ps q x0 x1
    refine ⟨?_, w.2⟩
    by_cases g : q = p
    · subst g
      exact (pz_okw_congr (fun d y0 y1 => fl q d h0 h1 y0 y1)).mpr o
    · exact (pz_okw_congr (fun d y0 y1 => old q d x0 x1 g y0 y1)).mpr w.1
  · intro q r x0 x1 y0 y1 e
    rw [lo 6 (by omega)] at x1 y1
    rw [lo4 q 0 x0 x1 (by omega) (by omega), lo4 r 0 y0 y1 (by omega) (by omega)] at e
    exact h.nj q r x0 x1 y0 y1 e
  · intro q bq l x0 x1 hcov
    rw [lo 6 (by omega)] at x1
    rw [lo4 q 0 x0 x1 (by omega) (by omega), hq]
    by_cases g : q = p
    · subst g
      exact pz_way_cov o ((cn bq l).mp hcov)
    · have w := h.ps q x0 x1
      have hcov2 : pz_cov F q bq l := (pz_cov_congr (fun d y0 y1 => old q d x0 x1 g y0 y1)).mp hcov
      have r := pz_cov_rg w.1 hcov2
      have e := h.h1 q bq l x0 x1 hcov2
      have ne : pz_fld F q 0 ≠ pz_fld F p 0 := fun z => g (h.nj q p x0 x1 h0 h1 z)
      rw [pz_way_not o r.1 r.2.2.1 r.2.2.2 (fun y => by have := cnF bq l y; omega), gF bq l r.1 r.2.1 r.2.2.1 r.2.2.2, pz_way_not pp.1 r.1 r.2.2.1 r.2.2.2 (fun y => by have := h.h1 p bq l h0 h1 y; omega)]
      exact e
  · intro bq l x0 x1 x2 x3
    rw [lo 6 (by omega), hq]
    by_cases g : pz_cov (pz_setB (pz_wayF F p (-1)) p a b c) p bq l
    · exact Or.inr ⟨p, h0, h1, (cn bq l).mpr g⟩
    · rw [pz_way_not o x0 x2 x3 g, gF bq l x0 x1 x2 x3]
      by_cases g2 : pz_cov F p bq l
      · exact Or.inl (pz_way_cov pp.1 g2)
      · rw [pz_way_not pp.1 x0 x2 x3 g2]
        rcases h.h2 bq l x0 x1 x2 x3 with w | ⟨q, y0, y1, w⟩
        · exact Or.inl w
        · refine Or.inr ⟨q, y0, y1, ?_⟩
          by_cases g3 : q = p
          · exact absurd (g3 ▸ w) g2
          · exact (pz_cov_congr (fun d z1 z2 => old q d y0 y1 g3 z1 z2)).mpr w
