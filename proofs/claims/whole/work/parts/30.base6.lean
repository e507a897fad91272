/-! what is foretold: the class's ways of reckoning it -/
theorem mx_first {P : Nat → Nat} (hP : ∀ p, P p < 2147483648) (b b1 : Int32) (j : Nat) : mxB P b (j + 1) = mxB P b1 (j + 1) := by
  induction j with
  | zero =>
    have h : mxX P 0 < nI (P 1) := by
      show (-1 : Int32) < nI (P 1)
      rw [Int32.lt_iff_toInt_lt, nI_toInt (by have := hP 1; omega), show ((-1 : Int32)).toInt = -1 from by decide]
      omega
    show (if mxX P 0 < nI (P 1) then nI 1 else mxB P b 0) = (if mxX P 0 < nI (P 1) then nI 1 else mxB P b1 0)
    rw [if_pos h, if_pos h]
  | succ j ih =>
    show (if mxX P (j + 1) < nI (P (j + 2)) then nI (j + 2) else mxB P b (j + 1)) = (if mxX P (j + 1) < nI (P (j + 2)) then nI (j + 2) else mxB P b1 (j + 1))
    rw [ih]
theorem mx_yes {P : Nat → Nat} {b : Int32} {j : Nat} (h : mxX P j < nI (P (j + 1))) : mxB P b (j + 1) = nI (j + 1) ∧ mxX P (j + 1) = nI (P (j + 1)) := ⟨if_pos h, if_pos h⟩
theorem mx_no {P : Nat → Nat} {b : Int32} {j : Nat} (h : ¬ mxX P j < nI (P (j + 1))) : mxB P b (j + 1) = mxB P b j ∧ mxX P (j + 1) = mxX P j := ⟨if_neg h, if_neg h⟩
theorem mnn_yes {S : Nat → Nat} {j : Nat} (h : S (j + 1) < mnX S j) : mnB S (j + 1) = j + 1 ∧ mnX S (j + 1) = S (j + 1) := ⟨if_pos h, if_pos h⟩
theorem mnn_no {S : Nat → Nat} {j : Nat} (h : ¬ S (j + 1) < mnX S j) : mnB S (j + 1) = mnB S j ∧ mnX S (j + 1) = mnX S j := ⟨if_neg h, if_neg h⟩
def mnC (S : Nat → Nat) (j : Nat) : Nat := if j = 0 then 0 else mnX S j
theorem mnC_pos {S : Nat → Nat} {j : Nat} (h : j ≠ 0) : mnC S j = mnX S j := if_neg h
theorem mnC_lt (S : Nat → Nat) (j : Nat) : mnC S j ≤ 2147483647 := by
  unfold mnC
  split
  · omega
  · exact mnX_lt S j
theorem mnB_zero {S : Nat → Nat} (hS : ∀ p, S p < 2147483647) : ∀ j, mnB S j = 0 → j = 0
  | 0, _ => rfl
  | j + 1, h => by
    exfalso
    have h' : (if S (j + 1) < mnX S j then j + 1 else mnB S j) = 0 := h
    split at h'
    · omega
    · rename_i hn
      have hj := mnB_zero hS j h'
      subst hj
      exact hn (hS 1)
theorem mnc_yes {S : Nat → Nat} (hS : ∀ p, S p < 2147483647) {j : Nat} (h : mnB S j = 0 ∨ S (j + 1) < mnC S j) : mnB S (j + 1) = j + 1 ∧ mnC S (j + 1) = S (j + 1) := by
  have key : S (j + 1) < mnX S j := by
    rcases h with h | h
    · have hj := mnB_zero hS j h
      subst hj
      exact hS 1
    · unfold mnC at h
      split at h
      · omega
      · exact h
  exact ⟨if_pos key, (mnC_pos (Nat.succ_ne_zero j)).trans (if_pos key)⟩
theorem mnc_no {S : Nat → Nat} {j : Nat} (h : ¬ mnB S j = 0) (h2 : ¬ S (j + 1) < mnC S j) : mnB S (j + 1) = mnB S j ∧ mnC S (j + 1) = mnC S j := by
  have hj : j ≠ 0 := fun e => h (by subst e; rfl)
  rw [mnC_pos hj] at h2
  exact ⟨if_neg h2, (mnC_pos (Nat.succ_ne_zero j)).trans ((if_neg h2).trans (mnC_pos hj).symm)⟩
theorem dP_lt {w : Nat} {r : Nat → Nat} (k : Nat) (ok : rOK w r) (p : Nat) : dP r k p < 2147483648 := by
  unfold dP
  cases k with
  | zero => show uN r 2 p 0 < _; rw [uN_n _ (by decide)]; have := ok.1; omega
  | succ k => show weekR _ _ 0 < _; rw [weekR_0]; have := weP_le (wkN (uN r 2 p) k) (wkN (uN r 2 p) k 3 + hbF (wkN (uN r 2 p) k)); omega
theorem raX_kt (x : Nat → Nat) (q h j : Nat) : raX x q h (7 + 4 * j + 0) = x (7 + 4 * j + 0) ∧ raX x q h (7 + 4 * j + 1) = x (7 + 4 * j + 1) := ⟨uN_n _ (by omega), uN_n _ (by omega)⟩
theorem raN_kt (r : Nat → Nat) (q h n j : Nat) : raN r q h n (7 + 4 * j + 0) = r (7 + 4 * j + 0) ∧ raN r q h n (7 + 4 * j + 1) = r (7 + 4 * j + 1) := by
  induction n with
  | zero => exact ⟨rfl, rfl⟩
  | succ n ih =>
    obtain ⟨a1, a2, -⟩ := weekR_kt (raX (raN r q h n) q h) ((raX (raN r q h n) q h) 3) j
    obtain ⟨b1, b2⟩ := raX_kt (raN r q h n) q h j
    exact ⟨a1.trans (b1.trans ih.1), a2.trans (b2.trans ih.2)⟩
theorem raN_6 (r : Nat → Nat) (q h n : Nat) : raN r q h n 6 = r 6 := by
  induction n with
  | zero => rfl
  | succ n ih => show weekR (raX (raN r q h n) q h) _ 6 = r 6; rw [weekR_6]; exact (uN_n _ (by decide)).trans ih
theorem peH.ra {D : va_G} {ws : va_W} {pf : Nat → Option Nat} {r : Nat → Nat} {H : Heap} (q h9 n : Nat) (h : peH D ws pf r H) : peH D ws pf (raX (raN r q h9 n) q h9) H := h.cg ((uN_n _ (by decide)).trans (raN_6 r q h9 n)) (fun j _ => ⟨(raX_kt _ q h9 j).1.trans (raN_kt r q h9 n j).1, (raX_kt _ q h9 j).2.trans (raN_kt r q h9 n j).2⟩)
/-! hoped -/
theorem ho_out {c s : Nat} (h : c < s) : ¬ s &&& c = s := fun q => by
  have := Nat.and_le_right (n := s) (m := c)
  omega
theorem ho_ext (c : Nat) (P : Nat → Nat) (b : Int32) (d : Nat) : hoX c P (c + 1 + d) = hoX c P (c + 1) ∧ hoB c P b (c + 1 + d) = hoB c P b (c + 1) := by
  induction d with
  | zero => exact ⟨rfl, rfl⟩
  | succ d ih =>
    have h := ho_out (c := c) (s := c + 1 + d) (by omega)
    refine ⟨?_, ?_⟩
    · show (if (c + 1 + d) &&& c = c + 1 + d then _ else hoX c P (c + 1 + d)) = _; rw [if_neg h]; exact ih.1
    · show (if (c + 1 + d) &&& c = c + 1 + d then _ else hoB c P b (c + 1 + d)) = _; rw [if_neg h]; exact ih.2
theorem ho_first {c : Nat} {P : Nat → Nat} (hP : ∀ p, P p < 2147483648) (b b1 : Int32) (s : Nat) : hoB c P b (s + 1) = hoB c P b1 (s + 1) := by
  induction s with
  | zero =>
    have h : hoX c P 0 < nI (P 0) := by
      show (-1 : Int32) < nI (P 0)
      rw [Int32.lt_iff_toInt_lt, nI_toInt (by have := hP 0; omega), show ((-1 : Int32)).toInt = -1 from by decide]
      omega
    have h0 : 0 &&& c = 0 := Nat.zero_and c
    show (if 0 &&& c = 0 then (if hoX c P 0 < nI (P 0) then nI 0 else hoB c P b 0) else hoB c P b 0) = (if 0 &&& c = 0 then (if hoX c P 0 < nI (P 0) then nI 0 else hoB c P b1 0) else hoB c P b1 0)
    rw [if_pos h0, if_pos h, if_pos h0, if_pos h]
  | succ s ih =>
    show (if (s + 1) &&& c = s + 1 then (if hoX c P (s + 1) < nI (P (s + 1)) then nI (s + 1) else hoB c P b (s + 1)) else hoB c P b (s + 1)) = (if (s + 1) &&& c = s + 1 then (if hoX c P (s + 1) < nI (P (s + 1)) then nI (s + 1) else hoB c P b1 (s + 1)) else hoB c P b1 (s + 1))
    rw [ih]
theorem ho_64 {c : Nat} {P : Nat → Nat} (hP : ∀ p, P p < 2147483648) (hc : c < 64) : hoB c P 0 64 = hoB c P (-4) (c + 1) ∧ hoX c P 64 = hoX c P (c + 1) := by
  obtain ⟨d, hd⟩ : ∃ d, 64 = c + 1 + d := ⟨64 - (c + 1), by omega⟩
  rw [hd]
  exact ⟨(ho_ext c P 0 d).2.trans (ho_first hP 0 (-4) c), (ho_ext c P 0 d).1⟩
theorem ho_skip {c : Nat} {P : Nat → Nat} {b : Int32} {s : Nat} (h : ¬ s &&& c = s) : hoB c P b (s + 1) = hoB c P b s ∧ hoX c P (s + 1) = hoX c P s := ⟨if_neg h, if_neg h⟩
theorem ho_yes {c : Nat} {P : Nat → Nat} {b : Int32} {s : Nat} (h : s &&& c = s) (k : hoX c P s < nI (P s)) : hoB c P b (s + 1) = nI s ∧ hoX c P (s + 1) = nI (P s) := ⟨(if_pos h).trans (if_pos k), (if_pos h).trans (if_pos k)⟩
theorem ho_no {c : Nat} {P : Nat → Nat} {b : Int32} {s : Nat} (h : s &&& c = s) (k : ¬ hoX c P s < nI (P s)) : hoB c P b (s + 1) = hoB c P b s ∧ hoX c P (s + 1) = hoX c P s := ⟨(if_pos h).trans (if_neg k), (if_pos h).trans (if_neg k)⟩
theorem hp_hs {r : Nat → Nat} {s n : Nat} (hs : s < 2 ^ n) : hpF (hsR r s n) n = s := by
  have h1 : ∀ j, j < n → hsR r s n (7 + 4 * j + 3) ≤ 1 := fun j hj => by rw [hsR_at r s n j hj]; exact Nat.and_le_right
  apply Nat.eq_of_testBit_eq
  intro i
  rw [hpF_tb h1]
  by_cases hi : i < n
  · rw [decide_eq_true hi, hsR_at r s n i hi, bit_of]
    cases s.testBit i <;> rfl
  · rw [decide_eq_false hi, Nat.testBit_lt_two_pow (Nat.lt_of_lt_of_le hs (Nat.pow_le_pow_right (by decide) (by omega)))]; rfl
theorem hdP_lt {w : Nat} {r : Nat → Nat} (k : Nat) (ok : rOK w r) (s : Nat) : hdP r k s < 2147483648 := by
  have h := (wkN_ok k (hsR_ok s ok)).1
  unfold hdP
  omega
theorem hs_lo (r : Nat → Nat) (s n i : Nat) (h : i < 7) : hsR r s n i = r i := hsR_o r s n i (fun p _ => by omega)
theorem peH.hs {D : va_G} {ws : va_W} {pf : Nat → Option Nat} {r : Nat → Nat} {H : Heap} (s n : Nat) (h : peH D ws pf r H) : peH D ws pf (hsR r s n) H := h.cg (hs_lo r s n 6 (by decide)) (fun j _ => ⟨hsR_o r s n _ (fun p _ => by omega), hsR_o r s n _ (fun p _ => by omega)⟩)
theorem ch_hs (r : Nat → Nat) (s n m : Nat) : chF (hsR r s n) m = chF r m := chF_cg (fun j _ => hsR_o r s n _ (fun p _ => by omega))
theorem hbA_hs (r : Nat → Nat) (s n : Nat) : hbA (hsR r s n) = hbA r := by
  funext j
  exact hsR_o r s n _ (fun p _ => by omega)
/-! mean -/
theorem mkN_kt (r : Nat → Nat) (w n j : Nat) : mkN r w n (7 + 4 * j + 0) = r (7 + 4 * j + 0) ∧ mkN r w n (7 + 4 * j + 1) = r (7 + 4 * j + 1) := by
  induction n with
  | zero => exact ⟨rfl, rfl⟩
  | succ n ih =>
    obtain ⟨a1, a2, -⟩ := weekR_kt (mkN r w n) ((mkN r w n) 3 + leN w n % 3) j
    exact ⟨a1.trans ih.1, a2.trans ih.2⟩
theorem mkN_6 (r : Nat → Nat) (w n : Nat) : mkN r w n 6 = r 6 := by
  induction n with
  | zero => rfl
  | succ n ih => show weekR (mkN r w n) _ 6 = r 6; rw [weekR_6]; exact ih
theorem peH.mk {D : va_G} {ws : va_W} {pf : Nat → Option Nat} {r : Nat → Nat} {H : Heap} (w n : Nat) (h : peH D ws pf r H) : peH D ws pf (mkN r w n) H := h.cg (mkN_6 r w n) (fun j _ => mkN_kt r w n j)
theorem wy_pow (n : Nat) : wyN n = 3 ^ n := by
  induction n with
  | zero => rfl
  | succ n ih => show wyN n * 3 = _; rw [ih, Nat.pow_succ]
theorem wy_add (a b : Nat) : wyN (a + b) = wyN a * wyN b := by rw [wy_pow, wy_pow, wy_pow, Nat.pow_add]
theorem wy_pos (n : Nat) : 0 < wyN n := by rw [wy_pow]; exact Nat.pow_pos (by decide)
theorem cop3 {a : Nat} (n : Nat) (h : ¬ a % 3 = 0) : Nat.gcd a (wyN n) = 1 := by
  rw [wy_pow]
  have h3 : Nat.gcd a 3 = 1 := by
    have hd : Nat.gcd a 3 ∣ 3 := Nat.gcd_dvd_right a 3
    have hle : Nat.gcd a 3 ≤ 3 := Nat.le_of_dvd (by decide) hd
    have hpos : 0 < Nat.gcd a 3 := Nat.gcd_pos_of_pos_right _ (by decide)
    rcases (show Nat.gcd a 3 = 1 ∨ Nat.gcd a 3 = 2 ∨ Nat.gcd a 3 = 3 by omega) with q | q | q
    · exact q
    · rw [q] at hd; exact absurd hd (by decide)
    · have := Nat.gcd_dvd_left a 3; rw [q] at this; exact absurd (Nat.mod_eq_zero_of_dvd this) h
  exact (Nat.Coprime.pow_right n h3)
/-- above and below, w times divided by 3 -/
theorem mean_fin {S k w ab : Nat} (hw : w ≤ k) (h : ab * wyN w = S) (hx : w = k ∨ ¬ ab % 3 = 0) : ab = S / Nat.gcd S (wyN k) ∧ wyN (k - w) = wyN k / Nat.gcd S (wyN k) := by
  have e1 : wyN k = wyN w * wyN (k - w) := by rw [← wy_add, show w + (k - w) = k by omega]
  have hg : Nat.gcd S (wyN k) = wyN w := by
    rw [← h, e1, Nat.mul_comm ab, Nat.gcd_mul_left]
    rcases hx with q | q
    · rw [show k - w = 0 by omega]; show wyN w * Nat.gcd ab 1 = _; rw [Nat.gcd_one_right, Nat.mul_one]
    · rw [cop3 _ q, Nat.mul_one]
  rw [hg]
  refine ⟨?_, ?_⟩
  · rw [← h, Nat.mul_div_cancel _ (wy_pos w)]
  · rw [e1, Nat.mul_div_cancel_left _ (wy_pos w)]
theorem mean_step {S w ab : Nat} (h : ab * wyN w = S) (q : ab % 3 = 0) : ab / 3 * wyN (w + 1) = S := by
  show ab / 3 * (wyN w * 3) = S
  obtain ⟨c, rfl⟩ : ∃ c, ab = 3 * c := ⟨ab / 3, by omega⟩
  rw [show 3 * c / 3 = c by omega, ← h, Nat.mul_comm (wyN w) 3, ← Nat.mul_assoc, Nat.mul_comm c 3]
theorem mean_be {k w : Nat} (h : w < k) : wyN (k - w) / 3 = wyN (k - (w + 1)) := by
  rw [show k - w = k - (w + 1) + 1 by omega]
  show wyN (k - (w + 1)) * 3 / 3 = _
  exact Nat.mul_div_cancel _ (by decide)
