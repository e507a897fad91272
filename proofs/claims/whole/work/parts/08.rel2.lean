/-! 14 ahead .. 23 restore: what is foretold -/
def ahF (r : Nat → Nat) (k w : Nat) : Nat := if w = 0 then wkN r k 0 else if w = 1 then laN r k else suN r k
def ahRel (r : Nat → Nat) (n w v : Int32) : Prop := (¬ (wi n 0 99 ∧ wi w 0 2) → v = -1) ∧ (∀ k j : Nat, n = nI k → w = nI j → k ≤ 99 → j ≤ 2 → v = nI (ahF r k j))
def duRel (r : Nat → Nat) (v : Int32) : Prop := (∀ k : Nat, k < 100 → wkN r k 1 ≤ wkN r k 0 → (∀ i, i < k → wkN r i 0 < wkN r i 1) → v = nI k) ∧ ((∀ i, i < 100 → wkN r i 0 < wkN r i 1) → v = -4)
def dP (r : Nat → Nat) (n p : Nat) : Nat := wkN (uN r 2 p) n 0
def dS (r : Nat → Nat) (n p : Nat) : Nat := suN (uN r 2 p) n
def dL (r : Nat → Nat) (n p : Nat) : Nat := laN (uN r 2 p) n
theorem pr_ok {w : Nat} {r : Nat → Nat} {p : Nat} (h : rOK w r) (h1 : 1 ≤ p) (h2 : p ≤ 100) : rOK w (uN r 2 p) := by
  obtain ⟨o0, o1, o1b, o2, o2b, o3, o4, o5, o6, oP⟩ := h
  have e : ∀ i, i ≠ 2 → uN r 2 p i = r i := fun i hi => uN_n _ hi
  unfold rOK
  rw [e 0 (by decide), e 1 (by decide), uN_s, e 3 (by decide), e 4 (by decide), e 5 (by decide), e 6 (by decide)]
  refine ⟨o0, o1, o1b, h1, h2, o3, o4, o5, o6, fun q hq => ?_⟩
  rw [e (7 + 4 * q + 0) (by omega), e (7 + 4 * q + 1) (by omega), e (7 + 4 * q + 2) (by omega), e (7 + 4 * q + 3) (by omega)]
  exact oP q hq
def mxX (P : Nat → Nat) : Nat → Int32
  | 0 => -1
  | j + 1 => if mxX P j < nI (P (j + 1)) then nI (P (j + 1)) else mxX P j
def mxB (P : Nat → Nat) (b : Int32) : Nat → Int32
  | 0 => b
  | j + 1 => if mxX P j < nI (P (j + 1)) then nI (j + 1) else mxB P b j
def deRel (r : Nat → Nat) (n w v : Int32) : Prop := (¬ (wi n 0 99 ∧ wi w 0 1) → v = -1) ∧ (∀ k : Nat, n = nI k → k ≤ 99 → w = nI 0 → v = mxB (dP r k) (-4) 100) ∧ (∀ k : Nat, n = nI k → k ≤ 99 → w = nI 1 → v = mxX (dP r k) 100)
def mnX (S : Nat → Nat) : Nat → Nat
  | 0 => 2147483647
  | j + 1 => if S (j + 1) < mnX S j then S (j + 1) else mnX S j
def mnB (S : Nat → Nat) : Nat → Nat
  | 0 => 0
  | j + 1 => if S (j + 1) < mnX S j then j + 1 else mnB S j
def mnXm (S : Nat → Nat) (j : Nat) : Int32 := if j = 0 then -1 else nI (mnX S j)
def mnBm (S : Nat → Nat) (j : Nat) : Int32 := if j = 0 then -4 else nI (mnB S j)
theorem mnX_lt (S : Nat → Nat) (j : Nat) : mnX S j ≤ 2147483647 := by
  induction j with
  | zero => exact Nat.le_refl _
  | succ j ih =>
    show (if S (j + 1) < mnX S j then S (j + 1) else mnX S j) ≤ _
    split <;> omega
theorem mnB_le (S : Nat → Nat) (j : Nat) : mnB S j ≤ j := by
  induction j with
  | zero => exact Nat.le_refl _
  | succ j ih =>
    show (if S (j + 1) < mnX S j then j + 1 else mnB S j) ≤ _
    split <;> omega
theorem mn_neg {S : Nat → Nat} {j : Nat} (hj : j ≤ 100) : mnBm S j = -4 ↔ j = 0 := by
  unfold mnBm
  have hb := mnB_le S j
  constructor
  · intro h
    by_cases h0 : j = 0
    · exact h0
    · rw [if_neg h0] at h
      have h1 := congrArg Int32.toInt h
      rw [nI_toInt (by omega), show ((-4 : Int32)).toInt = -4 from by decide] at h1
      omega
  · intro h
    rw [if_pos h]
theorem mn_yes {S : Nat → Nat} (hS : ∀ p, S p < 2147483647) {j : Nat} (hj : j ≤ 100) (h : mnBm S j = -4 ∨ nI (S (j + 1)) < mnXm S j) : mnBm S (j + 1) = nI (j + 1) ∧ mnXm S (j + 1) = nI (S (j + 1)) := by
  have key : S (j + 1) < mnX S j := by
    by_cases h0 : j = 0
    · subst h0; exact hS 1
    · rcases h with h | h
      · exact absurd ((mn_neg hj).mp h) h0
      · unfold mnXm at h
        rw [if_neg h0] at h
        exact (nI_ltI (by have := hS (j + 1); omega) (by have := mnX_lt S j; omega)).mp h
  unfold mnBm mnXm
  rw [if_neg (Nat.succ_ne_zero j), if_neg (Nat.succ_ne_zero j)]
  show nI (if S (j + 1) < mnX S j then j + 1 else mnB S j) = _ ∧ nI (if S (j + 1) < mnX S j then S (j + 1) else mnX S j) = _
  rw [if_pos key, if_pos key]
  exact ⟨rfl, rfl⟩
theorem mn_no {S : Nat → Nat} (hS : ∀ p, S p < 2147483647) {j : Nat} (hj : j ≤ 100) (h : ¬ mnBm S j = -4) (h2 : mnXm S j ≤ nI (S (j + 1))) : mnBm S (j + 1) = mnBm S j ∧ mnXm S (j + 1) = mnXm S j := by
  have h0 : j ≠ 0 := fun q => h ((mn_neg hj).mpr q)
  have key : ¬ S (j + 1) < mnX S j := by
    unfold mnXm at h2
    rw [if_neg h0] at h2
    have := (nI_leI (by have := mnX_lt S j; omega) (by have := hS (j + 1); omega)).mp h2
    omega
  unfold mnBm mnXm
  rw [if_neg (Nat.succ_ne_zero j), if_neg (Nat.succ_ne_zero j), if_neg h0, if_neg h0]
  show nI (if S (j + 1) < mnX S j then j + 1 else mnB S j) = _ ∧ nI (if S (j + 1) < mnX S j then S (j + 1) else mnX S j) = _
  rw [if_neg key, if_neg key]
  exact ⟨rfl, rfl⟩
def quRel (r : Nat → Nat) (n w v : Int32) : Prop := (¬ (wi n 0 99 ∧ wi w 0 1) → v = -1) ∧ (∀ k : Nat, n = nI k → k ≤ 99 → w = nI 0 → v = nI (mnB (dS r k) 100)) ∧ (∀ k : Nat, n = nI k → k ≤ 99 → w = nI 1 → v = nI (mnX (dS r k) 100))
def enRel (r : Nat → Nat) (n v : Int32) : Prop := (¬ wi n 1 99 → v = -1) ∧ (∀ k p : Nat, n = nI k → 1 ≤ k → k ≤ 99 → p < 100 → dL r k (p + 1) = 0 → (∀ i, i < p → dL r k (i + 1) ≠ 0) → v = nI (p + 1)) ∧ (∀ k : Nat, n = nI k → 1 ≤ k → k ≤ 99 → (∀ i, i < 100 → dL r k (i + 1) ≠ 0) → v = -4)
def neF (a q : Nat) : Nat := if a < q then a + 1 else if q < a then a - 1 else a
def byF (a q : Nat) : Int32 := if a < q then nI 1 else if q < a then -1 else nI 0
theorem byF_eq (a q : Nat) : nI a + byF a q = nI (neF a q) := by
  unfold byF neF
  split
  · exact nI_add a 1
  · split
    · obtain ⟨b, rfl⟩ : ∃ b, a = b + 1 := ⟨a - 1, by omega⟩
      exact pk_m1 b
    · exact nI_add a 0
def raX (x : Nat → Nat) (q h : Nat) : Nat → Nat := uN x 2 (if h = 0 then q else neF (x 2) q)
def raN (r : Nat → Nat) (q h : Nat) : Nat → (Nat → Nat)
  | 0 => r
  | j + 1 => weekR (raX (raN r q h j) q h) ((raX (raN r q h j) q h) 3)
def raS (r : Nat → Nat) (q h : Nat) : Nat → Nat
  | 0 => 0
  | j + 1 => raS r q h j + weekW (raX (raN r q h j) q h) ((raX (raN r q h j) q h) 3)
theorem raX_ok {w : Nat} {x : Nat → Nat} {q h : Nat} (ok : rOK w x) (h1 : 1 ≤ q) (h2 : q ≤ 100) : rOK w (raX x q h) := by
  have := ok.2.2.2.1
  have := ok.2.2.2.2.1
  unfold raX
  refine pr_ok ok ?_ ?_
  · unfold neF; repeat' split
    all_goals omega
  · unfold neF; repeat' split
    all_goals omega
theorem raN_ok {w : Nat} {r : Nat → Nat} {q h : Nat} (n : Nat) (ok : rOK w r) (h1 : 1 ≤ q) (h2 : q ≤ 100) : rOK (w + n) (raN r q h n) := by
  induction n with
  | zero => exact ok
  | succ n ih => exact weekR_ok _ (raX_ok ih h1 h2)
def raRel (r : Nat → Nat) (q n h v : Int32) : Prop := (¬ (wi q 1 100 ∧ wi n 0 99 ∧ wi h 0 1) → v = -1) ∧ (∀ qn k hn : Nat, q = nI qn → n = nI k → h = nI hn → 1 ≤ qn → qn ≤ 100 → k ≤ 99 → hn ≤ 1 → v = nI (raS r qn hn k))
def chF (r : Nat → Nat) : Nat → Nat
  | 0 => 0
  | n + 1 => chF r n ||| (if r (7 + 4 * n + 0) = 5 then 1 * 2 ^ n else 0)
theorem chF_lt (r : Nat → Nat) (n : Nat) : chF r n < 2 ^ n := by
  induction n with
  | zero => exact Nat.one_pos
  | succ n ih =>
    have h1 : (2 : Nat) ^ n < 2 ^ (n + 1) := Nat.pow_lt_pow_right (by decide) (Nat.lt_succ_self n)
    show chF r n ||| _ < _
    refine Nat.or_lt_two_pow (Nat.lt_trans ih h1) ?_
    split
    · omega
    · exact Nat.two_pow_pos _
theorem chF_64 {r : Nat → Nat} {n : Nat} (h : n ≤ 6) : chF r n < 64 := Nat.lt_of_lt_of_le (chF_lt r n) (Nat.pow_le_pow_right (n := 2) (by decide) h)
def hsR (r : Nat → Nat) (s : Nat) : Nat → (Nat → Nat)
  | 0 => r
  | p + 1 => uN (hsR r s p) (7 + 4 * p + 3) ((s / 2 ^ p) &&& 1)
theorem hsR_o (r : Nat → Nat) (s n i : Nat) (h : ∀ p, p < n → i ≠ 7 + 4 * p + 3) : hsR r s n i = r i := by
  induction n with
  | zero => rfl
  | succ n ih =>
    show uN (hsR r s n) (7 + 4 * n + 3) _ i = r i
    rw [uN_n _ (h n (Nat.lt_succ_self n))]
    exact ih (fun p hp => h p (Nat.lt_succ_of_lt hp))
theorem hsR_at (r : Nat → Nat) (s n p : Nat) (hp : p < n) : hsR r s n (7 + 4 * p + 3) = (s / 2 ^ p) &&& 1 := by
  induction n with
  | zero => exact absurd hp (Nat.not_lt_zero _)
  | succ n ih =>
    show uN (hsR r s n) (7 + 4 * n + 3) _ (7 + 4 * p + 3) = _
    by_cases h : p = n
    · subst h; exact uN_s _ _ _
    · rw [uN_n _ (by omega)]; exact ih (by omega)
theorem hsR_ok {w : Nat} {r : Nat → Nat} (s : Nat) (h : rOK w r) : rOK w (hsR r s (r 6)) := by
  obtain ⟨o0, o1, o1b, o2, o2b, o3, o4, o5, o6, oP⟩ := h
  have e : ∀ i, i < 7 → hsR r s (r 6) i = r i := fun i hi => hsR_o r s _ i (fun p hp => by omega)
  unfold rOK
  rw [e 0 (by decide), e 1 (by decide), e 2 (by decide), e 3 (by decide), e 4 (by decide), e 5 (by decide), e 6 (by decide)]
  refine ⟨o0, o1, o1b, o2, o2b, o3, o4, o5, o6, fun p hp => ?_⟩
  obtain ⟨k0, k1, k1b, k2, k3⟩ := oP p hp
  rw [hsR_o r s _ (7 + 4 * p + 0) (fun q hq => by omega), hsR_o r s _ (7 + 4 * p + 1) (fun q hq => by omega), hsR_o r s _ (7 + 4 * p + 2) (fun q hq => by omega), hsR_at r s _ p hp]
  exact ⟨k0, k1, k1b, k2, Nat.and_le_right⟩
def hdP (r : Nat → Nat) (n s : Nat) : Nat := wkN (hsR r s (r 6)) n 0
def hoX (c : Nat) (P : Nat → Nat) : Nat → Int32
  | 0 => -1
  | s + 1 => if s &&& c = s then (if hoX c P s < nI (P s) then nI (P s) else hoX c P s) else hoX c P s
def hoB (c : Nat) (P : Nat → Nat) (b : Int32) : Nat → Int32
  | 0 => b
  | s + 1 => if s &&& c = s then (if hoX c P s < nI (P s) then nI s else hoB c P b s) else hoB c P b s
theorem ms_c : ∀ s, s < 64 → ∀ c, c < 64 → ((nI s &&& (nI c ^^^ (-1)) = 0) ↔ s &&& c = s) := by decide +kernel
def hedRel (r : Nat → Nat) (n w v : Int32) : Prop := (¬ (wi n 0 99 ∧ wi w 0 1) → v = -1) ∧ (∀ k : Nat, n = nI k → k ≤ 99 → w = nI 0 → v = hoB (chF r (r 6)) (hdP r k) (-4) (chF r (r 6) + 1)) ∧ (∀ k : Nat, n = nI k → k ≤ 99 → w = nI 1 → v = hoX (chF r (r 6)) (hdP r k) (chF r (r 6) + 1))
def wyN : Nat → Nat
  | 0 => 1
  | j + 1 => wyN j * 3
def leN (w : Nat) : Nat → Nat
  | 0 => w
  | j + 1 => leN w j / 3
theorem wyN_le {n : Nat} (h : n ≤ 6) : 1 ≤ wyN n ∧ wyN n ≤ 729 := by
  rcases (show n = 0 ∨ n = 1 ∨ n = 2 ∨ n = 3 ∨ n = 4 ∨ n = 5 ∨ n = 6 by omega) with rfl | rfl | rfl | rfl | rfl | rfl | rfl <;> decide
theorem leN_le (w j : Nat) : leN w j ≤ w := by
  induction j with
  | zero => exact Nat.le_refl _
  | succ j ih => exact Nat.le_trans (Nat.div_le_self _ _) ih
def mkN (r : Nat → Nat) (w : Nat) : Nat → (Nat → Nat)
  | 0 => r
  | j + 1 => weekR (mkN r w j) ((mkN r w j) 3 + leN w j % 3)
theorem mkN_ok {w0 : Nat} {r : Nat → Nat} (w n : Nat) (h : rOK w0 r) : rOK (w0 + n) (mkN r w n) := by
  induction n with
  | zero => exact h
  | succ n ih => exact weekR_ok _ ih
theorem mkN_3 (r : Nat → Nat) (w n : Nat) : mkN r w n 3 = r 3 := by
  induction n with
  | zero => rfl
  | succ n ih => show weekR (mkN r w n) _ 3 = r 3; rw [weekR_3, ih]
def meS (r : Nat → Nat) (n : Nat) : Nat → Nat
  | 0 => 0
  | w + 1 => meS r n w + mkN r w n 0
theorem meS_le {w0 : Nat} {r : Nat → Nat} (n w : Nat) (h : rOK w0 r) : meS r n w ≤ 9999 * w := by
  induction w with
  | zero => exact Nat.zero_le _
  | succ w ih =>
    have h1 := (mkN_ok w n h).1
    show meS r n w + _ ≤ _
    omega
def meRel (r : Nat → Nat) (n w v : Int32) : Prop := (¬ (wi n 0 6 ∧ wi w 0 1) → v = -1) ∧ (∀ k : Nat, n = nI k → k ≤ 6 → w = nI 0 → v = nI (meS r k (wyN k) / Nat.gcd (meS r k (wyN k)) (wyN k))) ∧ (∀ k : Nat, n = nI k → k ≤ 6 → w = nI 1 → v = nI (wyN k / Nat.gcd (meS r k (wyN k)) (wyN k)))
def reRel (r ps : Nat → Nat) (un : Nat) (kr kp : Nat → Nat) (ku ik : Nat) (r1 ps1 : Nat → Nat) (un1 : Nat) (v : Int32) : Prop := (ik = 0 → r1 = r ∧ ps1 = ps ∧ un1 = un ∧ v = -4) ∧ (ik ≠ 0 → r1 = kr ∧ ps1 = kp ∧ un1 = ku ∧ v = nI 1)
