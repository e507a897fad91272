/-! what each call does to the numbers, as a relation: used of the class and of the reference alike -/
/-- n WEEKS -/
def wkN (r : Nat → Nat) : Nat → (Nat → Nat)
  | 0 => r
  | n + 1 => weekR (wkN r n) ((wkN r n) 3)
def laN (r : Nat → Nat) : Nat → Nat
  | 0 => 0
  | n + 1 => weekW (wkN r n) ((wkN r n) 3)
def suN (r : Nat → Nat) : Nat → Nat
  | 0 => 0
  | n + 1 => suN r n + laN r (n + 1)
theorem weekR_3 (r : Nat → Nat) (mm : Nat) : weekR r mm 3 = r 3 := weR_same r _ 3 (by decide) (by decide) (fun p _ => by omega)
theorem weekR_6 (r : Nat → Nat) (mm : Nat) : weekR r mm 6 = r 6 := weR_same r _ 6 (by decide) (by decide) (fun p _ => by omega)
theorem weekR_4 (r : Nat → Nat) (mm : Nat) : weekR r mm 4 = r 4 + 1 := weR_4 r _
theorem wkN_3 (r : Nat → Nat) (n : Nat) : wkN r n 3 = r 3 := by
  induction n with
  | zero => rfl
  | succ n ih => show weekR (wkN r n) _ 3 = r 3; rw [weekR_3, ih]
theorem wkN_6 (r : Nat → Nat) (n : Nat) : wkN r n 6 = r 6 := by
  induction n with
  | zero => rfl
  | succ n ih => show weekR (wkN r n) _ 6 = r 6; rw [weekR_6, ih]
theorem wkN_4 (r : Nat → Nat) (n : Nat) : wkN r n 4 = r 4 + n := by
  induction n with
  | zero => rfl
  | succ n ih => show weekR (wkN r n) _ 4 = r 4 + (n + 1); rw [weekR_4, ih]; omega
theorem wkN_ok {w : Nat} {r : Nat → Nat} (n : Nat) (h : rOK w r) : rOK (w + n) (wkN r n) := by
  induction n with
  | zero => exact h
  | succ n ih => exact weekR_ok _ ih
theorem weekW_le (r : Nat → Nat) (mm : Nat) (h : r 6 ≤ 6) : weekW r mm ≤ 594 := by
  have h1 := awF_le r (mm + hbF r) (r 6)
  unfold weekW
  omega
theorem laN_le {r : Nat → Nat} (n : Nat) (h : r 6 ≤ 6) : laN r n ≤ 594 := by
  cases n with
  | zero => exact Nat.zero_le _
  | succ n => exact weekW_le _ _ (by rw [wkN_6]; exact h)
theorem suN_le {r : Nat → Nat} (n : Nat) (h : r 6 ≤ 6) : suN r n ≤ 594 * n := by
  induction n with
  | zero => exact Nat.zero_le _
  | succ n ih =>
    have h1 := laN_le (r := r) (n + 1) h
    show suN r n + laN r (n + 1) ≤ _
    omega
/-! 2 person -/
def addX (r : Nat → Nat) (k t h : Nat) : Nat → Nat := uN (uN (uN (uN r (7 + 4 * r 6) k) (7 + 4 * r 6 + 1) t) (7 + 4 * r 6 + 2) h) (7 + 4 * r 6 + 3) 1
def addR (r : Nat → Nat) (k t h : Nat) : Nat → Nat := uN (addX r k t h) 6 ((addX r k t h) 6 + 1)
theorem addX_lo (r : Nat → Nat) (k t h : Nat) {i : Nat} (hi : i < 7 + 4 * r 6) : addX r k t h i = r i := by
  unfold addX
  rw [uN_n _ (by omega), uN_n _ (by omega), uN_n _ (by omega), uN_n _ (by omega)]
theorem addR_lo (r : Nat → Nat) (k t h : Nat) {i : Nat} (hi : i < 7 + 4 * r 6) (h6 : i ≠ 6) : addR r k t h i = r i := by
  unfold addR
  rw [uN_n _ h6, addX_lo _ _ _ _ hi]
theorem addR_6 (r : Nat → Nat) (k t h : Nat) : addR r k t h 6 = r 6 + 1 := by
  unfold addR
  rw [uN_s, addX_lo _ _ _ _ (by omega)]
theorem addR_new (r : Nat → Nat) (k t h : Nat) : addR r k t h (7 + 4 * r 6) = k ∧ addR r k t h (7 + 4 * r 6 + 1) = t ∧ addR r k t h (7 + 4 * r 6 + 2) = h ∧ addR r k t h (7 + 4 * r 6 + 3) = 1 := by
  unfold addR addX
  refine ⟨?_, ?_, ?_, ?_⟩
  · rw [uN_n _ (by omega), uN_n _ (by omega), uN_n _ (by omega), uN_n _ (by omega), uN_s]
  · rw [uN_n _ (by omega), uN_n _ (by omega), uN_n _ (by omega), uN_s]
  · rw [uN_n _ (by omega), uN_n _ (by omega), uN_s]
  · rw [uN_n _ (by omega), uN_s]
theorem addR_ok {w : Nat} {r : Nat → Nat} {k t h : Nat} (ok : rOK w r) (h6 : r 6 < 6) (hk : k ≤ 5) (ht : 1 ≤ t) (ht2 : t ≤ 9) (hh : h ≤ 99) : rOK w (addR r k t h) := by
  obtain ⟨o0, o1, o1b, o2, o2b, o3, o4, o5, o6, oP⟩ := ok
  unfold rOK
  rw [addR_lo r k t h (i := 0) (by omega) (by decide), addR_lo r k t h (i := 1) (by omega) (by decide), addR_lo r k t h (i := 2) (by omega) (by decide), addR_lo r k t h (i := 3) (by omega) (by decide), addR_lo r k t h (i := 4) (by omega) (by decide), addR_lo r k t h (i := 5) (by omega) (by decide), addR_6]
  refine ⟨o0, o1, o1b, o2, o2b, o3, o4, o5, by omega, fun p hp => ?_⟩
  by_cases hq : p = r 6
  · subst hq
    obtain ⟨n0, n1, n2, n3⟩ := addR_new r k t h
    rw [show 7 + 4 * r 6 + 0 = 7 + 4 * r 6 from rfl, n0, n1, n2, n3]
    exact ⟨hk, ht, ht2, hh, Nat.le_refl _⟩
  · rw [addR_lo r k t h (i := 7 + 4 * p + 0) (by omega) (by omega), addR_lo r k t h (i := 7 + 4 * p + 1) (by omega) (by omega), addR_lo r k t h (i := 7 + 4 * p + 2) (by omega) (by omega), addR_lo r k t h (i := 7 + 4 * p + 3) (by omega) (by omega)]
    exact oP p (by omega)
def perRel (r : Nat → Nat) (un : Nat) (k t h : Int32) (r1 : Nat → Nat) (un1 : Nat) (v : Int32) : Prop :=
  (¬ (wi k 0 5 ∧ wi t 1 9 ∧ wi h 0 99) → r1 = r ∧ un1 = un ∧ v = -1) ∧
  (wi k 0 5 → wi t 1 9 → wi h 0 99 → r 6 = 6 → r1 = r ∧ un1 = un ∧ v = -3) ∧
  (∀ kn tn hn : Nat, k = nI kn → t = nI tn → h = nI hn → kn ≤ 5 → 1 ≤ tn → tn ≤ 9 → hn ≤ 99 → r 6 ≠ 6 → r1 = addR r kn tn hn ∧ un1 = 0 ∧ v = nI (r 6))
/-! 3 of -/
def ofF (r : Nat → Nat) (p k : Nat) : Nat := if k < 4 then r (7 + 4 * p + k) else if k = 4 then woF r p (r 3 + hbF r) else if k = 5 then paF r p (r 3 + hbF r) else haF r p (r 3 + hbF r)
def ofRel (r : Nat → Nat) (p w v : Int32) : Prop := (¬ (wi p 0 ((r 6 : Int) - 1) ∧ wi w 0 6) → v = -1) ∧ (∀ pn k : Nat, p = nI pn → w = nI k → pn < r 6 → k ≤ 6 → v = nI (ofF r pn k))
/-! 4 rule -/
def ruRel (r : Nat → Nat) (w x : Int32) (r1 : Nat → Nat) (v : Int32) : Prop :=
  (∀ xn : Nat, w = nI 0 → x = nI xn → 1 ≤ xn → xn ≤ 9999 → r1 = uN r (1 + 0) xn ∧ v = nI (r (1 + 0))) ∧
  (∀ xn : Nat, w = nI 1 → x = nI xn → 1 ≤ xn → xn ≤ 100 → r1 = uN r (1 + 1) xn ∧ v = nI (r (1 + 1))) ∧
  (∀ xn : Nat, w = nI 2 → x = nI xn → xn ≤ 9 → r1 = uN r (1 + 2) xn ∧ v = nI (r (1 + 2))) ∧
  ((w = nI 0 → ¬ wi x 1 9999) → (w = nI 1 → ¬ wi x 1 100) → (w = nI 2 → ¬ wi x 0 9) → r1 = r ∧ v = -1)
/-! 5 hope -/
def hpRel (r : Nat → Nat) (p x : Int32) (r1 : Nat → Nat) (v : Int32) : Prop :=
  (¬ (wi p 0 ((r 6 : Int) - 1) ∧ wi x 0 1) → r1 = r ∧ v = -1) ∧ (∀ pn k : Nat, p = nI pn → x = nI k → pn < r 6 → k ≤ 1 → r1 = uN r (7 + 4 * pn + 3) k ∧ v = nI (r (7 + 4 * pn + 3)))
/-! 6 type -/
def tyRel (ta : Nat → Nat) (tn : Nat) (x : Int32) (ta1 : Nat → Nat) (tn1 : Nat) (v : Int32) : Prop :=
  (¬ wi x 32 126 → ta1 = ta ∧ tn1 = tn ∧ v = -1) ∧ (wi x 32 126 → tn = 60 → ta1 = ta ∧ tn1 = tn ∧ v = -3) ∧ (∀ xn : Nat, x = nI xn → 32 ≤ xn → xn ≤ 126 → tn ≠ 60 → ta1 = uN ta tn xn ∧ tn1 = tn + 1 ∧ v = nI (tn + 1))
/-! 8 count -/
def cnF (r : Nat → Nat) (un k : Nat) : Nat := if k = 0 then r 6 else if k = 1 then r 4 else if k = 2 then r 0 else if k = 3 then r 1 else if k = 4 then r 2 else if k = 5 then r 3 else if k = 6 then r 3 + hbF r else if k = 7 then awF r (r 3 + hbF r) (r 6) else if k = 8 then apF r (r 3 + hbF r) (r 6) else if k = 9 then hoF r (r 6) else un
def cnRel (r : Nat → Nat) (un : Nat) (w v : Int32) : Prop := (∀ k : Nat, w.toInt = k → k ≤ 10 → v = nI (cnF r un k)) ∧ (w.toInt < 0 ∨ 10 < w.toInt → v = -1)
/-! what is known of the past: 9 numbers for each, the latest last -/
def knS (ps : Nat → Nat) (un : Nat) : Nat → Nat := if un = 8 then (fun j => if j < 63 then ps (j + 9) else ps j) else ps
def knU (un : Nat) : Nat := if un = 8 then 7 else un
def knE (r : Nat → Nat) (ps : Nat → Nat) (u : Nat) : Nat → (Nat → Nat)
  | 0 => uN (uN (uN ps (9 * u) (r 0)) (9 * u + 1) (r 4)) (9 * u + 2) (r 5)
  | n + 1 => uN (knE r ps u n) (9 * u + 3 + n) (r (7 + 4 * n + 2))
def knP (r ps : Nat → Nat) (un : Nat) : Nat → Nat := knE r (knS ps un) (knU un) 6
def shF (ps : Nat → Nat) : Nat → (Nat → Nat)
  | 0 => ps
  | n + 1 => uN (shF ps n) n ((shF ps n) (n + 9))
theorem shF_at (ps : Nat → Nat) (n j : Nat) : shF ps n j = if j < n then ps (j + 9) else ps j := by
  induction n generalizing j with
  | zero => rw [if_neg (Nat.not_lt_zero _)]; rfl
  | succ n ih =>
    show uN (shF ps n) n ((shF ps n) (n + 9)) j = _
    by_cases h : j = n
    · subst h; rw [uN_s, ih, if_neg (by omega), if_pos (by omega)]
    · rw [uN_n _ h, ih]
      by_cases h2 : j < n
      · rw [if_pos h2, if_pos (by omega)]
      · rw [if_neg h2, if_neg (by omega)]
theorem shF_63 (ps : Nat → Nat) : shF ps 63 = knS ps 8 := by
  funext j
  rw [shF_at]
  rfl
theorem knE_lo (r ps : Nat → Nat) (u n : Nat) {j : Nat} (h : j < 9 * u) : knE r ps u n j = ps j := by
  induction n with
  | zero => show uN (uN (uN ps (9 * u) (r 0)) (9 * u + 1) (r 4)) (9 * u + 2) (r 5) j = ps j; rw [uN_n _ (by omega), uN_n _ (by omega), uN_n _ (by omega)]
  | succ n ih => show uN (knE r ps u n) (9 * u + 3 + n) (r (7 + 4 * n + 2)) j = ps j; rw [uN_n _ (by omega), ih]
theorem knE_0 (r ps : Nat → Nat) (u n : Nat) : knE r ps u n (9 * u) = r 0 ∧ knE r ps u n (9 * u + 1) = r 4 ∧ knE r ps u n (9 * u + 2) = r 5 := by
  induction n with
  | zero =>
    show uN (uN (uN ps (9 * u) (r 0)) (9 * u + 1) (r 4)) (9 * u + 2) (r 5) _ = _ ∧ uN (uN (uN ps (9 * u) (r 0)) (9 * u + 1) (r 4)) (9 * u + 2) (r 5) _ = _ ∧ uN (uN (uN ps (9 * u) (r 0)) (9 * u + 1) (r 4)) (9 * u + 2) (r 5) _ = _
    refine ⟨?_, ?_, uN_s _ _ _⟩
    · rw [uN_n _ (by omega), uN_n _ (by omega), uN_s]
    · rw [uN_n _ (by omega), uN_s]
  | succ n ih =>
    show uN (knE r ps u n) (9 * u + 3 + n) (r (7 + 4 * n + 2)) _ = _ ∧ uN (knE r ps u n) (9 * u + 3 + n) (r (7 + 4 * n + 2)) _ = _ ∧ uN (knE r ps u n) (9 * u + 3 + n) (r (7 + 4 * n + 2)) _ = _
    rw [uN_n _ (by omega), uN_n _ (by omega), uN_n _ (by omega)]
    exact ih
theorem knE_h (r ps : Nat → Nat) (u n : Nat) {i : Nat} (h : i < n) : knE r ps u n (9 * u + 3 + i) = r (7 + 4 * i + 2) := by
  induction n with
  | zero => exact absurd h (Nat.not_lt_zero _)
  | succ n ih =>
    show uN (knE r ps u n) (9 * u + 3 + n) (r (7 + 4 * n + 2)) _ = _
    by_cases hq : i = n
    · subst hq; exact uN_s _ _ _
    · rw [uN_n _ (by omega)]; exact ih (by omega)
theorem knU_lt {un : Nat} (h : un ≤ 8) : knU un ≤ 7 := by
  unfold knU
  split <;> omega
/-! 9 weeks, 10 take, 11 drift, 12 undo, 13 seed -/
def unN (un : Nat) : Nat → Nat
  | 0 => un
  | n + 1 => knU (unN un n) + 1
theorem unN_le {un : Nat} (h : un ≤ 8) (n : Nat) : unN un n ≤ 8 := by
  cases n with
  | zero => exact h
  | succ n =>
    induction n with
    | zero => have := knU_lt h; show knU un + 1 ≤ 8; omega
    | succ n ih => have := knU_lt ih; show knU (unN un (n + 1)) + 1 ≤ 8; omega
def psN (r ps : Nat → Nat) (un : Nat) : Nat → (Nat → Nat)
  | 0 => ps
  | n + 1 => knP (wkN r n) (psN r ps un n) (unN un n)
def wsRel (r ps : Nat → Nat) (un : Nat) (n : Int32) (r1 ps1 : Nat → Nat) (un1 : Nat) (v : Int32) : Prop :=
  (¬ wi n 1 60 → r1 = r ∧ ps1 = ps ∧ un1 = un ∧ v = -1) ∧
  (∀ k : Nat, n = nI k → 1 ≤ k → k ≤ 60 → 9999 < r 4 + k → r1 = r ∧ ps1 = ps ∧ un1 = un ∧ v = -3) ∧
  (∀ k : Nat, n = nI k → 1 ≤ k → k ≤ 60 → r 4 + k ≤ 9999 → r1 = wkN r k ∧ ps1 = psN r ps un k ∧ un1 = unN un k ∧ v = nI (wkN r k 0))
def taRel (r ps : Nat → Nat) (un : Nat) (n : Int32) (r1 ps1 : Nat → Nat) (un1 : Nat) (v : Int32) : Prop :=
  (¬ wi n 1 9999 → r1 = r ∧ ps1 = ps ∧ un1 = un ∧ v = -1) ∧
  (∀ k : Nat, n = nI k → 1 ≤ k → k ≤ 9999 → r 0 < k → r1 = r ∧ ps1 = ps ∧ un1 = un ∧ v = -2) ∧
  (∀ k : Nat, n = nI k → 1 ≤ k → k ≤ r 0 → r1 = uN r 0 (r 0 - k) ∧ ps1 = knP r ps un ∧ un1 = knU un + 1 ∧ v = nI (r 0 - k))
def drN (x : Nat) : Nat := (x * 1103515245 + 12345) % 2147483648
def drX (r : Nat → Nat) : Nat → Nat := uN r 5 (drN (r 5))
def dkN (r : Nat → Nat) : Nat → (Nat → Nat)
  | 0 => r
  | n + 1 => weekR (drX (dkN r n)) ((drX (dkN r n)) 5 / 65536 % 10)
def dsN (r : Nat → Nat) : Nat → Nat
  | 0 => 0
  | n + 1 => dsN r n + weekW (drX (dkN r n)) ((drX (dkN r n)) 5 / 65536 % 10)
def dpN (r ps : Nat → Nat) (un : Nat) : Nat → (Nat → Nat)
  | 0 => ps
  | n + 1 => knP (dkN r n) (dpN r ps un n) (unN un n)
theorem drN_lt (x : Nat) : drN x < 2147483648 := Nat.mod_lt _ (by decide)
theorem drX_o (r : Nat → Nat) {i : Nat} (h : i ≠ 5) : drX r i = r i := uN_n _ h
theorem drX_ok {w : Nat} {r : Nat → Nat} (h : rOK w r) : rOK w (drX r) := by
  obtain ⟨o0, o1, o1b, o2, o2b, o3, o4, o5, o6, oP⟩ := h
  unfold rOK
  rw [drX_o r (i := 0) (by decide), drX_o r (i := 1) (by decide), drX_o r (i := 2) (by decide), drX_o r (i := 3) (by decide), drX_o r (i := 4) (by decide), drX_o r (i := 6) (by decide)]
  refine ⟨o0, o1, o1b, o2, o2b, o3, o4, by unfold drX; rw [uN_s]; exact drN_lt _, o6, fun p hp => ?_⟩
  rw [drX_o r (i := 7 + 4 * p + 0) (by omega), drX_o r (i := 7 + 4 * p + 1) (by omega), drX_o r (i := 7 + 4 * p + 2) (by omega), drX_o r (i := 7 + 4 * p + 3) (by omega)]
  exact oP p hp
theorem dkN_ok {w : Nat} {r : Nat → Nat} (n : Nat) (h : rOK w r) : rOK (w + n) (dkN r n) := by
  induction n with
  | zero => exact h
  | succ n ih => exact weekR_ok _ (drX_ok ih)
theorem dkN_4 (r : Nat → Nat) (n : Nat) : dkN r n 4 = r 4 + n := by
  induction n with
  | zero => rfl
  | succ n ih => show weekR (drX (dkN r n)) _ 4 = r 4 + (n + 1); rw [weekR_4, drX_o _ (by decide), ih]; omega
theorem dkN_6 (r : Nat → Nat) (n : Nat) : dkN r n 6 = r 6 := by
  induction n with
  | zero => rfl
  | succ n ih => show weekR (drX (dkN r n)) _ 6 = r 6; rw [weekR_6, drX_o _ (by decide), ih]
theorem dsN_le {r : Nat → Nat} (n : Nat) (h : r 6 ≤ 6) : dsN r n ≤ 594 * n := by
  induction n with
  | zero => exact Nat.zero_le _
  | succ n ih =>
    have h1 := weekW_le (drX (dkN r n)) ((drX (dkN r n)) 5 / 65536 % 10) (by rw [drX_o _ (by decide), dkN_6]; exact h)
    show dsN r n + _ ≤ _
    omega
def dfRel (r ps : Nat → Nat) (un : Nat) (n : Int32) (r1 ps1 : Nat → Nat) (un1 : Nat) (v : Int32) : Prop :=
  (¬ wi n 1 60 → r1 = r ∧ ps1 = ps ∧ un1 = un ∧ v = -1) ∧
  (∀ k : Nat, n = nI k → 1 ≤ k → k ≤ 60 → 9999 < r 4 + k → r1 = r ∧ ps1 = ps ∧ un1 = un ∧ v = -3) ∧
  (∀ k : Nat, n = nI k → 1 ≤ k → k ≤ 60 → r 4 + k ≤ 9999 → r1 = dkN r k ∧ ps1 = dpN r ps un k ∧ un1 = unN un k ∧ v = nI (dsN r k))
def bkF (r ps : Nat → Nat) (u : Nat) : Nat → (Nat → Nat)
  | 0 => uN (uN (uN r 0 (ps (9 * u))) 4 (ps (9 * u + 1))) 5 (ps (9 * u + 2))
  | n + 1 => uN (bkF r ps u n) (7 + 4 * n + 2) (ps (9 * u + 3 + n))
def udRel (r ps : Nat → Nat) (un : Nat) (r1 : Nat → Nat) (un1 : Nat) (v : Int32) : Prop :=
  (un = 0 → r1 = r ∧ un1 = un ∧ v = -4) ∧ (un ≠ 0 → r1 = bkF r ps (un - 1) 6 ∧ un1 = un - 1 ∧ v = nI (un - 1))
def sdRel (r : Nat → Nat) (x : Int32) (r1 : Nat → Nat) (v : Int32) : Prop :=
  (x < 0 → r1 = r ∧ v = -1) ∧ (∀ k : Nat, x = nI k → k < 2147483648 → r1 = uN r 5 k ∧ v = nI (r 5))
