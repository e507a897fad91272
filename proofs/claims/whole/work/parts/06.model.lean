/-! THE NUMBERS: what the reference reckons, over a row r of numbers (0 PENCE, 1 NEEDS, 2 PRICE, 3 MISHAPS, 4 WEEK, 5 DRAW, 6 PEOPLE, then KIND TEMPER HABIT HOPES of each) -/
def plK (m t h pr : Nat) : Nat := if 99 < m * t * h / (pr + 20) then 99 else m * t * h / (pr + 20)
def woK (k m t h pr wk : Nat) : Nat := if k = 1 then (if 99 < 2 * plK m t h pr then 99 else 2 * plK m t h pr) else if k = 4 then (if wk % 20 = 0 then 50 else 0) else if k = 5 then 0 else plK m t h pr
def paK (k w pr : Nat) : Nat := if k = 1 then 10 * pr else if k = 2 then 2 * (w * pr) else if k = 3 ∨ k = 4 then w * pr / 2 else w * pr
def leK (pa : Nat) : Nat := if 9 < pa / 100 then 9 else pa / 100
def haK (k h pa : Nat) : Nat := if k = 1 ∨ pa < 100 then (if h < 99 then h + 1 else 99) else if leK pa < h then h - leK pa else 0
def woF (r : Nat → Nat) (p m : Nat) : Nat := woK (r (7 + 4 * p + 0)) m (r (7 + 4 * p + 1)) (r (7 + 4 * p + 2)) (r 2) (r 4)
def paF (r : Nat → Nat) (p m : Nat) : Nat := paK (r (7 + 4 * p + 0)) (woF r p m) (r 2)
def haF (r : Nat → Nat) (p m : Nat) : Nat := haK (r (7 + 4 * p + 0)) (r (7 + 4 * p + 2)) (paF r p m)
def awF (r : Nat → Nat) (m : Nat) : Nat → Nat
  | 0 => 0
  | n + 1 => awF r m n + woF r n m
def apF (r : Nat → Nat) (m : Nat) : Nat → Nat
  | 0 => 0
  | n + 1 => apF r m n + paF r n m
def hoF (r : Nat → Nat) : Nat → Nat
  | 0 => 0
  | n + 1 => hoF r n ||| (if r (7 + 4 * n + 0) = 5 ∧ r (7 + 4 * n + 3) = 1 then 1 * 2 ^ n else 0)
def biF (s : Nat) : Nat → Nat
  | 0 => 0
  | n + 1 => biF s n + ((s / 2 ^ n) &&& 1)
def hbF (r : Nat → Nat) : Nat := if r 0 < r 1 then biF (hoF r (r 6)) 6 else 0
def hrF (r : Nat → Nat) (m : Nat) : Nat → (Nat → Nat)
  | 0 => r
  | n + 1 => uN (hrF r m n) (7 + 4 * n + 2) (haF r n m)
def weP (r : Nat → Nat) (m : Nat) : Nat := if 9999 < r 0 + apF r m (r 6) then 9999 else r 0 + apF r m (r 6)
def weR (r : Nat → Nat) (m : Nat) : Nat → Nat := uN (uN (hrF r m (r 6)) 0 (weP r m)) 4 ((uN (hrF r m (r 6)) 0 (weP r m)) 4 + 1)
/-- a WEEK of mm MISHAPS, HOPES not counted yet -/
def weekR (r : Nat → Nat) (mm : Nat) : Nat → Nat := weR r (mm + hbF r)
def weekW (r : Nat → Nat) (mm : Nat) : Nat := awF r (mm + hbF r) (r 6)
/-- a row as it must be, its WEEK at most w -/
def rOK (w : Nat) (r : Nat → Nat) : Prop := r 0 ≤ 9999 ∧ 1 ≤ r 1 ∧ r 1 ≤ 9999 ∧ 1 ≤ r 2 ∧ r 2 ≤ 100 ∧ r 3 ≤ 9 ∧ r 4 ≤ w ∧ r 5 < 2147483648 ∧ r 6 ≤ 6 ∧ ∀ p, p < r 6 → r (7 + 4 * p + 0) ≤ 5 ∧ 1 ≤ r (7 + 4 * p + 1) ∧ r (7 + 4 * p + 1) ≤ 9 ∧ r (7 + 4 * p + 2) ≤ 99 ∧ r (7 + 4 * p + 3) ≤ 1
theorem rOK.mono {w w' : Nat} {r : Nat → Nat} (h : rOK w r) (k : w ≤ w') : rOK w' r := by
  obtain ⟨a, b, c, d, e, f, g, i⟩ := h
  exact ⟨a, b, c, d, e, f, Nat.le_trans g k, i⟩
theorem p2_lt {j : Nat} (h : j < 6) : 1 * 2 ^ j < 2 ^ 32 := by
  have h1 := Nat.pow_le_pow_right (n := 2) (by decide) (show j ≤ 6 by omega)
  have h2 : (2 : Nat) ^ 6 = 64 := by decide
  have h3 : (2 : Nat) ^ 32 = 4294967296 := by decide
  omega
theorem plK_le (m t h pr : Nat) : plK m t h pr ≤ 99 := by
  unfold plK
  split <;> omega
theorem woK_le (k m t h pr wk : Nat) : woK k m t h pr wk ≤ 99 := by
  have q := plK_le m t h pr
  unfold woK
  repeat' split
  all_goals omega
theorem paK_le {k w pr : Nat} (hw : w ≤ 99) (hp : pr ≤ 100) : paK k w pr ≤ 19800 := by
  have h1 : w * pr ≤ 99 * 100 := Nat.mul_le_mul hw hp
  unfold paK
  repeat' split
  all_goals omega
theorem haK_le {k h pa : Nat} (hh : h ≤ 99) : haK k h pa ≤ 99 := by
  unfold haK
  repeat' split
  all_goals omega
theorem woF_le (r : Nat → Nat) (p m : Nat) : woF r p m ≤ 99 := woK_le _ _ _ _ _ _
theorem paF_le {r : Nat → Nat} (p m : Nat) (h : r 2 ≤ 100) : paF r p m ≤ 19800 := paK_le (woF_le r p m) h
theorem awF_le (r : Nat → Nat) (m n : Nat) : awF r m n ≤ 99 * n := by
  induction n with
  | zero => exact Nat.le_refl _
  | succ n ih =>
    have h := woF_le r n m
    show awF r m n + woF r n m ≤ _
    omega
theorem apF_le {r : Nat → Nat} (m n : Nat) (h : r 2 ≤ 100) : apF r m n ≤ 19800 * n := by
  induction n with
  | zero => exact Nat.le_refl _
  | succ n ih =>
    have h := paF_le (r := r) n m h
    show apF r m n + paF r n m ≤ _
    omega
theorem biF_le (s n : Nat) : biF s n ≤ n := by
  induction n with
  | zero => exact Nat.le_refl _
  | succ n ih =>
    have h : (s / 2 ^ n) &&& 1 ≤ 1 := Nat.and_le_right
    show biF s n + _ ≤ _
    omega
theorem hbF_le (r : Nat → Nat) : hbF r ≤ 6 := by
  unfold hbF
  split
  · exact biF_le _ 6
  · omega
theorem hoF_lt (r : Nat → Nat) (n : Nat) : hoF r n < 2 ^ n := by
  induction n with
  | zero => exact Nat.one_pos
  | succ n ih =>
    have h1 : (2 : Nat) ^ n < 2 ^ (n + 1) := Nat.pow_lt_pow_right (by decide) (Nat.lt_succ_self n)
    show hoF r n ||| _ < _
    refine Nat.or_lt_two_pow (Nat.lt_trans ih h1) ?_
    split
    · omega
    · exact Nat.two_pow_pos _
theorem hoF_64 {r : Nat → Nat} {n : Nat} (h : n ≤ 6) : hoF r n < 64 := Nat.lt_of_lt_of_le (hoF_lt r n) (Nat.pow_le_pow_right (n := 2) (by decide) h)
theorem hrF_other (r : Nat → Nat) (m n i : Nat) (h : ∀ p, p < n → i ≠ 7 + 4 * p + 2) : hrF r m n i = r i := by
  induction n with
  | zero => rfl
  | succ n ih =>
    show uN (hrF r m n) (7 + 4 * n + 2) (haF r n m) i = r i
    rw [uN_n _ (h n (Nat.lt_succ_self n))]
    exact ih (fun p hp => h p (Nat.lt_succ_of_lt hp))
theorem hrF_hab (r : Nat → Nat) (m n p : Nat) (hp : p < n) : hrF r m n (7 + 4 * p + 2) = haF r p m := by
  induction n with
  | zero => exact absurd hp (Nat.not_lt_zero _)
  | succ n ih =>
    show uN (hrF r m n) (7 + 4 * n + 2) (haF r n m) (7 + 4 * p + 2) = _
    by_cases h : p = n
    · subst h; exact uN_s _ _ _
    · rw [uN_n _ (by omega)]
      exact ih (by omega)
theorem hrF_haF (r : Nat → Nat) (m j : Nat) : haF (hrF r m j) j m = haF r j m := by
  unfold haF paF woF
  rw [hrF_other r m j (7 + 4 * j + 0) (fun p hp => by omega), hrF_other r m j (7 + 4 * j + 1) (fun p hp => by omega), hrF_other r m j (7 + 4 * j + 2) (fun p hp => by omega), hrF_other r m j 2 (fun p hp => by omega), hrF_other r m j 4 (fun p hp => by omega)]
theorem hrF_ok {w : Nat} {r : Nat → Nat} (m j : Nat) (h : rOK w r) : rOK w (hrF r m j) := by
  obtain ⟨o0, o1, o1b, o2, o2b, o3, o4, o5, o6, oP⟩ := h
  have e : ∀ i, i < 7 → hrF r m j i = r i := fun i hi => hrF_other r m j i (fun p hp => by omega)
  unfold rOK
  rw [e 0 (by decide), e 1 (by decide), e 2 (by decide), e 3 (by decide), e 4 (by decide), e 5 (by decide), e 6 (by decide)]
  refine ⟨o0, o1, o1b, o2, o2b, o3, o4, o5, o6, fun p hp => ?_⟩
  obtain ⟨k0, k1, k1b, k2, k3⟩ := oP p hp
  rw [hrF_other r m j (7 + 4 * p + 0) (fun q hq => by omega), hrF_other r m j (7 + 4 * p + 1) (fun q hq => by omega), hrF_other r m j (7 + 4 * p + 3) (fun q hq => by omega)]
  refine ⟨k0, k1, k1b, ?_, k3⟩
  by_cases hq : p < j
  · rw [hrF_hab r m j p hq]; exact haK_le k2
  · rw [hrF_other r m j (7 + 4 * p + 2) (fun q hq => by omega)]; exact k2
theorem weP_le (r : Nat → Nat) (m : Nat) : weP r m ≤ 9999 := by
  unfold weP
  split <;> omega
theorem weR_at (r : Nat → Nat) (m i : Nat) (h0 : i ≠ 0) (h4 : i ≠ 4) : weR r m i = hrF r m (r 6) i := by
  unfold weR
  rw [uN_n _ h4, uN_n _ h0]
theorem weR_0 (r : Nat → Nat) (m : Nat) : weR r m 0 = weP r m := by
  unfold weR
  rw [uN_n _ (by decide), uN_s]
theorem weR_4 (r : Nat → Nat) (m : Nat) : weR r m 4 = r 4 + 1 := by
  unfold weR
  rw [uN_s, uN_n _ (by decide), hrF_other _ _ _ _ (fun p hp => by omega)]
theorem weR_same (r : Nat → Nat) (m i : Nat) (h0 : i ≠ 0) (h4 : i ≠ 4) (h : ∀ p, p < r 6 → i ≠ 7 + 4 * p + 2) : weR r m i = r i := by
  rw [weR_at r m i h0 h4, hrF_other r m _ i h]
theorem weR_hab (r : Nat → Nat) (m p : Nat) (hp : p < r 6) : weR r m (7 + 4 * p + 2) = haF r p m := by
  rw [weR_at r m _ (by omega) (by omega), hrF_hab r m _ p hp]
theorem weR_ok {w : Nat} {r : Nat → Nat} (m : Nat) (h : rOK w r) : rOK (w + 1) (weR r m) := by
  obtain ⟨o0, o1, o1b, o2, o2b, o3, o4, o5, o6, oP⟩ := hrF_ok m (r 6) h
  have s6 : hrF r m (r 6) 6 = r 6 := hrF_other r m _ 6 (fun p hp => by omega)
  have h4 : r 4 ≤ w := h.2.2.2.2.2.2.1
  unfold rOK
  rw [weR_0, weR_4, weR_at r m 1 (by decide) (by decide), weR_at r m 2 (by decide) (by decide), weR_at r m 3 (by decide) (by decide), weR_at r m 5 (by decide) (by decide), weR_at r m 6 (by decide) (by decide)]
  refine ⟨weP_le r m, o1, o1b, o2, o2b, o3, by omega, o5, o6, fun p hp => ?_⟩
  rw [weR_at r m (7 + 4 * p + 0) (by omega) (by omega), weR_at r m (7 + 4 * p + 1) (by omega) (by omega), weR_at r m (7 + 4 * p + 2) (by omega) (by omega), weR_at r m (7 + 4 * p + 3) (by omega) (by omega)]
  exact oP p hp
theorem weekR_ok {w : Nat} {r : Nat → Nat} (mm : Nat) (h : rOK w r) : rOK (w + 1) (weekR r mm) := weR_ok _ h
