/-! PEOPLE of the class: objects that never change, told beside the world, not in it -/
def ciK (k : Nat) : Nat := if k = 0 then 6 else if k = 1 then 0 else if k = 2 then 2 else if k = 3 then 4 else if k = 4 then 8 else 1
def psAt (D : va_G) (H : Heap) (a k t : Nat) : Prop := va_at D vwCl (a, .inr (ciK k, [.int (nI t)])) H
theorem psAt.lt {D : va_G} {H : Heap} {a k t : Nat} (h : psAt D H a k t) : a < H.size := va_at.lt h
theorem psAt.kept {D : va_G} {H H1 : Heap} {a k t : Nat} (h : psAt D H a k t) (e : H1[a]? = H[a]?) : psAt D H1 a k t := va_at.kept h e
theorem psAt.P {D : va_G} {H : Heap} {a k t : Nat} (h : psAt D H a k t) : va_P D vwCl [(a, .inr (ciK k, [.int (nI t)]))] H := by
  intro i q hq
  cases i with
  | zero => cases hq; exact h
  | succ i => cases hq
/-- an address apart from the cells ws -/
def apt (ws : va_W) (a : Nat) : Prop := ∀ (i : Nat) (q : Nat × va_E), ws[i]? = some q → q.1 ≠ a
theorem apt.nA {ws : va_W} {sz a : Nat} (h : apt ws a) (hl : a < sz) : ¬ va_A ws sz a := by
  intro q
  rcases q with ⟨k, e, hk⟩ | q
  · exact h k _ hk rfl
  · omega
theorem apt.sub {ws wc : va_W} {a : Nat} (h : apt ws a) (is : List Nat) (hC : is.map (fun i => ws[i]?) = wc.map some) : apt wc a := by
  intro i q hq
  have h1 : (is.map (fun i => ws[i]?))[i]? = some (some q) := by rw [hC, List.getElem?_map, hq]; rfl
  rw [List.getElem?_map] at h1
  cases hi : is[i]? with
  | none => rw [hi] at h1; cases h1
  | some j => rw [hi] at h1; exact h j q (Option.some.inj h1)
/-- the same addresses, in another order, some of them, with other contents -/
theorem apt.to {ws wc : va_W} {a : Nat} (h : apt ws a) (is : List Nat) (hC : is.map (fun i => (ws.map Prod.fst)[i]?) = (wc.map Prod.fst).map some) : apt wc a := by
  intro i q hq
  have h1 : (is.map (fun i => (ws.map Prod.fst)[i]?))[i]? = some (some q.1) := by rw [hC, List.getElem?_map, List.getElem?_map, hq]; rfl
  rw [List.getElem?_map] at h1
  cases hi : is[i]? with
  | none => rw [hi] at h1; cases h1
  | some j =>
    rw [hi] at h1
    have h2 : (ws.map Prod.fst)[j]? = some q.1 := Option.some.inj h1
    rw [List.getElem?_map] at h2
    cases hj : ws[j]? with
    | none => rw [hj] at h2; cases h2
    | some q0 => rw [hj] at h2; rw [← Option.some.inj h2]; exact h j q0 hj
theorem apt.same {ws w1 : va_W} {a : Nat} (h : apt ws a) (e : w1.map Prod.fst = ws.map Prod.fst) : apt w1 a := by
  intro i q hq
  have h1 : (w1.map Prod.fst)[i]? = some q.1 := by rw [List.getElem?_map, hq]; rfl
  rw [e, List.getElem?_map] at h1
  cases h2 : ws[i]? with
  | none => rw [h2] at h1; cases h1
  | some q0 => rw [h2] at h1; rw [← Option.some.inj h1]; exact h i q0 h2
/-- the people of a house whose row is r lie at pf, apart from the cells ws; other places of pf hold nobody, or somebody -/
def peH (D : va_G) (ws : va_W) (pf : Nat → Option Nat) (r : Nat → Nat) (H : Heap) : Prop := (∀ j, j < 6 → ∀ a, pf j = some a → apt ws a ∧ ∃ k t, k ≤ 5 ∧ psAt D H a k t) ∧ (∀ j, j < r 6 → ∃ a, pf j = some a ∧ apt ws a ∧ psAt D H a (r (7 + 4 * j + 0)) (r (7 + 4 * j + 1)))
theorem peH.mv {D : va_G} {ws w1 : va_W} {pf : Nat → Option Nat} {r : Nat → Nat} {H H1 : Heap} (h : peH D ws pf r H) (k : ∀ a, a < H.size → apt ws a → apt w1 a ∧ H1[a]? = H[a]?) : peH D w1 pf r H1 := by
  refine ⟨fun j hj a ha => ?_, fun j hj => ?_⟩
  · obtain ⟨h1, kq, t, h2, h3⟩ := h.1 j hj a ha
    obtain ⟨g1, g2⟩ := k a h3.lt h1
    exact ⟨g1, kq, t, h2, h3.kept g2⟩
  · obtain ⟨a, h1, h2, h3⟩ := h.2 j hj
    obtain ⟨g1, g2⟩ := k a h3.lt h2
    exact ⟨a, h1, g1, h3.kept g2⟩
theorem peH.sub {D : va_G} {ws wc : va_W} {pf : Nat → Option Nat} {r : Nat → Nat} {H : Heap} (h : peH D ws pf r H) (is : List Nat) (hC : is.map (fun i => ws[i]?) = wc.map some) : peH D wc pf r H := h.mv (fun _ _ ha => ⟨ha.sub is hC, rfl⟩)
theorem peH.to {D : va_G} {ws wc : va_W} {pf : Nat → Option Nat} {r : Nat → Nat} {H : Heap} (h : peH D ws pf r H) (is : List Nat) (hC : is.map (fun i => (ws.map Prod.fst)[i]?) = (wc.map Prod.fst).map some) : peH D wc pf r H := h.mv (fun _ _ ha => ⟨ha.to is hC, rfl⟩)
theorem peH.same {D : va_G} {ws w1 : va_W} {pf : Nat → Option Nat} {r : Nat → Nat} {H : Heap} (h : peH D ws pf r H) (e : w1.map Prod.fst = ws.map Prod.fst) : peH D w1 pf r H := h.mv (fun _ _ ha => ⟨ha.same e, rfl⟩)
/-- people stay, where a callee keeps all but its own cells -/
theorem peH.kept {D : va_G} {ws wc : va_W} {pf : Nat → Option Nat} {r : Nat → Nat} {H H1 : Heap} (h : peH D ws pf r H) (is : List Nat) (hC : is.map (fun i => ws[i]?) = wc.map some) (hk : ∀ q : Nat, q < H.size → ¬ va_A wc H.size q → H1[q]? = H[q]?) : peH D ws pf r H1 := h.mv (fun a hl ha => ⟨ha, hk a hl ((ha.sub is hC).nA hl)⟩)
theorem peH.now {D : va_G} {ws : va_W} {pf : Nat → Option Nat} {r : Nat → Nat} {H0 H : Heap} {locs : List Loc} (h : peH D ws pf r H0) (hS : va_S (va_A ws H0.size) H0 H locs) : peH D ws pf r H := h.mv (fun a hl ha => ⟨ha, hS.2.1 a hl (ha.nA hl)⟩)
theorem peH.cg {D : va_G} {ws : va_W} {pf : Nat → Option Nat} {r r1 : Nat → Nat} {H : Heap} (h : peH D ws pf r H) (e6 : r1 6 = r 6) (e : ∀ j, j < r 6 → r1 (7 + 4 * j + 0) = r (7 + 4 * j + 0) ∧ r1 (7 + 4 * j + 1) = r (7 + 4 * j + 1)) : peH D ws pf r1 H := by
  refine ⟨h.1, fun j hj => ?_⟩
  rw [e6] at hj
  rw [(e j hj).1, (e j hj).2]
  exact h.2 j hj
theorem wkN_kt (r : Nat → Nat) (n j : Nat) : wkN r n (7 + 4 * j + 0) = r (7 + 4 * j + 0) ∧ wkN r n (7 + 4 * j + 1) = r (7 + 4 * j + 1) ∧ wkN r n (7 + 4 * j + 3) = r (7 + 4 * j + 3) := by
  induction n with
  | zero => exact ⟨rfl, rfl, rfl⟩
  | succ n ih =>
    have e : ∀ i, i ≠ 0 → i ≠ 4 → (∀ p, i ≠ 7 + 4 * p + 2) → wkN r (n + 1) i = wkN r n i := fun i h0 h4 hp => weR_same _ _ i h0 h4 (fun p _ => hp p)
    rw [e _ (by omega) (by omega) (fun p => by omega), e _ (by omega) (by omega) (fun p => by omega), e _ (by omega) (by omega) (fun p => by omega)]
    exact ih
theorem weekR_kt (r : Nat → Nat) (mm j : Nat) : weekR r mm (7 + 4 * j + 0) = r (7 + 4 * j + 0) ∧ weekR r mm (7 + 4 * j + 1) = r (7 + 4 * j + 1) ∧ weekR r mm (7 + 4 * j + 3) = r (7 + 4 * j + 3) := by
  have e : ∀ i, i ≠ 0 → i ≠ 4 → (∀ p, i ≠ 7 + 4 * p + 2) → weekR r mm i = r i := fun i h0 h4 hp => weR_same _ _ i h0 h4 (fun p _ => hp p)
  exact ⟨e _ (by omega) (by omega) (fun p => by omega), e _ (by omega) (by omega) (fun p => by omega), e _ (by omega) (by omega) (fun p => by omega)⟩
theorem peH.wk {D : va_G} {ws : va_W} {pf : Nat → Option Nat} {r : Nat → Nat} {H : Heap} (n : Nat) (h : peH D ws pf r H) : peH D ws pf (wkN r n) H := h.cg (wkN_6 r n) (fun j _ => ⟨(wkN_kt r n j).1, (wkN_kt r n j).2.1⟩)
theorem peH.we {D : va_G} {ws : va_W} {pf : Nat → Option Nat} {r : Nat → Nat} {H : Heap} (n : Nat) (h : peH D ws pf r H) : peH D ws pf (weekR r n) H := h.cg (weekR_6 r n) (fun j _ => ⟨(weekR_kt r n j).1, (weekR_kt r n j).2.1⟩)
/-- a number below the people's is set -/
theorem peH.u {D : va_G} {ws : va_W} {pf : Nat → Option Nat} {r : Nat → Nat} {H : Heap} (h : peH D ws pf r H) (i v : Nat) (hi : i < 6) : peH D ws pf (uN r i v) H := h.cg (uN_n _ (by omega)) (fun j _ => ⟨uN_n _ (by omega), uN_n _ (by omega)⟩)
/-- nobody is there -/
theorem peH.none {D : va_G} {ws : va_W} {pf : Nat → Option Nat} {r r1 : Nat → Nat} {H : Heap} (h : peH D ws pf r H) (e6 : r1 6 = 0) : peH D ws pf r1 H := ⟨h.1, fun j hj => by rw [e6] at hj; exact absurd hj (Nat.not_lt_zero _)⟩
/-! the row of a house, as the class keeps it -/
def hbA (r : Nat → Nat) : Nat → Nat := fun j => r (7 + 4 * j + 2)
theorem hbA_at (r : Nat → Nat) (j : Nat) : hbA r j = r (7 + 4 * j + 2) := rfl
theorem hbA_set (r : Nat → Nat) (k v : Nat) : uN (hbA r) k v = hbA (uN r (7 + 4 * k + 2) v) := by
  funext j
  show (if j = k then v else r (7 + 4 * j + 2)) = (if 7 + 4 * j + 2 = 7 + 4 * k + 2 then v else r (7 + 4 * j + 2))
  by_cases h : j = k
  · rw [if_pos h, if_pos (by omega)]
  · rw [if_neg h, if_neg (by omega)]
theorem hbA_o (r : Nat → Nat) {i v : Nat} (h : ∀ j, 7 + 4 * j + 2 ≠ i) : hbA (uN r i v) = hbA r := by
  funext j
  exact uN_n _ (h j)
/-- HOPES as a set -/
def hpF (r : Nat → Nat) : Nat → Nat
  | 0 => 0
  | n + 1 => hpF r n ||| (r (7 + 4 * n + 3) * 2 ^ n)
theorem hpF_cg {r r1 : Nat → Nat} {n : Nat} (e : ∀ j, j < n → r1 (7 + 4 * j + 3) = r (7 + 4 * j + 3)) : hpF r1 n = hpF r n := by
  induction n with
  | zero => rfl
  | succ n ih =>
    show hpF r1 n ||| _ = hpF r n ||| _
    rw [ih (fun j hj => e j (by omega)), e n (by omega)]
theorem chF_cg {r r1 : Nat → Nat} {n : Nat} (e : ∀ j, j < n → r1 (7 + 4 * j + 0) = r (7 + 4 * j + 0)) : chF r1 n = chF r n := by
  induction n with
  | zero => rfl
  | succ n ih =>
    show chF r1 n ||| _ = chF r n ||| _
    rw [ih (fun j hj => e j (by omega)), e n (by omega)]
theorem hpF_lt {r : Nat → Nat} {n : Nat} (h : ∀ j, j < n → r (7 + 4 * j + 3) ≤ 1) : hpF r n < 2 ^ n := by
  induction n with
  | zero => exact Nat.one_pos
  | succ n ih =>
    have h1 : (2 : Nat) ^ n < 2 ^ (n + 1) := Nat.pow_lt_pow_right (by decide) (Nat.lt_succ_self n)
    show hpF r n ||| _ < _
    refine Nat.or_lt_two_pow (Nat.lt_trans (ih (fun j hj => h j (by omega))) h1) ?_
    have h2 := Nat.mul_le_mul_right (2 ^ n) (h n (Nat.lt_succ_self n))
    omega
theorem hpF_ch {r : Nat → Nat} {n : Nat} (h : ∀ j, j < n → r (7 + 4 * j + 3) ≤ 1) : hpF r n &&& chF r n = hoF r n := by
  induction n with
  | zero => show (0 : Nat) &&& 0 = 0; decide
  | succ n ih =>
    have ih := ih (fun j hj => h j (by omega))
    have b1 := hpF_lt (r := r) (n := n) (fun j hj => h j (by omega))
    have b2 := chF_lt r n
    have b3 := hoF_lt r n
    show (hpF r n ||| (r (7 + 4 * n + 3) * 2 ^ n)) &&& (chF r n ||| (if r (7 + 4 * n + 0) = 5 then 1 * 2 ^ n else 0)) = hoF r n ||| (if r (7 + 4 * n + 0) = 5 ∧ r (7 + 4 * n + 3) = 1 then 1 * 2 ^ n else 0)
    rw [← ih]
    have hn := h n (Nat.lt_succ_self n)
    have key : ∀ x y : Nat, x < 2 ^ n → y < 2 ^ n → ∀ a b : Nat, a ≤ 1 → b ≤ 1 → (x ||| a * 2 ^ n) &&& (y ||| b * 2 ^ n) = (x &&& y) ||| ((a * b) * 2 ^ n) := by
      intro x y hx hy a b ha hb9
      have e1 : x ||| a * 2 ^ n = a * 2 ^ n + x := by rw [Nat.or_comm, Nat.mul_comm]; exact (Nat.two_pow_add_eq_or_of_lt hx a).symm
      have e2 : y ||| b * 2 ^ n = b * 2 ^ n + y := by rw [Nat.or_comm, Nat.mul_comm]; exact (Nat.two_pow_add_eq_or_of_lt hy b).symm
      apply Nat.eq_of_testBit_eq
      intro i
      have hxi : n ≤ i → x.testBit i = false := fun q => Nat.testBit_lt_two_pow (Nat.lt_of_lt_of_le hx (Nat.pow_le_pow_right (by decide) q))
      have hyi : n ≤ i → y.testBit i = false := fun q => Nat.testBit_lt_two_pow (Nat.lt_of_lt_of_le hy (Nat.pow_le_pow_right (by decide) q))
      rcases (show a = 0 ∨ a = 1 by omega) with rfl | rfl <;> rcases (show b = 0 ∨ b = 1 by omega) with rfl | rfl <;> simp only [Nat.testBit_and, Nat.testBit_or, Nat.zero_mul, Nat.one_mul, Nat.zero_testBit, Nat.mul_zero, Nat.mul_one, Bool.or_false, Nat.testBit_two_pow]
      · by_cases q : n = i
        · rw [hxi (by omega)]; simp
        · simp [q]
      · by_cases q : n = i
        · rw [hyi (by omega)]; simp
        · simp [q]
      · by_cases q : n = i
        · simp [q]
        · simp [q]
    have e3 : (if r (7 + 4 * n + 0) = 5 then 1 * 2 ^ n else 0) = (if r (7 + 4 * n + 0) = 5 then 1 else 0) * 2 ^ n := by split <;> omega
    rw [e3, key _ _ b1 b2 _ _ hn (by split <;> omega)]
    congr 1
    rcases (show r (7 + 4 * n + 3) = 0 ∨ r (7 + 4 * n + 3) = 1 by omega) with q | q <;> rw [q] <;> split <;> simp_all
/-! the numbers of a house behind a WEEK, a draw, a change -/
theorem weekR_0 (r : Nat → Nat) (mm : Nat) : weekR r mm 0 = weP r (mm + hbF r) := weR_0 r _
theorem weekR_1 (r : Nat → Nat) (mm : Nat) : weekR r mm 1 = r 1 := weR_same r _ 1 (by decide) (by decide) (fun p _ => by omega)
theorem weekR_2 (r : Nat → Nat) (mm : Nat) : weekR r mm 2 = r 2 := weR_same r _ 2 (by decide) (by decide) (fun p _ => by omega)
theorem weekR_5 (r : Nat → Nat) (mm : Nat) : weekR r mm 5 = r 5 := weR_same r _ 5 (by decide) (by decide) (fun p _ => by omega)
theorem hp_week (r : Nat → Nat) (mm n : Nat) : hpF (weekR r mm) n = hpF r n := hpF_cg (fun j _ => (weekR_kt r mm j).2.2)
theorem ch_week (r : Nat → Nat) (mm n : Nat) : chF (weekR r mm) n = chF r n := chF_cg (fun j _ => (weekR_kt r mm j).1)
theorem hbA_week (r : Nat → Nat) (mm : Nat) : hbA (weekR r mm) = hbA (hrF r (mm + hbF r) (r 6)) := by
  funext j
  exact weR_at r _ _ (by omega) (by omega)
theorem hp_u (r : Nat → Nat) (i v n : Nat) (hi : i < 7) : hpF (uN r i v) n = hpF r n := hpF_cg (fun j _ => uN_n _ (by omega))
theorem ch_u (r : Nat → Nat) (i v n : Nat) (hi : i < 7) : chF (uN r i v) n = chF r n := chF_cg (fun j _ => uN_n _ (by omega))
theorem hbA_u (r : Nat → Nat) (i v : Nat) (hi : i < 7) : hbA (uN r i v) = hbA r := hbA_o r (fun j => by omega)
theorem drI (x : Nat) : (x * 1103515245 + 12345) &&& 2147483647 = drN x := by
  unfold drN
  exact Nat.and_two_pow_sub_one_eq_mod _ 31
/-- nobody, no PENCE, WEEK 0 -/
def mvR (r : Nat → Nat) : Nat → Nat := uN (uN (uN r 6 0) 0 0) 4 0
theorem nb_64 : ∀ n, n < 6 → ∀ h, h < 64 → h < 2 ^ n → nI h &&& (nI (1 * 2 ^ n) ^^^ (-1)) = nI h := by decide +kernel
theorem hp_add {f : Nat → Nat} {k t h x : Nat} : hpF (adpR f k t h x) (f 6 + 1) = hpF f (f 6) ||| (x * 2 ^ (f 6)) := by
  show hpF (adpR f k t h x) (f 6) ||| _ = _
  have e1 : adpR f k t h x (7 + 4 * f 6 + 3) = x := by unfold adpR adpX; rw [uN_n _ (by omega), uN_s]
  rw [e1, hpF_cg (r := f) (fun j hj => by unfold adpR adpX; rw [uN_n _ (by omega), uN_n _ (by omega), uN_n _ (by omega), uN_n _ (by omega), uN_n _ (by omega)])]
theorem ch_add {f : Nat → Nat} {k t h x : Nat} : chF (adpR f k t h x) (f 6 + 1) = chF f (f 6) ||| (if k = 5 then 1 * 2 ^ (f 6) else 0) := by
  show chF (adpR f k t h x) (f 6) ||| _ = _
  have e1 : adpR f k t h x (7 + 4 * f 6 + 0) = k := by unfold adpR adpX; rw [uN_n _ (by omega), uN_n _ (by omega), uN_n _ (by omega), uN_n _ (by omega)]; exact uN_s _ _ _
  rw [e1, chF_cg (r := f) (fun j hj => by unfold adpR adpX; rw [uN_n _ (by omega), uN_n _ (by omega), uN_n _ (by omega), uN_n _ (by omega), uN_n _ (by omega)])]
theorem adp_lo {f : Nat → Nat} {k t h x i : Nat} (h1 : i < 7 + 4 * f 6) (h6 : i ≠ 6) : adpR f k t h x i = f i := by
  unfold adpR adpX; rw [uN_n _ h6, uN_n _ (by omega), uN_n _ (by omega), uN_n _ (by omega), uN_n _ (by omega)]
theorem hbA_add {f : Nat → Nat} {k t h x : Nat} : hbA (adpR f k t h x) = uN (hbA f) (f 6) h := by
  rw [hbA_set]
  funext j
  unfold hbA adpR adpX
  by_cases q : j = f 6
  · subst q; rw [uN_n _ (by omega), uN_n _ (by omega), uN_s, uN_s]
  · rw [uN_n _ (by omega), uN_n _ (by omega), uN_n _ (by omega), uN_n _ (by omega), uN_n _ (by omega), uN_n _ (by omega)]
theorem peH.add {D : va_G} {ws : va_W} {pf : Nat → Option Nat} {f : Nat → Nat} {H : Heap} {b k t h x : Nat} (hp : peH D ws pf f H) (h6 : f 6 < 6) (hk : k ≤ 5) (ha : apt ws b) (hs : psAt D H b k t) : peH D ws (va_up pf (f 6) (some b)) (adpR f k t h x) H := by
  refine ⟨fun j hj a hja => ?_, fun j hj => ?_⟩
  · by_cases q : j = f 6
    · subst q; rw [va_up_self] at hja; cases hja; exact ⟨ha, k, t, hk, hs⟩
    · rw [va_up_ne _ _ q] at hja; exact hp.1 j hj a hja
  · rw [adpR_6] at hj
    by_cases q : j = f 6
    · subst q
      refine ⟨b, va_up_self _ _ _, ha, ?_⟩
      have e0 : adpR f k t h x (7 + 4 * f 6 + 0) = k := by unfold adpR adpX; rw [uN_n _ (by omega), uN_n _ (by omega), uN_n _ (by omega), uN_n _ (by omega)]; exact uN_s _ _ _
      have e1 : adpR f k t h x (7 + 4 * f 6 + 1) = t := by unfold adpR adpX; rw [uN_n _ (by omega), uN_n _ (by omega), uN_n _ (by omega), uN_s]
      rw [e0, e1]; exact hs
    · obtain ⟨a, g1, g2, g3⟩ := hp.2 j (by omega)
      refine ⟨a, by rw [va_up_ne _ _ q]; exact g1, g2, ?_⟩
      rw [adp_lo (by omega) (by omega), adp_lo (by omega) (by omega)]; exact g3
/-- arrays of references: what lies beyond the length doesn't matter -/
theorem va_P.cgP {D : va_G} {z : Nat → ClassId} {ws : va_W} {H : Heap} (h : va_P D vwCl ws H) (k : Nat) {a n : Nat} {f g : Nat → Option Nat} (hk : ws[k]? = some (aP z a n f)) (e : ∀ j, j < n → f j = g j) : va_P D vwCl (ws.set k (aP z a n g)) H := by
  have hl := (List.getElem?_eq_some_iff.mp hk).1
  intro i q hq
  by_cases hi : i = k
  · subst hi
    rw [List.getElem?_set_self hl] at hq
    cases hq
    have h1 : H[a]? = some (vp_cell (z 4) (n, .inr (.inr (.inr (.inr f))))) := h i _ hk
    show H[a]? = some (vp_cell (z 4) (n, .inr (.inr (.inr (.inr g)))))
    rw [h1, vp_cell_q, vp_cell_q, arrV_cg (fun j hj => by rw [e j hj])]
  · rw [List.getElem?_set_ne (Ne.symm hi)] at hq
    exact h i q hq
def lyP (f g : Nat → Option Nat) : Nat → (Nat → Option Nat)
  | 0 => g
  | n + 1 => va_up (lyP f g n) n (f n)
theorem lyP_at (f g : Nat → Option Nat) (n j : Nat) : lyP f g n j = if j < n then f j else g j := by
  induction n with
  | zero => rw [if_neg (Nat.not_lt_zero _)]; rfl
  | succ n ih =>
    show va_up (lyP f g n) n (f n) j = _
    by_cases h : j = n
    · subst h; rw [va_up_self, if_pos (by omega)]
    · rw [va_up_ne _ _ h, ih]
      by_cases h2 : j < n
      · rw [if_pos h2, if_pos (by omega)]
      · rw [if_neg h2, if_neg (by omega)]
theorem bic_64 : ∀ n, n < 64 → biF n 6 ≤ 6 := fun n _ => biF_le n 6
theorem nfw : nativeFrameWords "java/lang/System" "arraycopy" 5 + 11 = 18 := by decide +kernel
section NP3
variable {p : Program} {l : Launch} {e : Env} {R : Room} {s : State} {m : MethodId} {args : Array Value} {below : List Frame} {meth : Method} {c : Code} {H : Heap} {locs : List Loc} {cells slots : Nat} {Q : State → Prop}
variable {cc : ByteArray} {pc : Nat} {ls : Array Slot} {rest : List Value} {D : va_G} {z : Nat → ClassId} {A : Nat → Prop} {a : Nat} {ws wc : va_W} {H0 : Heap} {E : Heap → Prop}
theorem nv_preP2 (hK : KK D z s) (hP : va_P D vwCl wc H) (hE : E H) {w2 : va_W} (hP2 : va_P D vwCl w2 H) {b : Nat} {As : List Value} {ci q0 : Nat} {q : vw_C} {fs : List Value} (hc : vwCl[ci]? = some q) (he : w2[q0]? = some (b, .inr (ci, fs))) : PreV s H q.1 b (va_Pc (.ref b :: As) (nR D z wc E)) As := ⟨nR_blind, va_recv hK.1 hP2 hc he, fun U hU hW => ⟨rfl, by rw [hU]; exact hP, hK.warm hW, by rw [hU]; exact hE⟩⟩
theorem nv_P0 : va_P D vwCl [] H := fun i q hq => by cases hq
theorem psAt.any (hK : KK D z s) {k t : Nat} (hk : k ≤ 5) (h : psAt D H a k t) : va_Any "SeaJar$Plain" s H a := by
  have hN := hK.2.1
  have ca : ∀ C : String, va_Nw (.castable C "SeaJar$Plain") s → ∀ comp c0 : ClassId, s.vm.findClass "SeaJar$Plain" = some comp → s.vm.findClass C = some c0 → s.vm.assignable c0 comp = true := by
    intro C hca comp c0 g1 g2
    obtain ⟨c1, t1, f1, f2, f3⟩ := Cond.castable_spec (va_Nw.use (A := #[]) rfl hca)
    cases g2.symm.trans f1
    cases g1.symm.trans f2
    exact f3
  rcases (show k = 0 ∨ k = 1 ∨ k = 2 ∨ k = 3 ∨ k = 4 ∨ k = 5 by omega) with rfl | rfl | rfl | rfl | rfl | rfl
  · exact va_rAny (ci := 6) (q0 := 0) (r := (RX6, TX6, 1)) hK.1 h.P rfl rfl (fun comp c0 g1 g2 => by cases g1.symm.trans g2; exact va_asg _ _)
  · exact va_rAny (ci := 0) (q0 := 0) (r := (RX0, TX0, 1)) hK.1 h.P rfl rfl (ca _ (hN _ nw_10))
  · exact va_rAny (ci := 2) (q0 := 0) (r := (RX2, TX2, 1)) hK.1 h.P rfl rfl (ca _ (hN _ nw_9))
  · exact va_rAny (ci := 4) (q0 := 0) (r := (RX4, TX4, 1)) hK.1 h.P rfl rfl (ca _ (hN _ nw_8))
  · exact va_rAny (ci := 8) (q0 := 0) (r := (RX8, TX8, 1)) hK.1 h.P rfl rfl (ca _ (hN _ nw_7))
  · exact va_rAny (ci := 1) (q0 := 0) (r := (RX1, TX1, 1)) hK.1 h.P rfl rfl (ca _ (hN _ nw_6))
theorem nv_pald (hx : p.tables.exec = Jvm.exec) (hb : c.code = cc) (hK : KK D z s) (hP : va_P D vwCl ws H) (q0 : Nat) {n : Nat} {f : Nat → Option Nat} (ha : ws[q0]? = some (aP z a n f)) {i : Nat} (hi : i < n) (hn : n < 2 ^ 31) {v : Option Nat} (hv : f i = v) (hdg : decode cc pc = .ok (.aaload, 1)) (k : W p l e R s m args below meth c H locs cells slots Q (F0 m (pc + 1) ls (va_rf v :: rest))) : W p l e R s m args below meth c H locs cells slots Q (F0 m pc ls (.int (nI i) :: .ref a :: rest)) := va_aldq (C := "SeaJar$Plain") hx hb hK.1 hP q0 4 ha rfl (vp_in_nI hi hn) hdg (by rw [nI_clamp (Nat.lt_trans hi hn), hv]; exact k)
theorem nv_rald (hx : p.tables.exec = Jvm.exec) (hb : c.code = cc) (hK : KK D z s) (hP : va_P D vwCl ws H) (q0 : Nat) {n : Nat} {f : Nat → Option Nat} (ha : ws[q0]? = some (aR z a n f)) {i : Nat} (hi : i < n) (hn : n < 2 ^ 31) {v : Option Nat} (hv : f i = v) (hdg : decode cc pc = .ok (.aaload, 1)) (k : W p l e R s m args below meth c H locs cells slots Q (F0 m (pc + 1) ls (va_rf v :: rest))) : W p l e R s m args below meth c H locs cells slots Q (F0 m pc ls (.int (nI i) :: .ref a :: rest)) := va_aldq (C := "SeaJar$Row") hx hb hK.1 hP q0 5 ha rfl (vp_in_nI hi hn) hdg (by rw [nI_clamp (Nat.lt_trans hi hn), hv]; exact k)
theorem nv_past (hx : p.tables.exec = Jvm.exec) (hb : c.code = cc) (hK : KK D z s) (hP : va_P D vwCl ws H) (hD : va_D A ws) (hS : va_S A H0 H locs) (q0 : Nat) {n : Nat} {f : Nat → Option Nat} (ha : ws[q0]? = some (aP z a n f)) {i : Nat} {v : Option Nat} (hi : i < n) (hn : n < 2 ^ 31) (hv : ∀ b, v = some b → va_Any "SeaJar$Plain" s H b) (hdg : decode cc pc = .ok (.aastore, 1)) (k : ∀ (H1 : Heap) (locs1 : List Loc), va_P D vwCl (ws.set q0 (aP z a n (va_up f i v))) H1 → va_D A (ws.set q0 (aP z a n (va_up f i v))) → va_S A H0 H1 locs1 → W p l e R s m args below meth c H1 locs1 cells slots Q (F0 m (pc + 1) ls rest)) : W p l e R s m args below meth c H locs cells slots Q (F0 m pc ls (va_rf v :: .int (nI i) :: .ref a :: rest)) := by
  cases v with
  | none => exact va_astqN (C := "SeaJar$Plain") hx hb hK.1 hP hD hS q0 4 ha rfl (vp_in_nI hi hn) hdg (fun H1 l1 h1 h2 h3 => by
      rw [nI_clamp (Nat.lt_trans hi hn)] at h1 h2
      exact k H1 l1 h1 h2 h3)
  | some b => exact va_astqM (E := "SeaJar$Plain") hx hb hK.1 hP hD hS q0 4 ha rfl (hv b rfl) (vp_in_nI hi hn) hdg (fun H1 l1 h1 h2 h3 => by
      rw [nI_clamp (Nat.lt_trans hi hn)] at h1 h2
      exact k H1 l1 h1 h2 h3)
theorem nv_mmax (hx : p.tables.exec = Jvm.exec) (hb : c.code = cc) (hml : c.maxLocals = ls.size) {own : String} {index : Nat} (hown : s.vm.findClass own = some m.cls) (hlink : (Cond.methodLink own index Lib.Math.max.name).before args s = true) (hstat : (Cond.static Lib.Math.max.name).before args s = true) (hini : (Cond.initialized "java/lang/Math").before args s = true) (hcode : (Cond.code Lib.Math.max.name Lib.Math.max.code 2 (some .int)).before args s = true) (hframes : 1 ≤ R.frames) (hlocals : (rest.map fun v => v.category).sum + 13 ≤ R.locals) (hc : cells ≤ R.cells) (hs : slots ≤ R.slots) {x y r9 : Int32} (hr9 : (if x < y then y else x) = r9) (hdg : decode cc pc = .ok (.invokestatic index, 3))
    (kk : W p l e R s m args below meth c H locs cells slots Q (F0 m (pc + 3) ls (.int r9 :: rest))) : W p l e R s m args below meth c H locs cells slots Q (F0 m pc ls (.int y :: .int x :: rest)) := va_mmax hx hb hml hown hlink hstat hini hcode hframes hlocals hc hs hdg (by rw [hr9]; exact kk)
theorem nv_mmin (hx : p.tables.exec = Jvm.exec) (hb : c.code = cc) (hml : c.maxLocals = ls.size) {own : String} {index : Nat} (hown : s.vm.findClass own = some m.cls) (hlink : (Cond.methodLink own index Lib.Math.min.name).before args s = true) (hstat : (Cond.static Lib.Math.min.name).before args s = true) (hini : (Cond.initialized "java/lang/Math").before args s = true) (hcode : (Cond.code Lib.Math.min.name Lib.Math.min.code 2 (some .int)).before args s = true) (hframes : 1 ≤ R.frames) (hlocals : (rest.map fun v => v.category).sum + 13 ≤ R.locals) (hc : cells ≤ R.cells) (hs : slots ≤ R.slots) {x y r9 : Int32} (hr9 : (if y < x then y else x) = r9) (hdg : decode cc pc = .ok (.invokestatic index, 3))
    (kk : W p l e R s m args below meth c H locs cells slots Q (F0 m (pc + 3) ls (.int r9 :: rest))) : W p l e R s m args below meth c H locs cells slots Q (F0 m pc ls (.int y :: .int x :: rest)) := va_mmin hx hb hml hown hlink hstat hini hcode hframes hlocals hc hs hdg (by rw [hr9]; exact kk)
theorem mn_n {i j : Nat} (hi : i < 2 ^ 31) (hj : j < 2 ^ 31) : (if nI j < nI i then nI j else nI i) = nI (if j < i then j else i) := by
  by_cases h : j < i
  · rw [if_pos h, if_pos ((nI_ltI hj hi).mpr h)]
  · rw [if_neg h, if_neg (fun q => h ((nI_ltI hj hi).mp q))]
theorem mx_n {i j : Nat} (hi : i < 2 ^ 31) (hj : j < 2 ^ 31) : (if nI i < nI j then nI j else nI i) = nI (if i < j then j else i) := by
  by_cases h : i < j
  · rw [if_pos h, if_pos ((nI_ltI hi hj).mpr h)]
  · rw [if_neg h, if_neg (fun q => h ((nI_ltI hi hj).mp q))]
/-- 0 against a difference that may be below 0 -/
theorem mx_d {i j : Nat} (hi : i < 2 ^ 30) (hj : j < 2 ^ 30) : (if nI 0 < nI i - nI j then nI i - nI j else nI 0) = nI (if j < i then i - j else 0) := by
  by_cases h : j < i
  · rw [if_pos h, pk_sub (by omega), if_pos ((nI_ltI (by decide) (by omega)).mpr (by omega))]
  · rw [if_neg h, if_neg]
    intro q
    rw [Int32.lt_iff_toInt_lt, pk_sub_toInt hi hj, nI_toInt (by decide)] at q
    omega
theorem cpy_nI (f g : Nat → Nat) (sp dp n : Nat) : va_cpy (fun j => nI (f j)) (fun j => nI (g j)) sp dp n = fun j => nI (va_cpy f g sp dp n j) := by
  funext j
  unfold va_cpy
  split <;> rfl
theorem nv_copy (hx : p.tables.exec = Jvm.exec) (hb : c.code = cc) (hml : c.maxLocals = ls.size) {own : String} {index : Nat} (hown : s.vm.findClass own = some m.cls) (hlink : (Cond.methodLink own index arraycopyName).before args s = true) (hnat : (Cond.native arraycopyName).before args s = true) (hstat : (Cond.static arraycopyName).before args s = true) (hini : (Cond.initialized "java/lang/System").before args s = true) (hK : KK D z s) (hP : va_P D vwCl ws H) (hD : va_D A ws) (hS : va_S A H0 H locs) (q0 q1 : Nat) {a0 n0 n1 : Nat} {f g : Nat → Nat} (ha0 : ws[q0]? = some (aN z a0 n0 f)) (ha1 : ws[q1]? = some (aN z a n1 g)) {sp dp n : Nat} (h4 : sp + n ≤ n0) (h5 : dp + n ≤ n1) (hn0 : n0 < 2 ^ 31) (hn1 : n1 < 2 ^ 31) (hframes : 1 ≤ R.frames) (hlocals : (rest.map fun v => v.category).sum + 18 ≤ R.locals) (hdg : decode cc pc = .ok (.invokestatic index, 3))
    (kk : ∀ (H1 : Heap) (locs1 : List Loc), va_P D vwCl (ws.set q1 (aN z a n1 (va_cpy f g sp dp n))) H1 → va_D A (ws.set q1 (aN z a n1 (va_cpy f g sp dp n))) → va_S A H0 H1 locs1 → W p l e R s m args below meth c H1 locs1 cells slots Q (F0 m (pc + 3) ls rest)) : W p l e R s m args below meth c H locs cells slots Q (F0 m pc ls (.int (nI n) :: .int (nI dp) :: .ref a :: .int (nI sp) :: .ref a0 :: rest)) := by
  have e1 : (nI sp).toNatClampNeg = sp := nI_clamp (by omega)
  have e2 : (nI dp).toNatClampNeg = dp := nI_clamp (by omega)
  have e3 : (nI n).toNatClampNeg = n := nI_clamp (by omega)
  refine va_copyi (ty := .int) hx hb hml hown hlink hnat hstat hini hK.1 hP hD hS q0 q1 0 0 ha0 ha1 rfl rfl rfl (nI_pos (by omega)) (nI_pos (by omega)) (nI_pos (by omega)) (by rw [e1, e3]; exact h4) (by rw [e2, e3]; exact h5) (fun i hi => rfl) hframes (by rw [nfw]; exact hlocals) hdg (fun H1 l1 g1 g2 g3 => ?_)
  rw [e1, e2, e3, cpy_nI] at g1 g2
  exact kk H1 l1 g1 g2 g3
theorem nv_copyL (hx : p.tables.exec = Jvm.exec) (hb : c.code = cc) (hml : c.maxLocals = ls.size) {own : String} {index : Nat} (hown : s.vm.findClass own = some m.cls) (hlink : (Cond.methodLink own index arraycopyName).before args s = true) (hnat : (Cond.native arraycopyName).before args s = true) (hstat : (Cond.static arraycopyName).before args s = true) (hini : (Cond.initialized "java/lang/System").before args s = true) (hK : KK D z s) (hP : va_P D vwCl ws H) (hD : va_D A ws) (hS : va_S A H0 H locs) (q0 q1 : Nat) {a0 n0 n1 : Nat} {f g : Nat → Int64} (ha0 : ws[q0]? = some (aL z a0 n0 f)) (ha1 : ws[q1]? = some (aL z a n1 g)) {sp dp n : Nat} (h4 : sp + n ≤ n0) (h5 : dp + n ≤ n1) (hn0 : n0 < 2 ^ 31) (hn1 : n1 < 2 ^ 31) (hframes : 1 ≤ R.frames) (hlocals : (rest.map fun v => v.category).sum + 18 ≤ R.locals) (hdg : decode cc pc = .ok (.invokestatic index, 3))
    (kk : ∀ (H1 : Heap) (locs1 : List Loc), va_P D vwCl (ws.set q1 (aL z a n1 (va_cpy f g sp dp n))) H1 → va_D A (ws.set q1 (aL z a n1 (va_cpy f g sp dp n))) → va_S A H0 H1 locs1 → W p l e R s m args below meth c H1 locs1 cells slots Q (F0 m (pc + 3) ls rest)) : W p l e R s m args below meth c H locs cells slots Q (F0 m pc ls (.int (nI n) :: .int (nI dp) :: .ref a :: .int (nI sp) :: .ref a0 :: rest)) := by
  have e1 : (nI sp).toNatClampNeg = sp := nI_clamp (by omega)
  have e2 : (nI dp).toNatClampNeg = dp := nI_clamp (by omega)
  have e3 : (nI n).toNatClampNeg = n := nI_clamp (by omega)
  refine va_copyl (ty := .long) hx hb hml hown hlink hnat hstat hini hK.1 hP hD hS q0 q1 1 1 ha0 ha1 rfl rfl rfl (nI_pos (by omega)) (nI_pos (by omega)) (nI_pos (by omega)) (by rw [e1, e3]; exact h4) (by rw [e2, e3]; exact h5) (fun i hi => rfl) hframes (by rw [nfw]; exact hlocals) hdg (fun H1 l1 g1 g2 g3 => ?_)
  rw [e1, e2, e3] at g1 g2
  exact kk H1 l1 g1 g2 g3
end NP3
