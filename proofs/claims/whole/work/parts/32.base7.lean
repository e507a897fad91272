/-! sheets: one row of the class, and how much was taken -/
def itS (it : Nat → Int64) (sq : Nat) : Nat → Int64 := fun k => it (24 * sq + k)
theorem itS_at (it : Nat → Int64) (sq k : Nat) : itS it sq k = it (24 * sq + k) := rfl
theorem itS_upd (it : Nat → Int64) (sq i : Nat) (v : Int64) : itS (vp_updL it (24 * sq + i) v) sq = vp_updL (itS it sq) i v := by
  funext k
  unfold itS
  by_cases h : k = i
  · subst h; rw [pk_uLs, pk_uLs]
  · rw [pk_uLn (by omega), pk_uLn h]
theorem flF_itS (r : Nat → Nat) (it : Nat → Int64) (sq iq aq j : Nat) : itS (flF r it (24 * sq + iq) aq (j + 1)) sq = vp_updL (itS (flF r it (24 * sq + iq) aq j) sq) (iq + j) (cutF aq (nI (wkN r (j + 1) 0)).toInt64) := by
  rw [← itS_upd, show 24 * sq + (iq + j) = 24 * sq + iq + j by omega]
  rfl
theorem nI_inj {a b : Nat} (ha : a < 2 ^ 31) (hb : b < 2 ^ 31) (h : nI a = nI b) : a = b := (nI_eq ha hb).mp h
/-- from PENCE p the next n WEEKS give the row f from i on -/
def gvP (r : Nat → Nat) (f : Nat → Int64) (i n p : Nat) : Prop := ∀ w, w < n → (nI (wkN (uN r 0 p) (w + 1) 0)).toInt64 = f (i + w)
noncomputable def gvD (r : Nat → Nat) (f : Nat → Int64) (i n p : Nat) : Nat := @ite Nat (gvP r f i n p) (Classical.propDecidable _) 1 0
theorem gvD_1 {r : Nat → Nat} {f : Nat → Int64} {i n p : Nat} (h : gvP r f i n p) : gvD r f i n p = 1 := by unfold gvD; rw [if_pos h]
theorem gvD_0 {r : Nat → Nat} {f : Nat → Int64} {i n p : Nat} (h : ¬ gvP r f i n p) : gvD r f i n p = 0 := by unfold gvD; rw [if_neg h]
theorem gvD_or (r : Nat → Nat) (f : Nat → Int64) (i n p : Nat) : (gvD r f i n p = 1 ∧ gvP r f i n p) ∨ (gvD r f i n p = 0 ∧ ¬ gvP r f i n p) := by
  rcases Classical.em (gvP r f i n p) with h | h
  · exact Or.inl ⟨gvD_1 h, h⟩
  · exact Or.inr ⟨gvD_0 h, h⟩
theorem gvD_le (r : Nat → Nat) (f : Nat → Int64) (i n p : Nat) : gvD r f i n p ≤ 1 := by
  rcases gvD_or r f i n p with h | h <;> omega
theorem gv_nar (r : Nat → Nat) (f : Nat → Int64) (i n p : Nat) : narrow .boolean (.int (nI (gvD r f i n p))) = .int (nI (gvD r f i n p)) := by
  rcases gvD_or r f i n p with h | h <;> rw [h.1] <;> rfl
def cR (P : Nat → Nat) (lo : Nat) : Nat → Nat
  | 0 => 0
  | d + 1 => cR P lo d + P (lo + d)
def mR (P : Nat → Nat) (lo : Nat) : Nat → Int32
  | 0 => -4
  | d + 1 => if P (lo + d) = 1 then nI (lo + d) else mR P lo d
def stV (P : Nat → Nat) (lo hi w : Nat) : Int32 := if w = 0 then nI (cR P lo (hi + 1 - lo)) else mR P lo (hi + 1 - lo)
theorem cR_on {P : Nat → Nat} {lo : Nat} : ∀ d, (∀ p, lo ≤ p → p < lo + d → P p = 1) → cR P lo d = d ∧ (d ≠ 0 → mR P lo d = nI (lo + d - 1)) := by
  intro d
  induction d with
  | zero => intro _; exact ⟨rfl, fun h => absurd rfl h⟩
  | succ d ih =>
    intro h
    obtain ⟨i1, -⟩ := ih (fun p h1 h2 => h p h1 (by omega))
    have hd := h (lo + d) (by omega) (by omega)
    show cR P lo d + P (lo + d) = _ ∧ (_ → (if P (lo + d) = 1 then nI (lo + d) else mR P lo d) = _)
    rw [hd, i1, if_pos rfl]
    exact ⟨rfl, fun _ => rfl⟩
theorem cR_no {P : Nat → Nat} {lo : Nat} : ∀ d, (∀ p, lo ≤ p → p < lo + d → P p = 0) → cR P lo d = 0 ∧ mR P lo d = -4 := by
  intro d
  induction d with
  | zero => intro _; exact ⟨rfl, rfl⟩
  | succ d ih =>
    intro h
    obtain ⟨i1, i2⟩ := ih (fun p h1 h2 => h p h1 (by omega))
    have hd := h (lo + d) (by omega) (by omega)
    show cR P lo d + P (lo + d) = _ ∧ (if P (lo + d) = 1 then nI (lo + d) else mR P lo d) = _
    rw [hd, i1, i2, if_neg (by decide)]
    exact ⟨rfl, rfl⟩
theorem cR_app (P : Nat → Nat) (lo x y : Nat) : cR P lo (x + y) = cR P lo x + cR P (lo + x) y := by
  induction y with
  | zero => rfl
  | succ y ih => show cR P lo (x + y) + P (lo + (x + y)) = cR P lo x + (cR P (lo + x) y + P (lo + x + y)); rw [ih, show lo + (x + y) = lo + x + y by omega]; omega
theorem mR_or {P : Nat → Nat} (lo d : Nat) : mR P lo d = -4 ∨ ∃ q, lo ≤ q ∧ q < lo + d ∧ mR P lo d = nI q := by
  induction d with
  | zero => exact Or.inl rfl
  | succ d ih =>
    show (if P (lo + d) = 1 then nI (lo + d) else mR P lo d) = -4 ∨ ∃ q, lo ≤ q ∧ q < lo + (d + 1) ∧ (if P (lo + d) = 1 then nI (lo + d) else mR P lo d) = nI q
    by_cases h : P (lo + d) = 1
    · rw [if_pos h]; exact Or.inr ⟨lo + d, by omega, by omega, rfl⟩
    · rw [if_neg h]
      rcases ih with h1 | ⟨q, h1, h2, h3⟩
      · exact Or.inl h1
      · exact Or.inr ⟨q, h1, by omega, h3⟩
theorem nI_m4 {q : Nat} (h : q < 2 ^ 31) : ¬ nI q = -4 := fun e => by
  have h1 := congrArg Int32.toInt e
  rw [nI_toInt h, show ((-4 : Int32)).toInt = -4 from by decide] at h1
  omega
theorem mR_app {P : Nat → Nat} (lo x y : Nat) (hb : lo + x + y < 2 ^ 31) : mR P lo (x + y) = if mR P (lo + x) y = -4 then mR P lo x else mR P (lo + x) y := by
  induction y with
  | zero => exact (if_pos (show mR P (lo + x) 0 = -4 from rfl)).symm
  | succ y ih =>
    show (if P (lo + (x + y)) = 1 then nI (lo + (x + y)) else mR P lo (x + y)) = if (if P (lo + x + y) = 1 then nI (lo + x + y) else mR P (lo + x) y) = -4 then mR P lo x else (if P (lo + x + y) = 1 then nI (lo + x + y) else mR P (lo + x) y)
    rw [ih (by omega), show lo + (x + y) = lo + x + y by omega]
    by_cases h : P (lo + x + y) = 1
    · rw [if_pos h, if_pos h, if_neg (nI_m4 (by omega))]
    · rw [if_neg h, if_neg h]
theorem st_no {P : Nat → Nat} {lo hi w : Nat} (h : ∀ p, lo ≤ p → p ≤ hi → P p = 0) : stV P lo hi w = if w = 0 then nI 0 else -4 := by
  obtain ⟨a, b⟩ := cR_no (P := P) (lo := lo) (hi + 1 - lo) (fun p h1 h2 => h p h1 (by omega))
  unfold stV
  rw [a, b]
theorem st_int {P : Nat → Nat} {lo hi w a b : Nat} (h1 : lo ≤ a) (h2 : a ≤ b) (h3 : b ≤ hi) (hh : hi ≤ 9999) (h : ∀ p, lo ≤ p → p ≤ hi → P p = if a ≤ p ∧ p ≤ b then 1 else 0) : stV P lo hi w = if w = 0 then nI (b + 1 - a) else nI b := by
  have z1 := cR_no (P := P) (lo := lo) (a - lo) (fun p g1 g2 => by rw [h p g1 (by omega), if_neg (by omega)])
  have z2 := cR_on (P := P) (lo := a) (b + 1 - a) (fun p g1 g2 => by rw [h p (by omega) (by omega), if_pos (by omega)])
  have z3 := cR_no (P := P) (lo := b + 1) (hi - b) (fun p g1 g2 => by rw [h p (by omega) (by omega), if_neg (by omega)])
  have e : hi + 1 - lo = (a - lo) + ((b + 1 - a) + (hi - b)) := by omega
  have ea : lo + (a - lo) = a := by omega
  have eb : a + (b + 1 - a) = b + 1 := by omega
  have m2 := z2.2 (by omega)
  rw [show a + (b + 1 - a) - 1 = b by omega] at m2
  unfold stV
  rw [e, cR_app, cR_app, ea, eb, z1.1, z2.1, z3.1, mR_app _ _ _ (by omega), ea, mR_app _ _ _ (by omega), eb, z3.2]
  rw [if_pos (rfl : (-4 : Int32) = -4), m2, if_neg (nI_m4 (by omega)), Nat.zero_add, Nat.add_zero]
/-! a WEEK from PENCE p, PENCE on one side of NEEDS -/
theorem ap_0 (r : Nat → Nat) (p m n : Nat) : apF (uN r 0 p) m n = apF r m n := by
  induction n with
  | zero => rfl
  | succ n ih =>
    show apF (uN r 0 p) m n + paF (uN r 0 p) n m = apF r m n + paF r n m
    rw [ih]
    unfold paF woF
    rw [uN_n _ (show 7 + 4 * n + 0 ≠ 0 by omega), uN_n _ (show 7 + 4 * n + 1 ≠ 0 by omega), uN_n _ (show 7 + 4 * n + 2 ≠ 0 by omega), uN_n _ (show 2 ≠ 0 by decide), uN_n _ (show 4 ≠ 0 by decide)]
theorem ho_0 (r : Nat → Nat) (p n : Nat) : hoF (uN r 0 p) n = hoF r n := by
  induction n with
  | zero => rfl
  | succ n ih =>
    show hoF (uN r 0 p) n ||| _ = hoF r n ||| _
    rw [ih, uN_n _ (show 7 + 4 * n + 0 ≠ 0 by omega), uN_n _ (show 7 + 4 * n + 3 ≠ 0 by omega)]
theorem hb_side {r : Nat → Nat} {p q : Nat} (h : (p < r 1 ∧ q < r 1) ∨ (r 1 ≤ p ∧ r 1 ≤ q)) : hbF (uN r 0 p) = hbF (uN r 0 q) := by
  unfold hbF
  rw [uN_s, uN_s, uN_n _ (show 1 ≠ 0 by decide), uN_n _ (show 1 ≠ 0 by decide), uN_n _ (show 6 ≠ 0 by decide), uN_n _ (show 6 ≠ 0 by decide), ho_0, ho_0]
  rcases h with h | h
  · rw [if_pos h.1, if_pos h.2]
  · rw [if_neg (by omega), if_neg (by omega)]
theorem ha_0 (r : Nat → Nat) (p k m : Nat) : haF (uN r 0 p) k m = haF r k m := by
  unfold haF paF woF
  rw [uN_n _ (show 7 + 4 * k + 0 ≠ 0 by omega), uN_n _ (show 7 + 4 * k + 1 ≠ 0 by omega), uN_n _ (show 7 + 4 * k + 2 ≠ 0 by omega), uN_n _ (show 2 ≠ 0 by decide), uN_n _ (show 4 ≠ 0 by decide)]
theorem hr_0 (r : Nat → Nat) (p m n i : Nat) (hi : i ≠ 0) : hrF (uN r 0 p) m n i = hrF r m n i := by
  induction n with
  | zero => exact uN_n _ hi
  | succ n ih =>
    show uN (hrF (uN r 0 p) m n) (7 + 4 * n + 2) (haF (uN r 0 p) n m) i = uN (hrF r m n) (7 + 4 * n + 2) (haF r n m) i
    rw [ha_0]
    unfold uN
    split
    · rfl
    · exact ih
theorem wk1_alike {r : Nat → Nat} {p q : Nat} (hb : hbF (uN r 0 p) = hbF (uN r 0 q)) (hw : wkN (uN r 0 p) 1 0 = wkN (uN r 0 q) 1 0) : wkN (uN r 0 p) 1 = wkN (uN r 0 q) 1 := by
  funext i
  by_cases h0 : i = 0
  · rw [h0]; exact hw
  · show weekR (uN r 0 p) (uN r 0 p 3) i = weekR (uN r 0 q) (uN r 0 q 3) i
    rw [uN_n r (show 3 ≠ 0 by decide), uN_n r (show 3 ≠ 0 by decide)]
    unfold weekR
    rw [hb]
    by_cases h4 : i = 4
    · rw [h4, weR_4, weR_4, uN_n _ (show 4 ≠ 0 by decide), uN_n _ (show 4 ≠ 0 by decide)]
    · rw [weR_at _ _ _ h0 h4, weR_at _ _ _ h0 h4, uN_n _ (show 6 ≠ 0 by decide), uN_n _ (show 6 ≠ 0 by decide), hr_0 _ _ _ _ _ h0, hr_0 _ _ _ _ _ h0]
theorem wk_alike {r : Nat → Nat} {p q : Nat} (hb : hbF (uN r 0 p) = hbF (uN r 0 q)) (hw : wkN (uN r 0 p) 1 0 = wkN (uN r 0 q) 1 0) (n : Nat) : wkN (uN r 0 p) (n + 1) = wkN (uN r 0 q) (n + 1) := by
  induction n with
  | zero => exact wk1_alike hb hw
  | succ n ih =>
    show weekR (wkN (uN r 0 p) (n + 1)) _ = weekR (wkN (uN r 0 q) (n + 1)) _
    rw [ih]
theorem gv_alike {r : Nat → Nat} {f : Nat → Int64} {i n p q : Nat} (hb : hbF (uN r 0 p) = hbF (uN r 0 q)) (hw : wkN (uN r 0 p) 1 0 = wkN (uN r 0 q) 1 0) (h : gvP r f i n p) : gvP r f i n q := by
  intro w hwn
  rw [← wk_alike hb hw w]
  exact h w hwn
theorem wk1_0 (r : Nat → Nat) (p : Nat) : wkN (uN r 0 p) 1 0 = if 9999 < p + apF r (r 3 + hbF (uN r 0 p)) (r 6) then 9999 else p + apF r (r 3 + hbF (uN r 0 p)) (r 6) := by
  show weekR (uN r 0 p) (uN r 0 p 3) 0 = _
  rw [weekR_0]
  unfold weP
  rw [ap_0, uN_s, uN_n _ (show 6 ≠ 0 by decide), uN_n _ (show 3 ≠ 0 by decide)]
/-- what is paid in the first WEEK from PENCE hi -/
def pdF (r : Nat → Nat) (hi : Nat) : Nat := apF r (r 3 + hbF (uN r 0 hi)) (r 6)
theorem pd_is (r : Nat → Nat) (hi : Nat) : apF (uN r 0 hi) (uN r 0 hi 3 + hbF (uN r 0 hi)) (uN r 0 hi 6) = pdF r hi := by
  rw [ap_0, uN_n _ (show 6 ≠ 0 by decide), uN_n _ (show 3 ≠ 0 by decide)]
  rfl
section ST
variable {r : Nat → Nat} {f : Nat → Int64} {iq kq lo hi : Nat}
abbrev sideP (r : Nat → Nat) (lo hi : Nat) : Prop := hi < r 1 ∨ r 1 ≤ lo
theorem st_w1 (hs : sideP r lo hi) {p : Nat} (h1 : lo ≤ p) (h2 : p ≤ hi) : wkN (uN r 0 p) 1 0 = if 9999 < p + pdF r hi then 9999 else p + pdF r hi := by
  rw [wk1_0, hb_side (p := p) (q := hi) (by rcases hs with h | h <;> omega)]
  rfl
theorem l_nI {a : Nat} (h : a < 2 ^ 31) : (nI a).toInt64.toInt = (a : Int) := nv_lw h
theorem l_eq {a b : Nat} (ha : a < 2 ^ 31) (hb : b < 2 ^ 31) (h : (nI a).toInt64 = (nI b).toInt64) : a = b := by
  have h1 := congrArg Int64.toInt h
  rw [l_nI ha, l_nI hb] at h1
  omega
theorem l_i {a : Nat} (h : a < 2 ^ 31) : (nI a).toInt64.toInt32 = nI a := by rw [nI_l h, lN_i]
/-- the row's first item is not the jar's limit: only x = first - paid can be -/
theorem st_x {x : Int64} {P : Nat} (hP : P < 1000000) (hx : x = f iq - (nI P).toInt64) {p : Nat} (hp : p < 1000000) (h : f iq = (nI (p + P)).toInt64) : x = (nI p).toInt64 := by
  rw [hx, h, nI_l (by omega), nI_l (by omega), nI_l (by omega), lN_sub (by omega), show p + P - P = p by omega]
theorem st_xb {x : Int64} {P : Nat} (hP : P < 1000000) (hx : x = f iq - (nI P).toInt64) {p : Nat} (hp : p < 1000000) (h : x = (nI p).toInt64) : f iq = (nI (p + P)).toInt64 := by
  have h1 : f iq = x + (nI P).toInt64 := by rw [hx]; exact (Int64.sub_add_cancel _ _).symm
  rw [h1, h, nI_l (by omega), nI_l (by omega), nI_l (by omega), lN_add]
theorem st_A0 (hs : sideP r lo hi) (hh : hi ≤ 9999) (hk : 1 ≤ kq) {P : Nat} (hPe : P = pdF r hi) (hP : P < 1000000) {x : Int64} (hx : x = f iq - (nI P).toInt64) (hF : ¬ f iq = 9999) {p : Nat} (h1 : lo ≤ p) (h2 : p ≤ hi) (hg : gvP r f iq kq p) : x = (nI p).toInt64 := by
  have h3 := hg 0 (by omega)
  rw [st_w1 hs h1 h2, ← hPe] at h3
  by_cases q : 9999 < p + P
  · rw [if_pos q] at h3; exact absurd h3.symm hF
  · rw [if_neg q] at h3
    exact st_x (p := p) hP hx (by omega) h3.symm
theorem st_A (hs : sideP r lo hi) (hh : hi ≤ 9999) (hk : 1 ≤ kq) {P : Nat} (hPe : P = pdF r hi) (hP : P < 1000000) {x : Int64} (hx : x = f iq - (nI P).toInt64) (hF : ¬ f iq = 9999) {p0 w : Nat} (h1 : lo ≤ p0) (h2 : p0 ≤ hi) (hx0 : x = (nI p0).toInt64) : stV (gvD r f iq kq) lo hi w = if gvD r f iq kq p0 = 1 then (if w = 0 then nI (p0 + 1 - p0) else nI p0) else (if w = 0 then nI 0 else -4) := by
  have only : ∀ p, lo ≤ p → p ≤ hi → gvP r f iq kq p → p = p0 := fun p g1 g2 hg => l_eq (by omega) (by omega) ((st_A0 hs hh hk hPe hP hx hF g1 g2 hg).symm.trans hx0)
  rcases gvD_or r f iq kq p0 with g | g
  · rw [if_pos g.1]
    refine st_int h1 (Nat.le_refl _) h2 hh (fun p g1 g2 => ?_)
    by_cases q : p = p0
    · subst q; rw [if_pos ⟨Nat.le_refl _, Nat.le_refl _⟩]; exact g.1
    · rw [if_neg (by omega)]; exact gvD_0 (fun y => q (only p g1 g2 y))
  · rw [if_neg (by rw [g.1]; decide)]
    refine st_no (fun p g1 g2 => gvD_0 (fun y => ?_))
    have e := only p g1 g2 y
    rw [e] at y
    exact g.2 y
theorem st_An (hs : sideP r lo hi) (hh : hi ≤ 9999) (hk : 1 ≤ kq) {P : Nat} (hPe : P = pdF r hi) (hP : P < 1000000) {x : Int64} (hx : x = f iq - (nI P).toInt64) (hF : ¬ f iq = 9999) {w : Nat} (hn : x < (nI lo).toInt64 ∨ (nI hi).toInt64 < x) (hl : lo ≤ 9999) : stV (gvD r f iq kq) lo hi w = if w = 0 then nI 0 else -4 := by
  refine st_no (fun p g1 g2 => gvD_0 (fun y => ?_))
  have e := st_A0 hs hh hk hPe hP hx hF g1 g2 y
  rw [e, Int64.lt_iff_toInt_lt, Int64.lt_iff_toInt_lt, l_nI (by omega), l_nI (by omega), l_nI (by omega)] at hn
  omega
theorem st_B0 (hs : sideP r lo hi) (hh : hi ≤ 9999) (hk : 1 ≤ kq) {P : Nat} (hPe : P = pdF r hi) (hP : P < 1000000) (hF : f iq = 9999) {p : Nat} (h1 : lo ≤ p) (h2 : p ≤ hi) (hg : gvP r f iq kq p) : 9999 ≤ p + P := by
  have h3 := hg 0 (by omega)
  rw [st_w1 hs h1 h2, ← hPe, Nat.add_zero, hF] at h3
  by_cases q : 9999 < p + P
  · omega
  · rw [if_neg q] at h3
    have := l_eq (a := p + P) (b := 9999) (by omega) (by decide) h3
    omega
theorem st_B (hs : sideP r lo hi) (hh : hi ≤ 9999) (hk : 1 ≤ kq) {P : Nat} (hPe : P = pdF r hi) (hP : P < 1000000) (hF : f iq = 9999) {le w : Nat} (hle : le = if lo + P < 9999 then 9999 - P else lo) (h2 : le ≤ hi) : stV (gvD r f iq kq) lo hi w = if gvD r f iq kq hi = 1 then (if w = 0 then nI (hi + 1 - le) else nI hi) else (if w = 0 then nI 0 else -4) := by
  have hlo : lo ≤ le := by rw [hle]; split <;> omega
  have he : 9999 ≤ le + P := by rw [hle]; split <;> omega
  have low : ∀ p, lo ≤ p → p ≤ hi → gvP r f iq kq p → le ≤ p := by
    intro p g1 g2 hg
    have h3 := st_B0 hs hh hk hPe hP hF g1 g2 hg
    rw [hle]; split <;> omega
  have al : ∀ p q, le ≤ p → p ≤ hi → le ≤ q → q ≤ hi → gvP r f iq kq p → gvP r f iq kq q := by
    intro p q g1 g2 g3 g4 hg
    refine gv_alike (p := p) (hb_side (by rcases hs with h | h <;> omega)) ?_ hg
    rw [st_w1 hs (by omega) g2, st_w1 hs (by omega) g4, ← hPe]
    split <;> split <;> omega
  rcases gvD_or r f iq kq hi with g | g
  · rw [if_pos g.1]
    refine st_int hlo h2 (Nat.le_refl _) hh (fun p g1 g2 => ?_)
    by_cases q : le ≤ p
    · rw [if_pos ⟨q, g2⟩]; exact gvD_1 (al hi p h2 (Nat.le_refl _) q g2 g.2)
    · rw [if_neg (by omega)]; exact gvD_0 (fun y => q (low p g1 g2 y))
  · rw [if_neg (by rw [g.1]; decide)]
    exact st_no (fun p g1 g2 => gvD_0 (fun y => g.2 (al p hi (low p g1 g2 y) g2 h2 (Nat.le_refl _) y)))
theorem st_Bn (hs : sideP r lo hi) (hh : hi ≤ 9999) (hk : 1 ≤ kq) {P : Nat} (hPe : P = pdF r hi) (hP : P < 1000000) (hF : f iq = 9999) {le w : Nat} (hle : le = if lo + P < 9999 then 9999 - P else lo) (hn : hi < le) : stV (gvD r f iq kq) lo hi w = if w = 0 then nI 0 else -4 := by
  refine st_no (fun p g1 g2 => gvD_0 (fun y => ?_))
  have h3 := st_B0 hs hh hk hPe hP hF g1 g2 y
  rw [hle] at hn
  split at hn <;> omega
end ST
theorem mx_d2 {lo P : Nat} (hl : lo ≤ 9999) (hP : P < 1000000) : (if nI lo < nI 9999 - nI P then nI 9999 - nI P else nI lo) = nI (if lo + P < 9999 then 9999 - P else lo) := by
  by_cases h : lo + P < 9999
  · rw [if_pos h, pk_sub (by omega), if_pos ((nI_ltI (by omega) (by omega)).mpr (by omega))]
  · rw [if_neg h, if_neg]
    intro q
    rw [Int32.lt_iff_toInt_lt, pk_sub_toInt (by decide) (by omega), nI_toInt (by omega)] at q
    omega
/-! taken as a whole -/
theorem fit_gv {r : Nat → Nat} {it : Nat → Int64} {sq iq kq p : Nat} (hp : p ≤ r 0) : fitD r it (24 * sq + iq) (r 0 - p) kq = gvD r (itS it sq) iq kq p := by
  have e : fitP r it (24 * sq + iq) (r 0 - p) kq ↔ gvP r (itS it sq) iq kq p := by
    unfold fitP gvP
    rw [show r 0 - (r 0 - p) = p by omega]
    constructor
    · intro h w hw; rw [itS_at, show 24 * sq + (iq + w) = 24 * sq + iq + w by omega]; exact h w hw
    · intro h w hw; have := h w hw; rw [itS_at, show 24 * sq + (iq + w) = 24 * sq + iq + w by omega] at this; exact this
  rcases gvD_or r (itS it sq) iq kq p with g | g
  · rw [g.1]; exact fitD_1 (e.mpr g.2)
  · rw [g.1]; exact fitD_0 (fun y => g.2 (e.mp y))
theorem tkC_cR {r : Nat → Nat} {it : Nat → Int64} {sq iq kq : Nat} (j : Nat) (hj : j ≤ r 0 + 1) : tkC r it (24 * sq + iq) kq j = cR (gvD r (itS it sq) iq kq) 0 j := by
  induction j with
  | zero => rfl
  | succ j ih => show tkC r it (24 * sq + iq) kq j + fitD r it (24 * sq + iq) (r 0 - j) kq = cR _ 0 j + gvD r (itS it sq) iq kq (0 + j); rw [ih (by omega), fit_gv (by omega), Nat.zero_add]
theorem tkL_mR {r : Nat → Nat} {it : Nat → Int64} {sq iq kq : Nat} (j : Nat) (hj : j ≤ r 0 + 1) : (mR (gvD r (itS it sq) iq kq) 0 j = -4 ∧ tkL r it (24 * sq + iq) kq j = -4) ∨ ∃ q, q < j ∧ mR (gvD r (itS it sq) iq kq) 0 j = nI q ∧ tkL r it (24 * sq + iq) kq j = nI (r 0 - q) := by
  induction j with
  | zero => exact Or.inl ⟨rfl, rfl⟩
  | succ j ih =>
    show ((if gvD r (itS it sq) iq kq (0 + j) = 1 then nI (0 + j) else mR _ 0 j) = -4 ∧ (if fitD r it (24 * sq + iq) (r 0 - j) kq = 1 then nI (r 0 - j) else tkL r it (24 * sq + iq) kq j) = -4) ∨ ∃ q, q < j + 1 ∧ (if gvD r (itS it sq) iq kq (0 + j) = 1 then nI (0 + j) else mR _ 0 j) = nI q ∧ (if fitD r it (24 * sq + iq) (r 0 - j) kq = 1 then nI (r 0 - j) else tkL r it (24 * sq + iq) kq j) = nI (r 0 - q)
    rw [fit_gv (by omega), Nat.zero_add]
    by_cases h : gvD r (itS it sq) iq kq j = 1
    · rw [if_pos h, if_pos h]; exact Or.inr ⟨j, by omega, rfl, rfl⟩
    · rw [if_neg h, if_neg h]
      rcases ih (by omega) with h1 | ⟨q, h1, h2, h3⟩
      · exact Or.inl h1
      · exact Or.inr ⟨q, by omega, h2, h3⟩
/-- below NEEDS, and from NEEDS on -/
theorem tk_0 {r : Nat → Nat} {it : Nat → Int64} {sq iq kq be : Nat} (hr : r 0 ≤ 9999) (hn : 1 ≤ r 1) (hbe : be = if r 1 - 1 < r 0 then r 1 - 1 else r 0) : stV (gvD r (itS it sq) iq kq) 0 be 0 + stV (gvD r (itS it sq) iq kq) (r 1) (r 0) 0 = nI (tkC r it (24 * sq + iq) kq (r 0 + 1)) := by
  rw [tkC_cR _ (Nat.le_refl _)]
  unfold stV
  rw [if_pos rfl, if_pos rfl, nI_add]
  by_cases h : r 1 - 1 < r 0
  · rw [hbe, if_pos h, show r 1 - 1 + 1 - 0 = r 1 by omega, show r 0 + 1 = r 1 + (r 0 + 1 - r 1) by omega, cR_app, Nat.zero_add, show r 1 + (r 0 + 1 - r 1) - r 1 = r 0 + 1 - r 1 by omega]
  · rw [hbe, if_neg h, show r 0 + 1 - r 1 = 0 by omega]; rfl
theorem tk_1 {r : Nat → Nat} {it : Nat → Int64} {sq iq kq be : Nat} (hr : r 0 ≤ 9999) (hn : 1 ≤ r 1) (hbe : be = if r 1 - 1 < r 0 then r 1 - 1 else r 0) : (¬ stV (gvD r (itS it sq) iq kq) (r 1) (r 0) 1 = -4 → nI (r 0) - stV (gvD r (itS it sq) iq kq) (r 1) (r 0) 1 = tkL r it (24 * sq + iq) kq (r 0 + 1)) ∧ (stV (gvD r (itS it sq) iq kq) (r 1) (r 0) 1 = -4 → stV (gvD r (itS it sq) iq kq) 0 be 1 = -4 → tkL r it (24 * sq + iq) kq (r 0 + 1) = -4) ∧ (stV (gvD r (itS it sq) iq kq) (r 1) (r 0) 1 = -4 → ¬ stV (gvD r (itS it sq) iq kq) 0 be 1 = -4 → nI (r 0) - stV (gvD r (itS it sq) iq kq) 0 be 1 = tkL r it (24 * sq + iq) kq (r 0 + 1)) := by
  unfold stV
  rw [if_neg (by decide), if_neg (by decide)]
  have key : mR (gvD r (itS it sq) iq kq) 0 (r 0 + 1) = if mR (gvD r (itS it sq) iq kq) (r 1) (r 0 + 1 - r 1) = -4 then mR (gvD r (itS it sq) iq kq) 0 (be + 1 - 0) else mR (gvD r (itS it sq) iq kq) (r 1) (r 0 + 1 - r 1) := by
    by_cases h : r 1 - 1 < r 0
    · have e := mR_app (P := gvD r (itS it sq) iq kq) 0 (r 1) (r 0 + 1 - r 1) (by omega)
      rw [show r 1 + (r 0 + 1 - r 1) = r 0 + 1 by omega, Nat.zero_add] at e
      rw [e, hbe, if_pos h, show r 1 - 1 + 1 - 0 = r 1 by omega]
    · rw [hbe, if_neg h, show r 0 + 1 - r 1 = 0 by omega]; exact (if_pos (show mR (gvD r (itS it sq) iq kq) (r 1) 0 = -4 from rfl)).symm
  rcases tkL_mR (r := r) (it := it) (sq := sq) (iq := iq) (kq := kq) (r 0 + 1) (Nat.le_refl _) with ⟨h1, h2⟩ | ⟨q, h0, h1, h2⟩
  · rw [key] at h1
    refine ⟨fun g => ?_, fun _ _ => h2, fun g g2 => ?_⟩
    · rw [if_neg g] at h1; exact absurd h1 g
    · rw [if_pos g] at h1; exact absurd h1 g2
  · rw [key] at h1
    refine ⟨fun g => ?_, fun g g2 => ?_, fun g g2 => ?_⟩
    · rw [if_neg g] at h1; rw [h1, h2, pk_sub (by omega)]
    · rw [if_pos g, g2] at h1; exact absurd h1.symm (nI_m4 (by omega))
    · rw [if_pos g] at h1; rw [h1, h2, pk_sub (by omega)]
theorem cy_src {it : Nat → Int64} {sq tq iq jq nq k : Nat} (h : sq ≠ tq) (hj : jq + nq ≤ 24) (hk : k < 24) : itS it sq k = itS (cyF it (24 * sq + iq) (24 * tq + jq) nq) sq k := by
  unfold itS cyF
  rw [if_neg (by omega)]
theorem cy_tgt {it : Nat → Int64} {sq tq iq jq nq : Nat} {k : Nat} : va_cpy (itS it sq) (itS it tq) iq jq nq k = itS (cyF it (24 * sq + iq) (24 * tq + jq) nq) tq k := by
  unfold va_cpy itS cyF
  by_cases h : jq ≤ k ∧ k < jq + nq
  · rw [if_pos h, if_pos (by omega), show 24 * sq + iq + (24 * tq + k - (24 * tq + jq)) = 24 * sq + (iq + (k - jq)) by omega]
  · rw [if_neg h, if_neg (by omega)]
