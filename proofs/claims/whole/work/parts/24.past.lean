/-! what is known of the past: a ring of 8, fp PENCE, fw WEEKS, fd draws, fh HABITS; nx the next place -/
def pgS (nx un i : Nat) : Nat := (nx + 8 - un + i) % 8
def pgOK (fp fw fd fh : Nat → Nat) (nx un : Nat) (ps : Nat → Nat) : Prop := nx < 8 ∧ un ≤ 8 ∧ ∀ i, i < un → fp (pgS nx un i) = ps (9 * i) ∧ fw (pgS nx un i) = ps (9 * i + 1) ∧ fd (pgS nx un i) = ps (9 * i + 2) ∧ ∀ j, j < 6 → fh (6 * pgS nx un i + j) = ps (9 * i + 3 + j)
theorem knS_lo (ps : Nat → Nat) {un i c : Nat} (h8 : un = 8) (hi : i < 7) (hc : c < 9) : knS ps un (9 * i + c) = ps (9 * (i + 1) + c) := by
  unfold knS
  rw [if_pos h8]
  show (if 9 * i + c < 63 then ps (9 * i + c + 9) else ps (9 * i + c)) = _
  rw [if_pos (by omega), show 9 * i + c + 9 = 9 * (i + 1) + c by omega]
theorem knS_no (ps : Nat → Nat) {un : Nat} (h8 : un ≠ 8) : knS ps un = ps := if_neg h8
theorem pg_know {fp fw fd fh : Nat → Nat} {nx un : Nat} {ps : Nat → Nat} (h : pgOK fp fw fd fh nx un ps) (r : Nat → Nat) : pgOK (uN fp nx (r 0)) (uN fw nx (r 4)) (uN fd nx (r 5)) (va_cpy (hbA r) fh 0 (nx * 6) 6) ((nx + 1) % 8) (knU un + 1) (knP r ps un) := by
  obtain ⟨h1, h2, h3⟩ := h
  have hu := knU_lt h2
  refine ⟨Nat.mod_lt _ (by decide), by omega, fun i hi => ?_⟩
  obtain ⟨e0, e1, e2⟩ := knE_0 r (knS ps un) (knU un) 6
  by_cases q : i = knU un
  · have es : pgS ((nx + 1) % 8) (knU un + 1) i = nx := by unfold pgS; omega
    rw [es]
    subst q
    refine ⟨by rw [uN_s]; exact e0.symm, by rw [uN_s]; exact e1.symm, by rw [uN_s]; exact e2.symm, fun j hj => ?_⟩
    rw [pk_cpy_in (by omega) (by omega), show 0 + (6 * nx + j - nx * 6) = j by omega]
    exact (knE_h r (knS ps un) (knU un) 6 hj).symm
  · have hi2 : i < knU un := by omega
    have es : pgS ((nx + 1) % 8) (knU un + 1) i = pgS nx un (if un = 8 then i + 1 else i) ∧ pgS nx un (if un = 8 then i + 1 else i) ≠ nx ∧ (if un = 8 then i + 1 else i) < un := by
      unfold pgS
      unfold knU at hi2 ⊢
      split at hi2 <;> rename_i q8
      · rw [if_pos q8, if_pos q8]; omega
      · rw [if_neg q8, if_neg q8]; omega
    obtain ⟨es1, es2, es3⟩ := es
    rw [es1, uN_n _ es2, uN_n _ es2, uN_n _ es2]
    obtain ⟨g0, g1, g2, g3⟩ := h3 _ es3
    have kk : ∀ c, c < 9 → knP r ps un (9 * i + c) = ps (9 * (if un = 8 then i + 1 else i) + c) := by
      intro c hc
      show knE r (knS ps un) (knU un) 6 (9 * i + c) = _
      rw [knE_lo _ _ _ _ (by omega)]
      by_cases q8 : un = 8
      · rw [if_pos q8, knS_lo ps q8 (by unfold knU at hi2; rw [if_pos q8] at hi2; exact hi2) hc]
      · rw [if_neg q8, knS_no ps q8]
    have k0 := kk 0 (by decide)
    have k1 := kk 1 (by decide)
    have k2 := kk 2 (by decide)
    refine ⟨g0.trans k0.symm, g1.trans k1.symm, g2.trans k2.symm, fun j hj => ?_⟩
    have k3 := kk (3 + j) (by omega)
    have hb8 : pgS nx un (if un = 8 then i + 1 else i) < 8 := Nat.mod_lt _ (by decide)
    rw [pk_cpy_out (by omega), g3 j hj, show 9 * i + 3 + j = 9 * i + (3 + j) by omega, k3, show 9 * (if un = 8 then i + 1 else i) + 3 + j = 9 * (if un = 8 then i + 1 else i) + (3 + j) by omega]
theorem pg_back {fp fw fd fh : Nat → Nat} {nx un : Nat} {ps : Nat → Nat} (h : pgOK fp fw fd fh nx un ps) (hu : un ≠ 0) : pgOK fp fw fd fh ((nx + 8 - 1) % 8) (un - 1) ps ∧ fp ((nx + 8 - 1) % 8) = ps (9 * (un - 1)) ∧ fw ((nx + 8 - 1) % 8) = ps (9 * (un - 1) + 1) ∧ fd ((nx + 8 - 1) % 8) = ps (9 * (un - 1) + 2) ∧ ∀ j, j < 6 → fh (6 * ((nx + 8 - 1) % 8) + j) = ps (9 * (un - 1) + 3 + j) := by
  obtain ⟨h1, h2, h3⟩ := h
  refine ⟨⟨Nat.mod_lt _ (by decide), by omega, fun i hi => ?_⟩, ?_⟩
  · have es : pgS ((nx + 8 - 1) % 8) (un - 1) i = pgS nx un i := by unfold pgS; omega
    rw [es]
    exact h3 i (by omega)
  · have es : pgS nx un (un - 1) = (nx + 8 - 1) % 8 := by unfold pgS; omega
    have g := h3 (un - 1) (by omega)
    rw [es] at g
    exact g
theorem bkF_at (r ps : Nat → Nat) (u n : Nat) {i : Nat} (h0 : i ≠ 0) (h4 : i ≠ 4) (h5 : i ≠ 5) (h : ∀ p, p < n → i ≠ 7 + 4 * p + 2) : bkF r ps u n i = r i := by
  induction n with
  | zero => show uN (uN (uN r 0 (ps (9 * u))) 4 (ps (9 * u + 1))) 5 (ps (9 * u + 2)) i = r i; rw [uN_n _ h5, uN_n _ h4, uN_n _ h0]
  | succ n ih => show uN (bkF r ps u n) (7 + 4 * n + 2) (ps (9 * u + 3 + n)) i = r i; rw [uN_n _ (h n (Nat.lt_succ_self n))]; exact ih (fun p hp => h p (by omega))
theorem bkF_0 (r ps : Nat → Nat) (u n : Nat) : bkF r ps u n 0 = ps (9 * u) ∧ bkF r ps u n 4 = ps (9 * u + 1) ∧ bkF r ps u n 5 = ps (9 * u + 2) := by
  induction n with
  | zero =>
    show uN (uN (uN r 0 (ps (9 * u))) 4 (ps (9 * u + 1))) 5 (ps (9 * u + 2)) 0 = _ ∧ uN (uN (uN r 0 (ps (9 * u))) 4 (ps (9 * u + 1))) 5 (ps (9 * u + 2)) 4 = _ ∧ uN (uN (uN r 0 (ps (9 * u))) 4 (ps (9 * u + 1))) 5 (ps (9 * u + 2)) 5 = _
    refine ⟨?_, ?_, uN_s _ _ _⟩
    · rw [uN_n _ (by decide), uN_n _ (by decide), uN_s]
    · rw [uN_n _ (by decide), uN_s]
  | succ n ih => show uN (bkF r ps u n) (7 + 4 * n + 2) (ps (9 * u + 3 + n)) 0 = _ ∧ uN (bkF r ps u n) (7 + 4 * n + 2) (ps (9 * u + 3 + n)) 4 = _ ∧ uN (bkF r ps u n) (7 + 4 * n + 2) (ps (9 * u + 3 + n)) 5 = _; rw [uN_n _ (by omega), uN_n _ (by omega), uN_n _ (by omega)]; exact ih
theorem bkF_h (r ps : Nat → Nat) (u n : Nat) {j : Nat} (h : j < n) : bkF r ps u n (7 + 4 * j + 2) = ps (9 * u + 3 + j) := by
  induction n with
  | zero => exact absurd h (Nat.not_lt_zero _)
  | succ n ih =>
    show uN (bkF r ps u n) (7 + 4 * n + 2) (ps (9 * u + 3 + n)) (7 + 4 * j + 2) = _
    by_cases q : j = n
    · subst q; exact uN_s _ _ _
    · rw [uN_n _ (by omega)]; exact ih (by omega)
theorem hp_bk (r ps : Nat → Nat) (u n m : Nat) : hpF (bkF r ps u n) m = hpF r m := hpF_cg (fun j _ => bkF_at _ _ _ _ (by omega) (by omega) (by omega) (fun p _ => by omega))
theorem ch_bk (r ps : Nat → Nat) (u n m : Nat) : chF (bkF r ps u n) m = chF r m := chF_cg (fun j _ => bkF_at _ _ _ _ (by omega) (by omega) (by omega) (fun p _ => by omega))
theorem peH.bk {D : va_G} {ws : va_W} {pf : Nat → Option Nat} {r : Nat → Nat} {H : Heap} (ps : Nat → Nat) (u n : Nat) (h : peH D ws pf r H) : peH D ws pf (bkF r ps u n) H := h.cg (bkF_at _ _ _ _ (by decide) (by decide) (by decide) (fun p _ => by omega)) (fun j _ => ⟨bkF_at _ _ _ _ (by omega) (by omega) (by omega) (fun p _ => by omega), bkF_at _ _ _ _ (by omega) (by omega) (by omega) (fun p _ => by omega)⟩)
theorem kn_min {un : Nat} (h : un ≤ 8) : (if un + 1 < 8 then un + 1 else 8) = knU un + 1 := by
  unfold knU
  split <;> split <;> omega
theorem cpy_all {α : Type} (f g : Nat → α) (n j : Nat) (h : j < n) : va_cpy f g 0 0 n j = f j := by
  rw [pk_cpy_in (Nat.zero_le _) (by omega), show 0 + (j - 0) = j by omega]
/-! rows of a sheet -/
def laP (i n : Int32) (M : Nat) : Prop := ¬ inb i n M
theorem la_sub {i : Int32} {M : Nat} (h0 : ¬ i < 0) (hi : ¬ nI M < i) (hM : M < 2 ^ 30) : (nI M - i).toInt = (M : Int) - i.toInt := by
  obtain ⟨j, hj, rfl⟩ := nI_of h0
  rw [nI_toInt hj]
  have h1 : ¬ M < j := fun q => hi ((nI_ltI (by omega) hj).mpr q)
  exact pk_sub_toInt hM (by omega)
