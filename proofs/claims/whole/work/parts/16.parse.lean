/-! 7 house: THE TAPE ta of tn letters, read. A reader's state: (0, c) at the cursor c; (e + 1, _) the first fault is at e -/
def blF (ta : Nat → Nat) (tn : Nat) : Nat → Nat → Nat
  | 0, c => c
  | f + 1, c => if c < tn ∧ ta c = 32 then blF ta tn f (c + 1) else c
/-- the place behind blanks -/
def blk (ta : Nat → Nat) (tn c : Nat) : Nat := blF ta tn (tn - c) c
theorem blk_go {ta : Nat → Nat} {tn c : Nat} (h : c < tn) (h2 : ta c = 32) : blk ta tn c = blk ta tn (c + 1) := by
  unfold blk
  obtain ⟨f, hf⟩ : ∃ f, tn - c = f + 1 := ⟨tn - c - 1, by omega⟩
  rw [hf, show tn - (c + 1) = f by omega]
  show (if c < tn ∧ ta c = 32 then blF ta tn f (c + 1) else c) = _
  rw [if_pos ⟨h, h2⟩]
theorem blk_end {ta : Nat → Nat} {tn c : Nat} (h : ¬ (c < tn ∧ ta c = 32)) : blk ta tn c = c := by
  unfold blk
  cases hf : tn - c with
  | zero => rfl
  | succ f =>
    show (if c < tn ∧ ta c = 32 then blF ta tn f (c + 1) else c) = c
    rw [if_neg h]
theorem blF_le (ta : Nat → Nat) (tn f c : Nat) : c ≤ blF ta tn f c ∧ (blF ta tn f c ≤ c ∨ blF ta tn f c ≤ tn) := by
  induction f generalizing c with
  | zero => exact ⟨Nat.le_refl _, Or.inl (Nat.le_refl _)⟩
  | succ f ih =>
    show c ≤ (if c < tn ∧ ta c = 32 then blF ta tn f (c + 1) else c) ∧ ((if c < tn ∧ ta c = 32 then blF ta tn f (c + 1) else c) ≤ c ∨ (if c < tn ∧ ta c = 32 then blF ta tn f (c + 1) else c) ≤ tn)
    by_cases h : c < tn ∧ ta c = 32
    · rw [if_pos h]
      obtain ⟨h1, h2⟩ := ih (c + 1)
      exact ⟨by omega, by omega⟩
    · rw [if_neg h]
      exact ⟨Nat.le_refl _, Or.inl (Nat.le_refl _)⟩
theorem blk_le (ta : Nat → Nat) (tn c : Nat) : c ≤ blk ta tn c ∧ (blk ta tn c ≤ c ∨ blk ta tn c ≤ tn) := blF_le ta tn _ c
theorem blk_stop (ta : Nat → Nat) (tn c : Nat) : ¬ (blk ta tn c < tn ∧ ta (blk ta tn c) = 32) := by
  unfold blk
  suffices h : ∀ f c, tn - c ≤ f → ¬ (blF ta tn f c < tn ∧ ta (blF ta tn f c) = 32) from h _ c (Nat.le_refl _)
  intro f
  induction f with
  | zero => intro c hc q; have : c < tn := q.1; omega
  | succ f ih =>
    intro c hc
    show ¬ ((if c < tn ∧ ta c = 32 then blF ta tn f (c + 1) else c) < tn ∧ ta (if c < tn ∧ ta c = 32 then blF ta tn f (c + 1) else c) = 32)
    by_cases h : c < tn ∧ ta c = 32
    · rw [if_pos h]; exact ih (c + 1) (by omega)
    · rw [if_neg h]; exact h
theorem blk_blk (ta : Nat → Nat) (tn c : Nat) : blk ta tn (blk ta tn c) = blk ta tn c := blk_end (blk_stop ta tn c)
abbrev isC (ta : Nat → Nat) (tn c ch : Nat) : Prop := blk ta tn c < tn ∧ ta (blk ta tn c) = ch
abbrev isD (ta : Nat → Nat) (tn c lo : Nat) : Prop := blk ta tn c < tn ∧ 48 + lo ≤ ta (blk ta tn c) ∧ ta (blk ta tn c) ≤ 57
def dgV (ta : Nat → Nat) (tn c lo : Nat) : Nat := if isD ta tn c lo then ta (blk ta tn c) - 48 else 0
def baF (fa fat x : Nat) : Nat := if fa = 0 then x else fat
abbrev dig (ta : Nat → Nat) (tn p : Nat) : Prop := p < tn ∧ 48 ≤ ta p ∧ ta p ≤ 57
def dcF (ta : Nat → Nat) (tn p : Nat) : Nat := if dig ta tn (p + 0) then (if dig ta tn (p + 1) then (if dig ta tn (p + 2) then (if dig ta tn (p + 3) then 4 else 3) else 2) else 1) else 0
def nvF (ta : Nat → Nat) (p : Nat) : Nat → Nat
  | 0 => 0
  | d + 1 => 10 * nvF ta p d + ta (p + d) - 48
theorem dcF_is {ta : Nat → Nat} {tn p d : Nat} (h : ∀ i, i < d → dig ta tn (p + i)) (h4 : d ≤ 4) (he : d = 4 ∨ ¬ dig ta tn (p + d)) : dcF ta tn p = d := by
  unfold dcF
  rcases (show d = 0 ∨ d = 1 ∨ d = 2 ∨ d = 3 ∨ d = 4 by omega) with rfl | rfl | rfl | rfl | rfl
  · rw [if_neg (he.resolve_left (by decide))]
  · rw [if_pos (h 0 (by decide)), if_neg (he.resolve_left (by decide))]
  · rw [if_pos (h 0 (by decide)), if_pos (h 1 (by decide)), if_neg (he.resolve_left (by decide))]
  · rw [if_pos (h 0 (by decide)), if_pos (h 1 (by decide)), if_pos (h 2 (by decide)), if_neg (he.resolve_left (by decide))]
  · rw [if_pos (h 0 (by decide)), if_pos (h 1 (by decide)), if_pos (h 2 (by decide)), if_pos (h 3 (by decide))]
theorem dcF_le (ta : Nat → Nat) (tn p : Nat) : dcF ta tn p ≤ 4 := by
  unfold dcF
  repeat' split
  all_goals omega
theorem nvF_le {ta : Nat → Nat} {tn p d : Nat} (h : ∀ i, i < d → dig ta tn (p + i)) : nvF ta p d < 10 ^ d := by
  induction d with
  | zero => exact Nat.one_pos
  | succ d ih =>
    have h1 := ih (fun i hi => h i (by omega))
    have h2 := h d (Nat.lt_succ_self d)
    have h3 : 10 ^ (d + 1) = 10 * 10 ^ d := by rw [Nat.pow_succ]; omega
    show 10 * nvF ta p d + ta (p + d) - 48 < _
    omega
theorem p10_le {d : Nat} (h : d ≤ 4) : 10 ^ d ≤ 10000 := by
  rcases (show d = 0 ∨ d = 1 ∨ d = 2 ∨ d = 3 ∨ d = 4 by omega) with rfl | rfl | rfl | rfl | rfl <;> decide
def kdF (c : Nat) : Nat := if c = 112 then 0 else if c = 98 then 1 else if c = 103 then 2 else if c = 104 then 3 else if c = 115 then 4 else if c = 99 then 5 else 4294967292
def chA (ta : Nat → Nat) (tn c : Nat) : Nat := if blk ta tn c < tn then ta (blk ta tn c) else 0
/-! the abstract reader -/
def aChr (ta : Nat → Nat) (tn ch : Nat) (q : Nat × Nat) : Nat × Nat := if q.1 = 0 then (if isC ta tn q.2 ch then (0, blk ta tn q.2 + 1) else (blk ta tn q.2 + 1, 0)) else q
def aDig (ta : Nat → Nat) (tn lo : Nat) (q : Nat × Nat) : Nat × Nat := if q.1 = 0 then (if isD ta tn q.2 lo then (0, blk ta tn q.2 + 1) else (blk ta tn q.2 + 1, 0)) else q
def nuV (ta : Nat → Nat) (tn c : Nat) : Nat := nvF ta (blk ta tn c) (dcF ta tn (blk ta tn c))
def aNum (ta : Nat → Nat) (tn hi : Nat) (q : Nat × Nat) : Nat × Nat := if q.1 = 0 then (if 1 ≤ nuV ta tn q.2 ∧ nuV ta tn q.2 ≤ hi then (0, blk ta tn q.2 + dcF ta tn (blk ta tn q.2)) else (blk ta tn q.2 + 1, 0)) else q
def aKin (ta : Nat → Nat) (tn : Nat) (q : Nat × Nat) : Nat × Nat := if q.1 = 0 then (if kdF (chA ta tn q.2) ≤ 5 then (0, blk ta tn q.2 + 1) else (blk ta tn q.2 + 1, 0)) else q
def aOpt (ta : Nat → Nat) (tn ch : Nat) (q : Nat × Nat) : Nat × Nat := if q.1 = 0 ∧ isC ta tn q.2 ch then (0, blk ta tn q.2 + 1) else q
def aP1 (ta : Nat → Nat) (tn : Nat) (q : Nat × Nat) : Nat × Nat := aKin ta tn q
def aP2 (ta : Nat → Nat) (tn : Nat) (q : Nat × Nat) : Nat × Nat := aDig ta tn 1 (aP1 ta tn q)
def aP3 (ta : Nat → Nat) (tn : Nat) (q : Nat × Nat) : Nat × Nat := aDig ta tn 0 (aP2 ta tn q)
def aP4 (ta : Nat → Nat) (tn : Nat) (q : Nat × Nat) : Nat × Nat := aDig ta tn 0 (aP3 ta tn q)
def aPer (ta : Nat → Nat) (tn : Nat) (q : Nat × Nat) : Nat × Nat := aOpt ta tn 120 (aP4 ta tn q)
def aPx (ta : Nat → Nat) (tn : Nat) (q : Nat × Nat) : Nat := if isC ta tn (aP4 ta tn q).2 120 then 0 else 1
/-- one more, of KIND k, TEMPER t, HABIT h, who HOPES or not -/
def adpX (f : Nat → Nat) (k t h x : Nat) : Nat → Nat := uN (uN (uN (uN f (7 + 4 * f 6) k) (7 + 4 * f 6 + 1) t) (7 + 4 * f 6 + 2) h) (7 + 4 * f 6 + 3) x
def adpR (f : Nat → Nat) (k t h x : Nat) : Nat → Nat := uN (adpX f k t h x) 6 ((adpX f k t h x) 6 + 1)
def aRow (ta : Nat → Nat) (tn : Nat) (q : Nat × Nat) (f : Nat → Nat) : Nat → Nat := adpR f (kdF (chA ta tn q.2)) (dgV ta tn (aP1 ta tn q).2 1) (10 * dgV ta tn (aP2 ta tn q).2 0 + dgV ta tn (aP3 ta tn q).2 0) (aPx ta tn q)
/-- PEOPLE, at most k of them -/
def aLoS (ta : Nat → Nat) (tn : Nat) : Nat → (Nat × Nat) → (Nat × Nat)
  | 0, q => q
  | k + 1, q => if (aPer ta tn q).1 = 0 ∧ k ≠ 0 ∧ isC ta tn (aPer ta tn q).2 44 then aLoS ta tn k (aChr ta tn 44 (aPer ta tn q)) else aPer ta tn q
def aLoR (ta : Nat → Nat) (tn : Nat) : Nat → (Nat × Nat) → (Nat → Nat) → (Nat → Nat)
  | 0, _, f => f
  | k + 1, q, f => if (aPer ta tn q).1 = 0 ∧ k ≠ 0 ∧ isC ta tn (aPer ta tn q).2 44 then aLoR ta tn k (aChr ta tn 44 (aPer ta tn q)) (aRow ta tn q f) else aRow ta tn q f
def aH1 (ta : Nat → Nat) (tn : Nat) : Nat × Nat := aNum ta tn 9999 (0, 0)
def aH2 (ta : Nat → Nat) (tn : Nat) : Nat × Nat := aChr ta tn 44 (aH1 ta tn)
def aH3 (ta : Nat → Nat) (tn : Nat) : Nat × Nat := aNum ta tn 100 (aH2 ta tn)
def aH4 (ta : Nat → Nat) (tn : Nat) : Nat × Nat := aChr ta tn 44 (aH3 ta tn)
def aH5 (ta : Nat → Nat) (tn : Nat) : Nat × Nat := aDig ta tn 0 (aH4 ta tn)
def aH6 (ta : Nat → Nat) (tn : Nat) : Nat × Nat := aChr ta tn 59 (aH5 ta tn)
def aF0 (ta : Nat → Nat) (tn : Nat) : Nat → Nat := uN (uN (uN (fun _ => 0) 1 (nuV ta tn 0)) 2 (nuV ta tn (aH2 ta tn).2)) 3 (dgV ta tn (aH4 ta tn).2 0)
def aH7 (ta : Nat → Nat) (tn : Nat) : Nat × Nat := if (aH6 ta tn).1 = 0 then aLoS ta tn 6 (aH6 ta tn) else aH6 ta tn
def aEnd (ta : Nat → Nat) (tn : Nat) (q : Nat × Nat) : Nat × Nat := if q.1 = 0 ∧ blk ta tn q.2 < tn then (blk ta tn q.2 + 1, 0) else q
def aHS (ta : Nat → Nat) (tn : Nat) : Nat × Nat := aEnd ta tn (aH7 ta tn)
def aHR (ta : Nat → Nat) (tn : Nat) : Nat → Nat := aLoR ta tn 6 (aH6 ta tn) (aF0 ta tn)
def hsRel (ta : Nat → Nat) (tn : Nat) (r : Nat → Nat) (un : Nat) (r1 : Nat → Nat) (un1 : Nat) (v : Int32) : Prop :=
  ((aHS ta tn).1 ≠ 0 → r1 = r ∧ un1 = un ∧ v = -20 - nI ((aHS ta tn).1 - 1)) ∧ ((aHS ta tn).1 = 0 → r1 = uN (aHR ta tn) 5 (r 5) ∧ un1 = 0 ∧ v = nI (aHR ta tn 6))
def tOK (ta : Nat → Nat) (tn : Nat) : Prop := tn ≤ 60 ∧ ∀ i, i < tn → 32 ≤ ta i ∧ ta i ≤ 126
theorem dc_tn {ta : Nat → Nat} {tn p : Nat} (h : p ≤ tn) : p + dcF ta tn p ≤ tn := by
  unfold dcF
  repeat' split
  all_goals omega
theorem kd_le (c : Nat) : kdF c ≤ 5 ∨ kdF c = 4294967292 := by
  unfold kdF
  repeat' split
  all_goals omega
theorem kd_0 : ¬ kdF 0 ≤ 5 := by decide
theorem kd_neg (c : Nat) : nI (kdF c) = -4 ↔ ¬ kdF c ≤ 5 := by
  rcases kd_le c with h | h
  · constructor
    · intro q
      have h1 := congrArg Int32.toInt q
      rw [nI_toInt (by omega), show ((-4 : Int32)).toInt = -4 from by decide] at h1
      omega
    · intro q; exact absurd h q
  · rw [h]
    constructor
    · intro _; decide
    · intro _; decide +kernel
/-- a reader's fault: where P fails, at x -/
def muRel (P : Prop) (fa fat x fa1 fat1 : Nat) : Prop := (P → fa1 = fa ∧ fat1 = fat) ∧ (¬ P → fa1 = 1 ∧ fat1 = baF fa fat x)
theorem mu_ex (P : Prop) (fa fat x : Nat) (h : fa ≤ 1) : ∃ fa1 fat1, muRel P fa fat x fa1 fat1 ∧ fa1 ≤ 1 := by
  rcases Classical.em P with q | q
  · exact ⟨fa, fat, ⟨fun _ => ⟨rfl, rfl⟩, fun z => absurd q z⟩, h⟩
  · exact ⟨1, baF fa fat x, ⟨fun z => absurd z q, fun _ => ⟨rfl, rfl⟩⟩, Nat.le_refl _⟩
theorem chA_e {ta : Nat → Nat} {tn c c1 : Nat} (h : blk ta tn c = blk ta tn c1) : chA ta tn c = chA ta tn c1 := by unfold chA; rw [h]
theorem nuV_e {ta : Nat → Nat} {tn c c1 : Nat} (h : blk ta tn c = blk ta tn c1) : nuV ta tn c = nuV ta tn c1 := by unfold nuV; rw [h]
theorem dgV_e {ta : Nat → Nat} {tn c c1 : Nat} (lo : Nat) (h : blk ta tn c = blk ta tn c1) : dgV ta tn c lo = dgV ta tn c1 lo := by unfold dgV isD; rw [h]
theorem isC_e {ta : Nat → Nat} {tn c c1 ch : Nat} (h : blk ta tn c = blk ta tn c1) : isC ta tn c ch ↔ isC ta tn c1 ch := by unfold isC; rw [h]
theorem isD_e {ta : Nat → Nat} {tn c c1 lo : Nat} (h : blk ta tn c = blk ta tn c1) : isD ta tn c lo ↔ isD ta tn c1 lo := by unfold isD; rw [h]
/-- the reference's reader against the abstract one -/
def simM (ta : Nat → Nat) (tn cu fa fat : Nat) (q : Nat × Nat) : Prop := (q.1 = 0 → fa = 0 ∧ blk ta tn cu = blk ta tn q.2 ∧ cu ≤ tn) ∧ (q.1 ≠ 0 → fa = 1 ∧ fat + 1 = q.1) ∧ q.1 ≤ tn + 1
theorem simM.fa {ta : Nat → Nat} {tn cu fa fat : Nat} {q : Nat × Nat} (h : simM ta tn cu fa fat q) : fa ≤ 1 ∧ (fa = 0 ↔ q.1 = 0) := by
  by_cases h0 : q.1 = 0
  · have := (h.1 h0).1; omega
  · have := (h.2.1 h0).1; omega
theorem simM.step {ta : Nat → Nat} {tn cu fa fat cu1 fa1 fat1 x c1 : Nat} {q q1 : Nat × Nat} {P : Prop} (h : simM ta tn cu fa fat q) (hm : muRel P fa fat x fa1 fat1) (hx : q.1 = 0 → x ≤ tn) (hq0 : q.1 = 0 → P → q1 = (0, c1)) (hq1 : q.1 = 0 → ¬ P → q1 = (x + 1, 0)) (hq2 : q.1 ≠ 0 → q1 = q) (hy : q.1 = 0 → P → cu1 = c1 ∧ c1 ≤ tn) : simM ta tn cu1 fa1 fat1 q1 := by
  by_cases h0 : q.1 = 0
  · have hfa := (h.1 h0).1
    have hx' := hx h0
    by_cases hP : P
    · obtain ⟨g1, g2⟩ := hy h0 hP
      obtain ⟨g3, g4⟩ := hm.1 hP
      rw [hq0 h0 hP]
      exact ⟨fun _ => ⟨by omega, by rw [g1], by omega⟩, fun z => absurd rfl z, by show 0 ≤ tn + 1; omega⟩
    · obtain ⟨g1, g2⟩ := hm.2 hP
      rw [hq1 h0 hP]
      refine ⟨fun z => absurd z (by show ¬ x + 1 = 0; omega), fun _ => ⟨g1, ?_⟩, by show x + 1 ≤ tn + 1; omega⟩
      show fat1 + 1 = x + 1
      rw [g2]; unfold baF; rw [if_pos hfa]
  · rw [hq2 h0]
    obtain ⟨k1, k2⟩ := h.2.1 h0
    refine ⟨fun z => absurd z h0, fun _ => ?_, h.2.2⟩
    by_cases hP : P
    · obtain ⟨g3, g4⟩ := hm.1 hP; exact ⟨by omega, by omega⟩
    · obtain ⟨g3, g4⟩ := hm.2 hP
      refine ⟨g3, ?_⟩
      rw [g4]; unfold baF; rw [if_neg (by omega)]; exact k2
theorem sim_blk {ta : Nat → Nat} {tn cu fa fat : Nat} {q : Nat × Nat} (h : simM ta tn cu fa fat q) (h0 : q.1 = 0) : blk ta tn cu ≤ tn ∧ blk ta tn cu = blk ta tn q.2 := by
  obtain ⟨g1, g2, g3⟩ := h.1 h0
  have := blk_le ta tn cu
  exact ⟨by omega, g2⟩
theorem sim_must {ta : Nat → Nat} {tn cu fa fat fa1 fat1 ch : Nat} {q : Nat × Nat} (h : simM ta tn cu fa fat q) (hm : muRel (fa = 0 ∧ isC ta tn cu ch) fa fat (blk ta tn cu) fa1 fat1) : simM ta tn (blk ta tn cu + 1) fa1 fat1 (aChr ta tn ch q) := by
  refine h.step (c1 := blk ta tn cu + 1) hm (fun h0 => (sim_blk h h0).1) ?_ ?_ ?_ ?_
  · intro h0 hP
    unfold aChr
    rw [if_pos h0, if_pos ((isC_e (sim_blk h h0).2).mp hP.2), (sim_blk h h0).2]
  · intro h0 hP
    unfold aChr
    rw [if_pos h0, if_neg (fun z => hP ⟨(h.1 h0).1, (isC_e (sim_blk h h0).2).mpr z⟩), (sim_blk h h0).2]
  · intro h0; unfold aChr; rw [if_neg h0]
  · intro h0 hP; exact ⟨rfl, hP.2.1⟩
theorem sim_dig {ta : Nat → Nat} {tn cu fa fat fa1 fat1 lo : Nat} {q : Nat × Nat} (h : simM ta tn cu fa fat q) (hm : muRel (isD ta tn cu lo) fa fat (blk ta tn cu) fa1 fat1) : simM ta tn (blk ta tn cu + 1) fa1 fat1 (aDig ta tn lo q) := by
  refine h.step (c1 := blk ta tn cu + 1) hm (fun h0 => (sim_blk h h0).1) ?_ ?_ ?_ ?_
  · intro h0 hP
    unfold aDig
    rw [if_pos h0, if_pos ((isD_e (sim_blk h h0).2).mp hP), (sim_blk h h0).2]
  · intro h0 hP
    unfold aDig
    rw [if_pos h0, if_neg (fun z => hP ((isD_e (sim_blk h h0).2).mpr z)), (sim_blk h h0).2]
  · intro h0; unfold aDig; rw [if_neg h0]
  · intro h0 hP; exact ⟨rfl, hP.1⟩
theorem sim_num {ta : Nat → Nat} {tn cu fa fat fa1 fat1 hi : Nat} {q : Nat × Nat} (h : simM ta tn cu fa fat q) (hm : muRel (1 ≤ nuV ta tn cu ∧ nuV ta tn cu ≤ hi) fa fat (blk ta tn cu) fa1 fat1) : simM ta tn (blk ta tn cu + dcF ta tn (blk ta tn cu)) fa1 fat1 (aNum ta tn hi q) := by
  refine h.step (c1 := blk ta tn cu + dcF ta tn (blk ta tn cu)) hm (fun h0 => (sim_blk h h0).1) ?_ ?_ ?_ ?_
  · intro h0 hP
    rw [nuV_e (sim_blk h h0).2] at hP
    unfold aNum
    rw [if_pos h0, if_pos hP, (sim_blk h h0).2]
  · intro h0 hP
    rw [nuV_e (sim_blk h h0).2] at hP
    unfold aNum
    rw [if_pos h0, if_neg hP, (sim_blk h h0).2]
  · intro h0; unfold aNum; rw [if_neg h0]
  · intro h0 hP; exact ⟨rfl, dc_tn (sim_blk h h0).1⟩
theorem kd_tn {ta : Nat → Nat} {tn c : Nat} (h : kdF (chA ta tn c) ≤ 5) : blk ta tn c < tn := by
  by_cases hl : blk ta tn c < tn
  · exact hl
  · unfold chA at h; rw [if_neg hl] at h; exact absurd h kd_0
theorem sim_kin {ta : Nat → Nat} {tn cu fa fat fa1 fat1 : Nat} {q : Nat × Nat} (h : simM ta tn cu fa fat q) (hm : muRel (kdF (chA ta tn cu) ≤ 5) fa fat (blk ta tn cu) fa1 fat1) : simM ta tn (blk ta tn cu + 1) fa1 fat1 (aKin ta tn q) := by
  refine h.step (c1 := blk ta tn cu + 1) hm (fun h0 => (sim_blk h h0).1) ?_ ?_ ?_ ?_
  · intro h0 hP
    rw [chA_e (sim_blk h h0).2] at hP
    unfold aKin
    rw [if_pos h0, if_pos hP, (sim_blk h h0).2]
  · intro h0 hP
    rw [chA_e (sim_blk h h0).2] at hP
    unfold aKin
    rw [if_pos h0, if_neg hP, (sim_blk h h0).2]
  · intro h0; unfold aKin; rw [if_neg h0]
  · intro h0 hP; exact ⟨rfl, kd_tn hP⟩
theorem sim_opt1 {ta : Nat → Nat} {tn cu fa fat ch : Nat} {q : Nat × Nat} (h : simM ta tn cu fa fat q) (hc : fa = 0 ∧ isC ta tn cu ch) : simM ta tn (blk ta tn cu + 1) fa fat (aOpt ta tn ch q) := by
  have h0 : q.1 = 0 := h.fa.2.mp hc.1
  unfold aOpt
  rw [if_pos ⟨h0, (isC_e (sim_blk h h0).2).mp hc.2⟩]
  exact ⟨fun _ => ⟨hc.1, by rw [(sim_blk h h0).2], hc.2.1⟩, fun z => absurd rfl z, by show 0 ≤ tn + 1; omega⟩
theorem sim_to {ta : Nat → Nat} {tn cu fa fat : Nat} {q : Nat × Nat} (h : simM ta tn cu fa fat q) : simM ta tn (blk ta tn cu) fa fat q := by
  refine ⟨fun h0 => ?_, h.2.1, h.2.2⟩
  obtain ⟨g1, g2, g3⟩ := h.1 h0
  exact ⟨g1, by rw [blk_blk, g2], (sim_blk h h0).1⟩
theorem sim_opt0 {ta : Nat → Nat} {tn cu fa fat ch : Nat} {q : Nat × Nat} (h : simM ta tn cu fa fat q) (hc : ¬ (fa = 0 ∧ isC ta tn cu ch)) : simM ta tn (blk ta tn cu) fa fat (aOpt ta tn ch q) := by
  unfold aOpt
  rw [if_neg (fun z => hc ⟨h.fa.2.mpr z.1, (isC_e (sim_blk h z.1).2).mpr z.2⟩)]
  exact sim_to h
theorem aDig_0 {ta : Nat → Nat} {tn lo : Nat} {q : Nat × Nat} (h : (aDig ta tn lo q).1 = 0) : q.1 = 0 := by
  by_cases h0 : q.1 = 0
  · exact h0
  · unfold aDig at h; rw [if_neg h0] at h; exact h
theorem aKin_0 {ta : Nat → Nat} {tn : Nat} {q : Nat × Nat} (h : (aKin ta tn q).1 = 0) : q.1 = 0 := by
  by_cases h0 : q.1 = 0
  · exact h0
  · unfold aKin at h; rw [if_neg h0] at h; exact h
theorem aOpt_0 {ta : Nat → Nat} {tn ch : Nat} {q : Nat × Nat} (h : (aOpt ta tn ch q).1 = 0) : q.1 = 0 := by
  by_cases h0 : q.1 = 0
  · exact h0
  · unfold aOpt at h; rw [if_neg (fun z => h0 z.1)] at h; exact h
theorem aChr_0 {ta : Nat → Nat} {tn ch : Nat} {q : Nat × Nat} (h : (aChr ta tn ch q).1 = 0) : q.1 = 0 := by
  by_cases h0 : q.1 = 0
  · exact h0
  · unfold aChr at h; rw [if_neg h0] at h; exact h
theorem aNum_0 {ta : Nat → Nat} {tn hi : Nat} {q : Nat × Nat} (h : (aNum ta tn hi q).1 = 0) : q.1 = 0 := by
  by_cases h0 : q.1 = 0
  · exact h0
  · unfold aNum at h; rw [if_neg h0] at h; exact h
theorem adpX_6 (f : Nat → Nat) (k t h x : Nat) : adpX f k t h x 6 = f 6 := by
  unfold adpX
  rw [uN_n _ (by omega), uN_n _ (by omega), uN_n _ (by omega), uN_n _ (by omega)]
theorem adpR_6 (f : Nat → Nat) (k t h x : Nat) : adpR f k t h x 6 = f 6 + 1 := by
  unfold adpR
  rw [uN_s, adpX_6]
