/-! reading a house: what the class's reader needs -/
theorem b8_n : ∀ n, n < 128 → (nI n).toInt8.toInt32 = nI n := by decide +kernel
theorem kdI_ge (c : Nat) : 0 ≤ kdI c ↔ kdF c ≤ 5 := by
  unfold kdI
  by_cases h : kdF c ≤ 5
  · rw [if_pos h]; exact ⟨fun _ => h, fun _ => nI_pos' (by omega)⟩
  · rw [if_neg h]; exact ⟨fun q => absurd q (by decide), fun q => absurd q h⟩
theorem apt.app {ws X : va_W} {a : Nat} (h : apt ws a) (k : apt X a) : apt (ws ++ X) a := by
  intro i q hq
  by_cases hl : i < ws.length
  · rw [List.getElem?_append_left hl] at hq; exact h i q hq
  · rw [List.getElem?_append_right (by omega)] at hq; exact k _ q hq
/-- whoever lies at pf is apart from the cells X too -/
def pfA (X : va_W) (pf : Nat → Option Nat) : Prop := ∀ j, j < 6 → ∀ a, pf j = some a → apt X a
theorem pfA.up {X : va_W} {pf : Nat → Option Nat} {k b : Nat} (h : pfA X pf) (hb : apt X b) : pfA X (va_up pf k (some b)) := by
  intro j hj a ha
  by_cases q : j = k
  · subst q; rw [va_up_self] at ha; cases ha; exact hb
  · rw [va_up_ne _ _ q] at ha; exact h j hj a ha
theorem peH.toA {D : va_G} {ws X : va_W} {pf : Nat → Option Nat} {r : Nat → Nat} {H : Heap} (h : peH D ws pf r H) (is : List Nat) (hC : is.map (fun i => (ws.map Prod.fst)[i]?) = (X.map Prod.fst).map some) : pfA X pf := fun j hj a ha => (h.1 j hj a ha).1.to is hC
theorem peH.ext {D : va_G} {ws X w1 : va_W} {pf : Nat → Option Nat} {r : Nat → Nat} {H : Heap} (h : peH D ws pf r H) (hX : pfA X pf) (h6 : r 6 ≤ 6) (is : List Nat) (hC : is.map (fun i => ((ws ++ X).map Prod.fst)[i]?) = (w1.map Prod.fst).map some) : peH D w1 pf r H := by
  refine ⟨fun j hj a ha => ?_, fun j hj => ?_⟩
  · obtain ⟨g1, g2⟩ := h.1 j hj a ha
    exact ⟨(g1.app (hX j hj a ha)).to is hC, g2⟩
  · obtain ⟨a, g1, g2, g3⟩ := h.2 j hj
    exact ⟨a, g1, (g2.app (hX j (by omega) a g1)).to is hC, g3⟩
theorem apt.fresh {D : va_G} {ws : va_W} {H : Heap} {q : Nat} (hP : va_P D vwCl ws H) (hq : H.size ≤ q) : apt ws q := fun i x hx e => by have := (hP i x hx).lt; omega
theorem aPer_f {ta : Nat → Nat} {tn : Nat} {q : Nat × Nat} (h : q.1 ≠ 0) : aPer ta tn q = q := by
  have d1 : ∀ lo, aDig ta tn lo q = q := fun lo => by unfold aDig; rw [if_neg h]
  have k1 : aKin ta tn q = q := by unfold aKin; rw [if_neg h]
  show aOpt ta tn 120 (aDig ta tn 0 (aDig ta tn 0 (aDig ta tn 1 (aKin ta tn q)))) = q
  rw [k1, d1, d1, d1]
  unfold aOpt
  rw [if_neg (fun z => h z.1)]
theorem hop_add {f : Nat → Nat} {k t h x : Nat} (hf : ∀ j, j < f 6 → f (7 + 4 * j + 3) ≤ 1) (hx : x ≤ 1) : ∀ j, j < adpR f k t h x 6 → adpR f k t h x (7 + 4 * j + 3) ≤ 1 := by
  intro j hj
  rw [adpR_6] at hj
  by_cases q : j = f 6
  · subst q
    have e : adpR f k t h x (7 + 4 * f 6 + 3) = x := by unfold adpR adpX; rw [uN_n _ (by omega), uN_s]
    rw [e]; exact hx
  · rw [adp_lo (by omega) (by omega)]; exact hf j (by omega)
theorem rp_row {ta : Nat → Nat} {tn pl f9 c2 c3 c4 c5 f2 f3 f4 : Nat} {q : Nat × Nat} {r : Nat → Nat} (h0 : simC ta tn pl f9 q) (h1 : simC ta tn c2 f9 (aP1 ta tn q)) (h2 : simC ta tn c3 f2 (aP2 ta tn q)) (h3 : simC ta tn c4 f3 (aP3 ta tn q)) (h4 : simC ta tn c5 f4 (aP4 ta tn q)) (hz : (aPer ta tn q).1 = 0) : adpR r (kdF (chA ta tn pl)) (dgC ta tn c2 1) (dgC ta tn c3 0 * 10 + dgC ta tn c4 0) (if isC ta tn c5 120 then 0 else 1) = aRow ta tn q r := by
  have z4 : (aP4 ta tn q).1 = 0 := aOpt_0 hz
  have z3 : (aP3 ta tn q).1 = 0 := aDig_0 z4
  have z2 : (aP2 ta tn q).1 = 0 := aDig_0 z3
  have z1 : (aP1 ta tn q).1 = 0 := aDig_0 z2
  have z0 : q.1 = 0 := aKin_0 z1
  have d1 : isD ta tn (aP1 ta tn q).2 1 := aDig_is z2
  have d2 : isD ta tn (aP2 ta tn q).2 0 := aDig_is z3
  have d3 : isD ta tn (aP3 ta tn q).2 0 := aDig_is z4
  have e0 := h0.2.2.1 z0
  have e1 := h1.2.2.1 z1
  have e2 := h2.2.2.1 z2
  have e3 := h3.2.2.1 z3
  have e4 := h4.2.2.1 z4
  have e5 : (if isC ta tn c5 120 then 0 else 1) = aPx ta tn q := by
    unfold aPx
    by_cases hc : isC ta tn c5 120
    · rw [if_pos hc, if_pos ((isC_e e4).mp hc)]
    · rw [if_neg hc, if_neg (fun z => hc ((isC_e e4).mpr z))]
  unfold aRow
  rw [e5, chA_e e0, dgC_V ((isD_e e1).mpr d1), dgV_e 1 e1, dgC_V ((isD_e e2).mpr d2), dgV_e 0 e2, dgC_V ((isD_e e3).mpr d3), dgV_e 0 e3, Nat.mul_comm _ 10]
theorem lo_yes {ta : Nat → Nat} {tn d : Nat} {q : Nat × Nat} {f : Nat → Nat} (h : (aPer ta tn q).1 = 0 ∧ d ≠ 0 ∧ isC ta tn (aPer ta tn q).2 44) : aLoS ta tn (d + 1) q = aLoS ta tn d (aChr ta tn 44 (aPer ta tn q)) ∧ aLoR ta tn (d + 1) q f = aLoR ta tn d (aChr ta tn 44 (aPer ta tn q)) (aRow ta tn q f) := ⟨if_pos h, if_pos h⟩
theorem lo_no {ta : Nat → Nat} {tn d : Nat} {q : Nat × Nat} {f : Nat → Nat} (h : ¬ ((aPer ta tn q).1 = 0 ∧ d ≠ 0 ∧ isC ta tn (aPer ta tn q).2 44)) : aLoS ta tn (d + 1) q = aPer ta tn q ∧ aLoR ta tn (d + 1) q f = aRow ta tn q f := ⟨if_neg h, if_neg h⟩
theorem aEnd_f {ta : Nat → Nat} {tn : Nat} {q : Nat × Nat} (h : q.1 ≠ 0) : aEnd ta tn q = q := if_neg (fun z => h z.1)
theorem aRow_6 (ta : Nat → Nat) (tn : Nat) (q : Nat × Nat) (f : Nat → Nat) : aRow ta tn q f 6 = f 6 + 1 := adpR_6 _ _ _ _ _
/-- people stay behind a callee whose world lies at addresses of ours -/
theorem peH.kept2 {D : va_G} {ws wc : va_W} {pf : Nat → Option Nat} {r : Nat → Nat} {H H1 : Heap} (h : peH D ws pf r H) (is : List Nat) (hC : is.map (fun i => (ws.map Prod.fst)[i]?) = (wc.map Prod.fst).map some) (hk : ∀ q : Nat, q < H.size → ¬ va_A wc H.size q → H1[q]? = H[q]?) : peH D ws pf r H1 := h.mv (fun a hl ha => ⟨ha, hk a hl ((ha.to is hC).nA hl)⟩)
