/-! HOUSE: what is read is as it must be -/
section EX7
variable {ta : Nat → Nat} {tn : Nat}
theorem aDig_z {lo : Nat} {q : Nat × Nat} (h : (aDig ta tn lo q).1 = 0) : q.1 = 0 ∧ isD ta tn q.2 lo := by
  unfold aDig at h
  by_cases h0 : q.1 = 0
  · refine ⟨h0, ?_⟩
    rw [if_pos h0] at h
    by_cases h1 : isD ta tn q.2 lo
    · exact h1
    · rw [if_neg h1] at h; exact absurd h (Nat.succ_ne_zero _)
  · rw [if_neg h0] at h; exact absurd h h0
theorem aNum_z {hi : Nat} {q : Nat × Nat} (h : (aNum ta tn hi q).1 = 0) : q.1 = 0 ∧ 1 ≤ nuV ta tn q.2 ∧ nuV ta tn q.2 ≤ hi := by
  unfold aNum at h
  by_cases h0 : q.1 = 0
  · refine ⟨h0, ?_⟩
    rw [if_pos h0] at h
    by_cases h1 : 1 ≤ nuV ta tn q.2 ∧ nuV ta tn q.2 ≤ hi
    · exact h1
    · rw [if_neg h1] at h; exact absurd h (Nat.succ_ne_zero _)
  · rw [if_neg h0] at h; exact absurd h h0
theorem aKin_z {q : Nat × Nat} (h : (aKin ta tn q).1 = 0) : q.1 = 0 ∧ kdF (chA ta tn q.2) ≤ 5 := by
  unfold aKin at h
  by_cases h0 : q.1 = 0
  · refine ⟨h0, ?_⟩
    rw [if_pos h0] at h
    by_cases h1 : kdF (chA ta tn q.2) ≤ 5
    · exact h1
    · rw [if_neg h1] at h; exact absurd h (Nat.succ_ne_zero _)
  · rw [if_neg h0] at h; exact absurd h h0
theorem aPer_z {q : Nat × Nat} (h : (aPer ta tn q).1 = 0) : kdF (chA ta tn q.2) ≤ 5 ∧ isD ta tn (aP1 ta tn q).2 1 ∧ isD ta tn (aP2 ta tn q).2 0 ∧ isD ta tn (aP3 ta tn q).2 0 := by
  have h4 : (aP4 ta tn q).1 = 0 := by
    unfold aPer aOpt at h
    by_cases c : (aP4 ta tn q).1 = 0 ∧ isC ta tn (aP4 ta tn q).2 120
    · exact c.1
    · rw [if_neg c] at h; exact h
  obtain ⟨h3, d3⟩ := aDig_z (q := aP3 ta tn q) h4
  obtain ⟨h2, d2⟩ := aDig_z (q := aP2 ta tn q) h3
  obtain ⟨h1, d1⟩ := aDig_z (q := aP1 ta tn q) h2
  exact ⟨(aKin_z h1).2, d1, d2, d3⟩
theorem dgV_z {c lo : Nat} (h : isD ta tn c lo) : lo ≤ dgV ta tn c lo ∧ dgV ta tn c lo ≤ 9 := by
  unfold dgV
  rw [if_pos h]
  obtain ⟨-, a, b⟩ := h
  omega
theorem adp_new (f : Nat → Nat) (k t h x : Nat) : adpR f k t h x (7 + 4 * f 6 + 0) = k ∧ adpR f k t h x (7 + 4 * f 6 + 1) = t ∧ adpR f k t h x (7 + 4 * f 6 + 2) = h ∧ adpR f k t h x (7 + 4 * f 6 + 3) = x := by
  unfold adpR adpX
  refine ⟨?_, ?_, ?_, ?_⟩
  · rw [uN_n _ (by omega), uN_n _ (by omega), uN_n _ (by omega), uN_n _ (by omega)]; exact uN_s _ _ _
  · rw [uN_n _ (by omega), uN_n _ (by omega), uN_n _ (by omega), uN_s]
  · rw [uN_n _ (by omega), uN_n _ (by omega), uN_s]
  · rw [uN_n _ (by omega), uN_s]
theorem adp_hi {f : Nat → Nat} {k t h x i : Nat} (h1 : 7 + 4 * f 6 + 3 < i) : adpR f k t h x i = f i := by
  unfold adpR adpX; rw [uN_n _ (by omega), uN_n _ (by omega), uN_n _ (by omega), uN_n _ (by omega), uN_n _ (by omega)]
theorem adp_ok {w : Nat} {r : Nat → Nat} {k t h x : Nat} (ok : rOK w r) (h6 : r 6 < 6) (hk : k ≤ 5) (ht : 1 ≤ t) (ht2 : t ≤ 9) (hh : h ≤ 99) (hx9 : x ≤ 1) : rOK w (adpR r k t h x) := by
  obtain ⟨o0, o1, o1b, o2, o2b, o3, o4, o5, o6, oP⟩ := ok
  unfold rOK
  rw [adp_lo (f := r) (i := 0) (by omega) (by decide), adp_lo (f := r) (i := 1) (by omega) (by decide), adp_lo (f := r) (i := 2) (by omega) (by decide), adp_lo (f := r) (i := 3) (by omega) (by decide), adp_lo (f := r) (i := 4) (by omega) (by decide), adp_lo (f := r) (i := 5) (by omega) (by decide), adpR_6]
  refine ⟨o0, o1, o1b, o2, o2b, o3, o4, o5, by omega, fun p hp => ?_⟩
  by_cases hq : p = r 6
  · subst hq
    obtain ⟨n0, n1, n2, n3⟩ := adp_new r k t h x
    rw [n0, n1, n2, n3]
    exact ⟨hk, ht, ht2, hh, hx9⟩
  · rw [adp_lo (f := r) (i := 7 + 4 * p + 0) (by omega) (by omega), adp_lo (f := r) (i := 7 + 4 * p + 1) (by omega) (by omega), adp_lo (f := r) (i := 7 + 4 * p + 2) (by omega) (by omega), adp_lo (f := r) (i := 7 + 4 * p + 3) (by omega) (by omega)]
    exact oP p (by omega)
theorem aRow_ok {w : Nat} {f : Nat → Nat} {q : Nat × Nat} (ok : rOK w f) (h6 : f 6 < 6) (h : (aPer ta tn q).1 = 0) : rOK w (aRow ta tn q f) := by
  obtain ⟨a, b, c, d⟩ := aPer_z h
  have b1 := dgV_z b
  have c1 := dgV_z c
  have d1 := dgV_z d
  unfold aRow
  refine adp_ok ok h6 a b1.1 b1.2 (by omega) ?_
  unfold aPx
  split <;> omega
theorem aLo_ok {w : Nat} : ∀ (k : Nat) (q : Nat × Nat) (f : Nat → Nat), rOK w f → 1 ≤ k → f 6 + k ≤ 6 → (aLoS ta tn k q).1 = 0 → rOK w (aLoR ta tn k q f) := by
  intro k
  induction k with
  | zero => intro q f _ h; exact absurd h (by decide)
  | succ k ih =>
    intro q f ok _ h6 h
    have h' : (if (aPer ta tn q).1 = 0 ∧ k ≠ 0 ∧ isC ta tn (aPer ta tn q).2 44 then aLoS ta tn k (aChr ta tn 44 (aPer ta tn q)) else aPer ta tn q).1 = 0 := h
    show rOK w (if (aPer ta tn q).1 = 0 ∧ k ≠ 0 ∧ isC ta tn (aPer ta tn q).2 44 then aLoR ta tn k (aChr ta tn 44 (aPer ta tn q)) (aRow ta tn q f) else aRow ta tn q f)
    by_cases c : (aPer ta tn q).1 = 0 ∧ k ≠ 0 ∧ isC ta tn (aPer ta tn q).2 44
    · rw [if_pos c] at h' ⊢
      exact ih _ _ (aRow_ok ok (by omega) c.1) (by omega) (by unfold aRow; rw [adpR_6]; omega) h'
    · rw [if_neg c] at h' ⊢
      exact aRow_ok ok (by omega) h'
theorem aLo_ag : ∀ (k : Nat) (q : Nat × Nat) (f fc : Nat → Nat), Ag f fc → Ag (aLoR ta tn k q f) (aLoR ta tn k q fc) := by
  intro k
  induction k with
  | zero => intro q f fc h; exact h
  | succ k ih =>
    intro q f fc h
    show Ag (if (aPer ta tn q).1 = 0 ∧ k ≠ 0 ∧ isC ta tn (aPer ta tn q).2 44 then aLoR ta tn k (aChr ta tn 44 (aPer ta tn q)) (aRow ta tn q f) else aRow ta tn q f) (if (aPer ta tn q).1 = 0 ∧ k ≠ 0 ∧ isC ta tn (aPer ta tn q).2 44 then aLoR ta tn k (aChr ta tn 44 (aPer ta tn q)) (aRow ta tn q fc) else aRow ta tn q fc)
    by_cases c : (aPer ta tn q).1 = 0 ∧ k ≠ 0 ∧ isC ta tn (aPer ta tn q).2 44
    · rw [if_pos c, if_pos c]; exact ih _ _ _ (h.adp _ _ _ _)
    · rw [if_neg c, if_neg c]; exact h.adp _ _ _ _
theorem adp_5 (f : Nat → Nat) (k t h x v : Nat) : adpR (uN f 5 v) k t h x = uN (adpR f k t h x) 5 v := by
  have e6 : uN f 5 v 6 = f 6 := uN_n _ (by decide)
  obtain ⟨a0, a1, a2, a3⟩ := adp_new (uN f 5 v) k t h x
  obtain ⟨b0, b1, b2, b3⟩ := adp_new f k t h x
  rw [e6] at a0 a1 a2 a3
  funext i
  by_cases q : i = 5
  · subst q; rw [uN_s, adp_lo (by rw [e6]; omega) (by decide), uN_s]
  · rw [uN_n _ q]
    by_cases q6 : i = 6
    · subst q6; rw [adpR_6, adpR_6, e6]
    · by_cases c : i < 7 + 4 * f 6
      · rw [adp_lo (by rw [e6]; exact c) q6, adp_lo c q6, uN_n _ q]
      · by_cases c4 : 7 + 4 * f 6 + 3 < i
        · rw [adp_hi (by rw [e6]; exact c4), adp_hi c4, uN_n _ q]
        · rcases (show i = 7 + 4 * f 6 + 0 ∨ i = 7 + 4 * f 6 + 1 ∨ i = 7 + 4 * f 6 + 2 ∨ i = 7 + 4 * f 6 + 3 by omega) with e | e | e | e
          · rw [e, a0, b0]
          · rw [e, a1, b1]
          · rw [e, a2, b2]
          · rw [e, a3, b3]
theorem aLo_5 : ∀ (k : Nat) (q : Nat × Nat) (f : Nat → Nat) (v : Nat), aLoR ta tn k q (uN f 5 v) = uN (aLoR ta tn k q f) 5 v := by
  intro k
  induction k with
  | zero => intro q f v; rfl
  | succ k ih =>
    intro q f v
    show (if (aPer ta tn q).1 = 0 ∧ k ≠ 0 ∧ isC ta tn (aPer ta tn q).2 44 then aLoR ta tn k (aChr ta tn 44 (aPer ta tn q)) (aRow ta tn q (uN f 5 v)) else aRow ta tn q (uN f 5 v)) = uN (if (aPer ta tn q).1 = 0 ∧ k ≠ 0 ∧ isC ta tn (aPer ta tn q).2 44 then aLoR ta tn k (aChr ta tn 44 (aPer ta tn q)) (aRow ta tn q f) else aRow ta tn q f) 5 v
    have e : aRow ta tn q (uN f 5 v) = uN (aRow ta tn q f) 5 v := adp_5 _ _ _ _ _ _
    rw [e]
    by_cases c : (aPer ta tn q).1 = 0 ∧ k ≠ 0 ∧ isC ta tn (aPer ta tn q).2 44
    · rw [if_pos c, if_pos c, ih]
    · rw [if_neg c, if_neg c]
theorem aF0_ok (h : (aH6 ta tn).1 = 0) {v : Nat} (hv : v < 2147483648) : rOK 9999 (uN (aF0 ta tn) 5 v) := by
  have h5 : (aH5 ta tn).1 = 0 := aChr_0 (q := aH5 ta tn) h
  obtain ⟨h4, d4⟩ := aDig_z (q := aH4 ta tn) h5
  have h3 : (aH3 ta tn).1 = 0 := aChr_0 (q := aH3 ta tn) h4
  obtain ⟨h2, n2, n2b⟩ := aNum_z (q := aH2 ta tn) h3
  have h1 : (aH1 ta tn).1 = 0 := aChr_0 (q := aH1 ta tn) h2
  obtain ⟨-, n1, n1b⟩ := aNum_z (q := ((0, 0) : Nat × Nat)) h1
  have d4 := dgV_z d4
  unfold rOK aF0
  refine ⟨Nat.zero_le _, n1, n1b, n2, n2b, d4.2, Nat.zero_le _, hv, Nat.zero_le _, fun p hp => absurd hp (Nat.not_lt_zero _)⟩
theorem aF0_ag {r rc : Nat → Nat} (ag : Ag r rc) : Ag (uN (aF0 ta tn) 5 (r 5)) (cF0 ta tn (mvR rc)) := by
  have e5 : rc 5 = r 5 := ag.lo (by decide)
  intro i hi
  have hi : i < 7 := hi
  rcases (show i = 0 ∨ i = 1 ∨ i = 2 ∨ i = 3 ∨ i = 4 ∨ i = 5 ∨ i = 6 by omega) with rfl | rfl | rfl | rfl | rfl | rfl | rfl
  · rfl
  · rfl
  · rfl
  · rfl
  · rfl
  · exact e5
  · rfl
theorem ex_hs {r rc ps pc : Nat → Nat} {un : Nat} (h : HK r rc un ps pc) : ∃ r1 rc1 un1 v, hsRel ta tn r un r1 un1 v ∧ hcRel ta tn rc un rc1 un1 v ∧ HK r1 rc1 un1 ps pc := by
  obtain ⟨ok, ag, h8, hp, hv⟩ := id h
  by_cases h0 : (aHS ta tn).1 = 0
  · have h7 : (aH7 ta tn).1 = 0 := by
      unfold aHS aEnd at h0
      by_cases c : (aH7 ta tn).1 = 0 ∧ blk ta tn (aH7 ta tn).2 < tn
      · exact c.1
      · rw [if_neg c] at h0; exact h0
    have h6 : (aH6 ta tn).1 = 0 ∧ (aLoS ta tn 6 (aH6 ta tn)).1 = 0 := by
      unfold aH7 at h7
      by_cases c : (aH6 ta tn).1 = 0
      · rw [if_pos c] at h7; exact ⟨c, h7⟩
      · rw [if_neg c] at h7; exact absurd h7 c
    have o5 := ok.2.2.2.2.2.2.2.1
    have a1 : Ag (uN (aHR ta tn) 5 (r 5)) (cHR ta tn (mvR rc)) := by
      unfold aHR cHR
      rw [← aLo_5]
      exact aLo_ag _ _ _ _ (aF0_ag ag)
    have k1 : rOK 9999 (uN (aHR ta tn) 5 (r 5)) := by
      unfold aHR
      rw [← aLo_5]
      exact aLo_ok _ _ _ (aF0_ok h6.1 o5) (by decide) (Nat.le_refl _) h6.2
    have e6 : cHR ta tn (mvR rc) 6 = aHR ta tn 6 := (a1.lo (i := 6) (by decide)).trans (uN_n _ (by decide))
    refine ⟨uN (aHR ta tn) 5 (r 5), cHR ta tn (mvR rc), 0, nI (aHR ta tn 6), ⟨fun q => absurd h0 q, fun _ => ⟨rfl, rfl, rfl⟩⟩, ⟨fun q => absurd h0 q, fun _ => ⟨rfl, rfl, by rw [e6]⟩⟩, HK.fresh a1 k1⟩
  · exact ⟨r, rc, un, -20 - nI ((aHS ta tn).1 - 1), ⟨fun _ => ⟨rfl, rfl, rfl⟩, fun q => absurd q h0⟩, ⟨fun _ => ⟨rfl, rfl, rfl⟩, fun q => absurd q h0⟩, h⟩
end EX7
section EX6
/-- sheet j keeps its items -/
def iO (it it1 : Nat → Int64) (j : Nat) : Prop := ∀ k, k < 24 → it1 (24 * j + k) = it (24 * j + k)
theorem iO.rf {it : Nat → Int64} {j : Nat} : iO it it j := fun _ _ => rfl
theorem zeF_o (it : Nat → Int64) (b n : Nat) {k : Nat} (h : k < b ∨ b + n ≤ k) : zeF it b n k = it k := by
  induction n with
  | zero => rfl
  | succ n ih => show vp_updL (zeF it b n) (b + n) 0 k = it k; rw [pk_uLn (by omega), ih (by omega)]
theorem flF_o (r : Nat → Nat) (it : Nat → Int64) (b aq n : Nat) {k : Nat} (h : k < b ∨ b + n ≤ k) : flF r it b aq n k = it k := by
  induction n with
  | zero => rfl
  | succ n ih => show vp_updL (flF r it b aq n) (b + n) _ k = it k; rw [pk_uLn (by omega), ih (by omega)]
variable {sh ln mn : Nat → Nat} {it : Nat → Int64}
theorem sOK.u {s a b c : Nat} (h : sOK sh ln mn) (ha : a ≤ 1) (hb9 : b ≤ 3) (hc : c ≤ 24) : sOK (uN sh s a) (uN ln s b) (uN mn s c) := by
  intro j hj
  by_cases q : j = s
  · subst q; rw [uN_s, uN_s, uN_s]; exact ⟨ha, hb9, hc⟩
  · rw [uN_n _ q, uN_n _ q, uN_n _ q]; exact h j hj
theorem sOK.d {s : Nat} (h : sOK sh ln mn) : sOK (uN sh s 0) ln mn := by
  intro j hj
  obtain ⟨a, b, c⟩ := h j hj
  refine ⟨?_, b, c⟩
  by_cases q : j = s
  · subst q; rw [uN_s]; omega
  · rw [uN_n _ q]; exact a
theorem n24 {n : Int32} (h : n ≤ nI 24) (h0 : ¬ n < 0) : ∃ k : Nat, n = nI k ∧ k ≤ 24 := by
  obtain ⟨k, hk, rfl⟩ := nI_of (x := n) h0
  exact ⟨k, rfl, (nI_leI hk (by decide)).mp h⟩
theorem nI_n0 {k : Nat} (hk : k < 2 ^ 31) : ¬ nI k < 0 := by
  intro h
  rw [Int32.lt_iff_toInt_lt, nI_toInt hk] at h
  have h0 : (0 : Int32).toInt = 0 := (by decide)
  omega
theorem ex_sh (hs : sOK sh ln mn) (s av n : Int32) : ∃ sh1 ln1 mn1 it1 v, shRel sh ln mn it s av n sh1 ln1 mn1 it1 v ∧ sOK sh1 ln1 mn1 ∧ ∀ j, (∀ a : Nat, s = nI a → a ≤ 3 → j ≠ a) → sh1 j = sh j ∧ ln1 j = ln j ∧ mn1 j = mn j ∧ iO it it1 j := by
  by_cases hw : wi s 0 3 ∧ wi av 0 3 ∧ n ≤ nI 24
  · obtain ⟨g1, g2, g3⟩ := id hw
    by_cases h0 : n < 0
    · exact ⟨sh, ln, mn, it, -14, ⟨fun q => absurd hw q, fun _ _ _ => ⟨rfl, rfl, rfl, rfl, rfl⟩, fun a b c ea eb ec b1 b2 b3 => absurd h0 (by rw [ec]; exact nI_n0 (by omega))⟩, hs, fun j _ => ⟨rfl, rfl, rfl, iO.rf⟩⟩
    · obtain ⟨sq, rfl, -, s1⟩ := wi_nat (b := 3) (by decide) g1
      obtain ⟨aq, rfl, -, a1⟩ := wi_nat (b := 3) (by decide) g2
      obtain ⟨nq, rfl, n1⟩ := n24 g3 h0
      refine ⟨uN sh sq 1, uN ln sq aq, uN mn sq nq, zeF it (24 * sq) 24, nI nq, ⟨fun q => absurd hw q, fun _ _ q => absurd q h0, fun a b c ea eb ec b1 b2 b3 => ?_⟩, hs.u (Nat.le_refl _) a1 n1, fun j hj => ⟨uN_n _ (hj sq rfl s1), uN_n _ (hj sq rfl s1), uN_n _ (hj sq rfl s1), fun k hk => zeF_o _ _ _ (by have := hj sq rfl s1; omega)⟩⟩
      obtain rfl := nI_inj (by omega) (by omega) ea; obtain rfl := nI_inj (by omega) (by omega) eb; obtain rfl := nI_inj (by omega) (by omega) ec; exact ⟨rfl, rfl, rfl, rfl, rfl⟩
  · refine ⟨sh, ln, mn, it, if wi s 0 3 ∧ wi av 0 3 ∧ n < 0 then -14 else -1, ?_, hs, fun j _ => ⟨rfl, rfl, rfl, iO.rf⟩⟩
    have h14 : ¬ (wi s 0 3 ∧ wi av 0 3 ∧ n < 0) := fun q => hw ⟨q.1, q.2.1, by
      have h1 := q.2.2
      rw [Int32.lt_iff_toInt_lt] at h1
      rw [Int32.le_iff_toInt_le, nI_toInt (by decide)]
      have h0 : (0 : Int32).toInt = 0 := (by decide)
      omega⟩
    rw [if_neg h14]
    exact ⟨fun _ => ⟨rfl, rfl, rfl, rfl, rfl⟩, fun a b c => absurd ⟨a, b, c⟩ h14, fun a b c ea eb ec b1 b2 b3 => absurd ⟨by rw [ea, wi_nI (by omega)]; omega, by rw [eb, wi_nI (by omega)]; omega, by rw [ec]; exact (nI_leI (by omega) (by decide)).mpr b3⟩ hw⟩
theorem ex_dp (hs : sOK sh ln mn) (s : Int32) : ∃ sh1 v, dpRel sh mn s sh1 v ∧ sOK sh1 ln mn ∧ ∀ j, (∀ a : Nat, s = nI a → a ≤ 3 → j ≠ a) → sh1 j = sh j := by
  by_cases hw : wi s 0 3
  · obtain ⟨sq, rfl, -, s1⟩ := wi_nat (b := 3) (by decide) hw
    by_cases h0 : sh sq = 0
    · refine ⟨sh, -11, ⟨fun q => absurd hw q, fun _ _ _ _ => ⟨rfl, rfl⟩, fun a ea b1 b2 => ?_⟩, hs, fun j _ => rfl⟩
      obtain rfl := nI_inj (by omega) (by omega) ea; exact absurd h0 b2
    · refine ⟨uN sh sq 0, nI (mn sq), ⟨fun q => absurd hw q, fun a ea b1 b2 => ?_, fun a ea b1 b2 => ?_⟩, hs.d, fun j hj => uN_n _ (hj sq rfl s1)⟩
      · obtain rfl := nI_inj (by omega) (by omega) ea; exact absurd b2 h0
      · obtain rfl := nI_inj (by omega) (by omega) ea; exact ⟨rfl, rfl⟩
  · exact ⟨sh, -1, ⟨fun _ => ⟨rfl, rfl⟩, fun a ea b1 _ => absurd (by rw [ea, wi_nI (by omega)]; omega) hw, fun a ea b1 _ => absurd (by rw [ea, wi_nI (by omega)]; omega) hw⟩, hs, fun j _ => rfl⟩
theorem inb_two {i n : Int32} {M : Nat} (h : inb i n M) : ∃ iq nq : Nat, i = nI iq ∧ n = nI nq ∧ iq + nq ≤ M := by
  obtain ⟨h1, h2, h3⟩ := h
  have h0 : (0 : Int32).toInt = 0 := (by decide)
  obtain ⟨iq, hi, rfl⟩ := nI_of (x := i) (fun q => by rw [Int32.lt_iff_toInt_lt] at q; omega)
  obtain ⟨nq, hn, rfl⟩ := nI_of (x := n) (fun q => by rw [Int32.lt_iff_toInt_lt] at q; omega)
  rw [nI_toInt hi, nI_toInt hn] at h3
  exact ⟨iq, nq, rfl, rfl, by omega⟩
theorem ex_it (hs : sOK sh ln mn) (s av i : Int32) (x : Int64) : ∃ it1 v, itRel sh ln mn it s av i x it1 v ∧ ∀ j, (∀ a : Nat, s = nI a → a ≤ 3 → j ≠ a) → iO it it1 j := by
  by_cases hw : wi s 0 3 ∧ wi av 0 3
  · obtain ⟨g1, g2⟩ := id hw
    obtain ⟨sq, rfl, -, s1⟩ := wi_nat (b := 3) (by decide) g1
    obtain ⟨aq, rfl, -, a1⟩ := wi_nat (b := 3) (by decide) g2
    by_cases h0 : foV (sh sq) (ln sq) (mn sq) (nI aq) i (nI 1) = 0
    · obtain ⟨-, -, hb9⟩ := foV_0 h0
      obtain ⟨iq, nq, rfl, en, hle⟩ := inb_two hb9
      have m1 := (hs sq (by omega)).2.2
      have n1 : nq = 1 := (nI_inj (by decide) (by omega) en).symm
      refine ⟨vp_updL it (24 * sq + iq) (cutF aq x), nI 1, ⟨fun q => absurd hw q, fun a ea b1 b2 b3 => ?_, fun a b c ea eb ec b1 b2 b3 b4 => ?_⟩, fun j hj k hk => pk_uLn (by have := hj sq rfl s1; omega)⟩
      · obtain rfl := nI_inj (by omega) (by omega) ea; exact absurd h0 b3
      · obtain rfl := nI_inj (by omega) (by omega) ea; obtain rfl := nI_inj (by omega) (by omega) eb; have m2 := (hs sq (by omega)).2.2; obtain rfl := nI_inj (by omega) (by omega) ec; exact ⟨rfl, rfl⟩
    · refine ⟨it, foV (sh sq) (ln sq) (mn sq) (nI aq) i (nI 1), ⟨fun q => absurd hw q, fun a ea b1 b2 b3 => ?_, fun a b c ea eb ec b1 b2 b3 b4 => ?_⟩, fun j _ => iO.rf⟩
      · obtain rfl := nI_inj (by omega) (by omega) ea; exact ⟨rfl, rfl⟩
      · obtain rfl := nI_inj (by omega) (by omega) ea; exact absurd b4 h0
  · exact ⟨it, -1, ⟨fun _ => ⟨rfl, rfl⟩, fun a ea b1 b2 _ => absurd ⟨by rw [ea, wi_nI (by omega)]; omega, b2⟩ hw, fun a b c ea eb ec b1 b2 b3 b4 => absurd ⟨by rw [ea, wi_nI (by omega)]; omega, by rw [eb, wi_nI (by omega)]; omega⟩ hw⟩, fun j _ => iO.rf⟩
theorem flF_eq {r rc : Nat → Nat} (ag : Ag r rc) (b aq n : Nat) : flF rc it b aq n = flF r it b aq n := by
  induction n with
  | zero => rfl
  | succ n ih => show vp_updL (flF rc it b aq n) (b + n) (cutF aq (nI (wkN rc (n + 1) 0)).toInt64) = vp_updL (flF r it b aq n) (b + n) (cutF aq (nI (wkN r (n + 1) 0)).toInt64); rw [ih, (ag.wk (n + 1)).1.lo (i := 0) (by decide)]
theorem ex_fi {r rc : Nat → Nat} (ag : Ag r rc) (hs : sOK sh ln mn) (n s av i : Int32) : ∃ it1 v, fiRel r sh ln mn it n s av i it1 v ∧ fiRel rc sh ln mn it n s av i it1 v ∧ ∀ j, (∀ a : Nat, s = nI a → a ≤ 3 → j ≠ a) → iO it it1 j := by
  have tr : ∀ it1 v, fiRel r sh ln mn it n s av i it1 v → fiRel rc sh ln mn it n s av i it1 v := by
    rintro it1 v ⟨h1, h2, h3⟩
    refine ⟨h1, h2, fun a b c d ea eb ec ed b1 b2 b3 b4 b5 b6 => ?_⟩
    rw [flF_eq ag]; exact h3 a b c d ea eb ec ed b1 b2 b3 b4 b5 b6
  by_cases hw : wi n 1 24 ∧ wi s 0 3 ∧ wi av 0 3
  · obtain ⟨g0, g1, g2⟩ := id hw
    obtain ⟨kq, rfl, k0, k1⟩ := wi_nat (b := 24) (by decide) g0
    obtain ⟨sq, rfl, -, s1⟩ := wi_nat (b := 3) (by decide) g1
    obtain ⟨aq, rfl, -, a1⟩ := wi_nat (b := 3) (by decide) g2
    by_cases h0 : foV (sh sq) (ln sq) (mn sq) (nI aq) i (nI kq) = 0
    · obtain ⟨-, -, hb9⟩ := foV_0 h0
      obtain ⟨iq, nq, rfl, en, hle⟩ := inb_two hb9
      have m1 := (hs sq (by omega)).2.2
      have h : fiRel r sh ln mn it (nI kq) (nI sq) (nI aq) (nI iq) (flF r it (24 * sq + iq) aq kq) (nI kq) := by
        refine ⟨fun q => absurd hw q, fun a ea b1 b2 b3 b4 => ?_, fun a b c d ea eb ec ed b1 b2 b3 b4 b5 b6 => ?_⟩
        · obtain rfl := nI_inj (by omega) (by omega) ea; exact absurd h0 b4
        · obtain rfl := nI_inj (by omega) (by omega) ea; obtain rfl := nI_inj (by omega) (by omega) eb; obtain rfl := nI_inj (by omega) (by omega) ed; obtain rfl := nI_inj (by omega) (by omega) ec; exact ⟨rfl, rfl⟩
      have n1 : nq = kq := (nI_inj (by omega) (by omega) en).symm
      exact ⟨_, _, h, tr _ _ h, fun j hj k hk => flF_o _ _ _ _ _ (by have := hj sq rfl s1; omega)⟩
    · have h : fiRel r sh ln mn it (nI kq) (nI sq) (nI aq) i it (foV (sh sq) (ln sq) (mn sq) (nI aq) i (nI kq)) := by
        refine ⟨fun q => absurd hw q, fun a ea b1 b2 b3 b4 => ?_, fun a b c d ea eb ec ed b1 b2 b3 b4 b5 b6 => ?_⟩
        · obtain rfl := nI_inj (by omega) (by omega) ea; exact ⟨rfl, rfl⟩
        · obtain rfl := nI_inj (by omega) (by omega) ea; exact absurd b6 h0
      exact ⟨_, _, h, tr _ _ h, fun j _ => iO.rf⟩
  · have h : fiRel r sh ln mn it n s av i it (-1) := ⟨fun _ => ⟨rfl, rfl⟩, fun a ea b1 b2 b3 _ => absurd ⟨b2, by rw [ea, wi_nI (by omega)]; omega, b3⟩ hw, fun a b c d ea eb ec ed b1 b2 b3 b4 b5 b6 => absurd ⟨by rw [ed, wi_nI (by omega)]; omega, by rw [ea, wi_nI (by omega)]; omega, by rw [eb, wi_nI (by omega)]; omega⟩ hw⟩
    exact ⟨_, _, h, tr _ _ h, fun j _ => iO.rf⟩
theorem fitP_eq {r rc : Nat → Nat} (ag : Ag r rc) (b c n : Nat) : fitP rc it b c n ↔ fitP r it b c n := by
  unfold fitP
  rw [ag.lo (i := 0) (by decide)]
  have e : ∀ i, wkN (uN rc 0 (r 0 - c)) (i + 1) 0 = wkN (uN r 0 (r 0 - c)) (i + 1) 0 := fun i => ((ag.u (r 0 - c) (show (0 : Nat) ≠ 6 by decide)).wk (i + 1)).1.lo (by decide)
  exact ⟨fun h i hi => by rw [← e]; exact h i hi, fun h i hi => by rw [e]; exact h i hi⟩
theorem fitD_eq {r rc : Nat → Nat} (ag : Ag r rc) (b c n : Nat) : fitD rc it b c n = fitD r it b c n := by
  by_cases h : fitP r it b c n
  · rw [fitD_1 h, fitD_1 ((fitP_eq ag b c n).mpr h)]
  · rw [fitD_0 h, fitD_0 (fun q => h ((fitP_eq ag b c n).mp q))]
theorem tkC_eq {r rc : Nat → Nat} (ag : Ag r rc) (b n j : Nat) : tkC rc it b n j = tkC r it b n j := by
  induction j with
  | zero => rfl
  | succ j ih => show tkC rc it b n j + fitD rc it b (rc 0 - j) n = tkC r it b n j + fitD r it b (r 0 - j) n; rw [ih, ag.lo (i := 0) (by decide), fitD_eq ag]
theorem tkL_eq {r rc : Nat → Nat} (ag : Ag r rc) (b n j : Nat) : tkL rc it b n j = tkL r it b n j := by
  induction j with
  | zero => rfl
  | succ j ih => show (if fitD rc it b (rc 0 - j) n = 1 then nI (rc 0 - j) else tkL rc it b n j) = (if fitD r it b (r 0 - j) n = 1 then nI (r 0 - j) else tkL r it b n j); rw [ih, ag.lo (i := 0) (by decide), fitD_eq ag]
theorem ex_tk {r rc : Nat → Nat} (ag : Ag r rc) (hs : sOK sh ln mn) (s av i n w : Int32) : ∃ v, tkRel r sh ln mn it s av i n w v ∧ tkRel rc sh ln mn it s av i n w v := by
  have tr : ∀ v, tkRel r sh ln mn it s av i n w v → tkRel rc sh ln mn it s av i n w v := by
    rintro v ⟨h1, h2, h3⟩
    refine ⟨h1, h2, fun a c d ea ec ed b1 b2 b3 b4 b5 b6 => ?_⟩
    rw [tkC_eq ag, tkL_eq ag, ag.lo (i := 0) (by decide)]; exact h3 a c d ea ec ed b1 b2 b3 b4 b5 b6
  by_cases hw : wi s 0 3 ∧ wi av 0 3 ∧ wi n 1 8 ∧ wi w 0 1
  · obtain ⟨g1, g2, g0, g3⟩ := id hw
    obtain ⟨kq, rfl, k0, k1⟩ := wi_nat (b := 8) (by decide) g0
    obtain ⟨sq, rfl, -, s1⟩ := wi_nat (b := 3) (by decide) g1
    obtain ⟨wq, rfl, -, w1⟩ := wi_nat (b := 1) (by decide) g3
    by_cases h0 : foV (sh sq) (ln sq) (mn sq) av i (nI kq) = 0
    · obtain ⟨-, -, hb9⟩ := foV_0 h0
      obtain ⟨iq, nq, rfl, en, hle⟩ := inb_two hb9
      have m1 := (hs sq (by omega)).2.2
      have h : tkRel r sh ln mn it (nI sq) av (nI iq) (nI kq) (nI wq) (if wq = 0 then nI (tkC r it (24 * sq + iq) kq (r 0 + 1)) else tkL r it (24 * sq + iq) kq (r 0 + 1)) := by
        refine ⟨fun q => absurd hw q, fun a ea b1 b2 b3 b4 b5 => ?_, fun a c d ea ec ed b1 b2 b3 b4 b5 b6 => ?_⟩
        · obtain rfl := nI_inj (by omega) (by omega) ea; exact absurd h0 b5
        · obtain rfl := nI_inj (by omega) (by omega) ea; obtain rfl := nI_inj (by omega) (by omega) ed; obtain rfl := nI_inj (by omega) (by omega) ec
          refine ⟨fun e => ?_, fun e => ?_⟩
          · rw [if_pos (nI_inj (by omega) (by decide) e)]
          · rw [if_neg (by rw [nI_inj (by omega) (by decide) e]; decide)]
      exact ⟨_, h, tr _ h⟩
    · have h : tkRel r sh ln mn it (nI sq) av i (nI kq) (nI wq) (foV (sh sq) (ln sq) (mn sq) av i (nI kq)) := by
        refine ⟨fun q => absurd hw q, fun a ea b1 b2 b3 b4 b5 => ?_, fun a c d ea ec ed b1 b2 b3 b4 b5 b6 => ?_⟩
        · obtain rfl := nI_inj (by omega) (by omega) ea; rfl
        · obtain rfl := nI_inj (by omega) (by omega) ea; exact absurd b6 h0
      exact ⟨_, h, tr _ h⟩
  · have vac : ∀ a : Nat, s = nI a → a ≤ 3 → wi av 0 3 → wi n 1 8 → wi w 0 1 → False := fun a ea b1 b2 b3 b4 => hw ⟨by rw [ea, wi_nI (by omega)]; omega, b2, b3, b4⟩
    have h : tkRel r sh ln mn it s av i n w (-1) := ⟨fun _ => rfl, fun a ea b1 b2 b3 b4 _ => absurd (vac a ea b1 b2 b3 b4) id, fun a c d ea ec ed b1 b2 b3 b4 b5 b6 => ⟨fun e => absurd (vac a ea b1 b2 (by rw [ed, wi_nI (by omega)]; omega) (by rw [e]; decide)) id, fun e => absurd (vac a ea b1 b2 (by rw [ed, wi_nI (by omega)]; omega) (by rw [e]; decide)) id⟩⟩
    exact ⟨_, h, tr _ h⟩
theorem ex_cy (hs : sOK sh ln mn) (s i t j n : Int32) : ∃ it1 v, cyRel sh ln mn it s i t j n it1 v ∧ ∀ j, (∀ a : Nat, t = nI a → a ≤ 3 → j ≠ a) → iO it it1 j := by
  by_cases hw : wi s 0 3 ∧ wi t 0 3
  · obtain ⟨g1, g2⟩ := id hw
    obtain ⟨sq, rfl, -, s1⟩ := wi_nat (b := 3) (by decide) g1
    obtain ⟨tq, rfl, -, t1⟩ := wi_nat (b := 3) (by decide) g2
    have m1 := (hs sq (by omega)).2.2
    have m2 := (hs tq (by omega)).2.2
    by_cases c0 : sh sq = 0 ∨ sh tq = 0
    · refine ⟨it, -11, ⟨fun q => absurd hw q, fun a b ea eb b1 b2 b3 => ⟨rfl, rfl⟩, fun a b ea eb b1 b2 b3 b4 b5 => ?_, fun a b ea eb b1 b2 b3 b4 b5 b6 => ?_, fun a b c d e ea eb ec ed ee b1 b2 b3 b4 b5 b6 b7 => ?_⟩, fun j _ => iO.rf⟩
      all_goals obtain rfl := nI_inj (by omega) (by omega) ea
      all_goals obtain rfl := nI_inj (by omega) (by omega) eb
      all_goals exact absurd c0 (by omega)
    · by_cases cl : ln sq = ln tq
      · by_cases cb : inb i n (mn sq) ∧ inb j n (mn tq)
        · obtain ⟨i1, i2⟩ := id cb
          obtain ⟨iq, nq, rfl, rfl, hle⟩ := inb_two i1
          obtain ⟨jq, n2, rfl, en, hle2⟩ := inb_two i2
          have n1 : n2 = nq := (nI_inj (by omega) (by omega) en).symm
          refine ⟨cyF it (24 * sq + iq) (24 * tq + jq) nq, nI nq, ⟨fun q => absurd hw q, fun a b ea eb b1 b2 b3 => ?_, fun a b ea eb b1 b2 b3 b4 b5 => ?_, fun a b ea eb b1 b2 b3 b4 b5 b6 => ?_, fun a b c d e ea eb ec ed ee b1 b2 b3 b4 b5 b6 b7 => ?_⟩, fun j hj k hk => if_neg (by have := hj tq rfl t1; omega)⟩
          · obtain rfl := nI_inj (by omega) (by omega) ea; obtain rfl := nI_inj (by omega) (by omega) eb; exact absurd b3 c0
          · obtain rfl := nI_inj (by omega) (by omega) ea; obtain rfl := nI_inj (by omega) (by omega) eb; exact absurd cl b5
          · obtain rfl := nI_inj (by omega) (by omega) ea; obtain rfl := nI_inj (by omega) (by omega) eb; exact absurd cb b6
          · obtain rfl := nI_inj (by omega) (by omega) ea; obtain rfl := nI_inj (by omega) (by omega) eb; obtain rfl := nI_inj (by omega) (by omega) ec; obtain rfl := nI_inj (by omega) (by omega) ed; obtain rfl := nI_inj (by omega) (by omega) ee; exact ⟨rfl, rfl⟩
        · refine ⟨it, -13, ⟨fun q => absurd hw q, fun a b ea eb b1 b2 b3 => ?_, fun a b ea eb b1 b2 b3 b4 b5 => ?_, fun a b ea eb b1 b2 b3 b4 b5 b6 => ⟨rfl, rfl⟩, fun a b c d e ea eb ec ed ee b1 b2 b3 b4 b5 b6 b7 => ?_⟩, fun j _ => iO.rf⟩
          · obtain rfl := nI_inj (by omega) (by omega) ea; obtain rfl := nI_inj (by omega) (by omega) eb; exact absurd b3 c0
          · obtain rfl := nI_inj (by omega) (by omega) ea; obtain rfl := nI_inj (by omega) (by omega) eb; exact absurd cl b5
          · obtain rfl := nI_inj (by omega) (by omega) ea; obtain rfl := nI_inj (by omega) (by omega) eb
            have f1 : i.toInt = (c : Int) := by rw [ec]; exact nI_toInt (by omega)
            have f2 : j.toInt = (d : Int) := by rw [ed]; exact nI_toInt (by omega)
            have f3 : n.toInt = (e : Int) := by rw [ee]; exact nI_toInt (by omega)
            exact absurd ⟨⟨by omega, by omega, by omega⟩, ⟨by omega, by omega, by omega⟩⟩ cb
      · refine ⟨it, -12, ⟨fun q => absurd hw q, fun a b ea eb b1 b2 b3 => ?_, fun a b ea eb b1 b2 b3 b4 b5 => ⟨rfl, rfl⟩, fun a b ea eb b1 b2 b3 b4 b5 b6 => ?_, fun a b c d e ea eb ec ed ee b1 b2 b3 b4 b5 b6 b7 => ?_⟩, fun j _ => iO.rf⟩
        · obtain rfl := nI_inj (by omega) (by omega) ea; obtain rfl := nI_inj (by omega) (by omega) eb; exact absurd b3 c0
        · obtain rfl := nI_inj (by omega) (by omega) ea; obtain rfl := nI_inj (by omega) (by omega) eb; exact absurd b5 cl
        · obtain rfl := nI_inj (by omega) (by omega) ea; obtain rfl := nI_inj (by omega) (by omega) eb; exact absurd b5 cl
  · have vac : ∀ a b : Nat, s = nI a → t = nI b → a ≤ 3 → b ≤ 3 → False := fun a b ea eb b1 b2 => hw ⟨by rw [ea, wi_nI (by omega)]; omega, by rw [eb, wi_nI (by omega)]; omega⟩
    exact ⟨it, -1, ⟨fun _ => ⟨rfl, rfl⟩, fun a b ea eb b1 b2 _ => absurd (vac a b ea eb b1 b2) id, fun a b ea eb b1 b2 _ _ _ => absurd (vac a b ea eb b1 b2) id, fun a b ea eb b1 b2 _ _ _ _ => absurd (vac a b ea eb b1 b2) id, fun a b c d e ea eb ec ed ee b1 b2 _ _ _ _ _ => absurd (vac a b ea eb b1 b2) id⟩, fun j _ => iO.rf⟩
end EX6
