/-- KINDS and TEMPERS stay -/
def KT (r r1 : Nat → Nat) : Prop := r1 6 = r 6 ∧ ∀ j, r1 (7 + 4 * j + 0) = r (7 + 4 * j + 0) ∧ r1 (7 + 4 * j + 1) = r (7 + 4 * j + 1)
theorem KT.rf {r : Nat → Nat} : KT r r := ⟨rfl, fun _ => ⟨rfl, rfl⟩⟩
theorem KT.u {r : Nat → Nat} {i v : Nat} (hi : i < 6) : KT r (uN r i v) := ⟨uN_n _ (by omega), fun j => ⟨uN_n _ (by omega), uN_n _ (by omega)⟩⟩
theorem KT.wk {r : Nat → Nat} (n : Nat) : KT r (wkN r n) := ⟨wkN_6 r n, fun j => ⟨(wkN_kt r n j).1, (wkN_kt r n j).2.1⟩⟩
theorem KT.dk {r : Nat → Nat} (n : Nat) : KT r (dkN r n) := ⟨dkN_6 r n, fun j => ⟨(dkN_kt r n j).1, (dkN_kt r n j).2.1⟩⟩
theorem KT.bk {r : Nat → Nat} (ps : Nat → Nat) (u n : Nat) : KT r (bkF r ps u n) := ⟨bkF_at _ _ _ _ (by decide) (by decide) (by decide) (fun p _ => by omega), fun j => ⟨bkF_at _ _ _ _ (by omega) (by omega) (by omega) (fun p _ => by omega), bkF_at _ _ _ _ (by omega) (by omega) (by omega) (fun p _ => by omega)⟩⟩
theorem peH.kt {D : va_G} {ws : va_W} {pf : Nat → Option Nat} {r r1 : Nat → Nat} {H : Heap} (h : peH D ws pf r H) (k : KT r r1) : peH D ws pf r1 H := h.cg k.1 (fun j _ => k.2 j)
/-! each call: there is an answer, and what comes behind it, for class and reference alike -/
section EX9
variable {r rc : Nat → Nat}
theorem ex_per (h : Ag r rc) (ok : rOK 9999 r) (un : Nat) (k t hq : Int32) : ∃ r1 rc1 un1 v, perRel r un k t hq r1 un1 v ∧ perRel rc un k t hq rc1 un1 v ∧ Ag r1 rc1 ∧ rOK 9999 r1 ∧ ((un1 = un ∧ r1 = r ∧ rc1 = rc) ∨ un1 = 0) := by
  have e6 : rc 6 = r 6 := h.lo (by decide)
  by_cases hw : wi k 0 5 ∧ wi t 1 9 ∧ wi hq 0 99
  · by_cases h6 : r 6 = 6
    · exact ⟨r, rc, un, -3, ⟨fun q => absurd hw q, fun _ _ _ _ => ⟨rfl, rfl, rfl⟩, fun _ _ _ _ _ _ _ _ _ _ q => absurd h6 q⟩, ⟨fun q => absurd hw q, fun _ _ _ _ => ⟨rfl, rfl, rfl⟩, fun _ _ _ _ _ _ _ _ _ _ q => absurd (e6.trans h6) q⟩, h, ok, Or.inl ⟨rfl, rfl, rfl⟩⟩
    · obtain ⟨hk, ht, hh⟩ := id hw
      obtain ⟨kn, rfl, -, k1⟩ := wi_nat (b := 5) (by decide) hk
      obtain ⟨tn, rfl, t0, t1⟩ := wi_nat (b := 9) (by decide) ht
      obtain ⟨hn, rfl, -, h1⟩ := wi_nat (b := 99) (by decide) hh
      have h66 : r 6 < 6 := by have := ok.2.2.2.2.2.2.2.2.1; omega
      refine ⟨addR r kn tn hn, addR rc kn tn hn, 0, nI (r 6), ⟨fun q => absurd hw q, fun _ _ _ q => absurd q h6, fun a b c ea eb ec b1 b2 b3 b4 _ => ?_⟩, ⟨fun q => absurd hw q, fun _ _ _ q => absurd (e6.symm.trans q) h6, fun a b c ea eb ec b1 b2 b3 b4 _ => ?_⟩, h.add _ _ _, addR_ok ok h66 k1 (by omega) t1 h1, Or.inr rfl⟩
      · obtain rfl := nI_inj (by omega) (by omega) ea
        obtain rfl := nI_inj (by omega) (by omega) eb
        obtain rfl := nI_inj (by omega) (by omega) ec
        exact ⟨rfl, rfl, rfl⟩
      · obtain rfl := nI_inj (by omega) (by omega) ea
        obtain rfl := nI_inj (by omega) (by omega) eb
        obtain rfl := nI_inj (by omega) (by omega) ec
        exact ⟨rfl, rfl, by rw [e6]⟩
  · exact ⟨r, rc, un, -1, ⟨fun _ => ⟨rfl, rfl, rfl⟩, fun a b c _ => absurd ⟨a, b, c⟩ hw, fun a b c ea eb ec b1 b2 b3 b4 _ => absurd ⟨by rw [ea, wi_nI (by omega)]; omega, by rw [eb, wi_nI (by omega)]; omega, by rw [ec, wi_nI (by omega)]; omega⟩ hw⟩, ⟨fun _ => ⟨rfl, rfl, rfl⟩, fun a b c _ => absurd ⟨a, b, c⟩ hw, fun a b c ea eb ec b1 b2 b3 b4 _ => absurd ⟨by rw [ea, wi_nI (by omega)]; omega, by rw [eb, wi_nI (by omega)]; omega, by rw [ec, wi_nI (by omega)]; omega⟩ hw⟩, h, ok, Or.inl ⟨rfl, rfl, rfl⟩⟩
theorem of_eq (h : Ag r rc) {p k : Nat} (hp : p < r 6) (hk : k ≤ 6) : ofF rc p k = ofF r p k := by
  unfold ofF
  by_cases a : k < 4
  · rw [if_pos a, if_pos a, h.p hp a]
  · rw [if_neg a, if_neg a, h.hb, h.lo (i := 3) (by decide), h.wo hp, h.pa hp, h.ha hp]
theorem ex_of (h : Ag r rc) (ok : rOK 9999 r) (p w : Int32) : ∃ v, ofRel r p w v ∧ ofRel rc p w v := by
  have e6 : rc 6 = r 6 := h.lo (by decide)
  have h6 := ok.2.2.2.2.2.2.2.2.1
  unfold ofRel
  rw [e6]
  by_cases hw : wi p 0 ((r 6 : Int) - 1) ∧ wi w 0 6
  · obtain ⟨h1, h2⟩ := id hw
    obtain ⟨pn, rfl, -, pn1⟩ := wi_nat (b := r 6 - 1) (by decide) (show wi p 0 ((r 6 - 1 : Nat) : Int) from ⟨h1.1, by have := h1.1; have := h1.2; omega⟩)
    have hpn : pn < r 6 := by have h8 := h1; rw [wi_nI (by omega)] at h8; omega
    obtain ⟨k, rfl, -, k1⟩ := wi_nat (b := 6) (by decide) h2
    refine ⟨nI (ofF r pn k), ⟨fun q => absurd hw q, fun a b ea eb b1 b2 => ?_⟩, ⟨fun q => absurd hw q, fun a b ea eb b1 b2 => ?_⟩⟩
    · obtain rfl := nI_inj (by omega) (by omega) ea
      obtain rfl := nI_inj (by omega) (by omega) eb
      rfl
    · obtain rfl := nI_inj (by omega) (by omega) ea
      obtain rfl := nI_inj (by omega) (by omega) eb
      rw [of_eq h b1 b2]
  · exact ⟨-1, ⟨fun _ => rfl, fun a b ea eb b1 b2 => absurd ⟨by rw [ea, wi_nI (by omega)]; omega, by rw [eb, wi_nI (by omega)]; omega⟩ hw⟩, ⟨fun _ => rfl, fun a b ea eb b1 b2 => absurd ⟨by rw [ea, wi_nI (by omega)]; omega, by rw [eb, wi_nI (by omega)]; omega⟩ hw⟩⟩
theorem ne_ok {w : Nat} {r : Nat → Nat} {x : Nat} (h : rOK w r) (h1 : 1 ≤ x) (h2 : x ≤ 9999) : rOK w (uN r 1 x) := by
  obtain ⟨o0, o1, o1b, o2, o2b, o3, o4, o5, o6, oP⟩ := h
  have e : ∀ i, i ≠ 1 → uN r 1 x i = r i := fun i hi => uN_n _ hi
  unfold rOK
  rw [e 0 (by decide), uN_s, e 2 (by decide), e 3 (by decide), e 4 (by decide), e 5 (by decide), e 6 (by decide)]
  refine ⟨o0, h1, h2, o2, o2b, o3, o4, o5, o6, fun q hq => ?_⟩
  rw [e (7 + 4 * q + 0) (by omega), e (7 + 4 * q + 1) (by omega), e (7 + 4 * q + 2) (by omega), e (7 + 4 * q + 3) (by omega)]
  exact oP q hq
theorem mi_ok {w : Nat} {r : Nat → Nat} {x : Nat} (h : rOK w r) (h2 : x ≤ 9) : rOK w (uN r 3 x) := by
  obtain ⟨o0, o1, o1b, o2, o2b, o3, o4, o5, o6, oP⟩ := h
  have e : ∀ i, i ≠ 3 → uN r 3 x i = r i := fun i hi => uN_n _ hi
  unfold rOK
  rw [e 0 (by decide), e 1 (by decide), e 2 (by decide), uN_s, e 4 (by decide), e 5 (by decide), e 6 (by decide)]
  refine ⟨o0, o1, o1b, o2, o2b, h2, o4, o5, o6, fun q hq => ?_⟩
  rw [e (7 + 4 * q + 0) (by omega), e (7 + 4 * q + 1) (by omega), e (7 + 4 * q + 2) (by omega), e (7 + 4 * q + 3) (by omega)]
  exact oP q hq
theorem sd_ok {w : Nat} {r : Nat → Nat} {x : Nat} (h : rOK w r) (h2 : x < 2147483648) : rOK w (uN r 5 x) := by
  obtain ⟨o0, o1, o1b, o2, o2b, o3, o4, o5, o6, oP⟩ := h
  have e : ∀ i, i ≠ 5 → uN r 5 x i = r i := fun i hi => uN_n _ hi
  unfold rOK
  rw [e 0 (by decide), e 1 (by decide), e 2 (by decide), e 3 (by decide), e 4 (by decide), uN_s, e 6 (by decide)]
  refine ⟨o0, o1, o1b, o2, o2b, o3, o4, h2, o6, fun q hq => ?_⟩
  rw [e (7 + 4 * q + 0) (by omega), e (7 + 4 * q + 1) (by omega), e (7 + 4 * q + 2) (by omega), e (7 + 4 * q + 3) (by omega)]
  exact oP q hq
theorem hp_ok {w : Nat} {r : Nat → Nat} {pn k : Nat} (h : rOK w r) (h2 : k ≤ 1) : rOK w (uN r (7 + 4 * pn + 3) k) := by
  obtain ⟨o0, o1, o1b, o2, o2b, o3, o4, o5, o6, oP⟩ := h
  have e : ∀ i, i ≠ 7 + 4 * pn + 3 → uN r (7 + 4 * pn + 3) k i = r i := fun i hi => uN_n _ hi
  unfold rOK
  rw [e 0 (by omega), e 1 (by omega), e 2 (by omega), e 3 (by omega), e 4 (by omega), e 5 (by omega), e 6 (by omega)]
  refine ⟨o0, o1, o1b, o2, o2b, o3, o4, o5, o6, fun q hq => ?_⟩
  rw [e (7 + 4 * q + 0) (by omega), e (7 + 4 * q + 1) (by omega), e (7 + 4 * q + 2) (by omega)]
  obtain ⟨k0, k1, k1b, k2, k3⟩ := oP q hq
  refine ⟨k0, k1, k1b, k2, ?_⟩
  by_cases a : q = pn
  · subst a; rw [uN_s]; exact h2
  · rw [e _ (by omega)]; exact k3
theorem ru_bad {x : Int32} {a : Int} {b : Nat} {xn : Nat} (ha : 0 ≤ a) (h : ¬ wi x a b) (e : x = nI xn) (h1 : a ≤ xn) (h2 : xn ≤ b) (hb : b < 2 ^ 31) : False := h (by rw [e, wi_nI (by omega)]; omega)
theorem ex_ru (h : Ag r rc) (ok : rOK 9999 r) (w x : Int32) : ∃ r1 rc1 v, ruRel r w x r1 v ∧ ruRel rc w x rc1 v ∧ Ag r1 rc1 ∧ rOK 9999 r1 ∧ r1 6 = r 6 ∧ KT rc rc1 := by
  have n01 : ¬ (nI 0 = nI 1) := by decide
  have n02 : ¬ (nI 0 = nI 2) := by decide
  have n12 : ¬ (nI 1 = nI 2) := by decide
  by_cases c0 : w = nI 0 ∧ wi x 1 9999
  · obtain ⟨rfl, hx⟩ := c0
    obtain ⟨xn, rfl, x0, x1⟩ := wi_nat (b := 9999) (by decide) hx
    refine ⟨uN r 1 xn, uN rc 1 xn, nI (r 1), ⟨fun y _ ey _ _ => ?_, fun y e _ _ _ => absurd e n01, fun y e _ _ => absurd e n02, fun q _ _ => absurd hx (q rfl)⟩, ⟨fun y _ ey _ _ => ?_, fun y e _ _ _ => absurd e n01, fun y e _ _ => absurd e n02, fun q _ _ => absurd hx (q rfl)⟩, h.u _ (by decide), ne_ok ok (by omega) x1, uN_n _ (by decide), KT.u (by decide)⟩
    · obtain rfl := nI_inj (by omega) (by omega) ey; exact ⟨rfl, rfl⟩
    · obtain rfl := nI_inj (by omega) (by omega) ey; exact ⟨rfl, by rw [h.lo (i := 1 + 0) (by decide)]⟩
  · by_cases c1 : w = nI 1 ∧ wi x 1 100
    · obtain ⟨rfl, hx⟩ := c1
      obtain ⟨xn, rfl, x0, x1⟩ := wi_nat (b := 100) (by decide) hx
      refine ⟨uN r 2 xn, uN rc 2 xn, nI (r 2), ⟨fun y e _ _ _ => absurd e.symm n01, fun y _ ey _ _ => ?_, fun y e _ _ => absurd e n12, fun _ q _ => absurd hx (q rfl)⟩, ⟨fun y e _ _ _ => absurd e.symm n01, fun y _ ey _ _ => ?_, fun y e _ _ => absurd e n12, fun _ q _ => absurd hx (q rfl)⟩, h.u _ (by decide), pr_ok ok (by omega) x1, uN_n _ (by decide), KT.u (by decide)⟩
      · obtain rfl := nI_inj (by omega) (by omega) ey; exact ⟨rfl, rfl⟩
      · obtain rfl := nI_inj (by omega) (by omega) ey; exact ⟨rfl, by rw [h.lo (i := 1 + 1) (by decide)]⟩
    · by_cases c2 : w = nI 2 ∧ wi x 0 9
      · obtain ⟨rfl, hx⟩ := c2
        obtain ⟨xn, rfl, x0, x1⟩ := wi_nat (b := 9) (by decide) hx
        refine ⟨uN r 3 xn, uN rc 3 xn, nI (r 3), ⟨fun y e _ _ _ => absurd e.symm n02, fun y e _ _ _ => absurd e.symm n12, fun y _ ey _ => ?_, fun _ _ q => absurd hx (q rfl)⟩, ⟨fun y e _ _ _ => absurd e.symm n02, fun y e _ _ _ => absurd e.symm n12, fun y _ ey _ => ?_, fun _ _ q => absurd hx (q rfl)⟩, h.u _ (by decide), mi_ok ok x1, uN_n _ (by decide), KT.u (by decide)⟩
        · obtain rfl := nI_inj (by omega) (by omega) ey; exact ⟨rfl, rfl⟩
        · obtain rfl := nI_inj (by omega) (by omega) ey; exact ⟨rfl, by rw [h.lo (i := 1 + 2) (by decide)]⟩
      · refine ⟨r, rc, -1, ⟨fun y e ey b1 b2 => ?_, fun y e ey b1 b2 => ?_, fun y e ey b2 => ?_, fun _ _ _ => ⟨rfl, rfl⟩⟩, ⟨fun y e ey b1 b2 => ?_, fun y e ey b1 b2 => ?_, fun y e ey b2 => ?_, fun _ _ _ => ⟨rfl, rfl⟩⟩, h, ok, rfl, KT.rf⟩
        · exact absurd ⟨e, by rw [ey, wi_nI (by omega)]; omega⟩ c0
        · exact absurd ⟨e, by rw [ey, wi_nI (by omega)]; omega⟩ c1
        · exact absurd ⟨e, by rw [ey, wi_nI (by omega)]; omega⟩ c2
        · exact absurd ⟨e, by rw [ey, wi_nI (by omega)]; omega⟩ c0
        · exact absurd ⟨e, by rw [ey, wi_nI (by omega)]; omega⟩ c1
        · exact absurd ⟨e, by rw [ey, wi_nI (by omega)]; omega⟩ c2
theorem ex_hp (h : Ag r rc) (ok : rOK 9999 r) (p x : Int32) : ∃ r1 rc1 v, hpRel r p x r1 v ∧ hpRel rc p x rc1 v ∧ Ag r1 rc1 ∧ rOK 9999 r1 ∧ r1 6 = r 6 ∧ (∀ j, rc1 (7 + 4 * j + 0) = rc (7 + 4 * j + 0) ∧ rc1 (7 + 4 * j + 1) = rc (7 + 4 * j + 1)) ∧ rc1 6 = rc 6 := by
  have e6 : rc 6 = r 6 := h.lo (by decide)
  have h6 := ok.2.2.2.2.2.2.2.2.1
  unfold hpRel
  rw [e6]
  by_cases hw : wi p 0 ((r 6 : Int) - 1) ∧ wi x 0 1
  · obtain ⟨h1, h2⟩ := id hw
    obtain ⟨pn, rfl, -, pn1⟩ := wi_nat (b := r 6 - 1) (by decide) (show wi p 0 ((r 6 - 1 : Nat) : Int) from ⟨h1.1, by have := h1.1; have := h1.2; omega⟩)
    have hpn : pn < r 6 := by have h8 := h1; rw [wi_nI (by omega)] at h8; omega
    obtain ⟨k, rfl, -, k1⟩ := wi_nat (b := 1) (by decide) h2
    refine ⟨uN r (7 + 4 * pn + 3) k, uN rc (7 + 4 * pn + 3) k, nI (r (7 + 4 * pn + 3)), ⟨fun q => absurd hw q, fun a b ea eb b1 b2 => ?_⟩, ⟨fun q => absurd hw q, fun a b ea eb b1 b2 => ?_⟩, h.u _ (by omega), hp_ok ok k1, uN_n _ (by omega), fun j => ⟨uN_n _ (by omega), uN_n _ (by omega)⟩, (uN_n _ (by omega)).trans e6⟩
    · obtain rfl := nI_inj (by omega) (by omega) ea
      obtain rfl := nI_inj (by omega) (by omega) eb
      exact ⟨rfl, rfl⟩
    · obtain rfl := nI_inj (by omega) (by omega) ea
      obtain rfl := nI_inj (by omega) (by omega) eb
      exact ⟨rfl, by rw [h.p b1 (by decide)]⟩
  · exact ⟨r, rc, -1, ⟨fun _ => ⟨rfl, rfl⟩, fun a b ea eb b1 b2 => absurd ⟨by rw [ea, wi_nI (by omega)]; omega, by rw [eb, wi_nI (by omega)]; omega⟩ hw⟩, ⟨fun _ => ⟨rfl, rfl⟩, fun a b ea eb b1 b2 => absurd ⟨by rw [ea, wi_nI (by omega)]; omega, by rw [eb, wi_nI (by omega)]; omega⟩ hw⟩, h, ok, rfl, fun j => ⟨rfl, rfl⟩, e6⟩
theorem ex_ty {ta : Nat → Nat} {tn : Nat} (ht : tOK ta tn) (x : Int32) : ∃ ta1 tn1 v, tyRel ta tn x ta1 tn1 v ∧ tOK ta1 tn1 := by
  by_cases hw : wi x 32 126
  · by_cases h6 : tn = 60
    · exact ⟨ta, tn, -3, ⟨fun q => absurd hw q, fun _ _ => ⟨rfl, rfl, rfl⟩, fun _ _ _ _ q => absurd h6 q⟩, ht⟩
    · obtain ⟨xn, rfl, x0, x1⟩ := wi_nat (b := 126) (by decide) hw
      refine ⟨uN ta tn xn, tn + 1, nI (tn + 1), ⟨fun q => absurd hw q, fun _ q => absurd q h6, fun y ey b1 b2 _ => ?_⟩, by have := ht.1; omega, fun i hi => ?_⟩
      · obtain rfl := nI_inj (by omega) (by omega) ey; exact ⟨rfl, rfl, rfl⟩
      · by_cases q : i = tn
        · subst q; rw [uN_s]; omega
        · rw [uN_n _ q]; exact ht.2 i (by omega)
  · exact ⟨ta, tn, -1, ⟨fun _ => ⟨rfl, rfl, rfl⟩, fun q => absurd q hw, fun y ey b1 b2 _ => absurd (by rw [ey, wi_nI (by omega)]; omega) hw⟩, ht⟩
theorem cn_eq (h : Ag r rc) (un k : Nat) : cnF rc un k = cnF r un k := by
  unfold cnF
  rw [h.hb, h.lo (i := 0) (by decide), h.lo (i := 1) (by decide), h.lo (i := 2) (by decide), h.lo (i := 3) (by decide), h.lo (i := 4) (by decide), h.lo (i := 6) (by decide), h.aw _ (Nat.le_refl _), h.ap _ (Nat.le_refl _), h.ho (Nat.le_refl _)]
theorem ex_cn (h : Ag r rc) (un : Nat) (w : Int32) : ∃ v, cnRel r un w v ∧ cnRel rc un w v := by
  by_cases hw : w.toInt < 0 ∨ 10 < w.toInt
  · exact ⟨-1, ⟨fun k e b => absurd hw (by omega), fun _ => rfl⟩, ⟨fun k e b => absurd hw (by omega), fun _ => rfl⟩⟩
  · refine ⟨nI (cnF r un w.toInt.toNat), ⟨fun k e b => ?_, fun q => absurd q hw⟩, ⟨fun k e b => ?_, fun q => absurd q hw⟩⟩
    · rw [e]; rfl
    · rw [e, cn_eq h]; rfl
end EX9
