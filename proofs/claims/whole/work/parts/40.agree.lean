/-! THE TWO ROWS AGREE as far as there are people: r the reference's, rc the class's -/
def Ag (r rc : Nat → Nat) : Prop := ∀ i, i < 7 + 4 * r 6 → rc i = r i
section AG9
variable {r rc : Nat → Nat}
theorem Ag.lo (h : Ag r rc) {i : Nat} (hi : i < 7) : rc i = r i := h i (by omega)
theorem Ag.p (h : Ag r rc) {j c : Nat} (hj : j < r 6) (hc : c < 4) : rc (7 + 4 * j + c) = r (7 + 4 * j + c) := h _ (by omega)
theorem Ag.wo (h : Ag r rc) {p : Nat} (hp : p < r 6) (m : Nat) : woF rc p m = woF r p m := by
  unfold woF
  rw [h.p (c := 0) hp (by decide), h.p (c := 1) hp (by decide), h.p (c := 2) hp (by decide), h.lo (i := 2) (by decide), h.lo (i := 4) (by decide)]
theorem Ag.pa (h : Ag r rc) {p : Nat} (hp : p < r 6) (m : Nat) : paF rc p m = paF r p m := by
  unfold paF
  rw [h.p (c := 0) hp (by decide), h.wo hp, h.lo (i := 2) (by decide)]
theorem Ag.ha (h : Ag r rc) {p : Nat} (hp : p < r 6) (m : Nat) : haF rc p m = haF r p m := by
  unfold haF
  rw [h.p (c := 0) hp (by decide), h.p (c := 2) hp (by decide), h.pa hp]
theorem Ag.aw (h : Ag r rc) (m : Nat) {n : Nat} (hn : n ≤ r 6) : awF rc m n = awF r m n := by
  induction n with
  | zero => rfl
  | succ n ih => show awF rc m n + woF rc n m = awF r m n + woF r n m; rw [ih (by omega), h.wo (by omega)]
theorem Ag.ap (h : Ag r rc) (m : Nat) {n : Nat} (hn : n ≤ r 6) : apF rc m n = apF r m n := by
  induction n with
  | zero => rfl
  | succ n ih => show apF rc m n + paF rc n m = apF r m n + paF r n m; rw [ih (by omega), h.pa (by omega)]
theorem Ag.ho (h : Ag r rc) {n : Nat} (hn : n ≤ r 6) : hoF rc n = hoF r n := by
  induction n with
  | zero => rfl
  | succ n ih => show hoF rc n ||| _ = hoF r n ||| _; rw [ih (by omega), h.p (c := 0) (show n < r 6 by omega) (by decide), h.p (c := 3) (show n < r 6 by omega) (by decide)]
theorem Ag.ch (h : Ag r rc) {n : Nat} (hn : n ≤ r 6) : chF rc n = chF r n := chF_cg (fun j hj => h.p (by omega) (by decide))
theorem Ag.hb (h : Ag r rc) : hbF rc = hbF r := by
  unfold hbF
  rw [h.lo (i := 0) (by decide), h.lo (i := 1) (by decide), h.lo (i := 6) (by decide), h.ho (Nat.le_refl _)]
theorem Ag.week (h : Ag r rc) (mm : Nat) : Ag (weekR r mm) (weekR rc mm) ∧ weekW rc mm = weekW r mm := by
  refine ⟨fun i hi => ?_, ?_⟩
  · rw [weekR_6] at hi
    by_cases h0 : i = 0
    · subst h0; rw [weekR_0, weekR_0, h.hb]; unfold weP; rw [h.lo (i := 0) (by decide), h.lo (i := 6) (by decide), h.ap _ (Nat.le_refl _)]
    · by_cases h4 : i = 4
      · subst h4; rw [weekR_4, weekR_4, h.lo (by decide)]
      · unfold weekR
        rw [h.hb, weR_at _ _ _ h0 h4, weR_at _ _ _ h0 h4, h.lo (i := 6) (by decide)]
        by_cases hq : ∃ p, p < r 6 ∧ i = 7 + 4 * p + 2
        · obtain ⟨p, hp, rfl⟩ := hq
          rw [hrF_hab _ _ _ _ hp, hrF_hab _ _ _ _ hp, h.ha hp]
        · rw [hrF_other _ _ _ _ (fun p hp e => hq ⟨p, hp, e⟩), hrF_other _ _ _ _ (fun p hp e => hq ⟨p, hp, e⟩)]
          exact h i hi
  · unfold weekW
    rw [h.hb, h.lo (i := 6) (by decide), h.aw _ (Nat.le_refl _)]
theorem Ag.u (h : Ag r rc) {i : Nat} (v : Nat) (hi : i ≠ 6) : Ag (uN r i v) (uN rc i v) := by
  intro j hj
  rw [uN_n r (Ne.symm hi)] at hj
  by_cases q : j = i
  · subst q; rw [uN_s, uN_s]
  · rw [uN_n _ q, uN_n _ q]; exact h j hj
theorem Ag.wk (h : Ag r rc) (n : Nat) : Ag (wkN r n) (wkN rc n) ∧ laN rc n = laN r n ∧ suN rc n = suN r n := by
  induction n with
  | zero => exact ⟨h, rfl, rfl⟩
  | succ n ih =>
    have e3 : wkN rc n 3 = wkN r n 3 := ih.1.lo (by decide)
    obtain ⟨a, b⟩ := ih.1.week (wkN r n 3)
    have el : laN rc (n + 1) = laN r (n + 1) := by show weekW (wkN rc n) (wkN rc n 3) = weekW (wkN r n) (wkN r n 3); rw [e3]; exact b
    refine ⟨?_, el, ?_⟩
    · show Ag (weekR (wkN r n) (wkN r n 3)) (weekR (wkN rc n) (wkN rc n 3)); rw [e3]; exact a
    · show suN rc n + laN rc (n + 1) = suN r n + laN r (n + 1); rw [ih.2.2, el]
theorem Ag.dr (h : Ag r rc) : Ag (drX r) (drX rc) := by
  unfold drX
  rw [h.lo (i := 5) (by decide)]
  exact h.u _ (by decide)
theorem Ag.dk (h : Ag r rc) (n : Nat) : Ag (dkN r n) (dkN rc n) ∧ dsN rc n = dsN r n := by
  induction n with
  | zero => exact ⟨h, rfl⟩
  | succ n ih =>
    have hd := ih.1.dr
    have e5 : drX (dkN rc n) 5 = drX (dkN r n) 5 := hd.lo (by decide)
    obtain ⟨a, b⟩ := hd.week (drX (dkN r n) 5 / 65536 % 10)
    refine ⟨?_, ?_⟩
    · show Ag (weekR (drX (dkN r n)) (drX (dkN r n) 5 / 65536 % 10)) (weekR (drX (dkN rc n)) (drX (dkN rc n) 5 / 65536 % 10)); rw [e5]; exact a
    · show dsN rc n + weekW (drX (dkN rc n)) (drX (dkN rc n) 5 / 65536 % 10) = dsN r n + weekW (drX (dkN r n)) (drX (dkN r n) 5 / 65536 % 10); rw [e5, b, ih.2]
theorem Ag.rx (h : Ag r rc) (q k : Nat) : Ag (raX r q k) (raX rc q k) := by
  unfold raX
  rw [h.lo (i := 2) (by decide)]
  exact h.u _ (by decide)
theorem Ag.ra (h : Ag r rc) (q k n : Nat) : Ag (raN r q k n) (raN rc q k n) ∧ raS rc q k n = raS r q k n := by
  induction n with
  | zero => exact ⟨h, rfl⟩
  | succ n ih =>
    have hd := ih.1.rx q k
    have e3 : raX (raN rc q k n) q k 3 = raX (raN r q k n) q k 3 := hd.lo (by decide)
    obtain ⟨a, b⟩ := hd.week (raX (raN r q k n) q k 3)
    refine ⟨?_, ?_⟩
    · show Ag (weekR (raX (raN r q k n) q k) (raX (raN r q k n) q k 3)) (weekR (raX (raN rc q k n) q k) (raX (raN rc q k n) q k 3)); rw [e3]; exact a
    · show raS rc q k n + weekW (raX (raN rc q k n) q k) (raX (raN rc q k n) q k 3) = raS r q k n + weekW (raX (raN r q k n) q k) (raX (raN r q k n) q k 3); rw [e3, b, ih.2]
theorem Ag.mk (h : Ag r rc) (w n : Nat) : Ag (mkN r w n) (mkN rc w n) := by
  induction n with
  | zero => exact h
  | succ n ih =>
    have e3 : mkN rc w n 3 = mkN r w n 3 := ih.lo (by decide)
    show Ag (weekR (mkN r w n) (mkN r w n 3 + leN w n % 3)) (weekR (mkN rc w n) (mkN rc w n 3 + leN w n % 3))
    rw [e3]
    exact (ih.week _).1
theorem Ag.me (h : Ag r rc) (k w : Nat) : meS rc k w = meS r k w := by
  induction w with
  | zero => rfl
  | succ w ih => show meS rc k w + mkN rc w k 0 = meS r k w + mkN r w k 0; rw [ih, (h.mk w k).lo (by decide)]
theorem Ag.hs (h : Ag r rc) (s n : Nat) : Ag (hsR r s n) (hsR rc s n) := by
  induction n with
  | zero => exact h
  | succ n ih => exact ih.u _ (by omega)
theorem Ag.ok {w : Nat} (h : Ag r rc) (ok : rOK w r) : rOK w rc := by
  obtain ⟨o0, o1, o1b, o2, o2b, o3, o4, o5, o6, oP⟩ := ok
  unfold rOK
  rw [h.lo (i := 0) (by decide), h.lo (i := 1) (by decide), h.lo (i := 2) (by decide), h.lo (i := 3) (by decide), h.lo (i := 4) (by decide), h.lo (i := 5) (by decide), h.lo (i := 6) (by decide)]
  refine ⟨o0, o1, o1b, o2, o2b, o3, o4, o5, o6, fun p hp => ?_⟩
  rw [h.p (c := 0) hp (by decide), h.p (c := 1) hp (by decide), h.p (c := 2) hp (by decide), h.p (c := 3) hp (by decide)]
  exact oP p hp
theorem Ag.adp (h : Ag r rc) (k t hq x : Nat) : Ag (adpR r k t hq x) (adpR rc k t hq x) := by
  intro i hi
  rw [adpR_6] at hi
  have e6 : rc 6 = r 6 := h.lo (by decide)
  by_cases q : i < 7 + 4 * r 6
  · by_cases q6 : i = 6
    · subst q6; rw [adpR_6, adpR_6, e6]
    · rw [adp_lo (f := rc) (by rw [e6]; omega) q6, adp_lo (f := r) (by omega) q6]; exact h i q
  · have e : ∀ f : Nat → Nat, f 6 = r 6 → adpR f k t hq x i = if i = 7 + 4 * r 6 + 3 then x else if i = 7 + 4 * r 6 + 2 then hq else if i = 7 + 4 * r 6 + 1 then t else k := by
      intro f hf
      unfold adpR adpX
      rw [hf, uN_n _ (show i ≠ 6 by omega)]
      by_cases a3 : i = 7 + 4 * r 6 + 3
      · rw [if_pos a3, a3, uN_s]
      · rw [if_neg a3, uN_n _ a3]
        by_cases a2 : i = 7 + 4 * r 6 + 2
        · rw [if_pos a2, a2, uN_s]
        · rw [if_neg a2, uN_n _ a2]
          by_cases a1 : i = 7 + 4 * r 6 + 1
          · rw [if_pos a1, a1, uN_s]
          · rw [if_neg a1, uN_n _ a1, show i = 7 + 4 * r 6 by omega, uN_s]
    rw [e rc e6, e r rfl]
theorem Ag.add (h : Ag r rc) (k t hq : Nat) : Ag (addR r k t hq) (addR rc k t hq) := h.adp k t hq 1
theorem Ag.refl (r : Nat → Nat) : Ag r r := fun _ _ => rfl
end AG9
/-! what was known: agreement and values. n: how many people -/
def pAg (n un : Nat) (ps pc : Nat → Nat) : Prop := ∀ i, i < un → pc (9 * i) = ps (9 * i) ∧ pc (9 * i + 1) = ps (9 * i + 1) ∧ pc (9 * i + 2) = ps (9 * i + 2) ∧ ∀ j, j < n → pc (9 * i + 3 + j) = ps (9 * i + 3 + j)
def pVal (n un : Nat) (ps : Nat → Nat) : Prop := ∀ i, i < un → ps (9 * i) ≤ 9999 ∧ ps (9 * i + 1) ≤ 9999 ∧ ps (9 * i + 2) < 2147483648 ∧ ∀ j, j < n → ps (9 * i + 3 + j) ≤ 99
theorem kn_at {r ps : Nat → Nat} {un i c : Nat} (hi : i < knU un) (hc : c < 9) : knP r ps un (9 * i + c) = ps (9 * (if un = 8 then i + 1 else i) + c) := by
  show knE r (knS ps un) (knU un) 6 (9 * i + c) = _
  rw [knE_lo _ _ _ _ (by omega)]
  by_cases q8 : un = 8
  · rw [if_pos q8, knS_lo ps q8 (by unfold knU at hi; rw [if_pos q8] at hi; exact hi) hc]
  · rw [if_neg q8, knS_no ps q8]
theorem kn_ix {un i : Nat} (h8 : un ≤ 8) (hi : i < knU un) : (if un = 8 then i + 1 else i) < un := by
  unfold knU at hi
  split at hi <;> rename_i q
  · rw [if_pos q]; omega
  · rw [if_neg q]; omega
theorem pAg.know {n un : Nat} {ps pc r rc : Nat → Nat} (h : pAg n un ps pc) (h8 : un ≤ 8) (hn : n ≤ 6) (ha : Ag r rc) (hr : n = r 6) : pAg n (knU un + 1) (knP r ps un) (knP rc pc un) := by
  intro i hi
  have hu := knU_lt h8
  by_cases q : i = knU un
  · subst q
    obtain ⟨e0, e1, e2⟩ := knE_0 r (knS ps un) (knU un) 6
    obtain ⟨f0, f1, f2⟩ := knE_0 rc (knS pc un) (knU un) 6
    refine ⟨?_, ?_, ?_, fun j hj => ?_⟩
    · exact f0.trans ((ha.lo (by decide)).trans e0.symm)
    · exact f1.trans ((ha.lo (by decide)).trans e1.symm)
    · exact f2.trans ((ha.lo (by decide)).trans e2.symm)
    · exact (knE_h rc (knS pc un) (knU un) 6 (show j < 6 by omega)).trans ((ha.p (c := 2) (by omega) (by decide)).trans (knE_h r (knS ps un) (knU un) 6 (show j < 6 by omega)).symm)
  · have hi2 : i < knU un := by omega
    obtain ⟨a0, a1, a2, a3⟩ := h _ (kn_ix h8 hi2)
    have k0 := kn_at (r := r) (ps := ps) hi2 (show 0 < 9 by decide)
    have l0 := kn_at (r := rc) (ps := pc) hi2 (show 0 < 9 by decide)
    refine ⟨l0.trans (a0.trans k0.symm), (kn_at (r := rc) (ps := pc) hi2 (show 1 < 9 by decide)).trans (a1.trans (kn_at (r := r) (ps := ps) hi2 (show 1 < 9 by decide)).symm), (kn_at (r := rc) (ps := pc) hi2 (show 2 < 9 by decide)).trans (a2.trans (kn_at (r := r) (ps := ps) hi2 (show 2 < 9 by decide)).symm), fun j hj => ?_⟩
    have b := a3 j hj
    rw [show 9 * i + 3 + j = 9 * i + (3 + j) by omega, kn_at (r := rc) (ps := pc) hi2 (show 3 + j < 9 by omega), kn_at (r := r) (ps := ps) hi2 (show 3 + j < 9 by omega), ← Nat.add_assoc]
    exact b
theorem pVal.know {n un : Nat} {ps r : Nat → Nat} (h : pVal n un ps) (h8 : un ≤ 8) (hn : n ≤ 6) (ok : rOK 9999 r) (hr : n = r 6) : pVal n (knU un + 1) (knP r ps un) := by
  obtain ⟨o0, o1, o1b, o2, o2b, o3, o4, o5, o6, oP⟩ := ok
  intro i hi
  have hu := knU_lt h8
  by_cases q : i = knU un
  · subst q
    obtain ⟨e0, e1, e2⟩ := knE_0 r (knS ps un) (knU un) 6
    refine ⟨?_, ?_, ?_, fun j hj => ?_⟩
    · show knE r (knS ps un) (knU un) 6 _ ≤ _; rw [e0]; exact o0
    · show knE r (knS ps un) (knU un) 6 _ ≤ _; rw [e1]; exact o4
    · show knE r (knS ps un) (knU un) 6 _ < _; rw [e2]; exact o5
    · show knE r (knS ps un) (knU un) 6 _ ≤ _; rw [knE_h r (knS ps un) (knU un) 6 (show j < 6 by omega)]; exact (oP j (by omega)).2.2.2.1
  · have hi2 : i < knU un := by omega
    obtain ⟨a0, a1, a2, a3⟩ := h _ (kn_ix h8 hi2)
    have k0 := kn_at (r := r) (ps := ps) hi2 (show 0 < 9 by decide)
    have k1 := kn_at (r := r) (ps := ps) hi2 (show 1 < 9 by decide)
    have k2 := kn_at (r := r) (ps := ps) hi2 (show 2 < 9 by decide)
    refine ⟨by rw [show 9 * i = 9 * i + 0 by omega, k0]; exact a0, by rw [k1]; exact a1, by rw [k2]; exact a2, fun j hj => ?_⟩
    rw [show 9 * i + 3 + j = 9 * i + (3 + j) by omega, kn_at (r := r) (ps := ps) hi2 (show 3 + j < 9 by omega), ← Nat.add_assoc]
    exact a3 j hj
theorem pAg.none {n : Nat} {ps pc : Nat → Nat} : pAg n 0 ps pc := fun _ h => absurd h (Nat.not_lt_zero _)
theorem pVal.none {n : Nat} {ps : Nat → Nat} : pVal n 0 ps := fun _ h => absurd h (Nat.not_lt_zero _)
theorem pgOK.none {fp fw fd fh : Nat → Nat} {nx un : Nat} {ps : Nat → Nat} (h : pgOK fp fw fd fh nx un ps) : pgOK fp fw fd fh nx 0 ps := ⟨h.1, Nat.zero_le _, fun _ h => absurd h (Nat.not_lt_zero _)⟩
/-- a row brought back -/
theorem bk_ok {r ps : Nat → Nat} {u un : Nat} (ok : rOK 9999 r) (hv : pVal (r 6) un ps) (hu : u < un) : rOK 9999 (bkF r ps u 6) := by
  obtain ⟨o0, o1, o1b, o2, o2b, o3, o4, o5, o6, oP⟩ := ok
  obtain ⟨v0, v1, v2, v3⟩ := hv u hu
  have e : ∀ i, i ≠ 0 → i ≠ 4 → i ≠ 5 → (∀ p, i ≠ 7 + 4 * p + 2) → bkF r ps u 6 i = r i := fun i a b c d => bkF_at _ _ _ _ a b c (fun p _ => d p)
  obtain ⟨b0, b4, b5⟩ := bkF_0 r ps u 6
  unfold rOK
  rw [b0, b4, b5, e 1 (by decide) (by decide) (by decide) (fun p => by omega), e 2 (by decide) (by decide) (by decide) (fun p => by omega), e 3 (by decide) (by decide) (by decide) (fun p => by omega), e 6 (by decide) (by decide) (by decide) (fun p => by omega)]
  refine ⟨v0, o1, o1b, o2, o2b, o3, v1, v2, o6, fun p hp => ?_⟩
  obtain ⟨k0, k1, k1b, k2, k3⟩ := oP p hp
  rw [e _ (by omega) (by omega) (by omega) (fun q => by omega), e (7 + 4 * p + 1) (by omega) (by omega) (by omega) (fun q => by omega), e (7 + 4 * p + 3) (by omega) (by omega) (by omega) (fun q => by omega), bkF_h _ _ _ _ (show p < 6 by omega)]
  exact ⟨k0, k1, k1b, v3 p hp, k3⟩
theorem Ag.bk {r rc ps pc : Nat → Nat} {u un : Nat} (h : Ag r rc) (h6 : r 6 ≤ 6) (hp : pAg (r 6) un ps pc) (hu : u < un) : Ag (bkF r ps u 6) (bkF rc pc u 6) := by
  obtain ⟨a0, a1, a2, a3⟩ := hp u hu
  obtain ⟨b0, b4, b5⟩ := bkF_0 r ps u 6
  obtain ⟨c0, c4, c5⟩ := bkF_0 rc pc u 6
  have e6 : bkF r ps u 6 6 = r 6 := bkF_at _ _ _ _ (by decide) (by decide) (by decide) (fun p _ => by omega)
  intro i hi
  rw [e6] at hi
  by_cases q0 : i = 0
  · subst q0; rw [b0, c0, a0]
  · by_cases q4 : i = 4
    · subst q4; rw [b4, c4, a1]
    · by_cases q5 : i = 5
      · subst q5; rw [b5, c5, a2]
      · by_cases hq : ∃ p, p < r 6 ∧ i = 7 + 4 * p + 2
        · obtain ⟨p, hp2, rfl⟩ := hq
          rw [bkF_h _ _ _ _ (by omega), bkF_h _ _ _ _ (by omega), a3 p hp2]
        · rw [bkF_at _ _ _ _ q0 q4 q5 (fun p hp2 e => hq ⟨p, by omega, e⟩), bkF_at _ _ _ _ q0 q4 q5 (fun p hp2 e => hq ⟨p, by omega, e⟩)]
          exact h i hi
/-- n times known, WEEK by WEEK -/
theorem kn_many {r rc ps pc : Nat → Nat} {un n : Nat} (R : Nat → Nat → Nat) (RC : Nat → Nat → Nat) (P PC : Nat → Nat → Nat) (hP0 : P 0 = ps) (hC0 : PC 0 = pc) (hP : ∀ j, P (j + 1) = knP (R j) (P j) (unN un j)) (hC : ∀ j, PC (j + 1) = knP (RC j) (PC j) (unN un j)) (hag : ∀ j, Ag (R j) (RC j)) (h6 : ∀ j, R j 6 = r 6) (hok : ∀ j, j < n → rOK 9999 (R j)) (h8 : un ≤ 8) (hr6 : r 6 ≤ 6) (h0 : pAg (r 6) un ps pc) (v0 : pVal (r 6) un ps) : pAg (r 6) (unN un n) (P n) (PC n) ∧ pVal (r 6) (unN un n) (P n) := by
  induction n with
  | zero => rw [hP0, hC0]; exact ⟨h0, v0⟩
  | succ n ih =>
    obtain ⟨a, b⟩ := ih (fun j hj => hok j (by omega))
    rw [hP, hC]
    exact ⟨a.know (unN_le h8 n) hr6 (hag n) (h6 n).symm, b.know (unN_le h8 n) hr6 (hok n (by omega)) (h6 n).symm⟩
