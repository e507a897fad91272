/-! the rest of the calls: an answer for class and reference alike, and what comes behind it -/
section EX8
variable {r rc ps pc : Nat → Nat} {un : Nat}
/-- reference r, class rc; what was known, ps and pc -/
def HK (r rc : Nat → Nat) (un : Nat) (ps pc : Nat → Nat) : Prop := rOK 9999 r ∧ Ag r rc ∧ un ≤ 8 ∧ pAg (r 6) un ps pc ∧ pVal (r 6) un ps
theorem HK.ch {r1 rc1 : Nat → Nat} (h : HK r rc un ps pc) (a : Ag r1 rc1) (o : rOK 9999 r1) (e : r1 6 = r 6) : HK r1 rc1 un ps pc := ⟨o, a, h.2.2.1, by rw [e]; exact h.2.2.2.1, by rw [e]; exact h.2.2.2.2⟩
theorem HK.fresh {r1 rc1 : Nat → Nat} (a : Ag r1 rc1) (o : rOK 9999 r1) : HK r1 rc1 0 ps pc := ⟨o, a, Nat.zero_le _, pAg.none, pVal.none⟩
theorem HK.know {r1 rc1 : Nat → Nat} (h : HK r rc un ps pc) (a : Ag r1 rc1) (o : rOK 9999 r1) (e : r1 6 = r 6) : HK r1 rc1 (knU un + 1) (knP r ps un) (knP rc pc un) := by
  obtain ⟨ok, ag, h8, hp, hv⟩ := h
  have h6 := ok.2.2.2.2.2.2.2.2.1
  refine ⟨o, a, by have := knU_lt h8; omega, ?_, ?_⟩
  · rw [e]; exact hp.know h8 h6 ag rfl
  · rw [e]; exact hv.know h8 h6 ok rfl
theorem rOK.at {w : Nat} {r : Nat → Nat} (h : rOK w r) : rOK (r 4) r := by
  obtain ⟨o0, o1, o1b, o2, o2b, o3, o4, o5, o6, oP⟩ := h
  exact ⟨o0, o1, o1b, o2, o2b, o3, Nat.le_refl _, o5, o6, oP⟩
theorem wk_9 {w : Nat} {r : Nat → Nat} {k : Nat} (h : rOK w r) (h4 : r 4 + k ≤ 9999) : rOK 9999 (wkN r k) := (wkN_ok k h.at).mono h4
theorem dk_9 {w : Nat} {r : Nat → Nat} {k : Nat} (h : rOK w r) (h4 : r 4 + k ≤ 9999) : rOK 9999 (dkN r k) := (dkN_ok k h.at).mono h4
theorem ex_ws (h : HK r rc un ps pc) (n : Int32) : ∃ r1 rc1 ps1 pc1 un1 v, wsRel r ps un n r1 ps1 un1 v ∧ wsRel rc pc un n rc1 pc1 un1 v ∧ HK r1 rc1 un1 ps1 pc1 ∧ KT rc rc1 := by
  obtain ⟨ok, ag, h8, hp, hv⟩ := id h
  have e4 : rc 4 = r 4 := ag.lo (by decide)
  unfold wsRel
  rw [e4]
  by_cases hw : wi n 1 60
  · obtain ⟨k, rfl, k0, k1⟩ := wi_nat (b := 60) (by decide) hw
    by_cases h4 : r 4 + k ≤ 9999
    · have hk := kn_many (r := r) (rc := rc) (ps := ps) (pc := pc) (un := un) (n := k) (fun j => wkN r j) (fun j => wkN rc j) (psN r ps un) (psN rc pc un) rfl rfl (fun _ => rfl) (fun _ => rfl) (fun j => (ag.wk j).1) (fun j => wkN_6 r j) (fun j hj => wk_9 ok (by omega)) h8 ok.2.2.2.2.2.2.2.2.1 hp hv
      refine ⟨wkN r k, wkN rc k, psN r ps un k, psN rc pc un k, unN un k, nI (wkN r k 0), ⟨fun q => absurd hw q, fun a ea b1 b2 b3 => ?_, fun a ea b1 b2 b3 => ?_⟩, ⟨fun q => absurd hw q, fun a ea b1 b2 b3 => ?_, fun a ea b1 b2 b3 => ?_⟩, ⟨wk_9 ok h4, (ag.wk k).1, unN_le h8 k, by rw [wkN_6]; exact hk.1, by rw [wkN_6]; exact hk.2⟩, KT.wk k⟩
      · obtain rfl := nI_inj (by omega) (by omega) ea; exact absurd b3 (by omega)
      · obtain rfl := nI_inj (by omega) (by omega) ea; exact ⟨rfl, rfl, rfl, rfl⟩
      · obtain rfl := nI_inj (by omega) (by omega) ea; exact absurd b3 (by omega)
      · obtain rfl := nI_inj (by omega) (by omega) ea; exact ⟨rfl, rfl, rfl, by rw [(ag.wk _).1.lo (i := 0) (by decide)]⟩
    · refine ⟨r, rc, ps, pc, un, -3, ⟨fun q => absurd hw q, fun a ea b1 b2 b3 => ⟨rfl, rfl, rfl, rfl⟩, fun a ea b1 b2 b3 => ?_⟩, ⟨fun q => absurd hw q, fun a ea b1 b2 b3 => ⟨rfl, rfl, rfl, rfl⟩, fun a ea b1 b2 b3 => ?_⟩, h, KT.rf⟩
      · obtain rfl := nI_inj (by omega) (by omega) ea; exact absurd b3 h4
      · obtain rfl := nI_inj (by omega) (by omega) ea; exact absurd b3 h4
  · refine ⟨r, rc, ps, pc, un, -1, ⟨fun _ => ⟨rfl, rfl, rfl, rfl⟩, fun a ea b1 b2 _ => ?_, fun a ea b1 b2 _ => ?_⟩, ⟨fun _ => ⟨rfl, rfl, rfl, rfl⟩, fun a ea b1 b2 _ => ?_, fun a ea b1 b2 _ => ?_⟩, h, KT.rf⟩
    all_goals exact absurd (by rw [ea, wi_nI (by omega)]; omega) hw
theorem ex_df (h : HK r rc un ps pc) (n : Int32) : ∃ r1 rc1 ps1 pc1 un1 v, dfRel r ps un n r1 ps1 un1 v ∧ dfRel rc pc un n rc1 pc1 un1 v ∧ HK r1 rc1 un1 ps1 pc1 ∧ KT rc rc1 := by
  obtain ⟨ok, ag, h8, hp, hv⟩ := id h
  have e4 : rc 4 = r 4 := ag.lo (by decide)
  unfold dfRel
  rw [e4]
  by_cases hw : wi n 1 60
  · obtain ⟨k, rfl, k0, k1⟩ := wi_nat (b := 60) (by decide) hw
    by_cases h4 : r 4 + k ≤ 9999
    · have hk := kn_many (r := r) (rc := rc) (ps := ps) (pc := pc) (un := un) (n := k) (fun j => dkN r j) (fun j => dkN rc j) (dpN r ps un) (dpN rc pc un) rfl rfl (fun _ => rfl) (fun _ => rfl) (fun j => (ag.dk j).1) (fun j => dkN_6 r j) (fun j hj => dk_9 ok (by omega)) h8 ok.2.2.2.2.2.2.2.2.1 hp hv
      refine ⟨dkN r k, dkN rc k, dpN r ps un k, dpN rc pc un k, unN un k, nI (dsN r k), ⟨fun q => absurd hw q, fun a ea b1 b2 b3 => ?_, fun a ea b1 b2 b3 => ?_⟩, ⟨fun q => absurd hw q, fun a ea b1 b2 b3 => ?_, fun a ea b1 b2 b3 => ?_⟩, ⟨dk_9 ok h4, (ag.dk k).1, unN_le h8 k, by rw [dkN_6]; exact hk.1, by rw [dkN_6]; exact hk.2⟩, KT.dk k⟩
      · obtain rfl := nI_inj (by omega) (by omega) ea; exact absurd b3 (by omega)
      · obtain rfl := nI_inj (by omega) (by omega) ea; exact ⟨rfl, rfl, rfl, rfl⟩
      · obtain rfl := nI_inj (by omega) (by omega) ea; exact absurd b3 (by omega)
      · obtain rfl := nI_inj (by omega) (by omega) ea; exact ⟨rfl, rfl, rfl, by rw [(ag.dk _).2]⟩
    · refine ⟨r, rc, ps, pc, un, -3, ⟨fun q => absurd hw q, fun a ea b1 b2 b3 => ⟨rfl, rfl, rfl, rfl⟩, fun a ea b1 b2 b3 => ?_⟩, ⟨fun q => absurd hw q, fun a ea b1 b2 b3 => ⟨rfl, rfl, rfl, rfl⟩, fun a ea b1 b2 b3 => ?_⟩, h, KT.rf⟩
      · obtain rfl := nI_inj (by omega) (by omega) ea; exact absurd b3 h4
      · obtain rfl := nI_inj (by omega) (by omega) ea; exact absurd b3 h4
  · refine ⟨r, rc, ps, pc, un, -1, ⟨fun _ => ⟨rfl, rfl, rfl, rfl⟩, fun a ea b1 b2 _ => ?_, fun a ea b1 b2 _ => ?_⟩, ⟨fun _ => ⟨rfl, rfl, rfl, rfl⟩, fun a ea b1 b2 _ => ?_, fun a ea b1 b2 _ => ?_⟩, h, KT.rf⟩
    all_goals exact absurd (by rw [ea, wi_nI (by omega)]; omega) hw
theorem pe9_ok {w : Nat} {r : Nat → Nat} {x : Nat} (h : rOK w r) (h2 : x ≤ 9999) : rOK w (uN r 0 x) := by
  obtain ⟨o0, o1, o1b, o2, o2b, o3, o4, o5, o6, oP⟩ := h
  have e : ∀ i, i ≠ 0 → uN r 0 x i = r i := fun i hi => uN_n _ hi
  unfold rOK
  rw [uN_s, e 1 (by decide), e 2 (by decide), e 3 (by decide), e 4 (by decide), e 5 (by decide), e 6 (by decide)]
  refine ⟨h2, o1, o1b, o2, o2b, o3, o4, o5, o6, fun q hq => ?_⟩
  rw [e (7 + 4 * q + 0) (by omega), e (7 + 4 * q + 1) (by omega), e (7 + 4 * q + 2) (by omega), e (7 + 4 * q + 3) (by omega)]
  exact oP q hq
theorem ex_ta (h : HK r rc un ps pc) (n : Int32) : ∃ r1 rc1 ps1 pc1 un1 v, taRel r ps un n r1 ps1 un1 v ∧ taRel rc pc un n rc1 pc1 un1 v ∧ HK r1 rc1 un1 ps1 pc1 ∧ KT rc rc1 := by
  obtain ⟨ok, ag, h8, hp, hv⟩ := id h
  have e0 : rc 0 = r 0 := ag.lo (by decide)
  have o0 := ok.1
  unfold taRel
  rw [e0]
  by_cases hw : wi n 1 9999
  · obtain ⟨k, rfl, k0, k1⟩ := wi_nat (b := 9999) (by decide) hw
    by_cases h4 : k ≤ r 0
    · refine ⟨uN r 0 (r 0 - k), uN rc 0 (r 0 - k), knP r ps un, knP rc pc un, knU un + 1, nI (r 0 - k), ⟨fun q => absurd hw q, fun a ea b1 b2 b3 => ?_, fun a ea b1 b3 => ?_⟩, ⟨fun q => absurd hw q, fun a ea b1 b2 b3 => ?_, fun a ea b1 b3 => ?_⟩, h.know (ag.u _ (by decide)) (pe9_ok ok (by omega)) (uN_n _ (by decide)), KT.u (by decide)⟩
      · obtain rfl := nI_inj (by omega) (by omega) ea; exact absurd b3 (by omega)
      · obtain rfl := nI_inj (by omega) (by omega) ea; exact ⟨rfl, rfl, rfl, rfl⟩
      · obtain rfl := nI_inj (by omega) (by omega) ea; exact absurd b3 (by omega)
      · obtain rfl := nI_inj (by omega) (by omega) ea; exact ⟨rfl, rfl, rfl, rfl⟩
    · refine ⟨r, rc, ps, pc, un, -2, ⟨fun q => absurd hw q, fun a ea b1 b2 b3 => ⟨rfl, rfl, rfl, rfl⟩, fun a ea b1 b3 => ?_⟩, ⟨fun q => absurd hw q, fun a ea b1 b2 b3 => ⟨rfl, rfl, rfl, rfl⟩, fun a ea b1 b3 => ?_⟩, h, KT.rf⟩
      · obtain rfl := nI_inj (by omega) (by omega) ea; exact absurd b3 h4
      · obtain rfl := nI_inj (by omega) (by omega) ea; exact absurd b3 h4
  · refine ⟨r, rc, ps, pc, un, -1, ⟨fun _ => ⟨rfl, rfl, rfl, rfl⟩, fun a ea b1 b2 _ => ?_, fun a ea b1 b2 => ?_⟩, ⟨fun _ => ⟨rfl, rfl, rfl, rfl⟩, fun a ea b1 b2 _ => ?_, fun a ea b1 b2 => ?_⟩, h, KT.rf⟩
    all_goals exact absurd (by rw [ea, wi_nI (by omega)]; omega) hw
theorem ex_ud (h : HK r rc un ps pc) : ∃ r1 rc1 un1 v, udRel r ps un r1 un1 v ∧ udRel rc pc un rc1 un1 v ∧ HK r1 rc1 un1 ps pc ∧ KT rc rc1 := by
  obtain ⟨ok, ag, h8, hp, hv⟩ := id h
  by_cases h0 : un = 0
  · exact ⟨r, rc, un, -4, ⟨fun _ => ⟨rfl, rfl, rfl⟩, fun q => absurd h0 q⟩, ⟨fun _ => ⟨rfl, rfl, rfl⟩, fun q => absurd h0 q⟩, h, KT.rf⟩
  · have e6 : bkF r ps (un - 1) 6 6 = r 6 := bkF_at _ _ _ _ (by decide) (by decide) (by decide) (fun p _ => by omega)
    refine ⟨bkF r ps (un - 1) 6, bkF rc pc (un - 1) 6, un - 1, nI (un - 1), ⟨fun q => absurd q h0, fun _ => ⟨rfl, rfl, rfl⟩⟩, ⟨fun q => absurd q h0, fun _ => ⟨rfl, rfl, rfl⟩⟩, ⟨bk_ok ok hv (by omega), ag.bk ok.2.2.2.2.2.2.2.2.1 hp (by omega), by omega, ?_, ?_⟩, KT.bk pc _ _⟩
    · rw [e6]; exact fun i hi => hp i (by omega)
    · rw [e6]; exact fun i hi => hv i (by omega)
theorem ex_sd (h : HK r rc un ps pc) (x : Int32) : ∃ r1 rc1 v, sdRel r x r1 v ∧ sdRel rc x rc1 v ∧ HK r1 rc1 un ps pc ∧ KT rc rc1 := by
  obtain ⟨ok, ag, h8, hp, hv⟩ := id h
  by_cases hw : x < 0
  · refine ⟨r, rc, -1, ⟨fun _ => ⟨rfl, rfl⟩, fun k ek b => ?_⟩, ⟨fun _ => ⟨rfl, rfl⟩, fun k ek b => ?_⟩, h, KT.rf⟩
    all_goals
      rw [ek, Int32.lt_iff_toInt_lt, nI_toInt (by omega)] at hw
      have h0 : (0 : Int32).toInt = 0 := (by decide)
      omega
  · obtain ⟨k, hk, rfl⟩ := nI_of (x := x) hw
    refine ⟨uN r 5 k, uN rc 5 k, nI (r 5), ⟨fun q => absurd q hw, fun a ea b => ?_⟩, ⟨fun q => absurd q hw, fun a ea b => ?_⟩, h.ch (ag.u _ (by decide)) (sd_ok ok (by omega)) (uN_n _ (by decide)), KT.u (by decide)⟩
    · obtain rfl := nI_inj (by omega) (by omega) ea; exact ⟨rfl, rfl⟩
    · obtain rfl := nI_inj (by omega) (by omega) ea; exact ⟨rfl, by rw [ag.lo (i := 5) (by decide)]⟩
theorem ex_re {kr krc kp kpc : Nat → Nat} {ku ik : Nat} (h : HK r rc un ps pc) (hk : ik ≠ 0 → HK kr krc ku kp kpc) : ∃ r1 rc1 ps1 pc1 un1 v, reRel r ps un kr kp ku ik r1 ps1 un1 v ∧ reRel rc pc un krc kpc ku ik rc1 pc1 un1 v ∧ HK r1 rc1 un1 ps1 pc1 := by
  by_cases h0 : ik = 0
  · exact ⟨r, rc, ps, pc, un, -4, ⟨fun _ => ⟨rfl, rfl, rfl, rfl⟩, fun q => absurd h0 q⟩, ⟨fun _ => ⟨rfl, rfl, rfl, rfl⟩, fun q => absurd h0 q⟩, h⟩
  · exact ⟨kr, krc, kp, kpc, ku, nI 1, ⟨fun q => absurd q h0, fun _ => ⟨rfl, rfl, rfl, rfl⟩⟩, ⟨fun q => absurd q h0, fun _ => ⟨rfl, rfl, rfl, rfl⟩⟩, hk h0⟩
/-! what answers only -/
theorem ex_2 (a1 a2 : Int) (b1 b2 : Nat) (hb1 : b1 < 1000) (hb2 : b2 < 1000) (n w : Int32) (F : Nat → Nat → Int32) : ∃ v : Int32, (¬ (wi n a1 b1 ∧ wi w a2 b2) → v = -1) ∧ ∀ k j : Nat, n = nI k → w = nI j → a1 ≤ k → k ≤ b1 → a2 ≤ j → j ≤ b2 → v = F k j := by
  by_cases hw : wi n a1 b1 ∧ wi w a2 b2
  · refine ⟨F n.toInt.toNat w.toInt.toNat, fun q => absurd hw q, fun k j ek ej c1 c2 c3 c4 => ?_⟩
    rw [ek, ej, nI_toInt (by omega), nI_toInt (by omega)]; rfl
  · exact ⟨-1, fun _ => rfl, fun k j ek ej c1 c2 c3 c4 => absurd ⟨by rw [ek, wi_nI (by omega)]; omega, by rw [ej, wi_nI (by omega)]; omega⟩ hw⟩
theorem ex_ah (ag : Ag r rc) (n w : Int32) : ∃ v, ahRel r n w v ∧ ahRel rc n w v := by
  obtain ⟨v, h1, h2⟩ := ex_2 0 0 99 2 (by decide) (by decide) n w (fun k j => nI (ahF r k j))
  have e : ∀ k j, ahF rc k j = ahF r k j := fun k j => by unfold ahF; rw [(ag.wk k).1.lo (i := 0) (by decide), (ag.wk k).2.1, (ag.wk k).2.2]
  refine ⟨v, ⟨h1, fun k j ek ej c1 c2 => h2 k j ek ej (by omega) c1 (by omega) c2⟩, ⟨h1, fun k j ek ej c1 c2 => ?_⟩⟩
  rw [e]; exact h2 k j ek ej (by omega) c1 (by omega) c2
theorem dP_eq (ag : Ag r rc) (k : Nat) : dP rc k = dP r k ∧ dS rc k = dS r k ∧ dL rc k = dL r k := ⟨funext fun p => ((ag.u p (by decide)).wk k).1.lo (by decide), funext fun p => ((ag.u p (by decide)).wk k).2.2, funext fun p => ((ag.u p (by decide)).wk k).2.1⟩
theorem ex_de (ag : Ag r rc) (n w : Int32) : ∃ v, deRel r n w v ∧ deRel rc n w v := by
  obtain ⟨v, h1, h2⟩ := ex_2 0 0 99 1 (by decide) (by decide) n w (fun k j => if j = 0 then mxB (dP r k) (-4) 100 else mxX (dP r k) 100)
  refine ⟨v, ⟨h1, fun k ek c ew => (h2 k 0 ek ew (by omega) c (by omega) (by omega)).trans (if_pos rfl), fun k ek c ew => (h2 k 1 ek ew (by omega) c (by omega) (by omega)).trans (if_neg (by decide))⟩, ⟨h1, fun k ek c ew => ?_, fun k ek c ew => ?_⟩⟩
  · rw [(dP_eq ag k).1]; exact (h2 k 0 ek ew (by omega) c (by omega) (by omega)).trans (if_pos rfl)
  · rw [(dP_eq ag k).1]; exact (h2 k 1 ek ew (by omega) c (by omega) (by omega)).trans (if_neg (by decide))
theorem ex_qu (ag : Ag r rc) (n w : Int32) : ∃ v, quRel r n w v ∧ quRel rc n w v := by
  obtain ⟨v, h1, h2⟩ := ex_2 0 0 99 1 (by decide) (by decide) n w (fun k j => if j = 0 then nI (mnB (dS r k) 100) else nI (mnX (dS r k) 100))
  refine ⟨v, ⟨h1, fun k ek c ew => (h2 k 0 ek ew (by omega) c (by omega) (by omega)).trans (if_pos rfl), fun k ek c ew => (h2 k 1 ek ew (by omega) c (by omega) (by omega)).trans (if_neg (by decide))⟩, ⟨h1, fun k ek c ew => ?_, fun k ek c ew => ?_⟩⟩
  · rw [(dP_eq ag k).2.1]; exact (h2 k 0 ek ew (by omega) c (by omega) (by omega)).trans (if_pos rfl)
  · rw [(dP_eq ag k).2.1]; exact (h2 k 1 ek ew (by omega) c (by omega) (by omega)).trans (if_neg (by decide))
theorem ex_hd (ag : Ag r rc) (n w : Int32) : ∃ v, hedRel r n w v ∧ hedRel rc n w v := by
  have e6 : rc 6 = r 6 := ag.lo (by decide)
  have ec : chF rc (rc 6) = chF r (r 6) := by rw [e6]; exact ag.ch (Nat.le_refl _)
  have eh : ∀ k, hdP rc k = hdP r k := fun k => funext fun s => by unfold hdP; rw [e6]; exact ((ag.hs s (r 6)).wk k).1.lo (by decide)
  obtain ⟨v, h1, h2⟩ := ex_2 0 0 99 1 (by decide) (by decide) n w (fun k j => if j = 0 then hoB (chF r (r 6)) (hdP r k) (-4) (chF r (r 6) + 1) else hoX (chF r (r 6)) (hdP r k) (chF r (r 6) + 1))
  refine ⟨v, ⟨h1, fun k ek c ew => (h2 k 0 ek ew (by omega) c (by omega) (by omega)).trans (if_pos rfl), fun k ek c ew => (h2 k 1 ek ew (by omega) c (by omega) (by omega)).trans (if_neg (by decide))⟩, ⟨h1, fun k ek c ew => ?_, fun k ek c ew => ?_⟩⟩
  · rw [ec, eh k]; exact (h2 k 0 ek ew (by omega) c (by omega) (by omega)).trans (if_pos rfl)
  · rw [ec, eh k]; exact (h2 k 1 ek ew (by omega) c (by omega) (by omega)).trans (if_neg (by decide))
theorem ex_me (ag : Ag r rc) (n w : Int32) : ∃ v, meRel r n w v ∧ meRel rc n w v := by
  obtain ⟨v, h1, h2⟩ := ex_2 0 0 6 1 (by decide) (by decide) n w (fun k j => if j = 0 then nI (meS r k (wyN k) / Nat.gcd (meS r k (wyN k)) (wyN k)) else nI (wyN k / Nat.gcd (meS r k (wyN k)) (wyN k)))
  refine ⟨v, ⟨h1, fun k ek c ew => (h2 k 0 ek ew (by omega) c (by omega) (by omega)).trans (if_pos rfl), fun k ek c ew => (h2 k 1 ek ew (by omega) c (by omega) (by omega)).trans (if_neg (by decide))⟩, ⟨h1, fun k ek c ew => ?_, fun k ek c ew => ?_⟩⟩
  · rw [ag.me]; exact (h2 k 0 ek ew (by omega) c (by omega) (by omega)).trans (if_pos rfl)
  · rw [ag.me]; exact (h2 k 1 ek ew (by omega) c (by omega) (by omega)).trans (if_neg (by decide))
theorem ex_ra (ag : Ag r rc) (q n w : Int32) : ∃ v, raRel r q n w v ∧ raRel rc q n w v := by
  unfold raRel
  by_cases hw : wi q 1 100 ∧ wi n 0 99 ∧ wi w 0 1
  · obtain ⟨g1, g2, g3⟩ := id hw
    obtain ⟨qn, rfl, q0, q1⟩ := wi_nat (b := 100) (by decide) g1
    obtain ⟨k, rfl, k0, k1⟩ := wi_nat (b := 99) (by decide) g2
    obtain ⟨j, rfl, j0, j1⟩ := wi_nat (b := 1) (by decide) g3
    refine ⟨nI (raS r qn j k), ⟨fun q => absurd hw q, fun a b c ea eb ec b1 b2 b3 b4 => ?_⟩, ⟨fun q => absurd hw q, fun a b c ea eb ec b1 b2 b3 b4 => ?_⟩⟩
    · obtain rfl := nI_inj (by omega) (by omega) ea; obtain rfl := nI_inj (by omega) (by omega) eb; obtain rfl := nI_inj (by omega) (by omega) ec; rfl
    · obtain rfl := nI_inj (by omega) (by omega) ea; obtain rfl := nI_inj (by omega) (by omega) eb; obtain rfl := nI_inj (by omega) (by omega) ec; rw [(ag.ra _ _ _).2]
  · exact ⟨-1, ⟨fun _ => rfl, fun a b c ea eb ec b1 b2 b3 b4 => absurd ⟨by rw [ea, wi_nI (by omega)]; omega, by rw [eb, wi_nI (by omega)]; omega, by rw [ec, wi_nI (by omega)]; omega⟩ hw⟩, ⟨fun _ => rfl, fun a b c ea eb ec b1 b2 b3 b4 => absurd ⟨by rw [ea, wi_nI (by omega)]; omega, by rw [eb, wi_nI (by omega)]; omega, by rw [ec, wi_nI (by omega)]; omega⟩ hw⟩⟩
theorem ex_du (ag : Ag r rc) : ∃ v, duRel r v ∧ duRel rc v := by
  have e0 : ∀ i, wkN rc i 0 = wkN r i 0 := fun i => (ag.wk i).1.lo (by decide)
  have e1 : ∀ i, wkN rc i 1 = wkN r i 1 := fun i => (ag.wk i).1.lo (by decide)
  have tr : ∀ v, duRel r v → duRel rc v := by
    rintro v ⟨h1, h2⟩
    refine ⟨fun k hk a b => h1 k hk (by rw [← e0, ← e1]; exact a) (fun i hi => by rw [← e0, ← e1]; exact b i hi), fun a => h2 (fun i hi => by rw [← e0, ← e1]; exact a i hi)⟩
  by_cases hx : ∃ k, k < 100 ∧ wkN r k 1 ≤ wkN r k 0
  · obtain ⟨k, ⟨hk, ha⟩, hm⟩ := pk_least _ hx
    have h : duRel r (nI k) := by
      refine ⟨fun j hj a b => ?_, fun a => absurd (a k hk) (by omega)⟩
      rcases Nat.lt_trichotomy j k with q | q | q
      · exact absurd ⟨hj, a⟩ (hm j q)
      · rw [q]
      · exact absurd (b k q) (by omega)
    exact ⟨_, h, tr _ h⟩
  · have h : duRel r (-4) := ⟨fun j hj a b => absurd ⟨j, hj, a⟩ hx, fun _ => rfl⟩
    exact ⟨_, h, tr _ h⟩
theorem ex_en (ag : Ag r rc) (n : Int32) : ∃ v, enRel r n v ∧ enRel rc n v := by
  have tr : ∀ v, enRel r n v → enRel rc n v := by
    rintro v ⟨h0, h1, h2⟩
    refine ⟨h0, fun k p ek b1 b2 b3 a b => ?_, fun k ek b1 b2 a => ?_⟩
    · rw [(dP_eq ag k).2.2] at a b; exact h1 k p ek b1 b2 b3 a b
    · rw [(dP_eq ag k).2.2] at a; exact h2 k ek b1 b2 a
  by_cases hw : wi n 1 99
  · obtain ⟨k, rfl, k0, k1⟩ := wi_nat (b := 99) (by decide) hw
    by_cases hx : ∃ p, p < 100 ∧ dL r k (p + 1) = 0
    · obtain ⟨p, ⟨hp, ha⟩, hm⟩ := pk_least _ hx
      have h : enRel r (nI k) (nI (p + 1)) := by
        refine ⟨fun q => absurd hw q, fun a b ea b1 b2 b3 c d => ?_, fun a ea b1 b2 c => ?_⟩
        · obtain rfl := nI_inj (by omega) (by omega) ea
          rcases Nat.lt_trichotomy b p with q | q | q
          · exact absurd ⟨b3, c⟩ (hm b q)
          · rw [q]
          · exact absurd ha (d p q)
        · obtain rfl := nI_inj (by omega) (by omega) ea; exact absurd ha (c p hp)
      exact ⟨_, h, tr _ h⟩
    · have h : enRel r (nI k) (-4) := by
        refine ⟨fun q => absurd hw q, fun a b ea b1 b2 b3 c d => ?_, fun a ea b1 b2 c => rfl⟩
        obtain rfl := nI_inj (by omega) (by omega) ea; exact absurd ⟨b, b3, c⟩ hx
      exact ⟨_, h, tr _ h⟩
  · have h : enRel r n (-1) := ⟨fun _ => rfl, fun a b ea b1 b2 b3 c d => absurd (by rw [ea, wi_nI (by omega)]; omega) hw, fun a ea b1 b2 c => absurd (by rw [ea, wi_nI (by omega)]; omega) hw⟩
    exact ⟨_, h, tr _ h⟩
end EX8
