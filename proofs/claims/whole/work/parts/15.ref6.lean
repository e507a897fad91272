def sOK (sh ln mn : Nat → Nat) : Prop := ∀ s, s < 4 → sh s ≤ 1 ∧ ln s ≤ 3 ∧ mn s ≤ 24
theorem inb_nat {i : Int32} {kq M : Nat} (hk : kq < 2147483648) (hM : M < 2147483648) (h : inb i (nI kq) M) : ∃ iq : Nat, i = nI iq ∧ iq + kq ≤ M := by
  obtain ⟨h1, h2, h3⟩ := h
  rw [nI_toInt (by omega)] at h3
  obtain ⟨j, rfl, -, hj⟩ := wi_nat (x := i) (b := M) (a := 0) (by decide) ⟨h1, by omega⟩
  rw [nI_toInt (by omega)] at h3
  exact ⟨j, rfl, by omega⟩
theorem foV_in {h l M : Nat} {i n : Int32} (h0 : h ≠ 0) : foV h l M (nI l) i n = 0 ↔ inb i n M := by
  unfold foV
  rw [if_neg h0, if_pos rfl]
  by_cases q : inb i n M
  · rw [if_pos q]; exact ⟨fun _ => q, fun _ => rfl⟩
  · rw [if_neg q]; exact ⟨fun z => absurd z (by decide), fun z => absurd z q⟩
theorem fo_le {i n : Int32} {M : Nat} (hM : M < 2147483648) : lg_cmp (i.toInt64 + n.toInt64) (nI M).toInt64 ≤ 0 ↔ i.toInt + n.toInt ≤ (M : Int) := by
  rw [lg_cmp_le, Int64.le_iff_toInt_le, lx_add, nv_lw (by omega)]
theorem fo_lt (i : Int32) : i < 0 ↔ i.toInt < 0 := by
  rw [Int32.lt_iff_toInt_lt]
  rfl
theorem tk_neg {c j : Nat} (hc : c < 2147483648) : tkB c j < 0 ↔ c < j := by
  unfold tkB
  by_cases h : j ≤ c
  · rw [if_pos h]; exact ⟨fun q => absurd q (nI_pos (by omega)), fun q => by omega⟩
  · rw [if_neg h]; exact ⟨fun _ => by omega, fun _ => by decide⟩
theorem tk_dec {c j : Nat} (h : j ≤ c) : tkB c (j + 1) = nI (c - j) + Int32.ofInt (-1) := by
  unfold tkB
  by_cases q : j + 1 ≤ c
  · rw [if_pos q]
    obtain ⟨b, hb⟩ : ∃ b, c - j = b + 1 := ⟨c - j - 1, by omega⟩
    rw [hb, show c - (j + 1) = b by omega]
    exact (pk_m1 b).symm
  · rw [if_neg q, show c - j = 0 by omega]; decide +kernel
theorem pe_ok {w : Nat} {r : Nat → Nat} {p : Nat} (h : rOK w r) (h2 : p ≤ 9999) : rOK w (uN r 0 p) := by
  obtain ⟨o0, o1, o1b, o2, o2b, o3, o4, o5, o6, oP⟩ := h
  have e : ∀ i, i ≠ 0 → uN r 0 p i = r i := fun i hi => uN_n _ hi
  unfold rOK
  rw [uN_s, e 1 (by decide), e 2 (by decide), e 3 (by decide), e 4 (by decide), e 5 (by decide), e 6 (by decide)]
  refine ⟨h2, o1, o1b, o2, o2b, o3, o4, o5, o6, fun q hq => ?_⟩
  rw [e (7 + 4 * q + 0) (by omega), e (7 + 4 * q + 1) (by omega), e (7 + 4 * q + 2) (by omega), e (7 + 4 * q + 3) (by omega)]
  exact oP q hq

set_option maxHeartbeats 4000000 in
set_option maxRecDepth 100000 in
theorem c_X11_isNumber (l : Launch) (D : va_G) (z : Nat → ClassId) (sv : Int32)  : CP l yX11_isNumber cX11_isNumber 1 (some .boolean) 1 25 [.int sv] D z [] (fun _ => True) (some (.int (bI (wi sv 0 3)))) := by
  refine Met.ofW (cc := cX11_isNumber) (maxL := 1) (ret := (some .boolean)) (by decide) rfl ?_
  intro pg e s m args below meth c s₁ B hml hv
  obtain ⟨rfl, hP, hK, hE⟩ := hv
  have hx := B.exec
  have hb := B.bytes
  have hr := B.returns
  have hts : ∀ w ∈ ALL, w.before _ s = true := fun w h => atoms_spec (ws := wA yX11_isNumber cX11_isNumber 1 (some .boolean)) B.pre w (List.mem_cons_of_mem _ h)
  have hown : s.vm.findClass RX11 = some m.cls := findClass_of_methodNamed B.named
  have hlocks := B.notSynchronized
  have hl := lv_entry ([.int sv]) (n := 1) (Nat.le_of_ble_eq_true rfl)
  rw [lg_entry_eq]
  generalize (lg_sl ([.int sv]) ++ List.replicate (1 - (lg_sl ([.int sv])).length) Slot.unset).toArray = ls at hl ⊢
  have hl : lv_has ls 1 [(0, .int sv)] := hl
  refine lv_iload_n hx hb dX11_isNumber_0 rfl (lv_at hl 0 rfl) ?_
  refine lv_i2l hx hb dX11_isNumber_1 rfl ?_
  refine lv_lconst (v := 0) hx hb dX11_isNumber_2 (by decide +kernel) ?_
  refine lv_ldc2 (own := RX11) hx hb hown (hts _ m_666) dX11_isNumber_3 ?_
  have hPc := hP.sub (ws' := []) [] rfl
  refine nv_cp1 (va_runS (As := [.long sv.toInt64, .long 0, .long (3)]) (rest := []) ⟨hx, hb, hml, hown, hts⟩ (c_X11_in l D z sv.toInt64 0 (3) ) (va_cwS 3 hts (gS m_539 m_540 m_541 m_536) rfl rfl rfl hd_X11_in ⟨Nat.le_of_ble_eq_true rfl, Nat.le_of_ble_eq_true rfl⟩) (nv_preP hK hPc trivial _) rfl rfl hl.1 rfl (lv_room (Nat.le_of_ble_eq_true rfl)) dX11_isNumber_6 ⟨Nat.le_refl _, Nat.le_refl _⟩) ?_
  refine nv_inwl (a := 0) (b := 3) (by decide) (by decide) ?_
  exact nv_rz hx hb hr hlocks dX11_isNumber_9 rfl bI_nar

set_option maxHeartbeats 4000000 in
set_option maxRecDepth 100000 in
theorem c_X11_cut (l : Launch) (D : va_G) (z : Nat → ClassId) (lq : Nat) (vv : Int64) (hl9 : lq ≤ 3) : CP l yX11_cut cX11_cut 3 (some .long) 0 0 [.int (nI lq), .long vv] D z [] (fun _ => True) (some (.long (cutF lq vv))) := by
  refine Met.ofW (cc := cX11_cut) (maxL := 3) (ret := (some .long)) (by decide) rfl ?_
  intro pg e s m args below meth c s₁ B hml hv
  obtain ⟨rfl, hP, hK, hE⟩ := hv
  have hx := B.exec
  have hb := B.bytes
  have hr := B.returns
  have hts : ∀ w ∈ ALL, w.before _ s = true := fun w h => atoms_spec (ws := wA yX11_cut cX11_cut 3 (some .long)) B.pre w (List.mem_cons_of_mem _ h)
  have hown : s.vm.findClass RX11 = some m.cls := findClass_of_methodNamed B.named
  have hlocks := B.notSynchronized
  have hl := lv_entry ([.int (nI lq), .long vv]) (n := 3) (Nat.le_of_ble_eq_true rfl)
  rw [lg_entry_eq]
  generalize (lg_sl ([.int (nI lq), .long vv]) ++ List.replicate (3 - (lg_sl ([.int (nI lq), .long vv])).length) Slot.unset).toArray = ls at hl ⊢
  have hl : lv_has ls 3 [(0, .int (nI lq)), (1, .long vv)] := hl
  refine lv_iload_n hx hb dX11_cut_0 rfl (lv_at hl 0 rfl) ?_
  refine nv_ifne (tgt := 11) hx hb (by omega) dX11_cut_1 (by decide) (fun hc1 => ?_) (fun hc1 => ?_)
  · refine lv_iload_n hx hb dX11_cut_11 rfl (lv_at hl 0 rfl) ?_
    refine lv_iconst (v := nI 1) hx hb dX11_cut_12 (by decide +kernel) ?_
    refine nv_ne (tgt := 23) hx hb (by omega) (by omega) dX11_cut_13 (by decide) (fun hc13 => ?_) (fun hc13 => ?_)
    · refine lv_iload_n hx hb dX11_cut_23 rfl (lv_at hl 0 rfl) ?_
      refine lv_iconst (v := nI 2) hx hb dX11_cut_24 (by decide +kernel) ?_
      refine nv_ne (tgt := 34) hx hb (by omega) (by omega) dX11_cut_25 (by decide) (fun hc25 => ?_) (fun hc25 => ?_)
      · refine lv_lload_n hx hb dX11_cut_34 rfl (lv_at hl 1 rfl) ?_
        exact nv_rl hx hb hr hlocks dX11_cut_35 (by unfold cutF; first | rw [if_pos (by omega)] | rw [if_neg (by omega), if_pos (by omega)] | rw [if_neg (by omega), if_neg (by omega), if_pos (by omega)] | rw [if_neg (by omega), if_neg (by omega), if_neg (by omega)])
      · refine lv_lload_n hx hb dX11_cut_28 rfl (lv_at hl 1 rfl) ?_
        refine lv_l2i hx hb dX11_cut_29 rfl ?_
        refine lv_i2l hx hb dX11_cut_30 rfl ?_
        refine lv_goto (tgt := 35) hx hb dX11_cut_31 (by decide) ?_
        exact nv_rl hx hb hr hlocks dX11_cut_35 (by unfold cutF; first | rw [if_pos (by omega)] | rw [if_neg (by omega), if_pos (by omega)] | rw [if_neg (by omega), if_neg (by omega), if_pos (by omega)] | rw [if_neg (by omega), if_neg (by omega), if_neg (by omega)])
    · refine lv_lload_n hx hb dX11_cut_16 rfl (lv_at hl 1 rfl) ?_
      refine lv_l2i hx hb dX11_cut_17 rfl ?_
      refine lv_i2s hx hb dX11_cut_18 rfl ?_
      refine lv_i2l hx hb dX11_cut_19 rfl ?_
      refine lv_goto (tgt := 35) hx hb dX11_cut_20 (by decide) ?_
      exact nv_rl hx hb hr hlocks dX11_cut_35 (by unfold cutF; first | rw [if_pos (by omega)] | rw [if_neg (by omega), if_pos (by omega)] | rw [if_neg (by omega), if_neg (by omega), if_pos (by omega)] | rw [if_neg (by omega), if_neg (by omega), if_neg (by omega)])
  · refine lv_lload_n hx hb dX11_cut_4 rfl (lv_at hl 1 rfl) ?_
    refine lv_l2i hx hb dX11_cut_5 rfl ?_
    refine lv_i2b hx hb dX11_cut_6 rfl ?_
    refine lv_i2l hx hb dX11_cut_7 rfl ?_
    refine lv_goto (tgt := 35) hx hb dX11_cut_8 (by decide) ?_
    exact nv_rl hx hb hr hlocks dX11_cut_35 (by unfold cutF; first | rw [if_pos (by omega)] | rw [if_neg (by omega), if_pos (by omega)] | rw [if_neg (by omega), if_neg (by omega), if_pos (by omega)] | rw [if_neg (by omega), if_neg (by omega), if_neg (by omega)])

set_option maxHeartbeats 4000000 in
set_option maxRecDepth 100000 in
theorem c_X11_found (l : Launch) (D : va_G) (z : Nat → ClassId) (o : Nat) (qj : Nat) (qt : Nat) (qf : Nat) (qp : Nat) (qk : Nat) (qq : Nat) (qa : Nat) (qs : Nat) (ql : Nat) (qm : Nat) (qi : Nat) (qe : Nat) (un : Nat) (ku : Nat) (ik : Nat) (tnQ : Nat) (th : Nat) (la : Nat) (wo : Nat) (cu : Nat) (fa : Nat) (fat : Nat) (shQ : Nat → Nat) (ln : Nat → Nat) (mnQ : Nat → Nat) (sq : Nat) (av : Int32) (ivQ : Int32) (nv : Int32) (hso : sOK shQ ln mnQ) (hsq : sq < 4) : CP l yX11_found cX11_found 5 (some .int) 0 0 [.ref o, .int (nI sq), .int av, .int ivQ, .int nv] D z [(o, .inr (11, [.ref qj, .ref qt, .ref qf, .ref qp, .int (nI un), .ref qk, .ref qq, .int (nI ku), .int (nI ik), .ref qa, .int (nI tnQ), .int (nI th), .int (nI la), .int (nI wo), .int (nI cu), .int (nI fa), .int (nI fat), .ref qs, .ref ql, .ref qm, .ref qi, .ref qe])), aZ z qs 4 shQ, aN z ql 4 ln, aN z qm 4 mnQ] (fun _ => True) (some (.int (foV (shQ sq) (ln sq) (mnQ sq) av ivQ nv))) := by
  refine Met.ofW (cc := cX11_found) (maxL := 5) (ret := (some .int)) (by decide) rfl ?_
  intro pg e s m args below meth c s₁ B hml hv
  obtain ⟨rfl, hP, hK, hE⟩ := hv
  have hx := B.exec
  have hb := B.bytes
  have hr := B.returns
  have hts : ∀ w ∈ ALL, w.before _ s = true := fun w h => atoms_spec (ws := wA yX11_found cX11_found 5 (some .int)) B.pre w (List.mem_cons_of_mem _ h)
  have hown : s.vm.findClass RX11 = some m.cls := findClass_of_methodNamed B.named
  have hlocks := B.notSynchronized
  have hs1 := hso sq hsq
  have hl := lv_entry ([.ref o, .int (nI sq), .int av, .int ivQ, .int nv]) (n := 5) (Nat.le_of_ble_eq_true rfl)
  rw [lg_entry_eq]
  generalize (lg_sl ([.ref o, .int (nI sq), .int av, .int ivQ, .int nv]) ++ List.replicate (5 - (lg_sl ([.ref o, .int (nI sq), .int av, .int ivQ, .int nv])).length) Slot.unset).toArray = ls at hl ⊢
  have hl : lv_has ls 5 [(0, .ref o), (1, .int (nI sq)), (2, .int av), (3, .int ivQ), (4, .int nv)] := hl
  refine lv_aload_n hx hb dX11_found_0 rfl (lv_at hl 0 rfl) ?_
  refine va_get (D := D) (ci := 11) (v := .ref qs) (C := RX11) (T := TX11) (N := 22) hx hb hts iX11 hown hK.1 hP 0 rfl rfl 17 (by decide) (hts _ m_531) (fun _ h9 => h9) rfl dX11_found_1 ?_
  refine lv_iload_n hx hb dX11_found_4 rfl (lv_at hl 1 rfl) ?_
  refine nv_zald hx hb hK hP 1 rfl (by omega) (by decide) dX11_found_5 ?_
  refine nv_ifne (tgt := 14) hx hb (by omega) dX11_found_6 (by decide) (fun hc6 => ?_) (fun hc6 => ?_)
  · refine lv_aload_n hx hb dX11_found_14 rfl (lv_at hl 0 rfl) ?_
    refine va_get (D := D) (ci := 11) (v := .ref ql) (C := RX11) (T := TX11) (N := 22) hx hb hts iX11 hown hK.1 hP 0 rfl rfl 18 (by decide) (hts _ m_532) (fun _ h9 => h9) rfl dX11_found_15 ?_
    refine lv_iload_n hx hb dX11_found_18 rfl (lv_at hl 1 rfl) ?_
    refine nv_ald hx hb hK hP 2 rfl (by omega) (by decide) dX11_found_19 ?_
    refine lv_iload_n hx hb dX11_found_20 rfl (lv_at hl 2 rfl) ?_
    refine lv_icmp_eq (tgt := 29) hx hb dX11_found_21 (by decide) (fun hc21 => ?_) (fun hc21 => ?_)
    · refine lv_iload_n hx hb dX11_found_29 rfl (lv_at hl 3 rfl) ?_
      refine lv_if_lt (tgt := 55) hx hb dX11_found_30 (by decide) (fun hc30 => ?_) (fun hc30 => ?_)
      · refine lv_bipush (v := (-13)) hx hb dX11_found_55 (by decide +kernel) ?_
        refine lv_goto (tgt := 61) hx hb dX11_found_57 (by decide) ?_
        exact nv_ri hx hb hr hlocks dX11_found_61 (by unfold foV; first | rw [if_pos (by omega)] | (rw [if_neg (by omega), if_neg hc21]; done) | (rw [if_neg (by omega), if_pos hc21]; first | (rw [if_neg (fun q9 => absurd ((fo_lt _).mp hc30) (by omega))]; done) | (rw [if_neg (fun q9 => absurd ((fo_lt _).mp hc35) (by omega))]; done) | (rw [if_neg (fun q9 => hc52 ((fo_le (by omega)).mpr q9.2.2))]; done) | rw [if_pos (show inb ivQ nv (mnQ sq) from ⟨Int.not_lt.mp (fun q9 => hc30 ((fo_lt _).mpr q9)), Int.not_lt.mp (fun q9 => hc35 ((fo_lt _).mpr q9)), (fo_le (by omega)).mp hc52⟩)]))
      · refine lv_iload hx hb dX11_found_33 (lv_at hl 4 rfl) ?_
        refine lv_if_lt (tgt := 55) hx hb dX11_found_35 (by decide) (fun hc35 => ?_) (fun hc35 => ?_)
        · refine lv_bipush (v := (-13)) hx hb dX11_found_55 (by decide +kernel) ?_
          refine lv_goto (tgt := 61) hx hb dX11_found_57 (by decide) ?_
          exact nv_ri hx hb hr hlocks dX11_found_61 (by unfold foV; first | rw [if_pos (by omega)] | (rw [if_neg (by omega), if_neg hc21]; done) | (rw [if_neg (by omega), if_pos hc21]; first | (rw [if_neg (fun q9 => absurd ((fo_lt _).mp hc30) (by omega))]; done) | (rw [if_neg (fun q9 => absurd ((fo_lt _).mp hc35) (by omega))]; done) | (rw [if_neg (fun q9 => hc52 ((fo_le (by omega)).mpr q9.2.2))]; done) | rw [if_pos (show inb ivQ nv (mnQ sq) from ⟨Int.not_lt.mp (fun q9 => hc30 ((fo_lt _).mpr q9)), Int.not_lt.mp (fun q9 => hc35 ((fo_lt _).mpr q9)), (fo_le (by omega)).mp hc52⟩)]))
        · refine lv_iload_n hx hb dX11_found_38 rfl (lv_at hl 3 rfl) ?_
          refine lv_i2l hx hb dX11_found_39 rfl ?_
          refine lv_iload hx hb dX11_found_40 (lv_at hl 4 rfl) ?_
          refine lv_i2l hx hb dX11_found_42 rfl ?_
          refine lv_ladd hx hb dX11_found_43 ?_
          refine lv_aload_n hx hb dX11_found_44 rfl (lv_at hl 0 rfl) ?_
          refine va_get (D := D) (ci := 11) (v := .ref qm) (C := RX11) (T := TX11) (N := 22) hx hb hts iX11 hown hK.1 hP 0 rfl rfl 19 (by decide) (hts _ m_533) (fun _ h9 => h9) rfl dX11_found_45 ?_
          refine lv_iload_n hx hb dX11_found_48 rfl (lv_at hl 1 rfl) ?_
          refine nv_ald hx hb hK hP 3 rfl (by omega) (by decide) dX11_found_49 ?_
          refine lv_i2l hx hb dX11_found_50 rfl ?_
          refine W.lcmp hx hb dX11_found_51 ?_
          refine lv_if_le (tgt := 60) hx hb dX11_found_52 (by decide) (fun hc52 => ?_) (fun hc52 => ?_)
          · refine lv_iconst (v := nI 0) hx hb dX11_found_60 (by decide +kernel) ?_
            exact nv_ri hx hb hr hlocks dX11_found_61 (by unfold foV; first | rw [if_pos (by omega)] | (rw [if_neg (by omega), if_neg hc21]; done) | (rw [if_neg (by omega), if_pos hc21]; first | (rw [if_neg (fun q9 => absurd ((fo_lt _).mp hc30) (by omega))]; done) | (rw [if_neg (fun q9 => absurd ((fo_lt _).mp hc35) (by omega))]; done) | (rw [if_neg (fun q9 => hc52 ((fo_le (by omega)).mpr q9.2.2))]; done) | rw [if_pos (show inb ivQ nv (mnQ sq) from ⟨Int.not_lt.mp (fun q9 => hc30 ((fo_lt _).mpr q9)), Int.not_lt.mp (fun q9 => hc35 ((fo_lt _).mpr q9)), (fo_le (by omega)).mp hc52⟩)]))
          · refine lv_bipush (v := (-13)) hx hb dX11_found_55 (by decide +kernel) ?_
            refine lv_goto (tgt := 61) hx hb dX11_found_57 (by decide) ?_
            exact nv_ri hx hb hr hlocks dX11_found_61 (by unfold foV; first | rw [if_pos (by omega)] | (rw [if_neg (by omega), if_neg hc21]; done) | (rw [if_neg (by omega), if_pos hc21]; first | (rw [if_neg (fun q9 => absurd ((fo_lt _).mp hc30) (by omega))]; done) | (rw [if_neg (fun q9 => absurd ((fo_lt _).mp hc35) (by omega))]; done) | (rw [if_neg (fun q9 => hc52 ((fo_le (by omega)).mpr q9.2.2))]; done) | rw [if_pos (show inb ivQ nv (mnQ sq) from ⟨Int.not_lt.mp (fun q9 => hc30 ((fo_lt _).mpr q9)), Int.not_lt.mp (fun q9 => hc35 ((fo_lt _).mpr q9)), (fo_le (by omega)).mp hc52⟩)]))
    · refine lv_bipush (v := (-12)) hx hb dX11_found_24 (by decide +kernel) ?_
      refine lv_goto (tgt := 61) hx hb dX11_found_26 (by decide) ?_
      exact nv_ri hx hb hr hlocks dX11_found_61 (by unfold foV; first | rw [if_pos (by omega)] | (rw [if_neg (by omega), if_neg hc21]; done) | (rw [if_neg (by omega), if_pos hc21]; first | (rw [if_neg (fun q9 => absurd ((fo_lt _).mp hc30) (by omega))]; done) | (rw [if_neg (fun q9 => absurd ((fo_lt _).mp hc35) (by omega))]; done) | (rw [if_neg (fun q9 => hc52 ((fo_le (by omega)).mpr q9.2.2))]; done) | rw [if_pos (show inb ivQ nv (mnQ sq) from ⟨Int.not_lt.mp (fun q9 => hc30 ((fo_lt _).mpr q9)), Int.not_lt.mp (fun q9 => hc35 ((fo_lt _).mpr q9)), (fo_le (by omega)).mp hc52⟩)]))
  · refine lv_bipush (v := (-11)) hx hb dX11_found_9 (by decide +kernel) ?_
    refine lv_goto (tgt := 61) hx hb dX11_found_11 (by decide) ?_
    exact nv_ri hx hb hr hlocks dX11_found_61 (by unfold foV; first | rw [if_pos (by omega)] | (rw [if_neg (by omega), if_neg hc21]; done) | (rw [if_neg (by omega), if_pos hc21]; first | (rw [if_neg (fun q9 => absurd ((fo_lt _).mp hc30) (by omega))]; done) | (rw [if_neg (fun q9 => absurd ((fo_lt _).mp hc35) (by omega))]; done) | (rw [if_neg (fun q9 => hc52 ((fo_le (by omega)).mpr q9.2.2))]; done) | rw [if_pos (show inb ivQ nv (mnQ sq) from ⟨Int.not_lt.mp (fun q9 => hc30 ((fo_lt _).mpr q9)), Int.not_lt.mp (fun q9 => hc35 ((fo_lt _).mpr q9)), (fo_le (by omega)).mp hc52⟩)]))

set_option maxHeartbeats 4000000 in
set_option maxRecDepth 100000 in
theorem c_X11_sheet (l : Launch) (D : va_G) (z : Nat → ClassId) (sz : Nat) (o : Nat) (qj : Nat) (qt : Nat) (qf : Nat) (qp : Nat) (qk : Nat) (qq : Nat) (qa : Nat) (qs : Nat) (ql : Nat) (qm : Nat) (qi : Nat) (qe : Nat) (un : Nat) (ku : Nat) (ik : Nat) (tnQ : Nat) (th : Nat) (la : Nat) (wo : Nat) (cu : Nat) (fa : Nat) (fat : Nat) (shQ : Nat → Nat) (ln : Nat → Nat) (mnQ : Nat → Nat) (it : Nat → Int64) (sv : Int32) (av : Int32) (nv : Int32) (sh1 : Nat → Nat) (ln1 : Nat → Nat) (mn1 : Nat → Nat) (it1 : Nat → Int64) (vQ : Int32) (hrel : shRel shQ ln mnQ it sv av nv sh1 ln1 mn1 it1 vQ) : CM l yX11_sheet cX11_sheet 5 (some .int) 2 45 0 0 [.ref o, .int sv, .int av, .int nv] D z [(o, .inr (11, [.ref qj, .ref qt, .ref qf, .ref qp, .int (nI un), .ref qk, .ref qq, .int (nI ku), .int (nI ik), .ref qa, .int (nI tnQ), .int (nI th), .int (nI la), .int (nI wo), .int (nI cu), .int (nI fa), .int (nI fat), .ref qs, .ref ql, .ref qm, .ref qi, .ref qe])), aZ z qs 4 shQ, aN z ql 4 ln, aN z qm 4 mnQ, aL z qi 96 it] sz (fun _ => True) [(o, .inr (11, [.ref qj, .ref qt, .ref qf, .ref qp, .int (nI un), .ref qk, .ref qq, .int (nI ku), .int (nI ik), .ref qa, .int (nI tnQ), .int (nI 0), .int (nI la), .int (nI wo), .int (nI cu), .int (nI fa), .int (nI fat), .ref qs, .ref ql, .ref qm, .ref qi, .ref qe])), aZ z qs 4 sh1, aN z ql 4 ln1, aN z qm 4 mn1, aL z qi 96 it1] (some (.int vQ)) (fun _ => True) := by
  refine Met.ofW (cc := cX11_sheet) (maxL := 5) (ret := (some .int)) (by decide) rfl ?_
  intro pg e s m args below meth c s₁ B hml hv
  obtain ⟨rfl, hsz, hP, hK, hD0, hE⟩ := hv
  have hx := B.exec
  have hb := B.bytes
  have hr := B.returns
  have hts : ∀ w ∈ ALL, w.before _ s = true := fun w h => atoms_spec (ws := wA yX11_sheet cX11_sheet 5 (some .int)) B.pre w (List.mem_cons_of_mem _ h)
  have hown : s.vm.findClass RX11 = some m.cls := findClass_of_methodNamed B.named
  have hlocks := B.notSynchronized
  subst hsz
  have hD := hD0.self (sz := s.heap.size)
  have hA : ∀ q : Nat, s.heap.size ≤ q → va_A [(o, .inr (11, [.ref qj, .ref qt, .ref qf, .ref qp, .int (nI un), .ref qk, .ref qq, .int (nI ku), .int (nI ik), .ref qa, .int (nI tnQ), .int (nI th), .int (nI la), .int (nI wo), .int (nI cu), .int (nI fa), .int (nI fat), .ref qs, .ref ql, .ref qm, .ref qi, .ref qe])), aZ z qs 4 shQ, aN z ql 4 ln, aN z qm 4 mnQ, aL z qi 96 it] s.heap.size q := fun q h => Or.inr h
  generalize va_A [(o, .inr (11, [.ref qj, .ref qt, .ref qf, .ref qp, .int (nI un), .ref qk, .ref qq, .int (nI ku), .int (nI ik), .ref qa, .int (nI tnQ), .int (nI th), .int (nI la), .int (nI wo), .int (nI cu), .int (nI fa), .int (nI fat), .ref qs, .ref ql, .ref qm, .ref qi, .ref qe])), aZ z qs 4 shQ, aN z ql 4 ln, aN z qm 4 mnQ, aL z qi 96 it] s.heap.size = A at *
  have hS : va_S A s.heap s.heap [] := va_S.rf
  have hl := lv_entry ([.ref o, .int sv, .int av, .int nv]) (n := 5) (Nat.le_of_ble_eq_true rfl)
  rw [lg_entry_eq]
  generalize (lg_sl ([.ref o, .int sv, .int av, .int nv]) ++ List.replicate (5 - (lg_sl ([.ref o, .int sv, .int av, .int nv])).length) Slot.unset).toArray = ls at hl ⊢
  have hl : lv_has ls 5 [(0, .ref o), (1, .int sv), (2, .int av), (3, .int nv)] := hl
  refine lv_aload_n hx hb dX11_sheet_0 rfl (lv_at hl 0 rfl) ?_
  refine lv_iconst (v := nI 0) hx hb dX11_sheet_1 (by decide +kernel) ?_
  refine va_put (D := D) (ci := 11) (v := .int (nI 0)) (ty := tyX11 11) (C := RX11) (T := TX11) (N := 22) hx hb hts iX11 tyX11 tyX11_ok nmX11 hown hK.1 hP hD hS 0 rfl rfl 11 (by decide) (hts _ m_576) (fun _ h9 => h9) rfl (tyX11_ok 11 (by decide)) rfl rfl (Nat.le_of_ble_eq_true rfl) dX11_sheet_2 (fun H locs hP hD hS => ?_)
  have hP : va_P D vwCl [(o, .inr (11, [.ref qj, .ref qt, .ref qf, .ref qp, .int (nI un), .ref qk, .ref qq, .int (nI ku), .int (nI ik), .ref qa, .int (nI tnQ), .int (nI 0), .int (nI la), .int (nI wo), .int (nI cu), .int (nI fa), .int (nI fat), .ref qs, .ref ql, .ref qm, .ref qi, .ref qe])), aZ z qs 4 shQ, aN z ql 4 ln, aN z qm 4 mnQ, aL z qi 96 it] H := hP
  have hD : va_D A [(o, .inr (11, [.ref qj, .ref qt, .ref qf, .ref qp, .int (nI un), .ref qk, .ref qq, .int (nI ku), .int (nI ik), .ref qa, .int (nI tnQ), .int (nI 0), .int (nI la), .int (nI wo), .int (nI cu), .int (nI fa), .int (nI fat), .ref qs, .ref ql, .ref qm, .ref qi, .ref qe])), aZ z qs 4 shQ, aN z ql 4 ln, aN z qm 4 mnQ, aL z qi 96 it] := hD
  refine lv_iload_n hx hb dX11_sheet_5 rfl (lv_at hl 1 rfl) ?_
  have hPc := hP.sub (ws' := []) [] rfl
  refine nv_cp1 (va_runS (As := [.int sv]) (rest := []) ⟨hx, hb, hml, hown, hts⟩ (c_X11_isNumber l D z sv ) (va_cwS 1 hts (gS m_670 m_671 m_541 m_665) rfl rfl rfl hd_X11_isNumber ⟨Nat.le_of_ble_eq_true rfl, Nat.le_of_ble_eq_true rfl⟩) (nv_preP hK hPc trivial _) rfl rfl hl.1 rfl (lv_room (Nat.le_of_ble_eq_true rfl)) dX11_sheet_6 ⟨by decide, by decide⟩) ?_
  refine nv_beq (tgt := 30) hx hb dX11_sheet_9 (by decide) (fun hc9 => ?_) (fun hc9 => ?_)
  · refine lv_iconst (v := (-1)) hx hb dX11_sheet_30 (by decide +kernel) ?_
    obtain ⟨rfl, rfl, rfl, rfl, rfl⟩ := hrel.1 (by first | exact fun q => hc9 q.1 | exact fun q => hc21 q.2.1 | exact fun q => hc27 q.2.2)
    exact nv_mi hx hb hr hlocks hS dX11_sheet_31 hP trivial rfl
  · refine lv_iload_n hx hb dX11_sheet_12 rfl (lv_at hl 2 rfl) ?_
    refine lv_i2l hx hb dX11_sheet_13 rfl ?_
    refine lv_lconst (v := 0) hx hb dX11_sheet_14 (by decide +kernel) ?_
    refine lv_ldc2 (own := RX11) hx hb hown (hts _ m_666) dX11_sheet_15 ?_
    have hPc := hP.sub (ws' := []) [] rfl
    refine nv_cp1 (va_runS (As := [.long av.toInt64, .long 0, .long (3)]) (rest := []) ⟨hx, hb, hml, hown, hts⟩ (c_X11_in l D z av.toInt64 0 (3) ) (va_cwS 3 hts (gS m_539 m_540 m_541 m_536) rfl rfl rfl hd_X11_in ⟨Nat.le_of_ble_eq_true rfl, Nat.le_of_ble_eq_true rfl⟩) (nv_preP hK hPc trivial _) rfl rfl hl.1 rfl (lv_room (Nat.le_of_ble_eq_true rfl)) dX11_sheet_18 ⟨by decide, by decide⟩) ?_
    refine nv_inwl (a := 0) (b := 3) (by decide) (by decide) ?_
    refine nv_beq (tgt := 30) hx hb dX11_sheet_21 (by decide) (fun hc21 => ?_) (fun hc21 => ?_)
    · refine lv_iconst (v := (-1)) hx hb dX11_sheet_30 (by decide +kernel) ?_
      obtain ⟨rfl, rfl, rfl, rfl, rfl⟩ := hrel.1 (by first | exact fun q => hc9 q.1 | exact fun q => hc21 q.2.1 | exact fun q => hc27 q.2.2)
      exact nv_mi hx hb hr hlocks hS dX11_sheet_31 hP trivial rfl
    · refine lv_iload_n hx hb dX11_sheet_24 rfl (lv_at hl 3 rfl) ?_
      refine lv_bipush (v := nI 24) hx hb dX11_sheet_25 (by decide +kernel) ?_
      refine lv_icmp_le (tgt := 32) hx hb dX11_sheet_27 (by decide) (fun hc27 => ?_) (fun hc27 => ?_)
      · refine lv_iload_n hx hb dX11_sheet_32 rfl (lv_at hl 3 rfl) ?_
        refine lv_if_ge (tgt := 39) hx hb dX11_sheet_33 (by decide) (fun hc33 => ?_) (fun hc33 => ?_)
        · obtain ⟨sq, rfl, sq0, sq1⟩ := wi_nat (b := 3) (by decide) hc9
          obtain ⟨aq, rfl, aq0, aq1⟩ := wi_nat (b := 3) (by decide) hc21
          obtain ⟨nq, hn9, rfl⟩ := nI_of (x := nv) (Int32.not_lt.mpr hc33)
          have hn24 : nq ≤ 24 := (nI_leI (by omega) (by decide)).mp hc27
          obtain ⟨rfl, rfl, rfl, rfl, rfl⟩ := hrel.2.2 sq aq nq rfl rfl rfl (by omega) (by omega) (by omega)
          refine lv_aload_n hx hb dX11_sheet_39 rfl (lv_at hl 0 rfl) ?_
          refine va_get (D := D) (ci := 11) (v := .ref qs) (C := RX11) (T := TX11) (N := 22) hx hb hts iX11 hown hK.1 hP 0 rfl rfl 17 (by decide) (hts _ m_531) (fun _ h9 => h9) rfl dX11_sheet_40 ?_
          refine lv_iload_n hx hb dX11_sheet_43 rfl (lv_at hl 1 rfl) ?_
          refine lv_iconst (v := nI 1) hx hb dX11_sheet_44 (by decide +kernel) ?_
          refine nv_zast hx hb hK hP hD hS 1 rfl (by omega) (by decide) (by omega) dX11_sheet_45 (fun H locs hP hD hS => ?_)
          have hP : va_P D vwCl [(o, .inr (11, [.ref qj, .ref qt, .ref qf, .ref qp, .int (nI un), .ref qk, .ref qq, .int (nI ku), .int (nI ik), .ref qa, .int (nI tnQ), .int (nI 0), .int (nI la), .int (nI wo), .int (nI cu), .int (nI fa), .int (nI fat), .ref qs, .ref ql, .ref qm, .ref qi, .ref qe])), aZ z qs 4 (uN shQ sq 1), aN z ql 4 ln, aN z qm 4 mnQ, aL z qi 96 it] H := hP
          have hD : va_D A [(o, .inr (11, [.ref qj, .ref qt, .ref qf, .ref qp, .int (nI un), .ref qk, .ref qq, .int (nI ku), .int (nI ik), .ref qa, .int (nI tnQ), .int (nI 0), .int (nI la), .int (nI wo), .int (nI cu), .int (nI fa), .int (nI fat), .ref qs, .ref ql, .ref qm, .ref qi, .ref qe])), aZ z qs 4 (uN shQ sq 1), aN z ql 4 ln, aN z qm 4 mnQ, aL z qi 96 it] := hD
          refine lv_aload_n hx hb dX11_sheet_46 rfl (lv_at hl 0 rfl) ?_
          refine va_get (D := D) (ci := 11) (v := .ref ql) (C := RX11) (T := TX11) (N := 22) hx hb hts iX11 hown hK.1 hP 0 rfl rfl 18 (by decide) (hts _ m_532) (fun _ h9 => h9) rfl dX11_sheet_47 ?_
          refine lv_iload_n hx hb dX11_sheet_50 rfl (lv_at hl 1 rfl) ?_
          refine lv_iload_n hx hb dX11_sheet_51 rfl (lv_at hl 2 rfl) ?_
          refine nv_ast hx hb hK hP hD hS 2 rfl (by omega) (by decide) dX11_sheet_52 (fun H locs hP hD hS => ?_)
          have hP : va_P D vwCl [(o, .inr (11, [.ref qj, .ref qt, .ref qf, .ref qp, .int (nI un), .ref qk, .ref qq, .int (nI ku), .int (nI ik), .ref qa, .int (nI tnQ), .int (nI 0), .int (nI la), .int (nI wo), .int (nI cu), .int (nI fa), .int (nI fat), .ref qs, .ref ql, .ref qm, .ref qi, .ref qe])), aZ z qs 4 (uN shQ sq 1), aN z ql 4 (uN ln sq aq), aN z qm 4 mnQ, aL z qi 96 it] H := hP
          have hD : va_D A [(o, .inr (11, [.ref qj, .ref qt, .ref qf, .ref qp, .int (nI un), .ref qk, .ref qq, .int (nI ku), .int (nI ik), .ref qa, .int (nI tnQ), .int (nI 0), .int (nI la), .int (nI wo), .int (nI cu), .int (nI fa), .int (nI fat), .ref qs, .ref ql, .ref qm, .ref qi, .ref qe])), aZ z qs 4 (uN shQ sq 1), aN z ql 4 (uN ln sq aq), aN z qm 4 mnQ, aL z qi 96 it] := hD
          refine lv_aload_n hx hb dX11_sheet_53 rfl (lv_at hl 0 rfl) ?_
          refine va_get (D := D) (ci := 11) (v := .ref qm) (C := RX11) (T := TX11) (N := 22) hx hb hts iX11 hown hK.1 hP 0 rfl rfl 19 (by decide) (hts _ m_533) (fun _ h9 => h9) rfl dX11_sheet_54 ?_
          refine lv_iload_n hx hb dX11_sheet_57 rfl (lv_at hl 1 rfl) ?_
          refine lv_iload_n hx hb dX11_sheet_58 rfl (lv_at hl 3 rfl) ?_
          refine nv_ast hx hb hK hP hD hS 3 rfl (by omega) (by decide) dX11_sheet_59 (fun H locs hP hD hS => ?_)
          have hP : va_P D vwCl [(o, .inr (11, [.ref qj, .ref qt, .ref qf, .ref qp, .int (nI un), .ref qk, .ref qq, .int (nI ku), .int (nI ik), .ref qa, .int (nI tnQ), .int (nI 0), .int (nI la), .int (nI wo), .int (nI cu), .int (nI fa), .int (nI fat), .ref qs, .ref ql, .ref qm, .ref qi, .ref qe])), aZ z qs 4 (uN shQ sq 1), aN z ql 4 (uN ln sq aq), aN z qm 4 (uN mnQ sq nq), aL z qi 96 it] H := hP
          have hD : va_D A [(o, .inr (11, [.ref qj, .ref qt, .ref qf, .ref qp, .int (nI un), .ref qk, .ref qq, .int (nI ku), .int (nI ik), .ref qa, .int (nI tnQ), .int (nI 0), .int (nI la), .int (nI wo), .int (nI cu), .int (nI fa), .int (nI fat), .ref qs, .ref ql, .ref qm, .ref qi, .ref qe])), aZ z qs 4 (uN shQ sq 1), aN z ql 4 (uN ln sq aq), aN z qm 4 (uN mnQ sq nq), aL z qi 96 it] := hD
          refine lv_iconst (v := nI 0) hx hb dX11_sheet_60 (by decide +kernel) ?_
          refine lv_istore (lv' := [(4, .int (nI 0)), (0, .ref o), (1, .int (nI sq)), (2, .int (nI aq)), (3, .int (nI nq))]) hx hb dX11_sheet_61 hl (by decide) rfl (fun ls hl => ?_)
          refine nv_loop (σ := Nat) (fun x H locs ls => ∃ (jq : Nat), jq = x ∧ ((jq ≤ 24)) ∧ va_P D vwCl [(o, .inr (11, [.ref qj, .ref qt, .ref qf, .ref qp, .int (nI un), .ref qk, .ref qq, .int (nI ku), .int (nI ik), .ref qa, .int (nI tnQ), .int (nI 0), .int (nI la), .int (nI wo), .int (nI cu), .int (nI fa), .int (nI fat), .ref qs, .ref ql, .ref qm, .ref qi, .ref qe])), aZ z qs 4 (uN shQ sq 1), aN z ql 4 (uN ln sq aq), aN z qm 4 (uN mnQ sq nq), aL z qi 96 (zeF it (24 * sq) jq)] H ∧ va_D A [(o, .inr (11, [.ref qj, .ref qt, .ref qf, .ref qp, .int (nI un), .ref qk, .ref qq, .int (nI ku), .int (nI ik), .ref qa, .int (nI tnQ), .int (nI 0), .int (nI la), .int (nI wo), .int (nI cu), .int (nI fa), .int (nI fat), .ref qs, .ref ql, .ref qm, .ref qi, .ref qe])), aZ z qs 4 (uN shQ sq 1), aN z ql 4 (uN ln sq aq), aN z qm 4 (uN mnQ sq nq), aL z qi 96 (zeF it (24 * sq) jq)] ∧ va_S A s.heap H locs ∧ lv_has ls 5 [(0, .ref o), (1, .int (nI sq)), (3, .int (nI nq)), (4, .int (nI jq))]) (fun x => 24 - x) 63 [] ?_ 0 ?_
          · rintro _ H locs ls ⟨jq, rfl, hj, hP, hD, hS, hl⟩ ih63
            refine lv_iload hx hb dX11_sheet_63 (lv_at hl 3 rfl) ?_
            refine lv_bipush (v := nI 24) hx hb dX11_sheet_65 (by decide +kernel) ?_
            refine nv_ge (tgt := 89) hx hb (by omega) (by omega) dX11_sheet_67 (by decide) (fun hc67 => ?_) (fun hc67 => ?_)
            · obtain rfl : jq = 24 := by omega
              refine lv_iload_n hx hb dX11_sheet_89 rfl (lv_at hl 2 rfl) ?_
              exact nv_mi hx hb hr hlocks hS dX11_sheet_90 hP trivial rfl
            · refine lv_aload_n hx hb dX11_sheet_70 rfl (lv_at hl 0 rfl) ?_
              refine va_get (D := D) (ci := 11) (v := .ref qi) (C := RX11) (T := TX11) (N := 22) hx hb hts iX11 hown hK.1 hP 0 rfl rfl 20 (by decide) (hts _ m_534) (fun _ h9 => h9) rfl dX11_sheet_71 ?_
              refine lv_bipush (v := nI 24) hx hb dX11_sheet_74 (by decide +kernel) ?_
              refine lv_iload_n hx hb dX11_sheet_76 rfl (lv_at hl 1 rfl) ?_
              refine nv_mul hx hb dX11_sheet_77 ?_
              refine lv_iload hx hb dX11_sheet_78 (lv_at hl 3 rfl) ?_
              refine nv_add hx hb dX11_sheet_80 ?_
              refine lv_lconst (v := 0) hx hb dX11_sheet_81 (by decide +kernel) ?_
              refine nv_last hx hb hK hP hD hS 4 rfl (by omega) (by decide) dX11_sheet_82 (fun H locs hP hD hS => ?_)
              have hP : va_P D vwCl [(o, .inr (11, [.ref qj, .ref qt, .ref qf, .ref qp, .int (nI un), .ref qk, .ref qq, .int (nI ku), .int (nI ik), .ref qa, .int (nI tnQ), .int (nI 0), .int (nI la), .int (nI wo), .int (nI cu), .int (nI fa), .int (nI fat), .ref qs, .ref ql, .ref qm, .ref qi, .ref qe])), aZ z qs 4 (uN shQ sq 1), aN z ql 4 (uN ln sq aq), aN z qm 4 (uN mnQ sq nq), aL z qi 96 (vp_updL (zeF it (24 * sq) jq) (24 * sq + jq) 0)] H := hP
              have hD : va_D A [(o, .inr (11, [.ref qj, .ref qt, .ref qf, .ref qp, .int (nI un), .ref qk, .ref qq, .int (nI ku), .int (nI ik), .ref qa, .int (nI tnQ), .int (nI 0), .int (nI la), .int (nI wo), .int (nI cu), .int (nI fa), .int (nI fat), .ref qs, .ref ql, .ref qm, .ref qi, .ref qe])), aZ z qs 4 (uN shQ sq 1), aN z ql 4 (uN ln sq aq), aN z qm 4 (uN mnQ sq nq), aL z qi 96 (vp_updL (zeF it (24 * sq) jq) (24 * sq + jq) 0)] := hD
              refine lv_iinc (v := nI (jq + 1)) (lv' := [(4, .int (nI (jq + 1))), (0, .ref o), (1, .int (nI sq)), (3, .int (nI nq))]) hx hb dX11_sheet_83 hl (k := 3) rfl (nI_inc _) (by decide) rfl (fun ls hl => ?_)
              refine lv_goto (tgt := 63) hx hb dX11_sheet_86 (by decide) ?_
              exact ih63 (jq + 1) _ _ _ (by omega) ⟨jq + 1, rfl, (by omega), hP, hD, hS, lv_sub hl [1, 2, 3, 0] rfl⟩
          · exact ⟨0, rfl, (by omega), hP, hD, hS, lv_sub hl [1, 2, 4, 0] rfl⟩
        · refine lv_bipush (v := (-14)) hx hb dX11_sheet_36 (by decide +kernel) ?_
          obtain ⟨rfl, rfl, rfl, rfl, rfl⟩ := hrel.2.1 hc9 hc21 (Int32.not_le.mp hc33)
          exact nv_mi hx hb hr hlocks hS dX11_sheet_38 hP trivial rfl
      · refine lv_iconst (v := (-1)) hx hb dX11_sheet_30 (by decide +kernel) ?_
        obtain ⟨rfl, rfl, rfl, rfl, rfl⟩ := hrel.1 (by first | exact fun q => hc9 q.1 | exact fun q => hc21 q.2.1 | exact fun q => hc27 q.2.2)
        exact nv_mi hx hb hr hlocks hS dX11_sheet_31 hP trivial rfl

set_option maxHeartbeats 4000000 in
set_option maxRecDepth 100000 in
theorem c_X11_drop (l : Launch) (D : va_G) (z : Nat → ClassId) (sz : Nat) (o : Nat) (qj : Nat) (qt : Nat) (qf : Nat) (qp : Nat) (qk : Nat) (qq : Nat) (qa : Nat) (qs : Nat) (ql : Nat) (qm : Nat) (qi : Nat) (qe : Nat) (un : Nat) (ku : Nat) (ik : Nat) (tnQ : Nat) (th : Nat) (la : Nat) (wo : Nat) (cu : Nat) (fa : Nat) (fat : Nat) (shQ : Nat → Nat) (ln : Nat → Nat) (mnQ : Nat → Nat) (sv : Int32) (sh1 : Nat → Nat) (vQ : Int32) (hso : sOK shQ ln mnQ) (hrel : dpRel shQ mnQ sv sh1 vQ) : CM l yX11_drop cX11_drop 2 (some .int) 2 45 0 0 [.ref o, .int sv] D z [(o, .inr (11, [.ref qj, .ref qt, .ref qf, .ref qp, .int (nI un), .ref qk, .ref qq, .int (nI ku), .int (nI ik), .ref qa, .int (nI tnQ), .int (nI th), .int (nI la), .int (nI wo), .int (nI cu), .int (nI fa), .int (nI fat), .ref qs, .ref ql, .ref qm, .ref qi, .ref qe])), aZ z qs 4 shQ, aN z qm 4 mnQ] sz (fun _ => True) [(o, .inr (11, [.ref qj, .ref qt, .ref qf, .ref qp, .int (nI un), .ref qk, .ref qq, .int (nI ku), .int (nI ik), .ref qa, .int (nI tnQ), .int (nI 0), .int (nI la), .int (nI wo), .int (nI cu), .int (nI fa), .int (nI fat), .ref qs, .ref ql, .ref qm, .ref qi, .ref qe])), aZ z qs 4 sh1, aN z qm 4 mnQ] (some (.int vQ)) (fun _ => True) := by
  refine Met.ofW (cc := cX11_drop) (maxL := 2) (ret := (some .int)) (by decide) rfl ?_
  intro pg e s m args below meth c s₁ B hml hv
  obtain ⟨rfl, hsz, hP, hK, hD0, hE⟩ := hv
  have hx := B.exec
  have hb := B.bytes
  have hr := B.returns
  have hts : ∀ w ∈ ALL, w.before _ s = true := fun w h => atoms_spec (ws := wA yX11_drop cX11_drop 2 (some .int)) B.pre w (List.mem_cons_of_mem _ h)
  have hown : s.vm.findClass RX11 = some m.cls := findClass_of_methodNamed B.named
  have hlocks := B.notSynchronized
  subst hsz
  have hD := hD0.self (sz := s.heap.size)
  have hA : ∀ q : Nat, s.heap.size ≤ q → va_A [(o, .inr (11, [.ref qj, .ref qt, .ref qf, .ref qp, .int (nI un), .ref qk, .ref qq, .int (nI ku), .int (nI ik), .ref qa, .int (nI tnQ), .int (nI th), .int (nI la), .int (nI wo), .int (nI cu), .int (nI fa), .int (nI fat), .ref qs, .ref ql, .ref qm, .ref qi, .ref qe])), aZ z qs 4 shQ, aN z qm 4 mnQ] s.heap.size q := fun q h => Or.inr h
  generalize va_A [(o, .inr (11, [.ref qj, .ref qt, .ref qf, .ref qp, .int (nI un), .ref qk, .ref qq, .int (nI ku), .int (nI ik), .ref qa, .int (nI tnQ), .int (nI th), .int (nI la), .int (nI wo), .int (nI cu), .int (nI fa), .int (nI fat), .ref qs, .ref ql, .ref qm, .ref qi, .ref qe])), aZ z qs 4 shQ, aN z qm 4 mnQ] s.heap.size = A at *
  have hS : va_S A s.heap s.heap [] := va_S.rf
  have hl := lv_entry ([.ref o, .int sv]) (n := 2) (Nat.le_of_ble_eq_true rfl)
  rw [lg_entry_eq]
  generalize (lg_sl ([.ref o, .int sv]) ++ List.replicate (2 - (lg_sl ([.ref o, .int sv])).length) Slot.unset).toArray = ls at hl ⊢
  have hl : lv_has ls 2 [(0, .ref o), (1, .int sv)] := hl
  refine lv_aload_n hx hb dX11_drop_0 rfl (lv_at hl 0 rfl) ?_
  refine lv_iconst (v := nI 0) hx hb dX11_drop_1 (by decide +kernel) ?_
  refine va_put (D := D) (ci := 11) (v := .int (nI 0)) (ty := tyX11 11) (C := RX11) (T := TX11) (N := 22) hx hb hts iX11 tyX11 tyX11_ok nmX11 hown hK.1 hP hD hS 0 rfl rfl 11 (by decide) (hts _ m_576) (fun _ h9 => h9) rfl (tyX11_ok 11 (by decide)) rfl rfl (Nat.le_of_ble_eq_true rfl) dX11_drop_2 (fun H locs hP hD hS => ?_)
  have hP : va_P D vwCl [(o, .inr (11, [.ref qj, .ref qt, .ref qf, .ref qp, .int (nI un), .ref qk, .ref qq, .int (nI ku), .int (nI ik), .ref qa, .int (nI tnQ), .int (nI 0), .int (nI la), .int (nI wo), .int (nI cu), .int (nI fa), .int (nI fat), .ref qs, .ref ql, .ref qm, .ref qi, .ref qe])), aZ z qs 4 shQ, aN z qm 4 mnQ] H := hP
  have hD : va_D A [(o, .inr (11, [.ref qj, .ref qt, .ref qf, .ref qp, .int (nI un), .ref qk, .ref qq, .int (nI ku), .int (nI ik), .ref qa, .int (nI tnQ), .int (nI 0), .int (nI la), .int (nI wo), .int (nI cu), .int (nI fa), .int (nI fat), .ref qs, .ref ql, .ref qm, .ref qi, .ref qe])), aZ z qs 4 shQ, aN z qm 4 mnQ] := hD
  refine lv_iload_n hx hb dX11_drop_5 rfl (lv_at hl 1 rfl) ?_
  have hPc := hP.sub (ws' := []) [] rfl
  refine nv_cp1 (va_runS (As := [.int sv]) (rest := []) ⟨hx, hb, hml, hown, hts⟩ (c_X11_isNumber l D z sv ) (va_cwS 1 hts (gS m_670 m_671 m_541 m_665) rfl rfl rfl hd_X11_isNumber ⟨Nat.le_of_ble_eq_true rfl, Nat.le_of_ble_eq_true rfl⟩) (nv_preP hK hPc trivial _) rfl rfl hl.1 rfl (lv_room (Nat.le_of_ble_eq_true rfl)) dX11_drop_6 ⟨by decide, by decide⟩) ?_
  refine nv_bne (tgt := 14) hx hb dX11_drop_9 (by decide) (fun hc9 => ?_) (fun hc9 => ?_)
  · obtain ⟨sq, rfl, sq0, sq1⟩ := wi_nat (b := 3) (by decide) hc9
    have hs1 := hso sq (by omega)
    refine lv_aload_n hx hb dX11_drop_14 rfl (lv_at hl 0 rfl) ?_
    refine va_get (D := D) (ci := 11) (v := .ref qs) (C := RX11) (T := TX11) (N := 22) hx hb hts iX11 hown hK.1 hP 0 rfl rfl 17 (by decide) (hts _ m_531) (fun _ h9 => h9) rfl dX11_drop_15 ?_
    refine lv_iload_n hx hb dX11_drop_18 rfl (lv_at hl 1 rfl) ?_
    refine nv_zald hx hb hK hP 1 rfl (by omega) (by decide) dX11_drop_19 ?_
    refine nv_ifne (tgt := 26) hx hb (by omega) dX11_drop_20 (by decide) (fun hc20 => ?_) (fun hc20 => ?_)
    · obtain ⟨rfl, rfl⟩ := hrel.2.2 sq rfl (by omega) hc20
      refine lv_aload_n hx hb dX11_drop_26 rfl (lv_at hl 0 rfl) ?_
      refine va_get (D := D) (ci := 11) (v := .ref qs) (C := RX11) (T := TX11) (N := 22) hx hb hts iX11 hown hK.1 hP 0 rfl rfl 17 (by decide) (hts _ m_531) (fun _ h9 => h9) rfl dX11_drop_27 ?_
      refine lv_iload_n hx hb dX11_drop_30 rfl (lv_at hl 1 rfl) ?_
      refine lv_iconst (v := nI 0) hx hb dX11_drop_31 (by decide +kernel) ?_
      refine nv_zast hx hb hK hP hD hS 1 rfl (by omega) (by decide) (by omega) dX11_drop_32 (fun H locs hP hD hS => ?_)
      have hP : va_P D vwCl [(o, .inr (11, [.ref qj, .ref qt, .ref qf, .ref qp, .int (nI un), .ref qk, .ref qq, .int (nI ku), .int (nI ik), .ref qa, .int (nI tnQ), .int (nI 0), .int (nI la), .int (nI wo), .int (nI cu), .int (nI fa), .int (nI fat), .ref qs, .ref ql, .ref qm, .ref qi, .ref qe])), aZ z qs 4 (uN shQ sq 0), aN z qm 4 mnQ] H := hP
      have hD : va_D A [(o, .inr (11, [.ref qj, .ref qt, .ref qf, .ref qp, .int (nI un), .ref qk, .ref qq, .int (nI ku), .int (nI ik), .ref qa, .int (nI tnQ), .int (nI 0), .int (nI la), .int (nI wo), .int (nI cu), .int (nI fa), .int (nI fat), .ref qs, .ref ql, .ref qm, .ref qi, .ref qe])), aZ z qs 4 (uN shQ sq 0), aN z qm 4 mnQ] := hD
      refine lv_aload_n hx hb dX11_drop_33 rfl (lv_at hl 0 rfl) ?_
      refine va_get (D := D) (ci := 11) (v := .ref qm) (C := RX11) (T := TX11) (N := 22) hx hb hts iX11 hown hK.1 hP 0 rfl rfl 19 (by decide) (hts _ m_533) (fun _ h9 => h9) rfl dX11_drop_34 ?_
      refine lv_iload_n hx hb dX11_drop_37 rfl (lv_at hl 1 rfl) ?_
      refine nv_ald hx hb hK hP 2 rfl (by omega) (by decide) dX11_drop_38 ?_
      exact nv_mi hx hb hr hlocks hS dX11_drop_39 hP trivial rfl
    · refine lv_bipush (v := (-11)) hx hb dX11_drop_23 (by decide +kernel) ?_
      obtain ⟨rfl, rfl⟩ := hrel.2.1 sq rfl (by omega) hc20
      exact nv_mi hx hb hr hlocks hS dX11_drop_25 hP trivial rfl
  · refine lv_iconst (v := (-1)) hx hb dX11_drop_12 (by decide +kernel) ?_
    obtain ⟨rfl, rfl⟩ := hrel.1 hc9
    exact nv_mi hx hb hr hlocks hS dX11_drop_13 hP trivial rfl

set_option maxHeartbeats 4000000 in
set_option maxRecDepth 100000 in
theorem c_X11_item (l : Launch) (D : va_G) (z : Nat → ClassId) (sz : Nat) (o : Nat) (qj : Nat) (qt : Nat) (qf : Nat) (qp : Nat) (qk : Nat) (qq : Nat) (qa : Nat) (qs : Nat) (ql : Nat) (qm : Nat) (qi : Nat) (qe : Nat) (un : Nat) (ku : Nat) (ik : Nat) (tnQ : Nat) (th : Nat) (la : Nat) (wo : Nat) (cu : Nat) (fa : Nat) (fat : Nat) (shQ : Nat → Nat) (ln : Nat → Nat) (mnQ : Nat → Nat) (it : Nat → Int64) (sv : Int32) (av : Int32) (ivQ : Int32) (xv : Int64) (it1 : Nat → Int64) (vQ : Int32) (hso : sOK shQ ln mnQ) (hrel : itRel shQ ln mnQ it sv av ivQ xv it1 vQ) : CM l yX11_item cX11_item 7 (some .int) 2 45 0 0 [.ref o, .int sv, .int av, .int ivQ, .long xv] D z [(o, .inr (11, [.ref qj, .ref qt, .ref qf, .ref qp, .int (nI un), .ref qk, .ref qq, .int (nI ku), .int (nI ik), .ref qa, .int (nI tnQ), .int (nI th), .int (nI la), .int (nI wo), .int (nI cu), .int (nI fa), .int (nI fat), .ref qs, .ref ql, .ref qm, .ref qi, .ref qe])), aZ z qs 4 shQ, aN z ql 4 ln, aN z qm 4 mnQ, aL z qi 96 it] sz (fun _ => True) [(o, .inr (11, [.ref qj, .ref qt, .ref qf, .ref qp, .int (nI un), .ref qk, .ref qq, .int (nI ku), .int (nI ik), .ref qa, .int (nI tnQ), .int (nI 0), .int (nI la), .int (nI wo), .int (nI cu), .int (nI fa), .int (nI fat), .ref qs, .ref ql, .ref qm, .ref qi, .ref qe])), aZ z qs 4 shQ, aN z ql 4 ln, aN z qm 4 mnQ, aL z qi 96 it1] (some (.int vQ)) (fun _ => True) := by
  refine Met.ofW (cc := cX11_item) (maxL := 7) (ret := (some .int)) (by decide) rfl ?_
  intro pg e s m args below meth c s₁ B hml hv
  obtain ⟨rfl, hsz, hP, hK, hD0, hE⟩ := hv
  have hx := B.exec
  have hb := B.bytes
  have hr := B.returns
  have hts : ∀ w ∈ ALL, w.before _ s = true := fun w h => atoms_spec (ws := wA yX11_item cX11_item 7 (some .int)) B.pre w (List.mem_cons_of_mem _ h)
  have hown : s.vm.findClass RX11 = some m.cls := findClass_of_methodNamed B.named
  have hlocks := B.notSynchronized
  subst hsz
  have hD := hD0.self (sz := s.heap.size)
  have hA : ∀ q : Nat, s.heap.size ≤ q → va_A [(o, .inr (11, [.ref qj, .ref qt, .ref qf, .ref qp, .int (nI un), .ref qk, .ref qq, .int (nI ku), .int (nI ik), .ref qa, .int (nI tnQ), .int (nI th), .int (nI la), .int (nI wo), .int (nI cu), .int (nI fa), .int (nI fat), .ref qs, .ref ql, .ref qm, .ref qi, .ref qe])), aZ z qs 4 shQ, aN z ql 4 ln, aN z qm 4 mnQ, aL z qi 96 it] s.heap.size q := fun q h => Or.inr h
  generalize va_A [(o, .inr (11, [.ref qj, .ref qt, .ref qf, .ref qp, .int (nI un), .ref qk, .ref qq, .int (nI ku), .int (nI ik), .ref qa, .int (nI tnQ), .int (nI th), .int (nI la), .int (nI wo), .int (nI cu), .int (nI fa), .int (nI fat), .ref qs, .ref ql, .ref qm, .ref qi, .ref qe])), aZ z qs 4 shQ, aN z ql 4 ln, aN z qm 4 mnQ, aL z qi 96 it] s.heap.size = A at *
  have hS : va_S A s.heap s.heap [] := va_S.rf
  have hl := lv_entry ([.ref o, .int sv, .int av, .int ivQ, .long xv]) (n := 7) (Nat.le_of_ble_eq_true rfl)
  rw [lg_entry_eq]
  generalize (lg_sl ([.ref o, .int sv, .int av, .int ivQ, .long xv]) ++ List.replicate (7 - (lg_sl ([.ref o, .int sv, .int av, .int ivQ, .long xv])).length) Slot.unset).toArray = ls at hl ⊢
  have hl : lv_has ls 7 [(0, .ref o), (1, .int sv), (2, .int av), (3, .int ivQ), (4, .long xv)] := hl
  refine lv_aload_n hx hb dX11_item_0 rfl (lv_at hl 0 rfl) ?_
  refine lv_iconst (v := nI 0) hx hb dX11_item_1 (by decide +kernel) ?_
  refine va_put (D := D) (ci := 11) (v := .int (nI 0)) (ty := tyX11 11) (C := RX11) (T := TX11) (N := 22) hx hb hts iX11 tyX11 tyX11_ok nmX11 hown hK.1 hP hD hS 0 rfl rfl 11 (by decide) (hts _ m_576) (fun _ h9 => h9) rfl (tyX11_ok 11 (by decide)) rfl rfl (Nat.le_of_ble_eq_true rfl) dX11_item_2 (fun H locs hP hD hS => ?_)
  have hP : va_P D vwCl [(o, .inr (11, [.ref qj, .ref qt, .ref qf, .ref qp, .int (nI un), .ref qk, .ref qq, .int (nI ku), .int (nI ik), .ref qa, .int (nI tnQ), .int (nI 0), .int (nI la), .int (nI wo), .int (nI cu), .int (nI fa), .int (nI fat), .ref qs, .ref ql, .ref qm, .ref qi, .ref qe])), aZ z qs 4 shQ, aN z ql 4 ln, aN z qm 4 mnQ, aL z qi 96 it] H := hP
  have hD : va_D A [(o, .inr (11, [.ref qj, .ref qt, .ref qf, .ref qp, .int (nI un), .ref qk, .ref qq, .int (nI ku), .int (nI ik), .ref qa, .int (nI tnQ), .int (nI 0), .int (nI la), .int (nI wo), .int (nI cu), .int (nI fa), .int (nI fat), .ref qs, .ref ql, .ref qm, .ref qi, .ref qe])), aZ z qs 4 shQ, aN z ql 4 ln, aN z qm 4 mnQ, aL z qi 96 it] := hD
  refine lv_iload_n hx hb dX11_item_5 rfl (lv_at hl 1 rfl) ?_
  have hPc := hP.sub (ws' := []) [] rfl
  refine nv_cp1 (va_runS (As := [.int sv]) (rest := []) ⟨hx, hb, hml, hown, hts⟩ (c_X11_isNumber l D z sv ) (va_cwS 1 hts (gS m_670 m_671 m_541 m_665) rfl rfl rfl hd_X11_isNumber ⟨Nat.le_of_ble_eq_true rfl, Nat.le_of_ble_eq_true rfl⟩) (nv_preP hK hPc trivial _) rfl rfl hl.1 rfl (lv_room (Nat.le_of_ble_eq_true rfl)) dX11_item_6 ⟨by decide, by decide⟩) ?_
  refine nv_beq (tgt := 24) hx hb dX11_item_9 (by decide) (fun hc9 => ?_) (fun hc9 => ?_)
  · refine lv_iconst (v := (-1)) hx hb dX11_item_24 (by decide +kernel) ?_
    obtain ⟨rfl, rfl⟩ := hrel.1 (by first | exact fun q => hc9 q.1 | exact fun q => hc21 q.2)
    exact nv_mi hx hb hr hlocks hS dX11_item_25 hP trivial rfl
  · refine lv_iload_n hx hb dX11_item_12 rfl (lv_at hl 2 rfl) ?_
    refine lv_i2l hx hb dX11_item_13 rfl ?_
    refine lv_lconst (v := 0) hx hb dX11_item_14 (by decide +kernel) ?_
    refine lv_ldc2 (own := RX11) hx hb hown (hts _ m_666) dX11_item_15 ?_
    have hPc := hP.sub (ws' := []) [] rfl
    refine nv_cp1 (va_runS (As := [.long av.toInt64, .long 0, .long (3)]) (rest := []) ⟨hx, hb, hml, hown, hts⟩ (c_X11_in l D z av.toInt64 0 (3) ) (va_cwS 3 hts (gS m_539 m_540 m_541 m_536) rfl rfl rfl hd_X11_in ⟨Nat.le_of_ble_eq_true rfl, Nat.le_of_ble_eq_true rfl⟩) (nv_preP hK hPc trivial _) rfl rfl hl.1 rfl (lv_room (Nat.le_of_ble_eq_true rfl)) dX11_item_18 ⟨by decide, by decide⟩) ?_
    refine nv_inwl (a := 0) (b := 3) (by decide) (by decide) ?_
    refine nv_bne (tgt := 26) hx hb dX11_item_21 (by decide) (fun hc21 => ?_) (fun hc21 => ?_)
    · obtain ⟨sq, rfl, sq0, sq1⟩ := wi_nat (b := 3) (by decide) hc9
      have hs1 := hso sq (by omega)
      refine lv_aload_n hx hb dX11_item_26 rfl (lv_at hl 0 rfl) ?_
      refine lv_iload_n hx hb dX11_item_27 rfl (lv_at hl 1 rfl) ?_
      refine lv_iload_n hx hb dX11_item_28 rfl (lv_at hl 2 rfl) ?_
      refine lv_iload_n hx hb dX11_item_29 rfl (lv_at hl 3 rfl) ?_
      refine lv_iconst (v := nI 1) hx hb dX11_item_30 (by decide +kernel) ?_
      have hPc := hP.sub (ws' := [(o, .inr (11, [.ref qj, .ref qt, .ref qf, .ref qp, .int (nI un), .ref qk, .ref qq, .int (nI ku), .int (nI ik), .ref qa, .int (nI tnQ), .int (nI 0), .int (nI la), .int (nI wo), .int (nI cu), .int (nI fa), .int (nI fat), .ref qs, .ref ql, .ref qm, .ref qi, .ref qe])), aZ z qs 4 shQ, aN z ql 4 ln, aN z qm 4 mnQ]) [0, 1, 2, 3] rfl
      refine nv_cp1 (va_runV (As := [.int (nI sq), .int av, .int ivQ, .int (nI 1)]) (rest := []) ⟨hx, hb, hml, hown, hts⟩ (c_X11_found l D z o qj qt qf qp qk qq qa qs ql qm qi qe un ku ik tnQ 0 la wo cu fa fat shQ ln mnQ sq av ivQ (nI 1) (by first | assumption | omega) (by first | assumption | omega)) (cwV 4 hts (gV m_672 m_673 m_674 m_541 m_668) rfl rfl rfl ⟨rfl, hd_X11_found⟩ ⟨Nat.le_of_ble_eq_true rfl, Nat.le_of_ble_eq_true rfl⟩) (nv_prePV (ci := 11) (q0 := 0) hK hPc trivial rfl rfl) rfl rfl hl.1 rfl (lv_room (Nat.le_of_ble_eq_true rfl)) dX11_item_31 ⟨by decide, by decide⟩) ?_
      refine lv_istore (lv' := [(6, .int (foV (shQ sq) (ln sq) (mnQ sq) av ivQ (nI 1))), (0, .ref o), (1, .int (nI sq)), (2, .int av), (3, .int ivQ), (4, .long xv)]) hx hb dX11_item_34 hl (by decide) rfl (fun ls hl => ?_)
      refine lv_iload hx hb dX11_item_36 (lv_at hl 0 rfl) ?_
      refine lv_if_eq (tgt := 44) hx hb dX11_item_38 (by decide) (fun hc38 => ?_) (fun hc38 => ?_)
      · obtain ⟨f1, f2, f3⟩ := foV_0 hc38
        obtain ⟨aq, rfl, aq0, aq1⟩ := wi_nat (b := 3) (by decide) hc21
        obtain ⟨iq, rfl, hiq⟩ := inb_nat (by decide) (by omega) f3
        obtain ⟨rfl, rfl⟩ := hrel.2.2 sq aq iq rfl rfl rfl (by omega) (by omega) (by omega) hc38
        refine lv_aload_n hx hb dX11_item_44 rfl (lv_at hl 1 rfl) ?_
        refine va_get (D := D) (ci := 11) (v := .ref qi) (C := RX11) (T := TX11) (N := 22) hx hb hts iX11 hown hK.1 hP 0 rfl rfl 20 (by decide) (hts _ m_534) (fun _ h9 => h9) rfl dX11_item_45 ?_
        refine lv_bipush (v := nI 24) hx hb dX11_item_48 (by decide +kernel) ?_
        refine lv_iload_n hx hb dX11_item_50 rfl (lv_at hl 2 rfl) ?_
        refine nv_mul hx hb dX11_item_51 ?_
        refine lv_iload_n hx hb dX11_item_52 rfl (lv_at hl 4 rfl) ?_
        refine nv_add hx hb dX11_item_53 ?_
        refine lv_iload_n hx hb dX11_item_54 rfl (lv_at hl 3 rfl) ?_
        refine lv_lload hx hb dX11_item_55 (lv_at hl 5 rfl) ?_
        have hPc := hP.sub (ws' := []) [] rfl
        refine nv_cp1 (va_runS (As := [.int (nI aq), .long xv]) (rest := [.int (nI (24 * sq + iq)), .ref qi]) ⟨hx, hb, hml, hown, hts⟩ (c_X11_cut l D z aq xv (by first | assumption | omega)) (va_cwS 2 hts (gS m_677 m_678 m_541 m_667) rfl rfl rfl hd_X11_cut ⟨Nat.le_of_ble_eq_true rfl, Nat.le_of_ble_eq_true rfl⟩) (nv_preP hK hPc trivial _) rfl rfl hl.1 rfl (lv_room (Nat.le_of_ble_eq_true rfl)) dX11_item_57 ⟨by decide, by decide⟩) ?_
        refine nv_last hx hb hK hP hD hS 4 rfl (by omega) (by decide) dX11_item_60 (fun H locs hP hD hS => ?_)
        have hP : va_P D vwCl [(o, .inr (11, [.ref qj, .ref qt, .ref qf, .ref qp, .int (nI un), .ref qk, .ref qq, .int (nI ku), .int (nI ik), .ref qa, .int (nI tnQ), .int (nI 0), .int (nI la), .int (nI wo), .int (nI cu), .int (nI fa), .int (nI fat), .ref qs, .ref ql, .ref qm, .ref qi, .ref qe])), aZ z qs 4 shQ, aN z ql 4 ln, aN z qm 4 mnQ, aL z qi 96 (vp_updL it (24 * sq + iq) (cutF aq xv))] H := hP
        have hD : va_D A [(o, .inr (11, [.ref qj, .ref qt, .ref qf, .ref qp, .int (nI un), .ref qk, .ref qq, .int (nI ku), .int (nI ik), .ref qa, .int (nI tnQ), .int (nI 0), .int (nI la), .int (nI wo), .int (nI cu), .int (nI fa), .int (nI fat), .ref qs, .ref ql, .ref qm, .ref qi, .ref qe])), aZ z qs 4 shQ, aN z ql 4 ln, aN z qm 4 mnQ, aL z qi 96 (vp_updL it (24 * sq + iq) (cutF aq xv))] := hD
        refine lv_iconst (v := nI 1) hx hb dX11_item_61 (by decide +kernel) ?_
        exact nv_mi hx hb hr hlocks hS dX11_item_62 hP trivial rfl
      · refine lv_iload hx hb dX11_item_41 (lv_at hl 0 rfl) ?_
        obtain ⟨rfl, rfl⟩ := hrel.2.1 sq rfl (by omega) hc21 hc38
        exact nv_mi hx hb hr hlocks hS dX11_item_43 hP trivial rfl
    · refine lv_iconst (v := (-1)) hx hb dX11_item_24 (by decide +kernel) ?_
      obtain ⟨rfl, rfl⟩ := hrel.1 (by first | exact fun q => hc9 q.1 | exact fun q => hc21 q.2)
      exact nv_mi hx hb hr hlocks hS dX11_item_25 hP trivial rfl

set_option maxHeartbeats 4000000 in
set_option maxRecDepth 100000 in
theorem c_X11_film (l : Launch) (D : va_G) (z : Nat → ClassId) (sz : Nat) (w0Q : Nat) (o : Nat) (qj : Nat) (qt : Nat) (qf : Nat) (qp : Nat) (qk : Nat) (qq : Nat) (qa : Nat) (qs : Nat) (ql : Nat) (qm : Nat) (qi : Nat) (qe : Nat) (un : Nat) (ku : Nat) (ik : Nat) (tnQ : Nat) (th : Nat) (la : Nat) (wo : Nat) (cu : Nat) (fa : Nat) (fat : Nat) (rQ : Nat → Nat) (tf : Nat → Nat) (shQ : Nat → Nat) (ln : Nat → Nat) (mnQ : Nat → Nat) (it : Nat → Int64) (nv : Int32) (sv : Int32) (av : Int32) (ivQ : Int32) (it1 : Nat → Int64) (vQ : Int32) (hok : rOK w0Q rQ) (hw : w0Q ≤ 10000) (hso : sOK shQ ln mnQ) (hrel : fiRel rQ shQ ln mnQ it nv sv av ivQ it1 vQ) : CX (σ := (Nat → Nat) × Nat) l yX11_film cX11_film 7 (some .int) 5 118 0 0 [.ref o, .int nv, .int sv, .int av, .int ivQ] D z [(o, .inr (11, [.ref qj, .ref qt, .ref qf, .ref qp, .int (nI un), .ref qk, .ref qq, .int (nI ku), .int (nI ik), .ref qa, .int (nI tnQ), .int (nI th), .int (nI la), .int (nI wo), .int (nI cu), .int (nI fa), .int (nI fat), .ref qs, .ref ql, .ref qm, .ref qi, .ref qe])), aN z qj 31 rQ, aN z qt 31 tf, aZ z qs 4 shQ, aN z ql 4 ln, aN z qm 4 mnQ, aL z qi 96 it] sz (fun _ => True) (fun u => [(o, .inr (11, [.ref qj, .ref qt, .ref qf, .ref qp, .int (nI un), .ref qk, .ref qq, .int (nI ku), .int (nI ik), .ref qa, .int (nI tnQ), .int (nI 0), .int (nI u.2), .int (nI wo), .int (nI cu), .int (nI fa), .int (nI fat), .ref qs, .ref ql, .ref qm, .ref qi, .ref qe])), aN z qj 31 rQ, aN z qt 31 u.1, aZ z qs 4 shQ, aN z ql 4 ln, aN z qm 4 mnQ, aL z qi 96 it1]) (some (.int vQ)) (fun _ _ => True) := by
  refine Met.ofW (cc := cX11_film) (maxL := 7) (ret := (some .int)) (by decide) rfl ?_
  intro pg e s m args below meth c s₁ B hml hv
  obtain ⟨rfl, hsz, hP, hK, hD0, hE⟩ := hv
  have hx := B.exec
  have hb := B.bytes
  have hr := B.returns
  have hts : ∀ w ∈ ALL, w.before _ s = true := fun w h => atoms_spec (ws := wA yX11_film cX11_film 7 (some .int)) B.pre w (List.mem_cons_of_mem _ h)
  have hown : s.vm.findClass RX11 = some m.cls := findClass_of_methodNamed B.named
  have hlocks := B.notSynchronized
  subst hsz
  have hD := hD0.self (sz := s.heap.size)
  obtain ⟨o0, o1, o1b, o2, o2b, o3, o4, o5, o6, oP⟩ := id hok
  have hA : ∀ q : Nat, s.heap.size ≤ q → va_A [(o, .inr (11, [.ref qj, .ref qt, .ref qf, .ref qp, .int (nI un), .ref qk, .ref qq, .int (nI ku), .int (nI ik), .ref qa, .int (nI tnQ), .int (nI th), .int (nI la), .int (nI wo), .int (nI cu), .int (nI fa), .int (nI fat), .ref qs, .ref ql, .ref qm, .ref qi, .ref qe])), aN z qj 31 rQ, aN z qt 31 tf, aZ z qs 4 shQ, aN z ql 4 ln, aN z qm 4 mnQ, aL z qi 96 it] s.heap.size q := fun q h => Or.inr h
  generalize va_A [(o, .inr (11, [.ref qj, .ref qt, .ref qf, .ref qp, .int (nI un), .ref qk, .ref qq, .int (nI ku), .int (nI ik), .ref qa, .int (nI tnQ), .int (nI th), .int (nI la), .int (nI wo), .int (nI cu), .int (nI fa), .int (nI fat), .ref qs, .ref ql, .ref qm, .ref qi, .ref qe])), aN z qj 31 rQ, aN z qt 31 tf, aZ z qs 4 shQ, aN z ql 4 ln, aN z qm 4 mnQ, aL z qi 96 it] s.heap.size = A at *
  have hS : va_S A s.heap s.heap [] := va_S.rf
  have hl := lv_entry ([.ref o, .int nv, .int sv, .int av, .int ivQ]) (n := 7) (Nat.le_of_ble_eq_true rfl)
  rw [lg_entry_eq]
  generalize (lg_sl ([.ref o, .int nv, .int sv, .int av, .int ivQ]) ++ List.replicate (7 - (lg_sl ([.ref o, .int nv, .int sv, .int av, .int ivQ])).length) Slot.unset).toArray = ls at hl ⊢
  have hl : lv_has ls 7 [(0, .ref o), (1, .int nv), (2, .int sv), (3, .int av), (4, .int ivQ)] := hl
  refine lv_aload_n hx hb dX11_film_0 rfl (lv_at hl 0 rfl) ?_
  refine lv_iconst (v := nI 0) hx hb dX11_film_1 (by decide +kernel) ?_
  refine va_put (D := D) (ci := 11) (v := .int (nI 0)) (ty := tyX11 11) (C := RX11) (T := TX11) (N := 22) hx hb hts iX11 tyX11 tyX11_ok nmX11 hown hK.1 hP hD hS 0 rfl rfl 11 (by decide) (hts _ m_576) (fun _ h9 => h9) rfl (tyX11_ok 11 (by decide)) rfl rfl (Nat.le_of_ble_eq_true rfl) dX11_film_2 (fun H locs hP hD hS => ?_)
  have hP : va_P D vwCl [(o, .inr (11, [.ref qj, .ref qt, .ref qf, .ref qp, .int (nI un), .ref qk, .ref qq, .int (nI ku), .int (nI ik), .ref qa, .int (nI tnQ), .int (nI 0), .int (nI la), .int (nI wo), .int (nI cu), .int (nI fa), .int (nI fat), .ref qs, .ref ql, .ref qm, .ref qi, .ref qe])), aN z qj 31 rQ, aN z qt 31 tf, aZ z qs 4 shQ, aN z ql 4 ln, aN z qm 4 mnQ, aL z qi 96 it] H := hP
  have hD : va_D A [(o, .inr (11, [.ref qj, .ref qt, .ref qf, .ref qp, .int (nI un), .ref qk, .ref qq, .int (nI ku), .int (nI ik), .ref qa, .int (nI tnQ), .int (nI 0), .int (nI la), .int (nI wo), .int (nI cu), .int (nI fa), .int (nI fat), .ref qs, .ref ql, .ref qm, .ref qi, .ref qe])), aN z qj 31 rQ, aN z qt 31 tf, aZ z qs 4 shQ, aN z ql 4 ln, aN z qm 4 mnQ, aL z qi 96 it] := hD
  refine lv_iload_n hx hb dX11_film_5 rfl (lv_at hl 1 rfl) ?_
  refine lv_i2l hx hb dX11_film_6 rfl ?_
  refine lv_lconst (v := 1) hx hb dX11_film_7 (by decide +kernel) ?_
  refine lv_ldc2 (own := RX11) hx hb hown (hts _ m_676) dX11_film_8 ?_
  have hPc := hP.sub (ws' := []) [] rfl
  refine nv_cp1 (va_runS (As := [.long nv.toInt64, .long 1, .long (24)]) (rest := []) ⟨hx, hb, hml, hown, hts⟩ (c_X11_in l D z nv.toInt64 1 (24) ) (va_cwS 3 hts (gS m_539 m_540 m_541 m_536) rfl rfl rfl hd_X11_in ⟨Nat.le_of_ble_eq_true rfl, Nat.le_of_ble_eq_true rfl⟩) (nv_preP hK hPc trivial _) rfl rfl hl.1 rfl (lv_room (Nat.le_of_ble_eq_true rfl)) dX11_film_11 ⟨by decide, by decide⟩) ?_
  refine nv_inwl (a := 1) (b := 24) (by decide) (by decide) ?_
  refine nv_beq (tgt := 36) hx hb dX11_film_14 (by decide) (fun hc14 => ?_) (fun hc14 => ?_)
  · refine lv_iconst (v := (-1)) hx hb dX11_film_36 (by decide +kernel) ?_
    obtain ⟨rfl, rfl⟩ := hrel.1 (by first | exact fun q => hc14 q.1 | exact fun q => hc21 q.2.1 | exact fun q => hc33 q.2.2)
    exact nv_xi hx hb hr hlocks hS dX11_film_37 (tf, la) hP trivial rfl
  · refine lv_iload_n hx hb dX11_film_17 rfl (lv_at hl 2 rfl) ?_
    have hPc := hP.sub (ws' := []) [] rfl
    refine nv_cp1 (va_runS (As := [.int sv]) (rest := []) ⟨hx, hb, hml, hown, hts⟩ (c_X11_isNumber l D z sv ) (va_cwS 1 hts (gS m_670 m_671 m_541 m_665) rfl rfl rfl hd_X11_isNumber ⟨Nat.le_of_ble_eq_true rfl, Nat.le_of_ble_eq_true rfl⟩) (nv_preP hK hPc trivial _) rfl rfl hl.1 rfl (lv_room (Nat.le_of_ble_eq_true rfl)) dX11_film_18 ⟨by decide, by decide⟩) ?_
    refine nv_beq (tgt := 36) hx hb dX11_film_21 (by decide) (fun hc21 => ?_) (fun hc21 => ?_)
    · refine lv_iconst (v := (-1)) hx hb dX11_film_36 (by decide +kernel) ?_
      obtain ⟨rfl, rfl⟩ := hrel.1 (by first | exact fun q => hc14 q.1 | exact fun q => hc21 q.2.1 | exact fun q => hc33 q.2.2)
      exact nv_xi hx hb hr hlocks hS dX11_film_37 (tf, la) hP trivial rfl
    · refine lv_iload_n hx hb dX11_film_24 rfl (lv_at hl 3 rfl) ?_
      refine lv_i2l hx hb dX11_film_25 rfl ?_
      refine lv_lconst (v := 0) hx hb dX11_film_26 (by decide +kernel) ?_
      refine lv_ldc2 (own := RX11) hx hb hown (hts _ m_666) dX11_film_27 ?_
      have hPc := hP.sub (ws' := []) [] rfl
      refine nv_cp1 (va_runS (As := [.long av.toInt64, .long 0, .long (3)]) (rest := []) ⟨hx, hb, hml, hown, hts⟩ (c_X11_in l D z av.toInt64 0 (3) ) (va_cwS 3 hts (gS m_539 m_540 m_541 m_536) rfl rfl rfl hd_X11_in ⟨Nat.le_of_ble_eq_true rfl, Nat.le_of_ble_eq_true rfl⟩) (nv_preP hK hPc trivial _) rfl rfl hl.1 rfl (lv_room (Nat.le_of_ble_eq_true rfl)) dX11_film_30 ⟨by decide, by decide⟩) ?_
      refine nv_inwl (a := 0) (b := 3) (by decide) (by decide) ?_
      refine nv_bne (tgt := 38) hx hb dX11_film_33 (by decide) (fun hc33 => ?_) (fun hc33 => ?_)
      · obtain ⟨kq, rfl, kq0, kq1⟩ := wi_nat (b := 24) (by decide) hc14
        obtain ⟨sq, rfl, sq0, sq1⟩ := wi_nat (b := 3) (by decide) hc21
        have hs1 := hso sq (by omega)
        refine lv_aload_n hx hb dX11_film_38 rfl (lv_at hl 0 rfl) ?_
        refine lv_iload_n hx hb dX11_film_39 rfl (lv_at hl 2 rfl) ?_
        refine lv_iload_n hx hb dX11_film_40 rfl (lv_at hl 3 rfl) ?_
        refine lv_iload hx hb dX11_film_41 (lv_at hl 4 rfl) ?_
        refine lv_iload_n hx hb dX11_film_43 rfl (lv_at hl 1 rfl) ?_
        have hPc := hP.sub (ws' := [(o, .inr (11, [.ref qj, .ref qt, .ref qf, .ref qp, .int (nI un), .ref qk, .ref qq, .int (nI ku), .int (nI ik), .ref qa, .int (nI tnQ), .int (nI 0), .int (nI la), .int (nI wo), .int (nI cu), .int (nI fa), .int (nI fat), .ref qs, .ref ql, .ref qm, .ref qi, .ref qe])), aZ z qs 4 shQ, aN z ql 4 ln, aN z qm 4 mnQ]) [0, 3, 4, 5] rfl
        refine nv_cp1 (va_runV (As := [.int (nI sq), .int av, .int ivQ, .int (nI kq)]) (rest := []) ⟨hx, hb, hml, hown, hts⟩ (c_X11_found l D z o qj qt qf qp qk qq qa qs ql qm qi qe un ku ik tnQ 0 la wo cu fa fat shQ ln mnQ sq av ivQ (nI kq) (by first | assumption | omega) (by first | assumption | omega)) (cwV 4 hts (gV m_672 m_673 m_674 m_541 m_668) rfl rfl rfl ⟨rfl, hd_X11_found⟩ ⟨Nat.le_of_ble_eq_true rfl, Nat.le_of_ble_eq_true rfl⟩) (nv_prePV (ci := 11) (q0 := 0) hK hPc trivial rfl rfl) rfl rfl hl.1 rfl (lv_room (Nat.le_of_ble_eq_true rfl)) dX11_film_44 ⟨by decide, by decide⟩) ?_
        refine lv_istore (lv' := [(5, .int (foV (shQ sq) (ln sq) (mnQ sq) av ivQ (nI kq))), (0, .ref o), (1, .int (nI kq)), (2, .int (nI sq)), (3, .int av), (4, .int ivQ)]) hx hb dX11_film_47 hl (by decide) rfl (fun ls hl => ?_)
        refine lv_iload hx hb dX11_film_49 (lv_at hl 0 rfl) ?_
        refine lv_if_eq (tgt := 57) hx hb dX11_film_51 (by decide) (fun hc51 => ?_) (fun hc51 => ?_)
        · obtain ⟨f1, f2, f3⟩ := foV_0 hc51
          obtain ⟨aq, rfl, aq0, aq1⟩ := wi_nat (b := 3) (by decide) hc33
          obtain ⟨iq, rfl, hiq⟩ := inb_nat (by omega) (by omega) f3
          obtain ⟨rfl, rfl⟩ := hrel.2.2 sq aq iq kq rfl rfl rfl rfl (by omega) (by omega) (by omega) (by omega) (by omega) hc51
          refine lv_aload_n hx hb dX11_film_57 rfl (lv_at hl 1 rfl) ?_
          refine va_get (D := D) (ci := 11) (v := .ref qj) (C := RX11) (T := TX11) (N := 22) hx hb hts iX11 hown hK.1 hP 0 rfl rfl 0 (by decide) (hts _ m_523) (fun _ h9 => h9) rfl dX11_film_58 ?_
          refine lv_aload_n hx hb dX11_film_61 rfl (lv_at hl 1 rfl) ?_
          refine va_get (D := D) (ci := 11) (v := .ref qt) (C := RX11) (T := TX11) (N := 22) hx hb hts iX11 hown hK.1 hP 0 rfl rfl 1 (by decide) (hts _ m_524) (fun _ h9 => h9) rfl dX11_film_62 ?_
          have hPc := hP.sub (ws' := [aN z qj 31 rQ, aN z qt 31 tf]) [1, 2] rfl
          have hDc := hD.sub (ws' := [aN z qj 31 rQ, aN z qt 31 tf]) [1, 2] (by decide) rfl
          refine nv_cm0 (wc := [aN z qj 31 rQ, aN z qt 31 tf]) (wr := [(o, .inr (11, [.ref qj, .ref qt, .ref qf, .ref qp, .int (nI un), .ref qk, .ref qq, .int (nI ku), .int (nI ik), .ref qa, .int (nI tnQ), .int (nI 0), .int (nI la), .int (nI wo), .int (nI cu), .int (nI fa), .int (nI fat), .ref qs, .ref ql, .ref qm, .ref qi, .ref qe])), aZ z qs 4 shQ, aN z ql 4 ln, aN z qm 4 mnQ, aL z qi 96 it]) (w1 := [aN z qj 31 rQ, aN z qt 31 rQ]) (ws1 := [(o, .inr (11, [.ref qj, .ref qt, .ref qf, .ref qp, .int (nI un), .ref qk, .ref qq, .int (nI ku), .int (nI ik), .ref qa, .int (nI tnQ), .int (nI 0), .int (nI la), .int (nI wo), .int (nI cu), .int (nI fa), .int (nI fat), .ref qs, .ref ql, .ref qm, .ref qi, .ref qe])), aN z qj 31 rQ, aN z qt 31 rQ, aZ z qs 4 shQ, aN z ql 4 ln, aN z qm 4 mnQ, aL z qi 96 it]) (va_runS (As := [.ref qj, .ref qt]) (rest := []) ⟨hx, hb, hml, hown, hts⟩ (c_X11_lay l D z H.size qj qt rQ tf ) (va_cwS 2 hts (gS m_631 m_632 m_541 m_537) rfl rfl rfl hd_X11_lay ⟨Nat.le_of_ble_eq_true rfl, Nat.le_of_ble_eq_true rfl⟩) (nv_preM hK hPc hDc trivial _) rfl rfl hl.1 rfl (lv_room (Nat.le_of_ble_eq_true rfl)) dX11_film_65 ⟨by decide, by decide⟩) hP hD hS hA [1, 2] [0, 3, 4, 5, 6] [0, 5, 6, 1, 2, 3, 4] rfl rfl (by decide) (by decide) rfl (by decide) rfl (by decide) (fun H locs hP hD hS hE65 hz65 hf65 => ?_)
          clear hPc hDc
          clear hf65 hz65
          refine lv_iconst (v := nI 0) hx hb dX11_film_68 (by decide +kernel) ?_
          refine lv_istore (lv' := [(6, .int (nI 0)), (5, .int (foV (shQ sq) (ln sq) (mnQ sq) (nI aq) (nI iq) (nI kq))), (0, .ref o), (1, .int (nI kq)), (2, .int (nI sq)), (3, .int (nI aq)), (4, .int (nI iq))]) hx hb dX11_film_69 hl (by decide) rfl (fun ls hl => ?_)
          refine nv_loop (σ := Nat × Nat) (fun x H locs ls => ∃ (jq : Nat) (lx : Nat), (jq, lx) = x ∧ ((jq ≤ kq)) ∧ va_P D vwCl [(o, .inr (11, [.ref qj, .ref qt, .ref qf, .ref qp, .int (nI un), .ref qk, .ref qq, .int (nI ku), .int (nI ik), .ref qa, .int (nI tnQ), .int (nI 0), .int (nI lx), .int (nI wo), .int (nI cu), .int (nI fa), .int (nI fat), .ref qs, .ref ql, .ref qm, .ref qi, .ref qe])), aN z qj 31 rQ, aN z qt 31 (wkN rQ jq), aZ z qs 4 shQ, aN z ql 4 ln, aN z qm 4 mnQ, aL z qi 96 (flF rQ it (24 * sq + iq) aq jq)] H ∧ va_D A [(o, .inr (11, [.ref qj, .ref qt, .ref qf, .ref qp, .int (nI un), .ref qk, .ref qq, .int (nI ku), .int (nI ik), .ref qa, .int (nI tnQ), .int (nI 0), .int (nI lx), .int (nI wo), .int (nI cu), .int (nI fa), .int (nI fat), .ref qs, .ref ql, .ref qm, .ref qi, .ref qe])), aN z qj 31 rQ, aN z qt 31 (wkN rQ jq), aZ z qs 4 shQ, aN z ql 4 ln, aN z qm 4 mnQ, aL z qi 96 (flF rQ it (24 * sq + iq) aq jq)] ∧ va_S A s.heap H locs ∧ lv_has ls 7 [(0, .ref o), (1, .int (nI kq)), (2, .int (nI sq)), (3, .int (nI aq)), (4, .int (nI iq)), (6, .int (nI jq))]) (fun x => kq - x.1) 71 [] ?_ (0, la) ?_
          · rintro _ H locs ls ⟨jq, lx, rfl, hj, hP, hD, hS, hl⟩ ih71
            refine lv_iload hx hb dX11_film_71 (lv_at hl 5 rfl) ?_
            refine lv_iload_n hx hb dX11_film_73 rfl (lv_at hl 1 rfl) ?_
            refine nv_ge (tgt := 121) hx hb (by omega) (by omega) dX11_film_74 (by decide) (fun hc74 => ?_) (fun hc74 => ?_)
            · obtain rfl : kq = jq := by omega
              refine lv_iload_n hx hb dX11_film_121 rfl (lv_at hl 1 rfl) ?_
              exact nv_xi hx hb hr hlocks hS dX11_film_122 (wkN rQ kq, lx) hP trivial rfl
            · have hokj := wkN_ok jq hok
              have q3 := hokj.2.2.2.2.2.1
              refine lv_aload_n hx hb dX11_film_77 rfl (lv_at hl 0 rfl) ?_
              refine lv_aload_n hx hb dX11_film_78 rfl (lv_at hl 0 rfl) ?_
              refine va_get (D := D) (ci := 11) (v := .ref qt) (C := RX11) (T := TX11) (N := 22) hx hb hts iX11 hown hK.1 hP 0 rfl rfl 1 (by decide) (hts _ m_524) (fun _ h9 => h9) rfl dX11_film_79 ?_
              refine lv_iconst (v := nI 0) hx hb dX11_film_82 (by decide +kernel) ?_
              have hPc := hP.sub (ws' := [aN z qt 31 (wkN rQ jq)]) [2] rfl
              have hDc := hD.sub (ws' := [aN z qt 31 (wkN rQ jq)]) [2] (by decide) rfl
              refine nv_cm1 (wc := [aN z qt 31 (wkN rQ jq)]) (wr := [(o, .inr (11, [.ref qj, .ref qt, .ref qf, .ref qp, .int (nI un), .ref qk, .ref qq, .int (nI ku), .int (nI ik), .ref qa, .int (nI tnQ), .int (nI 0), .int (nI lx), .int (nI wo), .int (nI cu), .int (nI fa), .int (nI fat), .ref qs, .ref ql, .ref qm, .ref qi, .ref qe])), aN z qj 31 rQ, aZ z qs 4 shQ, aN z ql 4 ln, aN z qm 4 mnQ, aL z qi 96 (flF rQ it (24 * sq + iq) aq jq)]) (w1 := [aN z qt 31 (weekR (wkN rQ jq) (wkN rQ jq 3))]) (ws1 := [(o, .inr (11, [.ref qj, .ref qt, .ref qf, .ref qp, .int (nI un), .ref qk, .ref qq, .int (nI ku), .int (nI ik), .ref qa, .int (nI tnQ), .int (nI 0), .int (nI lx), .int (nI wo), .int (nI cu), .int (nI fa), .int (nI fat), .ref qs, .ref ql, .ref qm, .ref qi, .ref qe])), aN z qj 31 rQ, aN z qt 31 (weekR (wkN rQ jq) (wkN rQ jq 3)), aZ z qs 4 shQ, aN z ql 4 ln, aN z qm 4 mnQ, aL z qi 96 (flF rQ it (24 * sq + iq) aq jq)]) (va_runS (As := [.ref qt, .int (nI 0)]) (rest := [.ref o]) ⟨hx, hb, hml, hown, hts⟩ (c_X11_week l D z H.size (w0Q + jq) qt (wkN rQ jq) (nI 0) (wkN rQ jq 3) hokj (nI_add _ 0) (by omega) (by first | assumption | omega)) (va_cwS 2 hts (gS m_572 m_573 m_541 m_569) rfl rfl rfl hd_X11_week ⟨Nat.le_of_ble_eq_true rfl, Nat.le_of_ble_eq_true rfl⟩) (nv_preM hK hPc hDc trivial _) rfl rfl hl.1 rfl (lv_room (Nat.le_of_ble_eq_true rfl)) dX11_film_83 ⟨by decide, by decide⟩) hP hD hS hA [2] [0, 1, 3, 4, 5, 6] [0, 1, 6, 2, 3, 4, 5] rfl rfl (by decide) (by decide) rfl (by decide) rfl (by decide) (fun H locs hP hD hS hE83 hz83 hf83 => ?_)
              clear hPc hDc
              clear hf83 hz83
              refine va_put (D := D) (ci := 11) (v := .int (nI (weekW (wkN rQ jq) (wkN rQ jq 3)))) (ty := tyX11 12) (C := RX11) (T := TX11) (N := 22) hx hb hts iX11 tyX11 tyX11_ok nmX11 hown hK.1 hP hD hS 0 rfl rfl 12 (by decide) (hts _ m_570) (fun _ h9 => h9) rfl (tyX11_ok 12 (by decide)) rfl rfl (Nat.le_of_ble_eq_true rfl) dX11_film_86 (fun H locs hP hD hS => ?_)
              have hP : va_P D vwCl [(o, .inr (11, [.ref qj, .ref qt, .ref qf, .ref qp, .int (nI un), .ref qk, .ref qq, .int (nI ku), .int (nI ik), .ref qa, .int (nI tnQ), .int (nI 0), .int (nI (weekW (wkN rQ jq) (wkN rQ jq 3))), .int (nI wo), .int (nI cu), .int (nI fa), .int (nI fat), .ref qs, .ref ql, .ref qm, .ref qi, .ref qe])), aN z qj 31 rQ, aN z qt 31 (weekR (wkN rQ jq) (wkN rQ jq 3)), aZ z qs 4 shQ, aN z ql 4 ln, aN z qm 4 mnQ, aL z qi 96 (flF rQ it (24 * sq + iq) aq jq)] H := hP
              have hD : va_D A [(o, .inr (11, [.ref qj, .ref qt, .ref qf, .ref qp, .int (nI un), .ref qk, .ref qq, .int (nI ku), .int (nI ik), .ref qa, .int (nI tnQ), .int (nI 0), .int (nI (weekW (wkN rQ jq) (wkN rQ jq 3))), .int (nI wo), .int (nI cu), .int (nI fa), .int (nI fat), .ref qs, .ref ql, .ref qm, .ref qi, .ref qe])), aN z qj 31 rQ, aN z qt 31 (weekR (wkN rQ jq) (wkN rQ jq 3)), aZ z qs 4 shQ, aN z ql 4 ln, aN z qm 4 mnQ, aL z qi 96 (flF rQ it (24 * sq + iq) aq jq)] := hD
              refine lv_aload_n hx hb dX11_film_89 rfl (lv_at hl 0 rfl) ?_
              refine va_get (D := D) (ci := 11) (v := .ref qi) (C := RX11) (T := TX11) (N := 22) hx hb hts iX11 hown hK.1 hP 0 rfl rfl 20 (by decide) (hts _ m_534) (fun _ h9 => h9) rfl dX11_film_90 ?_
              refine lv_bipush (v := nI 24) hx hb dX11_film_93 (by decide +kernel) ?_
              refine lv_iload_n hx hb dX11_film_95 rfl (lv_at hl 2 rfl) ?_
              refine nv_mul hx hb dX11_film_96 ?_
              refine lv_iload hx hb dX11_film_97 (lv_at hl 4 rfl) ?_
              refine nv_add hx hb dX11_film_99 ?_
              refine lv_iload hx hb dX11_film_100 (lv_at hl 5 rfl) ?_
              refine nv_add hx hb dX11_film_102 ?_
              refine lv_iload_n hx hb dX11_film_103 rfl (lv_at hl 3 rfl) ?_
              refine lv_aload_n hx hb dX11_film_104 rfl (lv_at hl 0 rfl) ?_
              refine va_get (D := D) (ci := 11) (v := .ref qt) (C := RX11) (T := TX11) (N := 22) hx hb hts iX11 hown hK.1 hP 0 rfl rfl 1 (by decide) (hts _ m_524) (fun _ h9 => h9) rfl dX11_film_105 ?_
              refine lv_iconst (v := nI 0) hx hb dX11_film_108 (by decide +kernel) ?_
              refine nv_ald hx hb hK hP 2 rfl (by omega) (by decide) dX11_film_109 ?_
              refine lv_i2l hx hb dX11_film_110 rfl ?_
              have hPc := hP.sub (ws' := []) [] rfl
              refine nv_cp1 (va_runS (As := [.int (nI aq), .long ((nI ((weekR (wkN rQ jq) (wkN rQ jq 3)) 0)).toInt64)]) (rest := [.int (nI (24 * sq + iq + jq)), .ref qi]) ⟨hx, hb, hml, hown, hts⟩ (c_X11_cut l D z aq ((nI ((weekR (wkN rQ jq) (wkN rQ jq 3)) 0)).toInt64) (by first | assumption | omega)) (va_cwS 2 hts (gS m_677 m_678 m_541 m_667) rfl rfl rfl hd_X11_cut ⟨Nat.le_of_ble_eq_true rfl, Nat.le_of_ble_eq_true rfl⟩) (nv_preP hK hPc trivial _) rfl rfl hl.1 rfl (lv_room (Nat.le_of_ble_eq_true rfl)) dX11_film_111 ⟨by decide, by decide⟩) ?_
              refine nv_last hx hb hK hP hD hS 6 rfl (by omega) (by decide) dX11_film_114 (fun H locs hP hD hS => ?_)
              have hP : va_P D vwCl [(o, .inr (11, [.ref qj, .ref qt, .ref qf, .ref qp, .int (nI un), .ref qk, .ref qq, .int (nI ku), .int (nI ik), .ref qa, .int (nI tnQ), .int (nI 0), .int (nI (weekW (wkN rQ jq) (wkN rQ jq 3))), .int (nI wo), .int (nI cu), .int (nI fa), .int (nI fat), .ref qs, .ref ql, .ref qm, .ref qi, .ref qe])), aN z qj 31 rQ, aN z qt 31 (weekR (wkN rQ jq) (wkN rQ jq 3)), aZ z qs 4 shQ, aN z ql 4 ln, aN z qm 4 mnQ, aL z qi 96 (vp_updL (flF rQ it (24 * sq + iq) aq jq) (24 * sq + iq + jq) (cutF aq ((nI ((weekR (wkN rQ jq) (wkN rQ jq 3)) 0)).toInt64)))] H := hP
              have hD : va_D A [(o, .inr (11, [.ref qj, .ref qt, .ref qf, .ref qp, .int (nI un), .ref qk, .ref qq, .int (nI ku), .int (nI ik), .ref qa, .int (nI tnQ), .int (nI 0), .int (nI (weekW (wkN rQ jq) (wkN rQ jq 3))), .int (nI wo), .int (nI cu), .int (nI fa), .int (nI fat), .ref qs, .ref ql, .ref qm, .ref qi, .ref qe])), aN z qj 31 rQ, aN z qt 31 (weekR (wkN rQ jq) (wkN rQ jq 3)), aZ z qs 4 shQ, aN z ql 4 ln, aN z qm 4 mnQ, aL z qi 96 (vp_updL (flF rQ it (24 * sq + iq) aq jq) (24 * sq + iq + jq) (cutF aq ((nI ((weekR (wkN rQ jq) (wkN rQ jq 3)) 0)).toInt64)))] := hD
              refine lv_iinc (v := nI (jq + 1)) (lv' := [(6, .int (nI (jq + 1))), (0, .ref o), (1, .int (nI kq)), (2, .int (nI sq)), (3, .int (nI aq)), (4, .int (nI iq))]) hx hb dX11_film_115 hl (k := 5) rfl (nI_inc _) (by decide) rfl (fun ls hl => ?_)
              refine lv_goto (tgt := 71) hx hb dX11_film_118 (by decide) ?_
              exact ih71 (jq + 1, weekW (wkN rQ jq) (wkN rQ jq 3)) _ _ _ (by show kq - (jq + 1) < kq - jq; omega) ⟨jq + 1, weekW (wkN rQ jq) (wkN rQ jq 3), rfl, (by omega), hP, hD, hS, lv_sub hl [1, 2, 3, 4, 5, 0] rfl⟩
          · exact ⟨0, la, rfl, (by omega), hP, hD, hS, lv_sub hl [2, 3, 4, 5, 6, 0] rfl⟩
        · refine lv_iload hx hb dX11_film_54 (lv_at hl 0 rfl) ?_
          obtain ⟨rfl, rfl⟩ := hrel.2.1 sq rfl (by omega) hc14 hc33 hc51
          exact nv_xi hx hb hr hlocks hS dX11_film_56 (tf, la) hP trivial rfl
      · refine lv_iconst (v := (-1)) hx hb dX11_film_36 (by decide +kernel) ?_
        obtain ⟨rfl, rfl⟩ := hrel.1 (by first | exact fun q => hc14 q.1 | exact fun q => hc21 q.2.1 | exact fun q => hc33 q.2.2)
        exact nv_xi hx hb hr hlocks hS dX11_film_37 (tf, la) hP trivial rfl

set_option maxHeartbeats 4000000 in
set_option maxRecDepth 100000 in
theorem c_X11_taken (l : Launch) (D : va_G) (z : Nat → ClassId) (sz : Nat) (w0Q : Nat) (o : Nat) (qj : Nat) (qt : Nat) (qf : Nat) (qp : Nat) (qk : Nat) (qq : Nat) (qa : Nat) (qs : Nat) (ql : Nat) (qm : Nat) (qi : Nat) (qe : Nat) (un : Nat) (ku : Nat) (ik : Nat) (tnQ : Nat) (th : Nat) (la : Nat) (wo : Nat) (cu : Nat) (fa : Nat) (fat : Nat) (rQ : Nat → Nat) (tf : Nat → Nat) (shQ : Nat → Nat) (ln : Nat → Nat) (mnQ : Nat → Nat) (it : Nat → Int64) (sv : Int32) (av : Int32) (ivQ : Int32) (nv : Int32) (wv : Int32) (vQ : Int32) (hok : rOK w0Q rQ) (hw : w0Q ≤ 10000) (hso : sOK shQ ln mnQ) (hrel : tkRel rQ shQ ln mnQ it sv av ivQ nv wv vQ) : CX (σ := (Nat → Nat) × Nat) l yX11_taken cX11_taken 12 (some .int) 5 118 0 0 [.ref o, .int sv, .int av, .int ivQ, .int nv, .int wv] D z [(o, .inr (11, [.ref qj, .ref qt, .ref qf, .ref qp, .int (nI un), .ref qk, .ref qq, .int (nI ku), .int (nI ik), .ref qa, .int (nI tnQ), .int (nI th), .int (nI la), .int (nI wo), .int (nI cu), .int (nI fa), .int (nI fat), .ref qs, .ref ql, .ref qm, .ref qi, .ref qe])), aN z qj 31 rQ, aN z qt 31 tf, aZ z qs 4 shQ, aN z ql 4 ln, aN z qm 4 mnQ, aL z qi 96 it] sz (fun _ => True) (fun u => [(o, .inr (11, [.ref qj, .ref qt, .ref qf, .ref qp, .int (nI un), .ref qk, .ref qq, .int (nI ku), .int (nI ik), .ref qa, .int (nI tnQ), .int (nI 0), .int (nI u.2), .int (nI wo), .int (nI cu), .int (nI fa), .int (nI fat), .ref qs, .ref ql, .ref qm, .ref qi, .ref qe])), aN z qj 31 rQ, aN z qt 31 u.1, aZ z qs 4 shQ, aN z ql 4 ln, aN z qm 4 mnQ, aL z qi 96 it]) (some (.int vQ)) (fun _ _ => True) := by
  refine Met.ofW (cc := cX11_taken) (maxL := 12) (ret := (some .int)) (by decide) rfl ?_
  intro pg e s m args below meth c s₁ B hml hv
  obtain ⟨rfl, hsz, hP, hK, hD0, hE⟩ := hv
  have hx := B.exec
  have hb := B.bytes
  have hr := B.returns
  have hts : ∀ w ∈ ALL, w.before _ s = true := fun w h => atoms_spec (ws := wA yX11_taken cX11_taken 12 (some .int)) B.pre w (List.mem_cons_of_mem _ h)
  have hown : s.vm.findClass RX11 = some m.cls := findClass_of_methodNamed B.named
  have hlocks := B.notSynchronized
  subst hsz
  have hD := hD0.self (sz := s.heap.size)
  obtain ⟨o0, o1, o1b, o2, o2b, o3, o4, o5, o6, oP⟩ := id hok
  have hA : ∀ q : Nat, s.heap.size ≤ q → va_A [(o, .inr (11, [.ref qj, .ref qt, .ref qf, .ref qp, .int (nI un), .ref qk, .ref qq, .int (nI ku), .int (nI ik), .ref qa, .int (nI tnQ), .int (nI th), .int (nI la), .int (nI wo), .int (nI cu), .int (nI fa), .int (nI fat), .ref qs, .ref ql, .ref qm, .ref qi, .ref qe])), aN z qj 31 rQ, aN z qt 31 tf, aZ z qs 4 shQ, aN z ql 4 ln, aN z qm 4 mnQ, aL z qi 96 it] s.heap.size q := fun q h => Or.inr h
  generalize va_A [(o, .inr (11, [.ref qj, .ref qt, .ref qf, .ref qp, .int (nI un), .ref qk, .ref qq, .int (nI ku), .int (nI ik), .ref qa, .int (nI tnQ), .int (nI th), .int (nI la), .int (nI wo), .int (nI cu), .int (nI fa), .int (nI fat), .ref qs, .ref ql, .ref qm, .ref qi, .ref qe])), aN z qj 31 rQ, aN z qt 31 tf, aZ z qs 4 shQ, aN z ql 4 ln, aN z qm 4 mnQ, aL z qi 96 it] s.heap.size = A at *
  have hS : va_S A s.heap s.heap [] := va_S.rf
  have hl := lv_entry ([.ref o, .int sv, .int av, .int ivQ, .int nv, .int wv]) (n := 12) (Nat.le_of_ble_eq_true rfl)
  rw [lg_entry_eq]
  generalize (lg_sl ([.ref o, .int sv, .int av, .int ivQ, .int nv, .int wv]) ++ List.replicate (12 - (lg_sl ([.ref o, .int sv, .int av, .int ivQ, .int nv, .int wv])).length) Slot.unset).toArray = ls at hl ⊢
  have hl : lv_has ls 12 [(0, .ref o), (1, .int sv), (2, .int av), (3, .int ivQ), (4, .int nv), (5, .int wv)] := hl
  refine lv_aload_n hx hb dX11_taken_0 rfl (lv_at hl 0 rfl) ?_
  refine lv_iconst (v := nI 0) hx hb dX11_taken_1 (by decide +kernel) ?_
  refine va_put (D := D) (ci := 11) (v := .int (nI 0)) (ty := tyX11 11) (C := RX11) (T := TX11) (N := 22) hx hb hts iX11 tyX11 tyX11_ok nmX11 hown hK.1 hP hD hS 0 rfl rfl 11 (by decide) (hts _ m_576) (fun _ h9 => h9) rfl (tyX11_ok 11 (by decide)) rfl rfl (Nat.le_of_ble_eq_true rfl) dX11_taken_2 (fun H locs hP hD hS => ?_)
  have hP : va_P D vwCl [(o, .inr (11, [.ref qj, .ref qt, .ref qf, .ref qp, .int (nI un), .ref qk, .ref qq, .int (nI ku), .int (nI ik), .ref qa, .int (nI tnQ), .int (nI 0), .int (nI la), .int (nI wo), .int (nI cu), .int (nI fa), .int (nI fat), .ref qs, .ref ql, .ref qm, .ref qi, .ref qe])), aN z qj 31 rQ, aN z qt 31 tf, aZ z qs 4 shQ, aN z ql 4 ln, aN z qm 4 mnQ, aL z qi 96 it] H := hP
  have hD : va_D A [(o, .inr (11, [.ref qj, .ref qt, .ref qf, .ref qp, .int (nI un), .ref qk, .ref qq, .int (nI ku), .int (nI ik), .ref qa, .int (nI tnQ), .int (nI 0), .int (nI la), .int (nI wo), .int (nI cu), .int (nI fa), .int (nI fat), .ref qs, .ref ql, .ref qm, .ref qi, .ref qe])), aN z qj 31 rQ, aN z qt 31 tf, aZ z qs 4 shQ, aN z ql 4 ln, aN z qm 4 mnQ, aL z qi 96 it] := hD
  refine lv_iload_n hx hb dX11_taken_5 rfl (lv_at hl 1 rfl) ?_
  have hPc := hP.sub (ws' := []) [] rfl
  refine nv_cp1 (va_runS (As := [.int sv]) (rest := []) ⟨hx, hb, hml, hown, hts⟩ (c_X11_isNumber l D z sv ) (va_cwS 1 hts (gS m_670 m_671 m_541 m_665) rfl rfl rfl hd_X11_isNumber ⟨Nat.le_of_ble_eq_true rfl, Nat.le_of_ble_eq_true rfl⟩) (nv_preP hK hPc trivial _) rfl rfl hl.1 rfl (lv_room (Nat.le_of_ble_eq_true rfl)) dX11_taken_6 ⟨by decide, by decide⟩) ?_
  refine nv_beq (tgt := 48) hx hb dX11_taken_9 (by decide) (fun hc9 => ?_) (fun hc9 => ?_)
  · refine lv_iconst (v := (-1)) hx hb dX11_taken_48 (by decide +kernel) ?_
    obtain rfl := hrel.1 (by first | exact fun q => hc9 q.1 | exact fun q => hc21 q.2.1 | exact fun q => hc34 q.2.2.1 | exact fun q => hc45 q.2.2.2)
    exact nv_xi hx hb hr hlocks hS dX11_taken_49 (tf, la) hP trivial rfl
  · refine lv_iload_n hx hb dX11_taken_12 rfl (lv_at hl 2 rfl) ?_
    refine lv_i2l hx hb dX11_taken_13 rfl ?_
    refine lv_lconst (v := 0) hx hb dX11_taken_14 (by decide +kernel) ?_
    refine lv_ldc2 (own := RX11) hx hb hown (hts _ m_666) dX11_taken_15 ?_
    have hPc := hP.sub (ws' := []) [] rfl
    refine nv_cp1 (va_runS (As := [.long av.toInt64, .long 0, .long (3)]) (rest := []) ⟨hx, hb, hml, hown, hts⟩ (c_X11_in l D z av.toInt64 0 (3) ) (va_cwS 3 hts (gS m_539 m_540 m_541 m_536) rfl rfl rfl hd_X11_in ⟨Nat.le_of_ble_eq_true rfl, Nat.le_of_ble_eq_true rfl⟩) (nv_preP hK hPc trivial _) rfl rfl hl.1 rfl (lv_room (Nat.le_of_ble_eq_true rfl)) dX11_taken_18 ⟨by decide, by decide⟩) ?_
    refine nv_inwl (a := 0) (b := 3) (by decide) (by decide) ?_
    refine nv_beq (tgt := 48) hx hb dX11_taken_21 (by decide) (fun hc21 => ?_) (fun hc21 => ?_)
    · refine lv_iconst (v := (-1)) hx hb dX11_taken_48 (by decide +kernel) ?_
      obtain rfl := hrel.1 (by first | exact fun q => hc9 q.1 | exact fun q => hc21 q.2.1 | exact fun q => hc34 q.2.2.1 | exact fun q => hc45 q.2.2.2)
      exact nv_xi hx hb hr hlocks hS dX11_taken_49 (tf, la) hP trivial rfl
    · refine lv_iload hx hb dX11_taken_24 (lv_at hl 4 rfl) ?_
      refine lv_i2l hx hb dX11_taken_26 rfl ?_
      refine lv_lconst (v := 1) hx hb dX11_taken_27 (by decide +kernel) ?_
      refine lv_ldc2 (own := RX11) hx hb hown (hts _ m_669) dX11_taken_28 ?_
      have hPc := hP.sub (ws' := []) [] rfl
      refine nv_cp1 (va_runS (As := [.long nv.toInt64, .long 1, .long (8)]) (rest := []) ⟨hx, hb, hml, hown, hts⟩ (c_X11_in l D z nv.toInt64 1 (8) ) (va_cwS 3 hts (gS m_539 m_540 m_541 m_536) rfl rfl rfl hd_X11_in ⟨Nat.le_of_ble_eq_true rfl, Nat.le_of_ble_eq_true rfl⟩) (nv_preP hK hPc trivial _) rfl rfl hl.1 rfl (lv_room (Nat.le_of_ble_eq_true rfl)) dX11_taken_31 ⟨by decide, by decide⟩) ?_
      refine nv_inwl (a := 1) (b := 8) (by decide) (by decide) ?_
      refine nv_beq (tgt := 48) hx hb dX11_taken_34 (by decide) (fun hc34 => ?_) (fun hc34 => ?_)
      · refine lv_iconst (v := (-1)) hx hb dX11_taken_48 (by decide +kernel) ?_
        obtain rfl := hrel.1 (by first | exact fun q => hc9 q.1 | exact fun q => hc21 q.2.1 | exact fun q => hc34 q.2.2.1 | exact fun q => hc45 q.2.2.2)
        exact nv_xi hx hb hr hlocks hS dX11_taken_49 (tf, la) hP trivial rfl
      · refine lv_iload hx hb dX11_taken_37 (lv_at hl 5 rfl) ?_
        refine lv_i2l hx hb dX11_taken_39 rfl ?_
        refine lv_lconst (v := 0) hx hb dX11_taken_40 (by decide +kernel) ?_
        refine lv_lconst (v := 1) hx hb dX11_taken_41 (by decide +kernel) ?_
        have hPc := hP.sub (ws' := []) [] rfl
        refine nv_cp1 (va_runS (As := [.long wv.toInt64, .long 0, .long 1]) (rest := []) ⟨hx, hb, hml, hown, hts⟩ (c_X11_in l D z wv.toInt64 0 1 ) (va_cwS 3 hts (gS m_539 m_540 m_541 m_536) rfl rfl rfl hd_X11_in ⟨Nat.le_of_ble_eq_true rfl, Nat.le_of_ble_eq_true rfl⟩) (nv_preP hK hPc trivial _) rfl rfl hl.1 rfl (lv_room (Nat.le_of_ble_eq_true rfl)) dX11_taken_42 ⟨by decide, by decide⟩) ?_
        refine nv_inwl (a := 0) (b := 1) (by decide) (by decide) ?_
        refine nv_bne (tgt := 50) hx hb dX11_taken_45 (by decide) (fun hc45 => ?_) (fun hc45 => ?_)
        · obtain ⟨sq, rfl, sq0, sq1⟩ := wi_nat (b := 3) (by decide) hc9
          have hs1 := hso sq (by omega)
          obtain ⟨kq, rfl, kq0, kq1⟩ := wi_nat (b := 8) (by decide) hc34
          obtain ⟨k2Q, rfl, l0, l1⟩ := wi_nat (b := 1) (by decide) hc45
          refine lv_aload_n hx hb dX11_taken_50 rfl (lv_at hl 0 rfl) ?_
          refine lv_iload_n hx hb dX11_taken_51 rfl (lv_at hl 1 rfl) ?_
          refine lv_iload_n hx hb dX11_taken_52 rfl (lv_at hl 2 rfl) ?_
          refine lv_iload_n hx hb dX11_taken_53 rfl (lv_at hl 3 rfl) ?_
          refine lv_iload hx hb dX11_taken_54 (lv_at hl 4 rfl) ?_
          have hPc := hP.sub (ws' := [(o, .inr (11, [.ref qj, .ref qt, .ref qf, .ref qp, .int (nI un), .ref qk, .ref qq, .int (nI ku), .int (nI ik), .ref qa, .int (nI tnQ), .int (nI 0), .int (nI la), .int (nI wo), .int (nI cu), .int (nI fa), .int (nI fat), .ref qs, .ref ql, .ref qm, .ref qi, .ref qe])), aZ z qs 4 shQ, aN z ql 4 ln, aN z qm 4 mnQ]) [0, 3, 4, 5] rfl
          refine nv_cp1 (va_runV (As := [.int (nI sq), .int av, .int ivQ, .int (nI kq)]) (rest := []) ⟨hx, hb, hml, hown, hts⟩ (c_X11_found l D z o qj qt qf qp qk qq qa qs ql qm qi qe un ku ik tnQ 0 la wo cu fa fat shQ ln mnQ sq av ivQ (nI kq) (by first | assumption | omega) (by first | assumption | omega)) (cwV 4 hts (gV m_672 m_673 m_674 m_541 m_668) rfl rfl rfl ⟨rfl, hd_X11_found⟩ ⟨Nat.le_of_ble_eq_true rfl, Nat.le_of_ble_eq_true rfl⟩) (nv_prePV (ci := 11) (q0 := 0) hK hPc trivial rfl rfl) rfl rfl hl.1 rfl (lv_room (Nat.le_of_ble_eq_true rfl)) dX11_taken_56 ⟨by decide, by decide⟩) ?_
          refine lv_istore (lv' := [(6, .int (foV (shQ sq) (ln sq) (mnQ sq) av ivQ (nI kq))), (0, .ref o), (1, .int (nI sq)), (2, .int av), (3, .int ivQ), (4, .int (nI kq)), (5, .int (nI k2Q))]) hx hb dX11_taken_59 hl (by decide) rfl (fun ls hl => ?_)
          refine lv_iload hx hb dX11_taken_61 (lv_at hl 0 rfl) ?_
          refine lv_if_eq (tgt := 69) hx hb dX11_taken_63 (by decide) (fun hc63 => ?_) (fun hc63 => ?_)
          · obtain ⟨f1, f2, f3⟩ := foV_0 hc63
            obtain ⟨iq, rfl, hiq⟩ := inb_nat (by omega) (by omega) f3
            have hre := hrel.2.2 sq iq kq rfl rfl rfl (by omega) hc21 (by omega) (by omega) (by omega) hc63
            refine lv_iconst (v := nI 0) hx hb dX11_taken_69 (by decide +kernel) ?_
            refine lv_istore (lv' := [(7, .int (nI 0)), (6, .int (foV (shQ sq) (ln sq) (mnQ sq) av (nI iq) (nI kq))), (0, .ref o), (1, .int (nI sq)), (2, .int av), (3, .int (nI iq)), (4, .int (nI kq)), (5, .int (nI k2Q))]) hx hb dX11_taken_70 hl (by decide) rfl (fun ls hl => ?_)
            refine lv_bipush (v := (-4)) hx hb dX11_taken_72 (by decide +kernel) ?_
            refine lv_istore (lv' := [(8, .int (-4)), (7, .int (nI 0)), (6, .int (foV (shQ sq) (ln sq) (mnQ sq) av (nI iq) (nI kq))), (0, .ref o), (1, .int (nI sq)), (2, .int av), (3, .int (nI iq)), (4, .int (nI kq)), (5, .int (nI k2Q))]) hx hb dX11_taken_74 hl (by decide) rfl (fun ls hl => ?_)
            refine lv_aload_n hx hb dX11_taken_76 rfl (lv_at hl 3 rfl) ?_
            refine va_get (D := D) (ci := 11) (v := .ref qj) (C := RX11) (T := TX11) (N := 22) hx hb hts iX11 hown hK.1 hP 0 rfl rfl 0 (by decide) (hts _ m_523) (fun _ h9 => h9) rfl dX11_taken_77 ?_
            refine lv_iconst (v := nI 0) hx hb dX11_taken_80 (by decide +kernel) ?_
            refine nv_ald hx hb hK hP 1 rfl (by omega) (by decide) dX11_taken_81 ?_
            refine lv_istore (lv' := [(9, .int (nI (rQ 0))), (8, .int (-4)), (7, .int (nI 0)), (6, .int (foV (shQ sq) (ln sq) (mnQ sq) av (nI iq) (nI kq))), (0, .ref o), (1, .int (nI sq)), (2, .int av), (3, .int (nI iq)), (4, .int (nI kq)), (5, .int (nI k2Q))]) hx hb dX11_taken_82 hl (by decide) rfl (fun ls hl => ?_)
            refine nv_loop (σ := Nat × (Nat → Nat) × Nat) (fun x H locs ls => ∃ (jq : Nat) (tf2 : Nat → Nat) (lx : Nat), (jq, tf2, lx) = x ∧ ((jq ≤ rQ 0 + 1)) ∧ va_P D vwCl [(o, .inr (11, [.ref qj, .ref qt, .ref qf, .ref qp, .int (nI un), .ref qk, .ref qq, .int (nI ku), .int (nI ik), .ref qa, .int (nI tnQ), .int (nI 0), .int (nI lx), .int (nI wo), .int (nI cu), .int (nI fa), .int (nI fat), .ref qs, .ref ql, .ref qm, .ref qi, .ref qe])), aN z qj 31 rQ, aN z qt 31 tf2, aZ z qs 4 shQ, aN z ql 4 ln, aN z qm 4 mnQ, aL z qi 96 it] H ∧ va_D A [(o, .inr (11, [.ref qj, .ref qt, .ref qf, .ref qp, .int (nI un), .ref qk, .ref qq, .int (nI ku), .int (nI ik), .ref qa, .int (nI tnQ), .int (nI 0), .int (nI lx), .int (nI wo), .int (nI cu), .int (nI fa), .int (nI fat), .ref qs, .ref ql, .ref qm, .ref qi, .ref qe])), aN z qj 31 rQ, aN z qt 31 tf2, aZ z qs 4 shQ, aN z ql 4 ln, aN z qm 4 mnQ, aL z qi 96 it] ∧ va_S A s.heap H locs ∧ lv_has ls 12 [(0, .ref o), (1, .int (nI sq)), (3, .int (nI iq)), (4, .int (nI kq)), (5, .int (nI k2Q)), (7, .int (nI (tkC rQ it (24 * sq + iq) kq jq))), (8, .int (tkL rQ it (24 * sq + iq) kq jq)), (9, .int (tkB (rQ 0) jq))]) (fun x => rQ 0 + 1 - x.1) 84 [] ?_ (0, tf, la) ?_
            · rintro _ H locs ls ⟨jq, tf2, lx, rfl, hj, hP, hD, hS, hl⟩ ih84
              refine lv_iload hx hb dX11_taken_84 (lv_at hl 7 rfl) ?_
              refine lv_if_lt (tgt := 214) hx hb dX11_taken_86 (by decide) (fun hc86 => ?_) (fun hc86 => ?_)
              · have hjz : rQ 0 < jq := (tk_neg (by omega)).mp hc86
                obtain rfl : jq = rQ 0 + 1 := by omega
                refine lv_iload hx hb dX11_taken_214 (lv_at hl 4 rfl) ?_
                refine nv_ifne (tgt := 224) hx hb (by omega) dX11_taken_216 (by decide) (fun hc216 => ?_) (fun hc216 => ?_)
                · obtain rfl : k2Q = 1 := by omega
                  obtain rfl := hre.2 rfl
                  refine lv_iload hx hb dX11_taken_224 (lv_at hl 6 rfl) ?_
                  exact nv_xi hx hb hr hlocks hS dX11_taken_226 (tf2, lx) hP trivial rfl
                · obtain rfl : k2Q = 0 := hc216
                  obtain rfl := hre.1 rfl
                  refine lv_iload hx hb dX11_taken_219 (lv_at hl 5 rfl) ?_
                  refine lv_goto (tgt := 226) hx hb dX11_taken_221 (by decide) ?_
                  exact nv_xi hx hb hr hlocks hS dX11_taken_226 (tf2, lx) hP trivial rfl
              · have hjc : jq ≤ rQ 0 := Nat.not_lt.mp (fun q9 => hc86 ((tk_neg (by omega)).mpr q9))
                rw [show tkB (rQ 0) jq = nI (rQ 0 - jq) from if_pos hjc] at hl
                refine lv_aload_n hx hb dX11_taken_89 rfl (lv_at hl 0 rfl) ?_
                refine va_get (D := D) (ci := 11) (v := .ref qj) (C := RX11) (T := TX11) (N := 22) hx hb hts iX11 hown hK.1 hP 0 rfl rfl 0 (by decide) (hts _ m_523) (fun _ h9 => h9) rfl dX11_taken_90 ?_
                refine lv_aload_n hx hb dX11_taken_93 rfl (lv_at hl 0 rfl) ?_
                refine va_get (D := D) (ci := 11) (v := .ref qt) (C := RX11) (T := TX11) (N := 22) hx hb hts iX11 hown hK.1 hP 0 rfl rfl 1 (by decide) (hts _ m_524) (fun _ h9 => h9) rfl dX11_taken_94 ?_
                have hPc := hP.sub (ws' := [aN z qj 31 rQ, aN z qt 31 tf2]) [1, 2] rfl
                have hDc := hD.sub (ws' := [aN z qj 31 rQ, aN z qt 31 tf2]) [1, 2] (by decide) rfl
                refine nv_cm0 (wc := [aN z qj 31 rQ, aN z qt 31 tf2]) (wr := [(o, .inr (11, [.ref qj, .ref qt, .ref qf, .ref qp, .int (nI un), .ref qk, .ref qq, .int (nI ku), .int (nI ik), .ref qa, .int (nI tnQ), .int (nI 0), .int (nI lx), .int (nI wo), .int (nI cu), .int (nI fa), .int (nI fat), .ref qs, .ref ql, .ref qm, .ref qi, .ref qe])), aZ z qs 4 shQ, aN z ql 4 ln, aN z qm 4 mnQ, aL z qi 96 it]) (w1 := [aN z qj 31 rQ, aN z qt 31 rQ]) (ws1 := [(o, .inr (11, [.ref qj, .ref qt, .ref qf, .ref qp, .int (nI un), .ref qk, .ref qq, .int (nI ku), .int (nI ik), .ref qa, .int (nI tnQ), .int (nI 0), .int (nI lx), .int (nI wo), .int (nI cu), .int (nI fa), .int (nI fat), .ref qs, .ref ql, .ref qm, .ref qi, .ref qe])), aN z qj 31 rQ, aN z qt 31 rQ, aZ z qs 4 shQ, aN z ql 4 ln, aN z qm 4 mnQ, aL z qi 96 it]) (va_runS (As := [.ref qj, .ref qt]) (rest := []) ⟨hx, hb, hml, hown, hts⟩ (c_X11_lay l D z H.size qj qt rQ tf2 ) (va_cwS 2 hts (gS m_631 m_632 m_541 m_537) rfl rfl rfl hd_X11_lay ⟨Nat.le_of_ble_eq_true rfl, Nat.le_of_ble_eq_true rfl⟩) (nv_preM hK hPc hDc trivial _) rfl rfl hl.1 rfl (lv_room (Nat.le_of_ble_eq_true rfl)) dX11_taken_97 ⟨by decide, by decide⟩) hP hD hS hA [1, 2] [0, 3, 4, 5, 6] [0, 5, 6, 1, 2, 3, 4] rfl rfl (by decide) (by decide) rfl (by decide) rfl (by decide) (fun H locs hP hD hS hE97 hz97 hf97 => ?_)
                clear hPc hDc
                clear hf97 hz97
                refine lv_aload_n hx hb dX11_taken_100 rfl (lv_at hl 0 rfl) ?_
                refine va_get (D := D) (ci := 11) (v := .ref qt) (C := RX11) (T := TX11) (N := 22) hx hb hts iX11 hown hK.1 hP 0 rfl rfl 1 (by decide) (hts _ m_524) (fun _ h9 => h9) rfl dX11_taken_101 ?_
                refine lv_iconst (v := nI 0) hx hb dX11_taken_104 (by decide +kernel) ?_
                refine lv_dup2_11 hx hb dX11_taken_105 rfl rfl ?_
                refine nv_ald hx hb hK hP 2 rfl (by omega) (by decide) dX11_taken_106 ?_
                refine lv_iload hx hb dX11_taken_107 (lv_at hl 7 rfl) ?_
                refine nv_sub hx hb (by omega) dX11_taken_109 ?_
                refine nv_ast hx hb hK hP hD hS 2 rfl (by omega) (by decide) dX11_taken_110 (fun H locs hP hD hS => ?_)
                have hP : va_P D vwCl [(o, .inr (11, [.ref qj, .ref qt, .ref qf, .ref qp, .int (nI un), .ref qk, .ref qq, .int (nI ku), .int (nI ik), .ref qa, .int (nI tnQ), .int (nI 0), .int (nI lx), .int (nI wo), .int (nI cu), .int (nI fa), .int (nI fat), .ref qs, .ref ql, .ref qm, .ref qi, .ref qe])), aN z qj 31 rQ, aN z qt 31 (uN rQ 0 ((rQ 0) - (rQ 0 - jq))), aZ z qs 4 shQ, aN z ql 4 ln, aN z qm 4 mnQ, aL z qi 96 it] H := hP
                have hD : va_D A [(o, .inr (11, [.ref qj, .ref qt, .ref qf, .ref qp, .int (nI un), .ref qk, .ref qq, .int (nI ku), .int (nI ik), .ref qa, .int (nI tnQ), .int (nI 0), .int (nI lx), .int (nI wo), .int (nI cu), .int (nI fa), .int (nI fat), .ref qs, .ref ql, .ref qm, .ref qi, .ref qe])), aN z qj 31 rQ, aN z qt 31 (uN rQ 0 ((rQ 0) - (rQ 0 - jq))), aZ z qs 4 shQ, aN z ql 4 ln, aN z qm 4 mnQ, aL z qi 96 it] := hD
                refine lv_iconst (v := nI 1) hx hb dX11_taken_111 (by decide +kernel) ?_
                refine lv_istore (lv' := [(10, .int (nI 1)), (0, .ref o), (1, .int (nI sq)), (3, .int (nI iq)), (4, .int (nI kq)), (5, .int (nI k2Q)), (7, .int (nI (tkC rQ it (24 * sq + iq) kq jq))), (8, .int (tkL rQ it (24 * sq + iq) kq jq)), (9, .int (nI (rQ 0 - jq)))]) hx hb dX11_taken_112 hl (by decide) rfl (fun ls hl => ?_)
                refine lv_iconst (v := nI 0) hx hb dX11_taken_114 (by decide +kernel) ?_
                refine lv_istore (lv' := [(11, .int (nI 0)), (10, .int (nI 1)), (0, .ref o), (1, .int (nI sq)), (3, .int (nI iq)), (4, .int (nI kq)), (5, .int (nI k2Q)), (7, .int (nI (tkC rQ it (24 * sq + iq) kq jq))), (8, .int (tkL rQ it (24 * sq + iq) kq jq)), (9, .int (nI (rQ 0 - jq)))]) hx hb dX11_taken_115 hl (by decide) rfl (fun ls hl => ?_)
                refine nv_loop (σ := Nat × Nat × Nat) (fun x H locs ls => ∃ (mq : Nat) (fq : Nat) (ly : Nat), (mq, fq, ly) = x ∧ ((mq ≤ kq) ∧ (fq ≤ 1) ∧ (fq = 1 → fitP rQ it (24 * sq + iq) (rQ 0 - jq) mq) ∧ (fq = 0 → ¬ fitP rQ it (24 * sq + iq) (rQ 0 - jq) kq)) ∧ va_P D vwCl [(o, .inr (11, [.ref qj, .ref qt, .ref qf, .ref qp, .int (nI un), .ref qk, .ref qq, .int (nI ku), .int (nI ik), .ref qa, .int (nI tnQ), .int (nI 0), .int (nI ly), .int (nI wo), .int (nI cu), .int (nI fa), .int (nI fat), .ref qs, .ref ql, .ref qm, .ref qi, .ref qe])), aN z qj 31 rQ, aN z qt 31 (wkN (uN rQ 0 (rQ 0 - (rQ 0 - jq))) mq), aZ z qs 4 shQ, aN z ql 4 ln, aN z qm 4 mnQ, aL z qi 96 it] H ∧ va_D A [(o, .inr (11, [.ref qj, .ref qt, .ref qf, .ref qp, .int (nI un), .ref qk, .ref qq, .int (nI ku), .int (nI ik), .ref qa, .int (nI tnQ), .int (nI 0), .int (nI ly), .int (nI wo), .int (nI cu), .int (nI fa), .int (nI fat), .ref qs, .ref ql, .ref qm, .ref qi, .ref qe])), aN z qj 31 rQ, aN z qt 31 (wkN (uN rQ 0 (rQ 0 - (rQ 0 - jq))) mq), aZ z qs 4 shQ, aN z ql 4 ln, aN z qm 4 mnQ, aL z qi 96 it] ∧ va_S A s.heap H locs ∧ lv_has ls 12 [(0, .ref o), (1, .int (nI sq)), (3, .int (nI iq)), (4, .int (nI kq)), (5, .int (nI k2Q)), (7, .int (nI (tkC rQ it (24 * sq + iq) kq jq))), (8, .int (tkL rQ it (24 * sq + iq) kq jq)), (9, .int (nI (rQ 0 - jq))), (10, .int (nI fq)), (11, .int (nI mq))]) (fun x => kq - x.1) 117 [] ?_ (0, 1, lx) ?_
                · rintro _ H locs ls ⟨mq, fq, ly, rfl, ⟨hm, hfq1, hf1, hf0⟩, hP, hD, hS, hl⟩ ih117
                  refine lv_iload hx hb dX11_taken_117 (lv_at hl 9 rfl) ?_
                  refine lv_iload hx hb dX11_taken_119 (lv_at hl 3 rfl) ?_
                  refine nv_ge (tgt := 179) hx hb (by omega) (by omega) dX11_taken_121 (by decide) (fun hc121 => ?_) (fun hc121 => ?_)
                  · have hfd : fitD rQ it (24 * sq + iq) (rQ 0 - jq) kq = fq := by
                      rcases (show fq = 0 ∨ fq = 1 by omega) with q9 | q9
                      · rw [fitD_0 (hf0 q9), q9]
                      · have h7 := hf1 q9
                        rw [show mq = kq by omega] at h7
                        rw [fitD_1 h7, q9]
                    refine lv_iload hx hb dX11_taken_179 (lv_at hl 5 rfl) ?_
                    refine lv_iload hx hb dX11_taken_181 (lv_at hl 8 rfl) ?_
                    refine nv_join (g2 := F0 m 191 ls [.int (nI (fitD rQ it (24 * sq + iq) (rQ 0 - jq) kq)), .int (nI (tkC rQ it (24 * sq + iq) kq jq))]) (fun J1 => ?_) ?_
                    · refine nv_ifeq (tgt := 190) hx hb (by omega) dX11_taken_183 (by decide) (fun hc183 => ?_) (fun hc183 => ?_)
                      · refine lv_iconst (v := nI 0) hx hb dX11_taken_190 (by decide +kernel) ?_
                        have q9 : 0 = fitD rQ it (24 * sq + iq) (rQ 0 - jq) kq := by omega
                        exact W.eq (congrArg (fun x9 => F0 m 191 ls (.int (nI x9) :: [.int (nI (tkC rQ it (24 * sq + iq) kq jq))])) q9) J1
                      · refine lv_iconst (v := nI 1) hx hb dX11_taken_186 (by decide +kernel) ?_
                        refine lv_goto (tgt := 191) hx hb dX11_taken_187 (by decide) ?_
                        have q9 : 1 = fitD rQ it (24 * sq + iq) (rQ 0 - jq) kq := by omega
                        exact W.eq (congrArg (fun x9 => F0 m 191 ls (.int (nI x9) :: [.int (nI (tkC rQ it (24 * sq + iq) kq jq))])) q9) J1
                    · refine nv_add hx hb dX11_taken_191 ?_
                      refine lv_istore (lv' := [(7, .int (nI (tkC rQ it (24 * sq + iq) kq jq + (fitD rQ it (24 * sq + iq) (rQ 0 - jq) kq)))), (0, .ref o), (1, .int (nI sq)), (3, .int (nI iq)), (4, .int (nI kq)), (5, .int (nI k2Q)), (8, .int (tkL rQ it (24 * sq + iq) kq jq)), (9, .int (nI (rQ 0 - jq))), (10, .int (nI fq)), (11, .int (nI mq))]) hx hb dX11_taken_192 hl (by decide) rfl (fun ls hl => ?_)
                      refine lv_iload hx hb dX11_taken_194 (lv_at hl 8 rfl) ?_
                      refine nv_join (g2 := F0 m 206 ls [.int (tkL rQ it (24 * sq + iq) kq (jq + 1))]) (fun J2 => ?_) ?_
                      · refine nv_ifeq (tgt := 204) hx hb (by omega) dX11_taken_196 (by decide) (fun hc196 => ?_) (fun hc196 => ?_)
                        · refine lv_iload hx hb dX11_taken_204 (lv_at hl 6 rfl) ?_
                          have q9 : tkL rQ it (24 * sq + iq) kq jq = tkL rQ it (24 * sq + iq) kq (jq + 1) := by show _ = if fitD rQ it (24 * sq + iq) (rQ 0 - jq) kq = 1 then _ else _; first | rw [if_pos (show fitD rQ it (24 * sq + iq) (rQ 0 - jq) kq = 1 by omega)] | rw [if_neg (show ¬ fitD rQ it (24 * sq + iq) (rQ 0 - jq) kq = 1 by omega)]
                          exact W.eq (congrArg (fun x9 => F0 m 206 ls (.int x9 :: [])) q9) J2
                        · refine lv_iload hx hb dX11_taken_199 (lv_at hl 7 rfl) ?_
                          refine lv_goto (tgt := 206) hx hb dX11_taken_201 (by decide) ?_
                          have q9 : nI (rQ 0 - jq) = tkL rQ it (24 * sq + iq) kq (jq + 1) := by show _ = if fitD rQ it (24 * sq + iq) (rQ 0 - jq) kq = 1 then _ else _; first | rw [if_pos (show fitD rQ it (24 * sq + iq) (rQ 0 - jq) kq = 1 by omega)] | rw [if_neg (show ¬ fitD rQ it (24 * sq + iq) (rQ 0 - jq) kq = 1 by omega)]
                          exact W.eq (congrArg (fun x9 => F0 m 206 ls (.int x9 :: [])) q9) J2
                      · refine lv_istore (lv' := [(8, .int (tkL rQ it (24 * sq + iq) kq (jq + 1))), (7, .int (nI (tkC rQ it (24 * sq + iq) kq jq + (fitD rQ it (24 * sq + iq) (rQ 0 - jq) kq)))), (0, .ref o), (1, .int (nI sq)), (3, .int (nI iq)), (4, .int (nI kq)), (5, .int (nI k2Q)), (9, .int (nI (rQ 0 - jq))), (10, .int (nI fq)), (11, .int (nI mq))]) hx hb dX11_taken_206 hl (by decide) rfl (fun ls hl => ?_)
                        refine lv_iinc (v := (nI (rQ 0 - jq)) + Int32.ofInt (-1)) (lv' := [(9, .int ((nI (rQ 0 - jq)) + Int32.ofInt (-1))), (8, .int (tkL rQ it (24 * sq + iq) kq (jq + 1))), (7, .int (nI (tkC rQ it (24 * sq + iq) kq jq + (fitD rQ it (24 * sq + iq) (rQ 0 - jq) kq)))), (0, .ref o), (1, .int (nI sq)), (3, .int (nI iq)), (4, .int (nI kq)), (5, .int (nI k2Q)), (10, .int (nI fq)), (11, .int (nI mq))]) hx hb dX11_taken_208 hl (k := 7) rfl rfl (by decide) rfl (fun ls hl => ?_)
                        refine lv_goto (tgt := 84) hx hb dX11_taken_211 (by decide) ?_
                        have e9 := tk_dec hjc
                        exact ih84 (jq + 1, wkN (uN rQ 0 (rQ 0 - (rQ 0 - jq))) mq, ly) _ _ _ (by show rQ 0 + 1 - (jq + 1) < rQ 0 + 1 - jq; omega) ⟨jq + 1, wkN (uN rQ 0 (rQ 0 - (rQ 0 - jq))) mq, ly, rfl, (by omega), hP, hD, hS, lv_sub hl [3, 4, 5, 6, 7, 2, 1, 0] (by rw [e9]; rfl)⟩
                  · refine lv_iload hx hb dX11_taken_124 (lv_at hl 8 rfl) ?_
                    refine nv_ifeq (tgt := 179) hx hb (by omega) dX11_taken_126 (by decide) (fun hc126 => ?_) (fun hc126 => ?_)
                    · have hfd : fitD rQ it (24 * sq + iq) (rQ 0 - jq) kq = fq := by
                        rcases (show fq = 0 ∨ fq = 1 by omega) with q9 | q9
                        · rw [fitD_0 (hf0 q9), q9]
                        · have h7 := hf1 q9
                          rw [show mq = kq by omega] at h7
                          rw [fitD_1 h7, q9]
                      refine lv_iload hx hb dX11_taken_179 (lv_at hl 5 rfl) ?_
                      refine lv_iload hx hb dX11_taken_181 (lv_at hl 8 rfl) ?_
                      refine nv_join (g2 := F0 m 191 ls [.int (nI (fitD rQ it (24 * sq + iq) (rQ 0 - jq) kq)), .int (nI (tkC rQ it (24 * sq + iq) kq jq))]) (fun J3 => ?_) ?_
                      · refine nv_ifeq (tgt := 190) hx hb (by omega) dX11_taken_183 (by decide) (fun hc183 => ?_) (fun hc183 => ?_)
                        · refine lv_iconst (v := nI 0) hx hb dX11_taken_190 (by decide +kernel) ?_
                          have q9 : 0 = fitD rQ it (24 * sq + iq) (rQ 0 - jq) kq := by omega
                          exact W.eq (congrArg (fun x9 => F0 m 191 ls (.int (nI x9) :: [.int (nI (tkC rQ it (24 * sq + iq) kq jq))])) q9) J3
                        · refine lv_iconst (v := nI 1) hx hb dX11_taken_186 (by decide +kernel) ?_
                          refine lv_goto (tgt := 191) hx hb dX11_taken_187 (by decide) ?_
                          have q9 : 1 = fitD rQ it (24 * sq + iq) (rQ 0 - jq) kq := by omega
                          exact W.eq (congrArg (fun x9 => F0 m 191 ls (.int (nI x9) :: [.int (nI (tkC rQ it (24 * sq + iq) kq jq))])) q9) J3
                      · refine nv_add hx hb dX11_taken_191 ?_
                        refine lv_istore (lv' := [(7, .int (nI (tkC rQ it (24 * sq + iq) kq jq + (fitD rQ it (24 * sq + iq) (rQ 0 - jq) kq)))), (0, .ref o), (1, .int (nI sq)), (3, .int (nI iq)), (4, .int (nI kq)), (5, .int (nI k2Q)), (8, .int (tkL rQ it (24 * sq + iq) kq jq)), (9, .int (nI (rQ 0 - jq))), (10, .int (nI fq)), (11, .int (nI mq))]) hx hb dX11_taken_192 hl (by decide) rfl (fun ls hl => ?_)
                        refine lv_iload hx hb dX11_taken_194 (lv_at hl 8 rfl) ?_
                        refine nv_join (g2 := F0 m 206 ls [.int (tkL rQ it (24 * sq + iq) kq (jq + 1))]) (fun J4 => ?_) ?_
                        · refine nv_ifeq (tgt := 204) hx hb (by omega) dX11_taken_196 (by decide) (fun hc196 => ?_) (fun hc196 => ?_)
                          · refine lv_iload hx hb dX11_taken_204 (lv_at hl 6 rfl) ?_
                            have q9 : tkL rQ it (24 * sq + iq) kq jq = tkL rQ it (24 * sq + iq) kq (jq + 1) := by show _ = if fitD rQ it (24 * sq + iq) (rQ 0 - jq) kq = 1 then _ else _; first | rw [if_pos (show fitD rQ it (24 * sq + iq) (rQ 0 - jq) kq = 1 by omega)] | rw [if_neg (show ¬ fitD rQ it (24 * sq + iq) (rQ 0 - jq) kq = 1 by omega)]
                            exact W.eq (congrArg (fun x9 => F0 m 206 ls (.int x9 :: [])) q9) J4
                          · refine lv_iload hx hb dX11_taken_199 (lv_at hl 7 rfl) ?_
                            refine lv_goto (tgt := 206) hx hb dX11_taken_201 (by decide) ?_
                            have q9 : nI (rQ 0 - jq) = tkL rQ it (24 * sq + iq) kq (jq + 1) := by show _ = if fitD rQ it (24 * sq + iq) (rQ 0 - jq) kq = 1 then _ else _; first | rw [if_pos (show fitD rQ it (24 * sq + iq) (rQ 0 - jq) kq = 1 by omega)] | rw [if_neg (show ¬ fitD rQ it (24 * sq + iq) (rQ 0 - jq) kq = 1 by omega)]
                            exact W.eq (congrArg (fun x9 => F0 m 206 ls (.int x9 :: [])) q9) J4
                        · refine lv_istore (lv' := [(8, .int (tkL rQ it (24 * sq + iq) kq (jq + 1))), (7, .int (nI (tkC rQ it (24 * sq + iq) kq jq + (fitD rQ it (24 * sq + iq) (rQ 0 - jq) kq)))), (0, .ref o), (1, .int (nI sq)), (3, .int (nI iq)), (4, .int (nI kq)), (5, .int (nI k2Q)), (9, .int (nI (rQ 0 - jq))), (10, .int (nI fq)), (11, .int (nI mq))]) hx hb dX11_taken_206 hl (by decide) rfl (fun ls hl => ?_)
                          refine lv_iinc (v := (nI (rQ 0 - jq)) + Int32.ofInt (-1)) (lv' := [(9, .int ((nI (rQ 0 - jq)) + Int32.ofInt (-1))), (8, .int (tkL rQ it (24 * sq + iq) kq (jq + 1))), (7, .int (nI (tkC rQ it (24 * sq + iq) kq jq + (fitD rQ it (24 * sq + iq) (rQ 0 - jq) kq)))), (0, .ref o), (1, .int (nI sq)), (3, .int (nI iq)), (4, .int (nI kq)), (5, .int (nI k2Q)), (10, .int (nI fq)), (11, .int (nI mq))]) hx hb dX11_taken_208 hl (k := 7) rfl rfl (by decide) rfl (fun ls hl => ?_)
                          refine lv_goto (tgt := 84) hx hb dX11_taken_211 (by decide) ?_
                          have e9 := tk_dec hjc
                          exact ih84 (jq + 1, wkN (uN rQ 0 (rQ 0 - (rQ 0 - jq))) mq, ly) _ _ _ (by show rQ 0 + 1 - (jq + 1) < rQ 0 + 1 - jq; omega) ⟨jq + 1, wkN (uN rQ 0 (rQ 0 - (rQ 0 - jq))) mq, ly, rfl, (by omega), hP, hD, hS, lv_sub hl [3, 4, 5, 6, 7, 2, 1, 0] (by rw [e9]; rfl)⟩
                    · have hfq : fq = 1 := by omega
                      have hokx := pe_ok (p := rQ 0 - (rQ 0 - jq)) hok (by omega)
                      have hokj := wkN_ok mq hokx
                      have q3 := hokj.2.2.2.2.2.1
                      refine lv_aload_n hx hb dX11_taken_129 rfl (lv_at hl 0 rfl) ?_
                      refine lv_aload_n hx hb dX11_taken_130 rfl (lv_at hl 0 rfl) ?_
                      refine va_get (D := D) (ci := 11) (v := .ref qt) (C := RX11) (T := TX11) (N := 22) hx hb hts iX11 hown hK.1 hP 0 rfl rfl 1 (by decide) (hts _ m_524) (fun _ h9 => h9) rfl dX11_taken_131 ?_
                      refine lv_iconst (v := nI 0) hx hb dX11_taken_134 (by decide +kernel) ?_
                      have hPc := hP.sub (ws' := [aN z qt 31 (wkN (uN rQ 0 (rQ 0 - (rQ 0 - jq))) mq)]) [2] rfl
                      have hDc := hD.sub (ws' := [aN z qt 31 (wkN (uN rQ 0 (rQ 0 - (rQ 0 - jq))) mq)]) [2] (by decide) rfl
                      refine nv_cm1 (wc := [aN z qt 31 (wkN (uN rQ 0 (rQ 0 - (rQ 0 - jq))) mq)]) (wr := [(o, .inr (11, [.ref qj, .ref qt, .ref qf, .ref qp, .int (nI un), .ref qk, .ref qq, .int (nI ku), .int (nI ik), .ref qa, .int (nI tnQ), .int (nI 0), .int (nI ly), .int (nI wo), .int (nI cu), .int (nI fa), .int (nI fat), .ref qs, .ref ql, .ref qm, .ref qi, .ref qe])), aN z qj 31 rQ, aZ z qs 4 shQ, aN z ql 4 ln, aN z qm 4 mnQ, aL z qi 96 it]) (w1 := [aN z qt 31 (weekR (wkN (uN rQ 0 (rQ 0 - (rQ 0 - jq))) mq) (wkN (uN rQ 0 (rQ 0 - (rQ 0 - jq))) mq 3))]) (ws1 := [(o, .inr (11, [.ref qj, .ref qt, .ref qf, .ref qp, .int (nI un), .ref qk, .ref qq, .int (nI ku), .int (nI ik), .ref qa, .int (nI tnQ), .int (nI 0), .int (nI ly), .int (nI wo), .int (nI cu), .int (nI fa), .int (nI fat), .ref qs, .ref ql, .ref qm, .ref qi, .ref qe])), aN z qj 31 rQ, aN z qt 31 (weekR (wkN (uN rQ 0 (rQ 0 - (rQ 0 - jq))) mq) (wkN (uN rQ 0 (rQ 0 - (rQ 0 - jq))) mq 3)), aZ z qs 4 shQ, aN z ql 4 ln, aN z qm 4 mnQ, aL z qi 96 it]) (va_runS (As := [.ref qt, .int (nI 0)]) (rest := [.ref o]) ⟨hx, hb, hml, hown, hts⟩ (c_X11_week l D z H.size (w0Q + mq) qt (wkN (uN rQ 0 (rQ 0 - (rQ 0 - jq))) mq) (nI 0) (wkN (uN rQ 0 (rQ 0 - (rQ 0 - jq))) mq 3) hokj (nI_add _ 0) (by omega) (by first | assumption | omega)) (va_cwS 2 hts (gS m_572 m_573 m_541 m_569) rfl rfl rfl hd_X11_week ⟨Nat.le_of_ble_eq_true rfl, Nat.le_of_ble_eq_true rfl⟩) (nv_preM hK hPc hDc trivial _) rfl rfl hl.1 rfl (lv_room (Nat.le_of_ble_eq_true rfl)) dX11_taken_135 ⟨by decide, by decide⟩) hP hD hS hA [2] [0, 1, 3, 4, 5, 6] [0, 1, 6, 2, 3, 4, 5] rfl rfl (by decide) (by decide) rfl (by decide) rfl (by decide) (fun H locs hP hD hS hE135 hz135 hf135 => ?_)
                      clear hPc hDc
                      clear hf135 hz135
                      refine va_put (D := D) (ci := 11) (v := .int (nI (weekW (wkN (uN rQ 0 (rQ 0 - (rQ 0 - jq))) mq) (wkN (uN rQ 0 (rQ 0 - (rQ 0 - jq))) mq 3)))) (ty := tyX11 12) (C := RX11) (T := TX11) (N := 22) hx hb hts iX11 tyX11 tyX11_ok nmX11 hown hK.1 hP hD hS 0 rfl rfl 12 (by decide) (hts _ m_570) (fun _ h9 => h9) rfl (tyX11_ok 12 (by decide)) rfl rfl (Nat.le_of_ble_eq_true rfl) dX11_taken_138 (fun H locs hP hD hS => ?_)
                      have hP : va_P D vwCl [(o, .inr (11, [.ref qj, .ref qt, .ref qf, .ref qp, .int (nI un), .ref qk, .ref qq, .int (nI ku), .int (nI ik), .ref qa, .int (nI tnQ), .int (nI 0), .int (nI (weekW (wkN (uN rQ 0 (rQ 0 - (rQ 0 - jq))) mq) (wkN (uN rQ 0 (rQ 0 - (rQ 0 - jq))) mq 3))), .int (nI wo), .int (nI cu), .int (nI fa), .int (nI fat), .ref qs, .ref ql, .ref qm, .ref qi, .ref qe])), aN z qj 31 rQ, aN z qt 31 (weekR (wkN (uN rQ 0 (rQ 0 - (rQ 0 - jq))) mq) (wkN (uN rQ 0 (rQ 0 - (rQ 0 - jq))) mq 3)), aZ z qs 4 shQ, aN z ql 4 ln, aN z qm 4 mnQ, aL z qi 96 it] H := hP
                      have hD : va_D A [(o, .inr (11, [.ref qj, .ref qt, .ref qf, .ref qp, .int (nI un), .ref qk, .ref qq, .int (nI ku), .int (nI ik), .ref qa, .int (nI tnQ), .int (nI 0), .int (nI (weekW (wkN (uN rQ 0 (rQ 0 - (rQ 0 - jq))) mq) (wkN (uN rQ 0 (rQ 0 - (rQ 0 - jq))) mq 3))), .int (nI wo), .int (nI cu), .int (nI fa), .int (nI fat), .ref qs, .ref ql, .ref qm, .ref qi, .ref qe])), aN z qj 31 rQ, aN z qt 31 (weekR (wkN (uN rQ 0 (rQ 0 - (rQ 0 - jq))) mq) (wkN (uN rQ 0 (rQ 0 - (rQ 0 - jq))) mq 3)), aZ z qs 4 shQ, aN z ql 4 ln, aN z qm 4 mnQ, aL z qi 96 it] := hD
                      refine lv_aload_n hx hb dX11_taken_141 rfl (lv_at hl 0 rfl) ?_
                      refine va_get (D := D) (ci := 11) (v := .ref qt) (C := RX11) (T := TX11) (N := 22) hx hb hts iX11 hown hK.1 hP 0 rfl rfl 1 (by decide) (hts _ m_524) (fun _ h9 => h9) rfl dX11_taken_142 ?_
                      refine lv_iconst (v := nI 0) hx hb dX11_taken_145 (by decide +kernel) ?_
                      refine nv_ald hx hb hK hP 2 rfl (by omega) (by decide) dX11_taken_146 ?_
                      refine lv_i2l hx hb dX11_taken_147 rfl ?_
                      refine lv_aload_n hx hb dX11_taken_148 rfl (lv_at hl 0 rfl) ?_
                      refine va_get (D := D) (ci := 11) (v := .ref qi) (C := RX11) (T := TX11) (N := 22) hx hb hts iX11 hown hK.1 hP 0 rfl rfl 20 (by decide) (hts _ m_534) (fun _ h9 => h9) rfl dX11_taken_149 ?_
                      refine lv_bipush (v := nI 24) hx hb dX11_taken_152 (by decide +kernel) ?_
                      refine lv_iload_n hx hb dX11_taken_154 rfl (lv_at hl 1 rfl) ?_
                      refine nv_mul hx hb dX11_taken_155 ?_
                      refine lv_iload_n hx hb dX11_taken_156 rfl (lv_at hl 2 rfl) ?_
                      refine nv_add hx hb dX11_taken_157 ?_
                      refine lv_iload hx hb dX11_taken_158 (lv_at hl 9 rfl) ?_
                      refine nv_add hx hb dX11_taken_160 ?_
                      refine nv_lald hx hb hK hP 6 rfl (by omega) (by decide) dX11_taken_161 ?_
                      refine W.lcmp hx hb dX11_taken_162 ?_
                      refine lv_if_ne (tgt := 170) hx hb dX11_taken_163 (by decide) (fun hc163 => ?_) (fun hc163 => ?_)
                      · refine lv_iconst (v := nI 0) hx hb dX11_taken_170 (by decide +kernel) ?_
                        refine lv_istore (lv' := [(10, .int (nI 0)), (0, .ref o), (1, .int (nI sq)), (3, .int (nI iq)), (4, .int (nI kq)), (5, .int (nI k2Q)), (7, .int (nI (tkC rQ it (24 * sq + iq) kq jq))), (8, .int (tkL rQ it (24 * sq + iq) kq jq)), (9, .int (nI (rQ 0 - jq))), (11, .int (nI mq))]) hx hb dX11_taken_171 hl (by decide) rfl (fun ls hl => ?_)
                        refine lv_iinc (v := nI (mq + 1)) (lv' := [(11, .int (nI (mq + 1))), (10, .int (nI 0)), (0, .ref o), (1, .int (nI sq)), (3, .int (nI iq)), (4, .int (nI kq)), (5, .int (nI k2Q)), (7, .int (nI (tkC rQ it (24 * sq + iq) kq jq))), (8, .int (tkL rQ it (24 * sq + iq) kq jq)), (9, .int (nI (rQ 0 - jq)))]) hx hb dX11_taken_173 hl (k := 9) rfl (nI_inc _) (by decide) rfl (fun ls hl => ?_)
                        refine lv_goto (tgt := 117) hx hb dX11_taken_176 (by decide) ?_
                        exact ih117 (mq + 1, 0, weekW (wkN (uN rQ 0 (rQ 0 - (rQ 0 - jq))) mq) (wkN (uN rQ 0 (rQ 0 - (rQ 0 - jq))) mq 3)) _ _ _ (by show kq - (mq + 1) < kq - mq; omega) ⟨mq + 1, 0, weekW (wkN (uN rQ 0 (rQ 0 - (rQ 0 - jq))) mq) (wkN (uN rQ 0 (rQ 0 - (rQ 0 - jq))) mq 3), rfl, ⟨(by omega), (by omega), (fun q9 => absurd q9 (by decide)), (fun _ q9 => hc163 ((lg_cmp_eq _ _).mpr (q9 mq (by omega))))⟩, hP, hD, hS, lv_sub hl [2, 3, 4, 5, 6, 7, 8, 9, 1, 0] rfl⟩
                      · refine lv_iconst (v := nI 1) hx hb dX11_taken_166 (by decide +kernel) ?_
                        refine lv_goto (tgt := 171) hx hb dX11_taken_167 (by decide) ?_
                        refine lv_istore (lv' := [(10, .int (nI 1)), (0, .ref o), (1, .int (nI sq)), (3, .int (nI iq)), (4, .int (nI kq)), (5, .int (nI k2Q)), (7, .int (nI (tkC rQ it (24 * sq + iq) kq jq))), (8, .int (tkL rQ it (24 * sq + iq) kq jq)), (9, .int (nI (rQ 0 - jq))), (11, .int (nI mq))]) hx hb dX11_taken_171 hl (by decide) rfl (fun ls hl => ?_)
                        refine lv_iinc (v := nI (mq + 1)) (lv' := [(11, .int (nI (mq + 1))), (10, .int (nI 1)), (0, .ref o), (1, .int (nI sq)), (3, .int (nI iq)), (4, .int (nI kq)), (5, .int (nI k2Q)), (7, .int (nI (tkC rQ it (24 * sq + iq) kq jq))), (8, .int (tkL rQ it (24 * sq + iq) kq jq)), (9, .int (nI (rQ 0 - jq)))]) hx hb dX11_taken_173 hl (k := 9) rfl (nI_inc _) (by decide) rfl (fun ls hl => ?_)
                        refine lv_goto (tgt := 117) hx hb dX11_taken_176 (by decide) ?_
                        exact ih117 (mq + 1, 1, weekW (wkN (uN rQ 0 (rQ 0 - (rQ 0 - jq))) mq) (wkN (uN rQ 0 (rQ 0 - (rQ 0 - jq))) mq 3)) _ _ _ (by show kq - (mq + 1) < kq - mq; omega) ⟨mq + 1, 1, weekW (wkN (uN rQ 0 (rQ 0 - (rQ 0 - jq))) mq) (wkN (uN rQ 0 (rQ 0 - (rQ 0 - jq))) mq 3), rfl, ⟨(by omega), (by omega), (fun _ => fitP_s (hf1 hfq) ((lg_cmp_eq _ _).mp hc163)), (fun q9 => absurd q9 (by decide))⟩, hP, hD, hS, lv_sub hl [2, 3, 4, 5, 6, 7, 8, 9, 1, 0] rfl⟩
                · exact ⟨0, 1, lx, rfl, ⟨(by omega), (by omega), (fun _ => fitP_0 _ _ _ _), (fun q9 => absurd q9 (by decide))⟩, hP, hD, hS, lv_sub hl [2, 3, 4, 5, 6, 7, 8, 9, 1, 0] rfl⟩
            · exact ⟨0, tf, la, rfl, (by omega), hP, hD, hS, lv_sub hl [4, 5, 7, 8, 9, 2, 1, 0] rfl⟩
          · refine lv_iload hx hb dX11_taken_66 (lv_at hl 0 rfl) ?_
            obtain rfl := hrel.2.1 sq rfl (by omega) hc21 hc34 hc45 hc63
            exact nv_xi hx hb hr hlocks hS dX11_taken_68 (tf, la) hP trivial rfl
        · refine lv_iconst (v := (-1)) hx hb dX11_taken_48 (by decide +kernel) ?_
          obtain rfl := hrel.1 (by first | exact fun q => hc9 q.1 | exact fun q => hc21 q.2.1 | exact fun q => hc34 q.2.2.1 | exact fun q => hc45 q.2.2.2)
          exact nv_xi hx hb hr hlocks hS dX11_taken_49 (tf, la) hP trivial rfl

set_option maxHeartbeats 4000000 in
set_option maxRecDepth 100000 in
theorem c_X11_copy (l : Launch) (D : va_G) (z : Nat → ClassId) (sz : Nat) (o : Nat) (qj : Nat) (qt : Nat) (qf : Nat) (qp : Nat) (qk : Nat) (qq : Nat) (qa : Nat) (qs : Nat) (ql : Nat) (qm : Nat) (qi : Nat) (qe : Nat) (un : Nat) (ku : Nat) (ik : Nat) (tnQ : Nat) (th : Nat) (la : Nat) (wo : Nat) (cu : Nat) (fa : Nat) (fat : Nat) (shQ : Nat → Nat) (ln : Nat → Nat) (mnQ : Nat → Nat) (it : Nat → Int64) (leQ : Nat → Int64) (sv : Int32) (ivQ : Int32) (tv : Int32) (jv : Int32) (nv : Int32) (it1 : Nat → Int64) (vQ : Int32) (hso : sOK shQ ln mnQ) (hrel : cyRel shQ ln mnQ it sv ivQ tv jv nv it1 vQ) : CX (σ := (Nat → Int64)) l yX11_copy cX11_copy 7 (some .int) 2 45 0 0 [.ref o, .int sv, .int ivQ, .int tv, .int jv, .int nv] D z [(o, .inr (11, [.ref qj, .ref qt, .ref qf, .ref qp, .int (nI un), .ref qk, .ref qq, .int (nI ku), .int (nI ik), .ref qa, .int (nI tnQ), .int (nI th), .int (nI la), .int (nI wo), .int (nI cu), .int (nI fa), .int (nI fat), .ref qs, .ref ql, .ref qm, .ref qi, .ref qe])), aZ z qs 4 shQ, aN z ql 4 ln, aN z qm 4 mnQ, aL z qi 96 it, aL z qe 24 leQ] sz (fun _ => True) (fun u => [(o, .inr (11, [.ref qj, .ref qt, .ref qf, .ref qp, .int (nI un), .ref qk, .ref qq, .int (nI ku), .int (nI ik), .ref qa, .int (nI tnQ), .int (nI 0), .int (nI la), .int (nI wo), .int (nI cu), .int (nI fa), .int (nI fat), .ref qs, .ref ql, .ref qm, .ref qi, .ref qe])), aZ z qs 4 shQ, aN z ql 4 ln, aN z qm 4 mnQ, aL z qi 96 it1, aL z qe 24 u]) (some (.int vQ)) (fun _ _ => True) := by
  refine Met.ofW (cc := cX11_copy) (maxL := 7) (ret := (some .int)) (by decide) rfl ?_
  intro pg e s m args below meth c s₁ B hml hv
  obtain ⟨rfl, hsz, hP, hK, hD0, hE⟩ := hv
  have hx := B.exec
  have hb := B.bytes
  have hr := B.returns
  have hts : ∀ w ∈ ALL, w.before _ s = true := fun w h => atoms_spec (ws := wA yX11_copy cX11_copy 7 (some .int)) B.pre w (List.mem_cons_of_mem _ h)
  have hown : s.vm.findClass RX11 = some m.cls := findClass_of_methodNamed B.named
  have hlocks := B.notSynchronized
  subst hsz
  have hD := hD0.self (sz := s.heap.size)
  have hA : ∀ q : Nat, s.heap.size ≤ q → va_A [(o, .inr (11, [.ref qj, .ref qt, .ref qf, .ref qp, .int (nI un), .ref qk, .ref qq, .int (nI ku), .int (nI ik), .ref qa, .int (nI tnQ), .int (nI th), .int (nI la), .int (nI wo), .int (nI cu), .int (nI fa), .int (nI fat), .ref qs, .ref ql, .ref qm, .ref qi, .ref qe])), aZ z qs 4 shQ, aN z ql 4 ln, aN z qm 4 mnQ, aL z qi 96 it, aL z qe 24 leQ] s.heap.size q := fun q h => Or.inr h
  generalize va_A [(o, .inr (11, [.ref qj, .ref qt, .ref qf, .ref qp, .int (nI un), .ref qk, .ref qq, .int (nI ku), .int (nI ik), .ref qa, .int (nI tnQ), .int (nI th), .int (nI la), .int (nI wo), .int (nI cu), .int (nI fa), .int (nI fat), .ref qs, .ref ql, .ref qm, .ref qi, .ref qe])), aZ z qs 4 shQ, aN z ql 4 ln, aN z qm 4 mnQ, aL z qi 96 it, aL z qe 24 leQ] s.heap.size = A at *
  have hS : va_S A s.heap s.heap [] := va_S.rf
  have hl := lv_entry ([.ref o, .int sv, .int ivQ, .int tv, .int jv, .int nv]) (n := 7) (Nat.le_of_ble_eq_true rfl)
  rw [lg_entry_eq]
  generalize (lg_sl ([.ref o, .int sv, .int ivQ, .int tv, .int jv, .int nv]) ++ List.replicate (7 - (lg_sl ([.ref o, .int sv, .int ivQ, .int tv, .int jv, .int nv])).length) Slot.unset).toArray = ls at hl ⊢
  have hl : lv_has ls 7 [(0, .ref o), (1, .int sv), (2, .int ivQ), (3, .int tv), (4, .int jv), (5, .int nv)] := hl
  refine lv_aload_n hx hb dX11_copy_0 rfl (lv_at hl 0 rfl) ?_
  refine lv_iconst (v := nI 0) hx hb dX11_copy_1 (by decide +kernel) ?_
  refine va_put (D := D) (ci := 11) (v := .int (nI 0)) (ty := tyX11 11) (C := RX11) (T := TX11) (N := 22) hx hb hts iX11 tyX11 tyX11_ok nmX11 hown hK.1 hP hD hS 0 rfl rfl 11 (by decide) (hts _ m_576) (fun _ h9 => h9) rfl (tyX11_ok 11 (by decide)) rfl rfl (Nat.le_of_ble_eq_true rfl) dX11_copy_2 (fun H locs hP hD hS => ?_)
  have hP : va_P D vwCl [(o, .inr (11, [.ref qj, .ref qt, .ref qf, .ref qp, .int (nI un), .ref qk, .ref qq, .int (nI ku), .int (nI ik), .ref qa, .int (nI tnQ), .int (nI 0), .int (nI la), .int (nI wo), .int (nI cu), .int (nI fa), .int (nI fat), .ref qs, .ref ql, .ref qm, .ref qi, .ref qe])), aZ z qs 4 shQ, aN z ql 4 ln, aN z qm 4 mnQ, aL z qi 96 it, aL z qe 24 leQ] H := hP
  have hD : va_D A [(o, .inr (11, [.ref qj, .ref qt, .ref qf, .ref qp, .int (nI un), .ref qk, .ref qq, .int (nI ku), .int (nI ik), .ref qa, .int (nI tnQ), .int (nI 0), .int (nI la), .int (nI wo), .int (nI cu), .int (nI fa), .int (nI fat), .ref qs, .ref ql, .ref qm, .ref qi, .ref qe])), aZ z qs 4 shQ, aN z ql 4 ln, aN z qm 4 mnQ, aL z qi 96 it, aL z qe 24 leQ] := hD
  refine lv_iload_n hx hb dX11_copy_5 rfl (lv_at hl 1 rfl) ?_
  have hPc := hP.sub (ws' := []) [] rfl
  refine nv_cp1 (va_runS (As := [.int sv]) (rest := []) ⟨hx, hb, hml, hown, hts⟩ (c_X11_isNumber l D z sv ) (va_cwS 1 hts (gS m_670 m_671 m_541 m_665) rfl rfl rfl hd_X11_isNumber ⟨Nat.le_of_ble_eq_true rfl, Nat.le_of_ble_eq_true rfl⟩) (nv_preP hK hPc trivial _) rfl rfl hl.1 rfl (lv_room (Nat.le_of_ble_eq_true rfl)) dX11_copy_6 ⟨by decide, by decide⟩) ?_
  refine nv_beq (tgt := 19) hx hb dX11_copy_9 (by decide) (fun hc9 => ?_) (fun hc9 => ?_)
  · refine lv_iconst (v := (-1)) hx hb dX11_copy_19 (by decide +kernel) ?_
    obtain ⟨rfl, rfl⟩ := hrel.1 (by first | exact fun q => hc9 q.1 | exact fun q => hc16 q.2)
    exact nv_xi hx hb hr hlocks hS dX11_copy_20 leQ hP trivial rfl
  · refine lv_iload_n hx hb dX11_copy_12 rfl (lv_at hl 3 rfl) ?_
    have hPc := hP.sub (ws' := []) [] rfl
    refine nv_cp1 (va_runS (As := [.int tv]) (rest := []) ⟨hx, hb, hml, hown, hts⟩ (c_X11_isNumber l D z tv ) (va_cwS 1 hts (gS m_670 m_671 m_541 m_665) rfl rfl rfl hd_X11_isNumber ⟨Nat.le_of_ble_eq_true rfl, Nat.le_of_ble_eq_true rfl⟩) (nv_preP hK hPc trivial _) rfl rfl hl.1 rfl (lv_room (Nat.le_of_ble_eq_true rfl)) dX11_copy_13 ⟨by decide, by decide⟩) ?_
    refine nv_bne (tgt := 21) hx hb dX11_copy_16 (by decide) (fun hc16 => ?_) (fun hc16 => ?_)
    · obtain ⟨sq, rfl, sq0, sq1⟩ := wi_nat (b := 3) (by decide) hc9
      have hs1 := hso sq (by omega)
      obtain ⟨tqQ, rfl, tq0, tq1⟩ := wi_nat (b := 3) (by decide) hc16
      have ht1 := hso tqQ (by omega)
      refine lv_aload_n hx hb dX11_copy_21 rfl (lv_at hl 0 rfl) ?_
      refine va_get (D := D) (ci := 11) (v := .ref qs) (C := RX11) (T := TX11) (N := 22) hx hb hts iX11 hown hK.1 hP 0 rfl rfl 17 (by decide) (hts _ m_531) (fun _ h9 => h9) rfl dX11_copy_22 ?_
      refine lv_iload_n hx hb dX11_copy_25 rfl (lv_at hl 1 rfl) ?_
      refine nv_zald hx hb hK hP 1 rfl (by omega) (by decide) dX11_copy_26 ?_
      refine nv_ifeq (tgt := 39) hx hb (by omega) dX11_copy_27 (by decide) (fun hc27 => ?_) (fun hc27 => ?_)
      · refine lv_bipush (v := (-11)) hx hb dX11_copy_39 (by decide +kernel) ?_
        obtain ⟨rfl, rfl⟩ := hrel.2.1 sq tqQ rfl rfl (by omega) (by omega) (by first | exact Or.inl hc27 | exact Or.inr hc36)
        exact nv_xi hx hb hr hlocks hS dX11_copy_41 leQ hP trivial rfl
      · refine lv_aload_n hx hb dX11_copy_30 rfl (lv_at hl 0 rfl) ?_
        refine va_get (D := D) (ci := 11) (v := .ref qs) (C := RX11) (T := TX11) (N := 22) hx hb hts iX11 hown hK.1 hP 0 rfl rfl 17 (by decide) (hts _ m_531) (fun _ h9 => h9) rfl dX11_copy_31 ?_
        refine lv_iload_n hx hb dX11_copy_34 rfl (lv_at hl 3 rfl) ?_
        refine nv_zald hx hb hK hP 1 rfl (by omega) (by decide) dX11_copy_35 ?_
        refine nv_ifne (tgt := 42) hx hb (by omega) dX11_copy_36 (by decide) (fun hc36 => ?_) (fun hc36 => ?_)
        · refine lv_aload_n hx hb dX11_copy_42 rfl (lv_at hl 0 rfl) ?_
          refine va_get (D := D) (ci := 11) (v := .ref ql) (C := RX11) (T := TX11) (N := 22) hx hb hts iX11 hown hK.1 hP 0 rfl rfl 18 (by decide) (hts _ m_532) (fun _ h9 => h9) rfl dX11_copy_43 ?_
          refine lv_iload_n hx hb dX11_copy_46 rfl (lv_at hl 1 rfl) ?_
          refine nv_ald hx hb hK hP 2 rfl (by omega) (by decide) dX11_copy_47 ?_
          refine lv_aload_n hx hb dX11_copy_48 rfl (lv_at hl 0 rfl) ?_
          refine va_get (D := D) (ci := 11) (v := .ref ql) (C := RX11) (T := TX11) (N := 22) hx hb hts iX11 hown hK.1 hP 0 rfl rfl 18 (by decide) (hts _ m_532) (fun _ h9 => h9) rfl dX11_copy_49 ?_
          refine lv_iload_n hx hb dX11_copy_52 rfl (lv_at hl 3 rfl) ?_
          refine nv_ald hx hb hK hP 2 rfl (by omega) (by decide) dX11_copy_53 ?_
          refine nv_eq (tgt := 60) hx hb (by omega) (by omega) dX11_copy_54 (by decide) (fun hc54 => ?_) (fun hc54 => ?_)
          · refine lv_aload_n hx hb dX11_copy_60 rfl (lv_at hl 0 rfl) ?_
            refine lv_iload_n hx hb dX11_copy_61 rfl (lv_at hl 1 rfl) ?_
            refine lv_aload_n hx hb dX11_copy_62 rfl (lv_at hl 0 rfl) ?_
            refine va_get (D := D) (ci := 11) (v := .ref ql) (C := RX11) (T := TX11) (N := 22) hx hb hts iX11 hown hK.1 hP 0 rfl rfl 18 (by decide) (hts _ m_532) (fun _ h9 => h9) rfl dX11_copy_63 ?_
            refine lv_iload_n hx hb dX11_copy_66 rfl (lv_at hl 1 rfl) ?_
            refine nv_ald hx hb hK hP 2 rfl (by omega) (by decide) dX11_copy_67 ?_
            refine lv_iload_n hx hb dX11_copy_68 rfl (lv_at hl 2 rfl) ?_
            refine lv_iload hx hb dX11_copy_69 (lv_at hl 5 rfl) ?_
            have hPc := hP.sub (ws' := [(o, .inr (11, [.ref qj, .ref qt, .ref qf, .ref qp, .int (nI un), .ref qk, .ref qq, .int (nI ku), .int (nI ik), .ref qa, .int (nI tnQ), .int (nI 0), .int (nI la), .int (nI wo), .int (nI cu), .int (nI fa), .int (nI fat), .ref qs, .ref ql, .ref qm, .ref qi, .ref qe])), aZ z qs 4 shQ, aN z ql 4 ln, aN z qm 4 mnQ]) [0, 1, 2, 3] rfl
            refine nv_cp1 (va_runV (As := [.int (nI sq), .int (nI (ln sq)), .int ivQ, .int nv]) (rest := []) ⟨hx, hb, hml, hown, hts⟩ (c_X11_found l D z o qj qt qf qp qk qq qa qs ql qm qi qe un ku ik tnQ 0 la wo cu fa fat shQ ln mnQ sq (nI (ln sq)) ivQ nv (by first | assumption | omega) (by first | assumption | omega)) (cwV 4 hts (gV m_672 m_673 m_674 m_541 m_668) rfl rfl rfl ⟨rfl, hd_X11_found⟩ ⟨Nat.le_of_ble_eq_true rfl, Nat.le_of_ble_eq_true rfl⟩) (nv_prePV (ci := 11) (q0 := 0) hK hPc trivial rfl rfl) rfl rfl hl.1 rfl (lv_room (Nat.le_of_ble_eq_true rfl)) dX11_copy_71 ⟨by decide, by decide⟩) ?_
            refine lv_if_ne (tgt := 95) hx hb dX11_copy_74 (by decide) (fun hc74 => ?_) (fun hc74 => ?_)
            · refine lv_bipush (v := (-13)) hx hb dX11_copy_95 (by decide +kernel) ?_
              obtain ⟨rfl, rfl⟩ := hrel.2.2.2.1 sq tqQ rfl rfl (by omega) (by omega) hc27 hc36 hc54 (by first | exact fun q9 => hc74 ((foV_in hc27).mpr q9.1) | exact fun q9 => hc92 ((foV_in hc36).mpr q9.2))
              exact nv_xi hx hb hr hlocks hS dX11_copy_97 leQ hP trivial rfl
            · refine lv_aload_n hx hb dX11_copy_77 rfl (lv_at hl 0 rfl) ?_
              refine lv_iload_n hx hb dX11_copy_78 rfl (lv_at hl 3 rfl) ?_
              refine lv_aload_n hx hb dX11_copy_79 rfl (lv_at hl 0 rfl) ?_
              refine va_get (D := D) (ci := 11) (v := .ref ql) (C := RX11) (T := TX11) (N := 22) hx hb hts iX11 hown hK.1 hP 0 rfl rfl 18 (by decide) (hts _ m_532) (fun _ h9 => h9) rfl dX11_copy_80 ?_
              refine lv_iload_n hx hb dX11_copy_83 rfl (lv_at hl 3 rfl) ?_
              refine nv_ald hx hb hK hP 2 rfl (by omega) (by decide) dX11_copy_84 ?_
              refine lv_iload hx hb dX11_copy_85 (lv_at hl 4 rfl) ?_
              refine lv_iload hx hb dX11_copy_87 (lv_at hl 5 rfl) ?_
              have hPc := hP.sub (ws' := [(o, .inr (11, [.ref qj, .ref qt, .ref qf, .ref qp, .int (nI un), .ref qk, .ref qq, .int (nI ku), .int (nI ik), .ref qa, .int (nI tnQ), .int (nI 0), .int (nI la), .int (nI wo), .int (nI cu), .int (nI fa), .int (nI fat), .ref qs, .ref ql, .ref qm, .ref qi, .ref qe])), aZ z qs 4 shQ, aN z ql 4 ln, aN z qm 4 mnQ]) [0, 1, 2, 3] rfl
              refine nv_cp1 (va_runV (As := [.int (nI tqQ), .int (nI (ln tqQ)), .int jv, .int nv]) (rest := []) ⟨hx, hb, hml, hown, hts⟩ (c_X11_found l D z o qj qt qf qp qk qq qa qs ql qm qi qe un ku ik tnQ 0 la wo cu fa fat shQ ln mnQ tqQ (nI (ln tqQ)) jv nv (by first | assumption | omega) (by first | assumption | omega)) (cwV 4 hts (gV m_672 m_673 m_674 m_541 m_668) rfl rfl rfl ⟨rfl, hd_X11_found⟩ ⟨Nat.le_of_ble_eq_true rfl, Nat.le_of_ble_eq_true rfl⟩) (nv_prePV (ci := 11) (q0 := 0) hK hPc trivial rfl rfl) rfl rfl hl.1 rfl (lv_room (Nat.le_of_ble_eq_true rfl)) dX11_copy_89 ⟨by decide, by decide⟩) ?_
              refine lv_if_eq (tgt := 98) hx hb dX11_copy_92 (by decide) (fun hc92 => ?_) (fun hc92 => ?_)
              · have g1 := (foV_in hc27).mp hc74
                have g2 := (foV_in hc36).mp hc92
                obtain ⟨nq, rfl, -, hn9⟩ := wi_nat (x := nv) (b := 24) (a := 0) (by decide) ⟨g1.2.1, by have := g1.1; have := g1.2.2; omega⟩
                obtain ⟨iq, rfl, hiq⟩ := inb_nat (by omega) (by omega) g1
                obtain ⟨jv9, rfl, hjv⟩ := inb_nat (by omega) (by omega) g2
                obtain ⟨rfl, rfl⟩ := hrel.2.2.2.2 sq tqQ iq jv9 nq rfl rfl rfl rfl rfl (by omega) (by omega) hc27 hc36 hc54 (by omega) (by omega)
                refine lv_iconst (v := nI 0) hx hb dX11_copy_98 (by decide +kernel) ?_
                refine lv_istore (lv' := [(6, .int (nI 0)), (0, .ref o), (1, .int (nI sq)), (2, .int (nI iq)), (3, .int (nI tqQ)), (4, .int (nI jv9)), (5, .int (nI nq))]) hx hb dX11_copy_99 hl (by decide) rfl (fun ls hl => ?_)
                refine nv_loop (σ := Nat) (fun x H locs ls => ∃ (mq : Nat), mq = x ∧ ((mq ≤ nq)) ∧ va_P D vwCl [(o, .inr (11, [.ref qj, .ref qt, .ref qf, .ref qp, .int (nI un), .ref qk, .ref qq, .int (nI ku), .int (nI ik), .ref qa, .int (nI tnQ), .int (nI 0), .int (nI la), .int (nI wo), .int (nI cu), .int (nI fa), .int (nI fat), .ref qs, .ref ql, .ref qm, .ref qi, .ref qe])), aZ z qs 4 shQ, aN z ql 4 ln, aN z qm 4 mnQ, aL z qi 96 it, aL z qe 24 (ltF it leQ (24 * sq + iq) mq)] H ∧ va_D A [(o, .inr (11, [.ref qj, .ref qt, .ref qf, .ref qp, .int (nI un), .ref qk, .ref qq, .int (nI ku), .int (nI ik), .ref qa, .int (nI tnQ), .int (nI 0), .int (nI la), .int (nI wo), .int (nI cu), .int (nI fa), .int (nI fat), .ref qs, .ref ql, .ref qm, .ref qi, .ref qe])), aZ z qs 4 shQ, aN z ql 4 ln, aN z qm 4 mnQ, aL z qi 96 it, aL z qe 24 (ltF it leQ (24 * sq + iq) mq)] ∧ va_S A s.heap H locs ∧ lv_has ls 7 [(0, .ref o), (1, .int (nI sq)), (2, .int (nI iq)), (3, .int (nI tqQ)), (4, .int (nI jv9)), (5, .int (nI nq)), (6, .int (nI mq))]) (fun x => nq - x) 101 [] ?_ 0 ?_
                · rintro _ H locs ls ⟨mq, rfl, hm, hP, hD, hS, hl⟩ ih101
                  refine lv_iload hx hb dX11_copy_101 (lv_at hl 6 rfl) ?_
                  refine lv_iload hx hb dX11_copy_103 (lv_at hl 5 rfl) ?_
                  refine nv_ge (tgt := 135) hx hb (by omega) (by omega) dX11_copy_105 (by decide) (fun hc105 => ?_) (fun hc105 => ?_)
                  · obtain rfl : nq = mq := by omega
                    refine lv_iconst (v := nI 0) hx hb dX11_copy_135 (by decide +kernel) ?_
                    refine lv_istore (lv' := [(6, .int (nI 0)), (0, .ref o), (1, .int (nI sq)), (2, .int (nI iq)), (3, .int (nI tqQ)), (4, .int (nI jv9)), (5, .int (nI nq))]) hx hb dX11_copy_136 hl (by decide) rfl (fun ls hl => ?_)
                    refine nv_loop (σ := Nat) (fun x H locs ls => ∃ (mq : Nat), mq = x ∧ ((mq ≤ nq)) ∧ va_P D vwCl [(o, .inr (11, [.ref qj, .ref qt, .ref qf, .ref qp, .int (nI un), .ref qk, .ref qq, .int (nI ku), .int (nI ik), .ref qa, .int (nI tnQ), .int (nI 0), .int (nI la), .int (nI wo), .int (nI cu), .int (nI fa), .int (nI fat), .ref qs, .ref ql, .ref qm, .ref qi, .ref qe])), aZ z qs 4 shQ, aN z ql 4 ln, aN z qm 4 mnQ, aL z qi 96 (cpF it (ltF it leQ (24 * sq + iq) nq) (24 * tqQ + jv9) mq), aL z qe 24 (ltF it leQ (24 * sq + iq) nq)] H ∧ va_D A [(o, .inr (11, [.ref qj, .ref qt, .ref qf, .ref qp, .int (nI un), .ref qk, .ref qq, .int (nI ku), .int (nI ik), .ref qa, .int (nI tnQ), .int (nI 0), .int (nI la), .int (nI wo), .int (nI cu), .int (nI fa), .int (nI fat), .ref qs, .ref ql, .ref qm, .ref qi, .ref qe])), aZ z qs 4 shQ, aN z ql 4 ln, aN z qm 4 mnQ, aL z qi 96 (cpF it (ltF it leQ (24 * sq + iq) nq) (24 * tqQ + jv9) mq), aL z qe 24 (ltF it leQ (24 * sq + iq) nq)] ∧ va_S A s.heap H locs ∧ lv_has ls 7 [(0, .ref o), (3, .int (nI tqQ)), (4, .int (nI jv9)), (5, .int (nI nq)), (6, .int (nI mq))]) (fun x => nq - x) 138 [] ?_ 0 ?_
                    · rintro _ H locs ls ⟨mq, rfl, hm, hP, hD, hS, hl⟩ ih138
                      refine lv_iload hx hb dX11_copy_138 (lv_at hl 4 rfl) ?_
                      refine lv_iload hx hb dX11_copy_140 (lv_at hl 3 rfl) ?_
                      refine nv_ge (tgt := 173) hx hb (by omega) (by omega) dX11_copy_142 (by decide) (fun hc142 => ?_) (fun hc142 => ?_)
                      · obtain rfl : nq = mq := by omega
                        rw [cp_cy] at hP hD
                        refine lv_iload hx hb dX11_copy_173 (lv_at hl 3 rfl) ?_
                        exact nv_xi hx hb hr hlocks hS dX11_copy_175 (ltF it leQ (24 * sq + iq) nq) hP trivial rfl
                      · refine lv_aload_n hx hb dX11_copy_145 rfl (lv_at hl 0 rfl) ?_
                        refine va_get (D := D) (ci := 11) (v := .ref qi) (C := RX11) (T := TX11) (N := 22) hx hb hts iX11 hown hK.1 hP 0 rfl rfl 20 (by decide) (hts _ m_534) (fun _ h9 => h9) rfl dX11_copy_146 ?_
                        refine lv_bipush (v := nI 24) hx hb dX11_copy_149 (by decide +kernel) ?_
                        refine lv_iload_n hx hb dX11_copy_151 rfl (lv_at hl 1 rfl) ?_
                        refine nv_mul hx hb dX11_copy_152 ?_
                        refine lv_iload hx hb dX11_copy_153 (lv_at hl 2 rfl) ?_
                        refine nv_add hx hb dX11_copy_155 ?_
                        refine lv_iload hx hb dX11_copy_156 (lv_at hl 4 rfl) ?_
                        refine nv_add hx hb dX11_copy_158 ?_
                        refine lv_aload_n hx hb dX11_copy_159 rfl (lv_at hl 0 rfl) ?_
                        refine va_get (D := D) (ci := 11) (v := .ref qe) (C := RX11) (T := TX11) (N := 22) hx hb hts iX11 hown hK.1 hP 0 rfl rfl 21 (by decide) (hts _ m_535) (fun _ h9 => h9) rfl dX11_copy_160 ?_
                        refine lv_iload hx hb dX11_copy_163 (lv_at hl 4 rfl) ?_
                        refine nv_lald hx hb hK hP 5 rfl (by omega) (by decide) dX11_copy_165 ?_
                        refine nv_last hx hb hK hP hD hS 4 rfl (by omega) (by decide) dX11_copy_166 (fun H locs hP hD hS => ?_)
                        have hP : va_P D vwCl [(o, .inr (11, [.ref qj, .ref qt, .ref qf, .ref qp, .int (nI un), .ref qk, .ref qq, .int (nI ku), .int (nI ik), .ref qa, .int (nI tnQ), .int (nI 0), .int (nI la), .int (nI wo), .int (nI cu), .int (nI fa), .int (nI fat), .ref qs, .ref ql, .ref qm, .ref qi, .ref qe])), aZ z qs 4 shQ, aN z ql 4 ln, aN z qm 4 mnQ, aL z qi 96 (vp_updL (cpF it (ltF it leQ (24 * sq + iq) nq) (24 * tqQ + jv9) mq) (24 * tqQ + jv9 + mq) ((ltF it leQ (24 * sq + iq) nq) mq)), aL z qe 24 (ltF it leQ (24 * sq + iq) nq)] H := hP
                        have hD : va_D A [(o, .inr (11, [.ref qj, .ref qt, .ref qf, .ref qp, .int (nI un), .ref qk, .ref qq, .int (nI ku), .int (nI ik), .ref qa, .int (nI tnQ), .int (nI 0), .int (nI la), .int (nI wo), .int (nI cu), .int (nI fa), .int (nI fat), .ref qs, .ref ql, .ref qm, .ref qi, .ref qe])), aZ z qs 4 shQ, aN z ql 4 ln, aN z qm 4 mnQ, aL z qi 96 (vp_updL (cpF it (ltF it leQ (24 * sq + iq) nq) (24 * tqQ + jv9) mq) (24 * tqQ + jv9 + mq) ((ltF it leQ (24 * sq + iq) nq) mq)), aL z qe 24 (ltF it leQ (24 * sq + iq) nq)] := hD
                        refine lv_iinc (v := nI (mq + 1)) (lv' := [(6, .int (nI (mq + 1))), (0, .ref o), (3, .int (nI tqQ)), (4, .int (nI jv9)), (5, .int (nI nq))]) hx hb dX11_copy_167 hl (k := 4) rfl (nI_inc _) (by decide) rfl (fun ls hl => ?_)
                        refine lv_goto (tgt := 138) hx hb dX11_copy_170 (by decide) ?_
                        exact ih138 (mq + 1) _ _ _ (by omega) ⟨mq + 1, rfl, (by omega), hP, hD, hS, lv_sub hl [1, 2, 3, 4, 0] rfl⟩
                    · exact ⟨0, rfl, (by omega), hP, hD, hS, lv_sub hl [1, 4, 5, 6, 0] rfl⟩
                  · refine lv_aload_n hx hb dX11_copy_108 rfl (lv_at hl 0 rfl) ?_
                    refine va_get (D := D) (ci := 11) (v := .ref qe) (C := RX11) (T := TX11) (N := 22) hx hb hts iX11 hown hK.1 hP 0 rfl rfl 21 (by decide) (hts _ m_535) (fun _ h9 => h9) rfl dX11_copy_109 ?_
                    refine lv_iload hx hb dX11_copy_112 (lv_at hl 6 rfl) ?_
                    refine lv_aload_n hx hb dX11_copy_114 rfl (lv_at hl 0 rfl) ?_
                    refine va_get (D := D) (ci := 11) (v := .ref qi) (C := RX11) (T := TX11) (N := 22) hx hb hts iX11 hown hK.1 hP 0 rfl rfl 20 (by decide) (hts _ m_534) (fun _ h9 => h9) rfl dX11_copy_115 ?_
                    refine lv_bipush (v := nI 24) hx hb dX11_copy_118 (by decide +kernel) ?_
                    refine lv_iload_n hx hb dX11_copy_120 rfl (lv_at hl 1 rfl) ?_
                    refine nv_mul hx hb dX11_copy_121 ?_
                    refine lv_iload_n hx hb dX11_copy_122 rfl (lv_at hl 2 rfl) ?_
                    refine nv_add hx hb dX11_copy_123 ?_
                    refine lv_iload hx hb dX11_copy_124 (lv_at hl 6 rfl) ?_
                    refine nv_add hx hb dX11_copy_126 ?_
                    refine nv_lald hx hb hK hP 4 rfl (by omega) (by decide) dX11_copy_127 ?_
                    refine nv_last hx hb hK hP hD hS 5 rfl (by omega) (by decide) dX11_copy_128 (fun H locs hP hD hS => ?_)
                    have hP : va_P D vwCl [(o, .inr (11, [.ref qj, .ref qt, .ref qf, .ref qp, .int (nI un), .ref qk, .ref qq, .int (nI ku), .int (nI ik), .ref qa, .int (nI tnQ), .int (nI 0), .int (nI la), .int (nI wo), .int (nI cu), .int (nI fa), .int (nI fat), .ref qs, .ref ql, .ref qm, .ref qi, .ref qe])), aZ z qs 4 shQ, aN z ql 4 ln, aN z qm 4 mnQ, aL z qi 96 it, aL z qe 24 (vp_updL (ltF it leQ (24 * sq + iq) mq) mq (it (24 * sq + iq + mq)))] H := hP
                    have hD : va_D A [(o, .inr (11, [.ref qj, .ref qt, .ref qf, .ref qp, .int (nI un), .ref qk, .ref qq, .int (nI ku), .int (nI ik), .ref qa, .int (nI tnQ), .int (nI 0), .int (nI la), .int (nI wo), .int (nI cu), .int (nI fa), .int (nI fat), .ref qs, .ref ql, .ref qm, .ref qi, .ref qe])), aZ z qs 4 shQ, aN z ql 4 ln, aN z qm 4 mnQ, aL z qi 96 it, aL z qe 24 (vp_updL (ltF it leQ (24 * sq + iq) mq) mq (it (24 * sq + iq + mq)))] := hD
                    refine lv_iinc (v := nI (mq + 1)) (lv' := [(6, .int (nI (mq + 1))), (0, .ref o), (1, .int (nI sq)), (2, .int (nI iq)), (3, .int (nI tqQ)), (4, .int (nI jv9)), (5, .int (nI nq))]) hx hb dX11_copy_129 hl (k := 6) rfl (nI_inc _) (by decide) rfl (fun ls hl => ?_)
                    refine lv_goto (tgt := 101) hx hb dX11_copy_132 (by decide) ?_
                    exact ih101 (mq + 1) _ _ _ (by omega) ⟨mq + 1, rfl, (by omega), hP, hD, hS, lv_sub hl [1, 2, 3, 4, 5, 6, 0] rfl⟩
                · exact ⟨0, rfl, (by omega), hP, hD, hS, lv_sub hl [1, 2, 3, 4, 5, 6, 0] rfl⟩
              · refine lv_bipush (v := (-13)) hx hb dX11_copy_95 (by decide +kernel) ?_
                obtain ⟨rfl, rfl⟩ := hrel.2.2.2.1 sq tqQ rfl rfl (by omega) (by omega) hc27 hc36 hc54 (by first | exact fun q9 => hc74 ((foV_in hc27).mpr q9.1) | exact fun q9 => hc92 ((foV_in hc36).mpr q9.2))
                exact nv_xi hx hb hr hlocks hS dX11_copy_97 leQ hP trivial rfl
          · refine lv_bipush (v := (-12)) hx hb dX11_copy_57 (by decide +kernel) ?_
            obtain ⟨rfl, rfl⟩ := hrel.2.2.1 sq tqQ rfl rfl (by omega) (by omega) hc27 hc36 hc54
            exact nv_xi hx hb hr hlocks hS dX11_copy_59 leQ hP trivial rfl
        · refine lv_bipush (v := (-11)) hx hb dX11_copy_39 (by decide +kernel) ?_
          obtain ⟨rfl, rfl⟩ := hrel.2.1 sq tqQ rfl rfl (by omega) (by omega) (by first | exact Or.inl hc27 | exact Or.inr hc36)
          exact nv_xi hx hb hr hlocks hS dX11_copy_41 leQ hP trivial rfl
    · refine lv_iconst (v := (-1)) hx hb dX11_copy_19 (by decide +kernel) ?_
      obtain ⟨rfl, rfl⟩ := hrel.1 (by first | exact fun q => hc9 q.1 | exact fun q => hc16 q.2)
      exact nv_xi hx hb hr hlocks hS dX11_copy_20 leQ hP trivial rfl
