set_option maxHeartbeats 4000000 in
set_option maxRecDepth 100000 in
theorem c_X10_sheet (l : Launch) (D : va_G) (z : Nat → ClassId) (sz : Nat) (o : Nat) (hn : Nat) (pq : Nat) (gi : Nat) (gp : Nat) (ik : Nat) (h2 : Nat) (tp : Nat) (rw9 : Nat) (rf : Nat → Option Nat) (ro : Nat) (ri : Nat) (shQ : Nat → Nat) (ln : Nat → Nat) (mnQ : Nat → Nat) (it : Nat → Int64) (sq : Nat) (sv : Int32) (av : Int32) (nv : Int32) (sh1 : Nat → Nat) (ln1 : Nat → Nat) (mn1 : Nat → Nat) (it1 : Nat → Int64) (vQ : Int32) (hso : sOK shQ ln mnQ) (hq3 : sq ≤ 3) (hrf : rf sq = some ro) (hsv : wi sv 0 3 → sv = nI sq) (hrel : shRel shQ ln mnQ it sv av nv sh1 ln1 mn1 it1 vQ) : CM l yX10_sheet cX10_sheet 4 (some .int) 2 42 0 0 [.ref o, .int sv, .int av, .int nv] D z [(o, .inr (10, [.ref hn, .ref pq, .ref gi, .ref gp, .int (nI ik), .ref h2, .ref tp, .ref rw9])), aR z rw9 4 rf, (ro, .inr (7, [.ref ri, .int (nI (shQ sq)), .int (nI (ln sq)), .int (nI (mnQ sq))])), aL z ri 24 (itS it sq)] sz (fun _ => True) [(o, .inr (10, [.ref hn, .ref pq, .ref gi, .ref gp, .int (nI ik), .ref h2, .ref tp, .ref rw9])), aR z rw9 4 rf, (ro, .inr (7, [.ref ri, .int (nI (sh1 sq)), .int (nI (ln1 sq)), .int (nI (mn1 sq))])), aL z ri 24 (itS it1 sq)] (some (.int vQ)) (fun _ => True) := by
  refine Met.ofW (cc := cX10_sheet) (maxL := 4) (ret := (some .int)) (by decide) rfl ?_
  intro pg e s m args below meth c s₁ B hml hv
  obtain ⟨rfl, hsz, hP, hK, hD0, hE⟩ := hv
  have hx := B.exec
  have hb := B.bytes
  have hr := B.returns
  have hts : ∀ w ∈ ALL, w.before _ s = true := fun w h => atoms_spec (ws := wA yX10_sheet cX10_sheet 4 (some .int)) B.pre w (List.mem_cons_of_mem _ h)
  have hown : s.vm.findClass RX10 = some m.cls := findClass_of_methodNamed B.named
  have hlocks := B.notSynchronized
  subst hsz
  have hD := hD0.self (sz := s.heap.size)
  have hA : ∀ q : Nat, s.heap.size ≤ q → va_A [(o, .inr (10, [.ref hn, .ref pq, .ref gi, .ref gp, .int (nI ik), .ref h2, .ref tp, .ref rw9])), aR z rw9 4 rf, (ro, .inr (7, [.ref ri, .int (nI (shQ sq)), .int (nI (ln sq)), .int (nI (mnQ sq))])), aL z ri 24 (itS it sq)] s.heap.size q := fun q h => Or.inr h
  generalize va_A [(o, .inr (10, [.ref hn, .ref pq, .ref gi, .ref gp, .int (nI ik), .ref h2, .ref tp, .ref rw9])), aR z rw9 4 rf, (ro, .inr (7, [.ref ri, .int (nI (shQ sq)), .int (nI (ln sq)), .int (nI (mnQ sq))])), aL z ri 24 (itS it sq)] s.heap.size = A at *
  have hS : va_S A s.heap s.heap [] := va_S.rf
  have hl := lv_entry ([.ref o, .int sv, .int av, .int nv]) (n := 4) (Nat.le_of_ble_eq_true rfl)
  rw [lg_entry_eq]
  generalize (lg_sl ([.ref o, .int sv, .int av, .int nv]) ++ List.replicate (4 - (lg_sl ([.ref o, .int sv, .int av, .int nv])).length) Slot.unset).toArray = ls at hl ⊢
  have hl : lv_has ls 4 [(0, .ref o), (1, .int sv), (2, .int av), (3, .int nv)] := hl
  refine lv_iload_n hx hb dX10_sheet_0 rfl (lv_at hl 1 rfl) ?_
  have hPc := hP.sub (ws' := []) [] rfl
  refine nv_cp1 (va_runS (As := [.int sv]) (rest := []) ⟨hx, hb, hml, hown, hts⟩ (c_X10_isSheet l D z sv ) (va_cwS 1 hts (gS m_494 m_495 m_198 m_479) rfl rfl rfl hd_X10_isSheet ⟨Nat.le_of_ble_eq_true rfl, Nat.le_of_ble_eq_true rfl⟩) (nv_preP hK hPc trivial _) rfl rfl hl.1 rfl (lv_room (Nat.le_of_ble_eq_true rfl)) dX10_sheet_1 ⟨by decide, by decide⟩) ?_
  refine nv_beq (tgt := 20) hx hb dX10_sheet_4 (by decide) (fun hc4 => ?_) (fun hc4 => ?_)
  · refine lv_iconst (v := (-1)) hx hb dX10_sheet_20 (by decide +kernel) ?_
    obtain ⟨rfl, rfl, rfl, rfl, rfl⟩ := hrel.1 (by first | exact fun q => hc4 q.1 | exact fun q => hc11 q.2.1 | exact fun q => hc17 q.2.2)
    exact nv_mi hx hb hr hlocks hS dX10_sheet_21 hP trivial rfl
  · refine lv_iload_n hx hb dX10_sheet_7 rfl (lv_at hl 2 rfl) ?_
    have hPc := hP.sub (ws' := []) [] rfl
    refine nv_cp1 (va_runS (As := [.int av]) (rest := []) ⟨hx, hb, hml, hown, hts⟩ (c_X10_isLane l D z av ) (va_cwS 1 hts (gS m_496 m_497 m_198 m_480) rfl rfl rfl hd_X10_isLane ⟨Nat.le_of_ble_eq_true rfl, Nat.le_of_ble_eq_true rfl⟩) (nv_preP hK hPc trivial _) rfl rfl hl.1 rfl (lv_room (Nat.le_of_ble_eq_true rfl)) dX10_sheet_8 ⟨by decide, by decide⟩) ?_
    refine nv_beq (tgt := 20) hx hb dX10_sheet_11 (by decide) (fun hc11 => ?_) (fun hc11 => ?_)
    · refine lv_iconst (v := (-1)) hx hb dX10_sheet_20 (by decide +kernel) ?_
      obtain ⟨rfl, rfl, rfl, rfl, rfl⟩ := hrel.1 (by first | exact fun q => hc4 q.1 | exact fun q => hc11 q.2.1 | exact fun q => hc17 q.2.2)
      exact nv_mi hx hb hr hlocks hS dX10_sheet_21 hP trivial rfl
    · refine lv_iload_n hx hb dX10_sheet_14 rfl (lv_at hl 3 rfl) ?_
      refine lv_bipush (v := nI 24) hx hb dX10_sheet_15 (by decide +kernel) ?_
      refine lv_icmp_le (tgt := 22) hx hb dX10_sheet_17 (by decide) (fun hc17 => ?_) (fun hc17 => ?_)
      · refine lv_iload_n hx hb dX10_sheet_22 rfl (lv_at hl 3 rfl) ?_
        refine lv_if_ge (tgt := 29) hx hb dX10_sheet_23 (by decide) (fun hc23 => ?_) (fun hc23 => ?_)
        · obtain rfl := hsv hc4
          have hs1 := hso sq (by omega)
          obtain ⟨aq, rfl, aq0, aq1⟩ := wi_nat (b := 3) (by decide) hc11
          obtain ⟨nq, hn9, rfl⟩ := nI_of (x := nv) (Int32.not_lt.mpr hc23)
          have hn24 : nq ≤ 24 := (nI_leI (by omega) (by decide)).mp hc17
          obtain ⟨rfl, rfl, rfl, rfl, rfl⟩ := hrel.2.2 sq aq nq rfl rfl rfl (by omega) (by omega) (by omega)
          refine lv_aload_n hx hb dX10_sheet_29 rfl (lv_at hl 0 rfl) ?_
          refine va_get (D := D) (ci := 10) (v := .ref rw9) (C := RX10) (T := TX10) (N := 8) hx hb hts iX10 hown hK.1 hP 0 rfl rfl 7 (by decide) (hts _ m_360) (fun _ h9 => h9) rfl dX10_sheet_30 ?_
          refine lv_iload_n hx hb dX10_sheet_33 rfl (lv_at hl 1 rfl) ?_
          refine nv_rald (v := some ro) hx hb hK hP 1 rfl (by omega) (by decide) hrf dX10_sheet_34 ?_
          refine W.eq (g2 := F0 m 35 ls [.ref ro]) rfl ?_
          refine lv_iload_n hx hb dX10_sheet_35 rfl (lv_at hl 2 rfl) ?_
          refine lv_iload_n hx hb dX10_sheet_36 rfl (lv_at hl 3 rfl) ?_
          have hPc := hP.sub (ws' := [(ro, .inr (7, [.ref ri, .int (nI (shQ sq)), .int (nI (ln sq)), .int (nI (mnQ sq))])), aL z ri 24 (itS it sq)]) [2, 3] rfl
          have hDc := hD.sub (ws' := [(ro, .inr (7, [.ref ri, .int (nI (shQ sq)), .int (nI (ln sq)), .int (nI (mnQ sq))])), aL z ri 24 (itS it sq)]) [2, 3] (by decide) rfl
          refine nv_cm0 (wc := [(ro, .inr (7, [.ref ri, .int (nI (shQ sq)), .int (nI (ln sq)), .int (nI (mnQ sq))])), aL z ri 24 (itS it sq)]) (wr := [(o, .inr (10, [.ref hn, .ref pq, .ref gi, .ref gp, .int (nI ik), .ref h2, .ref tp, .ref rw9])), aR z rw9 4 rf]) (w1 := [(ro, .inr (7, [.ref ri, .int (nI 1), .int (nI aq), .int (nI nq)])), aL z ri 24 (fun _ => 0)]) (ws1 := [(o, .inr (10, [.ref hn, .ref pq, .ref gi, .ref gp, .int (nI ik), .ref h2, .ref tp, .ref rw9])), aR z rw9 4 rf, (ro, .inr (7, [.ref ri, .int (nI 1), .int (nI aq), .int (nI nq)])), aL z ri 24 (fun _ => 0)]) (va_runV (As := [.int (nI aq), .int (nI nq)]) (rest := []) ⟨hx, hb, hml, hown, hts⟩ (c_X7_begin l D z s.heap.size ro ri (shQ sq) (ln sq) (mnQ sq) (itS it sq) aq nq ) (cwV 2 hts (gV m_510 m_511 m_512 m_181 m_175) rfl rfl rfl ⟨rfl, hd_X7_begin⟩ ⟨Nat.le_of_ble_eq_true rfl, Nat.le_of_ble_eq_true rfl⟩) (nv_preMV (ci := 7) (q0 := 0) hK hPc hDc trivial rfl rfl) rfl rfl hl.1 rfl (lv_room (Nat.le_of_ble_eq_true rfl)) dX10_sheet_37 ⟨by decide, by decide⟩) hP hD hS hA [2, 3] [0, 1] [0, 1, 2, 3] rfl rfl (by decide) (by decide) rfl (by decide) rfl (by decide) (fun H locs hP hD hS hE37 hz37 hf37 => ?_)
          clear hPc hDc
          clear hf37 hz37
          refine lv_iload_n hx hb dX10_sheet_40 rfl (lv_at hl 3 rfl) ?_
          exact nv_mi hx hb hr hlocks hS dX10_sheet_41 (by rw [uN_s, uN_s, uN_s]; exact va_P.cgL hP 3 rfl (fun i hiQ => by rw [itS_at, zeF_at, if_pos (by omega)])) trivial rfl
        · refine lv_bipush (v := (-14)) hx hb dX10_sheet_26 (by decide +kernel) ?_
          obtain ⟨rfl, rfl, rfl, rfl, rfl⟩ := hrel.2.1 hc4 hc11 (Int32.not_le.mp hc23)
          exact nv_mi hx hb hr hlocks hS dX10_sheet_28 hP trivial rfl
      · refine lv_iconst (v := (-1)) hx hb dX10_sheet_20 (by decide +kernel) ?_
        obtain ⟨rfl, rfl, rfl, rfl, rfl⟩ := hrel.1 (by first | exact fun q => hc4 q.1 | exact fun q => hc11 q.2.1 | exact fun q => hc17 q.2.2)
        exact nv_mi hx hb hr hlocks hS dX10_sheet_21 hP trivial rfl

set_option maxHeartbeats 4000000 in
set_option maxRecDepth 100000 in
theorem c_X10_drop (l : Launch) (D : va_G) (z : Nat → ClassId) (sz : Nat) (o : Nat) (hn : Nat) (pq : Nat) (gi : Nat) (gp : Nat) (ik : Nat) (h2 : Nat) (tp : Nat) (rw9 : Nat) (rf : Nat → Option Nat) (ro : Nat) (ri : Nat) (shQ : Nat → Nat) (ln : Nat → Nat) (mnQ : Nat → Nat) (it : Nat → Int64) (sq : Nat) (sv : Int32) (sh1 : Nat → Nat) (vQ : Int32) (hso : sOK shQ ln mnQ) (hq3 : sq ≤ 3) (hrf : rf sq = some ro) (hsv : wi sv 0 3 → sv = nI sq) (hrel : dpRel shQ mnQ sv sh1 vQ) : CM l yX10_drop cX10_drop 3 (some .int) 2 42 0 0 [.ref o, .int sv] D z [(o, .inr (10, [.ref hn, .ref pq, .ref gi, .ref gp, .int (nI ik), .ref h2, .ref tp, .ref rw9])), aR z rw9 4 rf, (ro, .inr (7, [.ref ri, .int (nI (shQ sq)), .int (nI (ln sq)), .int (nI (mnQ sq))]))] sz (fun _ => True) [(o, .inr (10, [.ref hn, .ref pq, .ref gi, .ref gp, .int (nI ik), .ref h2, .ref tp, .ref rw9])), aR z rw9 4 rf, (ro, .inr (7, [.ref ri, .int (nI (sh1 sq)), .int (nI (ln sq)), .int (nI (mnQ sq))]))] (some (.int vQ)) (fun _ => True) := by
  refine Met.ofW (cc := cX10_drop) (maxL := 3) (ret := (some .int)) (by decide) rfl ?_
  intro pg e s m args below meth c s₁ B hml hv
  obtain ⟨rfl, hsz, hP, hK, hD0, hE⟩ := hv
  have hx := B.exec
  have hb := B.bytes
  have hr := B.returns
  have hts : ∀ w ∈ ALL, w.before _ s = true := fun w h => atoms_spec (ws := wA yX10_drop cX10_drop 3 (some .int)) B.pre w (List.mem_cons_of_mem _ h)
  have hown : s.vm.findClass RX10 = some m.cls := findClass_of_methodNamed B.named
  have hlocks := B.notSynchronized
  subst hsz
  have hD := hD0.self (sz := s.heap.size)
  have hA : ∀ q : Nat, s.heap.size ≤ q → va_A [(o, .inr (10, [.ref hn, .ref pq, .ref gi, .ref gp, .int (nI ik), .ref h2, .ref tp, .ref rw9])), aR z rw9 4 rf, (ro, .inr (7, [.ref ri, .int (nI (shQ sq)), .int (nI (ln sq)), .int (nI (mnQ sq))]))] s.heap.size q := fun q h => Or.inr h
  generalize va_A [(o, .inr (10, [.ref hn, .ref pq, .ref gi, .ref gp, .int (nI ik), .ref h2, .ref tp, .ref rw9])), aR z rw9 4 rf, (ro, .inr (7, [.ref ri, .int (nI (shQ sq)), .int (nI (ln sq)), .int (nI (mnQ sq))]))] s.heap.size = A at *
  have hS : va_S A s.heap s.heap [] := va_S.rf
  have hl := lv_entry ([.ref o, .int sv]) (n := 3) (Nat.le_of_ble_eq_true rfl)
  rw [lg_entry_eq]
  generalize (lg_sl ([.ref o, .int sv]) ++ List.replicate (3 - (lg_sl ([.ref o, .int sv])).length) Slot.unset).toArray = ls at hl ⊢
  have hl : lv_has ls 3 [(0, .ref o), (1, .int sv)] := hl
  refine lv_iload_n hx hb dX10_drop_0 rfl (lv_at hl 1 rfl) ?_
  have hPc := hP.sub (ws' := []) [] rfl
  refine nv_cp1 (va_runS (As := [.int sv]) (rest := []) ⟨hx, hb, hml, hown, hts⟩ (c_X10_isSheet l D z sv ) (va_cwS 1 hts (gS m_494 m_495 m_198 m_479) rfl rfl rfl hd_X10_isSheet ⟨Nat.le_of_ble_eq_true rfl, Nat.le_of_ble_eq_true rfl⟩) (nv_preP hK hPc trivial _) rfl rfl hl.1 rfl (lv_room (Nat.le_of_ble_eq_true rfl)) dX10_drop_1 ⟨by decide, by decide⟩) ?_
  refine nv_bne (tgt := 9) hx hb dX10_drop_4 (by decide) (fun hc4 => ?_) (fun hc4 => ?_)
  · obtain rfl := hsv hc4
    have hs1 := hso sq (by omega)
    refine lv_aload_n hx hb dX10_drop_9 rfl (lv_at hl 0 rfl) ?_
    refine va_get (D := D) (ci := 10) (v := .ref rw9) (C := RX10) (T := TX10) (N := 8) hx hb hts iX10 hown hK.1 hP 0 rfl rfl 7 (by decide) (hts _ m_360) (fun _ h9 => h9) rfl dX10_drop_10 ?_
    refine lv_iload_n hx hb dX10_drop_13 rfl (lv_at hl 1 rfl) ?_
    refine nv_rald (v := some ro) hx hb hK hP 1 rfl (by omega) (by decide) hrf dX10_drop_14 ?_
    refine W.eq (g2 := F0 m 15 ls [.ref ro]) rfl ?_
    refine lv_astore_n (lv' := [(2, .ref ro), (0, .ref o), (1, .int (nI sq))]) hx hb dX10_drop_15 rfl hl (by decide) rfl (fun ls hl => ?_)
    refine lv_aload_n hx hb dX10_drop_16 rfl (lv_at hl 0 rfl) ?_
    refine va_get (D := D) (ci := 7) (v := .int (nI (shQ sq))) (C := RX7) (T := TX7) (N := 4) hx hb hts iX7 hown hK.1 hP 2 rfl rfl 1 (by decide) (hts _ m_514) (fun _ h9 => h9) rfl dX10_drop_17 ?_
    refine nv_ifne (tgt := 26) hx hb (by omega) dX10_drop_20 (by decide) (fun hc20 => ?_) (fun hc20 => ?_)
    · obtain ⟨rfl, rfl⟩ := hrel.2.2 sq rfl (by omega) hc20
      refine lv_aload_n hx hb dX10_drop_26 rfl (lv_at hl 0 rfl) ?_
      refine lv_iconst (v := nI 0) hx hb dX10_drop_27 (by decide +kernel) ?_
      refine va_put (D := D) (ci := 7) (v := .int (nI 0)) (ty := tyX7 1) (C := RX7) (T := TX7) (N := 4) hx hb hts iX7 tyX7 tyX7_ok nmX7 hown hK.1 hP hD hS 2 rfl rfl 1 (by decide) (hts _ m_514) (fun _ h9 => h9) rfl (tyX7_ok 1 (by decide)) rfl rfl (Nat.le_of_ble_eq_true rfl) dX10_drop_28 (fun H locs hP hD hS => ?_)
      have hP : va_P D vwCl [(o, .inr (10, [.ref hn, .ref pq, .ref gi, .ref gp, .int (nI ik), .ref h2, .ref tp, .ref rw9])), aR z rw9 4 rf, (ro, .inr (7, [.ref ri, .int (nI 0), .int (nI (ln sq)), .int (nI (mnQ sq))]))] H := hP
      have hD : va_D A [(o, .inr (10, [.ref hn, .ref pq, .ref gi, .ref gp, .int (nI ik), .ref h2, .ref tp, .ref rw9])), aR z rw9 4 rf, (ro, .inr (7, [.ref ri, .int (nI 0), .int (nI (ln sq)), .int (nI (mnQ sq))]))] := hD
      refine lv_aload_n hx hb dX10_drop_31 rfl (lv_at hl 0 rfl) ?_
      refine va_get (D := D) (ci := 7) (v := .int (nI (mnQ sq))) (C := RX7) (T := TX7) (N := 4) hx hb hts iX7 hown hK.1 hP 2 rfl rfl 3 (by decide) (hts _ m_515) (fun _ h9 => h9) rfl dX10_drop_32 ?_
      exact nv_mi hx hb hr hlocks hS dX10_drop_35 (by rw [uN_s]; exact hP) trivial rfl
    · refine lv_bipush (v := (-11)) hx hb dX10_drop_23 (by decide +kernel) ?_
      obtain ⟨rfl, rfl⟩ := hrel.2.1 sq rfl (by omega) hc20
      exact nv_mi hx hb hr hlocks hS dX10_drop_25 hP trivial rfl
  · refine lv_iconst (v := (-1)) hx hb dX10_drop_7 (by decide +kernel) ?_
    obtain ⟨rfl, rfl⟩ := hrel.1 hc4
    exact nv_mi hx hb hr hlocks hS dX10_drop_8 hP trivial rfl

set_option maxHeartbeats 4000000 in
set_option maxRecDepth 100000 in
theorem c_X10_item (l : Launch) (D : va_G) (z : Nat → ClassId) (sz : Nat) (o : Nat) (hn : Nat) (pq : Nat) (gi : Nat) (gp : Nat) (ik : Nat) (h2 : Nat) (tp : Nat) (rw9 : Nat) (rf : Nat → Option Nat) (ro : Nat) (ri : Nat) (shQ : Nat → Nat) (ln : Nat → Nat) (mnQ : Nat → Nat) (it : Nat → Int64) (sq : Nat) (sv : Int32) (av : Int32) (ivQ : Int32) (xv : Int64) (it1 : Nat → Int64) (vQ : Int32) (hso : sOK shQ ln mnQ) (hq3 : sq ≤ 3) (hrf : rf sq = some ro) (hsv : wi sv 0 3 → sv = nI sq) (hrel : itRel shQ ln mnQ it sv av ivQ xv it1 vQ) : CM l yX10_item cX10_item 8 (some .int) 2 45 0 0 [.ref o, .int sv, .int av, .int ivQ, .long xv] D z [(o, .inr (10, [.ref hn, .ref pq, .ref gi, .ref gp, .int (nI ik), .ref h2, .ref tp, .ref rw9])), aR z rw9 4 rf, (ro, .inr (7, [.ref ri, .int (nI (shQ sq)), .int (nI (ln sq)), .int (nI (mnQ sq))])), aL z ri 24 (itS it sq)] sz (fun _ => True) [(o, .inr (10, [.ref hn, .ref pq, .ref gi, .ref gp, .int (nI ik), .ref h2, .ref tp, .ref rw9])), aR z rw9 4 rf, (ro, .inr (7, [.ref ri, .int (nI (shQ sq)), .int (nI (ln sq)), .int (nI (mnQ sq))])), aL z ri 24 (itS it1 sq)] (some (.int vQ)) (fun _ => True) := by
  refine Met.ofW (cc := cX10_item) (maxL := 8) (ret := (some .int)) (by decide) rfl ?_
  intro pg e s m args below meth c s₁ B hml hv
  obtain ⟨rfl, hsz, hP, hK, hD0, hE⟩ := hv
  have hx := B.exec
  have hb := B.bytes
  have hr := B.returns
  have hts : ∀ w ∈ ALL, w.before _ s = true := fun w h => atoms_spec (ws := wA yX10_item cX10_item 8 (some .int)) B.pre w (List.mem_cons_of_mem _ h)
  have hown : s.vm.findClass RX10 = some m.cls := findClass_of_methodNamed B.named
  have hlocks := B.notSynchronized
  subst hsz
  have hD := hD0.self (sz := s.heap.size)
  have hA : ∀ q : Nat, s.heap.size ≤ q → va_A [(o, .inr (10, [.ref hn, .ref pq, .ref gi, .ref gp, .int (nI ik), .ref h2, .ref tp, .ref rw9])), aR z rw9 4 rf, (ro, .inr (7, [.ref ri, .int (nI (shQ sq)), .int (nI (ln sq)), .int (nI (mnQ sq))])), aL z ri 24 (itS it sq)] s.heap.size q := fun q h => Or.inr h
  generalize va_A [(o, .inr (10, [.ref hn, .ref pq, .ref gi, .ref gp, .int (nI ik), .ref h2, .ref tp, .ref rw9])), aR z rw9 4 rf, (ro, .inr (7, [.ref ri, .int (nI (shQ sq)), .int (nI (ln sq)), .int (nI (mnQ sq))])), aL z ri 24 (itS it sq)] s.heap.size = A at *
  have hS : va_S A s.heap s.heap [] := va_S.rf
  have hl := lv_entry ([.ref o, .int sv, .int av, .int ivQ, .long xv]) (n := 8) (Nat.le_of_ble_eq_true rfl)
  rw [lg_entry_eq]
  generalize (lg_sl ([.ref o, .int sv, .int av, .int ivQ, .long xv]) ++ List.replicate (8 - (lg_sl ([.ref o, .int sv, .int av, .int ivQ, .long xv])).length) Slot.unset).toArray = ls at hl ⊢
  have hl : lv_has ls 8 [(0, .ref o), (1, .int sv), (2, .int av), (3, .int ivQ), (4, .long xv)] := hl
  refine lv_iload_n hx hb dX10_item_0 rfl (lv_at hl 1 rfl) ?_
  have hPc := hP.sub (ws' := []) [] rfl
  refine nv_cp1 (va_runS (As := [.int sv]) (rest := []) ⟨hx, hb, hml, hown, hts⟩ (c_X10_isSheet l D z sv ) (va_cwS 1 hts (gS m_494 m_495 m_198 m_479) rfl rfl rfl hd_X10_isSheet ⟨Nat.le_of_ble_eq_true rfl, Nat.le_of_ble_eq_true rfl⟩) (nv_preP hK hPc trivial _) rfl rfl hl.1 rfl (lv_room (Nat.le_of_ble_eq_true rfl)) dX10_item_1 ⟨by decide, by decide⟩) ?_
  refine nv_beq (tgt := 14) hx hb dX10_item_4 (by decide) (fun hc4 => ?_) (fun hc4 => ?_)
  · refine lv_iconst (v := (-1)) hx hb dX10_item_14 (by decide +kernel) ?_
    obtain ⟨rfl, rfl⟩ := hrel.1 (by first | exact fun q => hc4 q.1 | exact fun q => hc11 q.2)
    exact nv_mi hx hb hr hlocks hS dX10_item_15 hP trivial rfl
  · refine lv_iload_n hx hb dX10_item_7 rfl (lv_at hl 2 rfl) ?_
    have hPc := hP.sub (ws' := []) [] rfl
    refine nv_cp1 (va_runS (As := [.int av]) (rest := []) ⟨hx, hb, hml, hown, hts⟩ (c_X10_isLane l D z av ) (va_cwS 1 hts (gS m_496 m_497 m_198 m_480) rfl rfl rfl hd_X10_isLane ⟨Nat.le_of_ble_eq_true rfl, Nat.le_of_ble_eq_true rfl⟩) (nv_preP hK hPc trivial _) rfl rfl hl.1 rfl (lv_room (Nat.le_of_ble_eq_true rfl)) dX10_item_8 ⟨by decide, by decide⟩) ?_
    refine nv_bne (tgt := 16) hx hb dX10_item_11 (by decide) (fun hc11 => ?_) (fun hc11 => ?_)
    · obtain rfl := hsv hc4
      have hs1 := hso sq (by omega)
      refine lv_aload_n hx hb dX10_item_16 rfl (lv_at hl 0 rfl) ?_
      refine va_get (D := D) (ci := 10) (v := .ref rw9) (C := RX10) (T := TX10) (N := 8) hx hb hts iX10 hown hK.1 hP 0 rfl rfl 7 (by decide) (hts _ m_360) (fun _ h9 => h9) rfl dX10_item_17 ?_
      refine lv_iload_n hx hb dX10_item_20 rfl (lv_at hl 1 rfl) ?_
      refine nv_rald (v := some ro) hx hb hK hP 1 rfl (by omega) (by decide) hrf dX10_item_21 ?_
      refine W.eq (g2 := F0 m 22 ls [.ref ro]) rfl ?_
      refine lv_astore (lv' := [(6, .ref ro), (0, .ref o), (1, .int (nI sq)), (2, .int av), (3, .int ivQ), (4, .long xv)]) hx hb dX10_item_22 hl (by decide) rfl (fun ls hl => ?_)
      refine lv_aload hx hb dX10_item_24 (lv_at hl 0 rfl) ?_
      refine lv_iload_n hx hb dX10_item_26 rfl (lv_at hl 3 rfl) ?_
      refine lv_iload_n hx hb dX10_item_27 rfl (lv_at hl 4 rfl) ?_
      refine lv_iconst (v := nI 1) hx hb dX10_item_28 (by decide +kernel) ?_
      have hPc := hP.sub (ws' := [(ro, .inr (7, [.ref ri, .int (nI (shQ sq)), .int (nI (ln sq)), .int (nI (mnQ sq))]))]) [2] rfl
      refine nv_cp1 (va_runV (As := [.int av, .int ivQ, .int (nI 1)]) (rest := []) ⟨hx, hb, hml, hown, hts⟩ (c_X7_refuses l D z ro ri (shQ sq) (ln sq) (mnQ sq) av ivQ (nI 1) (by first | assumption | omega) (by first | assumption | omega)) (cwV 3 hts (gV m_498 m_499 m_500 m_181 m_177) rfl rfl rfl ⟨rfl, hd_X7_refuses⟩ ⟨Nat.le_of_ble_eq_true rfl, Nat.le_of_ble_eq_true rfl⟩) (nv_prePV (ci := 7) (q0 := 0) hK hPc trivial rfl rfl) rfl rfl hl.1 rfl (lv_room (Nat.le_of_ble_eq_true rfl)) dX10_item_29 ⟨by decide, by decide⟩) ?_
      refine lv_istore (lv' := [(7, .int (foV (shQ sq) (ln sq) (mnQ sq) av ivQ (nI 1))), (6, .ref ro), (0, .ref o), (1, .int (nI sq)), (2, .int av), (3, .int ivQ), (4, .long xv)]) hx hb dX10_item_32 hl (by decide) rfl (fun ls hl => ?_)
      refine lv_iload hx hb dX10_item_34 (lv_at hl 0 rfl) ?_
      refine lv_if_eq (tgt := 42) hx hb dX10_item_36 (by decide) (fun hc36 => ?_) (fun hc36 => ?_)
      · obtain ⟨f1, f2, f3⟩ := foV_0 hc36
        obtain ⟨aq, rfl, aq0, aq1⟩ := wi_nat (b := 3) (by decide) hc11
        obtain ⟨iq, rfl, hiq⟩ := inb_nat (by decide) (by omega) f3
        obtain ⟨rfl, rfl⟩ := hrel.2.2 sq aq iq rfl rfl rfl (by omega) (by omega) (by omega) hc36
        have f2 : ln sq = aq := nI_inj (by omega) (by omega) f2
        refine lv_aload hx hb dX10_item_42 (lv_at hl 1 rfl) ?_
        refine lv_iload_n hx hb dX10_item_44 rfl (lv_at hl 5 rfl) ?_
        refine lv_lload hx hb dX10_item_45 (lv_at hl 6 rfl) ?_
        have hPc := hP.sub (ws' := [(ro, .inr (7, [.ref ri, .int (nI (shQ sq)), .int (nI (ln sq)), .int (nI (mnQ sq))])), aL z ri 24 (itS it sq)]) [2, 3] rfl
        have hDc := hD.sub (ws' := [(ro, .inr (7, [.ref ri, .int (nI (shQ sq)), .int (nI (ln sq)), .int (nI (mnQ sq))])), aL z ri 24 (itS it sq)]) [2, 3] (by decide) rfl
        refine nv_cm0 (wc := [(ro, .inr (7, [.ref ri, .int (nI (shQ sq)), .int (nI (ln sq)), .int (nI (mnQ sq))])), aL z ri 24 (itS it sq)]) (wr := [(o, .inr (10, [.ref hn, .ref pq, .ref gi, .ref gp, .int (nI ik), .ref h2, .ref tp, .ref rw9])), aR z rw9 4 rf]) (w1 := [(ro, .inr (7, [.ref ri, .int (nI (shQ sq)), .int (nI (ln sq)), .int (nI (mnQ sq))])), aL z ri 24 (vp_updL (itS it sq) iq (cutF (ln sq) xv))]) (ws1 := [(o, .inr (10, [.ref hn, .ref pq, .ref gi, .ref gp, .int (nI ik), .ref h2, .ref tp, .ref rw9])), aR z rw9 4 rf, (ro, .inr (7, [.ref ri, .int (nI (shQ sq)), .int (nI (ln sq)), .int (nI (mnQ sq))])), aL z ri 24 (vp_updL (itS it sq) iq (cutF (ln sq) xv))]) (va_runV (As := [.int (nI iq), .long xv]) (rest := []) ⟨hx, hb, hml, hown, hts⟩ (c_X7_put l D z s.heap.size ro ri (shQ sq) (ln sq) (mnQ sq) (itS it sq) iq xv (by first | assumption | omega) (by first | assumption | omega) (by first | assumption | omega)) (cwV 2 hts (gV m_505 m_506 m_507 m_181 m_182) rfl rfl rfl ⟨rfl, hd_X7_put⟩ ⟨Nat.le_of_ble_eq_true rfl, Nat.le_of_ble_eq_true rfl⟩) (nv_preMV (ci := 7) (q0 := 0) hK hPc hDc trivial rfl rfl) rfl rfl hl.1 rfl (lv_room (Nat.le_of_ble_eq_true rfl)) dX10_item_47 ⟨by decide, by decide⟩) hP hD hS hA [2, 3] [0, 1] [0, 1, 2, 3] rfl rfl (by decide) (by decide) rfl (by decide) rfl (by decide) (fun H locs hP hD hS hE47 hz47 hf47 => ?_)
        clear hPc hDc
        clear hf47 hz47
        refine lv_iconst (v := nI 1) hx hb dX10_item_50 (by decide +kernel) ?_
        exact nv_mi hx hb hr hlocks hS dX10_item_51 (by rw [itS_upd, ← f2]; exact hP) trivial rfl
      · refine lv_iload hx hb dX10_item_39 (lv_at hl 0 rfl) ?_
        obtain ⟨rfl, rfl⟩ := hrel.2.1 sq rfl (by omega) hc11 hc36
        exact nv_mi hx hb hr hlocks hS dX10_item_41 hP trivial rfl
    · refine lv_iconst (v := (-1)) hx hb dX10_item_14 (by decide +kernel) ?_
      obtain ⟨rfl, rfl⟩ := hrel.1 (by first | exact fun q => hc4 q.1 | exact fun q => hc11 q.2)
      exact nv_mi hx hb hr hlocks hS dX10_item_15 hP trivial rfl

set_option maxHeartbeats 4000000 in
set_option maxRecDepth 100000 in
theorem c_X10_film (l : Launch) (D : va_G) (z : Nat → ClassId) (sz : Nat) (w0Q : Nat) (o : Nat) (hn : Nat) (pq : Nat) (gi : Nat) (gp : Nat) (ik : Nat) (h2 : Nat) (tp : Nat) (rw9 : Nat) (hp : Nat) (hh : Nat) (pf : Nat → Option Nat) (rQ : Nat → Nat) (hp2 : Nat) (hh2 : Nat) (tf0 : Nat → Option Nat) (t0 : Nat → Nat) (rf : Nat → Option Nat) (ro : Nat) (ri : Nat) (shQ : Nat → Nat) (ln : Nat → Nat) (mnQ : Nat → Nat) (it : Nat → Int64) (sq : Nat) (nv : Int32) (sv : Int32) (av : Int32) (ivQ : Int32) (it1 : Nat → Int64) (vQ : Int32) (hok : rOK w0Q rQ) (hw : w0Q ≤ 10000) (hso : sOK shQ ln mnQ) (hq3 : sq ≤ 3) (hrf : rf sq = some ro) (hsv : wi sv 0 3 → sv = nI sq) (hrel : fiRel rQ shQ ln mnQ it nv sv av ivQ it1 vQ) : CX (σ := (Nat → Nat) × (Nat → Option Nat)) l yX10_film cX10_film 8 (some .int) 3 77 0 0 [.ref o, .int nv, .int sv, .int av, .int ivQ] D z [(o, .inr (10, [.ref hn, .ref pq, .ref gi, .ref gp, .int (nI ik), .ref h2, .ref tp, .ref rw9])), (hn, .inr (3, [.ref hp, .ref hh, .int (nI (rQ 6)), .int (nI (hpF rQ (rQ 6))), .int (nI (chF rQ (rQ 6))), .int (nI (rQ 0)), .int (nI (rQ 1)), .int (nI (rQ 2)), .int (nI (rQ 3)), .int (nI (rQ 4)), .int (nI (rQ 5))])), aP z hp 6 pf, aN z hh 6 (hbA rQ), (h2, .inr (3, [.ref hp2, .ref hh2, .int (nI (t0 6)), .int (nI (hpF t0 (t0 6))), .int (nI (chF t0 (t0 6))), .int (nI (t0 0)), .int (nI (t0 1)), .int (nI (t0 2)), .int (nI (t0 3)), .int (nI (t0 4)), .int (nI (t0 5))])), aP z hp2 6 tf0, aN z hh2 6 (hbA t0), aR z rw9 4 rf, (ro, .inr (7, [.ref ri, .int (nI (shQ sq)), .int (nI (ln sq)), .int (nI (mnQ sq))])), aL z ri 24 (itS it sq)] sz (fun H => peH D [(o, .inr (10, [.ref hn, .ref pq, .ref gi, .ref gp, .int (nI ik), .ref h2, .ref tp, .ref rw9])), (hn, .inr (3, [.ref hp, .ref hh, .int (nI (rQ 6)), .int (nI (hpF rQ (rQ 6))), .int (nI (chF rQ (rQ 6))), .int (nI (rQ 0)), .int (nI (rQ 1)), .int (nI (rQ 2)), .int (nI (rQ 3)), .int (nI (rQ 4)), .int (nI (rQ 5))])), aP z hp 6 pf, aN z hh 6 (hbA rQ), (h2, .inr (3, [.ref hp2, .ref hh2, .int (nI (t0 6)), .int (nI (hpF t0 (t0 6))), .int (nI (chF t0 (t0 6))), .int (nI (t0 0)), .int (nI (t0 1)), .int (nI (t0 2)), .int (nI (t0 3)), .int (nI (t0 4)), .int (nI (t0 5))])), aP z hp2 6 tf0, aN z hh2 6 (hbA t0), aR z rw9 4 rf, (ro, .inr (7, [.ref ri, .int (nI (shQ sq)), .int (nI (ln sq)), .int (nI (mnQ sq))])), aL z ri 24 (itS it sq)] pf rQ H) (fun u => [(o, .inr (10, [.ref hn, .ref pq, .ref gi, .ref gp, .int (nI ik), .ref h2, .ref tp, .ref rw9])), (hn, .inr (3, [.ref hp, .ref hh, .int (nI (rQ 6)), .int (nI (hpF rQ (rQ 6))), .int (nI (chF rQ (rQ 6))), .int (nI (rQ 0)), .int (nI (rQ 1)), .int (nI (rQ 2)), .int (nI (rQ 3)), .int (nI (rQ 4)), .int (nI (rQ 5))])), aP z hp 6 pf, aN z hh 6 (hbA rQ), (h2, .inr (3, [.ref hp2, .ref hh2, .int (nI (u.1 6)), .int (nI (hpF u.1 (u.1 6))), .int (nI (chF u.1 (u.1 6))), .int (nI (u.1 0)), .int (nI (u.1 1)), .int (nI (u.1 2)), .int (nI (u.1 3)), .int (nI (u.1 4)), .int (nI (u.1 5))])), aP z hp2 6 u.2, aN z hh2 6 (hbA u.1), aR z rw9 4 rf, (ro, .inr (7, [.ref ri, .int (nI (shQ sq)), .int (nI (ln sq)), .int (nI (mnQ sq))])), aL z ri 24 (itS it1 sq)]) (some (.int vQ)) (fun _ _ => True) := by
  refine Met.ofW (cc := cX10_film) (maxL := 8) (ret := (some .int)) (by decide) rfl ?_
  intro pg e s m args below meth c s₁ B hml hv
  obtain ⟨rfl, hsz, hP, hK, hD0, hE⟩ := hv
  have hx := B.exec
  have hb := B.bytes
  have hr := B.returns
  have hts : ∀ w ∈ ALL, w.before _ s = true := fun w h => atoms_spec (ws := wA yX10_film cX10_film 8 (some .int)) B.pre w (List.mem_cons_of_mem _ h)
  have hown : s.vm.findClass RX10 = some m.cls := findClass_of_methodNamed B.named
  have hlocks := B.notSynchronized
  subst hsz
  have hD := hD0.self (sz := s.heap.size)
  obtain ⟨o0, o1, o1b, o2, o2b, o3, o4, o5, o6, oP⟩ := id hok
  have hN : ∀ (H : Heap) (locs : List Loc), va_S (va_A [(o, .inr (10, [.ref hn, .ref pq, .ref gi, .ref gp, .int (nI ik), .ref h2, .ref tp, .ref rw9])), (hn, .inr (3, [.ref hp, .ref hh, .int (nI (rQ 6)), .int (nI (hpF rQ (rQ 6))), .int (nI (chF rQ (rQ 6))), .int (nI (rQ 0)), .int (nI (rQ 1)), .int (nI (rQ 2)), .int (nI (rQ 3)), .int (nI (rQ 4)), .int (nI (rQ 5))])), aP z hp 6 pf, aN z hh 6 (hbA rQ), (h2, .inr (3, [.ref hp2, .ref hh2, .int (nI (t0 6)), .int (nI (hpF t0 (t0 6))), .int (nI (chF t0 (t0 6))), .int (nI (t0 0)), .int (nI (t0 1)), .int (nI (t0 2)), .int (nI (t0 3)), .int (nI (t0 4)), .int (nI (t0 5))])), aP z hp2 6 tf0, aN z hh2 6 (hbA t0), aR z rw9 4 rf, (ro, .inr (7, [.ref ri, .int (nI (shQ sq)), .int (nI (ln sq)), .int (nI (mnQ sq))])), aL z ri 24 (itS it sq)] s.heap.size) s.heap H locs → peH D [(o, .inr (10, [.ref hn, .ref pq, .ref gi, .ref gp, .int (nI ik), .ref h2, .ref tp, .ref rw9])), (hn, .inr (3, [.ref hp, .ref hh, .int (nI (rQ 6)), .int (nI (hpF rQ (rQ 6))), .int (nI (chF rQ (rQ 6))), .int (nI (rQ 0)), .int (nI (rQ 1)), .int (nI (rQ 2)), .int (nI (rQ 3)), .int (nI (rQ 4)), .int (nI (rQ 5))])), aP z hp 6 pf, aN z hh 6 (hbA rQ), (h2, .inr (3, [.ref hp2, .ref hh2, .int (nI (t0 6)), .int (nI (hpF t0 (t0 6))), .int (nI (chF t0 (t0 6))), .int (nI (t0 0)), .int (nI (t0 1)), .int (nI (t0 2)), .int (nI (t0 3)), .int (nI (t0 4)), .int (nI (t0 5))])), aP z hp2 6 tf0, aN z hh2 6 (hbA t0), aR z rw9 4 rf, (ro, .inr (7, [.ref ri, .int (nI (shQ sq)), .int (nI (ln sq)), .int (nI (mnQ sq))])), aL z ri 24 (itS it sq)] pf rQ H := fun H locs h9 => peH.now hE h9
  have hA : ∀ q : Nat, s.heap.size ≤ q → va_A [(o, .inr (10, [.ref hn, .ref pq, .ref gi, .ref gp, .int (nI ik), .ref h2, .ref tp, .ref rw9])), (hn, .inr (3, [.ref hp, .ref hh, .int (nI (rQ 6)), .int (nI (hpF rQ (rQ 6))), .int (nI (chF rQ (rQ 6))), .int (nI (rQ 0)), .int (nI (rQ 1)), .int (nI (rQ 2)), .int (nI (rQ 3)), .int (nI (rQ 4)), .int (nI (rQ 5))])), aP z hp 6 pf, aN z hh 6 (hbA rQ), (h2, .inr (3, [.ref hp2, .ref hh2, .int (nI (t0 6)), .int (nI (hpF t0 (t0 6))), .int (nI (chF t0 (t0 6))), .int (nI (t0 0)), .int (nI (t0 1)), .int (nI (t0 2)), .int (nI (t0 3)), .int (nI (t0 4)), .int (nI (t0 5))])), aP z hp2 6 tf0, aN z hh2 6 (hbA t0), aR z rw9 4 rf, (ro, .inr (7, [.ref ri, .int (nI (shQ sq)), .int (nI (ln sq)), .int (nI (mnQ sq))])), aL z ri 24 (itS it sq)] s.heap.size q := fun q h => Or.inr h
  generalize va_A [(o, .inr (10, [.ref hn, .ref pq, .ref gi, .ref gp, .int (nI ik), .ref h2, .ref tp, .ref rw9])), (hn, .inr (3, [.ref hp, .ref hh, .int (nI (rQ 6)), .int (nI (hpF rQ (rQ 6))), .int (nI (chF rQ (rQ 6))), .int (nI (rQ 0)), .int (nI (rQ 1)), .int (nI (rQ 2)), .int (nI (rQ 3)), .int (nI (rQ 4)), .int (nI (rQ 5))])), aP z hp 6 pf, aN z hh 6 (hbA rQ), (h2, .inr (3, [.ref hp2, .ref hh2, .int (nI (t0 6)), .int (nI (hpF t0 (t0 6))), .int (nI (chF t0 (t0 6))), .int (nI (t0 0)), .int (nI (t0 1)), .int (nI (t0 2)), .int (nI (t0 3)), .int (nI (t0 4)), .int (nI (t0 5))])), aP z hp2 6 tf0, aN z hh2 6 (hbA t0), aR z rw9 4 rf, (ro, .inr (7, [.ref ri, .int (nI (shQ sq)), .int (nI (ln sq)), .int (nI (mnQ sq))])), aL z ri 24 (itS it sq)] s.heap.size = A at *
  have hS : va_S A s.heap s.heap [] := va_S.rf
  have hl := lv_entry ([.ref o, .int nv, .int sv, .int av, .int ivQ]) (n := 8) (Nat.le_of_ble_eq_true rfl)
  rw [lg_entry_eq]
  generalize (lg_sl ([.ref o, .int nv, .int sv, .int av, .int ivQ]) ++ List.replicate (8 - (lg_sl ([.ref o, .int nv, .int sv, .int av, .int ivQ])).length) Slot.unset).toArray = ls at hl ⊢
  have hl : lv_has ls 8 [(0, .ref o), (1, .int nv), (2, .int sv), (3, .int av), (4, .int ivQ)] := hl
  refine lv_iload_n hx hb dX10_film_0 rfl (lv_at hl 1 rfl) ?_
  refine lv_iconst (v := nI 1) hx hb dX10_film_1 (by decide +kernel) ?_
  refine lv_bipush (v := nI 24) hx hb dX10_film_2 (by decide +kernel) ?_
  have hPc := hP.sub (ws' := []) [] rfl
  refine nv_cp1 (va_runS (As := [.int nv, .int (nI 1), .int (nI 24)]) (rest := []) ⟨hx, hb, hml, hown, hts⟩ (c_X10_within l D z nv (nI 1) (nI 24) ) (va_cwS 3 hts (gS m_368 m_197 m_198 m_195) rfl rfl rfl hd_X10_within ⟨Nat.le_of_ble_eq_true rfl, Nat.le_of_ble_eq_true rfl⟩) (nv_preP hK hPc trivial _) rfl rfl hl.1 rfl (lv_room (Nat.le_of_ble_eq_true rfl)) dX10_film_4 ⟨by decide, by decide⟩) ?_
  refine nv_inwi (a := ((1 : Nat) : Int)) (b := ((24 : Nat) : Int)) (nI_toInt (by omega)) (nI_toInt (by omega)) ?_
  refine nv_beq (tgt := 24) hx hb dX10_film_7 (by decide) (fun hc7 => ?_) (fun hc7 => ?_)
  · refine lv_iconst (v := (-1)) hx hb dX10_film_24 (by decide +kernel) ?_
    obtain ⟨rfl, rfl⟩ := hrel.1 (by first | exact fun q => hc7 q.1 | exact fun q => hc14 q.2.1 | exact fun q => hc21 q.2.2)
    exact nv_xi hx hb hr hlocks hS dX10_film_25 (t0, tf0) hP trivial rfl
  · refine lv_iload_n hx hb dX10_film_10 rfl (lv_at hl 2 rfl) ?_
    have hPc := hP.sub (ws' := []) [] rfl
    refine nv_cp1 (va_runS (As := [.int sv]) (rest := []) ⟨hx, hb, hml, hown, hts⟩ (c_X10_isSheet l D z sv ) (va_cwS 1 hts (gS m_494 m_495 m_198 m_479) rfl rfl rfl hd_X10_isSheet ⟨Nat.le_of_ble_eq_true rfl, Nat.le_of_ble_eq_true rfl⟩) (nv_preP hK hPc trivial _) rfl rfl hl.1 rfl (lv_room (Nat.le_of_ble_eq_true rfl)) dX10_film_11 ⟨by decide, by decide⟩) ?_
    refine nv_beq (tgt := 24) hx hb dX10_film_14 (by decide) (fun hc14 => ?_) (fun hc14 => ?_)
    · refine lv_iconst (v := (-1)) hx hb dX10_film_24 (by decide +kernel) ?_
      obtain ⟨rfl, rfl⟩ := hrel.1 (by first | exact fun q => hc7 q.1 | exact fun q => hc14 q.2.1 | exact fun q => hc21 q.2.2)
      exact nv_xi hx hb hr hlocks hS dX10_film_25 (t0, tf0) hP trivial rfl
    · refine lv_iload_n hx hb dX10_film_17 rfl (lv_at hl 3 rfl) ?_
      have hPc := hP.sub (ws' := []) [] rfl
      refine nv_cp1 (va_runS (As := [.int av]) (rest := []) ⟨hx, hb, hml, hown, hts⟩ (c_X10_isLane l D z av ) (va_cwS 1 hts (gS m_496 m_497 m_198 m_480) rfl rfl rfl hd_X10_isLane ⟨Nat.le_of_ble_eq_true rfl, Nat.le_of_ble_eq_true rfl⟩) (nv_preP hK hPc trivial _) rfl rfl hl.1 rfl (lv_room (Nat.le_of_ble_eq_true rfl)) dX10_film_18 ⟨by decide, by decide⟩) ?_
      refine nv_bne (tgt := 26) hx hb dX10_film_21 (by decide) (fun hc21 => ?_) (fun hc21 => ?_)
      · obtain ⟨kq, rfl, kq0, kq1⟩ := wi_nat (b := 24) (by decide) hc7
        obtain rfl := hsv hc14
        have hs1 := hso sq (by omega)
        refine lv_aload_n hx hb dX10_film_26 rfl (lv_at hl 0 rfl) ?_
        refine va_get (D := D) (ci := 10) (v := .ref rw9) (C := RX10) (T := TX10) (N := 8) hx hb hts iX10 hown hK.1 hP 0 rfl rfl 7 (by decide) (hts _ m_360) (fun _ h9 => h9) rfl dX10_film_27 ?_
        refine lv_iload_n hx hb dX10_film_30 rfl (lv_at hl 2 rfl) ?_
        refine nv_rald (v := some ro) hx hb hK hP 7 rfl (by omega) (by decide) hrf dX10_film_31 ?_
        refine W.eq (g2 := F0 m 32 ls [.ref ro]) rfl ?_
        refine lv_astore (lv' := [(5, .ref ro), (0, .ref o), (1, .int (nI kq)), (2, .int (nI sq)), (3, .int av), (4, .int ivQ)]) hx hb dX10_film_32 hl (by decide) rfl (fun ls hl => ?_)
        refine lv_aload hx hb dX10_film_34 (lv_at hl 0 rfl) ?_
        refine lv_iload_n hx hb dX10_film_36 rfl (lv_at hl 4 rfl) ?_
        refine lv_iload hx hb dX10_film_37 (lv_at hl 5 rfl) ?_
        refine lv_iload_n hx hb dX10_film_39 rfl (lv_at hl 2 rfl) ?_
        have hPc := hP.sub (ws' := [(ro, .inr (7, [.ref ri, .int (nI (shQ sq)), .int (nI (ln sq)), .int (nI (mnQ sq))]))]) [8] rfl
        refine nv_cp1 (va_runV (As := [.int av, .int ivQ, .int (nI kq)]) (rest := []) ⟨hx, hb, hml, hown, hts⟩ (c_X7_refuses l D z ro ri (shQ sq) (ln sq) (mnQ sq) av ivQ (nI kq) (by first | assumption | omega) (by first | assumption | omega)) (cwV 3 hts (gV m_498 m_499 m_500 m_181 m_177) rfl rfl rfl ⟨rfl, hd_X7_refuses⟩ ⟨Nat.le_of_ble_eq_true rfl, Nat.le_of_ble_eq_true rfl⟩) (nv_prePV (ci := 7) (q0 := 0) hK hPc trivial rfl rfl) rfl rfl hl.1 rfl (lv_room (Nat.le_of_ble_eq_true rfl)) dX10_film_40 ⟨by decide, by decide⟩) ?_
        refine lv_istore (lv' := [(6, .int (foV (shQ sq) (ln sq) (mnQ sq) av ivQ (nI kq))), (5, .ref ro), (0, .ref o), (1, .int (nI kq)), (2, .int (nI sq)), (3, .int av), (4, .int ivQ)]) hx hb dX10_film_43 hl (by decide) rfl (fun ls hl => ?_)
        refine lv_iload hx hb dX10_film_45 (lv_at hl 0 rfl) ?_
        refine lv_if_eq (tgt := 53) hx hb dX10_film_47 (by decide) (fun hc47 => ?_) (fun hc47 => ?_)
        · obtain ⟨f1, f2, f3⟩ := foV_0 hc47
          obtain ⟨aq, rfl, aq0, aq1⟩ := wi_nat (b := 3) (by decide) hc21
          obtain ⟨iq, rfl, hiq⟩ := inb_nat (by omega) (by omega) f3
          obtain ⟨rfl, rfl⟩ := hrel.2.2 sq aq iq kq rfl rfl rfl rfl (by omega) (by omega) (by omega) (by omega) (by omega) hc47
          have f2 : ln sq = aq := nI_inj (by omega) (by omega) f2
          refine lv_aload_n hx hb dX10_film_53 rfl (lv_at hl 2 rfl) ?_
          refine va_get (D := D) (ci := 10) (v := .ref h2) (C := RX10) (T := TX10) (N := 8) hx hb hts iX10 hown hK.1 hP 0 rfl rfl 5 (by decide) (hts _ m_355) (fun _ h9 => h9) rfl dX10_film_54 ?_
          refine lv_aload_n hx hb dX10_film_57 rfl (lv_at hl 2 rfl) ?_
          refine va_get (D := D) (ci := 10) (v := .ref hn) (C := RX10) (T := TX10) (N := 8) hx hb hts iX10 hown hK.1 hP 0 rfl rfl 0 (by decide) (hts _ m_347) (fun _ h9 => h9) rfl dX10_film_58 ?_
          have hPc := hP.sub (ws' := [(h2, .inr (3, [.ref hp2, .ref hh2, .int (nI (t0 6)), .int (nI (hpF t0 (t0 6))), .int (nI (chF t0 (t0 6))), .int (nI (t0 0)), .int (nI (t0 1)), .int (nI (t0 2)), .int (nI (t0 3)), .int (nI (t0 4)), .int (nI (t0 5))])), aP z hp2 6 tf0, aN z hh2 6 (hbA t0), (hn, .inr (3, [.ref hp, .ref hh, .int (nI (rQ 6)), .int (nI (hpF rQ (rQ 6))), .int (nI (chF rQ (rQ 6))), .int (nI (rQ 0)), .int (nI (rQ 1)), .int (nI (rQ 2)), .int (nI (rQ 3)), .int (nI (rQ 4)), .int (nI (rQ 5))])), aP z hp 6 pf, aN z hh 6 (hbA rQ)]) [4, 5, 6, 1, 2, 3] rfl
          have hDc := hD.sub (ws' := [(h2, .inr (3, [.ref hp2, .ref hh2, .int (nI (t0 6)), .int (nI (hpF t0 (t0 6))), .int (nI (chF t0 (t0 6))), .int (nI (t0 0)), .int (nI (t0 1)), .int (nI (t0 2)), .int (nI (t0 3)), .int (nI (t0 4)), .int (nI (t0 5))])), aP z hp2 6 tf0, aN z hh2 6 (hbA t0), (hn, .inr (3, [.ref hp, .ref hh, .int (nI (rQ 6)), .int (nI (hpF rQ (rQ 6))), .int (nI (chF rQ (rQ 6))), .int (nI (rQ 0)), .int (nI (rQ 1)), .int (nI (rQ 2)), .int (nI (rQ 3)), .int (nI (rQ 4)), .int (nI (rQ 5))])), aP z hp 6 pf, aN z hh 6 (hbA rQ)]) [4, 5, 6, 1, 2, 3] (by decide) rfl
          refine nv_cm0 (wc := [(h2, .inr (3, [.ref hp2, .ref hh2, .int (nI (t0 6)), .int (nI (hpF t0 (t0 6))), .int (nI (chF t0 (t0 6))), .int (nI (t0 0)), .int (nI (t0 1)), .int (nI (t0 2)), .int (nI (t0 3)), .int (nI (t0 4)), .int (nI (t0 5))])), aP z hp2 6 tf0, aN z hh2 6 (hbA t0), (hn, .inr (3, [.ref hp, .ref hh, .int (nI (rQ 6)), .int (nI (hpF rQ (rQ 6))), .int (nI (chF rQ (rQ 6))), .int (nI (rQ 0)), .int (nI (rQ 1)), .int (nI (rQ 2)), .int (nI (rQ 3)), .int (nI (rQ 4)), .int (nI (rQ 5))])), aP z hp 6 pf, aN z hh 6 (hbA rQ)]) (wr := [(o, .inr (10, [.ref hn, .ref pq, .ref gi, .ref gp, .int (nI ik), .ref h2, .ref tp, .ref rw9])), aR z rw9 4 rf, (ro, .inr (7, [.ref ri, .int (nI (shQ sq)), .int (nI (ln sq)), .int (nI (mnQ sq))])), aL z ri 24 (itS it sq)]) (w1 := [(h2, .inr (3, [.ref hp2, .ref hh2, .int (nI (rQ 6)), .int (nI (hpF rQ (rQ 6))), .int (nI (chF rQ (rQ 6))), .int (nI (rQ 0)), .int (nI (rQ 1)), .int (nI (rQ 2)), .int (nI (rQ 3)), .int (nI (rQ 4)), .int (nI (rQ 5))])), aP z hp2 6 pf, aN z hh2 6 (hbA rQ), (hn, .inr (3, [.ref hp, .ref hh, .int (nI (rQ 6)), .int (nI (hpF rQ (rQ 6))), .int (nI (chF rQ (rQ 6))), .int (nI (rQ 0)), .int (nI (rQ 1)), .int (nI (rQ 2)), .int (nI (rQ 3)), .int (nI (rQ 4)), .int (nI (rQ 5))])), aP z hp 6 pf, aN z hh 6 (hbA rQ)]) (ws1 := [(o, .inr (10, [.ref hn, .ref pq, .ref gi, .ref gp, .int (nI ik), .ref h2, .ref tp, .ref rw9])), (hn, .inr (3, [.ref hp, .ref hh, .int (nI (rQ 6)), .int (nI (hpF rQ (rQ 6))), .int (nI (chF rQ (rQ 6))), .int (nI (rQ 0)), .int (nI (rQ 1)), .int (nI (rQ 2)), .int (nI (rQ 3)), .int (nI (rQ 4)), .int (nI (rQ 5))])), aP z hp 6 pf, aN z hh 6 (hbA rQ), (h2, .inr (3, [.ref hp2, .ref hh2, .int (nI (rQ 6)), .int (nI (hpF rQ (rQ 6))), .int (nI (chF rQ (rQ 6))), .int (nI (rQ 0)), .int (nI (rQ 1)), .int (nI (rQ 2)), .int (nI (rQ 3)), .int (nI (rQ 4)), .int (nI (rQ 5))])), aP z hp2 6 pf, aN z hh2 6 (hbA rQ), aR z rw9 4 rf, (ro, .inr (7, [.ref ri, .int (nI (shQ sq)), .int (nI (ln sq)), .int (nI (mnQ sq))])), aL z ri 24 (itS it sq)]) (va_runV (As := [.ref hn]) (rest := []) ⟨hx, hb, hml, hown, hts⟩ (c_X3_become l D z s.heap.size h2 hp2 hh2 tf0 t0 hn hp hh pf rQ ) (cwV 1 hts (gV m_411 m_412 m_413 m_78 m_51) rfl rfl rfl ⟨rfl, hd_X3_become⟩ ⟨Nat.le_of_ble_eq_true rfl, Nat.le_of_ble_eq_true rfl⟩) (nv_preMV (ci := 3) (q0 := 0) hK hPc hDc ((hN _ _ hS).to [4, 5, 6, 1, 2, 3] rfl) rfl rfl) rfl rfl hl.1 rfl (lv_room (Nat.le_of_ble_eq_true rfl)) dX10_film_61 ⟨by decide, by decide⟩) hP hD hS hA [4, 5, 6, 1, 2, 3] [0, 7, 8, 9] [0, 7, 8, 9, 4, 5, 6, 1, 2, 3] rfl rfl (by decide) (by decide) rfl (by decide) rfl (by decide) (fun H locs hP hD hS hE61 hz61 hf61 => ?_)
          clear hPc hDc
          clear hf61 hz61
          refine lv_iconst (v := nI 0) hx hb dX10_film_64 (by decide +kernel) ?_
          refine lv_istore (lv' := [(7, .int (nI 0)), (6, .int (foV (shQ sq) (ln sq) (mnQ sq) (nI aq) (nI iq) (nI kq))), (5, .ref ro), (0, .ref o), (1, .int (nI kq)), (2, .int (nI sq)), (3, .int (nI aq)), (4, .int (nI iq))]) hx hb dX10_film_65 hl (by decide) rfl (fun ls hl => ?_)
          refine nv_loop (σ := Nat) (fun x H locs ls => ∃ (jq : Nat), jq = x ∧ ((jq ≤ kq)) ∧ va_P D vwCl [(o, .inr (10, [.ref hn, .ref pq, .ref gi, .ref gp, .int (nI ik), .ref h2, .ref tp, .ref rw9])), (hn, .inr (3, [.ref hp, .ref hh, .int (nI (rQ 6)), .int (nI (hpF rQ (rQ 6))), .int (nI (chF rQ (rQ 6))), .int (nI (rQ 0)), .int (nI (rQ 1)), .int (nI (rQ 2)), .int (nI (rQ 3)), .int (nI (rQ 4)), .int (nI (rQ 5))])), aP z hp 6 pf, aN z hh 6 (hbA rQ), (h2, .inr (3, [.ref hp2, .ref hh2, .int (nI ((wkN rQ jq) 6)), .int (nI (hpF (wkN rQ jq) ((wkN rQ jq) 6))), .int (nI (chF (wkN rQ jq) ((wkN rQ jq) 6))), .int (nI ((wkN rQ jq) 0)), .int (nI ((wkN rQ jq) 1)), .int (nI ((wkN rQ jq) 2)), .int (nI ((wkN rQ jq) 3)), .int (nI ((wkN rQ jq) 4)), .int (nI ((wkN rQ jq) 5))])), aP z hp2 6 pf, aN z hh2 6 (hbA (wkN rQ jq)), aR z rw9 4 rf, (ro, .inr (7, [.ref ri, .int (nI (shQ sq)), .int (nI (ln sq)), .int (nI (mnQ sq))])), aL z ri 24 (itS (flF rQ it (24 * sq + iq) aq jq) sq)] H ∧ va_D A [(o, .inr (10, [.ref hn, .ref pq, .ref gi, .ref gp, .int (nI ik), .ref h2, .ref tp, .ref rw9])), (hn, .inr (3, [.ref hp, .ref hh, .int (nI (rQ 6)), .int (nI (hpF rQ (rQ 6))), .int (nI (chF rQ (rQ 6))), .int (nI (rQ 0)), .int (nI (rQ 1)), .int (nI (rQ 2)), .int (nI (rQ 3)), .int (nI (rQ 4)), .int (nI (rQ 5))])), aP z hp 6 pf, aN z hh 6 (hbA rQ), (h2, .inr (3, [.ref hp2, .ref hh2, .int (nI ((wkN rQ jq) 6)), .int (nI (hpF (wkN rQ jq) ((wkN rQ jq) 6))), .int (nI (chF (wkN rQ jq) ((wkN rQ jq) 6))), .int (nI ((wkN rQ jq) 0)), .int (nI ((wkN rQ jq) 1)), .int (nI ((wkN rQ jq) 2)), .int (nI ((wkN rQ jq) 3)), .int (nI ((wkN rQ jq) 4)), .int (nI ((wkN rQ jq) 5))])), aP z hp2 6 pf, aN z hh2 6 (hbA (wkN rQ jq)), aR z rw9 4 rf, (ro, .inr (7, [.ref ri, .int (nI (shQ sq)), .int (nI (ln sq)), .int (nI (mnQ sq))])), aL z ri 24 (itS (flF rQ it (24 * sq + iq) aq jq) sq)] ∧ va_S A s.heap H locs ∧ lv_has ls 8 [(0, .ref o), (1, .int (nI kq)), (4, .int (nI iq)), (5, .ref ro), (7, .int (nI jq))]) (fun x => kq - x) 67 [] ?_ 0 ?_
          · rintro _ H locs ls ⟨jq, rfl, hj, hP, hD, hS, hl⟩ ih67
            refine lv_iload hx hb dX10_film_67 (lv_at hl 4 rfl) ?_
            refine lv_iload_n hx hb dX10_film_69 rfl (lv_at hl 1 rfl) ?_
            refine nv_ge (tgt := 112) hx hb (by omega) (by omega) dX10_film_70 (by decide) (fun hc70 => ?_) (fun hc70 => ?_)
            · obtain rfl : kq = jq := by omega
              refine lv_iload_n hx hb dX10_film_112 rfl (lv_at hl 1 rfl) ?_
              exact nv_xi hx hb hr hlocks hS dX10_film_113 (wkN rQ kq, pf) hP trivial rfl
            · have hokj := wkN_ok jq hok
              have q3 := hokj.2.2.2.2.2.1
              refine lv_aload_n hx hb dX10_film_73 rfl (lv_at hl 0 rfl) ?_
              refine va_get (D := D) (ci := 10) (v := .ref h2) (C := RX10) (T := TX10) (N := 8) hx hb hts iX10 hown hK.1 hP 0 rfl rfl 5 (by decide) (hts _ m_355) (fun _ h9 => h9) rfl dX10_film_74 ?_
              refine lv_aload_n hx hb dX10_film_77 rfl (lv_at hl 0 rfl) ?_
              refine va_get (D := D) (ci := 10) (v := .ref h2) (C := RX10) (T := TX10) (N := 8) hx hb hts iX10 hown hK.1 hP 0 rfl rfl 5 (by decide) (hts _ m_355) (fun _ h9 => h9) rfl dX10_film_78 ?_
              refine va_get (D := D) (ci := 3) (v := .int (nI ((wkN rQ jq) 3))) (C := RX3) (T := TX3) (N := 11) hx hb hts iX3 hown hK.1 hP 4 rfl rfl 8 (by decide) (hts _ m_406) (fun _ h9 => h9) rfl dX10_film_81 ?_
              have hPc := hP.sub (ws' := [(h2, .inr (3, [.ref hp2, .ref hh2, .int (nI ((wkN rQ jq) 6)), .int (nI (hpF (wkN rQ jq) ((wkN rQ jq) 6))), .int (nI (chF (wkN rQ jq) ((wkN rQ jq) 6))), .int (nI ((wkN rQ jq) 0)), .int (nI ((wkN rQ jq) 1)), .int (nI ((wkN rQ jq) 2)), .int (nI ((wkN rQ jq) 3)), .int (nI ((wkN rQ jq) 4)), .int (nI ((wkN rQ jq) 5))])), aP z hp2 6 pf, aN z hh2 6 (hbA (wkN rQ jq))]) [4, 5, 6] rfl
              have hDc := hD.sub (ws' := [(h2, .inr (3, [.ref hp2, .ref hh2, .int (nI ((wkN rQ jq) 6)), .int (nI (hpF (wkN rQ jq) ((wkN rQ jq) 6))), .int (nI (chF (wkN rQ jq) ((wkN rQ jq) 6))), .int (nI ((wkN rQ jq) 0)), .int (nI ((wkN rQ jq) 1)), .int (nI ((wkN rQ jq) 2)), .int (nI ((wkN rQ jq) 3)), .int (nI ((wkN rQ jq) 4)), .int (nI ((wkN rQ jq) 5))])), aP z hp2 6 pf, aN z hh2 6 (hbA (wkN rQ jq))]) [4, 5, 6] (by decide) rfl
              refine nv_cm1 (wc := [(h2, .inr (3, [.ref hp2, .ref hh2, .int (nI ((wkN rQ jq) 6)), .int (nI (hpF (wkN rQ jq) ((wkN rQ jq) 6))), .int (nI (chF (wkN rQ jq) ((wkN rQ jq) 6))), .int (nI ((wkN rQ jq) 0)), .int (nI ((wkN rQ jq) 1)), .int (nI ((wkN rQ jq) 2)), .int (nI ((wkN rQ jq) 3)), .int (nI ((wkN rQ jq) 4)), .int (nI ((wkN rQ jq) 5))])), aP z hp2 6 pf, aN z hh2 6 (hbA (wkN rQ jq))]) (wr := [(o, .inr (10, [.ref hn, .ref pq, .ref gi, .ref gp, .int (nI ik), .ref h2, .ref tp, .ref rw9])), (hn, .inr (3, [.ref hp, .ref hh, .int (nI (rQ 6)), .int (nI (hpF rQ (rQ 6))), .int (nI (chF rQ (rQ 6))), .int (nI (rQ 0)), .int (nI (rQ 1)), .int (nI (rQ 2)), .int (nI (rQ 3)), .int (nI (rQ 4)), .int (nI (rQ 5))])), aP z hp 6 pf, aN z hh 6 (hbA rQ), aR z rw9 4 rf, (ro, .inr (7, [.ref ri, .int (nI (shQ sq)), .int (nI (ln sq)), .int (nI (mnQ sq))])), aL z ri 24 (itS (flF rQ it (24 * sq + iq) aq jq) sq)]) (w1 := [(h2, .inr (3, [.ref hp2, .ref hh2, .int (nI ((weekR (wkN rQ jq) ((wkN rQ jq) 3)) 6)), .int (nI (hpF (weekR (wkN rQ jq) ((wkN rQ jq) 3)) ((weekR (wkN rQ jq) ((wkN rQ jq) 3)) 6))), .int (nI (chF (weekR (wkN rQ jq) ((wkN rQ jq) 3)) ((weekR (wkN rQ jq) ((wkN rQ jq) 3)) 6))), .int (nI ((weekR (wkN rQ jq) ((wkN rQ jq) 3)) 0)), .int (nI ((weekR (wkN rQ jq) ((wkN rQ jq) 3)) 1)), .int (nI ((weekR (wkN rQ jq) ((wkN rQ jq) 3)) 2)), .int (nI ((weekR (wkN rQ jq) ((wkN rQ jq) 3)) 3)), .int (nI ((weekR (wkN rQ jq) ((wkN rQ jq) 3)) 4)), .int (nI ((weekR (wkN rQ jq) ((wkN rQ jq) 3)) 5))])), aP z hp2 6 pf, aN z hh2 6 (hbA (weekR (wkN rQ jq) ((wkN rQ jq) 3)))]) (ws1 := [(o, .inr (10, [.ref hn, .ref pq, .ref gi, .ref gp, .int (nI ik), .ref h2, .ref tp, .ref rw9])), (hn, .inr (3, [.ref hp, .ref hh, .int (nI (rQ 6)), .int (nI (hpF rQ (rQ 6))), .int (nI (chF rQ (rQ 6))), .int (nI (rQ 0)), .int (nI (rQ 1)), .int (nI (rQ 2)), .int (nI (rQ 3)), .int (nI (rQ 4)), .int (nI (rQ 5))])), aP z hp 6 pf, aN z hh 6 (hbA rQ), (h2, .inr (3, [.ref hp2, .ref hh2, .int (nI ((weekR (wkN rQ jq) ((wkN rQ jq) 3)) 6)), .int (nI (hpF (weekR (wkN rQ jq) ((wkN rQ jq) 3)) ((weekR (wkN rQ jq) ((wkN rQ jq) 3)) 6))), .int (nI (chF (weekR (wkN rQ jq) ((wkN rQ jq) 3)) ((weekR (wkN rQ jq) ((wkN rQ jq) 3)) 6))), .int (nI ((weekR (wkN rQ jq) ((wkN rQ jq) 3)) 0)), .int (nI ((weekR (wkN rQ jq) ((wkN rQ jq) 3)) 1)), .int (nI ((weekR (wkN rQ jq) ((wkN rQ jq) 3)) 2)), .int (nI ((weekR (wkN rQ jq) ((wkN rQ jq) 3)) 3)), .int (nI ((weekR (wkN rQ jq) ((wkN rQ jq) 3)) 4)), .int (nI ((weekR (wkN rQ jq) ((wkN rQ jq) 3)) 5))])), aP z hp2 6 pf, aN z hh2 6 (hbA (weekR (wkN rQ jq) ((wkN rQ jq) 3))), aR z rw9 4 rf, (ro, .inr (7, [.ref ri, .int (nI (shQ sq)), .int (nI (ln sq)), .int (nI (mnQ sq))])), aL z ri 24 (itS (flF rQ it (24 * sq + iq) aq jq) sq)]) (va_runV (As := [.int (nI ((wkN rQ jq) 3))]) (rest := []) ⟨hx, hb, hml, hown, hts⟩ (c_X3_live l D z H.size (w0Q + jq) h2 hp2 hh2 pf (wkN rQ jq) ((wkN rQ jq) 3) hokj (by first | assumption | omega) (by first | assumption | omega)) (cwV 1 hts (gV m_436 m_135 m_136 m_78 m_133) rfl rfl rfl ⟨rfl, hd_X3_live⟩ ⟨Nat.le_of_ble_eq_true rfl, Nat.le_of_ble_eq_true rfl⟩) (nv_preMV (ci := 3) (q0 := 0) hK hPc hDc (((hN _ _ hS).wk jq).to [4, 5, 6] rfl) rfl rfl) rfl rfl hl.1 rfl (lv_room (Nat.le_of_ble_eq_true rfl)) dX10_film_84 ⟨by decide, by decide⟩) hP hD hS hA [4, 5, 6] [0, 1, 2, 3, 7, 8, 9] [0, 1, 2, 3, 7, 8, 9, 4, 5, 6] rfl rfl (by decide) (by decide) rfl (by decide) rfl (by decide) (fun H locs hP hD hS hE84 hz84 hf84 => ?_)
              clear hPc hDc
              clear hf84 hz84
              refine lv_pop hx hb dX10_film_87 rfl ?_
              refine lv_aload hx hb dX10_film_88 (lv_at hl 3 rfl) ?_
              refine lv_iload hx hb dX10_film_90 (lv_at hl 2 rfl) ?_
              refine lv_iload hx hb dX10_film_92 (lv_at hl 4 rfl) ?_
              refine nv_add hx hb dX10_film_94 ?_
              refine lv_aload_n hx hb dX10_film_95 rfl (lv_at hl 0 rfl) ?_
              refine va_get (D := D) (ci := 10) (v := .ref h2) (C := RX10) (T := TX10) (N := 8) hx hb hts iX10 hown hK.1 hP 0 rfl rfl 5 (by decide) (hts _ m_355) (fun _ h9 => h9) rfl dX10_film_96 ?_
              refine va_get (D := D) (ci := 3) (v := .int (nI ((weekR (wkN rQ jq) ((wkN rQ jq) 3)) 0))) (C := RX3) (T := TX3) (N := 11) hx hb hts iX3 hown hK.1 hP 4 rfl rfl 5 (by decide) (hts _ m_422) (fun _ h9 => h9) rfl dX10_film_99 ?_
              refine lv_i2l hx hb dX10_film_102 rfl ?_
              have hPc := hP.sub (ws' := [(ro, .inr (7, [.ref ri, .int (nI (shQ sq)), .int (nI (ln sq)), .int (nI (mnQ sq))])), aL z ri 24 (itS (flF rQ it (24 * sq + iq) aq jq) sq)]) [8, 9] rfl
              have hDc := hD.sub (ws' := [(ro, .inr (7, [.ref ri, .int (nI (shQ sq)), .int (nI (ln sq)), .int (nI (mnQ sq))])), aL z ri 24 (itS (flF rQ it (24 * sq + iq) aq jq) sq)]) [8, 9] (by decide) rfl
              refine nv_cm0 (wc := [(ro, .inr (7, [.ref ri, .int (nI (shQ sq)), .int (nI (ln sq)), .int (nI (mnQ sq))])), aL z ri 24 (itS (flF rQ it (24 * sq + iq) aq jq) sq)]) (wr := [(o, .inr (10, [.ref hn, .ref pq, .ref gi, .ref gp, .int (nI ik), .ref h2, .ref tp, .ref rw9])), (hn, .inr (3, [.ref hp, .ref hh, .int (nI (rQ 6)), .int (nI (hpF rQ (rQ 6))), .int (nI (chF rQ (rQ 6))), .int (nI (rQ 0)), .int (nI (rQ 1)), .int (nI (rQ 2)), .int (nI (rQ 3)), .int (nI (rQ 4)), .int (nI (rQ 5))])), aP z hp 6 pf, aN z hh 6 (hbA rQ), (h2, .inr (3, [.ref hp2, .ref hh2, .int (nI ((weekR (wkN rQ jq) ((wkN rQ jq) 3)) 6)), .int (nI (hpF (weekR (wkN rQ jq) ((wkN rQ jq) 3)) ((weekR (wkN rQ jq) ((wkN rQ jq) 3)) 6))), .int (nI (chF (weekR (wkN rQ jq) ((wkN rQ jq) 3)) ((weekR (wkN rQ jq) ((wkN rQ jq) 3)) 6))), .int (nI ((weekR (wkN rQ jq) ((wkN rQ jq) 3)) 0)), .int (nI ((weekR (wkN rQ jq) ((wkN rQ jq) 3)) 1)), .int (nI ((weekR (wkN rQ jq) ((wkN rQ jq) 3)) 2)), .int (nI ((weekR (wkN rQ jq) ((wkN rQ jq) 3)) 3)), .int (nI ((weekR (wkN rQ jq) ((wkN rQ jq) 3)) 4)), .int (nI ((weekR (wkN rQ jq) ((wkN rQ jq) 3)) 5))])), aP z hp2 6 pf, aN z hh2 6 (hbA (weekR (wkN rQ jq) ((wkN rQ jq) 3))), aR z rw9 4 rf]) (w1 := [(ro, .inr (7, [.ref ri, .int (nI (shQ sq)), .int (nI (ln sq)), .int (nI (mnQ sq))])), aL z ri 24 (vp_updL (itS (flF rQ it (24 * sq + iq) aq jq) sq) (iq + jq) (cutF (ln sq) ((nI ((weekR (wkN rQ jq) ((wkN rQ jq) 3)) 0)).toInt64)))]) (ws1 := [(o, .inr (10, [.ref hn, .ref pq, .ref gi, .ref gp, .int (nI ik), .ref h2, .ref tp, .ref rw9])), (hn, .inr (3, [.ref hp, .ref hh, .int (nI (rQ 6)), .int (nI (hpF rQ (rQ 6))), .int (nI (chF rQ (rQ 6))), .int (nI (rQ 0)), .int (nI (rQ 1)), .int (nI (rQ 2)), .int (nI (rQ 3)), .int (nI (rQ 4)), .int (nI (rQ 5))])), aP z hp 6 pf, aN z hh 6 (hbA rQ), (h2, .inr (3, [.ref hp2, .ref hh2, .int (nI ((weekR (wkN rQ jq) ((wkN rQ jq) 3)) 6)), .int (nI (hpF (weekR (wkN rQ jq) ((wkN rQ jq) 3)) ((weekR (wkN rQ jq) ((wkN rQ jq) 3)) 6))), .int (nI (chF (weekR (wkN rQ jq) ((wkN rQ jq) 3)) ((weekR (wkN rQ jq) ((wkN rQ jq) 3)) 6))), .int (nI ((weekR (wkN rQ jq) ((wkN rQ jq) 3)) 0)), .int (nI ((weekR (wkN rQ jq) ((wkN rQ jq) 3)) 1)), .int (nI ((weekR (wkN rQ jq) ((wkN rQ jq) 3)) 2)), .int (nI ((weekR (wkN rQ jq) ((wkN rQ jq) 3)) 3)), .int (nI ((weekR (wkN rQ jq) ((wkN rQ jq) 3)) 4)), .int (nI ((weekR (wkN rQ jq) ((wkN rQ jq) 3)) 5))])), aP z hp2 6 pf, aN z hh2 6 (hbA (weekR (wkN rQ jq) ((wkN rQ jq) 3))), aR z rw9 4 rf, (ro, .inr (7, [.ref ri, .int (nI (shQ sq)), .int (nI (ln sq)), .int (nI (mnQ sq))])), aL z ri 24 (vp_updL (itS (flF rQ it (24 * sq + iq) aq jq) sq) (iq + jq) (cutF (ln sq) ((nI ((weekR (wkN rQ jq) ((wkN rQ jq) 3)) 0)).toInt64)))]) (va_runV (As := [.int (nI (iq + jq)), .long ((nI ((weekR (wkN rQ jq) ((wkN rQ jq) 3)) 0)).toInt64)]) (rest := []) ⟨hx, hb, hml, hown, hts⟩ (c_X7_put l D z H.size ro ri (shQ sq) (ln sq) (mnQ sq) (itS (flF rQ it (24 * sq + iq) aq jq) sq) (iq + jq) ((nI ((weekR (wkN rQ jq) ((wkN rQ jq) 3)) 0)).toInt64) (by first | assumption | omega) (by first | assumption | omega) (by first | assumption | omega)) (cwV 2 hts (gV m_505 m_506 m_507 m_181 m_182) rfl rfl rfl ⟨rfl, hd_X7_put⟩ ⟨Nat.le_of_ble_eq_true rfl, Nat.le_of_ble_eq_true rfl⟩) (nv_preMV (ci := 7) (q0 := 0) hK hPc hDc trivial rfl rfl) rfl rfl hl.1 rfl (lv_room (Nat.le_of_ble_eq_true rfl)) dX10_film_103 ⟨by decide, by decide⟩) hP hD hS hA [8, 9] [0, 1, 2, 3, 4, 5, 6, 7] [0, 1, 2, 3, 4, 5, 6, 7, 8, 9] rfl rfl (by decide) (by decide) rfl (by decide) rfl (by decide) (fun H locs hP hD hS hE103 hz103 hf103 => ?_)
              clear hPc hDc
              clear hf103 hz103
              have hP : va_P D vwCl [(o, .inr (10, [.ref hn, .ref pq, .ref gi, .ref gp, .int (nI ik), .ref h2, .ref tp, .ref rw9])), (hn, .inr (3, [.ref hp, .ref hh, .int (nI (rQ 6)), .int (nI (hpF rQ (rQ 6))), .int (nI (chF rQ (rQ 6))), .int (nI (rQ 0)), .int (nI (rQ 1)), .int (nI (rQ 2)), .int (nI (rQ 3)), .int (nI (rQ 4)), .int (nI (rQ 5))])), aP z hp 6 pf, aN z hh 6 (hbA rQ), (h2, .inr (3, [.ref hp2, .ref hh2, .int (nI ((weekR (wkN rQ jq) ((wkN rQ jq) 3)) 6)), .int (nI (hpF (weekR (wkN rQ jq) ((wkN rQ jq) 3)) ((weekR (wkN rQ jq) ((wkN rQ jq) 3)) 6))), .int (nI (chF (weekR (wkN rQ jq) ((wkN rQ jq) 3)) ((weekR (wkN rQ jq) ((wkN rQ jq) 3)) 6))), .int (nI ((weekR (wkN rQ jq) ((wkN rQ jq) 3)) 0)), .int (nI ((weekR (wkN rQ jq) ((wkN rQ jq) 3)) 1)), .int (nI ((weekR (wkN rQ jq) ((wkN rQ jq) 3)) 2)), .int (nI ((weekR (wkN rQ jq) ((wkN rQ jq) 3)) 3)), .int (nI ((weekR (wkN rQ jq) ((wkN rQ jq) 3)) 4)), .int (nI ((weekR (wkN rQ jq) ((wkN rQ jq) 3)) 5))])), aP z hp2 6 pf, aN z hh2 6 (hbA (weekR (wkN rQ jq) ((wkN rQ jq) 3))), aR z rw9 4 rf, (ro, .inr (7, [.ref ri, .int (nI (shQ sq)), .int (nI (ln sq)), .int (nI (mnQ sq))])), aL z ri 24 (itS (flF rQ it (24 * sq + iq) aq (jq + 1)) sq)] H := by rw [flF_itS, show ∀ x9, cutF aq x9 = cutF (ln sq) x9 from fun x9 => by rw [f2]]; exact hP
              have hD : va_D A [(o, .inr (10, [.ref hn, .ref pq, .ref gi, .ref gp, .int (nI ik), .ref h2, .ref tp, .ref rw9])), (hn, .inr (3, [.ref hp, .ref hh, .int (nI (rQ 6)), .int (nI (hpF rQ (rQ 6))), .int (nI (chF rQ (rQ 6))), .int (nI (rQ 0)), .int (nI (rQ 1)), .int (nI (rQ 2)), .int (nI (rQ 3)), .int (nI (rQ 4)), .int (nI (rQ 5))])), aP z hp 6 pf, aN z hh 6 (hbA rQ), (h2, .inr (3, [.ref hp2, .ref hh2, .int (nI ((weekR (wkN rQ jq) ((wkN rQ jq) 3)) 6)), .int (nI (hpF (weekR (wkN rQ jq) ((wkN rQ jq) 3)) ((weekR (wkN rQ jq) ((wkN rQ jq) 3)) 6))), .int (nI (chF (weekR (wkN rQ jq) ((wkN rQ jq) 3)) ((weekR (wkN rQ jq) ((wkN rQ jq) 3)) 6))), .int (nI ((weekR (wkN rQ jq) ((wkN rQ jq) 3)) 0)), .int (nI ((weekR (wkN rQ jq) ((wkN rQ jq) 3)) 1)), .int (nI ((weekR (wkN rQ jq) ((wkN rQ jq) 3)) 2)), .int (nI ((weekR (wkN rQ jq) ((wkN rQ jq) 3)) 3)), .int (nI ((weekR (wkN rQ jq) ((wkN rQ jq) 3)) 4)), .int (nI ((weekR (wkN rQ jq) ((wkN rQ jq) 3)) 5))])), aP z hp2 6 pf, aN z hh2 6 (hbA (weekR (wkN rQ jq) ((wkN rQ jq) 3))), aR z rw9 4 rf, (ro, .inr (7, [.ref ri, .int (nI (shQ sq)), .int (nI (ln sq)), .int (nI (mnQ sq))])), aL z ri 24 (itS (flF rQ it (24 * sq + iq) aq (jq + 1)) sq)] := hD.same rfl
              refine lv_iinc (v := nI (jq + 1)) (lv' := [(7, .int (nI (jq + 1))), (0, .ref o), (1, .int (nI kq)), (4, .int (nI iq)), (5, .ref ro)]) hx hb dX10_film_106 hl (k := 4) rfl (nI_inc _) (by decide) rfl (fun ls hl => ?_)
              refine lv_goto (tgt := 67) hx hb dX10_film_109 (by decide) ?_
              exact ih67 (jq + 1) _ _ _ (by omega) ⟨jq + 1, rfl, (by omega), hP, hD, hS, lv_sub hl [1, 2, 3, 4, 0] rfl⟩
          · exact ⟨0, rfl, (by omega), hP, hD, hS, lv_sub hl [3, 4, 7, 2, 0] rfl⟩
        · refine lv_iload hx hb dX10_film_50 (lv_at hl 0 rfl) ?_
          obtain ⟨rfl, rfl⟩ := hrel.2.1 sq rfl (by omega) hc7 hc21 hc47
          exact nv_xi hx hb hr hlocks hS dX10_film_52 (t0, tf0) hP trivial rfl
      · refine lv_iconst (v := (-1)) hx hb dX10_film_24 (by decide +kernel) ?_
        obtain ⟨rfl, rfl⟩ := hrel.1 (by first | exact fun q => hc7 q.1 | exact fun q => hc14 q.2.1 | exact fun q => hc21 q.2.2)
        exact nv_xi hx hb hr hlocks hS dX10_film_25 (t0, tf0) hP trivial rfl

set_option maxHeartbeats 4000000 in
set_option maxRecDepth 100000 in
theorem c_X10_copy2 (l : Launch) (D : va_G) (z : Nat → ClassId) (sz : Nat) (o : Nat) (hn : Nat) (pq : Nat) (gi : Nat) (gp : Nat) (ik : Nat) (h2 : Nat) (tp : Nat) (rw9 : Nat) (rf : Nat → Option Nat) (ro : Nat) (ri : Nat) (shQ : Nat → Nat) (ln : Nat → Nat) (mnQ : Nat → Nat) (it : Nat → Int64) (sq : Nat) (ro2 : Nat) (ri2 : Nat) (tqQ : Nat) (sv : Int32) (ivQ : Int32) (tv : Int32) (jv : Int32) (nv : Int32) (it1 : Nat → Int64) (vQ : Int32) (hso : sOK shQ ln mnQ) (hq3 : sq ≤ 3) (hrf : rf sq = some ro) (hsv : wi sv 0 3 → sv = nI sq) (ht3 : tqQ ≤ 3) (hrf2 : rf tqQ = some ro2) (hne : sq ≠ tqQ) (htv : wi tv 0 3 → tv = nI tqQ) (hrel : cyRel shQ ln mnQ it sv ivQ tv jv nv it1 vQ) : CM l yX10_copy cX10_copy 8 (some .int) 2 42 0 0 [.ref o, .int sv, .int ivQ, .int tv, .int jv, .int nv] D z [(o, .inr (10, [.ref hn, .ref pq, .ref gi, .ref gp, .int (nI ik), .ref h2, .ref tp, .ref rw9])), aR z rw9 4 rf, (ro, .inr (7, [.ref ri, .int (nI (shQ sq)), .int (nI (ln sq)), .int (nI (mnQ sq))])), aL z ri 24 (itS it sq), (ro2, .inr (7, [.ref ri2, .int (nI (shQ tqQ)), .int (nI (ln tqQ)), .int (nI (mnQ tqQ))])), aL z ri2 24 (itS it tqQ)] sz (fun _ => True) [(o, .inr (10, [.ref hn, .ref pq, .ref gi, .ref gp, .int (nI ik), .ref h2, .ref tp, .ref rw9])), aR z rw9 4 rf, (ro, .inr (7, [.ref ri, .int (nI (shQ sq)), .int (nI (ln sq)), .int (nI (mnQ sq))])), aL z ri 24 (itS it1 sq), (ro2, .inr (7, [.ref ri2, .int (nI (shQ tqQ)), .int (nI (ln tqQ)), .int (nI (mnQ tqQ))])), aL z ri2 24 (itS it1 tqQ)] (some (.int vQ)) (fun _ => True) := by
  refine Met.ofW (cc := cX10_copy) (maxL := 8) (ret := (some .int)) (by decide) rfl ?_
  intro pg e s m args below meth c s₁ B hml hv
  obtain ⟨rfl, hsz, hP, hK, hD0, hE⟩ := hv
  have hx := B.exec
  have hb := B.bytes
  have hr := B.returns
  have hts : ∀ w ∈ ALL, w.before _ s = true := fun w h => atoms_spec (ws := wA yX10_copy cX10_copy 8 (some .int)) B.pre w (List.mem_cons_of_mem _ h)
  have hown : s.vm.findClass RX10 = some m.cls := findClass_of_methodNamed B.named
  have hlocks := B.notSynchronized
  subst hsz
  have hD := hD0.self (sz := s.heap.size)
  have hA : ∀ q : Nat, s.heap.size ≤ q → va_A [(o, .inr (10, [.ref hn, .ref pq, .ref gi, .ref gp, .int (nI ik), .ref h2, .ref tp, .ref rw9])), aR z rw9 4 rf, (ro, .inr (7, [.ref ri, .int (nI (shQ sq)), .int (nI (ln sq)), .int (nI (mnQ sq))])), aL z ri 24 (itS it sq), (ro2, .inr (7, [.ref ri2, .int (nI (shQ tqQ)), .int (nI (ln tqQ)), .int (nI (mnQ tqQ))])), aL z ri2 24 (itS it tqQ)] s.heap.size q := fun q h => Or.inr h
  generalize va_A [(o, .inr (10, [.ref hn, .ref pq, .ref gi, .ref gp, .int (nI ik), .ref h2, .ref tp, .ref rw9])), aR z rw9 4 rf, (ro, .inr (7, [.ref ri, .int (nI (shQ sq)), .int (nI (ln sq)), .int (nI (mnQ sq))])), aL z ri 24 (itS it sq), (ro2, .inr (7, [.ref ri2, .int (nI (shQ tqQ)), .int (nI (ln tqQ)), .int (nI (mnQ tqQ))])), aL z ri2 24 (itS it tqQ)] s.heap.size = A at *
  have hS : va_S A s.heap s.heap [] := va_S.rf
  have hl := lv_entry ([.ref o, .int sv, .int ivQ, .int tv, .int jv, .int nv]) (n := 8) (Nat.le_of_ble_eq_true rfl)
  rw [lg_entry_eq]
  generalize (lg_sl ([.ref o, .int sv, .int ivQ, .int tv, .int jv, .int nv]) ++ List.replicate (8 - (lg_sl ([.ref o, .int sv, .int ivQ, .int tv, .int jv, .int nv])).length) Slot.unset).toArray = ls at hl ⊢
  have hl : lv_has ls 8 [(0, .ref o), (1, .int sv), (2, .int ivQ), (3, .int tv), (4, .int jv), (5, .int nv)] := hl
  refine lv_iload_n hx hb dX10_copy_0 rfl (lv_at hl 1 rfl) ?_
  have hPc := hP.sub (ws' := []) [] rfl
  refine nv_cp1 (va_runS (As := [.int sv]) (rest := []) ⟨hx, hb, hml, hown, hts⟩ (c_X10_isSheet l D z sv ) (va_cwS 1 hts (gS m_494 m_495 m_198 m_479) rfl rfl rfl hd_X10_isSheet ⟨Nat.le_of_ble_eq_true rfl, Nat.le_of_ble_eq_true rfl⟩) (nv_preP hK hPc trivial _) rfl rfl hl.1 rfl (lv_room (Nat.le_of_ble_eq_true rfl)) dX10_copy_1 ⟨by decide, by decide⟩) ?_
  refine nv_beq (tgt := 14) hx hb dX10_copy_4 (by decide) (fun hc4 => ?_) (fun hc4 => ?_)
  · refine lv_iconst (v := (-1)) hx hb dX10_copy_14 (by decide +kernel) ?_
    obtain ⟨rfl, rfl⟩ := hrel.1 (by first | exact fun q => hc4 q.1 | exact fun q => hc11 q.2)
    exact nv_mi hx hb hr hlocks hS dX10_copy_15 hP trivial rfl
  · refine lv_iload_n hx hb dX10_copy_7 rfl (lv_at hl 3 rfl) ?_
    have hPc := hP.sub (ws' := []) [] rfl
    refine nv_cp1 (va_runS (As := [.int tv]) (rest := []) ⟨hx, hb, hml, hown, hts⟩ (c_X10_isSheet l D z tv ) (va_cwS 1 hts (gS m_494 m_495 m_198 m_479) rfl rfl rfl hd_X10_isSheet ⟨Nat.le_of_ble_eq_true rfl, Nat.le_of_ble_eq_true rfl⟩) (nv_preP hK hPc trivial _) rfl rfl hl.1 rfl (lv_room (Nat.le_of_ble_eq_true rfl)) dX10_copy_8 ⟨by decide, by decide⟩) ?_
    refine nv_bne (tgt := 16) hx hb dX10_copy_11 (by decide) (fun hc11 => ?_) (fun hc11 => ?_)
    · obtain rfl := hsv hc4
      have hs1 := hso sq (by omega)
      obtain rfl := htv hc11
      have ht1 := hso tqQ (by omega)
      refine lv_aload_n hx hb dX10_copy_16 rfl (lv_at hl 0 rfl) ?_
      refine va_get (D := D) (ci := 10) (v := .ref rw9) (C := RX10) (T := TX10) (N := 8) hx hb hts iX10 hown hK.1 hP 0 rfl rfl 7 (by decide) (hts _ m_360) (fun _ h9 => h9) rfl dX10_copy_17 ?_
      refine lv_iload_n hx hb dX10_copy_20 rfl (lv_at hl 1 rfl) ?_
      refine nv_rald (v := some ro) hx hb hK hP 1 rfl (by omega) (by decide) hrf dX10_copy_21 ?_
      refine W.eq (g2 := F0 m 22 ls [.ref ro]) rfl ?_
      refine lv_astore (lv' := [(6, .ref ro), (0, .ref o), (1, .int (nI sq)), (2, .int ivQ), (3, .int (nI tqQ)), (4, .int jv), (5, .int nv)]) hx hb dX10_copy_22 hl (by decide) rfl (fun ls hl => ?_)
      refine lv_aload_n hx hb dX10_copy_24 rfl (lv_at hl 1 rfl) ?_
      refine va_get (D := D) (ci := 10) (v := .ref rw9) (C := RX10) (T := TX10) (N := 8) hx hb hts iX10 hown hK.1 hP 0 rfl rfl 7 (by decide) (hts _ m_360) (fun _ h9 => h9) rfl dX10_copy_25 ?_
      refine lv_iload_n hx hb dX10_copy_28 rfl (lv_at hl 4 rfl) ?_
      refine nv_rald (v := some ro2) hx hb hK hP 1 rfl (by omega) (by decide) hrf2 dX10_copy_29 ?_
      refine W.eq (g2 := F0 m 30 ls [.ref ro2]) rfl ?_
      refine lv_astore (lv' := [(7, .ref ro2), (6, .ref ro), (0, .ref o), (1, .int (nI sq)), (2, .int ivQ), (3, .int (nI tqQ)), (4, .int jv), (5, .int nv)]) hx hb dX10_copy_30 hl (by decide) rfl (fun ls hl => ?_)
      refine lv_aload hx hb dX10_copy_32 (lv_at hl 1 rfl) ?_
      refine va_get (D := D) (ci := 7) (v := .int (nI (shQ sq))) (C := RX7) (T := TX7) (N := 4) hx hb hts iX7 hown hK.1 hP 2 rfl rfl 1 (by decide) (hts _ m_514) (fun _ h9 => h9) rfl dX10_copy_34 ?_
      refine nv_ifeq (tgt := 48) hx hb (by omega) dX10_copy_37 (by decide) (fun hc37 => ?_) (fun hc37 => ?_)
      · refine lv_bipush (v := (-11)) hx hb dX10_copy_48 (by decide +kernel) ?_
        obtain ⟨rfl, rfl⟩ := hrel.2.1 sq tqQ rfl rfl (by omega) (by omega) (by first | exact Or.inl hc37 | exact Or.inr hc45)
        exact nv_mi hx hb hr hlocks hS dX10_copy_50 hP trivial rfl
      · refine lv_aload hx hb dX10_copy_40 (lv_at hl 0 rfl) ?_
        refine va_get (D := D) (ci := 7) (v := .int (nI (shQ tqQ))) (C := RX7) (T := TX7) (N := 4) hx hb hts iX7 hown hK.1 hP 4 rfl rfl 1 (by decide) (hts _ m_514) (fun _ h9 => h9) rfl dX10_copy_42 ?_
        refine nv_ifne (tgt := 51) hx hb (by omega) dX10_copy_45 (by decide) (fun hc45 => ?_) (fun hc45 => ?_)
        · refine lv_aload hx hb dX10_copy_51 (lv_at hl 1 rfl) ?_
          refine va_get (D := D) (ci := 7) (v := .int (nI (ln sq))) (C := RX7) (T := TX7) (N := 4) hx hb hts iX7 hown hK.1 hP 2 rfl rfl 2 (by decide) (hts _ m_518) (fun _ h9 => h9) rfl dX10_copy_53 ?_
          refine lv_aload hx hb dX10_copy_56 (lv_at hl 0 rfl) ?_
          refine va_get (D := D) (ci := 7) (v := .int (nI (ln tqQ))) (C := RX7) (T := TX7) (N := 4) hx hb hts iX7 hown hK.1 hP 4 rfl rfl 2 (by decide) (hts _ m_518) (fun _ h9 => h9) rfl dX10_copy_58 ?_
          refine nv_eq (tgt := 67) hx hb (by omega) (by omega) dX10_copy_61 (by decide) (fun hc61 => ?_) (fun hc61 => ?_)
          · refine lv_aload hx hb dX10_copy_67 (lv_at hl 1 rfl) ?_
            refine lv_iload_n hx hb dX10_copy_69 rfl (lv_at hl 4 rfl) ?_
            refine lv_iload hx hb dX10_copy_70 (lv_at hl 7 rfl) ?_
            have hPc := hP.sub (ws' := [(ro, .inr (7, [.ref ri, .int (nI (shQ sq)), .int (nI (ln sq)), .int (nI (mnQ sq))]))]) [2] rfl
            refine nv_cp1 (va_runV (As := [.int ivQ, .int nv]) (rest := []) ⟨hx, hb, hml, hown, hts⟩ (c_X7_lacks l D z ro ri (shQ sq) (ln sq) (mnQ sq) ivQ nv (by first | assumption | omega)) (cwV 2 hts (gV m_520 m_179 m_180 m_181 m_176) rfl rfl rfl ⟨rfl, hd_X7_lacks⟩ ⟨Nat.le_of_ble_eq_true rfl, Nat.le_of_ble_eq_true rfl⟩) (nv_prePV (ci := 7) (q0 := 0) hK hPc trivial rfl rfl) rfl rfl hl.1 rfl (lv_room (Nat.le_of_ble_eq_true rfl)) dX10_copy_72 ⟨by decide, by decide⟩) ?_
            refine nv_bne (tgt := 90) hx hb dX10_copy_75 (by decide) (fun hc75 => ?_) (fun hc75 => ?_)
            · refine lv_bipush (v := (-13)) hx hb dX10_copy_90 (by decide +kernel) ?_
              obtain ⟨rfl, rfl⟩ := hrel.2.2.2.1 sq tqQ rfl rfl (by omega) (by omega) hc37 hc45 hc61 (by first | exact fun q9 => hc75 q9.1 | exact fun q9 => hc87 q9.2)
              exact nv_mi hx hb hr hlocks hS dX10_copy_92 hP trivial rfl
            · refine lv_aload hx hb dX10_copy_78 (lv_at hl 0 rfl) ?_
              refine lv_iload hx hb dX10_copy_80 (lv_at hl 6 rfl) ?_
              refine lv_iload hx hb dX10_copy_82 (lv_at hl 7 rfl) ?_
              have hPc := hP.sub (ws' := [(ro2, .inr (7, [.ref ri2, .int (nI (shQ tqQ)), .int (nI (ln tqQ)), .int (nI (mnQ tqQ))]))]) [4] rfl
              refine nv_cp1 (va_runV (As := [.int jv, .int nv]) (rest := []) ⟨hx, hb, hml, hown, hts⟩ (c_X7_lacks l D z ro2 ri2 (shQ tqQ) (ln tqQ) (mnQ tqQ) jv nv (by first | assumption | omega)) (cwV 2 hts (gV m_520 m_179 m_180 m_181 m_176) rfl rfl rfl ⟨rfl, hd_X7_lacks⟩ ⟨Nat.le_of_ble_eq_true rfl, Nat.le_of_ble_eq_true rfl⟩) (nv_prePV (ci := 7) (q0 := 0) hK hPc trivial rfl rfl) rfl rfl hl.1 rfl (lv_room (Nat.le_of_ble_eq_true rfl)) dX10_copy_84 ⟨by decide, by decide⟩) ?_
              refine nv_beq (tgt := 93) hx hb dX10_copy_87 (by decide) (fun hc87 => ?_) (fun hc87 => ?_)
              · have g1 : inb ivQ nv (mnQ sq) := Classical.byContradiction hc75
                have g2 : inb jv nv (mnQ tqQ) := Classical.byContradiction hc87
                obtain ⟨nq, rfl, -, hn9⟩ := wi_nat (x := nv) (b := 24) (a := 0) (by decide) ⟨g1.2.1, by have := g1.1; have := g1.2.2; omega⟩
                obtain ⟨iq, rfl, hiq⟩ := inb_nat (by omega) (by omega) g1
                obtain ⟨jv9, rfl, hjv⟩ := inb_nat (by omega) (by omega) g2
                obtain ⟨rfl, rfl⟩ := hrel.2.2.2.2 sq tqQ iq jv9 nq rfl rfl rfl rfl rfl (by omega) (by omega) hc37 hc45 hc61 (by omega) (by omega)
                refine lv_aload hx hb dX10_copy_93 (lv_at hl 1 rfl) ?_
                refine va_get (D := D) (ci := 7) (v := .ref ri) (C := RX7) (T := TX7) (N := 4) hx hb hts iX7 hown hK.1 hP 2 rfl rfl 0 (by decide) (hts _ m_482) (fun _ h9 => h9) rfl dX10_copy_95 ?_
                refine lv_iload_n hx hb dX10_copy_98 rfl (lv_at hl 4 rfl) ?_
                refine lv_aload hx hb dX10_copy_99 (lv_at hl 0 rfl) ?_
                refine va_get (D := D) (ci := 7) (v := .ref ri2) (C := RX7) (T := TX7) (N := 4) hx hb hts iX7 hown hK.1 hP 4 rfl rfl 0 (by decide) (hts _ m_482) (fun _ h9 => h9) rfl dX10_copy_101 ?_
                refine lv_iload hx hb dX10_copy_104 (lv_at hl 6 rfl) ?_
                refine lv_iload hx hb dX10_copy_106 (lv_at hl 7 rfl) ?_
                refine nv_copyL hx hb (hml.trans hl.1.symm) hown (hts _ m_519) (hts _ m_156) (hts _ m_157) (hts _ m_158) hK hP hD hS 3 5 rfl rfl (by omega) (by omega) (by decide) (by decide) (Nat.le_of_ble_eq_true rfl) (Nat.le_of_ble_eq_true rfl) dX10_copy_108 (fun H locs hP hD hS => ?_)
                have hP : va_P D vwCl [(o, .inr (10, [.ref hn, .ref pq, .ref gi, .ref gp, .int (nI ik), .ref h2, .ref tp, .ref rw9])), aR z rw9 4 rf, (ro, .inr (7, [.ref ri, .int (nI (shQ sq)), .int (nI (ln sq)), .int (nI (mnQ sq))])), aL z ri 24 (itS it sq), (ro2, .inr (7, [.ref ri2, .int (nI (shQ tqQ)), .int (nI (ln tqQ)), .int (nI (mnQ tqQ))])), aL z ri2 24 (va_cpy (itS it sq) (itS it tqQ) iq jv9 nq)] H := hP
                have hD : va_D A [(o, .inr (10, [.ref hn, .ref pq, .ref gi, .ref gp, .int (nI ik), .ref h2, .ref tp, .ref rw9])), aR z rw9 4 rf, (ro, .inr (7, [.ref ri, .int (nI (shQ sq)), .int (nI (ln sq)), .int (nI (mnQ sq))])), aL z ri 24 (itS it sq), (ro2, .inr (7, [.ref ri2, .int (nI (shQ tqQ)), .int (nI (ln tqQ)), .int (nI (mnQ tqQ))])), aL z ri2 24 (va_cpy (itS it sq) (itS it tqQ) iq jv9 nq)] := hD
                refine lv_iload hx hb dX10_copy_111 (lv_at hl 7 rfl) ?_
                exact nv_mi hx hb hr hlocks hS dX10_copy_113 (va_P.cgL (va_P.cgL hP 3 rfl (fun i hiQ => cy_src (iq := iq) (tq := tqQ) (jq := jv9) (nq := nq) hne (by omega) hiQ)) 5 rfl (fun i hiQ => cy_tgt)) trivial rfl
              · refine lv_bipush (v := (-13)) hx hb dX10_copy_90 (by decide +kernel) ?_
                obtain ⟨rfl, rfl⟩ := hrel.2.2.2.1 sq tqQ rfl rfl (by omega) (by omega) hc37 hc45 hc61 (by first | exact fun q9 => hc75 q9.1 | exact fun q9 => hc87 q9.2)
                exact nv_mi hx hb hr hlocks hS dX10_copy_92 hP trivial rfl
          · refine lv_bipush (v := (-12)) hx hb dX10_copy_64 (by decide +kernel) ?_
            obtain ⟨rfl, rfl⟩ := hrel.2.2.1 sq tqQ rfl rfl (by omega) (by omega) hc37 hc45 hc61
            exact nv_mi hx hb hr hlocks hS dX10_copy_66 hP trivial rfl
        · refine lv_bipush (v := (-11)) hx hb dX10_copy_48 (by decide +kernel) ?_
          obtain ⟨rfl, rfl⟩ := hrel.2.1 sq tqQ rfl rfl (by omega) (by omega) (by first | exact Or.inl hc37 | exact Or.inr hc45)
          exact nv_mi hx hb hr hlocks hS dX10_copy_50 hP trivial rfl
    · refine lv_iconst (v := (-1)) hx hb dX10_copy_14 (by decide +kernel) ?_
      obtain ⟨rfl, rfl⟩ := hrel.1 (by first | exact fun q => hc4 q.1 | exact fun q => hc11 q.2)
      exact nv_mi hx hb hr hlocks hS dX10_copy_15 hP trivial rfl

set_option maxHeartbeats 4000000 in
set_option maxRecDepth 100000 in
theorem c_X10_copy1 (l : Launch) (D : va_G) (z : Nat → ClassId) (sz : Nat) (o : Nat) (hn : Nat) (pq : Nat) (gi : Nat) (gp : Nat) (ik : Nat) (h2 : Nat) (tp : Nat) (rw9 : Nat) (rf : Nat → Option Nat) (ro : Nat) (ri : Nat) (shQ : Nat → Nat) (ln : Nat → Nat) (mnQ : Nat → Nat) (it : Nat → Int64) (sq : Nat) (sv : Int32) (ivQ : Int32) (tv : Int32) (jv : Int32) (nv : Int32) (it1 : Nat → Int64) (vQ : Int32) (hso : sOK shQ ln mnQ) (hq3 : sq ≤ 3) (hrf : rf sq = some ro) (hsv : wi sv 0 3 → sv = nI sq) (htv : wi tv 0 3 → tv = nI sq) (hrel : cyRel shQ ln mnQ it sv ivQ tv jv nv it1 vQ) : CM l yX10_copy cX10_copy 8 (some .int) 2 42 0 0 [.ref o, .int sv, .int ivQ, .int tv, .int jv, .int nv] D z [(o, .inr (10, [.ref hn, .ref pq, .ref gi, .ref gp, .int (nI ik), .ref h2, .ref tp, .ref rw9])), aR z rw9 4 rf, (ro, .inr (7, [.ref ri, .int (nI (shQ sq)), .int (nI (ln sq)), .int (nI (mnQ sq))])), aL z ri 24 (itS it sq)] sz (fun _ => True) [(o, .inr (10, [.ref hn, .ref pq, .ref gi, .ref gp, .int (nI ik), .ref h2, .ref tp, .ref rw9])), aR z rw9 4 rf, (ro, .inr (7, [.ref ri, .int (nI (shQ sq)), .int (nI (ln sq)), .int (nI (mnQ sq))])), aL z ri 24 (itS it1 sq)] (some (.int vQ)) (fun _ => True) := by
  refine Met.ofW (cc := cX10_copy) (maxL := 8) (ret := (some .int)) (by decide) rfl ?_
  intro pg e s m args below meth c s₁ B hml hv
  obtain ⟨rfl, hsz, hP, hK, hD0, hE⟩ := hv
  have hx := B.exec
  have hb := B.bytes
  have hr := B.returns
  have hts : ∀ w ∈ ALL, w.before _ s = true := fun w h => atoms_spec (ws := wA yX10_copy cX10_copy 8 (some .int)) B.pre w (List.mem_cons_of_mem _ h)
  have hown : s.vm.findClass RX10 = some m.cls := findClass_of_methodNamed B.named
  have hlocks := B.notSynchronized
  subst hsz
  have hD := hD0.self (sz := s.heap.size)
  have hA : ∀ q : Nat, s.heap.size ≤ q → va_A [(o, .inr (10, [.ref hn, .ref pq, .ref gi, .ref gp, .int (nI ik), .ref h2, .ref tp, .ref rw9])), aR z rw9 4 rf, (ro, .inr (7, [.ref ri, .int (nI (shQ sq)), .int (nI (ln sq)), .int (nI (mnQ sq))])), aL z ri 24 (itS it sq)] s.heap.size q := fun q h => Or.inr h
  generalize va_A [(o, .inr (10, [.ref hn, .ref pq, .ref gi, .ref gp, .int (nI ik), .ref h2, .ref tp, .ref rw9])), aR z rw9 4 rf, (ro, .inr (7, [.ref ri, .int (nI (shQ sq)), .int (nI (ln sq)), .int (nI (mnQ sq))])), aL z ri 24 (itS it sq)] s.heap.size = A at *
  have hS : va_S A s.heap s.heap [] := va_S.rf
  have hl := lv_entry ([.ref o, .int sv, .int ivQ, .int tv, .int jv, .int nv]) (n := 8) (Nat.le_of_ble_eq_true rfl)
  rw [lg_entry_eq]
  generalize (lg_sl ([.ref o, .int sv, .int ivQ, .int tv, .int jv, .int nv]) ++ List.replicate (8 - (lg_sl ([.ref o, .int sv, .int ivQ, .int tv, .int jv, .int nv])).length) Slot.unset).toArray = ls at hl ⊢
  have hl : lv_has ls 8 [(0, .ref o), (1, .int sv), (2, .int ivQ), (3, .int tv), (4, .int jv), (5, .int nv)] := hl
  refine lv_iload_n hx hb dX10_copy_0 rfl (lv_at hl 1 rfl) ?_
  have hPc := hP.sub (ws' := []) [] rfl
  refine nv_cp1 (va_runS (As := [.int sv]) (rest := []) ⟨hx, hb, hml, hown, hts⟩ (c_X10_isSheet l D z sv ) (va_cwS 1 hts (gS m_494 m_495 m_198 m_479) rfl rfl rfl hd_X10_isSheet ⟨Nat.le_of_ble_eq_true rfl, Nat.le_of_ble_eq_true rfl⟩) (nv_preP hK hPc trivial _) rfl rfl hl.1 rfl (lv_room (Nat.le_of_ble_eq_true rfl)) dX10_copy_1 ⟨by decide, by decide⟩) ?_
  refine nv_beq (tgt := 14) hx hb dX10_copy_4 (by decide) (fun hc4 => ?_) (fun hc4 => ?_)
  · refine lv_iconst (v := (-1)) hx hb dX10_copy_14 (by decide +kernel) ?_
    obtain ⟨rfl, rfl⟩ := hrel.1 (by first | exact fun q => hc4 q.1 | exact fun q => hc11 q.2)
    exact nv_mi hx hb hr hlocks hS dX10_copy_15 hP trivial rfl
  · refine lv_iload_n hx hb dX10_copy_7 rfl (lv_at hl 3 rfl) ?_
    have hPc := hP.sub (ws' := []) [] rfl
    refine nv_cp1 (va_runS (As := [.int tv]) (rest := []) ⟨hx, hb, hml, hown, hts⟩ (c_X10_isSheet l D z tv ) (va_cwS 1 hts (gS m_494 m_495 m_198 m_479) rfl rfl rfl hd_X10_isSheet ⟨Nat.le_of_ble_eq_true rfl, Nat.le_of_ble_eq_true rfl⟩) (nv_preP hK hPc trivial _) rfl rfl hl.1 rfl (lv_room (Nat.le_of_ble_eq_true rfl)) dX10_copy_8 ⟨by decide, by decide⟩) ?_
    refine nv_bne (tgt := 16) hx hb dX10_copy_11 (by decide) (fun hc11 => ?_) (fun hc11 => ?_)
    · obtain rfl := hsv hc4
      have hs1 := hso sq (by omega)
      obtain rfl := htv hc11
      have ht1 := hso sq (by omega)
      refine lv_aload_n hx hb dX10_copy_16 rfl (lv_at hl 0 rfl) ?_
      refine va_get (D := D) (ci := 10) (v := .ref rw9) (C := RX10) (T := TX10) (N := 8) hx hb hts iX10 hown hK.1 hP 0 rfl rfl 7 (by decide) (hts _ m_360) (fun _ h9 => h9) rfl dX10_copy_17 ?_
      refine lv_iload_n hx hb dX10_copy_20 rfl (lv_at hl 1 rfl) ?_
      refine nv_rald (v := some ro) hx hb hK hP 1 rfl (by omega) (by decide) hrf dX10_copy_21 ?_
      refine W.eq (g2 := F0 m 22 ls [.ref ro]) rfl ?_
      refine lv_astore (lv' := [(6, .ref ro), (0, .ref o), (1, .int (nI sq)), (2, .int ivQ), (3, .int (nI sq)), (4, .int jv), (5, .int nv)]) hx hb dX10_copy_22 hl (by decide) rfl (fun ls hl => ?_)
      refine lv_aload_n hx hb dX10_copy_24 rfl (lv_at hl 1 rfl) ?_
      refine va_get (D := D) (ci := 10) (v := .ref rw9) (C := RX10) (T := TX10) (N := 8) hx hb hts iX10 hown hK.1 hP 0 rfl rfl 7 (by decide) (hts _ m_360) (fun _ h9 => h9) rfl dX10_copy_25 ?_
      refine lv_iload_n hx hb dX10_copy_28 rfl (lv_at hl 4 rfl) ?_
      refine nv_rald (v := some ro) hx hb hK hP 1 rfl (by omega) (by decide) hrf dX10_copy_29 ?_
      refine W.eq (g2 := F0 m 30 ls [.ref ro]) rfl ?_
      refine lv_astore (lv' := [(7, .ref ro), (6, .ref ro), (0, .ref o), (1, .int (nI sq)), (2, .int ivQ), (3, .int (nI sq)), (4, .int jv), (5, .int nv)]) hx hb dX10_copy_30 hl (by decide) rfl (fun ls hl => ?_)
      refine lv_aload hx hb dX10_copy_32 (lv_at hl 1 rfl) ?_
      refine va_get (D := D) (ci := 7) (v := .int (nI (shQ sq))) (C := RX7) (T := TX7) (N := 4) hx hb hts iX7 hown hK.1 hP 2 rfl rfl 1 (by decide) (hts _ m_514) (fun _ h9 => h9) rfl dX10_copy_34 ?_
      refine nv_ifeq (tgt := 48) hx hb (by omega) dX10_copy_37 (by decide) (fun hc37 => ?_) (fun hc37 => ?_)
      · refine lv_bipush (v := (-11)) hx hb dX10_copy_48 (by decide +kernel) ?_
        obtain ⟨rfl, rfl⟩ := hrel.2.1 sq sq rfl rfl (by omega) (by omega) (by first | exact Or.inl hc37 | exact Or.inr hc45)
        exact nv_mi hx hb hr hlocks hS dX10_copy_50 hP trivial rfl
      · refine lv_aload hx hb dX10_copy_40 (lv_at hl 0 rfl) ?_
        refine va_get (D := D) (ci := 7) (v := .int (nI (shQ sq))) (C := RX7) (T := TX7) (N := 4) hx hb hts iX7 hown hK.1 hP 2 rfl rfl 1 (by decide) (hts _ m_514) (fun _ h9 => h9) rfl dX10_copy_42 ?_
        refine nv_ifne (tgt := 51) hx hb (by omega) dX10_copy_45 (by decide) (fun hc45 => ?_) (fun hc45 => ?_)
        · refine lv_aload hx hb dX10_copy_51 (lv_at hl 1 rfl) ?_
          refine va_get (D := D) (ci := 7) (v := .int (nI (ln sq))) (C := RX7) (T := TX7) (N := 4) hx hb hts iX7 hown hK.1 hP 2 rfl rfl 2 (by decide) (hts _ m_518) (fun _ h9 => h9) rfl dX10_copy_53 ?_
          refine lv_aload hx hb dX10_copy_56 (lv_at hl 0 rfl) ?_
          refine va_get (D := D) (ci := 7) (v := .int (nI (ln sq))) (C := RX7) (T := TX7) (N := 4) hx hb hts iX7 hown hK.1 hP 2 rfl rfl 2 (by decide) (hts _ m_518) (fun _ h9 => h9) rfl dX10_copy_58 ?_
          refine nv_eq (tgt := 67) hx hb (by omega) (by omega) dX10_copy_61 (by decide) (fun hc61 => ?_) (fun hc61 => ?_)
          · refine lv_aload hx hb dX10_copy_67 (lv_at hl 1 rfl) ?_
            refine lv_iload_n hx hb dX10_copy_69 rfl (lv_at hl 4 rfl) ?_
            refine lv_iload hx hb dX10_copy_70 (lv_at hl 7 rfl) ?_
            have hPc := hP.sub (ws' := [(ro, .inr (7, [.ref ri, .int (nI (shQ sq)), .int (nI (ln sq)), .int (nI (mnQ sq))]))]) [2] rfl
            refine nv_cp1 (va_runV (As := [.int ivQ, .int nv]) (rest := []) ⟨hx, hb, hml, hown, hts⟩ (c_X7_lacks l D z ro ri (shQ sq) (ln sq) (mnQ sq) ivQ nv (by first | assumption | omega)) (cwV 2 hts (gV m_520 m_179 m_180 m_181 m_176) rfl rfl rfl ⟨rfl, hd_X7_lacks⟩ ⟨Nat.le_of_ble_eq_true rfl, Nat.le_of_ble_eq_true rfl⟩) (nv_prePV (ci := 7) (q0 := 0) hK hPc trivial rfl rfl) rfl rfl hl.1 rfl (lv_room (Nat.le_of_ble_eq_true rfl)) dX10_copy_72 ⟨by decide, by decide⟩) ?_
            refine nv_bne (tgt := 90) hx hb dX10_copy_75 (by decide) (fun hc75 => ?_) (fun hc75 => ?_)
            · refine lv_bipush (v := (-13)) hx hb dX10_copy_90 (by decide +kernel) ?_
              obtain ⟨rfl, rfl⟩ := hrel.2.2.2.1 sq sq rfl rfl (by omega) (by omega) hc37 hc45 rfl (by first | exact fun q9 => hc75 q9.1 | exact fun q9 => hc87 q9.2)
              exact nv_mi hx hb hr hlocks hS dX10_copy_92 hP trivial rfl
            · refine lv_aload hx hb dX10_copy_78 (lv_at hl 0 rfl) ?_
              refine lv_iload hx hb dX10_copy_80 (lv_at hl 6 rfl) ?_
              refine lv_iload hx hb dX10_copy_82 (lv_at hl 7 rfl) ?_
              have hPc := hP.sub (ws' := [(ro, .inr (7, [.ref ri, .int (nI (shQ sq)), .int (nI (ln sq)), .int (nI (mnQ sq))]))]) [2] rfl
              refine nv_cp1 (va_runV (As := [.int jv, .int nv]) (rest := []) ⟨hx, hb, hml, hown, hts⟩ (c_X7_lacks l D z ro ri (shQ sq) (ln sq) (mnQ sq) jv nv (by first | assumption | omega)) (cwV 2 hts (gV m_520 m_179 m_180 m_181 m_176) rfl rfl rfl ⟨rfl, hd_X7_lacks⟩ ⟨Nat.le_of_ble_eq_true rfl, Nat.le_of_ble_eq_true rfl⟩) (nv_prePV (ci := 7) (q0 := 0) hK hPc trivial rfl rfl) rfl rfl hl.1 rfl (lv_room (Nat.le_of_ble_eq_true rfl)) dX10_copy_84 ⟨by decide, by decide⟩) ?_
              refine nv_beq (tgt := 93) hx hb dX10_copy_87 (by decide) (fun hc87 => ?_) (fun hc87 => ?_)
              · have g1 : inb ivQ nv (mnQ sq) := Classical.byContradiction hc75
                have g2 : inb jv nv (mnQ sq) := Classical.byContradiction hc87
                obtain ⟨nq, rfl, -, hn9⟩ := wi_nat (x := nv) (b := 24) (a := 0) (by decide) ⟨g1.2.1, by have := g1.1; have := g1.2.2; omega⟩
                obtain ⟨iq, rfl, hiq⟩ := inb_nat (by omega) (by omega) g1
                obtain ⟨jv9, rfl, hjv⟩ := inb_nat (by omega) (by omega) g2
                obtain ⟨rfl, rfl⟩ := hrel.2.2.2.2 sq sq iq jv9 nq rfl rfl rfl rfl rfl (by omega) (by omega) hc37 hc45 rfl (by omega) (by omega)
                refine lv_aload hx hb dX10_copy_93 (lv_at hl 1 rfl) ?_
                refine va_get (D := D) (ci := 7) (v := .ref ri) (C := RX7) (T := TX7) (N := 4) hx hb hts iX7 hown hK.1 hP 2 rfl rfl 0 (by decide) (hts _ m_482) (fun _ h9 => h9) rfl dX10_copy_95 ?_
                refine lv_iload_n hx hb dX10_copy_98 rfl (lv_at hl 4 rfl) ?_
                refine lv_aload hx hb dX10_copy_99 (lv_at hl 0 rfl) ?_
                refine va_get (D := D) (ci := 7) (v := .ref ri) (C := RX7) (T := TX7) (N := 4) hx hb hts iX7 hown hK.1 hP 2 rfl rfl 0 (by decide) (hts _ m_482) (fun _ h9 => h9) rfl dX10_copy_101 ?_
                refine lv_iload hx hb dX10_copy_104 (lv_at hl 6 rfl) ?_
                refine lv_iload hx hb dX10_copy_106 (lv_at hl 7 rfl) ?_
                refine nv_copyL hx hb (hml.trans hl.1.symm) hown (hts _ m_519) (hts _ m_156) (hts _ m_157) (hts _ m_158) hK hP hD hS 3 3 rfl rfl (by omega) (by omega) (by decide) (by decide) (Nat.le_of_ble_eq_true rfl) (Nat.le_of_ble_eq_true rfl) dX10_copy_108 (fun H locs hP hD hS => ?_)
                have hP : va_P D vwCl [(o, .inr (10, [.ref hn, .ref pq, .ref gi, .ref gp, .int (nI ik), .ref h2, .ref tp, .ref rw9])), aR z rw9 4 rf, (ro, .inr (7, [.ref ri, .int (nI (shQ sq)), .int (nI (ln sq)), .int (nI (mnQ sq))])), aL z ri 24 (va_cpy (itS it sq) (itS it sq) iq jv9 nq)] H := hP
                have hD : va_D A [(o, .inr (10, [.ref hn, .ref pq, .ref gi, .ref gp, .int (nI ik), .ref h2, .ref tp, .ref rw9])), aR z rw9 4 rf, (ro, .inr (7, [.ref ri, .int (nI (shQ sq)), .int (nI (ln sq)), .int (nI (mnQ sq))])), aL z ri 24 (va_cpy (itS it sq) (itS it sq) iq jv9 nq)] := hD
                refine lv_iload hx hb dX10_copy_111 (lv_at hl 7 rfl) ?_
                exact nv_mi hx hb hr hlocks hS dX10_copy_113 (va_P.cgL hP 3 rfl (fun i hiQ => cy_tgt)) trivial rfl
              · refine lv_bipush (v := (-13)) hx hb dX10_copy_90 (by decide +kernel) ?_
                obtain ⟨rfl, rfl⟩ := hrel.2.2.2.1 sq sq rfl rfl (by omega) (by omega) hc37 hc45 rfl (by first | exact fun q9 => hc75 q9.1 | exact fun q9 => hc87 q9.2)
                exact nv_mi hx hb hr hlocks hS dX10_copy_92 hP trivial rfl
          · exact absurd rfl hc61
        · refine lv_bipush (v := (-11)) hx hb dX10_copy_48 (by decide +kernel) ?_
          obtain ⟨rfl, rfl⟩ := hrel.2.1 sq sq rfl rfl (by omega) (by omega) (by first | exact Or.inl hc37 | exact Or.inr hc45)
          exact nv_mi hx hb hr hlocks hS dX10_copy_50 hP trivial rfl
    · refine lv_iconst (v := (-1)) hx hb dX10_copy_14 (by decide +kernel) ?_
      obtain ⟨rfl, rfl⟩ := hrel.1 (by first | exact fun q => hc4 q.1 | exact fun q => hc11 q.2)
      exact nv_mi hx hb hr hlocks hS dX10_copy_15 hP trivial rfl

set_option maxHeartbeats 4000000 in
set_option maxRecDepth 100000 in
theorem c_X10_gives (l : Launch) (D : va_G) (z : Nat → ClassId) (sz : Nat) (w0Q : Nat) (o : Nat) (hn : Nat) (pq : Nat) (gi : Nat) (gp : Nat) (ik : Nat) (h2 : Nat) (tp : Nat) (rw9 : Nat) (hp : Nat) (hh : Nat) (pf : Nat → Option Nat) (rQ : Nat → Nat) (hp2 : Nat) (hh2 : Nat) (tf0 : Nat → Option Nat) (t0 : Nat → Nat) (ro : Nat) (ri : Nat) (shQ : Nat → Nat) (ln : Nat → Nat) (mnQ : Nat → Nat) (it : Nat → Int64) (sq : Nat) (iq : Nat) (kq : Nat) (pe : Nat) (hok : rOK w0Q rQ) (hw : w0Q ≤ 10000) (hik : iq + kq ≤ 24) (hk1 : 1 ≤ kq) (hpe : pe ≤ 9999) : CX (σ := (Nat → Nat) × (Nat → Option Nat)) l yX10_gives cX10_gives 6 (some .boolean) 3 77 0 0 [.ref o, .ref ro, .int (nI iq), .int (nI kq), .int (nI pe)] D z [(o, .inr (10, [.ref hn, .ref pq, .ref gi, .ref gp, .int (nI ik), .ref h2, .ref tp, .ref rw9])), (hn, .inr (3, [.ref hp, .ref hh, .int (nI (rQ 6)), .int (nI (hpF rQ (rQ 6))), .int (nI (chF rQ (rQ 6))), .int (nI (rQ 0)), .int (nI (rQ 1)), .int (nI (rQ 2)), .int (nI (rQ 3)), .int (nI (rQ 4)), .int (nI (rQ 5))])), aP z hp 6 pf, aN z hh 6 (hbA rQ), (h2, .inr (3, [.ref hp2, .ref hh2, .int (nI (t0 6)), .int (nI (hpF t0 (t0 6))), .int (nI (chF t0 (t0 6))), .int (nI (t0 0)), .int (nI (t0 1)), .int (nI (t0 2)), .int (nI (t0 3)), .int (nI (t0 4)), .int (nI (t0 5))])), aP z hp2 6 tf0, aN z hh2 6 (hbA t0), (ro, .inr (7, [.ref ri, .int (nI (shQ sq)), .int (nI (ln sq)), .int (nI (mnQ sq))])), aL z ri 24 (itS it sq)] sz (fun H => peH D [(o, .inr (10, [.ref hn, .ref pq, .ref gi, .ref gp, .int (nI ik), .ref h2, .ref tp, .ref rw9])), (hn, .inr (3, [.ref hp, .ref hh, .int (nI (rQ 6)), .int (nI (hpF rQ (rQ 6))), .int (nI (chF rQ (rQ 6))), .int (nI (rQ 0)), .int (nI (rQ 1)), .int (nI (rQ 2)), .int (nI (rQ 3)), .int (nI (rQ 4)), .int (nI (rQ 5))])), aP z hp 6 pf, aN z hh 6 (hbA rQ), (h2, .inr (3, [.ref hp2, .ref hh2, .int (nI (t0 6)), .int (nI (hpF t0 (t0 6))), .int (nI (chF t0 (t0 6))), .int (nI (t0 0)), .int (nI (t0 1)), .int (nI (t0 2)), .int (nI (t0 3)), .int (nI (t0 4)), .int (nI (t0 5))])), aP z hp2 6 tf0, aN z hh2 6 (hbA t0), (ro, .inr (7, [.ref ri, .int (nI (shQ sq)), .int (nI (ln sq)), .int (nI (mnQ sq))])), aL z ri 24 (itS it sq)] pf rQ H) (fun u => [(o, .inr (10, [.ref hn, .ref pq, .ref gi, .ref gp, .int (nI ik), .ref h2, .ref tp, .ref rw9])), (hn, .inr (3, [.ref hp, .ref hh, .int (nI (rQ 6)), .int (nI (hpF rQ (rQ 6))), .int (nI (chF rQ (rQ 6))), .int (nI (rQ 0)), .int (nI (rQ 1)), .int (nI (rQ 2)), .int (nI (rQ 3)), .int (nI (rQ 4)), .int (nI (rQ 5))])), aP z hp 6 pf, aN z hh 6 (hbA rQ), (h2, .inr (3, [.ref hp2, .ref hh2, .int (nI (u.1 6)), .int (nI (hpF u.1 (u.1 6))), .int (nI (chF u.1 (u.1 6))), .int (nI (u.1 0)), .int (nI (u.1 1)), .int (nI (u.1 2)), .int (nI (u.1 3)), .int (nI (u.1 4)), .int (nI (u.1 5))])), aP z hp2 6 u.2, aN z hh2 6 (hbA u.1), (ro, .inr (7, [.ref ri, .int (nI (shQ sq)), .int (nI (ln sq)), .int (nI (mnQ sq))])), aL z ri 24 (itS it sq)]) (some (.int (nI (gvD rQ (itS it sq) iq kq pe)))) (fun _ _ => True) := by
  refine Met.ofW (cc := cX10_gives) (maxL := 6) (ret := (some .boolean)) (by decide) rfl ?_
  intro pg e s m args below meth c s₁ B hml hv
  obtain ⟨rfl, hsz, hP, hK, hD0, hE⟩ := hv
  have hx := B.exec
  have hb := B.bytes
  have hr := B.returns
  have hts : ∀ w ∈ ALL, w.before _ s = true := fun w h => atoms_spec (ws := wA yX10_gives cX10_gives 6 (some .boolean)) B.pre w (List.mem_cons_of_mem _ h)
  have hown : s.vm.findClass RX10 = some m.cls := findClass_of_methodNamed B.named
  have hlocks := B.notSynchronized
  subst hsz
  have hD := hD0.self (sz := s.heap.size)
  obtain ⟨o0, o1, o1b, o2, o2b, o3, o4, o5, o6, oP⟩ := id hok
  have hN : ∀ (H : Heap) (locs : List Loc), va_S (va_A [(o, .inr (10, [.ref hn, .ref pq, .ref gi, .ref gp, .int (nI ik), .ref h2, .ref tp, .ref rw9])), (hn, .inr (3, [.ref hp, .ref hh, .int (nI (rQ 6)), .int (nI (hpF rQ (rQ 6))), .int (nI (chF rQ (rQ 6))), .int (nI (rQ 0)), .int (nI (rQ 1)), .int (nI (rQ 2)), .int (nI (rQ 3)), .int (nI (rQ 4)), .int (nI (rQ 5))])), aP z hp 6 pf, aN z hh 6 (hbA rQ), (h2, .inr (3, [.ref hp2, .ref hh2, .int (nI (t0 6)), .int (nI (hpF t0 (t0 6))), .int (nI (chF t0 (t0 6))), .int (nI (t0 0)), .int (nI (t0 1)), .int (nI (t0 2)), .int (nI (t0 3)), .int (nI (t0 4)), .int (nI (t0 5))])), aP z hp2 6 tf0, aN z hh2 6 (hbA t0), (ro, .inr (7, [.ref ri, .int (nI (shQ sq)), .int (nI (ln sq)), .int (nI (mnQ sq))])), aL z ri 24 (itS it sq)] s.heap.size) s.heap H locs → peH D [(o, .inr (10, [.ref hn, .ref pq, .ref gi, .ref gp, .int (nI ik), .ref h2, .ref tp, .ref rw9])), (hn, .inr (3, [.ref hp, .ref hh, .int (nI (rQ 6)), .int (nI (hpF rQ (rQ 6))), .int (nI (chF rQ (rQ 6))), .int (nI (rQ 0)), .int (nI (rQ 1)), .int (nI (rQ 2)), .int (nI (rQ 3)), .int (nI (rQ 4)), .int (nI (rQ 5))])), aP z hp 6 pf, aN z hh 6 (hbA rQ), (h2, .inr (3, [.ref hp2, .ref hh2, .int (nI (t0 6)), .int (nI (hpF t0 (t0 6))), .int (nI (chF t0 (t0 6))), .int (nI (t0 0)), .int (nI (t0 1)), .int (nI (t0 2)), .int (nI (t0 3)), .int (nI (t0 4)), .int (nI (t0 5))])), aP z hp2 6 tf0, aN z hh2 6 (hbA t0), (ro, .inr (7, [.ref ri, .int (nI (shQ sq)), .int (nI (ln sq)), .int (nI (mnQ sq))])), aL z ri 24 (itS it sq)] pf rQ H := fun H locs h9 => peH.now hE h9
  have hA : ∀ q : Nat, s.heap.size ≤ q → va_A [(o, .inr (10, [.ref hn, .ref pq, .ref gi, .ref gp, .int (nI ik), .ref h2, .ref tp, .ref rw9])), (hn, .inr (3, [.ref hp, .ref hh, .int (nI (rQ 6)), .int (nI (hpF rQ (rQ 6))), .int (nI (chF rQ (rQ 6))), .int (nI (rQ 0)), .int (nI (rQ 1)), .int (nI (rQ 2)), .int (nI (rQ 3)), .int (nI (rQ 4)), .int (nI (rQ 5))])), aP z hp 6 pf, aN z hh 6 (hbA rQ), (h2, .inr (3, [.ref hp2, .ref hh2, .int (nI (t0 6)), .int (nI (hpF t0 (t0 6))), .int (nI (chF t0 (t0 6))), .int (nI (t0 0)), .int (nI (t0 1)), .int (nI (t0 2)), .int (nI (t0 3)), .int (nI (t0 4)), .int (nI (t0 5))])), aP z hp2 6 tf0, aN z hh2 6 (hbA t0), (ro, .inr (7, [.ref ri, .int (nI (shQ sq)), .int (nI (ln sq)), .int (nI (mnQ sq))])), aL z ri 24 (itS it sq)] s.heap.size q := fun q h => Or.inr h
  generalize va_A [(o, .inr (10, [.ref hn, .ref pq, .ref gi, .ref gp, .int (nI ik), .ref h2, .ref tp, .ref rw9])), (hn, .inr (3, [.ref hp, .ref hh, .int (nI (rQ 6)), .int (nI (hpF rQ (rQ 6))), .int (nI (chF rQ (rQ 6))), .int (nI (rQ 0)), .int (nI (rQ 1)), .int (nI (rQ 2)), .int (nI (rQ 3)), .int (nI (rQ 4)), .int (nI (rQ 5))])), aP z hp 6 pf, aN z hh 6 (hbA rQ), (h2, .inr (3, [.ref hp2, .ref hh2, .int (nI (t0 6)), .int (nI (hpF t0 (t0 6))), .int (nI (chF t0 (t0 6))), .int (nI (t0 0)), .int (nI (t0 1)), .int (nI (t0 2)), .int (nI (t0 3)), .int (nI (t0 4)), .int (nI (t0 5))])), aP z hp2 6 tf0, aN z hh2 6 (hbA t0), (ro, .inr (7, [.ref ri, .int (nI (shQ sq)), .int (nI (ln sq)), .int (nI (mnQ sq))])), aL z ri 24 (itS it sq)] s.heap.size = A at *
  have hS : va_S A s.heap s.heap [] := va_S.rf
  have hl := lv_entry ([.ref o, .ref ro, .int (nI iq), .int (nI kq), .int (nI pe)]) (n := 6) (Nat.le_of_ble_eq_true rfl)
  rw [lg_entry_eq]
  generalize (lg_sl ([.ref o, .ref ro, .int (nI iq), .int (nI kq), .int (nI pe)]) ++ List.replicate (6 - (lg_sl ([.ref o, .ref ro, .int (nI iq), .int (nI kq), .int (nI pe)])).length) Slot.unset).toArray = ls at hl ⊢
  have hl : lv_has ls 6 [(0, .ref o), (1, .ref ro), (2, .int (nI iq)), (3, .int (nI kq)), (4, .int (nI pe))] := hl
  refine lv_aload_n hx hb dX10_gives_0 rfl (lv_at hl 0 rfl) ?_
  refine lv_iload hx hb dX10_gives_1 (lv_at hl 4 rfl) ?_
  have hPc := hP.sub (ws' := [(o, .inr (10, [.ref hn, .ref pq, .ref gi, .ref gp, .int (nI ik), .ref h2, .ref tp, .ref rw9])), (hn, .inr (3, [.ref hp, .ref hh, .int (nI (rQ 6)), .int (nI (hpF rQ (rQ 6))), .int (nI (chF rQ (rQ 6))), .int (nI (rQ 0)), .int (nI (rQ 1)), .int (nI (rQ 2)), .int (nI (rQ 3)), .int (nI (rQ 4)), .int (nI (rQ 5))])), aP z hp 6 pf, aN z hh 6 (hbA rQ), (h2, .inr (3, [.ref hp2, .ref hh2, .int (nI (t0 6)), .int (nI (hpF t0 (t0 6))), .int (nI (chF t0 (t0 6))), .int (nI (t0 0)), .int (nI (t0 1)), .int (nI (t0 2)), .int (nI (t0 3)), .int (nI (t0 4)), .int (nI (t0 5))])), aP z hp2 6 tf0, aN z hh2 6 (hbA t0)]) [0, 1, 2, 3, 4, 5, 6] rfl
  have hDc := hD.sub (ws' := [(o, .inr (10, [.ref hn, .ref pq, .ref gi, .ref gp, .int (nI ik), .ref h2, .ref tp, .ref rw9])), (hn, .inr (3, [.ref hp, .ref hh, .int (nI (rQ 6)), .int (nI (hpF rQ (rQ 6))), .int (nI (chF rQ (rQ 6))), .int (nI (rQ 0)), .int (nI (rQ 1)), .int (nI (rQ 2)), .int (nI (rQ 3)), .int (nI (rQ 4)), .int (nI (rQ 5))])), aP z hp 6 pf, aN z hh 6 (hbA rQ), (h2, .inr (3, [.ref hp2, .ref hh2, .int (nI (t0 6)), .int (nI (hpF t0 (t0 6))), .int (nI (chF t0 (t0 6))), .int (nI (t0 0)), .int (nI (t0 1)), .int (nI (t0 2)), .int (nI (t0 3)), .int (nI (t0 4)), .int (nI (t0 5))])), aP z hp2 6 tf0, aN z hh2 6 (hbA t0)]) [0, 1, 2, 3, 4, 5, 6] (by decide) rfl
  refine nv_cm0 (wc := [(o, .inr (10, [.ref hn, .ref pq, .ref gi, .ref gp, .int (nI ik), .ref h2, .ref tp, .ref rw9])), (hn, .inr (3, [.ref hp, .ref hh, .int (nI (rQ 6)), .int (nI (hpF rQ (rQ 6))), .int (nI (chF rQ (rQ 6))), .int (nI (rQ 0)), .int (nI (rQ 1)), .int (nI (rQ 2)), .int (nI (rQ 3)), .int (nI (rQ 4)), .int (nI (rQ 5))])), aP z hp 6 pf, aN z hh 6 (hbA rQ), (h2, .inr (3, [.ref hp2, .ref hh2, .int (nI (t0 6)), .int (nI (hpF t0 (t0 6))), .int (nI (chF t0 (t0 6))), .int (nI (t0 0)), .int (nI (t0 1)), .int (nI (t0 2)), .int (nI (t0 3)), .int (nI (t0 4)), .int (nI (t0 5))])), aP z hp2 6 tf0, aN z hh2 6 (hbA t0)]) (wr := [(ro, .inr (7, [.ref ri, .int (nI (shQ sq)), .int (nI (ln sq)), .int (nI (mnQ sq))])), aL z ri 24 (itS it sq)]) (w1 := [(o, .inr (10, [.ref hn, .ref pq, .ref gi, .ref gp, .int (nI ik), .ref h2, .ref tp, .ref rw9])), (hn, .inr (3, [.ref hp, .ref hh, .int (nI (rQ 6)), .int (nI (hpF rQ (rQ 6))), .int (nI (chF rQ (rQ 6))), .int (nI (rQ 0)), .int (nI (rQ 1)), .int (nI (rQ 2)), .int (nI (rQ 3)), .int (nI (rQ 4)), .int (nI (rQ 5))])), aP z hp 6 pf, aN z hh 6 (hbA rQ), (h2, .inr (3, [.ref hp2, .ref hh2, .int (nI ((uN rQ 0 pe) 6)), .int (nI (hpF (uN rQ 0 pe) ((uN rQ 0 pe) 6))), .int (nI (chF (uN rQ 0 pe) ((uN rQ 0 pe) 6))), .int (nI ((uN rQ 0 pe) 0)), .int (nI ((uN rQ 0 pe) 1)), .int (nI ((uN rQ 0 pe) 2)), .int (nI ((uN rQ 0 pe) 3)), .int (nI ((uN rQ 0 pe) 4)), .int (nI ((uN rQ 0 pe) 5))])), aP z hp2 6 pf, aN z hh2 6 (hbA (uN rQ 0 pe))]) (ws1 := [(o, .inr (10, [.ref hn, .ref pq, .ref gi, .ref gp, .int (nI ik), .ref h2, .ref tp, .ref rw9])), (hn, .inr (3, [.ref hp, .ref hh, .int (nI (rQ 6)), .int (nI (hpF rQ (rQ 6))), .int (nI (chF rQ (rQ 6))), .int (nI (rQ 0)), .int (nI (rQ 1)), .int (nI (rQ 2)), .int (nI (rQ 3)), .int (nI (rQ 4)), .int (nI (rQ 5))])), aP z hp 6 pf, aN z hh 6 (hbA rQ), (h2, .inr (3, [.ref hp2, .ref hh2, .int (nI ((uN rQ 0 pe) 6)), .int (nI (hpF (uN rQ 0 pe) ((uN rQ 0 pe) 6))), .int (nI (chF (uN rQ 0 pe) ((uN rQ 0 pe) 6))), .int (nI ((uN rQ 0 pe) 0)), .int (nI ((uN rQ 0 pe) 1)), .int (nI ((uN rQ 0 pe) 2)), .int (nI ((uN rQ 0 pe) 3)), .int (nI ((uN rQ 0 pe) 4)), .int (nI ((uN rQ 0 pe) 5))])), aP z hp2 6 pf, aN z hh2 6 (hbA (uN rQ 0 pe)), (ro, .inr (7, [.ref ri, .int (nI (shQ sq)), .int (nI (ln sq)), .int (nI (mnQ sq))])), aL z ri 24 (itS it sq)]) (va_runV (As := [.int (nI pe)]) (rest := []) ⟨hx, hb, hml, hown, hts⟩ (c_X10_tryPence l D z s.heap.size o hn pq gi gp ik h2 tp rw9 hp hh pf rQ hp2 hh2 tf0 t0 pe ) (cwV 1 hts (gV m_483 m_484 m_485 m_198 m_481) rfl rfl rfl ⟨rfl, hd_X10_tryPence⟩ ⟨Nat.le_of_ble_eq_true rfl, Nat.le_of_ble_eq_true rfl⟩) (nv_preMV (ci := 10) (q0 := 0) hK hPc hDc ((hN _ _ hS).to [0, 1, 2, 3, 4, 5, 6] rfl) rfl rfl) rfl rfl hl.1 rfl (lv_room (Nat.le_of_ble_eq_true rfl)) dX10_gives_3 ⟨by decide, by decide⟩) hP hD hS hA [0, 1, 2, 3, 4, 5, 6] [7, 8] [2, 3, 4, 5, 6, 7, 8, 0, 1] rfl rfl (by decide) (by decide) rfl (by decide) rfl (by decide) (fun H locs hP hD hS hE3 hz3 hf3 => ?_)
  clear hPc hDc
  clear hf3 hz3
  refine lv_iconst (v := nI 0) hx hb dX10_gives_6 (by decide +kernel) ?_
  refine lv_istore (lv' := [(5, .int (nI 0)), (0, .ref o), (1, .ref ro), (2, .int (nI iq)), (3, .int (nI kq)), (4, .int (nI pe))]) hx hb dX10_gives_7 hl (by decide) rfl (fun ls hl => ?_)
  refine nv_loop (σ := Nat) (fun x H locs ls => ∃ (jq : Nat), jq = x ∧ ((jq ≤ kq) ∧ (gvP rQ (itS it sq) iq jq pe)) ∧ va_P D vwCl [(o, .inr (10, [.ref hn, .ref pq, .ref gi, .ref gp, .int (nI ik), .ref h2, .ref tp, .ref rw9])), (hn, .inr (3, [.ref hp, .ref hh, .int (nI (rQ 6)), .int (nI (hpF rQ (rQ 6))), .int (nI (chF rQ (rQ 6))), .int (nI (rQ 0)), .int (nI (rQ 1)), .int (nI (rQ 2)), .int (nI (rQ 3)), .int (nI (rQ 4)), .int (nI (rQ 5))])), aP z hp 6 pf, aN z hh 6 (hbA rQ), (h2, .inr (3, [.ref hp2, .ref hh2, .int (nI ((wkN (uN rQ 0 pe) jq) 6)), .int (nI (hpF (wkN (uN rQ 0 pe) jq) ((wkN (uN rQ 0 pe) jq) 6))), .int (nI (chF (wkN (uN rQ 0 pe) jq) ((wkN (uN rQ 0 pe) jq) 6))), .int (nI ((wkN (uN rQ 0 pe) jq) 0)), .int (nI ((wkN (uN rQ 0 pe) jq) 1)), .int (nI ((wkN (uN rQ 0 pe) jq) 2)), .int (nI ((wkN (uN rQ 0 pe) jq) 3)), .int (nI ((wkN (uN rQ 0 pe) jq) 4)), .int (nI ((wkN (uN rQ 0 pe) jq) 5))])), aP z hp2 6 pf, aN z hh2 6 (hbA (wkN (uN rQ 0 pe) jq)), (ro, .inr (7, [.ref ri, .int (nI (shQ sq)), .int (nI (ln sq)), .int (nI (mnQ sq))])), aL z ri 24 (itS it sq)] H ∧ va_D A [(o, .inr (10, [.ref hn, .ref pq, .ref gi, .ref gp, .int (nI ik), .ref h2, .ref tp, .ref rw9])), (hn, .inr (3, [.ref hp, .ref hh, .int (nI (rQ 6)), .int (nI (hpF rQ (rQ 6))), .int (nI (chF rQ (rQ 6))), .int (nI (rQ 0)), .int (nI (rQ 1)), .int (nI (rQ 2)), .int (nI (rQ 3)), .int (nI (rQ 4)), .int (nI (rQ 5))])), aP z hp 6 pf, aN z hh 6 (hbA rQ), (h2, .inr (3, [.ref hp2, .ref hh2, .int (nI ((wkN (uN rQ 0 pe) jq) 6)), .int (nI (hpF (wkN (uN rQ 0 pe) jq) ((wkN (uN rQ 0 pe) jq) 6))), .int (nI (chF (wkN (uN rQ 0 pe) jq) ((wkN (uN rQ 0 pe) jq) 6))), .int (nI ((wkN (uN rQ 0 pe) jq) 0)), .int (nI ((wkN (uN rQ 0 pe) jq) 1)), .int (nI ((wkN (uN rQ 0 pe) jq) 2)), .int (nI ((wkN (uN rQ 0 pe) jq) 3)), .int (nI ((wkN (uN rQ 0 pe) jq) 4)), .int (nI ((wkN (uN rQ 0 pe) jq) 5))])), aP z hp2 6 pf, aN z hh2 6 (hbA (wkN (uN rQ 0 pe) jq)), (ro, .inr (7, [.ref ri, .int (nI (shQ sq)), .int (nI (ln sq)), .int (nI (mnQ sq))])), aL z ri 24 (itS it sq)] ∧ va_S A s.heap H locs ∧ lv_has ls 6 [(0, .ref o), (1, .ref ro), (2, .int (nI iq)), (3, .int (nI kq)), (5, .int (nI jq))]) (fun x => kq - x) 9 [] ?_ 0 ?_
  · rintro _ H locs ls ⟨jq, rfl, ⟨hj, hg⟩, hP, hD, hS, hl⟩ ih9
    refine lv_iload hx hb dX10_gives_9 (lv_at hl 4 rfl) ?_
    refine lv_iload_n hx hb dX10_gives_11 rfl (lv_at hl 3 rfl) ?_
    refine nv_ge (tgt := 59) hx hb (by omega) (by omega) dX10_gives_12 (by decide) (fun hc12 => ?_) (fun hc12 => ?_)
    · obtain rfl : kq = jq := by omega
      refine lv_iconst (v := nI 1) hx hb dX10_gives_59 (by decide +kernel) ?_
      exact nv_xz hx hb hr hlocks hS dX10_gives_60 (wkN (uN rQ 0 pe) kq, pf) hP trivial (by rw [gvD_1 hg]) (gv_nar _ _ _ _ _)
    · have hokx := pe_ok (p := pe) hok hpe
      have hokj := wkN_ok jq hokx
      have q3 := hokj.2.2.2.2.2.1
      refine lv_aload_n hx hb dX10_gives_15 rfl (lv_at hl 0 rfl) ?_
      refine va_get (D := D) (ci := 10) (v := .ref h2) (C := RX10) (T := TX10) (N := 8) hx hb hts iX10 hown hK.1 hP 0 rfl rfl 5 (by decide) (hts _ m_355) (fun _ h9 => h9) rfl dX10_gives_16 ?_
      refine lv_aload_n hx hb dX10_gives_19 rfl (lv_at hl 0 rfl) ?_
      refine va_get (D := D) (ci := 10) (v := .ref h2) (C := RX10) (T := TX10) (N := 8) hx hb hts iX10 hown hK.1 hP 0 rfl rfl 5 (by decide) (hts _ m_355) (fun _ h9 => h9) rfl dX10_gives_20 ?_
      refine va_get (D := D) (ci := 3) (v := .int (nI ((wkN (uN rQ 0 pe) jq) 3))) (C := RX3) (T := TX3) (N := 11) hx hb hts iX3 hown hK.1 hP 4 rfl rfl 8 (by decide) (hts _ m_406) (fun _ h9 => h9) rfl dX10_gives_23 ?_
      have hPc := hP.sub (ws' := [(h2, .inr (3, [.ref hp2, .ref hh2, .int (nI ((wkN (uN rQ 0 pe) jq) 6)), .int (nI (hpF (wkN (uN rQ 0 pe) jq) ((wkN (uN rQ 0 pe) jq) 6))), .int (nI (chF (wkN (uN rQ 0 pe) jq) ((wkN (uN rQ 0 pe) jq) 6))), .int (nI ((wkN (uN rQ 0 pe) jq) 0)), .int (nI ((wkN (uN rQ 0 pe) jq) 1)), .int (nI ((wkN (uN rQ 0 pe) jq) 2)), .int (nI ((wkN (uN rQ 0 pe) jq) 3)), .int (nI ((wkN (uN rQ 0 pe) jq) 4)), .int (nI ((wkN (uN rQ 0 pe) jq) 5))])), aP z hp2 6 pf, aN z hh2 6 (hbA (wkN (uN rQ 0 pe) jq))]) [4, 5, 6] rfl
      have hDc := hD.sub (ws' := [(h2, .inr (3, [.ref hp2, .ref hh2, .int (nI ((wkN (uN rQ 0 pe) jq) 6)), .int (nI (hpF (wkN (uN rQ 0 pe) jq) ((wkN (uN rQ 0 pe) jq) 6))), .int (nI (chF (wkN (uN rQ 0 pe) jq) ((wkN (uN rQ 0 pe) jq) 6))), .int (nI ((wkN (uN rQ 0 pe) jq) 0)), .int (nI ((wkN (uN rQ 0 pe) jq) 1)), .int (nI ((wkN (uN rQ 0 pe) jq) 2)), .int (nI ((wkN (uN rQ 0 pe) jq) 3)), .int (nI ((wkN (uN rQ 0 pe) jq) 4)), .int (nI ((wkN (uN rQ 0 pe) jq) 5))])), aP z hp2 6 pf, aN z hh2 6 (hbA (wkN (uN rQ 0 pe) jq))]) [4, 5, 6] (by decide) rfl
      refine nv_cm1 (wc := [(h2, .inr (3, [.ref hp2, .ref hh2, .int (nI ((wkN (uN rQ 0 pe) jq) 6)), .int (nI (hpF (wkN (uN rQ 0 pe) jq) ((wkN (uN rQ 0 pe) jq) 6))), .int (nI (chF (wkN (uN rQ 0 pe) jq) ((wkN (uN rQ 0 pe) jq) 6))), .int (nI ((wkN (uN rQ 0 pe) jq) 0)), .int (nI ((wkN (uN rQ 0 pe) jq) 1)), .int (nI ((wkN (uN rQ 0 pe) jq) 2)), .int (nI ((wkN (uN rQ 0 pe) jq) 3)), .int (nI ((wkN (uN rQ 0 pe) jq) 4)), .int (nI ((wkN (uN rQ 0 pe) jq) 5))])), aP z hp2 6 pf, aN z hh2 6 (hbA (wkN (uN rQ 0 pe) jq))]) (wr := [(o, .inr (10, [.ref hn, .ref pq, .ref gi, .ref gp, .int (nI ik), .ref h2, .ref tp, .ref rw9])), (hn, .inr (3, [.ref hp, .ref hh, .int (nI (rQ 6)), .int (nI (hpF rQ (rQ 6))), .int (nI (chF rQ (rQ 6))), .int (nI (rQ 0)), .int (nI (rQ 1)), .int (nI (rQ 2)), .int (nI (rQ 3)), .int (nI (rQ 4)), .int (nI (rQ 5))])), aP z hp 6 pf, aN z hh 6 (hbA rQ), (ro, .inr (7, [.ref ri, .int (nI (shQ sq)), .int (nI (ln sq)), .int (nI (mnQ sq))])), aL z ri 24 (itS it sq)]) (w1 := [(h2, .inr (3, [.ref hp2, .ref hh2, .int (nI ((weekR (wkN (uN rQ 0 pe) jq) ((wkN (uN rQ 0 pe) jq) 3)) 6)), .int (nI (hpF (weekR (wkN (uN rQ 0 pe) jq) ((wkN (uN rQ 0 pe) jq) 3)) ((weekR (wkN (uN rQ 0 pe) jq) ((wkN (uN rQ 0 pe) jq) 3)) 6))), .int (nI (chF (weekR (wkN (uN rQ 0 pe) jq) ((wkN (uN rQ 0 pe) jq) 3)) ((weekR (wkN (uN rQ 0 pe) jq) ((wkN (uN rQ 0 pe) jq) 3)) 6))), .int (nI ((weekR (wkN (uN rQ 0 pe) jq) ((wkN (uN rQ 0 pe) jq) 3)) 0)), .int (nI ((weekR (wkN (uN rQ 0 pe) jq) ((wkN (uN rQ 0 pe) jq) 3)) 1)), .int (nI ((weekR (wkN (uN rQ 0 pe) jq) ((wkN (uN rQ 0 pe) jq) 3)) 2)), .int (nI ((weekR (wkN (uN rQ 0 pe) jq) ((wkN (uN rQ 0 pe) jq) 3)) 3)), .int (nI ((weekR (wkN (uN rQ 0 pe) jq) ((wkN (uN rQ 0 pe) jq) 3)) 4)), .int (nI ((weekR (wkN (uN rQ 0 pe) jq) ((wkN (uN rQ 0 pe) jq) 3)) 5))])), aP z hp2 6 pf, aN z hh2 6 (hbA (weekR (wkN (uN rQ 0 pe) jq) ((wkN (uN rQ 0 pe) jq) 3)))]) (ws1 := [(o, .inr (10, [.ref hn, .ref pq, .ref gi, .ref gp, .int (nI ik), .ref h2, .ref tp, .ref rw9])), (hn, .inr (3, [.ref hp, .ref hh, .int (nI (rQ 6)), .int (nI (hpF rQ (rQ 6))), .int (nI (chF rQ (rQ 6))), .int (nI (rQ 0)), .int (nI (rQ 1)), .int (nI (rQ 2)), .int (nI (rQ 3)), .int (nI (rQ 4)), .int (nI (rQ 5))])), aP z hp 6 pf, aN z hh 6 (hbA rQ), (h2, .inr (3, [.ref hp2, .ref hh2, .int (nI ((weekR (wkN (uN rQ 0 pe) jq) ((wkN (uN rQ 0 pe) jq) 3)) 6)), .int (nI (hpF (weekR (wkN (uN rQ 0 pe) jq) ((wkN (uN rQ 0 pe) jq) 3)) ((weekR (wkN (uN rQ 0 pe) jq) ((wkN (uN rQ 0 pe) jq) 3)) 6))), .int (nI (chF (weekR (wkN (uN rQ 0 pe) jq) ((wkN (uN rQ 0 pe) jq) 3)) ((weekR (wkN (uN rQ 0 pe) jq) ((wkN (uN rQ 0 pe) jq) 3)) 6))), .int (nI ((weekR (wkN (uN rQ 0 pe) jq) ((wkN (uN rQ 0 pe) jq) 3)) 0)), .int (nI ((weekR (wkN (uN rQ 0 pe) jq) ((wkN (uN rQ 0 pe) jq) 3)) 1)), .int (nI ((weekR (wkN (uN rQ 0 pe) jq) ((wkN (uN rQ 0 pe) jq) 3)) 2)), .int (nI ((weekR (wkN (uN rQ 0 pe) jq) ((wkN (uN rQ 0 pe) jq) 3)) 3)), .int (nI ((weekR (wkN (uN rQ 0 pe) jq) ((wkN (uN rQ 0 pe) jq) 3)) 4)), .int (nI ((weekR (wkN (uN rQ 0 pe) jq) ((wkN (uN rQ 0 pe) jq) 3)) 5))])), aP z hp2 6 pf, aN z hh2 6 (hbA (weekR (wkN (uN rQ 0 pe) jq) ((wkN (uN rQ 0 pe) jq) 3))), (ro, .inr (7, [.ref ri, .int (nI (shQ sq)), .int (nI (ln sq)), .int (nI (mnQ sq))])), aL z ri 24 (itS it sq)]) (va_runV (As := [.int (nI ((wkN (uN rQ 0 pe) jq) 3))]) (rest := []) ⟨hx, hb, hml, hown, hts⟩ (c_X3_live l D z H.size (w0Q + jq) h2 hp2 hh2 pf (wkN (uN rQ 0 pe) jq) ((wkN (uN rQ 0 pe) jq) 3) hokj (by first | assumption | omega) (by first | assumption | omega)) (cwV 1 hts (gV m_436 m_135 m_136 m_78 m_133) rfl rfl rfl ⟨rfl, hd_X3_live⟩ ⟨Nat.le_of_ble_eq_true rfl, Nat.le_of_ble_eq_true rfl⟩) (nv_preMV (ci := 3) (q0 := 0) hK hPc hDc ((((hN _ _ hS).u 0 pe (by decide)).wk jq).to [4, 5, 6] rfl) rfl rfl) rfl rfl hl.1 rfl (lv_room (Nat.le_of_ble_eq_true rfl)) dX10_gives_26 ⟨by decide, by decide⟩) hP hD hS hA [4, 5, 6] [0, 1, 2, 3, 7, 8] [0, 1, 2, 3, 6, 7, 8, 4, 5] rfl rfl (by decide) (by decide) rfl (by decide) rfl (by decide) (fun H locs hP hD hS hE26 hz26 hf26 => ?_)
      clear hPc hDc
      clear hf26 hz26
      refine lv_pop hx hb dX10_gives_29 rfl ?_
      refine lv_aload_n hx hb dX10_gives_30 rfl (lv_at hl 1 rfl) ?_
      refine va_get (D := D) (ci := 7) (v := .ref ri) (C := RX7) (T := TX7) (N := 4) hx hb hts iX7 hown hK.1 hP 7 rfl rfl 0 (by decide) (hts _ m_482) (fun _ h9 => h9) rfl dX10_gives_31 ?_
      refine lv_iload_n hx hb dX10_gives_34 rfl (lv_at hl 2 rfl) ?_
      refine lv_iload hx hb dX10_gives_35 (lv_at hl 4 rfl) ?_
      refine nv_add hx hb dX10_gives_37 ?_
      refine nv_lald hx hb hK hP 8 rfl (by omega) (by decide) dX10_gives_38 ?_
      refine lv_aload_n hx hb dX10_gives_39 rfl (lv_at hl 0 rfl) ?_
      refine va_get (D := D) (ci := 10) (v := .ref h2) (C := RX10) (T := TX10) (N := 8) hx hb hts iX10 hown hK.1 hP 0 rfl rfl 5 (by decide) (hts _ m_355) (fun _ h9 => h9) rfl dX10_gives_40 ?_
      refine va_get (D := D) (ci := 3) (v := .int (nI ((weekR (wkN (uN rQ 0 pe) jq) ((wkN (uN rQ 0 pe) jq) 3)) 0))) (C := RX3) (T := TX3) (N := 11) hx hb hts iX3 hown hK.1 hP 4 rfl rfl 5 (by decide) (hts _ m_422) (fun _ h9 => h9) rfl dX10_gives_43 ?_
      refine lv_i2l hx hb dX10_gives_46 rfl ?_
      refine W.lcmp hx hb dX10_gives_47 ?_
      refine lv_if_eq (tgt := 53) hx hb dX10_gives_48 (by decide) (fun hc48 => ?_) (fun hc48 => ?_)
      · refine lv_iinc (v := nI (jq + 1)) (lv' := [(5, .int (nI (jq + 1))), (0, .ref o), (1, .ref ro), (2, .int (nI iq)), (3, .int (nI kq))]) hx hb dX10_gives_53 hl (k := 4) rfl (nI_inc _) (by decide) rfl (fun ls hl => ?_)
        refine lv_goto (tgt := 9) hx hb dX10_gives_56 (by decide) ?_
        exact ih9 (jq + 1) _ _ _ (by omega) ⟨jq + 1, rfl, ⟨(by omega), (fun w hw => (Nat.lt_succ_iff_lt_or_eq.mp hw).elim (hg w) (fun e9 => by rw [e9]; exact ((lg_cmp_eq _ _).mp hc48).symm))⟩, hP, hD, hS, lv_sub hl [1, 2, 3, 4, 0] rfl⟩
      · refine lv_iconst (v := nI 0) hx hb dX10_gives_51 (by decide +kernel) ?_
        exact nv_xz hx hb hr hlocks hS dX10_gives_52 (weekR (wkN (uN rQ 0 pe) jq) ((wkN (uN rQ 0 pe) jq) 3), pf) hP trivial (by rw [gvD_0 (fun q9 => hc48 ((lg_cmp_eq _ _).mpr (q9 jq (by omega)).symm))]) (gv_nar _ _ _ _ _)
  · exact ⟨0, rfl, ⟨(by omega), (fun w hw => absurd hw (Nat.not_lt_zero _))⟩, hP, hD, hS, lv_sub hl [1, 2, 3, 4, 0] rfl⟩

set_option maxHeartbeats 4000000 in
set_option maxRecDepth 100000 in
theorem c_X10_starts (l : Launch) (D : va_G) (z : Nat → ClassId) (sz : Nat) (w0Q : Nat) (o : Nat) (hn : Nat) (pq : Nat) (gi : Nat) (gp : Nat) (ik : Nat) (h2 : Nat) (tp : Nat) (rw9 : Nat) (hp : Nat) (hh : Nat) (pf : Nat → Option Nat) (rQ : Nat → Nat) (hp2 : Nat) (hh2 : Nat) (tf0 : Nat → Option Nat) (t0 : Nat → Nat) (ro : Nat) (ri : Nat) (shQ : Nat → Nat) (ln : Nat → Nat) (mnQ : Nat → Nat) (it : Nat → Int64) (sq : Nat) (iq : Nat) (kq : Nat) (loQ : Nat) (hiQ : Nat) (wq : Nat) (hok : rOK w0Q rQ) (hw : w0Q ≤ 10000) (hik : iq + kq ≤ 24) (hk1 : 1 ≤ kq) (hlo : loQ ≤ 9999) (hhi : hiQ ≤ 9999) (hsd : sideP rQ loQ hiQ) (hwq : wq ≤ 1) : CX (σ := (Nat → Nat) × (Nat → Option Nat)) l yX10_starts cX10_starts 15 (some .int) 5 113 0 0 [.ref o, .ref ro, .int (nI iq), .int (nI kq), .int (nI loQ), .int (nI hiQ), .int (nI wq)] D z [(o, .inr (10, [.ref hn, .ref pq, .ref gi, .ref gp, .int (nI ik), .ref h2, .ref tp, .ref rw9])), (hn, .inr (3, [.ref hp, .ref hh, .int (nI (rQ 6)), .int (nI (hpF rQ (rQ 6))), .int (nI (chF rQ (rQ 6))), .int (nI (rQ 0)), .int (nI (rQ 1)), .int (nI (rQ 2)), .int (nI (rQ 3)), .int (nI (rQ 4)), .int (nI (rQ 5))])), aP z hp 6 pf, aN z hh 6 (hbA rQ), (h2, .inr (3, [.ref hp2, .ref hh2, .int (nI (t0 6)), .int (nI (hpF t0 (t0 6))), .int (nI (chF t0 (t0 6))), .int (nI (t0 0)), .int (nI (t0 1)), .int (nI (t0 2)), .int (nI (t0 3)), .int (nI (t0 4)), .int (nI (t0 5))])), aP z hp2 6 tf0, aN z hh2 6 (hbA t0), (ro, .inr (7, [.ref ri, .int (nI (shQ sq)), .int (nI (ln sq)), .int (nI (mnQ sq))])), aL z ri 24 (itS it sq)] sz (fun H => peH D [(o, .inr (10, [.ref hn, .ref pq, .ref gi, .ref gp, .int (nI ik), .ref h2, .ref tp, .ref rw9])), (hn, .inr (3, [.ref hp, .ref hh, .int (nI (rQ 6)), .int (nI (hpF rQ (rQ 6))), .int (nI (chF rQ (rQ 6))), .int (nI (rQ 0)), .int (nI (rQ 1)), .int (nI (rQ 2)), .int (nI (rQ 3)), .int (nI (rQ 4)), .int (nI (rQ 5))])), aP z hp 6 pf, aN z hh 6 (hbA rQ), (h2, .inr (3, [.ref hp2, .ref hh2, .int (nI (t0 6)), .int (nI (hpF t0 (t0 6))), .int (nI (chF t0 (t0 6))), .int (nI (t0 0)), .int (nI (t0 1)), .int (nI (t0 2)), .int (nI (t0 3)), .int (nI (t0 4)), .int (nI (t0 5))])), aP z hp2 6 tf0, aN z hh2 6 (hbA t0), (ro, .inr (7, [.ref ri, .int (nI (shQ sq)), .int (nI (ln sq)), .int (nI (mnQ sq))])), aL z ri 24 (itS it sq)] pf rQ H) (fun u => [(o, .inr (10, [.ref hn, .ref pq, .ref gi, .ref gp, .int (nI ik), .ref h2, .ref tp, .ref rw9])), (hn, .inr (3, [.ref hp, .ref hh, .int (nI (rQ 6)), .int (nI (hpF rQ (rQ 6))), .int (nI (chF rQ (rQ 6))), .int (nI (rQ 0)), .int (nI (rQ 1)), .int (nI (rQ 2)), .int (nI (rQ 3)), .int (nI (rQ 4)), .int (nI (rQ 5))])), aP z hp 6 pf, aN z hh 6 (hbA rQ), (h2, .inr (3, [.ref hp2, .ref hh2, .int (nI (u.1 6)), .int (nI (hpF u.1 (u.1 6))), .int (nI (chF u.1 (u.1 6))), .int (nI (u.1 0)), .int (nI (u.1 1)), .int (nI (u.1 2)), .int (nI (u.1 3)), .int (nI (u.1 4)), .int (nI (u.1 5))])), aP z hp2 6 u.2, aN z hh2 6 (hbA u.1), (ro, .inr (7, [.ref ri, .int (nI (shQ sq)), .int (nI (ln sq)), .int (nI (mnQ sq))])), aL z ri 24 (itS it sq)]) (some (.int (stV (gvD rQ (itS it sq) iq kq) loQ hiQ wq))) (fun _ _ => True) := by
  refine Met.ofW (cc := cX10_starts) (maxL := 15) (ret := (some .int)) (by decide) rfl ?_
  intro pg e s m args below meth c s₁ B hml hv
  obtain ⟨rfl, hsz, hP, hK, hD0, hE⟩ := hv
  have hx := B.exec
  have hb := B.bytes
  have hr := B.returns
  have hts : ∀ w ∈ ALL, w.before _ s = true := fun w h => atoms_spec (ws := wA yX10_starts cX10_starts 15 (some .int)) B.pre w (List.mem_cons_of_mem _ h)
  have hown : s.vm.findClass RX10 = some m.cls := findClass_of_methodNamed B.named
  have hlocks := B.notSynchronized
  subst hsz
  have hD := hD0.self (sz := s.heap.size)
  obtain ⟨o0, o1, o1b, o2, o2b, o3, o4, o5, o6, oP⟩ := id hok
  have hN : ∀ (H : Heap) (locs : List Loc), va_S (va_A [(o, .inr (10, [.ref hn, .ref pq, .ref gi, .ref gp, .int (nI ik), .ref h2, .ref tp, .ref rw9])), (hn, .inr (3, [.ref hp, .ref hh, .int (nI (rQ 6)), .int (nI (hpF rQ (rQ 6))), .int (nI (chF rQ (rQ 6))), .int (nI (rQ 0)), .int (nI (rQ 1)), .int (nI (rQ 2)), .int (nI (rQ 3)), .int (nI (rQ 4)), .int (nI (rQ 5))])), aP z hp 6 pf, aN z hh 6 (hbA rQ), (h2, .inr (3, [.ref hp2, .ref hh2, .int (nI (t0 6)), .int (nI (hpF t0 (t0 6))), .int (nI (chF t0 (t0 6))), .int (nI (t0 0)), .int (nI (t0 1)), .int (nI (t0 2)), .int (nI (t0 3)), .int (nI (t0 4)), .int (nI (t0 5))])), aP z hp2 6 tf0, aN z hh2 6 (hbA t0), (ro, .inr (7, [.ref ri, .int (nI (shQ sq)), .int (nI (ln sq)), .int (nI (mnQ sq))])), aL z ri 24 (itS it sq)] s.heap.size) s.heap H locs → peH D [(o, .inr (10, [.ref hn, .ref pq, .ref gi, .ref gp, .int (nI ik), .ref h2, .ref tp, .ref rw9])), (hn, .inr (3, [.ref hp, .ref hh, .int (nI (rQ 6)), .int (nI (hpF rQ (rQ 6))), .int (nI (chF rQ (rQ 6))), .int (nI (rQ 0)), .int (nI (rQ 1)), .int (nI (rQ 2)), .int (nI (rQ 3)), .int (nI (rQ 4)), .int (nI (rQ 5))])), aP z hp 6 pf, aN z hh 6 (hbA rQ), (h2, .inr (3, [.ref hp2, .ref hh2, .int (nI (t0 6)), .int (nI (hpF t0 (t0 6))), .int (nI (chF t0 (t0 6))), .int (nI (t0 0)), .int (nI (t0 1)), .int (nI (t0 2)), .int (nI (t0 3)), .int (nI (t0 4)), .int (nI (t0 5))])), aP z hp2 6 tf0, aN z hh2 6 (hbA t0), (ro, .inr (7, [.ref ri, .int (nI (shQ sq)), .int (nI (ln sq)), .int (nI (mnQ sq))])), aL z ri 24 (itS it sq)] pf rQ H := fun H locs h9 => peH.now hE h9
  have hA : ∀ q : Nat, s.heap.size ≤ q → va_A [(o, .inr (10, [.ref hn, .ref pq, .ref gi, .ref gp, .int (nI ik), .ref h2, .ref tp, .ref rw9])), (hn, .inr (3, [.ref hp, .ref hh, .int (nI (rQ 6)), .int (nI (hpF rQ (rQ 6))), .int (nI (chF rQ (rQ 6))), .int (nI (rQ 0)), .int (nI (rQ 1)), .int (nI (rQ 2)), .int (nI (rQ 3)), .int (nI (rQ 4)), .int (nI (rQ 5))])), aP z hp 6 pf, aN z hh 6 (hbA rQ), (h2, .inr (3, [.ref hp2, .ref hh2, .int (nI (t0 6)), .int (nI (hpF t0 (t0 6))), .int (nI (chF t0 (t0 6))), .int (nI (t0 0)), .int (nI (t0 1)), .int (nI (t0 2)), .int (nI (t0 3)), .int (nI (t0 4)), .int (nI (t0 5))])), aP z hp2 6 tf0, aN z hh2 6 (hbA t0), (ro, .inr (7, [.ref ri, .int (nI (shQ sq)), .int (nI (ln sq)), .int (nI (mnQ sq))])), aL z ri 24 (itS it sq)] s.heap.size q := fun q h => Or.inr h
  generalize va_A [(o, .inr (10, [.ref hn, .ref pq, .ref gi, .ref gp, .int (nI ik), .ref h2, .ref tp, .ref rw9])), (hn, .inr (3, [.ref hp, .ref hh, .int (nI (rQ 6)), .int (nI (hpF rQ (rQ 6))), .int (nI (chF rQ (rQ 6))), .int (nI (rQ 0)), .int (nI (rQ 1)), .int (nI (rQ 2)), .int (nI (rQ 3)), .int (nI (rQ 4)), .int (nI (rQ 5))])), aP z hp 6 pf, aN z hh 6 (hbA rQ), (h2, .inr (3, [.ref hp2, .ref hh2, .int (nI (t0 6)), .int (nI (hpF t0 (t0 6))), .int (nI (chF t0 (t0 6))), .int (nI (t0 0)), .int (nI (t0 1)), .int (nI (t0 2)), .int (nI (t0 3)), .int (nI (t0 4)), .int (nI (t0 5))])), aP z hp2 6 tf0, aN z hh2 6 (hbA t0), (ro, .inr (7, [.ref ri, .int (nI (shQ sq)), .int (nI (ln sq)), .int (nI (mnQ sq))])), aL z ri 24 (itS it sq)] s.heap.size = A at *
  have hS : va_S A s.heap s.heap [] := va_S.rf
  have hl := lv_entry ([.ref o, .ref ro, .int (nI iq), .int (nI kq), .int (nI loQ), .int (nI hiQ), .int (nI wq)]) (n := 15) (Nat.le_of_ble_eq_true rfl)
  rw [lg_entry_eq]
  generalize (lg_sl ([.ref o, .ref ro, .int (nI iq), .int (nI kq), .int (nI loQ), .int (nI hiQ), .int (nI wq)]) ++ List.replicate (15 - (lg_sl ([.ref o, .ref ro, .int (nI iq), .int (nI kq), .int (nI loQ), .int (nI hiQ), .int (nI wq)])).length) Slot.unset).toArray = ls at hl ⊢
  have hl : lv_has ls 15 [(0, .ref o), (1, .ref ro), (2, .int (nI iq)), (3, .int (nI kq)), (4, .int (nI loQ)), (5, .int (nI hiQ)), (6, .int (nI wq))] := hl
  refine lv_iload hx hb dX10_starts_0 (lv_at hl 6 rfl) ?_
  refine nv_join (g2 := F0 m 11 ls [.int (if wq = 0 then nI 0 else (-4))]) (fun J1 => ?_) ?_
  · refine nv_ifne (tgt := 9) hx hb (by omega) dX10_starts_2 (by decide) (fun hc2 => ?_) (fun hc2 => ?_)
    · refine lv_bipush (v := (-4)) hx hb dX10_starts_9 (by decide +kernel) ?_
      have q9 : (-4) = if wq = 0 then nI 0 else (-4) := by first | (rw [if_pos hc2]; done) | (rw [if_neg hc2]; done)
      exact W.eq (congrArg (fun x9 => F0 m 11 ls (.int x9 :: [])) q9) J1
    · refine lv_iconst (v := nI 0) hx hb dX10_starts_5 (by decide +kernel) ?_
      refine lv_goto (tgt := 11) hx hb dX10_starts_6 (by decide) ?_
      have q9 : nI 0 = if wq = 0 then nI 0 else (-4) := by first | (rw [if_pos hc2]; done) | (rw [if_neg hc2]; done)
      exact W.eq (congrArg (fun x9 => F0 m 11 ls (.int x9 :: [])) q9) J1
  · refine lv_istore (lv' := [(7, .int (if wq = 0 then nI 0 else (-4))), (0, .ref o), (1, .ref ro), (2, .int (nI iq)), (3, .int (nI kq)), (4, .int (nI loQ)), (5, .int (nI hiQ)), (6, .int (nI wq))]) hx hb dX10_starts_11 hl (by decide) rfl (fun ls hl => ?_)
    refine lv_iload hx hb dX10_starts_13 (lv_at hl 5 rfl) ?_
    refine lv_iload hx hb dX10_starts_15 (lv_at hl 6 rfl) ?_
    refine nv_le (tgt := 23) hx hb (by omega) (by omega) dX10_starts_17 (by decide) (fun hc17 => ?_) (fun hc17 => ?_)
    · refine lv_aload_n hx hb dX10_starts_23 rfl (lv_at hl 1 rfl) ?_
      refine lv_iload hx hb dX10_starts_24 (lv_at hl 6 rfl) ?_
      have hPc := hP.sub (ws' := [(o, .inr (10, [.ref hn, .ref pq, .ref gi, .ref gp, .int (nI ik), .ref h2, .ref tp, .ref rw9])), (hn, .inr (3, [.ref hp, .ref hh, .int (nI (rQ 6)), .int (nI (hpF rQ (rQ 6))), .int (nI (chF rQ (rQ 6))), .int (nI (rQ 0)), .int (nI (rQ 1)), .int (nI (rQ 2)), .int (nI (rQ 3)), .int (nI (rQ 4)), .int (nI (rQ 5))])), aP z hp 6 pf, aN z hh 6 (hbA rQ), (h2, .inr (3, [.ref hp2, .ref hh2, .int (nI (t0 6)), .int (nI (hpF t0 (t0 6))), .int (nI (chF t0 (t0 6))), .int (nI (t0 0)), .int (nI (t0 1)), .int (nI (t0 2)), .int (nI (t0 3)), .int (nI (t0 4)), .int (nI (t0 5))])), aP z hp2 6 tf0, aN z hh2 6 (hbA t0)]) [0, 1, 2, 3, 4, 5, 6] rfl
      have hDc := hD.sub (ws' := [(o, .inr (10, [.ref hn, .ref pq, .ref gi, .ref gp, .int (nI ik), .ref h2, .ref tp, .ref rw9])), (hn, .inr (3, [.ref hp, .ref hh, .int (nI (rQ 6)), .int (nI (hpF rQ (rQ 6))), .int (nI (chF rQ (rQ 6))), .int (nI (rQ 0)), .int (nI (rQ 1)), .int (nI (rQ 2)), .int (nI (rQ 3)), .int (nI (rQ 4)), .int (nI (rQ 5))])), aP z hp 6 pf, aN z hh 6 (hbA rQ), (h2, .inr (3, [.ref hp2, .ref hh2, .int (nI (t0 6)), .int (nI (hpF t0 (t0 6))), .int (nI (chF t0 (t0 6))), .int (nI (t0 0)), .int (nI (t0 1)), .int (nI (t0 2)), .int (nI (t0 3)), .int (nI (t0 4)), .int (nI (t0 5))])), aP z hp2 6 tf0, aN z hh2 6 (hbA t0)]) [0, 1, 2, 3, 4, 5, 6] (by decide) rfl
      refine nv_cm0 (wc := [(o, .inr (10, [.ref hn, .ref pq, .ref gi, .ref gp, .int (nI ik), .ref h2, .ref tp, .ref rw9])), (hn, .inr (3, [.ref hp, .ref hh, .int (nI (rQ 6)), .int (nI (hpF rQ (rQ 6))), .int (nI (chF rQ (rQ 6))), .int (nI (rQ 0)), .int (nI (rQ 1)), .int (nI (rQ 2)), .int (nI (rQ 3)), .int (nI (rQ 4)), .int (nI (rQ 5))])), aP z hp 6 pf, aN z hh 6 (hbA rQ), (h2, .inr (3, [.ref hp2, .ref hh2, .int (nI (t0 6)), .int (nI (hpF t0 (t0 6))), .int (nI (chF t0 (t0 6))), .int (nI (t0 0)), .int (nI (t0 1)), .int (nI (t0 2)), .int (nI (t0 3)), .int (nI (t0 4)), .int (nI (t0 5))])), aP z hp2 6 tf0, aN z hh2 6 (hbA t0)]) (wr := [(ro, .inr (7, [.ref ri, .int (nI (shQ sq)), .int (nI (ln sq)), .int (nI (mnQ sq))])), aL z ri 24 (itS it sq)]) (w1 := [(o, .inr (10, [.ref hn, .ref pq, .ref gi, .ref gp, .int (nI ik), .ref h2, .ref tp, .ref rw9])), (hn, .inr (3, [.ref hp, .ref hh, .int (nI (rQ 6)), .int (nI (hpF rQ (rQ 6))), .int (nI (chF rQ (rQ 6))), .int (nI (rQ 0)), .int (nI (rQ 1)), .int (nI (rQ 2)), .int (nI (rQ 3)), .int (nI (rQ 4)), .int (nI (rQ 5))])), aP z hp 6 pf, aN z hh 6 (hbA rQ), (h2, .inr (3, [.ref hp2, .ref hh2, .int (nI ((uN rQ 0 hiQ) 6)), .int (nI (hpF (uN rQ 0 hiQ) ((uN rQ 0 hiQ) 6))), .int (nI (chF (uN rQ 0 hiQ) ((uN rQ 0 hiQ) 6))), .int (nI ((uN rQ 0 hiQ) 0)), .int (nI ((uN rQ 0 hiQ) 1)), .int (nI ((uN rQ 0 hiQ) 2)), .int (nI ((uN rQ 0 hiQ) 3)), .int (nI ((uN rQ 0 hiQ) 4)), .int (nI ((uN rQ 0 hiQ) 5))])), aP z hp2 6 pf, aN z hh2 6 (hbA (uN rQ 0 hiQ))]) (ws1 := [(o, .inr (10, [.ref hn, .ref pq, .ref gi, .ref gp, .int (nI ik), .ref h2, .ref tp, .ref rw9])), (hn, .inr (3, [.ref hp, .ref hh, .int (nI (rQ 6)), .int (nI (hpF rQ (rQ 6))), .int (nI (chF rQ (rQ 6))), .int (nI (rQ 0)), .int (nI (rQ 1)), .int (nI (rQ 2)), .int (nI (rQ 3)), .int (nI (rQ 4)), .int (nI (rQ 5))])), aP z hp 6 pf, aN z hh 6 (hbA rQ), (h2, .inr (3, [.ref hp2, .ref hh2, .int (nI ((uN rQ 0 hiQ) 6)), .int (nI (hpF (uN rQ 0 hiQ) ((uN rQ 0 hiQ) 6))), .int (nI (chF (uN rQ 0 hiQ) ((uN rQ 0 hiQ) 6))), .int (nI ((uN rQ 0 hiQ) 0)), .int (nI ((uN rQ 0 hiQ) 1)), .int (nI ((uN rQ 0 hiQ) 2)), .int (nI ((uN rQ 0 hiQ) 3)), .int (nI ((uN rQ 0 hiQ) 4)), .int (nI ((uN rQ 0 hiQ) 5))])), aP z hp2 6 pf, aN z hh2 6 (hbA (uN rQ 0 hiQ)), (ro, .inr (7, [.ref ri, .int (nI (shQ sq)), .int (nI (ln sq)), .int (nI (mnQ sq))])), aL z ri 24 (itS it sq)]) (va_runV (As := [.int (nI hiQ)]) (rest := []) ⟨hx, hb, hml, hown, hts⟩ (c_X10_tryPence l D z s.heap.size o hn pq gi gp ik h2 tp rw9 hp hh pf rQ hp2 hh2 tf0 t0 hiQ ) (cwV 1 hts (gV m_483 m_484 m_485 m_198 m_481) rfl rfl rfl ⟨rfl, hd_X10_tryPence⟩ ⟨Nat.le_of_ble_eq_true rfl, Nat.le_of_ble_eq_true rfl⟩) (nv_preMV (ci := 10) (q0 := 0) hK hPc hDc ((hN _ _ hS).to [0, 1, 2, 3, 4, 5, 6] rfl) rfl rfl) rfl rfl hl.1 rfl (lv_room (Nat.le_of_ble_eq_true rfl)) dX10_starts_26 ⟨by decide, by decide⟩) hP hD hS hA [0, 1, 2, 3, 4, 5, 6] [7, 8] [2, 3, 4, 5, 6, 7, 8, 0, 1] rfl rfl (by decide) (by decide) rfl (by decide) rfl (by decide) (fun H locs hP hD hS hE26 hz26 hf26 => ?_)
      clear hPc hDc
      clear hf26 hz26
      refine lv_aload_n hx hb dX10_starts_29 rfl (lv_at hl 1 rfl) ?_
      refine va_get (D := D) (ci := 10) (v := .ref h2) (C := RX10) (T := TX10) (N := 8) hx hb hts iX10 hown hK.1 hP 0 rfl rfl 5 (by decide) (hts _ m_355) (fun _ h9 => h9) rfl dX10_starts_30 ?_
      have hPc := hP.sub (ws' := [(h2, .inr (3, [.ref hp2, .ref hh2, .int (nI ((uN rQ 0 hiQ) 6)), .int (nI (hpF (uN rQ 0 hiQ) ((uN rQ 0 hiQ) 6))), .int (nI (chF (uN rQ 0 hiQ) ((uN rQ 0 hiQ) 6))), .int (nI ((uN rQ 0 hiQ) 0)), .int (nI ((uN rQ 0 hiQ) 1)), .int (nI ((uN rQ 0 hiQ) 2)), .int (nI ((uN rQ 0 hiQ) 3)), .int (nI ((uN rQ 0 hiQ) 4)), .int (nI ((uN rQ 0 hiQ) 5))])), aP z hp2 6 pf, aN z hh2 6 (hbA (uN rQ 0 hiQ))]) [4, 5, 6] rfl
      refine nv_cp1 (va_runV (As := []) (rest := []) ⟨hx, hb, hml, hown, hts⟩ (c_X3_paysOfAll l D z w0Q h2 hp2 hh2 pf (uN rQ 0 hiQ) (pe_ok hok hhi) (by first | assumption | omega)) (cwV 0 hts (gV m_429 m_430 m_431 m_78 m_131) rfl rfl rfl ⟨rfl, hd_X3_paysOfAll⟩ ⟨Nat.le_of_ble_eq_true rfl, Nat.le_of_ble_eq_true rfl⟩) (nv_prePV (ci := 3) (q0 := 0) hK hPc (((hN _ _ hS).u 0 hiQ (by decide)).to [4, 5, 6] rfl) rfl rfl) rfl rfl hl.1 rfl (lv_room (Nat.le_of_ble_eq_true rfl)) dX10_starts_33 ⟨by decide, by decide⟩) ?_
      rw [pd_is]
      obtain ⟨pd9, hpd9⟩ : ∃ y9 : Nat, y9 = pdF rQ hiQ := ⟨_, rfl⟩
      rw [← hpd9]
      have hpdl : pd9 < 1000000 := by rw [hpd9]; unfold pdF; have := apF_le (r := rQ) (rQ 3 + hbF (uN rQ 0 hiQ)) (rQ 6) o2b; omega
      refine lv_istore (lv' := [(8, .int (nI pd9)), (7, .int (if wq = 0 then nI 0 else (-4))), (0, .ref o), (1, .ref ro), (2, .int (nI iq)), (3, .int (nI kq)), (4, .int (nI loQ)), (5, .int (nI hiQ)), (6, .int (nI wq))]) hx hb dX10_starts_36 hl (by decide) rfl (fun ls hl => ?_)
      refine lv_aload_n hx hb dX10_starts_38 rfl (lv_at hl 3 rfl) ?_
      refine va_get (D := D) (ci := 7) (v := .ref ri) (C := RX7) (T := TX7) (N := 4) hx hb hts iX7 hown hK.1 hP 7 rfl rfl 0 (by decide) (hts _ m_482) (fun _ h9 => h9) rfl dX10_starts_39 ?_
      refine lv_iload_n hx hb dX10_starts_42 rfl (lv_at hl 4 rfl) ?_
      refine nv_lald hx hb hK hP 8 rfl (by omega) (by decide) dX10_starts_43 ?_
      refine lv_lstore (lv' := [(9, .long ((itS it sq) iq)), (8, .int (nI pd9)), (7, .int (if wq = 0 then nI 0 else (-4))), (0, .ref o), (1, .ref ro), (2, .int (nI iq)), (3, .int (nI kq)), (4, .int (nI loQ)), (5, .int (nI hiQ)), (6, .int (nI wq))]) hx hb dX10_starts_44 hl (by decide) rfl (fun ls hl => ?_)
      refine lv_lload hx hb dX10_starts_46 (lv_at hl 0 rfl) ?_
      refine lv_iload hx hb dX10_starts_48 (lv_at hl 1 rfl) ?_
      refine lv_i2l hx hb dX10_starts_50 rfl ?_
      refine lv_lsub hx hb dX10_starts_51 ?_
      refine lv_topl (fun x9 hx9 => ?_)
      refine lv_lstore (lv' := [(11, .long x9), (9, .long ((itS it sq) iq)), (8, .int (nI pd9)), (7, .int (if wq = 0 then nI 0 else (-4))), (0, .ref o), (1, .ref ro), (2, .int (nI iq)), (3, .int (nI kq)), (4, .int (nI loQ)), (5, .int (nI hiQ)), (6, .int (nI wq))]) hx hb dX10_starts_52 hl (by decide) rfl (fun ls hl => ?_)
      refine lv_lload hx hb dX10_starts_54 (lv_at hl 0 rfl) ?_
      refine lv_lstore (lv' := [(13, .long x9), (11, .long x9), (9, .long ((itS it sq) iq)), (8, .int (nI pd9)), (7, .int (if wq = 0 then nI 0 else (-4))), (0, .ref o), (1, .ref ro), (2, .int (nI iq)), (3, .int (nI kq)), (4, .int (nI loQ)), (5, .int (nI hiQ)), (6, .int (nI wq))]) hx hb dX10_starts_56 hl (by decide) rfl (fun ls hl => ?_)
      refine lv_lload hx hb dX10_starts_58 (lv_at hl 2 rfl) ?_
      refine lv_ldc2 (own := RX10) hx hb hown (hts _ m_487) dX10_starts_60 ?_
      refine W.lcmp hx hb dX10_starts_63 ?_
      refine lv_if_ne (tgt := 86) hx hb dX10_starts_64 (by decide) (fun hc64 => ?_) (fun hc64 => ?_)
      · refine lv_lload hx hb dX10_starts_86 (lv_at hl 1 rfl) ?_
        refine lv_lload hx hb dX10_starts_88 (lv_at hl 0 rfl) ?_
        refine W.lcmp hx hb dX10_starts_90 ?_
        refine lv_if_gt (tgt := 125) hx hb dX10_starts_91 (by decide) (fun hc91 => ?_) (fun hc91 => ?_)
        · exact (Int64.lt_irrefl ((lg_cmp_gt _ _).mp hc91)).elim
        · refine lv_lload hx hb dX10_starts_94 (lv_at hl 1 rfl) ?_
          refine lv_iload hx hb dX10_starts_96 (lv_at hl 9 rfl) ?_
          refine lv_i2l hx hb dX10_starts_98 rfl ?_
          refine W.lcmp hx hb dX10_starts_99 ?_
          refine lv_if_lt (tgt := 125) hx hb dX10_starts_100 (by decide) (fun hc100 => ?_) (fun hc100 => ?_)
          · refine lv_iload hx hb dX10_starts_125 (lv_at hl 4 rfl) ?_
            exact nv_xi hx hb hr hlocks hS dX10_starts_127 (uN rQ 0 hiQ, pf) hP trivial (by rw [st_An hsd hhi hk1 hpd9 hpdl hx9 (fun q9 => hc64 ((lg_cmp_eq _ _).mpr q9)) (by first | exact Or.inl ((lg_cmp_lt _ _).mp hc100) | exact Or.inr ((lg_cmp_gt _ _).mp hc109)) hlo])
          · refine lv_lload hx hb dX10_starts_103 (lv_at hl 0 rfl) ?_
            refine lv_iload hx hb dX10_starts_105 (lv_at hl 10 rfl) ?_
            refine lv_i2l hx hb dX10_starts_107 rfl ?_
            refine W.lcmp hx hb dX10_starts_108 ?_
            refine lv_if_gt (tgt := 125) hx hb dX10_starts_109 (by decide) (fun hc109 => ?_) (fun hc109 => ?_)
            · refine lv_iload hx hb dX10_starts_125 (lv_at hl 4 rfl) ?_
              exact nv_xi hx hb hr hlocks hS dX10_starts_127 (uN rQ 0 hiQ, pf) hP trivial (by rw [st_An hsd hhi hk1 hpd9 hpdl hx9 (fun q9 => hc64 ((lg_cmp_eq _ _).mpr q9)) (by first | exact Or.inl ((lg_cmp_lt _ _).mp hc100) | exact Or.inr ((lg_cmp_gt _ _).mp hc109)) hlo])
            · have hr1 := Int64.not_lt.mp (fun q9 => hc100 ((lg_cmp_lt _ _).mpr q9))
              have hr2 := Int64.not_lt.mp (fun q9 => hc109 ((lg_cmp_gt _ _).mpr q9))
              obtain ⟨p0, hpz, hpa, hpb⟩ : ∃ p0 : Nat, x9 = (nI p0).toInt64 ∧ loQ ≤ p0 ∧ p0 ≤ hiQ := by
                rw [Int64.le_iff_toInt_le, l_nI (by omega)] at hr1 hr2
                exact ⟨x9.toInt.toNat, Int64.toInt_inj.mp (by rw [l_nI (by omega)]; omega), by omega, by omega⟩
              have hres := st_A (w := wq) hsd hhi hk1 hpd9 hpdl hx9 (fun q9 => hc64 ((lg_cmp_eq _ _).mpr q9)) hpa hpb hpz
              subst hpz
              refine lv_aload_n hx hb dX10_starts_112 rfl (lv_at hl 5 rfl) ?_
              refine lv_aload_n hx hb dX10_starts_113 rfl (lv_at hl 6 rfl) ?_
              refine lv_iload_n hx hb dX10_starts_114 rfl (lv_at hl 7 rfl) ?_
              refine lv_iload_n hx hb dX10_starts_115 rfl (lv_at hl 8 rfl) ?_
              refine lv_lload hx hb dX10_starts_116 (lv_at hl 0 rfl) ?_
              refine lv_l2i hx hb dX10_starts_118 rfl ?_
              rw [l_i (show p0 < 2 ^ 31 by omega)]
              have hPc := hP.sub (ws' := [(o, .inr (10, [.ref hn, .ref pq, .ref gi, .ref gp, .int (nI ik), .ref h2, .ref tp, .ref rw9])), (hn, .inr (3, [.ref hp, .ref hh, .int (nI (rQ 6)), .int (nI (hpF rQ (rQ 6))), .int (nI (chF rQ (rQ 6))), .int (nI (rQ 0)), .int (nI (rQ 1)), .int (nI (rQ 2)), .int (nI (rQ 3)), .int (nI (rQ 4)), .int (nI (rQ 5))])), aP z hp 6 pf, aN z hh 6 (hbA rQ), (h2, .inr (3, [.ref hp2, .ref hh2, .int (nI ((uN rQ 0 hiQ) 6)), .int (nI (hpF (uN rQ 0 hiQ) ((uN rQ 0 hiQ) 6))), .int (nI (chF (uN rQ 0 hiQ) ((uN rQ 0 hiQ) 6))), .int (nI ((uN rQ 0 hiQ) 0)), .int (nI ((uN rQ 0 hiQ) 1)), .int (nI ((uN rQ 0 hiQ) 2)), .int (nI ((uN rQ 0 hiQ) 3)), .int (nI ((uN rQ 0 hiQ) 4)), .int (nI ((uN rQ 0 hiQ) 5))])), aP z hp2 6 pf, aN z hh2 6 (hbA (uN rQ 0 hiQ)), (ro, .inr (7, [.ref ri, .int (nI (shQ sq)), .int (nI (ln sq)), .int (nI (mnQ sq))])), aL z ri 24 (itS it sq)]) [0, 1, 2, 3, 4, 5, 6, 7, 8] rfl
              have hDc := hD.sub (ws' := [(o, .inr (10, [.ref hn, .ref pq, .ref gi, .ref gp, .int (nI ik), .ref h2, .ref tp, .ref rw9])), (hn, .inr (3, [.ref hp, .ref hh, .int (nI (rQ 6)), .int (nI (hpF rQ (rQ 6))), .int (nI (chF rQ (rQ 6))), .int (nI (rQ 0)), .int (nI (rQ 1)), .int (nI (rQ 2)), .int (nI (rQ 3)), .int (nI (rQ 4)), .int (nI (rQ 5))])), aP z hp 6 pf, aN z hh 6 (hbA rQ), (h2, .inr (3, [.ref hp2, .ref hh2, .int (nI ((uN rQ 0 hiQ) 6)), .int (nI (hpF (uN rQ 0 hiQ) ((uN rQ 0 hiQ) 6))), .int (nI (chF (uN rQ 0 hiQ) ((uN rQ 0 hiQ) 6))), .int (nI ((uN rQ 0 hiQ) 0)), .int (nI ((uN rQ 0 hiQ) 1)), .int (nI ((uN rQ 0 hiQ) 2)), .int (nI ((uN rQ 0 hiQ) 3)), .int (nI ((uN rQ 0 hiQ) 4)), .int (nI ((uN rQ 0 hiQ) 5))])), aP z hp2 6 pf, aN z hh2 6 (hbA (uN rQ 0 hiQ)), (ro, .inr (7, [.ref ri, .int (nI (shQ sq)), .int (nI (ln sq)), .int (nI (mnQ sq))])), aL z ri 24 (itS it sq)]) [0, 1, 2, 3, 4, 5, 6, 7, 8] (by decide) rfl
              refine nv_cx1 (σ := (Nat → Nat) × (Nat → Option Nat)) (wc := [(o, .inr (10, [.ref hn, .ref pq, .ref gi, .ref gp, .int (nI ik), .ref h2, .ref tp, .ref rw9])), (hn, .inr (3, [.ref hp, .ref hh, .int (nI (rQ 6)), .int (nI (hpF rQ (rQ 6))), .int (nI (chF rQ (rQ 6))), .int (nI (rQ 0)), .int (nI (rQ 1)), .int (nI (rQ 2)), .int (nI (rQ 3)), .int (nI (rQ 4)), .int (nI (rQ 5))])), aP z hp 6 pf, aN z hh 6 (hbA rQ), (h2, .inr (3, [.ref hp2, .ref hh2, .int (nI ((uN rQ 0 hiQ) 6)), .int (nI (hpF (uN rQ 0 hiQ) ((uN rQ 0 hiQ) 6))), .int (nI (chF (uN rQ 0 hiQ) ((uN rQ 0 hiQ) 6))), .int (nI ((uN rQ 0 hiQ) 0)), .int (nI ((uN rQ 0 hiQ) 1)), .int (nI ((uN rQ 0 hiQ) 2)), .int (nI ((uN rQ 0 hiQ) 3)), .int (nI ((uN rQ 0 hiQ) 4)), .int (nI ((uN rQ 0 hiQ) 5))])), aP z hp2 6 pf, aN z hh2 6 (hbA (uN rQ 0 hiQ)), (ro, .inr (7, [.ref ri, .int (nI (shQ sq)), .int (nI (ln sq)), .int (nI (mnQ sq))])), aL z ri 24 (itS it sq)]) (wr := []) (w1 := fun u9 => [(o, .inr (10, [.ref hn, .ref pq, .ref gi, .ref gp, .int (nI ik), .ref h2, .ref tp, .ref rw9])), (hn, .inr (3, [.ref hp, .ref hh, .int (nI (rQ 6)), .int (nI (hpF rQ (rQ 6))), .int (nI (chF rQ (rQ 6))), .int (nI (rQ 0)), .int (nI (rQ 1)), .int (nI (rQ 2)), .int (nI (rQ 3)), .int (nI (rQ 4)), .int (nI (rQ 5))])), aP z hp 6 pf, aN z hh 6 (hbA rQ), (h2, .inr (3, [.ref hp2, .ref hh2, .int (nI (u9.1 6)), .int (nI (hpF u9.1 (u9.1 6))), .int (nI (chF u9.1 (u9.1 6))), .int (nI (u9.1 0)), .int (nI (u9.1 1)), .int (nI (u9.1 2)), .int (nI (u9.1 3)), .int (nI (u9.1 4)), .int (nI (u9.1 5))])), aP z hp2 6 u9.2, aN z hh2 6 (hbA u9.1), (ro, .inr (7, [.ref ri, .int (nI (shQ sq)), .int (nI (ln sq)), .int (nI (mnQ sq))])), aL z ri 24 (itS it sq)]) (ws1 := fun u9 => [(o, .inr (10, [.ref hn, .ref pq, .ref gi, .ref gp, .int (nI ik), .ref h2, .ref tp, .ref rw9])), (hn, .inr (3, [.ref hp, .ref hh, .int (nI (rQ 6)), .int (nI (hpF rQ (rQ 6))), .int (nI (chF rQ (rQ 6))), .int (nI (rQ 0)), .int (nI (rQ 1)), .int (nI (rQ 2)), .int (nI (rQ 3)), .int (nI (rQ 4)), .int (nI (rQ 5))])), aP z hp 6 pf, aN z hh 6 (hbA rQ), (h2, .inr (3, [.ref hp2, .ref hh2, .int (nI (u9.1 6)), .int (nI (hpF u9.1 (u9.1 6))), .int (nI (chF u9.1 (u9.1 6))), .int (nI (u9.1 0)), .int (nI (u9.1 1)), .int (nI (u9.1 2)), .int (nI (u9.1 3)), .int (nI (u9.1 4)), .int (nI (u9.1 5))])), aP z hp2 6 u9.2, aN z hh2 6 (hbA u9.1), (ro, .inr (7, [.ref ri, .int (nI (shQ sq)), .int (nI (ln sq)), .int (nI (mnQ sq))])), aL z ri 24 (itS it sq)]) (va_runV (As := [.ref ro, .int (nI iq), .int (nI kq), .int (nI p0)]) (rest := []) ⟨hx, hb, hml, hown, hts⟩ (c_X10_gives l D z H.size w0Q o hn pq gi gp ik h2 tp rw9 hp hh pf rQ hp2 hh2 pf (uN rQ 0 hiQ) ro ri shQ ln mnQ it sq iq kq p0 (by first | assumption | omega) (by first | assumption | omega) (by first | assumption | omega) (by first | assumption | omega) (by first | assumption | omega)) (cwV 4 hts (gV m_489 m_490 m_491 m_198 m_486) rfl rfl rfl ⟨rfl, hd_X10_gives⟩ ⟨Nat.le_of_ble_eq_true rfl, Nat.le_of_ble_eq_true rfl⟩) (nv_preMV (ci := 10) (q0 := 0) hK hPc hDc ((hN _ _ hS).to [0, 1, 2, 3, 4, 5, 6, 7, 8] rfl) rfl rfl) rfl rfl hl.1 rfl (lv_room (Nat.le_of_ble_eq_true rfl)) dX10_starts_119 ⟨by decide, by decide⟩) hP hD hS hA [0, 1, 2, 3, 4, 5, 6, 7, 8] [] [0, 1, 2, 3, 4, 5, 6, 7, 8] rfl rfl (by decide) (by decide) (fun _ => rfl) (by decide) (fun _ => rfl) (by decide) (fun u9 H locs hP hD hS hE119 hz119 hf119 => ?_)
              obtain ⟨t12, tf13⟩ := u9
              have hP : va_P D vwCl [(o, .inr (10, [.ref hn, .ref pq, .ref gi, .ref gp, .int (nI ik), .ref h2, .ref tp, .ref rw9])), (hn, .inr (3, [.ref hp, .ref hh, .int (nI (rQ 6)), .int (nI (hpF rQ (rQ 6))), .int (nI (chF rQ (rQ 6))), .int (nI (rQ 0)), .int (nI (rQ 1)), .int (nI (rQ 2)), .int (nI (rQ 3)), .int (nI (rQ 4)), .int (nI (rQ 5))])), aP z hp 6 pf, aN z hh 6 (hbA rQ), (h2, .inr (3, [.ref hp2, .ref hh2, .int (nI (t12 6)), .int (nI (hpF t12 (t12 6))), .int (nI (chF t12 (t12 6))), .int (nI (t12 0)), .int (nI (t12 1)), .int (nI (t12 2)), .int (nI (t12 3)), .int (nI (t12 4)), .int (nI (t12 5))])), aP z hp2 6 tf13, aN z hh2 6 (hbA t12), (ro, .inr (7, [.ref ri, .int (nI (shQ sq)), .int (nI (ln sq)), .int (nI (mnQ sq))])), aL z ri 24 (itS it sq)] H := hP
              have hD : va_D A [(o, .inr (10, [.ref hn, .ref pq, .ref gi, .ref gp, .int (nI ik), .ref h2, .ref tp, .ref rw9])), (hn, .inr (3, [.ref hp, .ref hh, .int (nI (rQ 6)), .int (nI (hpF rQ (rQ 6))), .int (nI (chF rQ (rQ 6))), .int (nI (rQ 0)), .int (nI (rQ 1)), .int (nI (rQ 2)), .int (nI (rQ 3)), .int (nI (rQ 4)), .int (nI (rQ 5))])), aP z hp 6 pf, aN z hh 6 (hbA rQ), (h2, .inr (3, [.ref hp2, .ref hh2, .int (nI (t12 6)), .int (nI (hpF t12 (t12 6))), .int (nI (chF t12 (t12 6))), .int (nI (t12 0)), .int (nI (t12 1)), .int (nI (t12 2)), .int (nI (t12 3)), .int (nI (t12 4)), .int (nI (t12 5))])), aP z hp2 6 tf13, aN z hh2 6 (hbA t12), (ro, .inr (7, [.ref ri, .int (nI (shQ sq)), .int (nI (ln sq)), .int (nI (mnQ sq))])), aL z ri 24 (itS it sq)] := hD
              clear hPc hDc
              clear hf119 hz119
              have hgl := gvD_le rQ (itS it sq) iq kq p0
              refine nv_ifne (tgt := 128) hx hb (by omega) dX10_starts_122 (by decide) (fun hc122 => ?_) (fun hc122 => ?_)
              · refine lv_iload hx hb dX10_starts_128 (lv_at hl 11 rfl) ?_
                refine nv_ifne (tgt := 144) hx hb (by omega) dX10_starts_130 (by decide) (fun hc130 => ?_) (fun hc130 => ?_)
                · refine lv_lload hx hb dX10_starts_144 (lv_at hl 0 rfl) ?_
                  refine lv_l2i hx hb dX10_starts_146 rfl ?_
                  rw [l_i (show p0 < 2 ^ 31 by omega)]
                  exact nv_xi hx hb hr hlocks hS dX10_starts_147 (t12, tf13) hP trivial (by rw [hres, if_pos (by omega)]; first | (rw [if_pos hc130]; congr 1; omega) | (rw [if_neg hc130]; done))
                · refine lv_lload hx hb dX10_starts_133 (lv_at hl 0 rfl) ?_
                  refine lv_lload hx hb dX10_starts_135 (lv_at hl 1 rfl) ?_
                  refine lv_lsub hx hb dX10_starts_137 ?_
                  refine lv_l2i hx hb dX10_starts_138 rfl ?_
                  rw [nI_l (show p0 < 2 ^ 31 by omega), lN_sub (Nat.le_refl _), lN_i]
                  refine lv_iconst (v := nI 1) hx hb dX10_starts_139 (by decide +kernel) ?_
                  refine nv_add hx hb dX10_starts_140 ?_
                  refine lv_goto (tgt := 147) hx hb dX10_starts_141 (by decide) ?_
                  exact nv_xi hx hb hr hlocks hS dX10_starts_147 (t12, tf13) hP trivial (by rw [hres, if_pos (by omega)]; first | (rw [if_pos hc130]; congr 1; omega) | (rw [if_neg hc130]; done))
              · refine lv_iload hx hb dX10_starts_125 (lv_at hl 4 rfl) ?_
                exact nv_xi hx hb hr hlocks hS dX10_starts_127 (t12, tf13) hP trivial (by rw [hres]; exact (if_neg (show ¬ gvD rQ (itS it sq) iq kq p0 = 1 by omega)).symm)
      · refine lv_iload hx hb dX10_starts_67 (lv_at hl 9 rfl) ?_
        refine lv_sipush (v := nI 9999) hx hb dX10_starts_69 (by decide +kernel) ?_
        refine lv_iload hx hb dX10_starts_72 (lv_at hl 3 rfl) ?_
        refine lv_isub hx hb dX10_starts_74 ?_
        refine nv_mmax (r9 := nI (if loQ + pd9 < 9999 then 9999 - pd9 else loQ)) hx hb (hml.trans hl.1.symm) hown (hts _ m_488) (hts _ m_114) (hts _ m_14) (hts _ m_115) (Nat.le_of_ble_eq_true rfl) (Nat.le_of_ble_eq_true rfl) (Nat.le_of_ble_eq_true rfl) (Nat.le_of_ble_eq_true rfl) (mx_d2 hlo hpdl) dX10_starts_75 ?_
        obtain ⟨le9, hle9⟩ : ∃ y9 : Nat, y9 = (if loQ + pd9 < 9999 then 9999 - pd9 else loQ) := ⟨_, rfl⟩
        rw [← hle9]
        have hleb : loQ ≤ le9 ∧ le9 ≤ 9999 := by rw [hle9]; split <;> omega
        refine lv_i2l hx hb dX10_starts_78 rfl ?_
        refine lv_lstore (lv' := [(11, .long ((nI le9).toInt64)), (13, .long x9), (9, .long ((itS it sq) iq)), (8, .int (nI pd9)), (7, .int (if wq = 0 then nI 0 else (-4))), (0, .ref o), (1, .ref ro), (2, .int (nI iq)), (3, .int (nI kq)), (4, .int (nI loQ)), (5, .int (nI hiQ)), (6, .int (nI wq))]) hx hb dX10_starts_79 hl (by decide) rfl (fun ls hl => ?_)
        refine lv_iload hx hb dX10_starts_81 (lv_at hl 10 rfl) ?_
        refine lv_i2l hx hb dX10_starts_83 rfl ?_
        refine lv_lstore (lv' := [(13, .long ((nI hiQ).toInt64)), (11, .long ((nI le9).toInt64)), (9, .long ((itS it sq) iq)), (8, .int (nI pd9)), (7, .int (if wq = 0 then nI 0 else (-4))), (0, .ref o), (1, .ref ro), (2, .int (nI iq)), (3, .int (nI kq)), (4, .int (nI loQ)), (5, .int (nI hiQ)), (6, .int (nI wq))]) hx hb dX10_starts_84 hl (by decide) rfl (fun ls hl => ?_)
        refine lv_lload hx hb dX10_starts_86 (lv_at hl 1 rfl) ?_
        refine lv_lload hx hb dX10_starts_88 (lv_at hl 0 rfl) ?_
        refine W.lcmp hx hb dX10_starts_90 ?_
        refine lv_if_gt (tgt := 125) hx hb dX10_starts_91 (by decide) (fun hc91 => ?_) (fun hc91 => ?_)
        · refine lv_iload hx hb dX10_starts_125 (lv_at hl 4 rfl) ?_
          exact nv_xi hx hb hr hlocks hS dX10_starts_127 (uN rQ 0 hiQ, pf) hP trivial (by rw [st_Bn hsd hhi hk1 hpd9 hpdl ((lg_cmp_eq _ _).mp hc64) hle9 (by have h9 := (lg_cmp_gt _ _).mp hc91; rw [Int64.lt_iff_toInt_lt, l_nI (by omega), l_nI (by omega)] at h9; omega)])
        · refine lv_lload hx hb dX10_starts_94 (lv_at hl 1 rfl) ?_
          refine lv_iload hx hb dX10_starts_96 (lv_at hl 9 rfl) ?_
          refine lv_i2l hx hb dX10_starts_98 rfl ?_
          refine W.lcmp hx hb dX10_starts_99 ?_
          refine lv_if_lt (tgt := 125) hx hb dX10_starts_100 (by decide) (fun hc100 => ?_) (fun hc100 => ?_)
          · (exfalso; have h9 := (lg_cmp_lt _ _).mp hc100; rw [Int64.lt_iff_toInt_lt, l_nI (by omega), l_nI (by omega)] at h9; omega)
          · refine lv_lload hx hb dX10_starts_103 (lv_at hl 0 rfl) ?_
            refine lv_iload hx hb dX10_starts_105 (lv_at hl 10 rfl) ?_
            refine lv_i2l hx hb dX10_starts_107 rfl ?_
            refine W.lcmp hx hb dX10_starts_108 ?_
            refine lv_if_gt (tgt := 125) hx hb dX10_starts_109 (by decide) (fun hc109 => ?_) (fun hc109 => ?_)
            · exact (Int64.lt_irrefl ((lg_cmp_gt _ _).mp hc109)).elim
            · have hle2 : le9 ≤ hiQ := Nat.not_lt.mp (fun q9 => hc91 ((lg_cmp_gt _ _).mpr (by rw [Int64.lt_iff_toInt_lt, l_nI (by omega), l_nI (by omega)]; omega)))
              have hres := st_B (w := wq) hsd hhi hk1 hpd9 hpdl ((lg_cmp_eq _ _).mp hc64) hle9 hle2
              refine lv_aload_n hx hb dX10_starts_112 rfl (lv_at hl 5 rfl) ?_
              refine lv_aload_n hx hb dX10_starts_113 rfl (lv_at hl 6 rfl) ?_
              refine lv_iload_n hx hb dX10_starts_114 rfl (lv_at hl 7 rfl) ?_
              refine lv_iload_n hx hb dX10_starts_115 rfl (lv_at hl 8 rfl) ?_
              refine lv_lload hx hb dX10_starts_116 (lv_at hl 0 rfl) ?_
              refine lv_l2i hx hb dX10_starts_118 rfl ?_
              rw [l_i (show hiQ < 2 ^ 31 by omega)]
              have hPc := hP.sub (ws' := [(o, .inr (10, [.ref hn, .ref pq, .ref gi, .ref gp, .int (nI ik), .ref h2, .ref tp, .ref rw9])), (hn, .inr (3, [.ref hp, .ref hh, .int (nI (rQ 6)), .int (nI (hpF rQ (rQ 6))), .int (nI (chF rQ (rQ 6))), .int (nI (rQ 0)), .int (nI (rQ 1)), .int (nI (rQ 2)), .int (nI (rQ 3)), .int (nI (rQ 4)), .int (nI (rQ 5))])), aP z hp 6 pf, aN z hh 6 (hbA rQ), (h2, .inr (3, [.ref hp2, .ref hh2, .int (nI ((uN rQ 0 hiQ) 6)), .int (nI (hpF (uN rQ 0 hiQ) ((uN rQ 0 hiQ) 6))), .int (nI (chF (uN rQ 0 hiQ) ((uN rQ 0 hiQ) 6))), .int (nI ((uN rQ 0 hiQ) 0)), .int (nI ((uN rQ 0 hiQ) 1)), .int (nI ((uN rQ 0 hiQ) 2)), .int (nI ((uN rQ 0 hiQ) 3)), .int (nI ((uN rQ 0 hiQ) 4)), .int (nI ((uN rQ 0 hiQ) 5))])), aP z hp2 6 pf, aN z hh2 6 (hbA (uN rQ 0 hiQ)), (ro, .inr (7, [.ref ri, .int (nI (shQ sq)), .int (nI (ln sq)), .int (nI (mnQ sq))])), aL z ri 24 (itS it sq)]) [0, 1, 2, 3, 4, 5, 6, 7, 8] rfl
              have hDc := hD.sub (ws' := [(o, .inr (10, [.ref hn, .ref pq, .ref gi, .ref gp, .int (nI ik), .ref h2, .ref tp, .ref rw9])), (hn, .inr (3, [.ref hp, .ref hh, .int (nI (rQ 6)), .int (nI (hpF rQ (rQ 6))), .int (nI (chF rQ (rQ 6))), .int (nI (rQ 0)), .int (nI (rQ 1)), .int (nI (rQ 2)), .int (nI (rQ 3)), .int (nI (rQ 4)), .int (nI (rQ 5))])), aP z hp 6 pf, aN z hh 6 (hbA rQ), (h2, .inr (3, [.ref hp2, .ref hh2, .int (nI ((uN rQ 0 hiQ) 6)), .int (nI (hpF (uN rQ 0 hiQ) ((uN rQ 0 hiQ) 6))), .int (nI (chF (uN rQ 0 hiQ) ((uN rQ 0 hiQ) 6))), .int (nI ((uN rQ 0 hiQ) 0)), .int (nI ((uN rQ 0 hiQ) 1)), .int (nI ((uN rQ 0 hiQ) 2)), .int (nI ((uN rQ 0 hiQ) 3)), .int (nI ((uN rQ 0 hiQ) 4)), .int (nI ((uN rQ 0 hiQ) 5))])), aP z hp2 6 pf, aN z hh2 6 (hbA (uN rQ 0 hiQ)), (ro, .inr (7, [.ref ri, .int (nI (shQ sq)), .int (nI (ln sq)), .int (nI (mnQ sq))])), aL z ri 24 (itS it sq)]) [0, 1, 2, 3, 4, 5, 6, 7, 8] (by decide) rfl
              refine nv_cx1 (σ := (Nat → Nat) × (Nat → Option Nat)) (wc := [(o, .inr (10, [.ref hn, .ref pq, .ref gi, .ref gp, .int (nI ik), .ref h2, .ref tp, .ref rw9])), (hn, .inr (3, [.ref hp, .ref hh, .int (nI (rQ 6)), .int (nI (hpF rQ (rQ 6))), .int (nI (chF rQ (rQ 6))), .int (nI (rQ 0)), .int (nI (rQ 1)), .int (nI (rQ 2)), .int (nI (rQ 3)), .int (nI (rQ 4)), .int (nI (rQ 5))])), aP z hp 6 pf, aN z hh 6 (hbA rQ), (h2, .inr (3, [.ref hp2, .ref hh2, .int (nI ((uN rQ 0 hiQ) 6)), .int (nI (hpF (uN rQ 0 hiQ) ((uN rQ 0 hiQ) 6))), .int (nI (chF (uN rQ 0 hiQ) ((uN rQ 0 hiQ) 6))), .int (nI ((uN rQ 0 hiQ) 0)), .int (nI ((uN rQ 0 hiQ) 1)), .int (nI ((uN rQ 0 hiQ) 2)), .int (nI ((uN rQ 0 hiQ) 3)), .int (nI ((uN rQ 0 hiQ) 4)), .int (nI ((uN rQ 0 hiQ) 5))])), aP z hp2 6 pf, aN z hh2 6 (hbA (uN rQ 0 hiQ)), (ro, .inr (7, [.ref ri, .int (nI (shQ sq)), .int (nI (ln sq)), .int (nI (mnQ sq))])), aL z ri 24 (itS it sq)]) (wr := []) (w1 := fun u9 => [(o, .inr (10, [.ref hn, .ref pq, .ref gi, .ref gp, .int (nI ik), .ref h2, .ref tp, .ref rw9])), (hn, .inr (3, [.ref hp, .ref hh, .int (nI (rQ 6)), .int (nI (hpF rQ (rQ 6))), .int (nI (chF rQ (rQ 6))), .int (nI (rQ 0)), .int (nI (rQ 1)), .int (nI (rQ 2)), .int (nI (rQ 3)), .int (nI (rQ 4)), .int (nI (rQ 5))])), aP z hp 6 pf, aN z hh 6 (hbA rQ), (h2, .inr (3, [.ref hp2, .ref hh2, .int (nI (u9.1 6)), .int (nI (hpF u9.1 (u9.1 6))), .int (nI (chF u9.1 (u9.1 6))), .int (nI (u9.1 0)), .int (nI (u9.1 1)), .int (nI (u9.1 2)), .int (nI (u9.1 3)), .int (nI (u9.1 4)), .int (nI (u9.1 5))])), aP z hp2 6 u9.2, aN z hh2 6 (hbA u9.1), (ro, .inr (7, [.ref ri, .int (nI (shQ sq)), .int (nI (ln sq)), .int (nI (mnQ sq))])), aL z ri 24 (itS it sq)]) (ws1 := fun u9 => [(o, .inr (10, [.ref hn, .ref pq, .ref gi, .ref gp, .int (nI ik), .ref h2, .ref tp, .ref rw9])), (hn, .inr (3, [.ref hp, .ref hh, .int (nI (rQ 6)), .int (nI (hpF rQ (rQ 6))), .int (nI (chF rQ (rQ 6))), .int (nI (rQ 0)), .int (nI (rQ 1)), .int (nI (rQ 2)), .int (nI (rQ 3)), .int (nI (rQ 4)), .int (nI (rQ 5))])), aP z hp 6 pf, aN z hh 6 (hbA rQ), (h2, .inr (3, [.ref hp2, .ref hh2, .int (nI (u9.1 6)), .int (nI (hpF u9.1 (u9.1 6))), .int (nI (chF u9.1 (u9.1 6))), .int (nI (u9.1 0)), .int (nI (u9.1 1)), .int (nI (u9.1 2)), .int (nI (u9.1 3)), .int (nI (u9.1 4)), .int (nI (u9.1 5))])), aP z hp2 6 u9.2, aN z hh2 6 (hbA u9.1), (ro, .inr (7, [.ref ri, .int (nI (shQ sq)), .int (nI (ln sq)), .int (nI (mnQ sq))])), aL z ri 24 (itS it sq)]) (va_runV (As := [.ref ro, .int (nI iq), .int (nI kq), .int (nI hiQ)]) (rest := []) ⟨hx, hb, hml, hown, hts⟩ (c_X10_gives l D z H.size w0Q o hn pq gi gp ik h2 tp rw9 hp hh pf rQ hp2 hh2 pf (uN rQ 0 hiQ) ro ri shQ ln mnQ it sq iq kq hiQ (by first | assumption | omega) (by first | assumption | omega) (by first | assumption | omega) (by first | assumption | omega) (by first | assumption | omega)) (cwV 4 hts (gV m_489 m_490 m_491 m_198 m_486) rfl rfl rfl ⟨rfl, hd_X10_gives⟩ ⟨Nat.le_of_ble_eq_true rfl, Nat.le_of_ble_eq_true rfl⟩) (nv_preMV (ci := 10) (q0 := 0) hK hPc hDc ((hN _ _ hS).to [0, 1, 2, 3, 4, 5, 6, 7, 8] rfl) rfl rfl) rfl rfl hl.1 rfl (lv_room (Nat.le_of_ble_eq_true rfl)) dX10_starts_119 ⟨by decide, by decide⟩) hP hD hS hA [0, 1, 2, 3, 4, 5, 6, 7, 8] [] [0, 1, 2, 3, 4, 5, 6, 7, 8] rfl rfl (by decide) (by decide) (fun _ => rfl) (by decide) (fun _ => rfl) (by decide) (fun u9 H locs hP hD hS hE119 hz119 hf119 => ?_)
              obtain ⟨t14, tf15⟩ := u9
              have hP : va_P D vwCl [(o, .inr (10, [.ref hn, .ref pq, .ref gi, .ref gp, .int (nI ik), .ref h2, .ref tp, .ref rw9])), (hn, .inr (3, [.ref hp, .ref hh, .int (nI (rQ 6)), .int (nI (hpF rQ (rQ 6))), .int (nI (chF rQ (rQ 6))), .int (nI (rQ 0)), .int (nI (rQ 1)), .int (nI (rQ 2)), .int (nI (rQ 3)), .int (nI (rQ 4)), .int (nI (rQ 5))])), aP z hp 6 pf, aN z hh 6 (hbA rQ), (h2, .inr (3, [.ref hp2, .ref hh2, .int (nI (t14 6)), .int (nI (hpF t14 (t14 6))), .int (nI (chF t14 (t14 6))), .int (nI (t14 0)), .int (nI (t14 1)), .int (nI (t14 2)), .int (nI (t14 3)), .int (nI (t14 4)), .int (nI (t14 5))])), aP z hp2 6 tf15, aN z hh2 6 (hbA t14), (ro, .inr (7, [.ref ri, .int (nI (shQ sq)), .int (nI (ln sq)), .int (nI (mnQ sq))])), aL z ri 24 (itS it sq)] H := hP
              have hD : va_D A [(o, .inr (10, [.ref hn, .ref pq, .ref gi, .ref gp, .int (nI ik), .ref h2, .ref tp, .ref rw9])), (hn, .inr (3, [.ref hp, .ref hh, .int (nI (rQ 6)), .int (nI (hpF rQ (rQ 6))), .int (nI (chF rQ (rQ 6))), .int (nI (rQ 0)), .int (nI (rQ 1)), .int (nI (rQ 2)), .int (nI (rQ 3)), .int (nI (rQ 4)), .int (nI (rQ 5))])), aP z hp 6 pf, aN z hh 6 (hbA rQ), (h2, .inr (3, [.ref hp2, .ref hh2, .int (nI (t14 6)), .int (nI (hpF t14 (t14 6))), .int (nI (chF t14 (t14 6))), .int (nI (t14 0)), .int (nI (t14 1)), .int (nI (t14 2)), .int (nI (t14 3)), .int (nI (t14 4)), .int (nI (t14 5))])), aP z hp2 6 tf15, aN z hh2 6 (hbA t14), (ro, .inr (7, [.ref ri, .int (nI (shQ sq)), .int (nI (ln sq)), .int (nI (mnQ sq))])), aL z ri 24 (itS it sq)] := hD
              clear hPc hDc
              clear hf119 hz119
              have hgl := gvD_le rQ (itS it sq) iq kq hiQ
              refine nv_ifne (tgt := 128) hx hb (by omega) dX10_starts_122 (by decide) (fun hc122 => ?_) (fun hc122 => ?_)
              · refine lv_iload hx hb dX10_starts_128 (lv_at hl 11 rfl) ?_
                refine nv_ifne (tgt := 144) hx hb (by omega) dX10_starts_130 (by decide) (fun hc130 => ?_) (fun hc130 => ?_)
                · refine lv_lload hx hb dX10_starts_144 (lv_at hl 0 rfl) ?_
                  refine lv_l2i hx hb dX10_starts_146 rfl ?_
                  rw [l_i (show hiQ < 2 ^ 31 by omega)]
                  exact nv_xi hx hb hr hlocks hS dX10_starts_147 (t14, tf15) hP trivial (by rw [hres, if_pos (by omega)]; first | (rw [if_pos hc130]; congr 1; omega) | (rw [if_neg hc130]; done))
                · refine lv_lload hx hb dX10_starts_133 (lv_at hl 0 rfl) ?_
                  refine lv_lload hx hb dX10_starts_135 (lv_at hl 1 rfl) ?_
                  refine lv_lsub hx hb dX10_starts_137 ?_
                  refine lv_l2i hx hb dX10_starts_138 rfl ?_
                  rw [nI_l (by omega), nI_l (by omega), lN_sub (by omega), lN_i]
                  refine lv_iconst (v := nI 1) hx hb dX10_starts_139 (by decide +kernel) ?_
                  refine nv_add hx hb dX10_starts_140 ?_
                  refine lv_goto (tgt := 147) hx hb dX10_starts_141 (by decide) ?_
                  exact nv_xi hx hb hr hlocks hS dX10_starts_147 (t14, tf15) hP trivial (by rw [hres, if_pos (by omega)]; first | (rw [if_pos hc130]; congr 1; omega) | (rw [if_neg hc130]; done))
              · refine lv_iload hx hb dX10_starts_125 (lv_at hl 4 rfl) ?_
                exact nv_xi hx hb hr hlocks hS dX10_starts_127 (t14, tf15) hP trivial (by rw [hres]; exact (if_neg (show ¬ gvD rQ (itS it sq) iq kq hiQ = 1 by omega)).symm)
    · refine lv_iload hx hb dX10_starts_20 (lv_at hl 0 rfl) ?_
      exact nv_xi hx hb hr hlocks hS dX10_starts_22 (t0, tf0) hP trivial (by rw [st_no (fun p h1 h2 => by omega)])

set_option maxHeartbeats 4000000 in
set_option maxRecDepth 100000 in
theorem c_X10_taken (l : Launch) (D : va_G) (z : Nat → ClassId) (sz : Nat) (w0Q : Nat) (o : Nat) (hn : Nat) (pq : Nat) (gi : Nat) (gp : Nat) (ik : Nat) (h2 : Nat) (tp : Nat) (rw9 : Nat) (hp : Nat) (hh : Nat) (pf : Nat → Option Nat) (rQ : Nat → Nat) (hp2 : Nat) (hh2 : Nat) (tf0 : Nat → Option Nat) (t0 : Nat → Nat) (rf : Nat → Option Nat) (ro : Nat) (ri : Nat) (shQ : Nat → Nat) (ln : Nat → Nat) (mnQ : Nat → Nat) (it : Nat → Int64) (sq : Nat) (sv : Int32) (av : Int32) (ivQ : Int32) (nv : Int32) (wv : Int32) (vQ : Int32) (hok : rOK w0Q rQ) (hw : w0Q ≤ 10000) (hso : sOK shQ ln mnQ) (hq3 : sq ≤ 3) (hrf : rf sq = some ro) (hsv : wi sv 0 3 → sv = nI sq) (hrel : tkRel rQ shQ ln mnQ it sv av ivQ nv wv vQ) : CX (σ := (Nat → Nat) × (Nat → Option Nat)) l yX10_taken cX10_taken 10 (some .int) 6 147 0 0 [.ref o, .int sv, .int av, .int ivQ, .int nv, .int wv] D z [(o, .inr (10, [.ref hn, .ref pq, .ref gi, .ref gp, .int (nI ik), .ref h2, .ref tp, .ref rw9])), (hn, .inr (3, [.ref hp, .ref hh, .int (nI (rQ 6)), .int (nI (hpF rQ (rQ 6))), .int (nI (chF rQ (rQ 6))), .int (nI (rQ 0)), .int (nI (rQ 1)), .int (nI (rQ 2)), .int (nI (rQ 3)), .int (nI (rQ 4)), .int (nI (rQ 5))])), aP z hp 6 pf, aN z hh 6 (hbA rQ), (h2, .inr (3, [.ref hp2, .ref hh2, .int (nI (t0 6)), .int (nI (hpF t0 (t0 6))), .int (nI (chF t0 (t0 6))), .int (nI (t0 0)), .int (nI (t0 1)), .int (nI (t0 2)), .int (nI (t0 3)), .int (nI (t0 4)), .int (nI (t0 5))])), aP z hp2 6 tf0, aN z hh2 6 (hbA t0), aR z rw9 4 rf, (ro, .inr (7, [.ref ri, .int (nI (shQ sq)), .int (nI (ln sq)), .int (nI (mnQ sq))])), aL z ri 24 (itS it sq)] sz (fun H => peH D [(o, .inr (10, [.ref hn, .ref pq, .ref gi, .ref gp, .int (nI ik), .ref h2, .ref tp, .ref rw9])), (hn, .inr (3, [.ref hp, .ref hh, .int (nI (rQ 6)), .int (nI (hpF rQ (rQ 6))), .int (nI (chF rQ (rQ 6))), .int (nI (rQ 0)), .int (nI (rQ 1)), .int (nI (rQ 2)), .int (nI (rQ 3)), .int (nI (rQ 4)), .int (nI (rQ 5))])), aP z hp 6 pf, aN z hh 6 (hbA rQ), (h2, .inr (3, [.ref hp2, .ref hh2, .int (nI (t0 6)), .int (nI (hpF t0 (t0 6))), .int (nI (chF t0 (t0 6))), .int (nI (t0 0)), .int (nI (t0 1)), .int (nI (t0 2)), .int (nI (t0 3)), .int (nI (t0 4)), .int (nI (t0 5))])), aP z hp2 6 tf0, aN z hh2 6 (hbA t0), aR z rw9 4 rf, (ro, .inr (7, [.ref ri, .int (nI (shQ sq)), .int (nI (ln sq)), .int (nI (mnQ sq))])), aL z ri 24 (itS it sq)] pf rQ H) (fun u => [(o, .inr (10, [.ref hn, .ref pq, .ref gi, .ref gp, .int (nI ik), .ref h2, .ref tp, .ref rw9])), (hn, .inr (3, [.ref hp, .ref hh, .int (nI (rQ 6)), .int (nI (hpF rQ (rQ 6))), .int (nI (chF rQ (rQ 6))), .int (nI (rQ 0)), .int (nI (rQ 1)), .int (nI (rQ 2)), .int (nI (rQ 3)), .int (nI (rQ 4)), .int (nI (rQ 5))])), aP z hp 6 pf, aN z hh 6 (hbA rQ), (h2, .inr (3, [.ref hp2, .ref hh2, .int (nI (u.1 6)), .int (nI (hpF u.1 (u.1 6))), .int (nI (chF u.1 (u.1 6))), .int (nI (u.1 0)), .int (nI (u.1 1)), .int (nI (u.1 2)), .int (nI (u.1 3)), .int (nI (u.1 4)), .int (nI (u.1 5))])), aP z hp2 6 u.2, aN z hh2 6 (hbA u.1), aR z rw9 4 rf, (ro, .inr (7, [.ref ri, .int (nI (shQ sq)), .int (nI (ln sq)), .int (nI (mnQ sq))])), aL z ri 24 (itS it sq)]) (some (.int vQ)) (fun _ _ => True) := by
  refine Met.ofW (cc := cX10_taken) (maxL := 10) (ret := (some .int)) (by decide) rfl ?_
  intro pg e s m args below meth c s₁ B hml hv
  obtain ⟨rfl, hsz, hP, hK, hD0, hE⟩ := hv
  have hx := B.exec
  have hb := B.bytes
  have hr := B.returns
  have hts : ∀ w ∈ ALL, w.before _ s = true := fun w h => atoms_spec (ws := wA yX10_taken cX10_taken 10 (some .int)) B.pre w (List.mem_cons_of_mem _ h)
  have hown : s.vm.findClass RX10 = some m.cls := findClass_of_methodNamed B.named
  have hlocks := B.notSynchronized
  subst hsz
  have hD := hD0.self (sz := s.heap.size)
  obtain ⟨o0, o1, o1b, o2, o2b, o3, o4, o5, o6, oP⟩ := id hok
  have hN : ∀ (H : Heap) (locs : List Loc), va_S (va_A [(o, .inr (10, [.ref hn, .ref pq, .ref gi, .ref gp, .int (nI ik), .ref h2, .ref tp, .ref rw9])), (hn, .inr (3, [.ref hp, .ref hh, .int (nI (rQ 6)), .int (nI (hpF rQ (rQ 6))), .int (nI (chF rQ (rQ 6))), .int (nI (rQ 0)), .int (nI (rQ 1)), .int (nI (rQ 2)), .int (nI (rQ 3)), .int (nI (rQ 4)), .int (nI (rQ 5))])), aP z hp 6 pf, aN z hh 6 (hbA rQ), (h2, .inr (3, [.ref hp2, .ref hh2, .int (nI (t0 6)), .int (nI (hpF t0 (t0 6))), .int (nI (chF t0 (t0 6))), .int (nI (t0 0)), .int (nI (t0 1)), .int (nI (t0 2)), .int (nI (t0 3)), .int (nI (t0 4)), .int (nI (t0 5))])), aP z hp2 6 tf0, aN z hh2 6 (hbA t0), aR z rw9 4 rf, (ro, .inr (7, [.ref ri, .int (nI (shQ sq)), .int (nI (ln sq)), .int (nI (mnQ sq))])), aL z ri 24 (itS it sq)] s.heap.size) s.heap H locs → peH D [(o, .inr (10, [.ref hn, .ref pq, .ref gi, .ref gp, .int (nI ik), .ref h2, .ref tp, .ref rw9])), (hn, .inr (3, [.ref hp, .ref hh, .int (nI (rQ 6)), .int (nI (hpF rQ (rQ 6))), .int (nI (chF rQ (rQ 6))), .int (nI (rQ 0)), .int (nI (rQ 1)), .int (nI (rQ 2)), .int (nI (rQ 3)), .int (nI (rQ 4)), .int (nI (rQ 5))])), aP z hp 6 pf, aN z hh 6 (hbA rQ), (h2, .inr (3, [.ref hp2, .ref hh2, .int (nI (t0 6)), .int (nI (hpF t0 (t0 6))), .int (nI (chF t0 (t0 6))), .int (nI (t0 0)), .int (nI (t0 1)), .int (nI (t0 2)), .int (nI (t0 3)), .int (nI (t0 4)), .int (nI (t0 5))])), aP z hp2 6 tf0, aN z hh2 6 (hbA t0), aR z rw9 4 rf, (ro, .inr (7, [.ref ri, .int (nI (shQ sq)), .int (nI (ln sq)), .int (nI (mnQ sq))])), aL z ri 24 (itS it sq)] pf rQ H := fun H locs h9 => peH.now hE h9
  have hA : ∀ q : Nat, s.heap.size ≤ q → va_A [(o, .inr (10, [.ref hn, .ref pq, .ref gi, .ref gp, .int (nI ik), .ref h2, .ref tp, .ref rw9])), (hn, .inr (3, [.ref hp, .ref hh, .int (nI (rQ 6)), .int (nI (hpF rQ (rQ 6))), .int (nI (chF rQ (rQ 6))), .int (nI (rQ 0)), .int (nI (rQ 1)), .int (nI (rQ 2)), .int (nI (rQ 3)), .int (nI (rQ 4)), .int (nI (rQ 5))])), aP z hp 6 pf, aN z hh 6 (hbA rQ), (h2, .inr (3, [.ref hp2, .ref hh2, .int (nI (t0 6)), .int (nI (hpF t0 (t0 6))), .int (nI (chF t0 (t0 6))), .int (nI (t0 0)), .int (nI (t0 1)), .int (nI (t0 2)), .int (nI (t0 3)), .int (nI (t0 4)), .int (nI (t0 5))])), aP z hp2 6 tf0, aN z hh2 6 (hbA t0), aR z rw9 4 rf, (ro, .inr (7, [.ref ri, .int (nI (shQ sq)), .int (nI (ln sq)), .int (nI (mnQ sq))])), aL z ri 24 (itS it sq)] s.heap.size q := fun q h => Or.inr h
  generalize va_A [(o, .inr (10, [.ref hn, .ref pq, .ref gi, .ref gp, .int (nI ik), .ref h2, .ref tp, .ref rw9])), (hn, .inr (3, [.ref hp, .ref hh, .int (nI (rQ 6)), .int (nI (hpF rQ (rQ 6))), .int (nI (chF rQ (rQ 6))), .int (nI (rQ 0)), .int (nI (rQ 1)), .int (nI (rQ 2)), .int (nI (rQ 3)), .int (nI (rQ 4)), .int (nI (rQ 5))])), aP z hp 6 pf, aN z hh 6 (hbA rQ), (h2, .inr (3, [.ref hp2, .ref hh2, .int (nI (t0 6)), .int (nI (hpF t0 (t0 6))), .int (nI (chF t0 (t0 6))), .int (nI (t0 0)), .int (nI (t0 1)), .int (nI (t0 2)), .int (nI (t0 3)), .int (nI (t0 4)), .int (nI (t0 5))])), aP z hp2 6 tf0, aN z hh2 6 (hbA t0), aR z rw9 4 rf, (ro, .inr (7, [.ref ri, .int (nI (shQ sq)), .int (nI (ln sq)), .int (nI (mnQ sq))])), aL z ri 24 (itS it sq)] s.heap.size = A at *
  have hS : va_S A s.heap s.heap [] := va_S.rf
  have hl := lv_entry ([.ref o, .int sv, .int av, .int ivQ, .int nv, .int wv]) (n := 10) (Nat.le_of_ble_eq_true rfl)
  rw [lg_entry_eq]
  generalize (lg_sl ([.ref o, .int sv, .int av, .int ivQ, .int nv, .int wv]) ++ List.replicate (10 - (lg_sl ([.ref o, .int sv, .int av, .int ivQ, .int nv, .int wv])).length) Slot.unset).toArray = ls at hl ⊢
  have hl : lv_has ls 10 [(0, .ref o), (1, .int sv), (2, .int av), (3, .int ivQ), (4, .int nv), (5, .int wv)] := hl
  refine lv_iload_n hx hb dX10_taken_0 rfl (lv_at hl 1 rfl) ?_
  have hPc := hP.sub (ws' := []) [] rfl
  refine nv_cp1 (va_runS (As := [.int sv]) (rest := []) ⟨hx, hb, hml, hown, hts⟩ (c_X10_isSheet l D z sv ) (va_cwS 1 hts (gS m_494 m_495 m_198 m_479) rfl rfl rfl hd_X10_isSheet ⟨Nat.le_of_ble_eq_true rfl, Nat.le_of_ble_eq_true rfl⟩) (nv_preP hK hPc trivial _) rfl rfl hl.1 rfl (lv_room (Nat.le_of_ble_eq_true rfl)) dX10_taken_1 ⟨by decide, by decide⟩) ?_
  refine nv_beq (tgt := 35) hx hb dX10_taken_4 (by decide) (fun hc4 => ?_) (fun hc4 => ?_)
  · refine lv_iconst (v := (-1)) hx hb dX10_taken_35 (by decide +kernel) ?_
    obtain rfl := hrel.1 (by first | exact fun q => hc4 q.1 | exact fun q => hc11 q.2.1 | exact fun q => hc22 q.2.2.1 | exact fun q => hc32 q.2.2.2)
    exact nv_xi hx hb hr hlocks hS dX10_taken_36 (t0, tf0) hP trivial rfl
  · refine lv_iload_n hx hb dX10_taken_7 rfl (lv_at hl 2 rfl) ?_
    have hPc := hP.sub (ws' := []) [] rfl
    refine nv_cp1 (va_runS (As := [.int av]) (rest := []) ⟨hx, hb, hml, hown, hts⟩ (c_X10_isLane l D z av ) (va_cwS 1 hts (gS m_496 m_497 m_198 m_480) rfl rfl rfl hd_X10_isLane ⟨Nat.le_of_ble_eq_true rfl, Nat.le_of_ble_eq_true rfl⟩) (nv_preP hK hPc trivial _) rfl rfl hl.1 rfl (lv_room (Nat.le_of_ble_eq_true rfl)) dX10_taken_8 ⟨by decide, by decide⟩) ?_
    refine nv_beq (tgt := 35) hx hb dX10_taken_11 (by decide) (fun hc11 => ?_) (fun hc11 => ?_)
    · refine lv_iconst (v := (-1)) hx hb dX10_taken_35 (by decide +kernel) ?_
      obtain rfl := hrel.1 (by first | exact fun q => hc4 q.1 | exact fun q => hc11 q.2.1 | exact fun q => hc22 q.2.2.1 | exact fun q => hc32 q.2.2.2)
      exact nv_xi hx hb hr hlocks hS dX10_taken_36 (t0, tf0) hP trivial rfl
    · refine lv_iload hx hb dX10_taken_14 (lv_at hl 4 rfl) ?_
      refine lv_iconst (v := nI 1) hx hb dX10_taken_16 (by decide +kernel) ?_
      refine lv_bipush (v := nI 8) hx hb dX10_taken_17 (by decide +kernel) ?_
      have hPc := hP.sub (ws' := []) [] rfl
      refine nv_cp1 (va_runS (As := [.int nv, .int (nI 1), .int (nI 8)]) (rest := []) ⟨hx, hb, hml, hown, hts⟩ (c_X10_within l D z nv (nI 1) (nI 8) ) (va_cwS 3 hts (gS m_368 m_197 m_198 m_195) rfl rfl rfl hd_X10_within ⟨Nat.le_of_ble_eq_true rfl, Nat.le_of_ble_eq_true rfl⟩) (nv_preP hK hPc trivial _) rfl rfl hl.1 rfl (lv_room (Nat.le_of_ble_eq_true rfl)) dX10_taken_19 ⟨by decide, by decide⟩) ?_
      refine nv_inwi (a := ((1 : Nat) : Int)) (b := ((8 : Nat) : Int)) (nI_toInt (by omega)) (nI_toInt (by omega)) ?_
      refine nv_beq (tgt := 35) hx hb dX10_taken_22 (by decide) (fun hc22 => ?_) (fun hc22 => ?_)
      · refine lv_iconst (v := (-1)) hx hb dX10_taken_35 (by decide +kernel) ?_
        obtain rfl := hrel.1 (by first | exact fun q => hc4 q.1 | exact fun q => hc11 q.2.1 | exact fun q => hc22 q.2.2.1 | exact fun q => hc32 q.2.2.2)
        exact nv_xi hx hb hr hlocks hS dX10_taken_36 (t0, tf0) hP trivial rfl
      · refine lv_iload hx hb dX10_taken_25 (lv_at hl 5 rfl) ?_
        refine lv_iconst (v := nI 0) hx hb dX10_taken_27 (by decide +kernel) ?_
        refine lv_iconst (v := nI 1) hx hb dX10_taken_28 (by decide +kernel) ?_
        have hPc := hP.sub (ws' := []) [] rfl
        refine nv_cp1 (va_runS (As := [.int wv, .int (nI 0), .int (nI 1)]) (rest := []) ⟨hx, hb, hml, hown, hts⟩ (c_X10_within l D z wv (nI 0) (nI 1) ) (va_cwS 3 hts (gS m_368 m_197 m_198 m_195) rfl rfl rfl hd_X10_within ⟨Nat.le_of_ble_eq_true rfl, Nat.le_of_ble_eq_true rfl⟩) (nv_preP hK hPc trivial _) rfl rfl hl.1 rfl (lv_room (Nat.le_of_ble_eq_true rfl)) dX10_taken_29 ⟨by decide, by decide⟩) ?_
        refine nv_inwi (a := ((0 : Nat) : Int)) (b := ((1 : Nat) : Int)) (nI_toInt (by omega)) (nI_toInt (by omega)) ?_
        refine nv_bne (tgt := 37) hx hb dX10_taken_32 (by decide) (fun hc32 => ?_) (fun hc32 => ?_)
        · obtain rfl := hsv hc4
          have hs1 := hso sq (by omega)
          obtain ⟨kq, rfl, kq0, kq1⟩ := wi_nat (b := 8) (by decide) hc22
          obtain ⟨k2Q, rfl, l0, l1⟩ := wi_nat (b := 1) (by decide) hc32
          refine lv_aload_n hx hb dX10_taken_37 rfl (lv_at hl 0 rfl) ?_
          refine va_get (D := D) (ci := 10) (v := .ref rw9) (C := RX10) (T := TX10) (N := 8) hx hb hts iX10 hown hK.1 hP 0 rfl rfl 7 (by decide) (hts _ m_360) (fun _ h9 => h9) rfl dX10_taken_38 ?_
          refine lv_iload_n hx hb dX10_taken_41 rfl (lv_at hl 1 rfl) ?_
          refine nv_rald (v := some ro) hx hb hK hP 7 rfl (by omega) (by decide) hrf dX10_taken_42 ?_
          refine W.eq (g2 := F0 m 43 ls [.ref ro]) rfl ?_
          refine lv_astore (lv' := [(6, .ref ro), (0, .ref o), (1, .int (nI sq)), (2, .int av), (3, .int ivQ), (4, .int (nI kq)), (5, .int (nI k2Q))]) hx hb dX10_taken_43 hl (by decide) rfl (fun ls hl => ?_)
          refine lv_aload hx hb dX10_taken_45 (lv_at hl 0 rfl) ?_
          refine lv_iload_n hx hb dX10_taken_47 rfl (lv_at hl 3 rfl) ?_
          refine lv_iload_n hx hb dX10_taken_48 rfl (lv_at hl 4 rfl) ?_
          refine lv_iload hx hb dX10_taken_49 (lv_at hl 5 rfl) ?_
          have hPc := hP.sub (ws' := [(ro, .inr (7, [.ref ri, .int (nI (shQ sq)), .int (nI (ln sq)), .int (nI (mnQ sq))]))]) [8] rfl
          refine nv_cp1 (va_runV (As := [.int av, .int ivQ, .int (nI kq)]) (rest := []) ⟨hx, hb, hml, hown, hts⟩ (c_X7_refuses l D z ro ri (shQ sq) (ln sq) (mnQ sq) av ivQ (nI kq) (by first | assumption | omega) (by first | assumption | omega)) (cwV 3 hts (gV m_498 m_499 m_500 m_181 m_177) rfl rfl rfl ⟨rfl, hd_X7_refuses⟩ ⟨Nat.le_of_ble_eq_true rfl, Nat.le_of_ble_eq_true rfl⟩) (nv_prePV (ci := 7) (q0 := 0) hK hPc trivial rfl rfl) rfl rfl hl.1 rfl (lv_room (Nat.le_of_ble_eq_true rfl)) dX10_taken_51 ⟨by decide, by decide⟩) ?_
          refine lv_istore (lv' := [(7, .int (foV (shQ sq) (ln sq) (mnQ sq) av ivQ (nI kq))), (6, .ref ro), (0, .ref o), (1, .int (nI sq)), (2, .int av), (3, .int ivQ), (4, .int (nI kq)), (5, .int (nI k2Q))]) hx hb dX10_taken_54 hl (by decide) rfl (fun ls hl => ?_)
          refine lv_iload hx hb dX10_taken_56 (lv_at hl 0 rfl) ?_
          refine lv_if_eq (tgt := 64) hx hb dX10_taken_58 (by decide) (fun hc58 => ?_) (fun hc58 => ?_)
          · obtain ⟨f1, f2, f3⟩ := foV_0 hc58
            obtain ⟨iq, rfl, hiq⟩ := inb_nat (by omega) (by omega) f3
            have hre := hrel.2.2 sq iq kq rfl rfl rfl (by omega) hc11 (by omega) (by omega) (by omega) hc58
            obtain ⟨be, hbe⟩ : ∃ y9 : Nat, y9 = (if rQ 1 - 1 < rQ 0 then rQ 1 - 1 else rQ 0) := ⟨_, rfl⟩
            have hbe1 : be ≤ rQ 0 ∧ be < rQ 1 := by rw [hbe]; split <;> omega
            refine lv_aload_n hx hb dX10_taken_64 rfl (lv_at hl 2 rfl) ?_
            refine va_get (D := D) (ci := 10) (v := .ref hn) (C := RX10) (T := TX10) (N := 8) hx hb hts iX10 hown hK.1 hP 0 rfl rfl 0 (by decide) (hts _ m_347) (fun _ h9 => h9) rfl dX10_taken_65 ?_
            refine va_get (D := D) (ci := 3) (v := .int (nI (rQ 0))) (C := RX3) (T := TX3) (N := 11) hx hb hts iX3 hown hK.1 hP 1 rfl rfl 5 (by decide) (hts _ m_422) (fun _ h9 => h9) rfl dX10_taken_68 ?_
            refine lv_aload_n hx hb dX10_taken_71 rfl (lv_at hl 2 rfl) ?_
            refine va_get (D := D) (ci := 10) (v := .ref hn) (C := RX10) (T := TX10) (N := 8) hx hb hts iX10 hown hK.1 hP 0 rfl rfl 0 (by decide) (hts _ m_347) (fun _ h9 => h9) rfl dX10_taken_72 ?_
            refine va_get (D := D) (ci := 3) (v := .int (nI (rQ 1))) (C := RX3) (T := TX3) (N := 11) hx hb hts iX3 hown hK.1 hP 1 rfl rfl 6 (by decide) (hts _ m_404) (fun _ h9 => h9) rfl dX10_taken_75 ?_
            refine lv_iconst (v := nI 1) hx hb dX10_taken_78 (by decide +kernel) ?_
            refine nv_sub hx hb (by omega) dX10_taken_79 ?_
            refine nv_mmin (r9 := nI (if ((rQ 1) - 1) < (rQ 0) then ((rQ 1) - 1) else (rQ 0))) hx hb (hml.trans hl.1.symm) hown (hts _ m_493) (hts _ m_13) (hts _ m_14) (hts _ m_15) (Nat.le_of_ble_eq_true rfl) (Nat.le_of_ble_eq_true rfl) (Nat.le_of_ble_eq_true rfl) (Nat.le_of_ble_eq_true rfl) (mn_n (by omega) (by omega)) dX10_taken_80 ?_
            rw [← hbe]
            refine lv_istore (lv' := [(8, .int (nI be)), (7, .int (foV (shQ sq) (ln sq) (mnQ sq) av (nI iq) (nI kq))), (6, .ref ro), (0, .ref o), (1, .int (nI sq)), (2, .int av), (3, .int (nI iq)), (4, .int (nI kq)), (5, .int (nI k2Q))]) hx hb dX10_taken_83 hl (by decide) rfl (fun ls hl => ?_)
            refine lv_iload hx hb dX10_taken_85 (lv_at hl 8 rfl) ?_
            refine nv_ifne (tgt := 129) hx hb (by omega) dX10_taken_87 (by decide) (fun hc87 => ?_) (fun hc87 => ?_)
            · obtain rfl : k2Q = 1 := by omega
              obtain rfl := hre.2 rfl
              have hk := tk_1 (it := it) (sq := sq) (iq := iq) (kq := kq) o0 o1 hbe
              refine lv_aload_n hx hb dX10_taken_129 rfl (lv_at hl 3 rfl) ?_
              refine lv_aload hx hb dX10_taken_130 (lv_at hl 2 rfl) ?_
              refine lv_iload_n hx hb dX10_taken_132 rfl (lv_at hl 6 rfl) ?_
              refine lv_iload hx hb dX10_taken_133 (lv_at hl 7 rfl) ?_
              refine lv_aload_n hx hb dX10_taken_135 rfl (lv_at hl 3 rfl) ?_
              refine va_get (D := D) (ci := 10) (v := .ref hn) (C := RX10) (T := TX10) (N := 8) hx hb hts iX10 hown hK.1 hP 0 rfl rfl 0 (by decide) (hts _ m_347) (fun _ h9 => h9) rfl dX10_taken_136 ?_
              refine va_get (D := D) (ci := 3) (v := .int (nI (rQ 1))) (C := RX3) (T := TX3) (N := 11) hx hb hts iX3 hown hK.1 hP 1 rfl rfl 6 (by decide) (hts _ m_404) (fun _ h9 => h9) rfl dX10_taken_139 ?_
              refine lv_aload_n hx hb dX10_taken_142 rfl (lv_at hl 3 rfl) ?_
              refine va_get (D := D) (ci := 10) (v := .ref hn) (C := RX10) (T := TX10) (N := 8) hx hb hts iX10 hown hK.1 hP 0 rfl rfl 0 (by decide) (hts _ m_347) (fun _ h9 => h9) rfl dX10_taken_143 ?_
              refine va_get (D := D) (ci := 3) (v := .int (nI (rQ 0))) (C := RX3) (T := TX3) (N := 11) hx hb hts iX3 hown hK.1 hP 1 rfl rfl 5 (by decide) (hts _ m_422) (fun _ h9 => h9) rfl dX10_taken_146 ?_
              refine lv_iconst (v := nI 1) hx hb dX10_taken_149 (by decide +kernel) ?_
              have hPc := hP.sub (ws' := [(o, .inr (10, [.ref hn, .ref pq, .ref gi, .ref gp, .int (nI ik), .ref h2, .ref tp, .ref rw9])), (hn, .inr (3, [.ref hp, .ref hh, .int (nI (rQ 6)), .int (nI (hpF rQ (rQ 6))), .int (nI (chF rQ (rQ 6))), .int (nI (rQ 0)), .int (nI (rQ 1)), .int (nI (rQ 2)), .int (nI (rQ 3)), .int (nI (rQ 4)), .int (nI (rQ 5))])), aP z hp 6 pf, aN z hh 6 (hbA rQ), (h2, .inr (3, [.ref hp2, .ref hh2, .int (nI (t0 6)), .int (nI (hpF t0 (t0 6))), .int (nI (chF t0 (t0 6))), .int (nI (t0 0)), .int (nI (t0 1)), .int (nI (t0 2)), .int (nI (t0 3)), .int (nI (t0 4)), .int (nI (t0 5))])), aP z hp2 6 tf0, aN z hh2 6 (hbA t0), (ro, .inr (7, [.ref ri, .int (nI (shQ sq)), .int (nI (ln sq)), .int (nI (mnQ sq))])), aL z ri 24 (itS it sq)]) [0, 1, 2, 3, 4, 5, 6, 8, 9] rfl
              have hDc := hD.sub (ws' := [(o, .inr (10, [.ref hn, .ref pq, .ref gi, .ref gp, .int (nI ik), .ref h2, .ref tp, .ref rw9])), (hn, .inr (3, [.ref hp, .ref hh, .int (nI (rQ 6)), .int (nI (hpF rQ (rQ 6))), .int (nI (chF rQ (rQ 6))), .int (nI (rQ 0)), .int (nI (rQ 1)), .int (nI (rQ 2)), .int (nI (rQ 3)), .int (nI (rQ 4)), .int (nI (rQ 5))])), aP z hp 6 pf, aN z hh 6 (hbA rQ), (h2, .inr (3, [.ref hp2, .ref hh2, .int (nI (t0 6)), .int (nI (hpF t0 (t0 6))), .int (nI (chF t0 (t0 6))), .int (nI (t0 0)), .int (nI (t0 1)), .int (nI (t0 2)), .int (nI (t0 3)), .int (nI (t0 4)), .int (nI (t0 5))])), aP z hp2 6 tf0, aN z hh2 6 (hbA t0), (ro, .inr (7, [.ref ri, .int (nI (shQ sq)), .int (nI (ln sq)), .int (nI (mnQ sq))])), aL z ri 24 (itS it sq)]) [0, 1, 2, 3, 4, 5, 6, 8, 9] (by decide) rfl
              refine nv_cx1 (σ := (Nat → Nat) × (Nat → Option Nat)) (wc := [(o, .inr (10, [.ref hn, .ref pq, .ref gi, .ref gp, .int (nI ik), .ref h2, .ref tp, .ref rw9])), (hn, .inr (3, [.ref hp, .ref hh, .int (nI (rQ 6)), .int (nI (hpF rQ (rQ 6))), .int (nI (chF rQ (rQ 6))), .int (nI (rQ 0)), .int (nI (rQ 1)), .int (nI (rQ 2)), .int (nI (rQ 3)), .int (nI (rQ 4)), .int (nI (rQ 5))])), aP z hp 6 pf, aN z hh 6 (hbA rQ), (h2, .inr (3, [.ref hp2, .ref hh2, .int (nI (t0 6)), .int (nI (hpF t0 (t0 6))), .int (nI (chF t0 (t0 6))), .int (nI (t0 0)), .int (nI (t0 1)), .int (nI (t0 2)), .int (nI (t0 3)), .int (nI (t0 4)), .int (nI (t0 5))])), aP z hp2 6 tf0, aN z hh2 6 (hbA t0), (ro, .inr (7, [.ref ri, .int (nI (shQ sq)), .int (nI (ln sq)), .int (nI (mnQ sq))])), aL z ri 24 (itS it sq)]) (wr := [aR z rw9 4 rf]) (w1 := fun u9 => [(o, .inr (10, [.ref hn, .ref pq, .ref gi, .ref gp, .int (nI ik), .ref h2, .ref tp, .ref rw9])), (hn, .inr (3, [.ref hp, .ref hh, .int (nI (rQ 6)), .int (nI (hpF rQ (rQ 6))), .int (nI (chF rQ (rQ 6))), .int (nI (rQ 0)), .int (nI (rQ 1)), .int (nI (rQ 2)), .int (nI (rQ 3)), .int (nI (rQ 4)), .int (nI (rQ 5))])), aP z hp 6 pf, aN z hh 6 (hbA rQ), (h2, .inr (3, [.ref hp2, .ref hh2, .int (nI (u9.1 6)), .int (nI (hpF u9.1 (u9.1 6))), .int (nI (chF u9.1 (u9.1 6))), .int (nI (u9.1 0)), .int (nI (u9.1 1)), .int (nI (u9.1 2)), .int (nI (u9.1 3)), .int (nI (u9.1 4)), .int (nI (u9.1 5))])), aP z hp2 6 u9.2, aN z hh2 6 (hbA u9.1), (ro, .inr (7, [.ref ri, .int (nI (shQ sq)), .int (nI (ln sq)), .int (nI (mnQ sq))])), aL z ri 24 (itS it sq)]) (ws1 := fun u9 => [(o, .inr (10, [.ref hn, .ref pq, .ref gi, .ref gp, .int (nI ik), .ref h2, .ref tp, .ref rw9])), (hn, .inr (3, [.ref hp, .ref hh, .int (nI (rQ 6)), .int (nI (hpF rQ (rQ 6))), .int (nI (chF rQ (rQ 6))), .int (nI (rQ 0)), .int (nI (rQ 1)), .int (nI (rQ 2)), .int (nI (rQ 3)), .int (nI (rQ 4)), .int (nI (rQ 5))])), aP z hp 6 pf, aN z hh 6 (hbA rQ), (h2, .inr (3, [.ref hp2, .ref hh2, .int (nI (u9.1 6)), .int (nI (hpF u9.1 (u9.1 6))), .int (nI (chF u9.1 (u9.1 6))), .int (nI (u9.1 0)), .int (nI (u9.1 1)), .int (nI (u9.1 2)), .int (nI (u9.1 3)), .int (nI (u9.1 4)), .int (nI (u9.1 5))])), aP z hp2 6 u9.2, aN z hh2 6 (hbA u9.1), aR z rw9 4 rf, (ro, .inr (7, [.ref ri, .int (nI (shQ sq)), .int (nI (ln sq)), .int (nI (mnQ sq))])), aL z ri 24 (itS it sq)]) (va_runV (As := [.ref ro, .int (nI iq), .int (nI kq), .int (nI (rQ 1)), .int (nI (rQ 0)), .int (nI 1)]) (rest := []) ⟨hx, hb, hml, hown, hts⟩ (c_X10_starts l D z s.heap.size w0Q o hn pq gi gp ik h2 tp rw9 hp hh pf rQ hp2 hh2 tf0 t0 ro ri shQ ln mnQ it sq iq kq (rQ 1) (rQ 0) 1 (by first | assumption | omega) (by first | assumption | omega) (by first | assumption | omega) (by first | assumption | omega) (by omega) (by omega) (Or.inr (Nat.le_refl _)) (by omega)) (cwV 6 hts (gV m_501 m_502 m_503 m_198 m_492) rfl rfl rfl ⟨rfl, hd_X10_starts⟩ ⟨Nat.le_of_ble_eq_true rfl, Nat.le_of_ble_eq_true rfl⟩) (nv_preMV (ci := 10) (q0 := 0) hK hPc hDc ((hN _ _ hS).to [0, 1, 2, 3, 4, 5, 6, 8, 9] rfl) rfl rfl) rfl rfl hl.1 rfl (lv_room (Nat.le_of_ble_eq_true rfl)) dX10_taken_150 ⟨by decide, by decide⟩) hP hD hS hA [0, 1, 2, 3, 4, 5, 6, 8, 9] [7] [1, 2, 3, 4, 5, 6, 7, 0, 8, 9] rfl rfl (by decide) (by decide) (fun _ => rfl) (by decide) (fun _ => rfl) (by decide) (fun u9 H locs hP hD hS hE150 hz150 hf150 => ?_)
              obtain ⟨t11, tf12⟩ := u9
              have hP : va_P D vwCl [(o, .inr (10, [.ref hn, .ref pq, .ref gi, .ref gp, .int (nI ik), .ref h2, .ref tp, .ref rw9])), (hn, .inr (3, [.ref hp, .ref hh, .int (nI (rQ 6)), .int (nI (hpF rQ (rQ 6))), .int (nI (chF rQ (rQ 6))), .int (nI (rQ 0)), .int (nI (rQ 1)), .int (nI (rQ 2)), .int (nI (rQ 3)), .int (nI (rQ 4)), .int (nI (rQ 5))])), aP z hp 6 pf, aN z hh 6 (hbA rQ), (h2, .inr (3, [.ref hp2, .ref hh2, .int (nI (t11 6)), .int (nI (hpF t11 (t11 6))), .int (nI (chF t11 (t11 6))), .int (nI (t11 0)), .int (nI (t11 1)), .int (nI (t11 2)), .int (nI (t11 3)), .int (nI (t11 4)), .int (nI (t11 5))])), aP z hp2 6 tf12, aN z hh2 6 (hbA t11), aR z rw9 4 rf, (ro, .inr (7, [.ref ri, .int (nI (shQ sq)), .int (nI (ln sq)), .int (nI (mnQ sq))])), aL z ri 24 (itS it sq)] H := hP
              have hD : va_D A [(o, .inr (10, [.ref hn, .ref pq, .ref gi, .ref gp, .int (nI ik), .ref h2, .ref tp, .ref rw9])), (hn, .inr (3, [.ref hp, .ref hh, .int (nI (rQ 6)), .int (nI (hpF rQ (rQ 6))), .int (nI (chF rQ (rQ 6))), .int (nI (rQ 0)), .int (nI (rQ 1)), .int (nI (rQ 2)), .int (nI (rQ 3)), .int (nI (rQ 4)), .int (nI (rQ 5))])), aP z hp 6 pf, aN z hh 6 (hbA rQ), (h2, .inr (3, [.ref hp2, .ref hh2, .int (nI (t11 6)), .int (nI (hpF t11 (t11 6))), .int (nI (chF t11 (t11 6))), .int (nI (t11 0)), .int (nI (t11 1)), .int (nI (t11 2)), .int (nI (t11 3)), .int (nI (t11 4)), .int (nI (t11 5))])), aP z hp2 6 tf12, aN z hh2 6 (hbA t11), aR z rw9 4 rf, (ro, .inr (7, [.ref ri, .int (nI (shQ sq)), .int (nI (ln sq)), .int (nI (mnQ sq))])), aL z ri 24 (itS it sq)] := hD
              clear hPc hDc
              clear hf150 hz150
              refine lv_istore (lv' := [(9, .int (stV (gvD rQ (itS it sq) iq kq) (rQ 1) (rQ 0) 1)), (8, .int (nI be)), (7, .int (foV (shQ sq) (ln sq) (mnQ sq) av (nI iq) (nI kq))), (6, .ref ro), (0, .ref o), (1, .int (nI sq)), (2, .int av), (3, .int (nI iq)), (4, .int (nI kq)), (5, .int (nI 1))]) hx hb dX10_taken_153 hl (by decide) rfl (fun ls hl => ?_)
              refine lv_iload hx hb dX10_taken_155 (lv_at hl 0 rfl) ?_
              refine lv_bipush (v := (-4)) hx hb dX10_taken_157 (by decide +kernel) ?_
              refine lv_icmp_ne (tgt := 177) hx hb dX10_taken_159 (by decide) (fun hc159 => ?_) (fun hc159 => ?_)
              · refine lv_iload hx hb dX10_taken_177 (lv_at hl 0 rfl) ?_
                refine lv_bipush (v := (-4)) hx hb dX10_taken_179 (by decide +kernel) ?_
                refine lv_icmp_ne (tgt := 189) hx hb dX10_taken_181 (by decide) (fun hc181 => ?_) (fun hc181 => ?_)
                · refine lv_aload_n hx hb dX10_taken_189 rfl (lv_at hl 4 rfl) ?_
                  refine va_get (D := D) (ci := 10) (v := .ref hn) (C := RX10) (T := TX10) (N := 8) hx hb hts iX10 hown hK.1 hP 0 rfl rfl 0 (by decide) (hts _ m_347) (fun _ h9 => h9) rfl dX10_taken_190 ?_
                  refine va_get (D := D) (ci := 3) (v := .int (nI (rQ 0))) (C := RX3) (T := TX3) (N := 11) hx hb hts iX3 hown hK.1 hP 1 rfl rfl 5 (by decide) (hts _ m_422) (fun _ h9 => h9) rfl dX10_taken_193 ?_
                  refine lv_iload hx hb dX10_taken_196 (lv_at hl 0 rfl) ?_
                  refine lv_isub hx hb dX10_taken_198 ?_
                  exact nv_xi hx hb hr hlocks hS dX10_taken_199 (t11, tf12) hP trivial (by first | exact hk.1 hc159 | exact hk.2.2 hc159 hc181 | exact (hk.2.1 hc159 hc181).symm | exact absurd hc181 hc159)
                · refine lv_bipush (v := (-4)) hx hb dX10_taken_184 (by decide +kernel) ?_
                  refine lv_goto (tgt := 199) hx hb dX10_taken_186 (by decide) ?_
                  exact nv_xi hx hb hr hlocks hS dX10_taken_199 (t11, tf12) hP trivial (by first | exact hk.1 hc159 | exact hk.2.2 hc159 hc181 | exact (hk.2.1 hc159 hc181).symm | exact absurd hc181 hc159)
              · refine lv_aload_n hx hb dX10_taken_162 rfl (lv_at hl 4 rfl) ?_
                refine lv_aload hx hb dX10_taken_163 (lv_at hl 3 rfl) ?_
                refine lv_iload_n hx hb dX10_taken_165 rfl (lv_at hl 7 rfl) ?_
                refine lv_iload hx hb dX10_taken_166 (lv_at hl 8 rfl) ?_
                refine lv_iconst (v := nI 0) hx hb dX10_taken_168 (by decide +kernel) ?_
                refine lv_iload hx hb dX10_taken_169 (lv_at hl 1 rfl) ?_
                refine lv_iconst (v := nI 1) hx hb dX10_taken_171 (by decide +kernel) ?_
                have hPc := hP.sub (ws' := [(o, .inr (10, [.ref hn, .ref pq, .ref gi, .ref gp, .int (nI ik), .ref h2, .ref tp, .ref rw9])), (hn, .inr (3, [.ref hp, .ref hh, .int (nI (rQ 6)), .int (nI (hpF rQ (rQ 6))), .int (nI (chF rQ (rQ 6))), .int (nI (rQ 0)), .int (nI (rQ 1)), .int (nI (rQ 2)), .int (nI (rQ 3)), .int (nI (rQ 4)), .int (nI (rQ 5))])), aP z hp 6 pf, aN z hh 6 (hbA rQ), (h2, .inr (3, [.ref hp2, .ref hh2, .int (nI (t11 6)), .int (nI (hpF t11 (t11 6))), .int (nI (chF t11 (t11 6))), .int (nI (t11 0)), .int (nI (t11 1)), .int (nI (t11 2)), .int (nI (t11 3)), .int (nI (t11 4)), .int (nI (t11 5))])), aP z hp2 6 tf12, aN z hh2 6 (hbA t11), (ro, .inr (7, [.ref ri, .int (nI (shQ sq)), .int (nI (ln sq)), .int (nI (mnQ sq))])), aL z ri 24 (itS it sq)]) [0, 1, 2, 3, 4, 5, 6, 8, 9] rfl
                have hDc := hD.sub (ws' := [(o, .inr (10, [.ref hn, .ref pq, .ref gi, .ref gp, .int (nI ik), .ref h2, .ref tp, .ref rw9])), (hn, .inr (3, [.ref hp, .ref hh, .int (nI (rQ 6)), .int (nI (hpF rQ (rQ 6))), .int (nI (chF rQ (rQ 6))), .int (nI (rQ 0)), .int (nI (rQ 1)), .int (nI (rQ 2)), .int (nI (rQ 3)), .int (nI (rQ 4)), .int (nI (rQ 5))])), aP z hp 6 pf, aN z hh 6 (hbA rQ), (h2, .inr (3, [.ref hp2, .ref hh2, .int (nI (t11 6)), .int (nI (hpF t11 (t11 6))), .int (nI (chF t11 (t11 6))), .int (nI (t11 0)), .int (nI (t11 1)), .int (nI (t11 2)), .int (nI (t11 3)), .int (nI (t11 4)), .int (nI (t11 5))])), aP z hp2 6 tf12, aN z hh2 6 (hbA t11), (ro, .inr (7, [.ref ri, .int (nI (shQ sq)), .int (nI (ln sq)), .int (nI (mnQ sq))])), aL z ri 24 (itS it sq)]) [0, 1, 2, 3, 4, 5, 6, 8, 9] (by decide) rfl
                refine nv_cx1 (σ := (Nat → Nat) × (Nat → Option Nat)) (wc := [(o, .inr (10, [.ref hn, .ref pq, .ref gi, .ref gp, .int (nI ik), .ref h2, .ref tp, .ref rw9])), (hn, .inr (3, [.ref hp, .ref hh, .int (nI (rQ 6)), .int (nI (hpF rQ (rQ 6))), .int (nI (chF rQ (rQ 6))), .int (nI (rQ 0)), .int (nI (rQ 1)), .int (nI (rQ 2)), .int (nI (rQ 3)), .int (nI (rQ 4)), .int (nI (rQ 5))])), aP z hp 6 pf, aN z hh 6 (hbA rQ), (h2, .inr (3, [.ref hp2, .ref hh2, .int (nI (t11 6)), .int (nI (hpF t11 (t11 6))), .int (nI (chF t11 (t11 6))), .int (nI (t11 0)), .int (nI (t11 1)), .int (nI (t11 2)), .int (nI (t11 3)), .int (nI (t11 4)), .int (nI (t11 5))])), aP z hp2 6 tf12, aN z hh2 6 (hbA t11), (ro, .inr (7, [.ref ri, .int (nI (shQ sq)), .int (nI (ln sq)), .int (nI (mnQ sq))])), aL z ri 24 (itS it sq)]) (wr := [aR z rw9 4 rf]) (w1 := fun u9 => [(o, .inr (10, [.ref hn, .ref pq, .ref gi, .ref gp, .int (nI ik), .ref h2, .ref tp, .ref rw9])), (hn, .inr (3, [.ref hp, .ref hh, .int (nI (rQ 6)), .int (nI (hpF rQ (rQ 6))), .int (nI (chF rQ (rQ 6))), .int (nI (rQ 0)), .int (nI (rQ 1)), .int (nI (rQ 2)), .int (nI (rQ 3)), .int (nI (rQ 4)), .int (nI (rQ 5))])), aP z hp 6 pf, aN z hh 6 (hbA rQ), (h2, .inr (3, [.ref hp2, .ref hh2, .int (nI (u9.1 6)), .int (nI (hpF u9.1 (u9.1 6))), .int (nI (chF u9.1 (u9.1 6))), .int (nI (u9.1 0)), .int (nI (u9.1 1)), .int (nI (u9.1 2)), .int (nI (u9.1 3)), .int (nI (u9.1 4)), .int (nI (u9.1 5))])), aP z hp2 6 u9.2, aN z hh2 6 (hbA u9.1), (ro, .inr (7, [.ref ri, .int (nI (shQ sq)), .int (nI (ln sq)), .int (nI (mnQ sq))])), aL z ri 24 (itS it sq)]) (ws1 := fun u9 => [(o, .inr (10, [.ref hn, .ref pq, .ref gi, .ref gp, .int (nI ik), .ref h2, .ref tp, .ref rw9])), (hn, .inr (3, [.ref hp, .ref hh, .int (nI (rQ 6)), .int (nI (hpF rQ (rQ 6))), .int (nI (chF rQ (rQ 6))), .int (nI (rQ 0)), .int (nI (rQ 1)), .int (nI (rQ 2)), .int (nI (rQ 3)), .int (nI (rQ 4)), .int (nI (rQ 5))])), aP z hp 6 pf, aN z hh 6 (hbA rQ), (h2, .inr (3, [.ref hp2, .ref hh2, .int (nI (u9.1 6)), .int (nI (hpF u9.1 (u9.1 6))), .int (nI (chF u9.1 (u9.1 6))), .int (nI (u9.1 0)), .int (nI (u9.1 1)), .int (nI (u9.1 2)), .int (nI (u9.1 3)), .int (nI (u9.1 4)), .int (nI (u9.1 5))])), aP z hp2 6 u9.2, aN z hh2 6 (hbA u9.1), aR z rw9 4 rf, (ro, .inr (7, [.ref ri, .int (nI (shQ sq)), .int (nI (ln sq)), .int (nI (mnQ sq))])), aL z ri 24 (itS it sq)]) (va_runV (As := [.ref ro, .int (nI iq), .int (nI kq), .int (nI 0), .int (nI be), .int (nI 1)]) (rest := []) ⟨hx, hb, hml, hown, hts⟩ (c_X10_starts l D z H.size w0Q o hn pq gi gp ik h2 tp rw9 hp hh pf rQ hp2 hh2 tf12 t11 ro ri shQ ln mnQ it sq iq kq 0 be 1 (by first | assumption | omega) (by first | assumption | omega) (by first | assumption | omega) (by first | assumption | omega) (by omega) (by omega) (Or.inl hbe1.2) (by omega)) (cwV 6 hts (gV m_501 m_502 m_503 m_198 m_492) rfl rfl rfl ⟨rfl, hd_X10_starts⟩ ⟨Nat.le_of_ble_eq_true rfl, Nat.le_of_ble_eq_true rfl⟩) (nv_preMV (ci := 10) (q0 := 0) hK hPc hDc ((hN _ _ hS).to [0, 1, 2, 3, 4, 5, 6, 8, 9] rfl) rfl rfl) rfl rfl hl.1 rfl (lv_room (Nat.le_of_ble_eq_true rfl)) dX10_taken_172 ⟨by decide, by decide⟩) hP hD hS hA [0, 1, 2, 3, 4, 5, 6, 8, 9] [7] [1, 2, 3, 4, 5, 6, 7, 0, 8, 9] rfl rfl (by decide) (by decide) (fun _ => rfl) (by decide) (fun _ => rfl) (by decide) (fun u9 H locs hP hD hS hE172 hz172 hf172 => ?_)
                obtain ⟨t13, tf14⟩ := u9
                have hP : va_P D vwCl [(o, .inr (10, [.ref hn, .ref pq, .ref gi, .ref gp, .int (nI ik), .ref h2, .ref tp, .ref rw9])), (hn, .inr (3, [.ref hp, .ref hh, .int (nI (rQ 6)), .int (nI (hpF rQ (rQ 6))), .int (nI (chF rQ (rQ 6))), .int (nI (rQ 0)), .int (nI (rQ 1)), .int (nI (rQ 2)), .int (nI (rQ 3)), .int (nI (rQ 4)), .int (nI (rQ 5))])), aP z hp 6 pf, aN z hh 6 (hbA rQ), (h2, .inr (3, [.ref hp2, .ref hh2, .int (nI (t13 6)), .int (nI (hpF t13 (t13 6))), .int (nI (chF t13 (t13 6))), .int (nI (t13 0)), .int (nI (t13 1)), .int (nI (t13 2)), .int (nI (t13 3)), .int (nI (t13 4)), .int (nI (t13 5))])), aP z hp2 6 tf14, aN z hh2 6 (hbA t13), aR z rw9 4 rf, (ro, .inr (7, [.ref ri, .int (nI (shQ sq)), .int (nI (ln sq)), .int (nI (mnQ sq))])), aL z ri 24 (itS it sq)] H := hP
                have hD : va_D A [(o, .inr (10, [.ref hn, .ref pq, .ref gi, .ref gp, .int (nI ik), .ref h2, .ref tp, .ref rw9])), (hn, .inr (3, [.ref hp, .ref hh, .int (nI (rQ 6)), .int (nI (hpF rQ (rQ 6))), .int (nI (chF rQ (rQ 6))), .int (nI (rQ 0)), .int (nI (rQ 1)), .int (nI (rQ 2)), .int (nI (rQ 3)), .int (nI (rQ 4)), .int (nI (rQ 5))])), aP z hp 6 pf, aN z hh 6 (hbA rQ), (h2, .inr (3, [.ref hp2, .ref hh2, .int (nI (t13 6)), .int (nI (hpF t13 (t13 6))), .int (nI (chF t13 (t13 6))), .int (nI (t13 0)), .int (nI (t13 1)), .int (nI (t13 2)), .int (nI (t13 3)), .int (nI (t13 4)), .int (nI (t13 5))])), aP z hp2 6 tf14, aN z hh2 6 (hbA t13), aR z rw9 4 rf, (ro, .inr (7, [.ref ri, .int (nI (shQ sq)), .int (nI (ln sq)), .int (nI (mnQ sq))])), aL z ri 24 (itS it sq)] := hD
                clear hPc hDc
                clear hf172 hz172
                refine lv_istore (lv' := [(9, .int (stV (gvD rQ (itS it sq) iq kq) 0 be 1)), (8, .int (nI be)), (7, .int (foV (shQ sq) (ln sq) (mnQ sq) av (nI iq) (nI kq))), (6, .ref ro), (0, .ref o), (1, .int (nI sq)), (2, .int av), (3, .int (nI iq)), (4, .int (nI kq)), (5, .int (nI 1))]) hx hb dX10_taken_175 hl (by decide) rfl (fun ls hl => ?_)
                refine lv_iload hx hb dX10_taken_177 (lv_at hl 0 rfl) ?_
                refine lv_bipush (v := (-4)) hx hb dX10_taken_179 (by decide +kernel) ?_
                refine lv_icmp_ne (tgt := 189) hx hb dX10_taken_181 (by decide) (fun hc181 => ?_) (fun hc181 => ?_)
                · refine lv_aload_n hx hb dX10_taken_189 rfl (lv_at hl 4 rfl) ?_
                  refine va_get (D := D) (ci := 10) (v := .ref hn) (C := RX10) (T := TX10) (N := 8) hx hb hts iX10 hown hK.1 hP 0 rfl rfl 0 (by decide) (hts _ m_347) (fun _ h9 => h9) rfl dX10_taken_190 ?_
                  refine va_get (D := D) (ci := 3) (v := .int (nI (rQ 0))) (C := RX3) (T := TX3) (N := 11) hx hb hts iX3 hown hK.1 hP 1 rfl rfl 5 (by decide) (hts _ m_422) (fun _ h9 => h9) rfl dX10_taken_193 ?_
                  refine lv_iload hx hb dX10_taken_196 (lv_at hl 0 rfl) ?_
                  refine lv_isub hx hb dX10_taken_198 ?_
                  exact nv_xi hx hb hr hlocks hS dX10_taken_199 (t13, tf14) hP trivial (by first | exact hk.1 hc159 | exact hk.2.2 hc159 hc181 | exact (hk.2.1 hc159 hc181).symm | exact absurd hc181 hc159)
                · refine lv_bipush (v := (-4)) hx hb dX10_taken_184 (by decide +kernel) ?_
                  refine lv_goto (tgt := 199) hx hb dX10_taken_186 (by decide) ?_
                  exact nv_xi hx hb hr hlocks hS dX10_taken_199 (t13, tf14) hP trivial (by first | exact hk.1 hc159 | exact hk.2.2 hc159 hc181 | exact (hk.2.1 hc159 hc181).symm | exact absurd hc181 hc159)
            · obtain rfl : k2Q = 0 := hc87
              obtain rfl := hre.1 rfl
              refine lv_aload_n hx hb dX10_taken_90 rfl (lv_at hl 3 rfl) ?_
              refine lv_aload hx hb dX10_taken_91 (lv_at hl 2 rfl) ?_
              refine lv_iload_n hx hb dX10_taken_93 rfl (lv_at hl 6 rfl) ?_
              refine lv_iload hx hb dX10_taken_94 (lv_at hl 7 rfl) ?_
              refine lv_iconst (v := nI 0) hx hb dX10_taken_96 (by decide +kernel) ?_
              refine lv_iload hx hb dX10_taken_97 (lv_at hl 0 rfl) ?_
              refine lv_iconst (v := nI 0) hx hb dX10_taken_99 (by decide +kernel) ?_
              have hPc := hP.sub (ws' := [(o, .inr (10, [.ref hn, .ref pq, .ref gi, .ref gp, .int (nI ik), .ref h2, .ref tp, .ref rw9])), (hn, .inr (3, [.ref hp, .ref hh, .int (nI (rQ 6)), .int (nI (hpF rQ (rQ 6))), .int (nI (chF rQ (rQ 6))), .int (nI (rQ 0)), .int (nI (rQ 1)), .int (nI (rQ 2)), .int (nI (rQ 3)), .int (nI (rQ 4)), .int (nI (rQ 5))])), aP z hp 6 pf, aN z hh 6 (hbA rQ), (h2, .inr (3, [.ref hp2, .ref hh2, .int (nI (t0 6)), .int (nI (hpF t0 (t0 6))), .int (nI (chF t0 (t0 6))), .int (nI (t0 0)), .int (nI (t0 1)), .int (nI (t0 2)), .int (nI (t0 3)), .int (nI (t0 4)), .int (nI (t0 5))])), aP z hp2 6 tf0, aN z hh2 6 (hbA t0), (ro, .inr (7, [.ref ri, .int (nI (shQ sq)), .int (nI (ln sq)), .int (nI (mnQ sq))])), aL z ri 24 (itS it sq)]) [0, 1, 2, 3, 4, 5, 6, 8, 9] rfl
              have hDc := hD.sub (ws' := [(o, .inr (10, [.ref hn, .ref pq, .ref gi, .ref gp, .int (nI ik), .ref h2, .ref tp, .ref rw9])), (hn, .inr (3, [.ref hp, .ref hh, .int (nI (rQ 6)), .int (nI (hpF rQ (rQ 6))), .int (nI (chF rQ (rQ 6))), .int (nI (rQ 0)), .int (nI (rQ 1)), .int (nI (rQ 2)), .int (nI (rQ 3)), .int (nI (rQ 4)), .int (nI (rQ 5))])), aP z hp 6 pf, aN z hh 6 (hbA rQ), (h2, .inr (3, [.ref hp2, .ref hh2, .int (nI (t0 6)), .int (nI (hpF t0 (t0 6))), .int (nI (chF t0 (t0 6))), .int (nI (t0 0)), .int (nI (t0 1)), .int (nI (t0 2)), .int (nI (t0 3)), .int (nI (t0 4)), .int (nI (t0 5))])), aP z hp2 6 tf0, aN z hh2 6 (hbA t0), (ro, .inr (7, [.ref ri, .int (nI (shQ sq)), .int (nI (ln sq)), .int (nI (mnQ sq))])), aL z ri 24 (itS it sq)]) [0, 1, 2, 3, 4, 5, 6, 8, 9] (by decide) rfl
              refine nv_cx1 (σ := (Nat → Nat) × (Nat → Option Nat)) (wc := [(o, .inr (10, [.ref hn, .ref pq, .ref gi, .ref gp, .int (nI ik), .ref h2, .ref tp, .ref rw9])), (hn, .inr (3, [.ref hp, .ref hh, .int (nI (rQ 6)), .int (nI (hpF rQ (rQ 6))), .int (nI (chF rQ (rQ 6))), .int (nI (rQ 0)), .int (nI (rQ 1)), .int (nI (rQ 2)), .int (nI (rQ 3)), .int (nI (rQ 4)), .int (nI (rQ 5))])), aP z hp 6 pf, aN z hh 6 (hbA rQ), (h2, .inr (3, [.ref hp2, .ref hh2, .int (nI (t0 6)), .int (nI (hpF t0 (t0 6))), .int (nI (chF t0 (t0 6))), .int (nI (t0 0)), .int (nI (t0 1)), .int (nI (t0 2)), .int (nI (t0 3)), .int (nI (t0 4)), .int (nI (t0 5))])), aP z hp2 6 tf0, aN z hh2 6 (hbA t0), (ro, .inr (7, [.ref ri, .int (nI (shQ sq)), .int (nI (ln sq)), .int (nI (mnQ sq))])), aL z ri 24 (itS it sq)]) (wr := [aR z rw9 4 rf]) (w1 := fun u9 => [(o, .inr (10, [.ref hn, .ref pq, .ref gi, .ref gp, .int (nI ik), .ref h2, .ref tp, .ref rw9])), (hn, .inr (3, [.ref hp, .ref hh, .int (nI (rQ 6)), .int (nI (hpF rQ (rQ 6))), .int (nI (chF rQ (rQ 6))), .int (nI (rQ 0)), .int (nI (rQ 1)), .int (nI (rQ 2)), .int (nI (rQ 3)), .int (nI (rQ 4)), .int (nI (rQ 5))])), aP z hp 6 pf, aN z hh 6 (hbA rQ), (h2, .inr (3, [.ref hp2, .ref hh2, .int (nI (u9.1 6)), .int (nI (hpF u9.1 (u9.1 6))), .int (nI (chF u9.1 (u9.1 6))), .int (nI (u9.1 0)), .int (nI (u9.1 1)), .int (nI (u9.1 2)), .int (nI (u9.1 3)), .int (nI (u9.1 4)), .int (nI (u9.1 5))])), aP z hp2 6 u9.2, aN z hh2 6 (hbA u9.1), (ro, .inr (7, [.ref ri, .int (nI (shQ sq)), .int (nI (ln sq)), .int (nI (mnQ sq))])), aL z ri 24 (itS it sq)]) (ws1 := fun u9 => [(o, .inr (10, [.ref hn, .ref pq, .ref gi, .ref gp, .int (nI ik), .ref h2, .ref tp, .ref rw9])), (hn, .inr (3, [.ref hp, .ref hh, .int (nI (rQ 6)), .int (nI (hpF rQ (rQ 6))), .int (nI (chF rQ (rQ 6))), .int (nI (rQ 0)), .int (nI (rQ 1)), .int (nI (rQ 2)), .int (nI (rQ 3)), .int (nI (rQ 4)), .int (nI (rQ 5))])), aP z hp 6 pf, aN z hh 6 (hbA rQ), (h2, .inr (3, [.ref hp2, .ref hh2, .int (nI (u9.1 6)), .int (nI (hpF u9.1 (u9.1 6))), .int (nI (chF u9.1 (u9.1 6))), .int (nI (u9.1 0)), .int (nI (u9.1 1)), .int (nI (u9.1 2)), .int (nI (u9.1 3)), .int (nI (u9.1 4)), .int (nI (u9.1 5))])), aP z hp2 6 u9.2, aN z hh2 6 (hbA u9.1), aR z rw9 4 rf, (ro, .inr (7, [.ref ri, .int (nI (shQ sq)), .int (nI (ln sq)), .int (nI (mnQ sq))])), aL z ri 24 (itS it sq)]) (va_runV (As := [.ref ro, .int (nI iq), .int (nI kq), .int (nI 0), .int (nI be), .int (nI 0)]) (rest := []) ⟨hx, hb, hml, hown, hts⟩ (c_X10_starts l D z s.heap.size w0Q o hn pq gi gp ik h2 tp rw9 hp hh pf rQ hp2 hh2 tf0 t0 ro ri shQ ln mnQ it sq iq kq 0 be 0 (by first | assumption | omega) (by first | assumption | omega) (by first | assumption | omega) (by first | assumption | omega) (by omega) (by omega) (Or.inl hbe1.2) (by omega)) (cwV 6 hts (gV m_501 m_502 m_503 m_198 m_492) rfl rfl rfl ⟨rfl, hd_X10_starts⟩ ⟨Nat.le_of_ble_eq_true rfl, Nat.le_of_ble_eq_true rfl⟩) (nv_preMV (ci := 10) (q0 := 0) hK hPc hDc ((hN _ _ hS).to [0, 1, 2, 3, 4, 5, 6, 8, 9] rfl) rfl rfl) rfl rfl hl.1 rfl (lv_room (Nat.le_of_ble_eq_true rfl)) dX10_taken_100 ⟨by decide, by decide⟩) hP hD hS hA [0, 1, 2, 3, 4, 5, 6, 8, 9] [7] [1, 2, 3, 4, 5, 6, 7, 0, 8, 9] rfl rfl (by decide) (by decide) (fun _ => rfl) (by decide) (fun _ => rfl) (by decide) (fun u9 H locs hP hD hS hE100 hz100 hf100 => ?_)
              obtain ⟨t15, tf16⟩ := u9
              have hP : va_P D vwCl [(o, .inr (10, [.ref hn, .ref pq, .ref gi, .ref gp, .int (nI ik), .ref h2, .ref tp, .ref rw9])), (hn, .inr (3, [.ref hp, .ref hh, .int (nI (rQ 6)), .int (nI (hpF rQ (rQ 6))), .int (nI (chF rQ (rQ 6))), .int (nI (rQ 0)), .int (nI (rQ 1)), .int (nI (rQ 2)), .int (nI (rQ 3)), .int (nI (rQ 4)), .int (nI (rQ 5))])), aP z hp 6 pf, aN z hh 6 (hbA rQ), (h2, .inr (3, [.ref hp2, .ref hh2, .int (nI (t15 6)), .int (nI (hpF t15 (t15 6))), .int (nI (chF t15 (t15 6))), .int (nI (t15 0)), .int (nI (t15 1)), .int (nI (t15 2)), .int (nI (t15 3)), .int (nI (t15 4)), .int (nI (t15 5))])), aP z hp2 6 tf16, aN z hh2 6 (hbA t15), aR z rw9 4 rf, (ro, .inr (7, [.ref ri, .int (nI (shQ sq)), .int (nI (ln sq)), .int (nI (mnQ sq))])), aL z ri 24 (itS it sq)] H := hP
              have hD : va_D A [(o, .inr (10, [.ref hn, .ref pq, .ref gi, .ref gp, .int (nI ik), .ref h2, .ref tp, .ref rw9])), (hn, .inr (3, [.ref hp, .ref hh, .int (nI (rQ 6)), .int (nI (hpF rQ (rQ 6))), .int (nI (chF rQ (rQ 6))), .int (nI (rQ 0)), .int (nI (rQ 1)), .int (nI (rQ 2)), .int (nI (rQ 3)), .int (nI (rQ 4)), .int (nI (rQ 5))])), aP z hp 6 pf, aN z hh 6 (hbA rQ), (h2, .inr (3, [.ref hp2, .ref hh2, .int (nI (t15 6)), .int (nI (hpF t15 (t15 6))), .int (nI (chF t15 (t15 6))), .int (nI (t15 0)), .int (nI (t15 1)), .int (nI (t15 2)), .int (nI (t15 3)), .int (nI (t15 4)), .int (nI (t15 5))])), aP z hp2 6 tf16, aN z hh2 6 (hbA t15), aR z rw9 4 rf, (ro, .inr (7, [.ref ri, .int (nI (shQ sq)), .int (nI (ln sq)), .int (nI (mnQ sq))])), aL z ri 24 (itS it sq)] := hD
              clear hPc hDc
              clear hf100 hz100
              refine lv_aload_n hx hb dX10_taken_103 rfl (lv_at hl 3 rfl) ?_
              refine lv_aload hx hb dX10_taken_104 (lv_at hl 2 rfl) ?_
              refine lv_iload_n hx hb dX10_taken_106 rfl (lv_at hl 6 rfl) ?_
              refine lv_iload hx hb dX10_taken_107 (lv_at hl 7 rfl) ?_
              refine lv_aload_n hx hb dX10_taken_109 rfl (lv_at hl 3 rfl) ?_
              refine va_get (D := D) (ci := 10) (v := .ref hn) (C := RX10) (T := TX10) (N := 8) hx hb hts iX10 hown hK.1 hP 0 rfl rfl 0 (by decide) (hts _ m_347) (fun _ h9 => h9) rfl dX10_taken_110 ?_
              refine va_get (D := D) (ci := 3) (v := .int (nI (rQ 1))) (C := RX3) (T := TX3) (N := 11) hx hb hts iX3 hown hK.1 hP 1 rfl rfl 6 (by decide) (hts _ m_404) (fun _ h9 => h9) rfl dX10_taken_113 ?_
              refine lv_aload_n hx hb dX10_taken_116 rfl (lv_at hl 3 rfl) ?_
              refine va_get (D := D) (ci := 10) (v := .ref hn) (C := RX10) (T := TX10) (N := 8) hx hb hts iX10 hown hK.1 hP 0 rfl rfl 0 (by decide) (hts _ m_347) (fun _ h9 => h9) rfl dX10_taken_117 ?_
              refine va_get (D := D) (ci := 3) (v := .int (nI (rQ 0))) (C := RX3) (T := TX3) (N := 11) hx hb hts iX3 hown hK.1 hP 1 rfl rfl 5 (by decide) (hts _ m_422) (fun _ h9 => h9) rfl dX10_taken_120 ?_
              refine lv_iconst (v := nI 0) hx hb dX10_taken_123 (by decide +kernel) ?_
              have hPc := hP.sub (ws' := [(o, .inr (10, [.ref hn, .ref pq, .ref gi, .ref gp, .int (nI ik), .ref h2, .ref tp, .ref rw9])), (hn, .inr (3, [.ref hp, .ref hh, .int (nI (rQ 6)), .int (nI (hpF rQ (rQ 6))), .int (nI (chF rQ (rQ 6))), .int (nI (rQ 0)), .int (nI (rQ 1)), .int (nI (rQ 2)), .int (nI (rQ 3)), .int (nI (rQ 4)), .int (nI (rQ 5))])), aP z hp 6 pf, aN z hh 6 (hbA rQ), (h2, .inr (3, [.ref hp2, .ref hh2, .int (nI (t15 6)), .int (nI (hpF t15 (t15 6))), .int (nI (chF t15 (t15 6))), .int (nI (t15 0)), .int (nI (t15 1)), .int (nI (t15 2)), .int (nI (t15 3)), .int (nI (t15 4)), .int (nI (t15 5))])), aP z hp2 6 tf16, aN z hh2 6 (hbA t15), (ro, .inr (7, [.ref ri, .int (nI (shQ sq)), .int (nI (ln sq)), .int (nI (mnQ sq))])), aL z ri 24 (itS it sq)]) [0, 1, 2, 3, 4, 5, 6, 8, 9] rfl
              have hDc := hD.sub (ws' := [(o, .inr (10, [.ref hn, .ref pq, .ref gi, .ref gp, .int (nI ik), .ref h2, .ref tp, .ref rw9])), (hn, .inr (3, [.ref hp, .ref hh, .int (nI (rQ 6)), .int (nI (hpF rQ (rQ 6))), .int (nI (chF rQ (rQ 6))), .int (nI (rQ 0)), .int (nI (rQ 1)), .int (nI (rQ 2)), .int (nI (rQ 3)), .int (nI (rQ 4)), .int (nI (rQ 5))])), aP z hp 6 pf, aN z hh 6 (hbA rQ), (h2, .inr (3, [.ref hp2, .ref hh2, .int (nI (t15 6)), .int (nI (hpF t15 (t15 6))), .int (nI (chF t15 (t15 6))), .int (nI (t15 0)), .int (nI (t15 1)), .int (nI (t15 2)), .int (nI (t15 3)), .int (nI (t15 4)), .int (nI (t15 5))])), aP z hp2 6 tf16, aN z hh2 6 (hbA t15), (ro, .inr (7, [.ref ri, .int (nI (shQ sq)), .int (nI (ln sq)), .int (nI (mnQ sq))])), aL z ri 24 (itS it sq)]) [0, 1, 2, 3, 4, 5, 6, 8, 9] (by decide) rfl
              refine nv_cx1 (σ := (Nat → Nat) × (Nat → Option Nat)) (wc := [(o, .inr (10, [.ref hn, .ref pq, .ref gi, .ref gp, .int (nI ik), .ref h2, .ref tp, .ref rw9])), (hn, .inr (3, [.ref hp, .ref hh, .int (nI (rQ 6)), .int (nI (hpF rQ (rQ 6))), .int (nI (chF rQ (rQ 6))), .int (nI (rQ 0)), .int (nI (rQ 1)), .int (nI (rQ 2)), .int (nI (rQ 3)), .int (nI (rQ 4)), .int (nI (rQ 5))])), aP z hp 6 pf, aN z hh 6 (hbA rQ), (h2, .inr (3, [.ref hp2, .ref hh2, .int (nI (t15 6)), .int (nI (hpF t15 (t15 6))), .int (nI (chF t15 (t15 6))), .int (nI (t15 0)), .int (nI (t15 1)), .int (nI (t15 2)), .int (nI (t15 3)), .int (nI (t15 4)), .int (nI (t15 5))])), aP z hp2 6 tf16, aN z hh2 6 (hbA t15), (ro, .inr (7, [.ref ri, .int (nI (shQ sq)), .int (nI (ln sq)), .int (nI (mnQ sq))])), aL z ri 24 (itS it sq)]) (wr := [aR z rw9 4 rf]) (w1 := fun u9 => [(o, .inr (10, [.ref hn, .ref pq, .ref gi, .ref gp, .int (nI ik), .ref h2, .ref tp, .ref rw9])), (hn, .inr (3, [.ref hp, .ref hh, .int (nI (rQ 6)), .int (nI (hpF rQ (rQ 6))), .int (nI (chF rQ (rQ 6))), .int (nI (rQ 0)), .int (nI (rQ 1)), .int (nI (rQ 2)), .int (nI (rQ 3)), .int (nI (rQ 4)), .int (nI (rQ 5))])), aP z hp 6 pf, aN z hh 6 (hbA rQ), (h2, .inr (3, [.ref hp2, .ref hh2, .int (nI (u9.1 6)), .int (nI (hpF u9.1 (u9.1 6))), .int (nI (chF u9.1 (u9.1 6))), .int (nI (u9.1 0)), .int (nI (u9.1 1)), .int (nI (u9.1 2)), .int (nI (u9.1 3)), .int (nI (u9.1 4)), .int (nI (u9.1 5))])), aP z hp2 6 u9.2, aN z hh2 6 (hbA u9.1), (ro, .inr (7, [.ref ri, .int (nI (shQ sq)), .int (nI (ln sq)), .int (nI (mnQ sq))])), aL z ri 24 (itS it sq)]) (ws1 := fun u9 => [(o, .inr (10, [.ref hn, .ref pq, .ref gi, .ref gp, .int (nI ik), .ref h2, .ref tp, .ref rw9])), (hn, .inr (3, [.ref hp, .ref hh, .int (nI (rQ 6)), .int (nI (hpF rQ (rQ 6))), .int (nI (chF rQ (rQ 6))), .int (nI (rQ 0)), .int (nI (rQ 1)), .int (nI (rQ 2)), .int (nI (rQ 3)), .int (nI (rQ 4)), .int (nI (rQ 5))])), aP z hp 6 pf, aN z hh 6 (hbA rQ), (h2, .inr (3, [.ref hp2, .ref hh2, .int (nI (u9.1 6)), .int (nI (hpF u9.1 (u9.1 6))), .int (nI (chF u9.1 (u9.1 6))), .int (nI (u9.1 0)), .int (nI (u9.1 1)), .int (nI (u9.1 2)), .int (nI (u9.1 3)), .int (nI (u9.1 4)), .int (nI (u9.1 5))])), aP z hp2 6 u9.2, aN z hh2 6 (hbA u9.1), aR z rw9 4 rf, (ro, .inr (7, [.ref ri, .int (nI (shQ sq)), .int (nI (ln sq)), .int (nI (mnQ sq))])), aL z ri 24 (itS it sq)]) (va_runV (As := [.ref ro, .int (nI iq), .int (nI kq), .int (nI (rQ 1)), .int (nI (rQ 0)), .int (nI 0)]) (rest := [.int (stV (gvD rQ (itS it sq) iq kq) 0 be 0)]) ⟨hx, hb, hml, hown, hts⟩ (c_X10_starts l D z H.size w0Q o hn pq gi gp ik h2 tp rw9 hp hh pf rQ hp2 hh2 tf16 t15 ro ri shQ ln mnQ it sq iq kq (rQ 1) (rQ 0) 0 (by first | assumption | omega) (by first | assumption | omega) (by first | assumption | omega) (by first | assumption | omega) (by omega) (by omega) (Or.inr (Nat.le_refl _)) (by omega)) (cwV 6 hts (gV m_501 m_502 m_503 m_198 m_492) rfl rfl rfl ⟨rfl, hd_X10_starts⟩ ⟨Nat.le_of_ble_eq_true rfl, Nat.le_of_ble_eq_true rfl⟩) (nv_preMV (ci := 10) (q0 := 0) hK hPc hDc ((hN _ _ hS).to [0, 1, 2, 3, 4, 5, 6, 8, 9] rfl) rfl rfl) rfl rfl hl.1 rfl (lv_room (Nat.le_of_ble_eq_true rfl)) dX10_taken_124 ⟨by decide, by decide⟩) hP hD hS hA [0, 1, 2, 3, 4, 5, 6, 8, 9] [7] [1, 2, 3, 4, 5, 6, 7, 0, 8, 9] rfl rfl (by decide) (by decide) (fun _ => rfl) (by decide) (fun _ => rfl) (by decide) (fun u9 H locs hP hD hS hE124 hz124 hf124 => ?_)
              obtain ⟨t17, tf18⟩ := u9
              have hP : va_P D vwCl [(o, .inr (10, [.ref hn, .ref pq, .ref gi, .ref gp, .int (nI ik), .ref h2, .ref tp, .ref rw9])), (hn, .inr (3, [.ref hp, .ref hh, .int (nI (rQ 6)), .int (nI (hpF rQ (rQ 6))), .int (nI (chF rQ (rQ 6))), .int (nI (rQ 0)), .int (nI (rQ 1)), .int (nI (rQ 2)), .int (nI (rQ 3)), .int (nI (rQ 4)), .int (nI (rQ 5))])), aP z hp 6 pf, aN z hh 6 (hbA rQ), (h2, .inr (3, [.ref hp2, .ref hh2, .int (nI (t17 6)), .int (nI (hpF t17 (t17 6))), .int (nI (chF t17 (t17 6))), .int (nI (t17 0)), .int (nI (t17 1)), .int (nI (t17 2)), .int (nI (t17 3)), .int (nI (t17 4)), .int (nI (t17 5))])), aP z hp2 6 tf18, aN z hh2 6 (hbA t17), aR z rw9 4 rf, (ro, .inr (7, [.ref ri, .int (nI (shQ sq)), .int (nI (ln sq)), .int (nI (mnQ sq))])), aL z ri 24 (itS it sq)] H := hP
              have hD : va_D A [(o, .inr (10, [.ref hn, .ref pq, .ref gi, .ref gp, .int (nI ik), .ref h2, .ref tp, .ref rw9])), (hn, .inr (3, [.ref hp, .ref hh, .int (nI (rQ 6)), .int (nI (hpF rQ (rQ 6))), .int (nI (chF rQ (rQ 6))), .int (nI (rQ 0)), .int (nI (rQ 1)), .int (nI (rQ 2)), .int (nI (rQ 3)), .int (nI (rQ 4)), .int (nI (rQ 5))])), aP z hp 6 pf, aN z hh 6 (hbA rQ), (h2, .inr (3, [.ref hp2, .ref hh2, .int (nI (t17 6)), .int (nI (hpF t17 (t17 6))), .int (nI (chF t17 (t17 6))), .int (nI (t17 0)), .int (nI (t17 1)), .int (nI (t17 2)), .int (nI (t17 3)), .int (nI (t17 4)), .int (nI (t17 5))])), aP z hp2 6 tf18, aN z hh2 6 (hbA t17), aR z rw9 4 rf, (ro, .inr (7, [.ref ri, .int (nI (shQ sq)), .int (nI (ln sq)), .int (nI (mnQ sq))])), aL z ri 24 (itS it sq)] := hD
              clear hPc hDc
              clear hf124 hz124
              refine lv_iadd hx hb dX10_taken_127 ?_
              exact nv_xi hx hb hr hlocks hS dX10_taken_128 (t17, tf18) hP trivial (tk_0 o0 o1 hbe)
          · refine lv_iload hx hb dX10_taken_61 (lv_at hl 0 rfl) ?_
            obtain rfl := hrel.2.1 sq rfl (by omega) hc11 hc22 hc32 hc58
            exact nv_xi hx hb hr hlocks hS dX10_taken_63 (t0, tf0) hP trivial rfl
        · refine lv_iconst (v := (-1)) hx hb dX10_taken_35 (by decide +kernel) ?_
          obtain rfl := hrel.1 (by first | exact fun q => hc4 q.1 | exact fun q => hc11 q.2.1 | exact fun q => hc22 q.2.2.1 | exact fun q => hc32 q.2.2.2)
          exact nv_xi hx hb hr hlocks hS dX10_taken_36 (t0, tf0) hP trivial rfl
