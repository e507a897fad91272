set_option maxHeartbeats 4000000 in
set_option maxRecDepth 100000 in
theorem c_X11_ahead (l : Launch) (D : va_G) (z : Nat → ClassId) (sz : Nat) (w0Q : Nat) (o : Nat) (qj : Nat) (qt : Nat) (qf : Nat) (qp : Nat) (qk : Nat) (qq : Nat) (qa : Nat) (qs : Nat) (ql : Nat) (qm : Nat) (qi : Nat) (qe : Nat) (un : Nat) (ku : Nat) (ik : Nat) (tnQ : Nat) (th : Nat) (la : Nat) (wo : Nat) (cu : Nat) (fa : Nat) (fat : Nat) (rQ : Nat → Nat) (tf : Nat → Nat) (nv : Int32) (wh : Int32) (vQ : Int32) (hok : rOK w0Q rQ) (hw : w0Q ≤ 10000) (hrel : ahRel rQ nv wh vQ) : CX (σ := (Nat → Nat) × Nat × Nat) l yX11_ahead cX11_ahead 3 (some .int) 6 140 0 0 [.ref o, .int nv, .int wh] D z [(o, .inr (11, [.ref qj, .ref qt, .ref qf, .ref qp, .int (nI un), .ref qk, .ref qq, .int (nI ku), .int (nI ik), .ref qa, .int (nI tnQ), .int (nI th), .int (nI la), .int (nI wo), .int (nI cu), .int (nI fa), .int (nI fat), .ref qs, .ref ql, .ref qm, .ref qi, .ref qe])), aN z qj 31 rQ, aN z qt 31 tf] sz (fun _ => True) (fun u => [(o, .inr (11, [.ref qj, .ref qt, .ref qf, .ref qp, .int (nI un), .ref qk, .ref qq, .int (nI ku), .int (nI ik), .ref qa, .int (nI tnQ), .int (nI 0), .int (nI u.2.1), .int (nI u.2.2), .int (nI cu), .int (nI fa), .int (nI fat), .ref qs, .ref ql, .ref qm, .ref qi, .ref qe])), aN z qj 31 rQ, aN z qt 31 u.1]) (some (.int vQ)) (fun _ _ => True) := by
  refine Met.ofW (cc := cX11_ahead) (maxL := 3) (ret := (some .int)) (by decide) rfl ?_
  intro pg e s m args below meth c s₁ B hml hv
  obtain ⟨rfl, hsz, hP, hK, hD0, hE⟩ := hv
  have hx := B.exec
  have hb := B.bytes
  have hr := B.returns
  have hts : ∀ w ∈ ALL, w.before _ s = true := fun w h => atoms_spec (ws := wA yX11_ahead cX11_ahead 3 (some .int)) B.pre w (List.mem_cons_of_mem _ h)
  have hown : s.vm.findClass RX11 = some m.cls := findClass_of_methodNamed B.named
  have hlocks := B.notSynchronized
  subst hsz
  have hD := hD0.self (sz := s.heap.size)
  obtain ⟨o0, o1, o1b, o2, o2b, o3, o4, o5, o6, oP⟩ := id hok
  have hA : ∀ q : Nat, s.heap.size ≤ q → va_A [(o, .inr (11, [.ref qj, .ref qt, .ref qf, .ref qp, .int (nI un), .ref qk, .ref qq, .int (nI ku), .int (nI ik), .ref qa, .int (nI tnQ), .int (nI th), .int (nI la), .int (nI wo), .int (nI cu), .int (nI fa), .int (nI fat), .ref qs, .ref ql, .ref qm, .ref qi, .ref qe])), aN z qj 31 rQ, aN z qt 31 tf] s.heap.size q := fun q h => Or.inr h
  generalize va_A [(o, .inr (11, [.ref qj, .ref qt, .ref qf, .ref qp, .int (nI un), .ref qk, .ref qq, .int (nI ku), .int (nI ik), .ref qa, .int (nI tnQ), .int (nI th), .int (nI la), .int (nI wo), .int (nI cu), .int (nI fa), .int (nI fat), .ref qs, .ref ql, .ref qm, .ref qi, .ref qe])), aN z qj 31 rQ, aN z qt 31 tf] s.heap.size = A at *
  have hS : va_S A s.heap s.heap [] := va_S.rf
  have hl := lv_entry ([.ref o, .int nv, .int wh]) (n := 3) (Nat.le_of_ble_eq_true rfl)
  rw [lg_entry_eq]
  generalize (lg_sl ([.ref o, .int nv, .int wh]) ++ List.replicate (3 - (lg_sl ([.ref o, .int nv, .int wh])).length) Slot.unset).toArray = ls at hl ⊢
  have hl : lv_has ls 3 [(0, .ref o), (1, .int nv), (2, .int wh)] := hl
  refine lv_aload_n hx hb dX11_ahead_0 rfl (lv_at hl 0 rfl) ?_
  refine lv_iconst (v := nI 0) hx hb dX11_ahead_1 (by decide +kernel) ?_
  refine va_put (D := D) (ci := 11) (v := .int (nI 0)) (ty := tyX11 11) (C := RX11) (T := TX11) (N := 22) hx hb hts iX11 tyX11 tyX11_ok nmX11 hown hK.1 hP hD hS 0 rfl rfl 11 (by decide) (hts _ m_576) (fun _ h9 => h9) rfl (tyX11_ok 11 (by decide)) rfl rfl (Nat.le_of_ble_eq_true rfl) dX11_ahead_2 (fun H locs hP hD hS => ?_)
  have hP : va_P D vwCl [(o, .inr (11, [.ref qj, .ref qt, .ref qf, .ref qp, .int (nI un), .ref qk, .ref qq, .int (nI ku), .int (nI ik), .ref qa, .int (nI tnQ), .int (nI 0), .int (nI la), .int (nI wo), .int (nI cu), .int (nI fa), .int (nI fat), .ref qs, .ref ql, .ref qm, .ref qi, .ref qe])), aN z qj 31 rQ, aN z qt 31 tf] H := hP
  have hD : va_D A [(o, .inr (11, [.ref qj, .ref qt, .ref qf, .ref qp, .int (nI un), .ref qk, .ref qq, .int (nI ku), .int (nI ik), .ref qa, .int (nI tnQ), .int (nI 0), .int (nI la), .int (nI wo), .int (nI cu), .int (nI fa), .int (nI fat), .ref qs, .ref ql, .ref qm, .ref qi, .ref qe])), aN z qj 31 rQ, aN z qt 31 tf] := hD
  refine lv_iload_n hx hb dX11_ahead_5 rfl (lv_at hl 1 rfl) ?_
  refine lv_i2l hx hb dX11_ahead_6 rfl ?_
  refine lv_lconst (v := 0) hx hb dX11_ahead_7 (by decide +kernel) ?_
  refine lv_ldc2 (own := RX11) hx hb hown (hts _ m_579) dX11_ahead_8 ?_
  have hPc := hP.sub (ws' := []) [] rfl
  refine nv_cp1 (va_runS (As := [.long nv.toInt64, .long 0, .long (99)]) (rest := []) ⟨hx, hb, hml, hown, hts⟩ (c_X11_in l D z nv.toInt64 0 (99) ) (va_cwS 3 hts (gS m_539 m_540 m_541 m_536) rfl rfl rfl hd_X11_in ⟨Nat.le_of_ble_eq_true rfl, Nat.le_of_ble_eq_true rfl⟩) (nv_preP hK hPc trivial _) rfl rfl hl.1 rfl (lv_room (Nat.le_of_ble_eq_true rfl)) dX11_ahead_11 ⟨by decide, by decide⟩) ?_
  refine nv_inwl (a := 0) (b := 99) (by decide) (by decide) ?_
  refine nv_beq (tgt := 29) hx hb dX11_ahead_14 (by decide) (fun hc14 => ?_) (fun hc14 => ?_)
  · refine lv_iconst (v := (-1)) hx hb dX11_ahead_29 (by decide +kernel) ?_
    obtain rfl := hrel.1 (by first | exact fun q => hc14 q.1 | exact fun q => hc26 q.2)
    exact nv_xi hx hb hr hlocks hS dX11_ahead_30 (tf, la, wo) hP trivial rfl
  · refine lv_iload_n hx hb dX11_ahead_17 rfl (lv_at hl 2 rfl) ?_
    refine lv_i2l hx hb dX11_ahead_18 rfl ?_
    refine lv_lconst (v := 0) hx hb dX11_ahead_19 (by decide +kernel) ?_
    refine lv_ldc2 (own := RX11) hx hb hown (hts _ m_649) dX11_ahead_20 ?_
    have hPc := hP.sub (ws' := []) [] rfl
    refine nv_cp1 (va_runS (As := [.long wh.toInt64, .long 0, .long (2)]) (rest := []) ⟨hx, hb, hml, hown, hts⟩ (c_X11_in l D z wh.toInt64 0 (2) ) (va_cwS 3 hts (gS m_539 m_540 m_541 m_536) rfl rfl rfl hd_X11_in ⟨Nat.le_of_ble_eq_true rfl, Nat.le_of_ble_eq_true rfl⟩) (nv_preP hK hPc trivial _) rfl rfl hl.1 rfl (lv_room (Nat.le_of_ble_eq_true rfl)) dX11_ahead_23 ⟨by decide, by decide⟩) ?_
    refine nv_inwl (a := 0) (b := 2) (by decide) (by decide) ?_
    refine nv_bne (tgt := 31) hx hb dX11_ahead_26 (by decide) (fun hc26 => ?_) (fun hc26 => ?_)
    · obtain ⟨kQ, rfl, k0, k1⟩ := wi_nat (b := 99) (by decide) hc14
      obtain ⟨k2Q, rfl, l0, l1⟩ := wi_nat (b := 2) (by decide) hc26
      obtain rfl := hrel.2 kQ k2Q rfl rfl (by omega) (by omega)
      refine lv_aload_n hx hb dX11_ahead_31 rfl (lv_at hl 0 rfl) ?_
      refine va_get (D := D) (ci := 11) (v := .ref qj) (C := RX11) (T := TX11) (N := 22) hx hb hts iX11 hown hK.1 hP 0 rfl rfl 0 (by decide) (hts _ m_523) (fun _ h9 => h9) rfl dX11_ahead_32 ?_
      refine lv_aload_n hx hb dX11_ahead_35 rfl (lv_at hl 0 rfl) ?_
      refine va_get (D := D) (ci := 11) (v := .ref qt) (C := RX11) (T := TX11) (N := 22) hx hb hts iX11 hown hK.1 hP 0 rfl rfl 1 (by decide) (hts _ m_524) (fun _ h9 => h9) rfl dX11_ahead_36 ?_
      have hPc := hP.sub (ws' := [aN z qj 31 rQ, aN z qt 31 tf]) [1, 2] rfl
      have hDc := hD.sub (ws' := [aN z qj 31 rQ, aN z qt 31 tf]) [1, 2] (by decide) rfl
      refine nv_cm0 (wc := [aN z qj 31 rQ, aN z qt 31 tf]) (wr := [(o, .inr (11, [.ref qj, .ref qt, .ref qf, .ref qp, .int (nI un), .ref qk, .ref qq, .int (nI ku), .int (nI ik), .ref qa, .int (nI tnQ), .int (nI 0), .int (nI la), .int (nI wo), .int (nI cu), .int (nI fa), .int (nI fat), .ref qs, .ref ql, .ref qm, .ref qi, .ref qe]))]) (w1 := [aN z qj 31 rQ, aN z qt 31 rQ]) (ws1 := [(o, .inr (11, [.ref qj, .ref qt, .ref qf, .ref qp, .int (nI un), .ref qk, .ref qq, .int (nI ku), .int (nI ik), .ref qa, .int (nI tnQ), .int (nI 0), .int (nI la), .int (nI wo), .int (nI cu), .int (nI fa), .int (nI fat), .ref qs, .ref ql, .ref qm, .ref qi, .ref qe])), aN z qj 31 rQ, aN z qt 31 rQ]) (va_runS (As := [.ref qj, .ref qt]) (rest := []) ⟨hx, hb, hml, hown, hts⟩ (c_X11_lay l D z H.size qj qt rQ tf ) (va_cwS 2 hts (gS m_631 m_632 m_541 m_537) rfl rfl rfl hd_X11_lay ⟨Nat.le_of_ble_eq_true rfl, Nat.le_of_ble_eq_true rfl⟩) (nv_preM hK hPc hDc trivial _) rfl rfl hl.1 rfl (lv_room (Nat.le_of_ble_eq_true rfl)) dX11_ahead_39 ⟨by decide, by decide⟩) hP hD hS hA [1, 2] [0] [0, 1, 2] rfl rfl (by decide) (by decide) rfl (by decide) rfl (by decide) (fun H locs hP hD hS hE39 hz39 hf39 => ?_)
      clear hPc hDc
      clear hf39 hz39
      refine lv_aload_n hx hb dX11_ahead_42 rfl (lv_at hl 0 rfl) ?_
      refine lv_iload_n hx hb dX11_ahead_43 rfl (lv_at hl 1 rfl) ?_
      have hPc := hP.sub (ws' := [(o, .inr (11, [.ref qj, .ref qt, .ref qf, .ref qp, .int (nI un), .ref qk, .ref qq, .int (nI ku), .int (nI ik), .ref qa, .int (nI tnQ), .int (nI 0), .int (nI la), .int (nI wo), .int (nI cu), .int (nI fa), .int (nI fat), .ref qs, .ref ql, .ref qm, .ref qi, .ref qe])), aN z qt 31 rQ]) [0, 2] rfl
      have hDc := hD.sub (ws' := [(o, .inr (11, [.ref qj, .ref qt, .ref qf, .ref qp, .int (nI un), .ref qk, .ref qq, .int (nI ku), .int (nI ik), .ref qa, .int (nI tnQ), .int (nI 0), .int (nI la), .int (nI wo), .int (nI cu), .int (nI fa), .int (nI fat), .ref qs, .ref ql, .ref qm, .ref qi, .ref qe])), aN z qt 31 rQ]) [0, 2] (by decide) rfl
      refine nv_cm0 (wc := [(o, .inr (11, [.ref qj, .ref qt, .ref qf, .ref qp, .int (nI un), .ref qk, .ref qq, .int (nI ku), .int (nI ik), .ref qa, .int (nI tnQ), .int (nI 0), .int (nI la), .int (nI wo), .int (nI cu), .int (nI fa), .int (nI fat), .ref qs, .ref ql, .ref qm, .ref qi, .ref qe])), aN z qt 31 rQ]) (wr := [aN z qj 31 rQ]) (w1 := [(o, .inr (11, [.ref qj, .ref qt, .ref qf, .ref qp, .int (nI un), .ref qk, .ref qq, .int (nI ku), .int (nI ik), .ref qa, .int (nI tnQ), .int (nI 0), .int (nI (laN rQ kQ)), .int (nI (suN rQ kQ)), .int (nI cu), .int (nI fa), .int (nI fat), .ref qs, .ref ql, .ref qm, .ref qi, .ref qe])), aN z qt 31 (wkN rQ kQ)]) (ws1 := [(o, .inr (11, [.ref qj, .ref qt, .ref qf, .ref qp, .int (nI un), .ref qk, .ref qq, .int (nI ku), .int (nI ik), .ref qa, .int (nI tnQ), .int (nI 0), .int (nI (laN rQ kQ)), .int (nI (suN rQ kQ)), .int (nI cu), .int (nI fa), .int (nI fat), .ref qs, .ref ql, .ref qm, .ref qi, .ref qe])), aN z qj 31 rQ, aN z qt 31 (wkN rQ kQ)]) (va_runV (As := [.int (nI kQ)]) (rest := []) ⟨hx, hb, hml, hown, hts⟩ (c_X11_weeksOf l D z H.size w0Q o qj qt qf qp qk qq qa qs ql qm qi qe un ku ik tnQ 0 la wo cu fa fat rQ kQ (by first | assumption | omega) (by first | assumption | omega) (by first | assumption | omega)) (cwV 1 hts (gV m_650 m_651 m_652 m_541 m_574) rfl rfl rfl ⟨rfl, hd_X11_weeksOf⟩ ⟨Nat.le_of_ble_eq_true rfl, Nat.le_of_ble_eq_true rfl⟩) (nv_preMV (ci := 11) (q0 := 0) hK hPc hDc trivial rfl rfl) rfl rfl hl.1 rfl (lv_room (Nat.le_of_ble_eq_true rfl)) dX11_ahead_44 ⟨by decide, by decide⟩) hP hD hS hA [0, 2] [1] [1, 0, 2] rfl rfl (by decide) (by decide) rfl (by decide) rfl (by decide) (fun H locs hP hD hS hE44 hz44 hf44 => ?_)
      clear hPc hDc
      clear hf44 hz44
      refine lv_iload_n hx hb dX11_ahead_47 rfl (lv_at hl 2 rfl) ?_
      refine nv_ifne (tgt := 60) hx hb (by omega) dX11_ahead_48 (by decide) (fun hc48 => ?_) (fun hc48 => ?_)
      · refine lv_iload_n hx hb dX11_ahead_60 rfl (lv_at hl 2 rfl) ?_
        refine lv_iconst (v := nI 1) hx hb dX11_ahead_61 (by decide +kernel) ?_
        refine nv_ne (tgt := 72) hx hb (by omega) (by omega) dX11_ahead_62 (by decide) (fun hc62 => ?_) (fun hc62 => ?_)
        · refine lv_aload_n hx hb dX11_ahead_72 rfl (lv_at hl 0 rfl) ?_
          refine va_get (D := D) (ci := 11) (v := .int (nI (suN rQ kQ))) (C := RX11) (T := TX11) (N := 22) hx hb hts iX11 hown hK.1 hP 0 rfl rfl 13 (by decide) (hts _ m_571) (fun _ h9 => h9) rfl dX11_ahead_73 ?_
          exact nv_xi hx hb hr hlocks hS dX11_ahead_76 (wkN rQ kQ, laN rQ kQ, suN rQ kQ) hP trivial (by unfold ahF; first | rw [if_pos (by omega)] | rw [if_neg (by omega), if_pos (by omega)] | rw [if_neg (by omega), if_neg (by omega)])
        · refine lv_aload_n hx hb dX11_ahead_65 rfl (lv_at hl 0 rfl) ?_
          refine va_get (D := D) (ci := 11) (v := .int (nI (laN rQ kQ))) (C := RX11) (T := TX11) (N := 22) hx hb hts iX11 hown hK.1 hP 0 rfl rfl 12 (by decide) (hts _ m_570) (fun _ h9 => h9) rfl dX11_ahead_66 ?_
          refine lv_goto (tgt := 76) hx hb dX11_ahead_69 (by decide) ?_
          exact nv_xi hx hb hr hlocks hS dX11_ahead_76 (wkN rQ kQ, laN rQ kQ, suN rQ kQ) hP trivial (by unfold ahF; first | rw [if_pos (by omega)] | rw [if_neg (by omega), if_pos (by omega)] | rw [if_neg (by omega), if_neg (by omega)])
      · refine lv_aload_n hx hb dX11_ahead_51 rfl (lv_at hl 0 rfl) ?_
        refine va_get (D := D) (ci := 11) (v := .ref qt) (C := RX11) (T := TX11) (N := 22) hx hb hts iX11 hown hK.1 hP 0 rfl rfl 1 (by decide) (hts _ m_524) (fun _ h9 => h9) rfl dX11_ahead_52 ?_
        refine lv_iconst (v := nI 0) hx hb dX11_ahead_55 (by decide +kernel) ?_
        refine nv_ald hx hb hK hP 2 rfl (by omega) (by decide) dX11_ahead_56 ?_
        refine lv_goto (tgt := 76) hx hb dX11_ahead_57 (by decide) ?_
        exact nv_xi hx hb hr hlocks hS dX11_ahead_76 (wkN rQ kQ, laN rQ kQ, suN rQ kQ) hP trivial (by unfold ahF; first | rw [if_pos (by omega)] | rw [if_neg (by omega), if_pos (by omega)] | rw [if_neg (by omega), if_neg (by omega)])
    · refine lv_iconst (v := (-1)) hx hb dX11_ahead_29 (by decide +kernel) ?_
      obtain rfl := hrel.1 (by first | exact fun q => hc14 q.1 | exact fun q => hc26 q.2)
      exact nv_xi hx hb hr hlocks hS dX11_ahead_30 (tf, la, wo) hP trivial rfl

set_option maxHeartbeats 4000000 in
set_option maxRecDepth 100000 in
theorem c_X11_due (l : Launch) (D : va_G) (z : Nat → ClassId) (sz : Nat) (w0Q : Nat) (o : Nat) (qj : Nat) (qt : Nat) (qf : Nat) (qp : Nat) (qk : Nat) (qq : Nat) (qa : Nat) (qs : Nat) (ql : Nat) (qm : Nat) (qi : Nat) (qe : Nat) (un : Nat) (ku : Nat) (ik : Nat) (tnQ : Nat) (th : Nat) (la : Nat) (wo : Nat) (cu : Nat) (fa : Nat) (fat : Nat) (rQ : Nat → Nat) (tf : Nat → Nat) (vQ : Int32) (hok : rOK w0Q rQ) (hw : w0Q ≤ 10000) (hrel : duRel rQ vQ) : CX (σ := (Nat → Nat) × Nat × Nat) l yX11_due cX11_due 2 (some .int) 5 118 0 0 [.ref o] D z [(o, .inr (11, [.ref qj, .ref qt, .ref qf, .ref qp, .int (nI un), .ref qk, .ref qq, .int (nI ku), .int (nI ik), .ref qa, .int (nI tnQ), .int (nI th), .int (nI la), .int (nI wo), .int (nI cu), .int (nI fa), .int (nI fat), .ref qs, .ref ql, .ref qm, .ref qi, .ref qe])), aN z qj 31 rQ, aN z qt 31 tf] sz (fun _ => True) (fun u => [(o, .inr (11, [.ref qj, .ref qt, .ref qf, .ref qp, .int (nI un), .ref qk, .ref qq, .int (nI ku), .int (nI ik), .ref qa, .int (nI tnQ), .int (nI 0), .int (nI u.2.1), .int (nI u.2.2), .int (nI cu), .int (nI fa), .int (nI fat), .ref qs, .ref ql, .ref qm, .ref qi, .ref qe])), aN z qj 31 rQ, aN z qt 31 u.1]) (some (.int vQ)) (fun _ _ => True) := by
  refine Met.ofW (cc := cX11_due) (maxL := 2) (ret := (some .int)) (by decide) rfl ?_
  intro pg e s m args below meth c s₁ B hml hv
  obtain ⟨rfl, hsz, hP, hK, hD0, hE⟩ := hv
  have hx := B.exec
  have hb := B.bytes
  have hr := B.returns
  have hts : ∀ w ∈ ALL, w.before _ s = true := fun w h => atoms_spec (ws := wA yX11_due cX11_due 2 (some .int)) B.pre w (List.mem_cons_of_mem _ h)
  have hown : s.vm.findClass RX11 = some m.cls := findClass_of_methodNamed B.named
  have hlocks := B.notSynchronized
  subst hsz
  have hD := hD0.self (sz := s.heap.size)
  obtain ⟨o0, o1, o1b, o2, o2b, o3, o4, o5, o6, oP⟩ := id hok
  have hA : ∀ q : Nat, s.heap.size ≤ q → va_A [(o, .inr (11, [.ref qj, .ref qt, .ref qf, .ref qp, .int (nI un), .ref qk, .ref qq, .int (nI ku), .int (nI ik), .ref qa, .int (nI tnQ), .int (nI th), .int (nI la), .int (nI wo), .int (nI cu), .int (nI fa), .int (nI fat), .ref qs, .ref ql, .ref qm, .ref qi, .ref qe])), aN z qj 31 rQ, aN z qt 31 tf] s.heap.size q := fun q h => Or.inr h
  generalize va_A [(o, .inr (11, [.ref qj, .ref qt, .ref qf, .ref qp, .int (nI un), .ref qk, .ref qq, .int (nI ku), .int (nI ik), .ref qa, .int (nI tnQ), .int (nI th), .int (nI la), .int (nI wo), .int (nI cu), .int (nI fa), .int (nI fat), .ref qs, .ref ql, .ref qm, .ref qi, .ref qe])), aN z qj 31 rQ, aN z qt 31 tf] s.heap.size = A at *
  have hS : va_S A s.heap s.heap [] := va_S.rf
  have hl := lv_entry ([.ref o]) (n := 2) (Nat.le_of_ble_eq_true rfl)
  rw [lg_entry_eq]
  generalize (lg_sl ([.ref o]) ++ List.replicate (2 - (lg_sl ([.ref o])).length) Slot.unset).toArray = ls at hl ⊢
  have hl : lv_has ls 2 [(0, .ref o)] := hl
  refine lv_aload_n hx hb dX11_due_0 rfl (lv_at hl 0 rfl) ?_
  refine lv_iconst (v := nI 0) hx hb dX11_due_1 (by decide +kernel) ?_
  refine va_put (D := D) (ci := 11) (v := .int (nI 0)) (ty := tyX11 11) (C := RX11) (T := TX11) (N := 22) hx hb hts iX11 tyX11 tyX11_ok nmX11 hown hK.1 hP hD hS 0 rfl rfl 11 (by decide) (hts _ m_576) (fun _ h9 => h9) rfl (tyX11_ok 11 (by decide)) rfl rfl (Nat.le_of_ble_eq_true rfl) dX11_due_2 (fun H locs hP hD hS => ?_)
  have hP : va_P D vwCl [(o, .inr (11, [.ref qj, .ref qt, .ref qf, .ref qp, .int (nI un), .ref qk, .ref qq, .int (nI ku), .int (nI ik), .ref qa, .int (nI tnQ), .int (nI 0), .int (nI la), .int (nI wo), .int (nI cu), .int (nI fa), .int (nI fat), .ref qs, .ref ql, .ref qm, .ref qi, .ref qe])), aN z qj 31 rQ, aN z qt 31 tf] H := hP
  have hD : va_D A [(o, .inr (11, [.ref qj, .ref qt, .ref qf, .ref qp, .int (nI un), .ref qk, .ref qq, .int (nI ku), .int (nI ik), .ref qa, .int (nI tnQ), .int (nI 0), .int (nI la), .int (nI wo), .int (nI cu), .int (nI fa), .int (nI fat), .ref qs, .ref ql, .ref qm, .ref qi, .ref qe])), aN z qj 31 rQ, aN z qt 31 tf] := hD
  refine lv_aload_n hx hb dX11_due_5 rfl (lv_at hl 0 rfl) ?_
  refine va_get (D := D) (ci := 11) (v := .ref qj) (C := RX11) (T := TX11) (N := 22) hx hb hts iX11 hown hK.1 hP 0 rfl rfl 0 (by decide) (hts _ m_523) (fun _ h9 => h9) rfl dX11_due_6 ?_
  refine lv_aload_n hx hb dX11_due_9 rfl (lv_at hl 0 rfl) ?_
  refine va_get (D := D) (ci := 11) (v := .ref qt) (C := RX11) (T := TX11) (N := 22) hx hb hts iX11 hown hK.1 hP 0 rfl rfl 1 (by decide) (hts _ m_524) (fun _ h9 => h9) rfl dX11_due_10 ?_
  have hPc := hP.sub (ws' := [aN z qj 31 rQ, aN z qt 31 tf]) [1, 2] rfl
  have hDc := hD.sub (ws' := [aN z qj 31 rQ, aN z qt 31 tf]) [1, 2] (by decide) rfl
  refine nv_cm0 (wc := [aN z qj 31 rQ, aN z qt 31 tf]) (wr := [(o, .inr (11, [.ref qj, .ref qt, .ref qf, .ref qp, .int (nI un), .ref qk, .ref qq, .int (nI ku), .int (nI ik), .ref qa, .int (nI tnQ), .int (nI 0), .int (nI la), .int (nI wo), .int (nI cu), .int (nI fa), .int (nI fat), .ref qs, .ref ql, .ref qm, .ref qi, .ref qe]))]) (w1 := [aN z qj 31 rQ, aN z qt 31 rQ]) (ws1 := [(o, .inr (11, [.ref qj, .ref qt, .ref qf, .ref qp, .int (nI un), .ref qk, .ref qq, .int (nI ku), .int (nI ik), .ref qa, .int (nI tnQ), .int (nI 0), .int (nI la), .int (nI wo), .int (nI cu), .int (nI fa), .int (nI fat), .ref qs, .ref ql, .ref qm, .ref qi, .ref qe])), aN z qj 31 rQ, aN z qt 31 rQ]) (va_runS (As := [.ref qj, .ref qt]) (rest := []) ⟨hx, hb, hml, hown, hts⟩ (c_X11_lay l D z H.size qj qt rQ tf ) (va_cwS 2 hts (gS m_631 m_632 m_541 m_537) rfl rfl rfl hd_X11_lay ⟨Nat.le_of_ble_eq_true rfl, Nat.le_of_ble_eq_true rfl⟩) (nv_preM hK hPc hDc trivial _) rfl rfl hl.1 rfl (lv_room (Nat.le_of_ble_eq_true rfl)) dX11_due_13 ⟨by decide, by decide⟩) hP hD hS hA [1, 2] [0] [0, 1, 2] rfl rfl (by decide) (by decide) rfl (by decide) rfl (by decide) (fun H locs hP hD hS hE13 hz13 hf13 => ?_)
  clear hPc hDc
  clear hf13 hz13
  refine lv_iconst (v := nI 0) hx hb dX11_due_16 (by decide +kernel) ?_
  refine lv_istore_n (lv' := [(1, .int (nI 0)), (0, .ref o)]) hx hb dX11_due_17 rfl hl (by decide) rfl (fun ls hl => ?_)
  refine nv_loop (σ := Nat × Nat) (fun x H locs ls => ∃ (jQ : Nat) (lx : Nat), (jQ, lx) = x ∧ ((jQ ≤ 100) ∧ (∀ i, i < jQ → wkN rQ i 0 < wkN rQ i 1)) ∧ va_P D vwCl [(o, .inr (11, [.ref qj, .ref qt, .ref qf, .ref qp, .int (nI un), .ref qk, .ref qq, .int (nI ku), .int (nI ik), .ref qa, .int (nI tnQ), .int (nI 0), .int (nI lx), .int (nI wo), .int (nI cu), .int (nI fa), .int (nI fat), .ref qs, .ref ql, .ref qm, .ref qi, .ref qe])), aN z qj 31 rQ, aN z qt 31 (wkN rQ jQ)] H ∧ va_D A [(o, .inr (11, [.ref qj, .ref qt, .ref qf, .ref qp, .int (nI un), .ref qk, .ref qq, .int (nI ku), .int (nI ik), .ref qa, .int (nI tnQ), .int (nI 0), .int (nI lx), .int (nI wo), .int (nI cu), .int (nI fa), .int (nI fat), .ref qs, .ref ql, .ref qm, .ref qi, .ref qe])), aN z qj 31 rQ, aN z qt 31 (wkN rQ jQ)] ∧ va_S A s.heap H locs ∧ lv_has ls 2 [(0, .ref o), (1, .int (nI jQ))]) (fun x => 100 - x.1) 18 [] ?_ (0, la) ?_
  · rintro _ H locs ls ⟨jQ, lx, rfl, ⟨hj, hlo⟩, hP, hD, hS, hl⟩ ih18
    refine lv_iload_n hx hb dX11_due_18 rfl (lv_at hl 1 rfl) ?_
    refine lv_bipush (v := nI 100) hx hb dX11_due_19 (by decide +kernel) ?_
    refine nv_ge (tgt := 59) hx hb (by omega) (by omega) dX11_due_21 (by decide) (fun hc21 => ?_) (fun hc21 => ?_)
    · refine lv_bipush (v := (-4)) hx hb dX11_due_59 (by decide +kernel) ?_
      obtain rfl := hrel.2 (fun i hiQ => hlo i (by omega))
      exact nv_xi hx hb hr hlocks hS dX11_due_61 (wkN rQ jQ, lx, wo) hP trivial rfl
    · have hokj := wkN_ok jQ hok
      have q0 := hokj.1
      have q1 := hokj.2.2.1
      have q3 := hokj.2.2.2.2.2.1
      refine lv_aload_n hx hb dX11_due_24 rfl (lv_at hl 0 rfl) ?_
      refine va_get (D := D) (ci := 11) (v := .ref qt) (C := RX11) (T := TX11) (N := 22) hx hb hts iX11 hown hK.1 hP 0 rfl rfl 1 (by decide) (hts _ m_524) (fun _ h9 => h9) rfl dX11_due_25 ?_
      refine lv_iconst (v := nI 0) hx hb dX11_due_28 (by decide +kernel) ?_
      refine nv_ald hx hb hK hP 2 rfl (by omega) (by decide) dX11_due_29 ?_
      refine lv_aload_n hx hb dX11_due_30 rfl (lv_at hl 0 rfl) ?_
      refine va_get (D := D) (ci := 11) (v := .ref qt) (C := RX11) (T := TX11) (N := 22) hx hb hts iX11 hown hK.1 hP 0 rfl rfl 1 (by decide) (hts _ m_524) (fun _ h9 => h9) rfl dX11_due_31 ?_
      refine lv_iconst (v := nI 1) hx hb dX11_due_34 (by decide +kernel) ?_
      refine nv_ald hx hb hK hP 2 rfl (by omega) (by decide) dX11_due_35 ?_
      refine nv_lt (tgt := 41) hx hb (by omega) (by omega) dX11_due_36 (by decide) (fun hc36 => ?_) (fun hc36 => ?_)
      · refine lv_aload_n hx hb dX11_due_41 rfl (lv_at hl 0 rfl) ?_
        refine lv_aload_n hx hb dX11_due_42 rfl (lv_at hl 0 rfl) ?_
        refine va_get (D := D) (ci := 11) (v := .ref qt) (C := RX11) (T := TX11) (N := 22) hx hb hts iX11 hown hK.1 hP 0 rfl rfl 1 (by decide) (hts _ m_524) (fun _ h9 => h9) rfl dX11_due_43 ?_
        refine lv_iconst (v := nI 0) hx hb dX11_due_46 (by decide +kernel) ?_
        have hPc := hP.sub (ws' := [aN z qt 31 (wkN rQ jQ)]) [2] rfl
        have hDc := hD.sub (ws' := [aN z qt 31 (wkN rQ jQ)]) [2] (by decide) rfl
        refine nv_cm1 (wc := [aN z qt 31 (wkN rQ jQ)]) (wr := [(o, .inr (11, [.ref qj, .ref qt, .ref qf, .ref qp, .int (nI un), .ref qk, .ref qq, .int (nI ku), .int (nI ik), .ref qa, .int (nI tnQ), .int (nI 0), .int (nI lx), .int (nI wo), .int (nI cu), .int (nI fa), .int (nI fat), .ref qs, .ref ql, .ref qm, .ref qi, .ref qe])), aN z qj 31 rQ]) (w1 := [aN z qt 31 (weekR (wkN rQ jQ) (wkN rQ jQ 3))]) (ws1 := [(o, .inr (11, [.ref qj, .ref qt, .ref qf, .ref qp, .int (nI un), .ref qk, .ref qq, .int (nI ku), .int (nI ik), .ref qa, .int (nI tnQ), .int (nI 0), .int (nI lx), .int (nI wo), .int (nI cu), .int (nI fa), .int (nI fat), .ref qs, .ref ql, .ref qm, .ref qi, .ref qe])), aN z qj 31 rQ, aN z qt 31 (weekR (wkN rQ jQ) (wkN rQ jQ 3))]) (va_runS (As := [.ref qt, .int (nI 0)]) (rest := [.ref o]) ⟨hx, hb, hml, hown, hts⟩ (c_X11_week l D z H.size (w0Q + jQ) qt (wkN rQ jQ) (nI 0) (wkN rQ jQ 3) hokj (nI_add _ 0) (by omega) (by first | assumption | omega)) (va_cwS 2 hts (gS m_572 m_573 m_541 m_569) rfl rfl rfl hd_X11_week ⟨Nat.le_of_ble_eq_true rfl, Nat.le_of_ble_eq_true rfl⟩) (nv_preM hK hPc hDc trivial _) rfl rfl hl.1 rfl (lv_room (Nat.le_of_ble_eq_true rfl)) dX11_due_47 ⟨by decide, by decide⟩) hP hD hS hA [2] [0, 1] [0, 1, 2] rfl rfl (by decide) (by decide) rfl (by decide) rfl (by decide) (fun H locs hP hD hS hE47 hz47 hf47 => ?_)
        clear hPc hDc
        clear hf47 hz47
        refine va_put (D := D) (ci := 11) (v := .int (nI (weekW (wkN rQ jQ) (wkN rQ jQ 3)))) (ty := tyX11 12) (C := RX11) (T := TX11) (N := 22) hx hb hts iX11 tyX11 tyX11_ok nmX11 hown hK.1 hP hD hS 0 rfl rfl 12 (by decide) (hts _ m_570) (fun _ h9 => h9) rfl (tyX11_ok 12 (by decide)) rfl rfl (Nat.le_of_ble_eq_true rfl) dX11_due_50 (fun H locs hP hD hS => ?_)
        have hP : va_P D vwCl [(o, .inr (11, [.ref qj, .ref qt, .ref qf, .ref qp, .int (nI un), .ref qk, .ref qq, .int (nI ku), .int (nI ik), .ref qa, .int (nI tnQ), .int (nI 0), .int (nI (weekW (wkN rQ jQ) (wkN rQ jQ 3))), .int (nI wo), .int (nI cu), .int (nI fa), .int (nI fat), .ref qs, .ref ql, .ref qm, .ref qi, .ref qe])), aN z qj 31 rQ, aN z qt 31 (weekR (wkN rQ jQ) (wkN rQ jQ 3))] H := hP
        have hD : va_D A [(o, .inr (11, [.ref qj, .ref qt, .ref qf, .ref qp, .int (nI un), .ref qk, .ref qq, .int (nI ku), .int (nI ik), .ref qa, .int (nI tnQ), .int (nI 0), .int (nI (weekW (wkN rQ jQ) (wkN rQ jQ 3))), .int (nI wo), .int (nI cu), .int (nI fa), .int (nI fat), .ref qs, .ref ql, .ref qm, .ref qi, .ref qe])), aN z qj 31 rQ, aN z qt 31 (weekR (wkN rQ jQ) (wkN rQ jQ 3))] := hD
        refine lv_iinc (v := nI (jQ + 1)) (lv' := [(1, .int (nI (jQ + 1))), (0, .ref o)]) hx hb dX11_due_53 hl (k := 1) rfl (nI_inc _) (by decide) rfl (fun ls hl => ?_)
        refine lv_goto (tgt := 18) hx hb dX11_due_56 (by decide) ?_
        exact ih18 (jQ + 1, weekW (wkN rQ jQ) (wkN rQ jQ 3)) _ _ _ (by show 100 - (jQ + 1) < 100 - jQ; omega) ⟨jQ + 1, weekW (wkN rQ jQ) (wkN rQ jQ 3), rfl, ⟨(by omega), (fun i hiQ => (Nat.lt_succ_iff_lt_or_eq.mp hiQ).elim (hlo i) (fun e9 => by rw [e9]; exact hc36))⟩, hP, hD, hS, lv_sub hl [1, 0] rfl⟩
      · refine lv_iload_n hx hb dX11_due_39 rfl (lv_at hl 1 rfl) ?_
        obtain rfl := hrel.1 jQ (by omega) (by omega) hlo
        exact nv_xi hx hb hr hlocks hS dX11_due_40 (wkN rQ jQ, lx, wo) hP trivial rfl
  · exact ⟨0, la, rfl, ⟨(by omega), (fun i hiQ => absurd hiQ (Nat.not_lt_zero _))⟩, hP, hD, hS, lv_sub hl [1, 0] rfl⟩

set_option maxHeartbeats 4000000 in
set_option maxRecDepth 100000 in
theorem c_X11_dearest (l : Launch) (D : va_G) (z : Nat → ClassId) (sz : Nat) (w0Q : Nat) (o : Nat) (qj : Nat) (qt : Nat) (qf : Nat) (qp : Nat) (qk : Nat) (qq : Nat) (qa : Nat) (qs : Nat) (ql : Nat) (qm : Nat) (qi : Nat) (qe : Nat) (un : Nat) (ku : Nat) (ik : Nat) (tnQ : Nat) (th : Nat) (la : Nat) (wo : Nat) (cu : Nat) (fa : Nat) (fat : Nat) (rQ : Nat → Nat) (tf : Nat → Nat) (nv : Int32) (wh : Int32) (vQ : Int32) (hok : rOK w0Q rQ) (hw : w0Q ≤ 10000) (hrel : deRel rQ nv wh vQ) : CX (σ := (Nat → Nat) × Nat × Nat) l yX11_dearest cX11_dearest 6 (some .int) 6 140 0 0 [.ref o, .int nv, .int wh] D z [(o, .inr (11, [.ref qj, .ref qt, .ref qf, .ref qp, .int (nI un), .ref qk, .ref qq, .int (nI ku), .int (nI ik), .ref qa, .int (nI tnQ), .int (nI th), .int (nI la), .int (nI wo), .int (nI cu), .int (nI fa), .int (nI fat), .ref qs, .ref ql, .ref qm, .ref qi, .ref qe])), aN z qj 31 rQ, aN z qt 31 tf] sz (fun _ => True) (fun u => [(o, .inr (11, [.ref qj, .ref qt, .ref qf, .ref qp, .int (nI un), .ref qk, .ref qq, .int (nI ku), .int (nI ik), .ref qa, .int (nI tnQ), .int (nI 0), .int (nI u.2.1), .int (nI u.2.2), .int (nI cu), .int (nI fa), .int (nI fat), .ref qs, .ref ql, .ref qm, .ref qi, .ref qe])), aN z qj 31 rQ, aN z qt 31 u.1]) (some (.int vQ)) (fun _ _ => True) := by
  refine Met.ofW (cc := cX11_dearest) (maxL := 6) (ret := (some .int)) (by decide) rfl ?_
  intro pg e s m args below meth c s₁ B hml hv
  obtain ⟨rfl, hsz, hP, hK, hD0, hE⟩ := hv
  have hx := B.exec
  have hb := B.bytes
  have hr := B.returns
  have hts : ∀ w ∈ ALL, w.before _ s = true := fun w h => atoms_spec (ws := wA yX11_dearest cX11_dearest 6 (some .int)) B.pre w (List.mem_cons_of_mem _ h)
  have hown : s.vm.findClass RX11 = some m.cls := findClass_of_methodNamed B.named
  have hlocks := B.notSynchronized
  subst hsz
  have hD := hD0.self (sz := s.heap.size)
  obtain ⟨o0, o1, o1b, o2, o2b, o3, o4, o5, o6, oP⟩ := id hok
  have hA : ∀ q : Nat, s.heap.size ≤ q → va_A [(o, .inr (11, [.ref qj, .ref qt, .ref qf, .ref qp, .int (nI un), .ref qk, .ref qq, .int (nI ku), .int (nI ik), .ref qa, .int (nI tnQ), .int (nI th), .int (nI la), .int (nI wo), .int (nI cu), .int (nI fa), .int (nI fat), .ref qs, .ref ql, .ref qm, .ref qi, .ref qe])), aN z qj 31 rQ, aN z qt 31 tf] s.heap.size q := fun q h => Or.inr h
  generalize va_A [(o, .inr (11, [.ref qj, .ref qt, .ref qf, .ref qp, .int (nI un), .ref qk, .ref qq, .int (nI ku), .int (nI ik), .ref qa, .int (nI tnQ), .int (nI th), .int (nI la), .int (nI wo), .int (nI cu), .int (nI fa), .int (nI fat), .ref qs, .ref ql, .ref qm, .ref qi, .ref qe])), aN z qj 31 rQ, aN z qt 31 tf] s.heap.size = A at *
  have hS : va_S A s.heap s.heap [] := va_S.rf
  have hl := lv_entry ([.ref o, .int nv, .int wh]) (n := 6) (Nat.le_of_ble_eq_true rfl)
  rw [lg_entry_eq]
  generalize (lg_sl ([.ref o, .int nv, .int wh]) ++ List.replicate (6 - (lg_sl ([.ref o, .int nv, .int wh])).length) Slot.unset).toArray = ls at hl ⊢
  have hl : lv_has ls 6 [(0, .ref o), (1, .int nv), (2, .int wh)] := hl
  refine lv_aload_n hx hb dX11_dearest_0 rfl (lv_at hl 0 rfl) ?_
  refine lv_iconst (v := nI 0) hx hb dX11_dearest_1 (by decide +kernel) ?_
  refine va_put (D := D) (ci := 11) (v := .int (nI 0)) (ty := tyX11 11) (C := RX11) (T := TX11) (N := 22) hx hb hts iX11 tyX11 tyX11_ok nmX11 hown hK.1 hP hD hS 0 rfl rfl 11 (by decide) (hts _ m_576) (fun _ h9 => h9) rfl (tyX11_ok 11 (by decide)) rfl rfl (Nat.le_of_ble_eq_true rfl) dX11_dearest_2 (fun H locs hP hD hS => ?_)
  have hP : va_P D vwCl [(o, .inr (11, [.ref qj, .ref qt, .ref qf, .ref qp, .int (nI un), .ref qk, .ref qq, .int (nI ku), .int (nI ik), .ref qa, .int (nI tnQ), .int (nI 0), .int (nI la), .int (nI wo), .int (nI cu), .int (nI fa), .int (nI fat), .ref qs, .ref ql, .ref qm, .ref qi, .ref qe])), aN z qj 31 rQ, aN z qt 31 tf] H := hP
  have hD : va_D A [(o, .inr (11, [.ref qj, .ref qt, .ref qf, .ref qp, .int (nI un), .ref qk, .ref qq, .int (nI ku), .int (nI ik), .ref qa, .int (nI tnQ), .int (nI 0), .int (nI la), .int (nI wo), .int (nI cu), .int (nI fa), .int (nI fat), .ref qs, .ref ql, .ref qm, .ref qi, .ref qe])), aN z qj 31 rQ, aN z qt 31 tf] := hD
  refine lv_iload_n hx hb dX11_dearest_5 rfl (lv_at hl 1 rfl) ?_
  refine lv_i2l hx hb dX11_dearest_6 rfl ?_
  refine lv_lconst (v := 0) hx hb dX11_dearest_7 (by decide +kernel) ?_
  refine lv_ldc2 (own := RX11) hx hb hown (hts _ m_579) dX11_dearest_8 ?_
  have hPc := hP.sub (ws' := []) [] rfl
  refine nv_cp1 (va_runS (As := [.long nv.toInt64, .long 0, .long (99)]) (rest := []) ⟨hx, hb, hml, hown, hts⟩ (c_X11_in l D z nv.toInt64 0 (99) ) (va_cwS 3 hts (gS m_539 m_540 m_541 m_536) rfl rfl rfl hd_X11_in ⟨Nat.le_of_ble_eq_true rfl, Nat.le_of_ble_eq_true rfl⟩) (nv_preP hK hPc trivial _) rfl rfl hl.1 rfl (lv_room (Nat.le_of_ble_eq_true rfl)) dX11_dearest_11 ⟨by decide, by decide⟩) ?_
  refine nv_inwl (a := 0) (b := 99) (by decide) (by decide) ?_
  refine nv_beq (tgt := 27) hx hb dX11_dearest_14 (by decide) (fun hc14 => ?_) (fun hc14 => ?_)
  · refine lv_iconst (v := (-1)) hx hb dX11_dearest_27 (by decide +kernel) ?_
    obtain rfl := hrel.1 (by first | exact fun q => hc14 q.1 | exact fun q => hc24 q.2)
    exact nv_xi hx hb hr hlocks hS dX11_dearest_28 (tf, la, wo) hP trivial rfl
  · refine lv_iload_n hx hb dX11_dearest_17 rfl (lv_at hl 2 rfl) ?_
    refine lv_i2l hx hb dX11_dearest_18 rfl ?_
    refine lv_lconst (v := 0) hx hb dX11_dearest_19 (by decide +kernel) ?_
    refine lv_lconst (v := 1) hx hb dX11_dearest_20 (by decide +kernel) ?_
    have hPc := hP.sub (ws' := []) [] rfl
    refine nv_cp1 (va_runS (As := [.long wh.toInt64, .long 0, .long 1]) (rest := []) ⟨hx, hb, hml, hown, hts⟩ (c_X11_in l D z wh.toInt64 0 1 ) (va_cwS 3 hts (gS m_539 m_540 m_541 m_536) rfl rfl rfl hd_X11_in ⟨Nat.le_of_ble_eq_true rfl, Nat.le_of_ble_eq_true rfl⟩) (nv_preP hK hPc trivial _) rfl rfl hl.1 rfl (lv_room (Nat.le_of_ble_eq_true rfl)) dX11_dearest_21 ⟨by decide, by decide⟩) ?_
    refine nv_inwl (a := 0) (b := 1) (by decide) (by decide) ?_
    refine nv_bne (tgt := 29) hx hb dX11_dearest_24 (by decide) (fun hc24 => ?_) (fun hc24 => ?_)
    · obtain ⟨kQ, rfl, k0, k1⟩ := wi_nat (b := 99) (by decide) hc14
      obtain ⟨k2Q, rfl, l0, l1⟩ := wi_nat (b := 1) (by decide) hc24
      refine lv_bipush (v := (-4)) hx hb dX11_dearest_29 (by decide +kernel) ?_
      refine lv_istore_n (lv' := [(3, .int (-4)), (0, .ref o), (1, .int (nI kQ)), (2, .int (nI k2Q))]) hx hb dX11_dearest_31 rfl hl (by decide) rfl (fun ls hl => ?_)
      refine lv_iconst (v := (-1)) hx hb dX11_dearest_32 (by decide +kernel) ?_
      refine lv_istore (lv' := [(4, .int (-1)), (3, .int (-4)), (0, .ref o), (1, .int (nI kQ)), (2, .int (nI k2Q))]) hx hb dX11_dearest_33 hl (by decide) rfl (fun ls hl => ?_)
      refine lv_iconst (v := nI 1) hx hb dX11_dearest_35 (by decide +kernel) ?_
      refine lv_istore (lv' := [(5, .int (nI 1)), (4, .int (-1)), (3, .int (-4)), (0, .ref o), (1, .int (nI kQ)), (2, .int (nI k2Q))]) hx hb dX11_dearest_36 hl (by decide) rfl (fun ls hl => ?_)
      refine nv_loop (σ := Nat × (Nat → Nat) × Nat × Nat) (fun x H locs ls => ∃ (jQ : Nat) (tf2 : Nat → Nat) (lx : Nat) (wx : Nat), (jQ, tf2, lx, wx) = x ∧ ((jQ ≤ 100)) ∧ va_P D vwCl [(o, .inr (11, [.ref qj, .ref qt, .ref qf, .ref qp, .int (nI un), .ref qk, .ref qq, .int (nI ku), .int (nI ik), .ref qa, .int (nI tnQ), .int (nI 0), .int (nI lx), .int (nI wx), .int (nI cu), .int (nI fa), .int (nI fat), .ref qs, .ref ql, .ref qm, .ref qi, .ref qe])), aN z qj 31 rQ, aN z qt 31 tf2] H ∧ va_D A [(o, .inr (11, [.ref qj, .ref qt, .ref qf, .ref qp, .int (nI un), .ref qk, .ref qq, .int (nI ku), .int (nI ik), .ref qa, .int (nI tnQ), .int (nI 0), .int (nI lx), .int (nI wx), .int (nI cu), .int (nI fa), .int (nI fat), .ref qs, .ref ql, .ref qm, .ref qi, .ref qe])), aN z qj 31 rQ, aN z qt 31 tf2] ∧ va_S A s.heap H locs ∧ lv_has ls 6 [(0, .ref o), (1, .int (nI kQ)), (2, .int (nI k2Q)), (3, .int (mxB (dP rQ kQ) (-4) jQ)), (4, .int (mxX (dP rQ kQ) jQ)), (5, .int (nI (jQ + 1)))]) (fun x => 100 - x.1) 38 [] ?_ (0, tf, la, wo) ?_
      · rintro _ H locs ls ⟨jQ, tf2, lx, wx, rfl, hj, hP, hD, hS, hl⟩ ih38
        refine lv_iload hx hb dX11_dearest_38 (lv_at hl 5 rfl) ?_
        refine lv_bipush (v := nI 100) hx hb dX11_dearest_40 (by decide +kernel) ?_
        refine nv_gt (tgt := 117) hx hb (by omega) (by omega) dX11_dearest_42 (by decide) (fun hc42 => ?_) (fun hc42 => ?_)
        · obtain rfl : jQ = 100 := by omega
          refine lv_iload_n hx hb dX11_dearest_117 rfl (lv_at hl 2 rfl) ?_
          refine nv_ifne (tgt := 125) hx hb (by omega) dX11_dearest_118 (by decide) (fun hc118 => ?_) (fun hc118 => ?_)
          · obtain rfl : k2Q = 1 := by omega
            obtain rfl := hrel.2.2 kQ rfl (by omega) rfl
            refine lv_iload hx hb dX11_dearest_125 (lv_at hl 4 rfl) ?_
            exact nv_xi hx hb hr hlocks hS dX11_dearest_127 (tf2, lx, wx) hP trivial rfl
          · obtain rfl : k2Q = 0 := hc118
            obtain rfl := hrel.2.1 kQ rfl (by omega) rfl
            refine lv_iload_n hx hb dX11_dearest_121 rfl (lv_at hl 3 rfl) ?_
            refine lv_goto (tgt := 127) hx hb dX11_dearest_122 (by decide) ?_
            exact nv_xi hx hb hr hlocks hS dX11_dearest_127 (tf2, lx, wx) hP trivial rfl
        · have hokp := pr_ok (p := jQ + 1) hok (by omega) (by omega)
          refine lv_aload_n hx hb dX11_dearest_45 rfl (lv_at hl 0 rfl) ?_
          refine va_get (D := D) (ci := 11) (v := .ref qj) (C := RX11) (T := TX11) (N := 22) hx hb hts iX11 hown hK.1 hP 0 rfl rfl 0 (by decide) (hts _ m_523) (fun _ h9 => h9) rfl dX11_dearest_46 ?_
          refine lv_aload_n hx hb dX11_dearest_49 rfl (lv_at hl 0 rfl) ?_
          refine va_get (D := D) (ci := 11) (v := .ref qt) (C := RX11) (T := TX11) (N := 22) hx hb hts iX11 hown hK.1 hP 0 rfl rfl 1 (by decide) (hts _ m_524) (fun _ h9 => h9) rfl dX11_dearest_50 ?_
          have hPc := hP.sub (ws' := [aN z qj 31 rQ, aN z qt 31 tf2]) [1, 2] rfl
          have hDc := hD.sub (ws' := [aN z qj 31 rQ, aN z qt 31 tf2]) [1, 2] (by decide) rfl
          refine nv_cm0 (wc := [aN z qj 31 rQ, aN z qt 31 tf2]) (wr := [(o, .inr (11, [.ref qj, .ref qt, .ref qf, .ref qp, .int (nI un), .ref qk, .ref qq, .int (nI ku), .int (nI ik), .ref qa, .int (nI tnQ), .int (nI 0), .int (nI lx), .int (nI wx), .int (nI cu), .int (nI fa), .int (nI fat), .ref qs, .ref ql, .ref qm, .ref qi, .ref qe]))]) (w1 := [aN z qj 31 rQ, aN z qt 31 rQ]) (ws1 := [(o, .inr (11, [.ref qj, .ref qt, .ref qf, .ref qp, .int (nI un), .ref qk, .ref qq, .int (nI ku), .int (nI ik), .ref qa, .int (nI tnQ), .int (nI 0), .int (nI lx), .int (nI wx), .int (nI cu), .int (nI fa), .int (nI fat), .ref qs, .ref ql, .ref qm, .ref qi, .ref qe])), aN z qj 31 rQ, aN z qt 31 rQ]) (va_runS (As := [.ref qj, .ref qt]) (rest := []) ⟨hx, hb, hml, hown, hts⟩ (c_X11_lay l D z H.size qj qt rQ tf2 ) (va_cwS 2 hts (gS m_631 m_632 m_541 m_537) rfl rfl rfl hd_X11_lay ⟨Nat.le_of_ble_eq_true rfl, Nat.le_of_ble_eq_true rfl⟩) (nv_preM hK hPc hDc trivial _) rfl rfl hl.1 rfl (lv_room (Nat.le_of_ble_eq_true rfl)) dX11_dearest_53 ⟨by decide, by decide⟩) hP hD hS hA [1, 2] [0] [0, 1, 2] rfl rfl (by decide) (by decide) rfl (by decide) rfl (by decide) (fun H locs hP hD hS hE53 hz53 hf53 => ?_)
          clear hPc hDc
          clear hf53 hz53
          refine lv_aload_n hx hb dX11_dearest_56 rfl (lv_at hl 0 rfl) ?_
          refine va_get (D := D) (ci := 11) (v := .ref qt) (C := RX11) (T := TX11) (N := 22) hx hb hts iX11 hown hK.1 hP 0 rfl rfl 1 (by decide) (hts _ m_524) (fun _ h9 => h9) rfl dX11_dearest_57 ?_
          refine lv_iconst (v := nI 2) hx hb dX11_dearest_60 (by decide +kernel) ?_
          refine lv_iload hx hb dX11_dearest_61 (lv_at hl 5 rfl) ?_
          refine nv_ast hx hb hK hP hD hS 2 rfl (by omega) (by decide) dX11_dearest_63 (fun H locs hP hD hS => ?_)
          have hP : va_P D vwCl [(o, .inr (11, [.ref qj, .ref qt, .ref qf, .ref qp, .int (nI un), .ref qk, .ref qq, .int (nI ku), .int (nI ik), .ref qa, .int (nI tnQ), .int (nI 0), .int (nI lx), .int (nI wx), .int (nI cu), .int (nI fa), .int (nI fat), .ref qs, .ref ql, .ref qm, .ref qi, .ref qe])), aN z qj 31 rQ, aN z qt 31 (uN rQ 2 (jQ + 1))] H := hP
          have hD : va_D A [(o, .inr (11, [.ref qj, .ref qt, .ref qf, .ref qp, .int (nI un), .ref qk, .ref qq, .int (nI ku), .int (nI ik), .ref qa, .int (nI tnQ), .int (nI 0), .int (nI lx), .int (nI wx), .int (nI cu), .int (nI fa), .int (nI fat), .ref qs, .ref ql, .ref qm, .ref qi, .ref qe])), aN z qj 31 rQ, aN z qt 31 (uN rQ 2 (jQ + 1))] := hD
          refine lv_aload_n hx hb dX11_dearest_64 rfl (lv_at hl 0 rfl) ?_
          refine lv_iload_n hx hb dX11_dearest_65 rfl (lv_at hl 1 rfl) ?_
          have hPc := hP.sub (ws' := [(o, .inr (11, [.ref qj, .ref qt, .ref qf, .ref qp, .int (nI un), .ref qk, .ref qq, .int (nI ku), .int (nI ik), .ref qa, .int (nI tnQ), .int (nI 0), .int (nI lx), .int (nI wx), .int (nI cu), .int (nI fa), .int (nI fat), .ref qs, .ref ql, .ref qm, .ref qi, .ref qe])), aN z qt 31 (uN rQ 2 (jQ + 1))]) [0, 2] rfl
          have hDc := hD.sub (ws' := [(o, .inr (11, [.ref qj, .ref qt, .ref qf, .ref qp, .int (nI un), .ref qk, .ref qq, .int (nI ku), .int (nI ik), .ref qa, .int (nI tnQ), .int (nI 0), .int (nI lx), .int (nI wx), .int (nI cu), .int (nI fa), .int (nI fat), .ref qs, .ref ql, .ref qm, .ref qi, .ref qe])), aN z qt 31 (uN rQ 2 (jQ + 1))]) [0, 2] (by decide) rfl
          refine nv_cm0 (wc := [(o, .inr (11, [.ref qj, .ref qt, .ref qf, .ref qp, .int (nI un), .ref qk, .ref qq, .int (nI ku), .int (nI ik), .ref qa, .int (nI tnQ), .int (nI 0), .int (nI lx), .int (nI wx), .int (nI cu), .int (nI fa), .int (nI fat), .ref qs, .ref ql, .ref qm, .ref qi, .ref qe])), aN z qt 31 (uN rQ 2 (jQ + 1))]) (wr := [aN z qj 31 rQ]) (w1 := [(o, .inr (11, [.ref qj, .ref qt, .ref qf, .ref qp, .int (nI un), .ref qk, .ref qq, .int (nI ku), .int (nI ik), .ref qa, .int (nI tnQ), .int (nI 0), .int (nI (laN (uN rQ 2 (jQ + 1)) kQ)), .int (nI (suN (uN rQ 2 (jQ + 1)) kQ)), .int (nI cu), .int (nI fa), .int (nI fat), .ref qs, .ref ql, .ref qm, .ref qi, .ref qe])), aN z qt 31 (wkN (uN rQ 2 (jQ + 1)) kQ)]) (ws1 := [(o, .inr (11, [.ref qj, .ref qt, .ref qf, .ref qp, .int (nI un), .ref qk, .ref qq, .int (nI ku), .int (nI ik), .ref qa, .int (nI tnQ), .int (nI 0), .int (nI (laN (uN rQ 2 (jQ + 1)) kQ)), .int (nI (suN (uN rQ 2 (jQ + 1)) kQ)), .int (nI cu), .int (nI fa), .int (nI fat), .ref qs, .ref ql, .ref qm, .ref qi, .ref qe])), aN z qj 31 rQ, aN z qt 31 (wkN (uN rQ 2 (jQ + 1)) kQ)]) (va_runV (As := [.int (nI kQ)]) (rest := []) ⟨hx, hb, hml, hown, hts⟩ (c_X11_weeksOf l D z H.size w0Q o qj qt qf qp qk qq qa qs ql qm qi qe un ku ik tnQ 0 lx wx cu fa fat (uN rQ 2 (jQ + 1)) kQ hokp (by first | assumption | omega) (by first | assumption | omega)) (cwV 1 hts (gV m_650 m_651 m_652 m_541 m_574) rfl rfl rfl ⟨rfl, hd_X11_weeksOf⟩ ⟨Nat.le_of_ble_eq_true rfl, Nat.le_of_ble_eq_true rfl⟩) (nv_preMV (ci := 11) (q0 := 0) hK hPc hDc trivial rfl rfl) rfl rfl hl.1 rfl (lv_room (Nat.le_of_ble_eq_true rfl)) dX11_dearest_66 ⟨by decide, by decide⟩) hP hD hS hA [0, 2] [1] [1, 0, 2] rfl rfl (by decide) (by decide) rfl (by decide) rfl (by decide) (fun H locs hP hD hS hE66 hz66 hf66 => ?_)
          clear hPc hDc
          clear hf66 hz66
          refine lv_aload_n hx hb dX11_dearest_69 rfl (lv_at hl 0 rfl) ?_
          refine va_get (D := D) (ci := 11) (v := .ref qt) (C := RX11) (T := TX11) (N := 22) hx hb hts iX11 hown hK.1 hP 0 rfl rfl 1 (by decide) (hts _ m_524) (fun _ h9 => h9) rfl dX11_dearest_70 ?_
          refine lv_iconst (v := nI 0) hx hb dX11_dearest_73 (by decide +kernel) ?_
          refine nv_ald hx hb hK hP 2 rfl (by omega) (by decide) dX11_dearest_74 ?_
          refine lv_iload hx hb dX11_dearest_75 (lv_at hl 4 rfl) ?_
          refine nv_join (g2 := F0 m 86 ls [.int (mxB (dP rQ kQ) (-4) (jQ + 1))]) (fun J1 => ?_) ?_
          · refine lv_icmp_le (tgt := 85) hx hb dX11_dearest_77 (by decide) (fun hc77 => ?_) (fun hc77 => ?_)
            · refine lv_iload_n hx hb dX11_dearest_85 rfl (lv_at hl 3 rfl) ?_
              have q9 : mxB (dP rQ kQ) (-4) jQ = mxB (dP rQ kQ) (-4) (jQ + 1) := by show _ = if mxX (dP rQ kQ) jQ < nI (dP rQ kQ (jQ + 1)) then _ else _; first | rw [if_neg (show ¬ mxX (dP rQ kQ) jQ < nI (dP rQ kQ (jQ + 1)) from Int32.not_lt.mpr hc77)] | rw [if_pos (show mxX (dP rQ kQ) jQ < nI (dP rQ kQ (jQ + 1)) from Int32.not_le.mp hc77)]
              exact W.eq (congrArg (fun x9 => F0 m 86 ls (.int x9 :: [])) q9) J1
            · refine lv_iload hx hb dX11_dearest_80 (lv_at hl 5 rfl) ?_
              refine lv_goto (tgt := 86) hx hb dX11_dearest_82 (by decide) ?_
              have q9 : nI (jQ + 1) = mxB (dP rQ kQ) (-4) (jQ + 1) := by show _ = if mxX (dP rQ kQ) jQ < nI (dP rQ kQ (jQ + 1)) then _ else _; first | rw [if_neg (show ¬ mxX (dP rQ kQ) jQ < nI (dP rQ kQ (jQ + 1)) from Int32.not_lt.mpr hc77)] | rw [if_pos (show mxX (dP rQ kQ) jQ < nI (dP rQ kQ (jQ + 1)) from Int32.not_le.mp hc77)]
              exact W.eq (congrArg (fun x9 => F0 m 86 ls (.int x9 :: [])) q9) J1
          · refine lv_istore_n (lv' := [(3, .int (mxB (dP rQ kQ) (-4) (jQ + 1))), (0, .ref o), (1, .int (nI kQ)), (2, .int (nI k2Q)), (4, .int (mxX (dP rQ kQ) jQ)), (5, .int (nI (jQ + 1)))]) hx hb dX11_dearest_86 rfl hl (by decide) rfl (fun ls hl => ?_)
            refine lv_aload_n hx hb dX11_dearest_87 rfl (lv_at hl 1 rfl) ?_
            refine va_get (D := D) (ci := 11) (v := .ref qt) (C := RX11) (T := TX11) (N := 22) hx hb hts iX11 hown hK.1 hP 0 rfl rfl 1 (by decide) (hts _ m_524) (fun _ h9 => h9) rfl dX11_dearest_88 ?_
            refine lv_iconst (v := nI 0) hx hb dX11_dearest_91 (by decide +kernel) ?_
            refine nv_ald hx hb hK hP 2 rfl (by omega) (by decide) dX11_dearest_92 ?_
            refine lv_iload hx hb dX11_dearest_93 (lv_at hl 4 rfl) ?_
            refine nv_join (g2 := F0 m 109 ls [.int (mxX (dP rQ kQ) (jQ + 1))]) (fun J2 => ?_) ?_
            · refine lv_icmp_le (tgt := 107) hx hb dX11_dearest_95 (by decide) (fun hc95 => ?_) (fun hc95 => ?_)
              · refine lv_iload hx hb dX11_dearest_107 (lv_at hl 4 rfl) ?_
                have q9 : mxX (dP rQ kQ) jQ = mxX (dP rQ kQ) (jQ + 1) := by show _ = if mxX (dP rQ kQ) jQ < nI (dP rQ kQ (jQ + 1)) then _ else _; first | rw [if_neg (show ¬ mxX (dP rQ kQ) jQ < nI (dP rQ kQ (jQ + 1)) from Int32.not_lt.mpr hc95)] | (rw [if_pos (show mxX (dP rQ kQ) jQ < nI (dP rQ kQ (jQ + 1)) from Int32.not_le.mp hc95)]; rfl)
                exact W.eq (congrArg (fun x9 => F0 m 109 ls (.int x9 :: [])) q9) J2
              · refine lv_aload_n hx hb dX11_dearest_98 rfl (lv_at hl 1 rfl) ?_
                refine va_get (D := D) (ci := 11) (v := .ref qt) (C := RX11) (T := TX11) (N := 22) hx hb hts iX11 hown hK.1 hP 0 rfl rfl 1 (by decide) (hts _ m_524) (fun _ h9 => h9) rfl dX11_dearest_99 ?_
                refine lv_iconst (v := nI 0) hx hb dX11_dearest_102 (by decide +kernel) ?_
                refine nv_ald hx hb hK hP 2 rfl (by omega) (by decide) dX11_dearest_103 ?_
                refine lv_goto (tgt := 109) hx hb dX11_dearest_104 (by decide) ?_
                have q9 : nI ((wkN (uN rQ 2 (jQ + 1)) kQ) 0) = mxX (dP rQ kQ) (jQ + 1) := by show _ = if mxX (dP rQ kQ) jQ < nI (dP rQ kQ (jQ + 1)) then _ else _; first | rw [if_neg (show ¬ mxX (dP rQ kQ) jQ < nI (dP rQ kQ (jQ + 1)) from Int32.not_lt.mpr hc95)] | (rw [if_pos (show mxX (dP rQ kQ) jQ < nI (dP rQ kQ (jQ + 1)) from Int32.not_le.mp hc95)]; rfl)
                exact W.eq (congrArg (fun x9 => F0 m 109 ls (.int x9 :: [])) q9) J2
            · refine lv_istore (lv' := [(4, .int (mxX (dP rQ kQ) (jQ + 1))), (3, .int (mxB (dP rQ kQ) (-4) (jQ + 1))), (0, .ref o), (1, .int (nI kQ)), (2, .int (nI k2Q)), (5, .int (nI (jQ + 1)))]) hx hb dX11_dearest_109 hl (by decide) rfl (fun ls hl => ?_)
              refine lv_iinc (v := nI (jQ + 1 + 1)) (lv' := [(5, .int (nI (jQ + 1 + 1))), (4, .int (mxX (dP rQ kQ) (jQ + 1))), (3, .int (mxB (dP rQ kQ) (-4) (jQ + 1))), (0, .ref o), (1, .int (nI kQ)), (2, .int (nI k2Q))]) hx hb dX11_dearest_111 hl (k := 5) rfl (nI_inc _) (by decide) rfl (fun ls hl => ?_)
              refine lv_goto (tgt := 38) hx hb dX11_dearest_114 (by decide) ?_
              exact ih38 (jQ + 1, wkN (uN rQ 2 (jQ + 1)) kQ, laN (uN rQ 2 (jQ + 1)) kQ, suN (uN rQ 2 (jQ + 1)) kQ) _ _ _ (by show 100 - (jQ + 1) < 100 - jQ; omega) ⟨jQ + 1, wkN (uN rQ 2 (jQ + 1)) kQ, laN (uN rQ 2 (jQ + 1)) kQ, suN (uN rQ 2 (jQ + 1)) kQ, rfl, (by omega), hP, hD, hS, lv_sub hl [3, 4, 5, 2, 1, 0] rfl⟩
      · exact ⟨0, tf, la, wo, rfl, (by omega), hP, hD, hS, lv_sub hl [3, 4, 5, 2, 1, 0] rfl⟩
    · refine lv_iconst (v := (-1)) hx hb dX11_dearest_27 (by decide +kernel) ?_
      obtain rfl := hrel.1 (by first | exact fun q => hc14 q.1 | exact fun q => hc24 q.2)
      exact nv_xi hx hb hr hlocks hS dX11_dearest_28 (tf, la, wo) hP trivial rfl

set_option maxHeartbeats 4000000 in
set_option maxRecDepth 100000 in
theorem c_X11_quiet (l : Launch) (D : va_G) (z : Nat → ClassId) (sz : Nat) (w0Q : Nat) (o : Nat) (qj : Nat) (qt : Nat) (qf : Nat) (qp : Nat) (qk : Nat) (qq : Nat) (qa : Nat) (qs : Nat) (ql : Nat) (qm : Nat) (qi : Nat) (qe : Nat) (un : Nat) (ku : Nat) (ik : Nat) (tnQ : Nat) (th : Nat) (la : Nat) (wo : Nat) (cu : Nat) (fa : Nat) (fat : Nat) (rQ : Nat → Nat) (tf : Nat → Nat) (nv : Int32) (wh : Int32) (vQ : Int32) (hok : rOK w0Q rQ) (hw : w0Q ≤ 10000) (hrel : quRel rQ nv wh vQ) : CX (σ := (Nat → Nat) × Nat × Nat) l yX11_quiet cX11_quiet 7 (some .int) 6 140 0 0 [.ref o, .int nv, .int wh] D z [(o, .inr (11, [.ref qj, .ref qt, .ref qf, .ref qp, .int (nI un), .ref qk, .ref qq, .int (nI ku), .int (nI ik), .ref qa, .int (nI tnQ), .int (nI th), .int (nI la), .int (nI wo), .int (nI cu), .int (nI fa), .int (nI fat), .ref qs, .ref ql, .ref qm, .ref qi, .ref qe])), aN z qj 31 rQ, aN z qt 31 tf] sz (fun _ => True) (fun u => [(o, .inr (11, [.ref qj, .ref qt, .ref qf, .ref qp, .int (nI un), .ref qk, .ref qq, .int (nI ku), .int (nI ik), .ref qa, .int (nI tnQ), .int (nI 0), .int (nI u.2.1), .int (nI u.2.2), .int (nI cu), .int (nI fa), .int (nI fat), .ref qs, .ref ql, .ref qm, .ref qi, .ref qe])), aN z qj 31 rQ, aN z qt 31 u.1]) (some (.int vQ)) (fun _ _ => True) := by
  refine Met.ofW (cc := cX11_quiet) (maxL := 7) (ret := (some .int)) (by decide) rfl ?_
  intro pg e s m args below meth c s₁ B hml hv
  obtain ⟨rfl, hsz, hP, hK, hD0, hE⟩ := hv
  have hx := B.exec
  have hb := B.bytes
  have hr := B.returns
  have hts : ∀ w ∈ ALL, w.before _ s = true := fun w h => atoms_spec (ws := wA yX11_quiet cX11_quiet 7 (some .int)) B.pre w (List.mem_cons_of_mem _ h)
  have hown : s.vm.findClass RX11 = some m.cls := findClass_of_methodNamed B.named
  have hlocks := B.notSynchronized
  subst hsz
  have hD := hD0.self (sz := s.heap.size)
  obtain ⟨o0, o1, o1b, o2, o2b, o3, o4, o5, o6, oP⟩ := id hok
  have hA : ∀ q : Nat, s.heap.size ≤ q → va_A [(o, .inr (11, [.ref qj, .ref qt, .ref qf, .ref qp, .int (nI un), .ref qk, .ref qq, .int (nI ku), .int (nI ik), .ref qa, .int (nI tnQ), .int (nI th), .int (nI la), .int (nI wo), .int (nI cu), .int (nI fa), .int (nI fat), .ref qs, .ref ql, .ref qm, .ref qi, .ref qe])), aN z qj 31 rQ, aN z qt 31 tf] s.heap.size q := fun q h => Or.inr h
  generalize va_A [(o, .inr (11, [.ref qj, .ref qt, .ref qf, .ref qp, .int (nI un), .ref qk, .ref qq, .int (nI ku), .int (nI ik), .ref qa, .int (nI tnQ), .int (nI th), .int (nI la), .int (nI wo), .int (nI cu), .int (nI fa), .int (nI fat), .ref qs, .ref ql, .ref qm, .ref qi, .ref qe])), aN z qj 31 rQ, aN z qt 31 tf] s.heap.size = A at *
  have hS : va_S A s.heap s.heap [] := va_S.rf
  have hl := lv_entry ([.ref o, .int nv, .int wh]) (n := 7) (Nat.le_of_ble_eq_true rfl)
  rw [lg_entry_eq]
  generalize (lg_sl ([.ref o, .int nv, .int wh]) ++ List.replicate (7 - (lg_sl ([.ref o, .int nv, .int wh])).length) Slot.unset).toArray = ls at hl ⊢
  have hl : lv_has ls 7 [(0, .ref o), (1, .int nv), (2, .int wh)] := hl
  refine lv_aload_n hx hb dX11_quiet_0 rfl (lv_at hl 0 rfl) ?_
  refine lv_iconst (v := nI 0) hx hb dX11_quiet_1 (by decide +kernel) ?_
  refine va_put (D := D) (ci := 11) (v := .int (nI 0)) (ty := tyX11 11) (C := RX11) (T := TX11) (N := 22) hx hb hts iX11 tyX11 tyX11_ok nmX11 hown hK.1 hP hD hS 0 rfl rfl 11 (by decide) (hts _ m_576) (fun _ h9 => h9) rfl (tyX11_ok 11 (by decide)) rfl rfl (Nat.le_of_ble_eq_true rfl) dX11_quiet_2 (fun H locs hP hD hS => ?_)
  have hP : va_P D vwCl [(o, .inr (11, [.ref qj, .ref qt, .ref qf, .ref qp, .int (nI un), .ref qk, .ref qq, .int (nI ku), .int (nI ik), .ref qa, .int (nI tnQ), .int (nI 0), .int (nI la), .int (nI wo), .int (nI cu), .int (nI fa), .int (nI fat), .ref qs, .ref ql, .ref qm, .ref qi, .ref qe])), aN z qj 31 rQ, aN z qt 31 tf] H := hP
  have hD : va_D A [(o, .inr (11, [.ref qj, .ref qt, .ref qf, .ref qp, .int (nI un), .ref qk, .ref qq, .int (nI ku), .int (nI ik), .ref qa, .int (nI tnQ), .int (nI 0), .int (nI la), .int (nI wo), .int (nI cu), .int (nI fa), .int (nI fat), .ref qs, .ref ql, .ref qm, .ref qi, .ref qe])), aN z qj 31 rQ, aN z qt 31 tf] := hD
  refine lv_iload_n hx hb dX11_quiet_5 rfl (lv_at hl 1 rfl) ?_
  refine lv_i2l hx hb dX11_quiet_6 rfl ?_
  refine lv_lconst (v := 0) hx hb dX11_quiet_7 (by decide +kernel) ?_
  refine lv_ldc2 (own := RX11) hx hb hown (hts _ m_579) dX11_quiet_8 ?_
  have hPc := hP.sub (ws' := []) [] rfl
  refine nv_cp1 (va_runS (As := [.long nv.toInt64, .long 0, .long (99)]) (rest := []) ⟨hx, hb, hml, hown, hts⟩ (c_X11_in l D z nv.toInt64 0 (99) ) (va_cwS 3 hts (gS m_539 m_540 m_541 m_536) rfl rfl rfl hd_X11_in ⟨Nat.le_of_ble_eq_true rfl, Nat.le_of_ble_eq_true rfl⟩) (nv_preP hK hPc trivial _) rfl rfl hl.1 rfl (lv_room (Nat.le_of_ble_eq_true rfl)) dX11_quiet_11 ⟨by decide, by decide⟩) ?_
  refine nv_inwl (a := 0) (b := 99) (by decide) (by decide) ?_
  refine nv_beq (tgt := 27) hx hb dX11_quiet_14 (by decide) (fun hc14 => ?_) (fun hc14 => ?_)
  · refine lv_iconst (v := (-1)) hx hb dX11_quiet_27 (by decide +kernel) ?_
    obtain rfl := hrel.1 (by first | exact fun q => hc14 q.1 | exact fun q => hc24 q.2)
    exact nv_xi hx hb hr hlocks hS dX11_quiet_28 (tf, la, wo) hP trivial rfl
  · refine lv_iload_n hx hb dX11_quiet_17 rfl (lv_at hl 2 rfl) ?_
    refine lv_i2l hx hb dX11_quiet_18 rfl ?_
    refine lv_lconst (v := 0) hx hb dX11_quiet_19 (by decide +kernel) ?_
    refine lv_lconst (v := 1) hx hb dX11_quiet_20 (by decide +kernel) ?_
    have hPc := hP.sub (ws' := []) [] rfl
    refine nv_cp1 (va_runS (As := [.long wh.toInt64, .long 0, .long 1]) (rest := []) ⟨hx, hb, hml, hown, hts⟩ (c_X11_in l D z wh.toInt64 0 1 ) (va_cwS 3 hts (gS m_539 m_540 m_541 m_536) rfl rfl rfl hd_X11_in ⟨Nat.le_of_ble_eq_true rfl, Nat.le_of_ble_eq_true rfl⟩) (nv_preP hK hPc trivial _) rfl rfl hl.1 rfl (lv_room (Nat.le_of_ble_eq_true rfl)) dX11_quiet_21 ⟨by decide, by decide⟩) ?_
    refine nv_inwl (a := 0) (b := 1) (by decide) (by decide) ?_
    refine nv_bne (tgt := 29) hx hb dX11_quiet_24 (by decide) (fun hc24 => ?_) (fun hc24 => ?_)
    · obtain ⟨kQ, rfl, k0, k1⟩ := wi_nat (b := 99) (by decide) hc14
      obtain ⟨k2Q, rfl, l0, l1⟩ := wi_nat (b := 1) (by decide) hc24
      have hSb : ∀ p, dS rQ kQ p < 2147483647 := fun p => Nat.lt_of_le_of_lt (suN_le (r := uN rQ 2 p) kQ (by rw [uN_n _ (by decide)]; exact o6)) (by omega)
      refine lv_bipush (v := (-4)) hx hb dX11_quiet_29 (by decide +kernel) ?_
      refine lv_istore_n (lv' := [(3, .int (-4)), (0, .ref o), (1, .int (nI kQ)), (2, .int (nI k2Q))]) hx hb dX11_quiet_31 rfl hl (by decide) rfl (fun ls hl => ?_)
      refine lv_iconst (v := (-1)) hx hb dX11_quiet_32 (by decide +kernel) ?_
      refine lv_istore (lv' := [(4, .int (-1)), (3, .int (-4)), (0, .ref o), (1, .int (nI kQ)), (2, .int (nI k2Q))]) hx hb dX11_quiet_33 hl (by decide) rfl (fun ls hl => ?_)
      refine lv_iconst (v := nI 1) hx hb dX11_quiet_35 (by decide +kernel) ?_
      refine lv_istore (lv' := [(5, .int (nI 1)), (4, .int (-1)), (3, .int (-4)), (0, .ref o), (1, .int (nI kQ)), (2, .int (nI k2Q))]) hx hb dX11_quiet_36 hl (by decide) rfl (fun ls hl => ?_)
      refine nv_loop (σ := Nat × (Nat → Nat) × Nat × Nat) (fun x H locs ls => ∃ (jQ : Nat) (tf2 : Nat → Nat) (lx : Nat) (wx : Nat), (jQ, tf2, lx, wx) = x ∧ ((jQ ≤ 100)) ∧ va_P D vwCl [(o, .inr (11, [.ref qj, .ref qt, .ref qf, .ref qp, .int (nI un), .ref qk, .ref qq, .int (nI ku), .int (nI ik), .ref qa, .int (nI tnQ), .int (nI 0), .int (nI lx), .int (nI wx), .int (nI cu), .int (nI fa), .int (nI fat), .ref qs, .ref ql, .ref qm, .ref qi, .ref qe])), aN z qj 31 rQ, aN z qt 31 tf2] H ∧ va_D A [(o, .inr (11, [.ref qj, .ref qt, .ref qf, .ref qp, .int (nI un), .ref qk, .ref qq, .int (nI ku), .int (nI ik), .ref qa, .int (nI tnQ), .int (nI 0), .int (nI lx), .int (nI wx), .int (nI cu), .int (nI fa), .int (nI fat), .ref qs, .ref ql, .ref qm, .ref qi, .ref qe])), aN z qj 31 rQ, aN z qt 31 tf2] ∧ va_S A s.heap H locs ∧ lv_has ls 7 [(0, .ref o), (1, .int (nI kQ)), (2, .int (nI k2Q)), (3, .int (mnBm (dS rQ kQ) jQ)), (4, .int (mnXm (dS rQ kQ) jQ)), (5, .int (nI (jQ + 1)))]) (fun x => 100 - x.1) 38 [] ?_ (0, tf, la, wo) ?_
      · rintro _ H locs ls ⟨jQ, tf2, lx, wx, rfl, hj, hP, hD, hS, hl⟩ ih38
        refine lv_iload hx hb dX11_quiet_38 (lv_at hl 5 rfl) ?_
        refine lv_bipush (v := nI 100) hx hb dX11_quiet_40 (by decide +kernel) ?_
        refine nv_gt (tgt := 125) hx hb (by omega) (by omega) dX11_quiet_42 (by decide) (fun hc42 => ?_) (fun hc42 => ?_)
        · obtain rfl : jQ = 100 := by omega
          refine lv_iload_n hx hb dX11_quiet_125 rfl (lv_at hl 2 rfl) ?_
          refine nv_ifne (tgt := 133) hx hb (by omega) dX11_quiet_126 (by decide) (fun hc126 => ?_) (fun hc126 => ?_)
          · obtain rfl : k2Q = 1 := by omega
            obtain rfl := hrel.2.2 kQ rfl (by omega) rfl
            refine lv_iload hx hb dX11_quiet_133 (lv_at hl 4 rfl) ?_
            exact nv_xi hx hb hr hlocks hS dX11_quiet_135 (tf2, lx, wx) hP trivial (by first | (unfold mnBm; rfl) | (unfold mnXm; rfl))
          · obtain rfl : k2Q = 0 := hc126
            obtain rfl := hrel.2.1 kQ rfl (by omega) rfl
            refine lv_iload_n hx hb dX11_quiet_129 rfl (lv_at hl 3 rfl) ?_
            refine lv_goto (tgt := 135) hx hb dX11_quiet_130 (by decide) ?_
            exact nv_xi hx hb hr hlocks hS dX11_quiet_135 (tf2, lx, wx) hP trivial (by first | (unfold mnBm; rfl) | (unfold mnXm; rfl))
        · have hokp := pr_ok (p := jQ + 1) hok (by omega) (by omega)
          refine lv_aload_n hx hb dX11_quiet_45 rfl (lv_at hl 0 rfl) ?_
          refine va_get (D := D) (ci := 11) (v := .ref qj) (C := RX11) (T := TX11) (N := 22) hx hb hts iX11 hown hK.1 hP 0 rfl rfl 0 (by decide) (hts _ m_523) (fun _ h9 => h9) rfl dX11_quiet_46 ?_
          refine lv_aload_n hx hb dX11_quiet_49 rfl (lv_at hl 0 rfl) ?_
          refine va_get (D := D) (ci := 11) (v := .ref qt) (C := RX11) (T := TX11) (N := 22) hx hb hts iX11 hown hK.1 hP 0 rfl rfl 1 (by decide) (hts _ m_524) (fun _ h9 => h9) rfl dX11_quiet_50 ?_
          have hPc := hP.sub (ws' := [aN z qj 31 rQ, aN z qt 31 tf2]) [1, 2] rfl
          have hDc := hD.sub (ws' := [aN z qj 31 rQ, aN z qt 31 tf2]) [1, 2] (by decide) rfl
          refine nv_cm0 (wc := [aN z qj 31 rQ, aN z qt 31 tf2]) (wr := [(o, .inr (11, [.ref qj, .ref qt, .ref qf, .ref qp, .int (nI un), .ref qk, .ref qq, .int (nI ku), .int (nI ik), .ref qa, .int (nI tnQ), .int (nI 0), .int (nI lx), .int (nI wx), .int (nI cu), .int (nI fa), .int (nI fat), .ref qs, .ref ql, .ref qm, .ref qi, .ref qe]))]) (w1 := [aN z qj 31 rQ, aN z qt 31 rQ]) (ws1 := [(o, .inr (11, [.ref qj, .ref qt, .ref qf, .ref qp, .int (nI un), .ref qk, .ref qq, .int (nI ku), .int (nI ik), .ref qa, .int (nI tnQ), .int (nI 0), .int (nI lx), .int (nI wx), .int (nI cu), .int (nI fa), .int (nI fat), .ref qs, .ref ql, .ref qm, .ref qi, .ref qe])), aN z qj 31 rQ, aN z qt 31 rQ]) (va_runS (As := [.ref qj, .ref qt]) (rest := []) ⟨hx, hb, hml, hown, hts⟩ (c_X11_lay l D z H.size qj qt rQ tf2 ) (va_cwS 2 hts (gS m_631 m_632 m_541 m_537) rfl rfl rfl hd_X11_lay ⟨Nat.le_of_ble_eq_true rfl, Nat.le_of_ble_eq_true rfl⟩) (nv_preM hK hPc hDc trivial _) rfl rfl hl.1 rfl (lv_room (Nat.le_of_ble_eq_true rfl)) dX11_quiet_53 ⟨by decide, by decide⟩) hP hD hS hA [1, 2] [0] [0, 1, 2] rfl rfl (by decide) (by decide) rfl (by decide) rfl (by decide) (fun H locs hP hD hS hE53 hz53 hf53 => ?_)
          clear hPc hDc
          clear hf53 hz53
          refine lv_aload_n hx hb dX11_quiet_56 rfl (lv_at hl 0 rfl) ?_
          refine va_get (D := D) (ci := 11) (v := .ref qt) (C := RX11) (T := TX11) (N := 22) hx hb hts iX11 hown hK.1 hP 0 rfl rfl 1 (by decide) (hts _ m_524) (fun _ h9 => h9) rfl dX11_quiet_57 ?_
          refine lv_iconst (v := nI 2) hx hb dX11_quiet_60 (by decide +kernel) ?_
          refine lv_iload hx hb dX11_quiet_61 (lv_at hl 5 rfl) ?_
          refine nv_ast hx hb hK hP hD hS 2 rfl (by omega) (by decide) dX11_quiet_63 (fun H locs hP hD hS => ?_)
          have hP : va_P D vwCl [(o, .inr (11, [.ref qj, .ref qt, .ref qf, .ref qp, .int (nI un), .ref qk, .ref qq, .int (nI ku), .int (nI ik), .ref qa, .int (nI tnQ), .int (nI 0), .int (nI lx), .int (nI wx), .int (nI cu), .int (nI fa), .int (nI fat), .ref qs, .ref ql, .ref qm, .ref qi, .ref qe])), aN z qj 31 rQ, aN z qt 31 (uN rQ 2 (jQ + 1))] H := hP
          have hD : va_D A [(o, .inr (11, [.ref qj, .ref qt, .ref qf, .ref qp, .int (nI un), .ref qk, .ref qq, .int (nI ku), .int (nI ik), .ref qa, .int (nI tnQ), .int (nI 0), .int (nI lx), .int (nI wx), .int (nI cu), .int (nI fa), .int (nI fat), .ref qs, .ref ql, .ref qm, .ref qi, .ref qe])), aN z qj 31 rQ, aN z qt 31 (uN rQ 2 (jQ + 1))] := hD
          refine lv_aload_n hx hb dX11_quiet_64 rfl (lv_at hl 0 rfl) ?_
          refine lv_iload_n hx hb dX11_quiet_65 rfl (lv_at hl 1 rfl) ?_
          have hPc := hP.sub (ws' := [(o, .inr (11, [.ref qj, .ref qt, .ref qf, .ref qp, .int (nI un), .ref qk, .ref qq, .int (nI ku), .int (nI ik), .ref qa, .int (nI tnQ), .int (nI 0), .int (nI lx), .int (nI wx), .int (nI cu), .int (nI fa), .int (nI fat), .ref qs, .ref ql, .ref qm, .ref qi, .ref qe])), aN z qt 31 (uN rQ 2 (jQ + 1))]) [0, 2] rfl
          have hDc := hD.sub (ws' := [(o, .inr (11, [.ref qj, .ref qt, .ref qf, .ref qp, .int (nI un), .ref qk, .ref qq, .int (nI ku), .int (nI ik), .ref qa, .int (nI tnQ), .int (nI 0), .int (nI lx), .int (nI wx), .int (nI cu), .int (nI fa), .int (nI fat), .ref qs, .ref ql, .ref qm, .ref qi, .ref qe])), aN z qt 31 (uN rQ 2 (jQ + 1))]) [0, 2] (by decide) rfl
          refine nv_cm0 (wc := [(o, .inr (11, [.ref qj, .ref qt, .ref qf, .ref qp, .int (nI un), .ref qk, .ref qq, .int (nI ku), .int (nI ik), .ref qa, .int (nI tnQ), .int (nI 0), .int (nI lx), .int (nI wx), .int (nI cu), .int (nI fa), .int (nI fat), .ref qs, .ref ql, .ref qm, .ref qi, .ref qe])), aN z qt 31 (uN rQ 2 (jQ + 1))]) (wr := [aN z qj 31 rQ]) (w1 := [(o, .inr (11, [.ref qj, .ref qt, .ref qf, .ref qp, .int (nI un), .ref qk, .ref qq, .int (nI ku), .int (nI ik), .ref qa, .int (nI tnQ), .int (nI 0), .int (nI (laN (uN rQ 2 (jQ + 1)) kQ)), .int (nI (suN (uN rQ 2 (jQ + 1)) kQ)), .int (nI cu), .int (nI fa), .int (nI fat), .ref qs, .ref ql, .ref qm, .ref qi, .ref qe])), aN z qt 31 (wkN (uN rQ 2 (jQ + 1)) kQ)]) (ws1 := [(o, .inr (11, [.ref qj, .ref qt, .ref qf, .ref qp, .int (nI un), .ref qk, .ref qq, .int (nI ku), .int (nI ik), .ref qa, .int (nI tnQ), .int (nI 0), .int (nI (laN (uN rQ 2 (jQ + 1)) kQ)), .int (nI (suN (uN rQ 2 (jQ + 1)) kQ)), .int (nI cu), .int (nI fa), .int (nI fat), .ref qs, .ref ql, .ref qm, .ref qi, .ref qe])), aN z qj 31 rQ, aN z qt 31 (wkN (uN rQ 2 (jQ + 1)) kQ)]) (va_runV (As := [.int (nI kQ)]) (rest := []) ⟨hx, hb, hml, hown, hts⟩ (c_X11_weeksOf l D z H.size w0Q o qj qt qf qp qk qq qa qs ql qm qi qe un ku ik tnQ 0 lx wx cu fa fat (uN rQ 2 (jQ + 1)) kQ hokp (by first | assumption | omega) (by first | assumption | omega)) (cwV 1 hts (gV m_650 m_651 m_652 m_541 m_574) rfl rfl rfl ⟨rfl, hd_X11_weeksOf⟩ ⟨Nat.le_of_ble_eq_true rfl, Nat.le_of_ble_eq_true rfl⟩) (nv_preMV (ci := 11) (q0 := 0) hK hPc hDc trivial rfl rfl) rfl rfl hl.1 rfl (lv_room (Nat.le_of_ble_eq_true rfl)) dX11_quiet_66 ⟨by decide, by decide⟩) hP hD hS hA [0, 2] [1] [1, 0, 2] rfl rfl (by decide) (by decide) rfl (by decide) rfl (by decide) (fun H locs hP hD hS hE66 hz66 hf66 => ?_)
          clear hPc hDc
          clear hf66 hz66
          have hSj : suN (uN rQ 2 (jQ + 1)) kQ < 2147483647 := hSb (jQ + 1)
          refine lv_iload_n hx hb dX11_quiet_69 rfl (lv_at hl 3 rfl) ?_
          refine lv_bipush (v := (-4)) hx hb dX11_quiet_70 (by decide +kernel) ?_
          refine lv_icmp_eq (tgt := 84) hx hb dX11_quiet_72 (by decide) (fun hc72 => ?_) (fun hc72 => ?_)
          · refine lv_iconst (v := nI 1) hx hb dX11_quiet_84 (by decide +kernel) ?_
            refine lv_goto (tgt := 89) hx hb dX11_quiet_85 (by decide) ?_
            refine lv_istore (lv' := [(6, .int (nI 1)), (0, .ref o), (1, .int (nI kQ)), (2, .int (nI k2Q)), (3, .int (mnBm (dS rQ kQ) jQ)), (4, .int (mnXm (dS rQ kQ) jQ)), (5, .int (nI (jQ + 1)))]) hx hb dX11_quiet_89 hl (by decide) rfl (fun ls hl => ?_)
            refine lv_iload hx hb dX11_quiet_91 (lv_at hl 0 rfl) ?_
            refine nv_ifeq (tgt := 101) hx hb (by omega) dX11_quiet_93 (by decide) (fun hc93 => ?_) (fun hc93 => ?_)
            · (exfalso; omega)
            · refine lv_iload hx hb dX11_quiet_96 (lv_at hl 6 rfl) ?_
              refine lv_goto (tgt := 102) hx hb dX11_quiet_98 (by decide) ?_
              refine lv_istore_n (lv' := [(3, .int (nI (jQ + 1))), (6, .int (nI 1)), (0, .ref o), (1, .int (nI kQ)), (2, .int (nI k2Q)), (4, .int (mnXm (dS rQ kQ) jQ)), (5, .int (nI (jQ + 1)))]) hx hb dX11_quiet_102 rfl hl (by decide) rfl (fun ls hl => ?_)
              refine lv_iload hx hb dX11_quiet_103 (lv_at hl 1 rfl) ?_
              refine nv_ifeq (tgt := 115) hx hb (by omega) dX11_quiet_105 (by decide) (fun hc105 => ?_) (fun hc105 => ?_)
              · (exfalso; omega)
              · refine lv_aload_n hx hb dX11_quiet_108 rfl (lv_at hl 2 rfl) ?_
                refine va_get (D := D) (ci := 11) (v := .int (nI (suN (uN rQ 2 (jQ + 1)) kQ))) (C := RX11) (T := TX11) (N := 22) hx hb hts iX11 hown hK.1 hP 0 rfl rfl 13 (by decide) (hts _ m_571) (fun _ h9 => h9) rfl dX11_quiet_109 ?_
                refine lv_goto (tgt := 117) hx hb dX11_quiet_112 (by decide) ?_
                refine lv_istore (lv' := [(4, .int (nI (suN (uN rQ 2 (jQ + 1)) kQ))), (3, .int (nI (jQ + 1))), (6, .int (nI 1)), (0, .ref o), (1, .int (nI kQ)), (2, .int (nI k2Q)), (5, .int (nI (jQ + 1)))]) hx hb dX11_quiet_117 hl (by decide) rfl (fun ls hl => ?_)
                refine lv_iinc (v := nI (jQ + 1 + 1)) (lv' := [(5, .int (nI (jQ + 1 + 1))), (4, .int (nI (suN (uN rQ 2 (jQ + 1)) kQ))), (3, .int (nI (jQ + 1))), (6, .int (nI 1)), (0, .ref o), (1, .int (nI kQ)), (2, .int (nI k2Q))]) hx hb dX11_quiet_119 hl (k := 6) rfl (nI_inc _) (by decide) rfl (fun ls hl => ?_)
                refine lv_goto (tgt := 38) hx hb dX11_quiet_122 (by decide) ?_
                have eN := mn_yes hSb (j := jQ) (by omega) (by first | exact Or.inl hc72 | exact Or.inr (Int32.not_le.mp hc81))
                exact ih38 (jQ + 1, wkN (uN rQ 2 (jQ + 1)) kQ, laN (uN rQ 2 (jQ + 1)) kQ, suN (uN rQ 2 (jQ + 1)) kQ) _ _ _ (by show 100 - (jQ + 1) < 100 - jQ; omega) ⟨jQ + 1, wkN (uN rQ 2 (jQ + 1)) kQ, laN (uN rQ 2 (jQ + 1)) kQ, suN (uN rQ 2 (jQ + 1)) kQ, rfl, (by omega), hP, hD, hS, lv_sub hl [4, 5, 6, 2, 1, 0] (by rw [eN.1, eN.2]; rfl)⟩
          · refine lv_aload_n hx hb dX11_quiet_75 rfl (lv_at hl 0 rfl) ?_
            refine va_get (D := D) (ci := 11) (v := .int (nI (suN (uN rQ 2 (jQ + 1)) kQ))) (C := RX11) (T := TX11) (N := 22) hx hb hts iX11 hown hK.1 hP 0 rfl rfl 13 (by decide) (hts _ m_571) (fun _ h9 => h9) rfl dX11_quiet_76 ?_
            refine lv_iload hx hb dX11_quiet_79 (lv_at hl 4 rfl) ?_
            refine lv_icmp_ge (tgt := 88) hx hb dX11_quiet_81 (by decide) (fun hc81 => ?_) (fun hc81 => ?_)
            · refine lv_iconst (v := nI 0) hx hb dX11_quiet_88 (by decide +kernel) ?_
              refine lv_istore (lv' := [(6, .int (nI 0)), (0, .ref o), (1, .int (nI kQ)), (2, .int (nI k2Q)), (3, .int (mnBm (dS rQ kQ) jQ)), (4, .int (mnXm (dS rQ kQ) jQ)), (5, .int (nI (jQ + 1)))]) hx hb dX11_quiet_89 hl (by decide) rfl (fun ls hl => ?_)
              refine lv_iload hx hb dX11_quiet_91 (lv_at hl 0 rfl) ?_
              refine nv_ifeq (tgt := 101) hx hb (by omega) dX11_quiet_93 (by decide) (fun hc93 => ?_) (fun hc93 => ?_)
              · refine lv_iload_n hx hb dX11_quiet_101 rfl (lv_at hl 4 rfl) ?_
                refine lv_istore_n (lv' := [(3, .int (mnBm (dS rQ kQ) jQ)), (6, .int (nI 0)), (0, .ref o), (1, .int (nI kQ)), (2, .int (nI k2Q)), (4, .int (mnXm (dS rQ kQ) jQ)), (5, .int (nI (jQ + 1)))]) hx hb dX11_quiet_102 rfl hl (by decide) rfl (fun ls hl => ?_)
                refine lv_iload hx hb dX11_quiet_103 (lv_at hl 1 rfl) ?_
                refine nv_ifeq (tgt := 115) hx hb (by omega) dX11_quiet_105 (by decide) (fun hc105 => ?_) (fun hc105 => ?_)
                · refine lv_iload hx hb dX11_quiet_115 (lv_at hl 5 rfl) ?_
                  refine lv_istore (lv' := [(4, .int (mnXm (dS rQ kQ) jQ)), (3, .int (mnBm (dS rQ kQ) jQ)), (6, .int (nI 0)), (0, .ref o), (1, .int (nI kQ)), (2, .int (nI k2Q)), (5, .int (nI (jQ + 1)))]) hx hb dX11_quiet_117 hl (by decide) rfl (fun ls hl => ?_)
                  refine lv_iinc (v := nI (jQ + 1 + 1)) (lv' := [(5, .int (nI (jQ + 1 + 1))), (4, .int (mnXm (dS rQ kQ) jQ)), (3, .int (mnBm (dS rQ kQ) jQ)), (6, .int (nI 0)), (0, .ref o), (1, .int (nI kQ)), (2, .int (nI k2Q))]) hx hb dX11_quiet_119 hl (k := 6) rfl (nI_inc _) (by decide) rfl (fun ls hl => ?_)
                  refine lv_goto (tgt := 38) hx hb dX11_quiet_122 (by decide) ?_
                  have eN := mn_no hSb (j := jQ) (by omega) hc72 hc81
                  exact ih38 (jQ + 1, wkN (uN rQ 2 (jQ + 1)) kQ, laN (uN rQ 2 (jQ + 1)) kQ, suN (uN rQ 2 (jQ + 1)) kQ) _ _ _ (by show 100 - (jQ + 1) < 100 - jQ; omega) ⟨jQ + 1, wkN (uN rQ 2 (jQ + 1)) kQ, laN (uN rQ 2 (jQ + 1)) kQ, suN (uN rQ 2 (jQ + 1)) kQ, rfl, (by omega), hP, hD, hS, lv_sub hl [4, 5, 6, 2, 1, 0] (by rw [eN.1, eN.2]; rfl)⟩
                · (exfalso; omega)
              · (exfalso; omega)
            · refine lv_iconst (v := nI 1) hx hb dX11_quiet_84 (by decide +kernel) ?_
              refine lv_goto (tgt := 89) hx hb dX11_quiet_85 (by decide) ?_
              refine lv_istore (lv' := [(6, .int (nI 1)), (0, .ref o), (1, .int (nI kQ)), (2, .int (nI k2Q)), (3, .int (mnBm (dS rQ kQ) jQ)), (4, .int (mnXm (dS rQ kQ) jQ)), (5, .int (nI (jQ + 1)))]) hx hb dX11_quiet_89 hl (by decide) rfl (fun ls hl => ?_)
              refine lv_iload hx hb dX11_quiet_91 (lv_at hl 0 rfl) ?_
              refine nv_ifeq (tgt := 101) hx hb (by omega) dX11_quiet_93 (by decide) (fun hc93 => ?_) (fun hc93 => ?_)
              · (exfalso; omega)
              · refine lv_iload hx hb dX11_quiet_96 (lv_at hl 6 rfl) ?_
                refine lv_goto (tgt := 102) hx hb dX11_quiet_98 (by decide) ?_
                refine lv_istore_n (lv' := [(3, .int (nI (jQ + 1))), (6, .int (nI 1)), (0, .ref o), (1, .int (nI kQ)), (2, .int (nI k2Q)), (4, .int (mnXm (dS rQ kQ) jQ)), (5, .int (nI (jQ + 1)))]) hx hb dX11_quiet_102 rfl hl (by decide) rfl (fun ls hl => ?_)
                refine lv_iload hx hb dX11_quiet_103 (lv_at hl 1 rfl) ?_
                refine nv_ifeq (tgt := 115) hx hb (by omega) dX11_quiet_105 (by decide) (fun hc105 => ?_) (fun hc105 => ?_)
                · (exfalso; omega)
                · refine lv_aload_n hx hb dX11_quiet_108 rfl (lv_at hl 2 rfl) ?_
                  refine va_get (D := D) (ci := 11) (v := .int (nI (suN (uN rQ 2 (jQ + 1)) kQ))) (C := RX11) (T := TX11) (N := 22) hx hb hts iX11 hown hK.1 hP 0 rfl rfl 13 (by decide) (hts _ m_571) (fun _ h9 => h9) rfl dX11_quiet_109 ?_
                  refine lv_goto (tgt := 117) hx hb dX11_quiet_112 (by decide) ?_
                  refine lv_istore (lv' := [(4, .int (nI (suN (uN rQ 2 (jQ + 1)) kQ))), (3, .int (nI (jQ + 1))), (6, .int (nI 1)), (0, .ref o), (1, .int (nI kQ)), (2, .int (nI k2Q)), (5, .int (nI (jQ + 1)))]) hx hb dX11_quiet_117 hl (by decide) rfl (fun ls hl => ?_)
                  refine lv_iinc (v := nI (jQ + 1 + 1)) (lv' := [(5, .int (nI (jQ + 1 + 1))), (4, .int (nI (suN (uN rQ 2 (jQ + 1)) kQ))), (3, .int (nI (jQ + 1))), (6, .int (nI 1)), (0, .ref o), (1, .int (nI kQ)), (2, .int (nI k2Q))]) hx hb dX11_quiet_119 hl (k := 6) rfl (nI_inc _) (by decide) rfl (fun ls hl => ?_)
                  refine lv_goto (tgt := 38) hx hb dX11_quiet_122 (by decide) ?_
                  have eN := mn_yes hSb (j := jQ) (by omega) (by first | exact Or.inl hc72 | exact Or.inr (Int32.not_le.mp hc81))
                  exact ih38 (jQ + 1, wkN (uN rQ 2 (jQ + 1)) kQ, laN (uN rQ 2 (jQ + 1)) kQ, suN (uN rQ 2 (jQ + 1)) kQ) _ _ _ (by show 100 - (jQ + 1) < 100 - jQ; omega) ⟨jQ + 1, wkN (uN rQ 2 (jQ + 1)) kQ, laN (uN rQ 2 (jQ + 1)) kQ, suN (uN rQ 2 (jQ + 1)) kQ, rfl, (by omega), hP, hD, hS, lv_sub hl [4, 5, 6, 2, 1, 0] (by rw [eN.1, eN.2]; rfl)⟩
      · exact ⟨0, tf, la, wo, rfl, (by omega), hP, hD, hS, lv_sub hl [3, 4, 5, 2, 1, 0] rfl⟩
    · refine lv_iconst (v := (-1)) hx hb dX11_quiet_27 (by decide +kernel) ?_
      obtain rfl := hrel.1 (by first | exact fun q => hc14 q.1 | exact fun q => hc24 q.2)
      exact nv_xi hx hb hr hlocks hS dX11_quiet_28 (tf, la, wo) hP trivial rfl

set_option maxHeartbeats 4000000 in
set_option maxRecDepth 100000 in
theorem c_X11_ends (l : Launch) (D : va_G) (z : Nat → ClassId) (sz : Nat) (w0Q : Nat) (o : Nat) (qj : Nat) (qt : Nat) (qf : Nat) (qp : Nat) (qk : Nat) (qq : Nat) (qa : Nat) (qs : Nat) (ql : Nat) (qm : Nat) (qi : Nat) (qe : Nat) (un : Nat) (ku : Nat) (ik : Nat) (tnQ : Nat) (th : Nat) (la : Nat) (wo : Nat) (cu : Nat) (fa : Nat) (fat : Nat) (rQ : Nat → Nat) (tf : Nat → Nat) (nv : Int32) (vQ : Int32) (hok : rOK w0Q rQ) (hw : w0Q ≤ 10000) (hrel : enRel rQ nv vQ) : CX (σ := (Nat → Nat) × Nat × Nat) l yX11_ends cX11_ends 3 (some .int) 6 140 0 0 [.ref o, .int nv] D z [(o, .inr (11, [.ref qj, .ref qt, .ref qf, .ref qp, .int (nI un), .ref qk, .ref qq, .int (nI ku), .int (nI ik), .ref qa, .int (nI tnQ), .int (nI th), .int (nI la), .int (nI wo), .int (nI cu), .int (nI fa), .int (nI fat), .ref qs, .ref ql, .ref qm, .ref qi, .ref qe])), aN z qj 31 rQ, aN z qt 31 tf] sz (fun _ => True) (fun u => [(o, .inr (11, [.ref qj, .ref qt, .ref qf, .ref qp, .int (nI un), .ref qk, .ref qq, .int (nI ku), .int (nI ik), .ref qa, .int (nI tnQ), .int (nI 0), .int (nI u.2.1), .int (nI u.2.2), .int (nI cu), .int (nI fa), .int (nI fat), .ref qs, .ref ql, .ref qm, .ref qi, .ref qe])), aN z qj 31 rQ, aN z qt 31 u.1]) (some (.int vQ)) (fun _ _ => True) := by
  refine Met.ofW (cc := cX11_ends) (maxL := 3) (ret := (some .int)) (by decide) rfl ?_
  intro pg e s m args below meth c s₁ B hml hv
  obtain ⟨rfl, hsz, hP, hK, hD0, hE⟩ := hv
  have hx := B.exec
  have hb := B.bytes
  have hr := B.returns
  have hts : ∀ w ∈ ALL, w.before _ s = true := fun w h => atoms_spec (ws := wA yX11_ends cX11_ends 3 (some .int)) B.pre w (List.mem_cons_of_mem _ h)
  have hown : s.vm.findClass RX11 = some m.cls := findClass_of_methodNamed B.named
  have hlocks := B.notSynchronized
  subst hsz
  have hD := hD0.self (sz := s.heap.size)
  obtain ⟨o0, o1, o1b, o2, o2b, o3, o4, o5, o6, oP⟩ := id hok
  have hA : ∀ q : Nat, s.heap.size ≤ q → va_A [(o, .inr (11, [.ref qj, .ref qt, .ref qf, .ref qp, .int (nI un), .ref qk, .ref qq, .int (nI ku), .int (nI ik), .ref qa, .int (nI tnQ), .int (nI th), .int (nI la), .int (nI wo), .int (nI cu), .int (nI fa), .int (nI fat), .ref qs, .ref ql, .ref qm, .ref qi, .ref qe])), aN z qj 31 rQ, aN z qt 31 tf] s.heap.size q := fun q h => Or.inr h
  generalize va_A [(o, .inr (11, [.ref qj, .ref qt, .ref qf, .ref qp, .int (nI un), .ref qk, .ref qq, .int (nI ku), .int (nI ik), .ref qa, .int (nI tnQ), .int (nI th), .int (nI la), .int (nI wo), .int (nI cu), .int (nI fa), .int (nI fat), .ref qs, .ref ql, .ref qm, .ref qi, .ref qe])), aN z qj 31 rQ, aN z qt 31 tf] s.heap.size = A at *
  have hS : va_S A s.heap s.heap [] := va_S.rf
  have hl := lv_entry ([.ref o, .int nv]) (n := 3) (Nat.le_of_ble_eq_true rfl)
  rw [lg_entry_eq]
  generalize (lg_sl ([.ref o, .int nv]) ++ List.replicate (3 - (lg_sl ([.ref o, .int nv])).length) Slot.unset).toArray = ls at hl ⊢
  have hl : lv_has ls 3 [(0, .ref o), (1, .int nv)] := hl
  refine lv_aload_n hx hb dX11_ends_0 rfl (lv_at hl 0 rfl) ?_
  refine lv_iconst (v := nI 0) hx hb dX11_ends_1 (by decide +kernel) ?_
  refine va_put (D := D) (ci := 11) (v := .int (nI 0)) (ty := tyX11 11) (C := RX11) (T := TX11) (N := 22) hx hb hts iX11 tyX11 tyX11_ok nmX11 hown hK.1 hP hD hS 0 rfl rfl 11 (by decide) (hts _ m_576) (fun _ h9 => h9) rfl (tyX11_ok 11 (by decide)) rfl rfl (Nat.le_of_ble_eq_true rfl) dX11_ends_2 (fun H locs hP hD hS => ?_)
  have hP : va_P D vwCl [(o, .inr (11, [.ref qj, .ref qt, .ref qf, .ref qp, .int (nI un), .ref qk, .ref qq, .int (nI ku), .int (nI ik), .ref qa, .int (nI tnQ), .int (nI 0), .int (nI la), .int (nI wo), .int (nI cu), .int (nI fa), .int (nI fat), .ref qs, .ref ql, .ref qm, .ref qi, .ref qe])), aN z qj 31 rQ, aN z qt 31 tf] H := hP
  have hD : va_D A [(o, .inr (11, [.ref qj, .ref qt, .ref qf, .ref qp, .int (nI un), .ref qk, .ref qq, .int (nI ku), .int (nI ik), .ref qa, .int (nI tnQ), .int (nI 0), .int (nI la), .int (nI wo), .int (nI cu), .int (nI fa), .int (nI fat), .ref qs, .ref ql, .ref qm, .ref qi, .ref qe])), aN z qj 31 rQ, aN z qt 31 tf] := hD
  refine lv_iload_n hx hb dX11_ends_5 rfl (lv_at hl 1 rfl) ?_
  refine lv_i2l hx hb dX11_ends_6 rfl ?_
  refine lv_lconst (v := 1) hx hb dX11_ends_7 (by decide +kernel) ?_
  refine lv_ldc2 (own := RX11) hx hb hown (hts _ m_579) dX11_ends_8 ?_
  have hPc := hP.sub (ws' := []) [] rfl
  refine nv_cp1 (va_runS (As := [.long nv.toInt64, .long 1, .long (99)]) (rest := []) ⟨hx, hb, hml, hown, hts⟩ (c_X11_in l D z nv.toInt64 1 (99) ) (va_cwS 3 hts (gS m_539 m_540 m_541 m_536) rfl rfl rfl hd_X11_in ⟨Nat.le_of_ble_eq_true rfl, Nat.le_of_ble_eq_true rfl⟩) (nv_preP hK hPc trivial _) rfl rfl hl.1 rfl (lv_room (Nat.le_of_ble_eq_true rfl)) dX11_ends_11 ⟨by decide, by decide⟩) ?_
  refine nv_inwl (a := 1) (b := 99) (by decide) (by decide) ?_
  refine nv_bne (tgt := 19) hx hb dX11_ends_14 (by decide) (fun hc14 => ?_) (fun hc14 => ?_)
  · obtain ⟨kQ, rfl, k0, k1⟩ := wi_nat (b := 99) (by decide) hc14
    refine lv_iconst (v := nI 1) hx hb dX11_ends_19 (by decide +kernel) ?_
    refine lv_istore_n (lv' := [(2, .int (nI 1)), (0, .ref o), (1, .int (nI kQ))]) hx hb dX11_ends_20 rfl hl (by decide) rfl (fun ls hl => ?_)
    refine nv_loop (σ := Nat × (Nat → Nat) × Nat × Nat) (fun x H locs ls => ∃ (jQ : Nat) (tf2 : Nat → Nat) (lx : Nat) (wx : Nat), (jQ, tf2, lx, wx) = x ∧ ((jQ ≤ 100) ∧ (∀ i, i < jQ → dL rQ kQ (i + 1) ≠ 0)) ∧ va_P D vwCl [(o, .inr (11, [.ref qj, .ref qt, .ref qf, .ref qp, .int (nI un), .ref qk, .ref qq, .int (nI ku), .int (nI ik), .ref qa, .int (nI tnQ), .int (nI 0), .int (nI lx), .int (nI wx), .int (nI cu), .int (nI fa), .int (nI fat), .ref qs, .ref ql, .ref qm, .ref qi, .ref qe])), aN z qj 31 rQ, aN z qt 31 tf2] H ∧ va_D A [(o, .inr (11, [.ref qj, .ref qt, .ref qf, .ref qp, .int (nI un), .ref qk, .ref qq, .int (nI ku), .int (nI ik), .ref qa, .int (nI tnQ), .int (nI 0), .int (nI lx), .int (nI wx), .int (nI cu), .int (nI fa), .int (nI fat), .ref qs, .ref ql, .ref qm, .ref qi, .ref qe])), aN z qj 31 rQ, aN z qt 31 tf2] ∧ va_S A s.heap H locs ∧ lv_has ls 3 [(0, .ref o), (1, .int (nI kQ)), (2, .int (nI (jQ + 1)))]) (fun x => 100 - x.1) 21 [] ?_ (0, tf, la, wo) ?_
    · rintro _ H locs ls ⟨jQ, tf2, lx, wx, rfl, ⟨hj, hlo⟩, hP, hD, hS, hl⟩ ih21
      refine lv_iload_n hx hb dX11_ends_21 rfl (lv_at hl 2 rfl) ?_
      refine lv_bipush (v := nI 100) hx hb dX11_ends_22 (by decide +kernel) ?_
      refine nv_gt (tgt := 65) hx hb (by omega) (by omega) dX11_ends_24 (by decide) (fun hc24 => ?_) (fun hc24 => ?_)
      · refine lv_bipush (v := (-4)) hx hb dX11_ends_65 (by decide +kernel) ?_
        obtain rfl := hrel.2.2 kQ rfl (by omega) (by omega) (fun i hiQ => hlo i (by omega))
        exact nv_xi hx hb hr hlocks hS dX11_ends_67 (tf2, lx, wx) hP trivial rfl
      · have hokp := pr_ok (p := jQ + 1) hok (by omega) (by omega)
        refine lv_aload_n hx hb dX11_ends_27 rfl (lv_at hl 0 rfl) ?_
        refine va_get (D := D) (ci := 11) (v := .ref qj) (C := RX11) (T := TX11) (N := 22) hx hb hts iX11 hown hK.1 hP 0 rfl rfl 0 (by decide) (hts _ m_523) (fun _ h9 => h9) rfl dX11_ends_28 ?_
        refine lv_aload_n hx hb dX11_ends_31 rfl (lv_at hl 0 rfl) ?_
        refine va_get (D := D) (ci := 11) (v := .ref qt) (C := RX11) (T := TX11) (N := 22) hx hb hts iX11 hown hK.1 hP 0 rfl rfl 1 (by decide) (hts _ m_524) (fun _ h9 => h9) rfl dX11_ends_32 ?_
        have hPc := hP.sub (ws' := [aN z qj 31 rQ, aN z qt 31 tf2]) [1, 2] rfl
        have hDc := hD.sub (ws' := [aN z qj 31 rQ, aN z qt 31 tf2]) [1, 2] (by decide) rfl
        refine nv_cm0 (wc := [aN z qj 31 rQ, aN z qt 31 tf2]) (wr := [(o, .inr (11, [.ref qj, .ref qt, .ref qf, .ref qp, .int (nI un), .ref qk, .ref qq, .int (nI ku), .int (nI ik), .ref qa, .int (nI tnQ), .int (nI 0), .int (nI lx), .int (nI wx), .int (nI cu), .int (nI fa), .int (nI fat), .ref qs, .ref ql, .ref qm, .ref qi, .ref qe]))]) (w1 := [aN z qj 31 rQ, aN z qt 31 rQ]) (ws1 := [(o, .inr (11, [.ref qj, .ref qt, .ref qf, .ref qp, .int (nI un), .ref qk, .ref qq, .int (nI ku), .int (nI ik), .ref qa, .int (nI tnQ), .int (nI 0), .int (nI lx), .int (nI wx), .int (nI cu), .int (nI fa), .int (nI fat), .ref qs, .ref ql, .ref qm, .ref qi, .ref qe])), aN z qj 31 rQ, aN z qt 31 rQ]) (va_runS (As := [.ref qj, .ref qt]) (rest := []) ⟨hx, hb, hml, hown, hts⟩ (c_X11_lay l D z H.size qj qt rQ tf2 ) (va_cwS 2 hts (gS m_631 m_632 m_541 m_537) rfl rfl rfl hd_X11_lay ⟨Nat.le_of_ble_eq_true rfl, Nat.le_of_ble_eq_true rfl⟩) (nv_preM hK hPc hDc trivial _) rfl rfl hl.1 rfl (lv_room (Nat.le_of_ble_eq_true rfl)) dX11_ends_35 ⟨by decide, by decide⟩) hP hD hS hA [1, 2] [0] [0, 1, 2] rfl rfl (by decide) (by decide) rfl (by decide) rfl (by decide) (fun H locs hP hD hS hE35 hz35 hf35 => ?_)
        clear hPc hDc
        clear hf35 hz35
        refine lv_aload_n hx hb dX11_ends_38 rfl (lv_at hl 0 rfl) ?_
        refine va_get (D := D) (ci := 11) (v := .ref qt) (C := RX11) (T := TX11) (N := 22) hx hb hts iX11 hown hK.1 hP 0 rfl rfl 1 (by decide) (hts _ m_524) (fun _ h9 => h9) rfl dX11_ends_39 ?_
        refine lv_iconst (v := nI 2) hx hb dX11_ends_42 (by decide +kernel) ?_
        refine lv_iload_n hx hb dX11_ends_43 rfl (lv_at hl 2 rfl) ?_
        refine nv_ast hx hb hK hP hD hS 2 rfl (by omega) (by decide) dX11_ends_44 (fun H locs hP hD hS => ?_)
        have hP : va_P D vwCl [(o, .inr (11, [.ref qj, .ref qt, .ref qf, .ref qp, .int (nI un), .ref qk, .ref qq, .int (nI ku), .int (nI ik), .ref qa, .int (nI tnQ), .int (nI 0), .int (nI lx), .int (nI wx), .int (nI cu), .int (nI fa), .int (nI fat), .ref qs, .ref ql, .ref qm, .ref qi, .ref qe])), aN z qj 31 rQ, aN z qt 31 (uN rQ 2 (jQ + 1))] H := hP
        have hD : va_D A [(o, .inr (11, [.ref qj, .ref qt, .ref qf, .ref qp, .int (nI un), .ref qk, .ref qq, .int (nI ku), .int (nI ik), .ref qa, .int (nI tnQ), .int (nI 0), .int (nI lx), .int (nI wx), .int (nI cu), .int (nI fa), .int (nI fat), .ref qs, .ref ql, .ref qm, .ref qi, .ref qe])), aN z qj 31 rQ, aN z qt 31 (uN rQ 2 (jQ + 1))] := hD
        refine lv_aload_n hx hb dX11_ends_45 rfl (lv_at hl 0 rfl) ?_
        refine lv_iload_n hx hb dX11_ends_46 rfl (lv_at hl 1 rfl) ?_
        have hPc := hP.sub (ws' := [(o, .inr (11, [.ref qj, .ref qt, .ref qf, .ref qp, .int (nI un), .ref qk, .ref qq, .int (nI ku), .int (nI ik), .ref qa, .int (nI tnQ), .int (nI 0), .int (nI lx), .int (nI wx), .int (nI cu), .int (nI fa), .int (nI fat), .ref qs, .ref ql, .ref qm, .ref qi, .ref qe])), aN z qt 31 (uN rQ 2 (jQ + 1))]) [0, 2] rfl
        have hDc := hD.sub (ws' := [(o, .inr (11, [.ref qj, .ref qt, .ref qf, .ref qp, .int (nI un), .ref qk, .ref qq, .int (nI ku), .int (nI ik), .ref qa, .int (nI tnQ), .int (nI 0), .int (nI lx), .int (nI wx), .int (nI cu), .int (nI fa), .int (nI fat), .ref qs, .ref ql, .ref qm, .ref qi, .ref qe])), aN z qt 31 (uN rQ 2 (jQ + 1))]) [0, 2] (by decide) rfl
        refine nv_cm0 (wc := [(o, .inr (11, [.ref qj, .ref qt, .ref qf, .ref qp, .int (nI un), .ref qk, .ref qq, .int (nI ku), .int (nI ik), .ref qa, .int (nI tnQ), .int (nI 0), .int (nI lx), .int (nI wx), .int (nI cu), .int (nI fa), .int (nI fat), .ref qs, .ref ql, .ref qm, .ref qi, .ref qe])), aN z qt 31 (uN rQ 2 (jQ + 1))]) (wr := [aN z qj 31 rQ]) (w1 := [(o, .inr (11, [.ref qj, .ref qt, .ref qf, .ref qp, .int (nI un), .ref qk, .ref qq, .int (nI ku), .int (nI ik), .ref qa, .int (nI tnQ), .int (nI 0), .int (nI (laN (uN rQ 2 (jQ + 1)) kQ)), .int (nI (suN (uN rQ 2 (jQ + 1)) kQ)), .int (nI cu), .int (nI fa), .int (nI fat), .ref qs, .ref ql, .ref qm, .ref qi, .ref qe])), aN z qt 31 (wkN (uN rQ 2 (jQ + 1)) kQ)]) (ws1 := [(o, .inr (11, [.ref qj, .ref qt, .ref qf, .ref qp, .int (nI un), .ref qk, .ref qq, .int (nI ku), .int (nI ik), .ref qa, .int (nI tnQ), .int (nI 0), .int (nI (laN (uN rQ 2 (jQ + 1)) kQ)), .int (nI (suN (uN rQ 2 (jQ + 1)) kQ)), .int (nI cu), .int (nI fa), .int (nI fat), .ref qs, .ref ql, .ref qm, .ref qi, .ref qe])), aN z qj 31 rQ, aN z qt 31 (wkN (uN rQ 2 (jQ + 1)) kQ)]) (va_runV (As := [.int (nI kQ)]) (rest := []) ⟨hx, hb, hml, hown, hts⟩ (c_X11_weeksOf l D z H.size w0Q o qj qt qf qp qk qq qa qs ql qm qi qe un ku ik tnQ 0 lx wx cu fa fat (uN rQ 2 (jQ + 1)) kQ hokp (by first | assumption | omega) (by first | assumption | omega)) (cwV 1 hts (gV m_650 m_651 m_652 m_541 m_574) rfl rfl rfl ⟨rfl, hd_X11_weeksOf⟩ ⟨Nat.le_of_ble_eq_true rfl, Nat.le_of_ble_eq_true rfl⟩) (nv_preMV (ci := 11) (q0 := 0) hK hPc hDc trivial rfl rfl) rfl rfl hl.1 rfl (lv_room (Nat.le_of_ble_eq_true rfl)) dX11_ends_47 ⟨by decide, by decide⟩) hP hD hS hA [0, 2] [1] [1, 0, 2] rfl rfl (by decide) (by decide) rfl (by decide) rfl (by decide) (fun H locs hP hD hS hE47 hz47 hf47 => ?_)
        clear hPc hDc
        clear hf47 hz47
        refine lv_aload_n hx hb dX11_ends_50 rfl (lv_at hl 0 rfl) ?_
        refine va_get (D := D) (ci := 11) (v := .int (nI (laN (uN rQ 2 (jQ + 1)) kQ))) (C := RX11) (T := TX11) (N := 22) hx hb hts iX11 hown hK.1 hP 0 rfl rfl 12 (by decide) (hts _ m_570) (fun _ h9 => h9) rfl dX11_ends_51 ?_
        have hLj := laN_le (r := uN rQ 2 (jQ + 1)) kQ (by rw [uN_n _ (by decide)]; exact o6)
        refine nv_ifne (tgt := 59) hx hb (by omega) dX11_ends_54 (by decide) (fun hc54 => ?_) (fun hc54 => ?_)
        · refine lv_iinc (v := nI (jQ + 1 + 1)) (lv' := [(2, .int (nI (jQ + 1 + 1))), (0, .ref o), (1, .int (nI kQ))]) hx hb dX11_ends_59 hl (k := 2) rfl (nI_inc _) (by decide) rfl (fun ls hl => ?_)
          refine lv_goto (tgt := 21) hx hb dX11_ends_62 (by decide) ?_
          exact ih21 (jQ + 1, wkN (uN rQ 2 (jQ + 1)) kQ, laN (uN rQ 2 (jQ + 1)) kQ, suN (uN rQ 2 (jQ + 1)) kQ) _ _ _ (by show 100 - (jQ + 1) < 100 - jQ; omega) ⟨jQ + 1, wkN (uN rQ 2 (jQ + 1)) kQ, laN (uN rQ 2 (jQ + 1)) kQ, suN (uN rQ 2 (jQ + 1)) kQ, rfl, ⟨(by omega), (fun i hiQ => (Nat.lt_succ_iff_lt_or_eq.mp hiQ).elim (hlo i) (fun e9 => by rw [e9]; exact hc54))⟩, hP, hD, hS, lv_sub hl [1, 2, 0] rfl⟩
        · refine lv_iload_n hx hb dX11_ends_57 rfl (lv_at hl 2 rfl) ?_
          obtain rfl := hrel.2.1 kQ jQ rfl (by omega) (by omega) (by omega) hc54 hlo
          exact nv_xi hx hb hr hlocks hS dX11_ends_58 (wkN (uN rQ 2 (jQ + 1)) kQ, laN (uN rQ 2 (jQ + 1)) kQ, suN (uN rQ 2 (jQ + 1)) kQ) hP trivial rfl
    · exact ⟨0, tf, la, wo, rfl, ⟨(by omega), (fun i hiQ => absurd hiQ (Nat.not_lt_zero _))⟩, hP, hD, hS, lv_sub hl [1, 2, 0] rfl⟩
  · refine lv_iconst (v := (-1)) hx hb dX11_ends_17 (by decide +kernel) ?_
    obtain rfl := hrel.1 hc14
    exact nv_xi hx hb hr hlocks hS dX11_ends_18 (tf, la, wo) hP trivial rfl

set_option maxHeartbeats 4000000 in
set_option maxRecDepth 100000 in
theorem c_X11_raised (l : Launch) (D : va_G) (z : Nat → ClassId) (sz : Nat) (w0Q : Nat) (o : Nat) (qj : Nat) (qt : Nat) (qf : Nat) (qp : Nat) (qk : Nat) (qq : Nat) (qa : Nat) (qs : Nat) (ql : Nat) (qm : Nat) (qi : Nat) (qe : Nat) (un : Nat) (ku : Nat) (ik : Nat) (tnQ : Nat) (th : Nat) (la : Nat) (wo : Nat) (cu : Nat) (fa : Nat) (fat : Nat) (rQ : Nat → Nat) (tf : Nat → Nat) (qv : Int32) (nv : Int32) (hv9 : Int32) (vQ : Int32) (hok : rOK w0Q rQ) (hw : w0Q ≤ 10000) (hrel : raRel rQ qv nv hv9 vQ) : CX (σ := (Nat → Nat) × Nat × Nat) l yX11_raised cX11_raised 7 (some .int) 5 118 0 0 [.ref o, .int qv, .int nv, .int hv9] D z [(o, .inr (11, [.ref qj, .ref qt, .ref qf, .ref qp, .int (nI un), .ref qk, .ref qq, .int (nI ku), .int (nI ik), .ref qa, .int (nI tnQ), .int (nI th), .int (nI la), .int (nI wo), .int (nI cu), .int (nI fa), .int (nI fat), .ref qs, .ref ql, .ref qm, .ref qi, .ref qe])), aN z qj 31 rQ, aN z qt 31 tf] sz (fun _ => True) (fun u => [(o, .inr (11, [.ref qj, .ref qt, .ref qf, .ref qp, .int (nI un), .ref qk, .ref qq, .int (nI ku), .int (nI ik), .ref qa, .int (nI tnQ), .int (nI 0), .int (nI u.2.1), .int (nI u.2.2), .int (nI cu), .int (nI fa), .int (nI fat), .ref qs, .ref ql, .ref qm, .ref qi, .ref qe])), aN z qj 31 rQ, aN z qt 31 u.1]) (some (.int vQ)) (fun _ _ => True) := by
  refine Met.ofW (cc := cX11_raised) (maxL := 7) (ret := (some .int)) (by decide) rfl ?_
  intro pg e s m args below meth c s₁ B hml hv
  obtain ⟨rfl, hsz, hP, hK, hD0, hE⟩ := hv
  have hx := B.exec
  have hb := B.bytes
  have hr := B.returns
  have hts : ∀ w ∈ ALL, w.before _ s = true := fun w h => atoms_spec (ws := wA yX11_raised cX11_raised 7 (some .int)) B.pre w (List.mem_cons_of_mem _ h)
  have hown : s.vm.findClass RX11 = some m.cls := findClass_of_methodNamed B.named
  have hlocks := B.notSynchronized
  subst hsz
  have hD := hD0.self (sz := s.heap.size)
  obtain ⟨o0, o1, o1b, o2, o2b, o3, o4, o5, o6, oP⟩ := id hok
  have hA : ∀ q : Nat, s.heap.size ≤ q → va_A [(o, .inr (11, [.ref qj, .ref qt, .ref qf, .ref qp, .int (nI un), .ref qk, .ref qq, .int (nI ku), .int (nI ik), .ref qa, .int (nI tnQ), .int (nI th), .int (nI la), .int (nI wo), .int (nI cu), .int (nI fa), .int (nI fat), .ref qs, .ref ql, .ref qm, .ref qi, .ref qe])), aN z qj 31 rQ, aN z qt 31 tf] s.heap.size q := fun q h => Or.inr h
  generalize va_A [(o, .inr (11, [.ref qj, .ref qt, .ref qf, .ref qp, .int (nI un), .ref qk, .ref qq, .int (nI ku), .int (nI ik), .ref qa, .int (nI tnQ), .int (nI th), .int (nI la), .int (nI wo), .int (nI cu), .int (nI fa), .int (nI fat), .ref qs, .ref ql, .ref qm, .ref qi, .ref qe])), aN z qj 31 rQ, aN z qt 31 tf] s.heap.size = A at *
  have hS : va_S A s.heap s.heap [] := va_S.rf
  have hl := lv_entry ([.ref o, .int qv, .int nv, .int hv9]) (n := 7) (Nat.le_of_ble_eq_true rfl)
  rw [lg_entry_eq]
  generalize (lg_sl ([.ref o, .int qv, .int nv, .int hv9]) ++ List.replicate (7 - (lg_sl ([.ref o, .int qv, .int nv, .int hv9])).length) Slot.unset).toArray = ls at hl ⊢
  have hl : lv_has ls 7 [(0, .ref o), (1, .int qv), (2, .int nv), (3, .int hv9)] := hl
  refine lv_aload_n hx hb dX11_raised_0 rfl (lv_at hl 0 rfl) ?_
  refine lv_iconst (v := nI 0) hx hb dX11_raised_1 (by decide +kernel) ?_
  refine va_put (D := D) (ci := 11) (v := .int (nI 0)) (ty := tyX11 11) (C := RX11) (T := TX11) (N := 22) hx hb hts iX11 tyX11 tyX11_ok nmX11 hown hK.1 hP hD hS 0 rfl rfl 11 (by decide) (hts _ m_576) (fun _ h9 => h9) rfl (tyX11_ok 11 (by decide)) rfl rfl (Nat.le_of_ble_eq_true rfl) dX11_raised_2 (fun H locs hP hD hS => ?_)
  have hP : va_P D vwCl [(o, .inr (11, [.ref qj, .ref qt, .ref qf, .ref qp, .int (nI un), .ref qk, .ref qq, .int (nI ku), .int (nI ik), .ref qa, .int (nI tnQ), .int (nI 0), .int (nI la), .int (nI wo), .int (nI cu), .int (nI fa), .int (nI fat), .ref qs, .ref ql, .ref qm, .ref qi, .ref qe])), aN z qj 31 rQ, aN z qt 31 tf] H := hP
  have hD : va_D A [(o, .inr (11, [.ref qj, .ref qt, .ref qf, .ref qp, .int (nI un), .ref qk, .ref qq, .int (nI ku), .int (nI ik), .ref qa, .int (nI tnQ), .int (nI 0), .int (nI la), .int (nI wo), .int (nI cu), .int (nI fa), .int (nI fat), .ref qs, .ref ql, .ref qm, .ref qi, .ref qe])), aN z qj 31 rQ, aN z qt 31 tf] := hD
  refine lv_iload_n hx hb dX11_raised_5 rfl (lv_at hl 1 rfl) ?_
  refine lv_i2l hx hb dX11_raised_6 rfl ?_
  refine lv_lconst (v := 1) hx hb dX11_raised_7 (by decide +kernel) ?_
  refine lv_ldc2 (own := RX11) hx hb hown (hts _ m_588) dX11_raised_8 ?_
  have hPc := hP.sub (ws' := []) [] rfl
  refine nv_cp1 (va_runS (As := [.long qv.toInt64, .long 1, .long (100)]) (rest := []) ⟨hx, hb, hml, hown, hts⟩ (c_X11_in l D z qv.toInt64 1 (100) ) (va_cwS 3 hts (gS m_539 m_540 m_541 m_536) rfl rfl rfl hd_X11_in ⟨Nat.le_of_ble_eq_true rfl, Nat.le_of_ble_eq_true rfl⟩) (nv_preP hK hPc trivial _) rfl rfl hl.1 rfl (lv_room (Nat.le_of_ble_eq_true rfl)) dX11_raised_11 ⟨by decide, by decide⟩) ?_
  refine nv_inwl (a := 1) (b := 100) (by decide) (by decide) ?_
  refine nv_beq (tgt := 39) hx hb dX11_raised_14 (by decide) (fun hc14 => ?_) (fun hc14 => ?_)
  · refine lv_iconst (v := (-1)) hx hb dX11_raised_39 (by decide +kernel) ?_
    obtain rfl := hrel.1 (by first | exact fun q => hc14 q.1 | exact fun q => hc26 q.2.1 | exact fun q => hc36 q.2.2)
    exact nv_xi hx hb hr hlocks hS dX11_raised_40 (tf, la, wo) hP trivial rfl
  · refine lv_iload_n hx hb dX11_raised_17 rfl (lv_at hl 2 rfl) ?_
    refine lv_i2l hx hb dX11_raised_18 rfl ?_
    refine lv_lconst (v := 0) hx hb dX11_raised_19 (by decide +kernel) ?_
    refine lv_ldc2 (own := RX11) hx hb hown (hts _ m_579) dX11_raised_20 ?_
    have hPc := hP.sub (ws' := []) [] rfl
    refine nv_cp1 (va_runS (As := [.long nv.toInt64, .long 0, .long (99)]) (rest := []) ⟨hx, hb, hml, hown, hts⟩ (c_X11_in l D z nv.toInt64 0 (99) ) (va_cwS 3 hts (gS m_539 m_540 m_541 m_536) rfl rfl rfl hd_X11_in ⟨Nat.le_of_ble_eq_true rfl, Nat.le_of_ble_eq_true rfl⟩) (nv_preP hK hPc trivial _) rfl rfl hl.1 rfl (lv_room (Nat.le_of_ble_eq_true rfl)) dX11_raised_23 ⟨by decide, by decide⟩) ?_
    refine nv_inwl (a := 0) (b := 99) (by decide) (by decide) ?_
    refine nv_beq (tgt := 39) hx hb dX11_raised_26 (by decide) (fun hc26 => ?_) (fun hc26 => ?_)
    · refine lv_iconst (v := (-1)) hx hb dX11_raised_39 (by decide +kernel) ?_
      obtain rfl := hrel.1 (by first | exact fun q => hc14 q.1 | exact fun q => hc26 q.2.1 | exact fun q => hc36 q.2.2)
      exact nv_xi hx hb hr hlocks hS dX11_raised_40 (tf, la, wo) hP trivial rfl
    · refine lv_iload_n hx hb dX11_raised_29 rfl (lv_at hl 3 rfl) ?_
      refine lv_i2l hx hb dX11_raised_30 rfl ?_
      refine lv_lconst (v := 0) hx hb dX11_raised_31 (by decide +kernel) ?_
      refine lv_lconst (v := 1) hx hb dX11_raised_32 (by decide +kernel) ?_
      have hPc := hP.sub (ws' := []) [] rfl
      refine nv_cp1 (va_runS (As := [.long hv9.toInt64, .long 0, .long 1]) (rest := []) ⟨hx, hb, hml, hown, hts⟩ (c_X11_in l D z hv9.toInt64 0 1 ) (va_cwS 3 hts (gS m_539 m_540 m_541 m_536) rfl rfl rfl hd_X11_in ⟨Nat.le_of_ble_eq_true rfl, Nat.le_of_ble_eq_true rfl⟩) (nv_preP hK hPc trivial _) rfl rfl hl.1 rfl (lv_room (Nat.le_of_ble_eq_true rfl)) dX11_raised_33 ⟨by decide, by decide⟩) ?_
      refine nv_inwl (a := 0) (b := 1) (by decide) (by decide) ?_
      refine nv_bne (tgt := 41) hx hb dX11_raised_36 (by decide) (fun hc36 => ?_) (fun hc36 => ?_)
      · obtain ⟨qn, rfl, qn0, qn1⟩ := wi_nat (b := 100) (by decide) hc14
        obtain ⟨kQ, rfl, k0, k1⟩ := wi_nat (b := 99) (by decide) hc26
        obtain ⟨hn, rfl, hn0, hn1⟩ := wi_nat (b := 1) (by decide) hc36
        obtain rfl := hrel.2 qn kQ hn rfl rfl rfl (by omega) (by omega) (by omega) (by omega)
        refine lv_aload_n hx hb dX11_raised_41 rfl (lv_at hl 0 rfl) ?_
        refine va_get (D := D) (ci := 11) (v := .ref qj) (C := RX11) (T := TX11) (N := 22) hx hb hts iX11 hown hK.1 hP 0 rfl rfl 0 (by decide) (hts _ m_523) (fun _ h9 => h9) rfl dX11_raised_42 ?_
        refine lv_aload_n hx hb dX11_raised_45 rfl (lv_at hl 0 rfl) ?_
        refine va_get (D := D) (ci := 11) (v := .ref qt) (C := RX11) (T := TX11) (N := 22) hx hb hts iX11 hown hK.1 hP 0 rfl rfl 1 (by decide) (hts _ m_524) (fun _ h9 => h9) rfl dX11_raised_46 ?_
        have hPc := hP.sub (ws' := [aN z qj 31 rQ, aN z qt 31 tf]) [1, 2] rfl
        have hDc := hD.sub (ws' := [aN z qj 31 rQ, aN z qt 31 tf]) [1, 2] (by decide) rfl
        refine nv_cm0 (wc := [aN z qj 31 rQ, aN z qt 31 tf]) (wr := [(o, .inr (11, [.ref qj, .ref qt, .ref qf, .ref qp, .int (nI un), .ref qk, .ref qq, .int (nI ku), .int (nI ik), .ref qa, .int (nI tnQ), .int (nI 0), .int (nI la), .int (nI wo), .int (nI cu), .int (nI fa), .int (nI fat), .ref qs, .ref ql, .ref qm, .ref qi, .ref qe]))]) (w1 := [aN z qj 31 rQ, aN z qt 31 rQ]) (ws1 := [(o, .inr (11, [.ref qj, .ref qt, .ref qf, .ref qp, .int (nI un), .ref qk, .ref qq, .int (nI ku), .int (nI ik), .ref qa, .int (nI tnQ), .int (nI 0), .int (nI la), .int (nI wo), .int (nI cu), .int (nI fa), .int (nI fat), .ref qs, .ref ql, .ref qm, .ref qi, .ref qe])), aN z qj 31 rQ, aN z qt 31 rQ]) (va_runS (As := [.ref qj, .ref qt]) (rest := []) ⟨hx, hb, hml, hown, hts⟩ (c_X11_lay l D z H.size qj qt rQ tf ) (va_cwS 2 hts (gS m_631 m_632 m_541 m_537) rfl rfl rfl hd_X11_lay ⟨Nat.le_of_ble_eq_true rfl, Nat.le_of_ble_eq_true rfl⟩) (nv_preM hK hPc hDc trivial _) rfl rfl hl.1 rfl (lv_room (Nat.le_of_ble_eq_true rfl)) dX11_raised_49 ⟨by decide, by decide⟩) hP hD hS hA [1, 2] [0] [0, 1, 2] rfl rfl (by decide) (by decide) rfl (by decide) rfl (by decide) (fun H locs hP hD hS hE49 hz49 hf49 => ?_)
        clear hPc hDc
        clear hf49 hz49
        refine lv_iconst (v := nI 0) hx hb dX11_raised_52 (by decide +kernel) ?_
        refine lv_istore (lv' := [(4, .int (nI 0)), (0, .ref o), (1, .int (nI qn)), (2, .int (nI kQ)), (3, .int (nI hn))]) hx hb dX11_raised_53 hl (by decide) rfl (fun ls hl => ?_)
        refine lv_iconst (v := nI 0) hx hb dX11_raised_55 (by decide +kernel) ?_
        refine lv_istore (lv' := [(5, .int (nI 0)), (4, .int (nI 0)), (0, .ref o), (1, .int (nI qn)), (2, .int (nI kQ)), (3, .int (nI hn))]) hx hb dX11_raised_56 hl (by decide) rfl (fun ls hl => ?_)
        refine nv_loop (σ := Nat) (fun x H locs ls => ∃ (jQ : Nat), jQ = x ∧ ((jQ ≤ kQ)) ∧ va_P D vwCl [(o, .inr (11, [.ref qj, .ref qt, .ref qf, .ref qp, .int (nI un), .ref qk, .ref qq, .int (nI ku), .int (nI ik), .ref qa, .int (nI tnQ), .int (nI 0), .int (nI la), .int (nI wo), .int (nI cu), .int (nI fa), .int (nI fat), .ref qs, .ref ql, .ref qm, .ref qi, .ref qe])), aN z qj 31 rQ, aN z qt 31 (raN rQ qn hn jQ)] H ∧ va_D A [(o, .inr (11, [.ref qj, .ref qt, .ref qf, .ref qp, .int (nI un), .ref qk, .ref qq, .int (nI ku), .int (nI ik), .ref qa, .int (nI tnQ), .int (nI 0), .int (nI la), .int (nI wo), .int (nI cu), .int (nI fa), .int (nI fat), .ref qs, .ref ql, .ref qm, .ref qi, .ref qe])), aN z qj 31 rQ, aN z qt 31 (raN rQ qn hn jQ)] ∧ va_S A s.heap H locs ∧ lv_has ls 7 [(0, .ref o), (1, .int (nI qn)), (2, .int (nI kQ)), (3, .int (nI hn)), (4, .int (nI (raS rQ qn hn jQ))), (5, .int (nI jQ))]) (fun x => kQ - x) 58 [] ?_ 0 ?_
        · rintro _ H locs ls ⟨jQ, rfl, hj, hP, hD, hS, hl⟩ ih58
          refine lv_iload hx hb dX11_raised_58 (lv_at hl 5 rfl) ?_
          refine lv_iload_n hx hb dX11_raised_60 rfl (lv_at hl 2 rfl) ?_
          refine nv_ge (tgt := 137) hx hb (by omega) (by omega) dX11_raised_61 (by decide) (fun hc61 => ?_) (fun hc61 => ?_)
          · obtain rfl : kQ = jQ := by omega
            refine lv_iload hx hb dX11_raised_137 (lv_at hl 4 rfl) ?_
            exact nv_xi hx hb hr hlocks hS dX11_raised_139 (raN rQ qn hn kQ, la, wo) hP trivial rfl
          · have hokj := raN_ok (h := hn) jQ hok (show 1 ≤ qn by omega) (by omega)
            have q2 := hokj.2.2.2.2.1
            refine lv_aload_n hx hb dX11_raised_64 rfl (lv_at hl 0 rfl) ?_
            refine va_get (D := D) (ci := 11) (v := .ref qt) (C := RX11) (T := TX11) (N := 22) hx hb hts iX11 hown hK.1 hP 0 rfl rfl 1 (by decide) (hts _ m_524) (fun _ h9 => h9) rfl dX11_raised_65 ?_
            refine lv_iconst (v := nI 2) hx hb dX11_raised_68 (by decide +kernel) ?_
            refine nv_ald hx hb hK hP 2 rfl (by omega) (by decide) dX11_raised_69 ?_
            refine lv_iload_n hx hb dX11_raised_70 rfl (lv_at hl 1 rfl) ?_
            refine nv_join (g2 := F0 m 93 ls [.int (byF ((raN rQ qn hn jQ) 2) qn)]) (fun J1 => ?_) ?_
            · refine nv_ge (tgt := 78) hx hb (by omega) (by omega) dX11_raised_71 (by decide) (fun hc71 => ?_) (fun hc71 => ?_)
              · refine lv_aload_n hx hb dX11_raised_78 rfl (lv_at hl 0 rfl) ?_
                refine va_get (D := D) (ci := 11) (v := .ref qt) (C := RX11) (T := TX11) (N := 22) hx hb hts iX11 hown hK.1 hP 0 rfl rfl 1 (by decide) (hts _ m_524) (fun _ h9 => h9) rfl dX11_raised_79 ?_
                refine lv_iconst (v := nI 2) hx hb dX11_raised_82 (by decide +kernel) ?_
                refine nv_ald hx hb hK hP 2 rfl (by omega) (by decide) dX11_raised_83 ?_
                refine lv_iload_n hx hb dX11_raised_84 rfl (lv_at hl 1 rfl) ?_
                refine nv_le (tgt := 92) hx hb (by omega) (by omega) dX11_raised_85 (by decide) (fun hc85 => ?_) (fun hc85 => ?_)
                · refine lv_iconst (v := nI 0) hx hb dX11_raised_92 (by decide +kernel) ?_
                  have q9 : nI 0 = byF ((raN rQ qn hn jQ) 2) qn := by unfold byF; first | rw [if_pos (by omega)] | rw [if_neg (by omega), if_pos (by omega)] | rw [if_neg (by omega), if_neg (by omega)]
                  exact W.eq (congrArg (fun x9 => F0 m 93 ls (.int x9 :: [])) q9) J1
                · refine lv_iconst (v := (-1)) hx hb dX11_raised_88 (by decide +kernel) ?_
                  refine lv_goto (tgt := 93) hx hb dX11_raised_89 (by decide) ?_
                  have q9 : (-1) = byF ((raN rQ qn hn jQ) 2) qn := by unfold byF; first | rw [if_pos (by omega)] | rw [if_neg (by omega), if_pos (by omega)] | rw [if_neg (by omega), if_neg (by omega)]
                  exact W.eq (congrArg (fun x9 => F0 m 93 ls (.int x9 :: [])) q9) J1
              · refine lv_iconst (v := nI 1) hx hb dX11_raised_74 (by decide +kernel) ?_
                refine lv_goto (tgt := 93) hx hb dX11_raised_75 (by decide) ?_
                have q9 : nI 1 = byF ((raN rQ qn hn jQ) 2) qn := by unfold byF; first | rw [if_pos (by omega)] | rw [if_neg (by omega), if_pos (by omega)] | rw [if_neg (by omega), if_neg (by omega)]
                exact W.eq (congrArg (fun x9 => F0 m 93 ls (.int x9 :: [])) q9) J1
            · refine lv_istore (lv' := [(6, .int (byF ((raN rQ qn hn jQ) 2) qn)), (0, .ref o), (1, .int (nI qn)), (2, .int (nI kQ)), (3, .int (nI hn)), (4, .int (nI (raS rQ qn hn jQ))), (5, .int (nI jQ))]) hx hb dX11_raised_93 hl (by decide) rfl (fun ls hl => ?_)
              refine lv_aload_n hx hb dX11_raised_95 rfl (lv_at hl 1 rfl) ?_
              refine va_get (D := D) (ci := 11) (v := .ref qt) (C := RX11) (T := TX11) (N := 22) hx hb hts iX11 hown hK.1 hP 0 rfl rfl 1 (by decide) (hts _ m_524) (fun _ h9 => h9) rfl dX11_raised_96 ?_
              refine lv_iconst (v := nI 2) hx hb dX11_raised_99 (by decide +kernel) ?_
              refine lv_iload_n hx hb dX11_raised_100 rfl (lv_at hl 4 rfl) ?_
              refine nv_join (g2 := F0 m 117 ls [.int (nI (if hn = 0 then qn else neF ((raN rQ qn hn jQ) 2) qn)), .int (nI 2), .ref qt]) (fun J2 => ?_) ?_
              · refine nv_ifne (tgt := 108) hx hb (by omega) dX11_raised_101 (by decide) (fun hc101 => ?_) (fun hc101 => ?_)
                · refine lv_aload_n hx hb dX11_raised_108 rfl (lv_at hl 1 rfl) ?_
                  refine va_get (D := D) (ci := 11) (v := .ref qt) (C := RX11) (T := TX11) (N := 22) hx hb hts iX11 hown hK.1 hP 0 rfl rfl 1 (by decide) (hts _ m_524) (fun _ h9 => h9) rfl dX11_raised_109 ?_
                  refine lv_iconst (v := nI 2) hx hb dX11_raised_112 (by decide +kernel) ?_
                  refine nv_ald hx hb hK hP 2 rfl (by omega) (by decide) dX11_raised_113 ?_
                  refine lv_iload hx hb dX11_raised_114 (lv_at hl 0 rfl) ?_
                  refine lv_iadd hx hb dX11_raised_116 ?_
                  have q9 : (nI ((raN rQ qn hn jQ) 2)) + (byF ((raN rQ qn hn jQ) 2) qn) = nI (if hn = 0 then qn else neF ((raN rQ qn hn jQ) 2) qn) := by rw [if_neg hc101]; exact byF_eq _ _
                  exact W.eq (congrArg (fun x9 => F0 m 117 ls (.int x9 :: [.int (nI 2), .ref qt])) q9) J2
                · refine lv_iload_n hx hb dX11_raised_104 rfl (lv_at hl 2 rfl) ?_
                  refine lv_goto (tgt := 117) hx hb dX11_raised_105 (by decide) ?_
                  have q9 : qn = if hn = 0 then qn else neF ((raN rQ qn hn jQ) 2) qn := by rw [if_pos hc101]
                  exact W.eq (congrArg (fun x9 => F0 m 117 ls (.int (nI x9) :: [.int (nI 2), .ref qt])) q9) J2
              · refine nv_ast hx hb hK hP hD hS 2 rfl (by omega) (by decide) dX11_raised_117 (fun H locs hP hD hS => ?_)
                have hP : va_P D vwCl [(o, .inr (11, [.ref qj, .ref qt, .ref qf, .ref qp, .int (nI un), .ref qk, .ref qq, .int (nI ku), .int (nI ik), .ref qa, .int (nI tnQ), .int (nI 0), .int (nI la), .int (nI wo), .int (nI cu), .int (nI fa), .int (nI fat), .ref qs, .ref ql, .ref qm, .ref qi, .ref qe])), aN z qj 31 rQ, aN z qt 31 (uN (raN rQ qn hn jQ) 2 (if hn = 0 then qn else neF ((raN rQ qn hn jQ) 2) qn))] H := hP
                have hD : va_D A [(o, .inr (11, [.ref qj, .ref qt, .ref qf, .ref qp, .int (nI un), .ref qk, .ref qq, .int (nI ku), .int (nI ik), .ref qa, .int (nI tnQ), .int (nI 0), .int (nI la), .int (nI wo), .int (nI cu), .int (nI fa), .int (nI fat), .ref qs, .ref ql, .ref qm, .ref qi, .ref qe])), aN z qj 31 rQ, aN z qt 31 (uN (raN rQ qn hn jQ) 2 (if hn = 0 then qn else neF ((raN rQ qn hn jQ) 2) qn))] := hD
                have hP : va_P D vwCl [(o, .inr (11, [.ref qj, .ref qt, .ref qf, .ref qp, .int (nI un), .ref qk, .ref qq, .int (nI ku), .int (nI ik), .ref qa, .int (nI tnQ), .int (nI 0), .int (nI la), .int (nI wo), .int (nI cu), .int (nI fa), .int (nI fat), .ref qs, .ref ql, .ref qm, .ref qi, .ref qe])), aN z qj 31 rQ, aN z qt 31 (raX (raN rQ qn hn jQ) qn hn)] H := hP
                have hD : va_D A [(o, .inr (11, [.ref qj, .ref qt, .ref qf, .ref qp, .int (nI un), .ref qk, .ref qq, .int (nI ku), .int (nI ik), .ref qa, .int (nI tnQ), .int (nI 0), .int (nI la), .int (nI wo), .int (nI cu), .int (nI fa), .int (nI fat), .ref qs, .ref ql, .ref qm, .ref qi, .ref qe])), aN z qj 31 rQ, aN z qt 31 (raX (raN rQ qn hn jQ) qn hn)] := hD
                have hokx := raX_ok (h := hn) hokj (show 1 ≤ qn by omega) (by omega)
                have q3 := hokx.2.2.2.2.2.1
                refine lv_iload hx hb dX11_raised_118 (lv_at hl 5 rfl) ?_
                refine lv_aload_n hx hb dX11_raised_120 rfl (lv_at hl 1 rfl) ?_
                refine va_get (D := D) (ci := 11) (v := .ref qt) (C := RX11) (T := TX11) (N := 22) hx hb hts iX11 hown hK.1 hP 0 rfl rfl 1 (by decide) (hts _ m_524) (fun _ h9 => h9) rfl dX11_raised_121 ?_
                refine lv_iconst (v := nI 0) hx hb dX11_raised_124 (by decide +kernel) ?_
                have hPc := hP.sub (ws' := [aN z qt 31 (raX (raN rQ qn hn jQ) qn hn)]) [2] rfl
                have hDc := hD.sub (ws' := [aN z qt 31 (raX (raN rQ qn hn jQ) qn hn)]) [2] (by decide) rfl
                refine nv_cm1 (wc := [aN z qt 31 (raX (raN rQ qn hn jQ) qn hn)]) (wr := [(o, .inr (11, [.ref qj, .ref qt, .ref qf, .ref qp, .int (nI un), .ref qk, .ref qq, .int (nI ku), .int (nI ik), .ref qa, .int (nI tnQ), .int (nI 0), .int (nI la), .int (nI wo), .int (nI cu), .int (nI fa), .int (nI fat), .ref qs, .ref ql, .ref qm, .ref qi, .ref qe])), aN z qj 31 rQ]) (w1 := [aN z qt 31 (weekR (raX (raN rQ qn hn jQ) qn hn) ((raX (raN rQ qn hn jQ) qn hn) 3))]) (ws1 := [(o, .inr (11, [.ref qj, .ref qt, .ref qf, .ref qp, .int (nI un), .ref qk, .ref qq, .int (nI ku), .int (nI ik), .ref qa, .int (nI tnQ), .int (nI 0), .int (nI la), .int (nI wo), .int (nI cu), .int (nI fa), .int (nI fat), .ref qs, .ref ql, .ref qm, .ref qi, .ref qe])), aN z qj 31 rQ, aN z qt 31 (weekR (raX (raN rQ qn hn jQ) qn hn) ((raX (raN rQ qn hn jQ) qn hn) 3))]) (va_runS (As := [.ref qt, .int (nI 0)]) (rest := [.int (nI (raS rQ qn hn jQ))]) ⟨hx, hb, hml, hown, hts⟩ (c_X11_week l D z H.size (w0Q + jQ) qt (raX (raN rQ qn hn jQ) qn hn) (nI 0) ((raX (raN rQ qn hn jQ) qn hn) 3) hokx (nI_add _ 0) (by omega) (by first | assumption | omega)) (va_cwS 2 hts (gS m_572 m_573 m_541 m_569) rfl rfl rfl hd_X11_week ⟨Nat.le_of_ble_eq_true rfl, Nat.le_of_ble_eq_true rfl⟩) (nv_preM hK hPc hDc trivial _) rfl rfl hl.1 rfl (lv_room (Nat.le_of_ble_eq_true rfl)) dX11_raised_125 ⟨by decide, by decide⟩) hP hD hS hA [2] [0, 1] [0, 1, 2] rfl rfl (by decide) (by decide) rfl (by decide) rfl (by decide) (fun H locs hP hD hS hE125 hz125 hf125 => ?_)
                clear hPc hDc
                clear hf125 hz125
                refine nv_add hx hb dX11_raised_128 ?_
                refine lv_istore (lv' := [(4, .int (nI (raS rQ qn hn jQ + (weekW (raX (raN rQ qn hn jQ) qn hn) ((raX (raN rQ qn hn jQ) qn hn) 3))))), (6, .int (byF ((raN rQ qn hn jQ) 2) qn)), (0, .ref o), (1, .int (nI qn)), (2, .int (nI kQ)), (3, .int (nI hn)), (5, .int (nI jQ))]) hx hb dX11_raised_129 hl (by decide) rfl (fun ls hl => ?_)
                refine lv_iinc (v := nI (jQ + 1)) (lv' := [(5, .int (nI (jQ + 1))), (4, .int (nI (raS rQ qn hn jQ + (weekW (raX (raN rQ qn hn jQ) qn hn) ((raX (raN rQ qn hn jQ) qn hn) 3))))), (6, .int (byF ((raN rQ qn hn jQ) 2) qn)), (0, .ref o), (1, .int (nI qn)), (2, .int (nI kQ)), (3, .int (nI hn))]) hx hb dX11_raised_131 hl (k := 6) rfl (nI_inc _) (by decide) rfl (fun ls hl => ?_)
                refine lv_goto (tgt := 58) hx hb dX11_raised_134 (by decide) ?_
                exact ih58 (jQ + 1) _ _ _ (by omega) ⟨jQ + 1, rfl, (by omega), hP, hD, hS, lv_sub hl [3, 4, 5, 6, 1, 0] rfl⟩
        · exact ⟨0, rfl, (by omega), hP, hD, hS, lv_sub hl [2, 3, 4, 5, 1, 0] rfl⟩
      · refine lv_iconst (v := (-1)) hx hb dX11_raised_39 (by decide +kernel) ?_
        obtain rfl := hrel.1 (by first | exact fun q => hc14 q.1 | exact fun q => hc26 q.2.1 | exact fun q => hc36 q.2.2)
        exact nv_xi hx hb hr hlocks hS dX11_raised_40 (tf, la, wo) hP trivial rfl

set_option maxHeartbeats 4000000 in
set_option maxRecDepth 100000 in
theorem c_X11_image (l : Launch) (D : va_G) (z : Nat → ClassId) (sz : Nat) (o : Nat) (qj : Nat) (qt : Nat) (qf : Nat) (qp : Nat) (qk : Nat) (qq : Nat) (qa : Nat) (qs : Nat) (ql : Nat) (qm : Nat) (qi : Nat) (qe : Nat) (un : Nat) (ku : Nat) (ik : Nat) (tnQ : Nat) (th : Nat) (la : Nat) (wo : Nat) (cu : Nat) (fa : Nat) (fat : Nat) (rQ : Nat → Nat) (kr : Nat → Nat) (psQ : Nat → Nat) (kpQ : Nat → Nat)  : CM l yX11_image cX11_image 2 (some .int) 1 22 0 0 [.ref o] D z [(o, .inr (11, [.ref qj, .ref qt, .ref qf, .ref qp, .int (nI un), .ref qk, .ref qq, .int (nI ku), .int (nI ik), .ref qa, .int (nI tnQ), .int (nI th), .int (nI la), .int (nI wo), .int (nI cu), .int (nI fa), .int (nI fat), .ref qs, .ref ql, .ref qm, .ref qi, .ref qe])), aN z qj 31 rQ, aN z qk 31 kr, aN z qp 72 psQ, aN z qq 72 kpQ] sz (fun _ => True) [(o, .inr (11, [.ref qj, .ref qt, .ref qf, .ref qp, .int (nI un), .ref qk, .ref qq, .int (nI un), .int (nI 1), .ref qa, .int (nI tnQ), .int (nI 0), .int (nI la), .int (nI wo), .int (nI cu), .int (nI fa), .int (nI fat), .ref qs, .ref ql, .ref qm, .ref qi, .ref qe])), aN z qj 31 rQ, aN z qk 31 rQ, aN z qp 72 psQ, aN z qq 72 psQ] (some (.int (nI 1))) (fun _ => True) := by
  refine Met.ofW (cc := cX11_image) (maxL := 2) (ret := (some .int)) (by decide) rfl ?_
  intro pg e s m args below meth c s₁ B hml hv
  obtain ⟨rfl, hsz, hP, hK, hD0, hE⟩ := hv
  have hx := B.exec
  have hb := B.bytes
  have hr := B.returns
  have hts : ∀ w ∈ ALL, w.before _ s = true := fun w h => atoms_spec (ws := wA yX11_image cX11_image 2 (some .int)) B.pre w (List.mem_cons_of_mem _ h)
  have hown : s.vm.findClass RX11 = some m.cls := findClass_of_methodNamed B.named
  have hlocks := B.notSynchronized
  subst hsz
  have hD := hD0.self (sz := s.heap.size)
  have hA : ∀ q : Nat, s.heap.size ≤ q → va_A [(o, .inr (11, [.ref qj, .ref qt, .ref qf, .ref qp, .int (nI un), .ref qk, .ref qq, .int (nI ku), .int (nI ik), .ref qa, .int (nI tnQ), .int (nI th), .int (nI la), .int (nI wo), .int (nI cu), .int (nI fa), .int (nI fat), .ref qs, .ref ql, .ref qm, .ref qi, .ref qe])), aN z qj 31 rQ, aN z qk 31 kr, aN z qp 72 psQ, aN z qq 72 kpQ] s.heap.size q := fun q h => Or.inr h
  generalize va_A [(o, .inr (11, [.ref qj, .ref qt, .ref qf, .ref qp, .int (nI un), .ref qk, .ref qq, .int (nI ku), .int (nI ik), .ref qa, .int (nI tnQ), .int (nI th), .int (nI la), .int (nI wo), .int (nI cu), .int (nI fa), .int (nI fat), .ref qs, .ref ql, .ref qm, .ref qi, .ref qe])), aN z qj 31 rQ, aN z qk 31 kr, aN z qp 72 psQ, aN z qq 72 kpQ] s.heap.size = A at *
  have hS : va_S A s.heap s.heap [] := va_S.rf
  have hl := lv_entry ([.ref o]) (n := 2) (Nat.le_of_ble_eq_true rfl)
  rw [lg_entry_eq]
  generalize (lg_sl ([.ref o]) ++ List.replicate (2 - (lg_sl ([.ref o])).length) Slot.unset).toArray = ls at hl ⊢
  have hl : lv_has ls 2 [(0, .ref o)] := hl
  refine lv_aload_n hx hb dX11_image_0 rfl (lv_at hl 0 rfl) ?_
  refine lv_iconst (v := nI 0) hx hb dX11_image_1 (by decide +kernel) ?_
  refine va_put (D := D) (ci := 11) (v := .int (nI 0)) (ty := tyX11 11) (C := RX11) (T := TX11) (N := 22) hx hb hts iX11 tyX11 tyX11_ok nmX11 hown hK.1 hP hD hS 0 rfl rfl 11 (by decide) (hts _ m_576) (fun _ h9 => h9) rfl (tyX11_ok 11 (by decide)) rfl rfl (Nat.le_of_ble_eq_true rfl) dX11_image_2 (fun H locs hP hD hS => ?_)
  have hP : va_P D vwCl [(o, .inr (11, [.ref qj, .ref qt, .ref qf, .ref qp, .int (nI un), .ref qk, .ref qq, .int (nI ku), .int (nI ik), .ref qa, .int (nI tnQ), .int (nI 0), .int (nI la), .int (nI wo), .int (nI cu), .int (nI fa), .int (nI fat), .ref qs, .ref ql, .ref qm, .ref qi, .ref qe])), aN z qj 31 rQ, aN z qk 31 kr, aN z qp 72 psQ, aN z qq 72 kpQ] H := hP
  have hD : va_D A [(o, .inr (11, [.ref qj, .ref qt, .ref qf, .ref qp, .int (nI un), .ref qk, .ref qq, .int (nI ku), .int (nI ik), .ref qa, .int (nI tnQ), .int (nI 0), .int (nI la), .int (nI wo), .int (nI cu), .int (nI fa), .int (nI fat), .ref qs, .ref ql, .ref qm, .ref qi, .ref qe])), aN z qj 31 rQ, aN z qk 31 kr, aN z qp 72 psQ, aN z qq 72 kpQ] := hD
  refine lv_aload_n hx hb dX11_image_5 rfl (lv_at hl 0 rfl) ?_
  refine va_get (D := D) (ci := 11) (v := .ref qj) (C := RX11) (T := TX11) (N := 22) hx hb hts iX11 hown hK.1 hP 0 rfl rfl 0 (by decide) (hts _ m_523) (fun _ h9 => h9) rfl dX11_image_6 ?_
  refine lv_aload_n hx hb dX11_image_9 rfl (lv_at hl 0 rfl) ?_
  refine va_get (D := D) (ci := 11) (v := .ref qk) (C := RX11) (T := TX11) (N := 22) hx hb hts iX11 hown hK.1 hP 0 rfl rfl 5 (by decide) (hts _ m_527) (fun _ h9 => h9) rfl dX11_image_10 ?_
  have hPc := hP.sub (ws' := [aN z qj 31 rQ, aN z qk 31 kr]) [1, 2] rfl
  have hDc := hD.sub (ws' := [aN z qj 31 rQ, aN z qk 31 kr]) [1, 2] (by decide) rfl
  refine nv_cm0 (wc := [aN z qj 31 rQ, aN z qk 31 kr]) (wr := [(o, .inr (11, [.ref qj, .ref qt, .ref qf, .ref qp, .int (nI un), .ref qk, .ref qq, .int (nI ku), .int (nI ik), .ref qa, .int (nI tnQ), .int (nI 0), .int (nI la), .int (nI wo), .int (nI cu), .int (nI fa), .int (nI fat), .ref qs, .ref ql, .ref qm, .ref qi, .ref qe])), aN z qp 72 psQ, aN z qq 72 kpQ]) (w1 := [aN z qj 31 rQ, aN z qk 31 rQ]) (ws1 := [(o, .inr (11, [.ref qj, .ref qt, .ref qf, .ref qp, .int (nI un), .ref qk, .ref qq, .int (nI ku), .int (nI ik), .ref qa, .int (nI tnQ), .int (nI 0), .int (nI la), .int (nI wo), .int (nI cu), .int (nI fa), .int (nI fat), .ref qs, .ref ql, .ref qm, .ref qi, .ref qe])), aN z qj 31 rQ, aN z qk 31 rQ, aN z qp 72 psQ, aN z qq 72 kpQ]) (va_runS (As := [.ref qj, .ref qk]) (rest := []) ⟨hx, hb, hml, hown, hts⟩ (c_X11_lay l D z H.size qj qk rQ kr ) (va_cwS 2 hts (gS m_631 m_632 m_541 m_537) rfl rfl rfl hd_X11_lay ⟨Nat.le_of_ble_eq_true rfl, Nat.le_of_ble_eq_true rfl⟩) (nv_preM hK hPc hDc trivial _) rfl rfl hl.1 rfl (lv_room (Nat.le_of_ble_eq_true rfl)) dX11_image_13 ⟨by decide, by decide⟩) hP hD hS hA [1, 2] [0, 3, 4] [0, 3, 4, 1, 2] rfl rfl (by decide) (by decide) rfl (by decide) rfl (by decide) (fun H locs hP hD hS hE13 hz13 hf13 => ?_)
  clear hPc hDc
  clear hf13 hz13
  refine lv_iconst (v := nI 0) hx hb dX11_image_16 (by decide +kernel) ?_
  refine lv_istore_n (lv' := [(1, .int (nI 0)), (0, .ref o)]) hx hb dX11_image_17 rfl hl (by decide) rfl (fun ls hl => ?_)
  refine nv_loop (σ := Nat) (fun x H locs ls => ∃ (jQ : Nat), jQ = x ∧ ((jQ ≤ 72)) ∧ va_P D vwCl [(o, .inr (11, [.ref qj, .ref qt, .ref qf, .ref qp, .int (nI un), .ref qk, .ref qq, .int (nI ku), .int (nI ik), .ref qa, .int (nI tnQ), .int (nI 0), .int (nI la), .int (nI wo), .int (nI cu), .int (nI fa), .int (nI fat), .ref qs, .ref ql, .ref qm, .ref qi, .ref qe])), aN z qj 31 rQ, aN z qk 31 rQ, aN z qp 72 psQ, aN z qq 72 (lyF psQ kpQ jQ)] H ∧ va_D A [(o, .inr (11, [.ref qj, .ref qt, .ref qf, .ref qp, .int (nI un), .ref qk, .ref qq, .int (nI ku), .int (nI ik), .ref qa, .int (nI tnQ), .int (nI 0), .int (nI la), .int (nI wo), .int (nI cu), .int (nI fa), .int (nI fat), .ref qs, .ref ql, .ref qm, .ref qi, .ref qe])), aN z qj 31 rQ, aN z qk 31 rQ, aN z qp 72 psQ, aN z qq 72 (lyF psQ kpQ jQ)] ∧ va_S A s.heap H locs ∧ lv_has ls 2 [(0, .ref o), (1, .int (nI jQ))]) (fun x => 72 - x) 18 [] ?_ 0 ?_
  · rintro _ H locs ls ⟨jQ, rfl, hj, hP, hD, hS, hl⟩ ih18
    refine lv_iload_n hx hb dX11_image_18 rfl (lv_at hl 1 rfl) ?_
    refine lv_bipush (v := nI 72) hx hb dX11_image_19 (by decide +kernel) ?_
    refine nv_ge (tgt := 42) hx hb (by omega) (by omega) dX11_image_21 (by decide) (fun hc21 => ?_) (fun hc21 => ?_)
    · obtain rfl : jQ = 72 := by omega
      refine lv_aload_n hx hb dX11_image_42 rfl (lv_at hl 0 rfl) ?_
      refine lv_aload_n hx hb dX11_image_43 rfl (lv_at hl 0 rfl) ?_
      refine va_get (D := D) (ci := 11) (v := .int (nI un)) (C := RX11) (T := TX11) (N := 22) hx hb hts iX11 hown hK.1 hP 0 rfl rfl 4 (by decide) (hts _ m_580) (fun _ h9 => h9) rfl dX11_image_44 ?_
      refine va_put (D := D) (ci := 11) (v := .int (nI un)) (ty := tyX11 7) (C := RX11) (T := TX11) (N := 22) hx hb hts iX11 tyX11 tyX11_ok nmX11 hown hK.1 hP hD hS 0 rfl rfl 7 (by decide) (hts _ m_662) (fun _ h9 => h9) rfl (tyX11_ok 7 (by decide)) rfl rfl (Nat.le_of_ble_eq_true rfl) dX11_image_47 (fun H locs hP hD hS => ?_)
      have hP : va_P D vwCl [(o, .inr (11, [.ref qj, .ref qt, .ref qf, .ref qp, .int (nI un), .ref qk, .ref qq, .int (nI un), .int (nI ik), .ref qa, .int (nI tnQ), .int (nI 0), .int (nI la), .int (nI wo), .int (nI cu), .int (nI fa), .int (nI fat), .ref qs, .ref ql, .ref qm, .ref qi, .ref qe])), aN z qj 31 rQ, aN z qk 31 rQ, aN z qp 72 psQ, aN z qq 72 (lyF psQ kpQ 72)] H := hP
      have hD : va_D A [(o, .inr (11, [.ref qj, .ref qt, .ref qf, .ref qp, .int (nI un), .ref qk, .ref qq, .int (nI un), .int (nI ik), .ref qa, .int (nI tnQ), .int (nI 0), .int (nI la), .int (nI wo), .int (nI cu), .int (nI fa), .int (nI fat), .ref qs, .ref ql, .ref qm, .ref qi, .ref qe])), aN z qj 31 rQ, aN z qk 31 rQ, aN z qp 72 psQ, aN z qq 72 (lyF psQ kpQ 72)] := hD
      refine lv_aload_n hx hb dX11_image_50 rfl (lv_at hl 0 rfl) ?_
      refine lv_iconst (v := nI 1) hx hb dX11_image_51 (by decide +kernel) ?_
      refine va_put (D := D) (ci := 11) (v := .int (nI 1)) (ty := tyX11 8) (C := RX11) (T := TX11) (N := 22) hx hb hts iX11 tyX11 tyX11_ok nmX11 hown hK.1 hP hD hS 0 rfl rfl 8 (by decide) (hts _ m_663) (fun _ h9 => h9) rfl (tyX11_ok 8 (by decide)) rfl rfl (Nat.le_of_ble_eq_true rfl) dX11_image_52 (fun H locs hP hD hS => ?_)
      have hP : va_P D vwCl [(o, .inr (11, [.ref qj, .ref qt, .ref qf, .ref qp, .int (nI un), .ref qk, .ref qq, .int (nI un), .int (nI 1), .ref qa, .int (nI tnQ), .int (nI 0), .int (nI la), .int (nI wo), .int (nI cu), .int (nI fa), .int (nI fat), .ref qs, .ref ql, .ref qm, .ref qi, .ref qe])), aN z qj 31 rQ, aN z qk 31 rQ, aN z qp 72 psQ, aN z qq 72 (lyF psQ kpQ 72)] H := hP
      have hD : va_D A [(o, .inr (11, [.ref qj, .ref qt, .ref qf, .ref qp, .int (nI un), .ref qk, .ref qq, .int (nI un), .int (nI 1), .ref qa, .int (nI tnQ), .int (nI 0), .int (nI la), .int (nI wo), .int (nI cu), .int (nI fa), .int (nI fat), .ref qs, .ref ql, .ref qm, .ref qi, .ref qe])), aN z qj 31 rQ, aN z qk 31 rQ, aN z qp 72 psQ, aN z qq 72 (lyF psQ kpQ 72)] := hD
      refine lv_iconst (v := nI 1) hx hb dX11_image_55 (by decide +kernel) ?_
      exact nv_mi hx hb hr hlocks hS dX11_image_56 (va_P.cg hP 4 rfl (fun i hiQ => by rw [lyF_at, if_pos hiQ])) trivial rfl
    · refine lv_aload_n hx hb dX11_image_24 rfl (lv_at hl 0 rfl) ?_
      refine va_get (D := D) (ci := 11) (v := .ref qq) (C := RX11) (T := TX11) (N := 22) hx hb hts iX11 hown hK.1 hP 0 rfl rfl 6 (by decide) (hts _ m_528) (fun _ h9 => h9) rfl dX11_image_25 ?_
      refine lv_iload_n hx hb dX11_image_28 rfl (lv_at hl 1 rfl) ?_
      refine lv_aload_n hx hb dX11_image_29 rfl (lv_at hl 0 rfl) ?_
      refine va_get (D := D) (ci := 11) (v := .ref qp) (C := RX11) (T := TX11) (N := 22) hx hb hts iX11 hown hK.1 hP 0 rfl rfl 3 (by decide) (hts _ m_526) (fun _ h9 => h9) rfl dX11_image_30 ?_
      refine lv_iload_n hx hb dX11_image_33 rfl (lv_at hl 1 rfl) ?_
      refine nv_ald hx hb hK hP 3 rfl (by omega) (by decide) dX11_image_34 ?_
      refine nv_ast hx hb hK hP hD hS 4 rfl (by omega) (by decide) dX11_image_35 (fun H locs hP hD hS => ?_)
      have hP : va_P D vwCl [(o, .inr (11, [.ref qj, .ref qt, .ref qf, .ref qp, .int (nI un), .ref qk, .ref qq, .int (nI ku), .int (nI ik), .ref qa, .int (nI tnQ), .int (nI 0), .int (nI la), .int (nI wo), .int (nI cu), .int (nI fa), .int (nI fat), .ref qs, .ref ql, .ref qm, .ref qi, .ref qe])), aN z qj 31 rQ, aN z qk 31 rQ, aN z qp 72 psQ, aN z qq 72 (uN (lyF psQ kpQ jQ) jQ (psQ jQ))] H := hP
      have hD : va_D A [(o, .inr (11, [.ref qj, .ref qt, .ref qf, .ref qp, .int (nI un), .ref qk, .ref qq, .int (nI ku), .int (nI ik), .ref qa, .int (nI tnQ), .int (nI 0), .int (nI la), .int (nI wo), .int (nI cu), .int (nI fa), .int (nI fat), .ref qs, .ref ql, .ref qm, .ref qi, .ref qe])), aN z qj 31 rQ, aN z qk 31 rQ, aN z qp 72 psQ, aN z qq 72 (uN (lyF psQ kpQ jQ) jQ (psQ jQ))] := hD
      refine lv_iinc (v := nI (jQ + 1)) (lv' := [(1, .int (nI (jQ + 1))), (0, .ref o)]) hx hb dX11_image_36 hl (k := 1) rfl (nI_inc _) (by decide) rfl (fun ls hl => ?_)
      refine lv_goto (tgt := 18) hx hb dX11_image_39 (by decide) ?_
      exact ih18 (jQ + 1) _ _ _ (by omega) ⟨jQ + 1, rfl, (by omega), hP, hD, hS, lv_sub hl [1, 0] rfl⟩
  · exact ⟨0, rfl, (by omega), hP, hD, hS, lv_sub hl [1, 0] rfl⟩

set_option maxHeartbeats 4000000 in
set_option maxRecDepth 100000 in
theorem c_X11_restore (l : Launch) (D : va_G) (z : Nat → ClassId) (sz : Nat) (o : Nat) (qj : Nat) (qt : Nat) (qf : Nat) (qp : Nat) (qk : Nat) (qq : Nat) (qa : Nat) (qs : Nat) (ql : Nat) (qm : Nat) (qi : Nat) (qe : Nat) (un : Nat) (ku : Nat) (ik : Nat) (tnQ : Nat) (th : Nat) (la : Nat) (wo : Nat) (cu : Nat) (fa : Nat) (fat : Nat) (rQ : Nat → Nat) (kr : Nat → Nat) (psQ : Nat → Nat) (kpQ : Nat → Nat) (r1Q : Nat → Nat) (ps1 : Nat → Nat) (un1 : Nat) (vQ : Int32) (hik : ik ≤ 1) (hrel : reRel rQ psQ un kr kpQ ku ik r1Q ps1 un1 vQ) : CM l yX11_restore cX11_restore 2 (some .int) 1 22 0 0 [.ref o] D z [(o, .inr (11, [.ref qj, .ref qt, .ref qf, .ref qp, .int (nI un), .ref qk, .ref qq, .int (nI ku), .int (nI ik), .ref qa, .int (nI tnQ), .int (nI th), .int (nI la), .int (nI wo), .int (nI cu), .int (nI fa), .int (nI fat), .ref qs, .ref ql, .ref qm, .ref qi, .ref qe])), aN z qj 31 rQ, aN z qk 31 kr, aN z qp 72 psQ, aN z qq 72 kpQ] sz (fun _ => True) [(o, .inr (11, [.ref qj, .ref qt, .ref qf, .ref qp, .int (nI un1), .ref qk, .ref qq, .int (nI ku), .int (nI ik), .ref qa, .int (nI tnQ), .int (nI 0), .int (nI la), .int (nI wo), .int (nI cu), .int (nI fa), .int (nI fat), .ref qs, .ref ql, .ref qm, .ref qi, .ref qe])), aN z qj 31 r1Q, aN z qk 31 kr, aN z qp 72 ps1, aN z qq 72 kpQ] (some (.int vQ)) (fun _ => True) := by
  refine Met.ofW (cc := cX11_restore) (maxL := 2) (ret := (some .int)) (by decide) rfl ?_
  intro pg e s m args below meth c s₁ B hml hv
  obtain ⟨rfl, hsz, hP, hK, hD0, hE⟩ := hv
  have hx := B.exec
  have hb := B.bytes
  have hr := B.returns
  have hts : ∀ w ∈ ALL, w.before _ s = true := fun w h => atoms_spec (ws := wA yX11_restore cX11_restore 2 (some .int)) B.pre w (List.mem_cons_of_mem _ h)
  have hown : s.vm.findClass RX11 = some m.cls := findClass_of_methodNamed B.named
  have hlocks := B.notSynchronized
  subst hsz
  have hD := hD0.self (sz := s.heap.size)
  have hA : ∀ q : Nat, s.heap.size ≤ q → va_A [(o, .inr (11, [.ref qj, .ref qt, .ref qf, .ref qp, .int (nI un), .ref qk, .ref qq, .int (nI ku), .int (nI ik), .ref qa, .int (nI tnQ), .int (nI th), .int (nI la), .int (nI wo), .int (nI cu), .int (nI fa), .int (nI fat), .ref qs, .ref ql, .ref qm, .ref qi, .ref qe])), aN z qj 31 rQ, aN z qk 31 kr, aN z qp 72 psQ, aN z qq 72 kpQ] s.heap.size q := fun q h => Or.inr h
  generalize va_A [(o, .inr (11, [.ref qj, .ref qt, .ref qf, .ref qp, .int (nI un), .ref qk, .ref qq, .int (nI ku), .int (nI ik), .ref qa, .int (nI tnQ), .int (nI th), .int (nI la), .int (nI wo), .int (nI cu), .int (nI fa), .int (nI fat), .ref qs, .ref ql, .ref qm, .ref qi, .ref qe])), aN z qj 31 rQ, aN z qk 31 kr, aN z qp 72 psQ, aN z qq 72 kpQ] s.heap.size = A at *
  have hS : va_S A s.heap s.heap [] := va_S.rf
  have hl := lv_entry ([.ref o]) (n := 2) (Nat.le_of_ble_eq_true rfl)
  rw [lg_entry_eq]
  generalize (lg_sl ([.ref o]) ++ List.replicate (2 - (lg_sl ([.ref o])).length) Slot.unset).toArray = ls at hl ⊢
  have hl : lv_has ls 2 [(0, .ref o)] := hl
  refine lv_aload_n hx hb dX11_restore_0 rfl (lv_at hl 0 rfl) ?_
  refine lv_iconst (v := nI 0) hx hb dX11_restore_1 (by decide +kernel) ?_
  refine va_put (D := D) (ci := 11) (v := .int (nI 0)) (ty := tyX11 11) (C := RX11) (T := TX11) (N := 22) hx hb hts iX11 tyX11 tyX11_ok nmX11 hown hK.1 hP hD hS 0 rfl rfl 11 (by decide) (hts _ m_576) (fun _ h9 => h9) rfl (tyX11_ok 11 (by decide)) rfl rfl (Nat.le_of_ble_eq_true rfl) dX11_restore_2 (fun H locs hP hD hS => ?_)
  have hP : va_P D vwCl [(o, .inr (11, [.ref qj, .ref qt, .ref qf, .ref qp, .int (nI un), .ref qk, .ref qq, .int (nI ku), .int (nI ik), .ref qa, .int (nI tnQ), .int (nI 0), .int (nI la), .int (nI wo), .int (nI cu), .int (nI fa), .int (nI fat), .ref qs, .ref ql, .ref qm, .ref qi, .ref qe])), aN z qj 31 rQ, aN z qk 31 kr, aN z qp 72 psQ, aN z qq 72 kpQ] H := hP
  have hD : va_D A [(o, .inr (11, [.ref qj, .ref qt, .ref qf, .ref qp, .int (nI un), .ref qk, .ref qq, .int (nI ku), .int (nI ik), .ref qa, .int (nI tnQ), .int (nI 0), .int (nI la), .int (nI wo), .int (nI cu), .int (nI fa), .int (nI fat), .ref qs, .ref ql, .ref qm, .ref qi, .ref qe])), aN z qj 31 rQ, aN z qk 31 kr, aN z qp 72 psQ, aN z qq 72 kpQ] := hD
  refine lv_aload_n hx hb dX11_restore_5 rfl (lv_at hl 0 rfl) ?_
  refine va_get (D := D) (ci := 11) (v := .int (nI ik)) (C := RX11) (T := TX11) (N := 22) hx hb hts iX11 hown hK.1 hP 0 rfl rfl 8 (by decide) (hts _ m_663) (fun _ h9 => h9) rfl dX11_restore_6 ?_
  refine nv_ifne (tgt := 15) hx hb (by omega) dX11_restore_9 (by decide) (fun hc9 => ?_) (fun hc9 => ?_)
  · obtain ⟨e1, e2, e3, rfl⟩ := hrel.2 hc9
    obtain rfl := e1.symm
    obtain rfl := e2.symm
    obtain rfl := e3.symm
    refine lv_aload_n hx hb dX11_restore_15 rfl (lv_at hl 0 rfl) ?_
    refine va_get (D := D) (ci := 11) (v := .ref qk) (C := RX11) (T := TX11) (N := 22) hx hb hts iX11 hown hK.1 hP 0 rfl rfl 5 (by decide) (hts _ m_527) (fun _ h9 => h9) rfl dX11_restore_16 ?_
    refine lv_aload_n hx hb dX11_restore_19 rfl (lv_at hl 0 rfl) ?_
    refine va_get (D := D) (ci := 11) (v := .ref qj) (C := RX11) (T := TX11) (N := 22) hx hb hts iX11 hown hK.1 hP 0 rfl rfl 0 (by decide) (hts _ m_523) (fun _ h9 => h9) rfl dX11_restore_20 ?_
    have hPc := hP.sub (ws' := [aN z qk 31 kr, aN z qj 31 rQ]) [2, 1] rfl
    have hDc := hD.sub (ws' := [aN z qk 31 kr, aN z qj 31 rQ]) [2, 1] (by decide) rfl
    refine nv_cm0 (wc := [aN z qk 31 kr, aN z qj 31 rQ]) (wr := [(o, .inr (11, [.ref qj, .ref qt, .ref qf, .ref qp, .int (nI un), .ref qk, .ref qq, .int (nI ku), .int (nI ik), .ref qa, .int (nI tnQ), .int (nI 0), .int (nI la), .int (nI wo), .int (nI cu), .int (nI fa), .int (nI fat), .ref qs, .ref ql, .ref qm, .ref qi, .ref qe])), aN z qp 72 psQ, aN z qq 72 kpQ]) (w1 := [aN z qk 31 kr, aN z qj 31 kr]) (ws1 := [(o, .inr (11, [.ref qj, .ref qt, .ref qf, .ref qp, .int (nI un), .ref qk, .ref qq, .int (nI ku), .int (nI ik), .ref qa, .int (nI tnQ), .int (nI 0), .int (nI la), .int (nI wo), .int (nI cu), .int (nI fa), .int (nI fat), .ref qs, .ref ql, .ref qm, .ref qi, .ref qe])), aN z qj 31 kr, aN z qk 31 kr, aN z qp 72 psQ, aN z qq 72 kpQ]) (va_runS (As := [.ref qk, .ref qj]) (rest := []) ⟨hx, hb, hml, hown, hts⟩ (c_X11_lay l D z H.size qk qj kr rQ ) (va_cwS 2 hts (gS m_631 m_632 m_541 m_537) rfl rfl rfl hd_X11_lay ⟨Nat.le_of_ble_eq_true rfl, Nat.le_of_ble_eq_true rfl⟩) (nv_preM hK hPc hDc trivial _) rfl rfl hl.1 rfl (lv_room (Nat.le_of_ble_eq_true rfl)) dX11_restore_23 ⟨by decide, by decide⟩) hP hD hS hA [2, 1] [0, 3, 4] [0, 4, 3, 1, 2] rfl rfl (by decide) (by decide) rfl (by decide) rfl (by decide) (fun H locs hP hD hS hE23 hz23 hf23 => ?_)
    clear hPc hDc
    clear hf23 hz23
    refine lv_iconst (v := nI 0) hx hb dX11_restore_26 (by decide +kernel) ?_
    refine lv_istore_n (lv' := [(1, .int (nI 0)), (0, .ref o)]) hx hb dX11_restore_27 rfl hl (by decide) rfl (fun ls hl => ?_)
    refine nv_loop (σ := Nat) (fun x H locs ls => ∃ (jQ : Nat), jQ = x ∧ ((jQ ≤ 72)) ∧ va_P D vwCl [(o, .inr (11, [.ref qj, .ref qt, .ref qf, .ref qp, .int (nI un), .ref qk, .ref qq, .int (nI ku), .int (nI ik), .ref qa, .int (nI tnQ), .int (nI 0), .int (nI la), .int (nI wo), .int (nI cu), .int (nI fa), .int (nI fat), .ref qs, .ref ql, .ref qm, .ref qi, .ref qe])), aN z qj 31 kr, aN z qk 31 kr, aN z qp 72 (lyF kpQ psQ jQ), aN z qq 72 kpQ] H ∧ va_D A [(o, .inr (11, [.ref qj, .ref qt, .ref qf, .ref qp, .int (nI un), .ref qk, .ref qq, .int (nI ku), .int (nI ik), .ref qa, .int (nI tnQ), .int (nI 0), .int (nI la), .int (nI wo), .int (nI cu), .int (nI fa), .int (nI fat), .ref qs, .ref ql, .ref qm, .ref qi, .ref qe])), aN z qj 31 kr, aN z qk 31 kr, aN z qp 72 (lyF kpQ psQ jQ), aN z qq 72 kpQ] ∧ va_S A s.heap H locs ∧ lv_has ls 2 [(0, .ref o), (1, .int (nI jQ))]) (fun x => 72 - x) 28 [] ?_ 0 ?_
    · rintro _ H locs ls ⟨jQ, rfl, hj, hP, hD, hS, hl⟩ ih28
      refine lv_iload_n hx hb dX11_restore_28 rfl (lv_at hl 1 rfl) ?_
      refine lv_bipush (v := nI 72) hx hb dX11_restore_29 (by decide +kernel) ?_
      refine nv_ge (tgt := 52) hx hb (by omega) (by omega) dX11_restore_31 (by decide) (fun hc31 => ?_) (fun hc31 => ?_)
      · obtain rfl : jQ = 72 := by omega
        refine lv_aload_n hx hb dX11_restore_52 rfl (lv_at hl 0 rfl) ?_
        refine lv_aload_n hx hb dX11_restore_53 rfl (lv_at hl 0 rfl) ?_
        refine va_get (D := D) (ci := 11) (v := .int (nI ku)) (C := RX11) (T := TX11) (N := 22) hx hb hts iX11 hown hK.1 hP 0 rfl rfl 7 (by decide) (hts _ m_662) (fun _ h9 => h9) rfl dX11_restore_54 ?_
        refine va_put (D := D) (ci := 11) (v := .int (nI ku)) (ty := tyX11 4) (C := RX11) (T := TX11) (N := 22) hx hb hts iX11 tyX11 tyX11_ok nmX11 hown hK.1 hP hD hS 0 rfl rfl 4 (by decide) (hts _ m_580) (fun _ h9 => h9) rfl (tyX11_ok 4 (by decide)) rfl rfl (Nat.le_of_ble_eq_true rfl) dX11_restore_57 (fun H locs hP hD hS => ?_)
        have hP : va_P D vwCl [(o, .inr (11, [.ref qj, .ref qt, .ref qf, .ref qp, .int (nI ku), .ref qk, .ref qq, .int (nI ku), .int (nI ik), .ref qa, .int (nI tnQ), .int (nI 0), .int (nI la), .int (nI wo), .int (nI cu), .int (nI fa), .int (nI fat), .ref qs, .ref ql, .ref qm, .ref qi, .ref qe])), aN z qj 31 kr, aN z qk 31 kr, aN z qp 72 (lyF kpQ psQ 72), aN z qq 72 kpQ] H := hP
        have hD : va_D A [(o, .inr (11, [.ref qj, .ref qt, .ref qf, .ref qp, .int (nI ku), .ref qk, .ref qq, .int (nI ku), .int (nI ik), .ref qa, .int (nI tnQ), .int (nI 0), .int (nI la), .int (nI wo), .int (nI cu), .int (nI fa), .int (nI fat), .ref qs, .ref ql, .ref qm, .ref qi, .ref qe])), aN z qj 31 kr, aN z qk 31 kr, aN z qp 72 (lyF kpQ psQ 72), aN z qq 72 kpQ] := hD
        refine lv_iconst (v := nI 1) hx hb dX11_restore_60 (by decide +kernel) ?_
        exact nv_mi hx hb hr hlocks hS dX11_restore_61 (va_P.cg hP 3 rfl (fun i hiQ => by rw [lyF_at, if_pos hiQ])) trivial rfl
      · refine lv_aload_n hx hb dX11_restore_34 rfl (lv_at hl 0 rfl) ?_
        refine va_get (D := D) (ci := 11) (v := .ref qp) (C := RX11) (T := TX11) (N := 22) hx hb hts iX11 hown hK.1 hP 0 rfl rfl 3 (by decide) (hts _ m_526) (fun _ h9 => h9) rfl dX11_restore_35 ?_
        refine lv_iload_n hx hb dX11_restore_38 rfl (lv_at hl 1 rfl) ?_
        refine lv_aload_n hx hb dX11_restore_39 rfl (lv_at hl 0 rfl) ?_
        refine va_get (D := D) (ci := 11) (v := .ref qq) (C := RX11) (T := TX11) (N := 22) hx hb hts iX11 hown hK.1 hP 0 rfl rfl 6 (by decide) (hts _ m_528) (fun _ h9 => h9) rfl dX11_restore_40 ?_
        refine lv_iload_n hx hb dX11_restore_43 rfl (lv_at hl 1 rfl) ?_
        refine nv_ald hx hb hK hP 4 rfl (by omega) (by decide) dX11_restore_44 ?_
        refine nv_ast hx hb hK hP hD hS 3 rfl (by omega) (by decide) dX11_restore_45 (fun H locs hP hD hS => ?_)
        have hP : va_P D vwCl [(o, .inr (11, [.ref qj, .ref qt, .ref qf, .ref qp, .int (nI un), .ref qk, .ref qq, .int (nI ku), .int (nI ik), .ref qa, .int (nI tnQ), .int (nI 0), .int (nI la), .int (nI wo), .int (nI cu), .int (nI fa), .int (nI fat), .ref qs, .ref ql, .ref qm, .ref qi, .ref qe])), aN z qj 31 kr, aN z qk 31 kr, aN z qp 72 (uN (lyF kpQ psQ jQ) jQ (kpQ jQ)), aN z qq 72 kpQ] H := hP
        have hD : va_D A [(o, .inr (11, [.ref qj, .ref qt, .ref qf, .ref qp, .int (nI un), .ref qk, .ref qq, .int (nI ku), .int (nI ik), .ref qa, .int (nI tnQ), .int (nI 0), .int (nI la), .int (nI wo), .int (nI cu), .int (nI fa), .int (nI fat), .ref qs, .ref ql, .ref qm, .ref qi, .ref qe])), aN z qj 31 kr, aN z qk 31 kr, aN z qp 72 (uN (lyF kpQ psQ jQ) jQ (kpQ jQ)), aN z qq 72 kpQ] := hD
        refine lv_iinc (v := nI (jQ + 1)) (lv' := [(1, .int (nI (jQ + 1))), (0, .ref o)]) hx hb dX11_restore_46 hl (k := 1) rfl (nI_inc _) (by decide) rfl (fun ls hl => ?_)
        refine lv_goto (tgt := 28) hx hb dX11_restore_49 (by decide) ?_
        exact ih28 (jQ + 1) _ _ _ (by omega) ⟨jQ + 1, rfl, (by omega), hP, hD, hS, lv_sub hl [1, 0] rfl⟩
    · exact ⟨0, rfl, (by omega), hP, hD, hS, lv_sub hl [1, 0] rfl⟩
  · refine lv_bipush (v := (-4)) hx hb dX11_restore_12 (by decide +kernel) ?_
    obtain ⟨rfl, rfl, rfl, rfl⟩ := hrel.1 hc9
    exact nv_mi hx hb hr hlocks hS dX11_restore_14 hP trivial rfl
