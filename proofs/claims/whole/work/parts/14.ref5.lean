set_option maxHeartbeats 4000000 in
set_option maxRecDepth 100000 in
theorem c_X11_hoped (l : Launch) (D : va_G) (z : Nat → ClassId) (sz : Nat) (w0Q : Nat) (o : Nat) (qj : Nat) (qt : Nat) (qf : Nat) (qp : Nat) (qk : Nat) (qq : Nat) (qa : Nat) (qs : Nat) (ql : Nat) (qm : Nat) (qi : Nat) (qe : Nat) (un : Nat) (ku : Nat) (ik : Nat) (tnQ : Nat) (th : Nat) (la : Nat) (wo : Nat) (cu : Nat) (fa : Nat) (fat : Nat) (rQ : Nat → Nat) (tf : Nat → Nat) (nv : Int32) (wh : Int32) (vQ : Int32) (hok : rOK w0Q rQ) (hw : w0Q ≤ 10000) (hrel : hedRel rQ nv wh vQ) : CX (σ := (Nat → Nat) × Nat × Nat) l yX11_hoped cX11_hoped 8 (some .int) 6 140 0 0 [.ref o, .int nv, .int wh] D z [(o, .inr (11, [.ref qj, .ref qt, .ref qf, .ref qp, .int (nI un), .ref qk, .ref qq, .int (nI ku), .int (nI ik), .ref qa, .int (nI tnQ), .int (nI th), .int (nI la), .int (nI wo), .int (nI cu), .int (nI fa), .int (nI fat), .ref qs, .ref ql, .ref qm, .ref qi, .ref qe])), aN z qj 31 rQ, aN z qt 31 tf] sz (fun _ => True) (fun u => [(o, .inr (11, [.ref qj, .ref qt, .ref qf, .ref qp, .int (nI un), .ref qk, .ref qq, .int (nI ku), .int (nI ik), .ref qa, .int (nI tnQ), .int (nI 0), .int (nI u.2.1), .int (nI u.2.2), .int (nI cu), .int (nI fa), .int (nI fat), .ref qs, .ref ql, .ref qm, .ref qi, .ref qe])), aN z qj 31 rQ, aN z qt 31 u.1]) (some (.int vQ)) (fun _ _ => True) := by
  refine Met.ofW (cc := cX11_hoped) (maxL := 8) (ret := (some .int)) (by decide) rfl ?_
  intro pg e s m args below meth c s₁ B hml hv
  obtain ⟨rfl, hsz, hP, hK, hD0, hE⟩ := hv
  have hx := B.exec
  have hb := B.bytes
  have hr := B.returns
  have hts : ∀ w ∈ ALL, w.before _ s = true := fun w h => atoms_spec (ws := wA yX11_hoped cX11_hoped 8 (some .int)) B.pre w (List.mem_cons_of_mem _ h)
  have hown : s.vm.findClass RX11 = some m.cls := findClass_of_methodNamed B.named
  have hlocks := B.notSynchronized
  subst hsz
  have hD := hD0.self (sz := s.heap.size)
  obtain ⟨o0, o1, o1b, o2, o2b, o3, o4, o5, o6, oP⟩ := id hok
  have hch : chF rQ (rQ 6) < 64 := chF_64 o6
  have hA : ∀ q : Nat, s.heap.size ≤ q → va_A [(o, .inr (11, [.ref qj, .ref qt, .ref qf, .ref qp, .int (nI un), .ref qk, .ref qq, .int (nI ku), .int (nI ik), .ref qa, .int (nI tnQ), .int (nI th), .int (nI la), .int (nI wo), .int (nI cu), .int (nI fa), .int (nI fat), .ref qs, .ref ql, .ref qm, .ref qi, .ref qe])), aN z qj 31 rQ, aN z qt 31 tf] s.heap.size q := fun q h => Or.inr h
  generalize va_A [(o, .inr (11, [.ref qj, .ref qt, .ref qf, .ref qp, .int (nI un), .ref qk, .ref qq, .int (nI ku), .int (nI ik), .ref qa, .int (nI tnQ), .int (nI th), .int (nI la), .int (nI wo), .int (nI cu), .int (nI fa), .int (nI fat), .ref qs, .ref ql, .ref qm, .ref qi, .ref qe])), aN z qj 31 rQ, aN z qt 31 tf] s.heap.size = A at *
  have hS : va_S A s.heap s.heap [] := va_S.rf
  have hl := lv_entry ([.ref o, .int nv, .int wh]) (n := 8) (Nat.le_of_ble_eq_true rfl)
  rw [lg_entry_eq]
  generalize (lg_sl ([.ref o, .int nv, .int wh]) ++ List.replicate (8 - (lg_sl ([.ref o, .int nv, .int wh])).length) Slot.unset).toArray = ls at hl ⊢
  have hl : lv_has ls 8 [(0, .ref o), (1, .int nv), (2, .int wh)] := hl
  refine lv_aload_n hx hb dX11_hoped_0 rfl (lv_at hl 0 rfl) ?_
  refine lv_iconst (v := nI 0) hx hb dX11_hoped_1 (by decide +kernel) ?_
  refine va_put (D := D) (ci := 11) (v := .int (nI 0)) (ty := tyX11 11) (C := RX11) (T := TX11) (N := 22) hx hb hts iX11 tyX11 tyX11_ok nmX11 hown hK.1 hP hD hS 0 rfl rfl 11 (by decide) (hts _ m_576) (fun _ h9 => h9) rfl (tyX11_ok 11 (by decide)) rfl rfl (Nat.le_of_ble_eq_true rfl) dX11_hoped_2 (fun H locs hP hD hS => ?_)
  have hP : va_P D vwCl [(o, .inr (11, [.ref qj, .ref qt, .ref qf, .ref qp, .int (nI un), .ref qk, .ref qq, .int (nI ku), .int (nI ik), .ref qa, .int (nI tnQ), .int (nI 0), .int (nI la), .int (nI wo), .int (nI cu), .int (nI fa), .int (nI fat), .ref qs, .ref ql, .ref qm, .ref qi, .ref qe])), aN z qj 31 rQ, aN z qt 31 tf] H := hP
  have hD : va_D A [(o, .inr (11, [.ref qj, .ref qt, .ref qf, .ref qp, .int (nI un), .ref qk, .ref qq, .int (nI ku), .int (nI ik), .ref qa, .int (nI tnQ), .int (nI 0), .int (nI la), .int (nI wo), .int (nI cu), .int (nI fa), .int (nI fat), .ref qs, .ref ql, .ref qm, .ref qi, .ref qe])), aN z qj 31 rQ, aN z qt 31 tf] := hD
  refine lv_iload_n hx hb dX11_hoped_5 rfl (lv_at hl 1 rfl) ?_
  refine lv_i2l hx hb dX11_hoped_6 rfl ?_
  refine lv_lconst (v := 0) hx hb dX11_hoped_7 (by decide +kernel) ?_
  refine lv_ldc2 (own := RX11) hx hb hown (hts _ m_579) dX11_hoped_8 ?_
  have hPc := hP.sub (ws' := []) [] rfl
  refine nv_cp1 (va_runS (As := [.long nv.toInt64, .long 0, .long (99)]) (rest := []) ⟨hx, hb, hml, hown, hts⟩ (c_X11_in l D z nv.toInt64 0 (99) ) (va_cwS 3 hts (gS m_539 m_540 m_541 m_536) rfl rfl rfl hd_X11_in ⟨Nat.le_of_ble_eq_true rfl, Nat.le_of_ble_eq_true rfl⟩) (nv_preP hK hPc trivial _) rfl rfl hl.1 rfl (lv_room (Nat.le_of_ble_eq_true rfl)) dX11_hoped_11 ⟨by decide, by decide⟩) ?_
  refine nv_inwl (a := 0) (b := 99) (by decide) (by decide) ?_
  refine nv_beq (tgt := 27) hx hb dX11_hoped_14 (by decide) (fun hc14 => ?_) (fun hc14 => ?_)
  · refine lv_iconst (v := (-1)) hx hb dX11_hoped_27 (by decide +kernel) ?_
    obtain rfl := hrel.1 (by first | exact fun q => hc14 q.1 | exact fun q => hc24 q.2)
    exact nv_xi hx hb hr hlocks hS dX11_hoped_28 (tf, la, wo) hP trivial rfl
  · refine lv_iload_n hx hb dX11_hoped_17 rfl (lv_at hl 2 rfl) ?_
    refine lv_i2l hx hb dX11_hoped_18 rfl ?_
    refine lv_lconst (v := 0) hx hb dX11_hoped_19 (by decide +kernel) ?_
    refine lv_lconst (v := 1) hx hb dX11_hoped_20 (by decide +kernel) ?_
    have hPc := hP.sub (ws' := []) [] rfl
    refine nv_cp1 (va_runS (As := [.long wh.toInt64, .long 0, .long 1]) (rest := []) ⟨hx, hb, hml, hown, hts⟩ (c_X11_in l D z wh.toInt64 0 1 ) (va_cwS 3 hts (gS m_539 m_540 m_541 m_536) rfl rfl rfl hd_X11_in ⟨Nat.le_of_ble_eq_true rfl, Nat.le_of_ble_eq_true rfl⟩) (nv_preP hK hPc trivial _) rfl rfl hl.1 rfl (lv_room (Nat.le_of_ble_eq_true rfl)) dX11_hoped_21 ⟨by decide, by decide⟩) ?_
    refine nv_inwl (a := 0) (b := 1) (by decide) (by decide) ?_
    refine nv_bne (tgt := 29) hx hb dX11_hoped_24 (by decide) (fun hc24 => ?_) (fun hc24 => ?_)
    · obtain ⟨kQ, rfl, k0, k1⟩ := wi_nat (b := 99) (by decide) hc14
      obtain ⟨k2Q, rfl, l0, l1⟩ := wi_nat (b := 1) (by decide) hc24
      refine lv_iconst (v := nI 0) hx hb dX11_hoped_29 (by decide +kernel) ?_
      refine lv_istore_n (lv' := [(3, .int (nI 0)), (0, .ref o), (1, .int (nI kQ)), (2, .int (nI k2Q))]) hx hb dX11_hoped_30 rfl hl (by decide) rfl (fun ls hl => ?_)
      refine lv_iconst (v := nI 0) hx hb dX11_hoped_31 (by decide +kernel) ?_
      refine lv_istore (lv' := [(4, .int (nI 0)), (3, .int (nI 0)), (0, .ref o), (1, .int (nI kQ)), (2, .int (nI k2Q))]) hx hb dX11_hoped_32 hl (by decide) rfl (fun ls hl => ?_)
      refine nv_loopP (σ := Nat) (fun x ls => ∃ (jq : Nat), jq = x ∧ ((jq ≤ rQ 6)) ∧ lv_has ls 8 [(0, .ref o), (1, .int (nI kQ)), (2, .int (nI k2Q)), (3, .int (nI (chF rQ jq))), (4, .int (nI jq))]) (fun x => rQ 6 - x) 34 [] ?_ 0 ?_
      · rintro _ ls ⟨jq, rfl, hj, hl⟩ ih34
        refine lv_iload hx hb dX11_hoped_34 (lv_at hl 4 rfl) ?_
        refine lv_aload_n hx hb dX11_hoped_36 rfl (lv_at hl 0 rfl) ?_
        refine va_get (D := D) (ci := 11) (v := .ref qj) (C := RX11) (T := TX11) (N := 22) hx hb hts iX11 hown hK.1 hP 0 rfl rfl 0 (by decide) (hts _ m_523) (fun _ h9 => h9) rfl dX11_hoped_37 ?_
        refine lv_bipush (v := nI 6) hx hb dX11_hoped_40 (by decide +kernel) ?_
        refine nv_ald hx hb hK hP 1 rfl (by omega) (by decide) dX11_hoped_42 ?_
        refine nv_ge (tgt := 77) hx hb (by omega) (by omega) dX11_hoped_43 (by decide) (fun hc43 => ?_) (fun hc43 => ?_)
        · obtain rfl : jq = rQ 6 := by omega
          refine lv_bipush (v := (-4)) hx hb dX11_hoped_77 (by decide +kernel) ?_
          refine lv_istore (lv' := [(4, .int (-4)), (0, .ref o), (1, .int (nI kQ)), (2, .int (nI k2Q)), (3, .int (nI (chF rQ (rQ 6))))]) hx hb dX11_hoped_79 hl (by decide) rfl (fun ls hl => ?_)
          refine lv_iconst (v := (-1)) hx hb dX11_hoped_81 (by decide +kernel) ?_
          refine lv_istore (lv' := [(5, .int (-1)), (4, .int (-4)), (0, .ref o), (1, .int (nI kQ)), (2, .int (nI k2Q)), (3, .int (nI (chF rQ (rQ 6))))]) hx hb dX11_hoped_82 hl (by decide) rfl (fun ls hl => ?_)
          refine lv_iconst (v := nI 0) hx hb dX11_hoped_84 (by decide +kernel) ?_
          refine lv_istore (lv' := [(6, .int (nI 0)), (5, .int (-1)), (4, .int (-4)), (0, .ref o), (1, .int (nI kQ)), (2, .int (nI k2Q)), (3, .int (nI (chF rQ (rQ 6))))]) hx hb dX11_hoped_85 hl (by decide) rfl (fun ls hl => ?_)
          refine nv_loop (σ := Nat × (Nat → Nat) × Nat × Nat) (fun x H locs ls => ∃ (sq : Nat) (tf2 : Nat → Nat) (lx : Nat) (wx : Nat), (sq, tf2, lx, wx) = x ∧ ((sq ≤ chF rQ (rQ 6) + 1)) ∧ va_P D vwCl [(o, .inr (11, [.ref qj, .ref qt, .ref qf, .ref qp, .int (nI un), .ref qk, .ref qq, .int (nI ku), .int (nI ik), .ref qa, .int (nI tnQ), .int (nI 0), .int (nI lx), .int (nI wx), .int (nI cu), .int (nI fa), .int (nI fat), .ref qs, .ref ql, .ref qm, .ref qi, .ref qe])), aN z qj 31 rQ, aN z qt 31 tf2] H ∧ va_D A [(o, .inr (11, [.ref qj, .ref qt, .ref qf, .ref qp, .int (nI un), .ref qk, .ref qq, .int (nI ku), .int (nI ik), .ref qa, .int (nI tnQ), .int (nI 0), .int (nI lx), .int (nI wx), .int (nI cu), .int (nI fa), .int (nI fat), .ref qs, .ref ql, .ref qm, .ref qi, .ref qe])), aN z qj 31 rQ, aN z qt 31 tf2] ∧ va_S A s.heap H locs ∧ lv_has ls 8 [(0, .ref o), (1, .int (nI kQ)), (2, .int (nI k2Q)), (3, .int (nI (chF rQ (rQ 6)))), (4, .int (hoB (chF rQ (rQ 6)) (hdP rQ kQ) (-4) sq)), (5, .int (hoX (chF rQ (rQ 6)) (hdP rQ kQ) sq)), (6, .int (nI sq))]) (fun x => chF rQ (rQ 6) + 1 - x.1) 87 [] ?_ (0, tf, la, wo) ?_
          · rintro _ H locs ls ⟨sq, tf2, lx, wx, rfl, hs, hP, hD, hS, hl⟩ ih87
            refine lv_iload hx hb dX11_hoped_87 (lv_at hl 6 rfl) ?_
            refine lv_iload_n hx hb dX11_hoped_89 rfl (lv_at hl 3 rfl) ?_
            refine nv_gt (tgt := 210) hx hb (by omega) (by omega) dX11_hoped_90 (by decide) (fun hc90 => ?_) (fun hc90 => ?_)
            · obtain rfl : sq = chF rQ (rQ 6) + 1 := by omega
              refine lv_iload_n hx hb dX11_hoped_210 rfl (lv_at hl 2 rfl) ?_
              refine nv_ifne (tgt := 219) hx hb (by omega) dX11_hoped_211 (by decide) (fun hc211 => ?_) (fun hc211 => ?_)
              · obtain rfl : k2Q = 1 := by omega
                obtain rfl := hrel.2.2 kQ rfl (by omega) rfl
                refine lv_iload hx hb dX11_hoped_219 (lv_at hl 5 rfl) ?_
                exact nv_xi hx hb hr hlocks hS dX11_hoped_221 (tf2, lx, wx) hP trivial rfl
              · obtain rfl : k2Q = 0 := hc211
                obtain rfl := hrel.2.1 kQ rfl (by omega) rfl
                refine lv_iload hx hb dX11_hoped_214 (lv_at hl 4 rfl) ?_
                refine lv_goto (tgt := 221) hx hb dX11_hoped_216 (by decide) ?_
                exact nv_xi hx hb hr hlocks hS dX11_hoped_221 (tf2, lx, wx) hP trivial rfl
            · refine lv_iload hx hb dX11_hoped_93 (lv_at hl 6 rfl) ?_
              refine lv_iload_n hx hb dX11_hoped_95 rfl (lv_at hl 3 rfl) ?_
              refine lv_iconst (v := (-1)) hx hb dX11_hoped_96 (by decide +kernel) ?_
              refine lv_ixor hx hb dX11_hoped_97 ?_
              refine lv_iand hx hb dX11_hoped_98 ?_
              refine lv_if_ne (tgt := 204) hx hb dX11_hoped_99 (by decide) (fun hc99 => ?_) (fun hc99 => ?_)
              · refine lv_iinc (v := nI (sq + 1)) (lv' := [(6, .int (nI (sq + 1))), (0, .ref o), (1, .int (nI kQ)), (2, .int (nI k2Q)), (3, .int (nI (chF rQ (rQ 6)))), (4, .int (hoB (chF rQ (rQ 6)) (hdP rQ kQ) (-4) sq)), (5, .int (hoX (chF rQ (rQ 6)) (hdP rQ kQ) sq))]) hx hb dX11_hoped_204 hl (k := 6) rfl (nI_inc _) (by decide) rfl (fun ls hl => ?_)
                refine lv_goto (tgt := 87) hx hb dX11_hoped_207 (by decide) ?_
                have hns : ¬ sq &&& (chF rQ (rQ 6)) = sq := fun q9 => hc99 ((ms_c sq (by omega) _ hch).mpr q9)
                have e1 : hoB (chF rQ (rQ 6)) (hdP rQ kQ) (-4) (sq + 1) = hoB (chF rQ (rQ 6)) (hdP rQ kQ) (-4) sq := if_neg hns
                have e2 : hoX (chF rQ (rQ 6)) (hdP rQ kQ) (sq + 1) = hoX (chF rQ (rQ 6)) (hdP rQ kQ) sq := if_neg hns
                exact ih87 (sq + 1, tf2, lx, wx) _ _ _ (by show chF rQ (rQ 6) + 1 - (sq + 1) < chF rQ (rQ 6) + 1 - sq; omega) ⟨sq + 1, tf2, lx, wx, rfl, (by omega), hP, hD, hS, lv_sub hl [1, 2, 3, 4, 5, 6, 0] (by rw [e1, e2]; rfl)⟩
              · have hsub : sq &&& (chF rQ (rQ 6)) = sq := (ms_c sq (by omega) _ hch).mp hc99
                refine lv_aload_n hx hb dX11_hoped_102 rfl (lv_at hl 0 rfl) ?_
                refine va_get (D := D) (ci := 11) (v := .ref qj) (C := RX11) (T := TX11) (N := 22) hx hb hts iX11 hown hK.1 hP 0 rfl rfl 0 (by decide) (hts _ m_523) (fun _ h9 => h9) rfl dX11_hoped_103 ?_
                refine lv_aload_n hx hb dX11_hoped_106 rfl (lv_at hl 0 rfl) ?_
                refine va_get (D := D) (ci := 11) (v := .ref qt) (C := RX11) (T := TX11) (N := 22) hx hb hts iX11 hown hK.1 hP 0 rfl rfl 1 (by decide) (hts _ m_524) (fun _ h9 => h9) rfl dX11_hoped_107 ?_
                have hPc := hP.sub (ws' := [aN z qj 31 rQ, aN z qt 31 tf2]) [1, 2] rfl
                have hDc := hD.sub (ws' := [aN z qj 31 rQ, aN z qt 31 tf2]) [1, 2] (by decide) rfl
                refine nv_cm0 (wc := [aN z qj 31 rQ, aN z qt 31 tf2]) (wr := [(o, .inr (11, [.ref qj, .ref qt, .ref qf, .ref qp, .int (nI un), .ref qk, .ref qq, .int (nI ku), .int (nI ik), .ref qa, .int (nI tnQ), .int (nI 0), .int (nI lx), .int (nI wx), .int (nI cu), .int (nI fa), .int (nI fat), .ref qs, .ref ql, .ref qm, .ref qi, .ref qe]))]) (w1 := [aN z qj 31 rQ, aN z qt 31 rQ]) (ws1 := [(o, .inr (11, [.ref qj, .ref qt, .ref qf, .ref qp, .int (nI un), .ref qk, .ref qq, .int (nI ku), .int (nI ik), .ref qa, .int (nI tnQ), .int (nI 0), .int (nI lx), .int (nI wx), .int (nI cu), .int (nI fa), .int (nI fat), .ref qs, .ref ql, .ref qm, .ref qi, .ref qe])), aN z qj 31 rQ, aN z qt 31 rQ]) (va_runS (As := [.ref qj, .ref qt]) (rest := []) ⟨hx, hb, hml, hown, hts⟩ (c_X11_lay l D z H.size qj qt rQ tf2 ) (va_cwS 2 hts (gS m_631 m_632 m_541 m_537) rfl rfl rfl hd_X11_lay ⟨Nat.le_of_ble_eq_true rfl, Nat.le_of_ble_eq_true rfl⟩) (nv_preM hK hPc hDc trivial _) rfl rfl hl.1 rfl (lv_room (Nat.le_of_ble_eq_true rfl)) dX11_hoped_110 ⟨by decide, by decide⟩) hP hD hS hA [1, 2] [0] [0, 1, 2] rfl rfl (by decide) (by decide) rfl (by decide) rfl (by decide) (fun H locs hP hD hS hE110 hz110 hf110 => ?_)
                clear hPc hDc
                clear hf110 hz110
                refine lv_iconst (v := nI 0) hx hb dX11_hoped_113 (by decide +kernel) ?_
                refine lv_istore (lv' := [(7, .int (nI 0)), (0, .ref o), (1, .int (nI kQ)), (2, .int (nI k2Q)), (3, .int (nI (chF rQ (rQ 6)))), (4, .int (hoB (chF rQ (rQ 6)) (hdP rQ kQ) (-4) sq)), (5, .int (hoX (chF rQ (rQ 6)) (hdP rQ kQ) sq)), (6, .int (nI sq))]) hx hb dX11_hoped_114 hl (by decide) rfl (fun ls hl => ?_)
                refine nv_loop (σ := Nat) (fun x H locs ls => ∃ (pq : Nat), pq = x ∧ ((pq ≤ rQ 6)) ∧ va_P D vwCl [(o, .inr (11, [.ref qj, .ref qt, .ref qf, .ref qp, .int (nI un), .ref qk, .ref qq, .int (nI ku), .int (nI ik), .ref qa, .int (nI tnQ), .int (nI 0), .int (nI lx), .int (nI wx), .int (nI cu), .int (nI fa), .int (nI fat), .ref qs, .ref ql, .ref qm, .ref qi, .ref qe])), aN z qj 31 rQ, aN z qt 31 (hsR rQ sq pq)] H ∧ va_D A [(o, .inr (11, [.ref qj, .ref qt, .ref qf, .ref qp, .int (nI un), .ref qk, .ref qq, .int (nI ku), .int (nI ik), .ref qa, .int (nI tnQ), .int (nI 0), .int (nI lx), .int (nI wx), .int (nI cu), .int (nI fa), .int (nI fat), .ref qs, .ref ql, .ref qm, .ref qi, .ref qe])), aN z qj 31 rQ, aN z qt 31 (hsR rQ sq pq)] ∧ va_S A s.heap H locs ∧ lv_has ls 8 [(0, .ref o), (1, .int (nI kQ)), (2, .int (nI k2Q)), (3, .int (nI (chF rQ (rQ 6)))), (4, .int (hoB (chF rQ (rQ 6)) (hdP rQ kQ) (-4) sq)), (5, .int (hoX (chF rQ (rQ 6)) (hdP rQ kQ) sq)), (6, .int (nI sq)), (7, .int (nI pq))]) (fun x => rQ 6 - x) 116 [] ?_ 0 ?_
                · rintro _ H locs ls ⟨pq, rfl, hp, hP, hD, hS, hl⟩ ih116
                  refine lv_iload hx hb dX11_hoped_116 (lv_at hl 7 rfl) ?_
                  refine lv_aload_n hx hb dX11_hoped_118 rfl (lv_at hl 0 rfl) ?_
                  refine va_get (D := D) (ci := 11) (v := .ref qj) (C := RX11) (T := TX11) (N := 22) hx hb hts iX11 hown hK.1 hP 0 rfl rfl 0 (by decide) (hts _ m_523) (fun _ h9 => h9) rfl dX11_hoped_119 ?_
                  refine lv_bipush (v := nI 6) hx hb dX11_hoped_122 (by decide +kernel) ?_
                  refine nv_ald hx hb hK hP 1 rfl (by omega) (by decide) dX11_hoped_124 ?_
                  refine nv_ge (tgt := 155) hx hb (by omega) (by omega) dX11_hoped_125 (by decide) (fun hc125 => ?_) (fun hc125 => ?_)
                  · obtain rfl : pq = rQ 6 := by omega
                    refine lv_aload_n hx hb dX11_hoped_155 rfl (lv_at hl 0 rfl) ?_
                    refine lv_iload_n hx hb dX11_hoped_156 rfl (lv_at hl 1 rfl) ?_
                    have hPc := hP.sub (ws' := [(o, .inr (11, [.ref qj, .ref qt, .ref qf, .ref qp, .int (nI un), .ref qk, .ref qq, .int (nI ku), .int (nI ik), .ref qa, .int (nI tnQ), .int (nI 0), .int (nI lx), .int (nI wx), .int (nI cu), .int (nI fa), .int (nI fat), .ref qs, .ref ql, .ref qm, .ref qi, .ref qe])), aN z qt 31 (hsR rQ sq (rQ 6))]) [0, 2] rfl
                    have hDc := hD.sub (ws' := [(o, .inr (11, [.ref qj, .ref qt, .ref qf, .ref qp, .int (nI un), .ref qk, .ref qq, .int (nI ku), .int (nI ik), .ref qa, .int (nI tnQ), .int (nI 0), .int (nI lx), .int (nI wx), .int (nI cu), .int (nI fa), .int (nI fat), .ref qs, .ref ql, .ref qm, .ref qi, .ref qe])), aN z qt 31 (hsR rQ sq (rQ 6))]) [0, 2] (by decide) rfl
                    refine nv_cm0 (wc := [(o, .inr (11, [.ref qj, .ref qt, .ref qf, .ref qp, .int (nI un), .ref qk, .ref qq, .int (nI ku), .int (nI ik), .ref qa, .int (nI tnQ), .int (nI 0), .int (nI lx), .int (nI wx), .int (nI cu), .int (nI fa), .int (nI fat), .ref qs, .ref ql, .ref qm, .ref qi, .ref qe])), aN z qt 31 (hsR rQ sq (rQ 6))]) (wr := [aN z qj 31 rQ]) (w1 := [(o, .inr (11, [.ref qj, .ref qt, .ref qf, .ref qp, .int (nI un), .ref qk, .ref qq, .int (nI ku), .int (nI ik), .ref qa, .int (nI tnQ), .int (nI 0), .int (nI (laN (hsR rQ sq (rQ 6)) kQ)), .int (nI (suN (hsR rQ sq (rQ 6)) kQ)), .int (nI cu), .int (nI fa), .int (nI fat), .ref qs, .ref ql, .ref qm, .ref qi, .ref qe])), aN z qt 31 (wkN (hsR rQ sq (rQ 6)) kQ)]) (ws1 := [(o, .inr (11, [.ref qj, .ref qt, .ref qf, .ref qp, .int (nI un), .ref qk, .ref qq, .int (nI ku), .int (nI ik), .ref qa, .int (nI tnQ), .int (nI 0), .int (nI (laN (hsR rQ sq (rQ 6)) kQ)), .int (nI (suN (hsR rQ sq (rQ 6)) kQ)), .int (nI cu), .int (nI fa), .int (nI fat), .ref qs, .ref ql, .ref qm, .ref qi, .ref qe])), aN z qj 31 rQ, aN z qt 31 (wkN (hsR rQ sq (rQ 6)) kQ)]) (va_runV (As := [.int (nI kQ)]) (rest := []) ⟨hx, hb, hml, hown, hts⟩ (c_X11_weeksOf l D z H.size w0Q o qj qt qf qp qk qq qa qs ql qm qi qe un ku ik tnQ 0 lx wx cu fa fat (hsR rQ sq (rQ 6)) kQ (hsR_ok sq hok) (by first | assumption | omega) (by first | assumption | omega)) (cwV 1 hts (gV m_650 m_651 m_652 m_541 m_574) rfl rfl rfl ⟨rfl, hd_X11_weeksOf⟩ ⟨Nat.le_of_ble_eq_true rfl, Nat.le_of_ble_eq_true rfl⟩) (nv_preMV (ci := 11) (q0 := 0) hK hPc hDc trivial rfl rfl) rfl rfl hl.1 rfl (lv_room (Nat.le_of_ble_eq_true rfl)) dX11_hoped_157 ⟨by decide, by decide⟩) hP hD hS hA [0, 2] [1] [1, 0, 2] rfl rfl (by decide) (by decide) rfl (by decide) rfl (by decide) (fun H locs hP hD hS hE157 hz157 hf157 => ?_)
                    clear hPc hDc
                    clear hf157 hz157
                    refine lv_aload_n hx hb dX11_hoped_160 rfl (lv_at hl 0 rfl) ?_
                    refine va_get (D := D) (ci := 11) (v := .ref qt) (C := RX11) (T := TX11) (N := 22) hx hb hts iX11 hown hK.1 hP 0 rfl rfl 1 (by decide) (hts _ m_524) (fun _ h9 => h9) rfl dX11_hoped_161 ?_
                    refine lv_iconst (v := nI 0) hx hb dX11_hoped_164 (by decide +kernel) ?_
                    refine nv_ald hx hb hK hP 2 rfl (by omega) (by decide) dX11_hoped_165 ?_
                    refine lv_iload hx hb dX11_hoped_166 (lv_at hl 5 rfl) ?_
                    refine nv_join (g2 := F0 m 178 ls [.int (hoB (chF rQ (rQ 6)) (hdP rQ kQ) (-4) (sq + 1))]) (fun J1 => ?_) ?_
                    · refine lv_icmp_le (tgt := 176) hx hb dX11_hoped_168 (by decide) (fun hc168 => ?_) (fun hc168 => ?_)
                      · refine lv_iload hx hb dX11_hoped_176 (lv_at hl 4 rfl) ?_
                        have q9 : hoB (chF rQ (rQ 6)) (hdP rQ kQ) (-4) sq = hoB (chF rQ (rQ 6)) (hdP rQ kQ) (-4) (sq + 1) := by show _ = if sq &&& (chF rQ (rQ 6)) = sq then (if hoX (chF rQ (rQ 6)) (hdP rQ kQ) sq < nI ((hdP rQ kQ) sq) then _ else _) else _; rw [if_pos hsub]; first | rw [if_neg (show ¬ hoX (chF rQ (rQ 6)) (hdP rQ kQ) sq < nI ((hdP rQ kQ) sq) from Int32.not_lt.mpr hc168)] | (rw [if_pos (show hoX (chF rQ (rQ 6)) (hdP rQ kQ) sq < nI ((hdP rQ kQ) sq) from Int32.not_le.mp hc168)]; done) | (rw [if_pos (show hoX (chF rQ (rQ 6)) (hdP rQ kQ) sq < nI ((hdP rQ kQ) sq) from Int32.not_le.mp hc168)]; rfl)
                        exact W.eq (congrArg (fun x9 => F0 m 178 ls (.int x9 :: [])) q9) J1
                      · refine lv_iload hx hb dX11_hoped_171 (lv_at hl 6 rfl) ?_
                        refine lv_goto (tgt := 178) hx hb dX11_hoped_173 (by decide) ?_
                        have q9 : nI sq = hoB (chF rQ (rQ 6)) (hdP rQ kQ) (-4) (sq + 1) := by show _ = if sq &&& (chF rQ (rQ 6)) = sq then (if hoX (chF rQ (rQ 6)) (hdP rQ kQ) sq < nI ((hdP rQ kQ) sq) then _ else _) else _; rw [if_pos hsub]; first | rw [if_neg (show ¬ hoX (chF rQ (rQ 6)) (hdP rQ kQ) sq < nI ((hdP rQ kQ) sq) from Int32.not_lt.mpr hc168)] | (rw [if_pos (show hoX (chF rQ (rQ 6)) (hdP rQ kQ) sq < nI ((hdP rQ kQ) sq) from Int32.not_le.mp hc168)]; done) | (rw [if_pos (show hoX (chF rQ (rQ 6)) (hdP rQ kQ) sq < nI ((hdP rQ kQ) sq) from Int32.not_le.mp hc168)]; rfl)
                        exact W.eq (congrArg (fun x9 => F0 m 178 ls (.int x9 :: [])) q9) J1
                    · refine lv_istore (lv' := [(4, .int (hoB (chF rQ (rQ 6)) (hdP rQ kQ) (-4) (sq + 1))), (0, .ref o), (1, .int (nI kQ)), (2, .int (nI k2Q)), (3, .int (nI (chF rQ (rQ 6)))), (5, .int (hoX (chF rQ (rQ 6)) (hdP rQ kQ) sq)), (6, .int (nI sq)), (7, .int (nI (rQ 6)))]) hx hb dX11_hoped_178 hl (by decide) rfl (fun ls hl => ?_)
                      refine lv_aload_n hx hb dX11_hoped_180 rfl (lv_at hl 1 rfl) ?_
                      refine va_get (D := D) (ci := 11) (v := .ref qt) (C := RX11) (T := TX11) (N := 22) hx hb hts iX11 hown hK.1 hP 0 rfl rfl 1 (by decide) (hts _ m_524) (fun _ h9 => h9) rfl dX11_hoped_181 ?_
                      refine lv_iconst (v := nI 0) hx hb dX11_hoped_184 (by decide +kernel) ?_
                      refine nv_ald hx hb hK hP 2 rfl (by omega) (by decide) dX11_hoped_185 ?_
                      refine lv_iload hx hb dX11_hoped_186 (lv_at hl 5 rfl) ?_
                      refine nv_join (g2 := F0 m 202 ls [.int (hoX (chF rQ (rQ 6)) (hdP rQ kQ) (sq + 1))]) (fun J2 => ?_) ?_
                      · refine lv_icmp_le (tgt := 200) hx hb dX11_hoped_188 (by decide) (fun hc188 => ?_) (fun hc188 => ?_)
                        · refine lv_iload hx hb dX11_hoped_200 (lv_at hl 5 rfl) ?_
                          have q9 : hoX (chF rQ (rQ 6)) (hdP rQ kQ) sq = hoX (chF rQ (rQ 6)) (hdP rQ kQ) (sq + 1) := by show _ = if sq &&& (chF rQ (rQ 6)) = sq then (if hoX (chF rQ (rQ 6)) (hdP rQ kQ) sq < nI ((hdP rQ kQ) sq) then _ else _) else _; rw [if_pos hsub]; first | rw [if_neg (show ¬ hoX (chF rQ (rQ 6)) (hdP rQ kQ) sq < nI ((hdP rQ kQ) sq) from Int32.not_lt.mpr hc188)] | (rw [if_pos (show hoX (chF rQ (rQ 6)) (hdP rQ kQ) sq < nI ((hdP rQ kQ) sq) from Int32.not_le.mp hc188)]; done) | (rw [if_pos (show hoX (chF rQ (rQ 6)) (hdP rQ kQ) sq < nI ((hdP rQ kQ) sq) from Int32.not_le.mp hc188)]; rfl)
                          exact W.eq (congrArg (fun x9 => F0 m 202 ls (.int x9 :: [])) q9) J2
                        · refine lv_aload_n hx hb dX11_hoped_191 rfl (lv_at hl 1 rfl) ?_
                          refine va_get (D := D) (ci := 11) (v := .ref qt) (C := RX11) (T := TX11) (N := 22) hx hb hts iX11 hown hK.1 hP 0 rfl rfl 1 (by decide) (hts _ m_524) (fun _ h9 => h9) rfl dX11_hoped_192 ?_
                          refine lv_iconst (v := nI 0) hx hb dX11_hoped_195 (by decide +kernel) ?_
                          refine nv_ald hx hb hK hP 2 rfl (by omega) (by decide) dX11_hoped_196 ?_
                          refine lv_goto (tgt := 202) hx hb dX11_hoped_197 (by decide) ?_
                          have q9 : nI ((wkN (hsR rQ sq (rQ 6)) kQ) 0) = hoX (chF rQ (rQ 6)) (hdP rQ kQ) (sq + 1) := by show _ = if sq &&& (chF rQ (rQ 6)) = sq then (if hoX (chF rQ (rQ 6)) (hdP rQ kQ) sq < nI ((hdP rQ kQ) sq) then _ else _) else _; rw [if_pos hsub]; first | rw [if_neg (show ¬ hoX (chF rQ (rQ 6)) (hdP rQ kQ) sq < nI ((hdP rQ kQ) sq) from Int32.not_lt.mpr hc188)] | (rw [if_pos (show hoX (chF rQ (rQ 6)) (hdP rQ kQ) sq < nI ((hdP rQ kQ) sq) from Int32.not_le.mp hc188)]; done) | (rw [if_pos (show hoX (chF rQ (rQ 6)) (hdP rQ kQ) sq < nI ((hdP rQ kQ) sq) from Int32.not_le.mp hc188)]; rfl)
                          exact W.eq (congrArg (fun x9 => F0 m 202 ls (.int x9 :: [])) q9) J2
                      · refine lv_istore (lv' := [(5, .int (hoX (chF rQ (rQ 6)) (hdP rQ kQ) (sq + 1))), (4, .int (hoB (chF rQ (rQ 6)) (hdP rQ kQ) (-4) (sq + 1))), (0, .ref o), (1, .int (nI kQ)), (2, .int (nI k2Q)), (3, .int (nI (chF rQ (rQ 6)))), (6, .int (nI sq)), (7, .int (nI (rQ 6)))]) hx hb dX11_hoped_202 hl (by decide) rfl (fun ls hl => ?_)
                        refine lv_iinc (v := nI (sq + 1)) (lv' := [(6, .int (nI (sq + 1))), (5, .int (hoX (chF rQ (rQ 6)) (hdP rQ kQ) (sq + 1))), (4, .int (hoB (chF rQ (rQ 6)) (hdP rQ kQ) (-4) (sq + 1))), (0, .ref o), (1, .int (nI kQ)), (2, .int (nI k2Q)), (3, .int (nI (chF rQ (rQ 6)))), (7, .int (nI (rQ 6)))]) hx hb dX11_hoped_204 hl (k := 6) rfl (nI_inc _) (by decide) rfl (fun ls hl => ?_)
                        refine lv_goto (tgt := 87) hx hb dX11_hoped_207 (by decide) ?_
                        exact ih87 (sq + 1, wkN (hsR rQ sq (rQ 6)) kQ, laN (hsR rQ sq (rQ 6)) kQ, suN (hsR rQ sq (rQ 6)) kQ) _ _ _ (by show chF rQ (rQ 6) + 1 - (sq + 1) < chF rQ (rQ 6) + 1 - sq; omega) ⟨sq + 1, wkN (hsR rQ sq (rQ 6)) kQ, laN (hsR rQ sq (rQ 6)) kQ, suN (hsR rQ sq (rQ 6)) kQ, rfl, (by omega), hP, hD, hS, lv_sub hl [3, 4, 5, 6, 2, 1, 0] rfl⟩
                  · refine lv_aload_n hx hb dX11_hoped_128 rfl (lv_at hl 0 rfl) ?_
                    refine va_get (D := D) (ci := 11) (v := .ref qt) (C := RX11) (T := TX11) (N := 22) hx hb hts iX11 hown hK.1 hP 0 rfl rfl 1 (by decide) (hts _ m_524) (fun _ h9 => h9) rfl dX11_hoped_129 ?_
                    refine lv_bipush (v := nI 7) hx hb dX11_hoped_132 (by decide +kernel) ?_
                    refine lv_iconst (v := nI 4) hx hb dX11_hoped_134 (by decide +kernel) ?_
                    refine lv_iload hx hb dX11_hoped_135 (lv_at hl 7 rfl) ?_
                    refine nv_mul hx hb dX11_hoped_137 ?_
                    refine nv_add hx hb dX11_hoped_138 ?_
                    refine lv_iconst (v := nI 3) hx hb dX11_hoped_139 (by decide +kernel) ?_
                    refine nv_add hx hb dX11_hoped_140 ?_
                    refine lv_iload hx hb dX11_hoped_141 (lv_at hl 6 rfl) ?_
                    refine lv_iload hx hb dX11_hoped_143 (lv_at hl 7 rfl) ?_
                    refine nv_shr hx hb (by omega) (by omega) dX11_hoped_145 ?_
                    refine lv_iconst (v := nI 1) hx hb dX11_hoped_146 (by decide +kernel) ?_
                    refine nv_and hx hb dX11_hoped_147 ?_
                    refine nv_ast hx hb hK hP hD hS 2 rfl (by omega) (by decide) dX11_hoped_148 (fun H locs hP hD hS => ?_)
                    have hP : va_P D vwCl [(o, .inr (11, [.ref qj, .ref qt, .ref qf, .ref qp, .int (nI un), .ref qk, .ref qq, .int (nI ku), .int (nI ik), .ref qa, .int (nI tnQ), .int (nI 0), .int (nI lx), .int (nI wx), .int (nI cu), .int (nI fa), .int (nI fat), .ref qs, .ref ql, .ref qm, .ref qi, .ref qe])), aN z qj 31 rQ, aN z qt 31 (uN (hsR rQ sq pq) (7 + (4 * pq) + 3) ((sq / 2 ^ pq) &&& 1))] H := hP
                    have hD : va_D A [(o, .inr (11, [.ref qj, .ref qt, .ref qf, .ref qp, .int (nI un), .ref qk, .ref qq, .int (nI ku), .int (nI ik), .ref qa, .int (nI tnQ), .int (nI 0), .int (nI lx), .int (nI wx), .int (nI cu), .int (nI fa), .int (nI fat), .ref qs, .ref ql, .ref qm, .ref qi, .ref qe])), aN z qj 31 rQ, aN z qt 31 (uN (hsR rQ sq pq) (7 + (4 * pq) + 3) ((sq / 2 ^ pq) &&& 1))] := hD
                    refine lv_iinc (v := nI (pq + 1)) (lv' := [(7, .int (nI (pq + 1))), (0, .ref o), (1, .int (nI kQ)), (2, .int (nI k2Q)), (3, .int (nI (chF rQ (rQ 6)))), (4, .int (hoB (chF rQ (rQ 6)) (hdP rQ kQ) (-4) sq)), (5, .int (hoX (chF rQ (rQ 6)) (hdP rQ kQ) sq)), (6, .int (nI sq))]) hx hb dX11_hoped_149 hl (k := 7) rfl (nI_inc _) (by decide) rfl (fun ls hl => ?_)
                    refine lv_goto (tgt := 116) hx hb dX11_hoped_152 (by decide) ?_
                    exact ih116 (pq + 1) _ _ _ (by omega) ⟨pq + 1, rfl, (by omega), hP, hD, hS, lv_sub hl [1, 2, 3, 4, 5, 6, 7, 0] rfl⟩
                · exact ⟨0, rfl, (by omega), hP, hD, hS, lv_sub hl [1, 2, 3, 4, 5, 6, 7, 0] rfl⟩
          · exact ⟨0, tf, la, wo, rfl, (by omega), hP, hD, hS, lv_sub hl [3, 4, 5, 6, 2, 1, 0] rfl⟩
        · have oQ := oP jq (by omega)
          refine lv_iload_n hx hb dX11_hoped_46 rfl (lv_at hl 3 rfl) ?_
          refine lv_aload_n hx hb dX11_hoped_47 rfl (lv_at hl 0 rfl) ?_
          refine va_get (D := D) (ci := 11) (v := .ref qj) (C := RX11) (T := TX11) (N := 22) hx hb hts iX11 hown hK.1 hP 0 rfl rfl 0 (by decide) (hts _ m_523) (fun _ h9 => h9) rfl dX11_hoped_48 ?_
          refine lv_iload hx hb dX11_hoped_51 (lv_at hl 4 rfl) ?_
          refine lv_iconst (v := nI 0) hx hb dX11_hoped_53 (by decide +kernel) ?_
          have hPc := hP.sub (ws' := [aN z qj 31 rQ]) [1] rfl
          refine nv_cp1 (va_runS (As := [.ref qj, .int (nI jq), .int (nI 0)]) (rest := [.int (nI (chF rQ jq))]) ⟨hx, hb, hml, hown, hts⟩ (c_X11_its l D z qj rQ jq 0 (by first | assumption | omega)) (va_cwS 3 hts (gS m_544 m_545 m_541 m_542) rfl rfl rfl hd_X11_its ⟨Nat.le_of_ble_eq_true rfl, Nat.le_of_ble_eq_true rfl⟩) (nv_preP hK hPc trivial _) rfl rfl hl.1 rfl (lv_room (Nat.le_of_ble_eq_true rfl)) dX11_hoped_54 ⟨by decide, by decide⟩) ?_
          refine lv_iconst (v := nI 5) hx hb dX11_hoped_57 (by decide +kernel) ?_
          refine nv_join (g2 := F0 m 69 ls [.int (nI (if rQ (7 + 4 * jq + 0) = 5 then 1 * 2 ^ jq else 0)), .int (nI (chF rQ jq))]) (fun J3 => ?_) ?_
          · refine nv_ne (tgt := 68) hx hb (by omega) (by omega) dX11_hoped_58 (by decide) (fun hc58 => ?_) (fun hc58 => ?_)
            · refine lv_iconst (v := nI 0) hx hb dX11_hoped_68 (by decide +kernel) ?_
              have q9 : 0 = if rQ (7 + 4 * jq + 0) = 5 then 1 * 2 ^ jq else 0 := by split <;> first | rfl | omega
              exact W.eq (congrArg (fun x9 => F0 m 69 ls (.int (nI x9) :: [.int (nI (chF rQ jq))])) q9) J3
            · refine lv_iconst (v := nI 1) hx hb dX11_hoped_61 (by decide +kernel) ?_
              refine lv_iload hx hb dX11_hoped_62 (lv_at hl 4 rfl) ?_
              refine nv_shl hx hb (by omega) (p2_lt (by omega)) dX11_hoped_64 ?_
              refine lv_goto (tgt := 69) hx hb dX11_hoped_65 (by decide) ?_
              have q9 : (1 * 2 ^ jq) = if rQ (7 + 4 * jq + 0) = 5 then 1 * 2 ^ jq else 0 := by split <;> first | rfl | omega
              exact W.eq (congrArg (fun x9 => F0 m 69 ls (.int (nI x9) :: [.int (nI (chF rQ jq))])) q9) J3
          · refine nv_or hx hb dX11_hoped_69 ?_
            refine lv_istore_n (lv' := [(3, .int (nI ((chF rQ jq) ||| (if rQ (7 + 4 * jq + 0) = 5 then 1 * 2 ^ jq else 0)))), (0, .ref o), (1, .int (nI kQ)), (2, .int (nI k2Q)), (4, .int (nI jq))]) hx hb dX11_hoped_70 rfl hl (by decide) rfl (fun ls hl => ?_)
            refine lv_iinc (v := nI (jq + 1)) (lv' := [(4, .int (nI (jq + 1))), (3, .int (nI ((chF rQ jq) ||| (if rQ (7 + 4 * jq + 0) = 5 then 1 * 2 ^ jq else 0)))), (0, .ref o), (1, .int (nI kQ)), (2, .int (nI k2Q))]) hx hb dX11_hoped_71 hl (k := 4) rfl (nI_inc _) (by decide) rfl (fun ls hl => ?_)
            refine lv_goto (tgt := 34) hx hb dX11_hoped_74 (by decide) ?_
            exact ih34 (jq + 1) _ (by omega) ⟨jq + 1, rfl, (by omega), lv_sub hl [2, 3, 4, 1, 0] rfl⟩
      · exact ⟨0, rfl, (by omega), lv_sub hl [2, 3, 4, 1, 0] rfl⟩
    · refine lv_iconst (v := (-1)) hx hb dX11_hoped_27 (by decide +kernel) ?_
      obtain rfl := hrel.1 (by first | exact fun q => hc14 q.1 | exact fun q => hc24 q.2)
      exact nv_xi hx hb hr hlocks hS dX11_hoped_28 (tf, la, wo) hP trivial rfl

set_option maxHeartbeats 4000000 in
set_option maxRecDepth 100000 in
theorem c_X11_mean (l : Launch) (D : va_G) (z : Nat → ClassId) (sz : Nat) (w0Q : Nat) (o : Nat) (qj : Nat) (qt : Nat) (qf : Nat) (qp : Nat) (qk : Nat) (qq : Nat) (qa : Nat) (qs : Nat) (ql : Nat) (qm : Nat) (qi : Nat) (qe : Nat) (un : Nat) (ku : Nat) (ik : Nat) (tnQ : Nat) (th : Nat) (la : Nat) (wo : Nat) (cu : Nat) (fa : Nat) (fat : Nat) (rQ : Nat → Nat) (tf : Nat → Nat) (nv : Int32) (wh : Int32) (vQ : Int32) (hok : rOK w0Q rQ) (hw : w0Q ≤ 10000) (hrel : meRel rQ nv wh vQ) : CX (σ := (Nat → Nat) × Nat × Nat) l yX11_mean cX11_mean 8 (some .int) 5 118 0 0 [.ref o, .int nv, .int wh] D z [(o, .inr (11, [.ref qj, .ref qt, .ref qf, .ref qp, .int (nI un), .ref qk, .ref qq, .int (nI ku), .int (nI ik), .ref qa, .int (nI tnQ), .int (nI th), .int (nI la), .int (nI wo), .int (nI cu), .int (nI fa), .int (nI fat), .ref qs, .ref ql, .ref qm, .ref qi, .ref qe])), aN z qj 31 rQ, aN z qt 31 tf] sz (fun _ => True) (fun u => [(o, .inr (11, [.ref qj, .ref qt, .ref qf, .ref qp, .int (nI un), .ref qk, .ref qq, .int (nI ku), .int (nI ik), .ref qa, .int (nI tnQ), .int (nI 0), .int (nI u.2.1), .int (nI u.2.2), .int (nI cu), .int (nI fa), .int (nI fat), .ref qs, .ref ql, .ref qm, .ref qi, .ref qe])), aN z qj 31 rQ, aN z qt 31 u.1]) (some (.int vQ)) (fun _ _ => True) := by
  refine Met.ofW (cc := cX11_mean) (maxL := 8) (ret := (some .int)) (by decide) rfl ?_
  intro pg e s m args below meth c s₁ B hml hv
  obtain ⟨rfl, hsz, hP, hK, hD0, hE⟩ := hv
  have hx := B.exec
  have hb := B.bytes
  have hr := B.returns
  have hts : ∀ w ∈ ALL, w.before _ s = true := fun w h => atoms_spec (ws := wA yX11_mean cX11_mean 8 (some .int)) B.pre w (List.mem_cons_of_mem _ h)
  have hown : s.vm.findClass RX11 = some m.cls := findClass_of_methodNamed B.named
  have hlocks := B.notSynchronized
  subst hsz
  have hD := hD0.self (sz := s.heap.size)
  obtain ⟨o0, o1, o1b, o2, o2b, o3, o4, o5, o6, oP⟩ := id hok
  have hA : ∀ q : Nat, s.heap.size ≤ q → va_A [(o, .inr (11, [.ref qj, .ref qt, .ref qf, .ref qp, .int (nI un), .ref qk, .ref qq, .int (nI ku), .int (nI ik), .ref qa, .int (nI tnQ), .int (nI th), .int (nI la), .int (nI wo), .int (nI cu), .int (nI fa), .int (nI fat), .ref qs, .ref ql, .ref qm, .ref qi, .ref qe])), aN z qj 31 rQ, aN z qt 31 tf] s.heap.size q := fun q h => Or.inr h
  generalize va_A [(o, .inr (11, [.ref qj, .ref qt, .ref qf, .ref qp, .int (nI un), .ref qk, .ref qq, .int (nI ku), .int (nI ik), .ref qa, .int (nI tnQ), .int (nI th), .int (nI la), .int (nI wo), .int (nI cu), .int (nI fa), .int (nI fat), .ref qs, .ref ql, .ref qm, .ref qi, .ref qe])), aN z qj 31 rQ, aN z qt 31 tf] s.heap.size = A at *
  have hS : va_S A s.heap s.heap [] := va_S.rf
  have hl := lv_entry ([.ref o, .int nv, .int wh]) (n := 8) (Nat.le_of_ble_eq_true rfl)
  rw [lg_entry_eq]
  generalize (lg_sl ([.ref o, .int nv, .int wh]) ++ List.replicate (8 - (lg_sl ([.ref o, .int nv, .int wh])).length) Slot.unset).toArray = ls at hl ⊢
  have hl : lv_has ls 8 [(0, .ref o), (1, .int nv), (2, .int wh)] := hl
  refine lv_aload_n hx hb dX11_mean_0 rfl (lv_at hl 0 rfl) ?_
  refine lv_iconst (v := nI 0) hx hb dX11_mean_1 (by decide +kernel) ?_
  refine va_put (D := D) (ci := 11) (v := .int (nI 0)) (ty := tyX11 11) (C := RX11) (T := TX11) (N := 22) hx hb hts iX11 tyX11 tyX11_ok nmX11 hown hK.1 hP hD hS 0 rfl rfl 11 (by decide) (hts _ m_576) (fun _ h9 => h9) rfl (tyX11_ok 11 (by decide)) rfl rfl (Nat.le_of_ble_eq_true rfl) dX11_mean_2 (fun H locs hP hD hS => ?_)
  have hP : va_P D vwCl [(o, .inr (11, [.ref qj, .ref qt, .ref qf, .ref qp, .int (nI un), .ref qk, .ref qq, .int (nI ku), .int (nI ik), .ref qa, .int (nI tnQ), .int (nI 0), .int (nI la), .int (nI wo), .int (nI cu), .int (nI fa), .int (nI fat), .ref qs, .ref ql, .ref qm, .ref qi, .ref qe])), aN z qj 31 rQ, aN z qt 31 tf] H := hP
  have hD : va_D A [(o, .inr (11, [.ref qj, .ref qt, .ref qf, .ref qp, .int (nI un), .ref qk, .ref qq, .int (nI ku), .int (nI ik), .ref qa, .int (nI tnQ), .int (nI 0), .int (nI la), .int (nI wo), .int (nI cu), .int (nI fa), .int (nI fat), .ref qs, .ref ql, .ref qm, .ref qi, .ref qe])), aN z qj 31 rQ, aN z qt 31 tf] := hD
  refine lv_iload_n hx hb dX11_mean_5 rfl (lv_at hl 1 rfl) ?_
  refine lv_i2l hx hb dX11_mean_6 rfl ?_
  refine lv_lconst (v := 0) hx hb dX11_mean_7 (by decide +kernel) ?_
  refine lv_ldc2 (own := RX11) hx hb hown (hts _ m_581) dX11_mean_8 ?_
  have hPc := hP.sub (ws' := []) [] rfl
  refine nv_cp1 (va_runS (As := [.long nv.toInt64, .long 0, .long (6)]) (rest := []) ⟨hx, hb, hml, hown, hts⟩ (c_X11_in l D z nv.toInt64 0 (6) ) (va_cwS 3 hts (gS m_539 m_540 m_541 m_536) rfl rfl rfl hd_X11_in ⟨Nat.le_of_ble_eq_true rfl, Nat.le_of_ble_eq_true rfl⟩) (nv_preP hK hPc trivial _) rfl rfl hl.1 rfl (lv_room (Nat.le_of_ble_eq_true rfl)) dX11_mean_11 ⟨by decide, by decide⟩) ?_
  refine nv_inwl (a := 0) (b := 6) (by decide) (by decide) ?_
  refine nv_beq (tgt := 27) hx hb dX11_mean_14 (by decide) (fun hc14 => ?_) (fun hc14 => ?_)
  · refine lv_iconst (v := (-1)) hx hb dX11_mean_27 (by decide +kernel) ?_
    obtain rfl := hrel.1 (by first | exact fun q => hc14 q.1 | exact fun q => hc24 q.2)
    exact nv_xi hx hb hr hlocks hS dX11_mean_28 (tf, la, wo) hP trivial rfl
  · refine lv_iload_n hx hb dX11_mean_17 rfl (lv_at hl 2 rfl) ?_
    refine lv_i2l hx hb dX11_mean_18 rfl ?_
    refine lv_lconst (v := 0) hx hb dX11_mean_19 (by decide +kernel) ?_
    refine lv_lconst (v := 1) hx hb dX11_mean_20 (by decide +kernel) ?_
    have hPc := hP.sub (ws' := []) [] rfl
    refine nv_cp1 (va_runS (As := [.long wh.toInt64, .long 0, .long 1]) (rest := []) ⟨hx, hb, hml, hown, hts⟩ (c_X11_in l D z wh.toInt64 0 1 ) (va_cwS 3 hts (gS m_539 m_540 m_541 m_536) rfl rfl rfl hd_X11_in ⟨Nat.le_of_ble_eq_true rfl, Nat.le_of_ble_eq_true rfl⟩) (nv_preP hK hPc trivial _) rfl rfl hl.1 rfl (lv_room (Nat.le_of_ble_eq_true rfl)) dX11_mean_21 ⟨by decide, by decide⟩) ?_
    refine nv_inwl (a := 0) (b := 1) (by decide) (by decide) ?_
    refine nv_bne (tgt := 29) hx hb dX11_mean_24 (by decide) (fun hc24 => ?_) (fun hc24 => ?_)
    · obtain ⟨kQ, rfl, k0, k1⟩ := wi_nat (b := 6) (by decide) hc14
      obtain ⟨k2Q, rfl, l0, l1⟩ := wi_nat (b := 1) (by decide) hc24
      have hwy := wyN_le (show kQ ≤ 6 by omega)
      refine lv_iconst (v := nI 1) hx hb dX11_mean_29 (by decide +kernel) ?_
      refine lv_istore_n (lv' := [(3, .int (nI 1)), (0, .ref o), (1, .int (nI kQ)), (2, .int (nI k2Q))]) hx hb dX11_mean_30 rfl hl (by decide) rfl (fun ls hl => ?_)
      refine lv_iconst (v := nI 0) hx hb dX11_mean_31 (by decide +kernel) ?_
      refine lv_istore (lv' := [(4, .int (nI 0)), (3, .int (nI 1)), (0, .ref o), (1, .int (nI kQ)), (2, .int (nI k2Q))]) hx hb dX11_mean_32 hl (by decide) rfl (fun ls hl => ?_)
      refine nv_loopP (σ := Nat) (fun x ls => ∃ (jq : Nat), jq = x ∧ ((jq ≤ kQ)) ∧ lv_has ls 8 [(0, .ref o), (1, .int (nI kQ)), (2, .int (nI k2Q)), (3, .int (nI (wyN jq))), (4, .int (nI jq))]) (fun x => kQ - x) 34 [] ?_ 0 ?_
      · rintro _ ls ⟨jq, rfl, hj, hl⟩ ih34
        refine lv_iload hx hb dX11_mean_34 (lv_at hl 4 rfl) ?_
        refine lv_iload_n hx hb dX11_mean_36 rfl (lv_at hl 1 rfl) ?_
        refine nv_ge (tgt := 50) hx hb (by omega) (by omega) dX11_mean_37 (by decide) (fun hc37 => ?_) (fun hc37 => ?_)
        · obtain rfl : kQ = jq := by omega
          refine lv_iconst (v := nI 0) hx hb dX11_mean_50 (by decide +kernel) ?_
          refine lv_istore (lv' := [(4, .int (nI 0)), (0, .ref o), (1, .int (nI kQ)), (2, .int (nI k2Q)), (3, .int (nI (wyN kQ)))]) hx hb dX11_mean_51 hl (by decide) rfl (fun ls hl => ?_)
          refine lv_iconst (v := nI 0) hx hb dX11_mean_53 (by decide +kernel) ?_
          refine lv_istore (lv' := [(5, .int (nI 0)), (4, .int (nI 0)), (0, .ref o), (1, .int (nI kQ)), (2, .int (nI k2Q)), (3, .int (nI (wyN kQ)))]) hx hb dX11_mean_54 hl (by decide) rfl (fun ls hl => ?_)
          refine nv_loop (σ := Nat × (Nat → Nat) × Nat) (fun x H locs ls => ∃ (wq : Nat) (tf2 : Nat → Nat) (lx : Nat), (wq, tf2, lx) = x ∧ ((wq ≤ wyN kQ)) ∧ va_P D vwCl [(o, .inr (11, [.ref qj, .ref qt, .ref qf, .ref qp, .int (nI un), .ref qk, .ref qq, .int (nI ku), .int (nI ik), .ref qa, .int (nI tnQ), .int (nI 0), .int (nI lx), .int (nI wo), .int (nI cu), .int (nI fa), .int (nI fat), .ref qs, .ref ql, .ref qm, .ref qi, .ref qe])), aN z qj 31 rQ, aN z qt 31 tf2] H ∧ va_D A [(o, .inr (11, [.ref qj, .ref qt, .ref qf, .ref qp, .int (nI un), .ref qk, .ref qq, .int (nI ku), .int (nI ik), .ref qa, .int (nI tnQ), .int (nI 0), .int (nI lx), .int (nI wo), .int (nI cu), .int (nI fa), .int (nI fat), .ref qs, .ref ql, .ref qm, .ref qi, .ref qe])), aN z qj 31 rQ, aN z qt 31 tf2] ∧ va_S A s.heap H locs ∧ lv_has ls 8 [(0, .ref o), (1, .int (nI kQ)), (2, .int (nI k2Q)), (3, .int (nI (wyN kQ))), (4, .int (nI (meS rQ kQ wq))), (5, .int (nI wq))]) (fun x => wyN kQ - x.1) 56 [] ?_ (0, tf, la) ?_
          · rintro _ H locs ls ⟨wq, tf2, lx, rfl, hwq, hP, hD, hS, hl⟩ ih56
            refine lv_iload hx hb dX11_mean_56 (lv_at hl 5 rfl) ?_
            refine lv_iload_n hx hb dX11_mean_58 rfl (lv_at hl 3 rfl) ?_
            refine nv_ge (tgt := 130) hx hb (by omega) (by omega) dX11_mean_59 (by decide) (fun hc59 => ?_) (fun hc59 => ?_)
            · obtain rfl : wq = wyN kQ := by omega
              have hms := meS_le (r := rQ) kQ (wyN kQ) hok
              refine lv_iload hx hb dX11_mean_130 (lv_at hl 4 rfl) ?_
              refine lv_istore (lv' := [(5, .int (nI (meS rQ kQ (wyN kQ)))), (0, .ref o), (1, .int (nI kQ)), (2, .int (nI k2Q)), (3, .int (nI (wyN kQ))), (4, .int (nI (meS rQ kQ (wyN kQ))))]) hx hb dX11_mean_132 hl (by decide) rfl (fun ls hl => ?_)
              refine lv_iload_n hx hb dX11_mean_134 rfl (lv_at hl 4 rfl) ?_
              refine lv_istore (lv' := [(6, .int (nI (wyN kQ))), (5, .int (nI (meS rQ kQ (wyN kQ)))), (0, .ref o), (1, .int (nI kQ)), (2, .int (nI k2Q)), (3, .int (nI (wyN kQ))), (4, .int (nI (meS rQ kQ (wyN kQ))))]) hx hb dX11_mean_135 hl (by decide) rfl (fun ls hl => ?_)
              refine nv_loopP (σ := Nat × Nat) (fun x ls => ∃ (xq : Nat) (yq : Nat), (xq, yq) = x ∧ ((Nat.gcd xq yq = Nat.gcd (meS rQ kQ (wyN kQ)) (wyN kQ)) ∧ (xq < 2147483648) ∧ (yq < 2147483648)) ∧ lv_has ls 8 [(2, .int (nI k2Q)), (3, .int (nI (wyN kQ))), (4, .int (nI (meS rQ kQ (wyN kQ)))), (5, .int (nI xq)), (6, .int (nI yq))]) (fun x => x.2) 137 [] ?_ (meS rQ kQ (wyN kQ), wyN kQ) ?_
              · rintro _ ls ⟨xq, yq, rfl, ⟨hg, hxq, hyq⟩, hl⟩ ih137
                refine lv_iload hx hb dX11_mean_137 (lv_at hl 4 rfl) ?_
                refine nv_ifeq (tgt := 160) hx hb (by omega) dX11_mean_139 (by decide) (fun hc139 => ?_) (fun hc139 => ?_)
                · obtain rfl : xq = Nat.gcd (meS rQ kQ (wyN kQ)) (wyN kQ) := by rw [← hg, hc139, Nat.gcd_zero_right]
                  have hgp : 0 < Nat.gcd (meS rQ kQ (wyN kQ)) (wyN kQ) := Nat.gcd_pos_of_pos_right _ (by omega)
                  refine lv_iload_n hx hb dX11_mean_160 rfl (lv_at hl 0 rfl) ?_
                  refine nv_ifne (tgt := 169) hx hb (by omega) dX11_mean_161 (by decide) (fun hc161 => ?_) (fun hc161 => ?_)
                  · obtain rfl : k2Q = 1 := by omega
                    obtain rfl := hrel.2.2 kQ rfl (by omega) rfl
                    refine lv_iload_n hx hb dX11_mean_169 rfl (lv_at hl 1 rfl) ?_
                    refine lv_iload hx hb dX11_mean_170 (lv_at hl 3 rfl) ?_
                    refine nv_div hx hb (by omega) (by omega) (by omega) dX11_mean_172 ?_
                    exact nv_xi hx hb hr hlocks hS dX11_mean_173 (tf2, lx, wo) hP trivial rfl
                  · obtain rfl : k2Q = 0 := hc161
                    obtain rfl := hrel.2.1 kQ rfl (by omega) rfl
                    refine lv_iload hx hb dX11_mean_164 (lv_at hl 2 rfl) ?_
                    refine lv_goto (tgt := 170) hx hb dX11_mean_166 (by decide) ?_
                    refine lv_iload hx hb dX11_mean_170 (lv_at hl 3 rfl) ?_
                    refine nv_div hx hb (by omega) (by omega) (by omega) dX11_mean_172 ?_
                    exact nv_xi hx hb hr hlocks hS dX11_mean_173 (tf2, lx, wo) hP trivial rfl
                · have hmod := Nat.mod_lt xq (show 0 < yq by omega)
                  have hg2 : Nat.gcd yq (xq % yq) = Nat.gcd (meS rQ kQ (wyN kQ)) (wyN kQ) := by rw [← hg, Nat.gcd_comm xq yq, Nat.gcd_rec yq xq, Nat.gcd_comm]
                  refine lv_iload hx hb dX11_mean_142 (lv_at hl 3 rfl) ?_
                  refine lv_iload hx hb dX11_mean_144 (lv_at hl 4 rfl) ?_
                  refine nv_rem hx hb (by omega) (by omega) (by omega) dX11_mean_146 ?_
                  refine lv_istore (lv' := [(7, .int (nI (xq % yq))), (2, .int (nI k2Q)), (3, .int (nI (wyN kQ))), (4, .int (nI (meS rQ kQ (wyN kQ)))), (5, .int (nI xq)), (6, .int (nI yq))]) hx hb dX11_mean_147 hl (by decide) rfl (fun ls hl => ?_)
                  refine lv_iload hx hb dX11_mean_149 (lv_at hl 5 rfl) ?_
                  refine lv_istore (lv' := [(5, .int (nI yq)), (7, .int (nI (xq % yq))), (2, .int (nI k2Q)), (3, .int (nI (wyN kQ))), (4, .int (nI (meS rQ kQ (wyN kQ)))), (6, .int (nI yq))]) hx hb dX11_mean_151 hl (by decide) rfl (fun ls hl => ?_)
                  refine lv_iload hx hb dX11_mean_153 (lv_at hl 1 rfl) ?_
                  refine lv_istore (lv' := [(6, .int (nI (xq % yq))), (5, .int (nI yq)), (7, .int (nI (xq % yq))), (2, .int (nI k2Q)), (3, .int (nI (wyN kQ))), (4, .int (nI (meS rQ kQ (wyN kQ))))]) hx hb dX11_mean_155 hl (by decide) rfl (fun ls hl => ?_)
                  refine lv_goto (tgt := 137) hx hb dX11_mean_157 (by decide) ?_
                  exact ih137 (yq, xq % yq) _ hmod ⟨yq, xq % yq, rfl, ⟨hg2, (by omega), (by omega)⟩, lv_sub hl [3, 4, 5, 1, 0] rfl⟩
              · exact ⟨meS rQ kQ (wyN kQ), wyN kQ, rfl, ⟨rfl, (by omega), (by omega)⟩, lv_sub hl [4, 5, 6, 1, 0] rfl⟩
            · refine lv_aload_n hx hb dX11_mean_62 rfl (lv_at hl 0 rfl) ?_
              refine va_get (D := D) (ci := 11) (v := .ref qj) (C := RX11) (T := TX11) (N := 22) hx hb hts iX11 hown hK.1 hP 0 rfl rfl 0 (by decide) (hts _ m_523) (fun _ h9 => h9) rfl dX11_mean_63 ?_
              refine lv_aload_n hx hb dX11_mean_66 rfl (lv_at hl 0 rfl) ?_
              refine va_get (D := D) (ci := 11) (v := .ref qt) (C := RX11) (T := TX11) (N := 22) hx hb hts iX11 hown hK.1 hP 0 rfl rfl 1 (by decide) (hts _ m_524) (fun _ h9 => h9) rfl dX11_mean_67 ?_
              have hPc := hP.sub (ws' := [aN z qj 31 rQ, aN z qt 31 tf2]) [1, 2] rfl
              have hDc := hD.sub (ws' := [aN z qj 31 rQ, aN z qt 31 tf2]) [1, 2] (by decide) rfl
              refine nv_cm0 (wc := [aN z qj 31 rQ, aN z qt 31 tf2]) (wr := [(o, .inr (11, [.ref qj, .ref qt, .ref qf, .ref qp, .int (nI un), .ref qk, .ref qq, .int (nI ku), .int (nI ik), .ref qa, .int (nI tnQ), .int (nI 0), .int (nI lx), .int (nI wo), .int (nI cu), .int (nI fa), .int (nI fat), .ref qs, .ref ql, .ref qm, .ref qi, .ref qe]))]) (w1 := [aN z qj 31 rQ, aN z qt 31 rQ]) (ws1 := [(o, .inr (11, [.ref qj, .ref qt, .ref qf, .ref qp, .int (nI un), .ref qk, .ref qq, .int (nI ku), .int (nI ik), .ref qa, .int (nI tnQ), .int (nI 0), .int (nI lx), .int (nI wo), .int (nI cu), .int (nI fa), .int (nI fat), .ref qs, .ref ql, .ref qm, .ref qi, .ref qe])), aN z qj 31 rQ, aN z qt 31 rQ]) (va_runS (As := [.ref qj, .ref qt]) (rest := []) ⟨hx, hb, hml, hown, hts⟩ (c_X11_lay l D z H.size qj qt rQ tf2 ) (va_cwS 2 hts (gS m_631 m_632 m_541 m_537) rfl rfl rfl hd_X11_lay ⟨Nat.le_of_ble_eq_true rfl, Nat.le_of_ble_eq_true rfl⟩) (nv_preM hK hPc hDc trivial _) rfl rfl hl.1 rfl (lv_room (Nat.le_of_ble_eq_true rfl)) dX11_mean_70 ⟨by decide, by decide⟩) hP hD hS hA [1, 2] [0] [0, 1, 2] rfl rfl (by decide) (by decide) rfl (by decide) rfl (by decide) (fun H locs hP hD hS hE70 hz70 hf70 => ?_)
              clear hPc hDc
              clear hf70 hz70
              refine lv_iload hx hb dX11_mean_73 (lv_at hl 5 rfl) ?_
              refine lv_istore (lv' := [(6, .int (nI wq)), (0, .ref o), (1, .int (nI kQ)), (2, .int (nI k2Q)), (3, .int (nI (wyN kQ))), (4, .int (nI (meS rQ kQ wq))), (5, .int (nI wq))]) hx hb dX11_mean_75 hl (by decide) rfl (fun ls hl => ?_)
              refine lv_iconst (v := nI 0) hx hb dX11_mean_77 (by decide +kernel) ?_
              refine lv_istore (lv' := [(7, .int (nI 0)), (6, .int (nI wq)), (0, .ref o), (1, .int (nI kQ)), (2, .int (nI k2Q)), (3, .int (nI (wyN kQ))), (4, .int (nI (meS rQ kQ wq))), (5, .int (nI wq))]) hx hb dX11_mean_78 hl (by decide) rfl (fun ls hl => ?_)
              refine nv_loop (σ := Nat × Nat) (fun x H locs ls => ∃ (jq : Nat) (ly : Nat), (jq, ly) = x ∧ ((jq ≤ kQ)) ∧ va_P D vwCl [(o, .inr (11, [.ref qj, .ref qt, .ref qf, .ref qp, .int (nI un), .ref qk, .ref qq, .int (nI ku), .int (nI ik), .ref qa, .int (nI tnQ), .int (nI 0), .int (nI ly), .int (nI wo), .int (nI cu), .int (nI fa), .int (nI fat), .ref qs, .ref ql, .ref qm, .ref qi, .ref qe])), aN z qj 31 rQ, aN z qt 31 (mkN rQ wq jq)] H ∧ va_D A [(o, .inr (11, [.ref qj, .ref qt, .ref qf, .ref qp, .int (nI un), .ref qk, .ref qq, .int (nI ku), .int (nI ik), .ref qa, .int (nI tnQ), .int (nI 0), .int (nI ly), .int (nI wo), .int (nI cu), .int (nI fa), .int (nI fat), .ref qs, .ref ql, .ref qm, .ref qi, .ref qe])), aN z qj 31 rQ, aN z qt 31 (mkN rQ wq jq)] ∧ va_S A s.heap H locs ∧ lv_has ls 8 [(0, .ref o), (1, .int (nI kQ)), (2, .int (nI k2Q)), (3, .int (nI (wyN kQ))), (4, .int (nI (meS rQ kQ wq))), (5, .int (nI wq)), (6, .int (nI (leN wq jq))), (7, .int (nI jq))]) (fun x => kQ - x.1) 80 [] ?_ (0, lx) ?_
              · rintro _ H locs ls ⟨jq, ly, rfl, hj, hP, hD, hS, hl⟩ ih80
                refine lv_iload hx hb dX11_mean_80 (lv_at hl 7 rfl) ?_
                refine lv_iload_n hx hb dX11_mean_82 rfl (lv_at hl 1 rfl) ?_
                refine nv_ge (tgt := 113) hx hb (by omega) (by omega) dX11_mean_83 (by decide) (fun hc83 => ?_) (fun hc83 => ?_)
                · obtain rfl : kQ = jq := by omega
                  refine lv_iload hx hb dX11_mean_113 (lv_at hl 4 rfl) ?_
                  refine lv_aload_n hx hb dX11_mean_115 rfl (lv_at hl 0 rfl) ?_
                  refine va_get (D := D) (ci := 11) (v := .ref qt) (C := RX11) (T := TX11) (N := 22) hx hb hts iX11 hown hK.1 hP 0 rfl rfl 1 (by decide) (hts _ m_524) (fun _ h9 => h9) rfl dX11_mean_116 ?_
                  refine lv_iconst (v := nI 0) hx hb dX11_mean_119 (by decide +kernel) ?_
                  refine nv_ald hx hb hK hP 2 rfl (by omega) (by decide) dX11_mean_120 ?_
                  have hms := meS_le (r := rQ) kQ wq hok
                  refine nv_add hx hb dX11_mean_121 ?_
                  refine lv_istore (lv' := [(4, .int (nI (meS rQ kQ wq + ((mkN rQ wq kQ) 0)))), (0, .ref o), (1, .int (nI kQ)), (2, .int (nI k2Q)), (3, .int (nI (wyN kQ))), (5, .int (nI wq)), (6, .int (nI (leN wq kQ))), (7, .int (nI kQ))]) hx hb dX11_mean_122 hl (by decide) rfl (fun ls hl => ?_)
                  refine lv_iinc (v := nI (wq + 1)) (lv' := [(5, .int (nI (wq + 1))), (4, .int (nI (meS rQ kQ wq + ((mkN rQ wq kQ) 0)))), (0, .ref o), (1, .int (nI kQ)), (2, .int (nI k2Q)), (3, .int (nI (wyN kQ))), (6, .int (nI (leN wq kQ))), (7, .int (nI kQ))]) hx hb dX11_mean_124 hl (k := 5) rfl (nI_inc _) (by decide) rfl (fun ls hl => ?_)
                  refine lv_goto (tgt := 56) hx hb dX11_mean_127 (by decide) ?_
                  exact ih56 (wq + 1, mkN rQ wq kQ, ly) _ _ _ (by show wyN kQ - (wq + 1) < wyN kQ - wq; omega) ⟨wq + 1, mkN rQ wq kQ, ly, rfl, (by omega), hP, hD, hS, lv_sub hl [2, 3, 4, 5, 1, 0] rfl⟩
                · have hle := leN_le wq jq
                  have hokj := mkN_ok wq jq hok
                  have q3 := hokj.2.2.2.2.2.1
                  refine lv_aload_n hx hb dX11_mean_86 rfl (lv_at hl 0 rfl) ?_
                  refine lv_aload_n hx hb dX11_mean_87 rfl (lv_at hl 0 rfl) ?_
                  refine va_get (D := D) (ci := 11) (v := .ref qt) (C := RX11) (T := TX11) (N := 22) hx hb hts iX11 hown hK.1 hP 0 rfl rfl 1 (by decide) (hts _ m_524) (fun _ h9 => h9) rfl dX11_mean_88 ?_
                  refine lv_iload hx hb dX11_mean_91 (lv_at hl 6 rfl) ?_
                  refine lv_iconst (v := nI 3) hx hb dX11_mean_93 (by decide +kernel) ?_
                  refine nv_rem hx hb (by omega) (by omega) (by omega) dX11_mean_94 ?_
                  have hPc := hP.sub (ws' := [aN z qt 31 (mkN rQ wq jq)]) [2] rfl
                  have hDc := hD.sub (ws' := [aN z qt 31 (mkN rQ wq jq)]) [2] (by decide) rfl
                  refine nv_cm1 (wc := [aN z qt 31 (mkN rQ wq jq)]) (wr := [(o, .inr (11, [.ref qj, .ref qt, .ref qf, .ref qp, .int (nI un), .ref qk, .ref qq, .int (nI ku), .int (nI ik), .ref qa, .int (nI tnQ), .int (nI 0), .int (nI ly), .int (nI wo), .int (nI cu), .int (nI fa), .int (nI fat), .ref qs, .ref ql, .ref qm, .ref qi, .ref qe])), aN z qj 31 rQ]) (w1 := [aN z qt 31 (weekR (mkN rQ wq jq) (mkN rQ wq jq 3 + leN wq jq % 3))]) (ws1 := [(o, .inr (11, [.ref qj, .ref qt, .ref qf, .ref qp, .int (nI un), .ref qk, .ref qq, .int (nI ku), .int (nI ik), .ref qa, .int (nI tnQ), .int (nI 0), .int (nI ly), .int (nI wo), .int (nI cu), .int (nI fa), .int (nI fat), .ref qs, .ref ql, .ref qm, .ref qi, .ref qe])), aN z qj 31 rQ, aN z qt 31 (weekR (mkN rQ wq jq) (mkN rQ wq jq 3 + leN wq jq % 3))]) (va_runS (As := [.ref qt, .int (nI ((leN wq jq) % 3))]) (rest := [.ref o]) ⟨hx, hb, hml, hown, hts⟩ (c_X11_week l D z H.size (w0Q + jq) qt (mkN rQ wq jq) (nI ((leN wq jq) % 3)) (mkN rQ wq jq 3 + leN wq jq % 3) hokj (nI_add _ _) (by omega) (by first | assumption | omega)) (va_cwS 2 hts (gS m_572 m_573 m_541 m_569) rfl rfl rfl hd_X11_week ⟨Nat.le_of_ble_eq_true rfl, Nat.le_of_ble_eq_true rfl⟩) (nv_preM hK hPc hDc trivial _) rfl rfl hl.1 rfl (lv_room (Nat.le_of_ble_eq_true rfl)) dX11_mean_95 ⟨by decide, by decide⟩) hP hD hS hA [2] [0, 1] [0, 1, 2] rfl rfl (by decide) (by decide) rfl (by decide) rfl (by decide) (fun H locs hP hD hS hE95 hz95 hf95 => ?_)
                  clear hPc hDc
                  clear hf95 hz95
                  refine va_put (D := D) (ci := 11) (v := .int (nI (weekW (mkN rQ wq jq) (mkN rQ wq jq 3 + leN wq jq % 3)))) (ty := tyX11 12) (C := RX11) (T := TX11) (N := 22) hx hb hts iX11 tyX11 tyX11_ok nmX11 hown hK.1 hP hD hS 0 rfl rfl 12 (by decide) (hts _ m_570) (fun _ h9 => h9) rfl (tyX11_ok 12 (by decide)) rfl rfl (Nat.le_of_ble_eq_true rfl) dX11_mean_98 (fun H locs hP hD hS => ?_)
                  have hP : va_P D vwCl [(o, .inr (11, [.ref qj, .ref qt, .ref qf, .ref qp, .int (nI un), .ref qk, .ref qq, .int (nI ku), .int (nI ik), .ref qa, .int (nI tnQ), .int (nI 0), .int (nI (weekW (mkN rQ wq jq) (mkN rQ wq jq 3 + leN wq jq % 3))), .int (nI wo), .int (nI cu), .int (nI fa), .int (nI fat), .ref qs, .ref ql, .ref qm, .ref qi, .ref qe])), aN z qj 31 rQ, aN z qt 31 (weekR (mkN rQ wq jq) (mkN rQ wq jq 3 + leN wq jq % 3))] H := hP
                  have hD : va_D A [(o, .inr (11, [.ref qj, .ref qt, .ref qf, .ref qp, .int (nI un), .ref qk, .ref qq, .int (nI ku), .int (nI ik), .ref qa, .int (nI tnQ), .int (nI 0), .int (nI (weekW (mkN rQ wq jq) (mkN rQ wq jq 3 + leN wq jq % 3))), .int (nI wo), .int (nI cu), .int (nI fa), .int (nI fat), .ref qs, .ref ql, .ref qm, .ref qi, .ref qe])), aN z qj 31 rQ, aN z qt 31 (weekR (mkN rQ wq jq) (mkN rQ wq jq 3 + leN wq jq % 3))] := hD
                  refine lv_iload hx hb dX11_mean_101 (lv_at hl 6 rfl) ?_
                  refine lv_iconst (v := nI 3) hx hb dX11_mean_103 (by decide +kernel) ?_
                  refine nv_div hx hb (by omega) (by omega) (by omega) dX11_mean_104 ?_
                  refine lv_istore (lv' := [(6, .int (nI ((leN wq jq) / 3))), (0, .ref o), (1, .int (nI kQ)), (2, .int (nI k2Q)), (3, .int (nI (wyN kQ))), (4, .int (nI (meS rQ kQ wq))), (5, .int (nI wq)), (7, .int (nI jq))]) hx hb dX11_mean_105 hl (by decide) rfl (fun ls hl => ?_)
                  refine lv_iinc (v := nI (jq + 1)) (lv' := [(7, .int (nI (jq + 1))), (6, .int (nI ((leN wq jq) / 3))), (0, .ref o), (1, .int (nI kQ)), (2, .int (nI k2Q)), (3, .int (nI (wyN kQ))), (4, .int (nI (meS rQ kQ wq))), (5, .int (nI wq))]) hx hb dX11_mean_107 hl (k := 7) rfl (nI_inc _) (by decide) rfl (fun ls hl => ?_)
                  refine lv_goto (tgt := 80) hx hb dX11_mean_110 (by decide) ?_
                  exact ih80 (jq + 1, weekW (mkN rQ wq jq) (mkN rQ wq jq 3 + leN wq jq % 3)) _ _ _ (by show kQ - (jq + 1) < kQ - jq; omega) ⟨jq + 1, weekW (mkN rQ wq jq) (mkN rQ wq jq 3 + leN wq jq % 3), rfl, (by omega), hP, hD, hS, lv_sub hl [2, 3, 4, 5, 6, 7, 1, 0] rfl⟩
              · exact ⟨0, lx, rfl, (by omega), hP, hD, hS, lv_sub hl [2, 3, 4, 5, 6, 7, 1, 0] rfl⟩
          · exact ⟨0, tf, la, rfl, (by omega), hP, hD, hS, lv_sub hl [2, 3, 4, 5, 1, 0] rfl⟩
        · refine lv_iload_n hx hb dX11_mean_40 rfl (lv_at hl 3 rfl) ?_
          refine lv_iconst (v := nI 3) hx hb dX11_mean_41 (by decide +kernel) ?_
          refine nv_mul hx hb dX11_mean_42 ?_
          refine lv_istore_n (lv' := [(3, .int (nI ((wyN jq) * 3))), (0, .ref o), (1, .int (nI kQ)), (2, .int (nI k2Q)), (4, .int (nI jq))]) hx hb dX11_mean_43 rfl hl (by decide) rfl (fun ls hl => ?_)
          refine lv_iinc (v := nI (jq + 1)) (lv' := [(4, .int (nI (jq + 1))), (3, .int (nI ((wyN jq) * 3))), (0, .ref o), (1, .int (nI kQ)), (2, .int (nI k2Q))]) hx hb dX11_mean_44 hl (k := 4) rfl (nI_inc _) (by decide) rfl (fun ls hl => ?_)
          refine lv_goto (tgt := 34) hx hb dX11_mean_47 (by decide) ?_
          exact ih34 (jq + 1) _ (by omega) ⟨jq + 1, rfl, (by omega), lv_sub hl [2, 3, 4, 1, 0] rfl⟩
      · exact ⟨0, rfl, (by omega), lv_sub hl [2, 3, 4, 1, 0] rfl⟩
    · refine lv_iconst (v := (-1)) hx hb dX11_mean_27 (by decide +kernel) ?_
      obtain rfl := hrel.1 (by first | exact fun q => hc14 q.1 | exact fun q => hc24 q.2)
      exact nv_xi hx hb hr hlocks hS dX11_mean_28 (tf, la, wo) hP trivial rfl
