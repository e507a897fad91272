theorem pr_1 (x y : Nat) : ((x + 1, y) : Nat × Nat).1 - 1 = x := rfl
theorem blk_b {ta : Nat → Nat} {tn c B9 : Nat} (h : c ≤ B9) (h2 : tn ≤ B9) : blk ta tn c ≤ B9 := by
  have h3 := blk_le ta tn c
  omega

set_option maxHeartbeats 4000000 in
set_option maxRecDepth 100000 in
theorem c_X11_house (l : Launch) (D : va_G) (z : Nat → ClassId) (sz : Nat) (o : Nat) (qj : Nat) (qt : Nat) (qf : Nat) (qp : Nat) (qk : Nat) (qq : Nat) (qa : Nat) (qs : Nat) (ql : Nat) (qm : Nat) (qi : Nat) (qe : Nat) (un : Nat) (ku : Nat) (ik : Nat) (tnQ : Nat) (th : Nat) (la : Nat) (wo : Nat) (cu : Nat) (fa : Nat) (fat : Nat) (rQ : Nat → Nat) (ta : Nat → Nat) (ffQ : Nat → Nat) (r1Q : Nat → Nat) (un1 : Nat) (vQ : Int32) (htp : tOK ta tnQ) (hrel : hsRel ta tnQ rQ un r1Q un1 vQ) : CX (σ := Nat × Nat × Nat × (Nat → Nat)) l yX11_house cX11_house 3 (some .int) 3 74 0 0 [.ref o] D z [(o, .inr (11, [.ref qj, .ref qt, .ref qf, .ref qp, .int (nI un), .ref qk, .ref qq, .int (nI ku), .int (nI ik), .ref qa, .int (nI tnQ), .int (nI th), .int (nI la), .int (nI wo), .int (nI cu), .int (nI fa), .int (nI fat), .ref qs, .ref ql, .ref qm, .ref qi, .ref qe])), aN z qj 31 rQ, aN z qa 60 ta, aN z qf 31 ffQ] sz (fun _ => True) (fun u => [(o, .inr (11, [.ref qj, .ref qt, .ref qf, .ref qp, .int (nI un1), .ref qk, .ref qq, .int (nI ku), .int (nI ik), .ref qa, .int (nI 0), .int (nI 0), .int (nI la), .int (nI wo), .int (nI u.1), .int (nI u.2.1), .int (nI u.2.2.1), .ref qs, .ref ql, .ref qm, .ref qi, .ref qe])), aN z qj 31 r1Q, aN z qa 60 ta, aN z qf 31 u.2.2.2]) (some (.int vQ)) (fun _ _ => True) := by
  refine Met.ofW (cc := cX11_house) (maxL := 3) (ret := (some .int)) (by decide) rfl ?_
  intro pg e s m args below meth c s₁ B hml hv
  obtain ⟨rfl, hsz, hP, hK, hD0, hE⟩ := hv
  have hx := B.exec
  have hb := B.bytes
  have hr := B.returns
  have hts : ∀ w ∈ ALL, w.before _ s = true := fun w h => atoms_spec (ws := wA yX11_house cX11_house 3 (some .int)) B.pre w (List.mem_cons_of_mem _ h)
  have hown : s.vm.findClass RX11 = some m.cls := findClass_of_methodNamed B.named
  have hlocks := B.notSynchronized
  subst hsz
  have hD := hD0.self (sz := s.heap.size)
  have htn := htp.1
  have hA : ∀ q : Nat, s.heap.size ≤ q → va_A [(o, .inr (11, [.ref qj, .ref qt, .ref qf, .ref qp, .int (nI un), .ref qk, .ref qq, .int (nI ku), .int (nI ik), .ref qa, .int (nI tnQ), .int (nI th), .int (nI la), .int (nI wo), .int (nI cu), .int (nI fa), .int (nI fat), .ref qs, .ref ql, .ref qm, .ref qi, .ref qe])), aN z qj 31 rQ, aN z qa 60 ta, aN z qf 31 ffQ] s.heap.size q := fun q h => Or.inr h
  generalize va_A [(o, .inr (11, [.ref qj, .ref qt, .ref qf, .ref qp, .int (nI un), .ref qk, .ref qq, .int (nI ku), .int (nI ik), .ref qa, .int (nI tnQ), .int (nI th), .int (nI la), .int (nI wo), .int (nI cu), .int (nI fa), .int (nI fat), .ref qs, .ref ql, .ref qm, .ref qi, .ref qe])), aN z qj 31 rQ, aN z qa 60 ta, aN z qf 31 ffQ] s.heap.size = A at *
  have hS : va_S A s.heap s.heap [] := va_S.rf
  have hl := lv_entry ([.ref o]) (n := 3) (Nat.le_of_ble_eq_true rfl)
  rw [lg_entry_eq]
  generalize (lg_sl ([.ref o]) ++ List.replicate (3 - (lg_sl ([.ref o])).length) Slot.unset).toArray = ls at hl ⊢
  have hl : lv_has ls 3 [(0, .ref o)] := hl
  refine lv_aload_n hx hb dX11_house_0 rfl (lv_at hl 0 rfl) ?_
  refine lv_iconst (v := nI 0) hx hb dX11_house_1 (by decide +kernel) ?_
  refine va_put (D := D) (ci := 11) (v := .int (nI 0)) (ty := tyX11 11) (C := RX11) (T := TX11) (N := 22) hx hb hts iX11 tyX11 tyX11_ok nmX11 hown hK.1 hP hD hS 0 rfl rfl 11 (by decide) (hts _ m_576) (fun _ h9 => h9) rfl (tyX11_ok 11 (by decide)) rfl rfl (Nat.le_of_ble_eq_true rfl) dX11_house_2 (fun H locs hP hD hS => ?_)
  have hP : va_P D vwCl [(o, .inr (11, [.ref qj, .ref qt, .ref qf, .ref qp, .int (nI un), .ref qk, .ref qq, .int (nI ku), .int (nI ik), .ref qa, .int (nI tnQ), .int (nI 0), .int (nI la), .int (nI wo), .int (nI cu), .int (nI fa), .int (nI fat), .ref qs, .ref ql, .ref qm, .ref qi, .ref qe])), aN z qj 31 rQ, aN z qa 60 ta, aN z qf 31 ffQ] H := hP
  have hD : va_D A [(o, .inr (11, [.ref qj, .ref qt, .ref qf, .ref qp, .int (nI un), .ref qk, .ref qq, .int (nI ku), .int (nI ik), .ref qa, .int (nI tnQ), .int (nI 0), .int (nI la), .int (nI wo), .int (nI cu), .int (nI fa), .int (nI fat), .ref qs, .ref ql, .ref qm, .ref qi, .ref qe])), aN z qj 31 rQ, aN z qa 60 ta, aN z qf 31 ffQ] := hD
  refine lv_iconst (v := nI 0) hx hb dX11_house_5 (by decide +kernel) ?_
  refine lv_istore_n (lv' := [(1, .int (nI 0)), (0, .ref o)]) hx hb dX11_house_6 rfl hl (by decide) rfl (fun ls hl => ?_)
  refine nv_loop (σ := Nat) (fun x H locs ls => ∃ (jq : Nat), jq = x ∧ ((jq ≤ 31)) ∧ va_P D vwCl [(o, .inr (11, [.ref qj, .ref qt, .ref qf, .ref qp, .int (nI un), .ref qk, .ref qq, .int (nI ku), .int (nI ik), .ref qa, .int (nI tnQ), .int (nI 0), .int (nI la), .int (nI wo), .int (nI cu), .int (nI fa), .int (nI fat), .ref qs, .ref ql, .ref qm, .ref qi, .ref qe])), aN z qj 31 rQ, aN z qa 60 ta, aN z qf 31 (lyF (fun _ => 0) ffQ jq)] H ∧ va_D A [(o, .inr (11, [.ref qj, .ref qt, .ref qf, .ref qp, .int (nI un), .ref qk, .ref qq, .int (nI ku), .int (nI ik), .ref qa, .int (nI tnQ), .int (nI 0), .int (nI la), .int (nI wo), .int (nI cu), .int (nI fa), .int (nI fat), .ref qs, .ref ql, .ref qm, .ref qi, .ref qe])), aN z qj 31 rQ, aN z qa 60 ta, aN z qf 31 (lyF (fun _ => 0) ffQ jq)] ∧ va_S A s.heap H locs ∧ lv_has ls 3 [(0, .ref o), (1, .int (nI jq))]) (fun x => 31 - x) 7 [] ?_ 0 ?_
  · rintro _ H locs ls ⟨jq, rfl, hj, hP, hD, hS, hl⟩ ih7
    refine lv_iload_n hx hb dX11_house_7 rfl (lv_at hl 1 rfl) ?_
    refine lv_bipush (v := nI 31) hx hb dX11_house_8 (by decide +kernel) ?_
    refine nv_ge (tgt := 26) hx hb (by omega) (by omega) dX11_house_10 (by decide) (fun hc10 => ?_) (fun hc10 => ?_)
    · obtain rfl : jq = 31 := by omega
      have hP : va_P D vwCl [(o, .inr (11, [.ref qj, .ref qt, .ref qf, .ref qp, .int (nI un), .ref qk, .ref qq, .int (nI ku), .int (nI ik), .ref qa, .int (nI tnQ), .int (nI 0), .int (nI la), .int (nI wo), .int (nI cu), .int (nI fa), .int (nI fat), .ref qs, .ref ql, .ref qm, .ref qi, .ref qe])), aN z qj 31 rQ, aN z qa 60 ta, aN z qf 31 (fun _ => 0)] H := va_P.cg hP 3 rfl (fun i hiQ => by rw [lyF_at, if_pos hiQ])
      have hD : va_D A [(o, .inr (11, [.ref qj, .ref qt, .ref qf, .ref qp, .int (nI un), .ref qk, .ref qq, .int (nI ku), .int (nI ik), .ref qa, .int (nI tnQ), .int (nI 0), .int (nI la), .int (nI wo), .int (nI cu), .int (nI fa), .int (nI fat), .ref qs, .ref ql, .ref qm, .ref qi, .ref qe])), aN z qj 31 rQ, aN z qa 60 ta, aN z qf 31 (fun _ => 0)] := hD.same rfl
      refine lv_aload_n hx hb dX11_house_26 rfl (lv_at hl 0 rfl) ?_
      refine lv_iconst (v := nI 0) hx hb dX11_house_27 (by decide +kernel) ?_
      refine va_put (D := D) (ci := 11) (v := .int (nI 0)) (ty := tyX11 14) (C := RX11) (T := TX11) (N := 22) hx hb hts iX11 tyX11 tyX11_ok nmX11 hown hK.1 hP hD hS 0 rfl rfl 14 (by decide) (hts _ m_595) (fun _ h9 => h9) rfl (tyX11_ok 14 (by decide)) rfl rfl (Nat.le_of_ble_eq_true rfl) dX11_house_28 (fun H locs hP hD hS => ?_)
      have hP : va_P D vwCl [(o, .inr (11, [.ref qj, .ref qt, .ref qf, .ref qp, .int (nI un), .ref qk, .ref qq, .int (nI ku), .int (nI ik), .ref qa, .int (nI tnQ), .int (nI 0), .int (nI la), .int (nI wo), .int (nI 0), .int (nI fa), .int (nI fat), .ref qs, .ref ql, .ref qm, .ref qi, .ref qe])), aN z qj 31 rQ, aN z qa 60 ta, aN z qf 31 (fun _ => 0)] H := hP
      have hD : va_D A [(o, .inr (11, [.ref qj, .ref qt, .ref qf, .ref qp, .int (nI un), .ref qk, .ref qq, .int (nI ku), .int (nI ik), .ref qa, .int (nI tnQ), .int (nI 0), .int (nI la), .int (nI wo), .int (nI 0), .int (nI fa), .int (nI fat), .ref qs, .ref ql, .ref qm, .ref qi, .ref qe])), aN z qj 31 rQ, aN z qa 60 ta, aN z qf 31 (fun _ => 0)] := hD
      refine lv_aload_n hx hb dX11_house_31 rfl (lv_at hl 0 rfl) ?_
      refine lv_iconst (v := nI 0) hx hb dX11_house_32 (by decide +kernel) ?_
      refine va_put (D := D) (ci := 11) (v := .int (nI 0)) (ty := tyX11 15) (C := RX11) (T := TX11) (N := 22) hx hb hts iX11 tyX11 tyX11_ok nmX11 hown hK.1 hP hD hS 0 rfl rfl 15 (by decide) (hts _ m_597) (fun _ h9 => h9) rfl (tyX11_ok 15 (by decide)) rfl rfl (Nat.le_of_ble_eq_true rfl) dX11_house_33 (fun H locs hP hD hS => ?_)
      have hP : va_P D vwCl [(o, .inr (11, [.ref qj, .ref qt, .ref qf, .ref qp, .int (nI un), .ref qk, .ref qq, .int (nI ku), .int (nI ik), .ref qa, .int (nI tnQ), .int (nI 0), .int (nI la), .int (nI wo), .int (nI 0), .int (nI 0), .int (nI fat), .ref qs, .ref ql, .ref qm, .ref qi, .ref qe])), aN z qj 31 rQ, aN z qa 60 ta, aN z qf 31 (fun _ => 0)] H := hP
      have hD : va_D A [(o, .inr (11, [.ref qj, .ref qt, .ref qf, .ref qp, .int (nI un), .ref qk, .ref qq, .int (nI ku), .int (nI ik), .ref qa, .int (nI tnQ), .int (nI 0), .int (nI la), .int (nI wo), .int (nI 0), .int (nI 0), .int (nI fat), .ref qs, .ref ql, .ref qm, .ref qi, .ref qe])), aN z qj 31 rQ, aN z qa 60 ta, aN z qf 31 (fun _ => 0)] := hD
      refine lv_aload_n hx hb dX11_house_36 rfl (lv_at hl 0 rfl) ?_
      refine va_get (D := D) (ci := 11) (v := .ref qf) (C := RX11) (T := TX11) (N := 22) hx hb hts iX11 hown hK.1 hP 0 rfl rfl 2 (by decide) (hts _ m_525) (fun _ h9 => h9) rfl dX11_house_37 ?_
      refine lv_iconst (v := nI 1) hx hb dX11_house_40 (by decide +kernel) ?_
      refine lv_aload_n hx hb dX11_house_41 rfl (lv_at hl 0 rfl) ?_
      refine lv_sipush (v := nI 9999) hx hb dX11_house_42 (by decide +kernel) ?_
      have hbl0 : blk ta tnQ 0 ≤ 60 := blk_b (by omega) (by omega)
      have hs0 : simM ta tnQ 0 0 fat (0, 0) := ⟨fun _ => ⟨rfl, rfl, Nat.zero_le _⟩, fun z9 => absurd rfl z9, Nat.zero_le _⟩
      obtain ⟨fb1, ft1, hmu1, hfb1⟩ := mu_ex (1 ≤ nuV ta tnQ 0 ∧ nuV ta tnQ 0 ≤ 9999) 0 fat (blk ta tnQ 0) (by omega)
      have hPc := hP.sub (ws' := [(o, .inr (11, [.ref qj, .ref qt, .ref qf, .ref qp, .int (nI un), .ref qk, .ref qq, .int (nI ku), .int (nI ik), .ref qa, .int (nI tnQ), .int (nI 0), .int (nI la), .int (nI wo), .int (nI 0), .int (nI 0), .int (nI fat), .ref qs, .ref ql, .ref qm, .ref qi, .ref qe])), aN z qa 60 ta]) [0, 2] rfl
      have hDc := hD.sub (ws' := [(o, .inr (11, [.ref qj, .ref qt, .ref qf, .ref qp, .int (nI un), .ref qk, .ref qq, .int (nI ku), .int (nI ik), .ref qa, .int (nI tnQ), .int (nI 0), .int (nI la), .int (nI wo), .int (nI 0), .int (nI 0), .int (nI fat), .ref qs, .ref ql, .ref qm, .ref qi, .ref qe])), aN z qa 60 ta]) [0, 2] (by decide) rfl
      refine nv_cm1 (wc := [(o, .inr (11, [.ref qj, .ref qt, .ref qf, .ref qp, .int (nI un), .ref qk, .ref qq, .int (nI ku), .int (nI ik), .ref qa, .int (nI tnQ), .int (nI 0), .int (nI la), .int (nI wo), .int (nI 0), .int (nI 0), .int (nI fat), .ref qs, .ref ql, .ref qm, .ref qi, .ref qe])), aN z qa 60 ta]) (wr := [aN z qj 31 rQ, aN z qf 31 (fun _ => 0)]) (w1 := [(o, .inr (11, [.ref qj, .ref qt, .ref qf, .ref qp, .int (nI un), .ref qk, .ref qq, .int (nI ku), .int (nI ik), .ref qa, .int (nI tnQ), .int (nI 0), .int (nI la), .int (nI wo), .int (nI (blk ta tnQ 0 + dcF ta tnQ (blk ta tnQ 0))), .int (nI fb1), .int (nI ft1), .ref qs, .ref ql, .ref qm, .ref qi, .ref qe])), aN z qa 60 ta]) (ws1 := [(o, .inr (11, [.ref qj, .ref qt, .ref qf, .ref qp, .int (nI un), .ref qk, .ref qq, .int (nI ku), .int (nI ik), .ref qa, .int (nI tnQ), .int (nI 0), .int (nI la), .int (nI wo), .int (nI (blk ta tnQ 0 + dcF ta tnQ (blk ta tnQ 0))), .int (nI fb1), .int (nI ft1), .ref qs, .ref ql, .ref qm, .ref qi, .ref qe])), aN z qj 31 rQ, aN z qa 60 ta, aN z qf 31 (fun _ => 0)]) (va_runV (As := [.int (nI 9999)]) (rest := [.int (nI 1), .ref qf]) ⟨hx, hb, hml, hown, hts⟩ (c_X11_number l D z H.size o qj qt qf qp qk qq qa qs ql qm qi qe un ku ik tnQ 0 la wo 0 0 fat ta 9999 fb1 ft1 (by first | assumption | omega) (by first | assumption | omega) (by first | assumption | omega) (by first | assumption | omega) hmu1) (cwV 1 hts (gV m_622 m_623 m_624 m_541 m_612) rfl rfl rfl ⟨rfl, hd_X11_number⟩ ⟨Nat.le_of_ble_eq_true rfl, Nat.le_of_ble_eq_true rfl⟩) (nv_preMV (ci := 11) (q0 := 0) hK hPc hDc trivial rfl rfl) rfl rfl hl.1 rfl (lv_room (Nat.le_of_ble_eq_true rfl)) dX11_house_45 ⟨by decide, by decide⟩) hP hD hS hA [0, 2] [1, 3] [2, 0, 3, 1] rfl rfl (by decide) (by decide) rfl (by decide) rfl (by decide) (fun H locs hP hD hS hE45 hz45 hf45 => ?_)
      clear hPc hDc
      clear hf45 hz45
      have hdc0 := dcF_le ta tnQ (blk ta tnQ 0)
      have hs1 : simM ta tnQ _ fb1 ft1 (aH1 ta tnQ) := sim_num hs0 hmu1
      obtain ⟨c1Q, hc1⟩ : ∃ y9 : Nat, y9 = blk ta tnQ 0 + dcF ta tnQ (blk ta tnQ 0) := ⟨_, rfl⟩
      rw [← hc1] at hP hD hs1
      have hP : va_P D vwCl [(o, .inr (11, [.ref qj, .ref qt, .ref qf, .ref qp, .int (nI un), .ref qk, .ref qq, .int (nI ku), .int (nI ik), .ref qa, .int (nI tnQ), .int (nI 0), .int (nI la), .int (nI wo), .int (nI c1Q), .int (nI fb1), .int (nI ft1), .ref qs, .ref ql, .ref qm, .ref qi, .ref qe])), aN z qj 31 rQ, aN z qa 60 ta, aN z qf 31 (fun _ => 0)] H := hP
      have hD : va_D A [(o, .inr (11, [.ref qj, .ref qt, .ref qf, .ref qp, .int (nI un), .ref qk, .ref qq, .int (nI ku), .int (nI ik), .ref qa, .int (nI tnQ), .int (nI 0), .int (nI la), .int (nI wo), .int (nI c1Q), .int (nI fb1), .int (nI ft1), .ref qs, .ref ql, .ref qm, .ref qi, .ref qe])), aN z qj 31 rQ, aN z qa 60 ta, aN z qf 31 (fun _ => 0)] := hD
      have hb1 : c1Q ≤ 64 := by omega
      have hbl1 : blk ta tnQ c1Q ≤ 64 := blk_b hb1 (by omega)
      refine nv_ast hx hb hK hP hD hS 3 rfl (by omega) (by decide) dX11_house_48 (fun H locs hP hD hS => ?_)
      have hP : va_P D vwCl [(o, .inr (11, [.ref qj, .ref qt, .ref qf, .ref qp, .int (nI un), .ref qk, .ref qq, .int (nI ku), .int (nI ik), .ref qa, .int (nI tnQ), .int (nI 0), .int (nI la), .int (nI wo), .int (nI c1Q), .int (nI fb1), .int (nI ft1), .ref qs, .ref ql, .ref qm, .ref qi, .ref qe])), aN z qj 31 rQ, aN z qa 60 ta, aN z qf 31 (uN (fun _ => 0) 1 (nuV ta tnQ 0))] H := hP
      have hD : va_D A [(o, .inr (11, [.ref qj, .ref qt, .ref qf, .ref qp, .int (nI un), .ref qk, .ref qq, .int (nI ku), .int (nI ik), .ref qa, .int (nI tnQ), .int (nI 0), .int (nI la), .int (nI wo), .int (nI c1Q), .int (nI fb1), .int (nI ft1), .ref qs, .ref ql, .ref qm, .ref qi, .ref qe])), aN z qj 31 rQ, aN z qa 60 ta, aN z qf 31 (uN (fun _ => 0) 1 (nuV ta tnQ 0))] := hD
      refine lv_aload_n hx hb dX11_house_49 rfl (lv_at hl 0 rfl) ?_
      refine lv_bipush (v := nI 44) hx hb dX11_house_50 (by decide +kernel) ?_
      obtain ⟨fb2, ft2, hmu2, hfb2⟩ := mu_ex (fb1 = 0 ∧ isC ta tnQ c1Q 44) fb1 ft1 (blk ta tnQ c1Q) (by omega)
      have hPc := hP.sub (ws' := [(o, .inr (11, [.ref qj, .ref qt, .ref qf, .ref qp, .int (nI un), .ref qk, .ref qq, .int (nI ku), .int (nI ik), .ref qa, .int (nI tnQ), .int (nI 0), .int (nI la), .int (nI wo), .int (nI c1Q), .int (nI fb1), .int (nI ft1), .ref qs, .ref ql, .ref qm, .ref qi, .ref qe])), aN z qa 60 ta]) [0, 2] rfl
      have hDc := hD.sub (ws' := [(o, .inr (11, [.ref qj, .ref qt, .ref qf, .ref qp, .int (nI un), .ref qk, .ref qq, .int (nI ku), .int (nI ik), .ref qa, .int (nI tnQ), .int (nI 0), .int (nI la), .int (nI wo), .int (nI c1Q), .int (nI fb1), .int (nI ft1), .ref qs, .ref ql, .ref qm, .ref qi, .ref qe])), aN z qa 60 ta]) [0, 2] (by decide) rfl
      refine nv_cm0 (wc := [(o, .inr (11, [.ref qj, .ref qt, .ref qf, .ref qp, .int (nI un), .ref qk, .ref qq, .int (nI ku), .int (nI ik), .ref qa, .int (nI tnQ), .int (nI 0), .int (nI la), .int (nI wo), .int (nI c1Q), .int (nI fb1), .int (nI ft1), .ref qs, .ref ql, .ref qm, .ref qi, .ref qe])), aN z qa 60 ta]) (wr := [aN z qj 31 rQ, aN z qf 31 (uN (fun _ => 0) 1 (nuV ta tnQ 0))]) (w1 := [(o, .inr (11, [.ref qj, .ref qt, .ref qf, .ref qp, .int (nI un), .ref qk, .ref qq, .int (nI ku), .int (nI ik), .ref qa, .int (nI tnQ), .int (nI 0), .int (nI la), .int (nI wo), .int (nI (blk ta tnQ c1Q + 1)), .int (nI fb2), .int (nI ft2), .ref qs, .ref ql, .ref qm, .ref qi, .ref qe])), aN z qa 60 ta]) (ws1 := [(o, .inr (11, [.ref qj, .ref qt, .ref qf, .ref qp, .int (nI un), .ref qk, .ref qq, .int (nI ku), .int (nI ik), .ref qa, .int (nI tnQ), .int (nI 0), .int (nI la), .int (nI wo), .int (nI (blk ta tnQ c1Q + 1)), .int (nI fb2), .int (nI ft2), .ref qs, .ref ql, .ref qm, .ref qi, .ref qe])), aN z qj 31 rQ, aN z qa 60 ta, aN z qf 31 (uN (fun _ => 0) 1 (nuV ta tnQ 0))]) (va_runV (As := [.int (nI 44)]) (rest := []) ⟨hx, hb, hml, hown, hts⟩ (c_X11_must l D z H.size o qj qt qf qp qk qq qa qs ql qm qi qe un ku ik tnQ 0 la wo c1Q fb1 ft1 ta 44 fb2 ft2 (by first | assumption | omega) (by first | assumption | omega) (by first | assumption | omega) (by first | assumption | omega) hmu2) (cwV 1 hts (gV m_625 m_626 m_627 m_541 m_603) rfl rfl rfl ⟨rfl, hd_X11_must⟩ ⟨Nat.le_of_ble_eq_true rfl, Nat.le_of_ble_eq_true rfl⟩) (nv_preMV (ci := 11) (q0 := 0) hK hPc hDc trivial rfl rfl) rfl rfl hl.1 rfl (lv_room (Nat.le_of_ble_eq_true rfl)) dX11_house_52 ⟨by decide, by decide⟩) hP hD hS hA [0, 2] [1, 3] [2, 0, 3, 1] rfl rfl (by decide) (by decide) rfl (by decide) rfl (by decide) (fun H locs hP hD hS hE52 hz52 hf52 => ?_)
      clear hPc hDc
      clear hf52 hz52
      have hs2 : simM ta tnQ _ fb2 ft2 (aH2 ta tnQ) := sim_must hs1 hmu2
      obtain ⟨c2Q, hc2⟩ : ∃ y9 : Nat, y9 = blk ta tnQ c1Q + 1 := ⟨_, rfl⟩
      rw [← hc2] at hP hD hs2
      have hP : va_P D vwCl [(o, .inr (11, [.ref qj, .ref qt, .ref qf, .ref qp, .int (nI un), .ref qk, .ref qq, .int (nI ku), .int (nI ik), .ref qa, .int (nI tnQ), .int (nI 0), .int (nI la), .int (nI wo), .int (nI c2Q), .int (nI fb2), .int (nI ft2), .ref qs, .ref ql, .ref qm, .ref qi, .ref qe])), aN z qj 31 rQ, aN z qa 60 ta, aN z qf 31 (uN (fun _ => 0) 1 (nuV ta tnQ 0))] H := hP
      have hD : va_D A [(o, .inr (11, [.ref qj, .ref qt, .ref qf, .ref qp, .int (nI un), .ref qk, .ref qq, .int (nI ku), .int (nI ik), .ref qa, .int (nI tnQ), .int (nI 0), .int (nI la), .int (nI wo), .int (nI c2Q), .int (nI fb2), .int (nI ft2), .ref qs, .ref ql, .ref qm, .ref qi, .ref qe])), aN z qj 31 rQ, aN z qa 60 ta, aN z qf 31 (uN (fun _ => 0) 1 (nuV ta tnQ 0))] := hD
      have hb2 : c2Q ≤ 65 := by omega
      have hbl2 : blk ta tnQ c2Q ≤ 65 := blk_b hb2 (by omega)
      have hf2 := hs2.fa.1
      refine lv_aload_n hx hb dX11_house_55 rfl (lv_at hl 0 rfl) ?_
      refine va_get (D := D) (ci := 11) (v := .ref qf) (C := RX11) (T := TX11) (N := 22) hx hb hts iX11 hown hK.1 hP 0 rfl rfl 2 (by decide) (hts _ m_525) (fun _ h9 => h9) rfl dX11_house_56 ?_
      refine lv_iconst (v := nI 2) hx hb dX11_house_59 (by decide +kernel) ?_
      refine lv_aload_n hx hb dX11_house_60 rfl (lv_at hl 0 rfl) ?_
      refine va_get (D := D) (ci := 11) (v := .int (nI fb2)) (C := RX11) (T := TX11) (N := 22) hx hb hts iX11 hown hK.1 hP 0 rfl rfl 15 (by decide) (hts _ m_597) (fun _ h9 => h9) rfl dX11_house_61 ?_
      refine nv_ifeq (tgt := 71) hx hb (by omega) dX11_house_64 (by decide) (fun hc64 => ?_) (fun hc64 => ?_)
      · refine lv_aload_n hx hb dX11_house_71 rfl (lv_at hl 0 rfl) ?_
        refine lv_bipush (v := nI 100) hx hb dX11_house_72 (by decide +kernel) ?_
        have hz2 : (aH2 ta tnQ).1 = 0 := hs2.fa.2.mp hc64
        obtain ⟨fb3, ft3, hmu3, hfb3⟩ := mu_ex (1 ≤ nuV ta tnQ c2Q ∧ nuV ta tnQ c2Q ≤ 100) fb2 ft2 (blk ta tnQ c2Q) (by omega)
        have hPc := hP.sub (ws' := [(o, .inr (11, [.ref qj, .ref qt, .ref qf, .ref qp, .int (nI un), .ref qk, .ref qq, .int (nI ku), .int (nI ik), .ref qa, .int (nI tnQ), .int (nI 0), .int (nI la), .int (nI wo), .int (nI c2Q), .int (nI fb2), .int (nI ft2), .ref qs, .ref ql, .ref qm, .ref qi, .ref qe])), aN z qa 60 ta]) [0, 2] rfl
        have hDc := hD.sub (ws' := [(o, .inr (11, [.ref qj, .ref qt, .ref qf, .ref qp, .int (nI un), .ref qk, .ref qq, .int (nI ku), .int (nI ik), .ref qa, .int (nI tnQ), .int (nI 0), .int (nI la), .int (nI wo), .int (nI c2Q), .int (nI fb2), .int (nI ft2), .ref qs, .ref ql, .ref qm, .ref qi, .ref qe])), aN z qa 60 ta]) [0, 2] (by decide) rfl
        refine nv_cm1 (wc := [(o, .inr (11, [.ref qj, .ref qt, .ref qf, .ref qp, .int (nI un), .ref qk, .ref qq, .int (nI ku), .int (nI ik), .ref qa, .int (nI tnQ), .int (nI 0), .int (nI la), .int (nI wo), .int (nI c2Q), .int (nI fb2), .int (nI ft2), .ref qs, .ref ql, .ref qm, .ref qi, .ref qe])), aN z qa 60 ta]) (wr := [aN z qj 31 rQ, aN z qf 31 (uN (fun _ => 0) 1 (nuV ta tnQ 0))]) (w1 := [(o, .inr (11, [.ref qj, .ref qt, .ref qf, .ref qp, .int (nI un), .ref qk, .ref qq, .int (nI ku), .int (nI ik), .ref qa, .int (nI tnQ), .int (nI 0), .int (nI la), .int (nI wo), .int (nI (blk ta tnQ c2Q + dcF ta tnQ (blk ta tnQ c2Q))), .int (nI fb3), .int (nI ft3), .ref qs, .ref ql, .ref qm, .ref qi, .ref qe])), aN z qa 60 ta]) (ws1 := [(o, .inr (11, [.ref qj, .ref qt, .ref qf, .ref qp, .int (nI un), .ref qk, .ref qq, .int (nI ku), .int (nI ik), .ref qa, .int (nI tnQ), .int (nI 0), .int (nI la), .int (nI wo), .int (nI (blk ta tnQ c2Q + dcF ta tnQ (blk ta tnQ c2Q))), .int (nI fb3), .int (nI ft3), .ref qs, .ref ql, .ref qm, .ref qi, .ref qe])), aN z qj 31 rQ, aN z qa 60 ta, aN z qf 31 (uN (fun _ => 0) 1 (nuV ta tnQ 0))]) (va_runV (As := [.int (nI 100)]) (rest := [.int (nI 2), .ref qf]) ⟨hx, hb, hml, hown, hts⟩ (c_X11_number l D z H.size o qj qt qf qp qk qq qa qs ql qm qi qe un ku ik tnQ 0 la wo c2Q fb2 ft2 ta 100 fb3 ft3 (by first | assumption | omega) (by first | assumption | omega) (by first | assumption | omega) (by first | assumption | omega) hmu3) (cwV 1 hts (gV m_622 m_623 m_624 m_541 m_612) rfl rfl rfl ⟨rfl, hd_X11_number⟩ ⟨Nat.le_of_ble_eq_true rfl, Nat.le_of_ble_eq_true rfl⟩) (nv_preMV (ci := 11) (q0 := 0) hK hPc hDc trivial rfl rfl) rfl rfl hl.1 rfl (lv_room (Nat.le_of_ble_eq_true rfl)) dX11_house_74 ⟨by decide, by decide⟩) hP hD hS hA [0, 2] [1, 3] [2, 0, 3, 1] rfl rfl (by decide) (by decide) rfl (by decide) rfl (by decide) (fun H locs hP hD hS hE74 hz74 hf74 => ?_)
        clear hPc hDc
        clear hf74 hz74
        have hdc2 := dcF_le ta tnQ (blk ta tnQ c2Q)
        have hs3 : simM ta tnQ _ fb3 ft3 (aH3 ta tnQ) := sim_num hs2 hmu3
        obtain ⟨c3Q, hc3⟩ : ∃ y9 : Nat, y9 = blk ta tnQ c2Q + dcF ta tnQ (blk ta tnQ c2Q) := ⟨_, rfl⟩
        rw [← hc3] at hP hD hs3
        have hP : va_P D vwCl [(o, .inr (11, [.ref qj, .ref qt, .ref qf, .ref qp, .int (nI un), .ref qk, .ref qq, .int (nI ku), .int (nI ik), .ref qa, .int (nI tnQ), .int (nI 0), .int (nI la), .int (nI wo), .int (nI c3Q), .int (nI fb3), .int (nI ft3), .ref qs, .ref ql, .ref qm, .ref qi, .ref qe])), aN z qj 31 rQ, aN z qa 60 ta, aN z qf 31 (uN (fun _ => 0) 1 (nuV ta tnQ 0))] H := hP
        have hD : va_D A [(o, .inr (11, [.ref qj, .ref qt, .ref qf, .ref qp, .int (nI un), .ref qk, .ref qq, .int (nI ku), .int (nI ik), .ref qa, .int (nI tnQ), .int (nI 0), .int (nI la), .int (nI wo), .int (nI c3Q), .int (nI fb3), .int (nI ft3), .ref qs, .ref ql, .ref qm, .ref qi, .ref qe])), aN z qj 31 rQ, aN z qa 60 ta, aN z qf 31 (uN (fun _ => 0) 1 (nuV ta tnQ 0))] := hD
        have hb3 : c3Q ≤ 69 := by omega
        have hbl3 : blk ta tnQ c3Q ≤ 69 := blk_b hb3 (by omega)
        refine nv_ast hx hb hK hP hD hS 3 rfl (by omega) (by decide) dX11_house_77 (fun H locs hP hD hS => ?_)
        have hP : va_P D vwCl [(o, .inr (11, [.ref qj, .ref qt, .ref qf, .ref qp, .int (nI un), .ref qk, .ref qq, .int (nI ku), .int (nI ik), .ref qa, .int (nI tnQ), .int (nI 0), .int (nI la), .int (nI wo), .int (nI c3Q), .int (nI fb3), .int (nI ft3), .ref qs, .ref ql, .ref qm, .ref qi, .ref qe])), aN z qj 31 rQ, aN z qa 60 ta, aN z qf 31 (uN (uN (fun _ => 0) 1 (nuV ta tnQ 0)) 2 (nuV ta tnQ c2Q))] H := hP
        have hD : va_D A [(o, .inr (11, [.ref qj, .ref qt, .ref qf, .ref qp, .int (nI un), .ref qk, .ref qq, .int (nI ku), .int (nI ik), .ref qa, .int (nI tnQ), .int (nI 0), .int (nI la), .int (nI wo), .int (nI c3Q), .int (nI fb3), .int (nI ft3), .ref qs, .ref ql, .ref qm, .ref qi, .ref qe])), aN z qj 31 rQ, aN z qa 60 ta, aN z qf 31 (uN (uN (fun _ => 0) 1 (nuV ta tnQ 0)) 2 (nuV ta tnQ c2Q))] := hD
        refine lv_aload_n hx hb dX11_house_78 rfl (lv_at hl 0 rfl) ?_
        refine lv_bipush (v := nI 44) hx hb dX11_house_79 (by decide +kernel) ?_
        obtain ⟨fb4, ft4, hmu4, hfb4⟩ := mu_ex (fb3 = 0 ∧ isC ta tnQ c3Q 44) fb3 ft3 (blk ta tnQ c3Q) (by omega)
        have hPc := hP.sub (ws' := [(o, .inr (11, [.ref qj, .ref qt, .ref qf, .ref qp, .int (nI un), .ref qk, .ref qq, .int (nI ku), .int (nI ik), .ref qa, .int (nI tnQ), .int (nI 0), .int (nI la), .int (nI wo), .int (nI c3Q), .int (nI fb3), .int (nI ft3), .ref qs, .ref ql, .ref qm, .ref qi, .ref qe])), aN z qa 60 ta]) [0, 2] rfl
        have hDc := hD.sub (ws' := [(o, .inr (11, [.ref qj, .ref qt, .ref qf, .ref qp, .int (nI un), .ref qk, .ref qq, .int (nI ku), .int (nI ik), .ref qa, .int (nI tnQ), .int (nI 0), .int (nI la), .int (nI wo), .int (nI c3Q), .int (nI fb3), .int (nI ft3), .ref qs, .ref ql, .ref qm, .ref qi, .ref qe])), aN z qa 60 ta]) [0, 2] (by decide) rfl
        refine nv_cm0 (wc := [(o, .inr (11, [.ref qj, .ref qt, .ref qf, .ref qp, .int (nI un), .ref qk, .ref qq, .int (nI ku), .int (nI ik), .ref qa, .int (nI tnQ), .int (nI 0), .int (nI la), .int (nI wo), .int (nI c3Q), .int (nI fb3), .int (nI ft3), .ref qs, .ref ql, .ref qm, .ref qi, .ref qe])), aN z qa 60 ta]) (wr := [aN z qj 31 rQ, aN z qf 31 (uN (uN (fun _ => 0) 1 (nuV ta tnQ 0)) 2 (nuV ta tnQ c2Q))]) (w1 := [(o, .inr (11, [.ref qj, .ref qt, .ref qf, .ref qp, .int (nI un), .ref qk, .ref qq, .int (nI ku), .int (nI ik), .ref qa, .int (nI tnQ), .int (nI 0), .int (nI la), .int (nI wo), .int (nI (blk ta tnQ c3Q + 1)), .int (nI fb4), .int (nI ft4), .ref qs, .ref ql, .ref qm, .ref qi, .ref qe])), aN z qa 60 ta]) (ws1 := [(o, .inr (11, [.ref qj, .ref qt, .ref qf, .ref qp, .int (nI un), .ref qk, .ref qq, .int (nI ku), .int (nI ik), .ref qa, .int (nI tnQ), .int (nI 0), .int (nI la), .int (nI wo), .int (nI (blk ta tnQ c3Q + 1)), .int (nI fb4), .int (nI ft4), .ref qs, .ref ql, .ref qm, .ref qi, .ref qe])), aN z qj 31 rQ, aN z qa 60 ta, aN z qf 31 (uN (uN (fun _ => 0) 1 (nuV ta tnQ 0)) 2 (nuV ta tnQ c2Q))]) (va_runV (As := [.int (nI 44)]) (rest := []) ⟨hx, hb, hml, hown, hts⟩ (c_X11_must l D z H.size o qj qt qf qp qk qq qa qs ql qm qi qe un ku ik tnQ 0 la wo c3Q fb3 ft3 ta 44 fb4 ft4 (by first | assumption | omega) (by first | assumption | omega) (by first | assumption | omega) (by first | assumption | omega) hmu4) (cwV 1 hts (gV m_625 m_626 m_627 m_541 m_603) rfl rfl rfl ⟨rfl, hd_X11_must⟩ ⟨Nat.le_of_ble_eq_true rfl, Nat.le_of_ble_eq_true rfl⟩) (nv_preMV (ci := 11) (q0 := 0) hK hPc hDc trivial rfl rfl) rfl rfl hl.1 rfl (lv_room (Nat.le_of_ble_eq_true rfl)) dX11_house_81 ⟨by decide, by decide⟩) hP hD hS hA [0, 2] [1, 3] [2, 0, 3, 1] rfl rfl (by decide) (by decide) rfl (by decide) rfl (by decide) (fun H locs hP hD hS hE81 hz81 hf81 => ?_)
        clear hPc hDc
        clear hf81 hz81
        have hs4 : simM ta tnQ _ fb4 ft4 (aH4 ta tnQ) := sim_must hs3 hmu4
        obtain ⟨c4Q, hc4⟩ : ∃ y9 : Nat, y9 = blk ta tnQ c3Q + 1 := ⟨_, rfl⟩
        rw [← hc4] at hP hD hs4
        have hP : va_P D vwCl [(o, .inr (11, [.ref qj, .ref qt, .ref qf, .ref qp, .int (nI un), .ref qk, .ref qq, .int (nI ku), .int (nI ik), .ref qa, .int (nI tnQ), .int (nI 0), .int (nI la), .int (nI wo), .int (nI c4Q), .int (nI fb4), .int (nI ft4), .ref qs, .ref ql, .ref qm, .ref qi, .ref qe])), aN z qj 31 rQ, aN z qa 60 ta, aN z qf 31 (uN (uN (fun _ => 0) 1 (nuV ta tnQ 0)) 2 (nuV ta tnQ c2Q))] H := hP
        have hD : va_D A [(o, .inr (11, [.ref qj, .ref qt, .ref qf, .ref qp, .int (nI un), .ref qk, .ref qq, .int (nI ku), .int (nI ik), .ref qa, .int (nI tnQ), .int (nI 0), .int (nI la), .int (nI wo), .int (nI c4Q), .int (nI fb4), .int (nI ft4), .ref qs, .ref ql, .ref qm, .ref qi, .ref qe])), aN z qj 31 rQ, aN z qa 60 ta, aN z qf 31 (uN (uN (fun _ => 0) 1 (nuV ta tnQ 0)) 2 (nuV ta tnQ c2Q))] := hD
        have hb4 : c4Q ≤ 70 := by omega
        have hbl4 : blk ta tnQ c4Q ≤ 70 := blk_b hb4 (by omega)
        have hf4 := hs4.fa.1
        refine lv_aload_n hx hb dX11_house_84 rfl (lv_at hl 0 rfl) ?_
        refine va_get (D := D) (ci := 11) (v := .ref qf) (C := RX11) (T := TX11) (N := 22) hx hb hts iX11 hown hK.1 hP 0 rfl rfl 2 (by decide) (hts _ m_525) (fun _ h9 => h9) rfl dX11_house_85 ?_
        refine lv_iconst (v := nI 3) hx hb dX11_house_88 (by decide +kernel) ?_
        refine lv_aload_n hx hb dX11_house_89 rfl (lv_at hl 0 rfl) ?_
        refine va_get (D := D) (ci := 11) (v := .int (nI fb4)) (C := RX11) (T := TX11) (N := 22) hx hb hts iX11 hown hK.1 hP 0 rfl rfl 15 (by decide) (hts _ m_597) (fun _ h9 => h9) rfl dX11_house_90 ?_
        refine nv_ifeq (tgt := 100) hx hb (by omega) dX11_house_93 (by decide) (fun hc93 => ?_) (fun hc93 => ?_)
        · refine lv_aload_n hx hb dX11_house_100 rfl (lv_at hl 0 rfl) ?_
          refine lv_iconst (v := nI 0) hx hb dX11_house_101 (by decide +kernel) ?_
          have hz4 : (aH4 ta tnQ).1 = 0 := hs4.fa.2.mp hc93
          obtain ⟨fb5, ft5, hmu5, hfb5⟩ := mu_ex (isD ta tnQ c4Q 0) fb4 ft4 (blk ta tnQ c4Q) (by omega)
          have hPc := hP.sub (ws' := [(o, .inr (11, [.ref qj, .ref qt, .ref qf, .ref qp, .int (nI un), .ref qk, .ref qq, .int (nI ku), .int (nI ik), .ref qa, .int (nI tnQ), .int (nI 0), .int (nI la), .int (nI wo), .int (nI c4Q), .int (nI fb4), .int (nI ft4), .ref qs, .ref ql, .ref qm, .ref qi, .ref qe])), aN z qa 60 ta]) [0, 2] rfl
          have hDc := hD.sub (ws' := [(o, .inr (11, [.ref qj, .ref qt, .ref qf, .ref qp, .int (nI un), .ref qk, .ref qq, .int (nI ku), .int (nI ik), .ref qa, .int (nI tnQ), .int (nI 0), .int (nI la), .int (nI wo), .int (nI c4Q), .int (nI fb4), .int (nI ft4), .ref qs, .ref ql, .ref qm, .ref qi, .ref qe])), aN z qa 60 ta]) [0, 2] (by decide) rfl
          refine nv_cm1 (wc := [(o, .inr (11, [.ref qj, .ref qt, .ref qf, .ref qp, .int (nI un), .ref qk, .ref qq, .int (nI ku), .int (nI ik), .ref qa, .int (nI tnQ), .int (nI 0), .int (nI la), .int (nI wo), .int (nI c4Q), .int (nI fb4), .int (nI ft4), .ref qs, .ref ql, .ref qm, .ref qi, .ref qe])), aN z qa 60 ta]) (wr := [aN z qj 31 rQ, aN z qf 31 (uN (uN (fun _ => 0) 1 (nuV ta tnQ 0)) 2 (nuV ta tnQ c2Q))]) (w1 := [(o, .inr (11, [.ref qj, .ref qt, .ref qf, .ref qp, .int (nI un), .ref qk, .ref qq, .int (nI ku), .int (nI ik), .ref qa, .int (nI tnQ), .int (nI 0), .int (nI la), .int (nI wo), .int (nI (blk ta tnQ c4Q + 1)), .int (nI fb5), .int (nI ft5), .ref qs, .ref ql, .ref qm, .ref qi, .ref qe])), aN z qa 60 ta]) (ws1 := [(o, .inr (11, [.ref qj, .ref qt, .ref qf, .ref qp, .int (nI un), .ref qk, .ref qq, .int (nI ku), .int (nI ik), .ref qa, .int (nI tnQ), .int (nI 0), .int (nI la), .int (nI wo), .int (nI (blk ta tnQ c4Q + 1)), .int (nI fb5), .int (nI ft5), .ref qs, .ref ql, .ref qm, .ref qi, .ref qe])), aN z qj 31 rQ, aN z qa 60 ta, aN z qf 31 (uN (uN (fun _ => 0) 1 (nuV ta tnQ 0)) 2 (nuV ta tnQ c2Q))]) (va_runV (As := [.int (nI 0)]) (rest := [.int (nI 3), .ref qf]) ⟨hx, hb, hml, hown, hts⟩ (c_X11_digit l D z H.size o qj qt qf qp qk qq qa qs ql qm qi qe un ku ik tnQ 0 la wo c4Q fb4 ft4 ta 0 fb5 ft5 (by first | assumption | omega) (by first | assumption | omega) (by first | assumption | omega) (by first | assumption | omega) hmu5) (cwV 1 hts (gV m_618 m_619 m_620 m_541 m_610) rfl rfl rfl ⟨rfl, hd_X11_digit⟩ ⟨Nat.le_of_ble_eq_true rfl, Nat.le_of_ble_eq_true rfl⟩) (nv_preMV (ci := 11) (q0 := 0) hK hPc hDc trivial rfl rfl) rfl rfl hl.1 rfl (lv_room (Nat.le_of_ble_eq_true rfl)) dX11_house_102 ⟨by decide, by decide⟩) hP hD hS hA [0, 2] [1, 3] [2, 0, 3, 1] rfl rfl (by decide) (by decide) rfl (by decide) rfl (by decide) (fun H locs hP hD hS hE102 hz102 hf102 => ?_)
          clear hPc hDc
          clear hf102 hz102
          have hs5 : simM ta tnQ _ fb5 ft5 (aH5 ta tnQ) := sim_dig hs4 hmu5
          obtain ⟨c5Q, hc5⟩ : ∃ y9 : Nat, y9 = blk ta tnQ c4Q + 1 := ⟨_, rfl⟩
          rw [← hc5] at hP hD hs5
          have hP : va_P D vwCl [(o, .inr (11, [.ref qj, .ref qt, .ref qf, .ref qp, .int (nI un), .ref qk, .ref qq, .int (nI ku), .int (nI ik), .ref qa, .int (nI tnQ), .int (nI 0), .int (nI la), .int (nI wo), .int (nI c5Q), .int (nI fb5), .int (nI ft5), .ref qs, .ref ql, .ref qm, .ref qi, .ref qe])), aN z qj 31 rQ, aN z qa 60 ta, aN z qf 31 (uN (uN (fun _ => 0) 1 (nuV ta tnQ 0)) 2 (nuV ta tnQ c2Q))] H := hP
          have hD : va_D A [(o, .inr (11, [.ref qj, .ref qt, .ref qf, .ref qp, .int (nI un), .ref qk, .ref qq, .int (nI ku), .int (nI ik), .ref qa, .int (nI tnQ), .int (nI 0), .int (nI la), .int (nI wo), .int (nI c5Q), .int (nI fb5), .int (nI ft5), .ref qs, .ref ql, .ref qm, .ref qi, .ref qe])), aN z qj 31 rQ, aN z qa 60 ta, aN z qf 31 (uN (uN (fun _ => 0) 1 (nuV ta tnQ 0)) 2 (nuV ta tnQ c2Q))] := hD
          have hb5 : c5Q ≤ 71 := by omega
          have hbl5 : blk ta tnQ c5Q ≤ 71 := blk_b hb5 (by omega)
          refine nv_ast hx hb hK hP hD hS 3 rfl (by omega) (by decide) dX11_house_105 (fun H locs hP hD hS => ?_)
          have hP : va_P D vwCl [(o, .inr (11, [.ref qj, .ref qt, .ref qf, .ref qp, .int (nI un), .ref qk, .ref qq, .int (nI ku), .int (nI ik), .ref qa, .int (nI tnQ), .int (nI 0), .int (nI la), .int (nI wo), .int (nI c5Q), .int (nI fb5), .int (nI ft5), .ref qs, .ref ql, .ref qm, .ref qi, .ref qe])), aN z qj 31 rQ, aN z qa 60 ta, aN z qf 31 (uN (uN (uN (fun _ => 0) 1 (nuV ta tnQ 0)) 2 (nuV ta tnQ c2Q)) 3 (dgV ta tnQ c4Q 0))] H := hP
          have hD : va_D A [(o, .inr (11, [.ref qj, .ref qt, .ref qf, .ref qp, .int (nI un), .ref qk, .ref qq, .int (nI ku), .int (nI ik), .ref qa, .int (nI tnQ), .int (nI 0), .int (nI la), .int (nI wo), .int (nI c5Q), .int (nI fb5), .int (nI ft5), .ref qs, .ref ql, .ref qm, .ref qi, .ref qe])), aN z qj 31 rQ, aN z qa 60 ta, aN z qf 31 (uN (uN (uN (fun _ => 0) 1 (nuV ta tnQ 0)) 2 (nuV ta tnQ c2Q)) 3 (dgV ta tnQ c4Q 0))] := hD
          refine lv_aload_n hx hb dX11_house_106 rfl (lv_at hl 0 rfl) ?_
          refine lv_bipush (v := nI 59) hx hb dX11_house_107 (by decide +kernel) ?_
          obtain ⟨fb6, ft6, hmu6, hfb6⟩ := mu_ex (fb5 = 0 ∧ isC ta tnQ c5Q 59) fb5 ft5 (blk ta tnQ c5Q) (by omega)
          have hPc := hP.sub (ws' := [(o, .inr (11, [.ref qj, .ref qt, .ref qf, .ref qp, .int (nI un), .ref qk, .ref qq, .int (nI ku), .int (nI ik), .ref qa, .int (nI tnQ), .int (nI 0), .int (nI la), .int (nI wo), .int (nI c5Q), .int (nI fb5), .int (nI ft5), .ref qs, .ref ql, .ref qm, .ref qi, .ref qe])), aN z qa 60 ta]) [0, 2] rfl
          have hDc := hD.sub (ws' := [(o, .inr (11, [.ref qj, .ref qt, .ref qf, .ref qp, .int (nI un), .ref qk, .ref qq, .int (nI ku), .int (nI ik), .ref qa, .int (nI tnQ), .int (nI 0), .int (nI la), .int (nI wo), .int (nI c5Q), .int (nI fb5), .int (nI ft5), .ref qs, .ref ql, .ref qm, .ref qi, .ref qe])), aN z qa 60 ta]) [0, 2] (by decide) rfl
          refine nv_cm0 (wc := [(o, .inr (11, [.ref qj, .ref qt, .ref qf, .ref qp, .int (nI un), .ref qk, .ref qq, .int (nI ku), .int (nI ik), .ref qa, .int (nI tnQ), .int (nI 0), .int (nI la), .int (nI wo), .int (nI c5Q), .int (nI fb5), .int (nI ft5), .ref qs, .ref ql, .ref qm, .ref qi, .ref qe])), aN z qa 60 ta]) (wr := [aN z qj 31 rQ, aN z qf 31 (uN (uN (uN (fun _ => 0) 1 (nuV ta tnQ 0)) 2 (nuV ta tnQ c2Q)) 3 (dgV ta tnQ c4Q 0))]) (w1 := [(o, .inr (11, [.ref qj, .ref qt, .ref qf, .ref qp, .int (nI un), .ref qk, .ref qq, .int (nI ku), .int (nI ik), .ref qa, .int (nI tnQ), .int (nI 0), .int (nI la), .int (nI wo), .int (nI (blk ta tnQ c5Q + 1)), .int (nI fb6), .int (nI ft6), .ref qs, .ref ql, .ref qm, .ref qi, .ref qe])), aN z qa 60 ta]) (ws1 := [(o, .inr (11, [.ref qj, .ref qt, .ref qf, .ref qp, .int (nI un), .ref qk, .ref qq, .int (nI ku), .int (nI ik), .ref qa, .int (nI tnQ), .int (nI 0), .int (nI la), .int (nI wo), .int (nI (blk ta tnQ c5Q + 1)), .int (nI fb6), .int (nI ft6), .ref qs, .ref ql, .ref qm, .ref qi, .ref qe])), aN z qj 31 rQ, aN z qa 60 ta, aN z qf 31 (uN (uN (uN (fun _ => 0) 1 (nuV ta tnQ 0)) 2 (nuV ta tnQ c2Q)) 3 (dgV ta tnQ c4Q 0))]) (va_runV (As := [.int (nI 59)]) (rest := []) ⟨hx, hb, hml, hown, hts⟩ (c_X11_must l D z H.size o qj qt qf qp qk qq qa qs ql qm qi qe un ku ik tnQ 0 la wo c5Q fb5 ft5 ta 59 fb6 ft6 (by first | assumption | omega) (by first | assumption | omega) (by first | assumption | omega) (by first | assumption | omega) hmu6) (cwV 1 hts (gV m_625 m_626 m_627 m_541 m_603) rfl rfl rfl ⟨rfl, hd_X11_must⟩ ⟨Nat.le_of_ble_eq_true rfl, Nat.le_of_ble_eq_true rfl⟩) (nv_preMV (ci := 11) (q0 := 0) hK hPc hDc trivial rfl rfl) rfl rfl hl.1 rfl (lv_room (Nat.le_of_ble_eq_true rfl)) dX11_house_109 ⟨by decide, by decide⟩) hP hD hS hA [0, 2] [1, 3] [2, 0, 3, 1] rfl rfl (by decide) (by decide) rfl (by decide) rfl (by decide) (fun H locs hP hD hS hE109 hz109 hf109 => ?_)
          clear hPc hDc
          clear hf109 hz109
          have hs6 : simM ta tnQ _ fb6 ft6 (aH6 ta tnQ) := sim_must hs5 hmu6
          obtain ⟨c6Q, hc6⟩ : ∃ y9 : Nat, y9 = blk ta tnQ c5Q + 1 := ⟨_, rfl⟩
          rw [← hc6] at hP hD hs6
          have hP : va_P D vwCl [(o, .inr (11, [.ref qj, .ref qt, .ref qf, .ref qp, .int (nI un), .ref qk, .ref qq, .int (nI ku), .int (nI ik), .ref qa, .int (nI tnQ), .int (nI 0), .int (nI la), .int (nI wo), .int (nI c6Q), .int (nI fb6), .int (nI ft6), .ref qs, .ref ql, .ref qm, .ref qi, .ref qe])), aN z qj 31 rQ, aN z qa 60 ta, aN z qf 31 (uN (uN (uN (fun _ => 0) 1 (nuV ta tnQ 0)) 2 (nuV ta tnQ c2Q)) 3 (dgV ta tnQ c4Q 0))] H := hP
          have hD : va_D A [(o, .inr (11, [.ref qj, .ref qt, .ref qf, .ref qp, .int (nI un), .ref qk, .ref qq, .int (nI ku), .int (nI ik), .ref qa, .int (nI tnQ), .int (nI 0), .int (nI la), .int (nI wo), .int (nI c6Q), .int (nI fb6), .int (nI ft6), .ref qs, .ref ql, .ref qm, .ref qi, .ref qe])), aN z qj 31 rQ, aN z qa 60 ta, aN z qf 31 (uN (uN (uN (fun _ => 0) 1 (nuV ta tnQ 0)) 2 (nuV ta tnQ c2Q)) 3 (dgV ta tnQ c4Q 0))] := hD
          have hb6 : c6Q ≤ 72 := by omega
          have hbl6 : blk ta tnQ c6Q ≤ 72 := blk_b hb6 (by omega)
          have hf6 := hs6.fa.1
          refine lv_aload_n hx hb dX11_house_112 rfl (lv_at hl 0 rfl) ?_
          refine va_get (D := D) (ci := 11) (v := .int (nI fb6)) (C := RX11) (T := TX11) (N := 22) hx hb hts iX11 hown hK.1 hP 0 rfl rfl 15 (by decide) (hts _ m_597) (fun _ h9 => h9) rfl dX11_house_113 ?_
          refine nv_ifne (tgt := 123) hx hb (by omega) dX11_house_116 (by decide) (fun hc116 => ?_) (fun hc116 => ?_)
          · have hz6 : (aH6 ta tnQ).1 ≠ 0 := fun z9 => hc116 (hs6.fa.2.mpr z9)
            have e7 : aH7 ta tnQ = aH6 ta tnQ := if_neg hz6
            have hsF : simM ta tnQ c6Q fb6 ft6 (aH7 ta tnQ) := by rw [e7]; exact hs6
            have hrowF : (aH7 ta tnQ).1 = 0 → (uN (uN (uN (fun _ => 0) 1 (nuV ta tnQ 0)) 2 (nuV ta tnQ c2Q)) 3 (dgV ta tnQ c4Q 0)) = aHR ta tnQ := fun z9 => absurd (by rw [← e7]; exact z9) hz6
            have hbF : c6Q ≤ 900 := by omega
            refine lv_iconst (v := nI 0) hx hb dX11_house_123 (by decide +kernel) ?_
            refine lv_istore_n (lv' := [(1, .int (nI 0)), (0, .ref o)]) hx hb dX11_house_124 rfl hl (by decide) rfl (fun ls hl => ?_)
            refine lv_iload_n hx hb dX11_house_125 rfl (lv_at hl 0 rfl) ?_
            refine nv_ifeq (tgt := 188) hx hb (by omega) dX11_house_126 (by decide) (fun hc126 => ?_) (fun hc126 => ?_)
            · have hfF := hsF.fa.1
              have hblF : blk ta tnQ c6Q ≤ 900 := blk_b hbF (by omega)
              refine lv_aload_n hx hb dX11_house_188 rfl (lv_at hl 1 rfl) ?_
              have hPc := hP.sub (ws' := [(o, .inr (11, [.ref qj, .ref qt, .ref qf, .ref qp, .int (nI un), .ref qk, .ref qq, .int (nI ku), .int (nI ik), .ref qa, .int (nI tnQ), .int (nI 0), .int (nI la), .int (nI wo), .int (nI c6Q), .int (nI fb6), .int (nI ft6), .ref qs, .ref ql, .ref qm, .ref qi, .ref qe])), aN z qa 60 ta]) [0, 2] rfl
              have hDc := hD.sub (ws' := [(o, .inr (11, [.ref qj, .ref qt, .ref qf, .ref qp, .int (nI un), .ref qk, .ref qq, .int (nI ku), .int (nI ik), .ref qa, .int (nI tnQ), .int (nI 0), .int (nI la), .int (nI wo), .int (nI c6Q), .int (nI fb6), .int (nI ft6), .ref qs, .ref ql, .ref qm, .ref qi, .ref qe])), aN z qa 60 ta]) [0, 2] (by decide) rfl
              refine nv_cm0 (wc := [(o, .inr (11, [.ref qj, .ref qt, .ref qf, .ref qp, .int (nI un), .ref qk, .ref qq, .int (nI ku), .int (nI ik), .ref qa, .int (nI tnQ), .int (nI 0), .int (nI la), .int (nI wo), .int (nI c6Q), .int (nI fb6), .int (nI ft6), .ref qs, .ref ql, .ref qm, .ref qi, .ref qe])), aN z qa 60 ta]) (wr := [aN z qj 31 rQ, aN z qf 31 (uN (uN (uN (fun _ => 0) 1 (nuV ta tnQ 0)) 2 (nuV ta tnQ c2Q)) 3 (dgV ta tnQ c4Q 0))]) (w1 := [(o, .inr (11, [.ref qj, .ref qt, .ref qf, .ref qp, .int (nI un), .ref qk, .ref qq, .int (nI ku), .int (nI ik), .ref qa, .int (nI tnQ), .int (nI 0), .int (nI la), .int (nI wo), .int (nI (blk ta tnQ c6Q)), .int (nI fb6), .int (nI ft6), .ref qs, .ref ql, .ref qm, .ref qi, .ref qe])), aN z qa 60 ta]) (ws1 := [(o, .inr (11, [.ref qj, .ref qt, .ref qf, .ref qp, .int (nI un), .ref qk, .ref qq, .int (nI ku), .int (nI ik), .ref qa, .int (nI tnQ), .int (nI 0), .int (nI la), .int (nI wo), .int (nI (blk ta tnQ c6Q)), .int (nI fb6), .int (nI ft6), .ref qs, .ref ql, .ref qm, .ref qi, .ref qe])), aN z qj 31 rQ, aN z qa 60 ta, aN z qf 31 (uN (uN (uN (fun _ => 0) 1 (nuV ta tnQ 0)) 2 (nuV ta tnQ c2Q)) 3 (dgV ta tnQ c4Q 0))]) (va_runV (As := []) (rest := []) ⟨hx, hb, hml, hown, hts⟩ (c_X11_blanks l D z H.size o qj qt qf qp qk qq qa qs ql qm qi qe un ku ik tnQ 0 la wo c6Q fb6 ft6 ta (by first | assumption | omega) (by first | assumption | omega)) (cwV 0 hts (gV m_600 m_601 m_602 m_541 m_594) rfl rfl rfl ⟨rfl, hd_X11_blanks⟩ ⟨Nat.le_of_ble_eq_true rfl, Nat.le_of_ble_eq_true rfl⟩) (nv_preMV (ci := 11) (q0 := 0) hK hPc hDc trivial rfl rfl) rfl rfl hl.1 rfl (lv_room (Nat.le_of_ble_eq_true rfl)) dX11_house_189 ⟨by decide, by decide⟩) hP hD hS hA [0, 2] [1, 3] [2, 0, 3, 1] rfl rfl (by decide) (by decide) rfl (by decide) rfl (by decide) (fun H locs hP hD hS hE189 hz189 hf189 => ?_)
              clear hPc hDc
              clear hf189 hz189
              refine lv_aload_n hx hb dX11_house_192 rfl (lv_at hl 1 rfl) ?_
              refine va_get (D := D) (ci := 11) (v := .int (nI fb6)) (C := RX11) (T := TX11) (N := 22) hx hb hts iX11 hown hK.1 hP 0 rfl rfl 15 (by decide) (hts _ m_597) (fun _ h9 => h9) rfl dX11_house_193 ?_
              refine nv_ifne (tgt := 218) hx hb (by omega) dX11_house_196 (by decide) (fun hc196 => ?_) (fun hc196 => ?_)
              · have hz7 : (aH7 ta tnQ).1 ≠ 0 := fun z9 => hc196 (hsF.fa.2.mpr z9)
                have eS : aHS ta tnQ = aH7 ta tnQ := if_neg (fun z9 => hz7 z9.1)
                have hle7 := hsF.2.2
                have hft7 := (hsF.2.1 hz7).2
                obtain ⟨e1, e2, rfl⟩ := hrel.1 (by rw [eS]; exact hz7)
                obtain rfl := e1.symm
                obtain rfl := e2.symm
                rw [eS]
                refine lv_aload_n hx hb dX11_house_218 rfl (lv_at hl 1 rfl) ?_
                refine va_get (D := D) (ci := 11) (v := .int (nI ft6)) (C := RX11) (T := TX11) (N := 22) hx hb hts iX11 hown hK.1 hP 0 rfl rfl 16 (by decide) (hts _ m_598) (fun _ h9 => h9) rfl dX11_house_219 ?_
                refine lv_aload_n hx hb dX11_house_222 rfl (lv_at hl 1 rfl) ?_
                refine va_get (D := D) (ci := 11) (v := .int (nI tnQ)) (C := RX11) (T := TX11) (N := 22) hx hb hts iX11 hown hK.1 hP 0 rfl rfl 10 (by decide) (hts _ m_593) (fun _ h9 => h9) rfl dX11_house_223 ?_
                refine nv_le (tgt := 236) hx hb (by omega) (by omega) dX11_house_226 (by decide) (fun hc226 => ?_) (fun hc226 => ?_)
                · refine lv_aload_n hx hb dX11_house_236 rfl (lv_at hl 1 rfl) ?_
                  refine va_get (D := D) (ci := 11) (v := .int (nI ft6)) (C := RX11) (T := TX11) (N := 22) hx hb hts iX11 hown hK.1 hP 0 rfl rfl 16 (by decide) (hts _ m_598) (fun _ h9 => h9) rfl dX11_house_237 ?_
                  refine lv_istore_n (lv' := [(2, .int (nI ft6)), (1, .int (nI 0)), (0, .ref o)]) hx hb dX11_house_240 rfl hl (by decide) rfl (fun ls hl => ?_)
                  refine lv_aload_n hx hb dX11_house_241 rfl (lv_at hl 2 rfl) ?_
                  refine lv_iconst (v := nI 0) hx hb dX11_house_242 (by decide +kernel) ?_
                  refine va_put (D := D) (ci := 11) (v := .int (nI 0)) (ty := tyX11 10) (C := RX11) (T := TX11) (N := 22) hx hb hts iX11 tyX11 tyX11_ok nmX11 hown hK.1 hP hD hS 0 rfl rfl 10 (by decide) (hts _ m_593) (fun _ h9 => h9) rfl (tyX11_ok 10 (by decide)) rfl rfl (Nat.le_of_ble_eq_true rfl) dX11_house_243 (fun H locs hP hD hS => ?_)
                  have hP : va_P D vwCl [(o, .inr (11, [.ref qj, .ref qt, .ref qf, .ref qp, .int (nI un), .ref qk, .ref qq, .int (nI ku), .int (nI ik), .ref qa, .int (nI 0), .int (nI 0), .int (nI la), .int (nI wo), .int (nI (blk ta tnQ c6Q)), .int (nI fb6), .int (nI ft6), .ref qs, .ref ql, .ref qm, .ref qi, .ref qe])), aN z qj 31 rQ, aN z qa 60 ta, aN z qf 31 (uN (uN (uN (fun _ => 0) 1 (nuV ta tnQ 0)) 2 (nuV ta tnQ c2Q)) 3 (dgV ta tnQ c4Q 0))] H := hP
                  have hD : va_D A [(o, .inr (11, [.ref qj, .ref qt, .ref qf, .ref qp, .int (nI un), .ref qk, .ref qq, .int (nI ku), .int (nI ik), .ref qa, .int (nI 0), .int (nI 0), .int (nI la), .int (nI wo), .int (nI (blk ta tnQ c6Q)), .int (nI fb6), .int (nI ft6), .ref qs, .ref ql, .ref qm, .ref qi, .ref qe])), aN z qj 31 rQ, aN z qa 60 ta, aN z qf 31 (uN (uN (uN (fun _ => 0) 1 (nuV ta tnQ 0)) 2 (nuV ta tnQ c2Q)) 3 (dgV ta tnQ c4Q 0))] := hD
                  refine lv_aload_n hx hb dX11_house_246 rfl (lv_at hl 2 rfl) ?_
                  refine va_get (D := D) (ci := 11) (v := .int (nI fb6)) (C := RX11) (T := TX11) (N := 22) hx hb hts iX11 hown hK.1 hP 0 rfl rfl 15 (by decide) (hts _ m_597) (fun _ h9 => h9) rfl dX11_house_247 ?_
                  refine nv_ifeq (tgt := 258) hx hb (by omega) dX11_house_250 (by decide) (fun hc250 => ?_) (fun hc250 => ?_)
                  · exact absurd hc250 hc196
                  · refine lv_bipush (v := (-20)) hx hb dX11_house_253 (by decide +kernel) ?_
                    refine lv_iload_n hx hb dX11_house_255 rfl (lv_at hl 0 rfl) ?_
                    refine lv_isub hx hb dX11_house_256 ?_
                    exact nv_xi hx hb hr hlocks hS dX11_house_257 (blk ta tnQ c6Q, fb6, ft6, uN (uN (uN (fun _ => 0) 1 (nuV ta tnQ 0)) 2 (nuV ta tnQ c2Q)) 3 (dgV ta tnQ c4Q 0)) hP trivial (by rw [show (aH7 ta tnQ).1 - 1 = ft6 by omega])
                · (exfalso; omega)
              · have hz7 : (aH7 ta tnQ).1 = 0 := hsF.fa.2.mp hc196
                have hbq := sim_blk hsF hz7
                refine lv_aload_n hx hb dX11_house_199 rfl (lv_at hl 1 rfl) ?_
                refine va_get (D := D) (ci := 11) (v := .int (nI (blk ta tnQ c6Q))) (C := RX11) (T := TX11) (N := 22) hx hb hts iX11 hown hK.1 hP 0 rfl rfl 14 (by decide) (hts _ m_595) (fun _ h9 => h9) rfl dX11_house_200 ?_
                refine lv_aload_n hx hb dX11_house_203 rfl (lv_at hl 1 rfl) ?_
                refine va_get (D := D) (ci := 11) (v := .int (nI tnQ)) (C := RX11) (T := TX11) (N := 22) hx hb hts iX11 hown hK.1 hP 0 rfl rfl 10 (by decide) (hts _ m_593) (fun _ h9 => h9) rfl dX11_house_204 ?_
                refine nv_ge (tgt := 218) hx hb (by omega) (by omega) dX11_house_207 (by decide) (fun hc207 => ?_) (fun hc207 => ?_)
                · have eS : aHS ta tnQ = aH7 ta tnQ := if_neg (fun z9 => by have h7 := z9.2; rw [← hbq.2] at h7; omega)
                  refine lv_aload_n hx hb dX11_house_218 rfl (lv_at hl 1 rfl) ?_
                  refine va_get (D := D) (ci := 11) (v := .int (nI ft6)) (C := RX11) (T := TX11) (N := 22) hx hb hts iX11 hown hK.1 hP 0 rfl rfl 16 (by decide) (hts _ m_598) (fun _ h9 => h9) rfl dX11_house_219 ?_
                  refine lv_aload_n hx hb dX11_house_222 rfl (lv_at hl 1 rfl) ?_
                  refine va_get (D := D) (ci := 11) (v := .int (nI tnQ)) (C := RX11) (T := TX11) (N := 22) hx hb hts iX11 hown hK.1 hP 0 rfl rfl 10 (by decide) (hts _ m_593) (fun _ h9 => h9) rfl dX11_house_223 ?_
                  refine lv_icmp_le (tgt := 236) hx hb dX11_house_226 (by decide) (fun hc226 => ?_) (fun hc226 => ?_)
                  · refine lv_aload_n hx hb dX11_house_236 rfl (lv_at hl 1 rfl) ?_
                    refine va_get (D := D) (ci := 11) (v := .int (nI ft6)) (C := RX11) (T := TX11) (N := 22) hx hb hts iX11 hown hK.1 hP 0 rfl rfl 16 (by decide) (hts _ m_598) (fun _ h9 => h9) rfl dX11_house_237 ?_
                    refine lv_istore_n (lv' := [(2, .int (nI ft6)), (1, .int (nI 0)), (0, .ref o)]) hx hb dX11_house_240 rfl hl (by decide) rfl (fun ls hl => ?_)
                    refine lv_aload_n hx hb dX11_house_241 rfl (lv_at hl 2 rfl) ?_
                    refine lv_iconst (v := nI 0) hx hb dX11_house_242 (by decide +kernel) ?_
                    refine va_put (D := D) (ci := 11) (v := .int (nI 0)) (ty := tyX11 10) (C := RX11) (T := TX11) (N := 22) hx hb hts iX11 tyX11 tyX11_ok nmX11 hown hK.1 hP hD hS 0 rfl rfl 10 (by decide) (hts _ m_593) (fun _ h9 => h9) rfl (tyX11_ok 10 (by decide)) rfl rfl (Nat.le_of_ble_eq_true rfl) dX11_house_243 (fun H locs hP hD hS => ?_)
                    have hP : va_P D vwCl [(o, .inr (11, [.ref qj, .ref qt, .ref qf, .ref qp, .int (nI un), .ref qk, .ref qq, .int (nI ku), .int (nI ik), .ref qa, .int (nI 0), .int (nI 0), .int (nI la), .int (nI wo), .int (nI (blk ta tnQ c6Q)), .int (nI fb6), .int (nI ft6), .ref qs, .ref ql, .ref qm, .ref qi, .ref qe])), aN z qj 31 rQ, aN z qa 60 ta, aN z qf 31 (uN (uN (uN (fun _ => 0) 1 (nuV ta tnQ 0)) 2 (nuV ta tnQ c2Q)) 3 (dgV ta tnQ c4Q 0))] H := hP
                    have hD : va_D A [(o, .inr (11, [.ref qj, .ref qt, .ref qf, .ref qp, .int (nI un), .ref qk, .ref qq, .int (nI ku), .int (nI ik), .ref qa, .int (nI 0), .int (nI 0), .int (nI la), .int (nI wo), .int (nI (blk ta tnQ c6Q)), .int (nI fb6), .int (nI ft6), .ref qs, .ref ql, .ref qm, .ref qi, .ref qe])), aN z qj 31 rQ, aN z qa 60 ta, aN z qf 31 (uN (uN (uN (fun _ => 0) 1 (nuV ta tnQ 0)) 2 (nuV ta tnQ c2Q)) 3 (dgV ta tnQ c4Q 0))] := hD
                    refine lv_aload_n hx hb dX11_house_246 rfl (lv_at hl 2 rfl) ?_
                    refine va_get (D := D) (ci := 11) (v := .int (nI fb6)) (C := RX11) (T := TX11) (N := 22) hx hb hts iX11 hown hK.1 hP 0 rfl rfl 15 (by decide) (hts _ m_597) (fun _ h9 => h9) rfl dX11_house_247 ?_
                    refine nv_ifeq (tgt := 258) hx hb (by omega) dX11_house_250 (by decide) (fun hc250 => ?_) (fun hc250 => ?_)
                    · obtain ⟨rfl, rfl, rfl⟩ := hrel.2 (by rw [eS]; exact hz7)
                      have eR := hrowF hz7
                      rw [eR] at hP hD
                      have hP : va_P D vwCl [(o, .inr (11, [.ref qj, .ref qt, .ref qf, .ref qp, .int (nI un), .ref qk, .ref qq, .int (nI ku), .int (nI ik), .ref qa, .int (nI 0), .int (nI 0), .int (nI la), .int (nI wo), .int (nI (blk ta tnQ c6Q)), .int (nI fb6), .int (nI ft6), .ref qs, .ref ql, .ref qm, .ref qi, .ref qe])), aN z qj 31 rQ, aN z qa 60 ta, aN z qf 31 (aHR ta tnQ)] H := hP
                      have hD : va_D A [(o, .inr (11, [.ref qj, .ref qt, .ref qf, .ref qp, .int (nI un), .ref qk, .ref qq, .int (nI ku), .int (nI ik), .ref qa, .int (nI 0), .int (nI 0), .int (nI la), .int (nI wo), .int (nI (blk ta tnQ c6Q)), .int (nI fb6), .int (nI ft6), .ref qs, .ref ql, .ref qm, .ref qi, .ref qe])), aN z qj 31 rQ, aN z qa 60 ta, aN z qf 31 (aHR ta tnQ)] := hD
                      refine lv_aload_n hx hb dX11_house_258 rfl (lv_at hl 2 rfl) ?_
                      refine va_get (D := D) (ci := 11) (v := .ref qf) (C := RX11) (T := TX11) (N := 22) hx hb hts iX11 hown hK.1 hP 0 rfl rfl 2 (by decide) (hts _ m_525) (fun _ h9 => h9) rfl dX11_house_259 ?_
                      refine lv_iconst (v := nI 5) hx hb dX11_house_262 (by decide +kernel) ?_
                      refine lv_aload_n hx hb dX11_house_263 rfl (lv_at hl 2 rfl) ?_
                      refine va_get (D := D) (ci := 11) (v := .ref qj) (C := RX11) (T := TX11) (N := 22) hx hb hts iX11 hown hK.1 hP 0 rfl rfl 0 (by decide) (hts _ m_523) (fun _ h9 => h9) rfl dX11_house_264 ?_
                      refine lv_iconst (v := nI 5) hx hb dX11_house_267 (by decide +kernel) ?_
                      refine nv_ald hx hb hK hP 1 rfl (by omega) (by decide) dX11_house_268 ?_
                      refine nv_ast hx hb hK hP hD hS 3 rfl (by omega) (by decide) dX11_house_269 (fun H locs hP hD hS => ?_)
                      have hP : va_P D vwCl [(o, .inr (11, [.ref qj, .ref qt, .ref qf, .ref qp, .int (nI un), .ref qk, .ref qq, .int (nI ku), .int (nI ik), .ref qa, .int (nI 0), .int (nI 0), .int (nI la), .int (nI wo), .int (nI (blk ta tnQ c6Q)), .int (nI fb6), .int (nI ft6), .ref qs, .ref ql, .ref qm, .ref qi, .ref qe])), aN z qj 31 rQ, aN z qa 60 ta, aN z qf 31 (uN (aHR ta tnQ) 5 (rQ 5))] H := hP
                      have hD : va_D A [(o, .inr (11, [.ref qj, .ref qt, .ref qf, .ref qp, .int (nI un), .ref qk, .ref qq, .int (nI ku), .int (nI ik), .ref qa, .int (nI 0), .int (nI 0), .int (nI la), .int (nI wo), .int (nI (blk ta tnQ c6Q)), .int (nI fb6), .int (nI ft6), .ref qs, .ref ql, .ref qm, .ref qi, .ref qe])), aN z qj 31 rQ, aN z qa 60 ta, aN z qf 31 (uN (aHR ta tnQ) 5 (rQ 5))] := hD
                      refine lv_aload_n hx hb dX11_house_270 rfl (lv_at hl 2 rfl) ?_
                      refine va_get (D := D) (ci := 11) (v := .ref qf) (C := RX11) (T := TX11) (N := 22) hx hb hts iX11 hown hK.1 hP 0 rfl rfl 2 (by decide) (hts _ m_525) (fun _ h9 => h9) rfl dX11_house_271 ?_
                      refine lv_aload_n hx hb dX11_house_274 rfl (lv_at hl 2 rfl) ?_
                      refine va_get (D := D) (ci := 11) (v := .ref qj) (C := RX11) (T := TX11) (N := 22) hx hb hts iX11 hown hK.1 hP 0 rfl rfl 0 (by decide) (hts _ m_523) (fun _ h9 => h9) rfl dX11_house_275 ?_
                      have hPc := hP.sub (ws' := [aN z qf 31 (uN (aHR ta tnQ) 5 (rQ 5)), aN z qj 31 rQ]) [3, 1] rfl
                      have hDc := hD.sub (ws' := [aN z qf 31 (uN (aHR ta tnQ) 5 (rQ 5)), aN z qj 31 rQ]) [3, 1] (by decide) rfl
                      refine nv_cm0 (wc := [aN z qf 31 (uN (aHR ta tnQ) 5 (rQ 5)), aN z qj 31 rQ]) (wr := [(o, .inr (11, [.ref qj, .ref qt, .ref qf, .ref qp, .int (nI un), .ref qk, .ref qq, .int (nI ku), .int (nI ik), .ref qa, .int (nI 0), .int (nI 0), .int (nI la), .int (nI wo), .int (nI (blk ta tnQ c6Q)), .int (nI fb6), .int (nI ft6), .ref qs, .ref ql, .ref qm, .ref qi, .ref qe])), aN z qa 60 ta]) (w1 := [aN z qf 31 (uN (aHR ta tnQ) 5 (rQ 5)), aN z qj 31 (uN (aHR ta tnQ) 5 (rQ 5))]) (ws1 := [(o, .inr (11, [.ref qj, .ref qt, .ref qf, .ref qp, .int (nI un), .ref qk, .ref qq, .int (nI ku), .int (nI ik), .ref qa, .int (nI 0), .int (nI 0), .int (nI la), .int (nI wo), .int (nI (blk ta tnQ c6Q)), .int (nI fb6), .int (nI ft6), .ref qs, .ref ql, .ref qm, .ref qi, .ref qe])), aN z qj 31 (uN (aHR ta tnQ) 5 (rQ 5)), aN z qa 60 ta, aN z qf 31 (uN (aHR ta tnQ) 5 (rQ 5))]) (va_runS (As := [.ref qf, .ref qj]) (rest := []) ⟨hx, hb, hml, hown, hts⟩ (c_X11_lay l D z H.size qf qj (uN (aHR ta tnQ) 5 (rQ 5)) rQ ) (va_cwS 2 hts (gS m_631 m_632 m_541 m_537) rfl rfl rfl hd_X11_lay ⟨Nat.le_of_ble_eq_true rfl, Nat.le_of_ble_eq_true rfl⟩) (nv_preM hK hPc hDc trivial _) rfl rfl hl.1 rfl (lv_room (Nat.le_of_ble_eq_true rfl)) dX11_house_278 ⟨by decide, by decide⟩) hP hD hS hA [3, 1] [0, 2] [0, 3, 1, 2] rfl rfl (by decide) (by decide) rfl (by decide) rfl (by decide) (fun H locs hP hD hS hE278 hz278 hf278 => ?_)
                      clear hPc hDc
                      clear hf278 hz278
                      refine lv_aload_n hx hb dX11_house_281 rfl (lv_at hl 2 rfl) ?_
                      refine lv_iconst (v := nI 0) hx hb dX11_house_282 (by decide +kernel) ?_
                      refine va_put (D := D) (ci := 11) (v := .int (nI 0)) (ty := tyX11 4) (C := RX11) (T := TX11) (N := 22) hx hb hts iX11 tyX11 tyX11_ok nmX11 hown hK.1 hP hD hS 0 rfl rfl 4 (by decide) (hts _ m_580) (fun _ h9 => h9) rfl (tyX11_ok 4 (by decide)) rfl rfl (Nat.le_of_ble_eq_true rfl) dX11_house_283 (fun H locs hP hD hS => ?_)
                      have hP : va_P D vwCl [(o, .inr (11, [.ref qj, .ref qt, .ref qf, .ref qp, .int (nI 0), .ref qk, .ref qq, .int (nI ku), .int (nI ik), .ref qa, .int (nI 0), .int (nI 0), .int (nI la), .int (nI wo), .int (nI (blk ta tnQ c6Q)), .int (nI fb6), .int (nI ft6), .ref qs, .ref ql, .ref qm, .ref qi, .ref qe])), aN z qj 31 (uN (aHR ta tnQ) 5 (rQ 5)), aN z qa 60 ta, aN z qf 31 (uN (aHR ta tnQ) 5 (rQ 5))] H := hP
                      have hD : va_D A [(o, .inr (11, [.ref qj, .ref qt, .ref qf, .ref qp, .int (nI 0), .ref qk, .ref qq, .int (nI ku), .int (nI ik), .ref qa, .int (nI 0), .int (nI 0), .int (nI la), .int (nI wo), .int (nI (blk ta tnQ c6Q)), .int (nI fb6), .int (nI ft6), .ref qs, .ref ql, .ref qm, .ref qi, .ref qe])), aN z qj 31 (uN (aHR ta tnQ) 5 (rQ 5)), aN z qa 60 ta, aN z qf 31 (uN (aHR ta tnQ) 5 (rQ 5))] := hD
                      refine lv_aload_n hx hb dX11_house_286 rfl (lv_at hl 2 rfl) ?_
                      refine va_get (D := D) (ci := 11) (v := .ref qj) (C := RX11) (T := TX11) (N := 22) hx hb hts iX11 hown hK.1 hP 0 rfl rfl 0 (by decide) (hts _ m_523) (fun _ h9 => h9) rfl dX11_house_287 ?_
                      refine lv_bipush (v := nI 6) hx hb dX11_house_290 (by decide +kernel) ?_
                      refine nv_ald hx hb hK hP 1 rfl (by omega) (by decide) dX11_house_292 ?_
                      exact nv_xi hx hb hr hlocks hS dX11_house_293 (blk ta tnQ c6Q, fb6, ft6, uN (aHR ta tnQ) 5 (rQ 5)) hP trivial (by rw [uN_n _ (by decide)])
                    · exact absurd hc196 hc250
                  · refine lv_aload_n hx hb dX11_house_229 rfl (lv_at hl 1 rfl) ?_
                    refine va_get (D := D) (ci := 11) (v := .int (nI tnQ)) (C := RX11) (T := TX11) (N := 22) hx hb hts iX11 hown hK.1 hP 0 rfl rfl 10 (by decide) (hts _ m_593) (fun _ h9 => h9) rfl dX11_house_230 ?_
                    refine lv_goto (tgt := 240) hx hb dX11_house_233 (by decide) ?_
                    refine lv_istore_n (lv' := [(2, .int (nI tnQ)), (1, .int (nI 0)), (0, .ref o)]) hx hb dX11_house_240 rfl hl (by decide) rfl (fun ls hl => ?_)
                    refine lv_aload_n hx hb dX11_house_241 rfl (lv_at hl 2 rfl) ?_
                    refine lv_iconst (v := nI 0) hx hb dX11_house_242 (by decide +kernel) ?_
                    refine va_put (D := D) (ci := 11) (v := .int (nI 0)) (ty := tyX11 10) (C := RX11) (T := TX11) (N := 22) hx hb hts iX11 tyX11 tyX11_ok nmX11 hown hK.1 hP hD hS 0 rfl rfl 10 (by decide) (hts _ m_593) (fun _ h9 => h9) rfl (tyX11_ok 10 (by decide)) rfl rfl (Nat.le_of_ble_eq_true rfl) dX11_house_243 (fun H locs hP hD hS => ?_)
                    have hP : va_P D vwCl [(o, .inr (11, [.ref qj, .ref qt, .ref qf, .ref qp, .int (nI un), .ref qk, .ref qq, .int (nI ku), .int (nI ik), .ref qa, .int (nI 0), .int (nI 0), .int (nI la), .int (nI wo), .int (nI (blk ta tnQ c6Q)), .int (nI fb6), .int (nI ft6), .ref qs, .ref ql, .ref qm, .ref qi, .ref qe])), aN z qj 31 rQ, aN z qa 60 ta, aN z qf 31 (uN (uN (uN (fun _ => 0) 1 (nuV ta tnQ 0)) 2 (nuV ta tnQ c2Q)) 3 (dgV ta tnQ c4Q 0))] H := hP
                    have hD : va_D A [(o, .inr (11, [.ref qj, .ref qt, .ref qf, .ref qp, .int (nI un), .ref qk, .ref qq, .int (nI ku), .int (nI ik), .ref qa, .int (nI 0), .int (nI 0), .int (nI la), .int (nI wo), .int (nI (blk ta tnQ c6Q)), .int (nI fb6), .int (nI ft6), .ref qs, .ref ql, .ref qm, .ref qi, .ref qe])), aN z qj 31 rQ, aN z qa 60 ta, aN z qf 31 (uN (uN (uN (fun _ => 0) 1 (nuV ta tnQ 0)) 2 (nuV ta tnQ c2Q)) 3 (dgV ta tnQ c4Q 0))] := hD
                    refine lv_aload_n hx hb dX11_house_246 rfl (lv_at hl 2 rfl) ?_
                    refine va_get (D := D) (ci := 11) (v := .int (nI fb6)) (C := RX11) (T := TX11) (N := 22) hx hb hts iX11 hown hK.1 hP 0 rfl rfl 15 (by decide) (hts _ m_597) (fun _ h9 => h9) rfl dX11_house_247 ?_
                    refine nv_ifeq (tgt := 258) hx hb (by omega) dX11_house_250 (by decide) (fun hc250 => ?_) (fun hc250 => ?_)
                    · obtain ⟨rfl, rfl, rfl⟩ := hrel.2 (by rw [eS]; exact hz7)
                      have eR := hrowF hz7
                      rw [eR] at hP hD
                      have hP : va_P D vwCl [(o, .inr (11, [.ref qj, .ref qt, .ref qf, .ref qp, .int (nI un), .ref qk, .ref qq, .int (nI ku), .int (nI ik), .ref qa, .int (nI 0), .int (nI 0), .int (nI la), .int (nI wo), .int (nI (blk ta tnQ c6Q)), .int (nI fb6), .int (nI ft6), .ref qs, .ref ql, .ref qm, .ref qi, .ref qe])), aN z qj 31 rQ, aN z qa 60 ta, aN z qf 31 (aHR ta tnQ)] H := hP
                      have hD : va_D A [(o, .inr (11, [.ref qj, .ref qt, .ref qf, .ref qp, .int (nI un), .ref qk, .ref qq, .int (nI ku), .int (nI ik), .ref qa, .int (nI 0), .int (nI 0), .int (nI la), .int (nI wo), .int (nI (blk ta tnQ c6Q)), .int (nI fb6), .int (nI ft6), .ref qs, .ref ql, .ref qm, .ref qi, .ref qe])), aN z qj 31 rQ, aN z qa 60 ta, aN z qf 31 (aHR ta tnQ)] := hD
                      refine lv_aload_n hx hb dX11_house_258 rfl (lv_at hl 2 rfl) ?_
                      refine va_get (D := D) (ci := 11) (v := .ref qf) (C := RX11) (T := TX11) (N := 22) hx hb hts iX11 hown hK.1 hP 0 rfl rfl 2 (by decide) (hts _ m_525) (fun _ h9 => h9) rfl dX11_house_259 ?_
                      refine lv_iconst (v := nI 5) hx hb dX11_house_262 (by decide +kernel) ?_
                      refine lv_aload_n hx hb dX11_house_263 rfl (lv_at hl 2 rfl) ?_
                      refine va_get (D := D) (ci := 11) (v := .ref qj) (C := RX11) (T := TX11) (N := 22) hx hb hts iX11 hown hK.1 hP 0 rfl rfl 0 (by decide) (hts _ m_523) (fun _ h9 => h9) rfl dX11_house_264 ?_
                      refine lv_iconst (v := nI 5) hx hb dX11_house_267 (by decide +kernel) ?_
                      refine nv_ald hx hb hK hP 1 rfl (by omega) (by decide) dX11_house_268 ?_
                      refine nv_ast hx hb hK hP hD hS 3 rfl (by omega) (by decide) dX11_house_269 (fun H locs hP hD hS => ?_)
                      have hP : va_P D vwCl [(o, .inr (11, [.ref qj, .ref qt, .ref qf, .ref qp, .int (nI un), .ref qk, .ref qq, .int (nI ku), .int (nI ik), .ref qa, .int (nI 0), .int (nI 0), .int (nI la), .int (nI wo), .int (nI (blk ta tnQ c6Q)), .int (nI fb6), .int (nI ft6), .ref qs, .ref ql, .ref qm, .ref qi, .ref qe])), aN z qj 31 rQ, aN z qa 60 ta, aN z qf 31 (uN (aHR ta tnQ) 5 (rQ 5))] H := hP
                      have hD : va_D A [(o, .inr (11, [.ref qj, .ref qt, .ref qf, .ref qp, .int (nI un), .ref qk, .ref qq, .int (nI ku), .int (nI ik), .ref qa, .int (nI 0), .int (nI 0), .int (nI la), .int (nI wo), .int (nI (blk ta tnQ c6Q)), .int (nI fb6), .int (nI ft6), .ref qs, .ref ql, .ref qm, .ref qi, .ref qe])), aN z qj 31 rQ, aN z qa 60 ta, aN z qf 31 (uN (aHR ta tnQ) 5 (rQ 5))] := hD
                      refine lv_aload_n hx hb dX11_house_270 rfl (lv_at hl 2 rfl) ?_
                      refine va_get (D := D) (ci := 11) (v := .ref qf) (C := RX11) (T := TX11) (N := 22) hx hb hts iX11 hown hK.1 hP 0 rfl rfl 2 (by decide) (hts _ m_525) (fun _ h9 => h9) rfl dX11_house_271 ?_
                      refine lv_aload_n hx hb dX11_house_274 rfl (lv_at hl 2 rfl) ?_
                      refine va_get (D := D) (ci := 11) (v := .ref qj) (C := RX11) (T := TX11) (N := 22) hx hb hts iX11 hown hK.1 hP 0 rfl rfl 0 (by decide) (hts _ m_523) (fun _ h9 => h9) rfl dX11_house_275 ?_
                      have hPc := hP.sub (ws' := [aN z qf 31 (uN (aHR ta tnQ) 5 (rQ 5)), aN z qj 31 rQ]) [3, 1] rfl
                      have hDc := hD.sub (ws' := [aN z qf 31 (uN (aHR ta tnQ) 5 (rQ 5)), aN z qj 31 rQ]) [3, 1] (by decide) rfl
                      refine nv_cm0 (wc := [aN z qf 31 (uN (aHR ta tnQ) 5 (rQ 5)), aN z qj 31 rQ]) (wr := [(o, .inr (11, [.ref qj, .ref qt, .ref qf, .ref qp, .int (nI un), .ref qk, .ref qq, .int (nI ku), .int (nI ik), .ref qa, .int (nI 0), .int (nI 0), .int (nI la), .int (nI wo), .int (nI (blk ta tnQ c6Q)), .int (nI fb6), .int (nI ft6), .ref qs, .ref ql, .ref qm, .ref qi, .ref qe])), aN z qa 60 ta]) (w1 := [aN z qf 31 (uN (aHR ta tnQ) 5 (rQ 5)), aN z qj 31 (uN (aHR ta tnQ) 5 (rQ 5))]) (ws1 := [(o, .inr (11, [.ref qj, .ref qt, .ref qf, .ref qp, .int (nI un), .ref qk, .ref qq, .int (nI ku), .int (nI ik), .ref qa, .int (nI 0), .int (nI 0), .int (nI la), .int (nI wo), .int (nI (blk ta tnQ c6Q)), .int (nI fb6), .int (nI ft6), .ref qs, .ref ql, .ref qm, .ref qi, .ref qe])), aN z qj 31 (uN (aHR ta tnQ) 5 (rQ 5)), aN z qa 60 ta, aN z qf 31 (uN (aHR ta tnQ) 5 (rQ 5))]) (va_runS (As := [.ref qf, .ref qj]) (rest := []) ⟨hx, hb, hml, hown, hts⟩ (c_X11_lay l D z H.size qf qj (uN (aHR ta tnQ) 5 (rQ 5)) rQ ) (va_cwS 2 hts (gS m_631 m_632 m_541 m_537) rfl rfl rfl hd_X11_lay ⟨Nat.le_of_ble_eq_true rfl, Nat.le_of_ble_eq_true rfl⟩) (nv_preM hK hPc hDc trivial _) rfl rfl hl.1 rfl (lv_room (Nat.le_of_ble_eq_true rfl)) dX11_house_278 ⟨by decide, by decide⟩) hP hD hS hA [3, 1] [0, 2] [0, 3, 1, 2] rfl rfl (by decide) (by decide) rfl (by decide) rfl (by decide) (fun H locs hP hD hS hE278 hz278 hf278 => ?_)
                      clear hPc hDc
                      clear hf278 hz278
                      refine lv_aload_n hx hb dX11_house_281 rfl (lv_at hl 2 rfl) ?_
                      refine lv_iconst (v := nI 0) hx hb dX11_house_282 (by decide +kernel) ?_
                      refine va_put (D := D) (ci := 11) (v := .int (nI 0)) (ty := tyX11 4) (C := RX11) (T := TX11) (N := 22) hx hb hts iX11 tyX11 tyX11_ok nmX11 hown hK.1 hP hD hS 0 rfl rfl 4 (by decide) (hts _ m_580) (fun _ h9 => h9) rfl (tyX11_ok 4 (by decide)) rfl rfl (Nat.le_of_ble_eq_true rfl) dX11_house_283 (fun H locs hP hD hS => ?_)
                      have hP : va_P D vwCl [(o, .inr (11, [.ref qj, .ref qt, .ref qf, .ref qp, .int (nI 0), .ref qk, .ref qq, .int (nI ku), .int (nI ik), .ref qa, .int (nI 0), .int (nI 0), .int (nI la), .int (nI wo), .int (nI (blk ta tnQ c6Q)), .int (nI fb6), .int (nI ft6), .ref qs, .ref ql, .ref qm, .ref qi, .ref qe])), aN z qj 31 (uN (aHR ta tnQ) 5 (rQ 5)), aN z qa 60 ta, aN z qf 31 (uN (aHR ta tnQ) 5 (rQ 5))] H := hP
                      have hD : va_D A [(o, .inr (11, [.ref qj, .ref qt, .ref qf, .ref qp, .int (nI 0), .ref qk, .ref qq, .int (nI ku), .int (nI ik), .ref qa, .int (nI 0), .int (nI 0), .int (nI la), .int (nI wo), .int (nI (blk ta tnQ c6Q)), .int (nI fb6), .int (nI ft6), .ref qs, .ref ql, .ref qm, .ref qi, .ref qe])), aN z qj 31 (uN (aHR ta tnQ) 5 (rQ 5)), aN z qa 60 ta, aN z qf 31 (uN (aHR ta tnQ) 5 (rQ 5))] := hD
                      refine lv_aload_n hx hb dX11_house_286 rfl (lv_at hl 2 rfl) ?_
                      refine va_get (D := D) (ci := 11) (v := .ref qj) (C := RX11) (T := TX11) (N := 22) hx hb hts iX11 hown hK.1 hP 0 rfl rfl 0 (by decide) (hts _ m_523) (fun _ h9 => h9) rfl dX11_house_287 ?_
                      refine lv_bipush (v := nI 6) hx hb dX11_house_290 (by decide +kernel) ?_
                      refine nv_ald hx hb hK hP 1 rfl (by omega) (by decide) dX11_house_292 ?_
                      exact nv_xi hx hb hr hlocks hS dX11_house_293 (blk ta tnQ c6Q, fb6, ft6, uN (aHR ta tnQ) 5 (rQ 5)) hP trivial (by rw [uN_n _ (by decide)])
                    · exact absurd hc196 hc250
                · have eS : aHS ta tnQ = (blk ta tnQ (aH7 ta tnQ).2 + 1, 0) := if_pos ⟨hz7, by rw [← hbq.2]; omega⟩
                  refine lv_aload_n hx hb dX11_house_210 rfl (lv_at hl 1 rfl) ?_
                  refine lv_aload_n hx hb dX11_house_211 rfl (lv_at hl 1 rfl) ?_
                  refine va_get (D := D) (ci := 11) (v := .int (nI (blk ta tnQ c6Q))) (C := RX11) (T := TX11) (N := 22) hx hb hts iX11 hown hK.1 hP 0 rfl rfl 14 (by decide) (hts _ m_595) (fun _ h9 => h9) rfl dX11_house_212 ?_
                  have hPc := hP.sub (ws' := [(o, .inr (11, [.ref qj, .ref qt, .ref qf, .ref qp, .int (nI un), .ref qk, .ref qq, .int (nI ku), .int (nI ik), .ref qa, .int (nI tnQ), .int (nI 0), .int (nI la), .int (nI wo), .int (nI (blk ta tnQ c6Q)), .int (nI fb6), .int (nI ft6), .ref qs, .ref ql, .ref qm, .ref qi, .ref qe]))]) [0] rfl
                  have hDc := hD.sub (ws' := [(o, .inr (11, [.ref qj, .ref qt, .ref qf, .ref qp, .int (nI un), .ref qk, .ref qq, .int (nI ku), .int (nI ik), .ref qa, .int (nI tnQ), .int (nI 0), .int (nI la), .int (nI wo), .int (nI (blk ta tnQ c6Q)), .int (nI fb6), .int (nI ft6), .ref qs, .ref ql, .ref qm, .ref qi, .ref qe]))]) [0] (by decide) rfl
                  refine nv_cm0 (wc := [(o, .inr (11, [.ref qj, .ref qt, .ref qf, .ref qp, .int (nI un), .ref qk, .ref qq, .int (nI ku), .int (nI ik), .ref qa, .int (nI tnQ), .int (nI 0), .int (nI la), .int (nI wo), .int (nI (blk ta tnQ c6Q)), .int (nI fb6), .int (nI ft6), .ref qs, .ref ql, .ref qm, .ref qi, .ref qe]))]) (wr := [aN z qj 31 rQ, aN z qa 60 ta, aN z qf 31 (uN (uN (uN (fun _ => 0) 1 (nuV ta tnQ 0)) 2 (nuV ta tnQ c2Q)) 3 (dgV ta tnQ c4Q 0))]) (w1 := [(o, .inr (11, [.ref qj, .ref qt, .ref qf, .ref qp, .int (nI un), .ref qk, .ref qq, .int (nI ku), .int (nI ik), .ref qa, .int (nI tnQ), .int (nI 0), .int (nI la), .int (nI wo), .int (nI (blk ta tnQ c6Q)), .int (nI 1), .int (nI (baF fb6 ft6 (blk ta tnQ c6Q))), .ref qs, .ref ql, .ref qm, .ref qi, .ref qe]))]) (ws1 := [(o, .inr (11, [.ref qj, .ref qt, .ref qf, .ref qp, .int (nI un), .ref qk, .ref qq, .int (nI ku), .int (nI ik), .ref qa, .int (nI tnQ), .int (nI 0), .int (nI la), .int (nI wo), .int (nI (blk ta tnQ c6Q)), .int (nI 1), .int (nI (baF fb6 ft6 (blk ta tnQ c6Q))), .ref qs, .ref ql, .ref qm, .ref qi, .ref qe])), aN z qj 31 rQ, aN z qa 60 ta, aN z qf 31 (uN (uN (uN (fun _ => 0) 1 (nuV ta tnQ 0)) 2 (nuV ta tnQ c2Q)) 3 (dgV ta tnQ c4Q 0))]) (va_runV (As := [.int (nI (blk ta tnQ c6Q))]) (rest := []) ⟨hx, hb, hml, hown, hts⟩ (c_X11_bad l D z H.size o qj qt qf qp qk qq qa qs ql qm qi qe un ku ik tnQ 0 la wo (blk ta tnQ c6Q) fb6 ft6 (blk ta tnQ c6Q) (by first | assumption | omega)) (cwV 1 hts (gV m_607 m_608 m_609 m_541 m_596) rfl rfl rfl ⟨rfl, hd_X11_bad⟩ ⟨Nat.le_of_ble_eq_true rfl, Nat.le_of_ble_eq_true rfl⟩) (nv_preMV (ci := 11) (q0 := 0) hK hPc hDc trivial rfl rfl) rfl rfl hl.1 rfl (lv_room (Nat.le_of_ble_eq_true rfl)) dX11_house_215 ⟨by decide, by decide⟩) hP hD hS hA [0] [1, 2, 3] [3, 0, 1, 2] rfl rfl (by decide) (by decide) rfl (by decide) rfl (by decide) (fun H locs hP hD hS hE215 hz215 hf215 => ?_)
                  clear hPc hDc
                  clear hf215 hz215
                  have eB : baF fb6 ft6 (blk ta tnQ c6Q) = blk ta tnQ c6Q := if_pos hc196
                  rw [eB] at hP hD
                  have hP : va_P D vwCl [(o, .inr (11, [.ref qj, .ref qt, .ref qf, .ref qp, .int (nI un), .ref qk, .ref qq, .int (nI ku), .int (nI ik), .ref qa, .int (nI tnQ), .int (nI 0), .int (nI la), .int (nI wo), .int (nI (blk ta tnQ c6Q)), .int (nI 1), .int (nI (blk ta tnQ c6Q)), .ref qs, .ref ql, .ref qm, .ref qi, .ref qe])), aN z qj 31 rQ, aN z qa 60 ta, aN z qf 31 (uN (uN (uN (fun _ => 0) 1 (nuV ta tnQ 0)) 2 (nuV ta tnQ c2Q)) 3 (dgV ta tnQ c4Q 0))] H := hP
                  have hD : va_D A [(o, .inr (11, [.ref qj, .ref qt, .ref qf, .ref qp, .int (nI un), .ref qk, .ref qq, .int (nI ku), .int (nI ik), .ref qa, .int (nI tnQ), .int (nI 0), .int (nI la), .int (nI wo), .int (nI (blk ta tnQ c6Q)), .int (nI 1), .int (nI (blk ta tnQ c6Q)), .ref qs, .ref ql, .ref qm, .ref qi, .ref qe])), aN z qj 31 rQ, aN z qa 60 ta, aN z qf 31 (uN (uN (uN (fun _ => 0) 1 (nuV ta tnQ 0)) 2 (nuV ta tnQ c2Q)) 3 (dgV ta tnQ c4Q 0))] := hD
                  obtain ⟨e1, e2, rfl⟩ := hrel.1 (by rw [eS]; exact Nat.succ_ne_zero _)
                  obtain rfl := e1.symm
                  obtain rfl := e2.symm
                  rw [eS]
                  refine lv_aload_n hx hb dX11_house_218 rfl (lv_at hl 1 rfl) ?_
                  refine va_get (D := D) (ci := 11) (v := .int (nI (blk ta tnQ c6Q))) (C := RX11) (T := TX11) (N := 22) hx hb hts iX11 hown hK.1 hP 0 rfl rfl 16 (by decide) (hts _ m_598) (fun _ h9 => h9) rfl dX11_house_219 ?_
                  refine lv_aload_n hx hb dX11_house_222 rfl (lv_at hl 1 rfl) ?_
                  refine va_get (D := D) (ci := 11) (v := .int (nI tnQ)) (C := RX11) (T := TX11) (N := 22) hx hb hts iX11 hown hK.1 hP 0 rfl rfl 10 (by decide) (hts _ m_593) (fun _ h9 => h9) rfl dX11_house_223 ?_
                  refine nv_le (tgt := 236) hx hb (by omega) (by omega) dX11_house_226 (by decide) (fun hc226 => ?_) (fun hc226 => ?_)
                  · refine lv_aload_n hx hb dX11_house_236 rfl (lv_at hl 1 rfl) ?_
                    refine va_get (D := D) (ci := 11) (v := .int (nI (blk ta tnQ c6Q))) (C := RX11) (T := TX11) (N := 22) hx hb hts iX11 hown hK.1 hP 0 rfl rfl 16 (by decide) (hts _ m_598) (fun _ h9 => h9) rfl dX11_house_237 ?_
                    refine lv_istore_n (lv' := [(2, .int (nI (blk ta tnQ c6Q))), (1, .int (nI 0)), (0, .ref o)]) hx hb dX11_house_240 rfl hl (by decide) rfl (fun ls hl => ?_)
                    refine lv_aload_n hx hb dX11_house_241 rfl (lv_at hl 2 rfl) ?_
                    refine lv_iconst (v := nI 0) hx hb dX11_house_242 (by decide +kernel) ?_
                    refine va_put (D := D) (ci := 11) (v := .int (nI 0)) (ty := tyX11 10) (C := RX11) (T := TX11) (N := 22) hx hb hts iX11 tyX11 tyX11_ok nmX11 hown hK.1 hP hD hS 0 rfl rfl 10 (by decide) (hts _ m_593) (fun _ h9 => h9) rfl (tyX11_ok 10 (by decide)) rfl rfl (Nat.le_of_ble_eq_true rfl) dX11_house_243 (fun H locs hP hD hS => ?_)
                    have hP : va_P D vwCl [(o, .inr (11, [.ref qj, .ref qt, .ref qf, .ref qp, .int (nI un), .ref qk, .ref qq, .int (nI ku), .int (nI ik), .ref qa, .int (nI 0), .int (nI 0), .int (nI la), .int (nI wo), .int (nI (blk ta tnQ c6Q)), .int (nI 1), .int (nI (blk ta tnQ c6Q)), .ref qs, .ref ql, .ref qm, .ref qi, .ref qe])), aN z qj 31 rQ, aN z qa 60 ta, aN z qf 31 (uN (uN (uN (fun _ => 0) 1 (nuV ta tnQ 0)) 2 (nuV ta tnQ c2Q)) 3 (dgV ta tnQ c4Q 0))] H := hP
                    have hD : va_D A [(o, .inr (11, [.ref qj, .ref qt, .ref qf, .ref qp, .int (nI un), .ref qk, .ref qq, .int (nI ku), .int (nI ik), .ref qa, .int (nI 0), .int (nI 0), .int (nI la), .int (nI wo), .int (nI (blk ta tnQ c6Q)), .int (nI 1), .int (nI (blk ta tnQ c6Q)), .ref qs, .ref ql, .ref qm, .ref qi, .ref qe])), aN z qj 31 rQ, aN z qa 60 ta, aN z qf 31 (uN (uN (uN (fun _ => 0) 1 (nuV ta tnQ 0)) 2 (nuV ta tnQ c2Q)) 3 (dgV ta tnQ c4Q 0))] := hD
                    refine lv_aload_n hx hb dX11_house_246 rfl (lv_at hl 2 rfl) ?_
                    refine va_get (D := D) (ci := 11) (v := .int (nI 1)) (C := RX11) (T := TX11) (N := 22) hx hb hts iX11 hown hK.1 hP 0 rfl rfl 15 (by decide) (hts _ m_597) (fun _ h9 => h9) rfl dX11_house_247 ?_
                    refine nv_ifeq (tgt := 258) hx hb (by omega) dX11_house_250 (by decide) (fun hc250 => ?_) (fun hc250 => ?_)
                    · (exfalso; omega)
                    · refine lv_bipush (v := (-20)) hx hb dX11_house_253 (by decide +kernel) ?_
                      refine lv_iload_n hx hb dX11_house_255 rfl (lv_at hl 0 rfl) ?_
                      refine lv_isub hx hb dX11_house_256 ?_
                      exact nv_xi hx hb hr hlocks hS dX11_house_257 (blk ta tnQ c6Q, 1, blk ta tnQ c6Q, uN (uN (uN (fun _ => 0) 1 (nuV ta tnQ 0)) 2 (nuV ta tnQ c2Q)) 3 (dgV ta tnQ c4Q 0)) hP trivial (by rw [pr_1, hbq.2])
                  · (exfalso; omega)
            · (exfalso; omega)
          · have hz6 : (aH6 ta tnQ).1 = 0 := hs6.fa.2.mp hc116
            have eF0 : (uN (uN (uN (fun _ => 0) 1 (nuV ta tnQ 0)) 2 (nuV ta tnQ c2Q)) 3 (dgV ta tnQ c4Q 0)) = aF0 ta tnQ := by unfold aF0; rw [nuV_e (sim_blk hs2 hz2).2, dgV_e 0 (sim_blk hs4 hz4).2]
            rw [eF0] at hP hD
            have hP : va_P D vwCl [(o, .inr (11, [.ref qj, .ref qt, .ref qf, .ref qp, .int (nI un), .ref qk, .ref qq, .int (nI ku), .int (nI ik), .ref qa, .int (nI tnQ), .int (nI 0), .int (nI la), .int (nI wo), .int (nI c6Q), .int (nI fb6), .int (nI ft6), .ref qs, .ref ql, .ref qm, .ref qi, .ref qe])), aN z qj 31 rQ, aN z qa 60 ta, aN z qf 31 (aF0 ta tnQ)] H := hP
            have hD : va_D A [(o, .inr (11, [.ref qj, .ref qt, .ref qf, .ref qp, .int (nI un), .ref qk, .ref qq, .int (nI ku), .int (nI ik), .ref qa, .int (nI tnQ), .int (nI 0), .int (nI la), .int (nI wo), .int (nI c6Q), .int (nI fb6), .int (nI ft6), .ref qs, .ref ql, .ref qm, .ref qi, .ref qe])), aN z qj 31 rQ, aN z qa 60 ta, aN z qf 31 (aF0 ta tnQ)] := hD
            refine lv_iconst (v := nI 1) hx hb dX11_house_119 (by decide +kernel) ?_
            refine lv_goto (tgt := 124) hx hb dX11_house_120 (by decide) ?_
            refine lv_istore_n (lv' := [(1, .int (nI 1)), (0, .ref o)]) hx hb dX11_house_124 rfl hl (by decide) rfl (fun ls hl => ?_)
            refine nv_loop (σ := Nat × Nat × (Nat × Nat) × (Nat → Nat) × Nat × Nat × Nat) (fun x H locs ls => ∃ (mo : Nat) (kpQ : Nat) (qz : Nat × Nat) (fs : Nat → Nat) (cs : Nat) (gs : Nat) (ts : Nat), (mo, kpQ, qz, fs, cs, gs, ts) = x ∧ ((mo ≤ 1) ∧ (cs + 80 * kpQ + 80 * mo ≤ 900) ∧ (mo = 1 → (qz.1 = 0 ∧ simM ta tnQ cs gs ts qz ∧ fs 6 + kpQ + 1 = 6 ∧ aLoS ta tnQ 6 (aH6 ta tnQ) = aLoS ta tnQ (kpQ + 1) qz ∧ aLoR ta tnQ 6 (aH6 ta tnQ) (aF0 ta tnQ) = aLoR ta tnQ (kpQ + 1) qz fs)) ∧ (mo = 0 → (simM ta tnQ cs gs ts (aLoS ta tnQ 6 (aH6 ta tnQ)) ∧ ((aLoS ta tnQ 6 (aH6 ta tnQ)).1 = 0 → fs = aLoR ta tnQ 6 (aH6 ta tnQ) (aF0 ta tnQ))))) ∧ va_P D vwCl [(o, .inr (11, [.ref qj, .ref qt, .ref qf, .ref qp, .int (nI un), .ref qk, .ref qq, .int (nI ku), .int (nI ik), .ref qa, .int (nI tnQ), .int (nI 0), .int (nI la), .int (nI wo), .int (nI cs), .int (nI gs), .int (nI ts), .ref qs, .ref ql, .ref qm, .ref qi, .ref qe])), aN z qj 31 rQ, aN z qa 60 ta, aN z qf 31 fs] H ∧ va_D A [(o, .inr (11, [.ref qj, .ref qt, .ref qf, .ref qp, .int (nI un), .ref qk, .ref qq, .int (nI ku), .int (nI ik), .ref qa, .int (nI tnQ), .int (nI 0), .int (nI la), .int (nI wo), .int (nI cs), .int (nI gs), .int (nI ts), .ref qs, .ref ql, .ref qm, .ref qi, .ref qe])), aN z qj 31 rQ, aN z qa 60 ta, aN z qf 31 fs] ∧ va_S A s.heap H locs ∧ lv_has ls 3 [(0, .ref o), (1, .int (nI mo))]) (fun x => x.1 + x.2.1) 125 [] ?_ (1, 5, aH6 ta tnQ, aF0 ta tnQ, c6Q, fb6, ft6) ?_
            · rintro _ H locs ls ⟨mo, kpQ, qz, fs, cs, gs, ts, rfl, ⟨hmo, hcs, hy, hn⟩, hP, hD, hS, hl⟩ ih125
              refine lv_iload_n hx hb dX11_house_125 rfl (lv_at hl 1 rfl) ?_
              refine nv_ifeq (tgt := 188) hx hb (by omega) dX11_house_126 (by decide) (fun hc126 => ?_) (fun hc126 => ?_)
              · obtain ⟨hsL, hrL⟩ := hn (by omega)
                have e7 : aH7 ta tnQ = aLoS ta tnQ 6 (aH6 ta tnQ) := if_pos hz6
                have hsF : simM ta tnQ cs gs ts (aH7 ta tnQ) := by rw [e7]; exact hsL
                have hrowF : (aH7 ta tnQ).1 = 0 → fs = aHR ta tnQ := fun z9 => hrL (by rw [← e7]; exact z9)
                have hbF : cs ≤ 900 := by omega
                have hfF := hsF.fa.1
                have hblF : blk ta tnQ cs ≤ 900 := blk_b hbF (by omega)
                refine lv_aload_n hx hb dX11_house_188 rfl (lv_at hl 0 rfl) ?_
                have hPc := hP.sub (ws' := [(o, .inr (11, [.ref qj, .ref qt, .ref qf, .ref qp, .int (nI un), .ref qk, .ref qq, .int (nI ku), .int (nI ik), .ref qa, .int (nI tnQ), .int (nI 0), .int (nI la), .int (nI wo), .int (nI cs), .int (nI gs), .int (nI ts), .ref qs, .ref ql, .ref qm, .ref qi, .ref qe])), aN z qa 60 ta]) [0, 2] rfl
                have hDc := hD.sub (ws' := [(o, .inr (11, [.ref qj, .ref qt, .ref qf, .ref qp, .int (nI un), .ref qk, .ref qq, .int (nI ku), .int (nI ik), .ref qa, .int (nI tnQ), .int (nI 0), .int (nI la), .int (nI wo), .int (nI cs), .int (nI gs), .int (nI ts), .ref qs, .ref ql, .ref qm, .ref qi, .ref qe])), aN z qa 60 ta]) [0, 2] (by decide) rfl
                refine nv_cm0 (wc := [(o, .inr (11, [.ref qj, .ref qt, .ref qf, .ref qp, .int (nI un), .ref qk, .ref qq, .int (nI ku), .int (nI ik), .ref qa, .int (nI tnQ), .int (nI 0), .int (nI la), .int (nI wo), .int (nI cs), .int (nI gs), .int (nI ts), .ref qs, .ref ql, .ref qm, .ref qi, .ref qe])), aN z qa 60 ta]) (wr := [aN z qj 31 rQ, aN z qf 31 fs]) (w1 := [(o, .inr (11, [.ref qj, .ref qt, .ref qf, .ref qp, .int (nI un), .ref qk, .ref qq, .int (nI ku), .int (nI ik), .ref qa, .int (nI tnQ), .int (nI 0), .int (nI la), .int (nI wo), .int (nI (blk ta tnQ cs)), .int (nI gs), .int (nI ts), .ref qs, .ref ql, .ref qm, .ref qi, .ref qe])), aN z qa 60 ta]) (ws1 := [(o, .inr (11, [.ref qj, .ref qt, .ref qf, .ref qp, .int (nI un), .ref qk, .ref qq, .int (nI ku), .int (nI ik), .ref qa, .int (nI tnQ), .int (nI 0), .int (nI la), .int (nI wo), .int (nI (blk ta tnQ cs)), .int (nI gs), .int (nI ts), .ref qs, .ref ql, .ref qm, .ref qi, .ref qe])), aN z qj 31 rQ, aN z qa 60 ta, aN z qf 31 fs]) (va_runV (As := []) (rest := []) ⟨hx, hb, hml, hown, hts⟩ (c_X11_blanks l D z H.size o qj qt qf qp qk qq qa qs ql qm qi qe un ku ik tnQ 0 la wo cs gs ts ta (by first | assumption | omega) (by first | assumption | omega)) (cwV 0 hts (gV m_600 m_601 m_602 m_541 m_594) rfl rfl rfl ⟨rfl, hd_X11_blanks⟩ ⟨Nat.le_of_ble_eq_true rfl, Nat.le_of_ble_eq_true rfl⟩) (nv_preMV (ci := 11) (q0 := 0) hK hPc hDc trivial rfl rfl) rfl rfl hl.1 rfl (lv_room (Nat.le_of_ble_eq_true rfl)) dX11_house_189 ⟨by decide, by decide⟩) hP hD hS hA [0, 2] [1, 3] [2, 0, 3, 1] rfl rfl (by decide) (by decide) rfl (by decide) rfl (by decide) (fun H locs hP hD hS hE189 hz189 hf189 => ?_)
                clear hPc hDc
                clear hf189 hz189
                refine lv_aload_n hx hb dX11_house_192 rfl (lv_at hl 0 rfl) ?_
                refine va_get (D := D) (ci := 11) (v := .int (nI gs)) (C := RX11) (T := TX11) (N := 22) hx hb hts iX11 hown hK.1 hP 0 rfl rfl 15 (by decide) (hts _ m_597) (fun _ h9 => h9) rfl dX11_house_193 ?_
                refine nv_ifne (tgt := 218) hx hb (by omega) dX11_house_196 (by decide) (fun hc196 => ?_) (fun hc196 => ?_)
                · have hz7 : (aH7 ta tnQ).1 ≠ 0 := fun z9 => hc196 (hsF.fa.2.mpr z9)
                  have eS : aHS ta tnQ = aH7 ta tnQ := if_neg (fun z9 => hz7 z9.1)
                  have hle7 := hsF.2.2
                  have hft7 := (hsF.2.1 hz7).2
                  obtain ⟨e1, e2, rfl⟩ := hrel.1 (by rw [eS]; exact hz7)
                  obtain rfl := e1.symm
                  obtain rfl := e2.symm
                  rw [eS]
                  refine lv_aload_n hx hb dX11_house_218 rfl (lv_at hl 0 rfl) ?_
                  refine va_get (D := D) (ci := 11) (v := .int (nI ts)) (C := RX11) (T := TX11) (N := 22) hx hb hts iX11 hown hK.1 hP 0 rfl rfl 16 (by decide) (hts _ m_598) (fun _ h9 => h9) rfl dX11_house_219 ?_
                  refine lv_aload_n hx hb dX11_house_222 rfl (lv_at hl 0 rfl) ?_
                  refine va_get (D := D) (ci := 11) (v := .int (nI tnQ)) (C := RX11) (T := TX11) (N := 22) hx hb hts iX11 hown hK.1 hP 0 rfl rfl 10 (by decide) (hts _ m_593) (fun _ h9 => h9) rfl dX11_house_223 ?_
                  refine nv_le (tgt := 236) hx hb (by omega) (by omega) dX11_house_226 (by decide) (fun hc226 => ?_) (fun hc226 => ?_)
                  · refine lv_aload_n hx hb dX11_house_236 rfl (lv_at hl 0 rfl) ?_
                    refine va_get (D := D) (ci := 11) (v := .int (nI ts)) (C := RX11) (T := TX11) (N := 22) hx hb hts iX11 hown hK.1 hP 0 rfl rfl 16 (by decide) (hts _ m_598) (fun _ h9 => h9) rfl dX11_house_237 ?_
                    refine lv_istore_n (lv' := [(2, .int (nI ts)), (0, .ref o), (1, .int (nI mo))]) hx hb dX11_house_240 rfl hl (by decide) rfl (fun ls hl => ?_)
                    refine lv_aload_n hx hb dX11_house_241 rfl (lv_at hl 1 rfl) ?_
                    refine lv_iconst (v := nI 0) hx hb dX11_house_242 (by decide +kernel) ?_
                    refine va_put (D := D) (ci := 11) (v := .int (nI 0)) (ty := tyX11 10) (C := RX11) (T := TX11) (N := 22) hx hb hts iX11 tyX11 tyX11_ok nmX11 hown hK.1 hP hD hS 0 rfl rfl 10 (by decide) (hts _ m_593) (fun _ h9 => h9) rfl (tyX11_ok 10 (by decide)) rfl rfl (Nat.le_of_ble_eq_true rfl) dX11_house_243 (fun H locs hP hD hS => ?_)
                    have hP : va_P D vwCl [(o, .inr (11, [.ref qj, .ref qt, .ref qf, .ref qp, .int (nI un), .ref qk, .ref qq, .int (nI ku), .int (nI ik), .ref qa, .int (nI 0), .int (nI 0), .int (nI la), .int (nI wo), .int (nI (blk ta tnQ cs)), .int (nI gs), .int (nI ts), .ref qs, .ref ql, .ref qm, .ref qi, .ref qe])), aN z qj 31 rQ, aN z qa 60 ta, aN z qf 31 fs] H := hP
                    have hD : va_D A [(o, .inr (11, [.ref qj, .ref qt, .ref qf, .ref qp, .int (nI un), .ref qk, .ref qq, .int (nI ku), .int (nI ik), .ref qa, .int (nI 0), .int (nI 0), .int (nI la), .int (nI wo), .int (nI (blk ta tnQ cs)), .int (nI gs), .int (nI ts), .ref qs, .ref ql, .ref qm, .ref qi, .ref qe])), aN z qj 31 rQ, aN z qa 60 ta, aN z qf 31 fs] := hD
                    refine lv_aload_n hx hb dX11_house_246 rfl (lv_at hl 1 rfl) ?_
                    refine va_get (D := D) (ci := 11) (v := .int (nI gs)) (C := RX11) (T := TX11) (N := 22) hx hb hts iX11 hown hK.1 hP 0 rfl rfl 15 (by decide) (hts _ m_597) (fun _ h9 => h9) rfl dX11_house_247 ?_
                    refine nv_ifeq (tgt := 258) hx hb (by omega) dX11_house_250 (by decide) (fun hc250 => ?_) (fun hc250 => ?_)
                    · exact absurd hc250 hc196
                    · refine lv_bipush (v := (-20)) hx hb dX11_house_253 (by decide +kernel) ?_
                      refine lv_iload_n hx hb dX11_house_255 rfl (lv_at hl 0 rfl) ?_
                      refine lv_isub hx hb dX11_house_256 ?_
                      exact nv_xi hx hb hr hlocks hS dX11_house_257 (blk ta tnQ cs, gs, ts, fs) hP trivial (by rw [show (aH7 ta tnQ).1 - 1 = ts by omega])
                  · (exfalso; omega)
                · have hz7 : (aH7 ta tnQ).1 = 0 := hsF.fa.2.mp hc196
                  have hbq := sim_blk hsF hz7
                  refine lv_aload_n hx hb dX11_house_199 rfl (lv_at hl 0 rfl) ?_
                  refine va_get (D := D) (ci := 11) (v := .int (nI (blk ta tnQ cs))) (C := RX11) (T := TX11) (N := 22) hx hb hts iX11 hown hK.1 hP 0 rfl rfl 14 (by decide) (hts _ m_595) (fun _ h9 => h9) rfl dX11_house_200 ?_
                  refine lv_aload_n hx hb dX11_house_203 rfl (lv_at hl 0 rfl) ?_
                  refine va_get (D := D) (ci := 11) (v := .int (nI tnQ)) (C := RX11) (T := TX11) (N := 22) hx hb hts iX11 hown hK.1 hP 0 rfl rfl 10 (by decide) (hts _ m_593) (fun _ h9 => h9) rfl dX11_house_204 ?_
                  refine nv_ge (tgt := 218) hx hb (by omega) (by omega) dX11_house_207 (by decide) (fun hc207 => ?_) (fun hc207 => ?_)
                  · have eS : aHS ta tnQ = aH7 ta tnQ := if_neg (fun z9 => by have h7 := z9.2; rw [← hbq.2] at h7; omega)
                    refine lv_aload_n hx hb dX11_house_218 rfl (lv_at hl 0 rfl) ?_
                    refine va_get (D := D) (ci := 11) (v := .int (nI ts)) (C := RX11) (T := TX11) (N := 22) hx hb hts iX11 hown hK.1 hP 0 rfl rfl 16 (by decide) (hts _ m_598) (fun _ h9 => h9) rfl dX11_house_219 ?_
                    refine lv_aload_n hx hb dX11_house_222 rfl (lv_at hl 0 rfl) ?_
                    refine va_get (D := D) (ci := 11) (v := .int (nI tnQ)) (C := RX11) (T := TX11) (N := 22) hx hb hts iX11 hown hK.1 hP 0 rfl rfl 10 (by decide) (hts _ m_593) (fun _ h9 => h9) rfl dX11_house_223 ?_
                    refine lv_icmp_le (tgt := 236) hx hb dX11_house_226 (by decide) (fun hc226 => ?_) (fun hc226 => ?_)
                    · refine lv_aload_n hx hb dX11_house_236 rfl (lv_at hl 0 rfl) ?_
                      refine va_get (D := D) (ci := 11) (v := .int (nI ts)) (C := RX11) (T := TX11) (N := 22) hx hb hts iX11 hown hK.1 hP 0 rfl rfl 16 (by decide) (hts _ m_598) (fun _ h9 => h9) rfl dX11_house_237 ?_
                      refine lv_istore_n (lv' := [(2, .int (nI ts)), (0, .ref o), (1, .int (nI mo))]) hx hb dX11_house_240 rfl hl (by decide) rfl (fun ls hl => ?_)
                      refine lv_aload_n hx hb dX11_house_241 rfl (lv_at hl 1 rfl) ?_
                      refine lv_iconst (v := nI 0) hx hb dX11_house_242 (by decide +kernel) ?_
                      refine va_put (D := D) (ci := 11) (v := .int (nI 0)) (ty := tyX11 10) (C := RX11) (T := TX11) (N := 22) hx hb hts iX11 tyX11 tyX11_ok nmX11 hown hK.1 hP hD hS 0 rfl rfl 10 (by decide) (hts _ m_593) (fun _ h9 => h9) rfl (tyX11_ok 10 (by decide)) rfl rfl (Nat.le_of_ble_eq_true rfl) dX11_house_243 (fun H locs hP hD hS => ?_)
                      have hP : va_P D vwCl [(o, .inr (11, [.ref qj, .ref qt, .ref qf, .ref qp, .int (nI un), .ref qk, .ref qq, .int (nI ku), .int (nI ik), .ref qa, .int (nI 0), .int (nI 0), .int (nI la), .int (nI wo), .int (nI (blk ta tnQ cs)), .int (nI gs), .int (nI ts), .ref qs, .ref ql, .ref qm, .ref qi, .ref qe])), aN z qj 31 rQ, aN z qa 60 ta, aN z qf 31 fs] H := hP
                      have hD : va_D A [(o, .inr (11, [.ref qj, .ref qt, .ref qf, .ref qp, .int (nI un), .ref qk, .ref qq, .int (nI ku), .int (nI ik), .ref qa, .int (nI 0), .int (nI 0), .int (nI la), .int (nI wo), .int (nI (blk ta tnQ cs)), .int (nI gs), .int (nI ts), .ref qs, .ref ql, .ref qm, .ref qi, .ref qe])), aN z qj 31 rQ, aN z qa 60 ta, aN z qf 31 fs] := hD
                      refine lv_aload_n hx hb dX11_house_246 rfl (lv_at hl 1 rfl) ?_
                      refine va_get (D := D) (ci := 11) (v := .int (nI gs)) (C := RX11) (T := TX11) (N := 22) hx hb hts iX11 hown hK.1 hP 0 rfl rfl 15 (by decide) (hts _ m_597) (fun _ h9 => h9) rfl dX11_house_247 ?_
                      refine nv_ifeq (tgt := 258) hx hb (by omega) dX11_house_250 (by decide) (fun hc250 => ?_) (fun hc250 => ?_)
                      · obtain ⟨rfl, rfl, rfl⟩ := hrel.2 (by rw [eS]; exact hz7)
                        have eR := hrowF hz7
                        rw [eR] at hP hD
                        have hP : va_P D vwCl [(o, .inr (11, [.ref qj, .ref qt, .ref qf, .ref qp, .int (nI un), .ref qk, .ref qq, .int (nI ku), .int (nI ik), .ref qa, .int (nI 0), .int (nI 0), .int (nI la), .int (nI wo), .int (nI (blk ta tnQ cs)), .int (nI gs), .int (nI ts), .ref qs, .ref ql, .ref qm, .ref qi, .ref qe])), aN z qj 31 rQ, aN z qa 60 ta, aN z qf 31 (aHR ta tnQ)] H := hP
                        have hD : va_D A [(o, .inr (11, [.ref qj, .ref qt, .ref qf, .ref qp, .int (nI un), .ref qk, .ref qq, .int (nI ku), .int (nI ik), .ref qa, .int (nI 0), .int (nI 0), .int (nI la), .int (nI wo), .int (nI (blk ta tnQ cs)), .int (nI gs), .int (nI ts), .ref qs, .ref ql, .ref qm, .ref qi, .ref qe])), aN z qj 31 rQ, aN z qa 60 ta, aN z qf 31 (aHR ta tnQ)] := hD
                        refine lv_aload_n hx hb dX11_house_258 rfl (lv_at hl 1 rfl) ?_
                        refine va_get (D := D) (ci := 11) (v := .ref qf) (C := RX11) (T := TX11) (N := 22) hx hb hts iX11 hown hK.1 hP 0 rfl rfl 2 (by decide) (hts _ m_525) (fun _ h9 => h9) rfl dX11_house_259 ?_
                        refine lv_iconst (v := nI 5) hx hb dX11_house_262 (by decide +kernel) ?_
                        refine lv_aload_n hx hb dX11_house_263 rfl (lv_at hl 1 rfl) ?_
                        refine va_get (D := D) (ci := 11) (v := .ref qj) (C := RX11) (T := TX11) (N := 22) hx hb hts iX11 hown hK.1 hP 0 rfl rfl 0 (by decide) (hts _ m_523) (fun _ h9 => h9) rfl dX11_house_264 ?_
                        refine lv_iconst (v := nI 5) hx hb dX11_house_267 (by decide +kernel) ?_
                        refine nv_ald hx hb hK hP 1 rfl (by omega) (by decide) dX11_house_268 ?_
                        refine nv_ast hx hb hK hP hD hS 3 rfl (by omega) (by decide) dX11_house_269 (fun H locs hP hD hS => ?_)
                        have hP : va_P D vwCl [(o, .inr (11, [.ref qj, .ref qt, .ref qf, .ref qp, .int (nI un), .ref qk, .ref qq, .int (nI ku), .int (nI ik), .ref qa, .int (nI 0), .int (nI 0), .int (nI la), .int (nI wo), .int (nI (blk ta tnQ cs)), .int (nI gs), .int (nI ts), .ref qs, .ref ql, .ref qm, .ref qi, .ref qe])), aN z qj 31 rQ, aN z qa 60 ta, aN z qf 31 (uN (aHR ta tnQ) 5 (rQ 5))] H := hP
                        have hD : va_D A [(o, .inr (11, [.ref qj, .ref qt, .ref qf, .ref qp, .int (nI un), .ref qk, .ref qq, .int (nI ku), .int (nI ik), .ref qa, .int (nI 0), .int (nI 0), .int (nI la), .int (nI wo), .int (nI (blk ta tnQ cs)), .int (nI gs), .int (nI ts), .ref qs, .ref ql, .ref qm, .ref qi, .ref qe])), aN z qj 31 rQ, aN z qa 60 ta, aN z qf 31 (uN (aHR ta tnQ) 5 (rQ 5))] := hD
                        refine lv_aload_n hx hb dX11_house_270 rfl (lv_at hl 1 rfl) ?_
                        refine va_get (D := D) (ci := 11) (v := .ref qf) (C := RX11) (T := TX11) (N := 22) hx hb hts iX11 hown hK.1 hP 0 rfl rfl 2 (by decide) (hts _ m_525) (fun _ h9 => h9) rfl dX11_house_271 ?_
                        refine lv_aload_n hx hb dX11_house_274 rfl (lv_at hl 1 rfl) ?_
                        refine va_get (D := D) (ci := 11) (v := .ref qj) (C := RX11) (T := TX11) (N := 22) hx hb hts iX11 hown hK.1 hP 0 rfl rfl 0 (by decide) (hts _ m_523) (fun _ h9 => h9) rfl dX11_house_275 ?_
                        have hPc := hP.sub (ws' := [aN z qf 31 (uN (aHR ta tnQ) 5 (rQ 5)), aN z qj 31 rQ]) [3, 1] rfl
                        have hDc := hD.sub (ws' := [aN z qf 31 (uN (aHR ta tnQ) 5 (rQ 5)), aN z qj 31 rQ]) [3, 1] (by decide) rfl
                        refine nv_cm0 (wc := [aN z qf 31 (uN (aHR ta tnQ) 5 (rQ 5)), aN z qj 31 rQ]) (wr := [(o, .inr (11, [.ref qj, .ref qt, .ref qf, .ref qp, .int (nI un), .ref qk, .ref qq, .int (nI ku), .int (nI ik), .ref qa, .int (nI 0), .int (nI 0), .int (nI la), .int (nI wo), .int (nI (blk ta tnQ cs)), .int (nI gs), .int (nI ts), .ref qs, .ref ql, .ref qm, .ref qi, .ref qe])), aN z qa 60 ta]) (w1 := [aN z qf 31 (uN (aHR ta tnQ) 5 (rQ 5)), aN z qj 31 (uN (aHR ta tnQ) 5 (rQ 5))]) (ws1 := [(o, .inr (11, [.ref qj, .ref qt, .ref qf, .ref qp, .int (nI un), .ref qk, .ref qq, .int (nI ku), .int (nI ik), .ref qa, .int (nI 0), .int (nI 0), .int (nI la), .int (nI wo), .int (nI (blk ta tnQ cs)), .int (nI gs), .int (nI ts), .ref qs, .ref ql, .ref qm, .ref qi, .ref qe])), aN z qj 31 (uN (aHR ta tnQ) 5 (rQ 5)), aN z qa 60 ta, aN z qf 31 (uN (aHR ta tnQ) 5 (rQ 5))]) (va_runS (As := [.ref qf, .ref qj]) (rest := []) ⟨hx, hb, hml, hown, hts⟩ (c_X11_lay l D z H.size qf qj (uN (aHR ta tnQ) 5 (rQ 5)) rQ ) (va_cwS 2 hts (gS m_631 m_632 m_541 m_537) rfl rfl rfl hd_X11_lay ⟨Nat.le_of_ble_eq_true rfl, Nat.le_of_ble_eq_true rfl⟩) (nv_preM hK hPc hDc trivial _) rfl rfl hl.1 rfl (lv_room (Nat.le_of_ble_eq_true rfl)) dX11_house_278 ⟨by decide, by decide⟩) hP hD hS hA [3, 1] [0, 2] [0, 3, 1, 2] rfl rfl (by decide) (by decide) rfl (by decide) rfl (by decide) (fun H locs hP hD hS hE278 hz278 hf278 => ?_)
                        clear hPc hDc
                        clear hf278 hz278
                        refine lv_aload_n hx hb dX11_house_281 rfl (lv_at hl 1 rfl) ?_
                        refine lv_iconst (v := nI 0) hx hb dX11_house_282 (by decide +kernel) ?_
                        refine va_put (D := D) (ci := 11) (v := .int (nI 0)) (ty := tyX11 4) (C := RX11) (T := TX11) (N := 22) hx hb hts iX11 tyX11 tyX11_ok nmX11 hown hK.1 hP hD hS 0 rfl rfl 4 (by decide) (hts _ m_580) (fun _ h9 => h9) rfl (tyX11_ok 4 (by decide)) rfl rfl (Nat.le_of_ble_eq_true rfl) dX11_house_283 (fun H locs hP hD hS => ?_)
                        have hP : va_P D vwCl [(o, .inr (11, [.ref qj, .ref qt, .ref qf, .ref qp, .int (nI 0), .ref qk, .ref qq, .int (nI ku), .int (nI ik), .ref qa, .int (nI 0), .int (nI 0), .int (nI la), .int (nI wo), .int (nI (blk ta tnQ cs)), .int (nI gs), .int (nI ts), .ref qs, .ref ql, .ref qm, .ref qi, .ref qe])), aN z qj 31 (uN (aHR ta tnQ) 5 (rQ 5)), aN z qa 60 ta, aN z qf 31 (uN (aHR ta tnQ) 5 (rQ 5))] H := hP
                        have hD : va_D A [(o, .inr (11, [.ref qj, .ref qt, .ref qf, .ref qp, .int (nI 0), .ref qk, .ref qq, .int (nI ku), .int (nI ik), .ref qa, .int (nI 0), .int (nI 0), .int (nI la), .int (nI wo), .int (nI (blk ta tnQ cs)), .int (nI gs), .int (nI ts), .ref qs, .ref ql, .ref qm, .ref qi, .ref qe])), aN z qj 31 (uN (aHR ta tnQ) 5 (rQ 5)), aN z qa 60 ta, aN z qf 31 (uN (aHR ta tnQ) 5 (rQ 5))] := hD
                        refine lv_aload_n hx hb dX11_house_286 rfl (lv_at hl 1 rfl) ?_
                        refine va_get (D := D) (ci := 11) (v := .ref qj) (C := RX11) (T := TX11) (N := 22) hx hb hts iX11 hown hK.1 hP 0 rfl rfl 0 (by decide) (hts _ m_523) (fun _ h9 => h9) rfl dX11_house_287 ?_
                        refine lv_bipush (v := nI 6) hx hb dX11_house_290 (by decide +kernel) ?_
                        refine nv_ald hx hb hK hP 1 rfl (by omega) (by decide) dX11_house_292 ?_
                        exact nv_xi hx hb hr hlocks hS dX11_house_293 (blk ta tnQ cs, gs, ts, uN (aHR ta tnQ) 5 (rQ 5)) hP trivial (by rw [uN_n _ (by decide)])
                      · exact absurd hc196 hc250
                    · refine lv_aload_n hx hb dX11_house_229 rfl (lv_at hl 0 rfl) ?_
                      refine va_get (D := D) (ci := 11) (v := .int (nI tnQ)) (C := RX11) (T := TX11) (N := 22) hx hb hts iX11 hown hK.1 hP 0 rfl rfl 10 (by decide) (hts _ m_593) (fun _ h9 => h9) rfl dX11_house_230 ?_
                      refine lv_goto (tgt := 240) hx hb dX11_house_233 (by decide) ?_
                      refine lv_istore_n (lv' := [(2, .int (nI tnQ)), (0, .ref o), (1, .int (nI mo))]) hx hb dX11_house_240 rfl hl (by decide) rfl (fun ls hl => ?_)
                      refine lv_aload_n hx hb dX11_house_241 rfl (lv_at hl 1 rfl) ?_
                      refine lv_iconst (v := nI 0) hx hb dX11_house_242 (by decide +kernel) ?_
                      refine va_put (D := D) (ci := 11) (v := .int (nI 0)) (ty := tyX11 10) (C := RX11) (T := TX11) (N := 22) hx hb hts iX11 tyX11 tyX11_ok nmX11 hown hK.1 hP hD hS 0 rfl rfl 10 (by decide) (hts _ m_593) (fun _ h9 => h9) rfl (tyX11_ok 10 (by decide)) rfl rfl (Nat.le_of_ble_eq_true rfl) dX11_house_243 (fun H locs hP hD hS => ?_)
                      have hP : va_P D vwCl [(o, .inr (11, [.ref qj, .ref qt, .ref qf, .ref qp, .int (nI un), .ref qk, .ref qq, .int (nI ku), .int (nI ik), .ref qa, .int (nI 0), .int (nI 0), .int (nI la), .int (nI wo), .int (nI (blk ta tnQ cs)), .int (nI gs), .int (nI ts), .ref qs, .ref ql, .ref qm, .ref qi, .ref qe])), aN z qj 31 rQ, aN z qa 60 ta, aN z qf 31 fs] H := hP
                      have hD : va_D A [(o, .inr (11, [.ref qj, .ref qt, .ref qf, .ref qp, .int (nI un), .ref qk, .ref qq, .int (nI ku), .int (nI ik), .ref qa, .int (nI 0), .int (nI 0), .int (nI la), .int (nI wo), .int (nI (blk ta tnQ cs)), .int (nI gs), .int (nI ts), .ref qs, .ref ql, .ref qm, .ref qi, .ref qe])), aN z qj 31 rQ, aN z qa 60 ta, aN z qf 31 fs] := hD
                      refine lv_aload_n hx hb dX11_house_246 rfl (lv_at hl 1 rfl) ?_
                      refine va_get (D := D) (ci := 11) (v := .int (nI gs)) (C := RX11) (T := TX11) (N := 22) hx hb hts iX11 hown hK.1 hP 0 rfl rfl 15 (by decide) (hts _ m_597) (fun _ h9 => h9) rfl dX11_house_247 ?_
                      refine nv_ifeq (tgt := 258) hx hb (by omega) dX11_house_250 (by decide) (fun hc250 => ?_) (fun hc250 => ?_)
                      · obtain ⟨rfl, rfl, rfl⟩ := hrel.2 (by rw [eS]; exact hz7)
                        have eR := hrowF hz7
                        rw [eR] at hP hD
                        have hP : va_P D vwCl [(o, .inr (11, [.ref qj, .ref qt, .ref qf, .ref qp, .int (nI un), .ref qk, .ref qq, .int (nI ku), .int (nI ik), .ref qa, .int (nI 0), .int (nI 0), .int (nI la), .int (nI wo), .int (nI (blk ta tnQ cs)), .int (nI gs), .int (nI ts), .ref qs, .ref ql, .ref qm, .ref qi, .ref qe])), aN z qj 31 rQ, aN z qa 60 ta, aN z qf 31 (aHR ta tnQ)] H := hP
                        have hD : va_D A [(o, .inr (11, [.ref qj, .ref qt, .ref qf, .ref qp, .int (nI un), .ref qk, .ref qq, .int (nI ku), .int (nI ik), .ref qa, .int (nI 0), .int (nI 0), .int (nI la), .int (nI wo), .int (nI (blk ta tnQ cs)), .int (nI gs), .int (nI ts), .ref qs, .ref ql, .ref qm, .ref qi, .ref qe])), aN z qj 31 rQ, aN z qa 60 ta, aN z qf 31 (aHR ta tnQ)] := hD
                        refine lv_aload_n hx hb dX11_house_258 rfl (lv_at hl 1 rfl) ?_
                        refine va_get (D := D) (ci := 11) (v := .ref qf) (C := RX11) (T := TX11) (N := 22) hx hb hts iX11 hown hK.1 hP 0 rfl rfl 2 (by decide) (hts _ m_525) (fun _ h9 => h9) rfl dX11_house_259 ?_
                        refine lv_iconst (v := nI 5) hx hb dX11_house_262 (by decide +kernel) ?_
                        refine lv_aload_n hx hb dX11_house_263 rfl (lv_at hl 1 rfl) ?_
                        refine va_get (D := D) (ci := 11) (v := .ref qj) (C := RX11) (T := TX11) (N := 22) hx hb hts iX11 hown hK.1 hP 0 rfl rfl 0 (by decide) (hts _ m_523) (fun _ h9 => h9) rfl dX11_house_264 ?_
                        refine lv_iconst (v := nI 5) hx hb dX11_house_267 (by decide +kernel) ?_
                        refine nv_ald hx hb hK hP 1 rfl (by omega) (by decide) dX11_house_268 ?_
                        refine nv_ast hx hb hK hP hD hS 3 rfl (by omega) (by decide) dX11_house_269 (fun H locs hP hD hS => ?_)
                        have hP : va_P D vwCl [(o, .inr (11, [.ref qj, .ref qt, .ref qf, .ref qp, .int (nI un), .ref qk, .ref qq, .int (nI ku), .int (nI ik), .ref qa, .int (nI 0), .int (nI 0), .int (nI la), .int (nI wo), .int (nI (blk ta tnQ cs)), .int (nI gs), .int (nI ts), .ref qs, .ref ql, .ref qm, .ref qi, .ref qe])), aN z qj 31 rQ, aN z qa 60 ta, aN z qf 31 (uN (aHR ta tnQ) 5 (rQ 5))] H := hP
                        have hD : va_D A [(o, .inr (11, [.ref qj, .ref qt, .ref qf, .ref qp, .int (nI un), .ref qk, .ref qq, .int (nI ku), .int (nI ik), .ref qa, .int (nI 0), .int (nI 0), .int (nI la), .int (nI wo), .int (nI (blk ta tnQ cs)), .int (nI gs), .int (nI ts), .ref qs, .ref ql, .ref qm, .ref qi, .ref qe])), aN z qj 31 rQ, aN z qa 60 ta, aN z qf 31 (uN (aHR ta tnQ) 5 (rQ 5))] := hD
                        refine lv_aload_n hx hb dX11_house_270 rfl (lv_at hl 1 rfl) ?_
                        refine va_get (D := D) (ci := 11) (v := .ref qf) (C := RX11) (T := TX11) (N := 22) hx hb hts iX11 hown hK.1 hP 0 rfl rfl 2 (by decide) (hts _ m_525) (fun _ h9 => h9) rfl dX11_house_271 ?_
                        refine lv_aload_n hx hb dX11_house_274 rfl (lv_at hl 1 rfl) ?_
                        refine va_get (D := D) (ci := 11) (v := .ref qj) (C := RX11) (T := TX11) (N := 22) hx hb hts iX11 hown hK.1 hP 0 rfl rfl 0 (by decide) (hts _ m_523) (fun _ h9 => h9) rfl dX11_house_275 ?_
                        have hPc := hP.sub (ws' := [aN z qf 31 (uN (aHR ta tnQ) 5 (rQ 5)), aN z qj 31 rQ]) [3, 1] rfl
                        have hDc := hD.sub (ws' := [aN z qf 31 (uN (aHR ta tnQ) 5 (rQ 5)), aN z qj 31 rQ]) [3, 1] (by decide) rfl
                        refine nv_cm0 (wc := [aN z qf 31 (uN (aHR ta tnQ) 5 (rQ 5)), aN z qj 31 rQ]) (wr := [(o, .inr (11, [.ref qj, .ref qt, .ref qf, .ref qp, .int (nI un), .ref qk, .ref qq, .int (nI ku), .int (nI ik), .ref qa, .int (nI 0), .int (nI 0), .int (nI la), .int (nI wo), .int (nI (blk ta tnQ cs)), .int (nI gs), .int (nI ts), .ref qs, .ref ql, .ref qm, .ref qi, .ref qe])), aN z qa 60 ta]) (w1 := [aN z qf 31 (uN (aHR ta tnQ) 5 (rQ 5)), aN z qj 31 (uN (aHR ta tnQ) 5 (rQ 5))]) (ws1 := [(o, .inr (11, [.ref qj, .ref qt, .ref qf, .ref qp, .int (nI un), .ref qk, .ref qq, .int (nI ku), .int (nI ik), .ref qa, .int (nI 0), .int (nI 0), .int (nI la), .int (nI wo), .int (nI (blk ta tnQ cs)), .int (nI gs), .int (nI ts), .ref qs, .ref ql, .ref qm, .ref qi, .ref qe])), aN z qj 31 (uN (aHR ta tnQ) 5 (rQ 5)), aN z qa 60 ta, aN z qf 31 (uN (aHR ta tnQ) 5 (rQ 5))]) (va_runS (As := [.ref qf, .ref qj]) (rest := []) ⟨hx, hb, hml, hown, hts⟩ (c_X11_lay l D z H.size qf qj (uN (aHR ta tnQ) 5 (rQ 5)) rQ ) (va_cwS 2 hts (gS m_631 m_632 m_541 m_537) rfl rfl rfl hd_X11_lay ⟨Nat.le_of_ble_eq_true rfl, Nat.le_of_ble_eq_true rfl⟩) (nv_preM hK hPc hDc trivial _) rfl rfl hl.1 rfl (lv_room (Nat.le_of_ble_eq_true rfl)) dX11_house_278 ⟨by decide, by decide⟩) hP hD hS hA [3, 1] [0, 2] [0, 3, 1, 2] rfl rfl (by decide) (by decide) rfl (by decide) rfl (by decide) (fun H locs hP hD hS hE278 hz278 hf278 => ?_)
                        clear hPc hDc
                        clear hf278 hz278
                        refine lv_aload_n hx hb dX11_house_281 rfl (lv_at hl 1 rfl) ?_
                        refine lv_iconst (v := nI 0) hx hb dX11_house_282 (by decide +kernel) ?_
                        refine va_put (D := D) (ci := 11) (v := .int (nI 0)) (ty := tyX11 4) (C := RX11) (T := TX11) (N := 22) hx hb hts iX11 tyX11 tyX11_ok nmX11 hown hK.1 hP hD hS 0 rfl rfl 4 (by decide) (hts _ m_580) (fun _ h9 => h9) rfl (tyX11_ok 4 (by decide)) rfl rfl (Nat.le_of_ble_eq_true rfl) dX11_house_283 (fun H locs hP hD hS => ?_)
                        have hP : va_P D vwCl [(o, .inr (11, [.ref qj, .ref qt, .ref qf, .ref qp, .int (nI 0), .ref qk, .ref qq, .int (nI ku), .int (nI ik), .ref qa, .int (nI 0), .int (nI 0), .int (nI la), .int (nI wo), .int (nI (blk ta tnQ cs)), .int (nI gs), .int (nI ts), .ref qs, .ref ql, .ref qm, .ref qi, .ref qe])), aN z qj 31 (uN (aHR ta tnQ) 5 (rQ 5)), aN z qa 60 ta, aN z qf 31 (uN (aHR ta tnQ) 5 (rQ 5))] H := hP
                        have hD : va_D A [(o, .inr (11, [.ref qj, .ref qt, .ref qf, .ref qp, .int (nI 0), .ref qk, .ref qq, .int (nI ku), .int (nI ik), .ref qa, .int (nI 0), .int (nI 0), .int (nI la), .int (nI wo), .int (nI (blk ta tnQ cs)), .int (nI gs), .int (nI ts), .ref qs, .ref ql, .ref qm, .ref qi, .ref qe])), aN z qj 31 (uN (aHR ta tnQ) 5 (rQ 5)), aN z qa 60 ta, aN z qf 31 (uN (aHR ta tnQ) 5 (rQ 5))] := hD
                        refine lv_aload_n hx hb dX11_house_286 rfl (lv_at hl 1 rfl) ?_
                        refine va_get (D := D) (ci := 11) (v := .ref qj) (C := RX11) (T := TX11) (N := 22) hx hb hts iX11 hown hK.1 hP 0 rfl rfl 0 (by decide) (hts _ m_523) (fun _ h9 => h9) rfl dX11_house_287 ?_
                        refine lv_bipush (v := nI 6) hx hb dX11_house_290 (by decide +kernel) ?_
                        refine nv_ald hx hb hK hP 1 rfl (by omega) (by decide) dX11_house_292 ?_
                        exact nv_xi hx hb hr hlocks hS dX11_house_293 (blk ta tnQ cs, gs, ts, uN (aHR ta tnQ) 5 (rQ 5)) hP trivial (by rw [uN_n _ (by decide)])
                      · exact absurd hc196 hc250
                  · have eS : aHS ta tnQ = (blk ta tnQ (aH7 ta tnQ).2 + 1, 0) := if_pos ⟨hz7, by rw [← hbq.2]; omega⟩
                    refine lv_aload_n hx hb dX11_house_210 rfl (lv_at hl 0 rfl) ?_
                    refine lv_aload_n hx hb dX11_house_211 rfl (lv_at hl 0 rfl) ?_
                    refine va_get (D := D) (ci := 11) (v := .int (nI (blk ta tnQ cs))) (C := RX11) (T := TX11) (N := 22) hx hb hts iX11 hown hK.1 hP 0 rfl rfl 14 (by decide) (hts _ m_595) (fun _ h9 => h9) rfl dX11_house_212 ?_
                    have hPc := hP.sub (ws' := [(o, .inr (11, [.ref qj, .ref qt, .ref qf, .ref qp, .int (nI un), .ref qk, .ref qq, .int (nI ku), .int (nI ik), .ref qa, .int (nI tnQ), .int (nI 0), .int (nI la), .int (nI wo), .int (nI (blk ta tnQ cs)), .int (nI gs), .int (nI ts), .ref qs, .ref ql, .ref qm, .ref qi, .ref qe]))]) [0] rfl
                    have hDc := hD.sub (ws' := [(o, .inr (11, [.ref qj, .ref qt, .ref qf, .ref qp, .int (nI un), .ref qk, .ref qq, .int (nI ku), .int (nI ik), .ref qa, .int (nI tnQ), .int (nI 0), .int (nI la), .int (nI wo), .int (nI (blk ta tnQ cs)), .int (nI gs), .int (nI ts), .ref qs, .ref ql, .ref qm, .ref qi, .ref qe]))]) [0] (by decide) rfl
                    refine nv_cm0 (wc := [(o, .inr (11, [.ref qj, .ref qt, .ref qf, .ref qp, .int (nI un), .ref qk, .ref qq, .int (nI ku), .int (nI ik), .ref qa, .int (nI tnQ), .int (nI 0), .int (nI la), .int (nI wo), .int (nI (blk ta tnQ cs)), .int (nI gs), .int (nI ts), .ref qs, .ref ql, .ref qm, .ref qi, .ref qe]))]) (wr := [aN z qj 31 rQ, aN z qa 60 ta, aN z qf 31 fs]) (w1 := [(o, .inr (11, [.ref qj, .ref qt, .ref qf, .ref qp, .int (nI un), .ref qk, .ref qq, .int (nI ku), .int (nI ik), .ref qa, .int (nI tnQ), .int (nI 0), .int (nI la), .int (nI wo), .int (nI (blk ta tnQ cs)), .int (nI 1), .int (nI (baF gs ts (blk ta tnQ cs))), .ref qs, .ref ql, .ref qm, .ref qi, .ref qe]))]) (ws1 := [(o, .inr (11, [.ref qj, .ref qt, .ref qf, .ref qp, .int (nI un), .ref qk, .ref qq, .int (nI ku), .int (nI ik), .ref qa, .int (nI tnQ), .int (nI 0), .int (nI la), .int (nI wo), .int (nI (blk ta tnQ cs)), .int (nI 1), .int (nI (baF gs ts (blk ta tnQ cs))), .ref qs, .ref ql, .ref qm, .ref qi, .ref qe])), aN z qj 31 rQ, aN z qa 60 ta, aN z qf 31 fs]) (va_runV (As := [.int (nI (blk ta tnQ cs))]) (rest := []) ⟨hx, hb, hml, hown, hts⟩ (c_X11_bad l D z H.size o qj qt qf qp qk qq qa qs ql qm qi qe un ku ik tnQ 0 la wo (blk ta tnQ cs) gs ts (blk ta tnQ cs) (by first | assumption | omega)) (cwV 1 hts (gV m_607 m_608 m_609 m_541 m_596) rfl rfl rfl ⟨rfl, hd_X11_bad⟩ ⟨Nat.le_of_ble_eq_true rfl, Nat.le_of_ble_eq_true rfl⟩) (nv_preMV (ci := 11) (q0 := 0) hK hPc hDc trivial rfl rfl) rfl rfl hl.1 rfl (lv_room (Nat.le_of_ble_eq_true rfl)) dX11_house_215 ⟨by decide, by decide⟩) hP hD hS hA [0] [1, 2, 3] [3, 0, 1, 2] rfl rfl (by decide) (by decide) rfl (by decide) rfl (by decide) (fun H locs hP hD hS hE215 hz215 hf215 => ?_)
                    clear hPc hDc
                    clear hf215 hz215
                    have eB : baF gs ts (blk ta tnQ cs) = blk ta tnQ cs := if_pos hc196
                    rw [eB] at hP hD
                    have hP : va_P D vwCl [(o, .inr (11, [.ref qj, .ref qt, .ref qf, .ref qp, .int (nI un), .ref qk, .ref qq, .int (nI ku), .int (nI ik), .ref qa, .int (nI tnQ), .int (nI 0), .int (nI la), .int (nI wo), .int (nI (blk ta tnQ cs)), .int (nI 1), .int (nI (blk ta tnQ cs)), .ref qs, .ref ql, .ref qm, .ref qi, .ref qe])), aN z qj 31 rQ, aN z qa 60 ta, aN z qf 31 fs] H := hP
                    have hD : va_D A [(o, .inr (11, [.ref qj, .ref qt, .ref qf, .ref qp, .int (nI un), .ref qk, .ref qq, .int (nI ku), .int (nI ik), .ref qa, .int (nI tnQ), .int (nI 0), .int (nI la), .int (nI wo), .int (nI (blk ta tnQ cs)), .int (nI 1), .int (nI (blk ta tnQ cs)), .ref qs, .ref ql, .ref qm, .ref qi, .ref qe])), aN z qj 31 rQ, aN z qa 60 ta, aN z qf 31 fs] := hD
                    obtain ⟨e1, e2, rfl⟩ := hrel.1 (by rw [eS]; exact Nat.succ_ne_zero _)
                    obtain rfl := e1.symm
                    obtain rfl := e2.symm
                    rw [eS]
                    refine lv_aload_n hx hb dX11_house_218 rfl (lv_at hl 0 rfl) ?_
                    refine va_get (D := D) (ci := 11) (v := .int (nI (blk ta tnQ cs))) (C := RX11) (T := TX11) (N := 22) hx hb hts iX11 hown hK.1 hP 0 rfl rfl 16 (by decide) (hts _ m_598) (fun _ h9 => h9) rfl dX11_house_219 ?_
                    refine lv_aload_n hx hb dX11_house_222 rfl (lv_at hl 0 rfl) ?_
                    refine va_get (D := D) (ci := 11) (v := .int (nI tnQ)) (C := RX11) (T := TX11) (N := 22) hx hb hts iX11 hown hK.1 hP 0 rfl rfl 10 (by decide) (hts _ m_593) (fun _ h9 => h9) rfl dX11_house_223 ?_
                    refine nv_le (tgt := 236) hx hb (by omega) (by omega) dX11_house_226 (by decide) (fun hc226 => ?_) (fun hc226 => ?_)
                    · refine lv_aload_n hx hb dX11_house_236 rfl (lv_at hl 0 rfl) ?_
                      refine va_get (D := D) (ci := 11) (v := .int (nI (blk ta tnQ cs))) (C := RX11) (T := TX11) (N := 22) hx hb hts iX11 hown hK.1 hP 0 rfl rfl 16 (by decide) (hts _ m_598) (fun _ h9 => h9) rfl dX11_house_237 ?_
                      refine lv_istore_n (lv' := [(2, .int (nI (blk ta tnQ cs))), (0, .ref o), (1, .int (nI mo))]) hx hb dX11_house_240 rfl hl (by decide) rfl (fun ls hl => ?_)
                      refine lv_aload_n hx hb dX11_house_241 rfl (lv_at hl 1 rfl) ?_
                      refine lv_iconst (v := nI 0) hx hb dX11_house_242 (by decide +kernel) ?_
                      refine va_put (D := D) (ci := 11) (v := .int (nI 0)) (ty := tyX11 10) (C := RX11) (T := TX11) (N := 22) hx hb hts iX11 tyX11 tyX11_ok nmX11 hown hK.1 hP hD hS 0 rfl rfl 10 (by decide) (hts _ m_593) (fun _ h9 => h9) rfl (tyX11_ok 10 (by decide)) rfl rfl (Nat.le_of_ble_eq_true rfl) dX11_house_243 (fun H locs hP hD hS => ?_)
                      have hP : va_P D vwCl [(o, .inr (11, [.ref qj, .ref qt, .ref qf, .ref qp, .int (nI un), .ref qk, .ref qq, .int (nI ku), .int (nI ik), .ref qa, .int (nI 0), .int (nI 0), .int (nI la), .int (nI wo), .int (nI (blk ta tnQ cs)), .int (nI 1), .int (nI (blk ta tnQ cs)), .ref qs, .ref ql, .ref qm, .ref qi, .ref qe])), aN z qj 31 rQ, aN z qa 60 ta, aN z qf 31 fs] H := hP
                      have hD : va_D A [(o, .inr (11, [.ref qj, .ref qt, .ref qf, .ref qp, .int (nI un), .ref qk, .ref qq, .int (nI ku), .int (nI ik), .ref qa, .int (nI 0), .int (nI 0), .int (nI la), .int (nI wo), .int (nI (blk ta tnQ cs)), .int (nI 1), .int (nI (blk ta tnQ cs)), .ref qs, .ref ql, .ref qm, .ref qi, .ref qe])), aN z qj 31 rQ, aN z qa 60 ta, aN z qf 31 fs] := hD
                      refine lv_aload_n hx hb dX11_house_246 rfl (lv_at hl 1 rfl) ?_
                      refine va_get (D := D) (ci := 11) (v := .int (nI 1)) (C := RX11) (T := TX11) (N := 22) hx hb hts iX11 hown hK.1 hP 0 rfl rfl 15 (by decide) (hts _ m_597) (fun _ h9 => h9) rfl dX11_house_247 ?_
                      refine nv_ifeq (tgt := 258) hx hb (by omega) dX11_house_250 (by decide) (fun hc250 => ?_) (fun hc250 => ?_)
                      · (exfalso; omega)
                      · refine lv_bipush (v := (-20)) hx hb dX11_house_253 (by decide +kernel) ?_
                        refine lv_iload_n hx hb dX11_house_255 rfl (lv_at hl 0 rfl) ?_
                        refine lv_isub hx hb dX11_house_256 ?_
                        exact nv_xi hx hb hr hlocks hS dX11_house_257 (blk ta tnQ cs, 1, blk ta tnQ cs, fs) hP trivial (by rw [pr_1, hbq.2])
                    · (exfalso; omega)
              · obtain ⟨hq0, hsq, hk6, hl1, hl2⟩ := hy (by omega)
                have hblc : blk ta tnQ cs ≤ 900 := blk_b (by omega) (by omega)
                refine lv_aload_n hx hb dX11_house_129 rfl (lv_at hl 0 rfl) ?_
                have hPc := hP.sub (ws' := [(o, .inr (11, [.ref qj, .ref qt, .ref qf, .ref qp, .int (nI un), .ref qk, .ref qq, .int (nI ku), .int (nI ik), .ref qa, .int (nI tnQ), .int (nI 0), .int (nI la), .int (nI wo), .int (nI cs), .int (nI gs), .int (nI ts), .ref qs, .ref ql, .ref qm, .ref qi, .ref qe])), aN z qa 60 ta, aN z qf 31 fs]) [0, 2, 3] rfl
                have hDc := hD.sub (ws' := [(o, .inr (11, [.ref qj, .ref qt, .ref qf, .ref qp, .int (nI un), .ref qk, .ref qq, .int (nI ku), .int (nI ik), .ref qa, .int (nI tnQ), .int (nI 0), .int (nI la), .int (nI wo), .int (nI cs), .int (nI gs), .int (nI ts), .ref qs, .ref ql, .ref qm, .ref qi, .ref qe])), aN z qa 60 ta, aN z qf 31 fs]) [0, 2, 3] (by decide) rfl
                refine nv_cx0 (σ := Nat × Nat × Nat × (Nat → Nat)) (wc := [(o, .inr (11, [.ref qj, .ref qt, .ref qf, .ref qp, .int (nI un), .ref qk, .ref qq, .int (nI ku), .int (nI ik), .ref qa, .int (nI tnQ), .int (nI 0), .int (nI la), .int (nI wo), .int (nI cs), .int (nI gs), .int (nI ts), .ref qs, .ref ql, .ref qm, .ref qi, .ref qe])), aN z qa 60 ta, aN z qf 31 fs]) (wr := [aN z qj 31 rQ]) (w1 := fun u9 => [(o, .inr (11, [.ref qj, .ref qt, .ref qf, .ref qp, .int (nI un), .ref qk, .ref qq, .int (nI ku), .int (nI ik), .ref qa, .int (nI tnQ), .int (nI 0), .int (nI la), .int (nI wo), .int (nI u9.1), .int (nI u9.2.1), .int (nI u9.2.2.1), .ref qs, .ref ql, .ref qm, .ref qi, .ref qe])), aN z qa 60 ta, aN z qf 31 u9.2.2.2]) (ws1 := fun u9 => [(o, .inr (11, [.ref qj, .ref qt, .ref qf, .ref qp, .int (nI un), .ref qk, .ref qq, .int (nI ku), .int (nI ik), .ref qa, .int (nI tnQ), .int (nI 0), .int (nI la), .int (nI wo), .int (nI u9.1), .int (nI u9.2.1), .int (nI u9.2.2.1), .ref qs, .ref ql, .ref qm, .ref qi, .ref qe])), aN z qj 31 rQ, aN z qa 60 ta, aN z qf 31 u9.2.2.2]) (va_runV (As := []) (rest := []) ⟨hx, hb, hml, hown, hts⟩ (c_X11_readPerson l D z H.size o qj qt qf qp qk qq qa qs ql qm qi qe un ku ik tnQ 0 la wo cs gs ts ta fs qz (cs + 60) (by first | assumption | omega) (by first | assumption | omega) (by first | assumption | omega) (by first | assumption | omega) (by first | assumption | omega) (by first | assumption | omega)) (cwV 0 hts (gV m_628 m_629 m_630 m_541 m_621) rfl rfl rfl ⟨rfl, hd_X11_readPerson⟩ ⟨Nat.le_of_ble_eq_true rfl, Nat.le_of_ble_eq_true rfl⟩) (nv_preMV (ci := 11) (q0 := 0) hK hPc hDc trivial rfl rfl) rfl rfl hl.1 rfl (lv_room (Nat.le_of_ble_eq_true rfl)) dX11_house_130 ⟨by decide, by decide⟩) hP hD hS hA [0, 2, 3] [1] [1, 0, 2, 3] rfl rfl (by decide) (by decide) (fun _ => rfl) (by decide) (fun _ => rfl) (by decide) (fun u9 H locs hP hD hS hE130 hz130 hf130 => ?_)
                obtain ⟨cu11, fa12, fat13, ff14⟩ := u9
                dsimp only at hE130
                have hP : va_P D vwCl [(o, .inr (11, [.ref qj, .ref qt, .ref qf, .ref qp, .int (nI un), .ref qk, .ref qq, .int (nI ku), .int (nI ik), .ref qa, .int (nI tnQ), .int (nI 0), .int (nI la), .int (nI wo), .int (nI cu11), .int (nI fa12), .int (nI fat13), .ref qs, .ref ql, .ref qm, .ref qi, .ref qe])), aN z qj 31 rQ, aN z qa 60 ta, aN z qf 31 ff14] H := hP
                have hD : va_D A [(o, .inr (11, [.ref qj, .ref qt, .ref qf, .ref qp, .int (nI un), .ref qk, .ref qq, .int (nI ku), .int (nI ik), .ref qa, .int (nI tnQ), .int (nI 0), .int (nI la), .int (nI wo), .int (nI cu11), .int (nI fa12), .int (nI fat13), .ref qs, .ref ql, .ref qm, .ref qi, .ref qe])), aN z qj 31 rQ, aN z qa 60 ta, aN z qf 31 ff14] := hD
                clear hPc hDc
                clear hf130 hz130
                obtain ⟨hsp, hcp, hf6p, hrp⟩ := hE130
                have hfp := hsp.fa.1
                have hblp : blk ta tnQ cu11 ≤ cs + 65 := blk_b (by omega) (by omega)
                refine lv_aload_n hx hb dX11_house_133 rfl (lv_at hl 0 rfl) ?_
                refine va_get (D := D) (ci := 11) (v := .int (nI fa12)) (C := RX11) (T := TX11) (N := 22) hx hb hts iX11 hown hK.1 hP 0 rfl rfl 15 (by decide) (hts _ m_597) (fun _ h9 => h9) rfl dX11_house_134 ?_
                refine nv_ifne (tgt := 165) hx hb (by omega) dX11_house_137 (by decide) (fun hc137 => ?_) (fun hc137 => ?_)
                · have hno : ¬ ((aPer ta tnQ qz).1 = 0 ∧ kpQ ≠ 0 ∧ isC ta tnQ (aPer ta tnQ qz).2 44) := by first | exact fun z9 => hc137 (hsp.fa.2.mpr z9.1) | exact fun z9 => hc158 ⟨hsp.fa.2.mpr z9.1, (isC_e (sim_blk hsp z9.1).2).mpr z9.2.2⟩ | exact fun z9 => z9.2.1 (by omega)
                  have g1 : aLoS ta tnQ 6 (aH6 ta tnQ) = aPer ta tnQ qz := hl1.trans (show aLoS ta tnQ (kpQ + 1) qz = aPer ta tnQ qz from if_neg hno)
                  have g2 : aLoR ta tnQ 6 (aH6 ta tnQ) (aF0 ta tnQ) = aRow ta tnQ qz fs := hl2.trans (show aLoR ta tnQ (kpQ + 1) qz fs = aRow ta tnQ qz fs from if_neg hno)
                  refine lv_iconst (v := nI 0) hx hb dX11_house_165 (by decide +kernel) ?_
                  refine lv_istore_n (lv' := [(1, .int (nI 0)), (0, .ref o)]) hx hb dX11_house_166 rfl hl (by decide) rfl (fun ls hl => ?_)
                  refine lv_aload_n hx hb dX11_house_167 rfl (lv_at hl 1 rfl) ?_
                  refine lv_dup hx hb dX11_house_168 rfl ?_
                  refine va_get (D := D) (ci := 11) (v := .int (nI cu11)) (C := RX11) (T := TX11) (N := 22) hx hb hts iX11 hown hK.1 hP 0 rfl rfl 14 (by decide) (hts _ m_595) (fun _ h9 => h9) rfl dX11_house_169 ?_
                  refine lv_iload_n hx hb dX11_house_172 rfl (lv_at hl 0 rfl) ?_
                  refine nv_ifeq (tgt := 180) hx hb (by omega) dX11_house_173 (by decide) (fun hc173 => ?_) (fun hc173 => ?_)
                  · refine lv_iconst (v := nI 0) hx hb dX11_house_180 (by decide +kernel) ?_
                    refine nv_add hx hb dX11_house_181 ?_
                    refine va_put (D := D) (ci := 11) (v := .int (nI (cu11 + 0))) (ty := tyX11 14) (C := RX11) (T := TX11) (N := 22) hx hb hts iX11 tyX11 tyX11_ok nmX11 hown hK.1 hP hD hS 0 rfl rfl 14 (by decide) (hts _ m_595) (fun _ h9 => h9) rfl (tyX11_ok 14 (by decide)) rfl rfl (Nat.le_of_ble_eq_true rfl) dX11_house_182 (fun H locs hP hD hS => ?_)
                    have hP : va_P D vwCl [(o, .inr (11, [.ref qj, .ref qt, .ref qf, .ref qp, .int (nI un), .ref qk, .ref qq, .int (nI ku), .int (nI ik), .ref qa, .int (nI tnQ), .int (nI 0), .int (nI la), .int (nI wo), .int (nI (cu11 + 0)), .int (nI fa12), .int (nI fat13), .ref qs, .ref ql, .ref qm, .ref qi, .ref qe])), aN z qj 31 rQ, aN z qa 60 ta, aN z qf 31 ff14] H := hP
                    have hD : va_D A [(o, .inr (11, [.ref qj, .ref qt, .ref qf, .ref qp, .int (nI un), .ref qk, .ref qq, .int (nI ku), .int (nI ik), .ref qa, .int (nI tnQ), .int (nI 0), .int (nI la), .int (nI wo), .int (nI (cu11 + 0)), .int (nI fa12), .int (nI fat13), .ref qs, .ref ql, .ref qm, .ref qi, .ref qe])), aN z qj 31 rQ, aN z qa 60 ta, aN z qf 31 ff14] := hD
                    refine lv_goto (tgt := 125) hx hb dX11_house_185 (by decide) ?_
                    exact ih125 (0, 0, qz, ff14, cu11 + 0, fa12, fat13) _ _ _ (by first | (show 1 + (kpQ - 1) < mo + kpQ; omega) | (show 0 + 0 < mo + kpQ; omega)) ⟨0, 0, qz, ff14, cu11 + 0, fa12, fat13, rfl, ⟨(by omega), (by omega), (fun z9 => absurd z9 (by decide)), (fun _ => ⟨by rw [g1]; exact hsp, fun z9 => by rw [g2]; exact hrp (by rw [← g1]; exact z9)⟩)⟩, hP, hD, hS, lv_sub hl [1, 0] rfl⟩
                  · (exfalso; omega)
                · refine lv_aload_n hx hb dX11_house_140 rfl (lv_at hl 0 rfl) ?_
                  refine va_get (D := D) (ci := 11) (v := .ref qf) (C := RX11) (T := TX11) (N := 22) hx hb hts iX11 hown hK.1 hP 0 rfl rfl 2 (by decide) (hts _ m_525) (fun _ h9 => h9) rfl dX11_house_141 ?_
                  refine lv_bipush (v := nI 6) hx hb dX11_house_144 (by decide +kernel) ?_
                  refine nv_ald hx hb hK hP 3 rfl (by omega) (by decide) dX11_house_146 ?_
                  refine lv_bipush (v := nI 6) hx hb dX11_house_147 (by decide +kernel) ?_
                  refine nv_ge (tgt := 165) hx hb (by omega) (by omega) dX11_house_149 (by decide) (fun hc149 => ?_) (fun hc149 => ?_)
                  · have hno : ¬ ((aPer ta tnQ qz).1 = 0 ∧ kpQ ≠ 0 ∧ isC ta tnQ (aPer ta tnQ qz).2 44) := by first | exact fun z9 => hc137 (hsp.fa.2.mpr z9.1) | exact fun z9 => hc158 ⟨hsp.fa.2.mpr z9.1, (isC_e (sim_blk hsp z9.1).2).mpr z9.2.2⟩ | exact fun z9 => z9.2.1 (by omega)
                    have g1 : aLoS ta tnQ 6 (aH6 ta tnQ) = aPer ta tnQ qz := hl1.trans (show aLoS ta tnQ (kpQ + 1) qz = aPer ta tnQ qz from if_neg hno)
                    have g2 : aLoR ta tnQ 6 (aH6 ta tnQ) (aF0 ta tnQ) = aRow ta tnQ qz fs := hl2.trans (show aLoR ta tnQ (kpQ + 1) qz fs = aRow ta tnQ qz fs from if_neg hno)
                    refine lv_iconst (v := nI 0) hx hb dX11_house_165 (by decide +kernel) ?_
                    refine lv_istore_n (lv' := [(1, .int (nI 0)), (0, .ref o)]) hx hb dX11_house_166 rfl hl (by decide) rfl (fun ls hl => ?_)
                    refine lv_aload_n hx hb dX11_house_167 rfl (lv_at hl 1 rfl) ?_
                    refine lv_dup hx hb dX11_house_168 rfl ?_
                    refine va_get (D := D) (ci := 11) (v := .int (nI cu11)) (C := RX11) (T := TX11) (N := 22) hx hb hts iX11 hown hK.1 hP 0 rfl rfl 14 (by decide) (hts _ m_595) (fun _ h9 => h9) rfl dX11_house_169 ?_
                    refine lv_iload_n hx hb dX11_house_172 rfl (lv_at hl 0 rfl) ?_
                    refine nv_ifeq (tgt := 180) hx hb (by omega) dX11_house_173 (by decide) (fun hc173 => ?_) (fun hc173 => ?_)
                    · refine lv_iconst (v := nI 0) hx hb dX11_house_180 (by decide +kernel) ?_
                      refine nv_add hx hb dX11_house_181 ?_
                      refine va_put (D := D) (ci := 11) (v := .int (nI (cu11 + 0))) (ty := tyX11 14) (C := RX11) (T := TX11) (N := 22) hx hb hts iX11 tyX11 tyX11_ok nmX11 hown hK.1 hP hD hS 0 rfl rfl 14 (by decide) (hts _ m_595) (fun _ h9 => h9) rfl (tyX11_ok 14 (by decide)) rfl rfl (Nat.le_of_ble_eq_true rfl) dX11_house_182 (fun H locs hP hD hS => ?_)
                      have hP : va_P D vwCl [(o, .inr (11, [.ref qj, .ref qt, .ref qf, .ref qp, .int (nI un), .ref qk, .ref qq, .int (nI ku), .int (nI ik), .ref qa, .int (nI tnQ), .int (nI 0), .int (nI la), .int (nI wo), .int (nI (cu11 + 0)), .int (nI fa12), .int (nI fat13), .ref qs, .ref ql, .ref qm, .ref qi, .ref qe])), aN z qj 31 rQ, aN z qa 60 ta, aN z qf 31 ff14] H := hP
                      have hD : va_D A [(o, .inr (11, [.ref qj, .ref qt, .ref qf, .ref qp, .int (nI un), .ref qk, .ref qq, .int (nI ku), .int (nI ik), .ref qa, .int (nI tnQ), .int (nI 0), .int (nI la), .int (nI wo), .int (nI (cu11 + 0)), .int (nI fa12), .int (nI fat13), .ref qs, .ref ql, .ref qm, .ref qi, .ref qe])), aN z qj 31 rQ, aN z qa 60 ta, aN z qf 31 ff14] := hD
                      refine lv_goto (tgt := 125) hx hb dX11_house_185 (by decide) ?_
                      exact ih125 (0, 0, qz, ff14, cu11 + 0, fa12, fat13) _ _ _ (by first | (show 1 + (kpQ - 1) < mo + kpQ; omega) | (show 0 + 0 < mo + kpQ; omega)) ⟨0, 0, qz, ff14, cu11 + 0, fa12, fat13, rfl, ⟨(by omega), (by omega), (fun z9 => absurd z9 (by decide)), (fun _ => ⟨by rw [g1]; exact hsp, fun z9 => by rw [g2]; exact hrp (by rw [← g1]; exact z9)⟩)⟩, hP, hD, hS, lv_sub hl [1, 0] rfl⟩
                    · (exfalso; omega)
                  · refine lv_aload_n hx hb dX11_house_152 rfl (lv_at hl 0 rfl) ?_
                    refine lv_bipush (v := nI 44) hx hb dX11_house_153 (by decide +kernel) ?_
                    have hPc := hP.sub (ws' := [(o, .inr (11, [.ref qj, .ref qt, .ref qf, .ref qp, .int (nI un), .ref qk, .ref qq, .int (nI ku), .int (nI ik), .ref qa, .int (nI tnQ), .int (nI 0), .int (nI la), .int (nI wo), .int (nI cu11), .int (nI fa12), .int (nI fat13), .ref qs, .ref ql, .ref qm, .ref qi, .ref qe])), aN z qa 60 ta]) [0, 2] rfl
                    have hDc := hD.sub (ws' := [(o, .inr (11, [.ref qj, .ref qt, .ref qf, .ref qp, .int (nI un), .ref qk, .ref qq, .int (nI ku), .int (nI ik), .ref qa, .int (nI tnQ), .int (nI 0), .int (nI la), .int (nI wo), .int (nI cu11), .int (nI fa12), .int (nI fat13), .ref qs, .ref ql, .ref qm, .ref qi, .ref qe])), aN z qa 60 ta]) [0, 2] (by decide) rfl
                    refine nv_cm1 (wc := [(o, .inr (11, [.ref qj, .ref qt, .ref qf, .ref qp, .int (nI un), .ref qk, .ref qq, .int (nI ku), .int (nI ik), .ref qa, .int (nI tnQ), .int (nI 0), .int (nI la), .int (nI wo), .int (nI cu11), .int (nI fa12), .int (nI fat13), .ref qs, .ref ql, .ref qm, .ref qi, .ref qe])), aN z qa 60 ta]) (wr := [aN z qj 31 rQ, aN z qf 31 ff14]) (w1 := [(o, .inr (11, [.ref qj, .ref qt, .ref qf, .ref qp, .int (nI un), .ref qk, .ref qq, .int (nI ku), .int (nI ik), .ref qa, .int (nI tnQ), .int (nI 0), .int (nI la), .int (nI wo), .int (nI (blk ta tnQ cu11)), .int (nI fa12), .int (nI fat13), .ref qs, .ref ql, .ref qm, .ref qi, .ref qe])), aN z qa 60 ta]) (ws1 := [(o, .inr (11, [.ref qj, .ref qt, .ref qf, .ref qp, .int (nI un), .ref qk, .ref qq, .int (nI ku), .int (nI ik), .ref qa, .int (nI tnQ), .int (nI 0), .int (nI la), .int (nI wo), .int (nI (blk ta tnQ cu11)), .int (nI fa12), .int (nI fat13), .ref qs, .ref ql, .ref qm, .ref qi, .ref qe])), aN z qj 31 rQ, aN z qa 60 ta, aN z qf 31 ff14]) (va_runV (As := [.int (nI 44)]) (rest := []) ⟨hx, hb, hml, hown, hts⟩ (c_X11_isNext l D z H.size o qj qt qf qp qk qq qa qs ql qm qi qe un ku ik tnQ 0 la wo cu11 fa12 fat13 ta 44 (by first | assumption | omega) (by first | assumption | omega) (by first | assumption | omega) (by first | assumption | omega)) (cwV 1 hts (gV m_604 m_605 m_606 m_541 m_599) rfl rfl rfl ⟨rfl, hd_X11_isNext⟩ ⟨Nat.le_of_ble_eq_true rfl, Nat.le_of_ble_eq_true rfl⟩) (nv_preMV (ci := 11) (q0 := 0) hK hPc hDc trivial rfl rfl) rfl rfl hl.1 rfl (lv_room (Nat.le_of_ble_eq_true rfl)) dX11_house_155 ⟨by decide, by decide⟩) hP hD hS hA [0, 2] [1, 3] [2, 0, 3, 1] rfl rfl (by decide) (by decide) rfl (by decide) rfl (by decide) (fun H locs hP hD hS hE155 hz155 hf155 => ?_)
                    clear hPc hDc
                    clear hf155 hz155
                    refine nv_beq (tgt := 165) hx hb dX11_house_158 (by decide) (fun hc158 => ?_) (fun hc158 => ?_)
                    · have hno : ¬ ((aPer ta tnQ qz).1 = 0 ∧ kpQ ≠ 0 ∧ isC ta tnQ (aPer ta tnQ qz).2 44) := by first | exact fun z9 => hc137 (hsp.fa.2.mpr z9.1) | exact fun z9 => hc158 ⟨hsp.fa.2.mpr z9.1, (isC_e (sim_blk hsp z9.1).2).mpr z9.2.2⟩ | exact fun z9 => z9.2.1 (by omega)
                      have g1 : aLoS ta tnQ 6 (aH6 ta tnQ) = aPer ta tnQ qz := hl1.trans (show aLoS ta tnQ (kpQ + 1) qz = aPer ta tnQ qz from if_neg hno)
                      have g2 : aLoR ta tnQ 6 (aH6 ta tnQ) (aF0 ta tnQ) = aRow ta tnQ qz fs := hl2.trans (show aLoR ta tnQ (kpQ + 1) qz fs = aRow ta tnQ qz fs from if_neg hno)
                      refine lv_iconst (v := nI 0) hx hb dX11_house_165 (by decide +kernel) ?_
                      refine lv_istore_n (lv' := [(1, .int (nI 0)), (0, .ref o)]) hx hb dX11_house_166 rfl hl (by decide) rfl (fun ls hl => ?_)
                      refine lv_aload_n hx hb dX11_house_167 rfl (lv_at hl 1 rfl) ?_
                      refine lv_dup hx hb dX11_house_168 rfl ?_
                      refine va_get (D := D) (ci := 11) (v := .int (nI (blk ta tnQ cu11))) (C := RX11) (T := TX11) (N := 22) hx hb hts iX11 hown hK.1 hP 0 rfl rfl 14 (by decide) (hts _ m_595) (fun _ h9 => h9) rfl dX11_house_169 ?_
                      refine lv_iload_n hx hb dX11_house_172 rfl (lv_at hl 0 rfl) ?_
                      refine nv_ifeq (tgt := 180) hx hb (by omega) dX11_house_173 (by decide) (fun hc173 => ?_) (fun hc173 => ?_)
                      · refine lv_iconst (v := nI 0) hx hb dX11_house_180 (by decide +kernel) ?_
                        refine nv_add hx hb dX11_house_181 ?_
                        refine va_put (D := D) (ci := 11) (v := .int (nI (blk ta tnQ cu11 + 0))) (ty := tyX11 14) (C := RX11) (T := TX11) (N := 22) hx hb hts iX11 tyX11 tyX11_ok nmX11 hown hK.1 hP hD hS 0 rfl rfl 14 (by decide) (hts _ m_595) (fun _ h9 => h9) rfl (tyX11_ok 14 (by decide)) rfl rfl (Nat.le_of_ble_eq_true rfl) dX11_house_182 (fun H locs hP hD hS => ?_)
                        have hP : va_P D vwCl [(o, .inr (11, [.ref qj, .ref qt, .ref qf, .ref qp, .int (nI un), .ref qk, .ref qq, .int (nI ku), .int (nI ik), .ref qa, .int (nI tnQ), .int (nI 0), .int (nI la), .int (nI wo), .int (nI (blk ta tnQ cu11 + 0)), .int (nI fa12), .int (nI fat13), .ref qs, .ref ql, .ref qm, .ref qi, .ref qe])), aN z qj 31 rQ, aN z qa 60 ta, aN z qf 31 ff14] H := hP
                        have hD : va_D A [(o, .inr (11, [.ref qj, .ref qt, .ref qf, .ref qp, .int (nI un), .ref qk, .ref qq, .int (nI ku), .int (nI ik), .ref qa, .int (nI tnQ), .int (nI 0), .int (nI la), .int (nI wo), .int (nI (blk ta tnQ cu11 + 0)), .int (nI fa12), .int (nI fat13), .ref qs, .ref ql, .ref qm, .ref qi, .ref qe])), aN z qj 31 rQ, aN z qa 60 ta, aN z qf 31 ff14] := hD
                        refine lv_goto (tgt := 125) hx hb dX11_house_185 (by decide) ?_
                        exact ih125 (0, 0, qz, ff14, blk ta tnQ cu11 + 0, fa12, fat13) _ _ _ (by first | (show 1 + (kpQ - 1) < mo + kpQ; omega) | (show 0 + 0 < mo + kpQ; omega)) ⟨0, 0, qz, ff14, blk ta tnQ cu11 + 0, fa12, fat13, rfl, ⟨(by omega), (by omega), (fun z9 => absurd z9 (by decide)), (fun _ => ⟨by rw [g1]; exact sim_to hsp, fun z9 => by rw [g2]; exact hrp (by rw [← g1]; exact z9)⟩)⟩, hP, hD, hS, lv_sub hl [1, 0] rfl⟩
                      · (exfalso; omega)
                    · have hz9 : (aPer ta tnQ qz).1 = 0 := hsp.fa.2.mp hc158.1
                      have hkp : kpQ ≠ 0 := by omega
                      have hyes : (aPer ta tnQ qz).1 = 0 ∧ kpQ ≠ 0 ∧ isC ta tnQ (aPer ta tnQ qz).2 44 := ⟨hz9, hkp, (isC_e (sim_blk hsp hz9).2).mp hc158.2⟩
                      have g1 : aLoS ta tnQ 6 (aH6 ta tnQ) = aLoS ta tnQ kpQ (aChr ta tnQ 44 (aPer ta tnQ qz)) := hl1.trans (show aLoS ta tnQ (kpQ + 1) qz = _ from if_pos hyes)
                      have g2 : aLoR ta tnQ 6 (aH6 ta tnQ) (aF0 ta tnQ) = aLoR ta tnQ kpQ (aChr ta tnQ 44 (aPer ta tnQ qz)) ff14 := (hl2.trans (show aLoR ta tnQ (kpQ + 1) qz fs = _ from if_pos hyes)).trans (by rw [hrp hz9])
                      have hsn : simM ta tnQ (blk ta tnQ cu11 + 1) fa12 fat13 (aChr ta tnQ 44 (aPer ta tnQ qz)) := sim_must hsp ⟨fun _ => ⟨rfl, rfl⟩, fun z9 => absurd hc158 z9⟩
                      have hzn : (aChr ta tnQ 44 (aPer ta tnQ qz)).1 = 0 := hsn.fa.2.mp hc158.1
                      refine lv_iconst (v := nI 1) hx hb dX11_house_161 (by decide +kernel) ?_
                      refine lv_goto (tgt := 166) hx hb dX11_house_162 (by decide) ?_
                      refine lv_istore_n (lv' := [(1, .int (nI 1)), (0, .ref o)]) hx hb dX11_house_166 rfl hl (by decide) rfl (fun ls hl => ?_)
                      refine lv_aload_n hx hb dX11_house_167 rfl (lv_at hl 1 rfl) ?_
                      refine lv_dup hx hb dX11_house_168 rfl ?_
                      refine va_get (D := D) (ci := 11) (v := .int (nI (blk ta tnQ cu11))) (C := RX11) (T := TX11) (N := 22) hx hb hts iX11 hown hK.1 hP 0 rfl rfl 14 (by decide) (hts _ m_595) (fun _ h9 => h9) rfl dX11_house_169 ?_
                      refine lv_iload_n hx hb dX11_house_172 rfl (lv_at hl 0 rfl) ?_
                      refine nv_ifeq (tgt := 180) hx hb (by omega) dX11_house_173 (by decide) (fun hc173 => ?_) (fun hc173 => ?_)
                      · (exfalso; omega)
                      · refine lv_iconst (v := nI 1) hx hb dX11_house_176 (by decide +kernel) ?_
                        refine lv_goto (tgt := 181) hx hb dX11_house_177 (by decide) ?_
                        refine nv_add hx hb dX11_house_181 ?_
                        refine va_put (D := D) (ci := 11) (v := .int (nI (blk ta tnQ cu11 + 1))) (ty := tyX11 14) (C := RX11) (T := TX11) (N := 22) hx hb hts iX11 tyX11 tyX11_ok nmX11 hown hK.1 hP hD hS 0 rfl rfl 14 (by decide) (hts _ m_595) (fun _ h9 => h9) rfl (tyX11_ok 14 (by decide)) rfl rfl (Nat.le_of_ble_eq_true rfl) dX11_house_182 (fun H locs hP hD hS => ?_)
                        have hP : va_P D vwCl [(o, .inr (11, [.ref qj, .ref qt, .ref qf, .ref qp, .int (nI un), .ref qk, .ref qq, .int (nI ku), .int (nI ik), .ref qa, .int (nI tnQ), .int (nI 0), .int (nI la), .int (nI wo), .int (nI (blk ta tnQ cu11 + 1)), .int (nI fa12), .int (nI fat13), .ref qs, .ref ql, .ref qm, .ref qi, .ref qe])), aN z qj 31 rQ, aN z qa 60 ta, aN z qf 31 ff14] H := hP
                        have hD : va_D A [(o, .inr (11, [.ref qj, .ref qt, .ref qf, .ref qp, .int (nI un), .ref qk, .ref qq, .int (nI ku), .int (nI ik), .ref qa, .int (nI tnQ), .int (nI 0), .int (nI la), .int (nI wo), .int (nI (blk ta tnQ cu11 + 1)), .int (nI fa12), .int (nI fat13), .ref qs, .ref ql, .ref qm, .ref qi, .ref qe])), aN z qj 31 rQ, aN z qa 60 ta, aN z qf 31 ff14] := hD
                        refine lv_goto (tgt := 125) hx hb dX11_house_185 (by decide) ?_
                        exact ih125 (1, kpQ - 1, aChr ta tnQ 44 (aPer ta tnQ qz), ff14, blk ta tnQ cu11 + 1, fa12, fat13) _ _ _ (by first | (show 1 + (kpQ - 1) < mo + kpQ; omega) | (show 0 + 0 < mo + kpQ; omega)) ⟨1, kpQ - 1, aChr ta tnQ 44 (aPer ta tnQ qz), ff14, blk ta tnQ cu11 + 1, fa12, fat13, rfl, ⟨(by omega), (by omega), (fun _ => ⟨hzn, hsn, by omega, by rw [show kpQ - 1 + 1 = kpQ by omega]; exact g1, by rw [show kpQ - 1 + 1 = kpQ by omega]; exact g2⟩), (fun z9 => absurd z9 (by decide))⟩, hP, hD, hS, lv_sub hl [1, 0] rfl⟩
            · exact ⟨1, 5, aH6 ta tnQ, aF0 ta tnQ, c6Q, fb6, ft6, rfl, ⟨(by omega), (by omega), (fun _ => ⟨hz6, hs6, rfl, rfl, rfl⟩), (fun z9 => absurd z9 (by decide))⟩, hP, hD, hS, lv_sub hl [1, 0] rfl⟩
        · have hz4 : (aH4 ta tnQ).1 ≠ 0 := fun z9 => hc93 (hs4.fa.2.mpr z9)
          have hs5 : simM ta tnQ c4Q fb4 ft4 (aH5 ta tnQ) := by rw [show aH5 ta tnQ = aH4 ta tnQ from if_neg hz4]; exact hs4
          have hz5 : (aH5 ta tnQ).1 ≠ 0 := fun z9 => hz4 (aDig_0 z9)
          have hb5 : c4Q ≤ 71 := by omega
          refine lv_iconst (v := nI 0) hx hb dX11_house_96 (by decide +kernel) ?_
          refine lv_goto (tgt := 105) hx hb dX11_house_97 (by decide) ?_
          refine nv_ast hx hb hK hP hD hS 3 rfl (by omega) (by decide) dX11_house_105 (fun H locs hP hD hS => ?_)
          have hP : va_P D vwCl [(o, .inr (11, [.ref qj, .ref qt, .ref qf, .ref qp, .int (nI un), .ref qk, .ref qq, .int (nI ku), .int (nI ik), .ref qa, .int (nI tnQ), .int (nI 0), .int (nI la), .int (nI wo), .int (nI c4Q), .int (nI fb4), .int (nI ft4), .ref qs, .ref ql, .ref qm, .ref qi, .ref qe])), aN z qj 31 rQ, aN z qa 60 ta, aN z qf 31 (uN (uN (uN (fun _ => 0) 1 (nuV ta tnQ 0)) 2 (nuV ta tnQ c2Q)) 3 0)] H := hP
          have hD : va_D A [(o, .inr (11, [.ref qj, .ref qt, .ref qf, .ref qp, .int (nI un), .ref qk, .ref qq, .int (nI ku), .int (nI ik), .ref qa, .int (nI tnQ), .int (nI 0), .int (nI la), .int (nI wo), .int (nI c4Q), .int (nI fb4), .int (nI ft4), .ref qs, .ref ql, .ref qm, .ref qi, .ref qe])), aN z qj 31 rQ, aN z qa 60 ta, aN z qf 31 (uN (uN (uN (fun _ => 0) 1 (nuV ta tnQ 0)) 2 (nuV ta tnQ c2Q)) 3 0)] := hD
          refine lv_aload_n hx hb dX11_house_106 rfl (lv_at hl 0 rfl) ?_
          refine lv_bipush (v := nI 59) hx hb dX11_house_107 (by decide +kernel) ?_
          obtain ⟨fb6, ft6, hmu6, hfb6⟩ := mu_ex (fb4 = 0 ∧ isC ta tnQ c4Q 59) fb4 ft4 (blk ta tnQ c4Q) (by omega)
          have hPc := hP.sub (ws' := [(o, .inr (11, [.ref qj, .ref qt, .ref qf, .ref qp, .int (nI un), .ref qk, .ref qq, .int (nI ku), .int (nI ik), .ref qa, .int (nI tnQ), .int (nI 0), .int (nI la), .int (nI wo), .int (nI c4Q), .int (nI fb4), .int (nI ft4), .ref qs, .ref ql, .ref qm, .ref qi, .ref qe])), aN z qa 60 ta]) [0, 2] rfl
          have hDc := hD.sub (ws' := [(o, .inr (11, [.ref qj, .ref qt, .ref qf, .ref qp, .int (nI un), .ref qk, .ref qq, .int (nI ku), .int (nI ik), .ref qa, .int (nI tnQ), .int (nI 0), .int (nI la), .int (nI wo), .int (nI c4Q), .int (nI fb4), .int (nI ft4), .ref qs, .ref ql, .ref qm, .ref qi, .ref qe])), aN z qa 60 ta]) [0, 2] (by decide) rfl
          refine nv_cm0 (wc := [(o, .inr (11, [.ref qj, .ref qt, .ref qf, .ref qp, .int (nI un), .ref qk, .ref qq, .int (nI ku), .int (nI ik), .ref qa, .int (nI tnQ), .int (nI 0), .int (nI la), .int (nI wo), .int (nI c4Q), .int (nI fb4), .int (nI ft4), .ref qs, .ref ql, .ref qm, .ref qi, .ref qe])), aN z qa 60 ta]) (wr := [aN z qj 31 rQ, aN z qf 31 (uN (uN (uN (fun _ => 0) 1 (nuV ta tnQ 0)) 2 (nuV ta tnQ c2Q)) 3 0)]) (w1 := [(o, .inr (11, [.ref qj, .ref qt, .ref qf, .ref qp, .int (nI un), .ref qk, .ref qq, .int (nI ku), .int (nI ik), .ref qa, .int (nI tnQ), .int (nI 0), .int (nI la), .int (nI wo), .int (nI (blk ta tnQ c4Q + 1)), .int (nI fb6), .int (nI ft6), .ref qs, .ref ql, .ref qm, .ref qi, .ref qe])), aN z qa 60 ta]) (ws1 := [(o, .inr (11, [.ref qj, .ref qt, .ref qf, .ref qp, .int (nI un), .ref qk, .ref qq, .int (nI ku), .int (nI ik), .ref qa, .int (nI tnQ), .int (nI 0), .int (nI la), .int (nI wo), .int (nI (blk ta tnQ c4Q + 1)), .int (nI fb6), .int (nI ft6), .ref qs, .ref ql, .ref qm, .ref qi, .ref qe])), aN z qj 31 rQ, aN z qa 60 ta, aN z qf 31 (uN (uN (uN (fun _ => 0) 1 (nuV ta tnQ 0)) 2 (nuV ta tnQ c2Q)) 3 0)]) (va_runV (As := [.int (nI 59)]) (rest := []) ⟨hx, hb, hml, hown, hts⟩ (c_X11_must l D z H.size o qj qt qf qp qk qq qa qs ql qm qi qe un ku ik tnQ 0 la wo c4Q fb4 ft4 ta 59 fb6 ft6 (by first | assumption | omega) (by first | assumption | omega) (by first | assumption | omega) (by first | assumption | omega) hmu6) (cwV 1 hts (gV m_625 m_626 m_627 m_541 m_603) rfl rfl rfl ⟨rfl, hd_X11_must⟩ ⟨Nat.le_of_ble_eq_true rfl, Nat.le_of_ble_eq_true rfl⟩) (nv_preMV (ci := 11) (q0 := 0) hK hPc hDc trivial rfl rfl) rfl rfl hl.1 rfl (lv_room (Nat.le_of_ble_eq_true rfl)) dX11_house_109 ⟨by decide, by decide⟩) hP hD hS hA [0, 2] [1, 3] [2, 0, 3, 1] rfl rfl (by decide) (by decide) rfl (by decide) rfl (by decide) (fun H locs hP hD hS hE109 hz109 hf109 => ?_)
          clear hPc hDc
          clear hf109 hz109
          have hs6 : simM ta tnQ _ fb6 ft6 (aH6 ta tnQ) := sim_must hs5 hmu6
          obtain ⟨c6Q, hc6⟩ : ∃ y9 : Nat, y9 = blk ta tnQ c4Q + 1 := ⟨_, rfl⟩
          rw [← hc6] at hP hD hs6
          have hP : va_P D vwCl [(o, .inr (11, [.ref qj, .ref qt, .ref qf, .ref qp, .int (nI un), .ref qk, .ref qq, .int (nI ku), .int (nI ik), .ref qa, .int (nI tnQ), .int (nI 0), .int (nI la), .int (nI wo), .int (nI c6Q), .int (nI fb6), .int (nI ft6), .ref qs, .ref ql, .ref qm, .ref qi, .ref qe])), aN z qj 31 rQ, aN z qa 60 ta, aN z qf 31 (uN (uN (uN (fun _ => 0) 1 (nuV ta tnQ 0)) 2 (nuV ta tnQ c2Q)) 3 0)] H := hP
          have hD : va_D A [(o, .inr (11, [.ref qj, .ref qt, .ref qf, .ref qp, .int (nI un), .ref qk, .ref qq, .int (nI ku), .int (nI ik), .ref qa, .int (nI tnQ), .int (nI 0), .int (nI la), .int (nI wo), .int (nI c6Q), .int (nI fb6), .int (nI ft6), .ref qs, .ref ql, .ref qm, .ref qi, .ref qe])), aN z qj 31 rQ, aN z qa 60 ta, aN z qf 31 (uN (uN (uN (fun _ => 0) 1 (nuV ta tnQ 0)) 2 (nuV ta tnQ c2Q)) 3 0)] := hD
          have hb6 : c6Q ≤ 72 := by omega
          have hbl6 : blk ta tnQ c6Q ≤ 72 := blk_b hb6 (by omega)
          have hf6 := hs6.fa.1
          refine lv_aload_n hx hb dX11_house_112 rfl (lv_at hl 0 rfl) ?_
          refine va_get (D := D) (ci := 11) (v := .int (nI fb6)) (C := RX11) (T := TX11) (N := 22) hx hb hts iX11 hown hK.1 hP 0 rfl rfl 15 (by decide) (hts _ m_597) (fun _ h9 => h9) rfl dX11_house_113 ?_
          refine nv_ifne (tgt := 123) hx hb (by omega) dX11_house_116 (by decide) (fun hc116 => ?_) (fun hc116 => ?_)
          · have hz6 : (aH6 ta tnQ).1 ≠ 0 := fun z9 => hc116 (hs6.fa.2.mpr z9)
            have e7 : aH7 ta tnQ = aH6 ta tnQ := if_neg hz6
            have hsF : simM ta tnQ c6Q fb6 ft6 (aH7 ta tnQ) := by rw [e7]; exact hs6
            have hrowF : (aH7 ta tnQ).1 = 0 → (uN (uN (uN (fun _ => 0) 1 (nuV ta tnQ 0)) 2 (nuV ta tnQ c2Q)) 3 0) = aHR ta tnQ := fun z9 => absurd (by rw [← e7]; exact z9) hz6
            have hbF : c6Q ≤ 900 := by omega
            refine lv_iconst (v := nI 0) hx hb dX11_house_123 (by decide +kernel) ?_
            refine lv_istore_n (lv' := [(1, .int (nI 0)), (0, .ref o)]) hx hb dX11_house_124 rfl hl (by decide) rfl (fun ls hl => ?_)
            refine lv_iload_n hx hb dX11_house_125 rfl (lv_at hl 0 rfl) ?_
            refine nv_ifeq (tgt := 188) hx hb (by omega) dX11_house_126 (by decide) (fun hc126 => ?_) (fun hc126 => ?_)
            · have hfF := hsF.fa.1
              have hblF : blk ta tnQ c6Q ≤ 900 := blk_b hbF (by omega)
              refine lv_aload_n hx hb dX11_house_188 rfl (lv_at hl 1 rfl) ?_
              have hPc := hP.sub (ws' := [(o, .inr (11, [.ref qj, .ref qt, .ref qf, .ref qp, .int (nI un), .ref qk, .ref qq, .int (nI ku), .int (nI ik), .ref qa, .int (nI tnQ), .int (nI 0), .int (nI la), .int (nI wo), .int (nI c6Q), .int (nI fb6), .int (nI ft6), .ref qs, .ref ql, .ref qm, .ref qi, .ref qe])), aN z qa 60 ta]) [0, 2] rfl
              have hDc := hD.sub (ws' := [(o, .inr (11, [.ref qj, .ref qt, .ref qf, .ref qp, .int (nI un), .ref qk, .ref qq, .int (nI ku), .int (nI ik), .ref qa, .int (nI tnQ), .int (nI 0), .int (nI la), .int (nI wo), .int (nI c6Q), .int (nI fb6), .int (nI ft6), .ref qs, .ref ql, .ref qm, .ref qi, .ref qe])), aN z qa 60 ta]) [0, 2] (by decide) rfl
              refine nv_cm0 (wc := [(o, .inr (11, [.ref qj, .ref qt, .ref qf, .ref qp, .int (nI un), .ref qk, .ref qq, .int (nI ku), .int (nI ik), .ref qa, .int (nI tnQ), .int (nI 0), .int (nI la), .int (nI wo), .int (nI c6Q), .int (nI fb6), .int (nI ft6), .ref qs, .ref ql, .ref qm, .ref qi, .ref qe])), aN z qa 60 ta]) (wr := [aN z qj 31 rQ, aN z qf 31 (uN (uN (uN (fun _ => 0) 1 (nuV ta tnQ 0)) 2 (nuV ta tnQ c2Q)) 3 0)]) (w1 := [(o, .inr (11, [.ref qj, .ref qt, .ref qf, .ref qp, .int (nI un), .ref qk, .ref qq, .int (nI ku), .int (nI ik), .ref qa, .int (nI tnQ), .int (nI 0), .int (nI la), .int (nI wo), .int (nI (blk ta tnQ c6Q)), .int (nI fb6), .int (nI ft6), .ref qs, .ref ql, .ref qm, .ref qi, .ref qe])), aN z qa 60 ta]) (ws1 := [(o, .inr (11, [.ref qj, .ref qt, .ref qf, .ref qp, .int (nI un), .ref qk, .ref qq, .int (nI ku), .int (nI ik), .ref qa, .int (nI tnQ), .int (nI 0), .int (nI la), .int (nI wo), .int (nI (blk ta tnQ c6Q)), .int (nI fb6), .int (nI ft6), .ref qs, .ref ql, .ref qm, .ref qi, .ref qe])), aN z qj 31 rQ, aN z qa 60 ta, aN z qf 31 (uN (uN (uN (fun _ => 0) 1 (nuV ta tnQ 0)) 2 (nuV ta tnQ c2Q)) 3 0)]) (va_runV (As := []) (rest := []) ⟨hx, hb, hml, hown, hts⟩ (c_X11_blanks l D z H.size o qj qt qf qp qk qq qa qs ql qm qi qe un ku ik tnQ 0 la wo c6Q fb6 ft6 ta (by first | assumption | omega) (by first | assumption | omega)) (cwV 0 hts (gV m_600 m_601 m_602 m_541 m_594) rfl rfl rfl ⟨rfl, hd_X11_blanks⟩ ⟨Nat.le_of_ble_eq_true rfl, Nat.le_of_ble_eq_true rfl⟩) (nv_preMV (ci := 11) (q0 := 0) hK hPc hDc trivial rfl rfl) rfl rfl hl.1 rfl (lv_room (Nat.le_of_ble_eq_true rfl)) dX11_house_189 ⟨by decide, by decide⟩) hP hD hS hA [0, 2] [1, 3] [2, 0, 3, 1] rfl rfl (by decide) (by decide) rfl (by decide) rfl (by decide) (fun H locs hP hD hS hE189 hz189 hf189 => ?_)
              clear hPc hDc
              clear hf189 hz189
              refine lv_aload_n hx hb dX11_house_192 rfl (lv_at hl 1 rfl) ?_
              refine va_get (D := D) (ci := 11) (v := .int (nI fb6)) (C := RX11) (T := TX11) (N := 22) hx hb hts iX11 hown hK.1 hP 0 rfl rfl 15 (by decide) (hts _ m_597) (fun _ h9 => h9) rfl dX11_house_193 ?_
              refine nv_ifne (tgt := 218) hx hb (by omega) dX11_house_196 (by decide) (fun hc196 => ?_) (fun hc196 => ?_)
              · have hz7 : (aH7 ta tnQ).1 ≠ 0 := fun z9 => hc196 (hsF.fa.2.mpr z9)
                have eS : aHS ta tnQ = aH7 ta tnQ := if_neg (fun z9 => hz7 z9.1)
                have hle7 := hsF.2.2
                have hft7 := (hsF.2.1 hz7).2
                obtain ⟨e1, e2, rfl⟩ := hrel.1 (by rw [eS]; exact hz7)
                obtain rfl := e1.symm
                obtain rfl := e2.symm
                rw [eS]
                refine lv_aload_n hx hb dX11_house_218 rfl (lv_at hl 1 rfl) ?_
                refine va_get (D := D) (ci := 11) (v := .int (nI ft6)) (C := RX11) (T := TX11) (N := 22) hx hb hts iX11 hown hK.1 hP 0 rfl rfl 16 (by decide) (hts _ m_598) (fun _ h9 => h9) rfl dX11_house_219 ?_
                refine lv_aload_n hx hb dX11_house_222 rfl (lv_at hl 1 rfl) ?_
                refine va_get (D := D) (ci := 11) (v := .int (nI tnQ)) (C := RX11) (T := TX11) (N := 22) hx hb hts iX11 hown hK.1 hP 0 rfl rfl 10 (by decide) (hts _ m_593) (fun _ h9 => h9) rfl dX11_house_223 ?_
                refine nv_le (tgt := 236) hx hb (by omega) (by omega) dX11_house_226 (by decide) (fun hc226 => ?_) (fun hc226 => ?_)
                · refine lv_aload_n hx hb dX11_house_236 rfl (lv_at hl 1 rfl) ?_
                  refine va_get (D := D) (ci := 11) (v := .int (nI ft6)) (C := RX11) (T := TX11) (N := 22) hx hb hts iX11 hown hK.1 hP 0 rfl rfl 16 (by decide) (hts _ m_598) (fun _ h9 => h9) rfl dX11_house_237 ?_
                  refine lv_istore_n (lv' := [(2, .int (nI ft6)), (1, .int (nI 0)), (0, .ref o)]) hx hb dX11_house_240 rfl hl (by decide) rfl (fun ls hl => ?_)
                  refine lv_aload_n hx hb dX11_house_241 rfl (lv_at hl 2 rfl) ?_
                  refine lv_iconst (v := nI 0) hx hb dX11_house_242 (by decide +kernel) ?_
                  refine va_put (D := D) (ci := 11) (v := .int (nI 0)) (ty := tyX11 10) (C := RX11) (T := TX11) (N := 22) hx hb hts iX11 tyX11 tyX11_ok nmX11 hown hK.1 hP hD hS 0 rfl rfl 10 (by decide) (hts _ m_593) (fun _ h9 => h9) rfl (tyX11_ok 10 (by decide)) rfl rfl (Nat.le_of_ble_eq_true rfl) dX11_house_243 (fun H locs hP hD hS => ?_)
                  have hP : va_P D vwCl [(o, .inr (11, [.ref qj, .ref qt, .ref qf, .ref qp, .int (nI un), .ref qk, .ref qq, .int (nI ku), .int (nI ik), .ref qa, .int (nI 0), .int (nI 0), .int (nI la), .int (nI wo), .int (nI (blk ta tnQ c6Q)), .int (nI fb6), .int (nI ft6), .ref qs, .ref ql, .ref qm, .ref qi, .ref qe])), aN z qj 31 rQ, aN z qa 60 ta, aN z qf 31 (uN (uN (uN (fun _ => 0) 1 (nuV ta tnQ 0)) 2 (nuV ta tnQ c2Q)) 3 0)] H := hP
                  have hD : va_D A [(o, .inr (11, [.ref qj, .ref qt, .ref qf, .ref qp, .int (nI un), .ref qk, .ref qq, .int (nI ku), .int (nI ik), .ref qa, .int (nI 0), .int (nI 0), .int (nI la), .int (nI wo), .int (nI (blk ta tnQ c6Q)), .int (nI fb6), .int (nI ft6), .ref qs, .ref ql, .ref qm, .ref qi, .ref qe])), aN z qj 31 rQ, aN z qa 60 ta, aN z qf 31 (uN (uN (uN (fun _ => 0) 1 (nuV ta tnQ 0)) 2 (nuV ta tnQ c2Q)) 3 0)] := hD
                  refine lv_aload_n hx hb dX11_house_246 rfl (lv_at hl 2 rfl) ?_
                  refine va_get (D := D) (ci := 11) (v := .int (nI fb6)) (C := RX11) (T := TX11) (N := 22) hx hb hts iX11 hown hK.1 hP 0 rfl rfl 15 (by decide) (hts _ m_597) (fun _ h9 => h9) rfl dX11_house_247 ?_
                  refine nv_ifeq (tgt := 258) hx hb (by omega) dX11_house_250 (by decide) (fun hc250 => ?_) (fun hc250 => ?_)
                  · exact absurd hc250 hc196
                  · refine lv_bipush (v := (-20)) hx hb dX11_house_253 (by decide +kernel) ?_
                    refine lv_iload_n hx hb dX11_house_255 rfl (lv_at hl 0 rfl) ?_
                    refine lv_isub hx hb dX11_house_256 ?_
                    exact nv_xi hx hb hr hlocks hS dX11_house_257 (blk ta tnQ c6Q, fb6, ft6, uN (uN (uN (fun _ => 0) 1 (nuV ta tnQ 0)) 2 (nuV ta tnQ c2Q)) 3 0) hP trivial (by rw [show (aH7 ta tnQ).1 - 1 = ft6 by omega])
                · (exfalso; omega)
              · have hz7 : (aH7 ta tnQ).1 = 0 := hsF.fa.2.mp hc196
                have hbq := sim_blk hsF hz7
                refine lv_aload_n hx hb dX11_house_199 rfl (lv_at hl 1 rfl) ?_
                refine va_get (D := D) (ci := 11) (v := .int (nI (blk ta tnQ c6Q))) (C := RX11) (T := TX11) (N := 22) hx hb hts iX11 hown hK.1 hP 0 rfl rfl 14 (by decide) (hts _ m_595) (fun _ h9 => h9) rfl dX11_house_200 ?_
                refine lv_aload_n hx hb dX11_house_203 rfl (lv_at hl 1 rfl) ?_
                refine va_get (D := D) (ci := 11) (v := .int (nI tnQ)) (C := RX11) (T := TX11) (N := 22) hx hb hts iX11 hown hK.1 hP 0 rfl rfl 10 (by decide) (hts _ m_593) (fun _ h9 => h9) rfl dX11_house_204 ?_
                refine nv_ge (tgt := 218) hx hb (by omega) (by omega) dX11_house_207 (by decide) (fun hc207 => ?_) (fun hc207 => ?_)
                · have eS : aHS ta tnQ = aH7 ta tnQ := if_neg (fun z9 => by have h7 := z9.2; rw [← hbq.2] at h7; omega)
                  refine lv_aload_n hx hb dX11_house_218 rfl (lv_at hl 1 rfl) ?_
                  refine va_get (D := D) (ci := 11) (v := .int (nI ft6)) (C := RX11) (T := TX11) (N := 22) hx hb hts iX11 hown hK.1 hP 0 rfl rfl 16 (by decide) (hts _ m_598) (fun _ h9 => h9) rfl dX11_house_219 ?_
                  refine lv_aload_n hx hb dX11_house_222 rfl (lv_at hl 1 rfl) ?_
                  refine va_get (D := D) (ci := 11) (v := .int (nI tnQ)) (C := RX11) (T := TX11) (N := 22) hx hb hts iX11 hown hK.1 hP 0 rfl rfl 10 (by decide) (hts _ m_593) (fun _ h9 => h9) rfl dX11_house_223 ?_
                  refine lv_icmp_le (tgt := 236) hx hb dX11_house_226 (by decide) (fun hc226 => ?_) (fun hc226 => ?_)
                  · refine lv_aload_n hx hb dX11_house_236 rfl (lv_at hl 1 rfl) ?_
                    refine va_get (D := D) (ci := 11) (v := .int (nI ft6)) (C := RX11) (T := TX11) (N := 22) hx hb hts iX11 hown hK.1 hP 0 rfl rfl 16 (by decide) (hts _ m_598) (fun _ h9 => h9) rfl dX11_house_237 ?_
                    refine lv_istore_n (lv' := [(2, .int (nI ft6)), (1, .int (nI 0)), (0, .ref o)]) hx hb dX11_house_240 rfl hl (by decide) rfl (fun ls hl => ?_)
                    refine lv_aload_n hx hb dX11_house_241 rfl (lv_at hl 2 rfl) ?_
                    refine lv_iconst (v := nI 0) hx hb dX11_house_242 (by decide +kernel) ?_
                    refine va_put (D := D) (ci := 11) (v := .int (nI 0)) (ty := tyX11 10) (C := RX11) (T := TX11) (N := 22) hx hb hts iX11 tyX11 tyX11_ok nmX11 hown hK.1 hP hD hS 0 rfl rfl 10 (by decide) (hts _ m_593) (fun _ h9 => h9) rfl (tyX11_ok 10 (by decide)) rfl rfl (Nat.le_of_ble_eq_true rfl) dX11_house_243 (fun H locs hP hD hS => ?_)
                    have hP : va_P D vwCl [(o, .inr (11, [.ref qj, .ref qt, .ref qf, .ref qp, .int (nI un), .ref qk, .ref qq, .int (nI ku), .int (nI ik), .ref qa, .int (nI 0), .int (nI 0), .int (nI la), .int (nI wo), .int (nI (blk ta tnQ c6Q)), .int (nI fb6), .int (nI ft6), .ref qs, .ref ql, .ref qm, .ref qi, .ref qe])), aN z qj 31 rQ, aN z qa 60 ta, aN z qf 31 (uN (uN (uN (fun _ => 0) 1 (nuV ta tnQ 0)) 2 (nuV ta tnQ c2Q)) 3 0)] H := hP
                    have hD : va_D A [(o, .inr (11, [.ref qj, .ref qt, .ref qf, .ref qp, .int (nI un), .ref qk, .ref qq, .int (nI ku), .int (nI ik), .ref qa, .int (nI 0), .int (nI 0), .int (nI la), .int (nI wo), .int (nI (blk ta tnQ c6Q)), .int (nI fb6), .int (nI ft6), .ref qs, .ref ql, .ref qm, .ref qi, .ref qe])), aN z qj 31 rQ, aN z qa 60 ta, aN z qf 31 (uN (uN (uN (fun _ => 0) 1 (nuV ta tnQ 0)) 2 (nuV ta tnQ c2Q)) 3 0)] := hD
                    refine lv_aload_n hx hb dX11_house_246 rfl (lv_at hl 2 rfl) ?_
                    refine va_get (D := D) (ci := 11) (v := .int (nI fb6)) (C := RX11) (T := TX11) (N := 22) hx hb hts iX11 hown hK.1 hP 0 rfl rfl 15 (by decide) (hts _ m_597) (fun _ h9 => h9) rfl dX11_house_247 ?_
                    refine nv_ifeq (tgt := 258) hx hb (by omega) dX11_house_250 (by decide) (fun hc250 => ?_) (fun hc250 => ?_)
                    · obtain ⟨rfl, rfl, rfl⟩ := hrel.2 (by rw [eS]; exact hz7)
                      have eR := hrowF hz7
                      rw [eR] at hP hD
                      have hP : va_P D vwCl [(o, .inr (11, [.ref qj, .ref qt, .ref qf, .ref qp, .int (nI un), .ref qk, .ref qq, .int (nI ku), .int (nI ik), .ref qa, .int (nI 0), .int (nI 0), .int (nI la), .int (nI wo), .int (nI (blk ta tnQ c6Q)), .int (nI fb6), .int (nI ft6), .ref qs, .ref ql, .ref qm, .ref qi, .ref qe])), aN z qj 31 rQ, aN z qa 60 ta, aN z qf 31 (aHR ta tnQ)] H := hP
                      have hD : va_D A [(o, .inr (11, [.ref qj, .ref qt, .ref qf, .ref qp, .int (nI un), .ref qk, .ref qq, .int (nI ku), .int (nI ik), .ref qa, .int (nI 0), .int (nI 0), .int (nI la), .int (nI wo), .int (nI (blk ta tnQ c6Q)), .int (nI fb6), .int (nI ft6), .ref qs, .ref ql, .ref qm, .ref qi, .ref qe])), aN z qj 31 rQ, aN z qa 60 ta, aN z qf 31 (aHR ta tnQ)] := hD
                      refine lv_aload_n hx hb dX11_house_258 rfl (lv_at hl 2 rfl) ?_
                      refine va_get (D := D) (ci := 11) (v := .ref qf) (C := RX11) (T := TX11) (N := 22) hx hb hts iX11 hown hK.1 hP 0 rfl rfl 2 (by decide) (hts _ m_525) (fun _ h9 => h9) rfl dX11_house_259 ?_
                      refine lv_iconst (v := nI 5) hx hb dX11_house_262 (by decide +kernel) ?_
                      refine lv_aload_n hx hb dX11_house_263 rfl (lv_at hl 2 rfl) ?_
                      refine va_get (D := D) (ci := 11) (v := .ref qj) (C := RX11) (T := TX11) (N := 22) hx hb hts iX11 hown hK.1 hP 0 rfl rfl 0 (by decide) (hts _ m_523) (fun _ h9 => h9) rfl dX11_house_264 ?_
                      refine lv_iconst (v := nI 5) hx hb dX11_house_267 (by decide +kernel) ?_
                      refine nv_ald hx hb hK hP 1 rfl (by omega) (by decide) dX11_house_268 ?_
                      refine nv_ast hx hb hK hP hD hS 3 rfl (by omega) (by decide) dX11_house_269 (fun H locs hP hD hS => ?_)
                      have hP : va_P D vwCl [(o, .inr (11, [.ref qj, .ref qt, .ref qf, .ref qp, .int (nI un), .ref qk, .ref qq, .int (nI ku), .int (nI ik), .ref qa, .int (nI 0), .int (nI 0), .int (nI la), .int (nI wo), .int (nI (blk ta tnQ c6Q)), .int (nI fb6), .int (nI ft6), .ref qs, .ref ql, .ref qm, .ref qi, .ref qe])), aN z qj 31 rQ, aN z qa 60 ta, aN z qf 31 (uN (aHR ta tnQ) 5 (rQ 5))] H := hP
                      have hD : va_D A [(o, .inr (11, [.ref qj, .ref qt, .ref qf, .ref qp, .int (nI un), .ref qk, .ref qq, .int (nI ku), .int (nI ik), .ref qa, .int (nI 0), .int (nI 0), .int (nI la), .int (nI wo), .int (nI (blk ta tnQ c6Q)), .int (nI fb6), .int (nI ft6), .ref qs, .ref ql, .ref qm, .ref qi, .ref qe])), aN z qj 31 rQ, aN z qa 60 ta, aN z qf 31 (uN (aHR ta tnQ) 5 (rQ 5))] := hD
                      refine lv_aload_n hx hb dX11_house_270 rfl (lv_at hl 2 rfl) ?_
                      refine va_get (D := D) (ci := 11) (v := .ref qf) (C := RX11) (T := TX11) (N := 22) hx hb hts iX11 hown hK.1 hP 0 rfl rfl 2 (by decide) (hts _ m_525) (fun _ h9 => h9) rfl dX11_house_271 ?_
                      refine lv_aload_n hx hb dX11_house_274 rfl (lv_at hl 2 rfl) ?_
                      refine va_get (D := D) (ci := 11) (v := .ref qj) (C := RX11) (T := TX11) (N := 22) hx hb hts iX11 hown hK.1 hP 0 rfl rfl 0 (by decide) (hts _ m_523) (fun _ h9 => h9) rfl dX11_house_275 ?_
                      have hPc := hP.sub (ws' := [aN z qf 31 (uN (aHR ta tnQ) 5 (rQ 5)), aN z qj 31 rQ]) [3, 1] rfl
                      have hDc := hD.sub (ws' := [aN z qf 31 (uN (aHR ta tnQ) 5 (rQ 5)), aN z qj 31 rQ]) [3, 1] (by decide) rfl
                      refine nv_cm0 (wc := [aN z qf 31 (uN (aHR ta tnQ) 5 (rQ 5)), aN z qj 31 rQ]) (wr := [(o, .inr (11, [.ref qj, .ref qt, .ref qf, .ref qp, .int (nI un), .ref qk, .ref qq, .int (nI ku), .int (nI ik), .ref qa, .int (nI 0), .int (nI 0), .int (nI la), .int (nI wo), .int (nI (blk ta tnQ c6Q)), .int (nI fb6), .int (nI ft6), .ref qs, .ref ql, .ref qm, .ref qi, .ref qe])), aN z qa 60 ta]) (w1 := [aN z qf 31 (uN (aHR ta tnQ) 5 (rQ 5)), aN z qj 31 (uN (aHR ta tnQ) 5 (rQ 5))]) (ws1 := [(o, .inr (11, [.ref qj, .ref qt, .ref qf, .ref qp, .int (nI un), .ref qk, .ref qq, .int (nI ku), .int (nI ik), .ref qa, .int (nI 0), .int (nI 0), .int (nI la), .int (nI wo), .int (nI (blk ta tnQ c6Q)), .int (nI fb6), .int (nI ft6), .ref qs, .ref ql, .ref qm, .ref qi, .ref qe])), aN z qj 31 (uN (aHR ta tnQ) 5 (rQ 5)), aN z qa 60 ta, aN z qf 31 (uN (aHR ta tnQ) 5 (rQ 5))]) (va_runS (As := [.ref qf, .ref qj]) (rest := []) ⟨hx, hb, hml, hown, hts⟩ (c_X11_lay l D z H.size qf qj (uN (aHR ta tnQ) 5 (rQ 5)) rQ ) (va_cwS 2 hts (gS m_631 m_632 m_541 m_537) rfl rfl rfl hd_X11_lay ⟨Nat.le_of_ble_eq_true rfl, Nat.le_of_ble_eq_true rfl⟩) (nv_preM hK hPc hDc trivial _) rfl rfl hl.1 rfl (lv_room (Nat.le_of_ble_eq_true rfl)) dX11_house_278 ⟨by decide, by decide⟩) hP hD hS hA [3, 1] [0, 2] [0, 3, 1, 2] rfl rfl (by decide) (by decide) rfl (by decide) rfl (by decide) (fun H locs hP hD hS hE278 hz278 hf278 => ?_)
                      clear hPc hDc
                      clear hf278 hz278
                      refine lv_aload_n hx hb dX11_house_281 rfl (lv_at hl 2 rfl) ?_
                      refine lv_iconst (v := nI 0) hx hb dX11_house_282 (by decide +kernel) ?_
                      refine va_put (D := D) (ci := 11) (v := .int (nI 0)) (ty := tyX11 4) (C := RX11) (T := TX11) (N := 22) hx hb hts iX11 tyX11 tyX11_ok nmX11 hown hK.1 hP hD hS 0 rfl rfl 4 (by decide) (hts _ m_580) (fun _ h9 => h9) rfl (tyX11_ok 4 (by decide)) rfl rfl (Nat.le_of_ble_eq_true rfl) dX11_house_283 (fun H locs hP hD hS => ?_)
                      have hP : va_P D vwCl [(o, .inr (11, [.ref qj, .ref qt, .ref qf, .ref qp, .int (nI 0), .ref qk, .ref qq, .int (nI ku), .int (nI ik), .ref qa, .int (nI 0), .int (nI 0), .int (nI la), .int (nI wo), .int (nI (blk ta tnQ c6Q)), .int (nI fb6), .int (nI ft6), .ref qs, .ref ql, .ref qm, .ref qi, .ref qe])), aN z qj 31 (uN (aHR ta tnQ) 5 (rQ 5)), aN z qa 60 ta, aN z qf 31 (uN (aHR ta tnQ) 5 (rQ 5))] H := hP
                      have hD : va_D A [(o, .inr (11, [.ref qj, .ref qt, .ref qf, .ref qp, .int (nI 0), .ref qk, .ref qq, .int (nI ku), .int (nI ik), .ref qa, .int (nI 0), .int (nI 0), .int (nI la), .int (nI wo), .int (nI (blk ta tnQ c6Q)), .int (nI fb6), .int (nI ft6), .ref qs, .ref ql, .ref qm, .ref qi, .ref qe])), aN z qj 31 (uN (aHR ta tnQ) 5 (rQ 5)), aN z qa 60 ta, aN z qf 31 (uN (aHR ta tnQ) 5 (rQ 5))] := hD
                      refine lv_aload_n hx hb dX11_house_286 rfl (lv_at hl 2 rfl) ?_
                      refine va_get (D := D) (ci := 11) (v := .ref qj) (C := RX11) (T := TX11) (N := 22) hx hb hts iX11 hown hK.1 hP 0 rfl rfl 0 (by decide) (hts _ m_523) (fun _ h9 => h9) rfl dX11_house_287 ?_
                      refine lv_bipush (v := nI 6) hx hb dX11_house_290 (by decide +kernel) ?_
                      refine nv_ald hx hb hK hP 1 rfl (by omega) (by decide) dX11_house_292 ?_
                      exact nv_xi hx hb hr hlocks hS dX11_house_293 (blk ta tnQ c6Q, fb6, ft6, uN (aHR ta tnQ) 5 (rQ 5)) hP trivial (by rw [uN_n _ (by decide)])
                    · exact absurd hc196 hc250
                  · refine lv_aload_n hx hb dX11_house_229 rfl (lv_at hl 1 rfl) ?_
                    refine va_get (D := D) (ci := 11) (v := .int (nI tnQ)) (C := RX11) (T := TX11) (N := 22) hx hb hts iX11 hown hK.1 hP 0 rfl rfl 10 (by decide) (hts _ m_593) (fun _ h9 => h9) rfl dX11_house_230 ?_
                    refine lv_goto (tgt := 240) hx hb dX11_house_233 (by decide) ?_
                    refine lv_istore_n (lv' := [(2, .int (nI tnQ)), (1, .int (nI 0)), (0, .ref o)]) hx hb dX11_house_240 rfl hl (by decide) rfl (fun ls hl => ?_)
                    refine lv_aload_n hx hb dX11_house_241 rfl (lv_at hl 2 rfl) ?_
                    refine lv_iconst (v := nI 0) hx hb dX11_house_242 (by decide +kernel) ?_
                    refine va_put (D := D) (ci := 11) (v := .int (nI 0)) (ty := tyX11 10) (C := RX11) (T := TX11) (N := 22) hx hb hts iX11 tyX11 tyX11_ok nmX11 hown hK.1 hP hD hS 0 rfl rfl 10 (by decide) (hts _ m_593) (fun _ h9 => h9) rfl (tyX11_ok 10 (by decide)) rfl rfl (Nat.le_of_ble_eq_true rfl) dX11_house_243 (fun H locs hP hD hS => ?_)
                    have hP : va_P D vwCl [(o, .inr (11, [.ref qj, .ref qt, .ref qf, .ref qp, .int (nI un), .ref qk, .ref qq, .int (nI ku), .int (nI ik), .ref qa, .int (nI 0), .int (nI 0), .int (nI la), .int (nI wo), .int (nI (blk ta tnQ c6Q)), .int (nI fb6), .int (nI ft6), .ref qs, .ref ql, .ref qm, .ref qi, .ref qe])), aN z qj 31 rQ, aN z qa 60 ta, aN z qf 31 (uN (uN (uN (fun _ => 0) 1 (nuV ta tnQ 0)) 2 (nuV ta tnQ c2Q)) 3 0)] H := hP
                    have hD : va_D A [(o, .inr (11, [.ref qj, .ref qt, .ref qf, .ref qp, .int (nI un), .ref qk, .ref qq, .int (nI ku), .int (nI ik), .ref qa, .int (nI 0), .int (nI 0), .int (nI la), .int (nI wo), .int (nI (blk ta tnQ c6Q)), .int (nI fb6), .int (nI ft6), .ref qs, .ref ql, .ref qm, .ref qi, .ref qe])), aN z qj 31 rQ, aN z qa 60 ta, aN z qf 31 (uN (uN (uN (fun _ => 0) 1 (nuV ta tnQ 0)) 2 (nuV ta tnQ c2Q)) 3 0)] := hD
                    refine lv_aload_n hx hb dX11_house_246 rfl (lv_at hl 2 rfl) ?_
                    refine va_get (D := D) (ci := 11) (v := .int (nI fb6)) (C := RX11) (T := TX11) (N := 22) hx hb hts iX11 hown hK.1 hP 0 rfl rfl 15 (by decide) (hts _ m_597) (fun _ h9 => h9) rfl dX11_house_247 ?_
                    refine nv_ifeq (tgt := 258) hx hb (by omega) dX11_house_250 (by decide) (fun hc250 => ?_) (fun hc250 => ?_)
                    · obtain ⟨rfl, rfl, rfl⟩ := hrel.2 (by rw [eS]; exact hz7)
                      have eR := hrowF hz7
                      rw [eR] at hP hD
                      have hP : va_P D vwCl [(o, .inr (11, [.ref qj, .ref qt, .ref qf, .ref qp, .int (nI un), .ref qk, .ref qq, .int (nI ku), .int (nI ik), .ref qa, .int (nI 0), .int (nI 0), .int (nI la), .int (nI wo), .int (nI (blk ta tnQ c6Q)), .int (nI fb6), .int (nI ft6), .ref qs, .ref ql, .ref qm, .ref qi, .ref qe])), aN z qj 31 rQ, aN z qa 60 ta, aN z qf 31 (aHR ta tnQ)] H := hP
                      have hD : va_D A [(o, .inr (11, [.ref qj, .ref qt, .ref qf, .ref qp, .int (nI un), .ref qk, .ref qq, .int (nI ku), .int (nI ik), .ref qa, .int (nI 0), .int (nI 0), .int (nI la), .int (nI wo), .int (nI (blk ta tnQ c6Q)), .int (nI fb6), .int (nI ft6), .ref qs, .ref ql, .ref qm, .ref qi, .ref qe])), aN z qj 31 rQ, aN z qa 60 ta, aN z qf 31 (aHR ta tnQ)] := hD
                      refine lv_aload_n hx hb dX11_house_258 rfl (lv_at hl 2 rfl) ?_
                      refine va_get (D := D) (ci := 11) (v := .ref qf) (C := RX11) (T := TX11) (N := 22) hx hb hts iX11 hown hK.1 hP 0 rfl rfl 2 (by decide) (hts _ m_525) (fun _ h9 => h9) rfl dX11_house_259 ?_
                      refine lv_iconst (v := nI 5) hx hb dX11_house_262 (by decide +kernel) ?_
                      refine lv_aload_n hx hb dX11_house_263 rfl (lv_at hl 2 rfl) ?_
                      refine va_get (D := D) (ci := 11) (v := .ref qj) (C := RX11) (T := TX11) (N := 22) hx hb hts iX11 hown hK.1 hP 0 rfl rfl 0 (by decide) (hts _ m_523) (fun _ h9 => h9) rfl dX11_house_264 ?_
                      refine lv_iconst (v := nI 5) hx hb dX11_house_267 (by decide +kernel) ?_
                      refine nv_ald hx hb hK hP 1 rfl (by omega) (by decide) dX11_house_268 ?_
                      refine nv_ast hx hb hK hP hD hS 3 rfl (by omega) (by decide) dX11_house_269 (fun H locs hP hD hS => ?_)
                      have hP : va_P D vwCl [(o, .inr (11, [.ref qj, .ref qt, .ref qf, .ref qp, .int (nI un), .ref qk, .ref qq, .int (nI ku), .int (nI ik), .ref qa, .int (nI 0), .int (nI 0), .int (nI la), .int (nI wo), .int (nI (blk ta tnQ c6Q)), .int (nI fb6), .int (nI ft6), .ref qs, .ref ql, .ref qm, .ref qi, .ref qe])), aN z qj 31 rQ, aN z qa 60 ta, aN z qf 31 (uN (aHR ta tnQ) 5 (rQ 5))] H := hP
                      have hD : va_D A [(o, .inr (11, [.ref qj, .ref qt, .ref qf, .ref qp, .int (nI un), .ref qk, .ref qq, .int (nI ku), .int (nI ik), .ref qa, .int (nI 0), .int (nI 0), .int (nI la), .int (nI wo), .int (nI (blk ta tnQ c6Q)), .int (nI fb6), .int (nI ft6), .ref qs, .ref ql, .ref qm, .ref qi, .ref qe])), aN z qj 31 rQ, aN z qa 60 ta, aN z qf 31 (uN (aHR ta tnQ) 5 (rQ 5))] := hD
                      refine lv_aload_n hx hb dX11_house_270 rfl (lv_at hl 2 rfl) ?_
                      refine va_get (D := D) (ci := 11) (v := .ref qf) (C := RX11) (T := TX11) (N := 22) hx hb hts iX11 hown hK.1 hP 0 rfl rfl 2 (by decide) (hts _ m_525) (fun _ h9 => h9) rfl dX11_house_271 ?_
                      refine lv_aload_n hx hb dX11_house_274 rfl (lv_at hl 2 rfl) ?_
                      refine va_get (D := D) (ci := 11) (v := .ref qj) (C := RX11) (T := TX11) (N := 22) hx hb hts iX11 hown hK.1 hP 0 rfl rfl 0 (by decide) (hts _ m_523) (fun _ h9 => h9) rfl dX11_house_275 ?_
                      have hPc := hP.sub (ws' := [aN z qf 31 (uN (aHR ta tnQ) 5 (rQ 5)), aN z qj 31 rQ]) [3, 1] rfl
                      have hDc := hD.sub (ws' := [aN z qf 31 (uN (aHR ta tnQ) 5 (rQ 5)), aN z qj 31 rQ]) [3, 1] (by decide) rfl
                      refine nv_cm0 (wc := [aN z qf 31 (uN (aHR ta tnQ) 5 (rQ 5)), aN z qj 31 rQ]) (wr := [(o, .inr (11, [.ref qj, .ref qt, .ref qf, .ref qp, .int (nI un), .ref qk, .ref qq, .int (nI ku), .int (nI ik), .ref qa, .int (nI 0), .int (nI 0), .int (nI la), .int (nI wo), .int (nI (blk ta tnQ c6Q)), .int (nI fb6), .int (nI ft6), .ref qs, .ref ql, .ref qm, .ref qi, .ref qe])), aN z qa 60 ta]) (w1 := [aN z qf 31 (uN (aHR ta tnQ) 5 (rQ 5)), aN z qj 31 (uN (aHR ta tnQ) 5 (rQ 5))]) (ws1 := [(o, .inr (11, [.ref qj, .ref qt, .ref qf, .ref qp, .int (nI un), .ref qk, .ref qq, .int (nI ku), .int (nI ik), .ref qa, .int (nI 0), .int (nI 0), .int (nI la), .int (nI wo), .int (nI (blk ta tnQ c6Q)), .int (nI fb6), .int (nI ft6), .ref qs, .ref ql, .ref qm, .ref qi, .ref qe])), aN z qj 31 (uN (aHR ta tnQ) 5 (rQ 5)), aN z qa 60 ta, aN z qf 31 (uN (aHR ta tnQ) 5 (rQ 5))]) (va_runS (As := [.ref qf, .ref qj]) (rest := []) ⟨hx, hb, hml, hown, hts⟩ (c_X11_lay l D z H.size qf qj (uN (aHR ta tnQ) 5 (rQ 5)) rQ ) (va_cwS 2 hts (gS m_631 m_632 m_541 m_537) rfl rfl rfl hd_X11_lay ⟨Nat.le_of_ble_eq_true rfl, Nat.le_of_ble_eq_true rfl⟩) (nv_preM hK hPc hDc trivial _) rfl rfl hl.1 rfl (lv_room (Nat.le_of_ble_eq_true rfl)) dX11_house_278 ⟨by decide, by decide⟩) hP hD hS hA [3, 1] [0, 2] [0, 3, 1, 2] rfl rfl (by decide) (by decide) rfl (by decide) rfl (by decide) (fun H locs hP hD hS hE278 hz278 hf278 => ?_)
                      clear hPc hDc
                      clear hf278 hz278
                      refine lv_aload_n hx hb dX11_house_281 rfl (lv_at hl 2 rfl) ?_
                      refine lv_iconst (v := nI 0) hx hb dX11_house_282 (by decide +kernel) ?_
                      refine va_put (D := D) (ci := 11) (v := .int (nI 0)) (ty := tyX11 4) (C := RX11) (T := TX11) (N := 22) hx hb hts iX11 tyX11 tyX11_ok nmX11 hown hK.1 hP hD hS 0 rfl rfl 4 (by decide) (hts _ m_580) (fun _ h9 => h9) rfl (tyX11_ok 4 (by decide)) rfl rfl (Nat.le_of_ble_eq_true rfl) dX11_house_283 (fun H locs hP hD hS => ?_)
                      have hP : va_P D vwCl [(o, .inr (11, [.ref qj, .ref qt, .ref qf, .ref qp, .int (nI 0), .ref qk, .ref qq, .int (nI ku), .int (nI ik), .ref qa, .int (nI 0), .int (nI 0), .int (nI la), .int (nI wo), .int (nI (blk ta tnQ c6Q)), .int (nI fb6), .int (nI ft6), .ref qs, .ref ql, .ref qm, .ref qi, .ref qe])), aN z qj 31 (uN (aHR ta tnQ) 5 (rQ 5)), aN z qa 60 ta, aN z qf 31 (uN (aHR ta tnQ) 5 (rQ 5))] H := hP
                      have hD : va_D A [(o, .inr (11, [.ref qj, .ref qt, .ref qf, .ref qp, .int (nI 0), .ref qk, .ref qq, .int (nI ku), .int (nI ik), .ref qa, .int (nI 0), .int (nI 0), .int (nI la), .int (nI wo), .int (nI (blk ta tnQ c6Q)), .int (nI fb6), .int (nI ft6), .ref qs, .ref ql, .ref qm, .ref qi, .ref qe])), aN z qj 31 (uN (aHR ta tnQ) 5 (rQ 5)), aN z qa 60 ta, aN z qf 31 (uN (aHR ta tnQ) 5 (rQ 5))] := hD
                      refine lv_aload_n hx hb dX11_house_286 rfl (lv_at hl 2 rfl) ?_
                      refine va_get (D := D) (ci := 11) (v := .ref qj) (C := RX11) (T := TX11) (N := 22) hx hb hts iX11 hown hK.1 hP 0 rfl rfl 0 (by decide) (hts _ m_523) (fun _ h9 => h9) rfl dX11_house_287 ?_
                      refine lv_bipush (v := nI 6) hx hb dX11_house_290 (by decide +kernel) ?_
                      refine nv_ald hx hb hK hP 1 rfl (by omega) (by decide) dX11_house_292 ?_
                      exact nv_xi hx hb hr hlocks hS dX11_house_293 (blk ta tnQ c6Q, fb6, ft6, uN (aHR ta tnQ) 5 (rQ 5)) hP trivial (by rw [uN_n _ (by decide)])
                    · exact absurd hc196 hc250
                · have eS : aHS ta tnQ = (blk ta tnQ (aH7 ta tnQ).2 + 1, 0) := if_pos ⟨hz7, by rw [← hbq.2]; omega⟩
                  refine lv_aload_n hx hb dX11_house_210 rfl (lv_at hl 1 rfl) ?_
                  refine lv_aload_n hx hb dX11_house_211 rfl (lv_at hl 1 rfl) ?_
                  refine va_get (D := D) (ci := 11) (v := .int (nI (blk ta tnQ c6Q))) (C := RX11) (T := TX11) (N := 22) hx hb hts iX11 hown hK.1 hP 0 rfl rfl 14 (by decide) (hts _ m_595) (fun _ h9 => h9) rfl dX11_house_212 ?_
                  have hPc := hP.sub (ws' := [(o, .inr (11, [.ref qj, .ref qt, .ref qf, .ref qp, .int (nI un), .ref qk, .ref qq, .int (nI ku), .int (nI ik), .ref qa, .int (nI tnQ), .int (nI 0), .int (nI la), .int (nI wo), .int (nI (blk ta tnQ c6Q)), .int (nI fb6), .int (nI ft6), .ref qs, .ref ql, .ref qm, .ref qi, .ref qe]))]) [0] rfl
                  have hDc := hD.sub (ws' := [(o, .inr (11, [.ref qj, .ref qt, .ref qf, .ref qp, .int (nI un), .ref qk, .ref qq, .int (nI ku), .int (nI ik), .ref qa, .int (nI tnQ), .int (nI 0), .int (nI la), .int (nI wo), .int (nI (blk ta tnQ c6Q)), .int (nI fb6), .int (nI ft6), .ref qs, .ref ql, .ref qm, .ref qi, .ref qe]))]) [0] (by decide) rfl
                  refine nv_cm0 (wc := [(o, .inr (11, [.ref qj, .ref qt, .ref qf, .ref qp, .int (nI un), .ref qk, .ref qq, .int (nI ku), .int (nI ik), .ref qa, .int (nI tnQ), .int (nI 0), .int (nI la), .int (nI wo), .int (nI (blk ta tnQ c6Q)), .int (nI fb6), .int (nI ft6), .ref qs, .ref ql, .ref qm, .ref qi, .ref qe]))]) (wr := [aN z qj 31 rQ, aN z qa 60 ta, aN z qf 31 (uN (uN (uN (fun _ => 0) 1 (nuV ta tnQ 0)) 2 (nuV ta tnQ c2Q)) 3 0)]) (w1 := [(o, .inr (11, [.ref qj, .ref qt, .ref qf, .ref qp, .int (nI un), .ref qk, .ref qq, .int (nI ku), .int (nI ik), .ref qa, .int (nI tnQ), .int (nI 0), .int (nI la), .int (nI wo), .int (nI (blk ta tnQ c6Q)), .int (nI 1), .int (nI (baF fb6 ft6 (blk ta tnQ c6Q))), .ref qs, .ref ql, .ref qm, .ref qi, .ref qe]))]) (ws1 := [(o, .inr (11, [.ref qj, .ref qt, .ref qf, .ref qp, .int (nI un), .ref qk, .ref qq, .int (nI ku), .int (nI ik), .ref qa, .int (nI tnQ), .int (nI 0), .int (nI la), .int (nI wo), .int (nI (blk ta tnQ c6Q)), .int (nI 1), .int (nI (baF fb6 ft6 (blk ta tnQ c6Q))), .ref qs, .ref ql, .ref qm, .ref qi, .ref qe])), aN z qj 31 rQ, aN z qa 60 ta, aN z qf 31 (uN (uN (uN (fun _ => 0) 1 (nuV ta tnQ 0)) 2 (nuV ta tnQ c2Q)) 3 0)]) (va_runV (As := [.int (nI (blk ta tnQ c6Q))]) (rest := []) ⟨hx, hb, hml, hown, hts⟩ (c_X11_bad l D z H.size o qj qt qf qp qk qq qa qs ql qm qi qe un ku ik tnQ 0 la wo (blk ta tnQ c6Q) fb6 ft6 (blk ta tnQ c6Q) (by first | assumption | omega)) (cwV 1 hts (gV m_607 m_608 m_609 m_541 m_596) rfl rfl rfl ⟨rfl, hd_X11_bad⟩ ⟨Nat.le_of_ble_eq_true rfl, Nat.le_of_ble_eq_true rfl⟩) (nv_preMV (ci := 11) (q0 := 0) hK hPc hDc trivial rfl rfl) rfl rfl hl.1 rfl (lv_room (Nat.le_of_ble_eq_true rfl)) dX11_house_215 ⟨by decide, by decide⟩) hP hD hS hA [0] [1, 2, 3] [3, 0, 1, 2] rfl rfl (by decide) (by decide) rfl (by decide) rfl (by decide) (fun H locs hP hD hS hE215 hz215 hf215 => ?_)
                  clear hPc hDc
                  clear hf215 hz215
                  have eB : baF fb6 ft6 (blk ta tnQ c6Q) = blk ta tnQ c6Q := if_pos hc196
                  rw [eB] at hP hD
                  have hP : va_P D vwCl [(o, .inr (11, [.ref qj, .ref qt, .ref qf, .ref qp, .int (nI un), .ref qk, .ref qq, .int (nI ku), .int (nI ik), .ref qa, .int (nI tnQ), .int (nI 0), .int (nI la), .int (nI wo), .int (nI (blk ta tnQ c6Q)), .int (nI 1), .int (nI (blk ta tnQ c6Q)), .ref qs, .ref ql, .ref qm, .ref qi, .ref qe])), aN z qj 31 rQ, aN z qa 60 ta, aN z qf 31 (uN (uN (uN (fun _ => 0) 1 (nuV ta tnQ 0)) 2 (nuV ta tnQ c2Q)) 3 0)] H := hP
                  have hD : va_D A [(o, .inr (11, [.ref qj, .ref qt, .ref qf, .ref qp, .int (nI un), .ref qk, .ref qq, .int (nI ku), .int (nI ik), .ref qa, .int (nI tnQ), .int (nI 0), .int (nI la), .int (nI wo), .int (nI (blk ta tnQ c6Q)), .int (nI 1), .int (nI (blk ta tnQ c6Q)), .ref qs, .ref ql, .ref qm, .ref qi, .ref qe])), aN z qj 31 rQ, aN z qa 60 ta, aN z qf 31 (uN (uN (uN (fun _ => 0) 1 (nuV ta tnQ 0)) 2 (nuV ta tnQ c2Q)) 3 0)] := hD
                  obtain ⟨e1, e2, rfl⟩ := hrel.1 (by rw [eS]; exact Nat.succ_ne_zero _)
                  obtain rfl := e1.symm
                  obtain rfl := e2.symm
                  rw [eS]
                  refine lv_aload_n hx hb dX11_house_218 rfl (lv_at hl 1 rfl) ?_
                  refine va_get (D := D) (ci := 11) (v := .int (nI (blk ta tnQ c6Q))) (C := RX11) (T := TX11) (N := 22) hx hb hts iX11 hown hK.1 hP 0 rfl rfl 16 (by decide) (hts _ m_598) (fun _ h9 => h9) rfl dX11_house_219 ?_
                  refine lv_aload_n hx hb dX11_house_222 rfl (lv_at hl 1 rfl) ?_
                  refine va_get (D := D) (ci := 11) (v := .int (nI tnQ)) (C := RX11) (T := TX11) (N := 22) hx hb hts iX11 hown hK.1 hP 0 rfl rfl 10 (by decide) (hts _ m_593) (fun _ h9 => h9) rfl dX11_house_223 ?_
                  refine nv_le (tgt := 236) hx hb (by omega) (by omega) dX11_house_226 (by decide) (fun hc226 => ?_) (fun hc226 => ?_)
                  · refine lv_aload_n hx hb dX11_house_236 rfl (lv_at hl 1 rfl) ?_
                    refine va_get (D := D) (ci := 11) (v := .int (nI (blk ta tnQ c6Q))) (C := RX11) (T := TX11) (N := 22) hx hb hts iX11 hown hK.1 hP 0 rfl rfl 16 (by decide) (hts _ m_598) (fun _ h9 => h9) rfl dX11_house_237 ?_
                    refine lv_istore_n (lv' := [(2, .int (nI (blk ta tnQ c6Q))), (1, .int (nI 0)), (0, .ref o)]) hx hb dX11_house_240 rfl hl (by decide) rfl (fun ls hl => ?_)
                    refine lv_aload_n hx hb dX11_house_241 rfl (lv_at hl 2 rfl) ?_
                    refine lv_iconst (v := nI 0) hx hb dX11_house_242 (by decide +kernel) ?_
                    refine va_put (D := D) (ci := 11) (v := .int (nI 0)) (ty := tyX11 10) (C := RX11) (T := TX11) (N := 22) hx hb hts iX11 tyX11 tyX11_ok nmX11 hown hK.1 hP hD hS 0 rfl rfl 10 (by decide) (hts _ m_593) (fun _ h9 => h9) rfl (tyX11_ok 10 (by decide)) rfl rfl (Nat.le_of_ble_eq_true rfl) dX11_house_243 (fun H locs hP hD hS => ?_)
                    have hP : va_P D vwCl [(o, .inr (11, [.ref qj, .ref qt, .ref qf, .ref qp, .int (nI un), .ref qk, .ref qq, .int (nI ku), .int (nI ik), .ref qa, .int (nI 0), .int (nI 0), .int (nI la), .int (nI wo), .int (nI (blk ta tnQ c6Q)), .int (nI 1), .int (nI (blk ta tnQ c6Q)), .ref qs, .ref ql, .ref qm, .ref qi, .ref qe])), aN z qj 31 rQ, aN z qa 60 ta, aN z qf 31 (uN (uN (uN (fun _ => 0) 1 (nuV ta tnQ 0)) 2 (nuV ta tnQ c2Q)) 3 0)] H := hP
                    have hD : va_D A [(o, .inr (11, [.ref qj, .ref qt, .ref qf, .ref qp, .int (nI un), .ref qk, .ref qq, .int (nI ku), .int (nI ik), .ref qa, .int (nI 0), .int (nI 0), .int (nI la), .int (nI wo), .int (nI (blk ta tnQ c6Q)), .int (nI 1), .int (nI (blk ta tnQ c6Q)), .ref qs, .ref ql, .ref qm, .ref qi, .ref qe])), aN z qj 31 rQ, aN z qa 60 ta, aN z qf 31 (uN (uN (uN (fun _ => 0) 1 (nuV ta tnQ 0)) 2 (nuV ta tnQ c2Q)) 3 0)] := hD
                    refine lv_aload_n hx hb dX11_house_246 rfl (lv_at hl 2 rfl) ?_
                    refine va_get (D := D) (ci := 11) (v := .int (nI 1)) (C := RX11) (T := TX11) (N := 22) hx hb hts iX11 hown hK.1 hP 0 rfl rfl 15 (by decide) (hts _ m_597) (fun _ h9 => h9) rfl dX11_house_247 ?_
                    refine nv_ifeq (tgt := 258) hx hb (by omega) dX11_house_250 (by decide) (fun hc250 => ?_) (fun hc250 => ?_)
                    · (exfalso; omega)
                    · refine lv_bipush (v := (-20)) hx hb dX11_house_253 (by decide +kernel) ?_
                      refine lv_iload_n hx hb dX11_house_255 rfl (lv_at hl 0 rfl) ?_
                      refine lv_isub hx hb dX11_house_256 ?_
                      exact nv_xi hx hb hr hlocks hS dX11_house_257 (blk ta tnQ c6Q, 1, blk ta tnQ c6Q, uN (uN (uN (fun _ => 0) 1 (nuV ta tnQ 0)) 2 (nuV ta tnQ c2Q)) 3 0) hP trivial (by rw [pr_1, hbq.2])
                  · (exfalso; omega)
            · (exfalso; omega)
          · exact absurd (aChr_0 (hs6.fa.2.mp hc116)) hz5
      · have hz2 : (aH2 ta tnQ).1 ≠ 0 := fun z9 => hc64 (hs2.fa.2.mpr z9)
        have hs3 : simM ta tnQ c2Q fb2 ft2 (aH3 ta tnQ) := by rw [show aH3 ta tnQ = aH2 ta tnQ from if_neg hz2]; exact hs2
        have hz3 : (aH3 ta tnQ).1 ≠ 0 := fun z9 => hz2 (aNum_0 z9)
        have hb3 : c2Q ≤ 69 := by omega
        refine lv_iconst (v := nI 0) hx hb dX11_house_67 (by decide +kernel) ?_
        refine lv_goto (tgt := 77) hx hb dX11_house_68 (by decide) ?_
        refine nv_ast hx hb hK hP hD hS 3 rfl (by omega) (by decide) dX11_house_77 (fun H locs hP hD hS => ?_)
        have hP : va_P D vwCl [(o, .inr (11, [.ref qj, .ref qt, .ref qf, .ref qp, .int (nI un), .ref qk, .ref qq, .int (nI ku), .int (nI ik), .ref qa, .int (nI tnQ), .int (nI 0), .int (nI la), .int (nI wo), .int (nI c2Q), .int (nI fb2), .int (nI ft2), .ref qs, .ref ql, .ref qm, .ref qi, .ref qe])), aN z qj 31 rQ, aN z qa 60 ta, aN z qf 31 (uN (uN (fun _ => 0) 1 (nuV ta tnQ 0)) 2 0)] H := hP
        have hD : va_D A [(o, .inr (11, [.ref qj, .ref qt, .ref qf, .ref qp, .int (nI un), .ref qk, .ref qq, .int (nI ku), .int (nI ik), .ref qa, .int (nI tnQ), .int (nI 0), .int (nI la), .int (nI wo), .int (nI c2Q), .int (nI fb2), .int (nI ft2), .ref qs, .ref ql, .ref qm, .ref qi, .ref qe])), aN z qj 31 rQ, aN z qa 60 ta, aN z qf 31 (uN (uN (fun _ => 0) 1 (nuV ta tnQ 0)) 2 0)] := hD
        refine lv_aload_n hx hb dX11_house_78 rfl (lv_at hl 0 rfl) ?_
        refine lv_bipush (v := nI 44) hx hb dX11_house_79 (by decide +kernel) ?_
        obtain ⟨fb4, ft4, hmu4, hfb4⟩ := mu_ex (fb2 = 0 ∧ isC ta tnQ c2Q 44) fb2 ft2 (blk ta tnQ c2Q) (by omega)
        have hPc := hP.sub (ws' := [(o, .inr (11, [.ref qj, .ref qt, .ref qf, .ref qp, .int (nI un), .ref qk, .ref qq, .int (nI ku), .int (nI ik), .ref qa, .int (nI tnQ), .int (nI 0), .int (nI la), .int (nI wo), .int (nI c2Q), .int (nI fb2), .int (nI ft2), .ref qs, .ref ql, .ref qm, .ref qi, .ref qe])), aN z qa 60 ta]) [0, 2] rfl
        have hDc := hD.sub (ws' := [(o, .inr (11, [.ref qj, .ref qt, .ref qf, .ref qp, .int (nI un), .ref qk, .ref qq, .int (nI ku), .int (nI ik), .ref qa, .int (nI tnQ), .int (nI 0), .int (nI la), .int (nI wo), .int (nI c2Q), .int (nI fb2), .int (nI ft2), .ref qs, .ref ql, .ref qm, .ref qi, .ref qe])), aN z qa 60 ta]) [0, 2] (by decide) rfl
        refine nv_cm0 (wc := [(o, .inr (11, [.ref qj, .ref qt, .ref qf, .ref qp, .int (nI un), .ref qk, .ref qq, .int (nI ku), .int (nI ik), .ref qa, .int (nI tnQ), .int (nI 0), .int (nI la), .int (nI wo), .int (nI c2Q), .int (nI fb2), .int (nI ft2), .ref qs, .ref ql, .ref qm, .ref qi, .ref qe])), aN z qa 60 ta]) (wr := [aN z qj 31 rQ, aN z qf 31 (uN (uN (fun _ => 0) 1 (nuV ta tnQ 0)) 2 0)]) (w1 := [(o, .inr (11, [.ref qj, .ref qt, .ref qf, .ref qp, .int (nI un), .ref qk, .ref qq, .int (nI ku), .int (nI ik), .ref qa, .int (nI tnQ), .int (nI 0), .int (nI la), .int (nI wo), .int (nI (blk ta tnQ c2Q + 1)), .int (nI fb4), .int (nI ft4), .ref qs, .ref ql, .ref qm, .ref qi, .ref qe])), aN z qa 60 ta]) (ws1 := [(o, .inr (11, [.ref qj, .ref qt, .ref qf, .ref qp, .int (nI un), .ref qk, .ref qq, .int (nI ku), .int (nI ik), .ref qa, .int (nI tnQ), .int (nI 0), .int (nI la), .int (nI wo), .int (nI (blk ta tnQ c2Q + 1)), .int (nI fb4), .int (nI ft4), .ref qs, .ref ql, .ref qm, .ref qi, .ref qe])), aN z qj 31 rQ, aN z qa 60 ta, aN z qf 31 (uN (uN (fun _ => 0) 1 (nuV ta tnQ 0)) 2 0)]) (va_runV (As := [.int (nI 44)]) (rest := []) ⟨hx, hb, hml, hown, hts⟩ (c_X11_must l D z H.size o qj qt qf qp qk qq qa qs ql qm qi qe un ku ik tnQ 0 la wo c2Q fb2 ft2 ta 44 fb4 ft4 (by first | assumption | omega) (by first | assumption | omega) (by first | assumption | omega) (by first | assumption | omega) hmu4) (cwV 1 hts (gV m_625 m_626 m_627 m_541 m_603) rfl rfl rfl ⟨rfl, hd_X11_must⟩ ⟨Nat.le_of_ble_eq_true rfl, Nat.le_of_ble_eq_true rfl⟩) (nv_preMV (ci := 11) (q0 := 0) hK hPc hDc trivial rfl rfl) rfl rfl hl.1 rfl (lv_room (Nat.le_of_ble_eq_true rfl)) dX11_house_81 ⟨by decide, by decide⟩) hP hD hS hA [0, 2] [1, 3] [2, 0, 3, 1] rfl rfl (by decide) (by decide) rfl (by decide) rfl (by decide) (fun H locs hP hD hS hE81 hz81 hf81 => ?_)
        clear hPc hDc
        clear hf81 hz81
        have hs4 : simM ta tnQ _ fb4 ft4 (aH4 ta tnQ) := sim_must hs3 hmu4
        obtain ⟨c4Q, hc4⟩ : ∃ y9 : Nat, y9 = blk ta tnQ c2Q + 1 := ⟨_, rfl⟩
        rw [← hc4] at hP hD hs4
        have hP : va_P D vwCl [(o, .inr (11, [.ref qj, .ref qt, .ref qf, .ref qp, .int (nI un), .ref qk, .ref qq, .int (nI ku), .int (nI ik), .ref qa, .int (nI tnQ), .int (nI 0), .int (nI la), .int (nI wo), .int (nI c4Q), .int (nI fb4), .int (nI ft4), .ref qs, .ref ql, .ref qm, .ref qi, .ref qe])), aN z qj 31 rQ, aN z qa 60 ta, aN z qf 31 (uN (uN (fun _ => 0) 1 (nuV ta tnQ 0)) 2 0)] H := hP
        have hD : va_D A [(o, .inr (11, [.ref qj, .ref qt, .ref qf, .ref qp, .int (nI un), .ref qk, .ref qq, .int (nI ku), .int (nI ik), .ref qa, .int (nI tnQ), .int (nI 0), .int (nI la), .int (nI wo), .int (nI c4Q), .int (nI fb4), .int (nI ft4), .ref qs, .ref ql, .ref qm, .ref qi, .ref qe])), aN z qj 31 rQ, aN z qa 60 ta, aN z qf 31 (uN (uN (fun _ => 0) 1 (nuV ta tnQ 0)) 2 0)] := hD
        have hb4 : c4Q ≤ 70 := by omega
        have hbl4 : blk ta tnQ c4Q ≤ 70 := blk_b hb4 (by omega)
        have hf4 := hs4.fa.1
        refine lv_aload_n hx hb dX11_house_84 rfl (lv_at hl 0 rfl) ?_
        refine va_get (D := D) (ci := 11) (v := .ref qf) (C := RX11) (T := TX11) (N := 22) hx hb hts iX11 hown hK.1 hP 0 rfl rfl 2 (by decide) (hts _ m_525) (fun _ h9 => h9) rfl dX11_house_85 ?_
        refine lv_iconst (v := nI 3) hx hb dX11_house_88 (by decide +kernel) ?_
        refine lv_aload_n hx hb dX11_house_89 rfl (lv_at hl 0 rfl) ?_
        refine va_get (D := D) (ci := 11) (v := .int (nI fb4)) (C := RX11) (T := TX11) (N := 22) hx hb hts iX11 hown hK.1 hP 0 rfl rfl 15 (by decide) (hts _ m_597) (fun _ h9 => h9) rfl dX11_house_90 ?_
        refine nv_ifeq (tgt := 100) hx hb (by omega) dX11_house_93 (by decide) (fun hc93 => ?_) (fun hc93 => ?_)
        · exact absurd (aChr_0 (hs4.fa.2.mp hc93)) hz3
        · have hz4 : (aH4 ta tnQ).1 ≠ 0 := fun z9 => hc93 (hs4.fa.2.mpr z9)
          have hs5 : simM ta tnQ c4Q fb4 ft4 (aH5 ta tnQ) := by rw [show aH5 ta tnQ = aH4 ta tnQ from if_neg hz4]; exact hs4
          have hz5 : (aH5 ta tnQ).1 ≠ 0 := fun z9 => hz4 (aDig_0 z9)
          have hb5 : c4Q ≤ 71 := by omega
          refine lv_iconst (v := nI 0) hx hb dX11_house_96 (by decide +kernel) ?_
          refine lv_goto (tgt := 105) hx hb dX11_house_97 (by decide) ?_
          refine nv_ast hx hb hK hP hD hS 3 rfl (by omega) (by decide) dX11_house_105 (fun H locs hP hD hS => ?_)
          have hP : va_P D vwCl [(o, .inr (11, [.ref qj, .ref qt, .ref qf, .ref qp, .int (nI un), .ref qk, .ref qq, .int (nI ku), .int (nI ik), .ref qa, .int (nI tnQ), .int (nI 0), .int (nI la), .int (nI wo), .int (nI c4Q), .int (nI fb4), .int (nI ft4), .ref qs, .ref ql, .ref qm, .ref qi, .ref qe])), aN z qj 31 rQ, aN z qa 60 ta, aN z qf 31 (uN (uN (uN (fun _ => 0) 1 (nuV ta tnQ 0)) 2 0) 3 0)] H := hP
          have hD : va_D A [(o, .inr (11, [.ref qj, .ref qt, .ref qf, .ref qp, .int (nI un), .ref qk, .ref qq, .int (nI ku), .int (nI ik), .ref qa, .int (nI tnQ), .int (nI 0), .int (nI la), .int (nI wo), .int (nI c4Q), .int (nI fb4), .int (nI ft4), .ref qs, .ref ql, .ref qm, .ref qi, .ref qe])), aN z qj 31 rQ, aN z qa 60 ta, aN z qf 31 (uN (uN (uN (fun _ => 0) 1 (nuV ta tnQ 0)) 2 0) 3 0)] := hD
          refine lv_aload_n hx hb dX11_house_106 rfl (lv_at hl 0 rfl) ?_
          refine lv_bipush (v := nI 59) hx hb dX11_house_107 (by decide +kernel) ?_
          obtain ⟨fb6, ft6, hmu6, hfb6⟩ := mu_ex (fb4 = 0 ∧ isC ta tnQ c4Q 59) fb4 ft4 (blk ta tnQ c4Q) (by omega)
          have hPc := hP.sub (ws' := [(o, .inr (11, [.ref qj, .ref qt, .ref qf, .ref qp, .int (nI un), .ref qk, .ref qq, .int (nI ku), .int (nI ik), .ref qa, .int (nI tnQ), .int (nI 0), .int (nI la), .int (nI wo), .int (nI c4Q), .int (nI fb4), .int (nI ft4), .ref qs, .ref ql, .ref qm, .ref qi, .ref qe])), aN z qa 60 ta]) [0, 2] rfl
          have hDc := hD.sub (ws' := [(o, .inr (11, [.ref qj, .ref qt, .ref qf, .ref qp, .int (nI un), .ref qk, .ref qq, .int (nI ku), .int (nI ik), .ref qa, .int (nI tnQ), .int (nI 0), .int (nI la), .int (nI wo), .int (nI c4Q), .int (nI fb4), .int (nI ft4), .ref qs, .ref ql, .ref qm, .ref qi, .ref qe])), aN z qa 60 ta]) [0, 2] (by decide) rfl
          refine nv_cm0 (wc := [(o, .inr (11, [.ref qj, .ref qt, .ref qf, .ref qp, .int (nI un), .ref qk, .ref qq, .int (nI ku), .int (nI ik), .ref qa, .int (nI tnQ), .int (nI 0), .int (nI la), .int (nI wo), .int (nI c4Q), .int (nI fb4), .int (nI ft4), .ref qs, .ref ql, .ref qm, .ref qi, .ref qe])), aN z qa 60 ta]) (wr := [aN z qj 31 rQ, aN z qf 31 (uN (uN (uN (fun _ => 0) 1 (nuV ta tnQ 0)) 2 0) 3 0)]) (w1 := [(o, .inr (11, [.ref qj, .ref qt, .ref qf, .ref qp, .int (nI un), .ref qk, .ref qq, .int (nI ku), .int (nI ik), .ref qa, .int (nI tnQ), .int (nI 0), .int (nI la), .int (nI wo), .int (nI (blk ta tnQ c4Q + 1)), .int (nI fb6), .int (nI ft6), .ref qs, .ref ql, .ref qm, .ref qi, .ref qe])), aN z qa 60 ta]) (ws1 := [(o, .inr (11, [.ref qj, .ref qt, .ref qf, .ref qp, .int (nI un), .ref qk, .ref qq, .int (nI ku), .int (nI ik), .ref qa, .int (nI tnQ), .int (nI 0), .int (nI la), .int (nI wo), .int (nI (blk ta tnQ c4Q + 1)), .int (nI fb6), .int (nI ft6), .ref qs, .ref ql, .ref qm, .ref qi, .ref qe])), aN z qj 31 rQ, aN z qa 60 ta, aN z qf 31 (uN (uN (uN (fun _ => 0) 1 (nuV ta tnQ 0)) 2 0) 3 0)]) (va_runV (As := [.int (nI 59)]) (rest := []) ⟨hx, hb, hml, hown, hts⟩ (c_X11_must l D z H.size o qj qt qf qp qk qq qa qs ql qm qi qe un ku ik tnQ 0 la wo c4Q fb4 ft4 ta 59 fb6 ft6 (by first | assumption | omega) (by first | assumption | omega) (by first | assumption | omega) (by first | assumption | omega) hmu6) (cwV 1 hts (gV m_625 m_626 m_627 m_541 m_603) rfl rfl rfl ⟨rfl, hd_X11_must⟩ ⟨Nat.le_of_ble_eq_true rfl, Nat.le_of_ble_eq_true rfl⟩) (nv_preMV (ci := 11) (q0 := 0) hK hPc hDc trivial rfl rfl) rfl rfl hl.1 rfl (lv_room (Nat.le_of_ble_eq_true rfl)) dX11_house_109 ⟨by decide, by decide⟩) hP hD hS hA [0, 2] [1, 3] [2, 0, 3, 1] rfl rfl (by decide) (by decide) rfl (by decide) rfl (by decide) (fun H locs hP hD hS hE109 hz109 hf109 => ?_)
          clear hPc hDc
          clear hf109 hz109
          have hs6 : simM ta tnQ _ fb6 ft6 (aH6 ta tnQ) := sim_must hs5 hmu6
          obtain ⟨c6Q, hc6⟩ : ∃ y9 : Nat, y9 = blk ta tnQ c4Q + 1 := ⟨_, rfl⟩
          rw [← hc6] at hP hD hs6
          have hP : va_P D vwCl [(o, .inr (11, [.ref qj, .ref qt, .ref qf, .ref qp, .int (nI un), .ref qk, .ref qq, .int (nI ku), .int (nI ik), .ref qa, .int (nI tnQ), .int (nI 0), .int (nI la), .int (nI wo), .int (nI c6Q), .int (nI fb6), .int (nI ft6), .ref qs, .ref ql, .ref qm, .ref qi, .ref qe])), aN z qj 31 rQ, aN z qa 60 ta, aN z qf 31 (uN (uN (uN (fun _ => 0) 1 (nuV ta tnQ 0)) 2 0) 3 0)] H := hP
          have hD : va_D A [(o, .inr (11, [.ref qj, .ref qt, .ref qf, .ref qp, .int (nI un), .ref qk, .ref qq, .int (nI ku), .int (nI ik), .ref qa, .int (nI tnQ), .int (nI 0), .int (nI la), .int (nI wo), .int (nI c6Q), .int (nI fb6), .int (nI ft6), .ref qs, .ref ql, .ref qm, .ref qi, .ref qe])), aN z qj 31 rQ, aN z qa 60 ta, aN z qf 31 (uN (uN (uN (fun _ => 0) 1 (nuV ta tnQ 0)) 2 0) 3 0)] := hD
          have hb6 : c6Q ≤ 72 := by omega
          have hbl6 : blk ta tnQ c6Q ≤ 72 := blk_b hb6 (by omega)
          have hf6 := hs6.fa.1
          refine lv_aload_n hx hb dX11_house_112 rfl (lv_at hl 0 rfl) ?_
          refine va_get (D := D) (ci := 11) (v := .int (nI fb6)) (C := RX11) (T := TX11) (N := 22) hx hb hts iX11 hown hK.1 hP 0 rfl rfl 15 (by decide) (hts _ m_597) (fun _ h9 => h9) rfl dX11_house_113 ?_
          refine nv_ifne (tgt := 123) hx hb (by omega) dX11_house_116 (by decide) (fun hc116 => ?_) (fun hc116 => ?_)
          · have hz6 : (aH6 ta tnQ).1 ≠ 0 := fun z9 => hc116 (hs6.fa.2.mpr z9)
            have e7 : aH7 ta tnQ = aH6 ta tnQ := if_neg hz6
            have hsF : simM ta tnQ c6Q fb6 ft6 (aH7 ta tnQ) := by rw [e7]; exact hs6
            have hrowF : (aH7 ta tnQ).1 = 0 → (uN (uN (uN (fun _ => 0) 1 (nuV ta tnQ 0)) 2 0) 3 0) = aHR ta tnQ := fun z9 => absurd (by rw [← e7]; exact z9) hz6
            have hbF : c6Q ≤ 900 := by omega
            refine lv_iconst (v := nI 0) hx hb dX11_house_123 (by decide +kernel) ?_
            refine lv_istore_n (lv' := [(1, .int (nI 0)), (0, .ref o)]) hx hb dX11_house_124 rfl hl (by decide) rfl (fun ls hl => ?_)
            refine lv_iload_n hx hb dX11_house_125 rfl (lv_at hl 0 rfl) ?_
            refine nv_ifeq (tgt := 188) hx hb (by omega) dX11_house_126 (by decide) (fun hc126 => ?_) (fun hc126 => ?_)
            · have hfF := hsF.fa.1
              have hblF : blk ta tnQ c6Q ≤ 900 := blk_b hbF (by omega)
              refine lv_aload_n hx hb dX11_house_188 rfl (lv_at hl 1 rfl) ?_
              have hPc := hP.sub (ws' := [(o, .inr (11, [.ref qj, .ref qt, .ref qf, .ref qp, .int (nI un), .ref qk, .ref qq, .int (nI ku), .int (nI ik), .ref qa, .int (nI tnQ), .int (nI 0), .int (nI la), .int (nI wo), .int (nI c6Q), .int (nI fb6), .int (nI ft6), .ref qs, .ref ql, .ref qm, .ref qi, .ref qe])), aN z qa 60 ta]) [0, 2] rfl
              have hDc := hD.sub (ws' := [(o, .inr (11, [.ref qj, .ref qt, .ref qf, .ref qp, .int (nI un), .ref qk, .ref qq, .int (nI ku), .int (nI ik), .ref qa, .int (nI tnQ), .int (nI 0), .int (nI la), .int (nI wo), .int (nI c6Q), .int (nI fb6), .int (nI ft6), .ref qs, .ref ql, .ref qm, .ref qi, .ref qe])), aN z qa 60 ta]) [0, 2] (by decide) rfl
              refine nv_cm0 (wc := [(o, .inr (11, [.ref qj, .ref qt, .ref qf, .ref qp, .int (nI un), .ref qk, .ref qq, .int (nI ku), .int (nI ik), .ref qa, .int (nI tnQ), .int (nI 0), .int (nI la), .int (nI wo), .int (nI c6Q), .int (nI fb6), .int (nI ft6), .ref qs, .ref ql, .ref qm, .ref qi, .ref qe])), aN z qa 60 ta]) (wr := [aN z qj 31 rQ, aN z qf 31 (uN (uN (uN (fun _ => 0) 1 (nuV ta tnQ 0)) 2 0) 3 0)]) (w1 := [(o, .inr (11, [.ref qj, .ref qt, .ref qf, .ref qp, .int (nI un), .ref qk, .ref qq, .int (nI ku), .int (nI ik), .ref qa, .int (nI tnQ), .int (nI 0), .int (nI la), .int (nI wo), .int (nI (blk ta tnQ c6Q)), .int (nI fb6), .int (nI ft6), .ref qs, .ref ql, .ref qm, .ref qi, .ref qe])), aN z qa 60 ta]) (ws1 := [(o, .inr (11, [.ref qj, .ref qt, .ref qf, .ref qp, .int (nI un), .ref qk, .ref qq, .int (nI ku), .int (nI ik), .ref qa, .int (nI tnQ), .int (nI 0), .int (nI la), .int (nI wo), .int (nI (blk ta tnQ c6Q)), .int (nI fb6), .int (nI ft6), .ref qs, .ref ql, .ref qm, .ref qi, .ref qe])), aN z qj 31 rQ, aN z qa 60 ta, aN z qf 31 (uN (uN (uN (fun _ => 0) 1 (nuV ta tnQ 0)) 2 0) 3 0)]) (va_runV (As := []) (rest := []) ⟨hx, hb, hml, hown, hts⟩ (c_X11_blanks l D z H.size o qj qt qf qp qk qq qa qs ql qm qi qe un ku ik tnQ 0 la wo c6Q fb6 ft6 ta (by first | assumption | omega) (by first | assumption | omega)) (cwV 0 hts (gV m_600 m_601 m_602 m_541 m_594) rfl rfl rfl ⟨rfl, hd_X11_blanks⟩ ⟨Nat.le_of_ble_eq_true rfl, Nat.le_of_ble_eq_true rfl⟩) (nv_preMV (ci := 11) (q0 := 0) hK hPc hDc trivial rfl rfl) rfl rfl hl.1 rfl (lv_room (Nat.le_of_ble_eq_true rfl)) dX11_house_189 ⟨by decide, by decide⟩) hP hD hS hA [0, 2] [1, 3] [2, 0, 3, 1] rfl rfl (by decide) (by decide) rfl (by decide) rfl (by decide) (fun H locs hP hD hS hE189 hz189 hf189 => ?_)
              clear hPc hDc
              clear hf189 hz189
              refine lv_aload_n hx hb dX11_house_192 rfl (lv_at hl 1 rfl) ?_
              refine va_get (D := D) (ci := 11) (v := .int (nI fb6)) (C := RX11) (T := TX11) (N := 22) hx hb hts iX11 hown hK.1 hP 0 rfl rfl 15 (by decide) (hts _ m_597) (fun _ h9 => h9) rfl dX11_house_193 ?_
              refine nv_ifne (tgt := 218) hx hb (by omega) dX11_house_196 (by decide) (fun hc196 => ?_) (fun hc196 => ?_)
              · have hz7 : (aH7 ta tnQ).1 ≠ 0 := fun z9 => hc196 (hsF.fa.2.mpr z9)
                have eS : aHS ta tnQ = aH7 ta tnQ := if_neg (fun z9 => hz7 z9.1)
                have hle7 := hsF.2.2
                have hft7 := (hsF.2.1 hz7).2
                obtain ⟨e1, e2, rfl⟩ := hrel.1 (by rw [eS]; exact hz7)
                obtain rfl := e1.symm
                obtain rfl := e2.symm
                rw [eS]
                refine lv_aload_n hx hb dX11_house_218 rfl (lv_at hl 1 rfl) ?_
                refine va_get (D := D) (ci := 11) (v := .int (nI ft6)) (C := RX11) (T := TX11) (N := 22) hx hb hts iX11 hown hK.1 hP 0 rfl rfl 16 (by decide) (hts _ m_598) (fun _ h9 => h9) rfl dX11_house_219 ?_
                refine lv_aload_n hx hb dX11_house_222 rfl (lv_at hl 1 rfl) ?_
                refine va_get (D := D) (ci := 11) (v := .int (nI tnQ)) (C := RX11) (T := TX11) (N := 22) hx hb hts iX11 hown hK.1 hP 0 rfl rfl 10 (by decide) (hts _ m_593) (fun _ h9 => h9) rfl dX11_house_223 ?_
                refine nv_le (tgt := 236) hx hb (by omega) (by omega) dX11_house_226 (by decide) (fun hc226 => ?_) (fun hc226 => ?_)
                · refine lv_aload_n hx hb dX11_house_236 rfl (lv_at hl 1 rfl) ?_
                  refine va_get (D := D) (ci := 11) (v := .int (nI ft6)) (C := RX11) (T := TX11) (N := 22) hx hb hts iX11 hown hK.1 hP 0 rfl rfl 16 (by decide) (hts _ m_598) (fun _ h9 => h9) rfl dX11_house_237 ?_
                  refine lv_istore_n (lv' := [(2, .int (nI ft6)), (1, .int (nI 0)), (0, .ref o)]) hx hb dX11_house_240 rfl hl (by decide) rfl (fun ls hl => ?_)
                  refine lv_aload_n hx hb dX11_house_241 rfl (lv_at hl 2 rfl) ?_
                  refine lv_iconst (v := nI 0) hx hb dX11_house_242 (by decide +kernel) ?_
                  refine va_put (D := D) (ci := 11) (v := .int (nI 0)) (ty := tyX11 10) (C := RX11) (T := TX11) (N := 22) hx hb hts iX11 tyX11 tyX11_ok nmX11 hown hK.1 hP hD hS 0 rfl rfl 10 (by decide) (hts _ m_593) (fun _ h9 => h9) rfl (tyX11_ok 10 (by decide)) rfl rfl (Nat.le_of_ble_eq_true rfl) dX11_house_243 (fun H locs hP hD hS => ?_)
                  have hP : va_P D vwCl [(o, .inr (11, [.ref qj, .ref qt, .ref qf, .ref qp, .int (nI un), .ref qk, .ref qq, .int (nI ku), .int (nI ik), .ref qa, .int (nI 0), .int (nI 0), .int (nI la), .int (nI wo), .int (nI (blk ta tnQ c6Q)), .int (nI fb6), .int (nI ft6), .ref qs, .ref ql, .ref qm, .ref qi, .ref qe])), aN z qj 31 rQ, aN z qa 60 ta, aN z qf 31 (uN (uN (uN (fun _ => 0) 1 (nuV ta tnQ 0)) 2 0) 3 0)] H := hP
                  have hD : va_D A [(o, .inr (11, [.ref qj, .ref qt, .ref qf, .ref qp, .int (nI un), .ref qk, .ref qq, .int (nI ku), .int (nI ik), .ref qa, .int (nI 0), .int (nI 0), .int (nI la), .int (nI wo), .int (nI (blk ta tnQ c6Q)), .int (nI fb6), .int (nI ft6), .ref qs, .ref ql, .ref qm, .ref qi, .ref qe])), aN z qj 31 rQ, aN z qa 60 ta, aN z qf 31 (uN (uN (uN (fun _ => 0) 1 (nuV ta tnQ 0)) 2 0) 3 0)] := hD
                  refine lv_aload_n hx hb dX11_house_246 rfl (lv_at hl 2 rfl) ?_
                  refine va_get (D := D) (ci := 11) (v := .int (nI fb6)) (C := RX11) (T := TX11) (N := 22) hx hb hts iX11 hown hK.1 hP 0 rfl rfl 15 (by decide) (hts _ m_597) (fun _ h9 => h9) rfl dX11_house_247 ?_
                  refine nv_ifeq (tgt := 258) hx hb (by omega) dX11_house_250 (by decide) (fun hc250 => ?_) (fun hc250 => ?_)
                  · exact absurd hc250 hc196
                  · refine lv_bipush (v := (-20)) hx hb dX11_house_253 (by decide +kernel) ?_
                    refine lv_iload_n hx hb dX11_house_255 rfl (lv_at hl 0 rfl) ?_
                    refine lv_isub hx hb dX11_house_256 ?_
                    exact nv_xi hx hb hr hlocks hS dX11_house_257 (blk ta tnQ c6Q, fb6, ft6, uN (uN (uN (fun _ => 0) 1 (nuV ta tnQ 0)) 2 0) 3 0) hP trivial (by rw [show (aH7 ta tnQ).1 - 1 = ft6 by omega])
                · (exfalso; omega)
              · have hz7 : (aH7 ta tnQ).1 = 0 := hsF.fa.2.mp hc196
                have hbq := sim_blk hsF hz7
                refine lv_aload_n hx hb dX11_house_199 rfl (lv_at hl 1 rfl) ?_
                refine va_get (D := D) (ci := 11) (v := .int (nI (blk ta tnQ c6Q))) (C := RX11) (T := TX11) (N := 22) hx hb hts iX11 hown hK.1 hP 0 rfl rfl 14 (by decide) (hts _ m_595) (fun _ h9 => h9) rfl dX11_house_200 ?_
                refine lv_aload_n hx hb dX11_house_203 rfl (lv_at hl 1 rfl) ?_
                refine va_get (D := D) (ci := 11) (v := .int (nI tnQ)) (C := RX11) (T := TX11) (N := 22) hx hb hts iX11 hown hK.1 hP 0 rfl rfl 10 (by decide) (hts _ m_593) (fun _ h9 => h9) rfl dX11_house_204 ?_
                refine nv_ge (tgt := 218) hx hb (by omega) (by omega) dX11_house_207 (by decide) (fun hc207 => ?_) (fun hc207 => ?_)
                · have eS : aHS ta tnQ = aH7 ta tnQ := if_neg (fun z9 => by have h7 := z9.2; rw [← hbq.2] at h7; omega)
                  refine lv_aload_n hx hb dX11_house_218 rfl (lv_at hl 1 rfl) ?_
                  refine va_get (D := D) (ci := 11) (v := .int (nI ft6)) (C := RX11) (T := TX11) (N := 22) hx hb hts iX11 hown hK.1 hP 0 rfl rfl 16 (by decide) (hts _ m_598) (fun _ h9 => h9) rfl dX11_house_219 ?_
                  refine lv_aload_n hx hb dX11_house_222 rfl (lv_at hl 1 rfl) ?_
                  refine va_get (D := D) (ci := 11) (v := .int (nI tnQ)) (C := RX11) (T := TX11) (N := 22) hx hb hts iX11 hown hK.1 hP 0 rfl rfl 10 (by decide) (hts _ m_593) (fun _ h9 => h9) rfl dX11_house_223 ?_
                  refine lv_icmp_le (tgt := 236) hx hb dX11_house_226 (by decide) (fun hc226 => ?_) (fun hc226 => ?_)
                  · refine lv_aload_n hx hb dX11_house_236 rfl (lv_at hl 1 rfl) ?_
                    refine va_get (D := D) (ci := 11) (v := .int (nI ft6)) (C := RX11) (T := TX11) (N := 22) hx hb hts iX11 hown hK.1 hP 0 rfl rfl 16 (by decide) (hts _ m_598) (fun _ h9 => h9) rfl dX11_house_237 ?_
                    refine lv_istore_n (lv' := [(2, .int (nI ft6)), (1, .int (nI 0)), (0, .ref o)]) hx hb dX11_house_240 rfl hl (by decide) rfl (fun ls hl => ?_)
                    refine lv_aload_n hx hb dX11_house_241 rfl (lv_at hl 2 rfl) ?_
                    refine lv_iconst (v := nI 0) hx hb dX11_house_242 (by decide +kernel) ?_
                    refine va_put (D := D) (ci := 11) (v := .int (nI 0)) (ty := tyX11 10) (C := RX11) (T := TX11) (N := 22) hx hb hts iX11 tyX11 tyX11_ok nmX11 hown hK.1 hP hD hS 0 rfl rfl 10 (by decide) (hts _ m_593) (fun _ h9 => h9) rfl (tyX11_ok 10 (by decide)) rfl rfl (Nat.le_of_ble_eq_true rfl) dX11_house_243 (fun H locs hP hD hS => ?_)
                    have hP : va_P D vwCl [(o, .inr (11, [.ref qj, .ref qt, .ref qf, .ref qp, .int (nI un), .ref qk, .ref qq, .int (nI ku), .int (nI ik), .ref qa, .int (nI 0), .int (nI 0), .int (nI la), .int (nI wo), .int (nI (blk ta tnQ c6Q)), .int (nI fb6), .int (nI ft6), .ref qs, .ref ql, .ref qm, .ref qi, .ref qe])), aN z qj 31 rQ, aN z qa 60 ta, aN z qf 31 (uN (uN (uN (fun _ => 0) 1 (nuV ta tnQ 0)) 2 0) 3 0)] H := hP
                    have hD : va_D A [(o, .inr (11, [.ref qj, .ref qt, .ref qf, .ref qp, .int (nI un), .ref qk, .ref qq, .int (nI ku), .int (nI ik), .ref qa, .int (nI 0), .int (nI 0), .int (nI la), .int (nI wo), .int (nI (blk ta tnQ c6Q)), .int (nI fb6), .int (nI ft6), .ref qs, .ref ql, .ref qm, .ref qi, .ref qe])), aN z qj 31 rQ, aN z qa 60 ta, aN z qf 31 (uN (uN (uN (fun _ => 0) 1 (nuV ta tnQ 0)) 2 0) 3 0)] := hD
                    refine lv_aload_n hx hb dX11_house_246 rfl (lv_at hl 2 rfl) ?_
                    refine va_get (D := D) (ci := 11) (v := .int (nI fb6)) (C := RX11) (T := TX11) (N := 22) hx hb hts iX11 hown hK.1 hP 0 rfl rfl 15 (by decide) (hts _ m_597) (fun _ h9 => h9) rfl dX11_house_247 ?_
                    refine nv_ifeq (tgt := 258) hx hb (by omega) dX11_house_250 (by decide) (fun hc250 => ?_) (fun hc250 => ?_)
                    · obtain ⟨rfl, rfl, rfl⟩ := hrel.2 (by rw [eS]; exact hz7)
                      have eR := hrowF hz7
                      rw [eR] at hP hD
                      have hP : va_P D vwCl [(o, .inr (11, [.ref qj, .ref qt, .ref qf, .ref qp, .int (nI un), .ref qk, .ref qq, .int (nI ku), .int (nI ik), .ref qa, .int (nI 0), .int (nI 0), .int (nI la), .int (nI wo), .int (nI (blk ta tnQ c6Q)), .int (nI fb6), .int (nI ft6), .ref qs, .ref ql, .ref qm, .ref qi, .ref qe])), aN z qj 31 rQ, aN z qa 60 ta, aN z qf 31 (aHR ta tnQ)] H := hP
                      have hD : va_D A [(o, .inr (11, [.ref qj, .ref qt, .ref qf, .ref qp, .int (nI un), .ref qk, .ref qq, .int (nI ku), .int (nI ik), .ref qa, .int (nI 0), .int (nI 0), .int (nI la), .int (nI wo), .int (nI (blk ta tnQ c6Q)), .int (nI fb6), .int (nI ft6), .ref qs, .ref ql, .ref qm, .ref qi, .ref qe])), aN z qj 31 rQ, aN z qa 60 ta, aN z qf 31 (aHR ta tnQ)] := hD
                      refine lv_aload_n hx hb dX11_house_258 rfl (lv_at hl 2 rfl) ?_
                      refine va_get (D := D) (ci := 11) (v := .ref qf) (C := RX11) (T := TX11) (N := 22) hx hb hts iX11 hown hK.1 hP 0 rfl rfl 2 (by decide) (hts _ m_525) (fun _ h9 => h9) rfl dX11_house_259 ?_
                      refine lv_iconst (v := nI 5) hx hb dX11_house_262 (by decide +kernel) ?_
                      refine lv_aload_n hx hb dX11_house_263 rfl (lv_at hl 2 rfl) ?_
                      refine va_get (D := D) (ci := 11) (v := .ref qj) (C := RX11) (T := TX11) (N := 22) hx hb hts iX11 hown hK.1 hP 0 rfl rfl 0 (by decide) (hts _ m_523) (fun _ h9 => h9) rfl dX11_house_264 ?_
                      refine lv_iconst (v := nI 5) hx hb dX11_house_267 (by decide +kernel) ?_
                      refine nv_ald hx hb hK hP 1 rfl (by omega) (by decide) dX11_house_268 ?_
                      refine nv_ast hx hb hK hP hD hS 3 rfl (by omega) (by decide) dX11_house_269 (fun H locs hP hD hS => ?_)
                      have hP : va_P D vwCl [(o, .inr (11, [.ref qj, .ref qt, .ref qf, .ref qp, .int (nI un), .ref qk, .ref qq, .int (nI ku), .int (nI ik), .ref qa, .int (nI 0), .int (nI 0), .int (nI la), .int (nI wo), .int (nI (blk ta tnQ c6Q)), .int (nI fb6), .int (nI ft6), .ref qs, .ref ql, .ref qm, .ref qi, .ref qe])), aN z qj 31 rQ, aN z qa 60 ta, aN z qf 31 (uN (aHR ta tnQ) 5 (rQ 5))] H := hP
                      have hD : va_D A [(o, .inr (11, [.ref qj, .ref qt, .ref qf, .ref qp, .int (nI un), .ref qk, .ref qq, .int (nI ku), .int (nI ik), .ref qa, .int (nI 0), .int (nI 0), .int (nI la), .int (nI wo), .int (nI (blk ta tnQ c6Q)), .int (nI fb6), .int (nI ft6), .ref qs, .ref ql, .ref qm, .ref qi, .ref qe])), aN z qj 31 rQ, aN z qa 60 ta, aN z qf 31 (uN (aHR ta tnQ) 5 (rQ 5))] := hD
                      refine lv_aload_n hx hb dX11_house_270 rfl (lv_at hl 2 rfl) ?_
                      refine va_get (D := D) (ci := 11) (v := .ref qf) (C := RX11) (T := TX11) (N := 22) hx hb hts iX11 hown hK.1 hP 0 rfl rfl 2 (by decide) (hts _ m_525) (fun _ h9 => h9) rfl dX11_house_271 ?_
                      refine lv_aload_n hx hb dX11_house_274 rfl (lv_at hl 2 rfl) ?_
                      refine va_get (D := D) (ci := 11) (v := .ref qj) (C := RX11) (T := TX11) (N := 22) hx hb hts iX11 hown hK.1 hP 0 rfl rfl 0 (by decide) (hts _ m_523) (fun _ h9 => h9) rfl dX11_house_275 ?_
                      have hPc := hP.sub (ws' := [aN z qf 31 (uN (aHR ta tnQ) 5 (rQ 5)), aN z qj 31 rQ]) [3, 1] rfl
                      have hDc := hD.sub (ws' := [aN z qf 31 (uN (aHR ta tnQ) 5 (rQ 5)), aN z qj 31 rQ]) [3, 1] (by decide) rfl
                      refine nv_cm0 (wc := [aN z qf 31 (uN (aHR ta tnQ) 5 (rQ 5)), aN z qj 31 rQ]) (wr := [(o, .inr (11, [.ref qj, .ref qt, .ref qf, .ref qp, .int (nI un), .ref qk, .ref qq, .int (nI ku), .int (nI ik), .ref qa, .int (nI 0), .int (nI 0), .int (nI la), .int (nI wo), .int (nI (blk ta tnQ c6Q)), .int (nI fb6), .int (nI ft6), .ref qs, .ref ql, .ref qm, .ref qi, .ref qe])), aN z qa 60 ta]) (w1 := [aN z qf 31 (uN (aHR ta tnQ) 5 (rQ 5)), aN z qj 31 (uN (aHR ta tnQ) 5 (rQ 5))]) (ws1 := [(o, .inr (11, [.ref qj, .ref qt, .ref qf, .ref qp, .int (nI un), .ref qk, .ref qq, .int (nI ku), .int (nI ik), .ref qa, .int (nI 0), .int (nI 0), .int (nI la), .int (nI wo), .int (nI (blk ta tnQ c6Q)), .int (nI fb6), .int (nI ft6), .ref qs, .ref ql, .ref qm, .ref qi, .ref qe])), aN z qj 31 (uN (aHR ta tnQ) 5 (rQ 5)), aN z qa 60 ta, aN z qf 31 (uN (aHR ta tnQ) 5 (rQ 5))]) (va_runS (As := [.ref qf, .ref qj]) (rest := []) ⟨hx, hb, hml, hown, hts⟩ (c_X11_lay l D z H.size qf qj (uN (aHR ta tnQ) 5 (rQ 5)) rQ ) (va_cwS 2 hts (gS m_631 m_632 m_541 m_537) rfl rfl rfl hd_X11_lay ⟨Nat.le_of_ble_eq_true rfl, Nat.le_of_ble_eq_true rfl⟩) (nv_preM hK hPc hDc trivial _) rfl rfl hl.1 rfl (lv_room (Nat.le_of_ble_eq_true rfl)) dX11_house_278 ⟨by decide, by decide⟩) hP hD hS hA [3, 1] [0, 2] [0, 3, 1, 2] rfl rfl (by decide) (by decide) rfl (by decide) rfl (by decide) (fun H locs hP hD hS hE278 hz278 hf278 => ?_)
                      clear hPc hDc
                      clear hf278 hz278
                      refine lv_aload_n hx hb dX11_house_281 rfl (lv_at hl 2 rfl) ?_
                      refine lv_iconst (v := nI 0) hx hb dX11_house_282 (by decide +kernel) ?_
                      refine va_put (D := D) (ci := 11) (v := .int (nI 0)) (ty := tyX11 4) (C := RX11) (T := TX11) (N := 22) hx hb hts iX11 tyX11 tyX11_ok nmX11 hown hK.1 hP hD hS 0 rfl rfl 4 (by decide) (hts _ m_580) (fun _ h9 => h9) rfl (tyX11_ok 4 (by decide)) rfl rfl (Nat.le_of_ble_eq_true rfl) dX11_house_283 (fun H locs hP hD hS => ?_)
                      have hP : va_P D vwCl [(o, .inr (11, [.ref qj, .ref qt, .ref qf, .ref qp, .int (nI 0), .ref qk, .ref qq, .int (nI ku), .int (nI ik), .ref qa, .int (nI 0), .int (nI 0), .int (nI la), .int (nI wo), .int (nI (blk ta tnQ c6Q)), .int (nI fb6), .int (nI ft6), .ref qs, .ref ql, .ref qm, .ref qi, .ref qe])), aN z qj 31 (uN (aHR ta tnQ) 5 (rQ 5)), aN z qa 60 ta, aN z qf 31 (uN (aHR ta tnQ) 5 (rQ 5))] H := hP
                      have hD : va_D A [(o, .inr (11, [.ref qj, .ref qt, .ref qf, .ref qp, .int (nI 0), .ref qk, .ref qq, .int (nI ku), .int (nI ik), .ref qa, .int (nI 0), .int (nI 0), .int (nI la), .int (nI wo), .int (nI (blk ta tnQ c6Q)), .int (nI fb6), .int (nI ft6), .ref qs, .ref ql, .ref qm, .ref qi, .ref qe])), aN z qj 31 (uN (aHR ta tnQ) 5 (rQ 5)), aN z qa 60 ta, aN z qf 31 (uN (aHR ta tnQ) 5 (rQ 5))] := hD
                      refine lv_aload_n hx hb dX11_house_286 rfl (lv_at hl 2 rfl) ?_
                      refine va_get (D := D) (ci := 11) (v := .ref qj) (C := RX11) (T := TX11) (N := 22) hx hb hts iX11 hown hK.1 hP 0 rfl rfl 0 (by decide) (hts _ m_523) (fun _ h9 => h9) rfl dX11_house_287 ?_
                      refine lv_bipush (v := nI 6) hx hb dX11_house_290 (by decide +kernel) ?_
                      refine nv_ald hx hb hK hP 1 rfl (by omega) (by decide) dX11_house_292 ?_
                      exact nv_xi hx hb hr hlocks hS dX11_house_293 (blk ta tnQ c6Q, fb6, ft6, uN (aHR ta tnQ) 5 (rQ 5)) hP trivial (by rw [uN_n _ (by decide)])
                    · exact absurd hc196 hc250
                  · refine lv_aload_n hx hb dX11_house_229 rfl (lv_at hl 1 rfl) ?_
                    refine va_get (D := D) (ci := 11) (v := .int (nI tnQ)) (C := RX11) (T := TX11) (N := 22) hx hb hts iX11 hown hK.1 hP 0 rfl rfl 10 (by decide) (hts _ m_593) (fun _ h9 => h9) rfl dX11_house_230 ?_
                    refine lv_goto (tgt := 240) hx hb dX11_house_233 (by decide) ?_
                    refine lv_istore_n (lv' := [(2, .int (nI tnQ)), (1, .int (nI 0)), (0, .ref o)]) hx hb dX11_house_240 rfl hl (by decide) rfl (fun ls hl => ?_)
                    refine lv_aload_n hx hb dX11_house_241 rfl (lv_at hl 2 rfl) ?_
                    refine lv_iconst (v := nI 0) hx hb dX11_house_242 (by decide +kernel) ?_
                    refine va_put (D := D) (ci := 11) (v := .int (nI 0)) (ty := tyX11 10) (C := RX11) (T := TX11) (N := 22) hx hb hts iX11 tyX11 tyX11_ok nmX11 hown hK.1 hP hD hS 0 rfl rfl 10 (by decide) (hts _ m_593) (fun _ h9 => h9) rfl (tyX11_ok 10 (by decide)) rfl rfl (Nat.le_of_ble_eq_true rfl) dX11_house_243 (fun H locs hP hD hS => ?_)
                    have hP : va_P D vwCl [(o, .inr (11, [.ref qj, .ref qt, .ref qf, .ref qp, .int (nI un), .ref qk, .ref qq, .int (nI ku), .int (nI ik), .ref qa, .int (nI 0), .int (nI 0), .int (nI la), .int (nI wo), .int (nI (blk ta tnQ c6Q)), .int (nI fb6), .int (nI ft6), .ref qs, .ref ql, .ref qm, .ref qi, .ref qe])), aN z qj 31 rQ, aN z qa 60 ta, aN z qf 31 (uN (uN (uN (fun _ => 0) 1 (nuV ta tnQ 0)) 2 0) 3 0)] H := hP
                    have hD : va_D A [(o, .inr (11, [.ref qj, .ref qt, .ref qf, .ref qp, .int (nI un), .ref qk, .ref qq, .int (nI ku), .int (nI ik), .ref qa, .int (nI 0), .int (nI 0), .int (nI la), .int (nI wo), .int (nI (blk ta tnQ c6Q)), .int (nI fb6), .int (nI ft6), .ref qs, .ref ql, .ref qm, .ref qi, .ref qe])), aN z qj 31 rQ, aN z qa 60 ta, aN z qf 31 (uN (uN (uN (fun _ => 0) 1 (nuV ta tnQ 0)) 2 0) 3 0)] := hD
                    refine lv_aload_n hx hb dX11_house_246 rfl (lv_at hl 2 rfl) ?_
                    refine va_get (D := D) (ci := 11) (v := .int (nI fb6)) (C := RX11) (T := TX11) (N := 22) hx hb hts iX11 hown hK.1 hP 0 rfl rfl 15 (by decide) (hts _ m_597) (fun _ h9 => h9) rfl dX11_house_247 ?_
                    refine nv_ifeq (tgt := 258) hx hb (by omega) dX11_house_250 (by decide) (fun hc250 => ?_) (fun hc250 => ?_)
                    · obtain ⟨rfl, rfl, rfl⟩ := hrel.2 (by rw [eS]; exact hz7)
                      have eR := hrowF hz7
                      rw [eR] at hP hD
                      have hP : va_P D vwCl [(o, .inr (11, [.ref qj, .ref qt, .ref qf, .ref qp, .int (nI un), .ref qk, .ref qq, .int (nI ku), .int (nI ik), .ref qa, .int (nI 0), .int (nI 0), .int (nI la), .int (nI wo), .int (nI (blk ta tnQ c6Q)), .int (nI fb6), .int (nI ft6), .ref qs, .ref ql, .ref qm, .ref qi, .ref qe])), aN z qj 31 rQ, aN z qa 60 ta, aN z qf 31 (aHR ta tnQ)] H := hP
                      have hD : va_D A [(o, .inr (11, [.ref qj, .ref qt, .ref qf, .ref qp, .int (nI un), .ref qk, .ref qq, .int (nI ku), .int (nI ik), .ref qa, .int (nI 0), .int (nI 0), .int (nI la), .int (nI wo), .int (nI (blk ta tnQ c6Q)), .int (nI fb6), .int (nI ft6), .ref qs, .ref ql, .ref qm, .ref qi, .ref qe])), aN z qj 31 rQ, aN z qa 60 ta, aN z qf 31 (aHR ta tnQ)] := hD
                      refine lv_aload_n hx hb dX11_house_258 rfl (lv_at hl 2 rfl) ?_
                      refine va_get (D := D) (ci := 11) (v := .ref qf) (C := RX11) (T := TX11) (N := 22) hx hb hts iX11 hown hK.1 hP 0 rfl rfl 2 (by decide) (hts _ m_525) (fun _ h9 => h9) rfl dX11_house_259 ?_
                      refine lv_iconst (v := nI 5) hx hb dX11_house_262 (by decide +kernel) ?_
                      refine lv_aload_n hx hb dX11_house_263 rfl (lv_at hl 2 rfl) ?_
                      refine va_get (D := D) (ci := 11) (v := .ref qj) (C := RX11) (T := TX11) (N := 22) hx hb hts iX11 hown hK.1 hP 0 rfl rfl 0 (by decide) (hts _ m_523) (fun _ h9 => h9) rfl dX11_house_264 ?_
                      refine lv_iconst (v := nI 5) hx hb dX11_house_267 (by decide +kernel) ?_
                      refine nv_ald hx hb hK hP 1 rfl (by omega) (by decide) dX11_house_268 ?_
                      refine nv_ast hx hb hK hP hD hS 3 rfl (by omega) (by decide) dX11_house_269 (fun H locs hP hD hS => ?_)
                      have hP : va_P D vwCl [(o, .inr (11, [.ref qj, .ref qt, .ref qf, .ref qp, .int (nI un), .ref qk, .ref qq, .int (nI ku), .int (nI ik), .ref qa, .int (nI 0), .int (nI 0), .int (nI la), .int (nI wo), .int (nI (blk ta tnQ c6Q)), .int (nI fb6), .int (nI ft6), .ref qs, .ref ql, .ref qm, .ref qi, .ref qe])), aN z qj 31 rQ, aN z qa 60 ta, aN z qf 31 (uN (aHR ta tnQ) 5 (rQ 5))] H := hP
                      have hD : va_D A [(o, .inr (11, [.ref qj, .ref qt, .ref qf, .ref qp, .int (nI un), .ref qk, .ref qq, .int (nI ku), .int (nI ik), .ref qa, .int (nI 0), .int (nI 0), .int (nI la), .int (nI wo), .int (nI (blk ta tnQ c6Q)), .int (nI fb6), .int (nI ft6), .ref qs, .ref ql, .ref qm, .ref qi, .ref qe])), aN z qj 31 rQ, aN z qa 60 ta, aN z qf 31 (uN (aHR ta tnQ) 5 (rQ 5))] := hD
                      refine lv_aload_n hx hb dX11_house_270 rfl (lv_at hl 2 rfl) ?_
                      refine va_get (D := D) (ci := 11) (v := .ref qf) (C := RX11) (T := TX11) (N := 22) hx hb hts iX11 hown hK.1 hP 0 rfl rfl 2 (by decide) (hts _ m_525) (fun _ h9 => h9) rfl dX11_house_271 ?_
                      refine lv_aload_n hx hb dX11_house_274 rfl (lv_at hl 2 rfl) ?_
                      refine va_get (D := D) (ci := 11) (v := .ref qj) (C := RX11) (T := TX11) (N := 22) hx hb hts iX11 hown hK.1 hP 0 rfl rfl 0 (by decide) (hts _ m_523) (fun _ h9 => h9) rfl dX11_house_275 ?_
                      have hPc := hP.sub (ws' := [aN z qf 31 (uN (aHR ta tnQ) 5 (rQ 5)), aN z qj 31 rQ]) [3, 1] rfl
                      have hDc := hD.sub (ws' := [aN z qf 31 (uN (aHR ta tnQ) 5 (rQ 5)), aN z qj 31 rQ]) [3, 1] (by decide) rfl
                      refine nv_cm0 (wc := [aN z qf 31 (uN (aHR ta tnQ) 5 (rQ 5)), aN z qj 31 rQ]) (wr := [(o, .inr (11, [.ref qj, .ref qt, .ref qf, .ref qp, .int (nI un), .ref qk, .ref qq, .int (nI ku), .int (nI ik), .ref qa, .int (nI 0), .int (nI 0), .int (nI la), .int (nI wo), .int (nI (blk ta tnQ c6Q)), .int (nI fb6), .int (nI ft6), .ref qs, .ref ql, .ref qm, .ref qi, .ref qe])), aN z qa 60 ta]) (w1 := [aN z qf 31 (uN (aHR ta tnQ) 5 (rQ 5)), aN z qj 31 (uN (aHR ta tnQ) 5 (rQ 5))]) (ws1 := [(o, .inr (11, [.ref qj, .ref qt, .ref qf, .ref qp, .int (nI un), .ref qk, .ref qq, .int (nI ku), .int (nI ik), .ref qa, .int (nI 0), .int (nI 0), .int (nI la), .int (nI wo), .int (nI (blk ta tnQ c6Q)), .int (nI fb6), .int (nI ft6), .ref qs, .ref ql, .ref qm, .ref qi, .ref qe])), aN z qj 31 (uN (aHR ta tnQ) 5 (rQ 5)), aN z qa 60 ta, aN z qf 31 (uN (aHR ta tnQ) 5 (rQ 5))]) (va_runS (As := [.ref qf, .ref qj]) (rest := []) ⟨hx, hb, hml, hown, hts⟩ (c_X11_lay l D z H.size qf qj (uN (aHR ta tnQ) 5 (rQ 5)) rQ ) (va_cwS 2 hts (gS m_631 m_632 m_541 m_537) rfl rfl rfl hd_X11_lay ⟨Nat.le_of_ble_eq_true rfl, Nat.le_of_ble_eq_true rfl⟩) (nv_preM hK hPc hDc trivial _) rfl rfl hl.1 rfl (lv_room (Nat.le_of_ble_eq_true rfl)) dX11_house_278 ⟨by decide, by decide⟩) hP hD hS hA [3, 1] [0, 2] [0, 3, 1, 2] rfl rfl (by decide) (by decide) rfl (by decide) rfl (by decide) (fun H locs hP hD hS hE278 hz278 hf278 => ?_)
                      clear hPc hDc
                      clear hf278 hz278
                      refine lv_aload_n hx hb dX11_house_281 rfl (lv_at hl 2 rfl) ?_
                      refine lv_iconst (v := nI 0) hx hb dX11_house_282 (by decide +kernel) ?_
                      refine va_put (D := D) (ci := 11) (v := .int (nI 0)) (ty := tyX11 4) (C := RX11) (T := TX11) (N := 22) hx hb hts iX11 tyX11 tyX11_ok nmX11 hown hK.1 hP hD hS 0 rfl rfl 4 (by decide) (hts _ m_580) (fun _ h9 => h9) rfl (tyX11_ok 4 (by decide)) rfl rfl (Nat.le_of_ble_eq_true rfl) dX11_house_283 (fun H locs hP hD hS => ?_)
                      have hP : va_P D vwCl [(o, .inr (11, [.ref qj, .ref qt, .ref qf, .ref qp, .int (nI 0), .ref qk, .ref qq, .int (nI ku), .int (nI ik), .ref qa, .int (nI 0), .int (nI 0), .int (nI la), .int (nI wo), .int (nI (blk ta tnQ c6Q)), .int (nI fb6), .int (nI ft6), .ref qs, .ref ql, .ref qm, .ref qi, .ref qe])), aN z qj 31 (uN (aHR ta tnQ) 5 (rQ 5)), aN z qa 60 ta, aN z qf 31 (uN (aHR ta tnQ) 5 (rQ 5))] H := hP
                      have hD : va_D A [(o, .inr (11, [.ref qj, .ref qt, .ref qf, .ref qp, .int (nI 0), .ref qk, .ref qq, .int (nI ku), .int (nI ik), .ref qa, .int (nI 0), .int (nI 0), .int (nI la), .int (nI wo), .int (nI (blk ta tnQ c6Q)), .int (nI fb6), .int (nI ft6), .ref qs, .ref ql, .ref qm, .ref qi, .ref qe])), aN z qj 31 (uN (aHR ta tnQ) 5 (rQ 5)), aN z qa 60 ta, aN z qf 31 (uN (aHR ta tnQ) 5 (rQ 5))] := hD
                      refine lv_aload_n hx hb dX11_house_286 rfl (lv_at hl 2 rfl) ?_
                      refine va_get (D := D) (ci := 11) (v := .ref qj) (C := RX11) (T := TX11) (N := 22) hx hb hts iX11 hown hK.1 hP 0 rfl rfl 0 (by decide) (hts _ m_523) (fun _ h9 => h9) rfl dX11_house_287 ?_
                      refine lv_bipush (v := nI 6) hx hb dX11_house_290 (by decide +kernel) ?_
                      refine nv_ald hx hb hK hP 1 rfl (by omega) (by decide) dX11_house_292 ?_
                      exact nv_xi hx hb hr hlocks hS dX11_house_293 (blk ta tnQ c6Q, fb6, ft6, uN (aHR ta tnQ) 5 (rQ 5)) hP trivial (by rw [uN_n _ (by decide)])
                    · exact absurd hc196 hc250
                · have eS : aHS ta tnQ = (blk ta tnQ (aH7 ta tnQ).2 + 1, 0) := if_pos ⟨hz7, by rw [← hbq.2]; omega⟩
                  refine lv_aload_n hx hb dX11_house_210 rfl (lv_at hl 1 rfl) ?_
                  refine lv_aload_n hx hb dX11_house_211 rfl (lv_at hl 1 rfl) ?_
                  refine va_get (D := D) (ci := 11) (v := .int (nI (blk ta tnQ c6Q))) (C := RX11) (T := TX11) (N := 22) hx hb hts iX11 hown hK.1 hP 0 rfl rfl 14 (by decide) (hts _ m_595) (fun _ h9 => h9) rfl dX11_house_212 ?_
                  have hPc := hP.sub (ws' := [(o, .inr (11, [.ref qj, .ref qt, .ref qf, .ref qp, .int (nI un), .ref qk, .ref qq, .int (nI ku), .int (nI ik), .ref qa, .int (nI tnQ), .int (nI 0), .int (nI la), .int (nI wo), .int (nI (blk ta tnQ c6Q)), .int (nI fb6), .int (nI ft6), .ref qs, .ref ql, .ref qm, .ref qi, .ref qe]))]) [0] rfl
                  have hDc := hD.sub (ws' := [(o, .inr (11, [.ref qj, .ref qt, .ref qf, .ref qp, .int (nI un), .ref qk, .ref qq, .int (nI ku), .int (nI ik), .ref qa, .int (nI tnQ), .int (nI 0), .int (nI la), .int (nI wo), .int (nI (blk ta tnQ c6Q)), .int (nI fb6), .int (nI ft6), .ref qs, .ref ql, .ref qm, .ref qi, .ref qe]))]) [0] (by decide) rfl
                  refine nv_cm0 (wc := [(o, .inr (11, [.ref qj, .ref qt, .ref qf, .ref qp, .int (nI un), .ref qk, .ref qq, .int (nI ku), .int (nI ik), .ref qa, .int (nI tnQ), .int (nI 0), .int (nI la), .int (nI wo), .int (nI (blk ta tnQ c6Q)), .int (nI fb6), .int (nI ft6), .ref qs, .ref ql, .ref qm, .ref qi, .ref qe]))]) (wr := [aN z qj 31 rQ, aN z qa 60 ta, aN z qf 31 (uN (uN (uN (fun _ => 0) 1 (nuV ta tnQ 0)) 2 0) 3 0)]) (w1 := [(o, .inr (11, [.ref qj, .ref qt, .ref qf, .ref qp, .int (nI un), .ref qk, .ref qq, .int (nI ku), .int (nI ik), .ref qa, .int (nI tnQ), .int (nI 0), .int (nI la), .int (nI wo), .int (nI (blk ta tnQ c6Q)), .int (nI 1), .int (nI (baF fb6 ft6 (blk ta tnQ c6Q))), .ref qs, .ref ql, .ref qm, .ref qi, .ref qe]))]) (ws1 := [(o, .inr (11, [.ref qj, .ref qt, .ref qf, .ref qp, .int (nI un), .ref qk, .ref qq, .int (nI ku), .int (nI ik), .ref qa, .int (nI tnQ), .int (nI 0), .int (nI la), .int (nI wo), .int (nI (blk ta tnQ c6Q)), .int (nI 1), .int (nI (baF fb6 ft6 (blk ta tnQ c6Q))), .ref qs, .ref ql, .ref qm, .ref qi, .ref qe])), aN z qj 31 rQ, aN z qa 60 ta, aN z qf 31 (uN (uN (uN (fun _ => 0) 1 (nuV ta tnQ 0)) 2 0) 3 0)]) (va_runV (As := [.int (nI (blk ta tnQ c6Q))]) (rest := []) ⟨hx, hb, hml, hown, hts⟩ (c_X11_bad l D z H.size o qj qt qf qp qk qq qa qs ql qm qi qe un ku ik tnQ 0 la wo (blk ta tnQ c6Q) fb6 ft6 (blk ta tnQ c6Q) (by first | assumption | omega)) (cwV 1 hts (gV m_607 m_608 m_609 m_541 m_596) rfl rfl rfl ⟨rfl, hd_X11_bad⟩ ⟨Nat.le_of_ble_eq_true rfl, Nat.le_of_ble_eq_true rfl⟩) (nv_preMV (ci := 11) (q0 := 0) hK hPc hDc trivial rfl rfl) rfl rfl hl.1 rfl (lv_room (Nat.le_of_ble_eq_true rfl)) dX11_house_215 ⟨by decide, by decide⟩) hP hD hS hA [0] [1, 2, 3] [3, 0, 1, 2] rfl rfl (by decide) (by decide) rfl (by decide) rfl (by decide) (fun H locs hP hD hS hE215 hz215 hf215 => ?_)
                  clear hPc hDc
                  clear hf215 hz215
                  have eB : baF fb6 ft6 (blk ta tnQ c6Q) = blk ta tnQ c6Q := if_pos hc196
                  rw [eB] at hP hD
                  have hP : va_P D vwCl [(o, .inr (11, [.ref qj, .ref qt, .ref qf, .ref qp, .int (nI un), .ref qk, .ref qq, .int (nI ku), .int (nI ik), .ref qa, .int (nI tnQ), .int (nI 0), .int (nI la), .int (nI wo), .int (nI (blk ta tnQ c6Q)), .int (nI 1), .int (nI (blk ta tnQ c6Q)), .ref qs, .ref ql, .ref qm, .ref qi, .ref qe])), aN z qj 31 rQ, aN z qa 60 ta, aN z qf 31 (uN (uN (uN (fun _ => 0) 1 (nuV ta tnQ 0)) 2 0) 3 0)] H := hP
                  have hD : va_D A [(o, .inr (11, [.ref qj, .ref qt, .ref qf, .ref qp, .int (nI un), .ref qk, .ref qq, .int (nI ku), .int (nI ik), .ref qa, .int (nI tnQ), .int (nI 0), .int (nI la), .int (nI wo), .int (nI (blk ta tnQ c6Q)), .int (nI 1), .int (nI (blk ta tnQ c6Q)), .ref qs, .ref ql, .ref qm, .ref qi, .ref qe])), aN z qj 31 rQ, aN z qa 60 ta, aN z qf 31 (uN (uN (uN (fun _ => 0) 1 (nuV ta tnQ 0)) 2 0) 3 0)] := hD
                  obtain ⟨e1, e2, rfl⟩ := hrel.1 (by rw [eS]; exact Nat.succ_ne_zero _)
                  obtain rfl := e1.symm
                  obtain rfl := e2.symm
                  rw [eS]
                  refine lv_aload_n hx hb dX11_house_218 rfl (lv_at hl 1 rfl) ?_
                  refine va_get (D := D) (ci := 11) (v := .int (nI (blk ta tnQ c6Q))) (C := RX11) (T := TX11) (N := 22) hx hb hts iX11 hown hK.1 hP 0 rfl rfl 16 (by decide) (hts _ m_598) (fun _ h9 => h9) rfl dX11_house_219 ?_
                  refine lv_aload_n hx hb dX11_house_222 rfl (lv_at hl 1 rfl) ?_
                  refine va_get (D := D) (ci := 11) (v := .int (nI tnQ)) (C := RX11) (T := TX11) (N := 22) hx hb hts iX11 hown hK.1 hP 0 rfl rfl 10 (by decide) (hts _ m_593) (fun _ h9 => h9) rfl dX11_house_223 ?_
                  refine nv_le (tgt := 236) hx hb (by omega) (by omega) dX11_house_226 (by decide) (fun hc226 => ?_) (fun hc226 => ?_)
                  · refine lv_aload_n hx hb dX11_house_236 rfl (lv_at hl 1 rfl) ?_
                    refine va_get (D := D) (ci := 11) (v := .int (nI (blk ta tnQ c6Q))) (C := RX11) (T := TX11) (N := 22) hx hb hts iX11 hown hK.1 hP 0 rfl rfl 16 (by decide) (hts _ m_598) (fun _ h9 => h9) rfl dX11_house_237 ?_
                    refine lv_istore_n (lv' := [(2, .int (nI (blk ta tnQ c6Q))), (1, .int (nI 0)), (0, .ref o)]) hx hb dX11_house_240 rfl hl (by decide) rfl (fun ls hl => ?_)
                    refine lv_aload_n hx hb dX11_house_241 rfl (lv_at hl 2 rfl) ?_
                    refine lv_iconst (v := nI 0) hx hb dX11_house_242 (by decide +kernel) ?_
                    refine va_put (D := D) (ci := 11) (v := .int (nI 0)) (ty := tyX11 10) (C := RX11) (T := TX11) (N := 22) hx hb hts iX11 tyX11 tyX11_ok nmX11 hown hK.1 hP hD hS 0 rfl rfl 10 (by decide) (hts _ m_593) (fun _ h9 => h9) rfl (tyX11_ok 10 (by decide)) rfl rfl (Nat.le_of_ble_eq_true rfl) dX11_house_243 (fun H locs hP hD hS => ?_)
                    have hP : va_P D vwCl [(o, .inr (11, [.ref qj, .ref qt, .ref qf, .ref qp, .int (nI un), .ref qk, .ref qq, .int (nI ku), .int (nI ik), .ref qa, .int (nI 0), .int (nI 0), .int (nI la), .int (nI wo), .int (nI (blk ta tnQ c6Q)), .int (nI 1), .int (nI (blk ta tnQ c6Q)), .ref qs, .ref ql, .ref qm, .ref qi, .ref qe])), aN z qj 31 rQ, aN z qa 60 ta, aN z qf 31 (uN (uN (uN (fun _ => 0) 1 (nuV ta tnQ 0)) 2 0) 3 0)] H := hP
                    have hD : va_D A [(o, .inr (11, [.ref qj, .ref qt, .ref qf, .ref qp, .int (nI un), .ref qk, .ref qq, .int (nI ku), .int (nI ik), .ref qa, .int (nI 0), .int (nI 0), .int (nI la), .int (nI wo), .int (nI (blk ta tnQ c6Q)), .int (nI 1), .int (nI (blk ta tnQ c6Q)), .ref qs, .ref ql, .ref qm, .ref qi, .ref qe])), aN z qj 31 rQ, aN z qa 60 ta, aN z qf 31 (uN (uN (uN (fun _ => 0) 1 (nuV ta tnQ 0)) 2 0) 3 0)] := hD
                    refine lv_aload_n hx hb dX11_house_246 rfl (lv_at hl 2 rfl) ?_
                    refine va_get (D := D) (ci := 11) (v := .int (nI 1)) (C := RX11) (T := TX11) (N := 22) hx hb hts iX11 hown hK.1 hP 0 rfl rfl 15 (by decide) (hts _ m_597) (fun _ h9 => h9) rfl dX11_house_247 ?_
                    refine nv_ifeq (tgt := 258) hx hb (by omega) dX11_house_250 (by decide) (fun hc250 => ?_) (fun hc250 => ?_)
                    · (exfalso; omega)
                    · refine lv_bipush (v := (-20)) hx hb dX11_house_253 (by decide +kernel) ?_
                      refine lv_iload_n hx hb dX11_house_255 rfl (lv_at hl 0 rfl) ?_
                      refine lv_isub hx hb dX11_house_256 ?_
                      exact nv_xi hx hb hr hlocks hS dX11_house_257 (blk ta tnQ c6Q, 1, blk ta tnQ c6Q, uN (uN (uN (fun _ => 0) 1 (nuV ta tnQ 0)) 2 0) 3 0) hP trivial (by rw [pr_1, hbq.2])
                  · (exfalso; omega)
            · (exfalso; omega)
          · exact absurd (aChr_0 (hs6.fa.2.mp hc116)) hz5
    · refine lv_aload_n hx hb dX11_house_13 rfl (lv_at hl 0 rfl) ?_
      refine va_get (D := D) (ci := 11) (v := .ref qf) (C := RX11) (T := TX11) (N := 22) hx hb hts iX11 hown hK.1 hP 0 rfl rfl 2 (by decide) (hts _ m_525) (fun _ h9 => h9) rfl dX11_house_14 ?_
      refine lv_iload_n hx hb dX11_house_17 rfl (lv_at hl 1 rfl) ?_
      refine lv_iconst (v := nI 0) hx hb dX11_house_18 (by decide +kernel) ?_
      refine nv_ast hx hb hK hP hD hS 3 rfl (by omega) (by decide) dX11_house_19 (fun H locs hP hD hS => ?_)
      have hP : va_P D vwCl [(o, .inr (11, [.ref qj, .ref qt, .ref qf, .ref qp, .int (nI un), .ref qk, .ref qq, .int (nI ku), .int (nI ik), .ref qa, .int (nI tnQ), .int (nI 0), .int (nI la), .int (nI wo), .int (nI cu), .int (nI fa), .int (nI fat), .ref qs, .ref ql, .ref qm, .ref qi, .ref qe])), aN z qj 31 rQ, aN z qa 60 ta, aN z qf 31 (uN (lyF (fun _ => 0) ffQ jq) jq 0)] H := hP
      have hD : va_D A [(o, .inr (11, [.ref qj, .ref qt, .ref qf, .ref qp, .int (nI un), .ref qk, .ref qq, .int (nI ku), .int (nI ik), .ref qa, .int (nI tnQ), .int (nI 0), .int (nI la), .int (nI wo), .int (nI cu), .int (nI fa), .int (nI fat), .ref qs, .ref ql, .ref qm, .ref qi, .ref qe])), aN z qj 31 rQ, aN z qa 60 ta, aN z qf 31 (uN (lyF (fun _ => 0) ffQ jq) jq 0)] := hD
      refine lv_iinc (v := nI (jq + 1)) (lv' := [(1, .int (nI (jq + 1))), (0, .ref o)]) hx hb dX11_house_20 hl (k := 1) rfl (nI_inc _) (by decide) rfl (fun ls hl => ?_)
      refine lv_goto (tgt := 7) hx hb dX11_house_23 (by decide) ?_
      exact ih7 (jq + 1) _ _ _ (by omega) ⟨jq + 1, rfl, (by omega), hP, hD, hS, lv_sub hl [1, 0] rfl⟩
  · exact ⟨0, rfl, (by omega), hP, hD, hS, lv_sub hl [1, 0] rfl⟩
