set_option maxHeartbeats 4000000 in
set_option maxRecDepth 100000 in
theorem c_X11_readPerson (l : Launch) (D : va_G) (z : Nat → ClassId) (sz : Nat) (o : Nat) (qj : Nat) (qt : Nat) (qf : Nat) (qp : Nat) (qk : Nat) (qq : Nat) (qa : Nat) (qs : Nat) (ql : Nat) (qm : Nat) (qi : Nat) (qe : Nat) (un : Nat) (ku : Nat) (ik : Nat) (tnQ : Nat) (th : Nat) (la : Nat) (wo : Nat) (cu : Nat) (fa : Nat) (fat : Nat) (ta : Nat → Nat) (ffQ : Nat → Nat) (q9s : Nat × Nat) (bq : Nat) (htp : tOK ta tnQ) (hsim : simM ta tnQ cu fa fat q9s) (hcb : cu ≤ bq) (hb60 : 60 ≤ bq) (hbq : bq ≤ 1000) (hff : ffQ 6 ≤ 5) : CX (σ := Nat × Nat × Nat × (Nat → Nat)) l yX11_readPerson cX11_readPerson 7 none 2 48 0 0 [.ref o] D z [(o, .inr (11, [.ref qj, .ref qt, .ref qf, .ref qp, .int (nI un), .ref qk, .ref qq, .int (nI ku), .int (nI ik), .ref qa, .int (nI tnQ), .int (nI th), .int (nI la), .int (nI wo), .int (nI cu), .int (nI fa), .int (nI fat), .ref qs, .ref ql, .ref qm, .ref qi, .ref qe])), aN z qa 60 ta, aN z qf 31 ffQ] sz (fun _ => True) (fun u => [(o, .inr (11, [.ref qj, .ref qt, .ref qf, .ref qp, .int (nI un), .ref qk, .ref qq, .int (nI ku), .int (nI ik), .ref qa, .int (nI tnQ), .int (nI th), .int (nI la), .int (nI wo), .int (nI u.1), .int (nI u.2.1), .int (nI u.2.2.1), .ref qs, .ref ql, .ref qm, .ref qi, .ref qe])), aN z qa 60 ta, aN z qf 31 u.2.2.2]) none (fun u => (fun _ => simM ta tnQ u.1 u.2.1 u.2.2.1 (aPer ta tnQ q9s) ∧ u.1 ≤ bq + 5 ∧ u.2.2.2 6 = ffQ 6 + 1 ∧ ((aPer ta tnQ q9s).1 = 0 → u.2.2.2 = aRow ta tnQ q9s ffQ))) := by
  refine Met.ofW (cc := cX11_readPerson) (maxL := 7) (ret := none) (by decide) rfl ?_
  intro pg e s m args below meth c s₁ B hml hv
  obtain ⟨rfl, hsz, hP, hK, hD0, hE⟩ := hv
  have hx := B.exec
  have hb := B.bytes
  have hr := B.returns
  have hts : ∀ w ∈ ALL, w.before _ s = true := fun w h => atoms_spec (ws := wA yX11_readPerson cX11_readPerson 7 none) B.pre w (List.mem_cons_of_mem _ h)
  have hown : s.vm.findClass RX11 = some m.cls := findClass_of_methodNamed B.named
  have hlocks := B.notSynchronized
  subst hsz
  have hD := hD0.self (sz := s.heap.size)
  have htn := htp.1
  have hbl := blk_le ta tnQ cu
  have hf0 := hsim.fa
  have hA : ∀ q : Nat, s.heap.size ≤ q → va_A [(o, .inr (11, [.ref qj, .ref qt, .ref qf, .ref qp, .int (nI un), .ref qk, .ref qq, .int (nI ku), .int (nI ik), .ref qa, .int (nI tnQ), .int (nI th), .int (nI la), .int (nI wo), .int (nI cu), .int (nI fa), .int (nI fat), .ref qs, .ref ql, .ref qm, .ref qi, .ref qe])), aN z qa 60 ta, aN z qf 31 ffQ] s.heap.size q := fun q h => Or.inr h
  generalize va_A [(o, .inr (11, [.ref qj, .ref qt, .ref qf, .ref qp, .int (nI un), .ref qk, .ref qq, .int (nI ku), .int (nI ik), .ref qa, .int (nI tnQ), .int (nI th), .int (nI la), .int (nI wo), .int (nI cu), .int (nI fa), .int (nI fat), .ref qs, .ref ql, .ref qm, .ref qi, .ref qe])), aN z qa 60 ta, aN z qf 31 ffQ] s.heap.size = A at *
  have hS : va_S A s.heap s.heap [] := va_S.rf
  have hl := lv_entry ([.ref o]) (n := 7) (Nat.le_of_ble_eq_true rfl)
  rw [lg_entry_eq]
  generalize (lg_sl ([.ref o]) ++ List.replicate (7 - (lg_sl ([.ref o])).length) Slot.unset).toArray = ls at hl ⊢
  have hl : lv_has ls 7 [(0, .ref o)] := hl
  refine lv_aload_n hx hb dX11_readPerson_0 rfl (lv_at hl 0 rfl) ?_
  have hPc := hP.sub (ws' := [(o, .inr (11, [.ref qj, .ref qt, .ref qf, .ref qp, .int (nI un), .ref qk, .ref qq, .int (nI ku), .int (nI ik), .ref qa, .int (nI tnQ), .int (nI th), .int (nI la), .int (nI wo), .int (nI cu), .int (nI fa), .int (nI fat), .ref qs, .ref ql, .ref qm, .ref qi, .ref qe])), aN z qa 60 ta]) [0, 1] rfl
  have hDc := hD.sub (ws' := [(o, .inr (11, [.ref qj, .ref qt, .ref qf, .ref qp, .int (nI un), .ref qk, .ref qq, .int (nI ku), .int (nI ik), .ref qa, .int (nI tnQ), .int (nI th), .int (nI la), .int (nI wo), .int (nI cu), .int (nI fa), .int (nI fat), .ref qs, .ref ql, .ref qm, .ref qi, .ref qe])), aN z qa 60 ta]) [0, 1] (by decide) rfl
  refine nv_cm1 (wc := [(o, .inr (11, [.ref qj, .ref qt, .ref qf, .ref qp, .int (nI un), .ref qk, .ref qq, .int (nI ku), .int (nI ik), .ref qa, .int (nI tnQ), .int (nI th), .int (nI la), .int (nI wo), .int (nI cu), .int (nI fa), .int (nI fat), .ref qs, .ref ql, .ref qm, .ref qi, .ref qe])), aN z qa 60 ta]) (wr := [aN z qf 31 ffQ]) (w1 := [(o, .inr (11, [.ref qj, .ref qt, .ref qf, .ref qp, .int (nI un), .ref qk, .ref qq, .int (nI ku), .int (nI ik), .ref qa, .int (nI tnQ), .int (nI th), .int (nI la), .int (nI wo), .int (nI (blk ta tnQ cu)), .int (nI fa), .int (nI fat), .ref qs, .ref ql, .ref qm, .ref qi, .ref qe])), aN z qa 60 ta]) (ws1 := [(o, .inr (11, [.ref qj, .ref qt, .ref qf, .ref qp, .int (nI un), .ref qk, .ref qq, .int (nI ku), .int (nI ik), .ref qa, .int (nI tnQ), .int (nI th), .int (nI la), .int (nI wo), .int (nI (blk ta tnQ cu)), .int (nI fa), .int (nI fat), .ref qs, .ref ql, .ref qm, .ref qi, .ref qe])), aN z qa 60 ta, aN z qf 31 ffQ]) (va_runV (As := []) (rest := []) ⟨hx, hb, hml, hown, hts⟩ (c_X11_kindBy l D z s.heap.size o qj qt qf qp qk qq qa qs ql qm qi qe un ku ik tnQ th la wo cu fa fat ta (by first | assumption | omega) (by first | assumption | omega)) (cwV 0 hts (gV m_615 m_616 m_617 m_541 m_614) rfl rfl rfl ⟨rfl, hd_X11_kindBy⟩ ⟨Nat.le_of_ble_eq_true rfl, Nat.le_of_ble_eq_true rfl⟩) (nv_preMV (ci := 11) (q0 := 0) hK hPc hDc trivial rfl rfl) rfl rfl hl.1 rfl (lv_room (Nat.le_of_ble_eq_true rfl)) dX11_readPerson_1 ⟨by decide, by decide⟩) hP hD hS hA [0, 1] [2] [1, 2, 0] rfl rfl (by decide) (by decide) rfl (by decide) rfl (by decide) (fun H locs hP hD hS hE1 hz1 hf1 => ?_)
  clear hPc hDc
  clear hf1 hz1
  refine lv_istore_n (lv' := [(1, .int (nI (kdF (chA ta tnQ cu)))), (0, .ref o)]) hx hb dX11_readPerson_4 rfl hl (by decide) rfl (fun ls hl => ?_)
  refine lv_iload_n hx hb dX11_readPerson_5 rfl (lv_at hl 0 rfl) ?_
  refine lv_bipush (v := (-4)) hx hb dX11_readPerson_6 (by decide +kernel) ?_
  refine lv_icmp_ne (tgt := 19) hx hb dX11_readPerson_8 (by decide) (fun hc8 => ?_) (fun hc8 => ?_)
  · have hk5 : kdF (chA ta tnQ cu) ≤ 5 := Classical.byContradiction (fun z9 => hc8 ((kd_neg _).mpr z9))
    have hm1 : muRel (kdF (chA ta tnQ cu) ≤ 5) fa fat (blk ta tnQ cu) fa fat := ⟨fun _ => ⟨rfl, rfl⟩, fun z9 => absurd hk5 z9⟩
    have hs1 := sim_kin hsim hm1
    refine lv_aload_n hx hb dX11_readPerson_19 rfl (lv_at hl 1 rfl) ?_
    refine lv_dup hx hb dX11_readPerson_20 rfl ?_
    refine va_get (D := D) (ci := 11) (v := .int (nI (blk ta tnQ cu))) (C := RX11) (T := TX11) (N := 22) hx hb hts iX11 hown hK.1 hP 0 rfl rfl 14 (by decide) (hts _ m_595) (fun _ h9 => h9) rfl dX11_readPerson_21 ?_
    refine lv_iconst (v := nI 1) hx hb dX11_readPerson_24 (by decide +kernel) ?_
    refine nv_add hx hb dX11_readPerson_25 ?_
    refine va_put (D := D) (ci := 11) (v := .int (nI (blk ta tnQ cu + 1))) (ty := tyX11 14) (C := RX11) (T := TX11) (N := 22) hx hb hts iX11 tyX11 tyX11_ok nmX11 hown hK.1 hP hD hS 0 rfl rfl 14 (by decide) (hts _ m_595) (fun _ h9 => h9) rfl (tyX11_ok 14 (by decide)) rfl rfl (Nat.le_of_ble_eq_true rfl) dX11_readPerson_26 (fun H locs hP hD hS => ?_)
    have hP : va_P D vwCl [(o, .inr (11, [.ref qj, .ref qt, .ref qf, .ref qp, .int (nI un), .ref qk, .ref qq, .int (nI ku), .int (nI ik), .ref qa, .int (nI tnQ), .int (nI th), .int (nI la), .int (nI wo), .int (nI (blk ta tnQ cu + 1)), .int (nI fa), .int (nI fat), .ref qs, .ref ql, .ref qm, .ref qi, .ref qe])), aN z qa 60 ta, aN z qf 31 ffQ] H := hP
    have hD : va_D A [(o, .inr (11, [.ref qj, .ref qt, .ref qf, .ref qp, .int (nI un), .ref qk, .ref qq, .int (nI ku), .int (nI ik), .ref qa, .int (nI tnQ), .int (nI th), .int (nI la), .int (nI wo), .int (nI (blk ta tnQ cu + 1)), .int (nI fa), .int (nI fat), .ref qs, .ref ql, .ref qm, .ref qi, .ref qe])), aN z qa 60 ta, aN z qf 31 ffQ] := hD
    obtain ⟨c2Q, hc2⟩ : ∃ y9 : Nat, y9 = blk ta tnQ cu + 1 := ⟨_, rfl⟩
    rw [← hc2] at hP hD hs1
    have hP : va_P D vwCl [(o, .inr (11, [.ref qj, .ref qt, .ref qf, .ref qp, .int (nI un), .ref qk, .ref qq, .int (nI ku), .int (nI ik), .ref qa, .int (nI tnQ), .int (nI th), .int (nI la), .int (nI wo), .int (nI c2Q), .int (nI fa), .int (nI fat), .ref qs, .ref ql, .ref qm, .ref qi, .ref qe])), aN z qa 60 ta, aN z qf 31 ffQ] H := hP
    have hD : va_D A [(o, .inr (11, [.ref qj, .ref qt, .ref qf, .ref qp, .int (nI un), .ref qk, .ref qq, .int (nI ku), .int (nI ik), .ref qa, .int (nI tnQ), .int (nI th), .int (nI la), .int (nI wo), .int (nI c2Q), .int (nI fa), .int (nI fat), .ref qs, .ref ql, .ref qm, .ref qi, .ref qe])), aN z qa 60 ta, aN z qf 31 ffQ] := hD
    have hb2 : c2Q ≤ bq + 1 := by omega
    have hf1 := hs1.fa
    refine lv_aload_n hx hb dX11_readPerson_29 rfl (lv_at hl 1 rfl) ?_
    refine lv_iconst (v := nI 1) hx hb dX11_readPerson_30 (by decide +kernel) ?_
    have hbl2 := blk_le ta tnQ c2Q
    obtain ⟨fa2, fat2, hmu2, hfa2⟩ := mu_ex (isD ta tnQ c2Q 1) fa fat (blk ta tnQ c2Q) (by omega)
    have hPc := hP.sub (ws' := [(o, .inr (11, [.ref qj, .ref qt, .ref qf, .ref qp, .int (nI un), .ref qk, .ref qq, .int (nI ku), .int (nI ik), .ref qa, .int (nI tnQ), .int (nI th), .int (nI la), .int (nI wo), .int (nI c2Q), .int (nI fa), .int (nI fat), .ref qs, .ref ql, .ref qm, .ref qi, .ref qe])), aN z qa 60 ta]) [0, 1] rfl
    have hDc := hD.sub (ws' := [(o, .inr (11, [.ref qj, .ref qt, .ref qf, .ref qp, .int (nI un), .ref qk, .ref qq, .int (nI ku), .int (nI ik), .ref qa, .int (nI tnQ), .int (nI th), .int (nI la), .int (nI wo), .int (nI c2Q), .int (nI fa), .int (nI fat), .ref qs, .ref ql, .ref qm, .ref qi, .ref qe])), aN z qa 60 ta]) [0, 1] (by decide) rfl
    refine nv_cm1 (wc := [(o, .inr (11, [.ref qj, .ref qt, .ref qf, .ref qp, .int (nI un), .ref qk, .ref qq, .int (nI ku), .int (nI ik), .ref qa, .int (nI tnQ), .int (nI th), .int (nI la), .int (nI wo), .int (nI c2Q), .int (nI fa), .int (nI fat), .ref qs, .ref ql, .ref qm, .ref qi, .ref qe])), aN z qa 60 ta]) (wr := [aN z qf 31 ffQ]) (w1 := [(o, .inr (11, [.ref qj, .ref qt, .ref qf, .ref qp, .int (nI un), .ref qk, .ref qq, .int (nI ku), .int (nI ik), .ref qa, .int (nI tnQ), .int (nI th), .int (nI la), .int (nI wo), .int (nI (blk ta tnQ c2Q + 1)), .int (nI fa2), .int (nI fat2), .ref qs, .ref ql, .ref qm, .ref qi, .ref qe])), aN z qa 60 ta]) (ws1 := [(o, .inr (11, [.ref qj, .ref qt, .ref qf, .ref qp, .int (nI un), .ref qk, .ref qq, .int (nI ku), .int (nI ik), .ref qa, .int (nI tnQ), .int (nI th), .int (nI la), .int (nI wo), .int (nI (blk ta tnQ c2Q + 1)), .int (nI fa2), .int (nI fat2), .ref qs, .ref ql, .ref qm, .ref qi, .ref qe])), aN z qa 60 ta, aN z qf 31 ffQ]) (va_runV (As := [.int (nI 1)]) (rest := []) ⟨hx, hb, hml, hown, hts⟩ (c_X11_digit l D z H.size o qj qt qf qp qk qq qa qs ql qm qi qe un ku ik tnQ th la wo c2Q fa fat ta 1 fa2 fat2 (by first | assumption | omega) (by first | assumption | omega) (by first | assumption | omega) (by first | assumption | omega) hmu2) (cwV 1 hts (gV m_618 m_619 m_620 m_541 m_610) rfl rfl rfl ⟨rfl, hd_X11_digit⟩ ⟨Nat.le_of_ble_eq_true rfl, Nat.le_of_ble_eq_true rfl⟩) (nv_preMV (ci := 11) (q0 := 0) hK hPc hDc trivial rfl rfl) rfl rfl hl.1 rfl (lv_room (Nat.le_of_ble_eq_true rfl)) dX11_readPerson_31 ⟨by decide, by decide⟩) hP hD hS hA [0, 1] [2] [1, 2, 0] rfl rfl (by decide) (by decide) rfl (by decide) rfl (by decide) (fun H locs hP hD hS hE31 hz31 hf31 => ?_)
    clear hPc hDc
    clear hf31 hz31
    have hs2 := sim_dig hs1 hmu2
    obtain ⟨c3Q, hc3⟩ : ∃ y9 : Nat, y9 = blk ta tnQ c2Q + 1 := ⟨_, rfl⟩
    rw [← hc3] at hP hD hs2
    have hP : va_P D vwCl [(o, .inr (11, [.ref qj, .ref qt, .ref qf, .ref qp, .int (nI un), .ref qk, .ref qq, .int (nI ku), .int (nI ik), .ref qa, .int (nI tnQ), .int (nI th), .int (nI la), .int (nI wo), .int (nI c3Q), .int (nI fa2), .int (nI fat2), .ref qs, .ref ql, .ref qm, .ref qi, .ref qe])), aN z qa 60 ta, aN z qf 31 ffQ] H := hP
    have hD : va_D A [(o, .inr (11, [.ref qj, .ref qt, .ref qf, .ref qp, .int (nI un), .ref qk, .ref qq, .int (nI ku), .int (nI ik), .ref qa, .int (nI tnQ), .int (nI th), .int (nI la), .int (nI wo), .int (nI c3Q), .int (nI fa2), .int (nI fat2), .ref qs, .ref ql, .ref qm, .ref qi, .ref qe])), aN z qa 60 ta, aN z qf 31 ffQ] := hD
    have hb3 : c3Q ≤ bq + 2 := by omega
    have hf2 := hs2.fa
    refine lv_istore_n (lv' := [(2, .int (nI (dgV ta tnQ c2Q 1))), (1, .int (nI (kdF (chA ta tnQ cu)))), (0, .ref o)]) hx hb dX11_readPerson_34 rfl hl (by decide) rfl (fun ls hl => ?_)
    refine lv_aload_n hx hb dX11_readPerson_35 rfl (lv_at hl 2 rfl) ?_
    refine lv_iconst (v := nI 0) hx hb dX11_readPerson_36 (by decide +kernel) ?_
    have hbl3 := blk_le ta tnQ c3Q
    obtain ⟨fa3, fat3, hmu3, hfa3⟩ := mu_ex (isD ta tnQ c3Q 0) fa2 fat2 (blk ta tnQ c3Q) (by omega)
    have hPc := hP.sub (ws' := [(o, .inr (11, [.ref qj, .ref qt, .ref qf, .ref qp, .int (nI un), .ref qk, .ref qq, .int (nI ku), .int (nI ik), .ref qa, .int (nI tnQ), .int (nI th), .int (nI la), .int (nI wo), .int (nI c3Q), .int (nI fa2), .int (nI fat2), .ref qs, .ref ql, .ref qm, .ref qi, .ref qe])), aN z qa 60 ta]) [0, 1] rfl
    have hDc := hD.sub (ws' := [(o, .inr (11, [.ref qj, .ref qt, .ref qf, .ref qp, .int (nI un), .ref qk, .ref qq, .int (nI ku), .int (nI ik), .ref qa, .int (nI tnQ), .int (nI th), .int (nI la), .int (nI wo), .int (nI c3Q), .int (nI fa2), .int (nI fat2), .ref qs, .ref ql, .ref qm, .ref qi, .ref qe])), aN z qa 60 ta]) [0, 1] (by decide) rfl
    refine nv_cm1 (wc := [(o, .inr (11, [.ref qj, .ref qt, .ref qf, .ref qp, .int (nI un), .ref qk, .ref qq, .int (nI ku), .int (nI ik), .ref qa, .int (nI tnQ), .int (nI th), .int (nI la), .int (nI wo), .int (nI c3Q), .int (nI fa2), .int (nI fat2), .ref qs, .ref ql, .ref qm, .ref qi, .ref qe])), aN z qa 60 ta]) (wr := [aN z qf 31 ffQ]) (w1 := [(o, .inr (11, [.ref qj, .ref qt, .ref qf, .ref qp, .int (nI un), .ref qk, .ref qq, .int (nI ku), .int (nI ik), .ref qa, .int (nI tnQ), .int (nI th), .int (nI la), .int (nI wo), .int (nI (blk ta tnQ c3Q + 1)), .int (nI fa3), .int (nI fat3), .ref qs, .ref ql, .ref qm, .ref qi, .ref qe])), aN z qa 60 ta]) (ws1 := [(o, .inr (11, [.ref qj, .ref qt, .ref qf, .ref qp, .int (nI un), .ref qk, .ref qq, .int (nI ku), .int (nI ik), .ref qa, .int (nI tnQ), .int (nI th), .int (nI la), .int (nI wo), .int (nI (blk ta tnQ c3Q + 1)), .int (nI fa3), .int (nI fat3), .ref qs, .ref ql, .ref qm, .ref qi, .ref qe])), aN z qa 60 ta, aN z qf 31 ffQ]) (va_runV (As := [.int (nI 0)]) (rest := []) ⟨hx, hb, hml, hown, hts⟩ (c_X11_digit l D z H.size o qj qt qf qp qk qq qa qs ql qm qi qe un ku ik tnQ th la wo c3Q fa2 fat2 ta 0 fa3 fat3 (by first | assumption | omega) (by first | assumption | omega) (by first | assumption | omega) (by first | assumption | omega) hmu3) (cwV 1 hts (gV m_618 m_619 m_620 m_541 m_610) rfl rfl rfl ⟨rfl, hd_X11_digit⟩ ⟨Nat.le_of_ble_eq_true rfl, Nat.le_of_ble_eq_true rfl⟩) (nv_preMV (ci := 11) (q0 := 0) hK hPc hDc trivial rfl rfl) rfl rfl hl.1 rfl (lv_room (Nat.le_of_ble_eq_true rfl)) dX11_readPerson_37 ⟨by decide, by decide⟩) hP hD hS hA [0, 1] [2] [1, 2, 0] rfl rfl (by decide) (by decide) rfl (by decide) rfl (by decide) (fun H locs hP hD hS hE37 hz37 hf37 => ?_)
    clear hPc hDc
    clear hf37 hz37
    have hs3 := sim_dig hs2 hmu3
    obtain ⟨c4Q, hc4⟩ : ∃ y9 : Nat, y9 = blk ta tnQ c3Q + 1 := ⟨_, rfl⟩
    rw [← hc4] at hP hD hs3
    have hP : va_P D vwCl [(o, .inr (11, [.ref qj, .ref qt, .ref qf, .ref qp, .int (nI un), .ref qk, .ref qq, .int (nI ku), .int (nI ik), .ref qa, .int (nI tnQ), .int (nI th), .int (nI la), .int (nI wo), .int (nI c4Q), .int (nI fa3), .int (nI fat3), .ref qs, .ref ql, .ref qm, .ref qi, .ref qe])), aN z qa 60 ta, aN z qf 31 ffQ] H := hP
    have hD : va_D A [(o, .inr (11, [.ref qj, .ref qt, .ref qf, .ref qp, .int (nI un), .ref qk, .ref qq, .int (nI ku), .int (nI ik), .ref qa, .int (nI tnQ), .int (nI th), .int (nI la), .int (nI wo), .int (nI c4Q), .int (nI fa3), .int (nI fat3), .ref qs, .ref ql, .ref qm, .ref qi, .ref qe])), aN z qa 60 ta, aN z qf 31 ffQ] := hD
    have hb4 : c4Q ≤ bq + 3 := by omega
    have hf3 := hs3.fa
    refine lv_istore_n (lv' := [(3, .int (nI (dgV ta tnQ c3Q 0))), (2, .int (nI (dgV ta tnQ c2Q 1))), (1, .int (nI (kdF (chA ta tnQ cu)))), (0, .ref o)]) hx hb dX11_readPerson_40 rfl hl (by decide) rfl (fun ls hl => ?_)
    refine lv_bipush (v := nI 10) hx hb dX11_readPerson_41 (by decide +kernel) ?_
    refine lv_iload_n hx hb dX11_readPerson_43 rfl (lv_at hl 0 rfl) ?_
    refine nv_mul hx hb dX11_readPerson_44 ?_
    refine lv_aload_n hx hb dX11_readPerson_45 rfl (lv_at hl 3 rfl) ?_
    refine lv_iconst (v := nI 0) hx hb dX11_readPerson_46 (by decide +kernel) ?_
    have hbl4 := blk_le ta tnQ c4Q
    obtain ⟨fa4, fat4, hmu4, hfa4⟩ := mu_ex (isD ta tnQ c4Q 0) fa3 fat3 (blk ta tnQ c4Q) (by omega)
    have hPc := hP.sub (ws' := [(o, .inr (11, [.ref qj, .ref qt, .ref qf, .ref qp, .int (nI un), .ref qk, .ref qq, .int (nI ku), .int (nI ik), .ref qa, .int (nI tnQ), .int (nI th), .int (nI la), .int (nI wo), .int (nI c4Q), .int (nI fa3), .int (nI fat3), .ref qs, .ref ql, .ref qm, .ref qi, .ref qe])), aN z qa 60 ta]) [0, 1] rfl
    have hDc := hD.sub (ws' := [(o, .inr (11, [.ref qj, .ref qt, .ref qf, .ref qp, .int (nI un), .ref qk, .ref qq, .int (nI ku), .int (nI ik), .ref qa, .int (nI tnQ), .int (nI th), .int (nI la), .int (nI wo), .int (nI c4Q), .int (nI fa3), .int (nI fat3), .ref qs, .ref ql, .ref qm, .ref qi, .ref qe])), aN z qa 60 ta]) [0, 1] (by decide) rfl
    refine nv_cm1 (wc := [(o, .inr (11, [.ref qj, .ref qt, .ref qf, .ref qp, .int (nI un), .ref qk, .ref qq, .int (nI ku), .int (nI ik), .ref qa, .int (nI tnQ), .int (nI th), .int (nI la), .int (nI wo), .int (nI c4Q), .int (nI fa3), .int (nI fat3), .ref qs, .ref ql, .ref qm, .ref qi, .ref qe])), aN z qa 60 ta]) (wr := [aN z qf 31 ffQ]) (w1 := [(o, .inr (11, [.ref qj, .ref qt, .ref qf, .ref qp, .int (nI un), .ref qk, .ref qq, .int (nI ku), .int (nI ik), .ref qa, .int (nI tnQ), .int (nI th), .int (nI la), .int (nI wo), .int (nI (blk ta tnQ c4Q + 1)), .int (nI fa4), .int (nI fat4), .ref qs, .ref ql, .ref qm, .ref qi, .ref qe])), aN z qa 60 ta]) (ws1 := [(o, .inr (11, [.ref qj, .ref qt, .ref qf, .ref qp, .int (nI un), .ref qk, .ref qq, .int (nI ku), .int (nI ik), .ref qa, .int (nI tnQ), .int (nI th), .int (nI la), .int (nI wo), .int (nI (blk ta tnQ c4Q + 1)), .int (nI fa4), .int (nI fat4), .ref qs, .ref ql, .ref qm, .ref qi, .ref qe])), aN z qa 60 ta, aN z qf 31 ffQ]) (va_runV (As := [.int (nI 0)]) (rest := [.int (nI (10 * (dgV ta tnQ c3Q 0)))]) ⟨hx, hb, hml, hown, hts⟩ (c_X11_digit l D z H.size o qj qt qf qp qk qq qa qs ql qm qi qe un ku ik tnQ th la wo c4Q fa3 fat3 ta 0 fa4 fat4 (by first | assumption | omega) (by first | assumption | omega) (by first | assumption | omega) (by first | assumption | omega) hmu4) (cwV 1 hts (gV m_618 m_619 m_620 m_541 m_610) rfl rfl rfl ⟨rfl, hd_X11_digit⟩ ⟨Nat.le_of_ble_eq_true rfl, Nat.le_of_ble_eq_true rfl⟩) (nv_preMV (ci := 11) (q0 := 0) hK hPc hDc trivial rfl rfl) rfl rfl hl.1 rfl (lv_room (Nat.le_of_ble_eq_true rfl)) dX11_readPerson_47 ⟨by decide, by decide⟩) hP hD hS hA [0, 1] [2] [1, 2, 0] rfl rfl (by decide) (by decide) rfl (by decide) rfl (by decide) (fun H locs hP hD hS hE47 hz47 hf47 => ?_)
    clear hPc hDc
    clear hf47 hz47
    have hs4 := sim_dig hs3 hmu4
    obtain ⟨c5Q, hc5⟩ : ∃ y9 : Nat, y9 = blk ta tnQ c4Q + 1 := ⟨_, rfl⟩
    rw [← hc5] at hP hD hs4
    have hP : va_P D vwCl [(o, .inr (11, [.ref qj, .ref qt, .ref qf, .ref qp, .int (nI un), .ref qk, .ref qq, .int (nI ku), .int (nI ik), .ref qa, .int (nI tnQ), .int (nI th), .int (nI la), .int (nI wo), .int (nI c5Q), .int (nI fa4), .int (nI fat4), .ref qs, .ref ql, .ref qm, .ref qi, .ref qe])), aN z qa 60 ta, aN z qf 31 ffQ] H := hP
    have hD : va_D A [(o, .inr (11, [.ref qj, .ref qt, .ref qf, .ref qp, .int (nI un), .ref qk, .ref qq, .int (nI ku), .int (nI ik), .ref qa, .int (nI tnQ), .int (nI th), .int (nI la), .int (nI wo), .int (nI c5Q), .int (nI fa4), .int (nI fat4), .ref qs, .ref ql, .ref qm, .ref qi, .ref qe])), aN z qa 60 ta, aN z qf 31 ffQ] := hD
    have hb5 : c5Q ≤ bq + 4 := by omega
    have hf4 := hs4.fa
    refine nv_add hx hb dX11_readPerson_50 ?_
    refine lv_istore (lv' := [(4, .int (nI (10 * (dgV ta tnQ c3Q 0) + (dgV ta tnQ c4Q 0)))), (3, .int (nI (dgV ta tnQ c3Q 0))), (2, .int (nI (dgV ta tnQ c2Q 1))), (1, .int (nI (kdF (chA ta tnQ cu)))), (0, .ref o)]) hx hb dX11_readPerson_51 hl (by decide) rfl (fun ls hl => ?_)
    refine lv_aload_n hx hb dX11_readPerson_53 rfl (lv_at hl 4 rfl) ?_
    refine lv_bipush (v := nI 120) hx hb dX11_readPerson_54 (by decide +kernel) ?_
    have hbl5 := blk_le ta tnQ c5Q
    have hPc := hP.sub (ws' := [(o, .inr (11, [.ref qj, .ref qt, .ref qf, .ref qp, .int (nI un), .ref qk, .ref qq, .int (nI ku), .int (nI ik), .ref qa, .int (nI tnQ), .int (nI th), .int (nI la), .int (nI wo), .int (nI c5Q), .int (nI fa4), .int (nI fat4), .ref qs, .ref ql, .ref qm, .ref qi, .ref qe])), aN z qa 60 ta]) [0, 1] rfl
    have hDc := hD.sub (ws' := [(o, .inr (11, [.ref qj, .ref qt, .ref qf, .ref qp, .int (nI un), .ref qk, .ref qq, .int (nI ku), .int (nI ik), .ref qa, .int (nI tnQ), .int (nI th), .int (nI la), .int (nI wo), .int (nI c5Q), .int (nI fa4), .int (nI fat4), .ref qs, .ref ql, .ref qm, .ref qi, .ref qe])), aN z qa 60 ta]) [0, 1] (by decide) rfl
    refine nv_cm1 (wc := [(o, .inr (11, [.ref qj, .ref qt, .ref qf, .ref qp, .int (nI un), .ref qk, .ref qq, .int (nI ku), .int (nI ik), .ref qa, .int (nI tnQ), .int (nI th), .int (nI la), .int (nI wo), .int (nI c5Q), .int (nI fa4), .int (nI fat4), .ref qs, .ref ql, .ref qm, .ref qi, .ref qe])), aN z qa 60 ta]) (wr := [aN z qf 31 ffQ]) (w1 := [(o, .inr (11, [.ref qj, .ref qt, .ref qf, .ref qp, .int (nI un), .ref qk, .ref qq, .int (nI ku), .int (nI ik), .ref qa, .int (nI tnQ), .int (nI th), .int (nI la), .int (nI wo), .int (nI (blk ta tnQ c5Q)), .int (nI fa4), .int (nI fat4), .ref qs, .ref ql, .ref qm, .ref qi, .ref qe])), aN z qa 60 ta]) (ws1 := [(o, .inr (11, [.ref qj, .ref qt, .ref qf, .ref qp, .int (nI un), .ref qk, .ref qq, .int (nI ku), .int (nI ik), .ref qa, .int (nI tnQ), .int (nI th), .int (nI la), .int (nI wo), .int (nI (blk ta tnQ c5Q)), .int (nI fa4), .int (nI fat4), .ref qs, .ref ql, .ref qm, .ref qi, .ref qe])), aN z qa 60 ta, aN z qf 31 ffQ]) (va_runV (As := [.int (nI 120)]) (rest := []) ⟨hx, hb, hml, hown, hts⟩ (c_X11_isNext l D z H.size o qj qt qf qp qk qq qa qs ql qm qi qe un ku ik tnQ th la wo c5Q fa4 fat4 ta 120 (by first | assumption | omega) (by first | assumption | omega) (by first | assumption | omega) (by first | assumption | omega)) (cwV 1 hts (gV m_604 m_605 m_606 m_541 m_599) rfl rfl rfl ⟨rfl, hd_X11_isNext⟩ ⟨Nat.le_of_ble_eq_true rfl, Nat.le_of_ble_eq_true rfl⟩) (nv_preMV (ci := 11) (q0 := 0) hK hPc hDc trivial rfl rfl) rfl rfl hl.1 rfl (lv_room (Nat.le_of_ble_eq_true rfl)) dX11_readPerson_56 ⟨by decide, by decide⟩) hP hD hS hA [0, 1] [2] [1, 2, 0] rfl rfl (by decide) (by decide) rfl (by decide) rfl (by decide) (fun H locs hP hD hS hE56 hz56 hf56 => ?_)
    clear hPc hDc
    clear hf56 hz56
    refine lv_istore (lv' := [(5, .int (bI (fa4 = 0 ∧ isC ta tnQ c5Q 120))), (4, .int (nI (10 * (dgV ta tnQ c3Q 0) + (dgV ta tnQ c4Q 0)))), (3, .int (nI (dgV ta tnQ c3Q 0))), (2, .int (nI (dgV ta tnQ c2Q 1))), (1, .int (nI (kdF (chA ta tnQ cu)))), (0, .ref o)]) hx hb dX11_readPerson_59 hl (by decide) rfl (fun ls hl => ?_)
    refine lv_iload hx hb dX11_readPerson_61 (lv_at hl 0 rfl) ?_
    refine nv_beq (tgt := 76) hx hb dX11_readPerson_63 (by decide) (fun hc63 => ?_) (fun hc63 => ?_)
    · have hs5 : simM ta tnQ (blk ta tnQ c5Q) fa4 fat4 (aPer ta tnQ q9s) := sim_opt0 hs4 hc63
      have hrow : (aPer ta tnQ q9s).1 = 0 → adpR ffQ (kdF (chA ta tnQ cu)) (dgV ta tnQ c2Q 1) (10 * dgV ta tnQ c3Q 0 + dgV ta tnQ c4Q 0) 1 = aRow ta tnQ q9s ffQ := by
        intro z9
        have z4 : (aP4 ta tnQ q9s).1 = 0 := aOpt_0 z9
        have z3 : (aP3 ta tnQ q9s).1 = 0 := aDig_0 z4
        have z2 : (aP2 ta tnQ q9s).1 = 0 := aDig_0 z3
        have z1 : (aP1 ta tnQ q9s).1 = 0 := aDig_0 z2
        have z0 : q9s.1 = 0 := aKin_0 z1
        unfold aRow aPx
        rw [if_neg (fun y9 => hc63 ⟨hf4.2.mpr z4, (isC_e (sim_blk (q := aP4 ta tnQ q9s) hs4 z4).2).mpr y9⟩)]
        rw [chA_e (sim_blk hsim z0).2, dgV_e 1 (sim_blk (q := aP1 ta tnQ q9s) hs1 z1).2, dgV_e 0 (sim_blk (q := aP2 ta tnQ q9s) hs2 z2).2, dgV_e 0 (sim_blk (q := aP3 ta tnQ q9s) hs3 z3).2]
      have hf6 := adpR_6 ffQ (kdF (chA ta tnQ cu)) (dgV ta tnQ c2Q 1) (10 * dgV ta tnQ c3Q 0 + dgV ta tnQ c4Q 0) 1
      have hf5 := adpX_6 ffQ (kdF (chA ta tnQ cu)) (dgV ta tnQ c2Q 1) (10 * dgV ta tnQ c3Q 0 + dgV ta tnQ c4Q 0) 1
      refine lv_bipush (v := nI 7) hx hb dX11_readPerson_76 (by decide +kernel) ?_
      refine lv_iconst (v := nI 4) hx hb dX11_readPerson_78 (by decide +kernel) ?_
      refine lv_aload_n hx hb dX11_readPerson_79 rfl (lv_at hl 5 rfl) ?_
      refine va_get (D := D) (ci := 11) (v := .ref qf) (C := RX11) (T := TX11) (N := 22) hx hb hts iX11 hown hK.1 hP 0 rfl rfl 2 (by decide) (hts _ m_525) (fun _ h9 => h9) rfl dX11_readPerson_80 ?_
      refine lv_bipush (v := nI 6) hx hb dX11_readPerson_83 (by decide +kernel) ?_
      refine nv_ald hx hb hK hP 2 rfl (by omega) (by decide) dX11_readPerson_85 ?_
      refine nv_mul hx hb dX11_readPerson_86 ?_
      refine nv_add hx hb dX11_readPerson_87 ?_
      refine lv_istore (lv' := [(6, .int (nI (7 + (4 * (ffQ 6))))), (5, .int (bI (fa4 = 0 ∧ isC ta tnQ c5Q 120))), (4, .int (nI (10 * (dgV ta tnQ c3Q 0) + (dgV ta tnQ c4Q 0)))), (3, .int (nI (dgV ta tnQ c3Q 0))), (2, .int (nI (dgV ta tnQ c2Q 1))), (1, .int (nI (kdF (chA ta tnQ cu)))), (0, .ref o)]) hx hb dX11_readPerson_88 hl (by decide) rfl (fun ls hl => ?_)
      refine lv_aload_n hx hb dX11_readPerson_90 rfl (lv_at hl 6 rfl) ?_
      refine va_get (D := D) (ci := 11) (v := .ref qf) (C := RX11) (T := TX11) (N := 22) hx hb hts iX11 hown hK.1 hP 0 rfl rfl 2 (by decide) (hts _ m_525) (fun _ h9 => h9) rfl dX11_readPerson_91 ?_
      refine lv_iload hx hb dX11_readPerson_94 (lv_at hl 0 rfl) ?_
      refine lv_iload_n hx hb dX11_readPerson_96 rfl (lv_at hl 5 rfl) ?_
      refine nv_ast hx hb hK hP hD hS 2 rfl (by omega) (by decide) dX11_readPerson_97 (fun H locs hP hD hS => ?_)
      have hP : va_P D vwCl [(o, .inr (11, [.ref qj, .ref qt, .ref qf, .ref qp, .int (nI un), .ref qk, .ref qq, .int (nI ku), .int (nI ik), .ref qa, .int (nI tnQ), .int (nI th), .int (nI la), .int (nI wo), .int (nI (blk ta tnQ c5Q)), .int (nI fa4), .int (nI fat4), .ref qs, .ref ql, .ref qm, .ref qi, .ref qe])), aN z qa 60 ta, aN z qf 31 (uN ffQ (7 + (4 * (ffQ 6))) (kdF (chA ta tnQ cu)))] H := hP
      have hD : va_D A [(o, .inr (11, [.ref qj, .ref qt, .ref qf, .ref qp, .int (nI un), .ref qk, .ref qq, .int (nI ku), .int (nI ik), .ref qa, .int (nI tnQ), .int (nI th), .int (nI la), .int (nI wo), .int (nI (blk ta tnQ c5Q)), .int (nI fa4), .int (nI fat4), .ref qs, .ref ql, .ref qm, .ref qi, .ref qe])), aN z qa 60 ta, aN z qf 31 (uN ffQ (7 + (4 * (ffQ 6))) (kdF (chA ta tnQ cu)))] := hD
      refine lv_aload_n hx hb dX11_readPerson_98 rfl (lv_at hl 6 rfl) ?_
      refine va_get (D := D) (ci := 11) (v := .ref qf) (C := RX11) (T := TX11) (N := 22) hx hb hts iX11 hown hK.1 hP 0 rfl rfl 2 (by decide) (hts _ m_525) (fun _ h9 => h9) rfl dX11_readPerson_99 ?_
      refine lv_iload hx hb dX11_readPerson_102 (lv_at hl 0 rfl) ?_
      refine lv_iconst (v := nI 1) hx hb dX11_readPerson_104 (by decide +kernel) ?_
      refine nv_add hx hb dX11_readPerson_105 ?_
      refine lv_iload_n hx hb dX11_readPerson_106 rfl (lv_at hl 4 rfl) ?_
      refine nv_ast hx hb hK hP hD hS 2 rfl (by omega) (by decide) dX11_readPerson_107 (fun H locs hP hD hS => ?_)
      have hP : va_P D vwCl [(o, .inr (11, [.ref qj, .ref qt, .ref qf, .ref qp, .int (nI un), .ref qk, .ref qq, .int (nI ku), .int (nI ik), .ref qa, .int (nI tnQ), .int (nI th), .int (nI la), .int (nI wo), .int (nI (blk ta tnQ c5Q)), .int (nI fa4), .int (nI fat4), .ref qs, .ref ql, .ref qm, .ref qi, .ref qe])), aN z qa 60 ta, aN z qf 31 (uN (uN ffQ (7 + (4 * (ffQ 6))) (kdF (chA ta tnQ cu))) (7 + (4 * (ffQ 6)) + 1) (dgV ta tnQ c2Q 1))] H := hP
      have hD : va_D A [(o, .inr (11, [.ref qj, .ref qt, .ref qf, .ref qp, .int (nI un), .ref qk, .ref qq, .int (nI ku), .int (nI ik), .ref qa, .int (nI tnQ), .int (nI th), .int (nI la), .int (nI wo), .int (nI (blk ta tnQ c5Q)), .int (nI fa4), .int (nI fat4), .ref qs, .ref ql, .ref qm, .ref qi, .ref qe])), aN z qa 60 ta, aN z qf 31 (uN (uN ffQ (7 + (4 * (ffQ 6))) (kdF (chA ta tnQ cu))) (7 + (4 * (ffQ 6)) + 1) (dgV ta tnQ c2Q 1))] := hD
      refine lv_aload_n hx hb dX11_readPerson_108 rfl (lv_at hl 6 rfl) ?_
      refine va_get (D := D) (ci := 11) (v := .ref qf) (C := RX11) (T := TX11) (N := 22) hx hb hts iX11 hown hK.1 hP 0 rfl rfl 2 (by decide) (hts _ m_525) (fun _ h9 => h9) rfl dX11_readPerson_109 ?_
      refine lv_iload hx hb dX11_readPerson_112 (lv_at hl 0 rfl) ?_
      refine lv_iconst (v := nI 2) hx hb dX11_readPerson_114 (by decide +kernel) ?_
      refine nv_add hx hb dX11_readPerson_115 ?_
      refine lv_iload hx hb dX11_readPerson_116 (lv_at hl 2 rfl) ?_
      refine nv_ast hx hb hK hP hD hS 2 rfl (by omega) (by decide) dX11_readPerson_118 (fun H locs hP hD hS => ?_)
      have hP : va_P D vwCl [(o, .inr (11, [.ref qj, .ref qt, .ref qf, .ref qp, .int (nI un), .ref qk, .ref qq, .int (nI ku), .int (nI ik), .ref qa, .int (nI tnQ), .int (nI th), .int (nI la), .int (nI wo), .int (nI (blk ta tnQ c5Q)), .int (nI fa4), .int (nI fat4), .ref qs, .ref ql, .ref qm, .ref qi, .ref qe])), aN z qa 60 ta, aN z qf 31 (uN (uN (uN ffQ (7 + (4 * (ffQ 6))) (kdF (chA ta tnQ cu))) (7 + (4 * (ffQ 6)) + 1) (dgV ta tnQ c2Q 1)) (7 + (4 * (ffQ 6)) + 2) (10 * (dgV ta tnQ c3Q 0) + (dgV ta tnQ c4Q 0)))] H := hP
      have hD : va_D A [(o, .inr (11, [.ref qj, .ref qt, .ref qf, .ref qp, .int (nI un), .ref qk, .ref qq, .int (nI ku), .int (nI ik), .ref qa, .int (nI tnQ), .int (nI th), .int (nI la), .int (nI wo), .int (nI (blk ta tnQ c5Q)), .int (nI fa4), .int (nI fat4), .ref qs, .ref ql, .ref qm, .ref qi, .ref qe])), aN z qa 60 ta, aN z qf 31 (uN (uN (uN ffQ (7 + (4 * (ffQ 6))) (kdF (chA ta tnQ cu))) (7 + (4 * (ffQ 6)) + 1) (dgV ta tnQ c2Q 1)) (7 + (4 * (ffQ 6)) + 2) (10 * (dgV ta tnQ c3Q 0) + (dgV ta tnQ c4Q 0)))] := hD
      refine lv_aload_n hx hb dX11_readPerson_119 rfl (lv_at hl 6 rfl) ?_
      refine va_get (D := D) (ci := 11) (v := .ref qf) (C := RX11) (T := TX11) (N := 22) hx hb hts iX11 hown hK.1 hP 0 rfl rfl 2 (by decide) (hts _ m_525) (fun _ h9 => h9) rfl dX11_readPerson_120 ?_
      refine lv_iload hx hb dX11_readPerson_123 (lv_at hl 0 rfl) ?_
      refine lv_iconst (v := nI 3) hx hb dX11_readPerson_125 (by decide +kernel) ?_
      refine nv_add hx hb dX11_readPerson_126 ?_
      refine lv_iload hx hb dX11_readPerson_127 (lv_at hl 1 rfl) ?_
      refine nv_beq (tgt := 136) hx hb dX11_readPerson_129 (by decide) (fun hc129 => ?_) (fun hc129 => ?_)
      · refine lv_iconst (v := nI 1) hx hb dX11_readPerson_136 (by decide +kernel) ?_
        refine nv_ast hx hb hK hP hD hS 2 rfl (by omega) (by decide) dX11_readPerson_137 (fun H locs hP hD hS => ?_)
        have hP : va_P D vwCl [(o, .inr (11, [.ref qj, .ref qt, .ref qf, .ref qp, .int (nI un), .ref qk, .ref qq, .int (nI ku), .int (nI ik), .ref qa, .int (nI tnQ), .int (nI th), .int (nI la), .int (nI wo), .int (nI (blk ta tnQ c5Q)), .int (nI fa4), .int (nI fat4), .ref qs, .ref ql, .ref qm, .ref qi, .ref qe])), aN z qa 60 ta, aN z qf 31 (uN (uN (uN (uN ffQ (7 + (4 * (ffQ 6))) (kdF (chA ta tnQ cu))) (7 + (4 * (ffQ 6)) + 1) (dgV ta tnQ c2Q 1)) (7 + (4 * (ffQ 6)) + 2) (10 * (dgV ta tnQ c3Q 0) + (dgV ta tnQ c4Q 0))) (7 + (4 * (ffQ 6)) + 3) 1)] H := hP
        have hD : va_D A [(o, .inr (11, [.ref qj, .ref qt, .ref qf, .ref qp, .int (nI un), .ref qk, .ref qq, .int (nI ku), .int (nI ik), .ref qa, .int (nI tnQ), .int (nI th), .int (nI la), .int (nI wo), .int (nI (blk ta tnQ c5Q)), .int (nI fa4), .int (nI fat4), .ref qs, .ref ql, .ref qm, .ref qi, .ref qe])), aN z qa 60 ta, aN z qf 31 (uN (uN (uN (uN ffQ (7 + (4 * (ffQ 6))) (kdF (chA ta tnQ cu))) (7 + (4 * (ffQ 6)) + 1) (dgV ta tnQ c2Q 1)) (7 + (4 * (ffQ 6)) + 2) (10 * (dgV ta tnQ c3Q 0) + (dgV ta tnQ c4Q 0))) (7 + (4 * (ffQ 6)) + 3) 1)] := hD
        refine lv_aload_n hx hb dX11_readPerson_138 rfl (lv_at hl 6 rfl) ?_
        refine va_get (D := D) (ci := 11) (v := .ref qf) (C := RX11) (T := TX11) (N := 22) hx hb hts iX11 hown hK.1 hP 0 rfl rfl 2 (by decide) (hts _ m_525) (fun _ h9 => h9) rfl dX11_readPerson_139 ?_
        refine lv_bipush (v := nI 6) hx hb dX11_readPerson_142 (by decide +kernel) ?_
        refine lv_dup2_11 hx hb dX11_readPerson_144 rfl rfl ?_
        refine nv_ald hx hb hK hP 2 rfl (by omega) (by decide) dX11_readPerson_145 ?_
        refine lv_iconst (v := nI 1) hx hb dX11_readPerson_146 (by decide +kernel) ?_
        refine nv_add hx hb dX11_readPerson_147 ?_
        refine nv_ast hx hb hK hP hD hS 2 rfl (by omega) (by decide) dX11_readPerson_148 (fun H locs hP hD hS => ?_)
        have hP : va_P D vwCl [(o, .inr (11, [.ref qj, .ref qt, .ref qf, .ref qp, .int (nI un), .ref qk, .ref qq, .int (nI ku), .int (nI ik), .ref qa, .int (nI tnQ), .int (nI th), .int (nI la), .int (nI wo), .int (nI (blk ta tnQ c5Q)), .int (nI fa4), .int (nI fat4), .ref qs, .ref ql, .ref qm, .ref qi, .ref qe])), aN z qa 60 ta, aN z qf 31 (uN (uN (uN (uN (uN ffQ (7 + (4 * (ffQ 6))) (kdF (chA ta tnQ cu))) (7 + (4 * (ffQ 6)) + 1) (dgV ta tnQ c2Q 1)) (7 + (4 * (ffQ 6)) + 2) (10 * (dgV ta tnQ c3Q 0) + (dgV ta tnQ c4Q 0))) (7 + (4 * (ffQ 6)) + 3) 1) 6 ((uN (uN (uN (uN ffQ (7 + (4 * (ffQ 6))) (kdF (chA ta tnQ cu))) (7 + (4 * (ffQ 6)) + 1) (dgV ta tnQ c2Q 1)) (7 + (4 * (ffQ 6)) + 2) (10 * (dgV ta tnQ c3Q 0) + (dgV ta tnQ c4Q 0))) (7 + (4 * (ffQ 6)) + 3) 1) 6 + 1))] H := hP
        have hD : va_D A [(o, .inr (11, [.ref qj, .ref qt, .ref qf, .ref qp, .int (nI un), .ref qk, .ref qq, .int (nI ku), .int (nI ik), .ref qa, .int (nI tnQ), .int (nI th), .int (nI la), .int (nI wo), .int (nI (blk ta tnQ c5Q)), .int (nI fa4), .int (nI fat4), .ref qs, .ref ql, .ref qm, .ref qi, .ref qe])), aN z qa 60 ta, aN z qf 31 (uN (uN (uN (uN (uN ffQ (7 + (4 * (ffQ 6))) (kdF (chA ta tnQ cu))) (7 + (4 * (ffQ 6)) + 1) (dgV ta tnQ c2Q 1)) (7 + (4 * (ffQ 6)) + 2) (10 * (dgV ta tnQ c3Q 0) + (dgV ta tnQ c4Q 0))) (7 + (4 * (ffQ 6)) + 3) 1) 6 ((uN (uN (uN (uN ffQ (7 + (4 * (ffQ 6))) (kdF (chA ta tnQ cu))) (7 + (4 * (ffQ 6)) + 1) (dgV ta tnQ c2Q 1)) (7 + (4 * (ffQ 6)) + 2) (10 * (dgV ta tnQ c3Q 0) + (dgV ta tnQ c4Q 0))) (7 + (4 * (ffQ 6)) + 3) 1) 6 + 1))] := hD
        exact nv_xv hx hb hr hlocks hS dX11_readPerson_149 (blk ta tnQ c5Q, fa4, fat4, uN (uN (uN (uN (uN ffQ (7 + (4 * (ffQ 6))) (kdF (chA ta tnQ cu))) (7 + (4 * (ffQ 6)) + 1) (dgV ta tnQ c2Q 1)) (7 + (4 * (ffQ 6)) + 2) (10 * (dgV ta tnQ c3Q 0) + (dgV ta tnQ c4Q 0))) (7 + (4 * (ffQ 6)) + 3) 1) 6 ((uN (uN (uN (uN ffQ (7 + (4 * (ffQ 6))) (kdF (chA ta tnQ cu))) (7 + (4 * (ffQ 6)) + 1) (dgV ta tnQ c2Q 1)) (7 + (4 * (ffQ 6)) + 2) (10 * (dgV ta tnQ c3Q 0) + (dgV ta tnQ c4Q 0))) (7 + (4 * (ffQ 6)) + 3) 1) 6 + 1)) hP ⟨hs5, by omega, hf6, fun z9 => hrow z9⟩
      · exact absurd hc129 hc63
    · refine lv_aload_n hx hb dX11_readPerson_66 rfl (lv_at hl 5 rfl) ?_
      refine lv_dup hx hb dX11_readPerson_67 rfl ?_
      refine va_get (D := D) (ci := 11) (v := .int (nI (blk ta tnQ c5Q))) (C := RX11) (T := TX11) (N := 22) hx hb hts iX11 hown hK.1 hP 0 rfl rfl 14 (by decide) (hts _ m_595) (fun _ h9 => h9) rfl dX11_readPerson_68 ?_
      refine lv_iconst (v := nI 1) hx hb dX11_readPerson_71 (by decide +kernel) ?_
      refine nv_add hx hb dX11_readPerson_72 ?_
      refine va_put (D := D) (ci := 11) (v := .int (nI (blk ta tnQ c5Q + 1))) (ty := tyX11 14) (C := RX11) (T := TX11) (N := 22) hx hb hts iX11 tyX11 tyX11_ok nmX11 hown hK.1 hP hD hS 0 rfl rfl 14 (by decide) (hts _ m_595) (fun _ h9 => h9) rfl (tyX11_ok 14 (by decide)) rfl rfl (Nat.le_of_ble_eq_true rfl) dX11_readPerson_73 (fun H locs hP hD hS => ?_)
      have hP : va_P D vwCl [(o, .inr (11, [.ref qj, .ref qt, .ref qf, .ref qp, .int (nI un), .ref qk, .ref qq, .int (nI ku), .int (nI ik), .ref qa, .int (nI tnQ), .int (nI th), .int (nI la), .int (nI wo), .int (nI (blk ta tnQ c5Q + 1)), .int (nI fa4), .int (nI fat4), .ref qs, .ref ql, .ref qm, .ref qi, .ref qe])), aN z qa 60 ta, aN z qf 31 ffQ] H := hP
      have hD : va_D A [(o, .inr (11, [.ref qj, .ref qt, .ref qf, .ref qp, .int (nI un), .ref qk, .ref qq, .int (nI ku), .int (nI ik), .ref qa, .int (nI tnQ), .int (nI th), .int (nI la), .int (nI wo), .int (nI (blk ta tnQ c5Q + 1)), .int (nI fa4), .int (nI fat4), .ref qs, .ref ql, .ref qm, .ref qi, .ref qe])), aN z qa 60 ta, aN z qf 31 ffQ] := hD
      have hs5 : simM ta tnQ (blk ta tnQ c5Q + 1) fa4 fat4 (aPer ta tnQ q9s) := sim_opt1 hs4 hc63
      have hrow : (aPer ta tnQ q9s).1 = 0 → adpR ffQ (kdF (chA ta tnQ cu)) (dgV ta tnQ c2Q 1) (10 * dgV ta tnQ c3Q 0 + dgV ta tnQ c4Q 0) 0 = aRow ta tnQ q9s ffQ := by
        intro z9
        have z4 : (aP4 ta tnQ q9s).1 = 0 := aOpt_0 z9
        have z3 : (aP3 ta tnQ q9s).1 = 0 := aDig_0 z4
        have z2 : (aP2 ta tnQ q9s).1 = 0 := aDig_0 z3
        have z1 : (aP1 ta tnQ q9s).1 = 0 := aDig_0 z2
        have z0 : q9s.1 = 0 := aKin_0 z1
        unfold aRow aPx
        rw [if_pos ((isC_e (sim_blk (q := aP4 ta tnQ q9s) hs4 z4).2).mp hc63.2)]
        rw [chA_e (sim_blk hsim z0).2, dgV_e 1 (sim_blk (q := aP1 ta tnQ q9s) hs1 z1).2, dgV_e 0 (sim_blk (q := aP2 ta tnQ q9s) hs2 z2).2, dgV_e 0 (sim_blk (q := aP3 ta tnQ q9s) hs3 z3).2]
      have hf6 := adpR_6 ffQ (kdF (chA ta tnQ cu)) (dgV ta tnQ c2Q 1) (10 * dgV ta tnQ c3Q 0 + dgV ta tnQ c4Q 0) 0
      have hf5 := adpX_6 ffQ (kdF (chA ta tnQ cu)) (dgV ta tnQ c2Q 1) (10 * dgV ta tnQ c3Q 0 + dgV ta tnQ c4Q 0) 0
      refine lv_bipush (v := nI 7) hx hb dX11_readPerson_76 (by decide +kernel) ?_
      refine lv_iconst (v := nI 4) hx hb dX11_readPerson_78 (by decide +kernel) ?_
      refine lv_aload_n hx hb dX11_readPerson_79 rfl (lv_at hl 5 rfl) ?_
      refine va_get (D := D) (ci := 11) (v := .ref qf) (C := RX11) (T := TX11) (N := 22) hx hb hts iX11 hown hK.1 hP 0 rfl rfl 2 (by decide) (hts _ m_525) (fun _ h9 => h9) rfl dX11_readPerson_80 ?_
      refine lv_bipush (v := nI 6) hx hb dX11_readPerson_83 (by decide +kernel) ?_
      refine nv_ald hx hb hK hP 2 rfl (by omega) (by decide) dX11_readPerson_85 ?_
      refine nv_mul hx hb dX11_readPerson_86 ?_
      refine nv_add hx hb dX11_readPerson_87 ?_
      refine lv_istore (lv' := [(6, .int (nI (7 + (4 * (ffQ 6))))), (5, .int (bI (fa4 = 0 ∧ isC ta tnQ c5Q 120))), (4, .int (nI (10 * (dgV ta tnQ c3Q 0) + (dgV ta tnQ c4Q 0)))), (3, .int (nI (dgV ta tnQ c3Q 0))), (2, .int (nI (dgV ta tnQ c2Q 1))), (1, .int (nI (kdF (chA ta tnQ cu)))), (0, .ref o)]) hx hb dX11_readPerson_88 hl (by decide) rfl (fun ls hl => ?_)
      refine lv_aload_n hx hb dX11_readPerson_90 rfl (lv_at hl 6 rfl) ?_
      refine va_get (D := D) (ci := 11) (v := .ref qf) (C := RX11) (T := TX11) (N := 22) hx hb hts iX11 hown hK.1 hP 0 rfl rfl 2 (by decide) (hts _ m_525) (fun _ h9 => h9) rfl dX11_readPerson_91 ?_
      refine lv_iload hx hb dX11_readPerson_94 (lv_at hl 0 rfl) ?_
      refine lv_iload_n hx hb dX11_readPerson_96 rfl (lv_at hl 5 rfl) ?_
      refine nv_ast hx hb hK hP hD hS 2 rfl (by omega) (by decide) dX11_readPerson_97 (fun H locs hP hD hS => ?_)
      have hP : va_P D vwCl [(o, .inr (11, [.ref qj, .ref qt, .ref qf, .ref qp, .int (nI un), .ref qk, .ref qq, .int (nI ku), .int (nI ik), .ref qa, .int (nI tnQ), .int (nI th), .int (nI la), .int (nI wo), .int (nI (blk ta tnQ c5Q + 1)), .int (nI fa4), .int (nI fat4), .ref qs, .ref ql, .ref qm, .ref qi, .ref qe])), aN z qa 60 ta, aN z qf 31 (uN ffQ (7 + (4 * (ffQ 6))) (kdF (chA ta tnQ cu)))] H := hP
      have hD : va_D A [(o, .inr (11, [.ref qj, .ref qt, .ref qf, .ref qp, .int (nI un), .ref qk, .ref qq, .int (nI ku), .int (nI ik), .ref qa, .int (nI tnQ), .int (nI th), .int (nI la), .int (nI wo), .int (nI (blk ta tnQ c5Q + 1)), .int (nI fa4), .int (nI fat4), .ref qs, .ref ql, .ref qm, .ref qi, .ref qe])), aN z qa 60 ta, aN z qf 31 (uN ffQ (7 + (4 * (ffQ 6))) (kdF (chA ta tnQ cu)))] := hD
      refine lv_aload_n hx hb dX11_readPerson_98 rfl (lv_at hl 6 rfl) ?_
      refine va_get (D := D) (ci := 11) (v := .ref qf) (C := RX11) (T := TX11) (N := 22) hx hb hts iX11 hown hK.1 hP 0 rfl rfl 2 (by decide) (hts _ m_525) (fun _ h9 => h9) rfl dX11_readPerson_99 ?_
      refine lv_iload hx hb dX11_readPerson_102 (lv_at hl 0 rfl) ?_
      refine lv_iconst (v := nI 1) hx hb dX11_readPerson_104 (by decide +kernel) ?_
      refine nv_add hx hb dX11_readPerson_105 ?_
      refine lv_iload_n hx hb dX11_readPerson_106 rfl (lv_at hl 4 rfl) ?_
      refine nv_ast hx hb hK hP hD hS 2 rfl (by omega) (by decide) dX11_readPerson_107 (fun H locs hP hD hS => ?_)
      have hP : va_P D vwCl [(o, .inr (11, [.ref qj, .ref qt, .ref qf, .ref qp, .int (nI un), .ref qk, .ref qq, .int (nI ku), .int (nI ik), .ref qa, .int (nI tnQ), .int (nI th), .int (nI la), .int (nI wo), .int (nI (blk ta tnQ c5Q + 1)), .int (nI fa4), .int (nI fat4), .ref qs, .ref ql, .ref qm, .ref qi, .ref qe])), aN z qa 60 ta, aN z qf 31 (uN (uN ffQ (7 + (4 * (ffQ 6))) (kdF (chA ta tnQ cu))) (7 + (4 * (ffQ 6)) + 1) (dgV ta tnQ c2Q 1))] H := hP
      have hD : va_D A [(o, .inr (11, [.ref qj, .ref qt, .ref qf, .ref qp, .int (nI un), .ref qk, .ref qq, .int (nI ku), .int (nI ik), .ref qa, .int (nI tnQ), .int (nI th), .int (nI la), .int (nI wo), .int (nI (blk ta tnQ c5Q + 1)), .int (nI fa4), .int (nI fat4), .ref qs, .ref ql, .ref qm, .ref qi, .ref qe])), aN z qa 60 ta, aN z qf 31 (uN (uN ffQ (7 + (4 * (ffQ 6))) (kdF (chA ta tnQ cu))) (7 + (4 * (ffQ 6)) + 1) (dgV ta tnQ c2Q 1))] := hD
      refine lv_aload_n hx hb dX11_readPerson_108 rfl (lv_at hl 6 rfl) ?_
      refine va_get (D := D) (ci := 11) (v := .ref qf) (C := RX11) (T := TX11) (N := 22) hx hb hts iX11 hown hK.1 hP 0 rfl rfl 2 (by decide) (hts _ m_525) (fun _ h9 => h9) rfl dX11_readPerson_109 ?_
      refine lv_iload hx hb dX11_readPerson_112 (lv_at hl 0 rfl) ?_
      refine lv_iconst (v := nI 2) hx hb dX11_readPerson_114 (by decide +kernel) ?_
      refine nv_add hx hb dX11_readPerson_115 ?_
      refine lv_iload hx hb dX11_readPerson_116 (lv_at hl 2 rfl) ?_
      refine nv_ast hx hb hK hP hD hS 2 rfl (by omega) (by decide) dX11_readPerson_118 (fun H locs hP hD hS => ?_)
      have hP : va_P D vwCl [(o, .inr (11, [.ref qj, .ref qt, .ref qf, .ref qp, .int (nI un), .ref qk, .ref qq, .int (nI ku), .int (nI ik), .ref qa, .int (nI tnQ), .int (nI th), .int (nI la), .int (nI wo), .int (nI (blk ta tnQ c5Q + 1)), .int (nI fa4), .int (nI fat4), .ref qs, .ref ql, .ref qm, .ref qi, .ref qe])), aN z qa 60 ta, aN z qf 31 (uN (uN (uN ffQ (7 + (4 * (ffQ 6))) (kdF (chA ta tnQ cu))) (7 + (4 * (ffQ 6)) + 1) (dgV ta tnQ c2Q 1)) (7 + (4 * (ffQ 6)) + 2) (10 * (dgV ta tnQ c3Q 0) + (dgV ta tnQ c4Q 0)))] H := hP
      have hD : va_D A [(o, .inr (11, [.ref qj, .ref qt, .ref qf, .ref qp, .int (nI un), .ref qk, .ref qq, .int (nI ku), .int (nI ik), .ref qa, .int (nI tnQ), .int (nI th), .int (nI la), .int (nI wo), .int (nI (blk ta tnQ c5Q + 1)), .int (nI fa4), .int (nI fat4), .ref qs, .ref ql, .ref qm, .ref qi, .ref qe])), aN z qa 60 ta, aN z qf 31 (uN (uN (uN ffQ (7 + (4 * (ffQ 6))) (kdF (chA ta tnQ cu))) (7 + (4 * (ffQ 6)) + 1) (dgV ta tnQ c2Q 1)) (7 + (4 * (ffQ 6)) + 2) (10 * (dgV ta tnQ c3Q 0) + (dgV ta tnQ c4Q 0)))] := hD
      refine lv_aload_n hx hb dX11_readPerson_119 rfl (lv_at hl 6 rfl) ?_
      refine va_get (D := D) (ci := 11) (v := .ref qf) (C := RX11) (T := TX11) (N := 22) hx hb hts iX11 hown hK.1 hP 0 rfl rfl 2 (by decide) (hts _ m_525) (fun _ h9 => h9) rfl dX11_readPerson_120 ?_
      refine lv_iload hx hb dX11_readPerson_123 (lv_at hl 0 rfl) ?_
      refine lv_iconst (v := nI 3) hx hb dX11_readPerson_125 (by decide +kernel) ?_
      refine nv_add hx hb dX11_readPerson_126 ?_
      refine lv_iload hx hb dX11_readPerson_127 (lv_at hl 1 rfl) ?_
      refine nv_beq (tgt := 136) hx hb dX11_readPerson_129 (by decide) (fun hc129 => ?_) (fun hc129 => ?_)
      · exact absurd hc63 hc129
      · refine lv_iconst (v := nI 0) hx hb dX11_readPerson_132 (by decide +kernel) ?_
        refine lv_goto (tgt := 137) hx hb dX11_readPerson_133 (by decide) ?_
        refine nv_ast hx hb hK hP hD hS 2 rfl (by omega) (by decide) dX11_readPerson_137 (fun H locs hP hD hS => ?_)
        have hP : va_P D vwCl [(o, .inr (11, [.ref qj, .ref qt, .ref qf, .ref qp, .int (nI un), .ref qk, .ref qq, .int (nI ku), .int (nI ik), .ref qa, .int (nI tnQ), .int (nI th), .int (nI la), .int (nI wo), .int (nI (blk ta tnQ c5Q + 1)), .int (nI fa4), .int (nI fat4), .ref qs, .ref ql, .ref qm, .ref qi, .ref qe])), aN z qa 60 ta, aN z qf 31 (uN (uN (uN (uN ffQ (7 + (4 * (ffQ 6))) (kdF (chA ta tnQ cu))) (7 + (4 * (ffQ 6)) + 1) (dgV ta tnQ c2Q 1)) (7 + (4 * (ffQ 6)) + 2) (10 * (dgV ta tnQ c3Q 0) + (dgV ta tnQ c4Q 0))) (7 + (4 * (ffQ 6)) + 3) 0)] H := hP
        have hD : va_D A [(o, .inr (11, [.ref qj, .ref qt, .ref qf, .ref qp, .int (nI un), .ref qk, .ref qq, .int (nI ku), .int (nI ik), .ref qa, .int (nI tnQ), .int (nI th), .int (nI la), .int (nI wo), .int (nI (blk ta tnQ c5Q + 1)), .int (nI fa4), .int (nI fat4), .ref qs, .ref ql, .ref qm, .ref qi, .ref qe])), aN z qa 60 ta, aN z qf 31 (uN (uN (uN (uN ffQ (7 + (4 * (ffQ 6))) (kdF (chA ta tnQ cu))) (7 + (4 * (ffQ 6)) + 1) (dgV ta tnQ c2Q 1)) (7 + (4 * (ffQ 6)) + 2) (10 * (dgV ta tnQ c3Q 0) + (dgV ta tnQ c4Q 0))) (7 + (4 * (ffQ 6)) + 3) 0)] := hD
        refine lv_aload_n hx hb dX11_readPerson_138 rfl (lv_at hl 6 rfl) ?_
        refine va_get (D := D) (ci := 11) (v := .ref qf) (C := RX11) (T := TX11) (N := 22) hx hb hts iX11 hown hK.1 hP 0 rfl rfl 2 (by decide) (hts _ m_525) (fun _ h9 => h9) rfl dX11_readPerson_139 ?_
        refine lv_bipush (v := nI 6) hx hb dX11_readPerson_142 (by decide +kernel) ?_
        refine lv_dup2_11 hx hb dX11_readPerson_144 rfl rfl ?_
        refine nv_ald hx hb hK hP 2 rfl (by omega) (by decide) dX11_readPerson_145 ?_
        refine lv_iconst (v := nI 1) hx hb dX11_readPerson_146 (by decide +kernel) ?_
        refine nv_add hx hb dX11_readPerson_147 ?_
        refine nv_ast hx hb hK hP hD hS 2 rfl (by omega) (by decide) dX11_readPerson_148 (fun H locs hP hD hS => ?_)
        have hP : va_P D vwCl [(o, .inr (11, [.ref qj, .ref qt, .ref qf, .ref qp, .int (nI un), .ref qk, .ref qq, .int (nI ku), .int (nI ik), .ref qa, .int (nI tnQ), .int (nI th), .int (nI la), .int (nI wo), .int (nI (blk ta tnQ c5Q + 1)), .int (nI fa4), .int (nI fat4), .ref qs, .ref ql, .ref qm, .ref qi, .ref qe])), aN z qa 60 ta, aN z qf 31 (uN (uN (uN (uN (uN ffQ (7 + (4 * (ffQ 6))) (kdF (chA ta tnQ cu))) (7 + (4 * (ffQ 6)) + 1) (dgV ta tnQ c2Q 1)) (7 + (4 * (ffQ 6)) + 2) (10 * (dgV ta tnQ c3Q 0) + (dgV ta tnQ c4Q 0))) (7 + (4 * (ffQ 6)) + 3) 0) 6 ((uN (uN (uN (uN ffQ (7 + (4 * (ffQ 6))) (kdF (chA ta tnQ cu))) (7 + (4 * (ffQ 6)) + 1) (dgV ta tnQ c2Q 1)) (7 + (4 * (ffQ 6)) + 2) (10 * (dgV ta tnQ c3Q 0) + (dgV ta tnQ c4Q 0))) (7 + (4 * (ffQ 6)) + 3) 0) 6 + 1))] H := hP
        have hD : va_D A [(o, .inr (11, [.ref qj, .ref qt, .ref qf, .ref qp, .int (nI un), .ref qk, .ref qq, .int (nI ku), .int (nI ik), .ref qa, .int (nI tnQ), .int (nI th), .int (nI la), .int (nI wo), .int (nI (blk ta tnQ c5Q + 1)), .int (nI fa4), .int (nI fat4), .ref qs, .ref ql, .ref qm, .ref qi, .ref qe])), aN z qa 60 ta, aN z qf 31 (uN (uN (uN (uN (uN ffQ (7 + (4 * (ffQ 6))) (kdF (chA ta tnQ cu))) (7 + (4 * (ffQ 6)) + 1) (dgV ta tnQ c2Q 1)) (7 + (4 * (ffQ 6)) + 2) (10 * (dgV ta tnQ c3Q 0) + (dgV ta tnQ c4Q 0))) (7 + (4 * (ffQ 6)) + 3) 0) 6 ((uN (uN (uN (uN ffQ (7 + (4 * (ffQ 6))) (kdF (chA ta tnQ cu))) (7 + (4 * (ffQ 6)) + 1) (dgV ta tnQ c2Q 1)) (7 + (4 * (ffQ 6)) + 2) (10 * (dgV ta tnQ c3Q 0) + (dgV ta tnQ c4Q 0))) (7 + (4 * (ffQ 6)) + 3) 0) 6 + 1))] := hD
        exact nv_xv hx hb hr hlocks hS dX11_readPerson_149 (blk ta tnQ c5Q + 1, fa4, fat4, uN (uN (uN (uN (uN ffQ (7 + (4 * (ffQ 6))) (kdF (chA ta tnQ cu))) (7 + (4 * (ffQ 6)) + 1) (dgV ta tnQ c2Q 1)) (7 + (4 * (ffQ 6)) + 2) (10 * (dgV ta tnQ c3Q 0) + (dgV ta tnQ c4Q 0))) (7 + (4 * (ffQ 6)) + 3) 0) 6 ((uN (uN (uN (uN ffQ (7 + (4 * (ffQ 6))) (kdF (chA ta tnQ cu))) (7 + (4 * (ffQ 6)) + 1) (dgV ta tnQ c2Q 1)) (7 + (4 * (ffQ 6)) + 2) (10 * (dgV ta tnQ c3Q 0) + (dgV ta tnQ c4Q 0))) (7 + (4 * (ffQ 6)) + 3) 0) 6 + 1)) hP ⟨hs5, by omega, hf6, fun z9 => hrow z9⟩
  · refine lv_aload_n hx hb dX11_readPerson_11 rfl (lv_at hl 1 rfl) ?_
    refine lv_aload_n hx hb dX11_readPerson_12 rfl (lv_at hl 1 rfl) ?_
    refine va_get (D := D) (ci := 11) (v := .int (nI (blk ta tnQ cu))) (C := RX11) (T := TX11) (N := 22) hx hb hts iX11 hown hK.1 hP 0 rfl rfl 14 (by decide) (hts _ m_595) (fun _ h9 => h9) rfl dX11_readPerson_13 ?_
    have hPc := hP.sub (ws' := [(o, .inr (11, [.ref qj, .ref qt, .ref qf, .ref qp, .int (nI un), .ref qk, .ref qq, .int (nI ku), .int (nI ik), .ref qa, .int (nI tnQ), .int (nI th), .int (nI la), .int (nI wo), .int (nI (blk ta tnQ cu)), .int (nI fa), .int (nI fat), .ref qs, .ref ql, .ref qm, .ref qi, .ref qe]))]) [0] rfl
    have hDc := hD.sub (ws' := [(o, .inr (11, [.ref qj, .ref qt, .ref qf, .ref qp, .int (nI un), .ref qk, .ref qq, .int (nI ku), .int (nI ik), .ref qa, .int (nI tnQ), .int (nI th), .int (nI la), .int (nI wo), .int (nI (blk ta tnQ cu)), .int (nI fa), .int (nI fat), .ref qs, .ref ql, .ref qm, .ref qi, .ref qe]))]) [0] (by decide) rfl
    refine nv_cm0 (wc := [(o, .inr (11, [.ref qj, .ref qt, .ref qf, .ref qp, .int (nI un), .ref qk, .ref qq, .int (nI ku), .int (nI ik), .ref qa, .int (nI tnQ), .int (nI th), .int (nI la), .int (nI wo), .int (nI (blk ta tnQ cu)), .int (nI fa), .int (nI fat), .ref qs, .ref ql, .ref qm, .ref qi, .ref qe]))]) (wr := [aN z qa 60 ta, aN z qf 31 ffQ]) (w1 := [(o, .inr (11, [.ref qj, .ref qt, .ref qf, .ref qp, .int (nI un), .ref qk, .ref qq, .int (nI ku), .int (nI ik), .ref qa, .int (nI tnQ), .int (nI th), .int (nI la), .int (nI wo), .int (nI (blk ta tnQ cu)), .int (nI 1), .int (nI (baF fa fat (blk ta tnQ cu))), .ref qs, .ref ql, .ref qm, .ref qi, .ref qe]))]) (ws1 := [(o, .inr (11, [.ref qj, .ref qt, .ref qf, .ref qp, .int (nI un), .ref qk, .ref qq, .int (nI ku), .int (nI ik), .ref qa, .int (nI tnQ), .int (nI th), .int (nI la), .int (nI wo), .int (nI (blk ta tnQ cu)), .int (nI 1), .int (nI (baF fa fat (blk ta tnQ cu))), .ref qs, .ref ql, .ref qm, .ref qi, .ref qe])), aN z qa 60 ta, aN z qf 31 ffQ]) (va_runV (As := [.int (nI (blk ta tnQ cu))]) (rest := []) ⟨hx, hb, hml, hown, hts⟩ (c_X11_bad l D z H.size o qj qt qf qp qk qq qa qs ql qm qi qe un ku ik tnQ th la wo (blk ta tnQ cu) fa fat (blk ta tnQ cu) (by first | assumption | omega)) (cwV 1 hts (gV m_607 m_608 m_609 m_541 m_596) rfl rfl rfl ⟨rfl, hd_X11_bad⟩ ⟨Nat.le_of_ble_eq_true rfl, Nat.le_of_ble_eq_true rfl⟩) (nv_preMV (ci := 11) (q0 := 0) hK hPc hDc trivial rfl rfl) rfl rfl hl.1 rfl (lv_room (Nat.le_of_ble_eq_true rfl)) dX11_readPerson_16 ⟨by decide, by decide⟩) hP hD hS hA [0] [1, 2] [2, 0, 1] rfl rfl (by decide) (by decide) rfl (by decide) rfl (by decide) (fun H locs hP hD hS hE16 hz16 hf16 => ?_)
    clear hPc hDc
    clear hf16 hz16
    have hk5 : ¬ kdF (chA ta tnQ cu) ≤ 5 := (kd_neg _).mp hc8
    have hm1 : muRel (kdF (chA ta tnQ cu) ≤ 5) fa fat (blk ta tnQ cu) 1 (baF fa fat (blk ta tnQ cu)) := ⟨fun z9 => absurd z9 hk5, fun _ => ⟨rfl, rfl⟩⟩
    have hs1 := sim_kin hsim hm1
    refine lv_aload_n hx hb dX11_readPerson_19 rfl (lv_at hl 1 rfl) ?_
    refine lv_dup hx hb dX11_readPerson_20 rfl ?_
    refine va_get (D := D) (ci := 11) (v := .int (nI (blk ta tnQ cu))) (C := RX11) (T := TX11) (N := 22) hx hb hts iX11 hown hK.1 hP 0 rfl rfl 14 (by decide) (hts _ m_595) (fun _ h9 => h9) rfl dX11_readPerson_21 ?_
    refine lv_iconst (v := nI 1) hx hb dX11_readPerson_24 (by decide +kernel) ?_
    refine nv_add hx hb dX11_readPerson_25 ?_
    refine va_put (D := D) (ci := 11) (v := .int (nI (blk ta tnQ cu + 1))) (ty := tyX11 14) (C := RX11) (T := TX11) (N := 22) hx hb hts iX11 tyX11 tyX11_ok nmX11 hown hK.1 hP hD hS 0 rfl rfl 14 (by decide) (hts _ m_595) (fun _ h9 => h9) rfl (tyX11_ok 14 (by decide)) rfl rfl (Nat.le_of_ble_eq_true rfl) dX11_readPerson_26 (fun H locs hP hD hS => ?_)
    have hP : va_P D vwCl [(o, .inr (11, [.ref qj, .ref qt, .ref qf, .ref qp, .int (nI un), .ref qk, .ref qq, .int (nI ku), .int (nI ik), .ref qa, .int (nI tnQ), .int (nI th), .int (nI la), .int (nI wo), .int (nI (blk ta tnQ cu + 1)), .int (nI 1), .int (nI (baF fa fat (blk ta tnQ cu))), .ref qs, .ref ql, .ref qm, .ref qi, .ref qe])), aN z qa 60 ta, aN z qf 31 ffQ] H := hP
    have hD : va_D A [(o, .inr (11, [.ref qj, .ref qt, .ref qf, .ref qp, .int (nI un), .ref qk, .ref qq, .int (nI ku), .int (nI ik), .ref qa, .int (nI tnQ), .int (nI th), .int (nI la), .int (nI wo), .int (nI (blk ta tnQ cu + 1)), .int (nI 1), .int (nI (baF fa fat (blk ta tnQ cu))), .ref qs, .ref ql, .ref qm, .ref qi, .ref qe])), aN z qa 60 ta, aN z qf 31 ffQ] := hD
    obtain ⟨c2Q, hc2⟩ : ∃ y9 : Nat, y9 = blk ta tnQ cu + 1 := ⟨_, rfl⟩
    rw [← hc2] at hP hD hs1
    have hP : va_P D vwCl [(o, .inr (11, [.ref qj, .ref qt, .ref qf, .ref qp, .int (nI un), .ref qk, .ref qq, .int (nI ku), .int (nI ik), .ref qa, .int (nI tnQ), .int (nI th), .int (nI la), .int (nI wo), .int (nI c2Q), .int (nI 1), .int (nI (baF fa fat (blk ta tnQ cu))), .ref qs, .ref ql, .ref qm, .ref qi, .ref qe])), aN z qa 60 ta, aN z qf 31 ffQ] H := hP
    have hD : va_D A [(o, .inr (11, [.ref qj, .ref qt, .ref qf, .ref qp, .int (nI un), .ref qk, .ref qq, .int (nI ku), .int (nI ik), .ref qa, .int (nI tnQ), .int (nI th), .int (nI la), .int (nI wo), .int (nI c2Q), .int (nI 1), .int (nI (baF fa fat (blk ta tnQ cu))), .ref qs, .ref ql, .ref qm, .ref qi, .ref qe])), aN z qa 60 ta, aN z qf 31 ffQ] := hD
    have hb2 : c2Q ≤ bq + 1 := by omega
    obtain ⟨fb1, hfb1⟩ : ∃ y9 : Nat, y9 = baF fa fat (blk ta tnQ cu) := ⟨_, rfl⟩
    rw [← hfb1] at hP hD hs1
    have hP : va_P D vwCl [(o, .inr (11, [.ref qj, .ref qt, .ref qf, .ref qp, .int (nI un), .ref qk, .ref qq, .int (nI ku), .int (nI ik), .ref qa, .int (nI tnQ), .int (nI th), .int (nI la), .int (nI wo), .int (nI c2Q), .int (nI 1), .int (nI fb1), .ref qs, .ref ql, .ref qm, .ref qi, .ref qe])), aN z qa 60 ta, aN z qf 31 ffQ] H := hP
    have hD : va_D A [(o, .inr (11, [.ref qj, .ref qt, .ref qf, .ref qp, .int (nI un), .ref qk, .ref qq, .int (nI ku), .int (nI ik), .ref qa, .int (nI tnQ), .int (nI th), .int (nI la), .int (nI wo), .int (nI c2Q), .int (nI 1), .int (nI fb1), .ref qs, .ref ql, .ref qm, .ref qi, .ref qe])), aN z qa 60 ta, aN z qf 31 ffQ] := hD
    have hf1 := hs1.fa
    refine lv_aload_n hx hb dX11_readPerson_29 rfl (lv_at hl 1 rfl) ?_
    refine lv_iconst (v := nI 1) hx hb dX11_readPerson_30 (by decide +kernel) ?_
    have hbl2 := blk_le ta tnQ c2Q
    obtain ⟨fa2, fat2, hmu2, hfa2⟩ := mu_ex (isD ta tnQ c2Q 1) 1 fb1 (blk ta tnQ c2Q) (by omega)
    have hPc := hP.sub (ws' := [(o, .inr (11, [.ref qj, .ref qt, .ref qf, .ref qp, .int (nI un), .ref qk, .ref qq, .int (nI ku), .int (nI ik), .ref qa, .int (nI tnQ), .int (nI th), .int (nI la), .int (nI wo), .int (nI c2Q), .int (nI 1), .int (nI fb1), .ref qs, .ref ql, .ref qm, .ref qi, .ref qe])), aN z qa 60 ta]) [0, 1] rfl
    have hDc := hD.sub (ws' := [(o, .inr (11, [.ref qj, .ref qt, .ref qf, .ref qp, .int (nI un), .ref qk, .ref qq, .int (nI ku), .int (nI ik), .ref qa, .int (nI tnQ), .int (nI th), .int (nI la), .int (nI wo), .int (nI c2Q), .int (nI 1), .int (nI fb1), .ref qs, .ref ql, .ref qm, .ref qi, .ref qe])), aN z qa 60 ta]) [0, 1] (by decide) rfl
    refine nv_cm1 (wc := [(o, .inr (11, [.ref qj, .ref qt, .ref qf, .ref qp, .int (nI un), .ref qk, .ref qq, .int (nI ku), .int (nI ik), .ref qa, .int (nI tnQ), .int (nI th), .int (nI la), .int (nI wo), .int (nI c2Q), .int (nI 1), .int (nI fb1), .ref qs, .ref ql, .ref qm, .ref qi, .ref qe])), aN z qa 60 ta]) (wr := [aN z qf 31 ffQ]) (w1 := [(o, .inr (11, [.ref qj, .ref qt, .ref qf, .ref qp, .int (nI un), .ref qk, .ref qq, .int (nI ku), .int (nI ik), .ref qa, .int (nI tnQ), .int (nI th), .int (nI la), .int (nI wo), .int (nI (blk ta tnQ c2Q + 1)), .int (nI fa2), .int (nI fat2), .ref qs, .ref ql, .ref qm, .ref qi, .ref qe])), aN z qa 60 ta]) (ws1 := [(o, .inr (11, [.ref qj, .ref qt, .ref qf, .ref qp, .int (nI un), .ref qk, .ref qq, .int (nI ku), .int (nI ik), .ref qa, .int (nI tnQ), .int (nI th), .int (nI la), .int (nI wo), .int (nI (blk ta tnQ c2Q + 1)), .int (nI fa2), .int (nI fat2), .ref qs, .ref ql, .ref qm, .ref qi, .ref qe])), aN z qa 60 ta, aN z qf 31 ffQ]) (va_runV (As := [.int (nI 1)]) (rest := []) ⟨hx, hb, hml, hown, hts⟩ (c_X11_digit l D z H.size o qj qt qf qp qk qq qa qs ql qm qi qe un ku ik tnQ th la wo c2Q 1 fb1 ta 1 fa2 fat2 (by first | assumption | omega) (by first | assumption | omega) (by first | assumption | omega) (by first | assumption | omega) hmu2) (cwV 1 hts (gV m_618 m_619 m_620 m_541 m_610) rfl rfl rfl ⟨rfl, hd_X11_digit⟩ ⟨Nat.le_of_ble_eq_true rfl, Nat.le_of_ble_eq_true rfl⟩) (nv_preMV (ci := 11) (q0 := 0) hK hPc hDc trivial rfl rfl) rfl rfl hl.1 rfl (lv_room (Nat.le_of_ble_eq_true rfl)) dX11_readPerson_31 ⟨by decide, by decide⟩) hP hD hS hA [0, 1] [2] [1, 2, 0] rfl rfl (by decide) (by decide) rfl (by decide) rfl (by decide) (fun H locs hP hD hS hE31 hz31 hf31 => ?_)
    clear hPc hDc
    clear hf31 hz31
    have hs2 := sim_dig hs1 hmu2
    obtain ⟨c3Q, hc3⟩ : ∃ y9 : Nat, y9 = blk ta tnQ c2Q + 1 := ⟨_, rfl⟩
    rw [← hc3] at hP hD hs2
    have hP : va_P D vwCl [(o, .inr (11, [.ref qj, .ref qt, .ref qf, .ref qp, .int (nI un), .ref qk, .ref qq, .int (nI ku), .int (nI ik), .ref qa, .int (nI tnQ), .int (nI th), .int (nI la), .int (nI wo), .int (nI c3Q), .int (nI fa2), .int (nI fat2), .ref qs, .ref ql, .ref qm, .ref qi, .ref qe])), aN z qa 60 ta, aN z qf 31 ffQ] H := hP
    have hD : va_D A [(o, .inr (11, [.ref qj, .ref qt, .ref qf, .ref qp, .int (nI un), .ref qk, .ref qq, .int (nI ku), .int (nI ik), .ref qa, .int (nI tnQ), .int (nI th), .int (nI la), .int (nI wo), .int (nI c3Q), .int (nI fa2), .int (nI fat2), .ref qs, .ref ql, .ref qm, .ref qi, .ref qe])), aN z qa 60 ta, aN z qf 31 ffQ] := hD
    have hb3 : c3Q ≤ bq + 2 := by omega
    have hf2 := hs2.fa
    refine lv_istore_n (lv' := [(2, .int (nI (dgV ta tnQ c2Q 1))), (1, .int (nI (kdF (chA ta tnQ cu)))), (0, .ref o)]) hx hb dX11_readPerson_34 rfl hl (by decide) rfl (fun ls hl => ?_)
    refine lv_aload_n hx hb dX11_readPerson_35 rfl (lv_at hl 2 rfl) ?_
    refine lv_iconst (v := nI 0) hx hb dX11_readPerson_36 (by decide +kernel) ?_
    have hbl3 := blk_le ta tnQ c3Q
    obtain ⟨fa3, fat3, hmu3, hfa3⟩ := mu_ex (isD ta tnQ c3Q 0) fa2 fat2 (blk ta tnQ c3Q) (by omega)
    have hPc := hP.sub (ws' := [(o, .inr (11, [.ref qj, .ref qt, .ref qf, .ref qp, .int (nI un), .ref qk, .ref qq, .int (nI ku), .int (nI ik), .ref qa, .int (nI tnQ), .int (nI th), .int (nI la), .int (nI wo), .int (nI c3Q), .int (nI fa2), .int (nI fat2), .ref qs, .ref ql, .ref qm, .ref qi, .ref qe])), aN z qa 60 ta]) [0, 1] rfl
    have hDc := hD.sub (ws' := [(o, .inr (11, [.ref qj, .ref qt, .ref qf, .ref qp, .int (nI un), .ref qk, .ref qq, .int (nI ku), .int (nI ik), .ref qa, .int (nI tnQ), .int (nI th), .int (nI la), .int (nI wo), .int (nI c3Q), .int (nI fa2), .int (nI fat2), .ref qs, .ref ql, .ref qm, .ref qi, .ref qe])), aN z qa 60 ta]) [0, 1] (by decide) rfl
    refine nv_cm1 (wc := [(o, .inr (11, [.ref qj, .ref qt, .ref qf, .ref qp, .int (nI un), .ref qk, .ref qq, .int (nI ku), .int (nI ik), .ref qa, .int (nI tnQ), .int (nI th), .int (nI la), .int (nI wo), .int (nI c3Q), .int (nI fa2), .int (nI fat2), .ref qs, .ref ql, .ref qm, .ref qi, .ref qe])), aN z qa 60 ta]) (wr := [aN z qf 31 ffQ]) (w1 := [(o, .inr (11, [.ref qj, .ref qt, .ref qf, .ref qp, .int (nI un), .ref qk, .ref qq, .int (nI ku), .int (nI ik), .ref qa, .int (nI tnQ), .int (nI th), .int (nI la), .int (nI wo), .int (nI (blk ta tnQ c3Q + 1)), .int (nI fa3), .int (nI fat3), .ref qs, .ref ql, .ref qm, .ref qi, .ref qe])), aN z qa 60 ta]) (ws1 := [(o, .inr (11, [.ref qj, .ref qt, .ref qf, .ref qp, .int (nI un), .ref qk, .ref qq, .int (nI ku), .int (nI ik), .ref qa, .int (nI tnQ), .int (nI th), .int (nI la), .int (nI wo), .int (nI (blk ta tnQ c3Q + 1)), .int (nI fa3), .int (nI fat3), .ref qs, .ref ql, .ref qm, .ref qi, .ref qe])), aN z qa 60 ta, aN z qf 31 ffQ]) (va_runV (As := [.int (nI 0)]) (rest := []) ⟨hx, hb, hml, hown, hts⟩ (c_X11_digit l D z H.size o qj qt qf qp qk qq qa qs ql qm qi qe un ku ik tnQ th la wo c3Q fa2 fat2 ta 0 fa3 fat3 (by first | assumption | omega) (by first | assumption | omega) (by first | assumption | omega) (by first | assumption | omega) hmu3) (cwV 1 hts (gV m_618 m_619 m_620 m_541 m_610) rfl rfl rfl ⟨rfl, hd_X11_digit⟩ ⟨Nat.le_of_ble_eq_true rfl, Nat.le_of_ble_eq_true rfl⟩) (nv_preMV (ci := 11) (q0 := 0) hK hPc hDc trivial rfl rfl) rfl rfl hl.1 rfl (lv_room (Nat.le_of_ble_eq_true rfl)) dX11_readPerson_37 ⟨by decide, by decide⟩) hP hD hS hA [0, 1] [2] [1, 2, 0] rfl rfl (by decide) (by decide) rfl (by decide) rfl (by decide) (fun H locs hP hD hS hE37 hz37 hf37 => ?_)
    clear hPc hDc
    clear hf37 hz37
    have hs3 := sim_dig hs2 hmu3
    obtain ⟨c4Q, hc4⟩ : ∃ y9 : Nat, y9 = blk ta tnQ c3Q + 1 := ⟨_, rfl⟩
    rw [← hc4] at hP hD hs3
    have hP : va_P D vwCl [(o, .inr (11, [.ref qj, .ref qt, .ref qf, .ref qp, .int (nI un), .ref qk, .ref qq, .int (nI ku), .int (nI ik), .ref qa, .int (nI tnQ), .int (nI th), .int (nI la), .int (nI wo), .int (nI c4Q), .int (nI fa3), .int (nI fat3), .ref qs, .ref ql, .ref qm, .ref qi, .ref qe])), aN z qa 60 ta, aN z qf 31 ffQ] H := hP
    have hD : va_D A [(o, .inr (11, [.ref qj, .ref qt, .ref qf, .ref qp, .int (nI un), .ref qk, .ref qq, .int (nI ku), .int (nI ik), .ref qa, .int (nI tnQ), .int (nI th), .int (nI la), .int (nI wo), .int (nI c4Q), .int (nI fa3), .int (nI fat3), .ref qs, .ref ql, .ref qm, .ref qi, .ref qe])), aN z qa 60 ta, aN z qf 31 ffQ] := hD
    have hb4 : c4Q ≤ bq + 3 := by omega
    have hf3 := hs3.fa
    refine lv_istore_n (lv' := [(3, .int (nI (dgV ta tnQ c3Q 0))), (2, .int (nI (dgV ta tnQ c2Q 1))), (1, .int (nI (kdF (chA ta tnQ cu)))), (0, .ref o)]) hx hb dX11_readPerson_40 rfl hl (by decide) rfl (fun ls hl => ?_)
    refine lv_bipush (v := nI 10) hx hb dX11_readPerson_41 (by decide +kernel) ?_
    refine lv_iload_n hx hb dX11_readPerson_43 rfl (lv_at hl 0 rfl) ?_
    refine nv_mul hx hb dX11_readPerson_44 ?_
    refine lv_aload_n hx hb dX11_readPerson_45 rfl (lv_at hl 3 rfl) ?_
    refine lv_iconst (v := nI 0) hx hb dX11_readPerson_46 (by decide +kernel) ?_
    have hbl4 := blk_le ta tnQ c4Q
    obtain ⟨fa4, fat4, hmu4, hfa4⟩ := mu_ex (isD ta tnQ c4Q 0) fa3 fat3 (blk ta tnQ c4Q) (by omega)
    have hPc := hP.sub (ws' := [(o, .inr (11, [.ref qj, .ref qt, .ref qf, .ref qp, .int (nI un), .ref qk, .ref qq, .int (nI ku), .int (nI ik), .ref qa, .int (nI tnQ), .int (nI th), .int (nI la), .int (nI wo), .int (nI c4Q), .int (nI fa3), .int (nI fat3), .ref qs, .ref ql, .ref qm, .ref qi, .ref qe])), aN z qa 60 ta]) [0, 1] rfl
    have hDc := hD.sub (ws' := [(o, .inr (11, [.ref qj, .ref qt, .ref qf, .ref qp, .int (nI un), .ref qk, .ref qq, .int (nI ku), .int (nI ik), .ref qa, .int (nI tnQ), .int (nI th), .int (nI la), .int (nI wo), .int (nI c4Q), .int (nI fa3), .int (nI fat3), .ref qs, .ref ql, .ref qm, .ref qi, .ref qe])), aN z qa 60 ta]) [0, 1] (by decide) rfl
    refine nv_cm1 (wc := [(o, .inr (11, [.ref qj, .ref qt, .ref qf, .ref qp, .int (nI un), .ref qk, .ref qq, .int (nI ku), .int (nI ik), .ref qa, .int (nI tnQ), .int (nI th), .int (nI la), .int (nI wo), .int (nI c4Q), .int (nI fa3), .int (nI fat3), .ref qs, .ref ql, .ref qm, .ref qi, .ref qe])), aN z qa 60 ta]) (wr := [aN z qf 31 ffQ]) (w1 := [(o, .inr (11, [.ref qj, .ref qt, .ref qf, .ref qp, .int (nI un), .ref qk, .ref qq, .int (nI ku), .int (nI ik), .ref qa, .int (nI tnQ), .int (nI th), .int (nI la), .int (nI wo), .int (nI (blk ta tnQ c4Q + 1)), .int (nI fa4), .int (nI fat4), .ref qs, .ref ql, .ref qm, .ref qi, .ref qe])), aN z qa 60 ta]) (ws1 := [(o, .inr (11, [.ref qj, .ref qt, .ref qf, .ref qp, .int (nI un), .ref qk, .ref qq, .int (nI ku), .int (nI ik), .ref qa, .int (nI tnQ), .int (nI th), .int (nI la), .int (nI wo), .int (nI (blk ta tnQ c4Q + 1)), .int (nI fa4), .int (nI fat4), .ref qs, .ref ql, .ref qm, .ref qi, .ref qe])), aN z qa 60 ta, aN z qf 31 ffQ]) (va_runV (As := [.int (nI 0)]) (rest := [.int (nI (10 * (dgV ta tnQ c3Q 0)))]) ⟨hx, hb, hml, hown, hts⟩ (c_X11_digit l D z H.size o qj qt qf qp qk qq qa qs ql qm qi qe un ku ik tnQ th la wo c4Q fa3 fat3 ta 0 fa4 fat4 (by first | assumption | omega) (by first | assumption | omega) (by first | assumption | omega) (by first | assumption | omega) hmu4) (cwV 1 hts (gV m_618 m_619 m_620 m_541 m_610) rfl rfl rfl ⟨rfl, hd_X11_digit⟩ ⟨Nat.le_of_ble_eq_true rfl, Nat.le_of_ble_eq_true rfl⟩) (nv_preMV (ci := 11) (q0 := 0) hK hPc hDc trivial rfl rfl) rfl rfl hl.1 rfl (lv_room (Nat.le_of_ble_eq_true rfl)) dX11_readPerson_47 ⟨by decide, by decide⟩) hP hD hS hA [0, 1] [2] [1, 2, 0] rfl rfl (by decide) (by decide) rfl (by decide) rfl (by decide) (fun H locs hP hD hS hE47 hz47 hf47 => ?_)
    clear hPc hDc
    clear hf47 hz47
    have hs4 := sim_dig hs3 hmu4
    obtain ⟨c5Q, hc5⟩ : ∃ y9 : Nat, y9 = blk ta tnQ c4Q + 1 := ⟨_, rfl⟩
    rw [← hc5] at hP hD hs4
    have hP : va_P D vwCl [(o, .inr (11, [.ref qj, .ref qt, .ref qf, .ref qp, .int (nI un), .ref qk, .ref qq, .int (nI ku), .int (nI ik), .ref qa, .int (nI tnQ), .int (nI th), .int (nI la), .int (nI wo), .int (nI c5Q), .int (nI fa4), .int (nI fat4), .ref qs, .ref ql, .ref qm, .ref qi, .ref qe])), aN z qa 60 ta, aN z qf 31 ffQ] H := hP
    have hD : va_D A [(o, .inr (11, [.ref qj, .ref qt, .ref qf, .ref qp, .int (nI un), .ref qk, .ref qq, .int (nI ku), .int (nI ik), .ref qa, .int (nI tnQ), .int (nI th), .int (nI la), .int (nI wo), .int (nI c5Q), .int (nI fa4), .int (nI fat4), .ref qs, .ref ql, .ref qm, .ref qi, .ref qe])), aN z qa 60 ta, aN z qf 31 ffQ] := hD
    have hb5 : c5Q ≤ bq + 4 := by omega
    have hf4 := hs4.fa
    refine nv_add hx hb dX11_readPerson_50 ?_
    refine lv_istore (lv' := [(4, .int (nI (10 * (dgV ta tnQ c3Q 0) + (dgV ta tnQ c4Q 0)))), (3, .int (nI (dgV ta tnQ c3Q 0))), (2, .int (nI (dgV ta tnQ c2Q 1))), (1, .int (nI (kdF (chA ta tnQ cu)))), (0, .ref o)]) hx hb dX11_readPerson_51 hl (by decide) rfl (fun ls hl => ?_)
    refine lv_aload_n hx hb dX11_readPerson_53 rfl (lv_at hl 4 rfl) ?_
    refine lv_bipush (v := nI 120) hx hb dX11_readPerson_54 (by decide +kernel) ?_
    have hbl5 := blk_le ta tnQ c5Q
    have hPc := hP.sub (ws' := [(o, .inr (11, [.ref qj, .ref qt, .ref qf, .ref qp, .int (nI un), .ref qk, .ref qq, .int (nI ku), .int (nI ik), .ref qa, .int (nI tnQ), .int (nI th), .int (nI la), .int (nI wo), .int (nI c5Q), .int (nI fa4), .int (nI fat4), .ref qs, .ref ql, .ref qm, .ref qi, .ref qe])), aN z qa 60 ta]) [0, 1] rfl
    have hDc := hD.sub (ws' := [(o, .inr (11, [.ref qj, .ref qt, .ref qf, .ref qp, .int (nI un), .ref qk, .ref qq, .int (nI ku), .int (nI ik), .ref qa, .int (nI tnQ), .int (nI th), .int (nI la), .int (nI wo), .int (nI c5Q), .int (nI fa4), .int (nI fat4), .ref qs, .ref ql, .ref qm, .ref qi, .ref qe])), aN z qa 60 ta]) [0, 1] (by decide) rfl
    refine nv_cm1 (wc := [(o, .inr (11, [.ref qj, .ref qt, .ref qf, .ref qp, .int (nI un), .ref qk, .ref qq, .int (nI ku), .int (nI ik), .ref qa, .int (nI tnQ), .int (nI th), .int (nI la), .int (nI wo), .int (nI c5Q), .int (nI fa4), .int (nI fat4), .ref qs, .ref ql, .ref qm, .ref qi, .ref qe])), aN z qa 60 ta]) (wr := [aN z qf 31 ffQ]) (w1 := [(o, .inr (11, [.ref qj, .ref qt, .ref qf, .ref qp, .int (nI un), .ref qk, .ref qq, .int (nI ku), .int (nI ik), .ref qa, .int (nI tnQ), .int (nI th), .int (nI la), .int (nI wo), .int (nI (blk ta tnQ c5Q)), .int (nI fa4), .int (nI fat4), .ref qs, .ref ql, .ref qm, .ref qi, .ref qe])), aN z qa 60 ta]) (ws1 := [(o, .inr (11, [.ref qj, .ref qt, .ref qf, .ref qp, .int (nI un), .ref qk, .ref qq, .int (nI ku), .int (nI ik), .ref qa, .int (nI tnQ), .int (nI th), .int (nI la), .int (nI wo), .int (nI (blk ta tnQ c5Q)), .int (nI fa4), .int (nI fat4), .ref qs, .ref ql, .ref qm, .ref qi, .ref qe])), aN z qa 60 ta, aN z qf 31 ffQ]) (va_runV (As := [.int (nI 120)]) (rest := []) ⟨hx, hb, hml, hown, hts⟩ (c_X11_isNext l D z H.size o qj qt qf qp qk qq qa qs ql qm qi qe un ku ik tnQ th la wo c5Q fa4 fat4 ta 120 (by first | assumption | omega) (by first | assumption | omega) (by first | assumption | omega) (by first | assumption | omega)) (cwV 1 hts (gV m_604 m_605 m_606 m_541 m_599) rfl rfl rfl ⟨rfl, hd_X11_isNext⟩ ⟨Nat.le_of_ble_eq_true rfl, Nat.le_of_ble_eq_true rfl⟩) (nv_preMV (ci := 11) (q0 := 0) hK hPc hDc trivial rfl rfl) rfl rfl hl.1 rfl (lv_room (Nat.le_of_ble_eq_true rfl)) dX11_readPerson_56 ⟨by decide, by decide⟩) hP hD hS hA [0, 1] [2] [1, 2, 0] rfl rfl (by decide) (by decide) rfl (by decide) rfl (by decide) (fun H locs hP hD hS hE56 hz56 hf56 => ?_)
    clear hPc hDc
    clear hf56 hz56
    refine lv_istore (lv' := [(5, .int (bI (fa4 = 0 ∧ isC ta tnQ c5Q 120))), (4, .int (nI (10 * (dgV ta tnQ c3Q 0) + (dgV ta tnQ c4Q 0)))), (3, .int (nI (dgV ta tnQ c3Q 0))), (2, .int (nI (dgV ta tnQ c2Q 1))), (1, .int (nI (kdF (chA ta tnQ cu)))), (0, .ref o)]) hx hb dX11_readPerson_59 hl (by decide) rfl (fun ls hl => ?_)
    refine lv_iload hx hb dX11_readPerson_61 (lv_at hl 0 rfl) ?_
    refine nv_beq (tgt := 76) hx hb dX11_readPerson_63 (by decide) (fun hc63 => ?_) (fun hc63 => ?_)
    · have hs5 : simM ta tnQ (blk ta tnQ c5Q) fa4 fat4 (aPer ta tnQ q9s) := sim_opt0 hs4 hc63
      have hrow : (aPer ta tnQ q9s).1 = 0 → adpR ffQ (kdF (chA ta tnQ cu)) (dgV ta tnQ c2Q 1) (10 * dgV ta tnQ c3Q 0 + dgV ta tnQ c4Q 0) 1 = aRow ta tnQ q9s ffQ := by
        intro z9
        have z4 : (aP4 ta tnQ q9s).1 = 0 := aOpt_0 z9
        have z3 : (aP3 ta tnQ q9s).1 = 0 := aDig_0 z4
        have z2 : (aP2 ta tnQ q9s).1 = 0 := aDig_0 z3
        have z1 : (aP1 ta tnQ q9s).1 = 0 := aDig_0 z2
        have z0 : q9s.1 = 0 := aKin_0 z1
        unfold aRow aPx
        rw [if_neg (fun y9 => hc63 ⟨hf4.2.mpr z4, (isC_e (sim_blk (q := aP4 ta tnQ q9s) hs4 z4).2).mpr y9⟩)]
        rw [chA_e (sim_blk hsim z0).2, dgV_e 1 (sim_blk (q := aP1 ta tnQ q9s) hs1 z1).2, dgV_e 0 (sim_blk (q := aP2 ta tnQ q9s) hs2 z2).2, dgV_e 0 (sim_blk (q := aP3 ta tnQ q9s) hs3 z3).2]
      have hf6 := adpR_6 ffQ (kdF (chA ta tnQ cu)) (dgV ta tnQ c2Q 1) (10 * dgV ta tnQ c3Q 0 + dgV ta tnQ c4Q 0) 1
      have hf5 := adpX_6 ffQ (kdF (chA ta tnQ cu)) (dgV ta tnQ c2Q 1) (10 * dgV ta tnQ c3Q 0 + dgV ta tnQ c4Q 0) 1
      refine lv_bipush (v := nI 7) hx hb dX11_readPerson_76 (by decide +kernel) ?_
      refine lv_iconst (v := nI 4) hx hb dX11_readPerson_78 (by decide +kernel) ?_
      refine lv_aload_n hx hb dX11_readPerson_79 rfl (lv_at hl 5 rfl) ?_
      refine va_get (D := D) (ci := 11) (v := .ref qf) (C := RX11) (T := TX11) (N := 22) hx hb hts iX11 hown hK.1 hP 0 rfl rfl 2 (by decide) (hts _ m_525) (fun _ h9 => h9) rfl dX11_readPerson_80 ?_
      refine lv_bipush (v := nI 6) hx hb dX11_readPerson_83 (by decide +kernel) ?_
      refine nv_ald hx hb hK hP 2 rfl (by omega) (by decide) dX11_readPerson_85 ?_
      refine nv_mul hx hb dX11_readPerson_86 ?_
      refine nv_add hx hb dX11_readPerson_87 ?_
      refine lv_istore (lv' := [(6, .int (nI (7 + (4 * (ffQ 6))))), (5, .int (bI (fa4 = 0 ∧ isC ta tnQ c5Q 120))), (4, .int (nI (10 * (dgV ta tnQ c3Q 0) + (dgV ta tnQ c4Q 0)))), (3, .int (nI (dgV ta tnQ c3Q 0))), (2, .int (nI (dgV ta tnQ c2Q 1))), (1, .int (nI (kdF (chA ta tnQ cu)))), (0, .ref o)]) hx hb dX11_readPerson_88 hl (by decide) rfl (fun ls hl => ?_)
      refine lv_aload_n hx hb dX11_readPerson_90 rfl (lv_at hl 6 rfl) ?_
      refine va_get (D := D) (ci := 11) (v := .ref qf) (C := RX11) (T := TX11) (N := 22) hx hb hts iX11 hown hK.1 hP 0 rfl rfl 2 (by decide) (hts _ m_525) (fun _ h9 => h9) rfl dX11_readPerson_91 ?_
      refine lv_iload hx hb dX11_readPerson_94 (lv_at hl 0 rfl) ?_
      refine lv_iload_n hx hb dX11_readPerson_96 rfl (lv_at hl 5 rfl) ?_
      refine nv_ast hx hb hK hP hD hS 2 rfl (by omega) (by decide) dX11_readPerson_97 (fun H locs hP hD hS => ?_)
      have hP : va_P D vwCl [(o, .inr (11, [.ref qj, .ref qt, .ref qf, .ref qp, .int (nI un), .ref qk, .ref qq, .int (nI ku), .int (nI ik), .ref qa, .int (nI tnQ), .int (nI th), .int (nI la), .int (nI wo), .int (nI (blk ta tnQ c5Q)), .int (nI fa4), .int (nI fat4), .ref qs, .ref ql, .ref qm, .ref qi, .ref qe])), aN z qa 60 ta, aN z qf 31 (uN ffQ (7 + (4 * (ffQ 6))) (kdF (chA ta tnQ cu)))] H := hP
      have hD : va_D A [(o, .inr (11, [.ref qj, .ref qt, .ref qf, .ref qp, .int (nI un), .ref qk, .ref qq, .int (nI ku), .int (nI ik), .ref qa, .int (nI tnQ), .int (nI th), .int (nI la), .int (nI wo), .int (nI (blk ta tnQ c5Q)), .int (nI fa4), .int (nI fat4), .ref qs, .ref ql, .ref qm, .ref qi, .ref qe])), aN z qa 60 ta, aN z qf 31 (uN ffQ (7 + (4 * (ffQ 6))) (kdF (chA ta tnQ cu)))] := hD
      refine lv_aload_n hx hb dX11_readPerson_98 rfl (lv_at hl 6 rfl) ?_
      refine va_get (D := D) (ci := 11) (v := .ref qf) (C := RX11) (T := TX11) (N := 22) hx hb hts iX11 hown hK.1 hP 0 rfl rfl 2 (by decide) (hts _ m_525) (fun _ h9 => h9) rfl dX11_readPerson_99 ?_
      refine lv_iload hx hb dX11_readPerson_102 (lv_at hl 0 rfl) ?_
      refine lv_iconst (v := nI 1) hx hb dX11_readPerson_104 (by decide +kernel) ?_
      refine nv_add hx hb dX11_readPerson_105 ?_
      refine lv_iload_n hx hb dX11_readPerson_106 rfl (lv_at hl 4 rfl) ?_
      refine nv_ast hx hb hK hP hD hS 2 rfl (by omega) (by decide) dX11_readPerson_107 (fun H locs hP hD hS => ?_)
      have hP : va_P D vwCl [(o, .inr (11, [.ref qj, .ref qt, .ref qf, .ref qp, .int (nI un), .ref qk, .ref qq, .int (nI ku), .int (nI ik), .ref qa, .int (nI tnQ), .int (nI th), .int (nI la), .int (nI wo), .int (nI (blk ta tnQ c5Q)), .int (nI fa4), .int (nI fat4), .ref qs, .ref ql, .ref qm, .ref qi, .ref qe])), aN z qa 60 ta, aN z qf 31 (uN (uN ffQ (7 + (4 * (ffQ 6))) (kdF (chA ta tnQ cu))) (7 + (4 * (ffQ 6)) + 1) (dgV ta tnQ c2Q 1))] H := hP
      have hD : va_D A [(o, .inr (11, [.ref qj, .ref qt, .ref qf, .ref qp, .int (nI un), .ref qk, .ref qq, .int (nI ku), .int (nI ik), .ref qa, .int (nI tnQ), .int (nI th), .int (nI la), .int (nI wo), .int (nI (blk ta tnQ c5Q)), .int (nI fa4), .int (nI fat4), .ref qs, .ref ql, .ref qm, .ref qi, .ref qe])), aN z qa 60 ta, aN z qf 31 (uN (uN ffQ (7 + (4 * (ffQ 6))) (kdF (chA ta tnQ cu))) (7 + (4 * (ffQ 6)) + 1) (dgV ta tnQ c2Q 1))] := hD
      refine lv_aload_n hx hb dX11_readPerson_108 rfl (lv_at hl 6 rfl) ?_
      refine va_get (D := D) (ci := 11) (v := .ref qf) (C := RX11) (T := TX11) (N := 22) hx hb hts iX11 hown hK.1 hP 0 rfl rfl 2 (by decide) (hts _ m_525) (fun _ h9 => h9) rfl dX11_readPerson_109 ?_
      refine lv_iload hx hb dX11_readPerson_112 (lv_at hl 0 rfl) ?_
      refine lv_iconst (v := nI 2) hx hb dX11_readPerson_114 (by decide +kernel) ?_
      refine nv_add hx hb dX11_readPerson_115 ?_
      refine lv_iload hx hb dX11_readPerson_116 (lv_at hl 2 rfl) ?_
      refine nv_ast hx hb hK hP hD hS 2 rfl (by omega) (by decide) dX11_readPerson_118 (fun H locs hP hD hS => ?_)
      have hP : va_P D vwCl [(o, .inr (11, [.ref qj, .ref qt, .ref qf, .ref qp, .int (nI un), .ref qk, .ref qq, .int (nI ku), .int (nI ik), .ref qa, .int (nI tnQ), .int (nI th), .int (nI la), .int (nI wo), .int (nI (blk ta tnQ c5Q)), .int (nI fa4), .int (nI fat4), .ref qs, .ref ql, .ref qm, .ref qi, .ref qe])), aN z qa 60 ta, aN z qf 31 (uN (uN (uN ffQ (7 + (4 * (ffQ 6))) (kdF (chA ta tnQ cu))) (7 + (4 * (ffQ 6)) + 1) (dgV ta tnQ c2Q 1)) (7 + (4 * (ffQ 6)) + 2) (10 * (dgV ta tnQ c3Q 0) + (dgV ta tnQ c4Q 0)))] H := hP
      have hD : va_D A [(o, .inr (11, [.ref qj, .ref qt, .ref qf, .ref qp, .int (nI un), .ref qk, .ref qq, .int (nI ku), .int (nI ik), .ref qa, .int (nI tnQ), .int (nI th), .int (nI la), .int (nI wo), .int (nI (blk ta tnQ c5Q)), .int (nI fa4), .int (nI fat4), .ref qs, .ref ql, .ref qm, .ref qi, .ref qe])), aN z qa 60 ta, aN z qf 31 (uN (uN (uN ffQ (7 + (4 * (ffQ 6))) (kdF (chA ta tnQ cu))) (7 + (4 * (ffQ 6)) + 1) (dgV ta tnQ c2Q 1)) (7 + (4 * (ffQ 6)) + 2) (10 * (dgV ta tnQ c3Q 0) + (dgV ta tnQ c4Q 0)))] := hD
      refine lv_aload_n hx hb dX11_readPerson_119 rfl (lv_at hl 6 rfl) ?_
      refine va_get (D := D) (ci := 11) (v := .ref qf) (C := RX11) (T := TX11) (N := 22) hx hb hts iX11 hown hK.1 hP 0 rfl rfl 2 (by decide) (hts _ m_525) (fun _ h9 => h9) rfl dX11_readPerson_120 ?_
      refine lv_iload hx hb dX11_readPerson_123 (lv_at hl 0 rfl) ?_
      refine lv_iconst (v := nI 3) hx hb dX11_readPerson_125 (by decide +kernel) ?_
      refine nv_add hx hb dX11_readPerson_126 ?_
      refine lv_iload hx hb dX11_readPerson_127 (lv_at hl 1 rfl) ?_
      refine nv_beq (tgt := 136) hx hb dX11_readPerson_129 (by decide) (fun hc129 => ?_) (fun hc129 => ?_)
      · refine lv_iconst (v := nI 1) hx hb dX11_readPerson_136 (by decide +kernel) ?_
        refine nv_ast hx hb hK hP hD hS 2 rfl (by omega) (by decide) dX11_readPerson_137 (fun H locs hP hD hS => ?_)
        have hP : va_P D vwCl [(o, .inr (11, [.ref qj, .ref qt, .ref qf, .ref qp, .int (nI un), .ref qk, .ref qq, .int (nI ku), .int (nI ik), .ref qa, .int (nI tnQ), .int (nI th), .int (nI la), .int (nI wo), .int (nI (blk ta tnQ c5Q)), .int (nI fa4), .int (nI fat4), .ref qs, .ref ql, .ref qm, .ref qi, .ref qe])), aN z qa 60 ta, aN z qf 31 (uN (uN (uN (uN ffQ (7 + (4 * (ffQ 6))) (kdF (chA ta tnQ cu))) (7 + (4 * (ffQ 6)) + 1) (dgV ta tnQ c2Q 1)) (7 + (4 * (ffQ 6)) + 2) (10 * (dgV ta tnQ c3Q 0) + (dgV ta tnQ c4Q 0))) (7 + (4 * (ffQ 6)) + 3) 1)] H := hP
        have hD : va_D A [(o, .inr (11, [.ref qj, .ref qt, .ref qf, .ref qp, .int (nI un), .ref qk, .ref qq, .int (nI ku), .int (nI ik), .ref qa, .int (nI tnQ), .int (nI th), .int (nI la), .int (nI wo), .int (nI (blk ta tnQ c5Q)), .int (nI fa4), .int (nI fat4), .ref qs, .ref ql, .ref qm, .ref qi, .ref qe])), aN z qa 60 ta, aN z qf 31 (uN (uN (uN (uN ffQ (7 + (4 * (ffQ 6))) (kdF (chA ta tnQ cu))) (7 + (4 * (ffQ 6)) + 1) (dgV ta tnQ c2Q 1)) (7 + (4 * (ffQ 6)) + 2) (10 * (dgV ta tnQ c3Q 0) + (dgV ta tnQ c4Q 0))) (7 + (4 * (ffQ 6)) + 3) 1)] := hD
        refine lv_aload_n hx hb dX11_readPerson_138 rfl (lv_at hl 6 rfl) ?_
        refine va_get (D := D) (ci := 11) (v := .ref qf) (C := RX11) (T := TX11) (N := 22) hx hb hts iX11 hown hK.1 hP 0 rfl rfl 2 (by decide) (hts _ m_525) (fun _ h9 => h9) rfl dX11_readPerson_139 ?_
        refine lv_bipush (v := nI 6) hx hb dX11_readPerson_142 (by decide +kernel) ?_
        refine lv_dup2_11 hx hb dX11_readPerson_144 rfl rfl ?_
        refine nv_ald hx hb hK hP 2 rfl (by omega) (by decide) dX11_readPerson_145 ?_
        refine lv_iconst (v := nI 1) hx hb dX11_readPerson_146 (by decide +kernel) ?_
        refine nv_add hx hb dX11_readPerson_147 ?_
        refine nv_ast hx hb hK hP hD hS 2 rfl (by omega) (by decide) dX11_readPerson_148 (fun H locs hP hD hS => ?_)
        have hP : va_P D vwCl [(o, .inr (11, [.ref qj, .ref qt, .ref qf, .ref qp, .int (nI un), .ref qk, .ref qq, .int (nI ku), .int (nI ik), .ref qa, .int (nI tnQ), .int (nI th), .int (nI la), .int (nI wo), .int (nI (blk ta tnQ c5Q)), .int (nI fa4), .int (nI fat4), .ref qs, .ref ql, .ref qm, .ref qi, .ref qe])), aN z qa 60 ta, aN z qf 31 (uN (uN (uN (uN (uN ffQ (7 + (4 * (ffQ 6))) (kdF (chA ta tnQ cu))) (7 + (4 * (ffQ 6)) + 1) (dgV ta tnQ c2Q 1)) (7 + (4 * (ffQ 6)) + 2) (10 * (dgV ta tnQ c3Q 0) + (dgV ta tnQ c4Q 0))) (7 + (4 * (ffQ 6)) + 3) 1) 6 ((uN (uN (uN (uN ffQ (7 + (4 * (ffQ 6))) (kdF (chA ta tnQ cu))) (7 + (4 * (ffQ 6)) + 1) (dgV ta tnQ c2Q 1)) (7 + (4 * (ffQ 6)) + 2) (10 * (dgV ta tnQ c3Q 0) + (dgV ta tnQ c4Q 0))) (7 + (4 * (ffQ 6)) + 3) 1) 6 + 1))] H := hP
        have hD : va_D A [(o, .inr (11, [.ref qj, .ref qt, .ref qf, .ref qp, .int (nI un), .ref qk, .ref qq, .int (nI ku), .int (nI ik), .ref qa, .int (nI tnQ), .int (nI th), .int (nI la), .int (nI wo), .int (nI (blk ta tnQ c5Q)), .int (nI fa4), .int (nI fat4), .ref qs, .ref ql, .ref qm, .ref qi, .ref qe])), aN z qa 60 ta, aN z qf 31 (uN (uN (uN (uN (uN ffQ (7 + (4 * (ffQ 6))) (kdF (chA ta tnQ cu))) (7 + (4 * (ffQ 6)) + 1) (dgV ta tnQ c2Q 1)) (7 + (4 * (ffQ 6)) + 2) (10 * (dgV ta tnQ c3Q 0) + (dgV ta tnQ c4Q 0))) (7 + (4 * (ffQ 6)) + 3) 1) 6 ((uN (uN (uN (uN ffQ (7 + (4 * (ffQ 6))) (kdF (chA ta tnQ cu))) (7 + (4 * (ffQ 6)) + 1) (dgV ta tnQ c2Q 1)) (7 + (4 * (ffQ 6)) + 2) (10 * (dgV ta tnQ c3Q 0) + (dgV ta tnQ c4Q 0))) (7 + (4 * (ffQ 6)) + 3) 1) 6 + 1))] := hD
        exact nv_xv hx hb hr hlocks hS dX11_readPerson_149 (blk ta tnQ c5Q, fa4, fat4, uN (uN (uN (uN (uN ffQ (7 + (4 * (ffQ 6))) (kdF (chA ta tnQ cu))) (7 + (4 * (ffQ 6)) + 1) (dgV ta tnQ c2Q 1)) (7 + (4 * (ffQ 6)) + 2) (10 * (dgV ta tnQ c3Q 0) + (dgV ta tnQ c4Q 0))) (7 + (4 * (ffQ 6)) + 3) 1) 6 ((uN (uN (uN (uN ffQ (7 + (4 * (ffQ 6))) (kdF (chA ta tnQ cu))) (7 + (4 * (ffQ 6)) + 1) (dgV ta tnQ c2Q 1)) (7 + (4 * (ffQ 6)) + 2) (10 * (dgV ta tnQ c3Q 0) + (dgV ta tnQ c4Q 0))) (7 + (4 * (ffQ 6)) + 3) 1) 6 + 1)) hP ⟨hs5, by omega, hf6, fun z9 => hrow z9⟩
      · exact absurd hc129 hc63
    · refine lv_aload_n hx hb dX11_readPerson_66 rfl (lv_at hl 5 rfl) ?_
      refine lv_dup hx hb dX11_readPerson_67 rfl ?_
      refine va_get (D := D) (ci := 11) (v := .int (nI (blk ta tnQ c5Q))) (C := RX11) (T := TX11) (N := 22) hx hb hts iX11 hown hK.1 hP 0 rfl rfl 14 (by decide) (hts _ m_595) (fun _ h9 => h9) rfl dX11_readPerson_68 ?_
      refine lv_iconst (v := nI 1) hx hb dX11_readPerson_71 (by decide +kernel) ?_
      refine nv_add hx hb dX11_readPerson_72 ?_
      refine va_put (D := D) (ci := 11) (v := .int (nI (blk ta tnQ c5Q + 1))) (ty := tyX11 14) (C := RX11) (T := TX11) (N := 22) hx hb hts iX11 tyX11 tyX11_ok nmX11 hown hK.1 hP hD hS 0 rfl rfl 14 (by decide) (hts _ m_595) (fun _ h9 => h9) rfl (tyX11_ok 14 (by decide)) rfl rfl (Nat.le_of_ble_eq_true rfl) dX11_readPerson_73 (fun H locs hP hD hS => ?_)
      have hP : va_P D vwCl [(o, .inr (11, [.ref qj, .ref qt, .ref qf, .ref qp, .int (nI un), .ref qk, .ref qq, .int (nI ku), .int (nI ik), .ref qa, .int (nI tnQ), .int (nI th), .int (nI la), .int (nI wo), .int (nI (blk ta tnQ c5Q + 1)), .int (nI fa4), .int (nI fat4), .ref qs, .ref ql, .ref qm, .ref qi, .ref qe])), aN z qa 60 ta, aN z qf 31 ffQ] H := hP
      have hD : va_D A [(o, .inr (11, [.ref qj, .ref qt, .ref qf, .ref qp, .int (nI un), .ref qk, .ref qq, .int (nI ku), .int (nI ik), .ref qa, .int (nI tnQ), .int (nI th), .int (nI la), .int (nI wo), .int (nI (blk ta tnQ c5Q + 1)), .int (nI fa4), .int (nI fat4), .ref qs, .ref ql, .ref qm, .ref qi, .ref qe])), aN z qa 60 ta, aN z qf 31 ffQ] := hD
      have hs5 : simM ta tnQ (blk ta tnQ c5Q + 1) fa4 fat4 (aPer ta tnQ q9s) := sim_opt1 hs4 hc63
      have hrow : (aPer ta tnQ q9s).1 = 0 → adpR ffQ (kdF (chA ta tnQ cu)) (dgV ta tnQ c2Q 1) (10 * dgV ta tnQ c3Q 0 + dgV ta tnQ c4Q 0) 0 = aRow ta tnQ q9s ffQ := by
        intro z9
        have z4 : (aP4 ta tnQ q9s).1 = 0 := aOpt_0 z9
        have z3 : (aP3 ta tnQ q9s).1 = 0 := aDig_0 z4
        have z2 : (aP2 ta tnQ q9s).1 = 0 := aDig_0 z3
        have z1 : (aP1 ta tnQ q9s).1 = 0 := aDig_0 z2
        have z0 : q9s.1 = 0 := aKin_0 z1
        unfold aRow aPx
        rw [if_pos ((isC_e (sim_blk (q := aP4 ta tnQ q9s) hs4 z4).2).mp hc63.2)]
        rw [chA_e (sim_blk hsim z0).2, dgV_e 1 (sim_blk (q := aP1 ta tnQ q9s) hs1 z1).2, dgV_e 0 (sim_blk (q := aP2 ta tnQ q9s) hs2 z2).2, dgV_e 0 (sim_blk (q := aP3 ta tnQ q9s) hs3 z3).2]
      have hf6 := adpR_6 ffQ (kdF (chA ta tnQ cu)) (dgV ta tnQ c2Q 1) (10 * dgV ta tnQ c3Q 0 + dgV ta tnQ c4Q 0) 0
      have hf5 := adpX_6 ffQ (kdF (chA ta tnQ cu)) (dgV ta tnQ c2Q 1) (10 * dgV ta tnQ c3Q 0 + dgV ta tnQ c4Q 0) 0
      refine lv_bipush (v := nI 7) hx hb dX11_readPerson_76 (by decide +kernel) ?_
      refine lv_iconst (v := nI 4) hx hb dX11_readPerson_78 (by decide +kernel) ?_
      refine lv_aload_n hx hb dX11_readPerson_79 rfl (lv_at hl 5 rfl) ?_
      refine va_get (D := D) (ci := 11) (v := .ref qf) (C := RX11) (T := TX11) (N := 22) hx hb hts iX11 hown hK.1 hP 0 rfl rfl 2 (by decide) (hts _ m_525) (fun _ h9 => h9) rfl dX11_readPerson_80 ?_
      refine lv_bipush (v := nI 6) hx hb dX11_readPerson_83 (by decide +kernel) ?_
      refine nv_ald hx hb hK hP 2 rfl (by omega) (by decide) dX11_readPerson_85 ?_
      refine nv_mul hx hb dX11_readPerson_86 ?_
      refine nv_add hx hb dX11_readPerson_87 ?_
      refine lv_istore (lv' := [(6, .int (nI (7 + (4 * (ffQ 6))))), (5, .int (bI (fa4 = 0 ∧ isC ta tnQ c5Q 120))), (4, .int (nI (10 * (dgV ta tnQ c3Q 0) + (dgV ta tnQ c4Q 0)))), (3, .int (nI (dgV ta tnQ c3Q 0))), (2, .int (nI (dgV ta tnQ c2Q 1))), (1, .int (nI (kdF (chA ta tnQ cu)))), (0, .ref o)]) hx hb dX11_readPerson_88 hl (by decide) rfl (fun ls hl => ?_)
      refine lv_aload_n hx hb dX11_readPerson_90 rfl (lv_at hl 6 rfl) ?_
      refine va_get (D := D) (ci := 11) (v := .ref qf) (C := RX11) (T := TX11) (N := 22) hx hb hts iX11 hown hK.1 hP 0 rfl rfl 2 (by decide) (hts _ m_525) (fun _ h9 => h9) rfl dX11_readPerson_91 ?_
      refine lv_iload hx hb dX11_readPerson_94 (lv_at hl 0 rfl) ?_
      refine lv_iload_n hx hb dX11_readPerson_96 rfl (lv_at hl 5 rfl) ?_
      refine nv_ast hx hb hK hP hD hS 2 rfl (by omega) (by decide) dX11_readPerson_97 (fun H locs hP hD hS => ?_)
      have hP : va_P D vwCl [(o, .inr (11, [.ref qj, .ref qt, .ref qf, .ref qp, .int (nI un), .ref qk, .ref qq, .int (nI ku), .int (nI ik), .ref qa, .int (nI tnQ), .int (nI th), .int (nI la), .int (nI wo), .int (nI (blk ta tnQ c5Q + 1)), .int (nI fa4), .int (nI fat4), .ref qs, .ref ql, .ref qm, .ref qi, .ref qe])), aN z qa 60 ta, aN z qf 31 (uN ffQ (7 + (4 * (ffQ 6))) (kdF (chA ta tnQ cu)))] H := hP
      have hD : va_D A [(o, .inr (11, [.ref qj, .ref qt, .ref qf, .ref qp, .int (nI un), .ref qk, .ref qq, .int (nI ku), .int (nI ik), .ref qa, .int (nI tnQ), .int (nI th), .int (nI la), .int (nI wo), .int (nI (blk ta tnQ c5Q + 1)), .int (nI fa4), .int (nI fat4), .ref qs, .ref ql, .ref qm, .ref qi, .ref qe])), aN z qa 60 ta, aN z qf 31 (uN ffQ (7 + (4 * (ffQ 6))) (kdF (chA ta tnQ cu)))] := hD
      refine lv_aload_n hx hb dX11_readPerson_98 rfl (lv_at hl 6 rfl) ?_
      refine va_get (D := D) (ci := 11) (v := .ref qf) (C := RX11) (T := TX11) (N := 22) hx hb hts iX11 hown hK.1 hP 0 rfl rfl 2 (by decide) (hts _ m_525) (fun _ h9 => h9) rfl dX11_readPerson_99 ?_
      refine lv_iload hx hb dX11_readPerson_102 (lv_at hl 0 rfl) ?_
      refine lv_iconst (v := nI 1) hx hb dX11_readPerson_104 (by decide +kernel) ?_
      refine nv_add hx hb dX11_readPerson_105 ?_
      refine lv_iload_n hx hb dX11_readPerson_106 rfl (lv_at hl 4 rfl) ?_
      refine nv_ast hx hb hK hP hD hS 2 rfl (by omega) (by decide) dX11_readPerson_107 (fun H locs hP hD hS => ?_)
      have hP : va_P D vwCl [(o, .inr (11, [.ref qj, .ref qt, .ref qf, .ref qp, .int (nI un), .ref qk, .ref qq, .int (nI ku), .int (nI ik), .ref qa, .int (nI tnQ), .int (nI th), .int (nI la), .int (nI wo), .int (nI (blk ta tnQ c5Q + 1)), .int (nI fa4), .int (nI fat4), .ref qs, .ref ql, .ref qm, .ref qi, .ref qe])), aN z qa 60 ta, aN z qf 31 (uN (uN ffQ (7 + (4 * (ffQ 6))) (kdF (chA ta tnQ cu))) (7 + (4 * (ffQ 6)) + 1) (dgV ta tnQ c2Q 1))] H := hP
      have hD : va_D A [(o, .inr (11, [.ref qj, .ref qt, .ref qf, .ref qp, .int (nI un), .ref qk, .ref qq, .int (nI ku), .int (nI ik), .ref qa, .int (nI tnQ), .int (nI th), .int (nI la), .int (nI wo), .int (nI (blk ta tnQ c5Q + 1)), .int (nI fa4), .int (nI fat4), .ref qs, .ref ql, .ref qm, .ref qi, .ref qe])), aN z qa 60 ta, aN z qf 31 (uN (uN ffQ (7 + (4 * (ffQ 6))) (kdF (chA ta tnQ cu))) (7 + (4 * (ffQ 6)) + 1) (dgV ta tnQ c2Q 1))] := hD
      refine lv_aload_n hx hb dX11_readPerson_108 rfl (lv_at hl 6 rfl) ?_
      refine va_get (D := D) (ci := 11) (v := .ref qf) (C := RX11) (T := TX11) (N := 22) hx hb hts iX11 hown hK.1 hP 0 rfl rfl 2 (by decide) (hts _ m_525) (fun _ h9 => h9) rfl dX11_readPerson_109 ?_
      refine lv_iload hx hb dX11_readPerson_112 (lv_at hl 0 rfl) ?_
      refine lv_iconst (v := nI 2) hx hb dX11_readPerson_114 (by decide +kernel) ?_
      refine nv_add hx hb dX11_readPerson_115 ?_
      refine lv_iload hx hb dX11_readPerson_116 (lv_at hl 2 rfl) ?_
      refine nv_ast hx hb hK hP hD hS 2 rfl (by omega) (by decide) dX11_readPerson_118 (fun H locs hP hD hS => ?_)
      have hP : va_P D vwCl [(o, .inr (11, [.ref qj, .ref qt, .ref qf, .ref qp, .int (nI un), .ref qk, .ref qq, .int (nI ku), .int (nI ik), .ref qa, .int (nI tnQ), .int (nI th), .int (nI la), .int (nI wo), .int (nI (blk ta tnQ c5Q + 1)), .int (nI fa4), .int (nI fat4), .ref qs, .ref ql, .ref qm, .ref qi, .ref qe])), aN z qa 60 ta, aN z qf 31 (uN (uN (uN ffQ (7 + (4 * (ffQ 6))) (kdF (chA ta tnQ cu))) (7 + (4 * (ffQ 6)) + 1) (dgV ta tnQ c2Q 1)) (7 + (4 * (ffQ 6)) + 2) (10 * (dgV ta tnQ c3Q 0) + (dgV ta tnQ c4Q 0)))] H := hP
      have hD : va_D A [(o, .inr (11, [.ref qj, .ref qt, .ref qf, .ref qp, .int (nI un), .ref qk, .ref qq, .int (nI ku), .int (nI ik), .ref qa, .int (nI tnQ), .int (nI th), .int (nI la), .int (nI wo), .int (nI (blk ta tnQ c5Q + 1)), .int (nI fa4), .int (nI fat4), .ref qs, .ref ql, .ref qm, .ref qi, .ref qe])), aN z qa 60 ta, aN z qf 31 (uN (uN (uN ffQ (7 + (4 * (ffQ 6))) (kdF (chA ta tnQ cu))) (7 + (4 * (ffQ 6)) + 1) (dgV ta tnQ c2Q 1)) (7 + (4 * (ffQ 6)) + 2) (10 * (dgV ta tnQ c3Q 0) + (dgV ta tnQ c4Q 0)))] := hD
      refine lv_aload_n hx hb dX11_readPerson_119 rfl (lv_at hl 6 rfl) ?_
      refine va_get (D := D) (ci := 11) (v := .ref qf) (C := RX11) (T := TX11) (N := 22) hx hb hts iX11 hown hK.1 hP 0 rfl rfl 2 (by decide) (hts _ m_525) (fun _ h9 => h9) rfl dX11_readPerson_120 ?_
      refine lv_iload hx hb dX11_readPerson_123 (lv_at hl 0 rfl) ?_
      refine lv_iconst (v := nI 3) hx hb dX11_readPerson_125 (by decide +kernel) ?_
      refine nv_add hx hb dX11_readPerson_126 ?_
      refine lv_iload hx hb dX11_readPerson_127 (lv_at hl 1 rfl) ?_
      refine nv_beq (tgt := 136) hx hb dX11_readPerson_129 (by decide) (fun hc129 => ?_) (fun hc129 => ?_)
      · exact absurd hc63 hc129
      · refine lv_iconst (v := nI 0) hx hb dX11_readPerson_132 (by decide +kernel) ?_
        refine lv_goto (tgt := 137) hx hb dX11_readPerson_133 (by decide) ?_
        refine nv_ast hx hb hK hP hD hS 2 rfl (by omega) (by decide) dX11_readPerson_137 (fun H locs hP hD hS => ?_)
        have hP : va_P D vwCl [(o, .inr (11, [.ref qj, .ref qt, .ref qf, .ref qp, .int (nI un), .ref qk, .ref qq, .int (nI ku), .int (nI ik), .ref qa, .int (nI tnQ), .int (nI th), .int (nI la), .int (nI wo), .int (nI (blk ta tnQ c5Q + 1)), .int (nI fa4), .int (nI fat4), .ref qs, .ref ql, .ref qm, .ref qi, .ref qe])), aN z qa 60 ta, aN z qf 31 (uN (uN (uN (uN ffQ (7 + (4 * (ffQ 6))) (kdF (chA ta tnQ cu))) (7 + (4 * (ffQ 6)) + 1) (dgV ta tnQ c2Q 1)) (7 + (4 * (ffQ 6)) + 2) (10 * (dgV ta tnQ c3Q 0) + (dgV ta tnQ c4Q 0))) (7 + (4 * (ffQ 6)) + 3) 0)] H := hP
        have hD : va_D A [(o, .inr (11, [.ref qj, .ref qt, .ref qf, .ref qp, .int (nI un), .ref qk, .ref qq, .int (nI ku), .int (nI ik), .ref qa, .int (nI tnQ), .int (nI th), .int (nI la), .int (nI wo), .int (nI (blk ta tnQ c5Q + 1)), .int (nI fa4), .int (nI fat4), .ref qs, .ref ql, .ref qm, .ref qi, .ref qe])), aN z qa 60 ta, aN z qf 31 (uN (uN (uN (uN ffQ (7 + (4 * (ffQ 6))) (kdF (chA ta tnQ cu))) (7 + (4 * (ffQ 6)) + 1) (dgV ta tnQ c2Q 1)) (7 + (4 * (ffQ 6)) + 2) (10 * (dgV ta tnQ c3Q 0) + (dgV ta tnQ c4Q 0))) (7 + (4 * (ffQ 6)) + 3) 0)] := hD
        refine lv_aload_n hx hb dX11_readPerson_138 rfl (lv_at hl 6 rfl) ?_
        refine va_get (D := D) (ci := 11) (v := .ref qf) (C := RX11) (T := TX11) (N := 22) hx hb hts iX11 hown hK.1 hP 0 rfl rfl 2 (by decide) (hts _ m_525) (fun _ h9 => h9) rfl dX11_readPerson_139 ?_
        refine lv_bipush (v := nI 6) hx hb dX11_readPerson_142 (by decide +kernel) ?_
        refine lv_dup2_11 hx hb dX11_readPerson_144 rfl rfl ?_
        refine nv_ald hx hb hK hP 2 rfl (by omega) (by decide) dX11_readPerson_145 ?_
        refine lv_iconst (v := nI 1) hx hb dX11_readPerson_146 (by decide +kernel) ?_
        refine nv_add hx hb dX11_readPerson_147 ?_
        refine nv_ast hx hb hK hP hD hS 2 rfl (by omega) (by decide) dX11_readPerson_148 (fun H locs hP hD hS => ?_)
        have hP : va_P D vwCl [(o, .inr (11, [.ref qj, .ref qt, .ref qf, .ref qp, .int (nI un), .ref qk, .ref qq, .int (nI ku), .int (nI ik), .ref qa, .int (nI tnQ), .int (nI th), .int (nI la), .int (nI wo), .int (nI (blk ta tnQ c5Q + 1)), .int (nI fa4), .int (nI fat4), .ref qs, .ref ql, .ref qm, .ref qi, .ref qe])), aN z qa 60 ta, aN z qf 31 (uN (uN (uN (uN (uN ffQ (7 + (4 * (ffQ 6))) (kdF (chA ta tnQ cu))) (7 + (4 * (ffQ 6)) + 1) (dgV ta tnQ c2Q 1)) (7 + (4 * (ffQ 6)) + 2) (10 * (dgV ta tnQ c3Q 0) + (dgV ta tnQ c4Q 0))) (7 + (4 * (ffQ 6)) + 3) 0) 6 ((uN (uN (uN (uN ffQ (7 + (4 * (ffQ 6))) (kdF (chA ta tnQ cu))) (7 + (4 * (ffQ 6)) + 1) (dgV ta tnQ c2Q 1)) (7 + (4 * (ffQ 6)) + 2) (10 * (dgV ta tnQ c3Q 0) + (dgV ta tnQ c4Q 0))) (7 + (4 * (ffQ 6)) + 3) 0) 6 + 1))] H := hP
        have hD : va_D A [(o, .inr (11, [.ref qj, .ref qt, .ref qf, .ref qp, .int (nI un), .ref qk, .ref qq, .int (nI ku), .int (nI ik), .ref qa, .int (nI tnQ), .int (nI th), .int (nI la), .int (nI wo), .int (nI (blk ta tnQ c5Q + 1)), .int (nI fa4), .int (nI fat4), .ref qs, .ref ql, .ref qm, .ref qi, .ref qe])), aN z qa 60 ta, aN z qf 31 (uN (uN (uN (uN (uN ffQ (7 + (4 * (ffQ 6))) (kdF (chA ta tnQ cu))) (7 + (4 * (ffQ 6)) + 1) (dgV ta tnQ c2Q 1)) (7 + (4 * (ffQ 6)) + 2) (10 * (dgV ta tnQ c3Q 0) + (dgV ta tnQ c4Q 0))) (7 + (4 * (ffQ 6)) + 3) 0) 6 ((uN (uN (uN (uN ffQ (7 + (4 * (ffQ 6))) (kdF (chA ta tnQ cu))) (7 + (4 * (ffQ 6)) + 1) (dgV ta tnQ c2Q 1)) (7 + (4 * (ffQ 6)) + 2) (10 * (dgV ta tnQ c3Q 0) + (dgV ta tnQ c4Q 0))) (7 + (4 * (ffQ 6)) + 3) 0) 6 + 1))] := hD
        exact nv_xv hx hb hr hlocks hS dX11_readPerson_149 (blk ta tnQ c5Q + 1, fa4, fat4, uN (uN (uN (uN (uN ffQ (7 + (4 * (ffQ 6))) (kdF (chA ta tnQ cu))) (7 + (4 * (ffQ 6)) + 1) (dgV ta tnQ c2Q 1)) (7 + (4 * (ffQ 6)) + 2) (10 * (dgV ta tnQ c3Q 0) + (dgV ta tnQ c4Q 0))) (7 + (4 * (ffQ 6)) + 3) 0) 6 ((uN (uN (uN (uN ffQ (7 + (4 * (ffQ 6))) (kdF (chA ta tnQ cu))) (7 + (4 * (ffQ 6)) + 1) (dgV ta tnQ c2Q 1)) (7 + (4 * (ffQ 6)) + 2) (10 * (dgV ta tnQ c3Q 0) + (dgV ta tnQ c4Q 0))) (7 + (4 * (ffQ 6)) + 3) 0) 6 + 1)) hP ⟨hs5, by omega, hf6, fun z9 => hrow z9⟩
