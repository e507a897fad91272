set_option maxHeartbeats 4000000 in
set_option maxRecDepth 100000 in
theorem c_X9_look (l : Launch) (D : va_G) (z : Nat → ClassId) (sz : Nat) (tp : Nat) (tc : Nat) (tnQ : Nat) (pl : Nat) (f9 : Nat) (ta : Nat → Nat) (htp : tOK ta tnQ) (hpl : pl ≤ tnQ) (hf9 : f9 ≤ 100) : CM l yX9_look cX9_look 1 (some .char) 0 0 0 0 [.ref tp] D z [(tp, .inr (9, [.ref tc, .int (nI tnQ), .int (nI pl), .int (ftI f9)])), aC z tc 60 ta] sz (fun _ => True) [(tp, .inr (9, [.ref tc, .int (nI tnQ), .int (nI (blk ta tnQ pl)), .int (ftI f9)])), aC z tc 60 ta] (some (.int (nI (chA ta tnQ pl)))) (fun _ => True) := by
  refine Met.ofW (cc := cX9_look) (maxL := 1) (ret := (some .char)) (by decide) rfl ?_
  intro pg e s m args below meth c s₁ B hml hv
  obtain ⟨rfl, hsz, hP, hK, hD0, hE⟩ := hv
  have hx := B.exec
  have hb := B.bytes
  have hr := B.returns
  have hts : ∀ w ∈ ALL, w.before _ s = true := fun w h => atoms_spec (ws := wA yX9_look cX9_look 1 (some .char)) B.pre w (List.mem_cons_of_mem _ h)
  have hown : s.vm.findClass RX9 = some m.cls := findClass_of_methodNamed B.named
  have hlocks := B.notSynchronized
  subst hsz
  have hD := hD0.self (sz := s.heap.size)
  have htn := htp.1
  have hbk := bk_tn (ta := ta) hpl
  have hcl := chA_l (pl := pl) htp
  have hA : ∀ q : Nat, s.heap.size ≤ q → va_A [(tp, .inr (9, [.ref tc, .int (nI tnQ), .int (nI pl), .int (ftI f9)])), aC z tc 60 ta] s.heap.size q := fun q h => Or.inr h
  generalize va_A [(tp, .inr (9, [.ref tc, .int (nI tnQ), .int (nI pl), .int (ftI f9)])), aC z tc 60 ta] s.heap.size = A at *
  have hS : va_S A s.heap s.heap [] := va_S.rf
  have hl := lv_entry ([.ref tp]) (n := 1) (Nat.le_of_ble_eq_true rfl)
  rw [lg_entry_eq]
  generalize (lg_sl ([.ref tp]) ++ List.replicate (1 - (lg_sl ([.ref tp])).length) Slot.unset).toArray = ls at hl ⊢
  have hl : lv_has ls 1 [(0, .ref tp)] := hl
  refine nv_loop (σ := Nat) (fun x H locs ls => ∃ (cq : Nat), cq = x ∧ ((blk ta tnQ cq = blk ta tnQ pl) ∧ (cq ≤ tnQ)) ∧ va_P D vwCl [(tp, .inr (9, [.ref tc, .int (nI tnQ), .int (nI cq), .int (ftI f9)])), aC z tc 60 ta] H ∧ va_D A [(tp, .inr (9, [.ref tc, .int (nI tnQ), .int (nI cq), .int (ftI f9)])), aC z tc 60 ta] ∧ va_S A s.heap H locs ∧ lv_has ls 1 [(0, .ref tp)]) (fun x => tnQ - x) 0 [] ?_ pl ?_
  · rintro _ H locs ls ⟨cq, rfl, ⟨hb9, hc9⟩, hP, hD, hS, hl⟩ ih0
    refine lv_aload_n hx hb dX9_look_0 rfl (lv_at hl 0 rfl) ?_
    refine va_get (D := D) (ci := 9) (v := .int (nI cq)) (C := RX9) (T := TX9) (N := 4) hx hb hts iX9 hown hK.1 hP 0 rfl rfl 2 (by decide) (hts _ m_192) (fun _ h9 => h9) rfl dX9_look_1 ?_
    refine lv_aload_n hx hb dX9_look_4 rfl (lv_at hl 0 rfl) ?_
    refine va_get (D := D) (ci := 9) (v := .int (nI tnQ)) (C := RX9) (T := TX9) (N := 4) hx hb hts iX9 hown hK.1 hP 0 rfl rfl 1 (by decide) (hts _ m_191) (fun _ h9 => h9) rfl dX9_look_5 ?_
    refine nv_ge (tgt := 38) hx hb (by omega) (by omega) dX9_look_8 (by decide) (fun hc8 => ?_) (fun hc8 => ?_)
    · obtain rfl : cq = blk ta tnQ pl := by rw [← hb9, blk_end (by omega)]
      refine lv_aload_n hx hb dX9_look_38 rfl (lv_at hl 0 rfl) ?_
      refine va_get (D := D) (ci := 9) (v := .int (nI (blk ta tnQ pl))) (C := RX9) (T := TX9) (N := 4) hx hb hts iX9 hown hK.1 hP 0 rfl rfl 2 (by decide) (hts _ m_192) (fun _ h9 => h9) rfl dX9_look_39 ?_
      refine lv_aload_n hx hb dX9_look_42 rfl (lv_at hl 0 rfl) ?_
      refine va_get (D := D) (ci := 9) (v := .int (nI tnQ)) (C := RX9) (T := TX9) (N := 4) hx hb hts iX9 hown hK.1 hP 0 rfl rfl 1 (by decide) (hts _ m_191) (fun _ h9 => h9) rfl dX9_look_43 ?_
      refine nv_join (g2 := F0 m 62 ls [.int (nI (chA ta tnQ pl))]) (fun J1 => ?_) ?_
      · refine nv_ge (tgt := 61) hx hb (by omega) (by omega) dX9_look_46 (by decide) (fun hc46 => ?_) (fun hc46 => ?_)
        · refine lv_iconst (v := nI 0) hx hb dX9_look_61 (by decide +kernel) ?_
          have q9 : 0 = chA ta tnQ pl := by unfold chA; first | (rw [if_pos (by omega)]; done) | (rw [if_neg (by omega)]; done)
          exact W.eq (congrArg (fun x9 => F0 m 62 ls (.int (nI x9) :: [])) q9) J1
        · refine lv_aload_n hx hb dX9_look_49 rfl (lv_at hl 0 rfl) ?_
          refine va_get (D := D) (ci := 9) (v := .ref tc) (C := RX9) (T := TX9) (N := 4) hx hb hts iX9 hown hK.1 hP 0 rfl rfl 0 (by decide) (hts _ m_190) (fun _ h9 => h9) rfl dX9_look_50 ?_
          refine lv_aload_n hx hb dX9_look_53 rfl (lv_at hl 0 rfl) ?_
          refine va_get (D := D) (ci := 9) (v := .int (nI (blk ta tnQ pl))) (C := RX9) (T := TX9) (N := 4) hx hb hts iX9 hown hK.1 hP 0 rfl rfl 2 (by decide) (hts _ m_192) (fun _ h9 => h9) rfl dX9_look_54 ?_
          refine nv_cald hx hb hK hP 1 rfl (by omega) (by decide) dX9_look_57 ?_
          refine lv_goto (tgt := 62) hx hb dX9_look_58 (by decide) ?_
          have q9 : (ta (blk ta tnQ pl)) = chA ta tnQ pl := by unfold chA; first | (rw [if_pos (by omega)]; done) | (rw [if_neg (by omega)]; done)
          exact W.eq (congrArg (fun x9 => F0 m 62 ls (.int (nI x9) :: [])) q9) J1
      · exact nv_mz hx hb hr hlocks hS dX9_look_62 hP trivial rfl (pk_charN (by omega)).1
    · refine lv_aload_n hx hb dX9_look_11 rfl (lv_at hl 0 rfl) ?_
      refine va_get (D := D) (ci := 9) (v := .ref tc) (C := RX9) (T := TX9) (N := 4) hx hb hts iX9 hown hK.1 hP 0 rfl rfl 0 (by decide) (hts _ m_190) (fun _ h9 => h9) rfl dX9_look_12 ?_
      refine lv_aload_n hx hb dX9_look_15 rfl (lv_at hl 0 rfl) ?_
      refine va_get (D := D) (ci := 9) (v := .int (nI cq)) (C := RX9) (T := TX9) (N := 4) hx hb hts iX9 hown hK.1 hP 0 rfl rfl 2 (by decide) (hts _ m_192) (fun _ h9 => h9) rfl dX9_look_16 ?_
      have ht9 := htp.2 cq (by omega)
      refine nv_cald hx hb hK hP 1 rfl (by omega) (by decide) dX9_look_19 ?_
      refine lv_bipush (v := nI 32) hx hb dX9_look_20 (by decide +kernel) ?_
      refine nv_ne (tgt := 38) hx hb (by omega) (by omega) dX9_look_22 (by decide) (fun hc22 => ?_) (fun hc22 => ?_)
      · obtain rfl : cq = blk ta tnQ pl := by rw [← hb9, blk_end (by omega)]
        refine lv_aload_n hx hb dX9_look_38 rfl (lv_at hl 0 rfl) ?_
        refine va_get (D := D) (ci := 9) (v := .int (nI (blk ta tnQ pl))) (C := RX9) (T := TX9) (N := 4) hx hb hts iX9 hown hK.1 hP 0 rfl rfl 2 (by decide) (hts _ m_192) (fun _ h9 => h9) rfl dX9_look_39 ?_
        refine lv_aload_n hx hb dX9_look_42 rfl (lv_at hl 0 rfl) ?_
        refine va_get (D := D) (ci := 9) (v := .int (nI tnQ)) (C := RX9) (T := TX9) (N := 4) hx hb hts iX9 hown hK.1 hP 0 rfl rfl 1 (by decide) (hts _ m_191) (fun _ h9 => h9) rfl dX9_look_43 ?_
        refine nv_join (g2 := F0 m 62 ls [.int (nI (chA ta tnQ pl))]) (fun J2 => ?_) ?_
        · refine nv_ge (tgt := 61) hx hb (by omega) (by omega) dX9_look_46 (by decide) (fun hc46 => ?_) (fun hc46 => ?_)
          · refine lv_iconst (v := nI 0) hx hb dX9_look_61 (by decide +kernel) ?_
            have q9 : 0 = chA ta tnQ pl := by unfold chA; first | (rw [if_pos (by omega)]; done) | (rw [if_neg (by omega)]; done)
            exact W.eq (congrArg (fun x9 => F0 m 62 ls (.int (nI x9) :: [])) q9) J2
          · refine lv_aload_n hx hb dX9_look_49 rfl (lv_at hl 0 rfl) ?_
            refine va_get (D := D) (ci := 9) (v := .ref tc) (C := RX9) (T := TX9) (N := 4) hx hb hts iX9 hown hK.1 hP 0 rfl rfl 0 (by decide) (hts _ m_190) (fun _ h9 => h9) rfl dX9_look_50 ?_
            refine lv_aload_n hx hb dX9_look_53 rfl (lv_at hl 0 rfl) ?_
            refine va_get (D := D) (ci := 9) (v := .int (nI (blk ta tnQ pl))) (C := RX9) (T := TX9) (N := 4) hx hb hts iX9 hown hK.1 hP 0 rfl rfl 2 (by decide) (hts _ m_192) (fun _ h9 => h9) rfl dX9_look_54 ?_
            refine nv_cald hx hb hK hP 1 rfl (by omega) (by decide) dX9_look_57 ?_
            refine lv_goto (tgt := 62) hx hb dX9_look_58 (by decide) ?_
            have q9 : (ta (blk ta tnQ pl)) = chA ta tnQ pl := by unfold chA; first | (rw [if_pos (by omega)]; done) | (rw [if_neg (by omega)]; done)
            exact W.eq (congrArg (fun x9 => F0 m 62 ls (.int (nI x9) :: [])) q9) J2
        · exact nv_mz hx hb hr hlocks hS dX9_look_62 hP trivial rfl (pk_charN (by omega)).1
      · have hb8 := blk_go (ta := ta) (tn := tnQ) (c := cq) (by omega) (by omega)
        refine lv_aload_n hx hb dX9_look_25 rfl (lv_at hl 0 rfl) ?_
        refine lv_dup hx hb dX9_look_26 rfl ?_
        refine va_get (D := D) (ci := 9) (v := .int (nI cq)) (C := RX9) (T := TX9) (N := 4) hx hb hts iX9 hown hK.1 hP 0 rfl rfl 2 (by decide) (hts _ m_192) (fun _ h9 => h9) rfl dX9_look_27 ?_
        refine lv_iconst (v := nI 1) hx hb dX9_look_30 (by decide +kernel) ?_
        refine nv_add hx hb dX9_look_31 ?_
        refine va_put (D := D) (ci := 9) (v := .int (nI (cq + 1))) (ty := tyX9 2) (C := RX9) (T := TX9) (N := 4) hx hb hts iX9 tyX9 tyX9_ok nmX9 hown hK.1 hP hD hS 0 rfl rfl 2 (by decide) (hts _ m_192) (fun _ h9 => h9) rfl (tyX9_ok 2 (by decide)) rfl rfl (Nat.le_of_ble_eq_true rfl) dX9_look_32 (fun H locs hP hD hS => ?_)
        have hP : va_P D vwCl [(tp, .inr (9, [.ref tc, .int (nI tnQ), .int (nI (cq + 1)), .int (ftI f9)])), aC z tc 60 ta] H := hP
        have hD : va_D A [(tp, .inr (9, [.ref tc, .int (nI tnQ), .int (nI (cq + 1)), .int (ftI f9)])), aC z tc 60 ta] := hD
        refine lv_goto (tgt := 0) hx hb dX9_look_35 (by decide) ?_
        exact ih0 (cq + 1) _ _ _ (by omega) ⟨cq + 1, rfl, ⟨(hb8.symm.trans hb9), (by omega)⟩, hP, hD, hS, lv_sub hl [0] rfl⟩
  · exact ⟨pl, rfl, ⟨rfl, hpl⟩, hP, hD, hS, lv_sub hl [0] rfl⟩

set_option maxHeartbeats 4000000 in
set_option maxRecDepth 100000 in
theorem c_X9_failAt (l : Launch) (D : va_G) (z : Nat → ClassId) (sz : Nat) (tp : Nat) (tc : Nat) (tnQ : Nat) (pl : Nat) (f9 : Nat) (wq : Nat) (hf9 : f9 ≤ 100) : CM l yX9_failAt cX9_failAt 2 none 0 0 0 0 [.ref tp, .int (nI wq)] D z [(tp, .inr (9, [.ref tc, .int (nI tnQ), .int (nI pl), .int (ftI f9)]))] sz (fun _ => True) [(tp, .inr (9, [.ref tc, .int (nI tnQ), .int (nI pl), .int (ftI (faF f9 wq))]))] none (fun _ => True) := by
  refine Met.ofW (cc := cX9_failAt) (maxL := 2) (ret := none) (by decide) rfl ?_
  intro pg e s m args below meth c s₁ B hml hv
  obtain ⟨rfl, hsz, hP, hK, hD0, hE⟩ := hv
  have hx := B.exec
  have hb := B.bytes
  have hr := B.returns
  have hts : ∀ w ∈ ALL, w.before _ s = true := fun w h => atoms_spec (ws := wA yX9_failAt cX9_failAt 2 none) B.pre w (List.mem_cons_of_mem _ h)
  have hown : s.vm.findClass RX9 = some m.cls := findClass_of_methodNamed B.named
  have hlocks := B.notSynchronized
  subst hsz
  have hD := hD0.self (sz := s.heap.size)
  have hA : ∀ q : Nat, s.heap.size ≤ q → va_A [(tp, .inr (9, [.ref tc, .int (nI tnQ), .int (nI pl), .int (ftI f9)]))] s.heap.size q := fun q h => Or.inr h
  generalize va_A [(tp, .inr (9, [.ref tc, .int (nI tnQ), .int (nI pl), .int (ftI f9)]))] s.heap.size = A at *
  have hS : va_S A s.heap s.heap [] := va_S.rf
  have hl := lv_entry ([.ref tp, .int (nI wq)]) (n := 2) (Nat.le_of_ble_eq_true rfl)
  rw [lg_entry_eq]
  generalize (lg_sl ([.ref tp, .int (nI wq)]) ++ List.replicate (2 - (lg_sl ([.ref tp, .int (nI wq)])).length) Slot.unset).toArray = ls at hl ⊢
  have hl : lv_has ls 2 [(0, .ref tp), (1, .int (nI wq))] := hl
  refine lv_aload_n hx hb dX9_failAt_0 rfl (lv_at hl 0 rfl) ?_
  refine va_get (D := D) (ci := 9) (v := .int (ftI f9)) (C := RX9) (T := TX9) (N := 4) hx hb hts iX9 hown hK.1 hP 0 rfl rfl 3 (by decide) (hts _ m_193) (fun _ h9 => h9) rfl dX9_failAt_1 ?_
  refine lv_iconst (v := (-1)) hx hb dX9_failAt_4 (by decide +kernel) ?_
  refine lv_icmp_ne (tgt := 13) hx hb dX9_failAt_5 (by decide) (fun hc5 => ?_) (fun hc5 => ?_)
  · exact nv_mv hx hb hr hlocks hS dX9_failAt_13 (by rw [show faF f9 wq = f9 from if_neg (fun q9 => hc5 ((ftI_m1 (by omega)).mpr q9))]; exact hP) trivial
  · refine lv_aload_n hx hb dX9_failAt_8 rfl (lv_at hl 0 rfl) ?_
    refine lv_iload_n hx hb dX9_failAt_9 rfl (lv_at hl 1 rfl) ?_
    refine va_put (D := D) (ci := 9) (v := .int (nI wq)) (ty := tyX9 3) (C := RX9) (T := TX9) (N := 4) hx hb hts iX9 tyX9 tyX9_ok nmX9 hown hK.1 hP hD hS 0 rfl rfl 3 (by decide) (hts _ m_193) (fun _ h9 => h9) rfl (tyX9_ok 3 (by decide)) rfl rfl (Nat.le_of_ble_eq_true rfl) dX9_failAt_10 (fun H locs hP hD hS => ?_)
    have hP : va_P D vwCl [(tp, .inr (9, [.ref tc, .int (nI tnQ), .int (nI pl), .int (nI wq)]))] H := hP
    have hD : va_D A [(tp, .inr (9, [.ref tc, .int (nI tnQ), .int (nI pl), .int (nI wq)]))] := hD
    exact nv_mv hx hb hr hlocks hS dX9_failAt_13 (by rw [show faF f9 wq = wq + 1 from if_pos ((ftI_m1 (by omega)).mp hc5), ftI_s]; exact hP) trivial

set_option maxHeartbeats 4000000 in
set_option maxRecDepth 100000 in
theorem c_X9_accept (l : Launch) (D : va_G) (z : Nat → ClassId) (sz : Nat) (tp : Nat) (tc : Nat) (tnQ : Nat) (pl : Nat) (f9 : Nat) (ta : Nat → Nat) (chQ : Nat) (htp : tOK ta tnQ) (hpl : pl ≤ tnQ) (hf9 : f9 ≤ 100) (hch : 0 < chQ) (hch2 : chQ < 128) : CM l yX9_accept cX9_accept 2 (some .boolean) 1 20 0 0 [.ref tp, .int (nI chQ)] D z [(tp, .inr (9, [.ref tc, .int (nI tnQ), .int (nI pl), .int (ftI f9)])), aC z tc 60 ta] sz (fun _ => True) [(tp, .inr (9, [.ref tc, .int (nI tnQ), .int (nI (acF ta tnQ pl chQ)), .int (ftI f9)])), aC z tc 60 ta] (some (.int (bI (isC ta tnQ pl chQ)))) (fun _ => True) := by
  refine Met.ofW (cc := cX9_accept) (maxL := 2) (ret := (some .boolean)) (by decide) rfl ?_
  intro pg e s m args below meth c s₁ B hml hv
  obtain ⟨rfl, hsz, hP, hK, hD0, hE⟩ := hv
  have hx := B.exec
  have hb := B.bytes
  have hr := B.returns
  have hts : ∀ w ∈ ALL, w.before _ s = true := fun w h => atoms_spec (ws := wA yX9_accept cX9_accept 2 (some .boolean)) B.pre w (List.mem_cons_of_mem _ h)
  have hown : s.vm.findClass RX9 = some m.cls := findClass_of_methodNamed B.named
  have hlocks := B.notSynchronized
  subst hsz
  have hD := hD0.self (sz := s.heap.size)
  have htn := htp.1
  have hbk := bk_tn (ta := ta) hpl
  have hcl := chA_l (pl := pl) htp
  have hA : ∀ q : Nat, s.heap.size ≤ q → va_A [(tp, .inr (9, [.ref tc, .int (nI tnQ), .int (nI pl), .int (ftI f9)])), aC z tc 60 ta] s.heap.size q := fun q h => Or.inr h
  generalize va_A [(tp, .inr (9, [.ref tc, .int (nI tnQ), .int (nI pl), .int (ftI f9)])), aC z tc 60 ta] s.heap.size = A at *
  have hS : va_S A s.heap s.heap [] := va_S.rf
  have hl := lv_entry ([.ref tp, .int (nI chQ)]) (n := 2) (Nat.le_of_ble_eq_true rfl)
  rw [lg_entry_eq]
  generalize (lg_sl ([.ref tp, .int (nI chQ)]) ++ List.replicate (2 - (lg_sl ([.ref tp, .int (nI chQ)])).length) Slot.unset).toArray = ls at hl ⊢
  have hl : lv_has ls 2 [(0, .ref tp), (1, .int (nI chQ))] := hl
  refine lv_aload_n hx hb dX9_accept_0 rfl (lv_at hl 0 rfl) ?_
  have hPc := hP.sub (ws' := [(tp, .inr (9, [.ref tc, .int (nI tnQ), .int (nI pl), .int (ftI f9)])), aC z tc 60 ta]) [0, 1] rfl
  have hDc := hD.sub (ws' := [(tp, .inr (9, [.ref tc, .int (nI tnQ), .int (nI pl), .int (ftI f9)])), aC z tc 60 ta]) [0, 1] (by decide) rfl
  refine nv_cm1 (wc := [(tp, .inr (9, [.ref tc, .int (nI tnQ), .int (nI pl), .int (ftI f9)])), aC z tc 60 ta]) (wr := []) (w1 := [(tp, .inr (9, [.ref tc, .int (nI tnQ), .int (nI (blk ta tnQ pl)), .int (ftI f9)])), aC z tc 60 ta]) (ws1 := [(tp, .inr (9, [.ref tc, .int (nI tnQ), .int (nI (blk ta tnQ pl)), .int (ftI f9)])), aC z tc 60 ta]) (va_runV (As := []) (rest := []) ⟨hx, hb, hml, hown, hts⟩ (c_X9_look l D z s.heap.size tp tc tnQ pl f9 ta (by first | assumption | omega) (by first | assumption | omega) (by first | assumption | omega)) (cwV 0 hts (gV m_201 m_202 m_203 m_204 m_194) rfl rfl rfl ⟨rfl, hd_X9_look⟩ ⟨Nat.le_of_ble_eq_true rfl, Nat.le_of_ble_eq_true rfl⟩) (nv_preMV (ci := 9) (q0 := 0) hK hPc hDc trivial rfl rfl) rfl rfl hl.1 rfl (lv_room (Nat.le_of_ble_eq_true rfl)) dX9_accept_1 ⟨by decide, by decide⟩) hP hD hS hA [0, 1] [] [0, 1] rfl rfl (by decide) (by decide) rfl (by decide) rfl (by decide) (fun H locs hP hD hS hE1 hz1 hf1 => ?_)
  clear hPc hDc
  clear hf1 hz1
  refine lv_iload_n hx hb dX9_accept_4 rfl (lv_at hl 1 rfl) ?_
  refine nv_eq (tgt := 10) hx hb (by omega) (by omega) dX9_accept_5 (by decide) (fun hc5 => ?_) (fun hc5 => ?_)
  · refine lv_aload_n hx hb dX9_accept_10 rfl (lv_at hl 0 rfl) ?_
    refine lv_dup hx hb dX9_accept_11 rfl ?_
    refine va_get (D := D) (ci := 9) (v := .int (nI (blk ta tnQ pl))) (C := RX9) (T := TX9) (N := 4) hx hb hts iX9 hown hK.1 hP 0 rfl rfl 2 (by decide) (hts _ m_192) (fun _ h9 => h9) rfl dX9_accept_12 ?_
    refine lv_iconst (v := nI 1) hx hb dX9_accept_15 (by decide +kernel) ?_
    refine nv_add hx hb dX9_accept_16 ?_
    refine va_put (D := D) (ci := 9) (v := .int (nI (blk ta tnQ pl + 1))) (ty := tyX9 2) (C := RX9) (T := TX9) (N := 4) hx hb hts iX9 tyX9 tyX9_ok nmX9 hown hK.1 hP hD hS 0 rfl rfl 2 (by decide) (hts _ m_192) (fun _ h9 => h9) rfl (tyX9_ok 2 (by decide)) rfl rfl (Nat.le_of_ble_eq_true rfl) dX9_accept_17 (fun H locs hP hD hS => ?_)
    have hP : va_P D vwCl [(tp, .inr (9, [.ref tc, .int (nI tnQ), .int (nI (blk ta tnQ pl + 1)), .int (ftI f9)])), aC z tc 60 ta] H := hP
    have hD : va_D A [(tp, .inr (9, [.ref tc, .int (nI tnQ), .int (nI (blk ta tnQ pl + 1)), .int (ftI f9)])), aC z tc 60 ta] := hD
    refine lv_iconst (v := nI 1) hx hb dX9_accept_20 (by decide +kernel) ?_
    exact nv_mz hx hb hr hlocks hS dX9_accept_21 (by unfold acF; rw [if_pos ((ch_is hch).mp hc5)]; exact hP) trivial (bI_t (P := isC ta tnQ pl chQ) ((ch_is hch).mp hc5)).symm bI_nar
  · refine lv_iconst (v := nI 0) hx hb dX9_accept_8 (by decide +kernel) ?_
    exact nv_mz hx hb hr hlocks hS dX9_accept_9 (by unfold acF; rw [if_neg (fun q9 => hc5 ((ch_is hch).mpr q9))]; exact hP) trivial (bI_f (P := isC ta tnQ pl chQ) (fun q9 => hc5 ((ch_is hch).mpr q9))).symm bI_nar

set_option maxHeartbeats 4000000 in
set_option maxRecDepth 100000 in
theorem c_X9_expect (l : Launch) (D : va_G) (z : Nat → ClassId) (sz : Nat) (tp : Nat) (tc : Nat) (tnQ : Nat) (pl : Nat) (f9 : Nat) (ta : Nat → Nat) (chQ : Nat) (htp : tOK ta tnQ) (hpl : pl ≤ tnQ) (hf9 : f9 ≤ 100) (hch : 0 < chQ) (hch2 : chQ < 128) : CM l yX9_expect cX9_expect 2 none 2 41 0 0 [.ref tp, .int (nI chQ)] D z [(tp, .inr (9, [.ref tc, .int (nI tnQ), .int (nI pl), .int (ftI f9)])), aC z tc 60 ta] sz (fun _ => True) [(tp, .inr (9, [.ref tc, .int (nI tnQ), .int (nI (acF ta tnQ pl chQ)), .int (ftI (exF ta tnQ pl chQ f9))])), aC z tc 60 ta] none (fun _ => True) := by
  refine Met.ofW (cc := cX9_expect) (maxL := 2) (ret := none) (by decide) rfl ?_
  intro pg e s m args below meth c s₁ B hml hv
  obtain ⟨rfl, hsz, hP, hK, hD0, hE⟩ := hv
  have hx := B.exec
  have hb := B.bytes
  have hr := B.returns
  have hts : ∀ w ∈ ALL, w.before _ s = true := fun w h => atoms_spec (ws := wA yX9_expect cX9_expect 2 none) B.pre w (List.mem_cons_of_mem _ h)
  have hown : s.vm.findClass RX9 = some m.cls := findClass_of_methodNamed B.named
  have hlocks := B.notSynchronized
  subst hsz
  have hD := hD0.self (sz := s.heap.size)
  have htn := htp.1
  have hbk := bk_tn (ta := ta) hpl
  have hcl := chA_l (pl := pl) htp
  have hA : ∀ q : Nat, s.heap.size ≤ q → va_A [(tp, .inr (9, [.ref tc, .int (nI tnQ), .int (nI pl), .int (ftI f9)])), aC z tc 60 ta] s.heap.size q := fun q h => Or.inr h
  generalize va_A [(tp, .inr (9, [.ref tc, .int (nI tnQ), .int (nI pl), .int (ftI f9)])), aC z tc 60 ta] s.heap.size = A at *
  have hS : va_S A s.heap s.heap [] := va_S.rf
  have hl := lv_entry ([.ref tp, .int (nI chQ)]) (n := 2) (Nat.le_of_ble_eq_true rfl)
  rw [lg_entry_eq]
  generalize (lg_sl ([.ref tp, .int (nI chQ)]) ++ List.replicate (2 - (lg_sl ([.ref tp, .int (nI chQ)])).length) Slot.unset).toArray = ls at hl ⊢
  have hl : lv_has ls 2 [(0, .ref tp), (1, .int (nI chQ))] := hl
  refine lv_aload_n hx hb dX9_expect_0 rfl (lv_at hl 0 rfl) ?_
  refine lv_iload_n hx hb dX9_expect_1 rfl (lv_at hl 1 rfl) ?_
  have hPc := hP.sub (ws' := [(tp, .inr (9, [.ref tc, .int (nI tnQ), .int (nI pl), .int (ftI f9)])), aC z tc 60 ta]) [0, 1] rfl
  have hDc := hD.sub (ws' := [(tp, .inr (9, [.ref tc, .int (nI tnQ), .int (nI pl), .int (ftI f9)])), aC z tc 60 ta]) [0, 1] (by decide) rfl
  refine nv_cm1 (wc := [(tp, .inr (9, [.ref tc, .int (nI tnQ), .int (nI pl), .int (ftI f9)])), aC z tc 60 ta]) (wr := []) (w1 := [(tp, .inr (9, [.ref tc, .int (nI tnQ), .int (nI (acF ta tnQ pl chQ)), .int (ftI f9)])), aC z tc 60 ta]) (ws1 := [(tp, .inr (9, [.ref tc, .int (nI tnQ), .int (nI (acF ta tnQ pl chQ)), .int (ftI f9)])), aC z tc 60 ta]) (va_runV (As := [.int (nI chQ)]) (rest := []) ⟨hx, hb, hml, hown, hts⟩ (c_X9_accept l D z s.heap.size tp tc tnQ pl f9 ta chQ (by first | assumption | omega) (by first | assumption | omega) (by first | assumption | omega) (by first | assumption | omega) (by first | assumption | omega)) (cwV 1 hts (gV m_212 m_213 m_214 m_204 m_210) rfl rfl rfl ⟨rfl, hd_X9_accept⟩ ⟨Nat.le_of_ble_eq_true rfl, Nat.le_of_ble_eq_true rfl⟩) (nv_preMV (ci := 9) (q0 := 0) hK hPc hDc trivial rfl rfl) rfl rfl hl.1 rfl (lv_room (Nat.le_of_ble_eq_true rfl)) dX9_expect_2 ⟨by decide, by decide⟩) hP hD hS hA [0, 1] [] [0, 1] rfl rfl (by decide) (by decide) rfl (by decide) rfl (by decide) (fun H locs hP hD hS hE2 hz2 hf2 => ?_)
  clear hPc hDc
  clear hf2 hz2
  refine nv_bne (tgt := 16) hx hb dX9_expect_5 (by decide) (fun hc5 => ?_) (fun hc5 => ?_)
  · exact nv_mv hx hb hr hlocks hS dX9_expect_16 (by unfold exF; rw [if_pos hc5]; exact hP) trivial
  · refine lv_aload_n hx hb dX9_expect_8 rfl (lv_at hl 0 rfl) ?_
    refine lv_aload_n hx hb dX9_expect_9 rfl (lv_at hl 0 rfl) ?_
    refine va_get (D := D) (ci := 9) (v := .int (nI (acF ta tnQ pl chQ))) (C := RX9) (T := TX9) (N := 4) hx hb hts iX9 hown hK.1 hP 0 rfl rfl 2 (by decide) (hts _ m_192) (fun _ h9 => h9) rfl dX9_expect_10 ?_
    have hPc := hP.sub (ws' := [(tp, .inr (9, [.ref tc, .int (nI tnQ), .int (nI (acF ta tnQ pl chQ)), .int (ftI f9)]))]) [0] rfl
    have hDc := hD.sub (ws' := [(tp, .inr (9, [.ref tc, .int (nI tnQ), .int (nI (acF ta tnQ pl chQ)), .int (ftI f9)]))]) [0] (by decide) rfl
    refine nv_cm0 (wc := [(tp, .inr (9, [.ref tc, .int (nI tnQ), .int (nI (acF ta tnQ pl chQ)), .int (ftI f9)]))]) (wr := [aC z tc 60 ta]) (w1 := [(tp, .inr (9, [.ref tc, .int (nI tnQ), .int (nI (acF ta tnQ pl chQ)), .int (ftI (faF f9 (acF ta tnQ pl chQ)))]))]) (ws1 := [(tp, .inr (9, [.ref tc, .int (nI tnQ), .int (nI (acF ta tnQ pl chQ)), .int (ftI (faF f9 (acF ta tnQ pl chQ)))])), aC z tc 60 ta]) (va_runV (As := [.int (nI (acF ta tnQ pl chQ))]) (rest := []) ⟨hx, hb, hml, hown, hts⟩ (c_X9_failAt l D z H.size tp tc tnQ (acF ta tnQ pl chQ) f9 (acF ta tnQ pl chQ) (by first | assumption | omega)) (cwV 1 hts (gV m_207 m_208 m_209 m_204 m_199) rfl rfl rfl ⟨rfl, hd_X9_failAt⟩ ⟨Nat.le_of_ble_eq_true rfl, Nat.le_of_ble_eq_true rfl⟩) (nv_preMV (ci := 9) (q0 := 0) hK hPc hDc trivial rfl rfl) rfl rfl hl.1 rfl (lv_room (Nat.le_of_ble_eq_true rfl)) dX9_expect_13 ⟨by decide, by decide⟩) hP hD hS hA [0] [1] [1, 0] rfl rfl (by decide) (by decide) rfl (by decide) rfl (by decide) (fun H locs hP hD hS hE13 hz13 hf13 => ?_)
    clear hPc hDc
    clear hf13 hz13
    exact nv_mv hx hb hr hlocks hS dX9_expect_16 (by unfold exF; rw [if_neg hc5, ← show acF ta tnQ pl chQ = blk ta tnQ pl from if_neg hc5]; exact hP) trivial

set_option maxHeartbeats 4000000 in
set_option maxRecDepth 100000 in
theorem c_X9_isDigit (l : Launch) (D : va_G) (z : Nat → ClassId) (cq : Nat) (loQ : Nat) (hcq : cq < 128) (hlo : loQ ≤ 9) : CP l yX9_isDigit cX9_isDigit 2 (some .boolean) 1 22 [.int (nI cq), .int (nI loQ)] D z [] (fun _ => True) (some (.int (bI (48 + loQ ≤ cq ∧ cq ≤ 57)))) := by
  refine Met.ofW (cc := cX9_isDigit) (maxL := 2) (ret := (some .boolean)) (by decide) rfl ?_
  intro pg e s m args below meth c s₁ B hml hv
  obtain ⟨rfl, hP, hK, hE⟩ := hv
  have hx := B.exec
  have hb := B.bytes
  have hr := B.returns
  have hts : ∀ w ∈ ALL, w.before _ s = true := fun w h => atoms_spec (ws := wA yX9_isDigit cX9_isDigit 2 (some .boolean)) B.pre w (List.mem_cons_of_mem _ h)
  have hown : s.vm.findClass RX9 = some m.cls := findClass_of_methodNamed B.named
  have hlocks := B.notSynchronized
  have hl := lv_entry ([.int (nI cq), .int (nI loQ)]) (n := 2) (Nat.le_of_ble_eq_true rfl)
  rw [lg_entry_eq]
  generalize (lg_sl ([.int (nI cq), .int (nI loQ)]) ++ List.replicate (2 - (lg_sl ([.int (nI cq), .int (nI loQ)])).length) Slot.unset).toArray = ls at hl ⊢
  have hl : lv_has ls 2 [(0, .int (nI cq)), (1, .int (nI loQ))] := hl
  refine lv_iload_n hx hb dX9_isDigit_0 rfl (lv_at hl 0 rfl) ?_
  refine lv_bipush (v := nI 48) hx hb dX9_isDigit_1 (by decide +kernel) ?_
  refine lv_isub hx hb dX9_isDigit_3 ?_
  refine lv_iload_n hx hb dX9_isDigit_4 rfl (lv_at hl 1 rfl) ?_
  refine lv_bipush (v := nI 9) hx hb dX9_isDigit_5 (by decide +kernel) ?_
  have hPc := hP.sub (ws' := []) [] rfl
  refine nv_cp1 (va_runSN (As := [.int ((nI cq) - (nI 48)), .int (nI loQ), .int (nI 9)]) (rest := []) ⟨hx, hb, hml, hown, hts⟩ (c_X10_within l D z ((nI cq) - (nI 48)) (nI loQ) (nI 9) ) (⟨va_cnB (host := RX10) 3 hts (gC m_195) rfl rfl rfl (hK.2.1 _ nw_1) (hts _ m_198) hd_X10_within ⟨Nat.le_of_ble_eq_true rfl, Nat.le_of_ble_eq_true rfl⟩, hts _ m_197, trivial⟩) (nv_preP hK hPc trivial _) rfl rfl hl.1 rfl (lv_room (Nat.le_of_ble_eq_true rfl)) dX9_isDigit_7 ⟨Nat.le_refl _, Nat.le_refl _⟩) ?_
  refine nv_inwi (a := ((loQ : Nat) : Int)) (b := ((9 : Nat) : Int)) (nI_toInt (by omega)) (nI_toInt (by omega)) ?_
  exact nv_rz hx hb hr hlocks dX9_isDigit_10 (bI_c (by unfold wi; rw [pk_sub_toInt (by omega) (by decide)]; omega)) bI_nar

set_option maxHeartbeats 4000000 in
set_option maxRecDepth 100000 in
theorem c_X9_digit (l : Launch) (D : va_G) (z : Nat → ClassId) (sz : Nat) (tp : Nat) (tc : Nat) (tnQ : Nat) (pl : Nat) (f9 : Nat) (ta : Nat → Nat) (loQ : Nat) (htp : tOK ta tnQ) (hpl : pl ≤ tnQ) (hf9 : f9 ≤ 100) (hlo : loQ ≤ 9) : CM l yX9_digit cX9_digit 3 (some .int) 2 43 0 0 [.ref tp, .int (nI loQ)] D z [(tp, .inr (9, [.ref tc, .int (nI tnQ), .int (nI pl), .int (ftI f9)])), aC z tc 60 ta] sz (fun _ => True) [(tp, .inr (9, [.ref tc, .int (nI tnQ), .int (nI (dpF ta tnQ pl loQ)), .int (ftI (dfF ta tnQ pl loQ f9))])), aC z tc 60 ta] (some (.int (nI (dgC ta tnQ pl loQ)))) (fun _ => True) := by
  refine Met.ofW (cc := cX9_digit) (maxL := 3) (ret := (some .int)) (by decide) rfl ?_
  intro pg e s m args below meth c s₁ B hml hv
  obtain ⟨rfl, hsz, hP, hK, hD0, hE⟩ := hv
  have hx := B.exec
  have hb := B.bytes
  have hr := B.returns
  have hts : ∀ w ∈ ALL, w.before _ s = true := fun w h => atoms_spec (ws := wA yX9_digit cX9_digit 3 (some .int)) B.pre w (List.mem_cons_of_mem _ h)
  have hown : s.vm.findClass RX9 = some m.cls := findClass_of_methodNamed B.named
  have hlocks := B.notSynchronized
  subst hsz
  have hD := hD0.self (sz := s.heap.size)
  have htn := htp.1
  have hbk := bk_tn (ta := ta) hpl
  have hcl := chA_l (pl := pl) htp
  have hA : ∀ q : Nat, s.heap.size ≤ q → va_A [(tp, .inr (9, [.ref tc, .int (nI tnQ), .int (nI pl), .int (ftI f9)])), aC z tc 60 ta] s.heap.size q := fun q h => Or.inr h
  generalize va_A [(tp, .inr (9, [.ref tc, .int (nI tnQ), .int (nI pl), .int (ftI f9)])), aC z tc 60 ta] s.heap.size = A at *
  have hS : va_S A s.heap s.heap [] := va_S.rf
  have hl := lv_entry ([.ref tp, .int (nI loQ)]) (n := 3) (Nat.le_of_ble_eq_true rfl)
  rw [lg_entry_eq]
  generalize (lg_sl ([.ref tp, .int (nI loQ)]) ++ List.replicate (3 - (lg_sl ([.ref tp, .int (nI loQ)])).length) Slot.unset).toArray = ls at hl ⊢
  have hl : lv_has ls 3 [(0, .ref tp), (1, .int (nI loQ))] := hl
  refine lv_aload_n hx hb dX9_digit_0 rfl (lv_at hl 0 rfl) ?_
  have hPc := hP.sub (ws' := [(tp, .inr (9, [.ref tc, .int (nI tnQ), .int (nI pl), .int (ftI f9)])), aC z tc 60 ta]) [0, 1] rfl
  have hDc := hD.sub (ws' := [(tp, .inr (9, [.ref tc, .int (nI tnQ), .int (nI pl), .int (ftI f9)])), aC z tc 60 ta]) [0, 1] (by decide) rfl
  refine nv_cm1 (wc := [(tp, .inr (9, [.ref tc, .int (nI tnQ), .int (nI pl), .int (ftI f9)])), aC z tc 60 ta]) (wr := []) (w1 := [(tp, .inr (9, [.ref tc, .int (nI tnQ), .int (nI (blk ta tnQ pl)), .int (ftI f9)])), aC z tc 60 ta]) (ws1 := [(tp, .inr (9, [.ref tc, .int (nI tnQ), .int (nI (blk ta tnQ pl)), .int (ftI f9)])), aC z tc 60 ta]) (va_runV (As := []) (rest := []) ⟨hx, hb, hml, hown, hts⟩ (c_X9_look l D z s.heap.size tp tc tnQ pl f9 ta (by first | assumption | omega) (by first | assumption | omega) (by first | assumption | omega)) (cwV 0 hts (gV m_201 m_202 m_203 m_204 m_194) rfl rfl rfl ⟨rfl, hd_X9_look⟩ ⟨Nat.le_of_ble_eq_true rfl, Nat.le_of_ble_eq_true rfl⟩) (nv_preMV (ci := 9) (q0 := 0) hK hPc hDc trivial rfl rfl) rfl rfl hl.1 rfl (lv_room (Nat.le_of_ble_eq_true rfl)) dX9_digit_1 ⟨by decide, by decide⟩) hP hD hS hA [0, 1] [] [0, 1] rfl rfl (by decide) (by decide) rfl (by decide) rfl (by decide) (fun H locs hP hD hS hE1 hz1 hf1 => ?_)
  clear hPc hDc
  clear hf1 hz1
  refine lv_istore_n (lv' := [(2, .int (nI (chA ta tnQ pl))), (0, .ref tp), (1, .int (nI loQ))]) hx hb dX9_digit_4 rfl hl (by decide) rfl (fun ls hl => ?_)
  refine lv_iload_n hx hb dX9_digit_5 rfl (lv_at hl 0 rfl) ?_
  refine lv_iload_n hx hb dX9_digit_6 rfl (lv_at hl 2 rfl) ?_
  have hPc := hP.sub (ws' := []) [] rfl
  refine nv_cp1 (va_runS (As := [.int (nI (chA ta tnQ pl)), .int (nI loQ)]) (rest := []) ⟨hx, hb, hml, hown, hts⟩ (c_X9_isDigit l D z (chA ta tnQ pl) loQ (by first | assumption | omega) (by first | assumption | omega)) (va_cwS 2 hts (gS m_205 m_206 m_204 m_196) rfl rfl rfl hd_X9_isDigit ⟨Nat.le_of_ble_eq_true rfl, Nat.le_of_ble_eq_true rfl⟩) (nv_preP hK hPc trivial _) rfl rfl hl.1 rfl (lv_room (Nat.le_of_ble_eq_true rfl)) dX9_digit_7 ⟨by decide, by decide⟩) ?_
  refine nv_bne (tgt := 23) hx hb dX9_digit_10 (by decide) (fun hc10 => ?_) (fun hc10 => ?_)
  · refine lv_aload_n hx hb dX9_digit_23 rfl (lv_at hl 1 rfl) ?_
    refine lv_dup hx hb dX9_digit_24 rfl ?_
    refine va_get (D := D) (ci := 9) (v := .int (nI (blk ta tnQ pl))) (C := RX9) (T := TX9) (N := 4) hx hb hts iX9 hown hK.1 hP 0 rfl rfl 2 (by decide) (hts _ m_192) (fun _ h9 => h9) rfl dX9_digit_25 ?_
    refine lv_iconst (v := nI 1) hx hb dX9_digit_28 (by decide +kernel) ?_
    refine nv_add hx hb dX9_digit_29 ?_
    refine va_put (D := D) (ci := 9) (v := .int (nI (blk ta tnQ pl + 1))) (ty := tyX9 2) (C := RX9) (T := TX9) (N := 4) hx hb hts iX9 tyX9 tyX9_ok nmX9 hown hK.1 hP hD hS 0 rfl rfl 2 (by decide) (hts _ m_192) (fun _ h9 => h9) rfl (tyX9_ok 2 (by decide)) rfl rfl (Nat.le_of_ble_eq_true rfl) dX9_digit_30 (fun H locs hP hD hS => ?_)
    have hP : va_P D vwCl [(tp, .inr (9, [.ref tc, .int (nI tnQ), .int (nI (blk ta tnQ pl + 1)), .int (ftI f9)])), aC z tc 60 ta] H := hP
    have hD : va_D A [(tp, .inr (9, [.ref tc, .int (nI tnQ), .int (nI (blk ta tnQ pl + 1)), .int (ftI f9)])), aC z tc 60 ta] := hD
    refine lv_iload_n hx hb dX9_digit_33 rfl (lv_at hl 0 rfl) ?_
    refine lv_bipush (v := nI 48) hx hb dX9_digit_34 (by decide +kernel) ?_
    refine nv_sub hx hb (by omega) dX9_digit_36 ?_
    exact nv_mi hx hb hr hlocks hS dX9_digit_37 (by unfold dpF dfF; rw [if_pos (dg_is.mp hc10), if_pos (dg_is.mp hc10)]; exact hP) trivial (by unfold dgC; rw [if_pos (dg_is.mp hc10)]; unfold chA; rw [if_pos (dg_is.mp hc10).1])
  · refine lv_aload_n hx hb dX9_digit_13 rfl (lv_at hl 1 rfl) ?_
    refine lv_aload_n hx hb dX9_digit_14 rfl (lv_at hl 1 rfl) ?_
    refine va_get (D := D) (ci := 9) (v := .int (nI (blk ta tnQ pl))) (C := RX9) (T := TX9) (N := 4) hx hb hts iX9 hown hK.1 hP 0 rfl rfl 2 (by decide) (hts _ m_192) (fun _ h9 => h9) rfl dX9_digit_15 ?_
    have hPc := hP.sub (ws' := [(tp, .inr (9, [.ref tc, .int (nI tnQ), .int (nI (blk ta tnQ pl)), .int (ftI f9)]))]) [0] rfl
    have hDc := hD.sub (ws' := [(tp, .inr (9, [.ref tc, .int (nI tnQ), .int (nI (blk ta tnQ pl)), .int (ftI f9)]))]) [0] (by decide) rfl
    refine nv_cm0 (wc := [(tp, .inr (9, [.ref tc, .int (nI tnQ), .int (nI (blk ta tnQ pl)), .int (ftI f9)]))]) (wr := [aC z tc 60 ta]) (w1 := [(tp, .inr (9, [.ref tc, .int (nI tnQ), .int (nI (blk ta tnQ pl)), .int (ftI (faF f9 (blk ta tnQ pl)))]))]) (ws1 := [(tp, .inr (9, [.ref tc, .int (nI tnQ), .int (nI (blk ta tnQ pl)), .int (ftI (faF f9 (blk ta tnQ pl)))])), aC z tc 60 ta]) (va_runV (As := [.int (nI (blk ta tnQ pl))]) (rest := []) ⟨hx, hb, hml, hown, hts⟩ (c_X9_failAt l D z H.size tp tc tnQ (blk ta tnQ pl) f9 (blk ta tnQ pl) (by first | assumption | omega)) (cwV 1 hts (gV m_207 m_208 m_209 m_204 m_199) rfl rfl rfl ⟨rfl, hd_X9_failAt⟩ ⟨Nat.le_of_ble_eq_true rfl, Nat.le_of_ble_eq_true rfl⟩) (nv_preMV (ci := 9) (q0 := 0) hK hPc hDc trivial rfl rfl) rfl rfl hl.1 rfl (lv_room (Nat.le_of_ble_eq_true rfl)) dX9_digit_18 ⟨by decide, by decide⟩) hP hD hS hA [0] [1] [1, 0] rfl rfl (by decide) (by decide) rfl (by decide) rfl (by decide) (fun H locs hP hD hS hE18 hz18 hf18 => ?_)
    clear hPc hDc
    clear hf18 hz18
    refine lv_iload_n hx hb dX9_digit_21 rfl (lv_at hl 2 rfl) ?_
    exact nv_mi hx hb hr hlocks hS dX9_digit_22 (by unfold dpF dfF; rw [if_neg (fun q9 => hc10 (dg_is.mpr q9)), if_neg (fun q9 => hc10 (dg_is.mpr q9))]; exact hP) trivial (by unfold dgC; rw [if_neg (fun q9 => hc10 (dg_is.mpr q9))])

set_option maxHeartbeats 4000000 in
set_option maxRecDepth 100000 in
theorem c_X9_number (l : Launch) (D : va_G) (z : Nat → ClassId) (sz : Nat) (tp : Nat) (tc : Nat) (tnQ : Nat) (pl : Nat) (f9 : Nat) (ta : Nat → Nat) (hiQ : Nat) (htp : tOK ta tnQ) (hpl : pl ≤ tnQ) (hf9 : f9 ≤ 100) (hhi : hiQ < 2147483648) : CM l yX9_number cX9_number 4 (some .int) 2 43 0 0 [.ref tp, .int (nI hiQ)] D z [(tp, .inr (9, [.ref tc, .int (nI tnQ), .int (nI pl), .int (ftI f9)])), aC z tc 60 ta] sz (fun _ => True) [(tp, .inr (9, [.ref tc, .int (nI tnQ), .int (nI (blk ta tnQ pl + dcF ta tnQ (blk ta tnQ pl))), .int (ftI (nfF ta tnQ pl hiQ f9))])), aC z tc 60 ta] (some (.int (nI (nuV ta tnQ pl)))) (fun _ => True) := by
  refine Met.ofW (cc := cX9_number) (maxL := 4) (ret := (some .int)) (by decide) rfl ?_
  intro pg e s m args below meth c s₁ B hml hv
  obtain ⟨rfl, hsz, hP, hK, hD0, hE⟩ := hv
  have hx := B.exec
  have hb := B.bytes
  have hr := B.returns
  have hts : ∀ w ∈ ALL, w.before _ s = true := fun w h => atoms_spec (ws := wA yX9_number cX9_number 4 (some .int)) B.pre w (List.mem_cons_of_mem _ h)
  have hown : s.vm.findClass RX9 = some m.cls := findClass_of_methodNamed B.named
  have hlocks := B.notSynchronized
  subst hsz
  have hD := hD0.self (sz := s.heap.size)
  have htn := htp.1
  have hbk := bk_tn (ta := ta) hpl
  have hcl := chA_l (pl := pl) htp
  have hA : ∀ q : Nat, s.heap.size ≤ q → va_A [(tp, .inr (9, [.ref tc, .int (nI tnQ), .int (nI pl), .int (ftI f9)])), aC z tc 60 ta] s.heap.size q := fun q h => Or.inr h
  generalize va_A [(tp, .inr (9, [.ref tc, .int (nI tnQ), .int (nI pl), .int (ftI f9)])), aC z tc 60 ta] s.heap.size = A at *
  have hS : va_S A s.heap s.heap [] := va_S.rf
  have hl := lv_entry ([.ref tp, .int (nI hiQ)]) (n := 4) (Nat.le_of_ble_eq_true rfl)
  rw [lg_entry_eq]
  generalize (lg_sl ([.ref tp, .int (nI hiQ)]) ++ List.replicate (4 - (lg_sl ([.ref tp, .int (nI hiQ)])).length) Slot.unset).toArray = ls at hl ⊢
  have hl : lv_has ls 4 [(0, .ref tp), (1, .int (nI hiQ))] := hl
  refine lv_aload_n hx hb dX9_number_0 rfl (lv_at hl 0 rfl) ?_
  have hPc := hP.sub (ws' := [(tp, .inr (9, [.ref tc, .int (nI tnQ), .int (nI pl), .int (ftI f9)])), aC z tc 60 ta]) [0, 1] rfl
  have hDc := hD.sub (ws' := [(tp, .inr (9, [.ref tc, .int (nI tnQ), .int (nI pl), .int (ftI f9)])), aC z tc 60 ta]) [0, 1] (by decide) rfl
  refine nv_cm1 (wc := [(tp, .inr (9, [.ref tc, .int (nI tnQ), .int (nI pl), .int (ftI f9)])), aC z tc 60 ta]) (wr := []) (w1 := [(tp, .inr (9, [.ref tc, .int (nI tnQ), .int (nI (blk ta tnQ pl)), .int (ftI f9)])), aC z tc 60 ta]) (ws1 := [(tp, .inr (9, [.ref tc, .int (nI tnQ), .int (nI (blk ta tnQ pl)), .int (ftI f9)])), aC z tc 60 ta]) (va_runV (As := []) (rest := []) ⟨hx, hb, hml, hown, hts⟩ (c_X9_look l D z s.heap.size tp tc tnQ pl f9 ta (by first | assumption | omega) (by first | assumption | omega) (by first | assumption | omega)) (cwV 0 hts (gV m_201 m_202 m_203 m_204 m_194) rfl rfl rfl ⟨rfl, hd_X9_look⟩ ⟨Nat.le_of_ble_eq_true rfl, Nat.le_of_ble_eq_true rfl⟩) (nv_preMV (ci := 9) (q0 := 0) hK hPc hDc trivial rfl rfl) rfl rfl hl.1 rfl (lv_room (Nat.le_of_ble_eq_true rfl)) dX9_number_1 ⟨by decide, by decide⟩) hP hD hS hA [0, 1] [] [0, 1] rfl rfl (by decide) (by decide) rfl (by decide) rfl (by decide) (fun H locs hP hD hS hE1 hz1 hf1 => ?_)
  clear hPc hDc
  clear hf1 hz1
  refine lv_pop hx hb dX9_number_4 rfl ?_
  refine lv_aload_n hx hb dX9_number_5 rfl (lv_at hl 0 rfl) ?_
  refine va_get (D := D) (ci := 9) (v := .int (nI (blk ta tnQ pl))) (C := RX9) (T := TX9) (N := 4) hx hb hts iX9 hown hK.1 hP 0 rfl rfl 2 (by decide) (hts _ m_192) (fun _ h9 => h9) rfl dX9_number_6 ?_
  refine lv_istore_n (lv' := [(2, .int (nI (blk ta tnQ pl))), (0, .ref tp), (1, .int (nI hiQ))]) hx hb dX9_number_9 rfl hl (by decide) rfl (fun ls hl => ?_)
  refine lv_iconst (v := nI 0) hx hb dX9_number_10 (by decide +kernel) ?_
  refine lv_istore_n (lv' := [(3, .int (nI 0)), (2, .int (nI (blk ta tnQ pl))), (0, .ref tp), (1, .int (nI hiQ))]) hx hb dX9_number_11 rfl hl (by decide) rfl (fun ls hl => ?_)
  refine nv_loop (σ := Nat) (fun x H locs ls => ∃ (dq : Nat), dq = x ∧ ((dq ≤ 4) ∧ (∀ i, i < dq → dig ta tnQ ((blk ta tnQ pl) + i))) ∧ va_P D vwCl [(tp, .inr (9, [.ref tc, .int (nI tnQ), .int (nI (blk ta tnQ pl + dq)), .int (ftI f9)])), aC z tc 60 ta] H ∧ va_D A [(tp, .inr (9, [.ref tc, .int (nI tnQ), .int (nI (blk ta tnQ pl + dq)), .int (ftI f9)])), aC z tc 60 ta] ∧ va_S A s.heap H locs ∧ lv_has ls 4 [(0, .ref tp), (1, .int (nI hiQ)), (2, .int (nI (blk ta tnQ pl))), (3, .int (nI (nvF ta (blk ta tnQ pl) dq)))]) (fun x => 4 - x) 12 [] ?_ 0 ?_
  · rintro _ H locs ls ⟨dq, rfl, ⟨hd4, hdg⟩, hP, hD, hS, hl⟩ ih12
    refine lv_aload_n hx hb dX9_number_12 rfl (lv_at hl 0 rfl) ?_
    refine va_get (D := D) (ci := 9) (v := .int (nI (blk ta tnQ pl + dq))) (C := RX9) (T := TX9) (N := 4) hx hb hts iX9 hown hK.1 hP 0 rfl rfl 2 (by decide) (hts _ m_192) (fun _ h9 => h9) rfl dX9_number_13 ?_
    refine lv_aload_n hx hb dX9_number_16 rfl (lv_at hl 0 rfl) ?_
    refine va_get (D := D) (ci := 9) (v := .int (nI tnQ)) (C := RX9) (T := TX9) (N := 4) hx hb hts iX9 hown hK.1 hP 0 rfl rfl 1 (by decide) (hts _ m_191) (fun _ h9 => h9) rfl dX9_number_17 ?_
    refine nv_ge (tgt := 80) hx hb (by omega) (by omega) dX9_number_20 (by decide) (fun hc20 => ?_) (fun hc20 => ?_)
    · have hnv := nvF_le hdg
      have hp9 := p10_le (show dq ≤ 4 by omega)
      have ed : dcF ta tnQ (blk ta tnQ pl) = dq := dcF_is hdg (by omega) (by omega)
      obtain rfl : dq = dcF ta tnQ (blk ta tnQ pl) := ed.symm
      have hnu : nuV ta tnQ pl = nvF ta (blk ta tnQ pl) (dcF ta tnQ (blk ta tnQ pl)) := rfl
      refine lv_iload_n hx hb dX9_number_80 rfl (lv_at hl 3 rfl) ?_
      refine lv_iconst (v := nI 1) hx hb dX9_number_81 (by decide +kernel) ?_
      refine lv_iload_n hx hb dX9_number_82 rfl (lv_at hl 1 rfl) ?_
      have hPc := hP.sub (ws' := []) [] rfl
      refine nv_cp1 (va_runSN (As := [.int (nI (nvF ta (blk ta tnQ pl) (dcF ta tnQ (blk ta tnQ pl)))), .int (nI 1), .int (nI hiQ)]) (rest := []) ⟨hx, hb, hml, hown, hts⟩ (c_X10_within l D z (nI (nvF ta (blk ta tnQ pl) (dcF ta tnQ (blk ta tnQ pl)))) (nI 1) (nI hiQ) ) (⟨va_cnB (host := RX10) 3 hts (gC m_195) rfl rfl rfl (hK.2.1 _ nw_1) (hts _ m_198) hd_X10_within ⟨Nat.le_of_ble_eq_true rfl, Nat.le_of_ble_eq_true rfl⟩, hts _ m_197, trivial⟩) (nv_preP hK hPc trivial _) rfl rfl hl.1 rfl (lv_room (Nat.le_of_ble_eq_true rfl)) dX9_number_83 ⟨by decide, by decide⟩) ?_
      refine nv_inni (a := 1) (b := hiQ) (by omega) (nI_toInt (by omega)) (nI_toInt (by omega)) ?_
      refine nv_bne (tgt := 94) hx hb dX9_number_86 (by decide) (fun hc86 => ?_) (fun hc86 => ?_)
      · refine lv_iload_n hx hb dX9_number_94 rfl (lv_at hl 3 rfl) ?_
        exact nv_mi hx hb hr hlocks hS dX9_number_95 (by unfold nfF; rw [if_pos (by rw [hnu]; exact hc86)]; exact hP) trivial rfl
      · refine lv_aload_n hx hb dX9_number_89 rfl (lv_at hl 0 rfl) ?_
        refine lv_iload_n hx hb dX9_number_90 rfl (lv_at hl 2 rfl) ?_
        have hPc := hP.sub (ws' := [(tp, .inr (9, [.ref tc, .int (nI tnQ), .int (nI (blk ta tnQ pl + (dcF ta tnQ (blk ta tnQ pl)))), .int (ftI f9)]))]) [0] rfl
        have hDc := hD.sub (ws' := [(tp, .inr (9, [.ref tc, .int (nI tnQ), .int (nI (blk ta tnQ pl + (dcF ta tnQ (blk ta tnQ pl)))), .int (ftI f9)]))]) [0] (by decide) rfl
        refine nv_cm0 (wc := [(tp, .inr (9, [.ref tc, .int (nI tnQ), .int (nI (blk ta tnQ pl + (dcF ta tnQ (blk ta tnQ pl)))), .int (ftI f9)]))]) (wr := [aC z tc 60 ta]) (w1 := [(tp, .inr (9, [.ref tc, .int (nI tnQ), .int (nI (blk ta tnQ pl + (dcF ta tnQ (blk ta tnQ pl)))), .int (ftI (faF f9 (blk ta tnQ pl)))]))]) (ws1 := [(tp, .inr (9, [.ref tc, .int (nI tnQ), .int (nI (blk ta tnQ pl + (dcF ta tnQ (blk ta tnQ pl)))), .int (ftI (faF f9 (blk ta tnQ pl)))])), aC z tc 60 ta]) (va_runV (As := [.int (nI (blk ta tnQ pl))]) (rest := []) ⟨hx, hb, hml, hown, hts⟩ (c_X9_failAt l D z H.size tp tc tnQ (blk ta tnQ pl + (dcF ta tnQ (blk ta tnQ pl))) f9 (blk ta tnQ pl) (by first | assumption | omega)) (cwV 1 hts (gV m_207 m_208 m_209 m_204 m_199) rfl rfl rfl ⟨rfl, hd_X9_failAt⟩ ⟨Nat.le_of_ble_eq_true rfl, Nat.le_of_ble_eq_true rfl⟩) (nv_preMV (ci := 9) (q0 := 0) hK hPc hDc trivial rfl rfl) rfl rfl hl.1 rfl (lv_room (Nat.le_of_ble_eq_true rfl)) dX9_number_91 ⟨by decide, by decide⟩) hP hD hS hA [0] [1] [1, 0] rfl rfl (by decide) (by decide) rfl (by decide) rfl (by decide) (fun H locs hP hD hS hE91 hz91 hf91 => ?_)
        clear hPc hDc
        clear hf91 hz91
        refine lv_iload_n hx hb dX9_number_94 rfl (lv_at hl 3 rfl) ?_
        exact nv_mi hx hb hr hlocks hS dX9_number_95 (by unfold nfF; rw [if_neg (fun q9 => hc86 (by rw [← hnu]; exact q9))]; exact hP) trivial rfl
    · refine lv_aload_n hx hb dX9_number_23 rfl (lv_at hl 0 rfl) ?_
      refine va_get (D := D) (ci := 9) (v := .int (nI (blk ta tnQ pl + dq))) (C := RX9) (T := TX9) (N := 4) hx hb hts iX9 hown hK.1 hP 0 rfl rfl 2 (by decide) (hts _ m_192) (fun _ h9 => h9) rfl dX9_number_24 ?_
      refine lv_iload_n hx hb dX9_number_27 rfl (lv_at hl 2 rfl) ?_
      refine lv_iconst (v := nI 4) hx hb dX9_number_28 (by decide +kernel) ?_
      refine nv_add hx hb dX9_number_29 ?_
      refine nv_ge (tgt := 80) hx hb (by omega) (by omega) dX9_number_30 (by decide) (fun hc30 => ?_) (fun hc30 => ?_)
      · have hnv := nvF_le hdg
        have hp9 := p10_le (show dq ≤ 4 by omega)
        have ed : dcF ta tnQ (blk ta tnQ pl) = dq := dcF_is hdg (by omega) (by omega)
        obtain rfl : dq = dcF ta tnQ (blk ta tnQ pl) := ed.symm
        have hnu : nuV ta tnQ pl = nvF ta (blk ta tnQ pl) (dcF ta tnQ (blk ta tnQ pl)) := rfl
        refine lv_iload_n hx hb dX9_number_80 rfl (lv_at hl 3 rfl) ?_
        refine lv_iconst (v := nI 1) hx hb dX9_number_81 (by decide +kernel) ?_
        refine lv_iload_n hx hb dX9_number_82 rfl (lv_at hl 1 rfl) ?_
        have hPc := hP.sub (ws' := []) [] rfl
        refine nv_cp1 (va_runSN (As := [.int (nI (nvF ta (blk ta tnQ pl) (dcF ta tnQ (blk ta tnQ pl)))), .int (nI 1), .int (nI hiQ)]) (rest := []) ⟨hx, hb, hml, hown, hts⟩ (c_X10_within l D z (nI (nvF ta (blk ta tnQ pl) (dcF ta tnQ (blk ta tnQ pl)))) (nI 1) (nI hiQ) ) (⟨va_cnB (host := RX10) 3 hts (gC m_195) rfl rfl rfl (hK.2.1 _ nw_1) (hts _ m_198) hd_X10_within ⟨Nat.le_of_ble_eq_true rfl, Nat.le_of_ble_eq_true rfl⟩, hts _ m_197, trivial⟩) (nv_preP hK hPc trivial _) rfl rfl hl.1 rfl (lv_room (Nat.le_of_ble_eq_true rfl)) dX9_number_83 ⟨by decide, by decide⟩) ?_
        refine nv_inni (a := 1) (b := hiQ) (by omega) (nI_toInt (by omega)) (nI_toInt (by omega)) ?_
        refine nv_bne (tgt := 94) hx hb dX9_number_86 (by decide) (fun hc86 => ?_) (fun hc86 => ?_)
        · refine lv_iload_n hx hb dX9_number_94 rfl (lv_at hl 3 rfl) ?_
          exact nv_mi hx hb hr hlocks hS dX9_number_95 (by unfold nfF; rw [if_pos (by rw [hnu]; exact hc86)]; exact hP) trivial rfl
        · refine lv_aload_n hx hb dX9_number_89 rfl (lv_at hl 0 rfl) ?_
          refine lv_iload_n hx hb dX9_number_90 rfl (lv_at hl 2 rfl) ?_
          have hPc := hP.sub (ws' := [(tp, .inr (9, [.ref tc, .int (nI tnQ), .int (nI (blk ta tnQ pl + (dcF ta tnQ (blk ta tnQ pl)))), .int (ftI f9)]))]) [0] rfl
          have hDc := hD.sub (ws' := [(tp, .inr (9, [.ref tc, .int (nI tnQ), .int (nI (blk ta tnQ pl + (dcF ta tnQ (blk ta tnQ pl)))), .int (ftI f9)]))]) [0] (by decide) rfl
          refine nv_cm0 (wc := [(tp, .inr (9, [.ref tc, .int (nI tnQ), .int (nI (blk ta tnQ pl + (dcF ta tnQ (blk ta tnQ pl)))), .int (ftI f9)]))]) (wr := [aC z tc 60 ta]) (w1 := [(tp, .inr (9, [.ref tc, .int (nI tnQ), .int (nI (blk ta tnQ pl + (dcF ta tnQ (blk ta tnQ pl)))), .int (ftI (faF f9 (blk ta tnQ pl)))]))]) (ws1 := [(tp, .inr (9, [.ref tc, .int (nI tnQ), .int (nI (blk ta tnQ pl + (dcF ta tnQ (blk ta tnQ pl)))), .int (ftI (faF f9 (blk ta tnQ pl)))])), aC z tc 60 ta]) (va_runV (As := [.int (nI (blk ta tnQ pl))]) (rest := []) ⟨hx, hb, hml, hown, hts⟩ (c_X9_failAt l D z H.size tp tc tnQ (blk ta tnQ pl + (dcF ta tnQ (blk ta tnQ pl))) f9 (blk ta tnQ pl) (by first | assumption | omega)) (cwV 1 hts (gV m_207 m_208 m_209 m_204 m_199) rfl rfl rfl ⟨rfl, hd_X9_failAt⟩ ⟨Nat.le_of_ble_eq_true rfl, Nat.le_of_ble_eq_true rfl⟩) (nv_preMV (ci := 9) (q0 := 0) hK hPc hDc trivial rfl rfl) rfl rfl hl.1 rfl (lv_room (Nat.le_of_ble_eq_true rfl)) dX9_number_91 ⟨by decide, by decide⟩) hP hD hS hA [0] [1] [1, 0] rfl rfl (by decide) (by decide) rfl (by decide) rfl (by decide) (fun H locs hP hD hS hE91 hz91 hf91 => ?_)
          clear hPc hDc
          clear hf91 hz91
          refine lv_iload_n hx hb dX9_number_94 rfl (lv_at hl 3 rfl) ?_
          exact nv_mi hx hb hr hlocks hS dX9_number_95 (by unfold nfF; rw [if_neg (fun q9 => hc86 (by rw [← hnu]; exact q9))]; exact hP) trivial rfl
      · refine lv_aload_n hx hb dX9_number_33 rfl (lv_at hl 0 rfl) ?_
        refine va_get (D := D) (ci := 9) (v := .ref tc) (C := RX9) (T := TX9) (N := 4) hx hb hts iX9 hown hK.1 hP 0 rfl rfl 0 (by decide) (hts _ m_190) (fun _ h9 => h9) rfl dX9_number_34 ?_
        refine lv_aload_n hx hb dX9_number_37 rfl (lv_at hl 0 rfl) ?_
        refine va_get (D := D) (ci := 9) (v := .int (nI (blk ta tnQ pl + dq))) (C := RX9) (T := TX9) (N := 4) hx hb hts iX9 hown hK.1 hP 0 rfl rfl 2 (by decide) (hts _ m_192) (fun _ h9 => h9) rfl dX9_number_38 ?_
        have h31 := htp.2 ((blk ta tnQ pl) + dq) (by omega)
        refine nv_cald hx hb hK hP 1 rfl (by omega) (by decide) dX9_number_41 ?_
        refine lv_iconst (v := nI 0) hx hb dX9_number_42 (by decide +kernel) ?_
        have hPc := hP.sub (ws' := []) [] rfl
        refine nv_cp1 (va_runS (As := [.int (nI (ta (blk ta tnQ pl + dq))), .int (nI 0)]) (rest := []) ⟨hx, hb, hml, hown, hts⟩ (c_X9_isDigit l D z (ta (blk ta tnQ pl + dq)) 0 (by first | assumption | omega) (by first | assumption | omega)) (va_cwS 2 hts (gS m_205 m_206 m_204 m_196) rfl rfl rfl hd_X9_isDigit ⟨Nat.le_of_ble_eq_true rfl, Nat.le_of_ble_eq_true rfl⟩) (nv_preP hK hPc trivial _) rfl rfl hl.1 rfl (lv_room (Nat.le_of_ble_eq_true rfl)) dX9_number_43 ⟨by decide, by decide⟩) ?_
        refine nv_beq (tgt := 80) hx hb dX9_number_46 (by decide) (fun hc46 => ?_) (fun hc46 => ?_)
        · have hnv := nvF_le hdg
          have hp9 := p10_le (show dq ≤ 4 by omega)
          have ed : dcF ta tnQ (blk ta tnQ pl) = dq := dcF_is hdg (by omega) (by omega)
          obtain rfl : dq = dcF ta tnQ (blk ta tnQ pl) := ed.symm
          have hnu : nuV ta tnQ pl = nvF ta (blk ta tnQ pl) (dcF ta tnQ (blk ta tnQ pl)) := rfl
          refine lv_iload_n hx hb dX9_number_80 rfl (lv_at hl 3 rfl) ?_
          refine lv_iconst (v := nI 1) hx hb dX9_number_81 (by decide +kernel) ?_
          refine lv_iload_n hx hb dX9_number_82 rfl (lv_at hl 1 rfl) ?_
          have hPc := hP.sub (ws' := []) [] rfl
          refine nv_cp1 (va_runSN (As := [.int (nI (nvF ta (blk ta tnQ pl) (dcF ta tnQ (blk ta tnQ pl)))), .int (nI 1), .int (nI hiQ)]) (rest := []) ⟨hx, hb, hml, hown, hts⟩ (c_X10_within l D z (nI (nvF ta (blk ta tnQ pl) (dcF ta tnQ (blk ta tnQ pl)))) (nI 1) (nI hiQ) ) (⟨va_cnB (host := RX10) 3 hts (gC m_195) rfl rfl rfl (hK.2.1 _ nw_1) (hts _ m_198) hd_X10_within ⟨Nat.le_of_ble_eq_true rfl, Nat.le_of_ble_eq_true rfl⟩, hts _ m_197, trivial⟩) (nv_preP hK hPc trivial _) rfl rfl hl.1 rfl (lv_room (Nat.le_of_ble_eq_true rfl)) dX9_number_83 ⟨by decide, by decide⟩) ?_
          refine nv_inni (a := 1) (b := hiQ) (by omega) (nI_toInt (by omega)) (nI_toInt (by omega)) ?_
          refine nv_bne (tgt := 94) hx hb dX9_number_86 (by decide) (fun hc86 => ?_) (fun hc86 => ?_)
          · refine lv_iload_n hx hb dX9_number_94 rfl (lv_at hl 3 rfl) ?_
            exact nv_mi hx hb hr hlocks hS dX9_number_95 (by unfold nfF; rw [if_pos (by rw [hnu]; exact hc86)]; exact hP) trivial rfl
          · refine lv_aload_n hx hb dX9_number_89 rfl (lv_at hl 0 rfl) ?_
            refine lv_iload_n hx hb dX9_number_90 rfl (lv_at hl 2 rfl) ?_
            have hPc := hP.sub (ws' := [(tp, .inr (9, [.ref tc, .int (nI tnQ), .int (nI (blk ta tnQ pl + (dcF ta tnQ (blk ta tnQ pl)))), .int (ftI f9)]))]) [0] rfl
            have hDc := hD.sub (ws' := [(tp, .inr (9, [.ref tc, .int (nI tnQ), .int (nI (blk ta tnQ pl + (dcF ta tnQ (blk ta tnQ pl)))), .int (ftI f9)]))]) [0] (by decide) rfl
            refine nv_cm0 (wc := [(tp, .inr (9, [.ref tc, .int (nI tnQ), .int (nI (blk ta tnQ pl + (dcF ta tnQ (blk ta tnQ pl)))), .int (ftI f9)]))]) (wr := [aC z tc 60 ta]) (w1 := [(tp, .inr (9, [.ref tc, .int (nI tnQ), .int (nI (blk ta tnQ pl + (dcF ta tnQ (blk ta tnQ pl)))), .int (ftI (faF f9 (blk ta tnQ pl)))]))]) (ws1 := [(tp, .inr (9, [.ref tc, .int (nI tnQ), .int (nI (blk ta tnQ pl + (dcF ta tnQ (blk ta tnQ pl)))), .int (ftI (faF f9 (blk ta tnQ pl)))])), aC z tc 60 ta]) (va_runV (As := [.int (nI (blk ta tnQ pl))]) (rest := []) ⟨hx, hb, hml, hown, hts⟩ (c_X9_failAt l D z H.size tp tc tnQ (blk ta tnQ pl + (dcF ta tnQ (blk ta tnQ pl))) f9 (blk ta tnQ pl) (by first | assumption | omega)) (cwV 1 hts (gV m_207 m_208 m_209 m_204 m_199) rfl rfl rfl ⟨rfl, hd_X9_failAt⟩ ⟨Nat.le_of_ble_eq_true rfl, Nat.le_of_ble_eq_true rfl⟩) (nv_preMV (ci := 9) (q0 := 0) hK hPc hDc trivial rfl rfl) rfl rfl hl.1 rfl (lv_room (Nat.le_of_ble_eq_true rfl)) dX9_number_91 ⟨by decide, by decide⟩) hP hD hS hA [0] [1] [1, 0] rfl rfl (by decide) (by decide) rfl (by decide) rfl (by decide) (fun H locs hP hD hS hE91 hz91 hf91 => ?_)
            clear hPc hDc
            clear hf91 hz91
            refine lv_iload_n hx hb dX9_number_94 rfl (lv_at hl 3 rfl) ?_
            exact nv_mi hx hb hr hlocks hS dX9_number_95 (by unfold nfF; rw [if_neg (fun q9 => hc86 (by rw [← hnu]; exact q9))]; exact hP) trivial rfl
        · refine lv_iload_n hx hb dX9_number_49 rfl (lv_at hl 3 rfl) ?_
          refine lv_bipush (v := nI 10) hx hb dX9_number_50 (by decide +kernel) ?_
          refine nv_mul hx hb dX9_number_52 ?_
          refine lv_aload_n hx hb dX9_number_53 rfl (lv_at hl 0 rfl) ?_
          refine va_get (D := D) (ci := 9) (v := .ref tc) (C := RX9) (T := TX9) (N := 4) hx hb hts iX9 hown hK.1 hP 0 rfl rfl 0 (by decide) (hts _ m_190) (fun _ h9 => h9) rfl dX9_number_54 ?_
          refine lv_aload_n hx hb dX9_number_57 rfl (lv_at hl 0 rfl) ?_
          refine va_get (D := D) (ci := 9) (v := .int (nI (blk ta tnQ pl + dq))) (C := RX9) (T := TX9) (N := 4) hx hb hts iX9 hown hK.1 hP 0 rfl rfl 2 (by decide) (hts _ m_192) (fun _ h9 => h9) rfl dX9_number_58 ?_
          have h31 := htp.2 ((blk ta tnQ pl) + dq) (by omega)
          refine nv_cald hx hb hK hP 1 rfl (by omega) (by decide) dX9_number_61 ?_
          refine nv_add hx hb dX9_number_62 ?_
          refine lv_bipush (v := nI 48) hx hb dX9_number_63 (by decide +kernel) ?_
          refine nv_sub hx hb (by omega) dX9_number_65 ?_
          rw [Nat.mul_comm _ 10]
          refine lv_istore_n (lv' := [(3, .int (nI (10 * nvF ta (blk ta tnQ pl) dq + ta (blk ta tnQ pl + dq) - 48))), (0, .ref tp), (1, .int (nI hiQ)), (2, .int (nI (blk ta tnQ pl)))]) hx hb dX9_number_66 rfl hl (by decide) rfl (fun ls hl => ?_)
          refine lv_aload_n hx hb dX9_number_67 rfl (lv_at hl 1 rfl) ?_
          refine lv_dup hx hb dX9_number_68 rfl ?_
          refine va_get (D := D) (ci := 9) (v := .int (nI (blk ta tnQ pl + dq))) (C := RX9) (T := TX9) (N := 4) hx hb hts iX9 hown hK.1 hP 0 rfl rfl 2 (by decide) (hts _ m_192) (fun _ h9 => h9) rfl dX9_number_69 ?_
          refine lv_iconst (v := nI 1) hx hb dX9_number_72 (by decide +kernel) ?_
          refine nv_add hx hb dX9_number_73 ?_
          refine va_put (D := D) (ci := 9) (v := .int (nI (blk ta tnQ pl + dq + 1))) (ty := tyX9 2) (C := RX9) (T := TX9) (N := 4) hx hb hts iX9 tyX9 tyX9_ok nmX9 hown hK.1 hP hD hS 0 rfl rfl 2 (by decide) (hts _ m_192) (fun _ h9 => h9) rfl (tyX9_ok 2 (by decide)) rfl rfl (Nat.le_of_ble_eq_true rfl) dX9_number_74 (fun H locs hP hD hS => ?_)
          have hP : va_P D vwCl [(tp, .inr (9, [.ref tc, .int (nI tnQ), .int (nI (blk ta tnQ pl + dq + 1)), .int (ftI f9)])), aC z tc 60 ta] H := hP
          have hD : va_D A [(tp, .inr (9, [.ref tc, .int (nI tnQ), .int (nI (blk ta tnQ pl + dq + 1)), .int (ftI f9)])), aC z tc 60 ta] := hD
          refine lv_goto (tgt := 12) hx hb dX9_number_77 (by decide) ?_
          exact ih12 (dq + 1) _ _ _ (by omega) ⟨dq + 1, rfl, ⟨(by omega), (fun i hi9 => (Nat.lt_succ_iff_lt_or_eq.mp hi9).elim (hdg i) (fun e9 => by rw [e9]; exact ⟨by omega, by omega, by omega⟩))⟩, hP, hD, hS, lv_sub hl [1, 2, 3, 0] rfl⟩
  · exact ⟨0, rfl, ⟨(by omega), (fun i hi9 => absurd hi9 (Nat.not_lt_zero _))⟩, hP, hD, hS, lv_sub hl [2, 3, 1, 0] rfl⟩
