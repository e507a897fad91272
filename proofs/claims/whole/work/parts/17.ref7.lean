set_option maxHeartbeats 4000000 in
set_option maxRecDepth 100000 in
theorem c_X11_blanks (l : Launch) (D : va_G) (z : Nat → ClassId) (sz : Nat) (o : Nat) (qj : Nat) (qt : Nat) (qf : Nat) (qp : Nat) (qk : Nat) (qq : Nat) (qa : Nat) (qs : Nat) (ql : Nat) (qm : Nat) (qi : Nat) (qe : Nat) (un : Nat) (ku : Nat) (ik : Nat) (tnQ : Nat) (th : Nat) (la : Nat) (wo : Nat) (cu : Nat) (fa : Nat) (fat : Nat) (ta : Nat → Nat) (htp : tOK ta tnQ) (hcu : cu < 2000) : CM l yX11_blanks cX11_blanks 1 none 0 0 0 0 [.ref o] D z [(o, .inr (11, [.ref qj, .ref qt, .ref qf, .ref qp, .int (nI un), .ref qk, .ref qq, .int (nI ku), .int (nI ik), .ref qa, .int (nI tnQ), .int (nI th), .int (nI la), .int (nI wo), .int (nI cu), .int (nI fa), .int (nI fat), .ref qs, .ref ql, .ref qm, .ref qi, .ref qe])), aN z qa 60 ta] sz (fun _ => True) [(o, .inr (11, [.ref qj, .ref qt, .ref qf, .ref qp, .int (nI un), .ref qk, .ref qq, .int (nI ku), .int (nI ik), .ref qa, .int (nI tnQ), .int (nI th), .int (nI la), .int (nI wo), .int (nI (blk ta tnQ cu)), .int (nI fa), .int (nI fat), .ref qs, .ref ql, .ref qm, .ref qi, .ref qe])), aN z qa 60 ta] none (fun _ => True) := by
  refine Met.ofW (cc := cX11_blanks) (maxL := 1) (ret := none) (by decide) rfl ?_
  intro pg e s m args below meth c s₁ B hml hv
  obtain ⟨rfl, hsz, hP, hK, hD0, hE⟩ := hv
  have hx := B.exec
  have hb := B.bytes
  have hr := B.returns
  have hts : ∀ w ∈ ALL, w.before _ s = true := fun w h => atoms_spec (ws := wA yX11_blanks cX11_blanks 1 none) B.pre w (List.mem_cons_of_mem _ h)
  have hown : s.vm.findClass RX11 = some m.cls := findClass_of_methodNamed B.named
  have hlocks := B.notSynchronized
  subst hsz
  have hD := hD0.self (sz := s.heap.size)
  have htn := htp.1
  have hbl := blk_le ta tnQ cu
  have hA : ∀ q : Nat, s.heap.size ≤ q → va_A [(o, .inr (11, [.ref qj, .ref qt, .ref qf, .ref qp, .int (nI un), .ref qk, .ref qq, .int (nI ku), .int (nI ik), .ref qa, .int (nI tnQ), .int (nI th), .int (nI la), .int (nI wo), .int (nI cu), .int (nI fa), .int (nI fat), .ref qs, .ref ql, .ref qm, .ref qi, .ref qe])), aN z qa 60 ta] s.heap.size q := fun q h => Or.inr h
  generalize va_A [(o, .inr (11, [.ref qj, .ref qt, .ref qf, .ref qp, .int (nI un), .ref qk, .ref qq, .int (nI ku), .int (nI ik), .ref qa, .int (nI tnQ), .int (nI th), .int (nI la), .int (nI wo), .int (nI cu), .int (nI fa), .int (nI fat), .ref qs, .ref ql, .ref qm, .ref qi, .ref qe])), aN z qa 60 ta] s.heap.size = A at *
  have hS : va_S A s.heap s.heap [] := va_S.rf
  have hl := lv_entry ([.ref o]) (n := 1) (Nat.le_of_ble_eq_true rfl)
  rw [lg_entry_eq]
  generalize (lg_sl ([.ref o]) ++ List.replicate (1 - (lg_sl ([.ref o])).length) Slot.unset).toArray = ls at hl ⊢
  have hl : lv_has ls 1 [(0, .ref o)] := hl
  refine nv_loop (σ := Nat) (fun x H locs ls => ∃ (cq : Nat), cq = x ∧ ((blk ta tnQ cq = blk ta tnQ cu) ∧ (cq ≤ cu ∨ cq ≤ tnQ)) ∧ va_P D vwCl [(o, .inr (11, [.ref qj, .ref qt, .ref qf, .ref qp, .int (nI un), .ref qk, .ref qq, .int (nI ku), .int (nI ik), .ref qa, .int (nI tnQ), .int (nI th), .int (nI la), .int (nI wo), .int (nI cq), .int (nI fa), .int (nI fat), .ref qs, .ref ql, .ref qm, .ref qi, .ref qe])), aN z qa 60 ta] H ∧ va_D A [(o, .inr (11, [.ref qj, .ref qt, .ref qf, .ref qp, .int (nI un), .ref qk, .ref qq, .int (nI ku), .int (nI ik), .ref qa, .int (nI tnQ), .int (nI th), .int (nI la), .int (nI wo), .int (nI cq), .int (nI fa), .int (nI fat), .ref qs, .ref ql, .ref qm, .ref qi, .ref qe])), aN z qa 60 ta] ∧ va_S A s.heap H locs ∧ lv_has ls 1 [(0, .ref o)]) (fun x => tnQ - x) 0 [] ?_ cu ?_
  · rintro _ H locs ls ⟨cq, rfl, ⟨hb9, hc9⟩, hP, hD, hS, hl⟩ ih0
    refine lv_aload_n hx hb dX11_blanks_0 rfl (lv_at hl 0 rfl) ?_
    refine va_get (D := D) (ci := 11) (v := .int (nI cq)) (C := RX11) (T := TX11) (N := 22) hx hb hts iX11 hown hK.1 hP 0 rfl rfl 14 (by decide) (hts _ m_595) (fun _ h9 => h9) rfl dX11_blanks_1 ?_
    refine lv_aload_n hx hb dX11_blanks_4 rfl (lv_at hl 0 rfl) ?_
    refine va_get (D := D) (ci := 11) (v := .int (nI tnQ)) (C := RX11) (T := TX11) (N := 22) hx hb hts iX11 hown hK.1 hP 0 rfl rfl 10 (by decide) (hts _ m_593) (fun _ h9 => h9) rfl dX11_blanks_5 ?_
    refine nv_ge (tgt := 38) hx hb (by omega) (by omega) dX11_blanks_8 (by decide) (fun hc8 => ?_) (fun hc8 => ?_)
    · have e9 : blk ta tnQ cu = cq := by rw [← hb9, blk_end (by omega)]
      exact nv_mv hx hb hr hlocks hS dX11_blanks_38 (by rw [e9]; exact hP) trivial
    · refine lv_aload_n hx hb dX11_blanks_11 rfl (lv_at hl 0 rfl) ?_
      refine va_get (D := D) (ci := 11) (v := .ref qa) (C := RX11) (T := TX11) (N := 22) hx hb hts iX11 hown hK.1 hP 0 rfl rfl 9 (by decide) (hts _ m_529) (fun _ h9 => h9) rfl dX11_blanks_12 ?_
      refine lv_aload_n hx hb dX11_blanks_15 rfl (lv_at hl 0 rfl) ?_
      refine va_get (D := D) (ci := 11) (v := .int (nI cq)) (C := RX11) (T := TX11) (N := 22) hx hb hts iX11 hown hK.1 hP 0 rfl rfl 14 (by decide) (hts _ m_595) (fun _ h9 => h9) rfl dX11_blanks_16 ?_
      have ht9 := htp.2 cq (by omega)
      refine nv_ald hx hb hK hP 1 rfl (by omega) (by decide) dX11_blanks_19 ?_
      refine lv_bipush (v := nI 32) hx hb dX11_blanks_20 (by decide +kernel) ?_
      refine nv_ne (tgt := 38) hx hb (by omega) (by omega) dX11_blanks_22 (by decide) (fun hc22 => ?_) (fun hc22 => ?_)
      · have e9 : blk ta tnQ cu = cq := by rw [← hb9, blk_end (by omega)]
        exact nv_mv hx hb hr hlocks hS dX11_blanks_38 (by rw [e9]; exact hP) trivial
      · have hb8 := blk_go (ta := ta) (tn := tnQ) (c := cq) (by omega) (by omega)
        refine lv_aload_n hx hb dX11_blanks_25 rfl (lv_at hl 0 rfl) ?_
        refine lv_dup hx hb dX11_blanks_26 rfl ?_
        refine va_get (D := D) (ci := 11) (v := .int (nI cq)) (C := RX11) (T := TX11) (N := 22) hx hb hts iX11 hown hK.1 hP 0 rfl rfl 14 (by decide) (hts _ m_595) (fun _ h9 => h9) rfl dX11_blanks_27 ?_
        refine lv_iconst (v := nI 1) hx hb dX11_blanks_30 (by decide +kernel) ?_
        refine nv_add hx hb dX11_blanks_31 ?_
        refine va_put (D := D) (ci := 11) (v := .int (nI (cq + 1))) (ty := tyX11 14) (C := RX11) (T := TX11) (N := 22) hx hb hts iX11 tyX11 tyX11_ok nmX11 hown hK.1 hP hD hS 0 rfl rfl 14 (by decide) (hts _ m_595) (fun _ h9 => h9) rfl (tyX11_ok 14 (by decide)) rfl rfl (Nat.le_of_ble_eq_true rfl) dX11_blanks_32 (fun H locs hP hD hS => ?_)
        have hP : va_P D vwCl [(o, .inr (11, [.ref qj, .ref qt, .ref qf, .ref qp, .int (nI un), .ref qk, .ref qq, .int (nI ku), .int (nI ik), .ref qa, .int (nI tnQ), .int (nI th), .int (nI la), .int (nI wo), .int (nI (cq + 1)), .int (nI fa), .int (nI fat), .ref qs, .ref ql, .ref qm, .ref qi, .ref qe])), aN z qa 60 ta] H := hP
        have hD : va_D A [(o, .inr (11, [.ref qj, .ref qt, .ref qf, .ref qp, .int (nI un), .ref qk, .ref qq, .int (nI ku), .int (nI ik), .ref qa, .int (nI tnQ), .int (nI th), .int (nI la), .int (nI wo), .int (nI (cq + 1)), .int (nI fa), .int (nI fat), .ref qs, .ref ql, .ref qm, .ref qi, .ref qe])), aN z qa 60 ta] := hD
        refine lv_goto (tgt := 0) hx hb dX11_blanks_35 (by decide) ?_
        exact ih0 (cq + 1) _ _ _ (by omega) ⟨cq + 1, rfl, ⟨(hb8.symm.trans hb9), (by omega)⟩, hP, hD, hS, lv_sub hl [0] rfl⟩
  · exact ⟨cu, rfl, ⟨rfl, (Or.inl (Nat.le_refl _))⟩, hP, hD, hS, lv_sub hl [0] rfl⟩

set_option maxHeartbeats 4000000 in
set_option maxRecDepth 100000 in
theorem c_X11_bad (l : Launch) (D : va_G) (z : Nat → ClassId) (sz : Nat) (o : Nat) (qj : Nat) (qt : Nat) (qf : Nat) (qp : Nat) (qk : Nat) (qq : Nat) (qa : Nat) (qs : Nat) (ql : Nat) (qm : Nat) (qi : Nat) (qe : Nat) (un : Nat) (ku : Nat) (ik : Nat) (tnQ : Nat) (th : Nat) (la : Nat) (wo : Nat) (cu : Nat) (fa : Nat) (fat : Nat) (at9Q : Nat) (hfa : fa ≤ 1) : CM l yX11_bad cX11_bad 2 none 0 0 0 0 [.ref o, .int (nI at9Q)] D z [(o, .inr (11, [.ref qj, .ref qt, .ref qf, .ref qp, .int (nI un), .ref qk, .ref qq, .int (nI ku), .int (nI ik), .ref qa, .int (nI tnQ), .int (nI th), .int (nI la), .int (nI wo), .int (nI cu), .int (nI fa), .int (nI fat), .ref qs, .ref ql, .ref qm, .ref qi, .ref qe]))] sz (fun _ => True) [(o, .inr (11, [.ref qj, .ref qt, .ref qf, .ref qp, .int (nI un), .ref qk, .ref qq, .int (nI ku), .int (nI ik), .ref qa, .int (nI tnQ), .int (nI th), .int (nI la), .int (nI wo), .int (nI cu), .int (nI 1), .int (nI (baF fa fat at9Q)), .ref qs, .ref ql, .ref qm, .ref qi, .ref qe]))] none (fun _ => True) := by
  refine Met.ofW (cc := cX11_bad) (maxL := 2) (ret := none) (by decide) rfl ?_
  intro pg e s m args below meth c s₁ B hml hv
  obtain ⟨rfl, hsz, hP, hK, hD0, hE⟩ := hv
  have hx := B.exec
  have hb := B.bytes
  have hr := B.returns
  have hts : ∀ w ∈ ALL, w.before _ s = true := fun w h => atoms_spec (ws := wA yX11_bad cX11_bad 2 none) B.pre w (List.mem_cons_of_mem _ h)
  have hown : s.vm.findClass RX11 = some m.cls := findClass_of_methodNamed B.named
  have hlocks := B.notSynchronized
  subst hsz
  have hD := hD0.self (sz := s.heap.size)
  have hA : ∀ q : Nat, s.heap.size ≤ q → va_A [(o, .inr (11, [.ref qj, .ref qt, .ref qf, .ref qp, .int (nI un), .ref qk, .ref qq, .int (nI ku), .int (nI ik), .ref qa, .int (nI tnQ), .int (nI th), .int (nI la), .int (nI wo), .int (nI cu), .int (nI fa), .int (nI fat), .ref qs, .ref ql, .ref qm, .ref qi, .ref qe]))] s.heap.size q := fun q h => Or.inr h
  generalize va_A [(o, .inr (11, [.ref qj, .ref qt, .ref qf, .ref qp, .int (nI un), .ref qk, .ref qq, .int (nI ku), .int (nI ik), .ref qa, .int (nI tnQ), .int (nI th), .int (nI la), .int (nI wo), .int (nI cu), .int (nI fa), .int (nI fat), .ref qs, .ref ql, .ref qm, .ref qi, .ref qe]))] s.heap.size = A at *
  have hS : va_S A s.heap s.heap [] := va_S.rf
  have hl := lv_entry ([.ref o, .int (nI at9Q)]) (n := 2) (Nat.le_of_ble_eq_true rfl)
  rw [lg_entry_eq]
  generalize (lg_sl ([.ref o, .int (nI at9Q)]) ++ List.replicate (2 - (lg_sl ([.ref o, .int (nI at9Q)])).length) Slot.unset).toArray = ls at hl ⊢
  have hl : lv_has ls 2 [(0, .ref o), (1, .int (nI at9Q))] := hl
  refine lv_aload_n hx hb dX11_bad_0 rfl (lv_at hl 0 rfl) ?_
  refine lv_aload_n hx hb dX11_bad_1 rfl (lv_at hl 0 rfl) ?_
  refine va_get (D := D) (ci := 11) (v := .int (nI fa)) (C := RX11) (T := TX11) (N := 22) hx hb hts iX11 hown hK.1 hP 0 rfl rfl 15 (by decide) (hts _ m_597) (fun _ h9 => h9) rfl dX11_bad_2 ?_
  refine nv_join (g2 := F0 m 16 ls [.int (nI (baF fa fat at9Q)), .ref o]) (fun J1 => ?_) ?_
  · refine nv_ifeq (tgt := 15) hx hb (by omega) dX11_bad_5 (by decide) (fun hc5 => ?_) (fun hc5 => ?_)
    · refine lv_iload_n hx hb dX11_bad_15 rfl (lv_at hl 1 rfl) ?_
      have q9 : at9Q = baF fa fat at9Q := by unfold baF; split <;> first | rfl | omega
      exact W.eq (congrArg (fun x9 => F0 m 16 ls (.int (nI x9) :: [.ref o])) q9) J1
    · refine lv_aload_n hx hb dX11_bad_8 rfl (lv_at hl 0 rfl) ?_
      refine va_get (D := D) (ci := 11) (v := .int (nI fat)) (C := RX11) (T := TX11) (N := 22) hx hb hts iX11 hown hK.1 hP 0 rfl rfl 16 (by decide) (hts _ m_598) (fun _ h9 => h9) rfl dX11_bad_9 ?_
      refine lv_goto (tgt := 16) hx hb dX11_bad_12 (by decide) ?_
      have q9 : fat = baF fa fat at9Q := by unfold baF; split <;> first | rfl | omega
      exact W.eq (congrArg (fun x9 => F0 m 16 ls (.int (nI x9) :: [.ref o])) q9) J1
  · refine va_put (D := D) (ci := 11) (v := .int (nI (baF fa fat at9Q))) (ty := tyX11 16) (C := RX11) (T := TX11) (N := 22) hx hb hts iX11 tyX11 tyX11_ok nmX11 hown hK.1 hP hD hS 0 rfl rfl 16 (by decide) (hts _ m_598) (fun _ h9 => h9) rfl (tyX11_ok 16 (by decide)) rfl rfl (Nat.le_of_ble_eq_true rfl) dX11_bad_16 (fun H locs hP hD hS => ?_)
    have hP : va_P D vwCl [(o, .inr (11, [.ref qj, .ref qt, .ref qf, .ref qp, .int (nI un), .ref qk, .ref qq, .int (nI ku), .int (nI ik), .ref qa, .int (nI tnQ), .int (nI th), .int (nI la), .int (nI wo), .int (nI cu), .int (nI fa), .int (nI (baF fa fat at9Q)), .ref qs, .ref ql, .ref qm, .ref qi, .ref qe]))] H := hP
    have hD : va_D A [(o, .inr (11, [.ref qj, .ref qt, .ref qf, .ref qp, .int (nI un), .ref qk, .ref qq, .int (nI ku), .int (nI ik), .ref qa, .int (nI tnQ), .int (nI th), .int (nI la), .int (nI wo), .int (nI cu), .int (nI fa), .int (nI (baF fa fat at9Q)), .ref qs, .ref ql, .ref qm, .ref qi, .ref qe]))] := hD
    refine lv_aload_n hx hb dX11_bad_19 rfl (lv_at hl 0 rfl) ?_
    refine lv_iconst (v := nI 1) hx hb dX11_bad_20 (by decide +kernel) ?_
    refine va_put (D := D) (ci := 11) (v := .int (nI 1)) (ty := tyX11 15) (C := RX11) (T := TX11) (N := 22) hx hb hts iX11 tyX11 tyX11_ok nmX11 hown hK.1 hP hD hS 0 rfl rfl 15 (by decide) (hts _ m_597) (fun _ h9 => h9) rfl (tyX11_ok 15 (by decide)) rfl rfl (Nat.le_of_ble_eq_true rfl) dX11_bad_21 (fun H locs hP hD hS => ?_)
    have hP : va_P D vwCl [(o, .inr (11, [.ref qj, .ref qt, .ref qf, .ref qp, .int (nI un), .ref qk, .ref qq, .int (nI ku), .int (nI ik), .ref qa, .int (nI tnQ), .int (nI th), .int (nI la), .int (nI wo), .int (nI cu), .int (nI 1), .int (nI (baF fa fat at9Q)), .ref qs, .ref ql, .ref qm, .ref qi, .ref qe]))] H := hP
    have hD : va_D A [(o, .inr (11, [.ref qj, .ref qt, .ref qf, .ref qp, .int (nI un), .ref qk, .ref qq, .int (nI ku), .int (nI ik), .ref qa, .int (nI tnQ), .int (nI th), .int (nI la), .int (nI wo), .int (nI cu), .int (nI 1), .int (nI (baF fa fat at9Q)), .ref qs, .ref ql, .ref qm, .ref qi, .ref qe]))] := hD
    exact nv_mv hx hb hr hlocks hS dX11_bad_24 hP trivial

set_option maxHeartbeats 4000000 in
set_option maxRecDepth 100000 in
theorem c_X11_isNext (l : Launch) (D : va_G) (z : Nat → ClassId) (sz : Nat) (o : Nat) (qj : Nat) (qt : Nat) (qf : Nat) (qp : Nat) (qk : Nat) (qq : Nat) (qa : Nat) (qs : Nat) (ql : Nat) (qm : Nat) (qi : Nat) (qe : Nat) (un : Nat) (ku : Nat) (ik : Nat) (tnQ : Nat) (th : Nat) (la : Nat) (wo : Nat) (cu : Nat) (fa : Nat) (fat : Nat) (ta : Nat → Nat) (chQ : Nat) (htp : tOK ta tnQ) (hcu : cu < 2000) (hfa : fa ≤ 1) (hch : chQ < 128) : CM l yX11_isNext cX11_isNext 2 (some .boolean) 1 20 0 0 [.ref o, .int (nI chQ)] D z [(o, .inr (11, [.ref qj, .ref qt, .ref qf, .ref qp, .int (nI un), .ref qk, .ref qq, .int (nI ku), .int (nI ik), .ref qa, .int (nI tnQ), .int (nI th), .int (nI la), .int (nI wo), .int (nI cu), .int (nI fa), .int (nI fat), .ref qs, .ref ql, .ref qm, .ref qi, .ref qe])), aN z qa 60 ta] sz (fun _ => True) [(o, .inr (11, [.ref qj, .ref qt, .ref qf, .ref qp, .int (nI un), .ref qk, .ref qq, .int (nI ku), .int (nI ik), .ref qa, .int (nI tnQ), .int (nI th), .int (nI la), .int (nI wo), .int (nI (blk ta tnQ cu)), .int (nI fa), .int (nI fat), .ref qs, .ref ql, .ref qm, .ref qi, .ref qe])), aN z qa 60 ta] (some (.int (bI (fa = 0 ∧ isC ta tnQ cu chQ)))) (fun _ => True) := by
  refine Met.ofW (cc := cX11_isNext) (maxL := 2) (ret := (some .boolean)) (by decide) rfl ?_
  intro pg e s m args below meth c s₁ B hml hv
  obtain ⟨rfl, hsz, hP, hK, hD0, hE⟩ := hv
  have hx := B.exec
  have hb := B.bytes
  have hr := B.returns
  have hts : ∀ w ∈ ALL, w.before _ s = true := fun w h => atoms_spec (ws := wA yX11_isNext cX11_isNext 2 (some .boolean)) B.pre w (List.mem_cons_of_mem _ h)
  have hown : s.vm.findClass RX11 = some m.cls := findClass_of_methodNamed B.named
  have hlocks := B.notSynchronized
  subst hsz
  have hD := hD0.self (sz := s.heap.size)
  have htn := htp.1
  have hbl := blk_le ta tnQ cu
  have hlt : ∀ i, i < tnQ → ta i < 128 := fun i hiQ => by have := htp.2 i hiQ; omega
  have hA : ∀ q : Nat, s.heap.size ≤ q → va_A [(o, .inr (11, [.ref qj, .ref qt, .ref qf, .ref qp, .int (nI un), .ref qk, .ref qq, .int (nI ku), .int (nI ik), .ref qa, .int (nI tnQ), .int (nI th), .int (nI la), .int (nI wo), .int (nI cu), .int (nI fa), .int (nI fat), .ref qs, .ref ql, .ref qm, .ref qi, .ref qe])), aN z qa 60 ta] s.heap.size q := fun q h => Or.inr h
  generalize va_A [(o, .inr (11, [.ref qj, .ref qt, .ref qf, .ref qp, .int (nI un), .ref qk, .ref qq, .int (nI ku), .int (nI ik), .ref qa, .int (nI tnQ), .int (nI th), .int (nI la), .int (nI wo), .int (nI cu), .int (nI fa), .int (nI fat), .ref qs, .ref ql, .ref qm, .ref qi, .ref qe])), aN z qa 60 ta] s.heap.size = A at *
  have hS : va_S A s.heap s.heap [] := va_S.rf
  have hl := lv_entry ([.ref o, .int (nI chQ)]) (n := 2) (Nat.le_of_ble_eq_true rfl)
  rw [lg_entry_eq]
  generalize (lg_sl ([.ref o, .int (nI chQ)]) ++ List.replicate (2 - (lg_sl ([.ref o, .int (nI chQ)])).length) Slot.unset).toArray = ls at hl ⊢
  have hl : lv_has ls 2 [(0, .ref o), (1, .int (nI chQ))] := hl
  refine lv_aload_n hx hb dX11_isNext_0 rfl (lv_at hl 0 rfl) ?_
  have hPc := hP.sub (ws' := [(o, .inr (11, [.ref qj, .ref qt, .ref qf, .ref qp, .int (nI un), .ref qk, .ref qq, .int (nI ku), .int (nI ik), .ref qa, .int (nI tnQ), .int (nI th), .int (nI la), .int (nI wo), .int (nI cu), .int (nI fa), .int (nI fat), .ref qs, .ref ql, .ref qm, .ref qi, .ref qe])), aN z qa 60 ta]) [0, 1] rfl
  have hDc := hD.sub (ws' := [(o, .inr (11, [.ref qj, .ref qt, .ref qf, .ref qp, .int (nI un), .ref qk, .ref qq, .int (nI ku), .int (nI ik), .ref qa, .int (nI tnQ), .int (nI th), .int (nI la), .int (nI wo), .int (nI cu), .int (nI fa), .int (nI fat), .ref qs, .ref ql, .ref qm, .ref qi, .ref qe])), aN z qa 60 ta]) [0, 1] (by decide) rfl
  refine nv_cm0 (wc := [(o, .inr (11, [.ref qj, .ref qt, .ref qf, .ref qp, .int (nI un), .ref qk, .ref qq, .int (nI ku), .int (nI ik), .ref qa, .int (nI tnQ), .int (nI th), .int (nI la), .int (nI wo), .int (nI cu), .int (nI fa), .int (nI fat), .ref qs, .ref ql, .ref qm, .ref qi, .ref qe])), aN z qa 60 ta]) (wr := []) (w1 := [(o, .inr (11, [.ref qj, .ref qt, .ref qf, .ref qp, .int (nI un), .ref qk, .ref qq, .int (nI ku), .int (nI ik), .ref qa, .int (nI tnQ), .int (nI th), .int (nI la), .int (nI wo), .int (nI (blk ta tnQ cu)), .int (nI fa), .int (nI fat), .ref qs, .ref ql, .ref qm, .ref qi, .ref qe])), aN z qa 60 ta]) (ws1 := [(o, .inr (11, [.ref qj, .ref qt, .ref qf, .ref qp, .int (nI un), .ref qk, .ref qq, .int (nI ku), .int (nI ik), .ref qa, .int (nI tnQ), .int (nI th), .int (nI la), .int (nI wo), .int (nI (blk ta tnQ cu)), .int (nI fa), .int (nI fat), .ref qs, .ref ql, .ref qm, .ref qi, .ref qe])), aN z qa 60 ta]) (va_runV (As := []) (rest := []) ⟨hx, hb, hml, hown, hts⟩ (c_X11_blanks l D z s.heap.size o qj qt qf qp qk qq qa qs ql qm qi qe un ku ik tnQ th la wo cu fa fat ta (by first | assumption | omega) (by first | assumption | omega)) (cwV 0 hts (gV m_600 m_601 m_602 m_541 m_594) rfl rfl rfl ⟨rfl, hd_X11_blanks⟩ ⟨Nat.le_of_ble_eq_true rfl, Nat.le_of_ble_eq_true rfl⟩) (nv_preMV (ci := 11) (q0 := 0) hK hPc hDc trivial rfl rfl) rfl rfl hl.1 rfl (lv_room (Nat.le_of_ble_eq_true rfl)) dX11_isNext_1 ⟨by decide, by decide⟩) hP hD hS hA [0, 1] [] [0, 1] rfl rfl (by decide) (by decide) rfl (by decide) rfl (by decide) (fun H locs hP hD hS hE1 hz1 hf1 => ?_)
  clear hPc hDc
  clear hf1 hz1
  refine lv_aload_n hx hb dX11_isNext_4 rfl (lv_at hl 0 rfl) ?_
  refine va_get (D := D) (ci := 11) (v := .int (nI fa)) (C := RX11) (T := TX11) (N := 22) hx hb hts iX11 hown hK.1 hP 0 rfl rfl 15 (by decide) (hts _ m_597) (fun _ h9 => h9) rfl dX11_isNext_5 ?_
  refine nv_ifne (tgt := 39) hx hb (by omega) dX11_isNext_8 (by decide) (fun hc8 => ?_) (fun hc8 => ?_)
  · refine lv_iconst (v := nI 0) hx hb dX11_isNext_39 (by decide +kernel) ?_
    exact nv_mz hx hb hr hlocks hS dX11_isNext_40 hP trivial (by first | exact (bI_t ⟨by omega, by omega, by omega⟩).symm | exact (bI_f (fun q9 => by have h7 := q9.1; have h8 := q9.2.1; have h9 := q9.2.2; omega)).symm) bI_nar
  · refine lv_aload_n hx hb dX11_isNext_11 rfl (lv_at hl 0 rfl) ?_
    refine va_get (D := D) (ci := 11) (v := .int (nI (blk ta tnQ cu))) (C := RX11) (T := TX11) (N := 22) hx hb hts iX11 hown hK.1 hP 0 rfl rfl 14 (by decide) (hts _ m_595) (fun _ h9 => h9) rfl dX11_isNext_12 ?_
    refine lv_aload_n hx hb dX11_isNext_15 rfl (lv_at hl 0 rfl) ?_
    refine va_get (D := D) (ci := 11) (v := .int (nI tnQ)) (C := RX11) (T := TX11) (N := 22) hx hb hts iX11 hown hK.1 hP 0 rfl rfl 10 (by decide) (hts _ m_593) (fun _ h9 => h9) rfl dX11_isNext_16 ?_
    refine nv_ge (tgt := 39) hx hb (by omega) (by omega) dX11_isNext_19 (by decide) (fun hc19 => ?_) (fun hc19 => ?_)
    · refine lv_iconst (v := nI 0) hx hb dX11_isNext_39 (by decide +kernel) ?_
      exact nv_mz hx hb hr hlocks hS dX11_isNext_40 hP trivial (by first | exact (bI_t ⟨by omega, by omega, by omega⟩).symm | exact (bI_f (fun q9 => by have h7 := q9.1; have h8 := q9.2.1; have h9 := q9.2.2; omega)).symm) bI_nar
    · refine lv_aload_n hx hb dX11_isNext_22 rfl (lv_at hl 0 rfl) ?_
      refine va_get (D := D) (ci := 11) (v := .ref qa) (C := RX11) (T := TX11) (N := 22) hx hb hts iX11 hown hK.1 hP 0 rfl rfl 9 (by decide) (hts _ m_529) (fun _ h9 => h9) rfl dX11_isNext_23 ?_
      refine lv_aload_n hx hb dX11_isNext_26 rfl (lv_at hl 0 rfl) ?_
      refine va_get (D := D) (ci := 11) (v := .int (nI (blk ta tnQ cu))) (C := RX11) (T := TX11) (N := 22) hx hb hts iX11 hown hK.1 hP 0 rfl rfl 14 (by decide) (hts _ m_595) (fun _ h9 => h9) rfl dX11_isNext_27 ?_
      refine nv_ald hx hb hK hP 1 rfl (by omega) (by decide) dX11_isNext_30 ?_
      refine lv_iload_n hx hb dX11_isNext_31 rfl (lv_at hl 1 rfl) ?_
      have h31 := hlt (blk ta tnQ cu) (by omega)
      refine nv_ne (tgt := 39) hx hb (by omega) (by omega) dX11_isNext_32 (by decide) (fun hc32 => ?_) (fun hc32 => ?_)
      · refine lv_iconst (v := nI 0) hx hb dX11_isNext_39 (by decide +kernel) ?_
        exact nv_mz hx hb hr hlocks hS dX11_isNext_40 hP trivial (by first | exact (bI_t ⟨by omega, by omega, by omega⟩).symm | exact (bI_f (fun q9 => by have h7 := q9.1; have h8 := q9.2.1; have h9 := q9.2.2; omega)).symm) bI_nar
      · refine lv_iconst (v := nI 1) hx hb dX11_isNext_35 (by decide +kernel) ?_
        refine lv_goto (tgt := 40) hx hb dX11_isNext_36 (by decide) ?_
        exact nv_mz hx hb hr hlocks hS dX11_isNext_40 hP trivial (by first | exact (bI_t ⟨by omega, by omega, by omega⟩).symm | exact (bI_f (fun q9 => by have h7 := q9.1; have h8 := q9.2.1; have h9 := q9.2.2; omega)).symm) bI_nar

set_option maxHeartbeats 4000000 in
set_option maxRecDepth 100000 in
theorem c_X11_must (l : Launch) (D : va_G) (z : Nat → ClassId) (sz : Nat) (o : Nat) (qj : Nat) (qt : Nat) (qf : Nat) (qp : Nat) (qk : Nat) (qq : Nat) (qa : Nat) (qs : Nat) (ql : Nat) (qm : Nat) (qi : Nat) (qe : Nat) (un : Nat) (ku : Nat) (ik : Nat) (tnQ : Nat) (th : Nat) (la : Nat) (wo : Nat) (cu : Nat) (fa : Nat) (fat : Nat) (ta : Nat → Nat) (chQ : Nat) (fa1 : Nat) (fat1 : Nat) (htp : tOK ta tnQ) (hcu : cu < 2000) (hfa : fa ≤ 1) (hch : chQ < 128) (hmu : muRel (fa = 0 ∧ isC ta tnQ cu chQ) fa fat (blk ta tnQ cu) fa1 fat1) : CM l yX11_must cX11_must 2 none 2 41 0 0 [.ref o, .int (nI chQ)] D z [(o, .inr (11, [.ref qj, .ref qt, .ref qf, .ref qp, .int (nI un), .ref qk, .ref qq, .int (nI ku), .int (nI ik), .ref qa, .int (nI tnQ), .int (nI th), .int (nI la), .int (nI wo), .int (nI cu), .int (nI fa), .int (nI fat), .ref qs, .ref ql, .ref qm, .ref qi, .ref qe])), aN z qa 60 ta] sz (fun _ => True) [(o, .inr (11, [.ref qj, .ref qt, .ref qf, .ref qp, .int (nI un), .ref qk, .ref qq, .int (nI ku), .int (nI ik), .ref qa, .int (nI tnQ), .int (nI th), .int (nI la), .int (nI wo), .int (nI (blk ta tnQ cu + 1)), .int (nI fa1), .int (nI fat1), .ref qs, .ref ql, .ref qm, .ref qi, .ref qe])), aN z qa 60 ta] none (fun _ => True) := by
  refine Met.ofW (cc := cX11_must) (maxL := 2) (ret := none) (by decide) rfl ?_
  intro pg e s m args below meth c s₁ B hml hv
  obtain ⟨rfl, hsz, hP, hK, hD0, hE⟩ := hv
  have hx := B.exec
  have hb := B.bytes
  have hr := B.returns
  have hts : ∀ w ∈ ALL, w.before _ s = true := fun w h => atoms_spec (ws := wA yX11_must cX11_must 2 none) B.pre w (List.mem_cons_of_mem _ h)
  have hown : s.vm.findClass RX11 = some m.cls := findClass_of_methodNamed B.named
  have hlocks := B.notSynchronized
  subst hsz
  have hD := hD0.self (sz := s.heap.size)
  have htn := htp.1
  have hbl := blk_le ta tnQ cu
  have hlt : ∀ i, i < tnQ → ta i < 128 := fun i hiQ => by have := htp.2 i hiQ; omega
  have hA : ∀ q : Nat, s.heap.size ≤ q → va_A [(o, .inr (11, [.ref qj, .ref qt, .ref qf, .ref qp, .int (nI un), .ref qk, .ref qq, .int (nI ku), .int (nI ik), .ref qa, .int (nI tnQ), .int (nI th), .int (nI la), .int (nI wo), .int (nI cu), .int (nI fa), .int (nI fat), .ref qs, .ref ql, .ref qm, .ref qi, .ref qe])), aN z qa 60 ta] s.heap.size q := fun q h => Or.inr h
  generalize va_A [(o, .inr (11, [.ref qj, .ref qt, .ref qf, .ref qp, .int (nI un), .ref qk, .ref qq, .int (nI ku), .int (nI ik), .ref qa, .int (nI tnQ), .int (nI th), .int (nI la), .int (nI wo), .int (nI cu), .int (nI fa), .int (nI fat), .ref qs, .ref ql, .ref qm, .ref qi, .ref qe])), aN z qa 60 ta] s.heap.size = A at *
  have hS : va_S A s.heap s.heap [] := va_S.rf
  have hl := lv_entry ([.ref o, .int (nI chQ)]) (n := 2) (Nat.le_of_ble_eq_true rfl)
  rw [lg_entry_eq]
  generalize (lg_sl ([.ref o, .int (nI chQ)]) ++ List.replicate (2 - (lg_sl ([.ref o, .int (nI chQ)])).length) Slot.unset).toArray = ls at hl ⊢
  have hl : lv_has ls 2 [(0, .ref o), (1, .int (nI chQ))] := hl
  refine lv_aload_n hx hb dX11_must_0 rfl (lv_at hl 0 rfl) ?_
  refine lv_iload_n hx hb dX11_must_1 rfl (lv_at hl 1 rfl) ?_
  have hPc := hP.sub (ws' := [(o, .inr (11, [.ref qj, .ref qt, .ref qf, .ref qp, .int (nI un), .ref qk, .ref qq, .int (nI ku), .int (nI ik), .ref qa, .int (nI tnQ), .int (nI th), .int (nI la), .int (nI wo), .int (nI cu), .int (nI fa), .int (nI fat), .ref qs, .ref ql, .ref qm, .ref qi, .ref qe])), aN z qa 60 ta]) [0, 1] rfl
  have hDc := hD.sub (ws' := [(o, .inr (11, [.ref qj, .ref qt, .ref qf, .ref qp, .int (nI un), .ref qk, .ref qq, .int (nI ku), .int (nI ik), .ref qa, .int (nI tnQ), .int (nI th), .int (nI la), .int (nI wo), .int (nI cu), .int (nI fa), .int (nI fat), .ref qs, .ref ql, .ref qm, .ref qi, .ref qe])), aN z qa 60 ta]) [0, 1] (by decide) rfl
  refine nv_cm1 (wc := [(o, .inr (11, [.ref qj, .ref qt, .ref qf, .ref qp, .int (nI un), .ref qk, .ref qq, .int (nI ku), .int (nI ik), .ref qa, .int (nI tnQ), .int (nI th), .int (nI la), .int (nI wo), .int (nI cu), .int (nI fa), .int (nI fat), .ref qs, .ref ql, .ref qm, .ref qi, .ref qe])), aN z qa 60 ta]) (wr := []) (w1 := [(o, .inr (11, [.ref qj, .ref qt, .ref qf, .ref qp, .int (nI un), .ref qk, .ref qq, .int (nI ku), .int (nI ik), .ref qa, .int (nI tnQ), .int (nI th), .int (nI la), .int (nI wo), .int (nI (blk ta tnQ cu)), .int (nI fa), .int (nI fat), .ref qs, .ref ql, .ref qm, .ref qi, .ref qe])), aN z qa 60 ta]) (ws1 := [(o, .inr (11, [.ref qj, .ref qt, .ref qf, .ref qp, .int (nI un), .ref qk, .ref qq, .int (nI ku), .int (nI ik), .ref qa, .int (nI tnQ), .int (nI th), .int (nI la), .int (nI wo), .int (nI (blk ta tnQ cu)), .int (nI fa), .int (nI fat), .ref qs, .ref ql, .ref qm, .ref qi, .ref qe])), aN z qa 60 ta]) (va_runV (As := [.int (nI chQ)]) (rest := []) ⟨hx, hb, hml, hown, hts⟩ (c_X11_isNext l D z s.heap.size o qj qt qf qp qk qq qa qs ql qm qi qe un ku ik tnQ th la wo cu fa fat ta chQ (by first | assumption | omega) (by first | assumption | omega) (by first | assumption | omega) (by first | assumption | omega)) (cwV 1 hts (gV m_604 m_605 m_606 m_541 m_599) rfl rfl rfl ⟨rfl, hd_X11_isNext⟩ ⟨Nat.le_of_ble_eq_true rfl, Nat.le_of_ble_eq_true rfl⟩) (nv_preMV (ci := 11) (q0 := 0) hK hPc hDc trivial rfl rfl) rfl rfl hl.1 rfl (lv_room (Nat.le_of_ble_eq_true rfl)) dX11_must_2 ⟨by decide, by decide⟩) hP hD hS hA [0, 1] [] [0, 1] rfl rfl (by decide) (by decide) rfl (by decide) rfl (by decide) (fun H locs hP hD hS hE2 hz2 hf2 => ?_)
  clear hPc hDc
  clear hf2 hz2
  refine nv_bne (tgt := 16) hx hb dX11_must_5 (by decide) (fun hc5 => ?_) (fun hc5 => ?_)
  · obtain ⟨e1, e2⟩ := hmu.1 hc5
    obtain rfl := e1.symm
    obtain rfl := e2.symm
    refine lv_aload_n hx hb dX11_must_16 rfl (lv_at hl 0 rfl) ?_
    refine lv_dup hx hb dX11_must_17 rfl ?_
    refine va_get (D := D) (ci := 11) (v := .int (nI (blk ta tnQ cu))) (C := RX11) (T := TX11) (N := 22) hx hb hts iX11 hown hK.1 hP 0 rfl rfl 14 (by decide) (hts _ m_595) (fun _ h9 => h9) rfl dX11_must_18 ?_
    refine lv_iconst (v := nI 1) hx hb dX11_must_21 (by decide +kernel) ?_
    refine nv_add hx hb dX11_must_22 ?_
    refine va_put (D := D) (ci := 11) (v := .int (nI (blk ta tnQ cu + 1))) (ty := tyX11 14) (C := RX11) (T := TX11) (N := 22) hx hb hts iX11 tyX11 tyX11_ok nmX11 hown hK.1 hP hD hS 0 rfl rfl 14 (by decide) (hts _ m_595) (fun _ h9 => h9) rfl (tyX11_ok 14 (by decide)) rfl rfl (Nat.le_of_ble_eq_true rfl) dX11_must_23 (fun H locs hP hD hS => ?_)
    have hP : va_P D vwCl [(o, .inr (11, [.ref qj, .ref qt, .ref qf, .ref qp, .int (nI un), .ref qk, .ref qq, .int (nI ku), .int (nI ik), .ref qa, .int (nI tnQ), .int (nI th), .int (nI la), .int (nI wo), .int (nI (blk ta tnQ cu + 1)), .int (nI fa), .int (nI fat), .ref qs, .ref ql, .ref qm, .ref qi, .ref qe])), aN z qa 60 ta] H := hP
    have hD : va_D A [(o, .inr (11, [.ref qj, .ref qt, .ref qf, .ref qp, .int (nI un), .ref qk, .ref qq, .int (nI ku), .int (nI ik), .ref qa, .int (nI tnQ), .int (nI th), .int (nI la), .int (nI wo), .int (nI (blk ta tnQ cu + 1)), .int (nI fa), .int (nI fat), .ref qs, .ref ql, .ref qm, .ref qi, .ref qe])), aN z qa 60 ta] := hD
    exact nv_mv hx hb hr hlocks hS dX11_must_26 hP trivial
  · refine lv_aload_n hx hb dX11_must_8 rfl (lv_at hl 0 rfl) ?_
    refine lv_aload_n hx hb dX11_must_9 rfl (lv_at hl 0 rfl) ?_
    refine va_get (D := D) (ci := 11) (v := .int (nI (blk ta tnQ cu))) (C := RX11) (T := TX11) (N := 22) hx hb hts iX11 hown hK.1 hP 0 rfl rfl 14 (by decide) (hts _ m_595) (fun _ h9 => h9) rfl dX11_must_10 ?_
    have hPc := hP.sub (ws' := [(o, .inr (11, [.ref qj, .ref qt, .ref qf, .ref qp, .int (nI un), .ref qk, .ref qq, .int (nI ku), .int (nI ik), .ref qa, .int (nI tnQ), .int (nI th), .int (nI la), .int (nI wo), .int (nI (blk ta tnQ cu)), .int (nI fa), .int (nI fat), .ref qs, .ref ql, .ref qm, .ref qi, .ref qe]))]) [0] rfl
    have hDc := hD.sub (ws' := [(o, .inr (11, [.ref qj, .ref qt, .ref qf, .ref qp, .int (nI un), .ref qk, .ref qq, .int (nI ku), .int (nI ik), .ref qa, .int (nI tnQ), .int (nI th), .int (nI la), .int (nI wo), .int (nI (blk ta tnQ cu)), .int (nI fa), .int (nI fat), .ref qs, .ref ql, .ref qm, .ref qi, .ref qe]))]) [0] (by decide) rfl
    refine nv_cm0 (wc := [(o, .inr (11, [.ref qj, .ref qt, .ref qf, .ref qp, .int (nI un), .ref qk, .ref qq, .int (nI ku), .int (nI ik), .ref qa, .int (nI tnQ), .int (nI th), .int (nI la), .int (nI wo), .int (nI (blk ta tnQ cu)), .int (nI fa), .int (nI fat), .ref qs, .ref ql, .ref qm, .ref qi, .ref qe]))]) (wr := [aN z qa 60 ta]) (w1 := [(o, .inr (11, [.ref qj, .ref qt, .ref qf, .ref qp, .int (nI un), .ref qk, .ref qq, .int (nI ku), .int (nI ik), .ref qa, .int (nI tnQ), .int (nI th), .int (nI la), .int (nI wo), .int (nI (blk ta tnQ cu)), .int (nI 1), .int (nI (baF fa fat (blk ta tnQ cu))), .ref qs, .ref ql, .ref qm, .ref qi, .ref qe]))]) (ws1 := [(o, .inr (11, [.ref qj, .ref qt, .ref qf, .ref qp, .int (nI un), .ref qk, .ref qq, .int (nI ku), .int (nI ik), .ref qa, .int (nI tnQ), .int (nI th), .int (nI la), .int (nI wo), .int (nI (blk ta tnQ cu)), .int (nI 1), .int (nI (baF fa fat (blk ta tnQ cu))), .ref qs, .ref ql, .ref qm, .ref qi, .ref qe])), aN z qa 60 ta]) (va_runV (As := [.int (nI (blk ta tnQ cu))]) (rest := []) ⟨hx, hb, hml, hown, hts⟩ (c_X11_bad l D z H.size o qj qt qf qp qk qq qa qs ql qm qi qe un ku ik tnQ th la wo (blk ta tnQ cu) fa fat (blk ta tnQ cu) (by first | assumption | omega)) (cwV 1 hts (gV m_607 m_608 m_609 m_541 m_596) rfl rfl rfl ⟨rfl, hd_X11_bad⟩ ⟨Nat.le_of_ble_eq_true rfl, Nat.le_of_ble_eq_true rfl⟩) (nv_preMV (ci := 11) (q0 := 0) hK hPc hDc trivial rfl rfl) rfl rfl hl.1 rfl (lv_room (Nat.le_of_ble_eq_true rfl)) dX11_must_13 ⟨by decide, by decide⟩) hP hD hS hA [0] [1] [1, 0] rfl rfl (by decide) (by decide) rfl (by decide) rfl (by decide) (fun H locs hP hD hS hE13 hz13 hf13 => ?_)
    clear hPc hDc
    clear hf13 hz13
    obtain ⟨rfl, rfl⟩ := hmu.2 hc5
    refine lv_aload_n hx hb dX11_must_16 rfl (lv_at hl 0 rfl) ?_
    refine lv_dup hx hb dX11_must_17 rfl ?_
    refine va_get (D := D) (ci := 11) (v := .int (nI (blk ta tnQ cu))) (C := RX11) (T := TX11) (N := 22) hx hb hts iX11 hown hK.1 hP 0 rfl rfl 14 (by decide) (hts _ m_595) (fun _ h9 => h9) rfl dX11_must_18 ?_
    refine lv_iconst (v := nI 1) hx hb dX11_must_21 (by decide +kernel) ?_
    refine nv_add hx hb dX11_must_22 ?_
    refine va_put (D := D) (ci := 11) (v := .int (nI (blk ta tnQ cu + 1))) (ty := tyX11 14) (C := RX11) (T := TX11) (N := 22) hx hb hts iX11 tyX11 tyX11_ok nmX11 hown hK.1 hP hD hS 0 rfl rfl 14 (by decide) (hts _ m_595) (fun _ h9 => h9) rfl (tyX11_ok 14 (by decide)) rfl rfl (Nat.le_of_ble_eq_true rfl) dX11_must_23 (fun H locs hP hD hS => ?_)
    have hP : va_P D vwCl [(o, .inr (11, [.ref qj, .ref qt, .ref qf, .ref qp, .int (nI un), .ref qk, .ref qq, .int (nI ku), .int (nI ik), .ref qa, .int (nI tnQ), .int (nI th), .int (nI la), .int (nI wo), .int (nI (blk ta tnQ cu + 1)), .int (nI 1), .int (nI (baF fa fat (blk ta tnQ cu))), .ref qs, .ref ql, .ref qm, .ref qi, .ref qe])), aN z qa 60 ta] H := hP
    have hD : va_D A [(o, .inr (11, [.ref qj, .ref qt, .ref qf, .ref qp, .int (nI un), .ref qk, .ref qq, .int (nI ku), .int (nI ik), .ref qa, .int (nI tnQ), .int (nI th), .int (nI la), .int (nI wo), .int (nI (blk ta tnQ cu + 1)), .int (nI 1), .int (nI (baF fa fat (blk ta tnQ cu))), .ref qs, .ref ql, .ref qm, .ref qi, .ref qe])), aN z qa 60 ta] := hD
    exact nv_mv hx hb hr hlocks hS dX11_must_26 hP trivial

set_option maxHeartbeats 4000000 in
set_option maxRecDepth 100000 in
theorem c_X11_digit (l : Launch) (D : va_G) (z : Nat → ClassId) (sz : Nat) (o : Nat) (qj : Nat) (qt : Nat) (qf : Nat) (qp : Nat) (qk : Nat) (qq : Nat) (qa : Nat) (qs : Nat) (ql : Nat) (qm : Nat) (qi : Nat) (qe : Nat) (un : Nat) (ku : Nat) (ik : Nat) (tnQ : Nat) (th : Nat) (la : Nat) (wo : Nat) (cu : Nat) (fa : Nat) (fat : Nat) (ta : Nat → Nat) (loQ : Nat) (fa1 : Nat) (fat1 : Nat) (htp : tOK ta tnQ) (hcu : cu < 2000) (hfa : fa ≤ 1) (hlo : loQ ≤ 9) (hmu : muRel (isD ta tnQ cu loQ) fa fat (blk ta tnQ cu) fa1 fat1) : CM l yX11_digit cX11_digit 4 (some .int) 1 25 0 0 [.ref o, .int (nI loQ)] D z [(o, .inr (11, [.ref qj, .ref qt, .ref qf, .ref qp, .int (nI un), .ref qk, .ref qq, .int (nI ku), .int (nI ik), .ref qa, .int (nI tnQ), .int (nI th), .int (nI la), .int (nI wo), .int (nI cu), .int (nI fa), .int (nI fat), .ref qs, .ref ql, .ref qm, .ref qi, .ref qe])), aN z qa 60 ta] sz (fun _ => True) [(o, .inr (11, [.ref qj, .ref qt, .ref qf, .ref qp, .int (nI un), .ref qk, .ref qq, .int (nI ku), .int (nI ik), .ref qa, .int (nI tnQ), .int (nI th), .int (nI la), .int (nI wo), .int (nI (blk ta tnQ cu + 1)), .int (nI fa1), .int (nI fat1), .ref qs, .ref ql, .ref qm, .ref qi, .ref qe])), aN z qa 60 ta] (some (.int (nI (dgV ta tnQ cu loQ)))) (fun _ => True) := by
  refine Met.ofW (cc := cX11_digit) (maxL := 4) (ret := (some .int)) (by decide) rfl ?_
  intro pg e s m args below meth c s₁ B hml hv
  obtain ⟨rfl, hsz, hP, hK, hD0, hE⟩ := hv
  have hx := B.exec
  have hb := B.bytes
  have hr := B.returns
  have hts : ∀ w ∈ ALL, w.before _ s = true := fun w h => atoms_spec (ws := wA yX11_digit cX11_digit 4 (some .int)) B.pre w (List.mem_cons_of_mem _ h)
  have hown : s.vm.findClass RX11 = some m.cls := findClass_of_methodNamed B.named
  have hlocks := B.notSynchronized
  subst hsz
  have hD := hD0.self (sz := s.heap.size)
  have htn := htp.1
  have hbl := blk_le ta tnQ cu
  have hlt : ∀ i, i < tnQ → ta i < 128 := fun i hiQ => by have := htp.2 i hiQ; omega
  have hA : ∀ q : Nat, s.heap.size ≤ q → va_A [(o, .inr (11, [.ref qj, .ref qt, .ref qf, .ref qp, .int (nI un), .ref qk, .ref qq, .int (nI ku), .int (nI ik), .ref qa, .int (nI tnQ), .int (nI th), .int (nI la), .int (nI wo), .int (nI cu), .int (nI fa), .int (nI fat), .ref qs, .ref ql, .ref qm, .ref qi, .ref qe])), aN z qa 60 ta] s.heap.size q := fun q h => Or.inr h
  generalize va_A [(o, .inr (11, [.ref qj, .ref qt, .ref qf, .ref qp, .int (nI un), .ref qk, .ref qq, .int (nI ku), .int (nI ik), .ref qa, .int (nI tnQ), .int (nI th), .int (nI la), .int (nI wo), .int (nI cu), .int (nI fa), .int (nI fat), .ref qs, .ref ql, .ref qm, .ref qi, .ref qe])), aN z qa 60 ta] s.heap.size = A at *
  have hS : va_S A s.heap s.heap [] := va_S.rf
  have hl := lv_entry ([.ref o, .int (nI loQ)]) (n := 4) (Nat.le_of_ble_eq_true rfl)
  rw [lg_entry_eq]
  generalize (lg_sl ([.ref o, .int (nI loQ)]) ++ List.replicate (4 - (lg_sl ([.ref o, .int (nI loQ)])).length) Slot.unset).toArray = ls at hl ⊢
  have hl : lv_has ls 4 [(0, .ref o), (1, .int (nI loQ))] := hl
  refine lv_aload_n hx hb dX11_digit_0 rfl (lv_at hl 0 rfl) ?_
  have hPc := hP.sub (ws' := [(o, .inr (11, [.ref qj, .ref qt, .ref qf, .ref qp, .int (nI un), .ref qk, .ref qq, .int (nI ku), .int (nI ik), .ref qa, .int (nI tnQ), .int (nI th), .int (nI la), .int (nI wo), .int (nI cu), .int (nI fa), .int (nI fat), .ref qs, .ref ql, .ref qm, .ref qi, .ref qe])), aN z qa 60 ta]) [0, 1] rfl
  have hDc := hD.sub (ws' := [(o, .inr (11, [.ref qj, .ref qt, .ref qf, .ref qp, .int (nI un), .ref qk, .ref qq, .int (nI ku), .int (nI ik), .ref qa, .int (nI tnQ), .int (nI th), .int (nI la), .int (nI wo), .int (nI cu), .int (nI fa), .int (nI fat), .ref qs, .ref ql, .ref qm, .ref qi, .ref qe])), aN z qa 60 ta]) [0, 1] (by decide) rfl
  refine nv_cm0 (wc := [(o, .inr (11, [.ref qj, .ref qt, .ref qf, .ref qp, .int (nI un), .ref qk, .ref qq, .int (nI ku), .int (nI ik), .ref qa, .int (nI tnQ), .int (nI th), .int (nI la), .int (nI wo), .int (nI cu), .int (nI fa), .int (nI fat), .ref qs, .ref ql, .ref qm, .ref qi, .ref qe])), aN z qa 60 ta]) (wr := []) (w1 := [(o, .inr (11, [.ref qj, .ref qt, .ref qf, .ref qp, .int (nI un), .ref qk, .ref qq, .int (nI ku), .int (nI ik), .ref qa, .int (nI tnQ), .int (nI th), .int (nI la), .int (nI wo), .int (nI (blk ta tnQ cu)), .int (nI fa), .int (nI fat), .ref qs, .ref ql, .ref qm, .ref qi, .ref qe])), aN z qa 60 ta]) (ws1 := [(o, .inr (11, [.ref qj, .ref qt, .ref qf, .ref qp, .int (nI un), .ref qk, .ref qq, .int (nI ku), .int (nI ik), .ref qa, .int (nI tnQ), .int (nI th), .int (nI la), .int (nI wo), .int (nI (blk ta tnQ cu)), .int (nI fa), .int (nI fat), .ref qs, .ref ql, .ref qm, .ref qi, .ref qe])), aN z qa 60 ta]) (va_runV (As := []) (rest := []) ⟨hx, hb, hml, hown, hts⟩ (c_X11_blanks l D z s.heap.size o qj qt qf qp qk qq qa qs ql qm qi qe un ku ik tnQ th la wo cu fa fat ta (by first | assumption | omega) (by first | assumption | omega)) (cwV 0 hts (gV m_600 m_601 m_602 m_541 m_594) rfl rfl rfl ⟨rfl, hd_X11_blanks⟩ ⟨Nat.le_of_ble_eq_true rfl, Nat.le_of_ble_eq_true rfl⟩) (nv_preMV (ci := 11) (q0 := 0) hK hPc hDc trivial rfl rfl) rfl rfl hl.1 rfl (lv_room (Nat.le_of_ble_eq_true rfl)) dX11_digit_1 ⟨by decide, by decide⟩) hP hD hS hA [0, 1] [] [0, 1] rfl rfl (by decide) (by decide) rfl (by decide) rfl (by decide) (fun H locs hP hD hS hE1 hz1 hf1 => ?_)
  clear hPc hDc
  clear hf1 hz1
  refine lv_aload_n hx hb dX11_digit_4 rfl (lv_at hl 0 rfl) ?_
  refine va_get (D := D) (ci := 11) (v := .int (nI (blk ta tnQ cu))) (C := RX11) (T := TX11) (N := 22) hx hb hts iX11 hown hK.1 hP 0 rfl rfl 14 (by decide) (hts _ m_595) (fun _ h9 => h9) rfl dX11_digit_5 ?_
  refine lv_aload_n hx hb dX11_digit_8 rfl (lv_at hl 0 rfl) ?_
  refine va_get (D := D) (ci := 11) (v := .int (nI tnQ)) (C := RX11) (T := TX11) (N := 22) hx hb hts iX11 hown hK.1 hP 0 rfl rfl 10 (by decide) (hts _ m_593) (fun _ h9 => h9) rfl dX11_digit_9 ?_
  refine nv_ge (tgt := 43) hx hb (by omega) (by omega) dX11_digit_12 (by decide) (fun hc12 => ?_) (fun hc12 => ?_)
  · refine lv_iconst (v := nI 0) hx hb dX11_digit_43 (by decide +kernel) ?_
    refine lv_istore_n (lv' := [(2, .int (nI 0)), (0, .ref o), (1, .int (nI loQ))]) hx hb dX11_digit_44 rfl hl (by decide) rfl (fun ls hl => ?_)
    refine lv_iload_n hx hb dX11_digit_45 rfl (lv_at hl 0 rfl) ?_
    refine nv_ifne (tgt := 57) hx hb (by omega) dX11_digit_46 (by decide) (fun hc46 => ?_) (fun hc46 => ?_)
    · (exfalso; omega)
    · refine lv_aload_n hx hb dX11_digit_49 rfl (lv_at hl 1 rfl) ?_
      refine lv_aload_n hx hb dX11_digit_50 rfl (lv_at hl 1 rfl) ?_
      refine va_get (D := D) (ci := 11) (v := .int (nI (blk ta tnQ cu))) (C := RX11) (T := TX11) (N := 22) hx hb hts iX11 hown hK.1 hP 0 rfl rfl 14 (by decide) (hts _ m_595) (fun _ h9 => h9) rfl dX11_digit_51 ?_
      have hPc := hP.sub (ws' := [(o, .inr (11, [.ref qj, .ref qt, .ref qf, .ref qp, .int (nI un), .ref qk, .ref qq, .int (nI ku), .int (nI ik), .ref qa, .int (nI tnQ), .int (nI th), .int (nI la), .int (nI wo), .int (nI (blk ta tnQ cu)), .int (nI fa), .int (nI fat), .ref qs, .ref ql, .ref qm, .ref qi, .ref qe]))]) [0] rfl
      have hDc := hD.sub (ws' := [(o, .inr (11, [.ref qj, .ref qt, .ref qf, .ref qp, .int (nI un), .ref qk, .ref qq, .int (nI ku), .int (nI ik), .ref qa, .int (nI tnQ), .int (nI th), .int (nI la), .int (nI wo), .int (nI (blk ta tnQ cu)), .int (nI fa), .int (nI fat), .ref qs, .ref ql, .ref qm, .ref qi, .ref qe]))]) [0] (by decide) rfl
      refine nv_cm0 (wc := [(o, .inr (11, [.ref qj, .ref qt, .ref qf, .ref qp, .int (nI un), .ref qk, .ref qq, .int (nI ku), .int (nI ik), .ref qa, .int (nI tnQ), .int (nI th), .int (nI la), .int (nI wo), .int (nI (blk ta tnQ cu)), .int (nI fa), .int (nI fat), .ref qs, .ref ql, .ref qm, .ref qi, .ref qe]))]) (wr := [aN z qa 60 ta]) (w1 := [(o, .inr (11, [.ref qj, .ref qt, .ref qf, .ref qp, .int (nI un), .ref qk, .ref qq, .int (nI ku), .int (nI ik), .ref qa, .int (nI tnQ), .int (nI th), .int (nI la), .int (nI wo), .int (nI (blk ta tnQ cu)), .int (nI 1), .int (nI (baF fa fat (blk ta tnQ cu))), .ref qs, .ref ql, .ref qm, .ref qi, .ref qe]))]) (ws1 := [(o, .inr (11, [.ref qj, .ref qt, .ref qf, .ref qp, .int (nI un), .ref qk, .ref qq, .int (nI ku), .int (nI ik), .ref qa, .int (nI tnQ), .int (nI th), .int (nI la), .int (nI wo), .int (nI (blk ta tnQ cu)), .int (nI 1), .int (nI (baF fa fat (blk ta tnQ cu))), .ref qs, .ref ql, .ref qm, .ref qi, .ref qe])), aN z qa 60 ta]) (va_runV (As := [.int (nI (blk ta tnQ cu))]) (rest := []) ⟨hx, hb, hml, hown, hts⟩ (c_X11_bad l D z H.size o qj qt qf qp qk qq qa qs ql qm qi qe un ku ik tnQ th la wo (blk ta tnQ cu) fa fat (blk ta tnQ cu) (by first | assumption | omega)) (cwV 1 hts (gV m_607 m_608 m_609 m_541 m_596) rfl rfl rfl ⟨rfl, hd_X11_bad⟩ ⟨Nat.le_of_ble_eq_true rfl, Nat.le_of_ble_eq_true rfl⟩) (nv_preMV (ci := 11) (q0 := 0) hK hPc hDc trivial rfl rfl) rfl rfl hl.1 rfl (lv_room (Nat.le_of_ble_eq_true rfl)) dX11_digit_54 ⟨by decide, by decide⟩) hP hD hS hA [0] [1] [1, 0] rfl rfl (by decide) (by decide) rfl (by decide) rfl (by decide) (fun H locs hP hD hS hE54 hz54 hf54 => ?_)
      clear hPc hDc
      clear hf54 hz54
      refine lv_iload_n hx hb dX11_digit_57 rfl (lv_at hl 0 rfl) ?_
      refine nv_ifeq (tgt := 76) hx hb (by omega) dX11_digit_58 (by decide) (fun hc58 => ?_) (fun hc58 => ?_)
      · refine lv_iconst (v := nI 0) hx hb dX11_digit_76 (by decide +kernel) ?_
        refine lv_istore_n (lv' := [(3, .int (nI 0)), (2, .int (nI 0)), (0, .ref o), (1, .int (nI loQ))]) hx hb dX11_digit_77 rfl hl (by decide) rfl (fun ls hl => ?_)
        refine lv_aload_n hx hb dX11_digit_78 rfl (lv_at hl 2 rfl) ?_
        refine lv_dup hx hb dX11_digit_79 rfl ?_
        refine va_get (D := D) (ci := 11) (v := .int (nI (blk ta tnQ cu))) (C := RX11) (T := TX11) (N := 22) hx hb hts iX11 hown hK.1 hP 0 rfl rfl 14 (by decide) (hts _ m_595) (fun _ h9 => h9) rfl dX11_digit_80 ?_
        refine lv_iconst (v := nI 1) hx hb dX11_digit_83 (by decide +kernel) ?_
        refine nv_add hx hb dX11_digit_84 ?_
        refine va_put (D := D) (ci := 11) (v := .int (nI (blk ta tnQ cu + 1))) (ty := tyX11 14) (C := RX11) (T := TX11) (N := 22) hx hb hts iX11 tyX11 tyX11_ok nmX11 hown hK.1 hP hD hS 0 rfl rfl 14 (by decide) (hts _ m_595) (fun _ h9 => h9) rfl (tyX11_ok 14 (by decide)) rfl rfl (Nat.le_of_ble_eq_true rfl) dX11_digit_85 (fun H locs hP hD hS => ?_)
        have hP : va_P D vwCl [(o, .inr (11, [.ref qj, .ref qt, .ref qf, .ref qp, .int (nI un), .ref qk, .ref qq, .int (nI ku), .int (nI ik), .ref qa, .int (nI tnQ), .int (nI th), .int (nI la), .int (nI wo), .int (nI (blk ta tnQ cu + 1)), .int (nI 1), .int (nI (baF fa fat (blk ta tnQ cu))), .ref qs, .ref ql, .ref qm, .ref qi, .ref qe])), aN z qa 60 ta] H := hP
        have hD : va_D A [(o, .inr (11, [.ref qj, .ref qt, .ref qf, .ref qp, .int (nI un), .ref qk, .ref qq, .int (nI ku), .int (nI ik), .ref qa, .int (nI tnQ), .int (nI th), .int (nI la), .int (nI wo), .int (nI (blk ta tnQ cu + 1)), .int (nI 1), .int (nI (baF fa fat (blk ta tnQ cu))), .ref qs, .ref ql, .ref qm, .ref qi, .ref qe])), aN z qa 60 ta] := hD
        have hD9 : ¬ isD ta tnQ cu loQ := fun q9 => by have h7 := q9.1; have h8 := q9.2.1; have h9 := q9.2.2; omega
        obtain ⟨rfl, rfl⟩ := hmu.2 hD9
        refine lv_iload_n hx hb dX11_digit_88 rfl (lv_at hl 0 rfl) ?_
        exact nv_mi hx hb hr hlocks hS dX11_digit_89 hP trivial (by unfold dgV; first | rw [if_pos hD9] | rw [if_neg hD9])
      · (exfalso; omega)
  · refine lv_aload_n hx hb dX11_digit_15 rfl (lv_at hl 0 rfl) ?_
    refine va_get (D := D) (ci := 11) (v := .ref qa) (C := RX11) (T := TX11) (N := 22) hx hb hts iX11 hown hK.1 hP 0 rfl rfl 9 (by decide) (hts _ m_529) (fun _ h9 => h9) rfl dX11_digit_16 ?_
    refine lv_aload_n hx hb dX11_digit_19 rfl (lv_at hl 0 rfl) ?_
    refine va_get (D := D) (ci := 11) (v := .int (nI (blk ta tnQ cu))) (C := RX11) (T := TX11) (N := 22) hx hb hts iX11 hown hK.1 hP 0 rfl rfl 14 (by decide) (hts _ m_595) (fun _ h9 => h9) rfl dX11_digit_20 ?_
    refine nv_ald hx hb hK hP 1 rfl (by omega) (by decide) dX11_digit_23 ?_
    have h31 := hlt (blk ta tnQ cu) (by omega)
    refine lv_i2l hx hb dX11_digit_24 rfl ?_
    refine lv_bipush (v := nI 48) hx hb dX11_digit_25 (by decide +kernel) ?_
    refine lv_iload_n hx hb dX11_digit_27 rfl (lv_at hl 1 rfl) ?_
    refine nv_add hx hb dX11_digit_28 ?_
    refine lv_i2l hx hb dX11_digit_29 rfl ?_
    refine lv_ldc2 (own := RX11) hx hb hown (hts _ m_611) dX11_digit_30 ?_
    have hPc := hP.sub (ws' := []) [] rfl
    refine nv_cp1 (va_runS (As := [.long ((nI (ta (blk ta tnQ cu))).toInt64), .long ((nI (48 + loQ)).toInt64), .long (57)]) (rest := []) ⟨hx, hb, hml, hown, hts⟩ (c_X11_in l D z ((nI (ta (blk ta tnQ cu))).toInt64) ((nI (48 + loQ)).toInt64) (57) ) (va_cwS 3 hts (gS m_539 m_540 m_541 m_536) rfl rfl rfl hd_X11_in ⟨Nat.le_of_ble_eq_true rfl, Nat.le_of_ble_eq_true rfl⟩) (nv_preP hK hPc trivial _) rfl rfl hl.1 rfl (lv_room (Nat.le_of_ble_eq_true rfl)) dX11_digit_33 ⟨by decide, by decide⟩) ?_
    refine nv_innl (a := (48 + loQ)) (b := 57) (by omega) (nv_lw (by omega)) (by decide) ?_
    refine nv_beq (tgt := 43) hx hb dX11_digit_36 (by decide) (fun hc36 => ?_) (fun hc36 => ?_)
    · refine lv_iconst (v := nI 0) hx hb dX11_digit_43 (by decide +kernel) ?_
      refine lv_istore_n (lv' := [(2, .int (nI 0)), (0, .ref o), (1, .int (nI loQ))]) hx hb dX11_digit_44 rfl hl (by decide) rfl (fun ls hl => ?_)
      refine lv_iload_n hx hb dX11_digit_45 rfl (lv_at hl 0 rfl) ?_
      refine nv_ifne (tgt := 57) hx hb (by omega) dX11_digit_46 (by decide) (fun hc46 => ?_) (fun hc46 => ?_)
      · (exfalso; omega)
      · refine lv_aload_n hx hb dX11_digit_49 rfl (lv_at hl 1 rfl) ?_
        refine lv_aload_n hx hb dX11_digit_50 rfl (lv_at hl 1 rfl) ?_
        refine va_get (D := D) (ci := 11) (v := .int (nI (blk ta tnQ cu))) (C := RX11) (T := TX11) (N := 22) hx hb hts iX11 hown hK.1 hP 0 rfl rfl 14 (by decide) (hts _ m_595) (fun _ h9 => h9) rfl dX11_digit_51 ?_
        have hPc := hP.sub (ws' := [(o, .inr (11, [.ref qj, .ref qt, .ref qf, .ref qp, .int (nI un), .ref qk, .ref qq, .int (nI ku), .int (nI ik), .ref qa, .int (nI tnQ), .int (nI th), .int (nI la), .int (nI wo), .int (nI (blk ta tnQ cu)), .int (nI fa), .int (nI fat), .ref qs, .ref ql, .ref qm, .ref qi, .ref qe]))]) [0] rfl
        have hDc := hD.sub (ws' := [(o, .inr (11, [.ref qj, .ref qt, .ref qf, .ref qp, .int (nI un), .ref qk, .ref qq, .int (nI ku), .int (nI ik), .ref qa, .int (nI tnQ), .int (nI th), .int (nI la), .int (nI wo), .int (nI (blk ta tnQ cu)), .int (nI fa), .int (nI fat), .ref qs, .ref ql, .ref qm, .ref qi, .ref qe]))]) [0] (by decide) rfl
        refine nv_cm0 (wc := [(o, .inr (11, [.ref qj, .ref qt, .ref qf, .ref qp, .int (nI un), .ref qk, .ref qq, .int (nI ku), .int (nI ik), .ref qa, .int (nI tnQ), .int (nI th), .int (nI la), .int (nI wo), .int (nI (blk ta tnQ cu)), .int (nI fa), .int (nI fat), .ref qs, .ref ql, .ref qm, .ref qi, .ref qe]))]) (wr := [aN z qa 60 ta]) (w1 := [(o, .inr (11, [.ref qj, .ref qt, .ref qf, .ref qp, .int (nI un), .ref qk, .ref qq, .int (nI ku), .int (nI ik), .ref qa, .int (nI tnQ), .int (nI th), .int (nI la), .int (nI wo), .int (nI (blk ta tnQ cu)), .int (nI 1), .int (nI (baF fa fat (blk ta tnQ cu))), .ref qs, .ref ql, .ref qm, .ref qi, .ref qe]))]) (ws1 := [(o, .inr (11, [.ref qj, .ref qt, .ref qf, .ref qp, .int (nI un), .ref qk, .ref qq, .int (nI ku), .int (nI ik), .ref qa, .int (nI tnQ), .int (nI th), .int (nI la), .int (nI wo), .int (nI (blk ta tnQ cu)), .int (nI 1), .int (nI (baF fa fat (blk ta tnQ cu))), .ref qs, .ref ql, .ref qm, .ref qi, .ref qe])), aN z qa 60 ta]) (va_runV (As := [.int (nI (blk ta tnQ cu))]) (rest := []) ⟨hx, hb, hml, hown, hts⟩ (c_X11_bad l D z H.size o qj qt qf qp qk qq qa qs ql qm qi qe un ku ik tnQ th la wo (blk ta tnQ cu) fa fat (blk ta tnQ cu) (by first | assumption | omega)) (cwV 1 hts (gV m_607 m_608 m_609 m_541 m_596) rfl rfl rfl ⟨rfl, hd_X11_bad⟩ ⟨Nat.le_of_ble_eq_true rfl, Nat.le_of_ble_eq_true rfl⟩) (nv_preMV (ci := 11) (q0 := 0) hK hPc hDc trivial rfl rfl) rfl rfl hl.1 rfl (lv_room (Nat.le_of_ble_eq_true rfl)) dX11_digit_54 ⟨by decide, by decide⟩) hP hD hS hA [0] [1] [1, 0] rfl rfl (by decide) (by decide) rfl (by decide) rfl (by decide) (fun H locs hP hD hS hE54 hz54 hf54 => ?_)
        clear hPc hDc
        clear hf54 hz54
        refine lv_iload_n hx hb dX11_digit_57 rfl (lv_at hl 0 rfl) ?_
        refine nv_ifeq (tgt := 76) hx hb (by omega) dX11_digit_58 (by decide) (fun hc58 => ?_) (fun hc58 => ?_)
        · refine lv_iconst (v := nI 0) hx hb dX11_digit_76 (by decide +kernel) ?_
          refine lv_istore_n (lv' := [(3, .int (nI 0)), (2, .int (nI 0)), (0, .ref o), (1, .int (nI loQ))]) hx hb dX11_digit_77 rfl hl (by decide) rfl (fun ls hl => ?_)
          refine lv_aload_n hx hb dX11_digit_78 rfl (lv_at hl 2 rfl) ?_
          refine lv_dup hx hb dX11_digit_79 rfl ?_
          refine va_get (D := D) (ci := 11) (v := .int (nI (blk ta tnQ cu))) (C := RX11) (T := TX11) (N := 22) hx hb hts iX11 hown hK.1 hP 0 rfl rfl 14 (by decide) (hts _ m_595) (fun _ h9 => h9) rfl dX11_digit_80 ?_
          refine lv_iconst (v := nI 1) hx hb dX11_digit_83 (by decide +kernel) ?_
          refine nv_add hx hb dX11_digit_84 ?_
          refine va_put (D := D) (ci := 11) (v := .int (nI (blk ta tnQ cu + 1))) (ty := tyX11 14) (C := RX11) (T := TX11) (N := 22) hx hb hts iX11 tyX11 tyX11_ok nmX11 hown hK.1 hP hD hS 0 rfl rfl 14 (by decide) (hts _ m_595) (fun _ h9 => h9) rfl (tyX11_ok 14 (by decide)) rfl rfl (Nat.le_of_ble_eq_true rfl) dX11_digit_85 (fun H locs hP hD hS => ?_)
          have hP : va_P D vwCl [(o, .inr (11, [.ref qj, .ref qt, .ref qf, .ref qp, .int (nI un), .ref qk, .ref qq, .int (nI ku), .int (nI ik), .ref qa, .int (nI tnQ), .int (nI th), .int (nI la), .int (nI wo), .int (nI (blk ta tnQ cu + 1)), .int (nI 1), .int (nI (baF fa fat (blk ta tnQ cu))), .ref qs, .ref ql, .ref qm, .ref qi, .ref qe])), aN z qa 60 ta] H := hP
          have hD : va_D A [(o, .inr (11, [.ref qj, .ref qt, .ref qf, .ref qp, .int (nI un), .ref qk, .ref qq, .int (nI ku), .int (nI ik), .ref qa, .int (nI tnQ), .int (nI th), .int (nI la), .int (nI wo), .int (nI (blk ta tnQ cu + 1)), .int (nI 1), .int (nI (baF fa fat (blk ta tnQ cu))), .ref qs, .ref ql, .ref qm, .ref qi, .ref qe])), aN z qa 60 ta] := hD
          have hD9 : ¬ isD ta tnQ cu loQ := fun q9 => by have h7 := q9.1; have h8 := q9.2.1; have h9 := q9.2.2; omega
          obtain ⟨rfl, rfl⟩ := hmu.2 hD9
          refine lv_iload_n hx hb dX11_digit_88 rfl (lv_at hl 0 rfl) ?_
          exact nv_mi hx hb hr hlocks hS dX11_digit_89 hP trivial (by unfold dgV; first | rw [if_pos hD9] | rw [if_neg hD9])
        · (exfalso; omega)
    · refine lv_iconst (v := nI 1) hx hb dX11_digit_39 (by decide +kernel) ?_
      refine lv_goto (tgt := 44) hx hb dX11_digit_40 (by decide) ?_
      refine lv_istore_n (lv' := [(2, .int (nI 1)), (0, .ref o), (1, .int (nI loQ))]) hx hb dX11_digit_44 rfl hl (by decide) rfl (fun ls hl => ?_)
      refine lv_iload_n hx hb dX11_digit_45 rfl (lv_at hl 0 rfl) ?_
      refine nv_ifne (tgt := 57) hx hb (by omega) dX11_digit_46 (by decide) (fun hc46 => ?_) (fun hc46 => ?_)
      · refine lv_iload_n hx hb dX11_digit_57 rfl (lv_at hl 0 rfl) ?_
        refine nv_ifeq (tgt := 76) hx hb (by omega) dX11_digit_58 (by decide) (fun hc58 => ?_) (fun hc58 => ?_)
        · (exfalso; omega)
        · refine lv_aload_n hx hb dX11_digit_61 rfl (lv_at hl 1 rfl) ?_
          refine va_get (D := D) (ci := 11) (v := .ref qa) (C := RX11) (T := TX11) (N := 22) hx hb hts iX11 hown hK.1 hP 0 rfl rfl 9 (by decide) (hts _ m_529) (fun _ h9 => h9) rfl dX11_digit_62 ?_
          refine lv_aload_n hx hb dX11_digit_65 rfl (lv_at hl 1 rfl) ?_
          refine va_get (D := D) (ci := 11) (v := .int (nI (blk ta tnQ cu))) (C := RX11) (T := TX11) (N := 22) hx hb hts iX11 hown hK.1 hP 0 rfl rfl 14 (by decide) (hts _ m_595) (fun _ h9 => h9) rfl dX11_digit_66 ?_
          refine nv_ald hx hb hK hP 1 rfl (by omega) (by decide) dX11_digit_69 ?_
          refine lv_bipush (v := nI 48) hx hb dX11_digit_70 (by decide +kernel) ?_
          refine nv_sub hx hb (by omega) dX11_digit_72 ?_
          refine lv_goto (tgt := 77) hx hb dX11_digit_73 (by decide) ?_
          refine lv_istore_n (lv' := [(3, .int (nI ((ta (blk ta tnQ cu)) - 48))), (2, .int (nI 1)), (0, .ref o), (1, .int (nI loQ))]) hx hb dX11_digit_77 rfl hl (by decide) rfl (fun ls hl => ?_)
          refine lv_aload_n hx hb dX11_digit_78 rfl (lv_at hl 2 rfl) ?_
          refine lv_dup hx hb dX11_digit_79 rfl ?_
          refine va_get (D := D) (ci := 11) (v := .int (nI (blk ta tnQ cu))) (C := RX11) (T := TX11) (N := 22) hx hb hts iX11 hown hK.1 hP 0 rfl rfl 14 (by decide) (hts _ m_595) (fun _ h9 => h9) rfl dX11_digit_80 ?_
          refine lv_iconst (v := nI 1) hx hb dX11_digit_83 (by decide +kernel) ?_
          refine nv_add hx hb dX11_digit_84 ?_
          refine va_put (D := D) (ci := 11) (v := .int (nI (blk ta tnQ cu + 1))) (ty := tyX11 14) (C := RX11) (T := TX11) (N := 22) hx hb hts iX11 tyX11 tyX11_ok nmX11 hown hK.1 hP hD hS 0 rfl rfl 14 (by decide) (hts _ m_595) (fun _ h9 => h9) rfl (tyX11_ok 14 (by decide)) rfl rfl (Nat.le_of_ble_eq_true rfl) dX11_digit_85 (fun H locs hP hD hS => ?_)
          have hP : va_P D vwCl [(o, .inr (11, [.ref qj, .ref qt, .ref qf, .ref qp, .int (nI un), .ref qk, .ref qq, .int (nI ku), .int (nI ik), .ref qa, .int (nI tnQ), .int (nI th), .int (nI la), .int (nI wo), .int (nI (blk ta tnQ cu + 1)), .int (nI fa), .int (nI fat), .ref qs, .ref ql, .ref qm, .ref qi, .ref qe])), aN z qa 60 ta] H := hP
          have hD : va_D A [(o, .inr (11, [.ref qj, .ref qt, .ref qf, .ref qp, .int (nI un), .ref qk, .ref qq, .int (nI ku), .int (nI ik), .ref qa, .int (nI tnQ), .int (nI th), .int (nI la), .int (nI wo), .int (nI (blk ta tnQ cu + 1)), .int (nI fa), .int (nI fat), .ref qs, .ref ql, .ref qm, .ref qi, .ref qe])), aN z qa 60 ta] := hD
          have hD9 : isD ta tnQ cu loQ := ⟨by omega, by omega, by omega⟩
          obtain ⟨e1, e2⟩ := hmu.1 hD9
          obtain rfl := e1.symm
          obtain rfl := e2.symm
          refine lv_iload_n hx hb dX11_digit_88 rfl (lv_at hl 0 rfl) ?_
          exact nv_mi hx hb hr hlocks hS dX11_digit_89 hP trivial (by unfold dgV; first | rw [if_pos hD9] | rw [if_neg hD9])
      · (exfalso; omega)

set_option maxHeartbeats 4000000 in
set_option maxRecDepth 100000 in
theorem c_X11_number (l : Launch) (D : va_G) (z : Nat → ClassId) (sz : Nat) (o : Nat) (qj : Nat) (qt : Nat) (qf : Nat) (qp : Nat) (qk : Nat) (qq : Nat) (qa : Nat) (qs : Nat) (ql : Nat) (qm : Nat) (qi : Nat) (qe : Nat) (un : Nat) (ku : Nat) (ik : Nat) (tnQ : Nat) (th : Nat) (la : Nat) (wo : Nat) (cu : Nat) (fa : Nat) (fat : Nat) (ta : Nat → Nat) (hiQ : Nat) (fa1 : Nat) (fat1 : Nat) (htp : tOK ta tnQ) (hcu : cu < 2000) (hfa : fa ≤ 1) (hhi : hiQ < 2147483648) (hmu : muRel (1 ≤ nuV ta tnQ cu ∧ nuV ta tnQ cu ≤ hiQ) fa fat (blk ta tnQ cu) fa1 fat1) : CM l yX11_number cX11_number 4 (some .int) 1 25 0 0 [.ref o, .int (nI hiQ)] D z [(o, .inr (11, [.ref qj, .ref qt, .ref qf, .ref qp, .int (nI un), .ref qk, .ref qq, .int (nI ku), .int (nI ik), .ref qa, .int (nI tnQ), .int (nI th), .int (nI la), .int (nI wo), .int (nI cu), .int (nI fa), .int (nI fat), .ref qs, .ref ql, .ref qm, .ref qi, .ref qe])), aN z qa 60 ta] sz (fun _ => True) [(o, .inr (11, [.ref qj, .ref qt, .ref qf, .ref qp, .int (nI un), .ref qk, .ref qq, .int (nI ku), .int (nI ik), .ref qa, .int (nI tnQ), .int (nI th), .int (nI la), .int (nI wo), .int (nI (blk ta tnQ cu + dcF ta tnQ (blk ta tnQ cu))), .int (nI fa1), .int (nI fat1), .ref qs, .ref ql, .ref qm, .ref qi, .ref qe])), aN z qa 60 ta] (some (.int (nI (nuV ta tnQ cu)))) (fun _ => True) := by
  refine Met.ofW (cc := cX11_number) (maxL := 4) (ret := (some .int)) (by decide) rfl ?_
  intro pg e s m args below meth c s₁ B hml hv
  obtain ⟨rfl, hsz, hP, hK, hD0, hE⟩ := hv
  have hx := B.exec
  have hb := B.bytes
  have hr := B.returns
  have hts : ∀ w ∈ ALL, w.before _ s = true := fun w h => atoms_spec (ws := wA yX11_number cX11_number 4 (some .int)) B.pre w (List.mem_cons_of_mem _ h)
  have hown : s.vm.findClass RX11 = some m.cls := findClass_of_methodNamed B.named
  have hlocks := B.notSynchronized
  subst hsz
  have hD := hD0.self (sz := s.heap.size)
  have htn := htp.1
  have hbl := blk_le ta tnQ cu
  have hlt : ∀ i, i < tnQ → ta i < 128 := fun i hiQ => by have := htp.2 i hiQ; omega
  have hA : ∀ q : Nat, s.heap.size ≤ q → va_A [(o, .inr (11, [.ref qj, .ref qt, .ref qf, .ref qp, .int (nI un), .ref qk, .ref qq, .int (nI ku), .int (nI ik), .ref qa, .int (nI tnQ), .int (nI th), .int (nI la), .int (nI wo), .int (nI cu), .int (nI fa), .int (nI fat), .ref qs, .ref ql, .ref qm, .ref qi, .ref qe])), aN z qa 60 ta] s.heap.size q := fun q h => Or.inr h
  generalize va_A [(o, .inr (11, [.ref qj, .ref qt, .ref qf, .ref qp, .int (nI un), .ref qk, .ref qq, .int (nI ku), .int (nI ik), .ref qa, .int (nI tnQ), .int (nI th), .int (nI la), .int (nI wo), .int (nI cu), .int (nI fa), .int (nI fat), .ref qs, .ref ql, .ref qm, .ref qi, .ref qe])), aN z qa 60 ta] s.heap.size = A at *
  have hS : va_S A s.heap s.heap [] := va_S.rf
  have hl := lv_entry ([.ref o, .int (nI hiQ)]) (n := 4) (Nat.le_of_ble_eq_true rfl)
  rw [lg_entry_eq]
  generalize (lg_sl ([.ref o, .int (nI hiQ)]) ++ List.replicate (4 - (lg_sl ([.ref o, .int (nI hiQ)])).length) Slot.unset).toArray = ls at hl ⊢
  have hl : lv_has ls 4 [(0, .ref o), (1, .int (nI hiQ))] := hl
  refine lv_aload_n hx hb dX11_number_0 rfl (lv_at hl 0 rfl) ?_
  have hPc := hP.sub (ws' := [(o, .inr (11, [.ref qj, .ref qt, .ref qf, .ref qp, .int (nI un), .ref qk, .ref qq, .int (nI ku), .int (nI ik), .ref qa, .int (nI tnQ), .int (nI th), .int (nI la), .int (nI wo), .int (nI cu), .int (nI fa), .int (nI fat), .ref qs, .ref ql, .ref qm, .ref qi, .ref qe])), aN z qa 60 ta]) [0, 1] rfl
  have hDc := hD.sub (ws' := [(o, .inr (11, [.ref qj, .ref qt, .ref qf, .ref qp, .int (nI un), .ref qk, .ref qq, .int (nI ku), .int (nI ik), .ref qa, .int (nI tnQ), .int (nI th), .int (nI la), .int (nI wo), .int (nI cu), .int (nI fa), .int (nI fat), .ref qs, .ref ql, .ref qm, .ref qi, .ref qe])), aN z qa 60 ta]) [0, 1] (by decide) rfl
  refine nv_cm0 (wc := [(o, .inr (11, [.ref qj, .ref qt, .ref qf, .ref qp, .int (nI un), .ref qk, .ref qq, .int (nI ku), .int (nI ik), .ref qa, .int (nI tnQ), .int (nI th), .int (nI la), .int (nI wo), .int (nI cu), .int (nI fa), .int (nI fat), .ref qs, .ref ql, .ref qm, .ref qi, .ref qe])), aN z qa 60 ta]) (wr := []) (w1 := [(o, .inr (11, [.ref qj, .ref qt, .ref qf, .ref qp, .int (nI un), .ref qk, .ref qq, .int (nI ku), .int (nI ik), .ref qa, .int (nI tnQ), .int (nI th), .int (nI la), .int (nI wo), .int (nI (blk ta tnQ cu)), .int (nI fa), .int (nI fat), .ref qs, .ref ql, .ref qm, .ref qi, .ref qe])), aN z qa 60 ta]) (ws1 := [(o, .inr (11, [.ref qj, .ref qt, .ref qf, .ref qp, .int (nI un), .ref qk, .ref qq, .int (nI ku), .int (nI ik), .ref qa, .int (nI tnQ), .int (nI th), .int (nI la), .int (nI wo), .int (nI (blk ta tnQ cu)), .int (nI fa), .int (nI fat), .ref qs, .ref ql, .ref qm, .ref qi, .ref qe])), aN z qa 60 ta]) (va_runV (As := []) (rest := []) ⟨hx, hb, hml, hown, hts⟩ (c_X11_blanks l D z s.heap.size o qj qt qf qp qk qq qa qs ql qm qi qe un ku ik tnQ th la wo cu fa fat ta (by first | assumption | omega) (by first | assumption | omega)) (cwV 0 hts (gV m_600 m_601 m_602 m_541 m_594) rfl rfl rfl ⟨rfl, hd_X11_blanks⟩ ⟨Nat.le_of_ble_eq_true rfl, Nat.le_of_ble_eq_true rfl⟩) (nv_preMV (ci := 11) (q0 := 0) hK hPc hDc trivial rfl rfl) rfl rfl hl.1 rfl (lv_room (Nat.le_of_ble_eq_true rfl)) dX11_number_1 ⟨by decide, by decide⟩) hP hD hS hA [0, 1] [] [0, 1] rfl rfl (by decide) (by decide) rfl (by decide) rfl (by decide) (fun H locs hP hD hS hE1 hz1 hf1 => ?_)
  clear hPc hDc
  clear hf1 hz1
  refine lv_aload_n hx hb dX11_number_4 rfl (lv_at hl 0 rfl) ?_
  refine va_get (D := D) (ci := 11) (v := .int (nI (blk ta tnQ cu))) (C := RX11) (T := TX11) (N := 22) hx hb hts iX11 hown hK.1 hP 0 rfl rfl 14 (by decide) (hts _ m_595) (fun _ h9 => h9) rfl dX11_number_5 ?_
  refine lv_istore_n (lv' := [(2, .int (nI (blk ta tnQ cu))), (0, .ref o), (1, .int (nI hiQ))]) hx hb dX11_number_8 rfl hl (by decide) rfl (fun ls hl => ?_)
  refine lv_iconst (v := nI 0) hx hb dX11_number_9 (by decide +kernel) ?_
  refine lv_istore_n (lv' := [(3, .int (nI 0)), (2, .int (nI (blk ta tnQ cu))), (0, .ref o), (1, .int (nI hiQ))]) hx hb dX11_number_10 rfl hl (by decide) rfl (fun ls hl => ?_)
  refine nv_loop (σ := Nat) (fun x H locs ls => ∃ (dq : Nat), dq = x ∧ ((dq ≤ 4) ∧ (∀ i, i < dq → dig ta tnQ ((blk ta tnQ cu) + i))) ∧ va_P D vwCl [(o, .inr (11, [.ref qj, .ref qt, .ref qf, .ref qp, .int (nI un), .ref qk, .ref qq, .int (nI ku), .int (nI ik), .ref qa, .int (nI tnQ), .int (nI th), .int (nI la), .int (nI wo), .int (nI (blk ta tnQ cu + dq)), .int (nI fa), .int (nI fat), .ref qs, .ref ql, .ref qm, .ref qi, .ref qe])), aN z qa 60 ta] H ∧ va_D A [(o, .inr (11, [.ref qj, .ref qt, .ref qf, .ref qp, .int (nI un), .ref qk, .ref qq, .int (nI ku), .int (nI ik), .ref qa, .int (nI tnQ), .int (nI th), .int (nI la), .int (nI wo), .int (nI (blk ta tnQ cu + dq)), .int (nI fa), .int (nI fat), .ref qs, .ref ql, .ref qm, .ref qi, .ref qe])), aN z qa 60 ta] ∧ va_S A s.heap H locs ∧ lv_has ls 4 [(0, .ref o), (1, .int (nI hiQ)), (2, .int (nI (blk ta tnQ cu))), (3, .int (nI (nvF ta (blk ta tnQ cu) dq)))]) (fun x => 4 - x) 11 [] ?_ 0 ?_
  · rintro _ H locs ls ⟨dq, rfl, ⟨hd4, hdg⟩, hP, hD, hS, hl⟩ ih11
    refine lv_aload_n hx hb dX11_number_11 rfl (lv_at hl 0 rfl) ?_
    refine va_get (D := D) (ci := 11) (v := .int (nI (blk ta tnQ cu + dq))) (C := RX11) (T := TX11) (N := 22) hx hb hts iX11 hown hK.1 hP 0 rfl rfl 14 (by decide) (hts _ m_595) (fun _ h9 => h9) rfl dX11_number_12 ?_
    refine lv_aload_n hx hb dX11_number_15 rfl (lv_at hl 0 rfl) ?_
    refine va_get (D := D) (ci := 11) (v := .int (nI tnQ)) (C := RX11) (T := TX11) (N := 22) hx hb hts iX11 hown hK.1 hP 0 rfl rfl 10 (by decide) (hts _ m_593) (fun _ h9 => h9) rfl dX11_number_16 ?_
    refine nv_ge (tgt := 85) hx hb (by omega) (by omega) dX11_number_19 (by decide) (fun hc19 => ?_) (fun hc19 => ?_)
    · have hnv := nvF_le hdg
      have hp9 := p10_le (show dq ≤ 4 by omega)
      have ed : dcF ta tnQ (blk ta tnQ cu) = dq := dcF_is hdg (by omega) (by omega)
      obtain rfl : dq = dcF ta tnQ (blk ta tnQ cu) := ed.symm
      have hnu : nuV ta tnQ cu = nvF ta (blk ta tnQ cu) (dcF ta tnQ (blk ta tnQ cu)) := rfl
      refine lv_aload_n hx hb dX11_number_85 rfl (lv_at hl 0 rfl) ?_
      refine va_get (D := D) (ci := 11) (v := .int (nI (blk ta tnQ cu + (dcF ta tnQ (blk ta tnQ cu))))) (C := RX11) (T := TX11) (N := 22) hx hb hts iX11 hown hK.1 hP 0 rfl rfl 14 (by decide) (hts _ m_595) (fun _ h9 => h9) rfl dX11_number_86 ?_
      refine lv_iload_n hx hb dX11_number_89 rfl (lv_at hl 2 rfl) ?_
      refine nv_eq (tgt := 104) hx hb (by omega) (by omega) dX11_number_90 (by decide) (fun hc90 => ?_) (fun hc90 => ?_)
      · refine lv_aload_n hx hb dX11_number_104 rfl (lv_at hl 0 rfl) ?_
        refine lv_iload_n hx hb dX11_number_105 rfl (lv_at hl 2 rfl) ?_
        have hPc := hP.sub (ws' := [(o, .inr (11, [.ref qj, .ref qt, .ref qf, .ref qp, .int (nI un), .ref qk, .ref qq, .int (nI ku), .int (nI ik), .ref qa, .int (nI tnQ), .int (nI th), .int (nI la), .int (nI wo), .int (nI (blk ta tnQ cu + (dcF ta tnQ (blk ta tnQ cu)))), .int (nI fa), .int (nI fat), .ref qs, .ref ql, .ref qm, .ref qi, .ref qe]))]) [0] rfl
        have hDc := hD.sub (ws' := [(o, .inr (11, [.ref qj, .ref qt, .ref qf, .ref qp, .int (nI un), .ref qk, .ref qq, .int (nI ku), .int (nI ik), .ref qa, .int (nI tnQ), .int (nI th), .int (nI la), .int (nI wo), .int (nI (blk ta tnQ cu + (dcF ta tnQ (blk ta tnQ cu)))), .int (nI fa), .int (nI fat), .ref qs, .ref ql, .ref qm, .ref qi, .ref qe]))]) [0] (by decide) rfl
        refine nv_cm0 (wc := [(o, .inr (11, [.ref qj, .ref qt, .ref qf, .ref qp, .int (nI un), .ref qk, .ref qq, .int (nI ku), .int (nI ik), .ref qa, .int (nI tnQ), .int (nI th), .int (nI la), .int (nI wo), .int (nI (blk ta tnQ cu + (dcF ta tnQ (blk ta tnQ cu)))), .int (nI fa), .int (nI fat), .ref qs, .ref ql, .ref qm, .ref qi, .ref qe]))]) (wr := [aN z qa 60 ta]) (w1 := [(o, .inr (11, [.ref qj, .ref qt, .ref qf, .ref qp, .int (nI un), .ref qk, .ref qq, .int (nI ku), .int (nI ik), .ref qa, .int (nI tnQ), .int (nI th), .int (nI la), .int (nI wo), .int (nI (blk ta tnQ cu + (dcF ta tnQ (blk ta tnQ cu)))), .int (nI 1), .int (nI (baF fa fat (blk ta tnQ cu))), .ref qs, .ref ql, .ref qm, .ref qi, .ref qe]))]) (ws1 := [(o, .inr (11, [.ref qj, .ref qt, .ref qf, .ref qp, .int (nI un), .ref qk, .ref qq, .int (nI ku), .int (nI ik), .ref qa, .int (nI tnQ), .int (nI th), .int (nI la), .int (nI wo), .int (nI (blk ta tnQ cu + (dcF ta tnQ (blk ta tnQ cu)))), .int (nI 1), .int (nI (baF fa fat (blk ta tnQ cu))), .ref qs, .ref ql, .ref qm, .ref qi, .ref qe])), aN z qa 60 ta]) (va_runV (As := [.int (nI (blk ta tnQ cu))]) (rest := []) ⟨hx, hb, hml, hown, hts⟩ (c_X11_bad l D z H.size o qj qt qf qp qk qq qa qs ql qm qi qe un ku ik tnQ th la wo (blk ta tnQ cu + (dcF ta tnQ (blk ta tnQ cu))) fa fat (blk ta tnQ cu) (by first | assumption | omega)) (cwV 1 hts (gV m_607 m_608 m_609 m_541 m_596) rfl rfl rfl ⟨rfl, hd_X11_bad⟩ ⟨Nat.le_of_ble_eq_true rfl, Nat.le_of_ble_eq_true rfl⟩) (nv_preMV (ci := 11) (q0 := 0) hK hPc hDc trivial rfl rfl) rfl rfl hl.1 rfl (lv_room (Nat.le_of_ble_eq_true rfl)) dX11_number_106 ⟨by decide, by decide⟩) hP hD hS hA [0] [1] [1, 0] rfl rfl (by decide) (by decide) rfl (by decide) rfl (by decide) (fun H locs hP hD hS hE106 hz106 hf106 => ?_)
        clear hPc hDc
        clear hf106 hz106
        obtain ⟨rfl, rfl⟩ := hmu.2 (fun q9 => by first | (have h7 := q9.1; rw [hnu, show dcF ta tnQ (blk ta tnQ cu) = 0 by omega] at h7; exact absurd h7 (by show ¬ 1 ≤ 0; omega)) | (have h7 := q9.1; have h8 := q9.2; omega))
        refine lv_iload_n hx hb dX11_number_109 rfl (lv_at hl 3 rfl) ?_
        exact nv_mi hx hb hr hlocks hS dX11_number_110 hP trivial rfl
      · refine lv_iload_n hx hb dX11_number_93 rfl (lv_at hl 3 rfl) ?_
        refine lv_i2l hx hb dX11_number_94 rfl ?_
        refine lv_lconst (v := 1) hx hb dX11_number_95 (by decide +kernel) ?_
        refine lv_iload_n hx hb dX11_number_96 rfl (lv_at hl 1 rfl) ?_
        refine lv_i2l hx hb dX11_number_97 rfl ?_
        have hPc := hP.sub (ws' := []) [] rfl
        refine nv_cp1 (va_runS (As := [.long ((nI (nvF ta (blk ta tnQ cu) (dcF ta tnQ (blk ta tnQ cu)))).toInt64), .long 1, .long ((nI hiQ).toInt64)]) (rest := []) ⟨hx, hb, hml, hown, hts⟩ (c_X11_in l D z ((nI (nvF ta (blk ta tnQ cu) (dcF ta tnQ (blk ta tnQ cu)))).toInt64) 1 ((nI hiQ).toInt64) ) (va_cwS 3 hts (gS m_539 m_540 m_541 m_536) rfl rfl rfl hd_X11_in ⟨Nat.le_of_ble_eq_true rfl, Nat.le_of_ble_eq_true rfl⟩) (nv_preP hK hPc trivial _) rfl rfl hl.1 rfl (lv_room (Nat.le_of_ble_eq_true rfl)) dX11_number_98 ⟨by decide, by decide⟩) ?_
        refine nv_innl (a := 1) (b := hiQ) (by omega) (by decide) (nv_lw (by omega)) ?_
        refine nv_bne (tgt := 109) hx hb dX11_number_101 (by decide) (fun hc101 => ?_) (fun hc101 => ?_)
        · obtain ⟨e1, e2⟩ := hmu.1 ⟨by omega, by omega⟩
          obtain rfl := e1.symm
          obtain rfl := e2.symm
          refine lv_iload_n hx hb dX11_number_109 rfl (lv_at hl 3 rfl) ?_
          exact nv_mi hx hb hr hlocks hS dX11_number_110 hP trivial rfl
        · refine lv_aload_n hx hb dX11_number_104 rfl (lv_at hl 0 rfl) ?_
          refine lv_iload_n hx hb dX11_number_105 rfl (lv_at hl 2 rfl) ?_
          have hPc := hP.sub (ws' := [(o, .inr (11, [.ref qj, .ref qt, .ref qf, .ref qp, .int (nI un), .ref qk, .ref qq, .int (nI ku), .int (nI ik), .ref qa, .int (nI tnQ), .int (nI th), .int (nI la), .int (nI wo), .int (nI (blk ta tnQ cu + (dcF ta tnQ (blk ta tnQ cu)))), .int (nI fa), .int (nI fat), .ref qs, .ref ql, .ref qm, .ref qi, .ref qe]))]) [0] rfl
          have hDc := hD.sub (ws' := [(o, .inr (11, [.ref qj, .ref qt, .ref qf, .ref qp, .int (nI un), .ref qk, .ref qq, .int (nI ku), .int (nI ik), .ref qa, .int (nI tnQ), .int (nI th), .int (nI la), .int (nI wo), .int (nI (blk ta tnQ cu + (dcF ta tnQ (blk ta tnQ cu)))), .int (nI fa), .int (nI fat), .ref qs, .ref ql, .ref qm, .ref qi, .ref qe]))]) [0] (by decide) rfl
          refine nv_cm0 (wc := [(o, .inr (11, [.ref qj, .ref qt, .ref qf, .ref qp, .int (nI un), .ref qk, .ref qq, .int (nI ku), .int (nI ik), .ref qa, .int (nI tnQ), .int (nI th), .int (nI la), .int (nI wo), .int (nI (blk ta tnQ cu + (dcF ta tnQ (blk ta tnQ cu)))), .int (nI fa), .int (nI fat), .ref qs, .ref ql, .ref qm, .ref qi, .ref qe]))]) (wr := [aN z qa 60 ta]) (w1 := [(o, .inr (11, [.ref qj, .ref qt, .ref qf, .ref qp, .int (nI un), .ref qk, .ref qq, .int (nI ku), .int (nI ik), .ref qa, .int (nI tnQ), .int (nI th), .int (nI la), .int (nI wo), .int (nI (blk ta tnQ cu + (dcF ta tnQ (blk ta tnQ cu)))), .int (nI 1), .int (nI (baF fa fat (blk ta tnQ cu))), .ref qs, .ref ql, .ref qm, .ref qi, .ref qe]))]) (ws1 := [(o, .inr (11, [.ref qj, .ref qt, .ref qf, .ref qp, .int (nI un), .ref qk, .ref qq, .int (nI ku), .int (nI ik), .ref qa, .int (nI tnQ), .int (nI th), .int (nI la), .int (nI wo), .int (nI (blk ta tnQ cu + (dcF ta tnQ (blk ta tnQ cu)))), .int (nI 1), .int (nI (baF fa fat (blk ta tnQ cu))), .ref qs, .ref ql, .ref qm, .ref qi, .ref qe])), aN z qa 60 ta]) (va_runV (As := [.int (nI (blk ta tnQ cu))]) (rest := []) ⟨hx, hb, hml, hown, hts⟩ (c_X11_bad l D z H.size o qj qt qf qp qk qq qa qs ql qm qi qe un ku ik tnQ th la wo (blk ta tnQ cu + (dcF ta tnQ (blk ta tnQ cu))) fa fat (blk ta tnQ cu) (by first | assumption | omega)) (cwV 1 hts (gV m_607 m_608 m_609 m_541 m_596) rfl rfl rfl ⟨rfl, hd_X11_bad⟩ ⟨Nat.le_of_ble_eq_true rfl, Nat.le_of_ble_eq_true rfl⟩) (nv_preMV (ci := 11) (q0 := 0) hK hPc hDc trivial rfl rfl) rfl rfl hl.1 rfl (lv_room (Nat.le_of_ble_eq_true rfl)) dX11_number_106 ⟨by decide, by decide⟩) hP hD hS hA [0] [1] [1, 0] rfl rfl (by decide) (by decide) rfl (by decide) rfl (by decide) (fun H locs hP hD hS hE106 hz106 hf106 => ?_)
          clear hPc hDc
          clear hf106 hz106
          obtain ⟨rfl, rfl⟩ := hmu.2 (fun q9 => by first | (have h7 := q9.1; rw [hnu, show dcF ta tnQ (blk ta tnQ cu) = 0 by omega] at h7; exact absurd h7 (by show ¬ 1 ≤ 0; omega)) | (have h7 := q9.1; have h8 := q9.2; omega))
          refine lv_iload_n hx hb dX11_number_109 rfl (lv_at hl 3 rfl) ?_
          exact nv_mi hx hb hr hlocks hS dX11_number_110 hP trivial rfl
    · refine lv_aload_n hx hb dX11_number_22 rfl (lv_at hl 0 rfl) ?_
      refine va_get (D := D) (ci := 11) (v := .int (nI (blk ta tnQ cu + dq))) (C := RX11) (T := TX11) (N := 22) hx hb hts iX11 hown hK.1 hP 0 rfl rfl 14 (by decide) (hts _ m_595) (fun _ h9 => h9) rfl dX11_number_23 ?_
      refine lv_iload_n hx hb dX11_number_26 rfl (lv_at hl 2 rfl) ?_
      refine nv_sub hx hb (by omega) dX11_number_27 ?_
      refine lv_iconst (v := nI 4) hx hb dX11_number_28 (by decide +kernel) ?_
      refine nv_ge (tgt := 85) hx hb (by omega) (by omega) dX11_number_29 (by decide) (fun hc29 => ?_) (fun hc29 => ?_)
      · have hnv := nvF_le hdg
        have hp9 := p10_le (show dq ≤ 4 by omega)
        have ed : dcF ta tnQ (blk ta tnQ cu) = dq := dcF_is hdg (by omega) (by omega)
        obtain rfl : dq = dcF ta tnQ (blk ta tnQ cu) := ed.symm
        have hnu : nuV ta tnQ cu = nvF ta (blk ta tnQ cu) (dcF ta tnQ (blk ta tnQ cu)) := rfl
        refine lv_aload_n hx hb dX11_number_85 rfl (lv_at hl 0 rfl) ?_
        refine va_get (D := D) (ci := 11) (v := .int (nI (blk ta tnQ cu + (dcF ta tnQ (blk ta tnQ cu))))) (C := RX11) (T := TX11) (N := 22) hx hb hts iX11 hown hK.1 hP 0 rfl rfl 14 (by decide) (hts _ m_595) (fun _ h9 => h9) rfl dX11_number_86 ?_
        refine lv_iload_n hx hb dX11_number_89 rfl (lv_at hl 2 rfl) ?_
        refine nv_eq (tgt := 104) hx hb (by omega) (by omega) dX11_number_90 (by decide) (fun hc90 => ?_) (fun hc90 => ?_)
        · refine lv_aload_n hx hb dX11_number_104 rfl (lv_at hl 0 rfl) ?_
          refine lv_iload_n hx hb dX11_number_105 rfl (lv_at hl 2 rfl) ?_
          have hPc := hP.sub (ws' := [(o, .inr (11, [.ref qj, .ref qt, .ref qf, .ref qp, .int (nI un), .ref qk, .ref qq, .int (nI ku), .int (nI ik), .ref qa, .int (nI tnQ), .int (nI th), .int (nI la), .int (nI wo), .int (nI (blk ta tnQ cu + (dcF ta tnQ (blk ta tnQ cu)))), .int (nI fa), .int (nI fat), .ref qs, .ref ql, .ref qm, .ref qi, .ref qe]))]) [0] rfl
          have hDc := hD.sub (ws' := [(o, .inr (11, [.ref qj, .ref qt, .ref qf, .ref qp, .int (nI un), .ref qk, .ref qq, .int (nI ku), .int (nI ik), .ref qa, .int (nI tnQ), .int (nI th), .int (nI la), .int (nI wo), .int (nI (blk ta tnQ cu + (dcF ta tnQ (blk ta tnQ cu)))), .int (nI fa), .int (nI fat), .ref qs, .ref ql, .ref qm, .ref qi, .ref qe]))]) [0] (by decide) rfl
          refine nv_cm0 (wc := [(o, .inr (11, [.ref qj, .ref qt, .ref qf, .ref qp, .int (nI un), .ref qk, .ref qq, .int (nI ku), .int (nI ik), .ref qa, .int (nI tnQ), .int (nI th), .int (nI la), .int (nI wo), .int (nI (blk ta tnQ cu + (dcF ta tnQ (blk ta tnQ cu)))), .int (nI fa), .int (nI fat), .ref qs, .ref ql, .ref qm, .ref qi, .ref qe]))]) (wr := [aN z qa 60 ta]) (w1 := [(o, .inr (11, [.ref qj, .ref qt, .ref qf, .ref qp, .int (nI un), .ref qk, .ref qq, .int (nI ku), .int (nI ik), .ref qa, .int (nI tnQ), .int (nI th), .int (nI la), .int (nI wo), .int (nI (blk ta tnQ cu + (dcF ta tnQ (blk ta tnQ cu)))), .int (nI 1), .int (nI (baF fa fat (blk ta tnQ cu))), .ref qs, .ref ql, .ref qm, .ref qi, .ref qe]))]) (ws1 := [(o, .inr (11, [.ref qj, .ref qt, .ref qf, .ref qp, .int (nI un), .ref qk, .ref qq, .int (nI ku), .int (nI ik), .ref qa, .int (nI tnQ), .int (nI th), .int (nI la), .int (nI wo), .int (nI (blk ta tnQ cu + (dcF ta tnQ (blk ta tnQ cu)))), .int (nI 1), .int (nI (baF fa fat (blk ta tnQ cu))), .ref qs, .ref ql, .ref qm, .ref qi, .ref qe])), aN z qa 60 ta]) (va_runV (As := [.int (nI (blk ta tnQ cu))]) (rest := []) ⟨hx, hb, hml, hown, hts⟩ (c_X11_bad l D z H.size o qj qt qf qp qk qq qa qs ql qm qi qe un ku ik tnQ th la wo (blk ta tnQ cu + (dcF ta tnQ (blk ta tnQ cu))) fa fat (blk ta tnQ cu) (by first | assumption | omega)) (cwV 1 hts (gV m_607 m_608 m_609 m_541 m_596) rfl rfl rfl ⟨rfl, hd_X11_bad⟩ ⟨Nat.le_of_ble_eq_true rfl, Nat.le_of_ble_eq_true rfl⟩) (nv_preMV (ci := 11) (q0 := 0) hK hPc hDc trivial rfl rfl) rfl rfl hl.1 rfl (lv_room (Nat.le_of_ble_eq_true rfl)) dX11_number_106 ⟨by decide, by decide⟩) hP hD hS hA [0] [1] [1, 0] rfl rfl (by decide) (by decide) rfl (by decide) rfl (by decide) (fun H locs hP hD hS hE106 hz106 hf106 => ?_)
          clear hPc hDc
          clear hf106 hz106
          obtain ⟨rfl, rfl⟩ := hmu.2 (fun q9 => by first | (have h7 := q9.1; rw [hnu, show dcF ta tnQ (blk ta tnQ cu) = 0 by omega] at h7; exact absurd h7 (by show ¬ 1 ≤ 0; omega)) | (have h7 := q9.1; have h8 := q9.2; omega))
          refine lv_iload_n hx hb dX11_number_109 rfl (lv_at hl 3 rfl) ?_
          exact nv_mi hx hb hr hlocks hS dX11_number_110 hP trivial rfl
        · refine lv_iload_n hx hb dX11_number_93 rfl (lv_at hl 3 rfl) ?_
          refine lv_i2l hx hb dX11_number_94 rfl ?_
          refine lv_lconst (v := 1) hx hb dX11_number_95 (by decide +kernel) ?_
          refine lv_iload_n hx hb dX11_number_96 rfl (lv_at hl 1 rfl) ?_
          refine lv_i2l hx hb dX11_number_97 rfl ?_
          have hPc := hP.sub (ws' := []) [] rfl
          refine nv_cp1 (va_runS (As := [.long ((nI (nvF ta (blk ta tnQ cu) (dcF ta tnQ (blk ta tnQ cu)))).toInt64), .long 1, .long ((nI hiQ).toInt64)]) (rest := []) ⟨hx, hb, hml, hown, hts⟩ (c_X11_in l D z ((nI (nvF ta (blk ta tnQ cu) (dcF ta tnQ (blk ta tnQ cu)))).toInt64) 1 ((nI hiQ).toInt64) ) (va_cwS 3 hts (gS m_539 m_540 m_541 m_536) rfl rfl rfl hd_X11_in ⟨Nat.le_of_ble_eq_true rfl, Nat.le_of_ble_eq_true rfl⟩) (nv_preP hK hPc trivial _) rfl rfl hl.1 rfl (lv_room (Nat.le_of_ble_eq_true rfl)) dX11_number_98 ⟨by decide, by decide⟩) ?_
          refine nv_innl (a := 1) (b := hiQ) (by omega) (by decide) (nv_lw (by omega)) ?_
          refine nv_bne (tgt := 109) hx hb dX11_number_101 (by decide) (fun hc101 => ?_) (fun hc101 => ?_)
          · obtain ⟨e1, e2⟩ := hmu.1 ⟨by omega, by omega⟩
            obtain rfl := e1.symm
            obtain rfl := e2.symm
            refine lv_iload_n hx hb dX11_number_109 rfl (lv_at hl 3 rfl) ?_
            exact nv_mi hx hb hr hlocks hS dX11_number_110 hP trivial rfl
          · refine lv_aload_n hx hb dX11_number_104 rfl (lv_at hl 0 rfl) ?_
            refine lv_iload_n hx hb dX11_number_105 rfl (lv_at hl 2 rfl) ?_
            have hPc := hP.sub (ws' := [(o, .inr (11, [.ref qj, .ref qt, .ref qf, .ref qp, .int (nI un), .ref qk, .ref qq, .int (nI ku), .int (nI ik), .ref qa, .int (nI tnQ), .int (nI th), .int (nI la), .int (nI wo), .int (nI (blk ta tnQ cu + (dcF ta tnQ (blk ta tnQ cu)))), .int (nI fa), .int (nI fat), .ref qs, .ref ql, .ref qm, .ref qi, .ref qe]))]) [0] rfl
            have hDc := hD.sub (ws' := [(o, .inr (11, [.ref qj, .ref qt, .ref qf, .ref qp, .int (nI un), .ref qk, .ref qq, .int (nI ku), .int (nI ik), .ref qa, .int (nI tnQ), .int (nI th), .int (nI la), .int (nI wo), .int (nI (blk ta tnQ cu + (dcF ta tnQ (blk ta tnQ cu)))), .int (nI fa), .int (nI fat), .ref qs, .ref ql, .ref qm, .ref qi, .ref qe]))]) [0] (by decide) rfl
            refine nv_cm0 (wc := [(o, .inr (11, [.ref qj, .ref qt, .ref qf, .ref qp, .int (nI un), .ref qk, .ref qq, .int (nI ku), .int (nI ik), .ref qa, .int (nI tnQ), .int (nI th), .int (nI la), .int (nI wo), .int (nI (blk ta tnQ cu + (dcF ta tnQ (blk ta tnQ cu)))), .int (nI fa), .int (nI fat), .ref qs, .ref ql, .ref qm, .ref qi, .ref qe]))]) (wr := [aN z qa 60 ta]) (w1 := [(o, .inr (11, [.ref qj, .ref qt, .ref qf, .ref qp, .int (nI un), .ref qk, .ref qq, .int (nI ku), .int (nI ik), .ref qa, .int (nI tnQ), .int (nI th), .int (nI la), .int (nI wo), .int (nI (blk ta tnQ cu + (dcF ta tnQ (blk ta tnQ cu)))), .int (nI 1), .int (nI (baF fa fat (blk ta tnQ cu))), .ref qs, .ref ql, .ref qm, .ref qi, .ref qe]))]) (ws1 := [(o, .inr (11, [.ref qj, .ref qt, .ref qf, .ref qp, .int (nI un), .ref qk, .ref qq, .int (nI ku), .int (nI ik), .ref qa, .int (nI tnQ), .int (nI th), .int (nI la), .int (nI wo), .int (nI (blk ta tnQ cu + (dcF ta tnQ (blk ta tnQ cu)))), .int (nI 1), .int (nI (baF fa fat (blk ta tnQ cu))), .ref qs, .ref ql, .ref qm, .ref qi, .ref qe])), aN z qa 60 ta]) (va_runV (As := [.int (nI (blk ta tnQ cu))]) (rest := []) ⟨hx, hb, hml, hown, hts⟩ (c_X11_bad l D z H.size o qj qt qf qp qk qq qa qs ql qm qi qe un ku ik tnQ th la wo (blk ta tnQ cu + (dcF ta tnQ (blk ta tnQ cu))) fa fat (blk ta tnQ cu) (by first | assumption | omega)) (cwV 1 hts (gV m_607 m_608 m_609 m_541 m_596) rfl rfl rfl ⟨rfl, hd_X11_bad⟩ ⟨Nat.le_of_ble_eq_true rfl, Nat.le_of_ble_eq_true rfl⟩) (nv_preMV (ci := 11) (q0 := 0) hK hPc hDc trivial rfl rfl) rfl rfl hl.1 rfl (lv_room (Nat.le_of_ble_eq_true rfl)) dX11_number_106 ⟨by decide, by decide⟩) hP hD hS hA [0] [1] [1, 0] rfl rfl (by decide) (by decide) rfl (by decide) rfl (by decide) (fun H locs hP hD hS hE106 hz106 hf106 => ?_)
            clear hPc hDc
            clear hf106 hz106
            obtain ⟨rfl, rfl⟩ := hmu.2 (fun q9 => by first | (have h7 := q9.1; rw [hnu, show dcF ta tnQ (blk ta tnQ cu) = 0 by omega] at h7; exact absurd h7 (by show ¬ 1 ≤ 0; omega)) | (have h7 := q9.1; have h8 := q9.2; omega))
            refine lv_iload_n hx hb dX11_number_109 rfl (lv_at hl 3 rfl) ?_
            exact nv_mi hx hb hr hlocks hS dX11_number_110 hP trivial rfl
      · refine lv_aload_n hx hb dX11_number_32 rfl (lv_at hl 0 rfl) ?_
        refine va_get (D := D) (ci := 11) (v := .ref qa) (C := RX11) (T := TX11) (N := 22) hx hb hts iX11 hown hK.1 hP 0 rfl rfl 9 (by decide) (hts _ m_529) (fun _ h9 => h9) rfl dX11_number_33 ?_
        refine lv_aload_n hx hb dX11_number_36 rfl (lv_at hl 0 rfl) ?_
        refine va_get (D := D) (ci := 11) (v := .int (nI (blk ta tnQ cu + dq))) (C := RX11) (T := TX11) (N := 22) hx hb hts iX11 hown hK.1 hP 0 rfl rfl 14 (by decide) (hts _ m_595) (fun _ h9 => h9) rfl dX11_number_37 ?_
        refine nv_ald hx hb hK hP 1 rfl (by omega) (by decide) dX11_number_40 ?_
        have h31 := hlt ((blk ta tnQ cu) + dq) (by omega)
        refine lv_i2l hx hb dX11_number_41 rfl ?_
        refine lv_ldc2 (own := RX11) hx hb hown (hts _ m_613) dX11_number_42 ?_
        refine lv_ldc2 (own := RX11) hx hb hown (hts _ m_611) dX11_number_45 ?_
        have hPc := hP.sub (ws' := []) [] rfl
        refine nv_cp1 (va_runS (As := [.long ((nI (ta (blk ta tnQ cu + dq))).toInt64), .long (48), .long (57)]) (rest := []) ⟨hx, hb, hml, hown, hts⟩ (c_X11_in l D z ((nI (ta (blk ta tnQ cu + dq))).toInt64) (48) (57) ) (va_cwS 3 hts (gS m_539 m_540 m_541 m_536) rfl rfl rfl hd_X11_in ⟨Nat.le_of_ble_eq_true rfl, Nat.le_of_ble_eq_true rfl⟩) (nv_preP hK hPc trivial _) rfl rfl hl.1 rfl (lv_room (Nat.le_of_ble_eq_true rfl)) dX11_number_48 ⟨by decide, by decide⟩) ?_
        refine nv_innl (a := 48) (b := 57) (by omega) (by decide) (by decide) ?_
        refine nv_beq (tgt := 85) hx hb dX11_number_51 (by decide) (fun hc51 => ?_) (fun hc51 => ?_)
        · have hnv := nvF_le hdg
          have hp9 := p10_le (show dq ≤ 4 by omega)
          have ed : dcF ta tnQ (blk ta tnQ cu) = dq := dcF_is hdg (by omega) (by omega)
          obtain rfl : dq = dcF ta tnQ (blk ta tnQ cu) := ed.symm
          have hnu : nuV ta tnQ cu = nvF ta (blk ta tnQ cu) (dcF ta tnQ (blk ta tnQ cu)) := rfl
          refine lv_aload_n hx hb dX11_number_85 rfl (lv_at hl 0 rfl) ?_
          refine va_get (D := D) (ci := 11) (v := .int (nI (blk ta tnQ cu + (dcF ta tnQ (blk ta tnQ cu))))) (C := RX11) (T := TX11) (N := 22) hx hb hts iX11 hown hK.1 hP 0 rfl rfl 14 (by decide) (hts _ m_595) (fun _ h9 => h9) rfl dX11_number_86 ?_
          refine lv_iload_n hx hb dX11_number_89 rfl (lv_at hl 2 rfl) ?_
          refine nv_eq (tgt := 104) hx hb (by omega) (by omega) dX11_number_90 (by decide) (fun hc90 => ?_) (fun hc90 => ?_)
          · refine lv_aload_n hx hb dX11_number_104 rfl (lv_at hl 0 rfl) ?_
            refine lv_iload_n hx hb dX11_number_105 rfl (lv_at hl 2 rfl) ?_
            have hPc := hP.sub (ws' := [(o, .inr (11, [.ref qj, .ref qt, .ref qf, .ref qp, .int (nI un), .ref qk, .ref qq, .int (nI ku), .int (nI ik), .ref qa, .int (nI tnQ), .int (nI th), .int (nI la), .int (nI wo), .int (nI (blk ta tnQ cu + (dcF ta tnQ (blk ta tnQ cu)))), .int (nI fa), .int (nI fat), .ref qs, .ref ql, .ref qm, .ref qi, .ref qe]))]) [0] rfl
            have hDc := hD.sub (ws' := [(o, .inr (11, [.ref qj, .ref qt, .ref qf, .ref qp, .int (nI un), .ref qk, .ref qq, .int (nI ku), .int (nI ik), .ref qa, .int (nI tnQ), .int (nI th), .int (nI la), .int (nI wo), .int (nI (blk ta tnQ cu + (dcF ta tnQ (blk ta tnQ cu)))), .int (nI fa), .int (nI fat), .ref qs, .ref ql, .ref qm, .ref qi, .ref qe]))]) [0] (by decide) rfl
            refine nv_cm0 (wc := [(o, .inr (11, [.ref qj, .ref qt, .ref qf, .ref qp, .int (nI un), .ref qk, .ref qq, .int (nI ku), .int (nI ik), .ref qa, .int (nI tnQ), .int (nI th), .int (nI la), .int (nI wo), .int (nI (blk ta tnQ cu + (dcF ta tnQ (blk ta tnQ cu)))), .int (nI fa), .int (nI fat), .ref qs, .ref ql, .ref qm, .ref qi, .ref qe]))]) (wr := [aN z qa 60 ta]) (w1 := [(o, .inr (11, [.ref qj, .ref qt, .ref qf, .ref qp, .int (nI un), .ref qk, .ref qq, .int (nI ku), .int (nI ik), .ref qa, .int (nI tnQ), .int (nI th), .int (nI la), .int (nI wo), .int (nI (blk ta tnQ cu + (dcF ta tnQ (blk ta tnQ cu)))), .int (nI 1), .int (nI (baF fa fat (blk ta tnQ cu))), .ref qs, .ref ql, .ref qm, .ref qi, .ref qe]))]) (ws1 := [(o, .inr (11, [.ref qj, .ref qt, .ref qf, .ref qp, .int (nI un), .ref qk, .ref qq, .int (nI ku), .int (nI ik), .ref qa, .int (nI tnQ), .int (nI th), .int (nI la), .int (nI wo), .int (nI (blk ta tnQ cu + (dcF ta tnQ (blk ta tnQ cu)))), .int (nI 1), .int (nI (baF fa fat (blk ta tnQ cu))), .ref qs, .ref ql, .ref qm, .ref qi, .ref qe])), aN z qa 60 ta]) (va_runV (As := [.int (nI (blk ta tnQ cu))]) (rest := []) ⟨hx, hb, hml, hown, hts⟩ (c_X11_bad l D z H.size o qj qt qf qp qk qq qa qs ql qm qi qe un ku ik tnQ th la wo (blk ta tnQ cu + (dcF ta tnQ (blk ta tnQ cu))) fa fat (blk ta tnQ cu) (by first | assumption | omega)) (cwV 1 hts (gV m_607 m_608 m_609 m_541 m_596) rfl rfl rfl ⟨rfl, hd_X11_bad⟩ ⟨Nat.le_of_ble_eq_true rfl, Nat.le_of_ble_eq_true rfl⟩) (nv_preMV (ci := 11) (q0 := 0) hK hPc hDc trivial rfl rfl) rfl rfl hl.1 rfl (lv_room (Nat.le_of_ble_eq_true rfl)) dX11_number_106 ⟨by decide, by decide⟩) hP hD hS hA [0] [1] [1, 0] rfl rfl (by decide) (by decide) rfl (by decide) rfl (by decide) (fun H locs hP hD hS hE106 hz106 hf106 => ?_)
            clear hPc hDc
            clear hf106 hz106
            obtain ⟨rfl, rfl⟩ := hmu.2 (fun q9 => by first | (have h7 := q9.1; rw [hnu, show dcF ta tnQ (blk ta tnQ cu) = 0 by omega] at h7; exact absurd h7 (by show ¬ 1 ≤ 0; omega)) | (have h7 := q9.1; have h8 := q9.2; omega))
            refine lv_iload_n hx hb dX11_number_109 rfl (lv_at hl 3 rfl) ?_
            exact nv_mi hx hb hr hlocks hS dX11_number_110 hP trivial rfl
          · refine lv_iload_n hx hb dX11_number_93 rfl (lv_at hl 3 rfl) ?_
            refine lv_i2l hx hb dX11_number_94 rfl ?_
            refine lv_lconst (v := 1) hx hb dX11_number_95 (by decide +kernel) ?_
            refine lv_iload_n hx hb dX11_number_96 rfl (lv_at hl 1 rfl) ?_
            refine lv_i2l hx hb dX11_number_97 rfl ?_
            have hPc := hP.sub (ws' := []) [] rfl
            refine nv_cp1 (va_runS (As := [.long ((nI (nvF ta (blk ta tnQ cu) (dcF ta tnQ (blk ta tnQ cu)))).toInt64), .long 1, .long ((nI hiQ).toInt64)]) (rest := []) ⟨hx, hb, hml, hown, hts⟩ (c_X11_in l D z ((nI (nvF ta (blk ta tnQ cu) (dcF ta tnQ (blk ta tnQ cu)))).toInt64) 1 ((nI hiQ).toInt64) ) (va_cwS 3 hts (gS m_539 m_540 m_541 m_536) rfl rfl rfl hd_X11_in ⟨Nat.le_of_ble_eq_true rfl, Nat.le_of_ble_eq_true rfl⟩) (nv_preP hK hPc trivial _) rfl rfl hl.1 rfl (lv_room (Nat.le_of_ble_eq_true rfl)) dX11_number_98 ⟨by decide, by decide⟩) ?_
            refine nv_innl (a := 1) (b := hiQ) (by omega) (by decide) (nv_lw (by omega)) ?_
            refine nv_bne (tgt := 109) hx hb dX11_number_101 (by decide) (fun hc101 => ?_) (fun hc101 => ?_)
            · obtain ⟨e1, e2⟩ := hmu.1 ⟨by omega, by omega⟩
              obtain rfl := e1.symm
              obtain rfl := e2.symm
              refine lv_iload_n hx hb dX11_number_109 rfl (lv_at hl 3 rfl) ?_
              exact nv_mi hx hb hr hlocks hS dX11_number_110 hP trivial rfl
            · refine lv_aload_n hx hb dX11_number_104 rfl (lv_at hl 0 rfl) ?_
              refine lv_iload_n hx hb dX11_number_105 rfl (lv_at hl 2 rfl) ?_
              have hPc := hP.sub (ws' := [(o, .inr (11, [.ref qj, .ref qt, .ref qf, .ref qp, .int (nI un), .ref qk, .ref qq, .int (nI ku), .int (nI ik), .ref qa, .int (nI tnQ), .int (nI th), .int (nI la), .int (nI wo), .int (nI (blk ta tnQ cu + (dcF ta tnQ (blk ta tnQ cu)))), .int (nI fa), .int (nI fat), .ref qs, .ref ql, .ref qm, .ref qi, .ref qe]))]) [0] rfl
              have hDc := hD.sub (ws' := [(o, .inr (11, [.ref qj, .ref qt, .ref qf, .ref qp, .int (nI un), .ref qk, .ref qq, .int (nI ku), .int (nI ik), .ref qa, .int (nI tnQ), .int (nI th), .int (nI la), .int (nI wo), .int (nI (blk ta tnQ cu + (dcF ta tnQ (blk ta tnQ cu)))), .int (nI fa), .int (nI fat), .ref qs, .ref ql, .ref qm, .ref qi, .ref qe]))]) [0] (by decide) rfl
              refine nv_cm0 (wc := [(o, .inr (11, [.ref qj, .ref qt, .ref qf, .ref qp, .int (nI un), .ref qk, .ref qq, .int (nI ku), .int (nI ik), .ref qa, .int (nI tnQ), .int (nI th), .int (nI la), .int (nI wo), .int (nI (blk ta tnQ cu + (dcF ta tnQ (blk ta tnQ cu)))), .int (nI fa), .int (nI fat), .ref qs, .ref ql, .ref qm, .ref qi, .ref qe]))]) (wr := [aN z qa 60 ta]) (w1 := [(o, .inr (11, [.ref qj, .ref qt, .ref qf, .ref qp, .int (nI un), .ref qk, .ref qq, .int (nI ku), .int (nI ik), .ref qa, .int (nI tnQ), .int (nI th), .int (nI la), .int (nI wo), .int (nI (blk ta tnQ cu + (dcF ta tnQ (blk ta tnQ cu)))), .int (nI 1), .int (nI (baF fa fat (blk ta tnQ cu))), .ref qs, .ref ql, .ref qm, .ref qi, .ref qe]))]) (ws1 := [(o, .inr (11, [.ref qj, .ref qt, .ref qf, .ref qp, .int (nI un), .ref qk, .ref qq, .int (nI ku), .int (nI ik), .ref qa, .int (nI tnQ), .int (nI th), .int (nI la), .int (nI wo), .int (nI (blk ta tnQ cu + (dcF ta tnQ (blk ta tnQ cu)))), .int (nI 1), .int (nI (baF fa fat (blk ta tnQ cu))), .ref qs, .ref ql, .ref qm, .ref qi, .ref qe])), aN z qa 60 ta]) (va_runV (As := [.int (nI (blk ta tnQ cu))]) (rest := []) ⟨hx, hb, hml, hown, hts⟩ (c_X11_bad l D z H.size o qj qt qf qp qk qq qa qs ql qm qi qe un ku ik tnQ th la wo (blk ta tnQ cu + (dcF ta tnQ (blk ta tnQ cu))) fa fat (blk ta tnQ cu) (by first | assumption | omega)) (cwV 1 hts (gV m_607 m_608 m_609 m_541 m_596) rfl rfl rfl ⟨rfl, hd_X11_bad⟩ ⟨Nat.le_of_ble_eq_true rfl, Nat.le_of_ble_eq_true rfl⟩) (nv_preMV (ci := 11) (q0 := 0) hK hPc hDc trivial rfl rfl) rfl rfl hl.1 rfl (lv_room (Nat.le_of_ble_eq_true rfl)) dX11_number_106 ⟨by decide, by decide⟩) hP hD hS hA [0] [1] [1, 0] rfl rfl (by decide) (by decide) rfl (by decide) rfl (by decide) (fun H locs hP hD hS hE106 hz106 hf106 => ?_)
              clear hPc hDc
              clear hf106 hz106
              obtain ⟨rfl, rfl⟩ := hmu.2 (fun q9 => by first | (have h7 := q9.1; rw [hnu, show dcF ta tnQ (blk ta tnQ cu) = 0 by omega] at h7; exact absurd h7 (by show ¬ 1 ≤ 0; omega)) | (have h7 := q9.1; have h8 := q9.2; omega))
              refine lv_iload_n hx hb dX11_number_109 rfl (lv_at hl 3 rfl) ?_
              exact nv_mi hx hb hr hlocks hS dX11_number_110 hP trivial rfl
        · refine lv_bipush (v := nI 10) hx hb dX11_number_54 (by decide +kernel) ?_
          refine lv_iload_n hx hb dX11_number_56 rfl (lv_at hl 3 rfl) ?_
          refine nv_mul hx hb dX11_number_57 ?_
          refine lv_aload_n hx hb dX11_number_58 rfl (lv_at hl 0 rfl) ?_
          refine va_get (D := D) (ci := 11) (v := .ref qa) (C := RX11) (T := TX11) (N := 22) hx hb hts iX11 hown hK.1 hP 0 rfl rfl 9 (by decide) (hts _ m_529) (fun _ h9 => h9) rfl dX11_number_59 ?_
          refine lv_aload_n hx hb dX11_number_62 rfl (lv_at hl 0 rfl) ?_
          refine va_get (D := D) (ci := 11) (v := .int (nI (blk ta tnQ cu + dq))) (C := RX11) (T := TX11) (N := 22) hx hb hts iX11 hown hK.1 hP 0 rfl rfl 14 (by decide) (hts _ m_595) (fun _ h9 => h9) rfl dX11_number_63 ?_
          refine nv_ald hx hb hK hP 1 rfl (by omega) (by decide) dX11_number_66 ?_
          refine nv_add hx hb dX11_number_67 ?_
          refine lv_bipush (v := nI 48) hx hb dX11_number_68 (by decide +kernel) ?_
          refine nv_sub hx hb (by omega) dX11_number_70 ?_
          refine lv_istore_n (lv' := [(3, .int (nI ((10 * (nvF ta (blk ta tnQ cu) dq) + (ta (blk ta tnQ cu + dq))) - 48))), (0, .ref o), (1, .int (nI hiQ)), (2, .int (nI (blk ta tnQ cu)))]) hx hb dX11_number_71 rfl hl (by decide) rfl (fun ls hl => ?_)
          refine lv_aload_n hx hb dX11_number_72 rfl (lv_at hl 1 rfl) ?_
          refine lv_dup hx hb dX11_number_73 rfl ?_
          refine va_get (D := D) (ci := 11) (v := .int (nI (blk ta tnQ cu + dq))) (C := RX11) (T := TX11) (N := 22) hx hb hts iX11 hown hK.1 hP 0 rfl rfl 14 (by decide) (hts _ m_595) (fun _ h9 => h9) rfl dX11_number_74 ?_
          refine lv_iconst (v := nI 1) hx hb dX11_number_77 (by decide +kernel) ?_
          refine nv_add hx hb dX11_number_78 ?_
          refine va_put (D := D) (ci := 11) (v := .int (nI (blk ta tnQ cu + dq + 1))) (ty := tyX11 14) (C := RX11) (T := TX11) (N := 22) hx hb hts iX11 tyX11 tyX11_ok nmX11 hown hK.1 hP hD hS 0 rfl rfl 14 (by decide) (hts _ m_595) (fun _ h9 => h9) rfl (tyX11_ok 14 (by decide)) rfl rfl (Nat.le_of_ble_eq_true rfl) dX11_number_79 (fun H locs hP hD hS => ?_)
          have hP : va_P D vwCl [(o, .inr (11, [.ref qj, .ref qt, .ref qf, .ref qp, .int (nI un), .ref qk, .ref qq, .int (nI ku), .int (nI ik), .ref qa, .int (nI tnQ), .int (nI th), .int (nI la), .int (nI wo), .int (nI (blk ta tnQ cu + dq + 1)), .int (nI fa), .int (nI fat), .ref qs, .ref ql, .ref qm, .ref qi, .ref qe])), aN z qa 60 ta] H := hP
          have hD : va_D A [(o, .inr (11, [.ref qj, .ref qt, .ref qf, .ref qp, .int (nI un), .ref qk, .ref qq, .int (nI ku), .int (nI ik), .ref qa, .int (nI tnQ), .int (nI th), .int (nI la), .int (nI wo), .int (nI (blk ta tnQ cu + dq + 1)), .int (nI fa), .int (nI fat), .ref qs, .ref ql, .ref qm, .ref qi, .ref qe])), aN z qa 60 ta] := hD
          refine lv_goto (tgt := 11) hx hb dX11_number_82 (by decide) ?_
          exact ih11 (dq + 1) _ _ _ (by omega) ⟨dq + 1, rfl, ⟨(by omega), (fun i hi9 => (Nat.lt_succ_iff_lt_or_eq.mp hi9).elim (hdg i) (fun e9 => by rw [e9]; exact ⟨by omega, by omega, by omega⟩))⟩, hP, hD, hS, lv_sub hl [1, 2, 3, 0] rfl⟩
  · exact ⟨0, rfl, ⟨(by omega), (fun i hi9 => absurd hi9 (Nat.not_lt_zero _))⟩, hP, hD, hS, lv_sub hl [2, 3, 1, 0] rfl⟩

set_option maxHeartbeats 4000000 in
set_option maxRecDepth 100000 in
theorem c_X11_kindBy (l : Launch) (D : va_G) (z : Nat → ClassId) (sz : Nat) (o : Nat) (qj : Nat) (qt : Nat) (qf : Nat) (qp : Nat) (qk : Nat) (qq : Nat) (qa : Nat) (qs : Nat) (ql : Nat) (qm : Nat) (qi : Nat) (qe : Nat) (un : Nat) (ku : Nat) (ik : Nat) (tnQ : Nat) (th : Nat) (la : Nat) (wo : Nat) (cu : Nat) (fa : Nat) (fat : Nat) (ta : Nat → Nat) (htp : tOK ta tnQ) (hcu : cu < 2000) : CM l yX11_kindBy cX11_kindBy 2 (some .int) 1 20 0 0 [.ref o] D z [(o, .inr (11, [.ref qj, .ref qt, .ref qf, .ref qp, .int (nI un), .ref qk, .ref qq, .int (nI ku), .int (nI ik), .ref qa, .int (nI tnQ), .int (nI th), .int (nI la), .int (nI wo), .int (nI cu), .int (nI fa), .int (nI fat), .ref qs, .ref ql, .ref qm, .ref qi, .ref qe])), aN z qa 60 ta] sz (fun _ => True) [(o, .inr (11, [.ref qj, .ref qt, .ref qf, .ref qp, .int (nI un), .ref qk, .ref qq, .int (nI ku), .int (nI ik), .ref qa, .int (nI tnQ), .int (nI th), .int (nI la), .int (nI wo), .int (nI (blk ta tnQ cu)), .int (nI fa), .int (nI fat), .ref qs, .ref ql, .ref qm, .ref qi, .ref qe])), aN z qa 60 ta] (some (.int (nI (kdF (chA ta tnQ cu))))) (fun _ => True) := by
  refine Met.ofW (cc := cX11_kindBy) (maxL := 2) (ret := (some .int)) (by decide) rfl ?_
  intro pg e s m args below meth c s₁ B hml hv
  obtain ⟨rfl, hsz, hP, hK, hD0, hE⟩ := hv
  have hx := B.exec
  have hb := B.bytes
  have hr := B.returns
  have hts : ∀ w ∈ ALL, w.before _ s = true := fun w h => atoms_spec (ws := wA yX11_kindBy cX11_kindBy 2 (some .int)) B.pre w (List.mem_cons_of_mem _ h)
  have hown : s.vm.findClass RX11 = some m.cls := findClass_of_methodNamed B.named
  have hlocks := B.notSynchronized
  subst hsz
  have hD := hD0.self (sz := s.heap.size)
  have htn := htp.1
  have hbl := blk_le ta tnQ cu
  have hlt : ∀ i, i < tnQ → ta i < 128 := fun i hiQ => by have := htp.2 i hiQ; omega
  have hca : chA ta tnQ cu < 128 := by
    unfold chA
    split
    · exact hlt _ (by assumption)
    · omega
  have hA : ∀ q : Nat, s.heap.size ≤ q → va_A [(o, .inr (11, [.ref qj, .ref qt, .ref qf, .ref qp, .int (nI un), .ref qk, .ref qq, .int (nI ku), .int (nI ik), .ref qa, .int (nI tnQ), .int (nI th), .int (nI la), .int (nI wo), .int (nI cu), .int (nI fa), .int (nI fat), .ref qs, .ref ql, .ref qm, .ref qi, .ref qe])), aN z qa 60 ta] s.heap.size q := fun q h => Or.inr h
  generalize va_A [(o, .inr (11, [.ref qj, .ref qt, .ref qf, .ref qp, .int (nI un), .ref qk, .ref qq, .int (nI ku), .int (nI ik), .ref qa, .int (nI tnQ), .int (nI th), .int (nI la), .int (nI wo), .int (nI cu), .int (nI fa), .int (nI fat), .ref qs, .ref ql, .ref qm, .ref qi, .ref qe])), aN z qa 60 ta] s.heap.size = A at *
  have hS : va_S A s.heap s.heap [] := va_S.rf
  have hl := lv_entry ([.ref o]) (n := 2) (Nat.le_of_ble_eq_true rfl)
  rw [lg_entry_eq]
  generalize (lg_sl ([.ref o]) ++ List.replicate (2 - (lg_sl ([.ref o])).length) Slot.unset).toArray = ls at hl ⊢
  have hl : lv_has ls 2 [(0, .ref o)] := hl
  refine lv_aload_n hx hb dX11_kindBy_0 rfl (lv_at hl 0 rfl) ?_
  have hPc := hP.sub (ws' := [(o, .inr (11, [.ref qj, .ref qt, .ref qf, .ref qp, .int (nI un), .ref qk, .ref qq, .int (nI ku), .int (nI ik), .ref qa, .int (nI tnQ), .int (nI th), .int (nI la), .int (nI wo), .int (nI cu), .int (nI fa), .int (nI fat), .ref qs, .ref ql, .ref qm, .ref qi, .ref qe])), aN z qa 60 ta]) [0, 1] rfl
  have hDc := hD.sub (ws' := [(o, .inr (11, [.ref qj, .ref qt, .ref qf, .ref qp, .int (nI un), .ref qk, .ref qq, .int (nI ku), .int (nI ik), .ref qa, .int (nI tnQ), .int (nI th), .int (nI la), .int (nI wo), .int (nI cu), .int (nI fa), .int (nI fat), .ref qs, .ref ql, .ref qm, .ref qi, .ref qe])), aN z qa 60 ta]) [0, 1] (by decide) rfl
  refine nv_cm0 (wc := [(o, .inr (11, [.ref qj, .ref qt, .ref qf, .ref qp, .int (nI un), .ref qk, .ref qq, .int (nI ku), .int (nI ik), .ref qa, .int (nI tnQ), .int (nI th), .int (nI la), .int (nI wo), .int (nI cu), .int (nI fa), .int (nI fat), .ref qs, .ref ql, .ref qm, .ref qi, .ref qe])), aN z qa 60 ta]) (wr := []) (w1 := [(o, .inr (11, [.ref qj, .ref qt, .ref qf, .ref qp, .int (nI un), .ref qk, .ref qq, .int (nI ku), .int (nI ik), .ref qa, .int (nI tnQ), .int (nI th), .int (nI la), .int (nI wo), .int (nI (blk ta tnQ cu)), .int (nI fa), .int (nI fat), .ref qs, .ref ql, .ref qm, .ref qi, .ref qe])), aN z qa 60 ta]) (ws1 := [(o, .inr (11, [.ref qj, .ref qt, .ref qf, .ref qp, .int (nI un), .ref qk, .ref qq, .int (nI ku), .int (nI ik), .ref qa, .int (nI tnQ), .int (nI th), .int (nI la), .int (nI wo), .int (nI (blk ta tnQ cu)), .int (nI fa), .int (nI fat), .ref qs, .ref ql, .ref qm, .ref qi, .ref qe])), aN z qa 60 ta]) (va_runV (As := []) (rest := []) ⟨hx, hb, hml, hown, hts⟩ (c_X11_blanks l D z s.heap.size o qj qt qf qp qk qq qa qs ql qm qi qe un ku ik tnQ th la wo cu fa fat ta (by first | assumption | omega) (by first | assumption | omega)) (cwV 0 hts (gV m_600 m_601 m_602 m_541 m_594) rfl rfl rfl ⟨rfl, hd_X11_blanks⟩ ⟨Nat.le_of_ble_eq_true rfl, Nat.le_of_ble_eq_true rfl⟩) (nv_preMV (ci := 11) (q0 := 0) hK hPc hDc trivial rfl rfl) rfl rfl hl.1 rfl (lv_room (Nat.le_of_ble_eq_true rfl)) dX11_kindBy_1 ⟨by decide, by decide⟩) hP hD hS hA [0, 1] [] [0, 1] rfl rfl (by decide) (by decide) rfl (by decide) rfl (by decide) (fun H locs hP hD hS hE1 hz1 hf1 => ?_)
  clear hPc hDc
  clear hf1 hz1
  refine lv_aload_n hx hb dX11_kindBy_4 rfl (lv_at hl 0 rfl) ?_
  refine va_get (D := D) (ci := 11) (v := .int (nI (blk ta tnQ cu))) (C := RX11) (T := TX11) (N := 22) hx hb hts iX11 hown hK.1 hP 0 rfl rfl 14 (by decide) (hts _ m_595) (fun _ h9 => h9) rfl dX11_kindBy_5 ?_
  refine lv_aload_n hx hb dX11_kindBy_8 rfl (lv_at hl 0 rfl) ?_
  refine va_get (D := D) (ci := 11) (v := .int (nI tnQ)) (C := RX11) (T := TX11) (N := 22) hx hb hts iX11 hown hK.1 hP 0 rfl rfl 10 (by decide) (hts _ m_593) (fun _ h9 => h9) rfl dX11_kindBy_9 ?_
  refine nv_join (g2 := F0 m 28 ls [.int (nI (chA ta tnQ cu))]) (fun J1 => ?_) ?_
  · refine nv_ge (tgt := 27) hx hb (by omega) (by omega) dX11_kindBy_12 (by decide) (fun hc12 => ?_) (fun hc12 => ?_)
    · refine lv_iconst (v := nI 0) hx hb dX11_kindBy_27 (by decide +kernel) ?_
      have q9 : 0 = chA ta tnQ cu := by unfold chA; split <;> first | rfl | omega
      exact W.eq (congrArg (fun x9 => F0 m 28 ls (.int (nI x9) :: [])) q9) J1
    · refine lv_aload_n hx hb dX11_kindBy_15 rfl (lv_at hl 0 rfl) ?_
      refine va_get (D := D) (ci := 11) (v := .ref qa) (C := RX11) (T := TX11) (N := 22) hx hb hts iX11 hown hK.1 hP 0 rfl rfl 9 (by decide) (hts _ m_529) (fun _ h9 => h9) rfl dX11_kindBy_16 ?_
      refine lv_aload_n hx hb dX11_kindBy_19 rfl (lv_at hl 0 rfl) ?_
      refine va_get (D := D) (ci := 11) (v := .int (nI (blk ta tnQ cu))) (C := RX11) (T := TX11) (N := 22) hx hb hts iX11 hown hK.1 hP 0 rfl rfl 14 (by decide) (hts _ m_595) (fun _ h9 => h9) rfl dX11_kindBy_20 ?_
      refine nv_ald hx hb hK hP 1 rfl (by omega) (by decide) dX11_kindBy_23 ?_
      refine lv_goto (tgt := 28) hx hb dX11_kindBy_24 (by decide) ?_
      have q9 : (ta (blk ta tnQ cu)) = chA ta tnQ cu := by unfold chA; split <;> first | rfl | omega
      exact W.eq (congrArg (fun x9 => F0 m 28 ls (.int (nI x9) :: [])) q9) J1
  · refine lv_istore_n (lv' := [(1, .int (nI (chA ta tnQ cu))), (0, .ref o)]) hx hb dX11_kindBy_28 rfl hl (by decide) rfl (fun ls hl => ?_)
    refine lv_iload_n hx hb dX11_kindBy_29 rfl (lv_at hl 0 rfl) ?_
    refine lv_bipush (v := nI 112) hx hb dX11_kindBy_30 (by decide +kernel) ?_
    refine nv_ne (tgt := 39) hx hb (by omega) (by omega) dX11_kindBy_32 (by decide) (fun hc32 => ?_) (fun hc32 => ?_)
    · refine lv_iload_n hx hb dX11_kindBy_39 rfl (lv_at hl 0 rfl) ?_
      refine lv_bipush (v := nI 98) hx hb dX11_kindBy_40 (by decide +kernel) ?_
      refine nv_ne (tgt := 49) hx hb (by omega) (by omega) dX11_kindBy_42 (by decide) (fun hc42 => ?_) (fun hc42 => ?_)
      · refine lv_iload_n hx hb dX11_kindBy_49 rfl (lv_at hl 0 rfl) ?_
        refine lv_bipush (v := nI 103) hx hb dX11_kindBy_50 (by decide +kernel) ?_
        refine nv_ne (tgt := 59) hx hb (by omega) (by omega) dX11_kindBy_52 (by decide) (fun hc52 => ?_) (fun hc52 => ?_)
        · refine lv_iload_n hx hb dX11_kindBy_59 rfl (lv_at hl 0 rfl) ?_
          refine lv_bipush (v := nI 104) hx hb dX11_kindBy_60 (by decide +kernel) ?_
          refine nv_ne (tgt := 69) hx hb (by omega) (by omega) dX11_kindBy_62 (by decide) (fun hc62 => ?_) (fun hc62 => ?_)
          · refine lv_iload_n hx hb dX11_kindBy_69 rfl (lv_at hl 0 rfl) ?_
            refine lv_bipush (v := nI 115) hx hb dX11_kindBy_70 (by decide +kernel) ?_
            refine nv_ne (tgt := 79) hx hb (by omega) (by omega) dX11_kindBy_72 (by decide) (fun hc72 => ?_) (fun hc72 => ?_)
            · refine lv_iload_n hx hb dX11_kindBy_79 rfl (lv_at hl 0 rfl) ?_
              refine lv_bipush (v := nI 99) hx hb dX11_kindBy_80 (by decide +kernel) ?_
              refine nv_ne (tgt := 89) hx hb (by omega) (by omega) dX11_kindBy_82 (by decide) (fun hc82 => ?_) (fun hc82 => ?_)
              · refine lv_bipush (v := (-4)) hx hb dX11_kindBy_89 (by decide +kernel) ?_
                exact nv_mi hx hb hr hlocks hS dX11_kindBy_91 hP trivial (by unfold kdF; (repeat first | rw [if_pos (by assumption)] | rw [if_neg (by assumption)]) <;> first | rfl | decide +kernel)
              · refine lv_iconst (v := nI 5) hx hb dX11_kindBy_85 (by decide +kernel) ?_
                refine lv_goto (tgt := 91) hx hb dX11_kindBy_86 (by decide) ?_
                exact nv_mi hx hb hr hlocks hS dX11_kindBy_91 hP trivial (by unfold kdF; (repeat first | rw [if_pos (by assumption)] | rw [if_neg (by assumption)]) <;> first | rfl | decide +kernel)
            · refine lv_iconst (v := nI 4) hx hb dX11_kindBy_75 (by decide +kernel) ?_
              refine lv_goto (tgt := 91) hx hb dX11_kindBy_76 (by decide) ?_
              exact nv_mi hx hb hr hlocks hS dX11_kindBy_91 hP trivial (by unfold kdF; (repeat first | rw [if_pos (by assumption)] | rw [if_neg (by assumption)]) <;> first | rfl | decide +kernel)
          · refine lv_iconst (v := nI 3) hx hb dX11_kindBy_65 (by decide +kernel) ?_
            refine lv_goto (tgt := 91) hx hb dX11_kindBy_66 (by decide) ?_
            exact nv_mi hx hb hr hlocks hS dX11_kindBy_91 hP trivial (by unfold kdF; (repeat first | rw [if_pos (by assumption)] | rw [if_neg (by assumption)]) <;> first | rfl | decide +kernel)
        · refine lv_iconst (v := nI 2) hx hb dX11_kindBy_55 (by decide +kernel) ?_
          refine lv_goto (tgt := 91) hx hb dX11_kindBy_56 (by decide) ?_
          exact nv_mi hx hb hr hlocks hS dX11_kindBy_91 hP trivial (by unfold kdF; (repeat first | rw [if_pos (by assumption)] | rw [if_neg (by assumption)]) <;> first | rfl | decide +kernel)
      · refine lv_iconst (v := nI 1) hx hb dX11_kindBy_45 (by decide +kernel) ?_
        refine lv_goto (tgt := 91) hx hb dX11_kindBy_46 (by decide) ?_
        exact nv_mi hx hb hr hlocks hS dX11_kindBy_91 hP trivial (by unfold kdF; (repeat first | rw [if_pos (by assumption)] | rw [if_neg (by assumption)]) <;> first | rfl | decide +kernel)
    · refine lv_iconst (v := nI 0) hx hb dX11_kindBy_35 (by decide +kernel) ?_
      refine lv_goto (tgt := 91) hx hb dX11_kindBy_36 (by decide) ?_
      exact nv_mi hx hb hr hlocks hS dX11_kindBy_91 hP trivial (by unfold kdF; (repeat first | rw [if_pos (by assumption)] | rw [if_neg (by assumption)]) <;> first | rfl | decide +kernel)
