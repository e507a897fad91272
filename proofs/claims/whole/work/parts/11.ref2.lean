def lyF (r f : Nat → Nat) : Nat → (Nat → Nat)
  | 0 => f
  | n + 1 => uN (lyF r f n) n (r n)
theorem lyF_at (r f : Nat → Nat) (n j : Nat) : lyF r f n j = if j < n then r j else f j := by
  induction n with
  | zero => rw [if_neg (Nat.not_lt_zero _)]; rfl
  | succ n ih =>
    show uN (lyF r f n) n (r n) j = _
    by_cases h : j = n
    · subst h; rw [uN_s, if_pos (by omega)]
    · rw [uN_n _ h, ih]
      by_cases h2 : j < n
      · rw [if_pos h2, if_pos (by omega)]
      · rw [if_neg h2, if_neg (by omega)]

set_option maxHeartbeats 4000000 in
set_option maxRecDepth 100000 in
theorem c_X11_lay (l : Launch) (D : va_G) (z : Nat → ClassId) (sz : Nat) (aQ : Nat) (bQ : Nat) (rQ : Nat → Nat) (fQ : Nat → Nat)  : CM l yX11_lay cX11_lay 3 none 0 0 0 0 [.ref aQ, .ref bQ] D z [aN z aQ 31 rQ, aN z bQ 31 fQ] sz (fun _ => True) [aN z aQ 31 rQ, aN z bQ 31 rQ] none (fun _ => True) := by
  refine Met.ofW (cc := cX11_lay) (maxL := 3) (ret := none) (by decide) rfl ?_
  intro pg e s m args below meth c s₁ B hml hv
  obtain ⟨rfl, hsz, hP, hK, hD0, hE⟩ := hv
  have hx := B.exec
  have hb := B.bytes
  have hr := B.returns
  have hts : ∀ w ∈ ALL, w.before _ s = true := fun w h => atoms_spec (ws := wA yX11_lay cX11_lay 3 none) B.pre w (List.mem_cons_of_mem _ h)
  have hown : s.vm.findClass RX11 = some m.cls := findClass_of_methodNamed B.named
  have hlocks := B.notSynchronized
  subst hsz
  have hD := hD0.self (sz := s.heap.size)
  have hA : ∀ q : Nat, s.heap.size ≤ q → va_A [aN z aQ 31 rQ, aN z bQ 31 fQ] s.heap.size q := fun q h => Or.inr h
  generalize va_A [aN z aQ 31 rQ, aN z bQ 31 fQ] s.heap.size = A at *
  have hS : va_S A s.heap s.heap [] := va_S.rf
  have hl := lv_entry ([.ref aQ, .ref bQ]) (n := 3) (Nat.le_of_ble_eq_true rfl)
  rw [lg_entry_eq]
  generalize (lg_sl ([.ref aQ, .ref bQ]) ++ List.replicate (3 - (lg_sl ([.ref aQ, .ref bQ])).length) Slot.unset).toArray = ls at hl ⊢
  have hl : lv_has ls 3 [(0, .ref aQ), (1, .ref bQ)] := hl
  refine lv_iconst (v := nI 0) hx hb dX11_lay_0 (by decide +kernel) ?_
  refine lv_istore_n (lv' := [(2, .int (nI 0)), (0, .ref aQ), (1, .ref bQ)]) hx hb dX11_lay_1 rfl hl (by decide) rfl (fun ls hl => ?_)
  refine nv_loop (σ := Nat) (fun x H locs ls => ∃ (jQ : Nat), jQ = x ∧ ((jQ ≤ 31)) ∧ va_P D vwCl [aN z aQ 31 rQ, aN z bQ 31 (lyF rQ fQ jQ)] H ∧ va_D A [aN z aQ 31 rQ, aN z bQ 31 (lyF rQ fQ jQ)] ∧ va_S A s.heap H locs ∧ lv_has ls 3 [(0, .ref aQ), (1, .ref bQ), (2, .int (nI jQ))]) (fun x => 31 - x) 2 [] ?_ 0 ?_
  · rintro _ H locs ls ⟨jQ, rfl, hj, hP, hD, hS, hl⟩ ih2
    refine lv_iload_n hx hb dX11_lay_2 rfl (lv_at hl 2 rfl) ?_
    refine lv_bipush (v := nI 31) hx hb dX11_lay_3 (by decide +kernel) ?_
    refine nv_ge (tgt := 20) hx hb (by omega) (by omega) dX11_lay_5 (by decide) (fun hc5 => ?_) (fun hc5 => ?_)
    · obtain rfl : jQ = 31 := by omega
      exact nv_mv hx hb hr hlocks hS dX11_lay_20 (va_P.cg hP 1 rfl (fun i hiQ => by rw [lyF_at, if_pos hiQ])) trivial
    · refine lv_aload_n hx hb dX11_lay_8 rfl (lv_at hl 1 rfl) ?_
      refine lv_iload_n hx hb dX11_lay_9 rfl (lv_at hl 2 rfl) ?_
      refine lv_aload_n hx hb dX11_lay_10 rfl (lv_at hl 0 rfl) ?_
      refine lv_iload_n hx hb dX11_lay_11 rfl (lv_at hl 2 rfl) ?_
      refine nv_ald hx hb hK hP 0 rfl (by omega) (by decide) dX11_lay_12 ?_
      refine nv_ast hx hb hK hP hD hS 1 rfl (by omega) (by decide) dX11_lay_13 (fun H locs hP hD hS => ?_)
      have hP : va_P D vwCl [aN z aQ 31 rQ, aN z bQ 31 (uN (lyF rQ fQ jQ) jQ (rQ jQ))] H := hP
      have hD : va_D A [aN z aQ 31 rQ, aN z bQ 31 (uN (lyF rQ fQ jQ) jQ (rQ jQ))] := hD
      refine lv_iinc (v := nI (jQ + 1)) (lv' := [(2, .int (nI (jQ + 1))), (0, .ref aQ), (1, .ref bQ)]) hx hb dX11_lay_14 hl (k := 2) rfl (nI_inc _) (by decide) rfl (fun ls hl => ?_)
      refine lv_goto (tgt := 2) hx hb dX11_lay_17 (by decide) ?_
      exact ih2 (jQ + 1) _ _ _ (by omega) ⟨jQ + 1, rfl, (by omega), hP, hD, hS, lv_sub hl [1, 2, 0] rfl⟩
  · exact ⟨0, rfl, (by omega), hP, hD, hS, lv_sub hl [1, 2, 0] rfl⟩

set_option maxHeartbeats 4000000 in
set_option maxRecDepth 100000 in
theorem c_X11_week (l : Launch) (D : va_G) (z : Nat → ClassId) (sz : Nat) (w0Q : Nat) (aQ : Nat) (rQ : Nat → Nat) (mo : Int32) (mm : Nat) (hok : rOK w0Q rQ) (hm : nI (rQ 3) + mo = nI mm) (hm2 : mm ≤ 11) (hw : w0Q ≤ 20000) : CM l yX11_week cX11_week 6 (some .int) 4 93 0 0 [.ref aQ, .int mo] D z [aN z aQ 31 rQ] sz (fun _ => True) [aN z aQ 31 (weekR rQ mm)] (some (.int (nI (weekW rQ mm)))) (fun _ => True) := by
  refine Met.ofW (cc := cX11_week) (maxL := 6) (ret := (some .int)) (by decide) rfl ?_
  intro pg e s m args below meth c s₁ B hml hv
  obtain ⟨rfl, hsz, hP, hK, hD0, hE⟩ := hv
  have hx := B.exec
  have hb := B.bytes
  have hr := B.returns
  have hts : ∀ w ∈ ALL, w.before _ s = true := fun w h => atoms_spec (ws := wA yX11_week cX11_week 6 (some .int)) B.pre w (List.mem_cons_of_mem _ h)
  have hown : s.vm.findClass RX11 = some m.cls := findClass_of_methodNamed B.named
  have hlocks := B.notSynchronized
  subst hsz
  have hD := hD0.self (sz := s.heap.size)
  obtain ⟨o0, o1, o1b, o2, o2b, o3, o4, o5, o6, oP⟩ := id hok
  have hb6 := hbF_le rQ
  have hap := apF_le (r := rQ) (mm + hbF rQ) (rQ 6) o2b
  have hA : ∀ q : Nat, s.heap.size ≤ q → va_A [aN z aQ 31 rQ] s.heap.size q := fun q h => Or.inr h
  generalize va_A [aN z aQ 31 rQ] s.heap.size = A at *
  have hS : va_S A s.heap s.heap [] := va_S.rf
  have hl := lv_entry ([.ref aQ, .int mo]) (n := 6) (Nat.le_of_ble_eq_true rfl)
  rw [lg_entry_eq]
  generalize (lg_sl ([.ref aQ, .int mo]) ++ List.replicate (6 - (lg_sl ([.ref aQ, .int mo])).length) Slot.unset).toArray = ls at hl ⊢
  have hl : lv_has ls 6 [(0, .ref aQ), (1, .int mo)] := hl
  refine lv_aload_n hx hb dX11_week_0 rfl (lv_at hl 0 rfl) ?_
  refine lv_iload_n hx hb dX11_week_1 rfl (lv_at hl 1 rfl) ?_
  have hPc := hP.sub (ws' := [aN z aQ 31 rQ]) [0] rfl
  refine nv_cp1 (va_runS (As := [.ref aQ, .int mo]) (rest := []) ⟨hx, hb, hml, hown, hts⟩ (c_X11_mishapsOf l D z w0Q aQ rQ mo mm (by first | assumption | omega) hm) (va_cwS 2 hts (gS m_561 m_562 m_541 m_547) rfl rfl rfl hd_X11_mishapsOf ⟨Nat.le_of_ble_eq_true rfl, Nat.le_of_ble_eq_true rfl⟩) (nv_preP hK hPc trivial _) rfl rfl hl.1 rfl (lv_room (Nat.le_of_ble_eq_true rfl)) dX11_week_2 ⟨by decide, by decide⟩) ?_
  refine lv_istore_n (lv' := [(2, .int (nI (mm + hbF rQ))), (0, .ref aQ), (1, .int mo)]) hx hb dX11_week_5 rfl hl (by decide) rfl (fun ls hl => ?_)
  refine lv_aload_n hx hb dX11_week_6 rfl (lv_at hl 1 rfl) ?_
  refine lv_iload_n hx hb dX11_week_7 rfl (lv_at hl 0 rfl) ?_
  have hPc := hP.sub (ws' := [aN z aQ 31 rQ]) [0] rfl
  refine nv_cp1 (va_runS (As := [.ref aQ, .int (nI (mm + hbF rQ))]) (rest := []) ⟨hx, hb, hml, hown, hts⟩ (c_X11_allWords l D z w0Q aQ rQ (mm + hbF rQ) (by first | assumption | omega) (by first | assumption | omega) (by first | assumption | omega)) (va_cwS 2 hts (gS m_563 m_564 m_541 m_559) rfl rfl rfl hd_X11_allWords ⟨Nat.le_of_ble_eq_true rfl, Nat.le_of_ble_eq_true rfl⟩) (nv_preP hK hPc trivial _) rfl rfl hl.1 rfl (lv_room (Nat.le_of_ble_eq_true rfl)) dX11_week_8 ⟨by decide, by decide⟩) ?_
  refine lv_istore_n (lv' := [(3, .int (nI (awF rQ (mm + hbF rQ) (rQ 6)))), (2, .int (nI (mm + hbF rQ))), (0, .ref aQ), (1, .int mo)]) hx hb dX11_week_11 rfl hl (by decide) rfl (fun ls hl => ?_)
  refine lv_aload_n hx hb dX11_week_12 rfl (lv_at hl 2 rfl) ?_
  refine lv_iconst (v := nI 0) hx hb dX11_week_13 (by decide +kernel) ?_
  refine nv_ald hx hb hK hP 0 rfl (by omega) (by decide) dX11_week_14 ?_
  refine lv_aload_n hx hb dX11_week_15 rfl (lv_at hl 2 rfl) ?_
  refine lv_iload_n hx hb dX11_week_16 rfl (lv_at hl 1 rfl) ?_
  have hPc := hP.sub (ws' := [aN z aQ 31 rQ]) [0] rfl
  refine nv_cp1 (va_runS (As := [.ref aQ, .int (nI (mm + hbF rQ))]) (rest := [.int (nI (rQ 0))]) ⟨hx, hb, hml, hown, hts⟩ (c_X11_allPay l D z w0Q aQ rQ (mm + hbF rQ) (by first | assumption | omega) (by first | assumption | omega) (by first | assumption | omega)) (va_cwS 2 hts (gS m_565 m_566 m_541 m_560) rfl rfl rfl hd_X11_allPay ⟨Nat.le_of_ble_eq_true rfl, Nat.le_of_ble_eq_true rfl⟩) (nv_preP hK hPc trivial _) rfl rfl hl.1 rfl (lv_room (Nat.le_of_ble_eq_true rfl)) dX11_week_17 ⟨by decide, by decide⟩) ?_
  refine nv_add hx hb dX11_week_20 ?_
  refine lv_istore (lv' := [(4, .int (nI (rQ 0 + (apF rQ (mm + hbF rQ) (rQ 6))))), (3, .int (nI (awF rQ (mm + hbF rQ) (rQ 6)))), (2, .int (nI (mm + hbF rQ))), (0, .ref aQ), (1, .int mo)]) hx hb dX11_week_21 hl (by decide) rfl (fun ls hl => ?_)
  refine lv_iconst (v := nI 0) hx hb dX11_week_23 (by decide +kernel) ?_
  refine lv_istore (lv' := [(5, .int (nI 0)), (4, .int (nI (rQ 0 + (apF rQ (mm + hbF rQ) (rQ 6))))), (3, .int (nI (awF rQ (mm + hbF rQ) (rQ 6)))), (2, .int (nI (mm + hbF rQ))), (0, .ref aQ), (1, .int mo)]) hx hb dX11_week_24 hl (by decide) rfl (fun ls hl => ?_)
  refine nv_loop (σ := Nat) (fun x H locs ls => ∃ (jQ : Nat), jQ = x ∧ ((jQ ≤ rQ 6)) ∧ va_P D vwCl [aN z aQ 31 (hrF rQ (mm + hbF rQ) jQ)] H ∧ va_D A [aN z aQ 31 (hrF rQ (mm + hbF rQ) jQ)] ∧ va_S A s.heap H locs ∧ lv_has ls 6 [(0, .ref aQ), (2, .int (nI (mm + hbF rQ))), (3, .int (nI (awF rQ (mm + hbF rQ) (rQ 6)))), (4, .int (nI (rQ 0 + apF rQ (mm + hbF rQ) (rQ 6)))), (5, .int (nI jQ))]) (fun x => rQ 6 - x) 26 [] ?_ 0 ?_
  · rintro _ H locs ls ⟨jQ, rfl, hj, hP, hD, hS, hl⟩ ih26
    refine lv_iload hx hb dX11_week_26 (lv_at hl 4 rfl) ?_
    refine lv_aload_n hx hb dX11_week_28 rfl (lv_at hl 0 rfl) ?_
    refine lv_bipush (v := nI 6) hx hb dX11_week_29 (by decide +kernel) ?_
    refine nv_ald hx hb hK hP 0 rfl (by omega) (by decide) dX11_week_31 ?_
    have h66 : hrF rQ (mm + hbF rQ) jQ 6 = rQ 6 := hrF_other _ _ _ 6 (fun p _ => by omega)
    refine nv_ge (tgt := 59) hx hb (by omega) (by omega) dX11_week_32 (by decide) (fun hc32 => ?_) (fun hc32 => ?_)
    · obtain rfl : jQ = rQ 6 := by omega
      refine lv_aload_n hx hb dX11_week_59 rfl (lv_at hl 0 rfl) ?_
      refine lv_iconst (v := nI 0) hx hb dX11_week_60 (by decide +kernel) ?_
      refine lv_iload hx hb dX11_week_61 (lv_at hl 3 rfl) ?_
      refine lv_sipush (v := nI 9999) hx hb dX11_week_63 (by decide +kernel) ?_
      refine nv_join (g2 := F0 m 77 ls [.int (nI (weP rQ (mm + hbF rQ))), .int (nI 0), .ref aQ]) (fun J1 => ?_) ?_
      · refine nv_le (tgt := 75) hx hb (by omega) (by omega) dX11_week_66 (by decide) (fun hc66 => ?_) (fun hc66 => ?_)
        · refine lv_iload hx hb dX11_week_75 (lv_at hl 3 rfl) ?_
          have q9 : (rQ 0 + apF rQ (mm + hbF rQ) (rQ 6)) = weP rQ (mm + hbF rQ) := by unfold weP; split <;> first | rfl | omega
          exact W.eq (congrArg (fun x9 => F0 m 77 ls (.int (nI x9) :: [.int (nI 0), .ref aQ])) q9) J1
        · refine lv_sipush (v := nI 9999) hx hb dX11_week_69 (by decide +kernel) ?_
          refine lv_goto (tgt := 77) hx hb dX11_week_72 (by decide) ?_
          have q9 : 9999 = weP rQ (mm + hbF rQ) := by unfold weP; split <;> first | rfl | omega
          exact W.eq (congrArg (fun x9 => F0 m 77 ls (.int (nI x9) :: [.int (nI 0), .ref aQ])) q9) J1
      · refine nv_ast hx hb hK hP hD hS 0 rfl (by omega) (by decide) dX11_week_77 (fun H locs hP hD hS => ?_)
        have hP : va_P D vwCl [aN z aQ 31 (uN (hrF rQ (mm + hbF rQ) (rQ 6)) 0 (weP rQ (mm + hbF rQ)))] H := hP
        have hD : va_D A [aN z aQ 31 (uN (hrF rQ (mm + hbF rQ) (rQ 6)) 0 (weP rQ (mm + hbF rQ)))] := hD
        refine lv_aload_n hx hb dX11_week_78 rfl (lv_at hl 0 rfl) ?_
        refine lv_iconst (v := nI 4) hx hb dX11_week_79 (by decide +kernel) ?_
        refine lv_dup2_11 hx hb dX11_week_80 rfl rfl ?_
        refine nv_ald hx hb hK hP 0 rfl (by omega) (by decide) dX11_week_81 ?_
        refine lv_iconst (v := nI 1) hx hb dX11_week_82 (by decide +kernel) ?_
        refine nv_add hx hb dX11_week_83 ?_
        refine nv_ast hx hb hK hP hD hS 0 rfl (by omega) (by decide) dX11_week_84 (fun H locs hP hD hS => ?_)
        have hP : va_P D vwCl [aN z aQ 31 (uN (uN (hrF rQ (mm + hbF rQ) (rQ 6)) 0 (weP rQ (mm + hbF rQ))) 4 ((uN (hrF rQ (mm + hbF rQ) (rQ 6)) 0 (weP rQ (mm + hbF rQ))) 4 + 1))] H := hP
        have hD : va_D A [aN z aQ 31 (uN (uN (hrF rQ (mm + hbF rQ) (rQ 6)) 0 (weP rQ (mm + hbF rQ))) 4 ((uN (hrF rQ (mm + hbF rQ) (rQ 6)) 0 (weP rQ (mm + hbF rQ))) 4 + 1))] := hD
        refine lv_iload_n hx hb dX11_week_85 rfl (lv_at hl 2 rfl) ?_
        exact nv_mi hx hb hr hlocks hS dX11_week_86 hP trivial rfl
    · refine lv_aload_n hx hb dX11_week_35 rfl (lv_at hl 0 rfl) ?_
      refine lv_bipush (v := nI 7) hx hb dX11_week_36 (by decide +kernel) ?_
      refine lv_iconst (v := nI 4) hx hb dX11_week_38 (by decide +kernel) ?_
      refine lv_iload hx hb dX11_week_39 (lv_at hl 4 rfl) ?_
      refine nv_mul hx hb dX11_week_41 ?_
      refine nv_add hx hb dX11_week_42 ?_
      refine lv_iconst (v := nI 2) hx hb dX11_week_43 (by decide +kernel) ?_
      refine nv_add hx hb dX11_week_44 ?_
      refine lv_aload_n hx hb dX11_week_45 rfl (lv_at hl 0 rfl) ?_
      refine lv_iload hx hb dX11_week_46 (lv_at hl 4 rfl) ?_
      refine lv_iload_n hx hb dX11_week_48 rfl (lv_at hl 1 rfl) ?_
      have hPc := hP.sub (ws' := [aN z aQ 31 (hrF rQ (mm + hbF rQ) jQ)]) [0] rfl
      refine nv_cp1 (va_runS (As := [.ref aQ, .int (nI jQ), .int (nI (mm + hbF rQ))]) (rest := [.int (nI (7 + (4 * jQ) + 2)), .ref aQ]) ⟨hx, hb, hml, hown, hts⟩ (c_X11_habitThen l D z w0Q aQ (hrF rQ (mm + hbF rQ) jQ) jQ (mm + hbF rQ) (hrF_ok _ _ hok) (by rw [hrF_other _ _ _ 6 (fun p _ => by omega)]; omega) (by first | assumption | omega) (by first | assumption | omega)) (va_cwS 3 hts (gS m_567 m_568 m_541 m_556) rfl rfl rfl hd_X11_habitThen ⟨Nat.le_of_ble_eq_true rfl, Nat.le_of_ble_eq_true rfl⟩) (nv_preP hK hPc trivial _) rfl rfl hl.1 rfl (lv_room (Nat.le_of_ble_eq_true rfl)) dX11_week_49 ⟨by decide, by decide⟩) ?_
      refine nv_ast hx hb hK hP hD hS 0 rfl (by omega) (by decide) dX11_week_52 (fun H locs hP hD hS => ?_)
      have hP : va_P D vwCl [aN z aQ 31 (uN (hrF rQ (mm + hbF rQ) jQ) (7 + (4 * jQ) + 2) (haF (hrF rQ (mm + hbF rQ) jQ) jQ (mm + hbF rQ)))] H := hP
      have hD : va_D A [aN z aQ 31 (uN (hrF rQ (mm + hbF rQ) jQ) (7 + (4 * jQ) + 2) (haF (hrF rQ (mm + hbF rQ) jQ) jQ (mm + hbF rQ)))] := hD
      refine lv_iinc (v := nI (jQ + 1)) (lv' := [(5, .int (nI (jQ + 1))), (0, .ref aQ), (2, .int (nI (mm + hbF rQ))), (3, .int (nI (awF rQ (mm + hbF rQ) (rQ 6)))), (4, .int (nI (rQ 0 + apF rQ (mm + hbF rQ) (rQ 6))))]) hx hb dX11_week_53 hl (k := 4) rfl (nI_inc _) (by decide) rfl (fun ls hl => ?_)
      refine lv_goto (tgt := 26) hx hb dX11_week_56 (by decide) ?_
      rw [hrF_haF] at hP hD
      exact ih26 (jQ + 1) _ _ _ (by omega) ⟨jQ + 1, rfl, (by omega), hP, hD, hS, lv_sub hl [1, 2, 3, 4, 0] rfl⟩
  · exact ⟨0, rfl, (by omega), hP, hD, hS, lv_sub hl [4, 3, 2, 1, 0] rfl⟩

set_option maxHeartbeats 4000000 in
set_option maxRecDepth 100000 in
theorem c_X11_weeksOf (l : Launch) (D : va_G) (z : Nat → ClassId) (sz : Nat) (w0Q : Nat) (o : Nat) (qj : Nat) (qt : Nat) (qf : Nat) (qp : Nat) (qk : Nat) (qq : Nat) (qa : Nat) (qs : Nat) (ql : Nat) (qm : Nat) (qi : Nat) (qe : Nat) (un : Nat) (ku : Nat) (ik : Nat) (tnQ : Nat) (th : Nat) (la : Nat) (wo : Nat) (cu : Nat) (fa : Nat) (fat : Nat) (rQ : Nat → Nat) (nQ : Nat) (hok : rOK w0Q rQ) (hn : nQ ≤ 99) (hw : w0Q ≤ 10000) : CM l yX11_weeksOf cX11_weeksOf 3 none 5 118 0 0 [.ref o, .int (nI nQ)] D z [(o, .inr (11, [.ref qj, .ref qt, .ref qf, .ref qp, .int (nI un), .ref qk, .ref qq, .int (nI ku), .int (nI ik), .ref qa, .int (nI tnQ), .int (nI th), .int (nI la), .int (nI wo), .int (nI cu), .int (nI fa), .int (nI fat), .ref qs, .ref ql, .ref qm, .ref qi, .ref qe])), aN z qt 31 rQ] sz (fun _ => True) [(o, .inr (11, [.ref qj, .ref qt, .ref qf, .ref qp, .int (nI un), .ref qk, .ref qq, .int (nI ku), .int (nI ik), .ref qa, .int (nI tnQ), .int (nI th), .int (nI (laN rQ nQ)), .int (nI (suN rQ nQ)), .int (nI cu), .int (nI fa), .int (nI fat), .ref qs, .ref ql, .ref qm, .ref qi, .ref qe])), aN z qt 31 (wkN rQ nQ)] none (fun _ => True) := by
  refine Met.ofW (cc := cX11_weeksOf) (maxL := 3) (ret := none) (by decide) rfl ?_
  intro pg e s m args below meth c s₁ B hml hv
  obtain ⟨rfl, hsz, hP, hK, hD0, hE⟩ := hv
  have hx := B.exec
  have hb := B.bytes
  have hr := B.returns
  have hts : ∀ w ∈ ALL, w.before _ s = true := fun w h => atoms_spec (ws := wA yX11_weeksOf cX11_weeksOf 3 none) B.pre w (List.mem_cons_of_mem _ h)
  have hown : s.vm.findClass RX11 = some m.cls := findClass_of_methodNamed B.named
  have hlocks := B.notSynchronized
  subst hsz
  have hD := hD0.self (sz := s.heap.size)
  obtain ⟨o0, o1, o1b, o2, o2b, o3, o4, o5, o6, oP⟩ := id hok
  have hA : ∀ q : Nat, s.heap.size ≤ q → va_A [(o, .inr (11, [.ref qj, .ref qt, .ref qf, .ref qp, .int (nI un), .ref qk, .ref qq, .int (nI ku), .int (nI ik), .ref qa, .int (nI tnQ), .int (nI th), .int (nI la), .int (nI wo), .int (nI cu), .int (nI fa), .int (nI fat), .ref qs, .ref ql, .ref qm, .ref qi, .ref qe])), aN z qt 31 rQ] s.heap.size q := fun q h => Or.inr h
  generalize va_A [(o, .inr (11, [.ref qj, .ref qt, .ref qf, .ref qp, .int (nI un), .ref qk, .ref qq, .int (nI ku), .int (nI ik), .ref qa, .int (nI tnQ), .int (nI th), .int (nI la), .int (nI wo), .int (nI cu), .int (nI fa), .int (nI fat), .ref qs, .ref ql, .ref qm, .ref qi, .ref qe])), aN z qt 31 rQ] s.heap.size = A at *
  have hS : va_S A s.heap s.heap [] := va_S.rf
  have hl := lv_entry ([.ref o, .int (nI nQ)]) (n := 3) (Nat.le_of_ble_eq_true rfl)
  rw [lg_entry_eq]
  generalize (lg_sl ([.ref o, .int (nI nQ)]) ++ List.replicate (3 - (lg_sl ([.ref o, .int (nI nQ)])).length) Slot.unset).toArray = ls at hl ⊢
  have hl : lv_has ls 3 [(0, .ref o), (1, .int (nI nQ))] := hl
  refine lv_aload_n hx hb dX11_weeksOf_0 rfl (lv_at hl 0 rfl) ?_
  refine lv_iconst (v := nI 0) hx hb dX11_weeksOf_1 (by decide +kernel) ?_
  refine va_put (D := D) (ci := 11) (v := .int (nI 0)) (ty := tyX11 12) (C := RX11) (T := TX11) (N := 22) hx hb hts iX11 tyX11 tyX11_ok nmX11 hown hK.1 hP hD hS 0 rfl rfl 12 (by decide) (hts _ m_570) (fun _ h9 => h9) rfl (tyX11_ok 12 (by decide)) rfl rfl (Nat.le_of_ble_eq_true rfl) dX11_weeksOf_2 (fun H locs hP hD hS => ?_)
  have hP : va_P D vwCl [(o, .inr (11, [.ref qj, .ref qt, .ref qf, .ref qp, .int (nI un), .ref qk, .ref qq, .int (nI ku), .int (nI ik), .ref qa, .int (nI tnQ), .int (nI th), .int (nI 0), .int (nI wo), .int (nI cu), .int (nI fa), .int (nI fat), .ref qs, .ref ql, .ref qm, .ref qi, .ref qe])), aN z qt 31 rQ] H := hP
  have hD : va_D A [(o, .inr (11, [.ref qj, .ref qt, .ref qf, .ref qp, .int (nI un), .ref qk, .ref qq, .int (nI ku), .int (nI ik), .ref qa, .int (nI tnQ), .int (nI th), .int (nI 0), .int (nI wo), .int (nI cu), .int (nI fa), .int (nI fat), .ref qs, .ref ql, .ref qm, .ref qi, .ref qe])), aN z qt 31 rQ] := hD
  refine lv_aload_n hx hb dX11_weeksOf_5 rfl (lv_at hl 0 rfl) ?_
  refine lv_iconst (v := nI 0) hx hb dX11_weeksOf_6 (by decide +kernel) ?_
  refine va_put (D := D) (ci := 11) (v := .int (nI 0)) (ty := tyX11 13) (C := RX11) (T := TX11) (N := 22) hx hb hts iX11 tyX11 tyX11_ok nmX11 hown hK.1 hP hD hS 0 rfl rfl 13 (by decide) (hts _ m_571) (fun _ h9 => h9) rfl (tyX11_ok 13 (by decide)) rfl rfl (Nat.le_of_ble_eq_true rfl) dX11_weeksOf_7 (fun H locs hP hD hS => ?_)
  have hP : va_P D vwCl [(o, .inr (11, [.ref qj, .ref qt, .ref qf, .ref qp, .int (nI un), .ref qk, .ref qq, .int (nI ku), .int (nI ik), .ref qa, .int (nI tnQ), .int (nI th), .int (nI 0), .int (nI 0), .int (nI cu), .int (nI fa), .int (nI fat), .ref qs, .ref ql, .ref qm, .ref qi, .ref qe])), aN z qt 31 rQ] H := hP
  have hD : va_D A [(o, .inr (11, [.ref qj, .ref qt, .ref qf, .ref qp, .int (nI un), .ref qk, .ref qq, .int (nI ku), .int (nI ik), .ref qa, .int (nI tnQ), .int (nI th), .int (nI 0), .int (nI 0), .int (nI cu), .int (nI fa), .int (nI fat), .ref qs, .ref ql, .ref qm, .ref qi, .ref qe])), aN z qt 31 rQ] := hD
  refine lv_iconst (v := nI 0) hx hb dX11_weeksOf_10 (by decide +kernel) ?_
  refine lv_istore_n (lv' := [(2, .int (nI 0)), (0, .ref o), (1, .int (nI nQ))]) hx hb dX11_weeksOf_11 rfl hl (by decide) rfl (fun ls hl => ?_)
  refine nv_loop (σ := Nat) (fun x H locs ls => ∃ (jQ : Nat), jQ = x ∧ ((jQ ≤ nQ)) ∧ va_P D vwCl [(o, .inr (11, [.ref qj, .ref qt, .ref qf, .ref qp, .int (nI un), .ref qk, .ref qq, .int (nI ku), .int (nI ik), .ref qa, .int (nI tnQ), .int (nI th), .int (nI (laN rQ jQ)), .int (nI (suN rQ jQ)), .int (nI cu), .int (nI fa), .int (nI fat), .ref qs, .ref ql, .ref qm, .ref qi, .ref qe])), aN z qt 31 (wkN rQ jQ)] H ∧ va_D A [(o, .inr (11, [.ref qj, .ref qt, .ref qf, .ref qp, .int (nI un), .ref qk, .ref qq, .int (nI ku), .int (nI ik), .ref qa, .int (nI tnQ), .int (nI th), .int (nI (laN rQ jQ)), .int (nI (suN rQ jQ)), .int (nI cu), .int (nI fa), .int (nI fat), .ref qs, .ref ql, .ref qm, .ref qi, .ref qe])), aN z qt 31 (wkN rQ jQ)] ∧ va_S A s.heap H locs ∧ lv_has ls 3 [(0, .ref o), (1, .int (nI nQ)), (2, .int (nI jQ))]) (fun x => nQ - x) 12 [] ?_ 0 ?_
  · rintro _ H locs ls ⟨jQ, rfl, hj, hP, hD, hS, hl⟩ ih12
    refine lv_iload_n hx hb dX11_weeksOf_12 rfl (lv_at hl 2 rfl) ?_
    refine lv_iload_n hx hb dX11_weeksOf_13 rfl (lv_at hl 1 rfl) ?_
    refine nv_ge (tgt := 48) hx hb (by omega) (by omega) dX11_weeksOf_14 (by decide) (fun hc14 => ?_) (fun hc14 => ?_)
    · obtain rfl : nQ = jQ := by omega
      exact nv_mv hx hb hr hlocks hS dX11_weeksOf_48 hP trivial
    · refine lv_aload_n hx hb dX11_weeksOf_17 rfl (lv_at hl 0 rfl) ?_
      refine lv_aload_n hx hb dX11_weeksOf_18 rfl (lv_at hl 0 rfl) ?_
      refine va_get (D := D) (ci := 11) (v := .ref qt) (C := RX11) (T := TX11) (N := 22) hx hb hts iX11 hown hK.1 hP 0 rfl rfl 1 (by decide) (hts _ m_524) (fun _ h9 => h9) rfl dX11_weeksOf_19 ?_
      refine lv_iconst (v := nI 0) hx hb dX11_weeksOf_22 (by decide +kernel) ?_
      have hPc := hP.sub (ws' := [aN z qt 31 (wkN rQ jQ)]) [1] rfl
      have hDc := hD.sub (ws' := [aN z qt 31 (wkN rQ jQ)]) [1] (by decide) rfl
      refine nv_cm1 (wc := [aN z qt 31 (wkN rQ jQ)]) (wr := [(o, .inr (11, [.ref qj, .ref qt, .ref qf, .ref qp, .int (nI un), .ref qk, .ref qq, .int (nI ku), .int (nI ik), .ref qa, .int (nI tnQ), .int (nI th), .int (nI (laN rQ jQ)), .int (nI (suN rQ jQ)), .int (nI cu), .int (nI fa), .int (nI fat), .ref qs, .ref ql, .ref qm, .ref qi, .ref qe]))]) (w1 := [aN z qt 31 (weekR (wkN rQ jQ) (wkN rQ jQ 3))]) (ws1 := [(o, .inr (11, [.ref qj, .ref qt, .ref qf, .ref qp, .int (nI un), .ref qk, .ref qq, .int (nI ku), .int (nI ik), .ref qa, .int (nI tnQ), .int (nI th), .int (nI (laN rQ jQ)), .int (nI (suN rQ jQ)), .int (nI cu), .int (nI fa), .int (nI fat), .ref qs, .ref ql, .ref qm, .ref qi, .ref qe])), aN z qt 31 (weekR (wkN rQ jQ) (wkN rQ jQ 3))]) (va_runS (As := [.ref qt, .int (nI 0)]) (rest := [.ref o]) ⟨hx, hb, hml, hown, hts⟩ (c_X11_week l D z H.size (w0Q + jQ) qt (wkN rQ jQ) (nI 0) (wkN rQ jQ 3) (wkN_ok jQ hok) (nI_add _ 0) (by rw [wkN_3]; omega) (by first | assumption | omega)) (va_cwS 2 hts (gS m_572 m_573 m_541 m_569) rfl rfl rfl hd_X11_week ⟨Nat.le_of_ble_eq_true rfl, Nat.le_of_ble_eq_true rfl⟩) (nv_preM hK hPc hDc trivial _) rfl rfl hl.1 rfl (lv_room (Nat.le_of_ble_eq_true rfl)) dX11_weeksOf_23 ⟨by decide, by decide⟩) hP hD hS hA [1] [0] [0, 1] rfl rfl (by decide) (by decide) rfl (by decide) rfl (by decide) (fun H locs hP hD hS hE23 hz23 hf23 => ?_)
      clear hPc hDc
      clear hf23 hz23
      refine va_put (D := D) (ci := 11) (v := .int (nI (weekW (wkN rQ jQ) (wkN rQ jQ 3)))) (ty := tyX11 12) (C := RX11) (T := TX11) (N := 22) hx hb hts iX11 tyX11 tyX11_ok nmX11 hown hK.1 hP hD hS 0 rfl rfl 12 (by decide) (hts _ m_570) (fun _ h9 => h9) rfl (tyX11_ok 12 (by decide)) rfl rfl (Nat.le_of_ble_eq_true rfl) dX11_weeksOf_26 (fun H locs hP hD hS => ?_)
      have hP : va_P D vwCl [(o, .inr (11, [.ref qj, .ref qt, .ref qf, .ref qp, .int (nI un), .ref qk, .ref qq, .int (nI ku), .int (nI ik), .ref qa, .int (nI tnQ), .int (nI th), .int (nI (weekW (wkN rQ jQ) (wkN rQ jQ 3))), .int (nI (suN rQ jQ)), .int (nI cu), .int (nI fa), .int (nI fat), .ref qs, .ref ql, .ref qm, .ref qi, .ref qe])), aN z qt 31 (weekR (wkN rQ jQ) (wkN rQ jQ 3))] H := hP
      have hD : va_D A [(o, .inr (11, [.ref qj, .ref qt, .ref qf, .ref qp, .int (nI un), .ref qk, .ref qq, .int (nI ku), .int (nI ik), .ref qa, .int (nI tnQ), .int (nI th), .int (nI (weekW (wkN rQ jQ) (wkN rQ jQ 3))), .int (nI (suN rQ jQ)), .int (nI cu), .int (nI fa), .int (nI fat), .ref qs, .ref ql, .ref qm, .ref qi, .ref qe])), aN z qt 31 (weekR (wkN rQ jQ) (wkN rQ jQ 3))] := hD
      refine lv_aload_n hx hb dX11_weeksOf_29 rfl (lv_at hl 0 rfl) ?_
      refine lv_dup hx hb dX11_weeksOf_30 rfl ?_
      refine va_get (D := D) (ci := 11) (v := .int (nI (suN rQ jQ))) (C := RX11) (T := TX11) (N := 22) hx hb hts iX11 hown hK.1 hP 0 rfl rfl 13 (by decide) (hts _ m_571) (fun _ h9 => h9) rfl dX11_weeksOf_31 ?_
      refine lv_aload_n hx hb dX11_weeksOf_34 rfl (lv_at hl 0 rfl) ?_
      refine va_get (D := D) (ci := 11) (v := .int (nI (weekW (wkN rQ jQ) (wkN rQ jQ 3)))) (C := RX11) (T := TX11) (N := 22) hx hb hts iX11 hown hK.1 hP 0 rfl rfl 12 (by decide) (hts _ m_570) (fun _ h9 => h9) rfl dX11_weeksOf_35 ?_
      refine nv_add hx hb dX11_weeksOf_38 ?_
      refine va_put (D := D) (ci := 11) (v := .int (nI (suN rQ jQ + (weekW (wkN rQ jQ) (wkN rQ jQ 3))))) (ty := tyX11 13) (C := RX11) (T := TX11) (N := 22) hx hb hts iX11 tyX11 tyX11_ok nmX11 hown hK.1 hP hD hS 0 rfl rfl 13 (by decide) (hts _ m_571) (fun _ h9 => h9) rfl (tyX11_ok 13 (by decide)) rfl rfl (Nat.le_of_ble_eq_true rfl) dX11_weeksOf_39 (fun H locs hP hD hS => ?_)
      have hP : va_P D vwCl [(o, .inr (11, [.ref qj, .ref qt, .ref qf, .ref qp, .int (nI un), .ref qk, .ref qq, .int (nI ku), .int (nI ik), .ref qa, .int (nI tnQ), .int (nI th), .int (nI (weekW (wkN rQ jQ) (wkN rQ jQ 3))), .int (nI (suN rQ jQ + (weekW (wkN rQ jQ) (wkN rQ jQ 3)))), .int (nI cu), .int (nI fa), .int (nI fat), .ref qs, .ref ql, .ref qm, .ref qi, .ref qe])), aN z qt 31 (weekR (wkN rQ jQ) (wkN rQ jQ 3))] H := hP
      have hD : va_D A [(o, .inr (11, [.ref qj, .ref qt, .ref qf, .ref qp, .int (nI un), .ref qk, .ref qq, .int (nI ku), .int (nI ik), .ref qa, .int (nI tnQ), .int (nI th), .int (nI (weekW (wkN rQ jQ) (wkN rQ jQ 3))), .int (nI (suN rQ jQ + (weekW (wkN rQ jQ) (wkN rQ jQ 3)))), .int (nI cu), .int (nI fa), .int (nI fat), .ref qs, .ref ql, .ref qm, .ref qi, .ref qe])), aN z qt 31 (weekR (wkN rQ jQ) (wkN rQ jQ 3))] := hD
      refine lv_iinc (v := nI (jQ + 1)) (lv' := [(2, .int (nI (jQ + 1))), (0, .ref o), (1, .int (nI nQ))]) hx hb dX11_weeksOf_42 hl (k := 2) rfl (nI_inc _) (by decide) rfl (fun ls hl => ?_)
      refine lv_goto (tgt := 12) hx hb dX11_weeksOf_45 (by decide) ?_
      exact ih12 (jQ + 1) _ _ _ (by omega) ⟨jQ + 1, rfl, (by omega), hP, hD, hS, lv_sub hl [1, 2, 0] rfl⟩
  · exact ⟨0, rfl, (by omega), hP, hD, hS, lv_sub hl [1, 2, 0] rfl⟩

set_option maxHeartbeats 4000000 in
set_option maxRecDepth 100000 in
theorem c_X11_isPerson (l : Launch) (D : va_G) (z : Nat → ClassId) (o : Nat) (qj : Nat) (qt : Nat) (qf : Nat) (qp : Nat) (qk : Nat) (qq : Nat) (qa : Nat) (qs : Nat) (ql : Nat) (qm : Nat) (qi : Nat) (qe : Nat) (un : Nat) (ku : Nat) (ik : Nat) (tnQ : Nat) (th : Nat) (la : Nat) (wo : Nat) (cu : Nat) (fa : Nat) (fat : Nat) (rQ : Nat → Nat) (pv : Int32) (h6 : rQ 6 ≤ 6) : CP l yX11_isPerson cX11_isPerson 2 (some .boolean) 1 25 [.ref o, .int pv] D z [(o, .inr (11, [.ref qj, .ref qt, .ref qf, .ref qp, .int (nI un), .ref qk, .ref qq, .int (nI ku), .int (nI ik), .ref qa, .int (nI tnQ), .int (nI th), .int (nI la), .int (nI wo), .int (nI cu), .int (nI fa), .int (nI fat), .ref qs, .ref ql, .ref qm, .ref qi, .ref qe])), aN z qj 31 rQ] (fun _ => True) (some (.int (bI (wi pv 0 ((rQ 6 : Int) - 1))))) := by
  refine Met.ofW (cc := cX11_isPerson) (maxL := 2) (ret := (some .boolean)) (by decide) rfl ?_
  intro pg e s m args below meth c s₁ B hml hv
  obtain ⟨rfl, hP, hK, hE⟩ := hv
  have hx := B.exec
  have hb := B.bytes
  have hr := B.returns
  have hts : ∀ w ∈ ALL, w.before _ s = true := fun w h => atoms_spec (ws := wA yX11_isPerson cX11_isPerson 2 (some .boolean)) B.pre w (List.mem_cons_of_mem _ h)
  have hown : s.vm.findClass RX11 = some m.cls := findClass_of_methodNamed B.named
  have hlocks := B.notSynchronized
  have hl := lv_entry ([.ref o, .int pv]) (n := 2) (Nat.le_of_ble_eq_true rfl)
  rw [lg_entry_eq]
  generalize (lg_sl ([.ref o, .int pv]) ++ List.replicate (2 - (lg_sl ([.ref o, .int pv])).length) Slot.unset).toArray = ls at hl ⊢
  have hl : lv_has ls 2 [(0, .ref o), (1, .int pv)] := hl
  refine lv_iload_n hx hb dX11_isPerson_0 rfl (lv_at hl 1 rfl) ?_
  refine lv_i2l hx hb dX11_isPerson_1 rfl ?_
  refine lv_lconst (v := 0) hx hb dX11_isPerson_2 (by decide +kernel) ?_
  refine lv_aload_n hx hb dX11_isPerson_3 rfl (lv_at hl 0 rfl) ?_
  refine va_get (D := D) (ci := 11) (v := .ref qj) (C := RX11) (T := TX11) (N := 22) hx hb hts iX11 hown hK.1 hP 0 rfl rfl 0 (by decide) (hts _ m_523) (fun _ h9 => h9) rfl dX11_isPerson_4 ?_
  refine lv_bipush (v := nI 6) hx hb dX11_isPerson_7 (by decide +kernel) ?_
  refine nv_ald hx hb hK hP 1 rfl (by omega) (by decide) dX11_isPerson_9 ?_
  refine lv_iconst (v := nI 1) hx hb dX11_isPerson_10 (by decide +kernel) ?_
  refine lv_isub hx hb dX11_isPerson_11 ?_
  refine lv_i2l hx hb dX11_isPerson_12 rfl ?_
  have hPc := hP.sub (ws' := []) [] rfl
  refine nv_cp1 (va_runS (As := [.long pv.toInt64, .long 0, .long (((nI (rQ 6)) - (nI 1)).toInt64)]) (rest := []) ⟨hx, hb, hml, hown, hts⟩ (c_X11_in l D z pv.toInt64 0 (((nI (rQ 6)) - (nI 1)).toInt64) ) (va_cwS 3 hts (gS m_539 m_540 m_541 m_536) rfl rfl rfl hd_X11_in ⟨Nat.le_of_ble_eq_true rfl, Nat.le_of_ble_eq_true rfl⟩) (nv_preP hK hPc trivial _) rfl rfl hl.1 rfl (lv_room (Nat.le_of_ble_eq_true rfl)) dX11_isPerson_13 ⟨Nat.le_refl _, Nat.le_refl _⟩) ?_
  refine nv_inwl (a := 0) (b := ((rQ 6 : Int) - 1)) (by decide) (by rw [nv_lx]; exact pk_sub_toInt (by omega) (by decide)) ?_
  exact nv_rz hx hb hr hlocks dX11_isPerson_16 rfl bI_nar

set_option maxHeartbeats 4000000 in
set_option maxRecDepth 100000 in
theorem c_X11_person (l : Launch) (D : va_G) (z : Nat → ClassId) (sz : Nat) (w0Q : Nat) (o : Nat) (qj : Nat) (qt : Nat) (qf : Nat) (qp : Nat) (qk : Nat) (qq : Nat) (qa : Nat) (qs : Nat) (ql : Nat) (qm : Nat) (qi : Nat) (qe : Nat) (un : Nat) (ku : Nat) (ik : Nat) (tnQ : Nat) (th : Nat) (la : Nat) (wo : Nat) (cu : Nat) (fa : Nat) (fat : Nat) (rQ : Nat → Nat) (ka : Int32) (te : Int32) (haQ : Int32) (r1Q : Nat → Nat) (un1 : Nat) (vQ : Int32) (hok : rOK w0Q rQ) (hrel : perRel rQ un ka te haQ r1Q un1 vQ) : CM l yX11_person cX11_person 5 (some .int) 1 25 0 0 [.ref o, .int ka, .int te, .int haQ] D z [(o, .inr (11, [.ref qj, .ref qt, .ref qf, .ref qp, .int (nI un), .ref qk, .ref qq, .int (nI ku), .int (nI ik), .ref qa, .int (nI tnQ), .int (nI th), .int (nI la), .int (nI wo), .int (nI cu), .int (nI fa), .int (nI fat), .ref qs, .ref ql, .ref qm, .ref qi, .ref qe])), aN z qj 31 rQ] sz (fun _ => True) [(o, .inr (11, [.ref qj, .ref qt, .ref qf, .ref qp, .int (nI un1), .ref qk, .ref qq, .int (nI ku), .int (nI ik), .ref qa, .int (nI tnQ), .int (nI 0), .int (nI la), .int (nI wo), .int (nI cu), .int (nI fa), .int (nI fat), .ref qs, .ref ql, .ref qm, .ref qi, .ref qe])), aN z qj 31 r1Q] (some (.int vQ)) (fun _ => True) := by
  refine Met.ofW (cc := cX11_person) (maxL := 5) (ret := (some .int)) (by decide) rfl ?_
  intro pg e s m args below meth c s₁ B hml hv
  obtain ⟨rfl, hsz, hP, hK, hD0, hE⟩ := hv
  have hx := B.exec
  have hb := B.bytes
  have hr := B.returns
  have hts : ∀ w ∈ ALL, w.before _ s = true := fun w h => atoms_spec (ws := wA yX11_person cX11_person 5 (some .int)) B.pre w (List.mem_cons_of_mem _ h)
  have hown : s.vm.findClass RX11 = some m.cls := findClass_of_methodNamed B.named
  have hlocks := B.notSynchronized
  subst hsz
  have hD := hD0.self (sz := s.heap.size)
  obtain ⟨o0, o1, o1b, o2, o2b, o3, o4, o5, o6, oP⟩ := id hok
  have hA : ∀ q : Nat, s.heap.size ≤ q → va_A [(o, .inr (11, [.ref qj, .ref qt, .ref qf, .ref qp, .int (nI un), .ref qk, .ref qq, .int (nI ku), .int (nI ik), .ref qa, .int (nI tnQ), .int (nI th), .int (nI la), .int (nI wo), .int (nI cu), .int (nI fa), .int (nI fat), .ref qs, .ref ql, .ref qm, .ref qi, .ref qe])), aN z qj 31 rQ] s.heap.size q := fun q h => Or.inr h
  generalize va_A [(o, .inr (11, [.ref qj, .ref qt, .ref qf, .ref qp, .int (nI un), .ref qk, .ref qq, .int (nI ku), .int (nI ik), .ref qa, .int (nI tnQ), .int (nI th), .int (nI la), .int (nI wo), .int (nI cu), .int (nI fa), .int (nI fat), .ref qs, .ref ql, .ref qm, .ref qi, .ref qe])), aN z qj 31 rQ] s.heap.size = A at *
  have hS : va_S A s.heap s.heap [] := va_S.rf
  have hl := lv_entry ([.ref o, .int ka, .int te, .int haQ]) (n := 5) (Nat.le_of_ble_eq_true rfl)
  rw [lg_entry_eq]
  generalize (lg_sl ([.ref o, .int ka, .int te, .int haQ]) ++ List.replicate (5 - (lg_sl ([.ref o, .int ka, .int te, .int haQ])).length) Slot.unset).toArray = ls at hl ⊢
  have hl : lv_has ls 5 [(0, .ref o), (1, .int ka), (2, .int te), (3, .int haQ)] := hl
  refine lv_aload_n hx hb dX11_person_0 rfl (lv_at hl 0 rfl) ?_
  refine lv_iconst (v := nI 0) hx hb dX11_person_1 (by decide +kernel) ?_
  refine va_put (D := D) (ci := 11) (v := .int (nI 0)) (ty := tyX11 11) (C := RX11) (T := TX11) (N := 22) hx hb hts iX11 tyX11 tyX11_ok nmX11 hown hK.1 hP hD hS 0 rfl rfl 11 (by decide) (hts _ m_576) (fun _ h9 => h9) rfl (tyX11_ok 11 (by decide)) rfl rfl (Nat.le_of_ble_eq_true rfl) dX11_person_2 (fun H locs hP hD hS => ?_)
  have hP : va_P D vwCl [(o, .inr (11, [.ref qj, .ref qt, .ref qf, .ref qp, .int (nI un), .ref qk, .ref qq, .int (nI ku), .int (nI ik), .ref qa, .int (nI tnQ), .int (nI 0), .int (nI la), .int (nI wo), .int (nI cu), .int (nI fa), .int (nI fat), .ref qs, .ref ql, .ref qm, .ref qi, .ref qe])), aN z qj 31 rQ] H := hP
  have hD : va_D A [(o, .inr (11, [.ref qj, .ref qt, .ref qf, .ref qp, .int (nI un), .ref qk, .ref qq, .int (nI ku), .int (nI ik), .ref qa, .int (nI tnQ), .int (nI 0), .int (nI la), .int (nI wo), .int (nI cu), .int (nI fa), .int (nI fat), .ref qs, .ref ql, .ref qm, .ref qi, .ref qe])), aN z qj 31 rQ] := hD
  refine lv_iload_n hx hb dX11_person_5 rfl (lv_at hl 1 rfl) ?_
  refine lv_i2l hx hb dX11_person_6 rfl ?_
  refine lv_lconst (v := 0) hx hb dX11_person_7 (by decide +kernel) ?_
  refine lv_ldc2 (own := RX11) hx hb hown (hts _ m_577) dX11_person_8 ?_
  have hPc := hP.sub (ws' := []) [] rfl
  refine nv_cp1 (va_runS (As := [.long ka.toInt64, .long 0, .long (5)]) (rest := []) ⟨hx, hb, hml, hown, hts⟩ (c_X11_in l D z ka.toInt64 0 (5) ) (va_cwS 3 hts (gS m_539 m_540 m_541 m_536) rfl rfl rfl hd_X11_in ⟨Nat.le_of_ble_eq_true rfl, Nat.le_of_ble_eq_true rfl⟩) (nv_preP hK hPc trivial _) rfl rfl hl.1 rfl (lv_room (Nat.le_of_ble_eq_true rfl)) dX11_person_11 ⟨by decide, by decide⟩) ?_
  refine nv_inwl (a := 0) (b := 5) (by decide) (by decide) ?_
  refine nv_beq (tgt := 41) hx hb dX11_person_14 (by decide) (fun hc14 => ?_) (fun hc14 => ?_)
  · refine lv_iconst (v := (-1)) hx hb dX11_person_41 (by decide +kernel) ?_
    obtain ⟨rfl, rfl, rfl⟩ := hrel.1 (by first | exact fun q => hc14 q.1 | exact fun q => hc26 q.2.1 | exact fun q => hc38 q.2.2)
    exact nv_mi hx hb hr hlocks hS dX11_person_42 hP trivial rfl
  · refine lv_iload_n hx hb dX11_person_17 rfl (lv_at hl 2 rfl) ?_
    refine lv_i2l hx hb dX11_person_18 rfl ?_
    refine lv_lconst (v := 1) hx hb dX11_person_19 (by decide +kernel) ?_
    refine lv_ldc2 (own := RX11) hx hb hown (hts _ m_578) dX11_person_20 ?_
    have hPc := hP.sub (ws' := []) [] rfl
    refine nv_cp1 (va_runS (As := [.long te.toInt64, .long 1, .long (9)]) (rest := []) ⟨hx, hb, hml, hown, hts⟩ (c_X11_in l D z te.toInt64 1 (9) ) (va_cwS 3 hts (gS m_539 m_540 m_541 m_536) rfl rfl rfl hd_X11_in ⟨Nat.le_of_ble_eq_true rfl, Nat.le_of_ble_eq_true rfl⟩) (nv_preP hK hPc trivial _) rfl rfl hl.1 rfl (lv_room (Nat.le_of_ble_eq_true rfl)) dX11_person_23 ⟨by decide, by decide⟩) ?_
    refine nv_inwl (a := 1) (b := 9) (by decide) (by decide) ?_
    refine nv_beq (tgt := 41) hx hb dX11_person_26 (by decide) (fun hc26 => ?_) (fun hc26 => ?_)
    · refine lv_iconst (v := (-1)) hx hb dX11_person_41 (by decide +kernel) ?_
      obtain ⟨rfl, rfl, rfl⟩ := hrel.1 (by first | exact fun q => hc14 q.1 | exact fun q => hc26 q.2.1 | exact fun q => hc38 q.2.2)
      exact nv_mi hx hb hr hlocks hS dX11_person_42 hP trivial rfl
    · refine lv_iload_n hx hb dX11_person_29 rfl (lv_at hl 3 rfl) ?_
      refine lv_i2l hx hb dX11_person_30 rfl ?_
      refine lv_lconst (v := 0) hx hb dX11_person_31 (by decide +kernel) ?_
      refine lv_ldc2 (own := RX11) hx hb hown (hts _ m_579) dX11_person_32 ?_
      have hPc := hP.sub (ws' := []) [] rfl
      refine nv_cp1 (va_runS (As := [.long haQ.toInt64, .long 0, .long (99)]) (rest := []) ⟨hx, hb, hml, hown, hts⟩ (c_X11_in l D z haQ.toInt64 0 (99) ) (va_cwS 3 hts (gS m_539 m_540 m_541 m_536) rfl rfl rfl hd_X11_in ⟨Nat.le_of_ble_eq_true rfl, Nat.le_of_ble_eq_true rfl⟩) (nv_preP hK hPc trivial _) rfl rfl hl.1 rfl (lv_room (Nat.le_of_ble_eq_true rfl)) dX11_person_35 ⟨by decide, by decide⟩) ?_
      refine nv_inwl (a := 0) (b := 99) (by decide) (by decide) ?_
      refine nv_bne (tgt := 43) hx hb dX11_person_38 (by decide) (fun hc38 => ?_) (fun hc38 => ?_)
      · obtain ⟨knQ, rfl, kn0, kn1⟩ := wi_nat (b := 5) (by decide) hc14
        obtain ⟨tn1, rfl, tn10, tn11⟩ := wi_nat (b := 9) (by decide) hc26
        obtain ⟨hn, rfl, hn0, hn1⟩ := wi_nat (b := 99) (by decide) hc38
        refine lv_aload_n hx hb dX11_person_43 rfl (lv_at hl 0 rfl) ?_
        refine va_get (D := D) (ci := 11) (v := .ref qj) (C := RX11) (T := TX11) (N := 22) hx hb hts iX11 hown hK.1 hP 0 rfl rfl 0 (by decide) (hts _ m_523) (fun _ h9 => h9) rfl dX11_person_44 ?_
        refine lv_bipush (v := nI 6) hx hb dX11_person_47 (by decide +kernel) ?_
        refine nv_ald hx hb hK hP 1 rfl (by omega) (by decide) dX11_person_49 ?_
        refine lv_bipush (v := nI 6) hx hb dX11_person_50 (by decide +kernel) ?_
        refine nv_ne (tgt := 58) hx hb (by omega) (by omega) dX11_person_52 (by decide) (fun hc52 => ?_) (fun hc52 => ?_)
        · have h66 : rQ 6 < 6 := by omega
          refine lv_bipush (v := nI 7) hx hb dX11_person_58 (by decide +kernel) ?_
          refine lv_iconst (v := nI 4) hx hb dX11_person_60 (by decide +kernel) ?_
          refine lv_aload_n hx hb dX11_person_61 rfl (lv_at hl 0 rfl) ?_
          refine va_get (D := D) (ci := 11) (v := .ref qj) (C := RX11) (T := TX11) (N := 22) hx hb hts iX11 hown hK.1 hP 0 rfl rfl 0 (by decide) (hts _ m_523) (fun _ h9 => h9) rfl dX11_person_62 ?_
          refine lv_bipush (v := nI 6) hx hb dX11_person_65 (by decide +kernel) ?_
          refine nv_ald hx hb hK hP 1 rfl (by omega) (by decide) dX11_person_67 ?_
          refine nv_mul hx hb dX11_person_68 ?_
          refine nv_add hx hb dX11_person_69 ?_
          refine lv_istore (lv' := [(4, .int (nI (7 + (4 * (rQ 6))))), (0, .ref o), (1, .int (nI knQ)), (2, .int (nI tn1)), (3, .int (nI hn))]) hx hb dX11_person_70 hl (by decide) rfl (fun ls hl => ?_)
          refine lv_aload_n hx hb dX11_person_72 rfl (lv_at hl 1 rfl) ?_
          refine va_get (D := D) (ci := 11) (v := .ref qj) (C := RX11) (T := TX11) (N := 22) hx hb hts iX11 hown hK.1 hP 0 rfl rfl 0 (by decide) (hts _ m_523) (fun _ h9 => h9) rfl dX11_person_73 ?_
          refine lv_iload hx hb dX11_person_76 (lv_at hl 0 rfl) ?_
          refine lv_iload_n hx hb dX11_person_78 rfl (lv_at hl 2 rfl) ?_
          refine nv_ast hx hb hK hP hD hS 1 rfl (by omega) (by decide) dX11_person_79 (fun H locs hP hD hS => ?_)
          have hP : va_P D vwCl [(o, .inr (11, [.ref qj, .ref qt, .ref qf, .ref qp, .int (nI un), .ref qk, .ref qq, .int (nI ku), .int (nI ik), .ref qa, .int (nI tnQ), .int (nI 0), .int (nI la), .int (nI wo), .int (nI cu), .int (nI fa), .int (nI fat), .ref qs, .ref ql, .ref qm, .ref qi, .ref qe])), aN z qj 31 (uN rQ (7 + (4 * (rQ 6))) knQ)] H := hP
          have hD : va_D A [(o, .inr (11, [.ref qj, .ref qt, .ref qf, .ref qp, .int (nI un), .ref qk, .ref qq, .int (nI ku), .int (nI ik), .ref qa, .int (nI tnQ), .int (nI 0), .int (nI la), .int (nI wo), .int (nI cu), .int (nI fa), .int (nI fat), .ref qs, .ref ql, .ref qm, .ref qi, .ref qe])), aN z qj 31 (uN rQ (7 + (4 * (rQ 6))) knQ)] := hD
          refine lv_aload_n hx hb dX11_person_80 rfl (lv_at hl 1 rfl) ?_
          refine va_get (D := D) (ci := 11) (v := .ref qj) (C := RX11) (T := TX11) (N := 22) hx hb hts iX11 hown hK.1 hP 0 rfl rfl 0 (by decide) (hts _ m_523) (fun _ h9 => h9) rfl dX11_person_81 ?_
          refine lv_iload hx hb dX11_person_84 (lv_at hl 0 rfl) ?_
          refine lv_iconst (v := nI 1) hx hb dX11_person_86 (by decide +kernel) ?_
          refine nv_add hx hb dX11_person_87 ?_
          refine lv_iload_n hx hb dX11_person_88 rfl (lv_at hl 3 rfl) ?_
          refine nv_ast hx hb hK hP hD hS 1 rfl (by omega) (by decide) dX11_person_89 (fun H locs hP hD hS => ?_)
          have hP : va_P D vwCl [(o, .inr (11, [.ref qj, .ref qt, .ref qf, .ref qp, .int (nI un), .ref qk, .ref qq, .int (nI ku), .int (nI ik), .ref qa, .int (nI tnQ), .int (nI 0), .int (nI la), .int (nI wo), .int (nI cu), .int (nI fa), .int (nI fat), .ref qs, .ref ql, .ref qm, .ref qi, .ref qe])), aN z qj 31 (uN (uN rQ (7 + (4 * (rQ 6))) knQ) (7 + (4 * (rQ 6)) + 1) tn1)] H := hP
          have hD : va_D A [(o, .inr (11, [.ref qj, .ref qt, .ref qf, .ref qp, .int (nI un), .ref qk, .ref qq, .int (nI ku), .int (nI ik), .ref qa, .int (nI tnQ), .int (nI 0), .int (nI la), .int (nI wo), .int (nI cu), .int (nI fa), .int (nI fat), .ref qs, .ref ql, .ref qm, .ref qi, .ref qe])), aN z qj 31 (uN (uN rQ (7 + (4 * (rQ 6))) knQ) (7 + (4 * (rQ 6)) + 1) tn1)] := hD
          refine lv_aload_n hx hb dX11_person_90 rfl (lv_at hl 1 rfl) ?_
          refine va_get (D := D) (ci := 11) (v := .ref qj) (C := RX11) (T := TX11) (N := 22) hx hb hts iX11 hown hK.1 hP 0 rfl rfl 0 (by decide) (hts _ m_523) (fun _ h9 => h9) rfl dX11_person_91 ?_
          refine lv_iload hx hb dX11_person_94 (lv_at hl 0 rfl) ?_
          refine lv_iconst (v := nI 2) hx hb dX11_person_96 (by decide +kernel) ?_
          refine nv_add hx hb dX11_person_97 ?_
          refine lv_iload_n hx hb dX11_person_98 rfl (lv_at hl 4 rfl) ?_
          refine nv_ast hx hb hK hP hD hS 1 rfl (by omega) (by decide) dX11_person_99 (fun H locs hP hD hS => ?_)
          have hP : va_P D vwCl [(o, .inr (11, [.ref qj, .ref qt, .ref qf, .ref qp, .int (nI un), .ref qk, .ref qq, .int (nI ku), .int (nI ik), .ref qa, .int (nI tnQ), .int (nI 0), .int (nI la), .int (nI wo), .int (nI cu), .int (nI fa), .int (nI fat), .ref qs, .ref ql, .ref qm, .ref qi, .ref qe])), aN z qj 31 (uN (uN (uN rQ (7 + (4 * (rQ 6))) knQ) (7 + (4 * (rQ 6)) + 1) tn1) (7 + (4 * (rQ 6)) + 2) hn)] H := hP
          have hD : va_D A [(o, .inr (11, [.ref qj, .ref qt, .ref qf, .ref qp, .int (nI un), .ref qk, .ref qq, .int (nI ku), .int (nI ik), .ref qa, .int (nI tnQ), .int (nI 0), .int (nI la), .int (nI wo), .int (nI cu), .int (nI fa), .int (nI fat), .ref qs, .ref ql, .ref qm, .ref qi, .ref qe])), aN z qj 31 (uN (uN (uN rQ (7 + (4 * (rQ 6))) knQ) (7 + (4 * (rQ 6)) + 1) tn1) (7 + (4 * (rQ 6)) + 2) hn)] := hD
          refine lv_aload_n hx hb dX11_person_100 rfl (lv_at hl 1 rfl) ?_
          refine va_get (D := D) (ci := 11) (v := .ref qj) (C := RX11) (T := TX11) (N := 22) hx hb hts iX11 hown hK.1 hP 0 rfl rfl 0 (by decide) (hts _ m_523) (fun _ h9 => h9) rfl dX11_person_101 ?_
          refine lv_iload hx hb dX11_person_104 (lv_at hl 0 rfl) ?_
          refine lv_iconst (v := nI 3) hx hb dX11_person_106 (by decide +kernel) ?_
          refine nv_add hx hb dX11_person_107 ?_
          refine lv_iconst (v := nI 1) hx hb dX11_person_108 (by decide +kernel) ?_
          refine nv_ast hx hb hK hP hD hS 1 rfl (by omega) (by decide) dX11_person_109 (fun H locs hP hD hS => ?_)
          have hP : va_P D vwCl [(o, .inr (11, [.ref qj, .ref qt, .ref qf, .ref qp, .int (nI un), .ref qk, .ref qq, .int (nI ku), .int (nI ik), .ref qa, .int (nI tnQ), .int (nI 0), .int (nI la), .int (nI wo), .int (nI cu), .int (nI fa), .int (nI fat), .ref qs, .ref ql, .ref qm, .ref qi, .ref qe])), aN z qj 31 (uN (uN (uN (uN rQ (7 + (4 * (rQ 6))) knQ) (7 + (4 * (rQ 6)) + 1) tn1) (7 + (4 * (rQ 6)) + 2) hn) (7 + (4 * (rQ 6)) + 3) 1)] H := hP
          have hD : va_D A [(o, .inr (11, [.ref qj, .ref qt, .ref qf, .ref qp, .int (nI un), .ref qk, .ref qq, .int (nI ku), .int (nI ik), .ref qa, .int (nI tnQ), .int (nI 0), .int (nI la), .int (nI wo), .int (nI cu), .int (nI fa), .int (nI fat), .ref qs, .ref ql, .ref qm, .ref qi, .ref qe])), aN z qj 31 (uN (uN (uN (uN rQ (7 + (4 * (rQ 6))) knQ) (7 + (4 * (rQ 6)) + 1) tn1) (7 + (4 * (rQ 6)) + 2) hn) (7 + (4 * (rQ 6)) + 3) 1)] := hD
          have e6 : addX rQ knQ tn1 hn 6 = rQ 6 := addX_lo _ _ _ _ (by omega)
          refine lv_aload_n hx hb dX11_person_110 rfl (lv_at hl 1 rfl) ?_
          refine va_get (D := D) (ci := 11) (v := .ref qj) (C := RX11) (T := TX11) (N := 22) hx hb hts iX11 hown hK.1 hP 0 rfl rfl 0 (by decide) (hts _ m_523) (fun _ h9 => h9) rfl dX11_person_111 ?_
          refine lv_bipush (v := nI 6) hx hb dX11_person_114 (by decide +kernel) ?_
          refine lv_dup2_11 hx hb dX11_person_116 rfl rfl ?_
          refine nv_ald hx hb hK hP 1 rfl (by omega) (by decide) dX11_person_117 ?_
          refine lv_iconst (v := nI 1) hx hb dX11_person_118 (by decide +kernel) ?_
          refine nv_add hx hb dX11_person_119 ?_
          refine nv_ast hx hb hK hP hD hS 1 rfl (by omega) (by decide) dX11_person_120 (fun H locs hP hD hS => ?_)
          have hP : va_P D vwCl [(o, .inr (11, [.ref qj, .ref qt, .ref qf, .ref qp, .int (nI un), .ref qk, .ref qq, .int (nI ku), .int (nI ik), .ref qa, .int (nI tnQ), .int (nI 0), .int (nI la), .int (nI wo), .int (nI cu), .int (nI fa), .int (nI fat), .ref qs, .ref ql, .ref qm, .ref qi, .ref qe])), aN z qj 31 (uN (uN (uN (uN (uN rQ (7 + (4 * (rQ 6))) knQ) (7 + (4 * (rQ 6)) + 1) tn1) (7 + (4 * (rQ 6)) + 2) hn) (7 + (4 * (rQ 6)) + 3) 1) 6 ((uN (uN (uN (uN rQ (7 + (4 * (rQ 6))) knQ) (7 + (4 * (rQ 6)) + 1) tn1) (7 + (4 * (rQ 6)) + 2) hn) (7 + (4 * (rQ 6)) + 3) 1) 6 + 1))] H := hP
          have hD : va_D A [(o, .inr (11, [.ref qj, .ref qt, .ref qf, .ref qp, .int (nI un), .ref qk, .ref qq, .int (nI ku), .int (nI ik), .ref qa, .int (nI tnQ), .int (nI 0), .int (nI la), .int (nI wo), .int (nI cu), .int (nI fa), .int (nI fat), .ref qs, .ref ql, .ref qm, .ref qi, .ref qe])), aN z qj 31 (uN (uN (uN (uN (uN rQ (7 + (4 * (rQ 6))) knQ) (7 + (4 * (rQ 6)) + 1) tn1) (7 + (4 * (rQ 6)) + 2) hn) (7 + (4 * (rQ 6)) + 3) 1) 6 ((uN (uN (uN (uN rQ (7 + (4 * (rQ 6))) knQ) (7 + (4 * (rQ 6)) + 1) tn1) (7 + (4 * (rQ 6)) + 2) hn) (7 + (4 * (rQ 6)) + 3) 1) 6 + 1))] := hD
          refine lv_aload_n hx hb dX11_person_121 rfl (lv_at hl 1 rfl) ?_
          refine lv_iconst (v := nI 0) hx hb dX11_person_122 (by decide +kernel) ?_
          refine va_put (D := D) (ci := 11) (v := .int (nI 0)) (ty := tyX11 4) (C := RX11) (T := TX11) (N := 22) hx hb hts iX11 tyX11 tyX11_ok nmX11 hown hK.1 hP hD hS 0 rfl rfl 4 (by decide) (hts _ m_580) (fun _ h9 => h9) rfl (tyX11_ok 4 (by decide)) rfl rfl (Nat.le_of_ble_eq_true rfl) dX11_person_123 (fun H locs hP hD hS => ?_)
          have hP : va_P D vwCl [(o, .inr (11, [.ref qj, .ref qt, .ref qf, .ref qp, .int (nI 0), .ref qk, .ref qq, .int (nI ku), .int (nI ik), .ref qa, .int (nI tnQ), .int (nI 0), .int (nI la), .int (nI wo), .int (nI cu), .int (nI fa), .int (nI fat), .ref qs, .ref ql, .ref qm, .ref qi, .ref qe])), aN z qj 31 (uN (uN (uN (uN (uN rQ (7 + (4 * (rQ 6))) knQ) (7 + (4 * (rQ 6)) + 1) tn1) (7 + (4 * (rQ 6)) + 2) hn) (7 + (4 * (rQ 6)) + 3) 1) 6 ((uN (uN (uN (uN rQ (7 + (4 * (rQ 6))) knQ) (7 + (4 * (rQ 6)) + 1) tn1) (7 + (4 * (rQ 6)) + 2) hn) (7 + (4 * (rQ 6)) + 3) 1) 6 + 1))] H := hP
          have hD : va_D A [(o, .inr (11, [.ref qj, .ref qt, .ref qf, .ref qp, .int (nI 0), .ref qk, .ref qq, .int (nI ku), .int (nI ik), .ref qa, .int (nI tnQ), .int (nI 0), .int (nI la), .int (nI wo), .int (nI cu), .int (nI fa), .int (nI fat), .ref qs, .ref ql, .ref qm, .ref qi, .ref qe])), aN z qj 31 (uN (uN (uN (uN (uN rQ (7 + (4 * (rQ 6))) knQ) (7 + (4 * (rQ 6)) + 1) tn1) (7 + (4 * (rQ 6)) + 2) hn) (7 + (4 * (rQ 6)) + 3) 1) 6 ((uN (uN (uN (uN rQ (7 + (4 * (rQ 6))) knQ) (7 + (4 * (rQ 6)) + 1) tn1) (7 + (4 * (rQ 6)) + 2) hn) (7 + (4 * (rQ 6)) + 3) 1) 6 + 1))] := hD
          have e7 : addR rQ knQ tn1 hn 6 = rQ 6 + 1 := addR_6 _ _ _ _
          refine lv_aload_n hx hb dX11_person_126 rfl (lv_at hl 1 rfl) ?_
          refine va_get (D := D) (ci := 11) (v := .ref qj) (C := RX11) (T := TX11) (N := 22) hx hb hts iX11 hown hK.1 hP 0 rfl rfl 0 (by decide) (hts _ m_523) (fun _ h9 => h9) rfl dX11_person_127 ?_
          refine lv_bipush (v := nI 6) hx hb dX11_person_130 (by decide +kernel) ?_
          refine nv_ald hx hb hK hP 1 rfl (by omega) (by decide) dX11_person_132 ?_
          refine lv_iconst (v := nI 1) hx hb dX11_person_133 (by decide +kernel) ?_
          refine nv_sub hx hb (by show 1 ≤ addR rQ knQ tn1 hn 6; omega) dX11_person_134 ?_
          obtain ⟨rfl, rfl, rfl⟩ := hrel.2.2 knQ tn1 hn rfl rfl rfl (by omega) (by omega) (by omega) (by omega) (by omega)
          exact nv_mi hx hb hr hlocks hS dX11_person_135 hP trivial (by show nI (addR rQ knQ tn1 hn 6 - 1) = nI (rQ 6); rw [addR_6]; rfl)
        · refine lv_bipush (v := (-3)) hx hb dX11_person_55 (by decide +kernel) ?_
          obtain ⟨rfl, rfl, rfl⟩ := hrel.2.1 hc14 hc26 hc38 (by omega)
          exact nv_mi hx hb hr hlocks hS dX11_person_57 hP trivial rfl
      · refine lv_iconst (v := (-1)) hx hb dX11_person_41 (by decide +kernel) ?_
        obtain ⟨rfl, rfl, rfl⟩ := hrel.1 (by first | exact fun q => hc14 q.1 | exact fun q => hc26 q.2.1 | exact fun q => hc38 q.2.2)
        exact nv_mi hx hb hr hlocks hS dX11_person_42 hP trivial rfl

set_option maxHeartbeats 4000000 in
set_option maxRecDepth 100000 in
theorem c_X11_of (l : Launch) (D : va_G) (z : Nat → ClassId) (sz : Nat) (w0Q : Nat) (o : Nat) (qj : Nat) (qt : Nat) (qf : Nat) (qp : Nat) (qk : Nat) (qq : Nat) (qa : Nat) (qs : Nat) (ql : Nat) (qm : Nat) (qi : Nat) (qe : Nat) (un : Nat) (ku : Nat) (ik : Nat) (tnQ : Nat) (th : Nat) (la : Nat) (wo : Nat) (cu : Nat) (fa : Nat) (fat : Nat) (rQ : Nat → Nat) (pv : Int32) (wh : Int32) (vQ : Int32) (hok : rOK w0Q rQ) (hw : w0Q ≤ 20000) (hrel : ofRel rQ pv wh vQ) : CM l yX11_of cX11_of 4 (some .int) 4 93 0 0 [.ref o, .int pv, .int wh] D z [(o, .inr (11, [.ref qj, .ref qt, .ref qf, .ref qp, .int (nI un), .ref qk, .ref qq, .int (nI ku), .int (nI ik), .ref qa, .int (nI tnQ), .int (nI th), .int (nI la), .int (nI wo), .int (nI cu), .int (nI fa), .int (nI fat), .ref qs, .ref ql, .ref qm, .ref qi, .ref qe])), aN z qj 31 rQ] sz (fun _ => True) [(o, .inr (11, [.ref qj, .ref qt, .ref qf, .ref qp, .int (nI un), .ref qk, .ref qq, .int (nI ku), .int (nI ik), .ref qa, .int (nI tnQ), .int (nI 0), .int (nI la), .int (nI wo), .int (nI cu), .int (nI fa), .int (nI fat), .ref qs, .ref ql, .ref qm, .ref qi, .ref qe])), aN z qj 31 rQ] (some (.int vQ)) (fun _ => True) := by
  refine Met.ofW (cc := cX11_of) (maxL := 4) (ret := (some .int)) (by decide) rfl ?_
  intro pg e s m args below meth c s₁ B hml hv
  obtain ⟨rfl, hsz, hP, hK, hD0, hE⟩ := hv
  have hx := B.exec
  have hb := B.bytes
  have hr := B.returns
  have hts : ∀ w ∈ ALL, w.before _ s = true := fun w h => atoms_spec (ws := wA yX11_of cX11_of 4 (some .int)) B.pre w (List.mem_cons_of_mem _ h)
  have hown : s.vm.findClass RX11 = some m.cls := findClass_of_methodNamed B.named
  have hlocks := B.notSynchronized
  subst hsz
  have hD := hD0.self (sz := s.heap.size)
  obtain ⟨o0, o1, o1b, o2, o2b, o3, o4, o5, o6, oP⟩ := id hok
  have hA : ∀ q : Nat, s.heap.size ≤ q → va_A [(o, .inr (11, [.ref qj, .ref qt, .ref qf, .ref qp, .int (nI un), .ref qk, .ref qq, .int (nI ku), .int (nI ik), .ref qa, .int (nI tnQ), .int (nI th), .int (nI la), .int (nI wo), .int (nI cu), .int (nI fa), .int (nI fat), .ref qs, .ref ql, .ref qm, .ref qi, .ref qe])), aN z qj 31 rQ] s.heap.size q := fun q h => Or.inr h
  generalize va_A [(o, .inr (11, [.ref qj, .ref qt, .ref qf, .ref qp, .int (nI un), .ref qk, .ref qq, .int (nI ku), .int (nI ik), .ref qa, .int (nI tnQ), .int (nI th), .int (nI la), .int (nI wo), .int (nI cu), .int (nI fa), .int (nI fat), .ref qs, .ref ql, .ref qm, .ref qi, .ref qe])), aN z qj 31 rQ] s.heap.size = A at *
  have hS : va_S A s.heap s.heap [] := va_S.rf
  have hl := lv_entry ([.ref o, .int pv, .int wh]) (n := 4) (Nat.le_of_ble_eq_true rfl)
  rw [lg_entry_eq]
  generalize (lg_sl ([.ref o, .int pv, .int wh]) ++ List.replicate (4 - (lg_sl ([.ref o, .int pv, .int wh])).length) Slot.unset).toArray = ls at hl ⊢
  have hl : lv_has ls 4 [(0, .ref o), (1, .int pv), (2, .int wh)] := hl
  refine lv_aload_n hx hb dX11_of_0 rfl (lv_at hl 0 rfl) ?_
  refine lv_iconst (v := nI 0) hx hb dX11_of_1 (by decide +kernel) ?_
  refine va_put (D := D) (ci := 11) (v := .int (nI 0)) (ty := tyX11 11) (C := RX11) (T := TX11) (N := 22) hx hb hts iX11 tyX11 tyX11_ok nmX11 hown hK.1 hP hD hS 0 rfl rfl 11 (by decide) (hts _ m_576) (fun _ h9 => h9) rfl (tyX11_ok 11 (by decide)) rfl rfl (Nat.le_of_ble_eq_true rfl) dX11_of_2 (fun H locs hP hD hS => ?_)
  have hP : va_P D vwCl [(o, .inr (11, [.ref qj, .ref qt, .ref qf, .ref qp, .int (nI un), .ref qk, .ref qq, .int (nI ku), .int (nI ik), .ref qa, .int (nI tnQ), .int (nI 0), .int (nI la), .int (nI wo), .int (nI cu), .int (nI fa), .int (nI fat), .ref qs, .ref ql, .ref qm, .ref qi, .ref qe])), aN z qj 31 rQ] H := hP
  have hD : va_D A [(o, .inr (11, [.ref qj, .ref qt, .ref qf, .ref qp, .int (nI un), .ref qk, .ref qq, .int (nI ku), .int (nI ik), .ref qa, .int (nI tnQ), .int (nI 0), .int (nI la), .int (nI wo), .int (nI cu), .int (nI fa), .int (nI fat), .ref qs, .ref ql, .ref qm, .ref qi, .ref qe])), aN z qj 31 rQ] := hD
  refine lv_aload_n hx hb dX11_of_5 rfl (lv_at hl 0 rfl) ?_
  refine lv_iload_n hx hb dX11_of_6 rfl (lv_at hl 1 rfl) ?_
  have hPc := hP.sub (ws' := [(o, .inr (11, [.ref qj, .ref qt, .ref qf, .ref qp, .int (nI un), .ref qk, .ref qq, .int (nI ku), .int (nI ik), .ref qa, .int (nI tnQ), .int (nI 0), .int (nI la), .int (nI wo), .int (nI cu), .int (nI fa), .int (nI fat), .ref qs, .ref ql, .ref qm, .ref qi, .ref qe])), aN z qj 31 rQ]) [0, 1] rfl
  refine nv_cp1 (va_runV (As := [.int pv]) (rest := []) ⟨hx, hb, hml, hown, hts⟩ (c_X11_isPerson l D z o qj qt qf qp qk qq qa qs ql qm qi qe un ku ik tnQ 0 la wo cu fa fat rQ pv (by first | assumption | omega)) (cwV 1 hts (gV m_582 m_583 m_584 m_541 m_538) rfl rfl rfl ⟨rfl, hd_X11_isPerson⟩ ⟨Nat.le_of_ble_eq_true rfl, Nat.le_of_ble_eq_true rfl⟩) (nv_prePV (ci := 11) (q0 := 0) hK hPc trivial rfl rfl) rfl rfl hl.1 rfl (lv_room (Nat.le_of_ble_eq_true rfl)) dX11_of_7 ⟨by decide, by decide⟩) ?_
  refine nv_beq (tgt := 25) hx hb dX11_of_10 (by decide) (fun hc10 => ?_) (fun hc10 => ?_)
  · refine lv_iconst (v := (-1)) hx hb dX11_of_25 (by decide +kernel) ?_
    obtain rfl := hrel.1 (by first | exact fun q => hc10 q.1 | exact fun q => hc22 q.2)
    exact nv_mi hx hb hr hlocks hS dX11_of_26 hP trivial rfl
  · refine lv_iload_n hx hb dX11_of_13 rfl (lv_at hl 2 rfl) ?_
    refine lv_i2l hx hb dX11_of_14 rfl ?_
    refine lv_lconst (v := 0) hx hb dX11_of_15 (by decide +kernel) ?_
    refine lv_ldc2 (own := RX11) hx hb hown (hts _ m_581) dX11_of_16 ?_
    have hPc := hP.sub (ws' := []) [] rfl
    refine nv_cp1 (va_runS (As := [.long wh.toInt64, .long 0, .long (6)]) (rest := []) ⟨hx, hb, hml, hown, hts⟩ (c_X11_in l D z wh.toInt64 0 (6) ) (va_cwS 3 hts (gS m_539 m_540 m_541 m_536) rfl rfl rfl hd_X11_in ⟨Nat.le_of_ble_eq_true rfl, Nat.le_of_ble_eq_true rfl⟩) (nv_preP hK hPc trivial _) rfl rfl hl.1 rfl (lv_room (Nat.le_of_ble_eq_true rfl)) dX11_of_19 ⟨by decide, by decide⟩) ?_
    refine nv_inwl (a := 0) (b := 6) (by decide) (by decide) ?_
    refine nv_bne (tgt := 27) hx hb dX11_of_22 (by decide) (fun hc22 => ?_) (fun hc22 => ?_)
    · obtain ⟨pn, rfl, pn0, pn1⟩ := wi_nat (b := rQ 6 - 1) (by decide) (show wi pv 0 ((rQ 6 - 1 : Nat) : Int) from ⟨hc10.1, by have := hc10.1; have := hc10.2; omega⟩)
      have hpn : pn < rQ 6 := by have h8 := hc10; rw [wi_nI (by omega)] at h8; omega
      obtain ⟨kQ, rfl, k0, k1⟩ := wi_nat (b := 6) (by decide) hc22
      obtain rfl := hrel.2 pn kQ rfl rfl hpn (by omega)
      have hb6 := hbF_le rQ
      refine lv_aload_n hx hb dX11_of_27 rfl (lv_at hl 0 rfl) ?_
      refine va_get (D := D) (ci := 11) (v := .ref qj) (C := RX11) (T := TX11) (N := 22) hx hb hts iX11 hown hK.1 hP 0 rfl rfl 0 (by decide) (hts _ m_523) (fun _ h9 => h9) rfl dX11_of_28 ?_
      refine lv_iconst (v := nI 0) hx hb dX11_of_31 (by decide +kernel) ?_
      have hPc := hP.sub (ws' := [aN z qj 31 rQ]) [1] rfl
      refine nv_cp1 (va_runS (As := [.ref qj, .int (nI 0)]) (rest := []) ⟨hx, hb, hml, hown, hts⟩ (c_X11_mishapsOf l D z w0Q qj rQ (nI 0) (rQ 3) (by first | assumption | omega) (nI_add _ 0)) (va_cwS 2 hts (gS m_561 m_562 m_541 m_547) rfl rfl rfl hd_X11_mishapsOf ⟨Nat.le_of_ble_eq_true rfl, Nat.le_of_ble_eq_true rfl⟩) (nv_preP hK hPc trivial _) rfl rfl hl.1 rfl (lv_room (Nat.le_of_ble_eq_true rfl)) dX11_of_32 ⟨by decide, by decide⟩) ?_
      refine lv_istore_n (lv' := [(3, .int (nI ((rQ 3) + hbF rQ))), (0, .ref o), (1, .int (nI pn)), (2, .int (nI kQ))]) hx hb dX11_of_35 rfl hl (by decide) rfl (fun ls hl => ?_)
      refine lv_iload_n hx hb dX11_of_36 rfl (lv_at hl 3 rfl) ?_
      refine lv_iconst (v := nI 4) hx hb dX11_of_37 (by decide +kernel) ?_
      refine nv_ge (tgt := 53) hx hb (by omega) (by omega) dX11_of_38 (by decide) (fun hc38 => ?_) (fun hc38 => ?_)
      · refine lv_iload_n hx hb dX11_of_53 rfl (lv_at hl 3 rfl) ?_
        refine lv_iconst (v := nI 4) hx hb dX11_of_54 (by decide +kernel) ?_
        refine nv_ne (tgt := 70) hx hb (by omega) (by omega) dX11_of_55 (by decide) (fun hc55 => ?_) (fun hc55 => ?_)
        · refine lv_iload_n hx hb dX11_of_70 rfl (lv_at hl 3 rfl) ?_
          refine lv_iconst (v := nI 5) hx hb dX11_of_71 (by decide +kernel) ?_
          refine nv_ne (tgt := 87) hx hb (by omega) (by omega) dX11_of_72 (by decide) (fun hc72 => ?_) (fun hc72 => ?_)
          · refine lv_aload_n hx hb dX11_of_87 rfl (lv_at hl 1 rfl) ?_
            refine va_get (D := D) (ci := 11) (v := .ref qj) (C := RX11) (T := TX11) (N := 22) hx hb hts iX11 hown hK.1 hP 0 rfl rfl 0 (by decide) (hts _ m_523) (fun _ h9 => h9) rfl dX11_of_88 ?_
            refine lv_iload_n hx hb dX11_of_91 rfl (lv_at hl 2 rfl) ?_
            refine lv_iload_n hx hb dX11_of_92 rfl (lv_at hl 0 rfl) ?_
            have hPc := hP.sub (ws' := [aN z qj 31 rQ]) [1] rfl
            refine nv_cp1 (va_runS (As := [.ref qj, .int (nI pn), .int (nI ((rQ 3) + hbF rQ))]) (rest := []) ⟨hx, hb, hml, hown, hts⟩ (c_X11_habitThen l D z w0Q qj rQ pn ((rQ 3) + hbF rQ) (by first | assumption | omega) (by first | assumption | omega) (by first | assumption | omega) (by first | assumption | omega)) (va_cwS 3 hts (gS m_567 m_568 m_541 m_556) rfl rfl rfl hd_X11_habitThen ⟨Nat.le_of_ble_eq_true rfl, Nat.le_of_ble_eq_true rfl⟩) (nv_preP hK hPc trivial _) rfl rfl hl.1 rfl (lv_room (Nat.le_of_ble_eq_true rfl)) dX11_of_93 ⟨by decide, by decide⟩) ?_
            exact nv_mi hx hb hr hlocks hS dX11_of_96 hP trivial (by unfold ofF; first | rw [if_pos (by omega)] | rw [if_neg (by omega), if_pos (by omega)] | rw [if_neg (by omega), if_neg (by omega), if_pos (by omega)] | rw [if_neg (by omega), if_neg (by omega), if_neg (by omega)])
          · refine lv_aload_n hx hb dX11_of_75 rfl (lv_at hl 1 rfl) ?_
            refine va_get (D := D) (ci := 11) (v := .ref qj) (C := RX11) (T := TX11) (N := 22) hx hb hts iX11 hown hK.1 hP 0 rfl rfl 0 (by decide) (hts _ m_523) (fun _ h9 => h9) rfl dX11_of_76 ?_
            refine lv_iload_n hx hb dX11_of_79 rfl (lv_at hl 2 rfl) ?_
            refine lv_iload_n hx hb dX11_of_80 rfl (lv_at hl 0 rfl) ?_
            have hPc := hP.sub (ws' := [aN z qj 31 rQ]) [1] rfl
            refine nv_cp1 (va_runS (As := [.ref qj, .int (nI pn), .int (nI ((rQ 3) + hbF rQ))]) (rest := []) ⟨hx, hb, hml, hown, hts⟩ (c_X11_paysOf l D z w0Q qj rQ pn ((rQ 3) + hbF rQ) (by first | assumption | omega) (by first | assumption | omega) (by first | assumption | omega) (by first | assumption | omega)) (va_cwS 3 hts (gS m_557 m_558 m_541 m_553) rfl rfl rfl hd_X11_paysOf ⟨Nat.le_of_ble_eq_true rfl, Nat.le_of_ble_eq_true rfl⟩) (nv_preP hK hPc trivial _) rfl rfl hl.1 rfl (lv_room (Nat.le_of_ble_eq_true rfl)) dX11_of_81 ⟨by decide, by decide⟩) ?_
            refine lv_goto (tgt := 96) hx hb dX11_of_84 (by decide) ?_
            exact nv_mi hx hb hr hlocks hS dX11_of_96 hP trivial (by unfold ofF; first | rw [if_pos (by omega)] | rw [if_neg (by omega), if_pos (by omega)] | rw [if_neg (by omega), if_neg (by omega), if_pos (by omega)] | rw [if_neg (by omega), if_neg (by omega), if_neg (by omega)])
        · refine lv_aload_n hx hb dX11_of_58 rfl (lv_at hl 1 rfl) ?_
          refine va_get (D := D) (ci := 11) (v := .ref qj) (C := RX11) (T := TX11) (N := 22) hx hb hts iX11 hown hK.1 hP 0 rfl rfl 0 (by decide) (hts _ m_523) (fun _ h9 => h9) rfl dX11_of_59 ?_
          refine lv_iload_n hx hb dX11_of_62 rfl (lv_at hl 2 rfl) ?_
          refine lv_iload_n hx hb dX11_of_63 rfl (lv_at hl 0 rfl) ?_
          have hPc := hP.sub (ws' := [aN z qj 31 rQ]) [1] rfl
          refine nv_cp1 (va_runS (As := [.ref qj, .int (nI pn), .int (nI ((rQ 3) + hbF rQ))]) (rest := []) ⟨hx, hb, hml, hown, hts⟩ (c_X11_wordsOf l D z w0Q qj rQ pn ((rQ 3) + hbF rQ) (by first | assumption | omega) (by first | assumption | omega) (by first | assumption | omega) (by first | assumption | omega)) (va_cwS 3 hts (gS m_554 m_555 m_541 m_552) rfl rfl rfl hd_X11_wordsOf ⟨Nat.le_of_ble_eq_true rfl, Nat.le_of_ble_eq_true rfl⟩) (nv_preP hK hPc trivial _) rfl rfl hl.1 rfl (lv_room (Nat.le_of_ble_eq_true rfl)) dX11_of_64 ⟨by decide, by decide⟩) ?_
          refine lv_goto (tgt := 96) hx hb dX11_of_67 (by decide) ?_
          exact nv_mi hx hb hr hlocks hS dX11_of_96 hP trivial (by unfold ofF; first | rw [if_pos (by omega)] | rw [if_neg (by omega), if_pos (by omega)] | rw [if_neg (by omega), if_neg (by omega), if_pos (by omega)] | rw [if_neg (by omega), if_neg (by omega), if_neg (by omega)])
      · refine lv_aload_n hx hb dX11_of_41 rfl (lv_at hl 1 rfl) ?_
        refine va_get (D := D) (ci := 11) (v := .ref qj) (C := RX11) (T := TX11) (N := 22) hx hb hts iX11 hown hK.1 hP 0 rfl rfl 0 (by decide) (hts _ m_523) (fun _ h9 => h9) rfl dX11_of_42 ?_
        refine lv_iload_n hx hb dX11_of_45 rfl (lv_at hl 2 rfl) ?_
        refine lv_iload_n hx hb dX11_of_46 rfl (lv_at hl 3 rfl) ?_
        have hPc := hP.sub (ws' := [aN z qj 31 rQ]) [1] rfl
        refine nv_cp1 (va_runS (As := [.ref qj, .int (nI pn), .int (nI kQ)]) (rest := []) ⟨hx, hb, hml, hown, hts⟩ (c_X11_its l D z qj rQ pn kQ (by first | assumption | omega)) (va_cwS 3 hts (gS m_544 m_545 m_541 m_542) rfl rfl rfl hd_X11_its ⟨Nat.le_of_ble_eq_true rfl, Nat.le_of_ble_eq_true rfl⟩) (nv_preP hK hPc trivial _) rfl rfl hl.1 rfl (lv_room (Nat.le_of_ble_eq_true rfl)) dX11_of_47 ⟨by decide, by decide⟩) ?_
        refine lv_goto (tgt := 96) hx hb dX11_of_50 (by decide) ?_
        exact nv_mi hx hb hr hlocks hS dX11_of_96 hP trivial (by unfold ofF; first | rw [if_pos (by omega)] | rw [if_neg (by omega), if_pos (by omega)] | rw [if_neg (by omega), if_neg (by omega), if_pos (by omega)] | rw [if_neg (by omega), if_neg (by omega), if_neg (by omega)])
    · refine lv_iconst (v := (-1)) hx hb dX11_of_25 (by decide +kernel) ?_
      obtain rfl := hrel.1 (by first | exact fun q => hc10 q.1 | exact fun q => hc22 q.2)
      exact nv_mi hx hb hr hlocks hS dX11_of_26 hP trivial rfl

set_option maxHeartbeats 4000000 in
set_option maxRecDepth 100000 in
theorem c_X11_rule (l : Launch) (D : va_G) (z : Nat → ClassId) (sz : Nat) (o : Nat) (qj : Nat) (qt : Nat) (qf : Nat) (qp : Nat) (qk : Nat) (qq : Nat) (qa : Nat) (qs : Nat) (ql : Nat) (qm : Nat) (qi : Nat) (qe : Nat) (un : Nat) (ku : Nat) (ik : Nat) (tnQ : Nat) (th : Nat) (la : Nat) (wo : Nat) (cu : Nat) (fa : Nat) (fat : Nat) (rQ : Nat → Nat) (wh : Int32) (xv : Int32) (r1Q : Nat → Nat) (vQ : Int32) (hrel : ruRel rQ wh xv r1Q vQ) : CM l yX11_rule cX11_rule 5 (some .int) 1 25 0 0 [.ref o, .int wh, .int xv] D z [(o, .inr (11, [.ref qj, .ref qt, .ref qf, .ref qp, .int (nI un), .ref qk, .ref qq, .int (nI ku), .int (nI ik), .ref qa, .int (nI tnQ), .int (nI th), .int (nI la), .int (nI wo), .int (nI cu), .int (nI fa), .int (nI fat), .ref qs, .ref ql, .ref qm, .ref qi, .ref qe])), aN z qj 31 rQ] sz (fun _ => True) [(o, .inr (11, [.ref qj, .ref qt, .ref qf, .ref qp, .int (nI un), .ref qk, .ref qq, .int (nI ku), .int (nI ik), .ref qa, .int (nI tnQ), .int (nI 0), .int (nI la), .int (nI wo), .int (nI cu), .int (nI fa), .int (nI fat), .ref qs, .ref ql, .ref qm, .ref qi, .ref qe])), aN z qj 31 r1Q] (some (.int vQ)) (fun _ => True) := by
  refine Met.ofW (cc := cX11_rule) (maxL := 5) (ret := (some .int)) (by decide) rfl ?_
  intro pg e s m args below meth c s₁ B hml hv
  obtain ⟨rfl, hsz, hP, hK, hD0, hE⟩ := hv
  have hx := B.exec
  have hb := B.bytes
  have hr := B.returns
  have hts : ∀ w ∈ ALL, w.before _ s = true := fun w h => atoms_spec (ws := wA yX11_rule cX11_rule 5 (some .int)) B.pre w (List.mem_cons_of_mem _ h)
  have hown : s.vm.findClass RX11 = some m.cls := findClass_of_methodNamed B.named
  have hlocks := B.notSynchronized
  subst hsz
  have hD := hD0.self (sz := s.heap.size)
  have hA : ∀ q : Nat, s.heap.size ≤ q → va_A [(o, .inr (11, [.ref qj, .ref qt, .ref qf, .ref qp, .int (nI un), .ref qk, .ref qq, .int (nI ku), .int (nI ik), .ref qa, .int (nI tnQ), .int (nI th), .int (nI la), .int (nI wo), .int (nI cu), .int (nI fa), .int (nI fat), .ref qs, .ref ql, .ref qm, .ref qi, .ref qe])), aN z qj 31 rQ] s.heap.size q := fun q h => Or.inr h
  generalize va_A [(o, .inr (11, [.ref qj, .ref qt, .ref qf, .ref qp, .int (nI un), .ref qk, .ref qq, .int (nI ku), .int (nI ik), .ref qa, .int (nI tnQ), .int (nI th), .int (nI la), .int (nI wo), .int (nI cu), .int (nI fa), .int (nI fat), .ref qs, .ref ql, .ref qm, .ref qi, .ref qe])), aN z qj 31 rQ] s.heap.size = A at *
  have hS : va_S A s.heap s.heap [] := va_S.rf
  have hl := lv_entry ([.ref o, .int wh, .int xv]) (n := 5) (Nat.le_of_ble_eq_true rfl)
  rw [lg_entry_eq]
  generalize (lg_sl ([.ref o, .int wh, .int xv]) ++ List.replicate (5 - (lg_sl ([.ref o, .int wh, .int xv])).length) Slot.unset).toArray = ls at hl ⊢
  have hl : lv_has ls 5 [(0, .ref o), (1, .int wh), (2, .int xv)] := hl
  refine lv_aload_n hx hb dX11_rule_0 rfl (lv_at hl 0 rfl) ?_
  refine lv_iconst (v := nI 0) hx hb dX11_rule_1 (by decide +kernel) ?_
  refine va_put (D := D) (ci := 11) (v := .int (nI 0)) (ty := tyX11 11) (C := RX11) (T := TX11) (N := 22) hx hb hts iX11 tyX11 tyX11_ok nmX11 hown hK.1 hP hD hS 0 rfl rfl 11 (by decide) (hts _ m_576) (fun _ h9 => h9) rfl (tyX11_ok 11 (by decide)) rfl rfl (Nat.le_of_ble_eq_true rfl) dX11_rule_2 (fun H locs hP hD hS => ?_)
  have hP : va_P D vwCl [(o, .inr (11, [.ref qj, .ref qt, .ref qf, .ref qp, .int (nI un), .ref qk, .ref qq, .int (nI ku), .int (nI ik), .ref qa, .int (nI tnQ), .int (nI 0), .int (nI la), .int (nI wo), .int (nI cu), .int (nI fa), .int (nI fat), .ref qs, .ref ql, .ref qm, .ref qi, .ref qe])), aN z qj 31 rQ] H := hP
  have hD : va_D A [(o, .inr (11, [.ref qj, .ref qt, .ref qf, .ref qp, .int (nI un), .ref qk, .ref qq, .int (nI ku), .int (nI ik), .ref qa, .int (nI tnQ), .int (nI 0), .int (nI la), .int (nI wo), .int (nI cu), .int (nI fa), .int (nI fat), .ref qs, .ref ql, .ref qm, .ref qi, .ref qe])), aN z qj 31 rQ] := hD
  refine lv_iload_n hx hb dX11_rule_5 rfl (lv_at hl 1 rfl) ?_
  refine lv_if_ne (tgt := 21) hx hb dX11_rule_6 (by decide) (fun hc6 => ?_) (fun hc6 => ?_)
  · refine lv_iload_n hx hb dX11_rule_21 rfl (lv_at hl 1 rfl) ?_
    refine lv_iconst (v := nI 1) hx hb dX11_rule_22 (by decide +kernel) ?_
    refine lv_icmp_ne (tgt := 38) hx hb dX11_rule_23 (by decide) (fun hc23 => ?_) (fun hc23 => ?_)
    · refine lv_iload_n hx hb dX11_rule_38 rfl (lv_at hl 1 rfl) ?_
      refine lv_iconst (v := nI 2) hx hb dX11_rule_39 (by decide +kernel) ?_
      refine lv_icmp_ne (tgt := 59) hx hb dX11_rule_40 (by decide) (fun hc40 => ?_) (fun hc40 => ?_)
      · refine lv_iconst (v := nI 0) hx hb dX11_rule_59 (by decide +kernel) ?_
        refine lv_istore_n (lv' := [(3, .int (nI 0)), (0, .ref o), (1, .int wh), (2, .int xv)]) hx hb dX11_rule_60 rfl hl (by decide) rfl (fun ls hl => ?_)
        refine lv_iload_n hx hb dX11_rule_61 rfl (lv_at hl 0 rfl) ?_
        refine nv_ifne (tgt := 67) hx hb (by decide) dX11_rule_62 (by decide) (fun hc62 => ?_) (fun hc62 => ?_)
        · (exfalso; omega)
        · refine lv_iconst (v := (-1)) hx hb dX11_rule_65 (by decide +kernel) ?_
          obtain ⟨rfl, rfl⟩ := hrel.2.2.2 (by first | exact fun _ => hc62 | exact fun q => absurd q (by decide) | exact fun q => absurd (q.trans nI_0) hc6) (by first | exact fun _ => hc62 | exact fun q => absurd q (by decide) | exact fun q => absurd q hc23) (by first | exact fun _ => hc52 | exact fun q => absurd q (by decide) | exact fun q => absurd q hc40)
          exact nv_mi hx hb hr hlocks hS dX11_rule_66 hP trivial rfl
      · obtain rfl : wh = nI 2 := hc40
        refine lv_iload_n hx hb dX11_rule_43 rfl (lv_at hl 2 rfl) ?_
        refine lv_i2l hx hb dX11_rule_44 rfl ?_
        refine lv_lconst (v := 0) hx hb dX11_rule_45 (by decide +kernel) ?_
        refine lv_ldc2 (own := RX11) hx hb hown (hts _ m_578) dX11_rule_46 ?_
        have hPc := hP.sub (ws' := []) [] rfl
        refine nv_cp1 (va_runS (As := [.long xv.toInt64, .long 0, .long (9)]) (rest := []) ⟨hx, hb, hml, hown, hts⟩ (c_X11_in l D z xv.toInt64 0 (9) ) (va_cwS 3 hts (gS m_539 m_540 m_541 m_536) rfl rfl rfl hd_X11_in ⟨Nat.le_of_ble_eq_true rfl, Nat.le_of_ble_eq_true rfl⟩) (nv_preP hK hPc trivial _) rfl rfl hl.1 rfl (lv_room (Nat.le_of_ble_eq_true rfl)) dX11_rule_49 ⟨by decide, by decide⟩) ?_
        refine nv_inwl (a := 0) (b := 9) (by decide) (by decide) ?_
        refine nv_beq (tgt := 59) hx hb dX11_rule_52 (by decide) (fun hc52 => ?_) (fun hc52 => ?_)
        · refine lv_iconst (v := nI 0) hx hb dX11_rule_59 (by decide +kernel) ?_
          refine lv_istore_n (lv' := [(3, .int (nI 0)), (0, .ref o), (1, .int (nI 2)), (2, .int xv)]) hx hb dX11_rule_60 rfl hl (by decide) rfl (fun ls hl => ?_)
          refine lv_iload_n hx hb dX11_rule_61 rfl (lv_at hl 0 rfl) ?_
          refine nv_ifne (tgt := 67) hx hb (by decide) dX11_rule_62 (by decide) (fun hc62 => ?_) (fun hc62 => ?_)
          · (exfalso; omega)
          · refine lv_iconst (v := (-1)) hx hb dX11_rule_65 (by decide +kernel) ?_
            obtain ⟨rfl, rfl⟩ := hrel.2.2.2 (by first | exact fun _ => hc62 | exact fun q => absurd q (by decide) | exact fun q => absurd (q.trans nI_0) hc6) (by first | exact fun _ => hc62 | exact fun q => absurd q (by decide) | exact fun q => absurd q hc23) (by first | exact fun _ => hc52 | exact fun q => absurd q (by decide) | exact fun q => absurd q hc40)
            exact nv_mi hx hb hr hlocks hS dX11_rule_66 hP trivial rfl
        · refine lv_iconst (v := nI 1) hx hb dX11_rule_55 (by decide +kernel) ?_
          refine lv_goto (tgt := 60) hx hb dX11_rule_56 (by decide) ?_
          refine lv_istore_n (lv' := [(3, .int (nI 1)), (0, .ref o), (1, .int (nI 2)), (2, .int xv)]) hx hb dX11_rule_60 rfl hl (by decide) rfl (fun ls hl => ?_)
          refine lv_iload_n hx hb dX11_rule_61 rfl (lv_at hl 0 rfl) ?_
          refine nv_ifne (tgt := 67) hx hb (by decide) dX11_rule_62 (by decide) (fun hc62 => ?_) (fun hc62 => ?_)
          · obtain ⟨xn, rfl, x0, x1⟩ := wi_nat (b := 9) (by decide) hc52
            refine lv_aload_n hx hb dX11_rule_67 rfl (lv_at hl 1 rfl) ?_
            refine va_get (D := D) (ci := 11) (v := .ref qj) (C := RX11) (T := TX11) (N := 22) hx hb hts iX11 hown hK.1 hP 0 rfl rfl 0 (by decide) (hts _ m_523) (fun _ h9 => h9) rfl dX11_rule_68 ?_
            refine lv_iconst (v := nI 1) hx hb dX11_rule_71 (by decide +kernel) ?_
            refine lv_iload_n hx hb dX11_rule_72 rfl (lv_at hl 2 rfl) ?_
            refine nv_add hx hb dX11_rule_73 ?_
            refine nv_ald hx hb hK hP 1 rfl (by omega) (by decide) dX11_rule_74 ?_
            refine lv_istore (lv' := [(4, .int (nI (rQ (1 + 2)))), (3, .int (nI 1)), (0, .ref o), (1, .int (nI 2)), (2, .int (nI xn))]) hx hb dX11_rule_75 hl (by decide) rfl (fun ls hl => ?_)
            refine lv_aload_n hx hb dX11_rule_77 rfl (lv_at hl 2 rfl) ?_
            refine va_get (D := D) (ci := 11) (v := .ref qj) (C := RX11) (T := TX11) (N := 22) hx hb hts iX11 hown hK.1 hP 0 rfl rfl 0 (by decide) (hts _ m_523) (fun _ h9 => h9) rfl dX11_rule_78 ?_
            refine lv_iconst (v := nI 1) hx hb dX11_rule_81 (by decide +kernel) ?_
            refine lv_iload_n hx hb dX11_rule_82 rfl (lv_at hl 3 rfl) ?_
            refine nv_add hx hb dX11_rule_83 ?_
            refine lv_iload_n hx hb dX11_rule_84 rfl (lv_at hl 4 rfl) ?_
            refine nv_ast hx hb hK hP hD hS 1 rfl (by omega) (by decide) dX11_rule_85 (fun H locs hP hD hS => ?_)
            have hP : va_P D vwCl [(o, .inr (11, [.ref qj, .ref qt, .ref qf, .ref qp, .int (nI un), .ref qk, .ref qq, .int (nI ku), .int (nI ik), .ref qa, .int (nI tnQ), .int (nI 0), .int (nI la), .int (nI wo), .int (nI cu), .int (nI fa), .int (nI fat), .ref qs, .ref ql, .ref qm, .ref qi, .ref qe])), aN z qj 31 (uN rQ (1 + 2) xn)] H := hP
            have hD : va_D A [(o, .inr (11, [.ref qj, .ref qt, .ref qf, .ref qp, .int (nI un), .ref qk, .ref qq, .int (nI ku), .int (nI ik), .ref qa, .int (nI tnQ), .int (nI 0), .int (nI la), .int (nI wo), .int (nI cu), .int (nI fa), .int (nI fat), .ref qs, .ref ql, .ref qm, .ref qi, .ref qe])), aN z qj 31 (uN rQ (1 + 2) xn)] := hD
            refine lv_iload hx hb dX11_rule_86 (lv_at hl 0 rfl) ?_
            obtain ⟨rfl, rfl⟩ := hrel.2.2.1 xn rfl rfl (by omega)
            exact nv_mi hx hb hr hlocks hS dX11_rule_88 hP trivial rfl
          · (exfalso; omega)
    · obtain rfl : wh = nI 1 := hc23
      refine lv_iload_n hx hb dX11_rule_26 rfl (lv_at hl 2 rfl) ?_
      refine lv_i2l hx hb dX11_rule_27 rfl ?_
      refine lv_lconst (v := 1) hx hb dX11_rule_28 (by decide +kernel) ?_
      refine lv_ldc2 (own := RX11) hx hb hown (hts _ m_588) dX11_rule_29 ?_
      have hPc := hP.sub (ws' := []) [] rfl
      refine nv_cp1 (va_runS (As := [.long xv.toInt64, .long 1, .long (100)]) (rest := []) ⟨hx, hb, hml, hown, hts⟩ (c_X11_in l D z xv.toInt64 1 (100) ) (va_cwS 3 hts (gS m_539 m_540 m_541 m_536) rfl rfl rfl hd_X11_in ⟨Nat.le_of_ble_eq_true rfl, Nat.le_of_ble_eq_true rfl⟩) (nv_preP hK hPc trivial _) rfl rfl hl.1 rfl (lv_room (Nat.le_of_ble_eq_true rfl)) dX11_rule_32 ⟨by decide, by decide⟩) ?_
      refine nv_inwl (a := 1) (b := 100) (by decide) (by decide) ?_
      refine lv_goto (tgt := 60) hx hb dX11_rule_35 (by decide) ?_
      refine lv_istore_n (lv' := [(3, .int (bI (wi xv 1 100))), (0, .ref o), (1, .int (nI 1)), (2, .int xv)]) hx hb dX11_rule_60 rfl hl (by decide) rfl (fun ls hl => ?_)
      refine lv_iload_n hx hb dX11_rule_61 rfl (lv_at hl 0 rfl) ?_
      refine nv_bne (tgt := 67) hx hb dX11_rule_62 (by decide) (fun hc62 => ?_) (fun hc62 => ?_)
      · obtain ⟨xn, rfl, x0, x1⟩ := wi_nat (b := 100) (by decide) hc62
        refine lv_aload_n hx hb dX11_rule_67 rfl (lv_at hl 1 rfl) ?_
        refine va_get (D := D) (ci := 11) (v := .ref qj) (C := RX11) (T := TX11) (N := 22) hx hb hts iX11 hown hK.1 hP 0 rfl rfl 0 (by decide) (hts _ m_523) (fun _ h9 => h9) rfl dX11_rule_68 ?_
        refine lv_iconst (v := nI 1) hx hb dX11_rule_71 (by decide +kernel) ?_
        refine lv_iload_n hx hb dX11_rule_72 rfl (lv_at hl 2 rfl) ?_
        refine nv_add hx hb dX11_rule_73 ?_
        refine nv_ald hx hb hK hP 1 rfl (by omega) (by decide) dX11_rule_74 ?_
        refine lv_istore (lv' := [(4, .int (nI (rQ (1 + 1)))), (3, .int (bI (wi (nI xn) 1 100))), (0, .ref o), (1, .int (nI 1)), (2, .int (nI xn))]) hx hb dX11_rule_75 hl (by decide) rfl (fun ls hl => ?_)
        refine lv_aload_n hx hb dX11_rule_77 rfl (lv_at hl 2 rfl) ?_
        refine va_get (D := D) (ci := 11) (v := .ref qj) (C := RX11) (T := TX11) (N := 22) hx hb hts iX11 hown hK.1 hP 0 rfl rfl 0 (by decide) (hts _ m_523) (fun _ h9 => h9) rfl dX11_rule_78 ?_
        refine lv_iconst (v := nI 1) hx hb dX11_rule_81 (by decide +kernel) ?_
        refine lv_iload_n hx hb dX11_rule_82 rfl (lv_at hl 3 rfl) ?_
        refine nv_add hx hb dX11_rule_83 ?_
        refine lv_iload_n hx hb dX11_rule_84 rfl (lv_at hl 4 rfl) ?_
        refine nv_ast hx hb hK hP hD hS 1 rfl (by omega) (by decide) dX11_rule_85 (fun H locs hP hD hS => ?_)
        have hP : va_P D vwCl [(o, .inr (11, [.ref qj, .ref qt, .ref qf, .ref qp, .int (nI un), .ref qk, .ref qq, .int (nI ku), .int (nI ik), .ref qa, .int (nI tnQ), .int (nI 0), .int (nI la), .int (nI wo), .int (nI cu), .int (nI fa), .int (nI fat), .ref qs, .ref ql, .ref qm, .ref qi, .ref qe])), aN z qj 31 (uN rQ (1 + 1) xn)] H := hP
        have hD : va_D A [(o, .inr (11, [.ref qj, .ref qt, .ref qf, .ref qp, .int (nI un), .ref qk, .ref qq, .int (nI ku), .int (nI ik), .ref qa, .int (nI tnQ), .int (nI 0), .int (nI la), .int (nI wo), .int (nI cu), .int (nI fa), .int (nI fat), .ref qs, .ref ql, .ref qm, .ref qi, .ref qe])), aN z qj 31 (uN rQ (1 + 1) xn)] := hD
        refine lv_iload hx hb dX11_rule_86 (lv_at hl 0 rfl) ?_
        obtain ⟨rfl, rfl⟩ := hrel.2.1 xn rfl rfl (by omega) (by omega)
        exact nv_mi hx hb hr hlocks hS dX11_rule_88 hP trivial rfl
      · refine lv_iconst (v := (-1)) hx hb dX11_rule_65 (by decide +kernel) ?_
        obtain ⟨rfl, rfl⟩ := hrel.2.2.2 (by first | exact fun _ => hc62 | exact fun q => absurd q (by decide) | exact fun q => absurd (q.trans nI_0) hc6) (by first | exact fun _ => hc62 | exact fun q => absurd q (by decide) | exact fun q => absurd q hc23) (by first | exact fun _ => hc52 | exact fun q => absurd q (by decide) | exact fun q => absurd q hc40)
        exact nv_mi hx hb hr hlocks hS dX11_rule_66 hP trivial rfl
  · obtain rfl : wh = nI 0 := hc6.trans nI_0.symm
    refine lv_iload_n hx hb dX11_rule_9 rfl (lv_at hl 2 rfl) ?_
    refine lv_i2l hx hb dX11_rule_10 rfl ?_
    refine lv_lconst (v := 1) hx hb dX11_rule_11 (by decide +kernel) ?_
    refine lv_ldc2 (own := RX11) hx hb hown (hts _ m_587) dX11_rule_12 ?_
    have hPc := hP.sub (ws' := []) [] rfl
    refine nv_cp1 (va_runS (As := [.long xv.toInt64, .long 1, .long (9999)]) (rest := []) ⟨hx, hb, hml, hown, hts⟩ (c_X11_in l D z xv.toInt64 1 (9999) ) (va_cwS 3 hts (gS m_539 m_540 m_541 m_536) rfl rfl rfl hd_X11_in ⟨Nat.le_of_ble_eq_true rfl, Nat.le_of_ble_eq_true rfl⟩) (nv_preP hK hPc trivial _) rfl rfl hl.1 rfl (lv_room (Nat.le_of_ble_eq_true rfl)) dX11_rule_15 ⟨by decide, by decide⟩) ?_
    refine nv_inwl (a := 1) (b := 9999) (by decide) (by decide) ?_
    refine lv_goto (tgt := 60) hx hb dX11_rule_18 (by decide) ?_
    refine lv_istore_n (lv' := [(3, .int (bI (wi xv 1 9999))), (0, .ref o), (1, .int (nI 0)), (2, .int xv)]) hx hb dX11_rule_60 rfl hl (by decide) rfl (fun ls hl => ?_)
    refine lv_iload_n hx hb dX11_rule_61 rfl (lv_at hl 0 rfl) ?_
    refine nv_bne (tgt := 67) hx hb dX11_rule_62 (by decide) (fun hc62 => ?_) (fun hc62 => ?_)
    · obtain ⟨xn, rfl, x0, x1⟩ := wi_nat (b := 9999) (by decide) hc62
      refine lv_aload_n hx hb dX11_rule_67 rfl (lv_at hl 1 rfl) ?_
      refine va_get (D := D) (ci := 11) (v := .ref qj) (C := RX11) (T := TX11) (N := 22) hx hb hts iX11 hown hK.1 hP 0 rfl rfl 0 (by decide) (hts _ m_523) (fun _ h9 => h9) rfl dX11_rule_68 ?_
      refine lv_iconst (v := nI 1) hx hb dX11_rule_71 (by decide +kernel) ?_
      refine lv_iload_n hx hb dX11_rule_72 rfl (lv_at hl 2 rfl) ?_
      refine nv_add hx hb dX11_rule_73 ?_
      refine nv_ald hx hb hK hP 1 rfl (by omega) (by decide) dX11_rule_74 ?_
      refine lv_istore (lv' := [(4, .int (nI (rQ (1 + 0)))), (3, .int (bI (wi (nI xn) 1 9999))), (0, .ref o), (1, .int (nI 0)), (2, .int (nI xn))]) hx hb dX11_rule_75 hl (by decide) rfl (fun ls hl => ?_)
      refine lv_aload_n hx hb dX11_rule_77 rfl (lv_at hl 2 rfl) ?_
      refine va_get (D := D) (ci := 11) (v := .ref qj) (C := RX11) (T := TX11) (N := 22) hx hb hts iX11 hown hK.1 hP 0 rfl rfl 0 (by decide) (hts _ m_523) (fun _ h9 => h9) rfl dX11_rule_78 ?_
      refine lv_iconst (v := nI 1) hx hb dX11_rule_81 (by decide +kernel) ?_
      refine lv_iload_n hx hb dX11_rule_82 rfl (lv_at hl 3 rfl) ?_
      refine nv_add hx hb dX11_rule_83 ?_
      refine lv_iload_n hx hb dX11_rule_84 rfl (lv_at hl 4 rfl) ?_
      refine nv_ast hx hb hK hP hD hS 1 rfl (by omega) (by decide) dX11_rule_85 (fun H locs hP hD hS => ?_)
      have hP : va_P D vwCl [(o, .inr (11, [.ref qj, .ref qt, .ref qf, .ref qp, .int (nI un), .ref qk, .ref qq, .int (nI ku), .int (nI ik), .ref qa, .int (nI tnQ), .int (nI 0), .int (nI la), .int (nI wo), .int (nI cu), .int (nI fa), .int (nI fat), .ref qs, .ref ql, .ref qm, .ref qi, .ref qe])), aN z qj 31 (uN rQ (1 + 0) xn)] H := hP
      have hD : va_D A [(o, .inr (11, [.ref qj, .ref qt, .ref qf, .ref qp, .int (nI un), .ref qk, .ref qq, .int (nI ku), .int (nI ik), .ref qa, .int (nI tnQ), .int (nI 0), .int (nI la), .int (nI wo), .int (nI cu), .int (nI fa), .int (nI fat), .ref qs, .ref ql, .ref qm, .ref qi, .ref qe])), aN z qj 31 (uN rQ (1 + 0) xn)] := hD
      refine lv_iload hx hb dX11_rule_86 (lv_at hl 0 rfl) ?_
      obtain ⟨rfl, rfl⟩ := hrel.1 xn rfl rfl (by omega) (by omega)
      exact nv_mi hx hb hr hlocks hS dX11_rule_88 hP trivial rfl
    · refine lv_iconst (v := (-1)) hx hb dX11_rule_65 (by decide +kernel) ?_
      obtain ⟨rfl, rfl⟩ := hrel.2.2.2 (by first | exact fun _ => hc62 | exact fun q => absurd q (by decide) | exact fun q => absurd (q.trans nI_0) hc6) (by first | exact fun _ => hc62 | exact fun q => absurd q (by decide) | exact fun q => absurd q hc23) (by first | exact fun _ => hc52 | exact fun q => absurd q (by decide) | exact fun q => absurd q hc40)
      exact nv_mi hx hb hr hlocks hS dX11_rule_66 hP trivial rfl

set_option maxHeartbeats 4000000 in
set_option maxRecDepth 100000 in
theorem c_X11_hope (l : Launch) (D : va_G) (z : Nat → ClassId) (sz : Nat) (o : Nat) (qj : Nat) (qt : Nat) (qf : Nat) (qp : Nat) (qk : Nat) (qq : Nat) (qa : Nat) (qs : Nat) (ql : Nat) (qm : Nat) (qi : Nat) (qe : Nat) (un : Nat) (ku : Nat) (ik : Nat) (tnQ : Nat) (th : Nat) (la : Nat) (wo : Nat) (cu : Nat) (fa : Nat) (fat : Nat) (rQ : Nat → Nat) (pv : Int32) (xv : Int32) (r1Q : Nat → Nat) (vQ : Int32) (o6 : rQ 6 ≤ 6) (hrel : hpRel rQ pv xv r1Q vQ) : CM l yX11_hope cX11_hope 4 (some .int) 2 46 0 0 [.ref o, .int pv, .int xv] D z [(o, .inr (11, [.ref qj, .ref qt, .ref qf, .ref qp, .int (nI un), .ref qk, .ref qq, .int (nI ku), .int (nI ik), .ref qa, .int (nI tnQ), .int (nI th), .int (nI la), .int (nI wo), .int (nI cu), .int (nI fa), .int (nI fat), .ref qs, .ref ql, .ref qm, .ref qi, .ref qe])), aN z qj 31 rQ] sz (fun _ => True) [(o, .inr (11, [.ref qj, .ref qt, .ref qf, .ref qp, .int (nI un), .ref qk, .ref qq, .int (nI ku), .int (nI ik), .ref qa, .int (nI tnQ), .int (nI 0), .int (nI la), .int (nI wo), .int (nI cu), .int (nI fa), .int (nI fat), .ref qs, .ref ql, .ref qm, .ref qi, .ref qe])), aN z qj 31 r1Q] (some (.int vQ)) (fun _ => True) := by
  refine Met.ofW (cc := cX11_hope) (maxL := 4) (ret := (some .int)) (by decide) rfl ?_
  intro pg e s m args below meth c s₁ B hml hv
  obtain ⟨rfl, hsz, hP, hK, hD0, hE⟩ := hv
  have hx := B.exec
  have hb := B.bytes
  have hr := B.returns
  have hts : ∀ w ∈ ALL, w.before _ s = true := fun w h => atoms_spec (ws := wA yX11_hope cX11_hope 4 (some .int)) B.pre w (List.mem_cons_of_mem _ h)
  have hown : s.vm.findClass RX11 = some m.cls := findClass_of_methodNamed B.named
  have hlocks := B.notSynchronized
  subst hsz
  have hD := hD0.self (sz := s.heap.size)
  have hA : ∀ q : Nat, s.heap.size ≤ q → va_A [(o, .inr (11, [.ref qj, .ref qt, .ref qf, .ref qp, .int (nI un), .ref qk, .ref qq, .int (nI ku), .int (nI ik), .ref qa, .int (nI tnQ), .int (nI th), .int (nI la), .int (nI wo), .int (nI cu), .int (nI fa), .int (nI fat), .ref qs, .ref ql, .ref qm, .ref qi, .ref qe])), aN z qj 31 rQ] s.heap.size q := fun q h => Or.inr h
  generalize va_A [(o, .inr (11, [.ref qj, .ref qt, .ref qf, .ref qp, .int (nI un), .ref qk, .ref qq, .int (nI ku), .int (nI ik), .ref qa, .int (nI tnQ), .int (nI th), .int (nI la), .int (nI wo), .int (nI cu), .int (nI fa), .int (nI fat), .ref qs, .ref ql, .ref qm, .ref qi, .ref qe])), aN z qj 31 rQ] s.heap.size = A at *
  have hS : va_S A s.heap s.heap [] := va_S.rf
  have hl := lv_entry ([.ref o, .int pv, .int xv]) (n := 4) (Nat.le_of_ble_eq_true rfl)
  rw [lg_entry_eq]
  generalize (lg_sl ([.ref o, .int pv, .int xv]) ++ List.replicate (4 - (lg_sl ([.ref o, .int pv, .int xv])).length) Slot.unset).toArray = ls at hl ⊢
  have hl : lv_has ls 4 [(0, .ref o), (1, .int pv), (2, .int xv)] := hl
  refine lv_aload_n hx hb dX11_hope_0 rfl (lv_at hl 0 rfl) ?_
  refine lv_iconst (v := nI 0) hx hb dX11_hope_1 (by decide +kernel) ?_
  refine va_put (D := D) (ci := 11) (v := .int (nI 0)) (ty := tyX11 11) (C := RX11) (T := TX11) (N := 22) hx hb hts iX11 tyX11 tyX11_ok nmX11 hown hK.1 hP hD hS 0 rfl rfl 11 (by decide) (hts _ m_576) (fun _ h9 => h9) rfl (tyX11_ok 11 (by decide)) rfl rfl (Nat.le_of_ble_eq_true rfl) dX11_hope_2 (fun H locs hP hD hS => ?_)
  have hP : va_P D vwCl [(o, .inr (11, [.ref qj, .ref qt, .ref qf, .ref qp, .int (nI un), .ref qk, .ref qq, .int (nI ku), .int (nI ik), .ref qa, .int (nI tnQ), .int (nI 0), .int (nI la), .int (nI wo), .int (nI cu), .int (nI fa), .int (nI fat), .ref qs, .ref ql, .ref qm, .ref qi, .ref qe])), aN z qj 31 rQ] H := hP
  have hD : va_D A [(o, .inr (11, [.ref qj, .ref qt, .ref qf, .ref qp, .int (nI un), .ref qk, .ref qq, .int (nI ku), .int (nI ik), .ref qa, .int (nI tnQ), .int (nI 0), .int (nI la), .int (nI wo), .int (nI cu), .int (nI fa), .int (nI fat), .ref qs, .ref ql, .ref qm, .ref qi, .ref qe])), aN z qj 31 rQ] := hD
  refine lv_aload_n hx hb dX11_hope_5 rfl (lv_at hl 0 rfl) ?_
  refine lv_iload_n hx hb dX11_hope_6 rfl (lv_at hl 1 rfl) ?_
  have hPc := hP.sub (ws' := [(o, .inr (11, [.ref qj, .ref qt, .ref qf, .ref qp, .int (nI un), .ref qk, .ref qq, .int (nI ku), .int (nI ik), .ref qa, .int (nI tnQ), .int (nI 0), .int (nI la), .int (nI wo), .int (nI cu), .int (nI fa), .int (nI fat), .ref qs, .ref ql, .ref qm, .ref qi, .ref qe])), aN z qj 31 rQ]) [0, 1] rfl
  refine nv_cp1 (va_runV (As := [.int pv]) (rest := []) ⟨hx, hb, hml, hown, hts⟩ (c_X11_isPerson l D z o qj qt qf qp qk qq qa qs ql qm qi qe un ku ik tnQ 0 la wo cu fa fat rQ pv (by first | assumption | omega)) (cwV 1 hts (gV m_582 m_583 m_584 m_541 m_538) rfl rfl rfl ⟨rfl, hd_X11_isPerson⟩ ⟨Nat.le_of_ble_eq_true rfl, Nat.le_of_ble_eq_true rfl⟩) (nv_prePV (ci := 11) (q0 := 0) hK hPc trivial rfl rfl) rfl rfl hl.1 rfl (lv_room (Nat.le_of_ble_eq_true rfl)) dX11_hope_7 ⟨by decide, by decide⟩) ?_
  refine nv_beq (tgt := 23) hx hb dX11_hope_10 (by decide) (fun hc10 => ?_) (fun hc10 => ?_)
  · refine lv_iconst (v := (-1)) hx hb dX11_hope_23 (by decide +kernel) ?_
    obtain ⟨rfl, rfl⟩ := hrel.1 (by first | exact fun q => hc10 q.1 | exact fun q => hc20 q.2)
    exact nv_mi hx hb hr hlocks hS dX11_hope_24 hP trivial rfl
  · refine lv_iload_n hx hb dX11_hope_13 rfl (lv_at hl 2 rfl) ?_
    refine lv_i2l hx hb dX11_hope_14 rfl ?_
    refine lv_lconst (v := 0) hx hb dX11_hope_15 (by decide +kernel) ?_
    refine lv_lconst (v := 1) hx hb dX11_hope_16 (by decide +kernel) ?_
    have hPc := hP.sub (ws' := []) [] rfl
    refine nv_cp1 (va_runS (As := [.long xv.toInt64, .long 0, .long 1]) (rest := []) ⟨hx, hb, hml, hown, hts⟩ (c_X11_in l D z xv.toInt64 0 1 ) (va_cwS 3 hts (gS m_539 m_540 m_541 m_536) rfl rfl rfl hd_X11_in ⟨Nat.le_of_ble_eq_true rfl, Nat.le_of_ble_eq_true rfl⟩) (nv_preP hK hPc trivial _) rfl rfl hl.1 rfl (lv_room (Nat.le_of_ble_eq_true rfl)) dX11_hope_17 ⟨by decide, by decide⟩) ?_
    refine nv_inwl (a := 0) (b := 1) (by decide) (by decide) ?_
    refine nv_bne (tgt := 25) hx hb dX11_hope_20 (by decide) (fun hc20 => ?_) (fun hc20 => ?_)
    · obtain ⟨pn, rfl, pn0, pn1⟩ := wi_nat (b := rQ 6 - 1) (by decide) (show wi pv 0 ((rQ 6 - 1 : Nat) : Int) from ⟨hc10.1, by have := hc10.1; have := hc10.2; omega⟩)
      have hpn : pn < rQ 6 := by have h8 := hc10; rw [wi_nI (by omega)] at h8; omega
      obtain ⟨kQ, rfl, k0, k1⟩ := wi_nat (b := 1) (by decide) hc20
      obtain ⟨rfl, rfl⟩ := hrel.2 pn kQ rfl rfl hpn (by omega)
      refine lv_aload_n hx hb dX11_hope_25 rfl (lv_at hl 0 rfl) ?_
      refine va_get (D := D) (ci := 11) (v := .ref qj) (C := RX11) (T := TX11) (N := 22) hx hb hts iX11 hown hK.1 hP 0 rfl rfl 0 (by decide) (hts _ m_523) (fun _ h9 => h9) rfl dX11_hope_26 ?_
      refine lv_iload_n hx hb dX11_hope_29 rfl (lv_at hl 1 rfl) ?_
      refine lv_iconst (v := nI 3) hx hb dX11_hope_30 (by decide +kernel) ?_
      have hPc := hP.sub (ws' := [aN z qj 31 rQ]) [1] rfl
      refine nv_cp1 (va_runS (As := [.ref qj, .int (nI pn), .int (nI 3)]) (rest := []) ⟨hx, hb, hml, hown, hts⟩ (c_X11_its l D z qj rQ pn 3 (by first | assumption | omega)) (va_cwS 3 hts (gS m_544 m_545 m_541 m_542) rfl rfl rfl hd_X11_its ⟨Nat.le_of_ble_eq_true rfl, Nat.le_of_ble_eq_true rfl⟩) (nv_preP hK hPc trivial _) rfl rfl hl.1 rfl (lv_room (Nat.le_of_ble_eq_true rfl)) dX11_hope_31 ⟨by decide, by decide⟩) ?_
      refine lv_istore_n (lv' := [(3, .int (nI (rQ (7 + 4 * pn + 3)))), (0, .ref o), (1, .int (nI pn)), (2, .int (nI kQ))]) hx hb dX11_hope_34 rfl hl (by decide) rfl (fun ls hl => ?_)
      refine lv_aload_n hx hb dX11_hope_35 rfl (lv_at hl 1 rfl) ?_
      refine va_get (D := D) (ci := 11) (v := .ref qj) (C := RX11) (T := TX11) (N := 22) hx hb hts iX11 hown hK.1 hP 0 rfl rfl 0 (by decide) (hts _ m_523) (fun _ h9 => h9) rfl dX11_hope_36 ?_
      refine lv_bipush (v := nI 7) hx hb dX11_hope_39 (by decide +kernel) ?_
      refine lv_iconst (v := nI 4) hx hb dX11_hope_41 (by decide +kernel) ?_
      refine lv_iload_n hx hb dX11_hope_42 rfl (lv_at hl 2 rfl) ?_
      refine nv_mul hx hb dX11_hope_43 ?_
      refine nv_add hx hb dX11_hope_44 ?_
      refine lv_iconst (v := nI 3) hx hb dX11_hope_45 (by decide +kernel) ?_
      refine nv_add hx hb dX11_hope_46 ?_
      refine lv_iload_n hx hb dX11_hope_47 rfl (lv_at hl 3 rfl) ?_
      refine nv_ast hx hb hK hP hD hS 1 rfl (by omega) (by decide) dX11_hope_48 (fun H locs hP hD hS => ?_)
      have hP : va_P D vwCl [(o, .inr (11, [.ref qj, .ref qt, .ref qf, .ref qp, .int (nI un), .ref qk, .ref qq, .int (nI ku), .int (nI ik), .ref qa, .int (nI tnQ), .int (nI 0), .int (nI la), .int (nI wo), .int (nI cu), .int (nI fa), .int (nI fat), .ref qs, .ref ql, .ref qm, .ref qi, .ref qe])), aN z qj 31 (uN rQ (7 + (4 * pn) + 3) kQ)] H := hP
      have hD : va_D A [(o, .inr (11, [.ref qj, .ref qt, .ref qf, .ref qp, .int (nI un), .ref qk, .ref qq, .int (nI ku), .int (nI ik), .ref qa, .int (nI tnQ), .int (nI 0), .int (nI la), .int (nI wo), .int (nI cu), .int (nI fa), .int (nI fat), .ref qs, .ref ql, .ref qm, .ref qi, .ref qe])), aN z qj 31 (uN rQ (7 + (4 * pn) + 3) kQ)] := hD
      refine lv_iload_n hx hb dX11_hope_49 rfl (lv_at hl 0 rfl) ?_
      exact nv_mi hx hb hr hlocks hS dX11_hope_50 hP trivial rfl
    · refine lv_iconst (v := (-1)) hx hb dX11_hope_23 (by decide +kernel) ?_
      obtain ⟨rfl, rfl⟩ := hrel.1 (by first | exact fun q => hc10 q.1 | exact fun q => hc20 q.2)
      exact nv_mi hx hb hr hlocks hS dX11_hope_24 hP trivial rfl

set_option maxHeartbeats 4000000 in
set_option maxRecDepth 100000 in
theorem c_X11_type (l : Launch) (D : va_G) (z : Nat → ClassId) (sz : Nat) (o : Nat) (qj : Nat) (qt : Nat) (qf : Nat) (qp : Nat) (qk : Nat) (qq : Nat) (qa : Nat) (qs : Nat) (ql : Nat) (qm : Nat) (qi : Nat) (qe : Nat) (un : Nat) (ku : Nat) (ik : Nat) (tnQ : Nat) (th : Nat) (la : Nat) (wo : Nat) (cu : Nat) (fa : Nat) (fat : Nat) (ta : Nat → Nat) (xv : Int32) (ta1 : Nat → Nat) (tn1 : Nat) (vQ : Int32) (ht : tnQ ≤ 60) (hrel : tyRel ta tnQ xv ta1 tn1 vQ) : CM l yX11_type cX11_type 2 (some .int) 1 25 0 0 [.ref o, .int xv] D z [(o, .inr (11, [.ref qj, .ref qt, .ref qf, .ref qp, .int (nI un), .ref qk, .ref qq, .int (nI ku), .int (nI ik), .ref qa, .int (nI tnQ), .int (nI th), .int (nI la), .int (nI wo), .int (nI cu), .int (nI fa), .int (nI fat), .ref qs, .ref ql, .ref qm, .ref qi, .ref qe])), aN z qa 60 ta] sz (fun _ => True) [(o, .inr (11, [.ref qj, .ref qt, .ref qf, .ref qp, .int (nI un), .ref qk, .ref qq, .int (nI ku), .int (nI ik), .ref qa, .int (nI tn1), .int (nI 0), .int (nI la), .int (nI wo), .int (nI cu), .int (nI fa), .int (nI fat), .ref qs, .ref ql, .ref qm, .ref qi, .ref qe])), aN z qa 60 ta1] (some (.int vQ)) (fun _ => True) := by
  refine Met.ofW (cc := cX11_type) (maxL := 2) (ret := (some .int)) (by decide) rfl ?_
  intro pg e s m args below meth c s₁ B hml hv
  obtain ⟨rfl, hsz, hP, hK, hD0, hE⟩ := hv
  have hx := B.exec
  have hb := B.bytes
  have hr := B.returns
  have hts : ∀ w ∈ ALL, w.before _ s = true := fun w h => atoms_spec (ws := wA yX11_type cX11_type 2 (some .int)) B.pre w (List.mem_cons_of_mem _ h)
  have hown : s.vm.findClass RX11 = some m.cls := findClass_of_methodNamed B.named
  have hlocks := B.notSynchronized
  subst hsz
  have hD := hD0.self (sz := s.heap.size)
  have hA : ∀ q : Nat, s.heap.size ≤ q → va_A [(o, .inr (11, [.ref qj, .ref qt, .ref qf, .ref qp, .int (nI un), .ref qk, .ref qq, .int (nI ku), .int (nI ik), .ref qa, .int (nI tnQ), .int (nI th), .int (nI la), .int (nI wo), .int (nI cu), .int (nI fa), .int (nI fat), .ref qs, .ref ql, .ref qm, .ref qi, .ref qe])), aN z qa 60 ta] s.heap.size q := fun q h => Or.inr h
  generalize va_A [(o, .inr (11, [.ref qj, .ref qt, .ref qf, .ref qp, .int (nI un), .ref qk, .ref qq, .int (nI ku), .int (nI ik), .ref qa, .int (nI tnQ), .int (nI th), .int (nI la), .int (nI wo), .int (nI cu), .int (nI fa), .int (nI fat), .ref qs, .ref ql, .ref qm, .ref qi, .ref qe])), aN z qa 60 ta] s.heap.size = A at *
  have hS : va_S A s.heap s.heap [] := va_S.rf
  have hl := lv_entry ([.ref o, .int xv]) (n := 2) (Nat.le_of_ble_eq_true rfl)
  rw [lg_entry_eq]
  generalize (lg_sl ([.ref o, .int xv]) ++ List.replicate (2 - (lg_sl ([.ref o, .int xv])).length) Slot.unset).toArray = ls at hl ⊢
  have hl : lv_has ls 2 [(0, .ref o), (1, .int xv)] := hl
  refine lv_aload_n hx hb dX11_type_0 rfl (lv_at hl 0 rfl) ?_
  refine lv_iconst (v := nI 0) hx hb dX11_type_1 (by decide +kernel) ?_
  refine va_put (D := D) (ci := 11) (v := .int (nI 0)) (ty := tyX11 11) (C := RX11) (T := TX11) (N := 22) hx hb hts iX11 tyX11 tyX11_ok nmX11 hown hK.1 hP hD hS 0 rfl rfl 11 (by decide) (hts _ m_576) (fun _ h9 => h9) rfl (tyX11_ok 11 (by decide)) rfl rfl (Nat.le_of_ble_eq_true rfl) dX11_type_2 (fun H locs hP hD hS => ?_)
  have hP : va_P D vwCl [(o, .inr (11, [.ref qj, .ref qt, .ref qf, .ref qp, .int (nI un), .ref qk, .ref qq, .int (nI ku), .int (nI ik), .ref qa, .int (nI tnQ), .int (nI 0), .int (nI la), .int (nI wo), .int (nI cu), .int (nI fa), .int (nI fat), .ref qs, .ref ql, .ref qm, .ref qi, .ref qe])), aN z qa 60 ta] H := hP
  have hD : va_D A [(o, .inr (11, [.ref qj, .ref qt, .ref qf, .ref qp, .int (nI un), .ref qk, .ref qq, .int (nI ku), .int (nI ik), .ref qa, .int (nI tnQ), .int (nI 0), .int (nI la), .int (nI wo), .int (nI cu), .int (nI fa), .int (nI fat), .ref qs, .ref ql, .ref qm, .ref qi, .ref qe])), aN z qa 60 ta] := hD
  refine lv_iload_n hx hb dX11_type_5 rfl (lv_at hl 1 rfl) ?_
  refine lv_i2l hx hb dX11_type_6 rfl ?_
  refine lv_ldc2 (own := RX11) hx hb hown (hts _ m_591) dX11_type_7 ?_
  refine lv_ldc2 (own := RX11) hx hb hown (hts _ m_592) dX11_type_10 ?_
  have hPc := hP.sub (ws' := []) [] rfl
  refine nv_cp1 (va_runS (As := [.long xv.toInt64, .long (32), .long (126)]) (rest := []) ⟨hx, hb, hml, hown, hts⟩ (c_X11_in l D z xv.toInt64 (32) (126) ) (va_cwS 3 hts (gS m_539 m_540 m_541 m_536) rfl rfl rfl hd_X11_in ⟨Nat.le_of_ble_eq_true rfl, Nat.le_of_ble_eq_true rfl⟩) (nv_preP hK hPc trivial _) rfl rfl hl.1 rfl (lv_room (Nat.le_of_ble_eq_true rfl)) dX11_type_13 ⟨by decide, by decide⟩) ?_
  refine nv_inwl (a := 32) (b := 126) (by decide) (by decide) ?_
  refine nv_bne (tgt := 21) hx hb dX11_type_16 (by decide) (fun hc16 => ?_) (fun hc16 => ?_)
  · refine lv_aload_n hx hb dX11_type_21 rfl (lv_at hl 0 rfl) ?_
    refine va_get (D := D) (ci := 11) (v := .int (nI tnQ)) (C := RX11) (T := TX11) (N := 22) hx hb hts iX11 hown hK.1 hP 0 rfl rfl 10 (by decide) (hts _ m_593) (fun _ h9 => h9) rfl dX11_type_22 ?_
    refine lv_bipush (v := nI 60) hx hb dX11_type_25 (by decide +kernel) ?_
    refine nv_ne (tgt := 33) hx hb (by omega) (by omega) dX11_type_27 (by decide) (fun hc27 => ?_) (fun hc27 => ?_)
    · obtain ⟨xn, rfl, x0, x1⟩ := wi_nat (b := 126) (by decide) hc16
      obtain ⟨rfl, rfl, rfl⟩ := hrel.2.2 xn rfl (by omega) (by omega) hc27
      refine lv_aload_n hx hb dX11_type_33 rfl (lv_at hl 0 rfl) ?_
      refine va_get (D := D) (ci := 11) (v := .ref qa) (C := RX11) (T := TX11) (N := 22) hx hb hts iX11 hown hK.1 hP 0 rfl rfl 9 (by decide) (hts _ m_529) (fun _ h9 => h9) rfl dX11_type_34 ?_
      refine lv_aload_n hx hb dX11_type_37 rfl (lv_at hl 0 rfl) ?_
      refine va_get (D := D) (ci := 11) (v := .int (nI tnQ)) (C := RX11) (T := TX11) (N := 22) hx hb hts iX11 hown hK.1 hP 0 rfl rfl 10 (by decide) (hts _ m_593) (fun _ h9 => h9) rfl dX11_type_38 ?_
      refine lv_iload_n hx hb dX11_type_41 rfl (lv_at hl 1 rfl) ?_
      refine nv_ast hx hb hK hP hD hS 1 rfl (by omega) (by decide) dX11_type_42 (fun H locs hP hD hS => ?_)
      have hP : va_P D vwCl [(o, .inr (11, [.ref qj, .ref qt, .ref qf, .ref qp, .int (nI un), .ref qk, .ref qq, .int (nI ku), .int (nI ik), .ref qa, .int (nI tnQ), .int (nI 0), .int (nI la), .int (nI wo), .int (nI cu), .int (nI fa), .int (nI fat), .ref qs, .ref ql, .ref qm, .ref qi, .ref qe])), aN z qa 60 (uN ta tnQ xn)] H := hP
      have hD : va_D A [(o, .inr (11, [.ref qj, .ref qt, .ref qf, .ref qp, .int (nI un), .ref qk, .ref qq, .int (nI ku), .int (nI ik), .ref qa, .int (nI tnQ), .int (nI 0), .int (nI la), .int (nI wo), .int (nI cu), .int (nI fa), .int (nI fat), .ref qs, .ref ql, .ref qm, .ref qi, .ref qe])), aN z qa 60 (uN ta tnQ xn)] := hD
      refine lv_aload_n hx hb dX11_type_43 rfl (lv_at hl 0 rfl) ?_
      refine lv_dup hx hb dX11_type_44 rfl ?_
      refine va_get (D := D) (ci := 11) (v := .int (nI tnQ)) (C := RX11) (T := TX11) (N := 22) hx hb hts iX11 hown hK.1 hP 0 rfl rfl 10 (by decide) (hts _ m_593) (fun _ h9 => h9) rfl dX11_type_45 ?_
      refine lv_iconst (v := nI 1) hx hb dX11_type_48 (by decide +kernel) ?_
      refine nv_add hx hb dX11_type_49 ?_
      refine va_put (D := D) (ci := 11) (v := .int (nI (tnQ + 1))) (ty := tyX11 10) (C := RX11) (T := TX11) (N := 22) hx hb hts iX11 tyX11 tyX11_ok nmX11 hown hK.1 hP hD hS 0 rfl rfl 10 (by decide) (hts _ m_593) (fun _ h9 => h9) rfl (tyX11_ok 10 (by decide)) rfl rfl (Nat.le_of_ble_eq_true rfl) dX11_type_50 (fun H locs hP hD hS => ?_)
      have hP : va_P D vwCl [(o, .inr (11, [.ref qj, .ref qt, .ref qf, .ref qp, .int (nI un), .ref qk, .ref qq, .int (nI ku), .int (nI ik), .ref qa, .int (nI (tnQ + 1)), .int (nI 0), .int (nI la), .int (nI wo), .int (nI cu), .int (nI fa), .int (nI fat), .ref qs, .ref ql, .ref qm, .ref qi, .ref qe])), aN z qa 60 (uN ta tnQ xn)] H := hP
      have hD : va_D A [(o, .inr (11, [.ref qj, .ref qt, .ref qf, .ref qp, .int (nI un), .ref qk, .ref qq, .int (nI ku), .int (nI ik), .ref qa, .int (nI (tnQ + 1)), .int (nI 0), .int (nI la), .int (nI wo), .int (nI cu), .int (nI fa), .int (nI fat), .ref qs, .ref ql, .ref qm, .ref qi, .ref qe])), aN z qa 60 (uN ta tnQ xn)] := hD
      refine lv_aload_n hx hb dX11_type_53 rfl (lv_at hl 0 rfl) ?_
      refine va_get (D := D) (ci := 11) (v := .int (nI (tnQ + 1))) (C := RX11) (T := TX11) (N := 22) hx hb hts iX11 hown hK.1 hP 0 rfl rfl 10 (by decide) (hts _ m_593) (fun _ h9 => h9) rfl dX11_type_54 ?_
      exact nv_mi hx hb hr hlocks hS dX11_type_57 hP trivial rfl
    · refine lv_bipush (v := (-3)) hx hb dX11_type_30 (by decide +kernel) ?_
      obtain ⟨rfl, rfl, rfl⟩ := hrel.2.1 hc16 hc27
      exact nv_mi hx hb hr hlocks hS dX11_type_32 hP trivial rfl
  · refine lv_iconst (v := (-1)) hx hb dX11_type_19 (by decide +kernel) ?_
    obtain ⟨rfl, rfl, rfl⟩ := hrel.1 hc16
    exact nv_mi hx hb hr hlocks hS dX11_type_20 hP trivial rfl

set_option maxHeartbeats 4000000 in
set_option maxRecDepth 100000 in
theorem c_X11_count (l : Launch) (D : va_G) (z : Nat → ClassId) (sz : Nat) (w0Q : Nat) (o : Nat) (qj : Nat) (qt : Nat) (qf : Nat) (qp : Nat) (qk : Nat) (qq : Nat) (qa : Nat) (qs : Nat) (ql : Nat) (qm : Nat) (qi : Nat) (qe : Nat) (un : Nat) (ku : Nat) (ik : Nat) (tnQ : Nat) (th : Nat) (la : Nat) (wo : Nat) (cu : Nat) (fa : Nat) (fat : Nat) (rQ : Nat → Nat) (wh : Int32) (vQ : Int32) (hok : rOK w0Q rQ) (hw : w0Q ≤ 20000) (hrel : cnRel rQ un wh vQ) : CM l yX11_count cX11_count 3 (some .int) 4 91 0 0 [.ref o, .int wh] D z [(o, .inr (11, [.ref qj, .ref qt, .ref qf, .ref qp, .int (nI un), .ref qk, .ref qq, .int (nI ku), .int (nI ik), .ref qa, .int (nI tnQ), .int (nI th), .int (nI la), .int (nI wo), .int (nI cu), .int (nI fa), .int (nI fat), .ref qs, .ref ql, .ref qm, .ref qi, .ref qe])), aN z qj 31 rQ] sz (fun _ => True) [(o, .inr (11, [.ref qj, .ref qt, .ref qf, .ref qp, .int (nI un), .ref qk, .ref qq, .int (nI ku), .int (nI ik), .ref qa, .int (nI tnQ), .int (nI 0), .int (nI la), .int (nI wo), .int (nI cu), .int (nI fa), .int (nI fat), .ref qs, .ref ql, .ref qm, .ref qi, .ref qe])), aN z qj 31 rQ] (some (.int vQ)) (fun _ => True) := by
  refine Met.ofW (cc := cX11_count) (maxL := 3) (ret := (some .int)) (by decide) rfl ?_
  intro pg e s m args below meth c s₁ B hml hv
  obtain ⟨rfl, hsz, hP, hK, hD0, hE⟩ := hv
  have hx := B.exec
  have hb := B.bytes
  have hr := B.returns
  have hts : ∀ w ∈ ALL, w.before _ s = true := fun w h => atoms_spec (ws := wA yX11_count cX11_count 3 (some .int)) B.pre w (List.mem_cons_of_mem _ h)
  have hown : s.vm.findClass RX11 = some m.cls := findClass_of_methodNamed B.named
  have hlocks := B.notSynchronized
  subst hsz
  have hD := hD0.self (sz := s.heap.size)
  obtain ⟨o0, o1, o1b, o2, o2b, o3, o4, o5, o6, oP⟩ := id hok
  have hA : ∀ q : Nat, s.heap.size ≤ q → va_A [(o, .inr (11, [.ref qj, .ref qt, .ref qf, .ref qp, .int (nI un), .ref qk, .ref qq, .int (nI ku), .int (nI ik), .ref qa, .int (nI tnQ), .int (nI th), .int (nI la), .int (nI wo), .int (nI cu), .int (nI fa), .int (nI fat), .ref qs, .ref ql, .ref qm, .ref qi, .ref qe])), aN z qj 31 rQ] s.heap.size q := fun q h => Or.inr h
  generalize va_A [(o, .inr (11, [.ref qj, .ref qt, .ref qf, .ref qp, .int (nI un), .ref qk, .ref qq, .int (nI ku), .int (nI ik), .ref qa, .int (nI tnQ), .int (nI th), .int (nI la), .int (nI wo), .int (nI cu), .int (nI fa), .int (nI fat), .ref qs, .ref ql, .ref qm, .ref qi, .ref qe])), aN z qj 31 rQ] s.heap.size = A at *
  have hS : va_S A s.heap s.heap [] := va_S.rf
  have hl := lv_entry ([.ref o, .int wh]) (n := 3) (Nat.le_of_ble_eq_true rfl)
  rw [lg_entry_eq]
  generalize (lg_sl ([.ref o, .int wh]) ++ List.replicate (3 - (lg_sl ([.ref o, .int wh])).length) Slot.unset).toArray = ls at hl ⊢
  have hl : lv_has ls 3 [(0, .ref o), (1, .int wh)] := hl
  refine lv_aload_n hx hb dX11_count_0 rfl (lv_at hl 0 rfl) ?_
  refine lv_iconst (v := nI 0) hx hb dX11_count_1 (by decide +kernel) ?_
  refine va_put (D := D) (ci := 11) (v := .int (nI 0)) (ty := tyX11 11) (C := RX11) (T := TX11) (N := 22) hx hb hts iX11 tyX11 tyX11_ok nmX11 hown hK.1 hP hD hS 0 rfl rfl 11 (by decide) (hts _ m_576) (fun _ h9 => h9) rfl (tyX11_ok 11 (by decide)) rfl rfl (Nat.le_of_ble_eq_true rfl) dX11_count_2 (fun H locs hP hD hS => ?_)
  have hP : va_P D vwCl [(o, .inr (11, [.ref qj, .ref qt, .ref qf, .ref qp, .int (nI un), .ref qk, .ref qq, .int (nI ku), .int (nI ik), .ref qa, .int (nI tnQ), .int (nI 0), .int (nI la), .int (nI wo), .int (nI cu), .int (nI fa), .int (nI fat), .ref qs, .ref ql, .ref qm, .ref qi, .ref qe])), aN z qj 31 rQ] H := hP
  have hD : va_D A [(o, .inr (11, [.ref qj, .ref qt, .ref qf, .ref qp, .int (nI un), .ref qk, .ref qq, .int (nI ku), .int (nI ik), .ref qa, .int (nI tnQ), .int (nI 0), .int (nI la), .int (nI wo), .int (nI cu), .int (nI fa), .int (nI fat), .ref qs, .ref ql, .ref qm, .ref qi, .ref qe])), aN z qj 31 rQ] := hD
  refine lv_aload_n hx hb dX11_count_5 rfl (lv_at hl 0 rfl) ?_
  refine va_get (D := D) (ci := 11) (v := .ref qj) (C := RX11) (T := TX11) (N := 22) hx hb hts iX11 hown hK.1 hP 0 rfl rfl 0 (by decide) (hts _ m_523) (fun _ h9 => h9) rfl dX11_count_6 ?_
  refine lv_iconst (v := nI 0) hx hb dX11_count_9 (by decide +kernel) ?_
  have hPc := hP.sub (ws' := [aN z qj 31 rQ]) [1] rfl
  refine nv_cp1 (va_runS (As := [.ref qj, .int (nI 0)]) (rest := []) ⟨hx, hb, hml, hown, hts⟩ (c_X11_mishapsOf l D z w0Q qj rQ (nI 0) (rQ 3) (by first | assumption | omega) (nI_add _ 0)) (va_cwS 2 hts (gS m_561 m_562 m_541 m_547) rfl rfl rfl hd_X11_mishapsOf ⟨Nat.le_of_ble_eq_true rfl, Nat.le_of_ble_eq_true rfl⟩) (nv_preP hK hPc trivial _) rfl rfl hl.1 rfl (lv_room (Nat.le_of_ble_eq_true rfl)) dX11_count_10 ⟨by decide, by decide⟩) ?_
  refine lv_istore_n (lv' := [(2, .int (nI ((rQ 3) + hbF rQ))), (0, .ref o), (1, .int wh)]) hx hb dX11_count_13 rfl hl (by decide) rfl (fun ls hl => ?_)
  have hb6 := hbF_le rQ
  refine lv_iload_n hx hb dX11_count_14 rfl (lv_at hl 2 rfl) ?_
  rcases (show wh.toInt = 0 ∨ wh.toInt = 1 ∨ wh.toInt = 2 ∨ wh.toInt = 3 ∨ wh.toInt = 4 ∨ wh.toInt = 5 ∨ wh.toInt = 6 ∨ wh.toInt = 7 ∨ wh.toInt = 8 ∨ wh.toInt = 9 ∨ wh.toInt = 10 ∨ (wh.toInt < 0 ∨ 10 < wh.toInt) by omega) with hc15 | hc15 | hc15 | hc15 | hc15 | hc15 | hc15 | hc15 | hc15 | hc15 | hc15 | hc15
  · refine lv_tableIn (off := 57) (tgt := 72) hx hb dX11_count_15 (by omega) (by omega) (by rw [hc15]; rfl) (by decide) ?_
    refine lv_aload_n hx hb dX11_count_72 rfl (lv_at hl 1 rfl) ?_
    refine va_get (D := D) (ci := 11) (v := .ref qj) (C := RX11) (T := TX11) (N := 22) hx hb hts iX11 hown hK.1 hP 0 rfl rfl 0 (by decide) (hts _ m_523) (fun _ h9 => h9) rfl dX11_count_73 ?_
    refine lv_bipush (v := nI 6) hx hb dX11_count_76 (by decide +kernel) ?_
    refine nv_ald hx hb hK hP 1 rfl (by omega) (by decide) dX11_count_78 ?_
    obtain rfl := hrel.1 0 hc15 (by decide)
    exact nv_mi hx hb hr hlocks hS dX11_count_79 hP trivial rfl
  · refine lv_tableIn (off := 65) (tgt := 80) hx hb dX11_count_15 (by omega) (by omega) (by rw [hc15]; rfl) (by decide) ?_
    refine lv_aload_n hx hb dX11_count_80 rfl (lv_at hl 1 rfl) ?_
    refine va_get (D := D) (ci := 11) (v := .ref qj) (C := RX11) (T := TX11) (N := 22) hx hb hts iX11 hown hK.1 hP 0 rfl rfl 0 (by decide) (hts _ m_523) (fun _ h9 => h9) rfl dX11_count_81 ?_
    refine lv_iconst (v := nI 4) hx hb dX11_count_84 (by decide +kernel) ?_
    refine nv_ald hx hb hK hP 1 rfl (by omega) (by decide) dX11_count_85 ?_
    obtain rfl := hrel.1 1 hc15 (by decide)
    exact nv_mi hx hb hr hlocks hS dX11_count_86 hP trivial rfl
  · refine lv_tableIn (off := 72) (tgt := 87) hx hb dX11_count_15 (by omega) (by omega) (by rw [hc15]; rfl) (by decide) ?_
    refine lv_aload_n hx hb dX11_count_87 rfl (lv_at hl 1 rfl) ?_
    refine va_get (D := D) (ci := 11) (v := .ref qj) (C := RX11) (T := TX11) (N := 22) hx hb hts iX11 hown hK.1 hP 0 rfl rfl 0 (by decide) (hts _ m_523) (fun _ h9 => h9) rfl dX11_count_88 ?_
    refine lv_iconst (v := nI 0) hx hb dX11_count_91 (by decide +kernel) ?_
    refine nv_ald hx hb hK hP 1 rfl (by omega) (by decide) dX11_count_92 ?_
    obtain rfl := hrel.1 2 hc15 (by decide)
    exact nv_mi hx hb hr hlocks hS dX11_count_93 hP trivial rfl
  · refine lv_tableIn (off := 79) (tgt := 94) hx hb dX11_count_15 (by omega) (by omega) (by rw [hc15]; rfl) (by decide) ?_
    refine lv_aload_n hx hb dX11_count_94 rfl (lv_at hl 1 rfl) ?_
    refine va_get (D := D) (ci := 11) (v := .ref qj) (C := RX11) (T := TX11) (N := 22) hx hb hts iX11 hown hK.1 hP 0 rfl rfl 0 (by decide) (hts _ m_523) (fun _ h9 => h9) rfl dX11_count_95 ?_
    refine lv_iconst (v := nI 1) hx hb dX11_count_98 (by decide +kernel) ?_
    refine nv_ald hx hb hK hP 1 rfl (by omega) (by decide) dX11_count_99 ?_
    obtain rfl := hrel.1 3 hc15 (by decide)
    exact nv_mi hx hb hr hlocks hS dX11_count_100 hP trivial rfl
  · refine lv_tableIn (off := 86) (tgt := 101) hx hb dX11_count_15 (by omega) (by omega) (by rw [hc15]; rfl) (by decide) ?_
    refine lv_aload_n hx hb dX11_count_101 rfl (lv_at hl 1 rfl) ?_
    refine va_get (D := D) (ci := 11) (v := .ref qj) (C := RX11) (T := TX11) (N := 22) hx hb hts iX11 hown hK.1 hP 0 rfl rfl 0 (by decide) (hts _ m_523) (fun _ h9 => h9) rfl dX11_count_102 ?_
    refine lv_iconst (v := nI 2) hx hb dX11_count_105 (by decide +kernel) ?_
    refine nv_ald hx hb hK hP 1 rfl (by omega) (by decide) dX11_count_106 ?_
    obtain rfl := hrel.1 4 hc15 (by decide)
    exact nv_mi hx hb hr hlocks hS dX11_count_107 hP trivial rfl
  · refine lv_tableIn (off := 93) (tgt := 108) hx hb dX11_count_15 (by omega) (by omega) (by rw [hc15]; rfl) (by decide) ?_
    refine lv_aload_n hx hb dX11_count_108 rfl (lv_at hl 1 rfl) ?_
    refine va_get (D := D) (ci := 11) (v := .ref qj) (C := RX11) (T := TX11) (N := 22) hx hb hts iX11 hown hK.1 hP 0 rfl rfl 0 (by decide) (hts _ m_523) (fun _ h9 => h9) rfl dX11_count_109 ?_
    refine lv_iconst (v := nI 3) hx hb dX11_count_112 (by decide +kernel) ?_
    refine nv_ald hx hb hK hP 1 rfl (by omega) (by decide) dX11_count_113 ?_
    obtain rfl := hrel.1 5 hc15 (by decide)
    exact nv_mi hx hb hr hlocks hS dX11_count_114 hP trivial rfl
  · refine lv_tableIn (off := 100) (tgt := 115) hx hb dX11_count_15 (by omega) (by omega) (by rw [hc15]; rfl) (by decide) ?_
    refine lv_iload_n hx hb dX11_count_115 rfl (lv_at hl 0 rfl) ?_
    obtain rfl := hrel.1 6 hc15 (by decide)
    exact nv_mi hx hb hr hlocks hS dX11_count_116 hP trivial rfl
  · refine lv_tableIn (off := 102) (tgt := 117) hx hb dX11_count_15 (by omega) (by omega) (by rw [hc15]; rfl) (by decide) ?_
    refine lv_aload_n hx hb dX11_count_117 rfl (lv_at hl 1 rfl) ?_
    refine va_get (D := D) (ci := 11) (v := .ref qj) (C := RX11) (T := TX11) (N := 22) hx hb hts iX11 hown hK.1 hP 0 rfl rfl 0 (by decide) (hts _ m_523) (fun _ h9 => h9) rfl dX11_count_118 ?_
    refine lv_iload_n hx hb dX11_count_121 rfl (lv_at hl 0 rfl) ?_
    have hPc := hP.sub (ws' := [aN z qj 31 rQ]) [1] rfl
    refine nv_cp1 (va_runS (As := [.ref qj, .int (nI ((rQ 3) + hbF rQ))]) (rest := []) ⟨hx, hb, hml, hown, hts⟩ (c_X11_allWords l D z w0Q qj rQ ((rQ 3) + hbF rQ) (by first | assumption | omega) (by first | assumption | omega) (by first | assumption | omega)) (va_cwS 2 hts (gS m_563 m_564 m_541 m_559) rfl rfl rfl hd_X11_allWords ⟨Nat.le_of_ble_eq_true rfl, Nat.le_of_ble_eq_true rfl⟩) (nv_preP hK hPc trivial _) rfl rfl hl.1 rfl (lv_room (Nat.le_of_ble_eq_true rfl)) dX11_count_122 ⟨by decide, by decide⟩) ?_
    obtain rfl := hrel.1 7 hc15 (by decide)
    exact nv_mi hx hb hr hlocks hS dX11_count_125 hP trivial rfl
  · refine lv_tableIn (off := 111) (tgt := 126) hx hb dX11_count_15 (by omega) (by omega) (by rw [hc15]; rfl) (by decide) ?_
    refine lv_aload_n hx hb dX11_count_126 rfl (lv_at hl 1 rfl) ?_
    refine va_get (D := D) (ci := 11) (v := .ref qj) (C := RX11) (T := TX11) (N := 22) hx hb hts iX11 hown hK.1 hP 0 rfl rfl 0 (by decide) (hts _ m_523) (fun _ h9 => h9) rfl dX11_count_127 ?_
    refine lv_iload_n hx hb dX11_count_130 rfl (lv_at hl 0 rfl) ?_
    have hPc := hP.sub (ws' := [aN z qj 31 rQ]) [1] rfl
    refine nv_cp1 (va_runS (As := [.ref qj, .int (nI ((rQ 3) + hbF rQ))]) (rest := []) ⟨hx, hb, hml, hown, hts⟩ (c_X11_allPay l D z w0Q qj rQ ((rQ 3) + hbF rQ) (by first | assumption | omega) (by first | assumption | omega) (by first | assumption | omega)) (va_cwS 2 hts (gS m_565 m_566 m_541 m_560) rfl rfl rfl hd_X11_allPay ⟨Nat.le_of_ble_eq_true rfl, Nat.le_of_ble_eq_true rfl⟩) (nv_preP hK hPc trivial _) rfl rfl hl.1 rfl (lv_room (Nat.le_of_ble_eq_true rfl)) dX11_count_131 ⟨by decide, by decide⟩) ?_
    obtain rfl := hrel.1 8 hc15 (by decide)
    exact nv_mi hx hb hr hlocks hS dX11_count_134 hP trivial rfl
  · refine lv_tableIn (off := 120) (tgt := 135) hx hb dX11_count_15 (by omega) (by omega) (by rw [hc15]; rfl) (by decide) ?_
    refine lv_aload_n hx hb dX11_count_135 rfl (lv_at hl 1 rfl) ?_
    refine va_get (D := D) (ci := 11) (v := .ref qj) (C := RX11) (T := TX11) (N := 22) hx hb hts iX11 hown hK.1 hP 0 rfl rfl 0 (by decide) (hts _ m_523) (fun _ h9 => h9) rfl dX11_count_136 ?_
    have hPc := hP.sub (ws' := [aN z qj 31 rQ]) [1] rfl
    refine nv_cp1 (va_runS (As := [.ref qj]) (rest := []) ⟨hx, hb, hml, hown, hts⟩ (c_X11_hoping l D z w0Q qj rQ (by first | assumption | omega)) (va_cwS 1 hts (gS m_548 m_549 m_541 m_543) rfl rfl rfl hd_X11_hoping ⟨Nat.le_of_ble_eq_true rfl, Nat.le_of_ble_eq_true rfl⟩) (nv_preP hK hPc trivial _) rfl rfl hl.1 rfl (lv_room (Nat.le_of_ble_eq_true rfl)) dX11_count_139 ⟨by decide, by decide⟩) ?_
    obtain rfl := hrel.1 9 hc15 (by decide)
    exact nv_mi hx hb hr hlocks hS dX11_count_142 hP trivial rfl
  · refine lv_tableIn (off := 128) (tgt := 143) hx hb dX11_count_15 (by omega) (by omega) (by rw [hc15]; rfl) (by decide) ?_
    refine lv_aload_n hx hb dX11_count_143 rfl (lv_at hl 1 rfl) ?_
    refine va_get (D := D) (ci := 11) (v := .int (nI un)) (C := RX11) (T := TX11) (N := 22) hx hb hts iX11 hown hK.1 hP 0 rfl rfl 4 (by decide) (hts _ m_580) (fun _ h9 => h9) rfl dX11_count_144 ?_
    obtain rfl := hrel.1 10 hc15 (by decide)
    exact nv_mi hx hb hr hlocks hS dX11_count_147 hP trivial rfl
  · refine lv_tableOut (tgt := 148) hx hb dX11_count_15 hc15 (by decide) ?_
    refine lv_iconst (v := (-1)) hx hb dX11_count_148 (by decide +kernel) ?_
    obtain rfl := hrel.2 hc15
    exact nv_mi hx hb hr hlocks hS dX11_count_149 hP trivial rfl
