set_option maxHeartbeats 4000000 in
set_option maxRecDepth 100000 in
theorem c_X3_withHopes (l : Launch) (D : va_G) (z : Nat → ClassId) (w0Q : Nat) (hn : Nat) (hp : Nat) (hh : Nat) (rQ : Nat → Nat) (mm : Nat) (hok : rOK w0Q rQ) (hmm : mm ≤ 11) : CP l yX3_withHopes cX3_withHopes 2 (some .int) 1 20 [.ref hn, .int (nI mm)] D z [(hn, .inr (3, [.ref hp, .ref hh, .int (nI (rQ 6)), .int (nI (hpF rQ (rQ 6))), .int (nI (chF rQ (rQ 6))), .int (nI (rQ 0)), .int (nI (rQ 1)), .int (nI (rQ 2)), .int (nI (rQ 3)), .int (nI (rQ 4)), .int (nI (rQ 5))]))] (fun _ => True) (some (.int (nI (mm + hbF rQ)))) := by
  refine Met.ofW (cc := cX3_withHopes) (maxL := 2) (ret := (some .int)) (by decide) rfl ?_
  intro pg e s m args below meth c s₁ B hml hv
  obtain ⟨rfl, hP, hK, hE⟩ := hv
  have hx := B.exec
  have hb := B.bytes
  have hr := B.returns
  have hts : ∀ w ∈ ALL, w.before _ s = true := fun w h => atoms_spec (ws := wA yX3_withHopes cX3_withHopes 2 (some .int)) B.pre w (List.mem_cons_of_mem _ h)
  have hown : s.vm.findClass RX3 = some m.cls := findClass_of_methodNamed B.named
  have hlocks := B.notSynchronized
  obtain ⟨o0, o1, o1b, o2, o2b, o3, o4, o5, o6, oP⟩ := id hok
  have hl := lv_entry ([.ref hn, .int (nI mm)]) (n := 2) (Nat.le_of_ble_eq_true rfl)
  rw [lg_entry_eq]
  generalize (lg_sl ([.ref hn, .int (nI mm)]) ++ List.replicate (2 - (lg_sl ([.ref hn, .int (nI mm)])).length) Slot.unset).toArray = ls at hl ⊢
  have hl : lv_has ls 2 [(0, .ref hn), (1, .int (nI mm))] := hl
  refine lv_aload_n hx hb dX3_withHopes_0 rfl (lv_at hl 0 rfl) ?_
  refine va_get (D := D) (ci := 3) (v := .int (nI (rQ 0))) (C := RX3) (T := TX3) (N := 11) hx hb hts iX3 hown hK.1 hP 0 rfl rfl 5 (by decide) (hts _ m_45) (fun _ h9 => h9) rfl dX3_withHopes_1 ?_
  refine lv_aload_n hx hb dX3_withHopes_4 rfl (lv_at hl 0 rfl) ?_
  refine va_get (D := D) (ci := 3) (v := .int (nI (rQ 1))) (C := RX3) (T := TX3) (N := 11) hx hb hts iX3 hown hK.1 hP 0 rfl rfl 6 (by decide) (hts _ m_46) (fun _ h9 => h9) rfl dX3_withHopes_5 ?_
  refine nv_join (g2 := F0 m 29 ls [.int (nI (mm + hbF rQ))]) (fun J1 => ?_) ?_
  · refine nv_ge (tgt := 28) hx hb (by omega) (by omega) dX3_withHopes_8 (by decide) (fun hc8 => ?_) (fun hc8 => ?_)
    · refine lv_iload_n hx hb dX3_withHopes_28 rfl (lv_at hl 1 rfl) ?_
      have q9 : mm = mm + hbF rQ := by unfold hbF; first | (rw [if_pos (by omega)]; done) | (rw [if_neg (by omega)]; rfl)
      exact W.eq (congrArg (fun x9 => F0 m 29 ls (.int (nI x9) :: [])) q9) J1
    · refine lv_iload_n hx hb dX3_withHopes_11 rfl (lv_at hl 1 rfl) ?_
      refine lv_aload_n hx hb dX3_withHopes_12 rfl (lv_at hl 0 rfl) ?_
      refine va_get (D := D) (ci := 3) (v := .int (nI (hpF rQ (rQ 6)))) (C := RX3) (T := TX3) (N := 11) hx hb hts iX3 hown hK.1 hP 0 rfl rfl 3 (by decide) (hts _ m_43) (fun _ h9 => h9) rfl dX3_withHopes_13 ?_
      refine lv_aload_n hx hb dX3_withHopes_16 rfl (lv_at hl 0 rfl) ?_
      refine va_get (D := D) (ci := 3) (v := .int (nI (chF rQ (rQ 6)))) (C := RX3) (T := TX3) (N := 11) hx hb hts iX3 hown hK.1 hP 0 rfl rfl 4 (by decide) (hts _ m_44) (fun _ h9 => h9) rfl dX3_withHopes_17 ?_
      refine nv_and hx hb dX3_withHopes_20 ?_
      rw [hpF_ch (fun jQ hj => (oP jQ hj).2.2.2.2)]
      have hPc := hP.sub (ws' := []) [] rfl
      refine nv_cp1 (va_runS (As := [.int (nI (hoF rQ (rQ 6)))]) (rest := [.int (nI mm)]) ⟨hx, hb, hml, hown, hts⟩ (c_J6_bitCount_0f7a4 l D z (hoF rQ (rQ 6)) (hoF_64 o6)) (va_cwS 1 hts (gS m_71 m_72 m_73 m_66) rfl rfl rfl hd_J6_bitCount_0f7a4 ⟨Nat.le_of_ble_eq_true rfl, Nat.le_of_ble_eq_true rfl⟩) (nv_preP hK hPc trivial _) rfl rfl hl.1 rfl (lv_room (Nat.le_of_ble_eq_true rfl)) dX3_withHopes_21 ⟨Nat.le_refl _, Nat.le_refl _⟩) ?_
      refine nv_add hx hb dX3_withHopes_24 ?_
      refine lv_goto (tgt := 29) hx hb dX3_withHopes_25 (by decide) ?_
      have q9 : (mm + (biF (hoF rQ (rQ 6)) 6)) = mm + hbF rQ := by unfold hbF; first | (rw [if_pos (by omega)]; done) | (rw [if_neg (by omega)]; rfl)
      exact W.eq (congrArg (fun x9 => F0 m 29 ls (.int (nI x9) :: [])) q9) J1
  · exact nv_ri hx hb hr hlocks dX3_withHopes_29 rfl

set_option maxHeartbeats 4000000 in
set_option maxRecDepth 100000 in
theorem c_X3_wordsOf (l : Launch) (D : va_G) (z : Nat → ClassId) (w0Q : Nat) (hn : Nat) (hp : Nat) (hh : Nat) (pf : Nat → Option Nat) (rQ : Nat → Nat) (pn : Nat) (hok : rOK w0Q rQ) (hw : w0Q ≤ 20000) (hp9 : pn < rQ 6) : CP l yX3_wordsOf cX3_wordsOf 2 (some .int) 2 49 [.ref hn, .int (nI pn)] D z [(hn, .inr (3, [.ref hp, .ref hh, .int (nI (rQ 6)), .int (nI (hpF rQ (rQ 6))), .int (nI (chF rQ (rQ 6))), .int (nI (rQ 0)), .int (nI (rQ 1)), .int (nI (rQ 2)), .int (nI (rQ 3)), .int (nI (rQ 4)), .int (nI (rQ 5))])), aP z hp 6 pf, aN z hh 6 (hbA rQ)] (fun H => peH D [(hn, .inr (3, [.ref hp, .ref hh, .int (nI (rQ 6)), .int (nI (hpF rQ (rQ 6))), .int (nI (chF rQ (rQ 6))), .int (nI (rQ 0)), .int (nI (rQ 1)), .int (nI (rQ 2)), .int (nI (rQ 3)), .int (nI (rQ 4)), .int (nI (rQ 5))])), aP z hp 6 pf, aN z hh 6 (hbA rQ)] pf rQ H) (some (.int (nI (woF rQ pn (rQ 3 + hbF rQ))))) := by
  refine Met.ofW (cc := cX3_wordsOf) (maxL := 2) (ret := (some .int)) (by decide) rfl ?_
  intro pg e s m args below meth c s₁ B hml hv
  obtain ⟨rfl, hP, hK, hE⟩ := hv
  have hx := B.exec
  have hb := B.bytes
  have hr := B.returns
  have hts : ∀ w ∈ ALL, w.before _ s = true := fun w h => atoms_spec (ws := wA yX3_wordsOf cX3_wordsOf 2 (some .int)) B.pre w (List.mem_cons_of_mem _ h)
  have hown : s.vm.findClass RX3 = some m.cls := findClass_of_methodNamed B.named
  have hlocks := B.notSynchronized
  obtain ⟨o0, o1, o1b, o2, o2b, o3, o4, o5, o6, oP⟩ := id hok
  obtain ⟨qa9, hqa9, hap9, hps9⟩ := hE.2 pn hp9
  have oQ := oP pn hp9
  have hb6 := hbF_le rQ
  have hl := lv_entry ([.ref hn, .int (nI pn)]) (n := 2) (Nat.le_of_ble_eq_true rfl)
  rw [lg_entry_eq]
  generalize (lg_sl ([.ref hn, .int (nI pn)]) ++ List.replicate (2 - (lg_sl ([.ref hn, .int (nI pn)])).length) Slot.unset).toArray = ls at hl ⊢
  have hl : lv_has ls 2 [(0, .ref hn), (1, .int (nI pn))] := hl
  refine lv_aload_n hx hb dX3_wordsOf_0 rfl (lv_at hl 0 rfl) ?_
  refine va_get (D := D) (ci := 3) (v := .ref hp) (C := RX3) (T := TX3) (N := 11) hx hb hts iX3 hown hK.1 hP 0 rfl rfl 0 (by decide) (hts _ m_39) (fun _ h9 => h9) rfl dX3_wordsOf_1 ?_
  refine lv_iload_n hx hb dX3_wordsOf_4 rfl (lv_at hl 1 rfl) ?_
  refine nv_pald (v := some qa9) hx hb hK hP 1 rfl (by omega) (by decide) hqa9 dX3_wordsOf_5 ?_
  refine W.eq (g2 := F0 m 6 ls [.ref qa9]) rfl ?_
  refine lv_aload_n hx hb dX3_wordsOf_6 rfl (lv_at hl 0 rfl) ?_
  refine lv_aload_n hx hb dX3_wordsOf_7 rfl (lv_at hl 0 rfl) ?_
  refine va_get (D := D) (ci := 3) (v := .int (nI (rQ 3))) (C := RX3) (T := TX3) (N := 11) hx hb hts iX3 hown hK.1 hP 0 rfl rfl 8 (by decide) (hts _ m_48) (fun _ h9 => h9) rfl dX3_wordsOf_8 ?_
  have hPc := hP.sub (ws' := [(hn, .inr (3, [.ref hp, .ref hh, .int (nI (rQ 6)), .int (nI (hpF rQ (rQ 6))), .int (nI (chF rQ (rQ 6))), .int (nI (rQ 0)), .int (nI (rQ 1)), .int (nI (rQ 2)), .int (nI (rQ 3)), .int (nI (rQ 4)), .int (nI (rQ 5))]))]) [0] rfl
  refine nv_cp1 (va_runV (As := [.int (nI (rQ 3))]) (rest := [.ref qa9]) ⟨hx, hb, hml, hown, hts⟩ (c_X3_withHopes l D z w0Q hn hp hh rQ (rQ 3) (by first | assumption | omega) (by first | assumption | omega)) (cwV 1 hts (gV m_75 m_76 m_77 m_78 m_70) rfl rfl rfl ⟨rfl, hd_X3_withHopes⟩ ⟨Nat.le_of_ble_eq_true rfl, Nat.le_of_ble_eq_true rfl⟩) (nv_prePV (ci := 3) (q0 := 0) hK hPc trivial rfl rfl) rfl rfl hl.1 rfl (lv_room (Nat.le_of_ble_eq_true rfl)) dX3_wordsOf_11 ⟨Nat.le_refl _, Nat.le_refl _⟩) ?_
  refine lv_aload_n hx hb dX3_wordsOf_14 rfl (lv_at hl 0 rfl) ?_
  refine va_get (D := D) (ci := 3) (v := .ref hh) (C := RX3) (T := TX3) (N := 11) hx hb hts iX3 hown hK.1 hP 0 rfl rfl 1 (by decide) (hts _ m_41) (fun _ h9 => h9) rfl dX3_wordsOf_15 ?_
  refine lv_iload_n hx hb dX3_wordsOf_18 rfl (lv_at hl 1 rfl) ?_
  refine nv_ald hx hb hK hP 2 rfl (by omega) (by decide) dX3_wordsOf_19 ?_
  rw [hbA_at]
  refine lv_aload_n hx hb dX3_wordsOf_20 rfl (lv_at hl 0 rfl) ?_
  refine va_get (D := D) (ci := 3) (v := .int (nI (rQ 2))) (C := RX3) (T := TX3) (N := 11) hx hb hts iX3 hown hK.1 hP 0 rfl rfl 7 (by decide) (hts _ m_47) (fun _ h9 => h9) rfl dX3_wordsOf_21 ?_
  refine lv_aload_n hx hb dX3_wordsOf_24 rfl (lv_at hl 0 rfl) ?_
  refine va_get (D := D) (ci := 3) (v := .int (nI (rQ 4))) (C := RX3) (T := TX3) (N := 11) hx hb hts iX3 hown hK.1 hP 0 rfl rfl 9 (by decide) (hts _ m_49) (fun _ h9 => h9) rfl dX3_wordsOf_25 ?_
  refine nv_words hx hb hml hl.1 hown hts hK hps9 oQ.1 (by omega) (by omega) (by omega) (by omega) (by omega) ⟨Nat.le_of_ble_eq_true rfl, Nat.le_of_ble_eq_true rfl⟩ (Nat.le_of_ble_eq_true rfl) ⟨Nat.le_of_ble_eq_true rfl, Nat.le_of_ble_eq_true rfl⟩ dX3_wordsOf_28 ?_
  refine W.eq (g2 := F0 m 31 ls [.int (nI (woF rQ pn (rQ 3 + hbF rQ)))]) rfl ?_
  exact nv_ri hx hb hr hlocks dX3_wordsOf_31 rfl

set_option maxHeartbeats 4000000 in
set_option maxRecDepth 100000 in
theorem c_X3_paysOf (l : Launch) (D : va_G) (z : Nat → ClassId) (w0Q : Nat) (hn : Nat) (hp : Nat) (hh : Nat) (pf : Nat → Option Nat) (rQ : Nat → Nat) (pn : Nat) (hok : rOK w0Q rQ) (hw : w0Q ≤ 20000) (hp9 : pn < rQ 6) : CP l yX3_paysOf cX3_paysOf 2 (some .int) 3 70 [.ref hn, .int (nI pn)] D z [(hn, .inr (3, [.ref hp, .ref hh, .int (nI (rQ 6)), .int (nI (hpF rQ (rQ 6))), .int (nI (chF rQ (rQ 6))), .int (nI (rQ 0)), .int (nI (rQ 1)), .int (nI (rQ 2)), .int (nI (rQ 3)), .int (nI (rQ 4)), .int (nI (rQ 5))])), aP z hp 6 pf, aN z hh 6 (hbA rQ)] (fun H => peH D [(hn, .inr (3, [.ref hp, .ref hh, .int (nI (rQ 6)), .int (nI (hpF rQ (rQ 6))), .int (nI (chF rQ (rQ 6))), .int (nI (rQ 0)), .int (nI (rQ 1)), .int (nI (rQ 2)), .int (nI (rQ 3)), .int (nI (rQ 4)), .int (nI (rQ 5))])), aP z hp 6 pf, aN z hh 6 (hbA rQ)] pf rQ H) (some (.int (nI (paF rQ pn (rQ 3 + hbF rQ))))) := by
  refine Met.ofW (cc := cX3_paysOf) (maxL := 2) (ret := (some .int)) (by decide) rfl ?_
  intro pg e s m args below meth c s₁ B hml hv
  obtain ⟨rfl, hP, hK, hE⟩ := hv
  have hx := B.exec
  have hb := B.bytes
  have hr := B.returns
  have hts : ∀ w ∈ ALL, w.before _ s = true := fun w h => atoms_spec (ws := wA yX3_paysOf cX3_paysOf 2 (some .int)) B.pre w (List.mem_cons_of_mem _ h)
  have hown : s.vm.findClass RX3 = some m.cls := findClass_of_methodNamed B.named
  have hlocks := B.notSynchronized
  obtain ⟨o0, o1, o1b, o2, o2b, o3, o4, o5, o6, oP⟩ := id hok
  obtain ⟨qa9, hqa9, hap9, hps9⟩ := hE.2 pn hp9
  have oQ := oP pn hp9
  have hb6 := hbF_le rQ
  have hwl := woF_le rQ pn (rQ 3 + hbF rQ)
  have hl := lv_entry ([.ref hn, .int (nI pn)]) (n := 2) (Nat.le_of_ble_eq_true rfl)
  rw [lg_entry_eq]
  generalize (lg_sl ([.ref hn, .int (nI pn)]) ++ List.replicate (2 - (lg_sl ([.ref hn, .int (nI pn)])).length) Slot.unset).toArray = ls at hl ⊢
  have hl : lv_has ls 2 [(0, .ref hn), (1, .int (nI pn))] := hl
  refine lv_aload_n hx hb dX3_paysOf_0 rfl (lv_at hl 0 rfl) ?_
  refine va_get (D := D) (ci := 3) (v := .ref hp) (C := RX3) (T := TX3) (N := 11) hx hb hts iX3 hown hK.1 hP 0 rfl rfl 0 (by decide) (hts _ m_39) (fun _ h9 => h9) rfl dX3_paysOf_1 ?_
  refine lv_iload_n hx hb dX3_paysOf_4 rfl (lv_at hl 1 rfl) ?_
  refine nv_pald (v := some qa9) hx hb hK hP 1 rfl (by omega) (by decide) hqa9 dX3_paysOf_5 ?_
  refine W.eq (g2 := F0 m 6 ls [.ref qa9]) rfl ?_
  refine lv_aload_n hx hb dX3_paysOf_6 rfl (lv_at hl 0 rfl) ?_
  refine lv_iload_n hx hb dX3_paysOf_7 rfl (lv_at hl 1 rfl) ?_
  have hPc := hP.sub (ws' := [(hn, .inr (3, [.ref hp, .ref hh, .int (nI (rQ 6)), .int (nI (hpF rQ (rQ 6))), .int (nI (chF rQ (rQ 6))), .int (nI (rQ 0)), .int (nI (rQ 1)), .int (nI (rQ 2)), .int (nI (rQ 3)), .int (nI (rQ 4)), .int (nI (rQ 5))])), aP z hp 6 pf, aN z hh 6 (hbA rQ)]) [0, 1, 2] rfl
  refine nv_cp1 (va_runV (As := [.int (nI pn)]) (rest := [.ref qa9]) ⟨hx, hb, hml, hown, hts⟩ (c_X3_wordsOf l D z w0Q hn hp hh pf rQ pn (by first | assumption | omega) (by first | assumption | omega) (by first | assumption | omega)) (cwV 1 hts (gV m_95 m_96 m_97 m_78 m_91) rfl rfl rfl ⟨rfl, hd_X3_wordsOf⟩ ⟨Nat.le_of_ble_eq_true rfl, Nat.le_of_ble_eq_true rfl⟩) (nv_prePV (ci := 3) (q0 := 0) hK hPc hE rfl rfl) rfl rfl hl.1 rfl (lv_room (Nat.le_of_ble_eq_true rfl)) dX3_paysOf_8 ⟨Nat.le_refl _, Nat.le_refl _⟩) ?_
  refine lv_aload_n hx hb dX3_paysOf_11 rfl (lv_at hl 0 rfl) ?_
  refine va_get (D := D) (ci := 3) (v := .int (nI (rQ 2))) (C := RX3) (T := TX3) (N := 11) hx hb hts iX3 hown hK.1 hP 0 rfl rfl 7 (by decide) (hts _ m_47) (fun _ h9 => h9) rfl dX3_paysOf_12 ?_
  refine nv_pays hx hb hml hl.1 hown hts hK hps9 oQ.1 hwl o2b ⟨Nat.le_of_ble_eq_true rfl, Nat.le_of_ble_eq_true rfl⟩ (Nat.le_of_ble_eq_true rfl) ⟨Nat.le_of_ble_eq_true rfl, Nat.le_of_ble_eq_true rfl⟩ dX3_paysOf_15 ?_
  refine W.eq (g2 := F0 m 18 ls [.int (nI (paF rQ pn (rQ 3 + hbF rQ)))]) rfl ?_
  exact nv_ri hx hb hr hlocks dX3_paysOf_18 rfl

set_option maxHeartbeats 4000000 in
set_option maxRecDepth 100000 in
theorem c_X3_habitThenOf (l : Launch) (D : va_G) (z : Nat → ClassId) (w0Q : Nat) (hn : Nat) (hp : Nat) (hh : Nat) (pf : Nat → Option Nat) (rQ : Nat → Nat) (pn : Nat) (hok : rOK w0Q rQ) (hw : w0Q ≤ 20000) (hp9 : pn < rQ 6) : CP l yX3_habitThenOf cX3_habitThenOf 2 (some .int) 4 91 [.ref hn, .int (nI pn)] D z [(hn, .inr (3, [.ref hp, .ref hh, .int (nI (rQ 6)), .int (nI (hpF rQ (rQ 6))), .int (nI (chF rQ (rQ 6))), .int (nI (rQ 0)), .int (nI (rQ 1)), .int (nI (rQ 2)), .int (nI (rQ 3)), .int (nI (rQ 4)), .int (nI (rQ 5))])), aP z hp 6 pf, aN z hh 6 (hbA rQ)] (fun H => peH D [(hn, .inr (3, [.ref hp, .ref hh, .int (nI (rQ 6)), .int (nI (hpF rQ (rQ 6))), .int (nI (chF rQ (rQ 6))), .int (nI (rQ 0)), .int (nI (rQ 1)), .int (nI (rQ 2)), .int (nI (rQ 3)), .int (nI (rQ 4)), .int (nI (rQ 5))])), aP z hp 6 pf, aN z hh 6 (hbA rQ)] pf rQ H) (some (.int (nI (haF rQ pn (rQ 3 + hbF rQ))))) := by
  refine Met.ofW (cc := cX3_habitThenOf) (maxL := 2) (ret := (some .int)) (by decide) rfl ?_
  intro pg e s m args below meth c s₁ B hml hv
  obtain ⟨rfl, hP, hK, hE⟩ := hv
  have hx := B.exec
  have hb := B.bytes
  have hr := B.returns
  have hts : ∀ w ∈ ALL, w.before _ s = true := fun w h => atoms_spec (ws := wA yX3_habitThenOf cX3_habitThenOf 2 (some .int)) B.pre w (List.mem_cons_of_mem _ h)
  have hown : s.vm.findClass RX3 = some m.cls := findClass_of_methodNamed B.named
  have hlocks := B.notSynchronized
  obtain ⟨o0, o1, o1b, o2, o2b, o3, o4, o5, o6, oP⟩ := id hok
  obtain ⟨qa9, hqa9, hap9, hps9⟩ := hE.2 pn hp9
  have oQ := oP pn hp9
  have hb6 := hbF_le rQ
  have hpl := paF_le (r := rQ) pn (rQ 3 + hbF rQ) o2b
  have hl := lv_entry ([.ref hn, .int (nI pn)]) (n := 2) (Nat.le_of_ble_eq_true rfl)
  rw [lg_entry_eq]
  generalize (lg_sl ([.ref hn, .int (nI pn)]) ++ List.replicate (2 - (lg_sl ([.ref hn, .int (nI pn)])).length) Slot.unset).toArray = ls at hl ⊢
  have hl : lv_has ls 2 [(0, .ref hn), (1, .int (nI pn))] := hl
  refine lv_aload_n hx hb dX3_habitThenOf_0 rfl (lv_at hl 0 rfl) ?_
  refine va_get (D := D) (ci := 3) (v := .ref hp) (C := RX3) (T := TX3) (N := 11) hx hb hts iX3 hown hK.1 hP 0 rfl rfl 0 (by decide) (hts _ m_39) (fun _ h9 => h9) rfl dX3_habitThenOf_1 ?_
  refine lv_iload_n hx hb dX3_habitThenOf_4 rfl (lv_at hl 1 rfl) ?_
  refine nv_pald (v := some qa9) hx hb hK hP 1 rfl (by omega) (by decide) hqa9 dX3_habitThenOf_5 ?_
  refine W.eq (g2 := F0 m 6 ls [.ref qa9]) rfl ?_
  refine lv_aload_n hx hb dX3_habitThenOf_6 rfl (lv_at hl 0 rfl) ?_
  refine va_get (D := D) (ci := 3) (v := .ref hh) (C := RX3) (T := TX3) (N := 11) hx hb hts iX3 hown hK.1 hP 0 rfl rfl 1 (by decide) (hts _ m_41) (fun _ h9 => h9) rfl dX3_habitThenOf_7 ?_
  refine lv_iload_n hx hb dX3_habitThenOf_10 rfl (lv_at hl 1 rfl) ?_
  refine nv_ald hx hb hK hP 2 rfl (by omega) (by decide) dX3_habitThenOf_11 ?_
  rw [hbA_at]
  refine lv_aload_n hx hb dX3_habitThenOf_12 rfl (lv_at hl 0 rfl) ?_
  refine lv_iload_n hx hb dX3_habitThenOf_13 rfl (lv_at hl 1 rfl) ?_
  have hPc := hP.sub (ws' := [(hn, .inr (3, [.ref hp, .ref hh, .int (nI (rQ 6)), .int (nI (hpF rQ (rQ 6))), .int (nI (chF rQ (rQ 6))), .int (nI (rQ 0)), .int (nI (rQ 1)), .int (nI (rQ 2)), .int (nI (rQ 3)), .int (nI (rQ 4)), .int (nI (rQ 5))])), aP z hp 6 pf, aN z hh 6 (hbA rQ)]) [0, 1, 2] rfl
  refine nv_cp1 (va_runV (As := [.int (nI pn)]) (rest := [.int (nI (rQ (7 + 4 * pn + 2))), .ref qa9]) ⟨hx, hb, hml, hown, hts⟩ (c_X3_paysOf l D z w0Q hn hp hh pf rQ pn (by first | assumption | omega) (by first | assumption | omega) (by first | assumption | omega)) (cwV 1 hts (gV m_116 m_117 m_118 m_78 m_110) rfl rfl rfl ⟨rfl, hd_X3_paysOf⟩ ⟨Nat.le_of_ble_eq_true rfl, Nat.le_of_ble_eq_true rfl⟩) (nv_prePV (ci := 3) (q0 := 0) hK hPc hE rfl rfl) rfl rfl hl.1 rfl (lv_room (Nat.le_of_ble_eq_true rfl)) dX3_habitThenOf_14 ⟨Nat.le_refl _, Nat.le_refl _⟩) ?_
  refine nv_habit hx hb hml hl.1 hown hts hK hps9 oQ.1 (by omega) (by omega) ⟨Nat.le_of_ble_eq_true rfl, Nat.le_of_ble_eq_true rfl⟩ (Nat.le_of_ble_eq_true rfl) ⟨Nat.le_of_ble_eq_true rfl, Nat.le_of_ble_eq_true rfl⟩ dX3_habitThenOf_17 ?_
  refine W.eq (g2 := F0 m 20 ls [.int (nI (haF rQ pn (rQ 3 + hbF rQ)))]) rfl ?_
  exact nv_ri hx hb hr hlocks dX3_habitThenOf_20 rfl

set_option maxHeartbeats 4000000 in
set_option maxRecDepth 100000 in
theorem c_X3_wordsOfAll (l : Launch) (D : va_G) (z : Nat → ClassId) (w0Q : Nat) (hn : Nat) (hp : Nat) (hh : Nat) (pf : Nat → Option Nat) (rQ : Nat → Nat) (hok : rOK w0Q rQ) (hw : w0Q ≤ 20000) : CP l yX3_wordsOfAll cX3_wordsOfAll 3 (some .int) 3 70 [.ref hn] D z [(hn, .inr (3, [.ref hp, .ref hh, .int (nI (rQ 6)), .int (nI (hpF rQ (rQ 6))), .int (nI (chF rQ (rQ 6))), .int (nI (rQ 0)), .int (nI (rQ 1)), .int (nI (rQ 2)), .int (nI (rQ 3)), .int (nI (rQ 4)), .int (nI (rQ 5))])), aP z hp 6 pf, aN z hh 6 (hbA rQ)] (fun H => peH D [(hn, .inr (3, [.ref hp, .ref hh, .int (nI (rQ 6)), .int (nI (hpF rQ (rQ 6))), .int (nI (chF rQ (rQ 6))), .int (nI (rQ 0)), .int (nI (rQ 1)), .int (nI (rQ 2)), .int (nI (rQ 3)), .int (nI (rQ 4)), .int (nI (rQ 5))])), aP z hp 6 pf, aN z hh 6 (hbA rQ)] pf rQ H) (some (.int (nI (awF rQ (rQ 3 + hbF rQ) (rQ 6))))) := by
  refine Met.ofW (cc := cX3_wordsOfAll) (maxL := 3) (ret := (some .int)) (by decide) rfl ?_
  intro pg e s m args below meth c s₁ B hml hv
  obtain ⟨rfl, hP, hK, hE⟩ := hv
  have hx := B.exec
  have hb := B.bytes
  have hr := B.returns
  have hts : ∀ w ∈ ALL, w.before _ s = true := fun w h => atoms_spec (ws := wA yX3_wordsOfAll cX3_wordsOfAll 3 (some .int)) B.pre w (List.mem_cons_of_mem _ h)
  have hown : s.vm.findClass RX3 = some m.cls := findClass_of_methodNamed B.named
  have hlocks := B.notSynchronized
  obtain ⟨o0, o1, o1b, o2, o2b, o3, o4, o5, o6, oP⟩ := id hok
  have hl := lv_entry ([.ref hn]) (n := 3) (Nat.le_of_ble_eq_true rfl)
  rw [lg_entry_eq]
  generalize (lg_sl ([.ref hn]) ++ List.replicate (3 - (lg_sl ([.ref hn])).length) Slot.unset).toArray = ls at hl ⊢
  have hl : lv_has ls 3 [(0, .ref hn)] := hl
  refine lv_iconst (v := nI 0) hx hb dX3_wordsOfAll_0 (by decide +kernel) ?_
  refine lv_istore_n (lv' := [(1, .int (nI 0)), (0, .ref hn)]) hx hb dX3_wordsOfAll_1 rfl hl (by decide) rfl (fun ls hl => ?_)
  refine lv_iconst (v := nI 0) hx hb dX3_wordsOfAll_2 (by decide +kernel) ?_
  refine lv_istore_n (lv' := [(2, .int (nI 0)), (1, .int (nI 0)), (0, .ref hn)]) hx hb dX3_wordsOfAll_3 rfl hl (by decide) rfl (fun ls hl => ?_)
  refine nv_loopP (σ := Nat) (fun x ls => ∃ (jQ : Nat), jQ = x ∧ ((jQ ≤ rQ 6)) ∧ lv_has ls 3 [(0, .ref hn), (1, .int (nI (awF rQ (rQ 3 + hbF rQ) jQ))), (2, .int (nI jQ))]) (fun x => rQ 6 - x) 4 [] ?_ 0 ?_
  · rintro _ ls ⟨jQ, rfl, hj, hl⟩ ih4
    refine lv_iload_n hx hb dX3_wordsOfAll_4 rfl (lv_at hl 2 rfl) ?_
    refine lv_aload_n hx hb dX3_wordsOfAll_5 rfl (lv_at hl 0 rfl) ?_
    refine va_get (D := D) (ci := 3) (v := .int (nI (rQ 6))) (C := RX3) (T := TX3) (N := 11) hx hb hts iX3 hown hK.1 hP 0 rfl rfl 2 (by decide) (hts _ m_42) (fun _ h9 => h9) rfl dX3_wordsOfAll_6 ?_
    refine nv_ge (tgt := 26) hx hb (by omega) (by omega) dX3_wordsOfAll_9 (by decide) (fun hc9 => ?_) (fun hc9 => ?_)
    · refine lv_iload_n hx hb dX3_wordsOfAll_26 rfl (lv_at hl 1 rfl) ?_
      exact nv_ri hx hb hr hlocks dX3_wordsOfAll_27 (by rw [show jQ = rQ 6 by omega])
    · refine lv_iload_n hx hb dX3_wordsOfAll_12 rfl (lv_at hl 1 rfl) ?_
      refine lv_aload_n hx hb dX3_wordsOfAll_13 rfl (lv_at hl 0 rfl) ?_
      refine lv_iload_n hx hb dX3_wordsOfAll_14 rfl (lv_at hl 2 rfl) ?_
      have hPc := hP.sub (ws' := [(hn, .inr (3, [.ref hp, .ref hh, .int (nI (rQ 6)), .int (nI (hpF rQ (rQ 6))), .int (nI (chF rQ (rQ 6))), .int (nI (rQ 0)), .int (nI (rQ 1)), .int (nI (rQ 2)), .int (nI (rQ 3)), .int (nI (rQ 4)), .int (nI (rQ 5))])), aP z hp 6 pf, aN z hh 6 (hbA rQ)]) [0, 1, 2] rfl
      refine nv_cp1 (va_runV (As := [.int (nI jQ)]) (rest := [.int (nI (awF rQ (rQ 3 + hbF rQ) jQ))]) ⟨hx, hb, hml, hown, hts⟩ (c_X3_wordsOf l D z w0Q hn hp hh pf rQ jQ (by first | assumption | omega) (by first | assumption | omega) (by first | assumption | omega)) (cwV 1 hts (gV m_95 m_96 m_97 m_78 m_91) rfl rfl rfl ⟨rfl, hd_X3_wordsOf⟩ ⟨Nat.le_of_ble_eq_true rfl, Nat.le_of_ble_eq_true rfl⟩) (nv_prePV (ci := 3) (q0 := 0) hK hPc hE rfl rfl) rfl rfl hl.1 rfl (lv_room (Nat.le_of_ble_eq_true rfl)) dX3_wordsOfAll_15 ⟨Nat.le_refl _, Nat.le_refl _⟩) ?_
      refine nv_add hx hb dX3_wordsOfAll_18 ?_
      refine lv_istore_n (lv' := [(1, .int (nI (awF rQ (rQ 3 + hbF rQ) jQ + (woF rQ jQ (rQ 3 + hbF rQ))))), (0, .ref hn), (2, .int (nI jQ))]) hx hb dX3_wordsOfAll_19 rfl hl (by decide) rfl (fun ls hl => ?_)
      refine lv_iinc (v := nI (jQ + 1)) (lv' := [(2, .int (nI (jQ + 1))), (1, .int (nI (awF rQ (rQ 3 + hbF rQ) jQ + (woF rQ jQ (rQ 3 + hbF rQ))))), (0, .ref hn)]) hx hb dX3_wordsOfAll_20 hl (k := 2) rfl (nI_inc _) (by decide) rfl (fun ls hl => ?_)
      refine lv_goto (tgt := 4) hx hb dX3_wordsOfAll_23 (by decide) ?_
      exact ih4 (jQ + 1) _ (by omega) ⟨jQ + 1, rfl, (by omega), lv_sub hl [2, 1, 0] rfl⟩
  · exact ⟨0, rfl, (by omega), lv_sub hl [2, 1, 0] rfl⟩

set_option maxHeartbeats 4000000 in
set_option maxRecDepth 100000 in
theorem c_X3_paysOfAll (l : Launch) (D : va_G) (z : Nat → ClassId) (w0Q : Nat) (hn : Nat) (hp : Nat) (hh : Nat) (pf : Nat → Option Nat) (rQ : Nat → Nat) (hok : rOK w0Q rQ) (hw : w0Q ≤ 20000) : CP l yX3_paysOfAll cX3_paysOfAll 3 (some .int) 4 91 [.ref hn] D z [(hn, .inr (3, [.ref hp, .ref hh, .int (nI (rQ 6)), .int (nI (hpF rQ (rQ 6))), .int (nI (chF rQ (rQ 6))), .int (nI (rQ 0)), .int (nI (rQ 1)), .int (nI (rQ 2)), .int (nI (rQ 3)), .int (nI (rQ 4)), .int (nI (rQ 5))])), aP z hp 6 pf, aN z hh 6 (hbA rQ)] (fun H => peH D [(hn, .inr (3, [.ref hp, .ref hh, .int (nI (rQ 6)), .int (nI (hpF rQ (rQ 6))), .int (nI (chF rQ (rQ 6))), .int (nI (rQ 0)), .int (nI (rQ 1)), .int (nI (rQ 2)), .int (nI (rQ 3)), .int (nI (rQ 4)), .int (nI (rQ 5))])), aP z hp 6 pf, aN z hh 6 (hbA rQ)] pf rQ H) (some (.int (nI (apF rQ (rQ 3 + hbF rQ) (rQ 6))))) := by
  refine Met.ofW (cc := cX3_paysOfAll) (maxL := 3) (ret := (some .int)) (by decide) rfl ?_
  intro pg e s m args below meth c s₁ B hml hv
  obtain ⟨rfl, hP, hK, hE⟩ := hv
  have hx := B.exec
  have hb := B.bytes
  have hr := B.returns
  have hts : ∀ w ∈ ALL, w.before _ s = true := fun w h => atoms_spec (ws := wA yX3_paysOfAll cX3_paysOfAll 3 (some .int)) B.pre w (List.mem_cons_of_mem _ h)
  have hown : s.vm.findClass RX3 = some m.cls := findClass_of_methodNamed B.named
  have hlocks := B.notSynchronized
  obtain ⟨o0, o1, o1b, o2, o2b, o3, o4, o5, o6, oP⟩ := id hok
  have hl := lv_entry ([.ref hn]) (n := 3) (Nat.le_of_ble_eq_true rfl)
  rw [lg_entry_eq]
  generalize (lg_sl ([.ref hn]) ++ List.replicate (3 - (lg_sl ([.ref hn])).length) Slot.unset).toArray = ls at hl ⊢
  have hl : lv_has ls 3 [(0, .ref hn)] := hl
  refine lv_iconst (v := nI 0) hx hb dX3_paysOfAll_0 (by decide +kernel) ?_
  refine lv_istore_n (lv' := [(1, .int (nI 0)), (0, .ref hn)]) hx hb dX3_paysOfAll_1 rfl hl (by decide) rfl (fun ls hl => ?_)
  refine lv_iconst (v := nI 0) hx hb dX3_paysOfAll_2 (by decide +kernel) ?_
  refine lv_istore_n (lv' := [(2, .int (nI 0)), (1, .int (nI 0)), (0, .ref hn)]) hx hb dX3_paysOfAll_3 rfl hl (by decide) rfl (fun ls hl => ?_)
  refine nv_loopP (σ := Nat) (fun x ls => ∃ (jQ : Nat), jQ = x ∧ ((jQ ≤ rQ 6)) ∧ lv_has ls 3 [(0, .ref hn), (1, .int (nI (apF rQ (rQ 3 + hbF rQ) jQ))), (2, .int (nI jQ))]) (fun x => rQ 6 - x) 4 [] ?_ 0 ?_
  · rintro _ ls ⟨jQ, rfl, hj, hl⟩ ih4
    refine lv_iload_n hx hb dX3_paysOfAll_4 rfl (lv_at hl 2 rfl) ?_
    refine lv_aload_n hx hb dX3_paysOfAll_5 rfl (lv_at hl 0 rfl) ?_
    refine va_get (D := D) (ci := 3) (v := .int (nI (rQ 6))) (C := RX3) (T := TX3) (N := 11) hx hb hts iX3 hown hK.1 hP 0 rfl rfl 2 (by decide) (hts _ m_42) (fun _ h9 => h9) rfl dX3_paysOfAll_6 ?_
    refine nv_ge (tgt := 26) hx hb (by omega) (by omega) dX3_paysOfAll_9 (by decide) (fun hc9 => ?_) (fun hc9 => ?_)
    · refine lv_iload_n hx hb dX3_paysOfAll_26 rfl (lv_at hl 1 rfl) ?_
      exact nv_ri hx hb hr hlocks dX3_paysOfAll_27 (by rw [show jQ = rQ 6 by omega])
    · refine lv_iload_n hx hb dX3_paysOfAll_12 rfl (lv_at hl 1 rfl) ?_
      refine lv_aload_n hx hb dX3_paysOfAll_13 rfl (lv_at hl 0 rfl) ?_
      refine lv_iload_n hx hb dX3_paysOfAll_14 rfl (lv_at hl 2 rfl) ?_
      have hPc := hP.sub (ws' := [(hn, .inr (3, [.ref hp, .ref hh, .int (nI (rQ 6)), .int (nI (hpF rQ (rQ 6))), .int (nI (chF rQ (rQ 6))), .int (nI (rQ 0)), .int (nI (rQ 1)), .int (nI (rQ 2)), .int (nI (rQ 3)), .int (nI (rQ 4)), .int (nI (rQ 5))])), aP z hp 6 pf, aN z hh 6 (hbA rQ)]) [0, 1, 2] rfl
      refine nv_cp1 (va_runV (As := [.int (nI jQ)]) (rest := [.int (nI (apF rQ (rQ 3 + hbF rQ) jQ))]) ⟨hx, hb, hml, hown, hts⟩ (c_X3_paysOf l D z w0Q hn hp hh pf rQ jQ (by first | assumption | omega) (by first | assumption | omega) (by first | assumption | omega)) (cwV 1 hts (gV m_116 m_117 m_118 m_78 m_110) rfl rfl rfl ⟨rfl, hd_X3_paysOf⟩ ⟨Nat.le_of_ble_eq_true rfl, Nat.le_of_ble_eq_true rfl⟩) (nv_prePV (ci := 3) (q0 := 0) hK hPc hE rfl rfl) rfl rfl hl.1 rfl (lv_room (Nat.le_of_ble_eq_true rfl)) dX3_paysOfAll_15 ⟨Nat.le_refl _, Nat.le_refl _⟩) ?_
      refine nv_add hx hb dX3_paysOfAll_18 ?_
      refine lv_istore_n (lv' := [(1, .int (nI (apF rQ (rQ 3 + hbF rQ) jQ + (paF rQ jQ (rQ 3 + hbF rQ))))), (0, .ref hn), (2, .int (nI jQ))]) hx hb dX3_paysOfAll_19 rfl hl (by decide) rfl (fun ls hl => ?_)
      refine lv_iinc (v := nI (jQ + 1)) (lv' := [(2, .int (nI (jQ + 1))), (1, .int (nI (apF rQ (rQ 3 + hbF rQ) jQ + (paF rQ jQ (rQ 3 + hbF rQ))))), (0, .ref hn)]) hx hb dX3_paysOfAll_20 hl (k := 2) rfl (nI_inc _) (by decide) rfl (fun ls hl => ?_)
      refine lv_goto (tgt := 4) hx hb dX3_paysOfAll_23 (by decide) ?_
      exact ih4 (jQ + 1) _ (by omega) ⟨jQ + 1, rfl, (by omega), lv_sub hl [2, 1, 0] rfl⟩
  · exact ⟨0, rfl, (by omega), lv_sub hl [2, 1, 0] rfl⟩

set_option maxHeartbeats 4000000 in
set_option maxRecDepth 100000 in
theorem c_X3_live (l : Launch) (D : va_G) (z : Nat → ClassId) (sz : Nat) (w0Q : Nat) (hn : Nat) (hp : Nat) (hh : Nat) (pf : Nat → Option Nat) (rQ : Nat → Nat) (mm : Nat) (hok : rOK w0Q rQ) (hmm : mm ≤ 11) (hw : w0Q ≤ 20000) : CM l yX3_live cX3_live 9 (some .int) 2 49 0 0 [.ref hn, .int (nI mm)] D z [(hn, .inr (3, [.ref hp, .ref hh, .int (nI (rQ 6)), .int (nI (hpF rQ (rQ 6))), .int (nI (chF rQ (rQ 6))), .int (nI (rQ 0)), .int (nI (rQ 1)), .int (nI (rQ 2)), .int (nI (rQ 3)), .int (nI (rQ 4)), .int (nI (rQ 5))])), aP z hp 6 pf, aN z hh 6 (hbA rQ)] sz (fun H => peH D [(hn, .inr (3, [.ref hp, .ref hh, .int (nI (rQ 6)), .int (nI (hpF rQ (rQ 6))), .int (nI (chF rQ (rQ 6))), .int (nI (rQ 0)), .int (nI (rQ 1)), .int (nI (rQ 2)), .int (nI (rQ 3)), .int (nI (rQ 4)), .int (nI (rQ 5))])), aP z hp 6 pf, aN z hh 6 (hbA rQ)] pf rQ H) [(hn, .inr (3, [.ref hp, .ref hh, .int (nI ((weekR rQ mm) 6)), .int (nI (hpF (weekR rQ mm) ((weekR rQ mm) 6))), .int (nI (chF (weekR rQ mm) ((weekR rQ mm) 6))), .int (nI ((weekR rQ mm) 0)), .int (nI ((weekR rQ mm) 1)), .int (nI ((weekR rQ mm) 2)), .int (nI ((weekR rQ mm) 3)), .int (nI ((weekR rQ mm) 4)), .int (nI ((weekR rQ mm) 5))])), aP z hp 6 pf, aN z hh 6 (hbA (weekR rQ mm))] (some (.int (nI (weekW rQ mm)))) (fun _ => True) := by
  refine Met.ofW (cc := cX3_live) (maxL := 9) (ret := (some .int)) (by decide) rfl ?_
  intro pg e s m args below meth c s₁ B hml hv
  obtain ⟨rfl, hsz, hP, hK, hD0, hE⟩ := hv
  have hx := B.exec
  have hb := B.bytes
  have hr := B.returns
  have hts : ∀ w ∈ ALL, w.before _ s = true := fun w h => atoms_spec (ws := wA yX3_live cX3_live 9 (some .int)) B.pre w (List.mem_cons_of_mem _ h)
  have hown : s.vm.findClass RX3 = some m.cls := findClass_of_methodNamed B.named
  have hlocks := B.notSynchronized
  subst hsz
  have hD := hD0.self (sz := s.heap.size)
  obtain ⟨o0, o1, o1b, o2, o2b, o3, o4, o5, o6, oP⟩ := id hok
  have hN : ∀ (H : Heap) (locs : List Loc), va_S (va_A [(hn, .inr (3, [.ref hp, .ref hh, .int (nI (rQ 6)), .int (nI (hpF rQ (rQ 6))), .int (nI (chF rQ (rQ 6))), .int (nI (rQ 0)), .int (nI (rQ 1)), .int (nI (rQ 2)), .int (nI (rQ 3)), .int (nI (rQ 4)), .int (nI (rQ 5))])), aP z hp 6 pf, aN z hh 6 (hbA rQ)] s.heap.size) s.heap H locs → peH D [(hn, .inr (3, [.ref hp, .ref hh, .int (nI (rQ 6)), .int (nI (hpF rQ (rQ 6))), .int (nI (chF rQ (rQ 6))), .int (nI (rQ 0)), .int (nI (rQ 1)), .int (nI (rQ 2)), .int (nI (rQ 3)), .int (nI (rQ 4)), .int (nI (rQ 5))])), aP z hp 6 pf, aN z hh 6 (hbA rQ)] pf rQ H := fun H locs h9 => peH.now hE h9
  have hb6 := hbF_le rQ
  have hap := apF_le (r := rQ) (mm + hbF rQ) (rQ 6) o2b
  have hA : ∀ q : Nat, s.heap.size ≤ q → va_A [(hn, .inr (3, [.ref hp, .ref hh, .int (nI (rQ 6)), .int (nI (hpF rQ (rQ 6))), .int (nI (chF rQ (rQ 6))), .int (nI (rQ 0)), .int (nI (rQ 1)), .int (nI (rQ 2)), .int (nI (rQ 3)), .int (nI (rQ 4)), .int (nI (rQ 5))])), aP z hp 6 pf, aN z hh 6 (hbA rQ)] s.heap.size q := fun q h => Or.inr h
  generalize va_A [(hn, .inr (3, [.ref hp, .ref hh, .int (nI (rQ 6)), .int (nI (hpF rQ (rQ 6))), .int (nI (chF rQ (rQ 6))), .int (nI (rQ 0)), .int (nI (rQ 1)), .int (nI (rQ 2)), .int (nI (rQ 3)), .int (nI (rQ 4)), .int (nI (rQ 5))])), aP z hp 6 pf, aN z hh 6 (hbA rQ)] s.heap.size = A at *
  have hS : va_S A s.heap s.heap [] := va_S.rf
  have hl := lv_entry ([.ref hn, .int (nI mm)]) (n := 9) (Nat.le_of_ble_eq_true rfl)
  rw [lg_entry_eq]
  generalize (lg_sl ([.ref hn, .int (nI mm)]) ++ List.replicate (9 - (lg_sl ([.ref hn, .int (nI mm)])).length) Slot.unset).toArray = ls at hl ⊢
  have hl : lv_has ls 9 [(0, .ref hn), (1, .int (nI mm))] := hl
  refine lv_aload_n hx hb dX3_live_0 rfl (lv_at hl 0 rfl) ?_
  refine lv_iload_n hx hb dX3_live_1 rfl (lv_at hl 1 rfl) ?_
  have hPc := hP.sub (ws' := [(hn, .inr (3, [.ref hp, .ref hh, .int (nI (rQ 6)), .int (nI (hpF rQ (rQ 6))), .int (nI (chF rQ (rQ 6))), .int (nI (rQ 0)), .int (nI (rQ 1)), .int (nI (rQ 2)), .int (nI (rQ 3)), .int (nI (rQ 4)), .int (nI (rQ 5))]))]) [0] rfl
  refine nv_cp1 (va_runV (As := [.int (nI mm)]) (rest := []) ⟨hx, hb, hml, hown, hts⟩ (c_X3_withHopes l D z w0Q hn hp hh rQ mm (by first | assumption | omega) (by first | assumption | omega)) (cwV 1 hts (gV m_75 m_76 m_77 m_78 m_70) rfl rfl rfl ⟨rfl, hd_X3_withHopes⟩ ⟨Nat.le_of_ble_eq_true rfl, Nat.le_of_ble_eq_true rfl⟩) (nv_prePV (ci := 3) (q0 := 0) hK hPc trivial rfl rfl) rfl rfl hl.1 rfl (lv_room (Nat.le_of_ble_eq_true rfl)) dX3_live_2 ⟨by decide, by decide⟩) ?_
  refine lv_istore_n (lv' := [(2, .int (nI (mm + hbF rQ))), (0, .ref hn), (1, .int (nI mm))]) hx hb dX3_live_5 rfl hl (by decide) rfl (fun ls hl => ?_)
  refine lv_iconst (v := nI 0) hx hb dX3_live_6 (by decide +kernel) ?_
  refine lv_istore_n (lv' := [(3, .int (nI 0)), (2, .int (nI (mm + hbF rQ))), (0, .ref hn), (1, .int (nI mm))]) hx hb dX3_live_7 rfl hl (by decide) rfl (fun ls hl => ?_)
  refine lv_iconst (v := nI 0) hx hb dX3_live_8 (by decide +kernel) ?_
  refine lv_istore (lv' := [(4, .int (nI 0)), (3, .int (nI 0)), (2, .int (nI (mm + hbF rQ))), (0, .ref hn), (1, .int (nI mm))]) hx hb dX3_live_9 hl (by decide) rfl (fun ls hl => ?_)
  refine lv_iconst (v := nI 0) hx hb dX3_live_11 (by decide +kernel) ?_
  refine lv_istore (lv' := [(5, .int (nI 0)), (4, .int (nI 0)), (3, .int (nI 0)), (2, .int (nI (mm + hbF rQ))), (0, .ref hn), (1, .int (nI mm))]) hx hb dX3_live_12 hl (by decide) rfl (fun ls hl => ?_)
  refine nv_loop (σ := Nat) (fun x H locs ls => ∃ (jQ : Nat), jQ = x ∧ ((jQ ≤ rQ 6)) ∧ va_P D vwCl [(hn, .inr (3, [.ref hp, .ref hh, .int (nI (rQ 6)), .int (nI (hpF rQ (rQ 6))), .int (nI (chF rQ (rQ 6))), .int (nI (rQ 0)), .int (nI (rQ 1)), .int (nI (rQ 2)), .int (nI (rQ 3)), .int (nI (rQ 4)), .int (nI (rQ 5))])), aP z hp 6 pf, aN z hh 6 (hbA (hrF rQ (mm + hbF rQ) jQ))] H ∧ va_D A [(hn, .inr (3, [.ref hp, .ref hh, .int (nI (rQ 6)), .int (nI (hpF rQ (rQ 6))), .int (nI (chF rQ (rQ 6))), .int (nI (rQ 0)), .int (nI (rQ 1)), .int (nI (rQ 2)), .int (nI (rQ 3)), .int (nI (rQ 4)), .int (nI (rQ 5))])), aP z hp 6 pf, aN z hh 6 (hbA (hrF rQ (mm + hbF rQ) jQ))] ∧ va_S A s.heap H locs ∧ lv_has ls 9 [(0, .ref hn), (2, .int (nI (mm + hbF rQ))), (3, .int (nI (awF rQ (mm + hbF rQ) jQ))), (4, .int (nI (apF rQ (mm + hbF rQ) jQ))), (5, .int (nI jQ))]) (fun x => rQ 6 - x) 14 [] ?_ 0 ?_
  · rintro _ H locs ls ⟨jQ, rfl, hj, hP, hD, hS, hl⟩ ih14
    refine lv_iload hx hb dX3_live_14 (lv_at hl 4 rfl) ?_
    refine lv_aload_n hx hb dX3_live_16 rfl (lv_at hl 0 rfl) ?_
    refine va_get (D := D) (ci := 3) (v := .int (nI (rQ 6))) (C := RX3) (T := TX3) (N := 11) hx hb hts iX3 hown hK.1 hP 0 rfl rfl 2 (by decide) (hts _ m_42) (fun _ h9 => h9) rfl dX3_live_17 ?_
    refine nv_ge (tgt := 107) hx hb (by omega) (by omega) dX3_live_20 (by decide) (fun hc20 => ?_) (fun hc20 => ?_)
    · obtain rfl : jQ = rQ 6 := by omega
      refine lv_aload_n hx hb dX3_live_107 rfl (lv_at hl 0 rfl) ?_
      refine lv_sipush (v := nI 9999) hx hb dX3_live_108 (by decide +kernel) ?_
      refine lv_aload_n hx hb dX3_live_111 rfl (lv_at hl 0 rfl) ?_
      refine va_get (D := D) (ci := 3) (v := .int (nI (rQ 0))) (C := RX3) (T := TX3) (N := 11) hx hb hts iX3 hown hK.1 hP 0 rfl rfl 5 (by decide) (hts _ m_45) (fun _ h9 => h9) rfl dX3_live_112 ?_
      refine lv_iload hx hb dX3_live_115 (lv_at hl 3 rfl) ?_
      refine nv_add hx hb dX3_live_117 ?_
      refine nv_mmin (r9 := nI (weP rQ (mm + hbF rQ))) hx hb (hml.trans hl.1.symm) hown (hts _ m_132) (hts _ m_13) (hts _ m_14) (hts _ m_15) (Nat.le_of_ble_eq_true rfl) (Nat.le_of_ble_eq_true rfl) (Nat.le_of_ble_eq_true rfl) (Nat.le_of_ble_eq_true rfl) (by rw [mn_n (by omega) (by omega)]; unfold weP; congr 1; split <;> split <;> omega) dX3_live_118 ?_
      refine va_put (D := D) (ci := 3) (v := .int (nI (weP rQ (mm + hbF rQ)))) (ty := tyX3 5) (C := RX3) (T := TX3) (N := 11) hx hb hts iX3 tyX3 tyX3_ok nmX3 hown hK.1 hP hD hS 0 rfl rfl 5 (by decide) (hts _ m_45) (fun _ h9 => h9) rfl (tyX3_ok 5 (by decide)) rfl rfl (Nat.le_of_ble_eq_true rfl) dX3_live_121 (fun H locs hP hD hS => ?_)
      have hP : va_P D vwCl [(hn, .inr (3, [.ref hp, .ref hh, .int (nI (rQ 6)), .int (nI (hpF rQ (rQ 6))), .int (nI (chF rQ (rQ 6))), .int (nI (weP rQ (mm + hbF rQ))), .int (nI (rQ 1)), .int (nI (rQ 2)), .int (nI (rQ 3)), .int (nI (rQ 4)), .int (nI (rQ 5))])), aP z hp 6 pf, aN z hh 6 (hbA (hrF rQ (mm + hbF rQ) (rQ 6)))] H := hP
      have hD : va_D A [(hn, .inr (3, [.ref hp, .ref hh, .int (nI (rQ 6)), .int (nI (hpF rQ (rQ 6))), .int (nI (chF rQ (rQ 6))), .int (nI (weP rQ (mm + hbF rQ))), .int (nI (rQ 1)), .int (nI (rQ 2)), .int (nI (rQ 3)), .int (nI (rQ 4)), .int (nI (rQ 5))])), aP z hp 6 pf, aN z hh 6 (hbA (hrF rQ (mm + hbF rQ) (rQ 6)))] := hD
      refine lv_aload_n hx hb dX3_live_124 rfl (lv_at hl 0 rfl) ?_
      refine lv_dup hx hb dX3_live_125 rfl ?_
      refine va_get (D := D) (ci := 3) (v := .int (nI (rQ 4))) (C := RX3) (T := TX3) (N := 11) hx hb hts iX3 hown hK.1 hP 0 rfl rfl 9 (by decide) (hts _ m_49) (fun _ h9 => h9) rfl dX3_live_126 ?_
      refine lv_iconst (v := nI 1) hx hb dX3_live_129 (by decide +kernel) ?_
      refine nv_add hx hb dX3_live_130 ?_
      refine va_put (D := D) (ci := 3) (v := .int (nI (rQ 4 + 1))) (ty := tyX3 9) (C := RX3) (T := TX3) (N := 11) hx hb hts iX3 tyX3 tyX3_ok nmX3 hown hK.1 hP hD hS 0 rfl rfl 9 (by decide) (hts _ m_49) (fun _ h9 => h9) rfl (tyX3_ok 9 (by decide)) rfl rfl (Nat.le_of_ble_eq_true rfl) dX3_live_131 (fun H locs hP hD hS => ?_)
      have hP : va_P D vwCl [(hn, .inr (3, [.ref hp, .ref hh, .int (nI (rQ 6)), .int (nI (hpF rQ (rQ 6))), .int (nI (chF rQ (rQ 6))), .int (nI (weP rQ (mm + hbF rQ))), .int (nI (rQ 1)), .int (nI (rQ 2)), .int (nI (rQ 3)), .int (nI (rQ 4 + 1)), .int (nI (rQ 5))])), aP z hp 6 pf, aN z hh 6 (hbA (hrF rQ (mm + hbF rQ) (rQ 6)))] H := hP
      have hD : va_D A [(hn, .inr (3, [.ref hp, .ref hh, .int (nI (rQ 6)), .int (nI (hpF rQ (rQ 6))), .int (nI (chF rQ (rQ 6))), .int (nI (weP rQ (mm + hbF rQ))), .int (nI (rQ 1)), .int (nI (rQ 2)), .int (nI (rQ 3)), .int (nI (rQ 4 + 1)), .int (nI (rQ 5))])), aP z hp 6 pf, aN z hh 6 (hbA (hrF rQ (mm + hbF rQ) (rQ 6)))] := hD
      refine lv_iload_n hx hb dX3_live_134 rfl (lv_at hl 2 rfl) ?_
      exact nv_mi hx hb hr hlocks hS dX3_live_135 (by rw [weekR_6, hp_week, ch_week, weekR_0, weekR_1, weekR_2, weekR_3, weekR_4, weekR_5, hbA_week]; exact hP) trivial rfl
    · obtain ⟨qa9, hqa9, hap9, hps9⟩ := (hN _ _ hS).2 jQ (by omega)
      have oQ := oP jQ (by omega)
      have hbj : hbA (hrF rQ (mm + hbF rQ) jQ) jQ = rQ (7 + 4 * jQ + 2) := hrF_other _ _ _ _ (fun p _ => by omega)
      have hwl := woF_le rQ jQ (mm + hbF rQ)
      have hpl := paF_le (r := rQ) jQ (mm + hbF rQ) o2b
      refine lv_aload_n hx hb dX3_live_23 rfl (lv_at hl 0 rfl) ?_
      refine va_get (D := D) (ci := 3) (v := .ref hp) (C := RX3) (T := TX3) (N := 11) hx hb hts iX3 hown hK.1 hP 0 rfl rfl 0 (by decide) (hts _ m_39) (fun _ h9 => h9) rfl dX3_live_24 ?_
      refine lv_iload hx hb dX3_live_27 (lv_at hl 4 rfl) ?_
      refine nv_pald (v := some qa9) hx hb hK hP 1 rfl (by omega) (by decide) hqa9 dX3_live_29 ?_
      refine W.eq (g2 := F0 m 30 ls [.ref qa9]) rfl ?_
      refine lv_astore (lv' := [(6, .ref qa9), (0, .ref hn), (2, .int (nI (mm + hbF rQ))), (3, .int (nI (awF rQ (mm + hbF rQ) jQ))), (4, .int (nI (apF rQ (mm + hbF rQ) jQ))), (5, .int (nI jQ))]) hx hb dX3_live_30 hl (by decide) rfl (fun ls hl => ?_)
      refine lv_aload hx hb dX3_live_32 (lv_at hl 0 rfl) ?_
      refine lv_iload_n hx hb dX3_live_34 rfl (lv_at hl 2 rfl) ?_
      refine lv_aload_n hx hb dX3_live_35 rfl (lv_at hl 1 rfl) ?_
      refine va_get (D := D) (ci := 3) (v := .ref hh) (C := RX3) (T := TX3) (N := 11) hx hb hts iX3 hown hK.1 hP 0 rfl rfl 1 (by decide) (hts _ m_41) (fun _ h9 => h9) rfl dX3_live_36 ?_
      refine lv_iload hx hb dX3_live_39 (lv_at hl 5 rfl) ?_
      refine nv_ald hx hb hK hP 2 rfl (by omega) (by decide) dX3_live_41 ?_
      rw [hbj]
      refine lv_aload_n hx hb dX3_live_42 rfl (lv_at hl 1 rfl) ?_
      refine va_get (D := D) (ci := 3) (v := .int (nI (rQ 2))) (C := RX3) (T := TX3) (N := 11) hx hb hts iX3 hown hK.1 hP 0 rfl rfl 7 (by decide) (hts _ m_47) (fun _ h9 => h9) rfl dX3_live_43 ?_
      refine lv_aload_n hx hb dX3_live_46 rfl (lv_at hl 1 rfl) ?_
      refine va_get (D := D) (ci := 3) (v := .int (nI (rQ 4))) (C := RX3) (T := TX3) (N := 11) hx hb hts iX3 hown hK.1 hP 0 rfl rfl 9 (by decide) (hts _ m_49) (fun _ h9 => h9) rfl dX3_live_47 ?_
      refine nv_words hx hb hml hl.1 hown hts hK hps9 oQ.1 (by omega) (by omega) (by omega) (by omega) (by omega) ⟨Nat.le_of_ble_eq_true rfl, Nat.le_of_ble_eq_true rfl⟩ (Nat.le_of_ble_eq_true rfl) ⟨Nat.le_of_ble_eq_true rfl, Nat.le_of_ble_eq_true rfl⟩ dX3_live_50 ?_
      refine W.eq (g2 := F0 m 53 ls [.int (nI (woF rQ jQ (mm + hbF rQ)))]) rfl ?_
      refine lv_istore (lv' := [(7, .int (nI (woF rQ jQ (mm + hbF rQ)))), (6, .ref qa9), (0, .ref hn), (2, .int (nI (mm + hbF rQ))), (3, .int (nI (awF rQ (mm + hbF rQ) jQ))), (4, .int (nI (apF rQ (mm + hbF rQ) jQ))), (5, .int (nI jQ))]) hx hb dX3_live_53 hl (by decide) rfl (fun ls hl => ?_)
      refine lv_aload hx hb dX3_live_55 (lv_at hl 1 rfl) ?_
      refine lv_iload hx hb dX3_live_57 (lv_at hl 0 rfl) ?_
      refine lv_aload_n hx hb dX3_live_59 rfl (lv_at hl 2 rfl) ?_
      refine va_get (D := D) (ci := 3) (v := .int (nI (rQ 2))) (C := RX3) (T := TX3) (N := 11) hx hb hts iX3 hown hK.1 hP 0 rfl rfl 7 (by decide) (hts _ m_47) (fun _ h9 => h9) rfl dX3_live_60 ?_
      refine nv_pays hx hb hml hl.1 hown hts hK hps9 oQ.1 hwl o2b ⟨Nat.le_of_ble_eq_true rfl, Nat.le_of_ble_eq_true rfl⟩ (Nat.le_of_ble_eq_true rfl) ⟨Nat.le_of_ble_eq_true rfl, Nat.le_of_ble_eq_true rfl⟩ dX3_live_63 ?_
      refine W.eq (g2 := F0 m 66 ls [.int (nI (paF rQ jQ (mm + hbF rQ)))]) rfl ?_
      refine lv_istore (lv' := [(8, .int (nI (paF rQ jQ (mm + hbF rQ)))), (7, .int (nI (woF rQ jQ (mm + hbF rQ)))), (6, .ref qa9), (0, .ref hn), (2, .int (nI (mm + hbF rQ))), (3, .int (nI (awF rQ (mm + hbF rQ) jQ))), (4, .int (nI (apF rQ (mm + hbF rQ) jQ))), (5, .int (nI jQ))]) hx hb dX3_live_66 hl (by decide) rfl (fun ls hl => ?_)
      refine lv_aload_n hx hb dX3_live_68 rfl (lv_at hl 3 rfl) ?_
      refine va_get (D := D) (ci := 3) (v := .ref hh) (C := RX3) (T := TX3) (N := 11) hx hb hts iX3 hown hK.1 hP 0 rfl rfl 1 (by decide) (hts _ m_41) (fun _ h9 => h9) rfl dX3_live_69 ?_
      refine lv_iload hx hb dX3_live_72 (lv_at hl 7 rfl) ?_
      refine lv_aload hx hb dX3_live_74 (lv_at hl 2 rfl) ?_
      refine lv_aload_n hx hb dX3_live_76 rfl (lv_at hl 3 rfl) ?_
      refine va_get (D := D) (ci := 3) (v := .ref hh) (C := RX3) (T := TX3) (N := 11) hx hb hts iX3 hown hK.1 hP 0 rfl rfl 1 (by decide) (hts _ m_41) (fun _ h9 => h9) rfl dX3_live_77 ?_
      refine lv_iload hx hb dX3_live_80 (lv_at hl 7 rfl) ?_
      refine nv_ald hx hb hK hP 2 rfl (by omega) (by decide) dX3_live_82 ?_
      rw [hbj]
      refine lv_iload hx hb dX3_live_83 (lv_at hl 0 rfl) ?_
      refine nv_habit hx hb hml hl.1 hown hts hK hps9 oQ.1 (by omega) (by omega) ⟨Nat.le_of_ble_eq_true rfl, Nat.le_of_ble_eq_true rfl⟩ (Nat.le_of_ble_eq_true rfl) ⟨Nat.le_of_ble_eq_true rfl, Nat.le_of_ble_eq_true rfl⟩ dX3_live_85 ?_
      refine W.eq (g2 := F0 m 88 ls [.int (nI (haF rQ jQ (mm + hbF rQ))), .int (nI jQ), .ref hh]) rfl ?_
      refine nv_ast hx hb hK hP hD hS 2 rfl (by omega) (by decide) dX3_live_88 (fun H locs hP hD hS => ?_)
      have hP : va_P D vwCl [(hn, .inr (3, [.ref hp, .ref hh, .int (nI (rQ 6)), .int (nI (hpF rQ (rQ 6))), .int (nI (chF rQ (rQ 6))), .int (nI (rQ 0)), .int (nI (rQ 1)), .int (nI (rQ 2)), .int (nI (rQ 3)), .int (nI (rQ 4)), .int (nI (rQ 5))])), aP z hp 6 pf, aN z hh 6 (uN (hbA (hrF rQ (mm + hbF rQ) jQ)) jQ (haF rQ jQ (mm + hbF rQ)))] H := hP
      have hD : va_D A [(hn, .inr (3, [.ref hp, .ref hh, .int (nI (rQ 6)), .int (nI (hpF rQ (rQ 6))), .int (nI (chF rQ (rQ 6))), .int (nI (rQ 0)), .int (nI (rQ 1)), .int (nI (rQ 2)), .int (nI (rQ 3)), .int (nI (rQ 4)), .int (nI (rQ 5))])), aP z hp 6 pf, aN z hh 6 (uN (hbA (hrF rQ (mm + hbF rQ) jQ)) jQ (haF rQ jQ (mm + hbF rQ)))] := hD
      refine lv_iload_n hx hb dX3_live_89 rfl (lv_at hl 5 rfl) ?_
      refine lv_iload hx hb dX3_live_90 (lv_at hl 1 rfl) ?_
      refine nv_add hx hb dX3_live_92 ?_
      refine lv_istore_n (lv' := [(3, .int (nI (awF rQ (mm + hbF rQ) jQ + (woF rQ jQ (mm + hbF rQ))))), (8, .int (nI (paF rQ jQ (mm + hbF rQ)))), (7, .int (nI (woF rQ jQ (mm + hbF rQ)))), (6, .ref qa9), (0, .ref hn), (2, .int (nI (mm + hbF rQ))), (4, .int (nI (apF rQ (mm + hbF rQ) jQ))), (5, .int (nI jQ))]) hx hb dX3_live_93 rfl hl (by decide) rfl (fun ls hl => ?_)
      refine lv_iload hx hb dX3_live_94 (lv_at hl 6 rfl) ?_
      refine lv_iload hx hb dX3_live_96 (lv_at hl 1 rfl) ?_
      refine nv_add hx hb dX3_live_98 ?_
      refine lv_istore (lv' := [(4, .int (nI (apF rQ (mm + hbF rQ) jQ + (paF rQ jQ (mm + hbF rQ))))), (3, .int (nI (awF rQ (mm + hbF rQ) jQ + (woF rQ jQ (mm + hbF rQ))))), (8, .int (nI (paF rQ jQ (mm + hbF rQ)))), (7, .int (nI (woF rQ jQ (mm + hbF rQ)))), (6, .ref qa9), (0, .ref hn), (2, .int (nI (mm + hbF rQ))), (5, .int (nI jQ))]) hx hb dX3_live_99 hl (by decide) rfl (fun ls hl => ?_)
      refine lv_iinc (v := nI (jQ + 1)) (lv' := [(5, .int (nI (jQ + 1))), (4, .int (nI (apF rQ (mm + hbF rQ) jQ + (paF rQ jQ (mm + hbF rQ))))), (3, .int (nI (awF rQ (mm + hbF rQ) jQ + (woF rQ jQ (mm + hbF rQ))))), (8, .int (nI (paF rQ jQ (mm + hbF rQ)))), (7, .int (nI (woF rQ jQ (mm + hbF rQ)))), (6, .ref qa9), (0, .ref hn), (2, .int (nI (mm + hbF rQ)))]) hx hb dX3_live_101 hl (k := 7) rfl (nI_inc _) (by decide) rfl (fun ls hl => ?_)
      refine lv_goto (tgt := 14) hx hb dX3_live_104 (by decide) ?_
      rw [hbA_set] at hP hD
      exact ih14 (jQ + 1) _ _ _ (by omega) ⟨jQ + 1, rfl, (by omega), hP, hD, hS, lv_sub hl [6, 7, 2, 1, 0] rfl⟩
  · exact ⟨0, rfl, (by omega), hP, hD, hS, lv_sub hl [4, 3, 2, 1, 0] rfl⟩

set_option maxHeartbeats 4000000 in
set_option maxRecDepth 100000 in
theorem c_X3_liveOn (l : Launch) (D : va_G) (z : Nat → ClassId) (sz : Nat) (w0Q : Nat) (hn : Nat) (hp : Nat) (hh : Nat) (pf : Nat → Option Nat) (rQ : Nat → Nat) (nQ : Nat) (hok : rOK w0Q rQ) (hn9 : nQ ≤ 99) (hw : w0Q ≤ 10000) : CM l yX3_liveOn cX3_liveOn 4 (some .int) 3 77 0 0 [.ref hn, .int (nI nQ)] D z [(hn, .inr (3, [.ref hp, .ref hh, .int (nI (rQ 6)), .int (nI (hpF rQ (rQ 6))), .int (nI (chF rQ (rQ 6))), .int (nI (rQ 0)), .int (nI (rQ 1)), .int (nI (rQ 2)), .int (nI (rQ 3)), .int (nI (rQ 4)), .int (nI (rQ 5))])), aP z hp 6 pf, aN z hh 6 (hbA rQ)] sz (fun H => peH D [(hn, .inr (3, [.ref hp, .ref hh, .int (nI (rQ 6)), .int (nI (hpF rQ (rQ 6))), .int (nI (chF rQ (rQ 6))), .int (nI (rQ 0)), .int (nI (rQ 1)), .int (nI (rQ 2)), .int (nI (rQ 3)), .int (nI (rQ 4)), .int (nI (rQ 5))])), aP z hp 6 pf, aN z hh 6 (hbA rQ)] pf rQ H) [(hn, .inr (3, [.ref hp, .ref hh, .int (nI ((wkN rQ nQ) 6)), .int (nI (hpF (wkN rQ nQ) ((wkN rQ nQ) 6))), .int (nI (chF (wkN rQ nQ) ((wkN rQ nQ) 6))), .int (nI ((wkN rQ nQ) 0)), .int (nI ((wkN rQ nQ) 1)), .int (nI ((wkN rQ nQ) 2)), .int (nI ((wkN rQ nQ) 3)), .int (nI ((wkN rQ nQ) 4)), .int (nI ((wkN rQ nQ) 5))])), aP z hp 6 pf, aN z hh 6 (hbA (wkN rQ nQ))] (some (.int (nI (suN rQ nQ)))) (fun _ => True) := by
  refine Met.ofW (cc := cX3_liveOn) (maxL := 4) (ret := (some .int)) (by decide) rfl ?_
  intro pg e s m args below meth c s₁ B hml hv
  obtain ⟨rfl, hsz, hP, hK, hD0, hE⟩ := hv
  have hx := B.exec
  have hb := B.bytes
  have hr := B.returns
  have hts : ∀ w ∈ ALL, w.before _ s = true := fun w h => atoms_spec (ws := wA yX3_liveOn cX3_liveOn 4 (some .int)) B.pre w (List.mem_cons_of_mem _ h)
  have hown : s.vm.findClass RX3 = some m.cls := findClass_of_methodNamed B.named
  have hlocks := B.notSynchronized
  subst hsz
  have hD := hD0.self (sz := s.heap.size)
  obtain ⟨o0, o1, o1b, o2, o2b, o3, o4, o5, o6, oP⟩ := id hok
  have hN : ∀ (H : Heap) (locs : List Loc), va_S (va_A [(hn, .inr (3, [.ref hp, .ref hh, .int (nI (rQ 6)), .int (nI (hpF rQ (rQ 6))), .int (nI (chF rQ (rQ 6))), .int (nI (rQ 0)), .int (nI (rQ 1)), .int (nI (rQ 2)), .int (nI (rQ 3)), .int (nI (rQ 4)), .int (nI (rQ 5))])), aP z hp 6 pf, aN z hh 6 (hbA rQ)] s.heap.size) s.heap H locs → peH D [(hn, .inr (3, [.ref hp, .ref hh, .int (nI (rQ 6)), .int (nI (hpF rQ (rQ 6))), .int (nI (chF rQ (rQ 6))), .int (nI (rQ 0)), .int (nI (rQ 1)), .int (nI (rQ 2)), .int (nI (rQ 3)), .int (nI (rQ 4)), .int (nI (rQ 5))])), aP z hp 6 pf, aN z hh 6 (hbA rQ)] pf rQ H := fun H locs h9 => peH.now hE h9
  have hA : ∀ q : Nat, s.heap.size ≤ q → va_A [(hn, .inr (3, [.ref hp, .ref hh, .int (nI (rQ 6)), .int (nI (hpF rQ (rQ 6))), .int (nI (chF rQ (rQ 6))), .int (nI (rQ 0)), .int (nI (rQ 1)), .int (nI (rQ 2)), .int (nI (rQ 3)), .int (nI (rQ 4)), .int (nI (rQ 5))])), aP z hp 6 pf, aN z hh 6 (hbA rQ)] s.heap.size q := fun q h => Or.inr h
  generalize va_A [(hn, .inr (3, [.ref hp, .ref hh, .int (nI (rQ 6)), .int (nI (hpF rQ (rQ 6))), .int (nI (chF rQ (rQ 6))), .int (nI (rQ 0)), .int (nI (rQ 1)), .int (nI (rQ 2)), .int (nI (rQ 3)), .int (nI (rQ 4)), .int (nI (rQ 5))])), aP z hp 6 pf, aN z hh 6 (hbA rQ)] s.heap.size = A at *
  have hS : va_S A s.heap s.heap [] := va_S.rf
  have hl := lv_entry ([.ref hn, .int (nI nQ)]) (n := 4) (Nat.le_of_ble_eq_true rfl)
  rw [lg_entry_eq]
  generalize (lg_sl ([.ref hn, .int (nI nQ)]) ++ List.replicate (4 - (lg_sl ([.ref hn, .int (nI nQ)])).length) Slot.unset).toArray = ls at hl ⊢
  have hl : lv_has ls 4 [(0, .ref hn), (1, .int (nI nQ))] := hl
  refine lv_iconst (v := nI 0) hx hb dX3_liveOn_0 (by decide +kernel) ?_
  refine lv_istore_n (lv' := [(2, .int (nI 0)), (0, .ref hn), (1, .int (nI nQ))]) hx hb dX3_liveOn_1 rfl hl (by decide) rfl (fun ls hl => ?_)
  refine lv_iconst (v := nI 0) hx hb dX3_liveOn_2 (by decide +kernel) ?_
  refine lv_istore_n (lv' := [(3, .int (nI 0)), (2, .int (nI 0)), (0, .ref hn), (1, .int (nI nQ))]) hx hb dX3_liveOn_3 rfl hl (by decide) rfl (fun ls hl => ?_)
  refine nv_loop (σ := Nat) (fun x H locs ls => ∃ (jQ : Nat), jQ = x ∧ ((jQ ≤ nQ)) ∧ va_P D vwCl [(hn, .inr (3, [.ref hp, .ref hh, .int (nI ((wkN rQ jQ) 6)), .int (nI (hpF (wkN rQ jQ) ((wkN rQ jQ) 6))), .int (nI (chF (wkN rQ jQ) ((wkN rQ jQ) 6))), .int (nI ((wkN rQ jQ) 0)), .int (nI ((wkN rQ jQ) 1)), .int (nI ((wkN rQ jQ) 2)), .int (nI ((wkN rQ jQ) 3)), .int (nI ((wkN rQ jQ) 4)), .int (nI ((wkN rQ jQ) 5))])), aP z hp 6 pf, aN z hh 6 (hbA (wkN rQ jQ))] H ∧ va_D A [(hn, .inr (3, [.ref hp, .ref hh, .int (nI ((wkN rQ jQ) 6)), .int (nI (hpF (wkN rQ jQ) ((wkN rQ jQ) 6))), .int (nI (chF (wkN rQ jQ) ((wkN rQ jQ) 6))), .int (nI ((wkN rQ jQ) 0)), .int (nI ((wkN rQ jQ) 1)), .int (nI ((wkN rQ jQ) 2)), .int (nI ((wkN rQ jQ) 3)), .int (nI ((wkN rQ jQ) 4)), .int (nI ((wkN rQ jQ) 5))])), aP z hp 6 pf, aN z hh 6 (hbA (wkN rQ jQ))] ∧ va_S A s.heap H locs ∧ lv_has ls 4 [(0, .ref hn), (1, .int (nI nQ)), (2, .int (nI (suN rQ jQ))), (3, .int (nI jQ))]) (fun x => nQ - x) 4 [] ?_ 0 ?_
  · rintro _ H locs ls ⟨jQ, rfl, hj, hP, hD, hS, hl⟩ ih4
    refine lv_iload_n hx hb dX3_liveOn_4 rfl (lv_at hl 3 rfl) ?_
    refine lv_iload_n hx hb dX3_liveOn_5 rfl (lv_at hl 1 rfl) ?_
    refine nv_ge (tgt := 26) hx hb (by omega) (by omega) dX3_liveOn_6 (by decide) (fun hc6 => ?_) (fun hc6 => ?_)
    · obtain rfl : nQ = jQ := by omega
      refine lv_iload_n hx hb dX3_liveOn_26 rfl (lv_at hl 2 rfl) ?_
      exact nv_mi hx hb hr hlocks hS dX3_liveOn_27 hP trivial rfl
    · refine lv_iload_n hx hb dX3_liveOn_9 rfl (lv_at hl 2 rfl) ?_
      refine lv_aload_n hx hb dX3_liveOn_10 rfl (lv_at hl 0 rfl) ?_
      refine lv_aload_n hx hb dX3_liveOn_11 rfl (lv_at hl 0 rfl) ?_
      have q3 := wkN_3 rQ jQ
      refine va_get (D := D) (ci := 3) (v := .int (nI ((wkN rQ jQ) 3))) (C := RX3) (T := TX3) (N := 11) hx hb hts iX3 hown hK.1 hP 0 rfl rfl 8 (by decide) (hts _ m_48) (fun _ h9 => h9) rfl dX3_liveOn_12 ?_
      have hPc := hP.sub (ws' := [(hn, .inr (3, [.ref hp, .ref hh, .int (nI ((wkN rQ jQ) 6)), .int (nI (hpF (wkN rQ jQ) ((wkN rQ jQ) 6))), .int (nI (chF (wkN rQ jQ) ((wkN rQ jQ) 6))), .int (nI ((wkN rQ jQ) 0)), .int (nI ((wkN rQ jQ) 1)), .int (nI ((wkN rQ jQ) 2)), .int (nI ((wkN rQ jQ) 3)), .int (nI ((wkN rQ jQ) 4)), .int (nI ((wkN rQ jQ) 5))])), aP z hp 6 pf, aN z hh 6 (hbA (wkN rQ jQ))]) [0, 1, 2] rfl
      have hDc := hD.sub (ws' := [(hn, .inr (3, [.ref hp, .ref hh, .int (nI ((wkN rQ jQ) 6)), .int (nI (hpF (wkN rQ jQ) ((wkN rQ jQ) 6))), .int (nI (chF (wkN rQ jQ) ((wkN rQ jQ) 6))), .int (nI ((wkN rQ jQ) 0)), .int (nI ((wkN rQ jQ) 1)), .int (nI ((wkN rQ jQ) 2)), .int (nI ((wkN rQ jQ) 3)), .int (nI ((wkN rQ jQ) 4)), .int (nI ((wkN rQ jQ) 5))])), aP z hp 6 pf, aN z hh 6 (hbA (wkN rQ jQ))]) [0, 1, 2] (by decide) rfl
      refine nv_cm1 (wc := [(hn, .inr (3, [.ref hp, .ref hh, .int (nI ((wkN rQ jQ) 6)), .int (nI (hpF (wkN rQ jQ) ((wkN rQ jQ) 6))), .int (nI (chF (wkN rQ jQ) ((wkN rQ jQ) 6))), .int (nI ((wkN rQ jQ) 0)), .int (nI ((wkN rQ jQ) 1)), .int (nI ((wkN rQ jQ) 2)), .int (nI ((wkN rQ jQ) 3)), .int (nI ((wkN rQ jQ) 4)), .int (nI ((wkN rQ jQ) 5))])), aP z hp 6 pf, aN z hh 6 (hbA (wkN rQ jQ))]) (wr := []) (w1 := [(hn, .inr (3, [.ref hp, .ref hh, .int (nI ((weekR (wkN rQ jQ) ((wkN rQ jQ) 3)) 6)), .int (nI (hpF (weekR (wkN rQ jQ) ((wkN rQ jQ) 3)) ((weekR (wkN rQ jQ) ((wkN rQ jQ) 3)) 6))), .int (nI (chF (weekR (wkN rQ jQ) ((wkN rQ jQ) 3)) ((weekR (wkN rQ jQ) ((wkN rQ jQ) 3)) 6))), .int (nI ((weekR (wkN rQ jQ) ((wkN rQ jQ) 3)) 0)), .int (nI ((weekR (wkN rQ jQ) ((wkN rQ jQ) 3)) 1)), .int (nI ((weekR (wkN rQ jQ) ((wkN rQ jQ) 3)) 2)), .int (nI ((weekR (wkN rQ jQ) ((wkN rQ jQ) 3)) 3)), .int (nI ((weekR (wkN rQ jQ) ((wkN rQ jQ) 3)) 4)), .int (nI ((weekR (wkN rQ jQ) ((wkN rQ jQ) 3)) 5))])), aP z hp 6 pf, aN z hh 6 (hbA (weekR (wkN rQ jQ) ((wkN rQ jQ) 3)))]) (ws1 := [(hn, .inr (3, [.ref hp, .ref hh, .int (nI ((weekR (wkN rQ jQ) ((wkN rQ jQ) 3)) 6)), .int (nI (hpF (weekR (wkN rQ jQ) ((wkN rQ jQ) 3)) ((weekR (wkN rQ jQ) ((wkN rQ jQ) 3)) 6))), .int (nI (chF (weekR (wkN rQ jQ) ((wkN rQ jQ) 3)) ((weekR (wkN rQ jQ) ((wkN rQ jQ) 3)) 6))), .int (nI ((weekR (wkN rQ jQ) ((wkN rQ jQ) 3)) 0)), .int (nI ((weekR (wkN rQ jQ) ((wkN rQ jQ) 3)) 1)), .int (nI ((weekR (wkN rQ jQ) ((wkN rQ jQ) 3)) 2)), .int (nI ((weekR (wkN rQ jQ) ((wkN rQ jQ) 3)) 3)), .int (nI ((weekR (wkN rQ jQ) ((wkN rQ jQ) 3)) 4)), .int (nI ((weekR (wkN rQ jQ) ((wkN rQ jQ) 3)) 5))])), aP z hp 6 pf, aN z hh 6 (hbA (weekR (wkN rQ jQ) ((wkN rQ jQ) 3)))]) (va_runV (As := [.int (nI ((wkN rQ jQ) 3))]) (rest := [.int (nI (suN rQ jQ))]) ⟨hx, hb, hml, hown, hts⟩ (c_X3_live l D z H.size (w0Q + jQ) hn hp hh pf (wkN rQ jQ) ((wkN rQ jQ) 3) (wkN_ok jQ hok) (by first | assumption | omega) (by first | assumption | omega)) (cwV 1 hts (gV m_134 m_135 m_136 m_78 m_133) rfl rfl rfl ⟨rfl, hd_X3_live⟩ ⟨Nat.le_of_ble_eq_true rfl, Nat.le_of_ble_eq_true rfl⟩) (nv_preMV (ci := 3) (q0 := 0) hK hPc hDc (((hN _ _ hS).wk jQ).to [0, 1, 2] rfl) rfl rfl) rfl rfl hl.1 rfl (lv_room (Nat.le_of_ble_eq_true rfl)) dX3_liveOn_15 ⟨by decide, by decide⟩) hP hD hS hA [0, 1, 2] [] [0, 1, 2] rfl rfl (by decide) (by decide) rfl (by decide) rfl (by decide) (fun H locs hP hD hS hE15 hz15 hf15 => ?_)
      clear hPc hDc
      clear hf15 hz15
      refine nv_add hx hb dX3_liveOn_18 ?_
      refine lv_istore_n (lv' := [(2, .int (nI (suN rQ jQ + (weekW (wkN rQ jQ) ((wkN rQ jQ) 3))))), (0, .ref hn), (1, .int (nI nQ)), (3, .int (nI jQ))]) hx hb dX3_liveOn_19 rfl hl (by decide) rfl (fun ls hl => ?_)
      refine lv_iinc (v := nI (jQ + 1)) (lv' := [(3, .int (nI (jQ + 1))), (2, .int (nI (suN rQ jQ + (weekW (wkN rQ jQ) ((wkN rQ jQ) 3))))), (0, .ref hn), (1, .int (nI nQ))]) hx hb dX3_liveOn_20 hl (k := 3) rfl (nI_inc _) (by decide) rfl (fun ls hl => ?_)
      refine lv_goto (tgt := 4) hx hb dX3_liveOn_23 (by decide) ?_
      exact ih4 (jQ + 1) _ _ _ (by omega) ⟨jQ + 1, rfl, (by omega), hP, hD, hS, lv_sub hl [2, 3, 1, 0] rfl⟩
  · exact ⟨0, rfl, (by omega), hP, hD, hS, lv_sub hl [2, 3, 1, 0] rfl⟩

set_option maxHeartbeats 4000000 in
set_option maxRecDepth 100000 in
theorem c_X3_wordsInLast (l : Launch) (D : va_G) (z : Nat → ClassId) (sz : Nat) (w0Q : Nat) (hn : Nat) (hp : Nat) (hh : Nat) (pf : Nat → Option Nat) (rQ : Nat → Nat) (nQ : Nat) (hok : rOK w0Q rQ) (hn9 : nQ ≤ 99) (hw : w0Q ≤ 10000) : CM l yX3_wordsInLast cX3_wordsInLast 4 (some .int) 3 77 0 0 [.ref hn, .int (nI nQ)] D z [(hn, .inr (3, [.ref hp, .ref hh, .int (nI (rQ 6)), .int (nI (hpF rQ (rQ 6))), .int (nI (chF rQ (rQ 6))), .int (nI (rQ 0)), .int (nI (rQ 1)), .int (nI (rQ 2)), .int (nI (rQ 3)), .int (nI (rQ 4)), .int (nI (rQ 5))])), aP z hp 6 pf, aN z hh 6 (hbA rQ)] sz (fun H => peH D [(hn, .inr (3, [.ref hp, .ref hh, .int (nI (rQ 6)), .int (nI (hpF rQ (rQ 6))), .int (nI (chF rQ (rQ 6))), .int (nI (rQ 0)), .int (nI (rQ 1)), .int (nI (rQ 2)), .int (nI (rQ 3)), .int (nI (rQ 4)), .int (nI (rQ 5))])), aP z hp 6 pf, aN z hh 6 (hbA rQ)] pf rQ H) [(hn, .inr (3, [.ref hp, .ref hh, .int (nI ((wkN rQ nQ) 6)), .int (nI (hpF (wkN rQ nQ) ((wkN rQ nQ) 6))), .int (nI (chF (wkN rQ nQ) ((wkN rQ nQ) 6))), .int (nI ((wkN rQ nQ) 0)), .int (nI ((wkN rQ nQ) 1)), .int (nI ((wkN rQ nQ) 2)), .int (nI ((wkN rQ nQ) 3)), .int (nI ((wkN rQ nQ) 4)), .int (nI ((wkN rQ nQ) 5))])), aP z hp 6 pf, aN z hh 6 (hbA (wkN rQ nQ))] (some (.int (nI (laN rQ nQ)))) (fun _ => True) := by
  refine Met.ofW (cc := cX3_wordsInLast) (maxL := 4) (ret := (some .int)) (by decide) rfl ?_
  intro pg e s m args below meth c s₁ B hml hv
  obtain ⟨rfl, hsz, hP, hK, hD0, hE⟩ := hv
  have hx := B.exec
  have hb := B.bytes
  have hr := B.returns
  have hts : ∀ w ∈ ALL, w.before _ s = true := fun w h => atoms_spec (ws := wA yX3_wordsInLast cX3_wordsInLast 4 (some .int)) B.pre w (List.mem_cons_of_mem _ h)
  have hown : s.vm.findClass RX3 = some m.cls := findClass_of_methodNamed B.named
  have hlocks := B.notSynchronized
  subst hsz
  have hD := hD0.self (sz := s.heap.size)
  obtain ⟨o0, o1, o1b, o2, o2b, o3, o4, o5, o6, oP⟩ := id hok
  have hN : ∀ (H : Heap) (locs : List Loc), va_S (va_A [(hn, .inr (3, [.ref hp, .ref hh, .int (nI (rQ 6)), .int (nI (hpF rQ (rQ 6))), .int (nI (chF rQ (rQ 6))), .int (nI (rQ 0)), .int (nI (rQ 1)), .int (nI (rQ 2)), .int (nI (rQ 3)), .int (nI (rQ 4)), .int (nI (rQ 5))])), aP z hp 6 pf, aN z hh 6 (hbA rQ)] s.heap.size) s.heap H locs → peH D [(hn, .inr (3, [.ref hp, .ref hh, .int (nI (rQ 6)), .int (nI (hpF rQ (rQ 6))), .int (nI (chF rQ (rQ 6))), .int (nI (rQ 0)), .int (nI (rQ 1)), .int (nI (rQ 2)), .int (nI (rQ 3)), .int (nI (rQ 4)), .int (nI (rQ 5))])), aP z hp 6 pf, aN z hh 6 (hbA rQ)] pf rQ H := fun H locs h9 => peH.now hE h9
  have hA : ∀ q : Nat, s.heap.size ≤ q → va_A [(hn, .inr (3, [.ref hp, .ref hh, .int (nI (rQ 6)), .int (nI (hpF rQ (rQ 6))), .int (nI (chF rQ (rQ 6))), .int (nI (rQ 0)), .int (nI (rQ 1)), .int (nI (rQ 2)), .int (nI (rQ 3)), .int (nI (rQ 4)), .int (nI (rQ 5))])), aP z hp 6 pf, aN z hh 6 (hbA rQ)] s.heap.size q := fun q h => Or.inr h
  generalize va_A [(hn, .inr (3, [.ref hp, .ref hh, .int (nI (rQ 6)), .int (nI (hpF rQ (rQ 6))), .int (nI (chF rQ (rQ 6))), .int (nI (rQ 0)), .int (nI (rQ 1)), .int (nI (rQ 2)), .int (nI (rQ 3)), .int (nI (rQ 4)), .int (nI (rQ 5))])), aP z hp 6 pf, aN z hh 6 (hbA rQ)] s.heap.size = A at *
  have hS : va_S A s.heap s.heap [] := va_S.rf
  have hl := lv_entry ([.ref hn, .int (nI nQ)]) (n := 4) (Nat.le_of_ble_eq_true rfl)
  rw [lg_entry_eq]
  generalize (lg_sl ([.ref hn, .int (nI nQ)]) ++ List.replicate (4 - (lg_sl ([.ref hn, .int (nI nQ)])).length) Slot.unset).toArray = ls at hl ⊢
  have hl : lv_has ls 4 [(0, .ref hn), (1, .int (nI nQ))] := hl
  refine lv_iconst (v := nI 0) hx hb dX3_wordsInLast_0 (by decide +kernel) ?_
  refine lv_istore_n (lv' := [(2, .int (nI 0)), (0, .ref hn), (1, .int (nI nQ))]) hx hb dX3_wordsInLast_1 rfl hl (by decide) rfl (fun ls hl => ?_)
  refine lv_iconst (v := nI 0) hx hb dX3_wordsInLast_2 (by decide +kernel) ?_
  refine lv_istore_n (lv' := [(3, .int (nI 0)), (2, .int (nI 0)), (0, .ref hn), (1, .int (nI nQ))]) hx hb dX3_wordsInLast_3 rfl hl (by decide) rfl (fun ls hl => ?_)
  refine nv_loop (σ := Nat) (fun x H locs ls => ∃ (jQ : Nat), jQ = x ∧ ((jQ ≤ nQ)) ∧ va_P D vwCl [(hn, .inr (3, [.ref hp, .ref hh, .int (nI ((wkN rQ jQ) 6)), .int (nI (hpF (wkN rQ jQ) ((wkN rQ jQ) 6))), .int (nI (chF (wkN rQ jQ) ((wkN rQ jQ) 6))), .int (nI ((wkN rQ jQ) 0)), .int (nI ((wkN rQ jQ) 1)), .int (nI ((wkN rQ jQ) 2)), .int (nI ((wkN rQ jQ) 3)), .int (nI ((wkN rQ jQ) 4)), .int (nI ((wkN rQ jQ) 5))])), aP z hp 6 pf, aN z hh 6 (hbA (wkN rQ jQ))] H ∧ va_D A [(hn, .inr (3, [.ref hp, .ref hh, .int (nI ((wkN rQ jQ) 6)), .int (nI (hpF (wkN rQ jQ) ((wkN rQ jQ) 6))), .int (nI (chF (wkN rQ jQ) ((wkN rQ jQ) 6))), .int (nI ((wkN rQ jQ) 0)), .int (nI ((wkN rQ jQ) 1)), .int (nI ((wkN rQ jQ) 2)), .int (nI ((wkN rQ jQ) 3)), .int (nI ((wkN rQ jQ) 4)), .int (nI ((wkN rQ jQ) 5))])), aP z hp 6 pf, aN z hh 6 (hbA (wkN rQ jQ))] ∧ va_S A s.heap H locs ∧ lv_has ls 4 [(0, .ref hn), (1, .int (nI nQ)), (2, .int (nI (laN rQ jQ))), (3, .int (nI jQ))]) (fun x => nQ - x) 4 [] ?_ 0 ?_
  · rintro _ H locs ls ⟨jQ, rfl, hj, hP, hD, hS, hl⟩ ih4
    refine lv_iload_n hx hb dX3_wordsInLast_4 rfl (lv_at hl 3 rfl) ?_
    refine lv_iload_n hx hb dX3_wordsInLast_5 rfl (lv_at hl 1 rfl) ?_
    refine nv_ge (tgt := 24) hx hb (by omega) (by omega) dX3_wordsInLast_6 (by decide) (fun hc6 => ?_) (fun hc6 => ?_)
    · obtain rfl : nQ = jQ := by omega
      refine lv_iload_n hx hb dX3_wordsInLast_24 rfl (lv_at hl 2 rfl) ?_
      exact nv_mi hx hb hr hlocks hS dX3_wordsInLast_25 hP trivial rfl
    · refine lv_aload_n hx hb dX3_wordsInLast_9 rfl (lv_at hl 0 rfl) ?_
      refine lv_aload_n hx hb dX3_wordsInLast_10 rfl (lv_at hl 0 rfl) ?_
      have q3 := wkN_3 rQ jQ
      refine va_get (D := D) (ci := 3) (v := .int (nI ((wkN rQ jQ) 3))) (C := RX3) (T := TX3) (N := 11) hx hb hts iX3 hown hK.1 hP 0 rfl rfl 8 (by decide) (hts _ m_48) (fun _ h9 => h9) rfl dX3_wordsInLast_11 ?_
      have hPc := hP.sub (ws' := [(hn, .inr (3, [.ref hp, .ref hh, .int (nI ((wkN rQ jQ) 6)), .int (nI (hpF (wkN rQ jQ) ((wkN rQ jQ) 6))), .int (nI (chF (wkN rQ jQ) ((wkN rQ jQ) 6))), .int (nI ((wkN rQ jQ) 0)), .int (nI ((wkN rQ jQ) 1)), .int (nI ((wkN rQ jQ) 2)), .int (nI ((wkN rQ jQ) 3)), .int (nI ((wkN rQ jQ) 4)), .int (nI ((wkN rQ jQ) 5))])), aP z hp 6 pf, aN z hh 6 (hbA (wkN rQ jQ))]) [0, 1, 2] rfl
      have hDc := hD.sub (ws' := [(hn, .inr (3, [.ref hp, .ref hh, .int (nI ((wkN rQ jQ) 6)), .int (nI (hpF (wkN rQ jQ) ((wkN rQ jQ) 6))), .int (nI (chF (wkN rQ jQ) ((wkN rQ jQ) 6))), .int (nI ((wkN rQ jQ) 0)), .int (nI ((wkN rQ jQ) 1)), .int (nI ((wkN rQ jQ) 2)), .int (nI ((wkN rQ jQ) 3)), .int (nI ((wkN rQ jQ) 4)), .int (nI ((wkN rQ jQ) 5))])), aP z hp 6 pf, aN z hh 6 (hbA (wkN rQ jQ))]) [0, 1, 2] (by decide) rfl
      refine nv_cm1 (wc := [(hn, .inr (3, [.ref hp, .ref hh, .int (nI ((wkN rQ jQ) 6)), .int (nI (hpF (wkN rQ jQ) ((wkN rQ jQ) 6))), .int (nI (chF (wkN rQ jQ) ((wkN rQ jQ) 6))), .int (nI ((wkN rQ jQ) 0)), .int (nI ((wkN rQ jQ) 1)), .int (nI ((wkN rQ jQ) 2)), .int (nI ((wkN rQ jQ) 3)), .int (nI ((wkN rQ jQ) 4)), .int (nI ((wkN rQ jQ) 5))])), aP z hp 6 pf, aN z hh 6 (hbA (wkN rQ jQ))]) (wr := []) (w1 := [(hn, .inr (3, [.ref hp, .ref hh, .int (nI ((weekR (wkN rQ jQ) ((wkN rQ jQ) 3)) 6)), .int (nI (hpF (weekR (wkN rQ jQ) ((wkN rQ jQ) 3)) ((weekR (wkN rQ jQ) ((wkN rQ jQ) 3)) 6))), .int (nI (chF (weekR (wkN rQ jQ) ((wkN rQ jQ) 3)) ((weekR (wkN rQ jQ) ((wkN rQ jQ) 3)) 6))), .int (nI ((weekR (wkN rQ jQ) ((wkN rQ jQ) 3)) 0)), .int (nI ((weekR (wkN rQ jQ) ((wkN rQ jQ) 3)) 1)), .int (nI ((weekR (wkN rQ jQ) ((wkN rQ jQ) 3)) 2)), .int (nI ((weekR (wkN rQ jQ) ((wkN rQ jQ) 3)) 3)), .int (nI ((weekR (wkN rQ jQ) ((wkN rQ jQ) 3)) 4)), .int (nI ((weekR (wkN rQ jQ) ((wkN rQ jQ) 3)) 5))])), aP z hp 6 pf, aN z hh 6 (hbA (weekR (wkN rQ jQ) ((wkN rQ jQ) 3)))]) (ws1 := [(hn, .inr (3, [.ref hp, .ref hh, .int (nI ((weekR (wkN rQ jQ) ((wkN rQ jQ) 3)) 6)), .int (nI (hpF (weekR (wkN rQ jQ) ((wkN rQ jQ) 3)) ((weekR (wkN rQ jQ) ((wkN rQ jQ) 3)) 6))), .int (nI (chF (weekR (wkN rQ jQ) ((wkN rQ jQ) 3)) ((weekR (wkN rQ jQ) ((wkN rQ jQ) 3)) 6))), .int (nI ((weekR (wkN rQ jQ) ((wkN rQ jQ) 3)) 0)), .int (nI ((weekR (wkN rQ jQ) ((wkN rQ jQ) 3)) 1)), .int (nI ((weekR (wkN rQ jQ) ((wkN rQ jQ) 3)) 2)), .int (nI ((weekR (wkN rQ jQ) ((wkN rQ jQ) 3)) 3)), .int (nI ((weekR (wkN rQ jQ) ((wkN rQ jQ) 3)) 4)), .int (nI ((weekR (wkN rQ jQ) ((wkN rQ jQ) 3)) 5))])), aP z hp 6 pf, aN z hh 6 (hbA (weekR (wkN rQ jQ) ((wkN rQ jQ) 3)))]) (va_runV (As := [.int (nI ((wkN rQ jQ) 3))]) (rest := []) ⟨hx, hb, hml, hown, hts⟩ (c_X3_live l D z H.size (w0Q + jQ) hn hp hh pf (wkN rQ jQ) ((wkN rQ jQ) 3) (wkN_ok jQ hok) (by first | assumption | omega) (by first | assumption | omega)) (cwV 1 hts (gV m_134 m_135 m_136 m_78 m_133) rfl rfl rfl ⟨rfl, hd_X3_live⟩ ⟨Nat.le_of_ble_eq_true rfl, Nat.le_of_ble_eq_true rfl⟩) (nv_preMV (ci := 3) (q0 := 0) hK hPc hDc (((hN _ _ hS).wk jQ).to [0, 1, 2] rfl) rfl rfl) rfl rfl hl.1 rfl (lv_room (Nat.le_of_ble_eq_true rfl)) dX3_wordsInLast_14 ⟨by decide, by decide⟩) hP hD hS hA [0, 1, 2] [] [0, 1, 2] rfl rfl (by decide) (by decide) rfl (by decide) rfl (by decide) (fun H locs hP hD hS hE14 hz14 hf14 => ?_)
      clear hPc hDc
      clear hf14 hz14
      refine lv_istore_n (lv' := [(2, .int (nI (weekW (wkN rQ jQ) ((wkN rQ jQ) 3)))), (0, .ref hn), (1, .int (nI nQ)), (3, .int (nI jQ))]) hx hb dX3_wordsInLast_17 rfl hl (by decide) rfl (fun ls hl => ?_)
      refine lv_iinc (v := nI (jQ + 1)) (lv' := [(3, .int (nI (jQ + 1))), (2, .int (nI (weekW (wkN rQ jQ) ((wkN rQ jQ) 3)))), (0, .ref hn), (1, .int (nI nQ))]) hx hb dX3_wordsInLast_18 hl (k := 3) rfl (nI_inc _) (by decide) rfl (fun ls hl => ?_)
      refine lv_goto (tgt := 4) hx hb dX3_wordsInLast_21 (by decide) ?_
      exact ih4 (jQ + 1) _ _ _ (by omega) ⟨jQ + 1, rfl, (by omega), hP, hD, hS, lv_sub hl [2, 3, 1, 0] rfl⟩
  · exact ⟨0, rfl, (by omega), hP, hD, hS, lv_sub hl [2, 3, 1, 0] rfl⟩

set_option maxHeartbeats 4000000 in
set_option maxRecDepth 100000 in
theorem c_X3_drawMishaps (l : Launch) (D : va_G) (z : Nat → ClassId) (sz : Nat) (w0Q : Nat) (hn : Nat) (hp : Nat) (hh : Nat) (rQ : Nat → Nat) (hok : rOK w0Q rQ) : CM l yX3_drawMishaps cX3_drawMishaps 1 (some .int) 0 0 0 0 [.ref hn] D z [(hn, .inr (3, [.ref hp, .ref hh, .int (nI (rQ 6)), .int (nI (hpF rQ (rQ 6))), .int (nI (chF rQ (rQ 6))), .int (nI (rQ 0)), .int (nI (rQ 1)), .int (nI (rQ 2)), .int (nI (rQ 3)), .int (nI (rQ 4)), .int (nI (rQ 5))]))] sz (fun _ => True) [(hn, .inr (3, [.ref hp, .ref hh, .int (nI ((drX rQ) 6)), .int (nI (hpF (drX rQ) ((drX rQ) 6))), .int (nI (chF (drX rQ) ((drX rQ) 6))), .int (nI ((drX rQ) 0)), .int (nI ((drX rQ) 1)), .int (nI ((drX rQ) 2)), .int (nI ((drX rQ) 3)), .int (nI ((drX rQ) 4)), .int (nI ((drX rQ) 5))]))] (some (.int (nI (drN (rQ 5) / 65536 % 10)))) (fun _ => True) := by
  refine Met.ofW (cc := cX3_drawMishaps) (maxL := 1) (ret := (some .int)) (by decide) rfl ?_
  intro pg e s m args below meth c s₁ B hml hv
  obtain ⟨rfl, hsz, hP, hK, hD0, hE⟩ := hv
  have hx := B.exec
  have hb := B.bytes
  have hr := B.returns
  have hts : ∀ w ∈ ALL, w.before _ s = true := fun w h => atoms_spec (ws := wA yX3_drawMishaps cX3_drawMishaps 1 (some .int)) B.pre w (List.mem_cons_of_mem _ h)
  have hown : s.vm.findClass RX3 = some m.cls := findClass_of_methodNamed B.named
  have hlocks := B.notSynchronized
  subst hsz
  have hD := hD0.self (sz := s.heap.size)
  obtain ⟨o0, o1, o1b, o2, o2b, o3, o4, o5, o6, oP⟩ := id hok
  have hdl := drN_lt (rQ 5)
  have hA : ∀ q : Nat, s.heap.size ≤ q → va_A [(hn, .inr (3, [.ref hp, .ref hh, .int (nI (rQ 6)), .int (nI (hpF rQ (rQ 6))), .int (nI (chF rQ (rQ 6))), .int (nI (rQ 0)), .int (nI (rQ 1)), .int (nI (rQ 2)), .int (nI (rQ 3)), .int (nI (rQ 4)), .int (nI (rQ 5))]))] s.heap.size q := fun q h => Or.inr h
  generalize va_A [(hn, .inr (3, [.ref hp, .ref hh, .int (nI (rQ 6)), .int (nI (hpF rQ (rQ 6))), .int (nI (chF rQ (rQ 6))), .int (nI (rQ 0)), .int (nI (rQ 1)), .int (nI (rQ 2)), .int (nI (rQ 3)), .int (nI (rQ 4)), .int (nI (rQ 5))]))] s.heap.size = A at *
  have hS : va_S A s.heap s.heap [] := va_S.rf
  have hl := lv_entry ([.ref hn]) (n := 1) (Nat.le_of_ble_eq_true rfl)
  rw [lg_entry_eq]
  generalize (lg_sl ([.ref hn]) ++ List.replicate (1 - (lg_sl ([.ref hn])).length) Slot.unset).toArray = ls at hl ⊢
  have hl : lv_has ls 1 [(0, .ref hn)] := hl
  refine lv_aload_n hx hb dX3_drawMishaps_0 rfl (lv_at hl 0 rfl) ?_
  refine lv_aload_n hx hb dX3_drawMishaps_1 rfl (lv_at hl 0 rfl) ?_
  refine va_get (D := D) (ci := 3) (v := .int (nI (rQ 5))) (C := RX3) (T := TX3) (N := 11) hx hb hts iX3 hown hK.1 hP 0 rfl rfl 10 (by decide) (hts _ m_50) (fun _ h9 => h9) rfl dX3_drawMishaps_2 ?_
  refine lv_ldc (own := RX3) hx hb hown (hts _ m_140) dX3_drawMishaps_5 ?_
  refine W.eq (g2 := F0 m 7 ls [.int (nI 1103515245), .int (nI (rQ 5)), .ref hn]) rfl ?_
  refine nv_mul hx hb dX3_drawMishaps_7 ?_
  refine lv_sipush (v := nI 12345) hx hb dX3_drawMishaps_8 (by decide +kernel) ?_
  refine nv_add hx hb dX3_drawMishaps_11 ?_
  refine lv_ldc (own := RX3) hx hb hown (hts _ m_141) dX3_drawMishaps_12 ?_
  refine W.eq (g2 := F0 m 14 ls [.int (nI 2147483647), .int (nI ((rQ 5) * 1103515245 + 12345)), .ref hn]) rfl ?_
  refine nv_and hx hb dX3_drawMishaps_14 ?_
  rw [drI]
  refine va_put (D := D) (ci := 3) (v := .int (nI (drN (rQ 5)))) (ty := tyX3 10) (C := RX3) (T := TX3) (N := 11) hx hb hts iX3 tyX3 tyX3_ok nmX3 hown hK.1 hP hD hS 0 rfl rfl 10 (by decide) (hts _ m_50) (fun _ h9 => h9) rfl (tyX3_ok 10 (by decide)) rfl rfl (Nat.le_of_ble_eq_true rfl) dX3_drawMishaps_15 (fun H locs hP hD hS => ?_)
  have hP : va_P D vwCl [(hn, .inr (3, [.ref hp, .ref hh, .int (nI (rQ 6)), .int (nI (hpF rQ (rQ 6))), .int (nI (chF rQ (rQ 6))), .int (nI (rQ 0)), .int (nI (rQ 1)), .int (nI (rQ 2)), .int (nI (rQ 3)), .int (nI (rQ 4)), .int (nI (drN (rQ 5)))]))] H := hP
  have hD : va_D A [(hn, .inr (3, [.ref hp, .ref hh, .int (nI (rQ 6)), .int (nI (hpF rQ (rQ 6))), .int (nI (chF rQ (rQ 6))), .int (nI (rQ 0)), .int (nI (rQ 1)), .int (nI (rQ 2)), .int (nI (rQ 3)), .int (nI (rQ 4)), .int (nI (drN (rQ 5)))]))] := hD
  refine lv_aload_n hx hb dX3_drawMishaps_18 rfl (lv_at hl 0 rfl) ?_
  refine va_get (D := D) (ci := 3) (v := .int (nI (drN (rQ 5)))) (C := RX3) (T := TX3) (N := 11) hx hb hts iX3 hown hK.1 hP 0 rfl rfl 10 (by decide) (hts _ m_50) (fun _ h9 => h9) rfl dX3_drawMishaps_19 ?_
  refine lv_ldc (own := RX3) hx hb hown (hts _ m_142) dX3_drawMishaps_22 ?_
  refine W.eq (g2 := F0 m 24 ls [.int (nI 65536), .int (nI (drN (rQ 5)))]) rfl ?_
  refine nv_div hx hb (by omega) (by omega) (by omega) dX3_drawMishaps_24 ?_
  refine lv_bipush (v := nI 10) hx hb dX3_drawMishaps_25 (by decide +kernel) ?_
  refine nv_rem hx hb (by omega) (by omega) (by omega) dX3_drawMishaps_27 ?_
  exact nv_mi hx hb hr hlocks hS dX3_drawMishaps_28 (by rw [show drX rQ = uN rQ 5 (drN (rQ 5)) from rfl, uN_n rQ (j := 6) (by decide), hp_u rQ 5 _ _ (by decide), ch_u rQ 5 _ _ (by decide), uN_n rQ (j := 0) (by decide), uN_n rQ (j := 1) (by decide), uN_n rQ (j := 2) (by decide), uN_n rQ (j := 3) (by decide), uN_n rQ (j := 4) (by decide), uN_s]; exact hP) trivial rfl

set_option maxHeartbeats 4000000 in
set_option maxRecDepth 100000 in
theorem c_X3_moveOut (l : Launch) (D : va_G) (z : Nat → ClassId) (sz : Nat) (hn : Nat) (hp : Nat) (hh : Nat) (rQ : Nat → Nat)  : CM l yX3_moveOut cX3_moveOut 1 none 0 0 0 0 [.ref hn] D z [(hn, .inr (3, [.ref hp, .ref hh, .int (nI (rQ 6)), .int (nI (hpF rQ (rQ 6))), .int (nI (chF rQ (rQ 6))), .int (nI (rQ 0)), .int (nI (rQ 1)), .int (nI (rQ 2)), .int (nI (rQ 3)), .int (nI (rQ 4)), .int (nI (rQ 5))]))] sz (fun _ => True) [(hn, .inr (3, [.ref hp, .ref hh, .int (nI ((mvR rQ) 6)), .int (nI (hpF (mvR rQ) ((mvR rQ) 6))), .int (nI (chF (mvR rQ) ((mvR rQ) 6))), .int (nI ((mvR rQ) 0)), .int (nI ((mvR rQ) 1)), .int (nI ((mvR rQ) 2)), .int (nI ((mvR rQ) 3)), .int (nI ((mvR rQ) 4)), .int (nI ((mvR rQ) 5))]))] none (fun _ => True) := by
  refine Met.ofW (cc := cX3_moveOut) (maxL := 1) (ret := none) (by decide) rfl ?_
  intro pg e s m args below meth c s₁ B hml hv
  obtain ⟨rfl, hsz, hP, hK, hD0, hE⟩ := hv
  have hx := B.exec
  have hb := B.bytes
  have hr := B.returns
  have hts : ∀ w ∈ ALL, w.before _ s = true := fun w h => atoms_spec (ws := wA yX3_moveOut cX3_moveOut 1 none) B.pre w (List.mem_cons_of_mem _ h)
  have hown : s.vm.findClass RX3 = some m.cls := findClass_of_methodNamed B.named
  have hlocks := B.notSynchronized
  subst hsz
  have hD := hD0.self (sz := s.heap.size)
  have hA : ∀ q : Nat, s.heap.size ≤ q → va_A [(hn, .inr (3, [.ref hp, .ref hh, .int (nI (rQ 6)), .int (nI (hpF rQ (rQ 6))), .int (nI (chF rQ (rQ 6))), .int (nI (rQ 0)), .int (nI (rQ 1)), .int (nI (rQ 2)), .int (nI (rQ 3)), .int (nI (rQ 4)), .int (nI (rQ 5))]))] s.heap.size q := fun q h => Or.inr h
  generalize va_A [(hn, .inr (3, [.ref hp, .ref hh, .int (nI (rQ 6)), .int (nI (hpF rQ (rQ 6))), .int (nI (chF rQ (rQ 6))), .int (nI (rQ 0)), .int (nI (rQ 1)), .int (nI (rQ 2)), .int (nI (rQ 3)), .int (nI (rQ 4)), .int (nI (rQ 5))]))] s.heap.size = A at *
  have hS : va_S A s.heap s.heap [] := va_S.rf
  have hl := lv_entry ([.ref hn]) (n := 1) (Nat.le_of_ble_eq_true rfl)
  rw [lg_entry_eq]
  generalize (lg_sl ([.ref hn]) ++ List.replicate (1 - (lg_sl ([.ref hn])).length) Slot.unset).toArray = ls at hl ⊢
  have hl : lv_has ls 1 [(0, .ref hn)] := hl
  refine lv_aload_n hx hb dX3_moveOut_0 rfl (lv_at hl 0 rfl) ?_
  refine lv_iconst (v := nI 0) hx hb dX3_moveOut_1 (by decide +kernel) ?_
  refine va_put (D := D) (ci := 3) (v := .int (nI 0)) (ty := tyX3 2) (C := RX3) (T := TX3) (N := 11) hx hb hts iX3 tyX3 tyX3_ok nmX3 hown hK.1 hP hD hS 0 rfl rfl 2 (by decide) (hts _ m_42) (fun _ h9 => h9) rfl (tyX3_ok 2 (by decide)) rfl rfl (Nat.le_of_ble_eq_true rfl) dX3_moveOut_2 (fun H locs hP hD hS => ?_)
  have hP : va_P D vwCl [(hn, .inr (3, [.ref hp, .ref hh, .int (nI 0), .int (nI (hpF rQ (rQ 6))), .int (nI (chF rQ (rQ 6))), .int (nI (rQ 0)), .int (nI (rQ 1)), .int (nI (rQ 2)), .int (nI (rQ 3)), .int (nI (rQ 4)), .int (nI (rQ 5))]))] H := hP
  have hD : va_D A [(hn, .inr (3, [.ref hp, .ref hh, .int (nI 0), .int (nI (hpF rQ (rQ 6))), .int (nI (chF rQ (rQ 6))), .int (nI (rQ 0)), .int (nI (rQ 1)), .int (nI (rQ 2)), .int (nI (rQ 3)), .int (nI (rQ 4)), .int (nI (rQ 5))]))] := hD
  refine lv_aload_n hx hb dX3_moveOut_5 rfl (lv_at hl 0 rfl) ?_
  refine lv_iconst (v := nI 0) hx hb dX3_moveOut_6 (by decide +kernel) ?_
  refine va_put (D := D) (ci := 3) (v := .int (nI 0)) (ty := tyX3 3) (C := RX3) (T := TX3) (N := 11) hx hb hts iX3 tyX3 tyX3_ok nmX3 hown hK.1 hP hD hS 0 rfl rfl 3 (by decide) (hts _ m_43) (fun _ h9 => h9) rfl (tyX3_ok 3 (by decide)) rfl rfl (Nat.le_of_ble_eq_true rfl) dX3_moveOut_7 (fun H locs hP hD hS => ?_)
  have hP : va_P D vwCl [(hn, .inr (3, [.ref hp, .ref hh, .int (nI 0), .int (nI 0), .int (nI (chF rQ (rQ 6))), .int (nI (rQ 0)), .int (nI (rQ 1)), .int (nI (rQ 2)), .int (nI (rQ 3)), .int (nI (rQ 4)), .int (nI (rQ 5))]))] H := hP
  have hD : va_D A [(hn, .inr (3, [.ref hp, .ref hh, .int (nI 0), .int (nI 0), .int (nI (chF rQ (rQ 6))), .int (nI (rQ 0)), .int (nI (rQ 1)), .int (nI (rQ 2)), .int (nI (rQ 3)), .int (nI (rQ 4)), .int (nI (rQ 5))]))] := hD
  refine lv_aload_n hx hb dX3_moveOut_10 rfl (lv_at hl 0 rfl) ?_
  refine lv_iconst (v := nI 0) hx hb dX3_moveOut_11 (by decide +kernel) ?_
  refine va_put (D := D) (ci := 3) (v := .int (nI 0)) (ty := tyX3 4) (C := RX3) (T := TX3) (N := 11) hx hb hts iX3 tyX3 tyX3_ok nmX3 hown hK.1 hP hD hS 0 rfl rfl 4 (by decide) (hts _ m_44) (fun _ h9 => h9) rfl (tyX3_ok 4 (by decide)) rfl rfl (Nat.le_of_ble_eq_true rfl) dX3_moveOut_12 (fun H locs hP hD hS => ?_)
  have hP : va_P D vwCl [(hn, .inr (3, [.ref hp, .ref hh, .int (nI 0), .int (nI 0), .int (nI 0), .int (nI (rQ 0)), .int (nI (rQ 1)), .int (nI (rQ 2)), .int (nI (rQ 3)), .int (nI (rQ 4)), .int (nI (rQ 5))]))] H := hP
  have hD : va_D A [(hn, .inr (3, [.ref hp, .ref hh, .int (nI 0), .int (nI 0), .int (nI 0), .int (nI (rQ 0)), .int (nI (rQ 1)), .int (nI (rQ 2)), .int (nI (rQ 3)), .int (nI (rQ 4)), .int (nI (rQ 5))]))] := hD
  refine lv_aload_n hx hb dX3_moveOut_15 rfl (lv_at hl 0 rfl) ?_
  refine lv_iconst (v := nI 0) hx hb dX3_moveOut_16 (by decide +kernel) ?_
  refine va_put (D := D) (ci := 3) (v := .int (nI 0)) (ty := tyX3 5) (C := RX3) (T := TX3) (N := 11) hx hb hts iX3 tyX3 tyX3_ok nmX3 hown hK.1 hP hD hS 0 rfl rfl 5 (by decide) (hts _ m_45) (fun _ h9 => h9) rfl (tyX3_ok 5 (by decide)) rfl rfl (Nat.le_of_ble_eq_true rfl) dX3_moveOut_17 (fun H locs hP hD hS => ?_)
  have hP : va_P D vwCl [(hn, .inr (3, [.ref hp, .ref hh, .int (nI 0), .int (nI 0), .int (nI 0), .int (nI 0), .int (nI (rQ 1)), .int (nI (rQ 2)), .int (nI (rQ 3)), .int (nI (rQ 4)), .int (nI (rQ 5))]))] H := hP
  have hD : va_D A [(hn, .inr (3, [.ref hp, .ref hh, .int (nI 0), .int (nI 0), .int (nI 0), .int (nI 0), .int (nI (rQ 1)), .int (nI (rQ 2)), .int (nI (rQ 3)), .int (nI (rQ 4)), .int (nI (rQ 5))]))] := hD
  refine lv_aload_n hx hb dX3_moveOut_20 rfl (lv_at hl 0 rfl) ?_
  refine lv_iconst (v := nI 0) hx hb dX3_moveOut_21 (by decide +kernel) ?_
  refine va_put (D := D) (ci := 3) (v := .int (nI 0)) (ty := tyX3 9) (C := RX3) (T := TX3) (N := 11) hx hb hts iX3 tyX3 tyX3_ok nmX3 hown hK.1 hP hD hS 0 rfl rfl 9 (by decide) (hts _ m_49) (fun _ h9 => h9) rfl (tyX3_ok 9 (by decide)) rfl rfl (Nat.le_of_ble_eq_true rfl) dX3_moveOut_22 (fun H locs hP hD hS => ?_)
  have hP : va_P D vwCl [(hn, .inr (3, [.ref hp, .ref hh, .int (nI 0), .int (nI 0), .int (nI 0), .int (nI 0), .int (nI (rQ 1)), .int (nI (rQ 2)), .int (nI (rQ 3)), .int (nI 0), .int (nI (rQ 5))]))] H := hP
  have hD : va_D A [(hn, .inr (3, [.ref hp, .ref hh, .int (nI 0), .int (nI 0), .int (nI 0), .int (nI 0), .int (nI (rQ 1)), .int (nI (rQ 2)), .int (nI (rQ 3)), .int (nI 0), .int (nI (rQ 5))]))] := hD
  exact nv_mv hx hb hr hlocks hS dX3_moveOut_25 hP trivial

set_option maxHeartbeats 4000000 in
set_option maxRecDepth 100000 in
theorem c_X3_become (l : Launch) (D : va_G) (z : Nat → ClassId) (sz : Nat) (hn : Nat) (hp : Nat) (hh : Nat) (pf0 : Nat → Option Nat) (r0 : Nat → Nat) (h2 : Nat) (hp2 : Nat) (hh2 : Nat) (pf : Nat → Option Nat) (rQ : Nat → Nat)  : CM l yX3_become cX3_become 3 none 0 0 0 0 [.ref hn, .ref h2] D z [(hn, .inr (3, [.ref hp, .ref hh, .int (nI (r0 6)), .int (nI (hpF r0 (r0 6))), .int (nI (chF r0 (r0 6))), .int (nI (r0 0)), .int (nI (r0 1)), .int (nI (r0 2)), .int (nI (r0 3)), .int (nI (r0 4)), .int (nI (r0 5))])), aP z hp 6 pf0, aN z hh 6 (hbA r0), (h2, .inr (3, [.ref hp2, .ref hh2, .int (nI (rQ 6)), .int (nI (hpF rQ (rQ 6))), .int (nI (chF rQ (rQ 6))), .int (nI (rQ 0)), .int (nI (rQ 1)), .int (nI (rQ 2)), .int (nI (rQ 3)), .int (nI (rQ 4)), .int (nI (rQ 5))])), aP z hp2 6 pf, aN z hh2 6 (hbA rQ)] sz (fun H => peH D [(hn, .inr (3, [.ref hp, .ref hh, .int (nI (r0 6)), .int (nI (hpF r0 (r0 6))), .int (nI (chF r0 (r0 6))), .int (nI (r0 0)), .int (nI (r0 1)), .int (nI (r0 2)), .int (nI (r0 3)), .int (nI (r0 4)), .int (nI (r0 5))])), aP z hp 6 pf0, aN z hh 6 (hbA r0), (h2, .inr (3, [.ref hp2, .ref hh2, .int (nI (rQ 6)), .int (nI (hpF rQ (rQ 6))), .int (nI (chF rQ (rQ 6))), .int (nI (rQ 0)), .int (nI (rQ 1)), .int (nI (rQ 2)), .int (nI (rQ 3)), .int (nI (rQ 4)), .int (nI (rQ 5))])), aP z hp2 6 pf, aN z hh2 6 (hbA rQ)] pf rQ H) [(hn, .inr (3, [.ref hp, .ref hh, .int (nI (rQ 6)), .int (nI (hpF rQ (rQ 6))), .int (nI (chF rQ (rQ 6))), .int (nI (rQ 0)), .int (nI (rQ 1)), .int (nI (rQ 2)), .int (nI (rQ 3)), .int (nI (rQ 4)), .int (nI (rQ 5))])), aP z hp 6 pf, aN z hh 6 (hbA rQ), (h2, .inr (3, [.ref hp2, .ref hh2, .int (nI (rQ 6)), .int (nI (hpF rQ (rQ 6))), .int (nI (chF rQ (rQ 6))), .int (nI (rQ 0)), .int (nI (rQ 1)), .int (nI (rQ 2)), .int (nI (rQ 3)), .int (nI (rQ 4)), .int (nI (rQ 5))])), aP z hp2 6 pf, aN z hh2 6 (hbA rQ)] none (fun _ => True) := by
  refine Met.ofW (cc := cX3_become) (maxL := 3) (ret := none) (by decide) rfl ?_
  intro pg e s m args below meth c s₁ B hml hv
  obtain ⟨rfl, hsz, hP, hK, hD0, hE⟩ := hv
  have hx := B.exec
  have hb := B.bytes
  have hr := B.returns
  have hts : ∀ w ∈ ALL, w.before _ s = true := fun w h => atoms_spec (ws := wA yX3_become cX3_become 3 none) B.pre w (List.mem_cons_of_mem _ h)
  have hown : s.vm.findClass RX3 = some m.cls := findClass_of_methodNamed B.named
  have hlocks := B.notSynchronized
  subst hsz
  have hD := hD0.self (sz := s.heap.size)
  have hN : ∀ (H : Heap) (locs : List Loc), va_S (va_A [(hn, .inr (3, [.ref hp, .ref hh, .int (nI (r0 6)), .int (nI (hpF r0 (r0 6))), .int (nI (chF r0 (r0 6))), .int (nI (r0 0)), .int (nI (r0 1)), .int (nI (r0 2)), .int (nI (r0 3)), .int (nI (r0 4)), .int (nI (r0 5))])), aP z hp 6 pf0, aN z hh 6 (hbA r0), (h2, .inr (3, [.ref hp2, .ref hh2, .int (nI (rQ 6)), .int (nI (hpF rQ (rQ 6))), .int (nI (chF rQ (rQ 6))), .int (nI (rQ 0)), .int (nI (rQ 1)), .int (nI (rQ 2)), .int (nI (rQ 3)), .int (nI (rQ 4)), .int (nI (rQ 5))])), aP z hp2 6 pf, aN z hh2 6 (hbA rQ)] s.heap.size) s.heap H locs → peH D [(hn, .inr (3, [.ref hp, .ref hh, .int (nI (r0 6)), .int (nI (hpF r0 (r0 6))), .int (nI (chF r0 (r0 6))), .int (nI (r0 0)), .int (nI (r0 1)), .int (nI (r0 2)), .int (nI (r0 3)), .int (nI (r0 4)), .int (nI (r0 5))])), aP z hp 6 pf0, aN z hh 6 (hbA r0), (h2, .inr (3, [.ref hp2, .ref hh2, .int (nI (rQ 6)), .int (nI (hpF rQ (rQ 6))), .int (nI (chF rQ (rQ 6))), .int (nI (rQ 0)), .int (nI (rQ 1)), .int (nI (rQ 2)), .int (nI (rQ 3)), .int (nI (rQ 4)), .int (nI (rQ 5))])), aP z hp2 6 pf, aN z hh2 6 (hbA rQ)] pf rQ H := fun H locs h9 => peH.now hE h9
  have hA : ∀ q : Nat, s.heap.size ≤ q → va_A [(hn, .inr (3, [.ref hp, .ref hh, .int (nI (r0 6)), .int (nI (hpF r0 (r0 6))), .int (nI (chF r0 (r0 6))), .int (nI (r0 0)), .int (nI (r0 1)), .int (nI (r0 2)), .int (nI (r0 3)), .int (nI (r0 4)), .int (nI (r0 5))])), aP z hp 6 pf0, aN z hh 6 (hbA r0), (h2, .inr (3, [.ref hp2, .ref hh2, .int (nI (rQ 6)), .int (nI (hpF rQ (rQ 6))), .int (nI (chF rQ (rQ 6))), .int (nI (rQ 0)), .int (nI (rQ 1)), .int (nI (rQ 2)), .int (nI (rQ 3)), .int (nI (rQ 4)), .int (nI (rQ 5))])), aP z hp2 6 pf, aN z hh2 6 (hbA rQ)] s.heap.size q := fun q h => Or.inr h
  generalize va_A [(hn, .inr (3, [.ref hp, .ref hh, .int (nI (r0 6)), .int (nI (hpF r0 (r0 6))), .int (nI (chF r0 (r0 6))), .int (nI (r0 0)), .int (nI (r0 1)), .int (nI (r0 2)), .int (nI (r0 3)), .int (nI (r0 4)), .int (nI (r0 5))])), aP z hp 6 pf0, aN z hh 6 (hbA r0), (h2, .inr (3, [.ref hp2, .ref hh2, .int (nI (rQ 6)), .int (nI (hpF rQ (rQ 6))), .int (nI (chF rQ (rQ 6))), .int (nI (rQ 0)), .int (nI (rQ 1)), .int (nI (rQ 2)), .int (nI (rQ 3)), .int (nI (rQ 4)), .int (nI (rQ 5))])), aP z hp2 6 pf, aN z hh2 6 (hbA rQ)] s.heap.size = A at *
  have hS : va_S A s.heap s.heap [] := va_S.rf
  have hl := lv_entry ([.ref hn, .ref h2]) (n := 3) (Nat.le_of_ble_eq_true rfl)
  rw [lg_entry_eq]
  generalize (lg_sl ([.ref hn, .ref h2]) ++ List.replicate (3 - (lg_sl ([.ref hn, .ref h2])).length) Slot.unset).toArray = ls at hl ⊢
  have hl : lv_has ls 3 [(0, .ref hn), (1, .ref h2)] := hl
  refine lv_iconst (v := nI 0) hx hb dX3_become_0 (by decide +kernel) ?_
  refine lv_istore_n (lv' := [(2, .int (nI 0)), (0, .ref hn), (1, .ref h2)]) hx hb dX3_become_1 rfl hl (by decide) rfl (fun ls hl => ?_)
  refine nv_loop (σ := Nat) (fun x H locs ls => ∃ (jQ : Nat), jQ = x ∧ ((jQ ≤ 6)) ∧ va_P D vwCl [(hn, .inr (3, [.ref hp, .ref hh, .int (nI (r0 6)), .int (nI (hpF r0 (r0 6))), .int (nI (chF r0 (r0 6))), .int (nI (r0 0)), .int (nI (r0 1)), .int (nI (r0 2)), .int (nI (r0 3)), .int (nI (r0 4)), .int (nI (r0 5))])), aP z hp 6 (lyP pf pf0 jQ), aN z hh 6 (lyF (hbA rQ) (hbA r0) jQ), (h2, .inr (3, [.ref hp2, .ref hh2, .int (nI (rQ 6)), .int (nI (hpF rQ (rQ 6))), .int (nI (chF rQ (rQ 6))), .int (nI (rQ 0)), .int (nI (rQ 1)), .int (nI (rQ 2)), .int (nI (rQ 3)), .int (nI (rQ 4)), .int (nI (rQ 5))])), aP z hp2 6 pf, aN z hh2 6 (hbA rQ)] H ∧ va_D A [(hn, .inr (3, [.ref hp, .ref hh, .int (nI (r0 6)), .int (nI (hpF r0 (r0 6))), .int (nI (chF r0 (r0 6))), .int (nI (r0 0)), .int (nI (r0 1)), .int (nI (r0 2)), .int (nI (r0 3)), .int (nI (r0 4)), .int (nI (r0 5))])), aP z hp 6 (lyP pf pf0 jQ), aN z hh 6 (lyF (hbA rQ) (hbA r0) jQ), (h2, .inr (3, [.ref hp2, .ref hh2, .int (nI (rQ 6)), .int (nI (hpF rQ (rQ 6))), .int (nI (chF rQ (rQ 6))), .int (nI (rQ 0)), .int (nI (rQ 1)), .int (nI (rQ 2)), .int (nI (rQ 3)), .int (nI (rQ 4)), .int (nI (rQ 5))])), aP z hp2 6 pf, aN z hh2 6 (hbA rQ)] ∧ va_S A s.heap H locs ∧ lv_has ls 3 [(0, .ref hn), (1, .ref h2), (2, .int (nI jQ))]) (fun x => 6 - x) 2 [] ?_ 0 ?_
  · rintro _ H locs ls ⟨jQ, rfl, hj, hP, hD, hS, hl⟩ ih2
    refine lv_iload_n hx hb dX3_become_2 rfl (lv_at hl 2 rfl) ?_
    refine lv_bipush (v := nI 6) hx hb dX3_become_3 (by decide +kernel) ?_
    refine nv_ge (tgt := 38) hx hb (by omega) (by omega) dX3_become_5 (by decide) (fun hc5 => ?_) (fun hc5 => ?_)
    · obtain rfl : jQ = 6 := by omega
      have hP : va_P D vwCl [(hn, .inr (3, [.ref hp, .ref hh, .int (nI (r0 6)), .int (nI (hpF r0 (r0 6))), .int (nI (chF r0 (r0 6))), .int (nI (r0 0)), .int (nI (r0 1)), .int (nI (r0 2)), .int (nI (r0 3)), .int (nI (r0 4)), .int (nI (r0 5))])), aP z hp 6 pf, aN z hh 6 (hbA rQ), (h2, .inr (3, [.ref hp2, .ref hh2, .int (nI (rQ 6)), .int (nI (hpF rQ (rQ 6))), .int (nI (chF rQ (rQ 6))), .int (nI (rQ 0)), .int (nI (rQ 1)), .int (nI (rQ 2)), .int (nI (rQ 3)), .int (nI (rQ 4)), .int (nI (rQ 5))])), aP z hp2 6 pf, aN z hh2 6 (hbA rQ)] H := va_P.cg (va_P.cgP hP 1 rfl (fun i hiQ => by rw [lyP_at, if_pos hiQ])) 2 rfl (fun i hiQ => by rw [lyF_at, if_pos hiQ])
      have hD : va_D A [(hn, .inr (3, [.ref hp, .ref hh, .int (nI (r0 6)), .int (nI (hpF r0 (r0 6))), .int (nI (chF r0 (r0 6))), .int (nI (r0 0)), .int (nI (r0 1)), .int (nI (r0 2)), .int (nI (r0 3)), .int (nI (r0 4)), .int (nI (r0 5))])), aP z hp 6 pf, aN z hh 6 (hbA rQ), (h2, .inr (3, [.ref hp2, .ref hh2, .int (nI (rQ 6)), .int (nI (hpF rQ (rQ 6))), .int (nI (chF rQ (rQ 6))), .int (nI (rQ 0)), .int (nI (rQ 1)), .int (nI (rQ 2)), .int (nI (rQ 3)), .int (nI (rQ 4)), .int (nI (rQ 5))])), aP z hp2 6 pf, aN z hh2 6 (hbA rQ)] := hD.same rfl
      refine lv_aload_n hx hb dX3_become_38 rfl (lv_at hl 0 rfl) ?_
      refine lv_aload_n hx hb dX3_become_39 rfl (lv_at hl 1 rfl) ?_
      refine va_get (D := D) (ci := 3) (v := .int (nI (rQ 6))) (C := RX3) (T := TX3) (N := 11) hx hb hts iX3 hown hK.1 hP 3 rfl rfl 2 (by decide) (hts _ m_42) (fun _ h9 => h9) rfl dX3_become_40 ?_
      refine va_put (D := D) (ci := 3) (v := .int (nI (rQ 6))) (ty := tyX3 2) (C := RX3) (T := TX3) (N := 11) hx hb hts iX3 tyX3 tyX3_ok nmX3 hown hK.1 hP hD hS 0 rfl rfl 2 (by decide) (hts _ m_42) (fun _ h9 => h9) rfl (tyX3_ok 2 (by decide)) rfl rfl (Nat.le_of_ble_eq_true rfl) dX3_become_43 (fun H locs hP hD hS => ?_)
      have hP : va_P D vwCl [(hn, .inr (3, [.ref hp, .ref hh, .int (nI (rQ 6)), .int (nI (hpF r0 (r0 6))), .int (nI (chF r0 (r0 6))), .int (nI (r0 0)), .int (nI (r0 1)), .int (nI (r0 2)), .int (nI (r0 3)), .int (nI (r0 4)), .int (nI (r0 5))])), aP z hp 6 pf, aN z hh 6 (hbA rQ), (h2, .inr (3, [.ref hp2, .ref hh2, .int (nI (rQ 6)), .int (nI (hpF rQ (rQ 6))), .int (nI (chF rQ (rQ 6))), .int (nI (rQ 0)), .int (nI (rQ 1)), .int (nI (rQ 2)), .int (nI (rQ 3)), .int (nI (rQ 4)), .int (nI (rQ 5))])), aP z hp2 6 pf, aN z hh2 6 (hbA rQ)] H := hP
      have hD : va_D A [(hn, .inr (3, [.ref hp, .ref hh, .int (nI (rQ 6)), .int (nI (hpF r0 (r0 6))), .int (nI (chF r0 (r0 6))), .int (nI (r0 0)), .int (nI (r0 1)), .int (nI (r0 2)), .int (nI (r0 3)), .int (nI (r0 4)), .int (nI (r0 5))])), aP z hp 6 pf, aN z hh 6 (hbA rQ), (h2, .inr (3, [.ref hp2, .ref hh2, .int (nI (rQ 6)), .int (nI (hpF rQ (rQ 6))), .int (nI (chF rQ (rQ 6))), .int (nI (rQ 0)), .int (nI (rQ 1)), .int (nI (rQ 2)), .int (nI (rQ 3)), .int (nI (rQ 4)), .int (nI (rQ 5))])), aP z hp2 6 pf, aN z hh2 6 (hbA rQ)] := hD
      refine lv_aload_n hx hb dX3_become_46 rfl (lv_at hl 0 rfl) ?_
      refine lv_aload_n hx hb dX3_become_47 rfl (lv_at hl 1 rfl) ?_
      refine va_get (D := D) (ci := 3) (v := .int (nI (hpF rQ (rQ 6)))) (C := RX3) (T := TX3) (N := 11) hx hb hts iX3 hown hK.1 hP 3 rfl rfl 3 (by decide) (hts _ m_43) (fun _ h9 => h9) rfl dX3_become_48 ?_
      refine va_put (D := D) (ci := 3) (v := .int (nI (hpF rQ (rQ 6)))) (ty := tyX3 3) (C := RX3) (T := TX3) (N := 11) hx hb hts iX3 tyX3 tyX3_ok nmX3 hown hK.1 hP hD hS 0 rfl rfl 3 (by decide) (hts _ m_43) (fun _ h9 => h9) rfl (tyX3_ok 3 (by decide)) rfl rfl (Nat.le_of_ble_eq_true rfl) dX3_become_51 (fun H locs hP hD hS => ?_)
      have hP : va_P D vwCl [(hn, .inr (3, [.ref hp, .ref hh, .int (nI (rQ 6)), .int (nI (hpF rQ (rQ 6))), .int (nI (chF r0 (r0 6))), .int (nI (r0 0)), .int (nI (r0 1)), .int (nI (r0 2)), .int (nI (r0 3)), .int (nI (r0 4)), .int (nI (r0 5))])), aP z hp 6 pf, aN z hh 6 (hbA rQ), (h2, .inr (3, [.ref hp2, .ref hh2, .int (nI (rQ 6)), .int (nI (hpF rQ (rQ 6))), .int (nI (chF rQ (rQ 6))), .int (nI (rQ 0)), .int (nI (rQ 1)), .int (nI (rQ 2)), .int (nI (rQ 3)), .int (nI (rQ 4)), .int (nI (rQ 5))])), aP z hp2 6 pf, aN z hh2 6 (hbA rQ)] H := hP
      have hD : va_D A [(hn, .inr (3, [.ref hp, .ref hh, .int (nI (rQ 6)), .int (nI (hpF rQ (rQ 6))), .int (nI (chF r0 (r0 6))), .int (nI (r0 0)), .int (nI (r0 1)), .int (nI (r0 2)), .int (nI (r0 3)), .int (nI (r0 4)), .int (nI (r0 5))])), aP z hp 6 pf, aN z hh 6 (hbA rQ), (h2, .inr (3, [.ref hp2, .ref hh2, .int (nI (rQ 6)), .int (nI (hpF rQ (rQ 6))), .int (nI (chF rQ (rQ 6))), .int (nI (rQ 0)), .int (nI (rQ 1)), .int (nI (rQ 2)), .int (nI (rQ 3)), .int (nI (rQ 4)), .int (nI (rQ 5))])), aP z hp2 6 pf, aN z hh2 6 (hbA rQ)] := hD
      refine lv_aload_n hx hb dX3_become_54 rfl (lv_at hl 0 rfl) ?_
      refine lv_aload_n hx hb dX3_become_55 rfl (lv_at hl 1 rfl) ?_
      refine va_get (D := D) (ci := 3) (v := .int (nI (chF rQ (rQ 6)))) (C := RX3) (T := TX3) (N := 11) hx hb hts iX3 hown hK.1 hP 3 rfl rfl 4 (by decide) (hts _ m_44) (fun _ h9 => h9) rfl dX3_become_56 ?_
      refine va_put (D := D) (ci := 3) (v := .int (nI (chF rQ (rQ 6)))) (ty := tyX3 4) (C := RX3) (T := TX3) (N := 11) hx hb hts iX3 tyX3 tyX3_ok nmX3 hown hK.1 hP hD hS 0 rfl rfl 4 (by decide) (hts _ m_44) (fun _ h9 => h9) rfl (tyX3_ok 4 (by decide)) rfl rfl (Nat.le_of_ble_eq_true rfl) dX3_become_59 (fun H locs hP hD hS => ?_)
      have hP : va_P D vwCl [(hn, .inr (3, [.ref hp, .ref hh, .int (nI (rQ 6)), .int (nI (hpF rQ (rQ 6))), .int (nI (chF rQ (rQ 6))), .int (nI (r0 0)), .int (nI (r0 1)), .int (nI (r0 2)), .int (nI (r0 3)), .int (nI (r0 4)), .int (nI (r0 5))])), aP z hp 6 pf, aN z hh 6 (hbA rQ), (h2, .inr (3, [.ref hp2, .ref hh2, .int (nI (rQ 6)), .int (nI (hpF rQ (rQ 6))), .int (nI (chF rQ (rQ 6))), .int (nI (rQ 0)), .int (nI (rQ 1)), .int (nI (rQ 2)), .int (nI (rQ 3)), .int (nI (rQ 4)), .int (nI (rQ 5))])), aP z hp2 6 pf, aN z hh2 6 (hbA rQ)] H := hP
      have hD : va_D A [(hn, .inr (3, [.ref hp, .ref hh, .int (nI (rQ 6)), .int (nI (hpF rQ (rQ 6))), .int (nI (chF rQ (rQ 6))), .int (nI (r0 0)), .int (nI (r0 1)), .int (nI (r0 2)), .int (nI (r0 3)), .int (nI (r0 4)), .int (nI (r0 5))])), aP z hp 6 pf, aN z hh 6 (hbA rQ), (h2, .inr (3, [.ref hp2, .ref hh2, .int (nI (rQ 6)), .int (nI (hpF rQ (rQ 6))), .int (nI (chF rQ (rQ 6))), .int (nI (rQ 0)), .int (nI (rQ 1)), .int (nI (rQ 2)), .int (nI (rQ 3)), .int (nI (rQ 4)), .int (nI (rQ 5))])), aP z hp2 6 pf, aN z hh2 6 (hbA rQ)] := hD
      refine lv_aload_n hx hb dX3_become_62 rfl (lv_at hl 0 rfl) ?_
      refine lv_aload_n hx hb dX3_become_63 rfl (lv_at hl 1 rfl) ?_
      refine va_get (D := D) (ci := 3) (v := .int (nI (rQ 0))) (C := RX3) (T := TX3) (N := 11) hx hb hts iX3 hown hK.1 hP 3 rfl rfl 5 (by decide) (hts _ m_45) (fun _ h9 => h9) rfl dX3_become_64 ?_
      refine va_put (D := D) (ci := 3) (v := .int (nI (rQ 0))) (ty := tyX3 5) (C := RX3) (T := TX3) (N := 11) hx hb hts iX3 tyX3 tyX3_ok nmX3 hown hK.1 hP hD hS 0 rfl rfl 5 (by decide) (hts _ m_45) (fun _ h9 => h9) rfl (tyX3_ok 5 (by decide)) rfl rfl (Nat.le_of_ble_eq_true rfl) dX3_become_67 (fun H locs hP hD hS => ?_)
      have hP : va_P D vwCl [(hn, .inr (3, [.ref hp, .ref hh, .int (nI (rQ 6)), .int (nI (hpF rQ (rQ 6))), .int (nI (chF rQ (rQ 6))), .int (nI (rQ 0)), .int (nI (r0 1)), .int (nI (r0 2)), .int (nI (r0 3)), .int (nI (r0 4)), .int (nI (r0 5))])), aP z hp 6 pf, aN z hh 6 (hbA rQ), (h2, .inr (3, [.ref hp2, .ref hh2, .int (nI (rQ 6)), .int (nI (hpF rQ (rQ 6))), .int (nI (chF rQ (rQ 6))), .int (nI (rQ 0)), .int (nI (rQ 1)), .int (nI (rQ 2)), .int (nI (rQ 3)), .int (nI (rQ 4)), .int (nI (rQ 5))])), aP z hp2 6 pf, aN z hh2 6 (hbA rQ)] H := hP
      have hD : va_D A [(hn, .inr (3, [.ref hp, .ref hh, .int (nI (rQ 6)), .int (nI (hpF rQ (rQ 6))), .int (nI (chF rQ (rQ 6))), .int (nI (rQ 0)), .int (nI (r0 1)), .int (nI (r0 2)), .int (nI (r0 3)), .int (nI (r0 4)), .int (nI (r0 5))])), aP z hp 6 pf, aN z hh 6 (hbA rQ), (h2, .inr (3, [.ref hp2, .ref hh2, .int (nI (rQ 6)), .int (nI (hpF rQ (rQ 6))), .int (nI (chF rQ (rQ 6))), .int (nI (rQ 0)), .int (nI (rQ 1)), .int (nI (rQ 2)), .int (nI (rQ 3)), .int (nI (rQ 4)), .int (nI (rQ 5))])), aP z hp2 6 pf, aN z hh2 6 (hbA rQ)] := hD
      refine lv_aload_n hx hb dX3_become_70 rfl (lv_at hl 0 rfl) ?_
      refine lv_aload_n hx hb dX3_become_71 rfl (lv_at hl 1 rfl) ?_
      refine va_get (D := D) (ci := 3) (v := .int (nI (rQ 1))) (C := RX3) (T := TX3) (N := 11) hx hb hts iX3 hown hK.1 hP 3 rfl rfl 6 (by decide) (hts _ m_46) (fun _ h9 => h9) rfl dX3_become_72 ?_
      refine va_put (D := D) (ci := 3) (v := .int (nI (rQ 1))) (ty := tyX3 6) (C := RX3) (T := TX3) (N := 11) hx hb hts iX3 tyX3 tyX3_ok nmX3 hown hK.1 hP hD hS 0 rfl rfl 6 (by decide) (hts _ m_46) (fun _ h9 => h9) rfl (tyX3_ok 6 (by decide)) rfl rfl (Nat.le_of_ble_eq_true rfl) dX3_become_75 (fun H locs hP hD hS => ?_)
      have hP : va_P D vwCl [(hn, .inr (3, [.ref hp, .ref hh, .int (nI (rQ 6)), .int (nI (hpF rQ (rQ 6))), .int (nI (chF rQ (rQ 6))), .int (nI (rQ 0)), .int (nI (rQ 1)), .int (nI (r0 2)), .int (nI (r0 3)), .int (nI (r0 4)), .int (nI (r0 5))])), aP z hp 6 pf, aN z hh 6 (hbA rQ), (h2, .inr (3, [.ref hp2, .ref hh2, .int (nI (rQ 6)), .int (nI (hpF rQ (rQ 6))), .int (nI (chF rQ (rQ 6))), .int (nI (rQ 0)), .int (nI (rQ 1)), .int (nI (rQ 2)), .int (nI (rQ 3)), .int (nI (rQ 4)), .int (nI (rQ 5))])), aP z hp2 6 pf, aN z hh2 6 (hbA rQ)] H := hP
      have hD : va_D A [(hn, .inr (3, [.ref hp, .ref hh, .int (nI (rQ 6)), .int (nI (hpF rQ (rQ 6))), .int (nI (chF rQ (rQ 6))), .int (nI (rQ 0)), .int (nI (rQ 1)), .int (nI (r0 2)), .int (nI (r0 3)), .int (nI (r0 4)), .int (nI (r0 5))])), aP z hp 6 pf, aN z hh 6 (hbA rQ), (h2, .inr (3, [.ref hp2, .ref hh2, .int (nI (rQ 6)), .int (nI (hpF rQ (rQ 6))), .int (nI (chF rQ (rQ 6))), .int (nI (rQ 0)), .int (nI (rQ 1)), .int (nI (rQ 2)), .int (nI (rQ 3)), .int (nI (rQ 4)), .int (nI (rQ 5))])), aP z hp2 6 pf, aN z hh2 6 (hbA rQ)] := hD
      refine lv_aload_n hx hb dX3_become_78 rfl (lv_at hl 0 rfl) ?_
      refine lv_aload_n hx hb dX3_become_79 rfl (lv_at hl 1 rfl) ?_
      refine va_get (D := D) (ci := 3) (v := .int (nI (rQ 2))) (C := RX3) (T := TX3) (N := 11) hx hb hts iX3 hown hK.1 hP 3 rfl rfl 7 (by decide) (hts _ m_47) (fun _ h9 => h9) rfl dX3_become_80 ?_
      refine va_put (D := D) (ci := 3) (v := .int (nI (rQ 2))) (ty := tyX3 7) (C := RX3) (T := TX3) (N := 11) hx hb hts iX3 tyX3 tyX3_ok nmX3 hown hK.1 hP hD hS 0 rfl rfl 7 (by decide) (hts _ m_47) (fun _ h9 => h9) rfl (tyX3_ok 7 (by decide)) rfl rfl (Nat.le_of_ble_eq_true rfl) dX3_become_83 (fun H locs hP hD hS => ?_)
      have hP : va_P D vwCl [(hn, .inr (3, [.ref hp, .ref hh, .int (nI (rQ 6)), .int (nI (hpF rQ (rQ 6))), .int (nI (chF rQ (rQ 6))), .int (nI (rQ 0)), .int (nI (rQ 1)), .int (nI (rQ 2)), .int (nI (r0 3)), .int (nI (r0 4)), .int (nI (r0 5))])), aP z hp 6 pf, aN z hh 6 (hbA rQ), (h2, .inr (3, [.ref hp2, .ref hh2, .int (nI (rQ 6)), .int (nI (hpF rQ (rQ 6))), .int (nI (chF rQ (rQ 6))), .int (nI (rQ 0)), .int (nI (rQ 1)), .int (nI (rQ 2)), .int (nI (rQ 3)), .int (nI (rQ 4)), .int (nI (rQ 5))])), aP z hp2 6 pf, aN z hh2 6 (hbA rQ)] H := hP
      have hD : va_D A [(hn, .inr (3, [.ref hp, .ref hh, .int (nI (rQ 6)), .int (nI (hpF rQ (rQ 6))), .int (nI (chF rQ (rQ 6))), .int (nI (rQ 0)), .int (nI (rQ 1)), .int (nI (rQ 2)), .int (nI (r0 3)), .int (nI (r0 4)), .int (nI (r0 5))])), aP z hp 6 pf, aN z hh 6 (hbA rQ), (h2, .inr (3, [.ref hp2, .ref hh2, .int (nI (rQ 6)), .int (nI (hpF rQ (rQ 6))), .int (nI (chF rQ (rQ 6))), .int (nI (rQ 0)), .int (nI (rQ 1)), .int (nI (rQ 2)), .int (nI (rQ 3)), .int (nI (rQ 4)), .int (nI (rQ 5))])), aP z hp2 6 pf, aN z hh2 6 (hbA rQ)] := hD
      refine lv_aload_n hx hb dX3_become_86 rfl (lv_at hl 0 rfl) ?_
      refine lv_aload_n hx hb dX3_become_87 rfl (lv_at hl 1 rfl) ?_
      refine va_get (D := D) (ci := 3) (v := .int (nI (rQ 3))) (C := RX3) (T := TX3) (N := 11) hx hb hts iX3 hown hK.1 hP 3 rfl rfl 8 (by decide) (hts _ m_48) (fun _ h9 => h9) rfl dX3_become_88 ?_
      refine va_put (D := D) (ci := 3) (v := .int (nI (rQ 3))) (ty := tyX3 8) (C := RX3) (T := TX3) (N := 11) hx hb hts iX3 tyX3 tyX3_ok nmX3 hown hK.1 hP hD hS 0 rfl rfl 8 (by decide) (hts _ m_48) (fun _ h9 => h9) rfl (tyX3_ok 8 (by decide)) rfl rfl (Nat.le_of_ble_eq_true rfl) dX3_become_91 (fun H locs hP hD hS => ?_)
      have hP : va_P D vwCl [(hn, .inr (3, [.ref hp, .ref hh, .int (nI (rQ 6)), .int (nI (hpF rQ (rQ 6))), .int (nI (chF rQ (rQ 6))), .int (nI (rQ 0)), .int (nI (rQ 1)), .int (nI (rQ 2)), .int (nI (rQ 3)), .int (nI (r0 4)), .int (nI (r0 5))])), aP z hp 6 pf, aN z hh 6 (hbA rQ), (h2, .inr (3, [.ref hp2, .ref hh2, .int (nI (rQ 6)), .int (nI (hpF rQ (rQ 6))), .int (nI (chF rQ (rQ 6))), .int (nI (rQ 0)), .int (nI (rQ 1)), .int (nI (rQ 2)), .int (nI (rQ 3)), .int (nI (rQ 4)), .int (nI (rQ 5))])), aP z hp2 6 pf, aN z hh2 6 (hbA rQ)] H := hP
      have hD : va_D A [(hn, .inr (3, [.ref hp, .ref hh, .int (nI (rQ 6)), .int (nI (hpF rQ (rQ 6))), .int (nI (chF rQ (rQ 6))), .int (nI (rQ 0)), .int (nI (rQ 1)), .int (nI (rQ 2)), .int (nI (rQ 3)), .int (nI (r0 4)), .int (nI (r0 5))])), aP z hp 6 pf, aN z hh 6 (hbA rQ), (h2, .inr (3, [.ref hp2, .ref hh2, .int (nI (rQ 6)), .int (nI (hpF rQ (rQ 6))), .int (nI (chF rQ (rQ 6))), .int (nI (rQ 0)), .int (nI (rQ 1)), .int (nI (rQ 2)), .int (nI (rQ 3)), .int (nI (rQ 4)), .int (nI (rQ 5))])), aP z hp2 6 pf, aN z hh2 6 (hbA rQ)] := hD
      refine lv_aload_n hx hb dX3_become_94 rfl (lv_at hl 0 rfl) ?_
      refine lv_aload_n hx hb dX3_become_95 rfl (lv_at hl 1 rfl) ?_
      refine va_get (D := D) (ci := 3) (v := .int (nI (rQ 4))) (C := RX3) (T := TX3) (N := 11) hx hb hts iX3 hown hK.1 hP 3 rfl rfl 9 (by decide) (hts _ m_49) (fun _ h9 => h9) rfl dX3_become_96 ?_
      refine va_put (D := D) (ci := 3) (v := .int (nI (rQ 4))) (ty := tyX3 9) (C := RX3) (T := TX3) (N := 11) hx hb hts iX3 tyX3 tyX3_ok nmX3 hown hK.1 hP hD hS 0 rfl rfl 9 (by decide) (hts _ m_49) (fun _ h9 => h9) rfl (tyX3_ok 9 (by decide)) rfl rfl (Nat.le_of_ble_eq_true rfl) dX3_become_99 (fun H locs hP hD hS => ?_)
      have hP : va_P D vwCl [(hn, .inr (3, [.ref hp, .ref hh, .int (nI (rQ 6)), .int (nI (hpF rQ (rQ 6))), .int (nI (chF rQ (rQ 6))), .int (nI (rQ 0)), .int (nI (rQ 1)), .int (nI (rQ 2)), .int (nI (rQ 3)), .int (nI (rQ 4)), .int (nI (r0 5))])), aP z hp 6 pf, aN z hh 6 (hbA rQ), (h2, .inr (3, [.ref hp2, .ref hh2, .int (nI (rQ 6)), .int (nI (hpF rQ (rQ 6))), .int (nI (chF rQ (rQ 6))), .int (nI (rQ 0)), .int (nI (rQ 1)), .int (nI (rQ 2)), .int (nI (rQ 3)), .int (nI (rQ 4)), .int (nI (rQ 5))])), aP z hp2 6 pf, aN z hh2 6 (hbA rQ)] H := hP
      have hD : va_D A [(hn, .inr (3, [.ref hp, .ref hh, .int (nI (rQ 6)), .int (nI (hpF rQ (rQ 6))), .int (nI (chF rQ (rQ 6))), .int (nI (rQ 0)), .int (nI (rQ 1)), .int (nI (rQ 2)), .int (nI (rQ 3)), .int (nI (rQ 4)), .int (nI (r0 5))])), aP z hp 6 pf, aN z hh 6 (hbA rQ), (h2, .inr (3, [.ref hp2, .ref hh2, .int (nI (rQ 6)), .int (nI (hpF rQ (rQ 6))), .int (nI (chF rQ (rQ 6))), .int (nI (rQ 0)), .int (nI (rQ 1)), .int (nI (rQ 2)), .int (nI (rQ 3)), .int (nI (rQ 4)), .int (nI (rQ 5))])), aP z hp2 6 pf, aN z hh2 6 (hbA rQ)] := hD
      refine lv_aload_n hx hb dX3_become_102 rfl (lv_at hl 0 rfl) ?_
      refine lv_aload_n hx hb dX3_become_103 rfl (lv_at hl 1 rfl) ?_
      refine va_get (D := D) (ci := 3) (v := .int (nI (rQ 5))) (C := RX3) (T := TX3) (N := 11) hx hb hts iX3 hown hK.1 hP 3 rfl rfl 10 (by decide) (hts _ m_50) (fun _ h9 => h9) rfl dX3_become_104 ?_
      refine va_put (D := D) (ci := 3) (v := .int (nI (rQ 5))) (ty := tyX3 10) (C := RX3) (T := TX3) (N := 11) hx hb hts iX3 tyX3 tyX3_ok nmX3 hown hK.1 hP hD hS 0 rfl rfl 10 (by decide) (hts _ m_50) (fun _ h9 => h9) rfl (tyX3_ok 10 (by decide)) rfl rfl (Nat.le_of_ble_eq_true rfl) dX3_become_107 (fun H locs hP hD hS => ?_)
      have hP : va_P D vwCl [(hn, .inr (3, [.ref hp, .ref hh, .int (nI (rQ 6)), .int (nI (hpF rQ (rQ 6))), .int (nI (chF rQ (rQ 6))), .int (nI (rQ 0)), .int (nI (rQ 1)), .int (nI (rQ 2)), .int (nI (rQ 3)), .int (nI (rQ 4)), .int (nI (rQ 5))])), aP z hp 6 pf, aN z hh 6 (hbA rQ), (h2, .inr (3, [.ref hp2, .ref hh2, .int (nI (rQ 6)), .int (nI (hpF rQ (rQ 6))), .int (nI (chF rQ (rQ 6))), .int (nI (rQ 0)), .int (nI (rQ 1)), .int (nI (rQ 2)), .int (nI (rQ 3)), .int (nI (rQ 4)), .int (nI (rQ 5))])), aP z hp2 6 pf, aN z hh2 6 (hbA rQ)] H := hP
      have hD : va_D A [(hn, .inr (3, [.ref hp, .ref hh, .int (nI (rQ 6)), .int (nI (hpF rQ (rQ 6))), .int (nI (chF rQ (rQ 6))), .int (nI (rQ 0)), .int (nI (rQ 1)), .int (nI (rQ 2)), .int (nI (rQ 3)), .int (nI (rQ 4)), .int (nI (rQ 5))])), aP z hp 6 pf, aN z hh 6 (hbA rQ), (h2, .inr (3, [.ref hp2, .ref hh2, .int (nI (rQ 6)), .int (nI (hpF rQ (rQ 6))), .int (nI (chF rQ (rQ 6))), .int (nI (rQ 0)), .int (nI (rQ 1)), .int (nI (rQ 2)), .int (nI (rQ 3)), .int (nI (rQ 4)), .int (nI (rQ 5))])), aP z hp2 6 pf, aN z hh2 6 (hbA rQ)] := hD
      exact nv_mv hx hb hr hlocks hS dX3_become_110 hP trivial
    · refine lv_aload_n hx hb dX3_become_8 rfl (lv_at hl 0 rfl) ?_
      refine va_get (D := D) (ci := 3) (v := .ref hp) (C := RX3) (T := TX3) (N := 11) hx hb hts iX3 hown hK.1 hP 0 rfl rfl 0 (by decide) (hts _ m_39) (fun _ h9 => h9) rfl dX3_become_9 ?_
      refine lv_iload_n hx hb dX3_become_12 rfl (lv_at hl 2 rfl) ?_
      refine lv_aload_n hx hb dX3_become_13 rfl (lv_at hl 1 rfl) ?_
      refine va_get (D := D) (ci := 3) (v := .ref hp2) (C := RX3) (T := TX3) (N := 11) hx hb hts iX3 hown hK.1 hP 3 rfl rfl 0 (by decide) (hts _ m_39) (fun _ h9 => h9) rfl dX3_become_14 ?_
      refine lv_iload_n hx hb dX3_become_17 rfl (lv_at hl 2 rfl) ?_
      refine nv_pald (v := pf jQ) hx hb hK hP 4 rfl (by omega) (by decide) rfl dX3_become_18 ?_
      refine nv_past hx hb hK hP hD hS 1 rfl (by omega) (by decide) (fun b9 hb9 => by obtain ⟨-, kq, tq9, g1, g2⟩ := (hN _ _ hS).1 jQ (by omega) b9 hb9; exact g2.any hK g1) dX3_become_19 (fun H locs hP hD hS => ?_)
      have hP : va_P D vwCl [(hn, .inr (3, [.ref hp, .ref hh, .int (nI (r0 6)), .int (nI (hpF r0 (r0 6))), .int (nI (chF r0 (r0 6))), .int (nI (r0 0)), .int (nI (r0 1)), .int (nI (r0 2)), .int (nI (r0 3)), .int (nI (r0 4)), .int (nI (r0 5))])), aP z hp 6 (va_up (lyP pf pf0 jQ) jQ (pf jQ)), aN z hh 6 (lyF (hbA rQ) (hbA r0) jQ), (h2, .inr (3, [.ref hp2, .ref hh2, .int (nI (rQ 6)), .int (nI (hpF rQ (rQ 6))), .int (nI (chF rQ (rQ 6))), .int (nI (rQ 0)), .int (nI (rQ 1)), .int (nI (rQ 2)), .int (nI (rQ 3)), .int (nI (rQ 4)), .int (nI (rQ 5))])), aP z hp2 6 pf, aN z hh2 6 (hbA rQ)] H := hP
      have hD : va_D A [(hn, .inr (3, [.ref hp, .ref hh, .int (nI (r0 6)), .int (nI (hpF r0 (r0 6))), .int (nI (chF r0 (r0 6))), .int (nI (r0 0)), .int (nI (r0 1)), .int (nI (r0 2)), .int (nI (r0 3)), .int (nI (r0 4)), .int (nI (r0 5))])), aP z hp 6 (va_up (lyP pf pf0 jQ) jQ (pf jQ)), aN z hh 6 (lyF (hbA rQ) (hbA r0) jQ), (h2, .inr (3, [.ref hp2, .ref hh2, .int (nI (rQ 6)), .int (nI (hpF rQ (rQ 6))), .int (nI (chF rQ (rQ 6))), .int (nI (rQ 0)), .int (nI (rQ 1)), .int (nI (rQ 2)), .int (nI (rQ 3)), .int (nI (rQ 4)), .int (nI (rQ 5))])), aP z hp2 6 pf, aN z hh2 6 (hbA rQ)] := hD
      refine lv_aload_n hx hb dX3_become_20 rfl (lv_at hl 0 rfl) ?_
      refine va_get (D := D) (ci := 3) (v := .ref hh) (C := RX3) (T := TX3) (N := 11) hx hb hts iX3 hown hK.1 hP 0 rfl rfl 1 (by decide) (hts _ m_41) (fun _ h9 => h9) rfl dX3_become_21 ?_
      refine lv_iload_n hx hb dX3_become_24 rfl (lv_at hl 2 rfl) ?_
      refine lv_aload_n hx hb dX3_become_25 rfl (lv_at hl 1 rfl) ?_
      refine va_get (D := D) (ci := 3) (v := .ref hh2) (C := RX3) (T := TX3) (N := 11) hx hb hts iX3 hown hK.1 hP 3 rfl rfl 1 (by decide) (hts _ m_41) (fun _ h9 => h9) rfl dX3_become_26 ?_
      refine lv_iload_n hx hb dX3_become_29 rfl (lv_at hl 2 rfl) ?_
      refine nv_ald hx hb hK hP 5 rfl (by omega) (by decide) dX3_become_30 ?_
      refine nv_ast hx hb hK hP hD hS 2 rfl (by omega) (by decide) dX3_become_31 (fun H locs hP hD hS => ?_)
      have hP : va_P D vwCl [(hn, .inr (3, [.ref hp, .ref hh, .int (nI (r0 6)), .int (nI (hpF r0 (r0 6))), .int (nI (chF r0 (r0 6))), .int (nI (r0 0)), .int (nI (r0 1)), .int (nI (r0 2)), .int (nI (r0 3)), .int (nI (r0 4)), .int (nI (r0 5))])), aP z hp 6 (va_up (lyP pf pf0 jQ) jQ (pf jQ)), aN z hh 6 (uN (lyF (hbA rQ) (hbA r0) jQ) jQ ((hbA rQ) jQ)), (h2, .inr (3, [.ref hp2, .ref hh2, .int (nI (rQ 6)), .int (nI (hpF rQ (rQ 6))), .int (nI (chF rQ (rQ 6))), .int (nI (rQ 0)), .int (nI (rQ 1)), .int (nI (rQ 2)), .int (nI (rQ 3)), .int (nI (rQ 4)), .int (nI (rQ 5))])), aP z hp2 6 pf, aN z hh2 6 (hbA rQ)] H := hP
      have hD : va_D A [(hn, .inr (3, [.ref hp, .ref hh, .int (nI (r0 6)), .int (nI (hpF r0 (r0 6))), .int (nI (chF r0 (r0 6))), .int (nI (r0 0)), .int (nI (r0 1)), .int (nI (r0 2)), .int (nI (r0 3)), .int (nI (r0 4)), .int (nI (r0 5))])), aP z hp 6 (va_up (lyP pf pf0 jQ) jQ (pf jQ)), aN z hh 6 (uN (lyF (hbA rQ) (hbA r0) jQ) jQ ((hbA rQ) jQ)), (h2, .inr (3, [.ref hp2, .ref hh2, .int (nI (rQ 6)), .int (nI (hpF rQ (rQ 6))), .int (nI (chF rQ (rQ 6))), .int (nI (rQ 0)), .int (nI (rQ 1)), .int (nI (rQ 2)), .int (nI (rQ 3)), .int (nI (rQ 4)), .int (nI (rQ 5))])), aP z hp2 6 pf, aN z hh2 6 (hbA rQ)] := hD
      refine lv_iinc (v := nI (jQ + 1)) (lv' := [(2, .int (nI (jQ + 1))), (0, .ref hn), (1, .ref h2)]) hx hb dX3_become_32 hl (k := 2) rfl (nI_inc _) (by decide) rfl (fun ls hl => ?_)
      refine lv_goto (tgt := 2) hx hb dX3_become_35 (by decide) ?_
      exact ih2 (jQ + 1) _ _ _ (by omega) ⟨jQ + 1, rfl, (by omega), hP, hD, hS, lv_sub hl [1, 2, 0] rfl⟩
  · exact ⟨0, rfl, (by omega), hP, hD, hS, lv_sub hl [1, 2, 0] rfl⟩

set_option maxHeartbeats 4000000 in
set_option maxRecDepth 100000 in
theorem c_X3_add (l : Launch) (D : va_G) (z : Nat → ClassId) (sz : Nat) (hn : Nat) (hp : Nat) (hh : Nat) (pf : Nat → Option Nat) (rQ : Nat → Nat) (wa : Nat) (kq : Nat) (tqQ : Nat) (hbt : Nat) (ho9 : Nat) (hop : ∀ jQ, jQ < rQ 6 → rQ (7 + 4 * jQ + 3) ≤ 1) (h66 : rQ 6 < 6) (hkq : kq ≤ 5) (hhb : hbt ≤ 99) (hho : ho9 ≤ 1) : CM l yX3_add cX3_add 5 none 1 20 0 0 [.ref hn, .ref wa, .int (nI hbt), .int (nI ho9)] D z [(hn, .inr (3, [.ref hp, .ref hh, .int (nI (rQ 6)), .int (nI (hpF rQ (rQ 6))), .int (nI (chF rQ (rQ 6))), .int (nI (rQ 0)), .int (nI (rQ 1)), .int (nI (rQ 2)), .int (nI (rQ 3)), .int (nI (rQ 4)), .int (nI (rQ 5))])), aP z hp 6 pf, aN z hh 6 (hbA rQ)] sz (fun H => peH D [(hn, .inr (3, [.ref hp, .ref hh, .int (nI (rQ 6)), .int (nI (hpF rQ (rQ 6))), .int (nI (chF rQ (rQ 6))), .int (nI (rQ 0)), .int (nI (rQ 1)), .int (nI (rQ 2)), .int (nI (rQ 3)), .int (nI (rQ 4)), .int (nI (rQ 5))])), aP z hp 6 pf, aN z hh 6 (hbA rQ)] pf rQ H ∧ apt [(hn, .inr (3, [.ref hp, .ref hh, .int (nI (rQ 6)), .int (nI (hpF rQ (rQ 6))), .int (nI (chF rQ (rQ 6))), .int (nI (rQ 0)), .int (nI (rQ 1)), .int (nI (rQ 2)), .int (nI (rQ 3)), .int (nI (rQ 4)), .int (nI (rQ 5))])), aP z hp 6 pf, aN z hh 6 (hbA rQ)] wa ∧ psAt D H wa kq tqQ) [(hn, .inr (3, [.ref hp, .ref hh, .int (nI ((adpR rQ kq tqQ hbt ho9) 6)), .int (nI (hpF (adpR rQ kq tqQ hbt ho9) ((adpR rQ kq tqQ hbt ho9) 6))), .int (nI (chF (adpR rQ kq tqQ hbt ho9) ((adpR rQ kq tqQ hbt ho9) 6))), .int (nI ((adpR rQ kq tqQ hbt ho9) 0)), .int (nI ((adpR rQ kq tqQ hbt ho9) 1)), .int (nI ((adpR rQ kq tqQ hbt ho9) 2)), .int (nI ((adpR rQ kq tqQ hbt ho9) 3)), .int (nI ((adpR rQ kq tqQ hbt ho9) 4)), .int (nI ((adpR rQ kq tqQ hbt ho9) 5))])), aP z hp 6 (va_up pf (rQ 6) (some wa)), aN z hh 6 (hbA (adpR rQ kq tqQ hbt ho9))] none (fun H => peH D [(hn, .inr (3, [.ref hp, .ref hh, .int (nI ((adpR rQ kq tqQ hbt ho9) 6)), .int (nI (hpF (adpR rQ kq tqQ hbt ho9) ((adpR rQ kq tqQ hbt ho9) 6))), .int (nI (chF (adpR rQ kq tqQ hbt ho9) ((adpR rQ kq tqQ hbt ho9) 6))), .int (nI ((adpR rQ kq tqQ hbt ho9) 0)), .int (nI ((adpR rQ kq tqQ hbt ho9) 1)), .int (nI ((adpR rQ kq tqQ hbt ho9) 2)), .int (nI ((adpR rQ kq tqQ hbt ho9) 3)), .int (nI ((adpR rQ kq tqQ hbt ho9) 4)), .int (nI ((adpR rQ kq tqQ hbt ho9) 5))])), aP z hp 6 (va_up pf (rQ 6) (some wa)), aN z hh 6 (hbA (adpR rQ kq tqQ hbt ho9))] (va_up pf (rQ 6) (some wa)) (adpR rQ kq tqQ hbt ho9) H) := by
  refine Met.ofW (cc := cX3_add) (maxL := 5) (ret := none) (by decide) rfl ?_
  intro pg e s m args below meth c s₁ B hml hv
  obtain ⟨rfl, hsz, hP, hK, hD0, hE⟩ := hv
  have hx := B.exec
  have hb := B.bytes
  have hr := B.returns
  have hts : ∀ w ∈ ALL, w.before _ s = true := fun w h => atoms_spec (ws := wA yX3_add cX3_add 5 none) B.pre w (List.mem_cons_of_mem _ h)
  have hown : s.vm.findClass RX3 = some m.cls := findClass_of_methodNamed B.named
  have hlocks := B.notSynchronized
  subst hsz
  have hD := hD0.self (sz := s.heap.size)
  have hN : ∀ (H : Heap) (locs : List Loc), va_S (va_A [(hn, .inr (3, [.ref hp, .ref hh, .int (nI (rQ 6)), .int (nI (hpF rQ (rQ 6))), .int (nI (chF rQ (rQ 6))), .int (nI (rQ 0)), .int (nI (rQ 1)), .int (nI (rQ 2)), .int (nI (rQ 3)), .int (nI (rQ 4)), .int (nI (rQ 5))])), aP z hp 6 pf, aN z hh 6 (hbA rQ)] s.heap.size) s.heap H locs → peH D [(hn, .inr (3, [.ref hp, .ref hh, .int (nI (rQ 6)), .int (nI (hpF rQ (rQ 6))), .int (nI (chF rQ (rQ 6))), .int (nI (rQ 0)), .int (nI (rQ 1)), .int (nI (rQ 2)), .int (nI (rQ 3)), .int (nI (rQ 4)), .int (nI (rQ 5))])), aP z hp 6 pf, aN z hh 6 (hbA rQ)] pf rQ H ∧ psAt D H wa kq tqQ := fun H locs h9 => ⟨hE.1.now h9, hE.2.2.kept (h9.2.1 wa hE.2.2.lt (hE.2.1.nA hE.2.2.lt))⟩
  have hapt := hE.2.1
  have hh64 : hpF rQ (rQ 6) < 2 ^ (rQ 6) := hpF_lt hop
  have hc64 := chF_lt rQ (rQ 6)
  have h2p : 2 ^ (rQ 6) ≤ 2 ^ 5 := Nat.pow_le_pow_right (by decide) (by omega)
  have h2q : (2 : Nat) ^ 5 = 32 := by decide
  have hA : ∀ q : Nat, s.heap.size ≤ q → va_A [(hn, .inr (3, [.ref hp, .ref hh, .int (nI (rQ 6)), .int (nI (hpF rQ (rQ 6))), .int (nI (chF rQ (rQ 6))), .int (nI (rQ 0)), .int (nI (rQ 1)), .int (nI (rQ 2)), .int (nI (rQ 3)), .int (nI (rQ 4)), .int (nI (rQ 5))])), aP z hp 6 pf, aN z hh 6 (hbA rQ)] s.heap.size q := fun q h => Or.inr h
  generalize va_A [(hn, .inr (3, [.ref hp, .ref hh, .int (nI (rQ 6)), .int (nI (hpF rQ (rQ 6))), .int (nI (chF rQ (rQ 6))), .int (nI (rQ 0)), .int (nI (rQ 1)), .int (nI (rQ 2)), .int (nI (rQ 3)), .int (nI (rQ 4)), .int (nI (rQ 5))])), aP z hp 6 pf, aN z hh 6 (hbA rQ)] s.heap.size = A at *
  have hS : va_S A s.heap s.heap [] := va_S.rf
  have hl := lv_entry ([.ref hn, .ref wa, .int (nI hbt), .int (nI ho9)]) (n := 5) (Nat.le_of_ble_eq_true rfl)
  rw [lg_entry_eq]
  generalize (lg_sl ([.ref hn, .ref wa, .int (nI hbt), .int (nI ho9)]) ++ List.replicate (5 - (lg_sl ([.ref hn, .ref wa, .int (nI hbt), .int (nI ho9)])).length) Slot.unset).toArray = ls at hl ⊢
  have hl : lv_has ls 5 [(0, .ref hn), (1, .ref wa), (2, .int (nI hbt)), (3, .int (nI ho9))] := hl
  refine lv_aload_n hx hb dX3_add_0 rfl (lv_at hl 0 rfl) ?_
  refine va_get (D := D) (ci := 3) (v := .int (nI (rQ 6))) (C := RX3) (T := TX3) (N := 11) hx hb hts iX3 hown hK.1 hP 0 rfl rfl 2 (by decide) (hts _ m_42) (fun _ h9 => h9) rfl dX3_add_1 ?_
  refine lv_bipush (v := nI 6) hx hb dX3_add_4 (by decide +kernel) ?_
  refine nv_lt (tgt := 10) hx hb (by omega) (by omega) dX3_add_6 (by decide) (fun hc6 => ?_) (fun hc6 => ?_)
  · refine lv_aload_n hx hb dX3_add_10 rfl (lv_at hl 0 rfl) ?_
    refine va_get (D := D) (ci := 3) (v := .ref hp) (C := RX3) (T := TX3) (N := 11) hx hb hts iX3 hown hK.1 hP 0 rfl rfl 0 (by decide) (hts _ m_39) (fun _ h9 => h9) rfl dX3_add_11 ?_
    refine lv_aload_n hx hb dX3_add_14 rfl (lv_at hl 0 rfl) ?_
    refine va_get (D := D) (ci := 3) (v := .int (nI (rQ 6))) (C := RX3) (T := TX3) (N := 11) hx hb hts iX3 hown hK.1 hP 0 rfl rfl 2 (by decide) (hts _ m_42) (fun _ h9 => h9) rfl dX3_add_15 ?_
    refine lv_aload_n hx hb dX3_add_18 rfl (lv_at hl 1 rfl) ?_
    refine W.eq (g2 := F0 m 19 ls [va_rf (some wa), .int (nI (rQ 6)), .ref hp]) rfl ?_
    refine nv_past hx hb hK hP hD hS 1 rfl (by omega) (by decide) (fun b9 hb9 => by cases hb9; exact (hN _ _ hS).2.any hK hkq) dX3_add_19 (fun H locs hP hD hS => ?_)
    have hP : va_P D vwCl [(hn, .inr (3, [.ref hp, .ref hh, .int (nI (rQ 6)), .int (nI (hpF rQ (rQ 6))), .int (nI (chF rQ (rQ 6))), .int (nI (rQ 0)), .int (nI (rQ 1)), .int (nI (rQ 2)), .int (nI (rQ 3)), .int (nI (rQ 4)), .int (nI (rQ 5))])), aP z hp 6 (va_up pf (rQ 6) (some wa)), aN z hh 6 (hbA rQ)] H := hP
    have hD : va_D A [(hn, .inr (3, [.ref hp, .ref hh, .int (nI (rQ 6)), .int (nI (hpF rQ (rQ 6))), .int (nI (chF rQ (rQ 6))), .int (nI (rQ 0)), .int (nI (rQ 1)), .int (nI (rQ 2)), .int (nI (rQ 3)), .int (nI (rQ 4)), .int (nI (rQ 5))])), aP z hp 6 (va_up pf (rQ 6) (some wa)), aN z hh 6 (hbA rQ)] := hD
    refine lv_aload_n hx hb dX3_add_20 rfl (lv_at hl 0 rfl) ?_
    refine va_get (D := D) (ci := 3) (v := .ref hh) (C := RX3) (T := TX3) (N := 11) hx hb hts iX3 hown hK.1 hP 0 rfl rfl 1 (by decide) (hts _ m_41) (fun _ h9 => h9) rfl dX3_add_21 ?_
    refine lv_aload_n hx hb dX3_add_24 rfl (lv_at hl 0 rfl) ?_
    refine va_get (D := D) (ci := 3) (v := .int (nI (rQ 6))) (C := RX3) (T := TX3) (N := 11) hx hb hts iX3 hown hK.1 hP 0 rfl rfl 2 (by decide) (hts _ m_42) (fun _ h9 => h9) rfl dX3_add_25 ?_
    refine lv_iload_n hx hb dX3_add_28 rfl (lv_at hl 2 rfl) ?_
    refine nv_ast hx hb hK hP hD hS 2 rfl (by omega) (by decide) dX3_add_29 (fun H locs hP hD hS => ?_)
    have hP : va_P D vwCl [(hn, .inr (3, [.ref hp, .ref hh, .int (nI (rQ 6)), .int (nI (hpF rQ (rQ 6))), .int (nI (chF rQ (rQ 6))), .int (nI (rQ 0)), .int (nI (rQ 1)), .int (nI (rQ 2)), .int (nI (rQ 3)), .int (nI (rQ 4)), .int (nI (rQ 5))])), aP z hp 6 (va_up pf (rQ 6) (some wa)), aN z hh 6 (uN (hbA rQ) (rQ 6) hbt)] H := hP
    have hD : va_D A [(hn, .inr (3, [.ref hp, .ref hh, .int (nI (rQ 6)), .int (nI (hpF rQ (rQ 6))), .int (nI (chF rQ (rQ 6))), .int (nI (rQ 0)), .int (nI (rQ 1)), .int (nI (rQ 2)), .int (nI (rQ 3)), .int (nI (rQ 4)), .int (nI (rQ 5))])), aP z hp 6 (va_up pf (rQ 6) (some wa)), aN z hh 6 (uN (hbA rQ) (rQ 6) hbt)] := hD
    refine lv_iconst (v := nI 1) hx hb dX3_add_30 (by decide +kernel) ?_
    refine lv_aload_n hx hb dX3_add_31 rfl (lv_at hl 0 rfl) ?_
    refine va_get (D := D) (ci := 3) (v := .int (nI (rQ 6))) (C := RX3) (T := TX3) (N := 11) hx hb hts iX3 hown hK.1 hP 0 rfl rfl 2 (by decide) (hts _ m_42) (fun _ h9 => h9) rfl dX3_add_32 ?_
    refine nv_shl hx hb (by omega) (p2_lt (by omega)) dX3_add_35 ?_
    refine lv_istore (lv' := [(4, .int (nI (1 * 2 ^ (rQ 6)))), (0, .ref hn), (1, .ref wa), (2, .int (nI hbt)), (3, .int (nI ho9))]) hx hb dX3_add_36 hl (by decide) rfl (fun ls hl => ?_)
    refine lv_aload_n hx hb dX3_add_38 rfl (lv_at hl 1 rfl) ?_
    refine lv_iload_n hx hb dX3_add_39 rfl (lv_at hl 4 rfl) ?_
    refine nv_join (g2 := F0 m 62 ls [.int (nI (hpF rQ (rQ 6) ||| (ho9 * 2 ^ (rQ 6)))), .ref hn]) (fun J1 => ?_) ?_
    · refine nv_ifeq (tgt := 53) hx hb (by omega) dX3_add_40 (by decide) (fun hc40 => ?_) (fun hc40 => ?_)
      · refine lv_aload_n hx hb dX3_add_53 rfl (lv_at hl 1 rfl) ?_
        refine va_get (D := D) (ci := 3) (v := .int (nI (hpF rQ (rQ 6)))) (C := RX3) (T := TX3) (N := 11) hx hb hts iX3 hown hK.1 hP 0 rfl rfl 3 (by decide) (hts _ m_43) (fun _ h9 => h9) rfl dX3_add_54 ?_
        refine lv_iload hx hb dX3_add_57 (lv_at hl 0 rfl) ?_
        refine lv_iconst (v := (-1)) hx hb dX3_add_59 (by decide +kernel) ?_
        refine lv_ixor hx hb dX3_add_60 ?_
        refine lv_iand hx hb dX3_add_61 ?_
        have q9 : (nI (hpF rQ (rQ 6))) &&& ((nI (1 * 2 ^ (rQ 6))) ^^^ (-1)) = nI (hpF rQ (rQ 6) ||| (ho9 * 2 ^ (rQ 6))) := by rw [show ho9 = 0 by omega, Nat.zero_mul, Nat.or_zero]; exact nb_64 _ (by omega) _ (by omega) hh64
        exact W.eq (congrArg (fun x9 => F0 m 62 ls (.int x9 :: [.ref hn])) q9) J1
      · refine lv_aload_n hx hb dX3_add_43 rfl (lv_at hl 1 rfl) ?_
        refine va_get (D := D) (ci := 3) (v := .int (nI (hpF rQ (rQ 6)))) (C := RX3) (T := TX3) (N := 11) hx hb hts iX3 hown hK.1 hP 0 rfl rfl 3 (by decide) (hts _ m_43) (fun _ h9 => h9) rfl dX3_add_44 ?_
        refine lv_iload hx hb dX3_add_47 (lv_at hl 0 rfl) ?_
        refine nv_or hx hb dX3_add_49 ?_
        refine lv_goto (tgt := 62) hx hb dX3_add_50 (by decide) ?_
        have q9 : ((hpF rQ (rQ 6)) ||| (1 * 2 ^ (rQ 6))) = hpF rQ (rQ 6) ||| (ho9 * 2 ^ (rQ 6)) := by rw [show ho9 = 1 by omega]
        exact W.eq (congrArg (fun x9 => F0 m 62 ls (.int (nI x9) :: [.ref hn])) q9) J1
    · refine va_put (D := D) (ci := 3) (v := .int (nI (hpF rQ (rQ 6) ||| (ho9 * 2 ^ (rQ 6))))) (ty := tyX3 3) (C := RX3) (T := TX3) (N := 11) hx hb hts iX3 tyX3 tyX3_ok nmX3 hown hK.1 hP hD hS 0 rfl rfl 3 (by decide) (hts _ m_43) (fun _ h9 => h9) rfl (tyX3_ok 3 (by decide)) rfl rfl (Nat.le_of_ble_eq_true rfl) dX3_add_62 (fun H locs hP hD hS => ?_)
      have hP : va_P D vwCl [(hn, .inr (3, [.ref hp, .ref hh, .int (nI (rQ 6)), .int (nI (hpF rQ (rQ 6) ||| (ho9 * 2 ^ (rQ 6)))), .int (nI (chF rQ (rQ 6))), .int (nI (rQ 0)), .int (nI (rQ 1)), .int (nI (rQ 2)), .int (nI (rQ 3)), .int (nI (rQ 4)), .int (nI (rQ 5))])), aP z hp 6 (va_up pf (rQ 6) (some wa)), aN z hh 6 (uN (hbA rQ) (rQ 6) hbt)] H := hP
      have hD : va_D A [(hn, .inr (3, [.ref hp, .ref hh, .int (nI (rQ 6)), .int (nI (hpF rQ (rQ 6) ||| (ho9 * 2 ^ (rQ 6)))), .int (nI (chF rQ (rQ 6))), .int (nI (rQ 0)), .int (nI (rQ 1)), .int (nI (rQ 2)), .int (nI (rQ 3)), .int (nI (rQ 4)), .int (nI (rQ 5))])), aP z hp 6 (va_up pf (rQ 6) (some wa)), aN z hh 6 (uN (hbA rQ) (rQ 6) hbt)] := hD
      refine lv_aload_n hx hb dX3_add_65 rfl (lv_at hl 1 rfl) ?_
      refine lv_aload_n hx hb dX3_add_66 rfl (lv_at hl 2 rfl) ?_
      refine nv_isChild hx hb hml hl.1 hown hts hK (hN _ _ hS).2 hkq ⟨Nat.le_of_ble_eq_true rfl, Nat.le_of_ble_eq_true rfl⟩ (Nat.le_of_ble_eq_true rfl) ⟨Nat.le_of_ble_eq_true rfl, Nat.le_of_ble_eq_true rfl⟩ dX3_add_67 ?_
      refine W.eq (g2 := F0 m 70 ls [.int (nI (if kq = 5 then 1 else 0)), .ref hn]) rfl ?_
      have hkd : (if kq = 5 then 1 else 0) ≤ 1 := by split <;> omega
      refine nv_join (g2 := F0 m 92 ls [.int (nI (chF rQ (rQ 6) ||| (if kq = 5 then 1 * 2 ^ (rQ 6) else 0))), .ref hn]) (fun J2 => ?_) ?_
      · refine nv_ifeq (tgt := 83) hx hb (by omega) dX3_add_70 (by decide) (fun hc70 => ?_) (fun hc70 => ?_)
        · refine lv_aload_n hx hb dX3_add_83 rfl (lv_at hl 1 rfl) ?_
          refine va_get (D := D) (ci := 3) (v := .int (nI (chF rQ (rQ 6)))) (C := RX3) (T := TX3) (N := 11) hx hb hts iX3 hown hK.1 hP 0 rfl rfl 4 (by decide) (hts _ m_44) (fun _ h9 => h9) rfl dX3_add_84 ?_
          refine lv_iload hx hb dX3_add_87 (lv_at hl 0 rfl) ?_
          refine lv_iconst (v := (-1)) hx hb dX3_add_89 (by decide +kernel) ?_
          refine lv_ixor hx hb dX3_add_90 ?_
          refine lv_iand hx hb dX3_add_91 ?_
          have q9 : (nI (chF rQ (rQ 6))) &&& ((nI (1 * 2 ^ (rQ 6))) ^^^ (-1)) = nI (chF rQ (rQ 6) ||| (if kq = 5 then 1 * 2 ^ (rQ 6) else 0)) := by rw [if_neg (show ¬ kq = 5 from fun q9 => absurd (hc70.symm.trans (if_pos q9)) (by decide)), Nat.or_zero]; exact nb_64 _ (by omega) _ (by omega) hc64
          exact W.eq (congrArg (fun x9 => F0 m 92 ls (.int x9 :: [.ref hn])) q9) J2
        · refine lv_aload_n hx hb dX3_add_73 rfl (lv_at hl 1 rfl) ?_
          refine va_get (D := D) (ci := 3) (v := .int (nI (chF rQ (rQ 6)))) (C := RX3) (T := TX3) (N := 11) hx hb hts iX3 hown hK.1 hP 0 rfl rfl 4 (by decide) (hts _ m_44) (fun _ h9 => h9) rfl dX3_add_74 ?_
          refine lv_iload hx hb dX3_add_77 (lv_at hl 0 rfl) ?_
          refine nv_or hx hb dX3_add_79 ?_
          refine lv_goto (tgt := 92) hx hb dX3_add_80 (by decide) ?_
          have q9 : ((chF rQ (rQ 6)) ||| (1 * 2 ^ (rQ 6))) = chF rQ (rQ 6) ||| (if kq = 5 then 1 * 2 ^ (rQ 6) else 0) := by rw [if_pos (show kq = 5 from Classical.byContradiction (fun q9 => hc70 (if_neg q9)))]
          exact W.eq (congrArg (fun x9 => F0 m 92 ls (.int (nI x9) :: [.ref hn])) q9) J2
      · refine va_put (D := D) (ci := 3) (v := .int (nI (chF rQ (rQ 6) ||| (if kq = 5 then 1 * 2 ^ (rQ 6) else 0)))) (ty := tyX3 4) (C := RX3) (T := TX3) (N := 11) hx hb hts iX3 tyX3 tyX3_ok nmX3 hown hK.1 hP hD hS 0 rfl rfl 4 (by decide) (hts _ m_44) (fun _ h9 => h9) rfl (tyX3_ok 4 (by decide)) rfl rfl (Nat.le_of_ble_eq_true rfl) dX3_add_92 (fun H locs hP hD hS => ?_)
        have hP : va_P D vwCl [(hn, .inr (3, [.ref hp, .ref hh, .int (nI (rQ 6)), .int (nI (hpF rQ (rQ 6) ||| (ho9 * 2 ^ (rQ 6)))), .int (nI (chF rQ (rQ 6) ||| (if kq = 5 then 1 * 2 ^ (rQ 6) else 0))), .int (nI (rQ 0)), .int (nI (rQ 1)), .int (nI (rQ 2)), .int (nI (rQ 3)), .int (nI (rQ 4)), .int (nI (rQ 5))])), aP z hp 6 (va_up pf (rQ 6) (some wa)), aN z hh 6 (uN (hbA rQ) (rQ 6) hbt)] H := hP
        have hD : va_D A [(hn, .inr (3, [.ref hp, .ref hh, .int (nI (rQ 6)), .int (nI (hpF rQ (rQ 6) ||| (ho9 * 2 ^ (rQ 6)))), .int (nI (chF rQ (rQ 6) ||| (if kq = 5 then 1 * 2 ^ (rQ 6) else 0))), .int (nI (rQ 0)), .int (nI (rQ 1)), .int (nI (rQ 2)), .int (nI (rQ 3)), .int (nI (rQ 4)), .int (nI (rQ 5))])), aP z hp 6 (va_up pf (rQ 6) (some wa)), aN z hh 6 (uN (hbA rQ) (rQ 6) hbt)] := hD
        refine lv_aload_n hx hb dX3_add_95 rfl (lv_at hl 1 rfl) ?_
        refine lv_dup hx hb dX3_add_96 rfl ?_
        refine va_get (D := D) (ci := 3) (v := .int (nI (rQ 6))) (C := RX3) (T := TX3) (N := 11) hx hb hts iX3 hown hK.1 hP 0 rfl rfl 2 (by decide) (hts _ m_42) (fun _ h9 => h9) rfl dX3_add_97 ?_
        refine lv_iconst (v := nI 1) hx hb dX3_add_100 (by decide +kernel) ?_
        refine nv_add hx hb dX3_add_101 ?_
        refine va_put (D := D) (ci := 3) (v := .int (nI (rQ 6 + 1))) (ty := tyX3 2) (C := RX3) (T := TX3) (N := 11) hx hb hts iX3 tyX3 tyX3_ok nmX3 hown hK.1 hP hD hS 0 rfl rfl 2 (by decide) (hts _ m_42) (fun _ h9 => h9) rfl (tyX3_ok 2 (by decide)) rfl rfl (Nat.le_of_ble_eq_true rfl) dX3_add_102 (fun H locs hP hD hS => ?_)
        have hP : va_P D vwCl [(hn, .inr (3, [.ref hp, .ref hh, .int (nI (rQ 6 + 1)), .int (nI (hpF rQ (rQ 6) ||| (ho9 * 2 ^ (rQ 6)))), .int (nI (chF rQ (rQ 6) ||| (if kq = 5 then 1 * 2 ^ (rQ 6) else 0))), .int (nI (rQ 0)), .int (nI (rQ 1)), .int (nI (rQ 2)), .int (nI (rQ 3)), .int (nI (rQ 4)), .int (nI (rQ 5))])), aP z hp 6 (va_up pf (rQ 6) (some wa)), aN z hh 6 (uN (hbA rQ) (rQ 6) hbt)] H := hP
        have hD : va_D A [(hn, .inr (3, [.ref hp, .ref hh, .int (nI (rQ 6 + 1)), .int (nI (hpF rQ (rQ 6) ||| (ho9 * 2 ^ (rQ 6)))), .int (nI (chF rQ (rQ 6) ||| (if kq = 5 then 1 * 2 ^ (rQ 6) else 0))), .int (nI (rQ 0)), .int (nI (rQ 1)), .int (nI (rQ 2)), .int (nI (rQ 3)), .int (nI (rQ 4)), .int (nI (rQ 5))])), aP z hp 6 (va_up pf (rQ 6) (some wa)), aN z hh 6 (uN (hbA rQ) (rQ 6) hbt)] := hD
        exact nv_mv hx hb hr hlocks hS dX3_add_105 (by rw [adpR_6, hp_add, ch_add, adp_lo (i := 0) (by omega) (by decide), adp_lo (i := 1) (by omega) (by decide), adp_lo (i := 2) (by omega) (by decide), adp_lo (i := 3) (by omega) (by decide), adp_lo (i := 4) (by omega) (by decide), adp_lo (i := 5) (by omega) (by decide), hbA_add]; exact hP) ((((hN _ _ hS).1.add h66 hkq hapt (hN _ _ hS).2)).to [0, 1, 2] rfl)
  · (exfalso; omega)
