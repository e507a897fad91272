set_option maxHeartbeats 4000000 in
set_option maxRecDepth 100000 in
theorem c_X11_in (l : Launch) (D : va_G) (z : Nat → ClassId) (xv : Int64) (loQ : Int64) (hiQ : Int64)  : CP l yX11_in cX11_in 6 (some .boolean) 0 0 [.long xv, .long loQ, .long hiQ] D z [] (fun _ => True) (some (.int (bI (loQ ≤ xv ∧ xv ≤ hiQ)))) := by
  refine Met.ofW (cc := cX11_in) (maxL := 6) (ret := (some .boolean)) (by decide) rfl ?_
  intro pg e s m args below meth c s₁ B hml hv
  obtain ⟨rfl, hP, hK, hE⟩ := hv
  have hx := B.exec
  have hb := B.bytes
  have hr := B.returns
  have hts : ∀ w ∈ ALL, w.before _ s = true := fun w h => atoms_spec (ws := wA yX11_in cX11_in 6 (some .boolean)) B.pre w (List.mem_cons_of_mem _ h)
  have hown : s.vm.findClass RX11 = some m.cls := findClass_of_methodNamed B.named
  have hlocks := B.notSynchronized
  have hl := lv_entry ([.long xv, .long loQ, .long hiQ]) (n := 6) (Nat.le_of_ble_eq_true rfl)
  rw [lg_entry_eq]
  generalize (lg_sl ([.long xv, .long loQ, .long hiQ]) ++ List.replicate (6 - (lg_sl ([.long xv, .long loQ, .long hiQ])).length) Slot.unset).toArray = ls at hl ⊢
  have hl : lv_has ls 6 [(0, .long xv), (2, .long loQ), (4, .long hiQ)] := hl
  refine lv_lload_n hx hb dX11_in_0 rfl (lv_at hl 0 rfl) ?_
  refine lv_lload_n hx hb dX11_in_1 rfl (lv_at hl 1 rfl) ?_
  refine W.lcmp hx hb dX11_in_2 ?_
  refine lv_if_lt (tgt := 17) hx hb dX11_in_3 (by decide) (fun hc3 => ?_) (fun hc3 => ?_)
  · refine lv_iconst (v := nI 0) hx hb dX11_in_17 (by decide +kernel) ?_
    exact nv_rz hx hb hr hlocks dX11_in_18 (by first | exact (bI_t ⟨(lg_cmp_ge _ _).mp (Int32.not_lt.mp hc3), Int64.not_lt.mp (fun q => hc10 ((lg_cmp_gt _ _).mpr q))⟩).symm | exact (bI_f (fun q => hc10 |> (lg_cmp_gt _ _).mp |> Int64.not_lt.mpr q.2)).symm | exact (bI_f (fun q => Int32.not_lt.mpr ((lg_cmp_ge _ _).mpr q.1) hc3)).symm) bI_nar
  · refine lv_lload_n hx hb dX11_in_6 rfl (lv_at hl 0 rfl) ?_
    refine lv_lload hx hb dX11_in_7 (lv_at hl 2 rfl) ?_
    refine W.lcmp hx hb dX11_in_9 ?_
    refine lv_if_gt (tgt := 17) hx hb dX11_in_10 (by decide) (fun hc10 => ?_) (fun hc10 => ?_)
    · refine lv_iconst (v := nI 0) hx hb dX11_in_17 (by decide +kernel) ?_
      exact nv_rz hx hb hr hlocks dX11_in_18 (by first | exact (bI_t ⟨(lg_cmp_ge _ _).mp (Int32.not_lt.mp hc3), Int64.not_lt.mp (fun q => hc10 ((lg_cmp_gt _ _).mpr q))⟩).symm | exact (bI_f (fun q => hc10 |> (lg_cmp_gt _ _).mp |> Int64.not_lt.mpr q.2)).symm | exact (bI_f (fun q => Int32.not_lt.mpr ((lg_cmp_ge _ _).mpr q.1) hc3)).symm) bI_nar
    · refine lv_iconst (v := nI 1) hx hb dX11_in_13 (by decide +kernel) ?_
      refine lv_goto (tgt := 18) hx hb dX11_in_14 (by decide) ?_
      exact nv_rz hx hb hr hlocks dX11_in_18 (by first | exact (bI_t ⟨(lg_cmp_ge _ _).mp (Int32.not_lt.mp hc3), Int64.not_lt.mp (fun q => hc10 ((lg_cmp_gt _ _).mpr q))⟩).symm | exact (bI_f (fun q => hc10 |> (lg_cmp_gt _ _).mp |> Int64.not_lt.mpr q.2)).symm | exact (bI_f (fun q => Int32.not_lt.mpr ((lg_cmp_ge _ _).mpr q.1) hc3)).symm) bI_nar

set_option maxHeartbeats 4000000 in
set_option maxRecDepth 100000 in
theorem c_X11_its (l : Launch) (D : va_G) (z : Nat → ClassId) (aQ : Nat) (rQ : Nat → Nat) (pn : Nat) (wnQ : Nat) (h1 : 7 + 4 * pn + wnQ < 31) : CP l yX11_its cX11_its 3 (some .int) 0 0 [.ref aQ, .int (nI pn), .int (nI wnQ)] D z [aN z aQ 31 rQ] (fun _ => True) (some (.int (nI (rQ (7 + 4 * pn + wnQ))))) := by
  refine Met.ofW (cc := cX11_its) (maxL := 3) (ret := (some .int)) (by decide) rfl ?_
  intro pg e s m args below meth c s₁ B hml hv
  obtain ⟨rfl, hP, hK, hE⟩ := hv
  have hx := B.exec
  have hb := B.bytes
  have hr := B.returns
  have hts : ∀ w ∈ ALL, w.before _ s = true := fun w h => atoms_spec (ws := wA yX11_its cX11_its 3 (some .int)) B.pre w (List.mem_cons_of_mem _ h)
  have hown : s.vm.findClass RX11 = some m.cls := findClass_of_methodNamed B.named
  have hlocks := B.notSynchronized
  have hl := lv_entry ([.ref aQ, .int (nI pn), .int (nI wnQ)]) (n := 3) (Nat.le_of_ble_eq_true rfl)
  rw [lg_entry_eq]
  generalize (lg_sl ([.ref aQ, .int (nI pn), .int (nI wnQ)]) ++ List.replicate (3 - (lg_sl ([.ref aQ, .int (nI pn), .int (nI wnQ)])).length) Slot.unset).toArray = ls at hl ⊢
  have hl : lv_has ls 3 [(0, .ref aQ), (1, .int (nI pn)), (2, .int (nI wnQ))] := hl
  refine lv_aload_n hx hb dX11_its_0 rfl (lv_at hl 0 rfl) ?_
  refine lv_bipush (v := nI 7) hx hb dX11_its_1 (by decide +kernel) ?_
  refine lv_iconst (v := nI 4) hx hb dX11_its_3 (by decide +kernel) ?_
  refine lv_iload_n hx hb dX11_its_4 rfl (lv_at hl 1 rfl) ?_
  refine nv_mul hx hb dX11_its_5 ?_
  refine nv_add hx hb dX11_its_6 ?_
  refine lv_iload_n hx hb dX11_its_7 rfl (lv_at hl 2 rfl) ?_
  refine nv_add hx hb dX11_its_8 ?_
  refine nv_ald hx hb hK hP 0 rfl (by omega) (by decide) dX11_its_9 ?_
  exact nv_ri hx hb hr hlocks dX11_its_10 rfl

set_option maxHeartbeats 4000000 in
set_option maxRecDepth 100000 in
theorem c_X11_hoping (l : Launch) (D : va_G) (z : Nat → ClassId) (w0Q : Nat) (aQ : Nat) (rQ : Nat → Nat) (hok : rOK w0Q rQ) : CP l yX11_hoping cX11_hoping 3 (some .int) 1 22 [.ref aQ] D z [aN z aQ 31 rQ] (fun _ => True) (some (.int (nI (hoF rQ (rQ 6))))) := by
  refine Met.ofW (cc := cX11_hoping) (maxL := 3) (ret := (some .int)) (by decide) rfl ?_
  intro pg e s m args below meth c s₁ B hml hv
  obtain ⟨rfl, hP, hK, hE⟩ := hv
  have hx := B.exec
  have hb := B.bytes
  have hr := B.returns
  have hts : ∀ w ∈ ALL, w.before _ s = true := fun w h => atoms_spec (ws := wA yX11_hoping cX11_hoping 3 (some .int)) B.pre w (List.mem_cons_of_mem _ h)
  have hown : s.vm.findClass RX11 = some m.cls := findClass_of_methodNamed B.named
  have hlocks := B.notSynchronized
  obtain ⟨o0, o1, o1b, o2, o2b, o3, o4, o5, o6, oP⟩ := id hok
  have hl := lv_entry ([.ref aQ]) (n := 3) (Nat.le_of_ble_eq_true rfl)
  rw [lg_entry_eq]
  generalize (lg_sl ([.ref aQ]) ++ List.replicate (3 - (lg_sl ([.ref aQ])).length) Slot.unset).toArray = ls at hl ⊢
  have hl : lv_has ls 3 [(0, .ref aQ)] := hl
  refine lv_iconst (v := nI 0) hx hb dX11_hoping_0 (by decide +kernel) ?_
  refine lv_istore_n (lv' := [(1, .int (nI 0)), (0, .ref aQ)]) hx hb dX11_hoping_1 rfl hl (by decide) rfl (fun ls hl => ?_)
  refine lv_iconst (v := nI 0) hx hb dX11_hoping_2 (by decide +kernel) ?_
  refine lv_istore_n (lv' := [(2, .int (nI 0)), (1, .int (nI 0)), (0, .ref aQ)]) hx hb dX11_hoping_3 rfl hl (by decide) rfl (fun ls hl => ?_)
  refine nv_loopP (σ := Nat) (fun x ls => ∃ (jQ : Nat), jQ = x ∧ ((jQ ≤ rQ 6)) ∧ lv_has ls 3 [(0, .ref aQ), (1, .int (nI (hoF rQ jQ))), (2, .int (nI jQ))]) (fun x => rQ 6 - x) 4 [] ?_ 0 ?_
  · rintro _ ls ⟨jQ, rfl, hj, hl⟩ ih4
    refine lv_iload_n hx hb dX11_hoping_4 rfl (lv_at hl 2 rfl) ?_
    refine lv_aload_n hx hb dX11_hoping_5 rfl (lv_at hl 0 rfl) ?_
    refine lv_bipush (v := nI 6) hx hb dX11_hoping_6 (by decide +kernel) ?_
    refine nv_ald hx hb hK hP 0 rfl (by omega) (by decide) dX11_hoping_8 ?_
    refine nv_ge (tgt := 48) hx hb (by omega) (by omega) dX11_hoping_9 (by decide) (fun hc9 => ?_) (fun hc9 => ?_)
    · refine lv_iload_n hx hb dX11_hoping_48 rfl (lv_at hl 1 rfl) ?_
      exact nv_ri hx hb hr hlocks dX11_hoping_49 (by rw [show jQ = rQ 6 by omega])
    · have oQ := oP jQ (by omega)
      refine lv_iload_n hx hb dX11_hoping_12 rfl (lv_at hl 1 rfl) ?_
      refine lv_aload_n hx hb dX11_hoping_13 rfl (lv_at hl 0 rfl) ?_
      refine lv_iload_n hx hb dX11_hoping_14 rfl (lv_at hl 2 rfl) ?_
      refine lv_iconst (v := nI 0) hx hb dX11_hoping_15 (by decide +kernel) ?_
      have hPc := hP.sub (ws' := [aN z aQ 31 rQ]) [0] rfl
      refine nv_cp1 (va_runS (As := [.ref aQ, .int (nI jQ), .int (nI 0)]) (rest := [.int (nI (hoF rQ jQ))]) ⟨hx, hb, hml, hown, hts⟩ (c_X11_its l D z aQ rQ jQ 0 (by first | assumption | omega)) (va_cwS 3 hts (gS m_544 m_545 m_541 m_542) rfl rfl rfl hd_X11_its ⟨Nat.le_of_ble_eq_true rfl, Nat.le_of_ble_eq_true rfl⟩) (nv_preP hK hPc trivial _) rfl rfl hl.1 rfl (lv_room (Nat.le_of_ble_eq_true rfl)) dX11_hoping_16 ⟨Nat.le_refl _, Nat.le_refl _⟩) ?_
      refine lv_iconst (v := nI 5) hx hb dX11_hoping_19 (by decide +kernel) ?_
      refine nv_join (g2 := F0 m 40 ls [.int (nI (if rQ (7 + 4 * jQ + 0) = 5 ∧ rQ (7 + 4 * jQ + 3) = 1 then 1 * 2 ^ jQ else 0)), .int (nI (hoF rQ jQ))]) (fun J1 => ?_) ?_
      · refine nv_ne (tgt := 39) hx hb (by omega) (by omega) dX11_hoping_20 (by decide) (fun hc20 => ?_) (fun hc20 => ?_)
        · refine lv_iconst (v := nI 0) hx hb dX11_hoping_39 (by decide +kernel) ?_
          have q9 : 0 = if rQ (7 + 4 * jQ + 0) = 5 ∧ rQ (7 + 4 * jQ + 3) = 1 then 1 * 2 ^ jQ else 0 := by split <;> first | rfl | omega
          exact W.eq (congrArg (fun x9 => F0 m 40 ls (.int (nI x9) :: [.int (nI (hoF rQ jQ))])) q9) J1
        · refine lv_aload_n hx hb dX11_hoping_23 rfl (lv_at hl 0 rfl) ?_
          refine lv_iload_n hx hb dX11_hoping_24 rfl (lv_at hl 2 rfl) ?_
          refine lv_iconst (v := nI 3) hx hb dX11_hoping_25 (by decide +kernel) ?_
          have hPc := hP.sub (ws' := [aN z aQ 31 rQ]) [0] rfl
          refine nv_cp1 (va_runS (As := [.ref aQ, .int (nI jQ), .int (nI 3)]) (rest := [.int (nI (hoF rQ jQ))]) ⟨hx, hb, hml, hown, hts⟩ (c_X11_its l D z aQ rQ jQ 3 (by first | assumption | omega)) (va_cwS 3 hts (gS m_544 m_545 m_541 m_542) rfl rfl rfl hd_X11_its ⟨Nat.le_of_ble_eq_true rfl, Nat.le_of_ble_eq_true rfl⟩) (nv_preP hK hPc trivial _) rfl rfl hl.1 rfl (lv_room (Nat.le_of_ble_eq_true rfl)) dX11_hoping_26 ⟨Nat.le_refl _, Nat.le_refl _⟩) ?_
          refine lv_iconst (v := nI 1) hx hb dX11_hoping_29 (by decide +kernel) ?_
          refine nv_ne (tgt := 39) hx hb (by omega) (by omega) dX11_hoping_30 (by decide) (fun hc30 => ?_) (fun hc30 => ?_)
          · refine lv_iconst (v := nI 0) hx hb dX11_hoping_39 (by decide +kernel) ?_
            have q9 : 0 = if rQ (7 + 4 * jQ + 0) = 5 ∧ rQ (7 + 4 * jQ + 3) = 1 then 1 * 2 ^ jQ else 0 := by split <;> first | rfl | omega
            exact W.eq (congrArg (fun x9 => F0 m 40 ls (.int (nI x9) :: [.int (nI (hoF rQ jQ))])) q9) J1
          · refine lv_iconst (v := nI 1) hx hb dX11_hoping_33 (by decide +kernel) ?_
            refine lv_iload_n hx hb dX11_hoping_34 rfl (lv_at hl 2 rfl) ?_
            refine nv_shl hx hb (by omega) (p2_lt (by omega)) dX11_hoping_35 ?_
            refine lv_goto (tgt := 40) hx hb dX11_hoping_36 (by decide) ?_
            have q9 : (1 * 2 ^ jQ) = if rQ (7 + 4 * jQ + 0) = 5 ∧ rQ (7 + 4 * jQ + 3) = 1 then 1 * 2 ^ jQ else 0 := by split <;> first | rfl | omega
            exact W.eq (congrArg (fun x9 => F0 m 40 ls (.int (nI x9) :: [.int (nI (hoF rQ jQ))])) q9) J1
      · refine nv_or hx hb dX11_hoping_40 ?_
        refine lv_istore_n (lv' := [(1, .int (nI ((hoF rQ jQ) ||| (if rQ (7 + 4 * jQ + 0) = 5 ∧ rQ (7 + 4 * jQ + 3) = 1 then 1 * 2 ^ jQ else 0)))), (0, .ref aQ), (2, .int (nI jQ))]) hx hb dX11_hoping_41 rfl hl (by decide) rfl (fun ls hl => ?_)
        refine lv_iinc (v := nI (jQ + 1)) (lv' := [(2, .int (nI (jQ + 1))), (1, .int (nI ((hoF rQ jQ) ||| (if rQ (7 + 4 * jQ + 0) = 5 ∧ rQ (7 + 4 * jQ + 3) = 1 then 1 * 2 ^ jQ else 0)))), (0, .ref aQ)]) hx hb dX11_hoping_42 hl (k := 2) rfl (nI_inc _) (by decide) rfl (fun ls hl => ?_)
        refine lv_goto (tgt := 4) hx hb dX11_hoping_45 (by decide) ?_
        exact ih4 (jQ + 1) _ (by omega) ⟨jQ + 1, rfl, (by omega), lv_sub hl [2, 1, 0] rfl⟩
  · exact ⟨0, rfl, (by omega), lv_sub hl [2, 1, 0] rfl⟩

set_option maxHeartbeats 4000000 in
set_option maxRecDepth 100000 in
theorem c_X11_bits (l : Launch) (D : va_G) (z : Nat → ClassId) (sn : Nat) (hs : sn < 64) : CP l yX11_bits cX11_bits 3 (some .int) 0 0 [.int (nI sn)] D z [] (fun _ => True) (some (.int (nI (biF sn 6)))) := by
  refine Met.ofW (cc := cX11_bits) (maxL := 3) (ret := (some .int)) (by decide) rfl ?_
  intro pg e s m args below meth c s₁ B hml hv
  obtain ⟨rfl, hP, hK, hE⟩ := hv
  have hx := B.exec
  have hb := B.bytes
  have hr := B.returns
  have hts : ∀ w ∈ ALL, w.before _ s = true := fun w h => atoms_spec (ws := wA yX11_bits cX11_bits 3 (some .int)) B.pre w (List.mem_cons_of_mem _ h)
  have hown : s.vm.findClass RX11 = some m.cls := findClass_of_methodNamed B.named
  have hlocks := B.notSynchronized
  have hl := lv_entry ([.int (nI sn)]) (n := 3) (Nat.le_of_ble_eq_true rfl)
  rw [lg_entry_eq]
  generalize (lg_sl ([.int (nI sn)]) ++ List.replicate (3 - (lg_sl ([.int (nI sn)])).length) Slot.unset).toArray = ls at hl ⊢
  have hl : lv_has ls 3 [(0, .int (nI sn))] := hl
  refine lv_iconst (v := nI 0) hx hb dX11_bits_0 (by decide +kernel) ?_
  refine lv_istore_n (lv' := [(1, .int (nI 0)), (0, .int (nI sn))]) hx hb dX11_bits_1 rfl hl (by decide) rfl (fun ls hl => ?_)
  refine lv_iconst (v := nI 0) hx hb dX11_bits_2 (by decide +kernel) ?_
  refine lv_istore_n (lv' := [(2, .int (nI 0)), (1, .int (nI 0)), (0, .int (nI sn))]) hx hb dX11_bits_3 rfl hl (by decide) rfl (fun ls hl => ?_)
  refine nv_loopP (σ := Nat) (fun x ls => ∃ (jQ : Nat), jQ = x ∧ ((jQ ≤ 6)) ∧ lv_has ls 3 [(0, .int (nI sn)), (1, .int (nI (biF sn jQ))), (2, .int (nI jQ))]) (fun x => 6 - x) 4 [] ?_ 0 ?_
  · rintro _ ls ⟨jQ, rfl, hj, hl⟩ ih4
    refine lv_iload_n hx hb dX11_bits_4 rfl (lv_at hl 2 rfl) ?_
    refine lv_bipush (v := nI 6) hx hb dX11_bits_5 (by decide +kernel) ?_
    refine nv_ge (tgt := 24) hx hb (by omega) (by omega) dX11_bits_7 (by decide) (fun hc7 => ?_) (fun hc7 => ?_)
    · refine lv_iload_n hx hb dX11_bits_24 rfl (lv_at hl 1 rfl) ?_
      exact nv_ri hx hb hr hlocks dX11_bits_25 (by rw [show jQ = 6 by omega])
    · refine lv_iload_n hx hb dX11_bits_10 rfl (lv_at hl 1 rfl) ?_
      refine lv_iload_n hx hb dX11_bits_11 rfl (lv_at hl 0 rfl) ?_
      refine lv_iload_n hx hb dX11_bits_12 rfl (lv_at hl 2 rfl) ?_
      refine nv_shr hx hb (by omega) (by omega) dX11_bits_13 ?_
      refine lv_iconst (v := nI 1) hx hb dX11_bits_14 (by decide +kernel) ?_
      refine nv_and hx hb dX11_bits_15 ?_
      refine nv_add hx hb dX11_bits_16 ?_
      refine lv_istore_n (lv' := [(1, .int (nI (biF sn jQ + ((sn / 2 ^ jQ) &&& 1)))), (0, .int (nI sn)), (2, .int (nI jQ))]) hx hb dX11_bits_17 rfl hl (by decide) rfl (fun ls hl => ?_)
      refine lv_iinc (v := nI (jQ + 1)) (lv' := [(2, .int (nI (jQ + 1))), (1, .int (nI (biF sn jQ + ((sn / 2 ^ jQ) &&& 1)))), (0, .int (nI sn))]) hx hb dX11_bits_18 hl (k := 2) rfl (nI_inc _) (by decide) rfl (fun ls hl => ?_)
      refine lv_goto (tgt := 4) hx hb dX11_bits_21 (by decide) ?_
      exact ih4 (jQ + 1) _ (by omega) ⟨jQ + 1, rfl, (by omega), lv_sub hl [2, 1, 0] rfl⟩
  · exact ⟨0, rfl, (by omega), lv_sub hl [2, 1, 0] rfl⟩

set_option maxHeartbeats 4000000 in
set_option maxRecDepth 100000 in
theorem c_X11_mishapsOf (l : Launch) (D : va_G) (z : Nat → ClassId) (w0Q : Nat) (aQ : Nat) (rQ : Nat → Nat) (mo : Int32) (mm : Nat) (hok : rOK w0Q rQ) (hm : nI (rQ 3) + mo = nI mm) : CP l yX11_mishapsOf cX11_mishapsOf 2 (some .int) 2 44 [.ref aQ, .int mo] D z [aN z aQ 31 rQ] (fun _ => True) (some (.int (nI (mm + hbF rQ)))) := by
  refine Met.ofW (cc := cX11_mishapsOf) (maxL := 2) (ret := (some .int)) (by decide) rfl ?_
  intro pg e s m args below meth c s₁ B hml hv
  obtain ⟨rfl, hP, hK, hE⟩ := hv
  have hx := B.exec
  have hb := B.bytes
  have hr := B.returns
  have hts : ∀ w ∈ ALL, w.before _ s = true := fun w h => atoms_spec (ws := wA yX11_mishapsOf cX11_mishapsOf 2 (some .int)) B.pre w (List.mem_cons_of_mem _ h)
  have hown : s.vm.findClass RX11 = some m.cls := findClass_of_methodNamed B.named
  have hlocks := B.notSynchronized
  obtain ⟨o0, o1, o1b, o2, o2b, o3, o4, o5, o6, oP⟩ := id hok
  have hl := lv_entry ([.ref aQ, .int mo]) (n := 2) (Nat.le_of_ble_eq_true rfl)
  rw [lg_entry_eq]
  generalize (lg_sl ([.ref aQ, .int mo]) ++ List.replicate (2 - (lg_sl ([.ref aQ, .int mo])).length) Slot.unset).toArray = ls at hl ⊢
  have hl : lv_has ls 2 [(0, .ref aQ), (1, .int mo)] := hl
  refine lv_aload_n hx hb dX11_mishapsOf_0 rfl (lv_at hl 0 rfl) ?_
  refine lv_iconst (v := nI 3) hx hb dX11_mishapsOf_1 (by decide +kernel) ?_
  refine nv_ald hx hb hK hP 0 rfl (by omega) (by decide) dX11_mishapsOf_2 ?_
  refine lv_iload_n hx hb dX11_mishapsOf_3 rfl (lv_at hl 1 rfl) ?_
  refine lv_iadd hx hb dX11_mishapsOf_4 ?_
  rw [hm]
  refine lv_aload_n hx hb dX11_mishapsOf_5 rfl (lv_at hl 0 rfl) ?_
  refine lv_iconst (v := nI 0) hx hb dX11_mishapsOf_6 (by decide +kernel) ?_
  refine nv_ald hx hb hK hP 0 rfl (by omega) (by decide) dX11_mishapsOf_7 ?_
  refine lv_aload_n hx hb dX11_mishapsOf_8 rfl (lv_at hl 0 rfl) ?_
  refine lv_iconst (v := nI 1) hx hb dX11_mishapsOf_9 (by decide +kernel) ?_
  refine nv_ald hx hb hK hP 0 rfl (by omega) (by decide) dX11_mishapsOf_10 ?_
  refine nv_join (g2 := F0 m 25 ls [.int (nI (hbF rQ)), .int (nI mm)]) (fun J1 => ?_) ?_
  · refine nv_ge (tgt := 24) hx hb (by omega) (by omega) dX11_mishapsOf_11 (by decide) (fun hc11 => ?_) (fun hc11 => ?_)
    · refine lv_iconst (v := nI 0) hx hb dX11_mishapsOf_24 (by decide +kernel) ?_
      have q9 : 0 = hbF rQ := by unfold hbF; split <;> first | rfl | omega
      exact W.eq (congrArg (fun x9 => F0 m 25 ls (.int (nI x9) :: [.int (nI mm)])) q9) J1
    · refine lv_aload_n hx hb dX11_mishapsOf_14 rfl (lv_at hl 0 rfl) ?_
      have hPc := hP.sub (ws' := [aN z aQ 31 rQ]) [0] rfl
      refine nv_cp1 (va_runS (As := [.ref aQ]) (rest := [.int (nI mm)]) ⟨hx, hb, hml, hown, hts⟩ (c_X11_hoping l D z w0Q aQ rQ (by first | assumption | omega)) (va_cwS 1 hts (gS m_548 m_549 m_541 m_543) rfl rfl rfl hd_X11_hoping ⟨Nat.le_of_ble_eq_true rfl, Nat.le_of_ble_eq_true rfl⟩) (nv_preP hK hPc trivial _) rfl rfl hl.1 rfl (lv_room (Nat.le_of_ble_eq_true rfl)) dX11_mishapsOf_15 ⟨Nat.le_refl _, Nat.le_refl _⟩) ?_
      have hPc := hP.sub (ws' := []) [] rfl
      refine nv_cp1 (va_runS (As := [.int (nI (hoF rQ (rQ 6)))]) (rest := [.int (nI mm)]) ⟨hx, hb, hml, hown, hts⟩ (c_X11_bits l D z (hoF rQ (rQ 6)) (hoF_64 o6)) (va_cwS 1 hts (gS m_550 m_551 m_541 m_546) rfl rfl rfl hd_X11_bits ⟨Nat.le_of_ble_eq_true rfl, Nat.le_of_ble_eq_true rfl⟩) (nv_preP hK hPc trivial _) rfl rfl hl.1 rfl (lv_room (Nat.le_of_ble_eq_true rfl)) dX11_mishapsOf_18 ⟨Nat.le_refl _, Nat.le_refl _⟩) ?_
      refine lv_goto (tgt := 25) hx hb dX11_mishapsOf_21 (by decide) ?_
      have q9 : (biF (hoF rQ (rQ 6)) 6) = hbF rQ := by unfold hbF; split <;> first | rfl | omega
      exact W.eq (congrArg (fun x9 => F0 m 25 ls (.int (nI x9) :: [.int (nI mm)])) q9) J1
  · refine nv_add hx hb dX11_mishapsOf_25 ?_
    exact nv_ri hx hb hr hlocks dX11_mishapsOf_26 rfl

set_option maxHeartbeats 4000000 in
set_option maxRecDepth 100000 in
theorem c_X11_wordsOf (l : Launch) (D : va_G) (z : Nat → ClassId) (w0Q : Nat) (aQ : Nat) (rQ : Nat → Nat) (pn : Nat) (mnQ : Nat) (hok : rOK w0Q rQ) (hp : pn < rQ 6) (hm : mnQ ≤ 20) (hw : w0Q ≤ 20000) : CP l yX11_wordsOf cX11_wordsOf 4 (some .int) 1 22 [.ref aQ, .int (nI pn), .int (nI mnQ)] D z [aN z aQ 31 rQ] (fun _ => True) (some (.int (nI (woF rQ pn mnQ)))) := by
  refine Met.ofW (cc := cX11_wordsOf) (maxL := 4) (ret := (some .int)) (by decide) rfl ?_
  intro pg e s m args below meth c s₁ B hml hv
  obtain ⟨rfl, hP, hK, hE⟩ := hv
  have hx := B.exec
  have hb := B.bytes
  have hr := B.returns
  have hts : ∀ w ∈ ALL, w.before _ s = true := fun w h => atoms_spec (ws := wA yX11_wordsOf cX11_wordsOf 4 (some .int)) B.pre w (List.mem_cons_of_mem _ h)
  have hown : s.vm.findClass RX11 = some m.cls := findClass_of_methodNamed B.named
  have hlocks := B.notSynchronized
  obtain ⟨o0, o1, o1b, o2, o2b, o3, o4, o5, o6, oP⟩ := id hok
  have oQ := oP pn hp
  have hq1 : mnQ * rQ (7 + 4 * pn + 1) ≤ 20 * 9 := Nat.mul_le_mul hm oQ.2.2.1
  have hq2 : mnQ * rQ (7 + 4 * pn + 1) * rQ (7 + 4 * pn + 2) ≤ 20 * 9 * 99 := Nat.mul_le_mul hq1 oQ.2.2.2.1
  have hq3 : mnQ * rQ (7 + 4 * pn + 1) * rQ (7 + 4 * pn + 2) / (rQ 2 + 20) ≤ mnQ * rQ (7 + 4 * pn + 1) * rQ (7 + 4 * pn + 2) := Nat.div_le_self _ _
  have hq4 := plK_le mnQ (rQ (7 + 4 * pn + 1)) (rQ (7 + 4 * pn + 2)) (rQ 2)
  have hl := lv_entry ([.ref aQ, .int (nI pn), .int (nI mnQ)]) (n := 4) (Nat.le_of_ble_eq_true rfl)
  rw [lg_entry_eq]
  generalize (lg_sl ([.ref aQ, .int (nI pn), .int (nI mnQ)]) ++ List.replicate (4 - (lg_sl ([.ref aQ, .int (nI pn), .int (nI mnQ)])).length) Slot.unset).toArray = ls at hl ⊢
  have hl : lv_has ls 4 [(0, .ref aQ), (1, .int (nI pn)), (2, .int (nI mnQ))] := hl
  refine lv_iload_n hx hb dX11_wordsOf_0 rfl (lv_at hl 2 rfl) ?_
  refine lv_aload_n hx hb dX11_wordsOf_1 rfl (lv_at hl 0 rfl) ?_
  refine lv_iload_n hx hb dX11_wordsOf_2 rfl (lv_at hl 1 rfl) ?_
  refine lv_iconst (v := nI 1) hx hb dX11_wordsOf_3 (by decide +kernel) ?_
  have hPc := hP.sub (ws' := [aN z aQ 31 rQ]) [0] rfl
  refine nv_cp1 (va_runS (As := [.ref aQ, .int (nI pn), .int (nI 1)]) (rest := [.int (nI mnQ)]) ⟨hx, hb, hml, hown, hts⟩ (c_X11_its l D z aQ rQ pn 1 (by first | assumption | omega)) (va_cwS 3 hts (gS m_544 m_545 m_541 m_542) rfl rfl rfl hd_X11_its ⟨Nat.le_of_ble_eq_true rfl, Nat.le_of_ble_eq_true rfl⟩) (nv_preP hK hPc trivial _) rfl rfl hl.1 rfl (lv_room (Nat.le_of_ble_eq_true rfl)) dX11_wordsOf_4 ⟨Nat.le_refl _, Nat.le_refl _⟩) ?_
  refine nv_mul hx hb dX11_wordsOf_7 ?_
  refine lv_aload_n hx hb dX11_wordsOf_8 rfl (lv_at hl 0 rfl) ?_
  refine lv_iload_n hx hb dX11_wordsOf_9 rfl (lv_at hl 1 rfl) ?_
  refine lv_iconst (v := nI 2) hx hb dX11_wordsOf_10 (by decide +kernel) ?_
  have hPc := hP.sub (ws' := [aN z aQ 31 rQ]) [0] rfl
  refine nv_cp1 (va_runS (As := [.ref aQ, .int (nI pn), .int (nI 2)]) (rest := [.int (nI (mnQ * (rQ (7 + 4 * pn + 1))))]) ⟨hx, hb, hml, hown, hts⟩ (c_X11_its l D z aQ rQ pn 2 (by first | assumption | omega)) (va_cwS 3 hts (gS m_544 m_545 m_541 m_542) rfl rfl rfl hd_X11_its ⟨Nat.le_of_ble_eq_true rfl, Nat.le_of_ble_eq_true rfl⟩) (nv_preP hK hPc trivial _) rfl rfl hl.1 rfl (lv_room (Nat.le_of_ble_eq_true rfl)) dX11_wordsOf_11 ⟨Nat.le_refl _, Nat.le_refl _⟩) ?_
  refine nv_mul hx hb dX11_wordsOf_14 ?_
  refine lv_aload_n hx hb dX11_wordsOf_15 rfl (lv_at hl 0 rfl) ?_
  refine lv_iconst (v := nI 2) hx hb dX11_wordsOf_16 (by decide +kernel) ?_
  refine nv_ald hx hb hK hP 0 rfl (by omega) (by decide) dX11_wordsOf_17 ?_
  refine lv_bipush (v := nI 20) hx hb dX11_wordsOf_18 (by decide +kernel) ?_
  refine nv_add hx hb dX11_wordsOf_20 ?_
  refine nv_div hx hb (by omega) (by omega) (by omega) dX11_wordsOf_21 ?_
  refine lv_istore_n (lv' := [(3, .int (nI (((mnQ * (rQ (7 + 4 * pn + 1))) * (rQ (7 + 4 * pn + 2))) / (rQ 2 + 20)))), (0, .ref aQ), (1, .int (nI pn)), (2, .int (nI mnQ))]) hx hb dX11_wordsOf_22 rfl hl (by decide) rfl (fun ls hl => ?_)
  refine lv_iload_n hx hb dX11_wordsOf_23 rfl (lv_at hl 0 rfl) ?_
  refine lv_bipush (v := nI 99) hx hb dX11_wordsOf_24 (by decide +kernel) ?_
  refine nv_join (g2 := F0 m 35 ls [.int (nI (plK mnQ (rQ (7 + 4 * pn + 1)) (rQ (7 + 4 * pn + 2)) (rQ 2)))]) (fun J1 => ?_) ?_
  · refine nv_le (tgt := 34) hx hb (by omega) (by omega) dX11_wordsOf_26 (by decide) (fun hc26 => ?_) (fun hc26 => ?_)
    · refine lv_iload_n hx hb dX11_wordsOf_34 rfl (lv_at hl 0 rfl) ?_
      have q9 : (((mnQ * (rQ (7 + 4 * pn + 1))) * (rQ (7 + 4 * pn + 2))) / (rQ 2 + 20)) = plK mnQ (rQ (7 + 4 * pn + 1)) (rQ (7 + 4 * pn + 2)) (rQ 2) := by unfold plK; split <;> first | rfl | omega
      exact W.eq (congrArg (fun x9 => F0 m 35 ls (.int (nI x9) :: [])) q9) J1
    · refine lv_bipush (v := nI 99) hx hb dX11_wordsOf_29 (by decide +kernel) ?_
      refine lv_goto (tgt := 35) hx hb dX11_wordsOf_31 (by decide) ?_
      have q9 : 99 = plK mnQ (rQ (7 + 4 * pn + 1)) (rQ (7 + 4 * pn + 2)) (rQ 2) := by unfold plK; split <;> first | rfl | omega
      exact W.eq (congrArg (fun x9 => F0 m 35 ls (.int (nI x9) :: [])) q9) J1
  · refine lv_istore_n (lv' := [(3, .int (nI (plK mnQ (rQ (7 + 4 * pn + 1)) (rQ (7 + 4 * pn + 2)) (rQ 2)))), (0, .ref aQ), (1, .int (nI pn)), (2, .int (nI mnQ))]) hx hb dX11_wordsOf_35 rfl hl (by decide) rfl (fun ls hl => ?_)
    refine lv_aload_n hx hb dX11_wordsOf_36 rfl (lv_at hl 1 rfl) ?_
    refine lv_iload_n hx hb dX11_wordsOf_37 rfl (lv_at hl 2 rfl) ?_
    refine lv_iconst (v := nI 0) hx hb dX11_wordsOf_38 (by decide +kernel) ?_
    have hPc := hP.sub (ws' := [aN z aQ 31 rQ]) [0] rfl
    refine nv_cp1 (va_runS (As := [.ref aQ, .int (nI pn), .int (nI 0)]) (rest := []) ⟨hx, hb, hml, hown, hts⟩ (c_X11_its l D z aQ rQ pn 0 (by first | assumption | omega)) (va_cwS 3 hts (gS m_544 m_545 m_541 m_542) rfl rfl rfl hd_X11_its ⟨Nat.le_of_ble_eq_true rfl, Nat.le_of_ble_eq_true rfl⟩) (nv_preP hK hPc trivial _) rfl rfl hl.1 rfl (lv_room (Nat.le_of_ble_eq_true rfl)) dX11_wordsOf_39 ⟨Nat.le_refl _, Nat.le_refl _⟩) ?_
    rcases (show rQ (7 + 4 * pn + 0) = 0 ∨ rQ (7 + 4 * pn + 0) = 1 ∨ rQ (7 + 4 * pn + 0) = 2 ∨ rQ (7 + 4 * pn + 0) = 3 ∨ rQ (7 + 4 * pn + 0) = 4 ∨ rQ (7 + 4 * pn + 0) = 5 by have h9 := oQ.1; omega) with hc42 | hc42 | hc42 | hc42 | hc42 | hc42
    · refine lv_tableOut (tgt := 111) hx hb dX11_wordsOf_42 (by rw [hc42]; decide) (by decide) ?_
      refine lv_iload_n hx hb dX11_wordsOf_111 rfl (lv_at hl 0 rfl) ?_
      exact nv_ri hx hb hr hlocks dX11_wordsOf_112 (by unfold woF woK; rw [hc42]; rfl)
    · refine lv_tableIn (off := 34) (tgt := 76) hx hb dX11_wordsOf_42 (by rw [hc42]; decide) (by rw [hc42]; decide) (by rw [hc42]; rfl) (by decide) ?_
      refine lv_iconst (v := nI 2) hx hb dX11_wordsOf_76 (by decide +kernel) ?_
      refine lv_iload_n hx hb dX11_wordsOf_77 rfl (lv_at hl 0 rfl) ?_
      refine nv_mul hx hb dX11_wordsOf_78 ?_
      refine lv_bipush (v := nI 99) hx hb dX11_wordsOf_79 (by decide +kernel) ?_
      refine nv_join (g2 := F0 m 92 ls [.int (nI (if 99 < 2 * plK mnQ (rQ (7 + 4 * pn + 1)) (rQ (7 + 4 * pn + 2)) (rQ 2) then 99 else 2 * plK mnQ (rQ (7 + 4 * pn + 1)) (rQ (7 + 4 * pn + 2)) (rQ 2)))]) (fun J2 => ?_) ?_
      · refine nv_le (tgt := 89) hx hb (by omega) (by omega) dX11_wordsOf_81 (by decide) (fun hc81 => ?_) (fun hc81 => ?_)
        · refine lv_iconst (v := nI 2) hx hb dX11_wordsOf_89 (by decide +kernel) ?_
          refine lv_iload_n hx hb dX11_wordsOf_90 rfl (lv_at hl 0 rfl) ?_
          refine nv_mul hx hb dX11_wordsOf_91 ?_
          have q9 : (2 * (plK mnQ (rQ (7 + 4 * pn + 1)) (rQ (7 + 4 * pn + 2)) (rQ 2))) = if 99 < 2 * plK mnQ (rQ (7 + 4 * pn + 1)) (rQ (7 + 4 * pn + 2)) (rQ 2) then 99 else 2 * plK mnQ (rQ (7 + 4 * pn + 1)) (rQ (7 + 4 * pn + 2)) (rQ 2) := by split <;> first | rfl | omega
          exact W.eq (congrArg (fun x9 => F0 m 92 ls (.int (nI x9) :: [])) q9) J2
        · refine lv_bipush (v := nI 99) hx hb dX11_wordsOf_84 (by decide +kernel) ?_
          refine lv_goto (tgt := 92) hx hb dX11_wordsOf_86 (by decide) ?_
          have q9 : 99 = if 99 < 2 * plK mnQ (rQ (7 + 4 * pn + 1)) (rQ (7 + 4 * pn + 2)) (rQ 2) then 99 else 2 * plK mnQ (rQ (7 + 4 * pn + 1)) (rQ (7 + 4 * pn + 2)) (rQ 2) := by split <;> first | rfl | omega
          exact W.eq (congrArg (fun x9 => F0 m 92 ls (.int (nI x9) :: [])) q9) J2
      · exact nv_ri hx hb hr hlocks dX11_wordsOf_92 (by unfold woF woK; rw [hc42]; rfl)
    · refine lv_tableIn (off := 69) (tgt := 111) hx hb dX11_wordsOf_42 (by rw [hc42]; decide) (by rw [hc42]; decide) (by rw [hc42]; rfl) (by decide) ?_
      refine lv_iload_n hx hb dX11_wordsOf_111 rfl (lv_at hl 0 rfl) ?_
      exact nv_ri hx hb hr hlocks dX11_wordsOf_112 (by unfold woF woK; rw [hc42]; rfl)
    · refine lv_tableIn (off := 69) (tgt := 111) hx hb dX11_wordsOf_42 (by rw [hc42]; decide) (by rw [hc42]; decide) (by rw [hc42]; rfl) (by decide) ?_
      refine lv_iload_n hx hb dX11_wordsOf_111 rfl (lv_at hl 0 rfl) ?_
      exact nv_ri hx hb hr hlocks dX11_wordsOf_112 (by unfold woF woK; rw [hc42]; rfl)
    · refine lv_tableIn (off := 51) (tgt := 93) hx hb dX11_wordsOf_42 (by rw [hc42]; decide) (by rw [hc42]; decide) (by rw [hc42]; rfl) (by decide) ?_
      refine lv_aload_n hx hb dX11_wordsOf_93 rfl (lv_at hl 1 rfl) ?_
      refine lv_iconst (v := nI 4) hx hb dX11_wordsOf_94 (by decide +kernel) ?_
      refine nv_ald hx hb hK hP 0 rfl (by omega) (by decide) dX11_wordsOf_95 ?_
      refine lv_bipush (v := nI 20) hx hb dX11_wordsOf_96 (by decide +kernel) ?_
      refine nv_rem hx hb (by omega) (by omega) (by omega) dX11_wordsOf_98 ?_
      refine nv_join (g2 := F0 m 108 ls [.int (nI (if rQ 4 % 20 = 0 then 50 else 0))]) (fun J3 => ?_) ?_
      · refine nv_ifne (tgt := 107) hx hb (by omega) dX11_wordsOf_99 (by decide) (fun hc99 => ?_) (fun hc99 => ?_)
        · refine lv_iconst (v := nI 0) hx hb dX11_wordsOf_107 (by decide +kernel) ?_
          have q9 : 0 = if rQ 4 % 20 = 0 then 50 else 0 := by split <;> first | rfl | omega
          exact W.eq (congrArg (fun x9 => F0 m 108 ls (.int (nI x9) :: [])) q9) J3
        · refine lv_bipush (v := nI 50) hx hb dX11_wordsOf_102 (by decide +kernel) ?_
          refine lv_goto (tgt := 108) hx hb dX11_wordsOf_104 (by decide) ?_
          have q9 : 50 = if rQ 4 % 20 = 0 then 50 else 0 := by split <;> first | rfl | omega
          exact W.eq (congrArg (fun x9 => F0 m 108 ls (.int (nI x9) :: [])) q9) J3
      · exact nv_ri hx hb hr hlocks dX11_wordsOf_108 (by unfold woF woK; rw [hc42]; rfl)
    · refine lv_tableIn (off := 67) (tgt := 109) hx hb dX11_wordsOf_42 (by rw [hc42]; decide) (by rw [hc42]; decide) (by rw [hc42]; rfl) (by decide) ?_
      refine lv_iconst (v := nI 0) hx hb dX11_wordsOf_109 (by decide +kernel) ?_
      exact nv_ri hx hb hr hlocks dX11_wordsOf_110 (by unfold woF woK; rw [hc42]; rfl)

set_option maxHeartbeats 4000000 in
set_option maxRecDepth 100000 in
theorem c_X11_paysOf (l : Launch) (D : va_G) (z : Nat → ClassId) (w0Q : Nat) (aQ : Nat) (rQ : Nat → Nat) (pn : Nat) (mnQ : Nat) (hok : rOK w0Q rQ) (hp : pn < rQ 6) (hm : mnQ ≤ 20) (hw : w0Q ≤ 20000) : CP l yX11_paysOf cX11_paysOf 4 (some .int) 2 45 [.ref aQ, .int (nI pn), .int (nI mnQ)] D z [aN z aQ 31 rQ] (fun _ => True) (some (.int (nI (paF rQ pn mnQ)))) := by
  refine Met.ofW (cc := cX11_paysOf) (maxL := 4) (ret := (some .int)) (by decide) rfl ?_
  intro pg e s m args below meth c s₁ B hml hv
  obtain ⟨rfl, hP, hK, hE⟩ := hv
  have hx := B.exec
  have hb := B.bytes
  have hr := B.returns
  have hts : ∀ w ∈ ALL, w.before _ s = true := fun w h => atoms_spec (ws := wA yX11_paysOf cX11_paysOf 4 (some .int)) B.pre w (List.mem_cons_of_mem _ h)
  have hown : s.vm.findClass RX11 = some m.cls := findClass_of_methodNamed B.named
  have hlocks := B.notSynchronized
  obtain ⟨o0, o1, o1b, o2, o2b, o3, o4, o5, o6, oP⟩ := id hok
  have oQ := oP pn hp
  have hq1 : woF rQ pn mnQ * rQ 2 ≤ 99 * 100 := Nat.mul_le_mul (woF_le rQ pn mnQ) o2b
  have hl := lv_entry ([.ref aQ, .int (nI pn), .int (nI mnQ)]) (n := 4) (Nat.le_of_ble_eq_true rfl)
  rw [lg_entry_eq]
  generalize (lg_sl ([.ref aQ, .int (nI pn), .int (nI mnQ)]) ++ List.replicate (4 - (lg_sl ([.ref aQ, .int (nI pn), .int (nI mnQ)])).length) Slot.unset).toArray = ls at hl ⊢
  have hl : lv_has ls 4 [(0, .ref aQ), (1, .int (nI pn)), (2, .int (nI mnQ))] := hl
  refine lv_aload_n hx hb dX11_paysOf_0 rfl (lv_at hl 0 rfl) ?_
  refine lv_iload_n hx hb dX11_paysOf_1 rfl (lv_at hl 1 rfl) ?_
  refine lv_iload_n hx hb dX11_paysOf_2 rfl (lv_at hl 2 rfl) ?_
  have hPc := hP.sub (ws' := [aN z aQ 31 rQ]) [0] rfl
  refine nv_cp1 (va_runS (As := [.ref aQ, .int (nI pn), .int (nI mnQ)]) (rest := []) ⟨hx, hb, hml, hown, hts⟩ (c_X11_wordsOf l D z w0Q aQ rQ pn mnQ (by first | assumption | omega) (by first | assumption | omega) (by first | assumption | omega) (by first | assumption | omega)) (va_cwS 3 hts (gS m_554 m_555 m_541 m_552) rfl rfl rfl hd_X11_wordsOf ⟨Nat.le_of_ble_eq_true rfl, Nat.le_of_ble_eq_true rfl⟩) (nv_preP hK hPc trivial _) rfl rfl hl.1 rfl (lv_room (Nat.le_of_ble_eq_true rfl)) dX11_paysOf_3 ⟨Nat.le_refl _, Nat.le_refl _⟩) ?_
  refine lv_aload_n hx hb dX11_paysOf_6 rfl (lv_at hl 0 rfl) ?_
  refine lv_iconst (v := nI 2) hx hb dX11_paysOf_7 (by decide +kernel) ?_
  refine nv_ald hx hb hK hP 0 rfl (by omega) (by decide) dX11_paysOf_8 ?_
  refine nv_mul hx hb dX11_paysOf_9 ?_
  refine lv_istore_n (lv' := [(3, .int (nI ((woF rQ pn mnQ) * (rQ 2)))), (0, .ref aQ), (1, .int (nI pn)), (2, .int (nI mnQ))]) hx hb dX11_paysOf_10 rfl hl (by decide) rfl (fun ls hl => ?_)
  refine lv_aload_n hx hb dX11_paysOf_11 rfl (lv_at hl 1 rfl) ?_
  refine lv_iload_n hx hb dX11_paysOf_12 rfl (lv_at hl 2 rfl) ?_
  refine lv_iconst (v := nI 0) hx hb dX11_paysOf_13 (by decide +kernel) ?_
  have hPc := hP.sub (ws' := [aN z aQ 31 rQ]) [0] rfl
  refine nv_cp1 (va_runS (As := [.ref aQ, .int (nI pn), .int (nI 0)]) (rest := []) ⟨hx, hb, hml, hown, hts⟩ (c_X11_its l D z aQ rQ pn 0 (by first | assumption | omega)) (va_cwS 3 hts (gS m_544 m_545 m_541 m_542) rfl rfl rfl hd_X11_its ⟨Nat.le_of_ble_eq_true rfl, Nat.le_of_ble_eq_true rfl⟩) (nv_preP hK hPc trivial _) rfl rfl hl.1 rfl (lv_room (Nat.le_of_ble_eq_true rfl)) dX11_paysOf_14 ⟨Nat.le_refl _, Nat.le_refl _⟩) ?_
  rcases (show rQ (7 + 4 * pn + 0) = 0 ∨ rQ (7 + 4 * pn + 0) = 1 ∨ rQ (7 + 4 * pn + 0) = 2 ∨ rQ (7 + 4 * pn + 0) = 3 ∨ rQ (7 + 4 * pn + 0) = 4 ∨ rQ (7 + 4 * pn + 0) = 5 by have h9 := oQ.1; omega) with hc17 | hc17 | hc17 | hc17 | hc17 | hc17
  · refine lv_tableOut (tgt := 63) hx hb dX11_paysOf_17 (by rw [hc17]; decide) (by decide) ?_
    refine lv_iload_n hx hb dX11_paysOf_63 rfl (lv_at hl 0 rfl) ?_
    exact nv_ri hx hb hr hlocks dX11_paysOf_64 (by unfold paF paK; rw [hc17]; rfl)
  · refine lv_tableIn (off := 31) (tgt := 48) hx hb dX11_paysOf_17 (by rw [hc17]; decide) (by rw [hc17]; decide) (by rw [hc17]; rfl) (by decide) ?_
    refine lv_bipush (v := nI 10) hx hb dX11_paysOf_48 (by decide +kernel) ?_
    refine lv_aload_n hx hb dX11_paysOf_50 rfl (lv_at hl 1 rfl) ?_
    refine lv_iconst (v := nI 2) hx hb dX11_paysOf_51 (by decide +kernel) ?_
    refine nv_ald hx hb hK hP 0 rfl (by omega) (by decide) dX11_paysOf_52 ?_
    refine nv_mul hx hb dX11_paysOf_53 ?_
    exact nv_ri hx hb hr hlocks dX11_paysOf_54 (by unfold paF paK; rw [hc17]; rfl)
  · refine lv_tableIn (off := 38) (tgt := 55) hx hb dX11_paysOf_17 (by rw [hc17]; decide) (by rw [hc17]; decide) (by rw [hc17]; rfl) (by decide) ?_
    refine lv_iconst (v := nI 2) hx hb dX11_paysOf_55 (by decide +kernel) ?_
    refine lv_iload_n hx hb dX11_paysOf_56 rfl (lv_at hl 0 rfl) ?_
    refine nv_mul hx hb dX11_paysOf_57 ?_
    exact nv_ri hx hb hr hlocks dX11_paysOf_58 (by unfold paF paK; rw [hc17]; rfl)
  · refine lv_tableIn (off := 42) (tgt := 59) hx hb dX11_paysOf_17 (by rw [hc17]; decide) (by rw [hc17]; decide) (by rw [hc17]; rfl) (by decide) ?_
    refine lv_iload_n hx hb dX11_paysOf_59 rfl (lv_at hl 0 rfl) ?_
    refine lv_iconst (v := nI 2) hx hb dX11_paysOf_60 (by decide +kernel) ?_
    refine nv_div hx hb (by omega) (by omega) (by omega) dX11_paysOf_61 ?_
    exact nv_ri hx hb hr hlocks dX11_paysOf_62 (by unfold paF paK; rw [hc17]; rfl)
  · refine lv_tableIn (off := 42) (tgt := 59) hx hb dX11_paysOf_17 (by rw [hc17]; decide) (by rw [hc17]; decide) (by rw [hc17]; rfl) (by decide) ?_
    refine lv_iload_n hx hb dX11_paysOf_59 rfl (lv_at hl 0 rfl) ?_
    refine lv_iconst (v := nI 2) hx hb dX11_paysOf_60 (by decide +kernel) ?_
    refine nv_div hx hb (by omega) (by omega) (by omega) dX11_paysOf_61 ?_
    exact nv_ri hx hb hr hlocks dX11_paysOf_62 (by unfold paF paK; rw [hc17]; rfl)
  · refine lv_tableOut (tgt := 63) hx hb dX11_paysOf_17 (by rw [hc17]; decide) (by decide) ?_
    refine lv_iload_n hx hb dX11_paysOf_63 rfl (lv_at hl 0 rfl) ?_
    exact nv_ri hx hb hr hlocks dX11_paysOf_64 (by unfold paF paK; rw [hc17]; rfl)

set_option maxHeartbeats 4000000 in
set_option maxRecDepth 100000 in
theorem c_X11_habitThen (l : Launch) (D : va_G) (z : Nat → ClassId) (w0Q : Nat) (aQ : Nat) (rQ : Nat → Nat) (pn : Nat) (mnQ : Nat) (hok : rOK w0Q rQ) (hp : pn < rQ 6) (hm : mnQ ≤ 20) (hw : w0Q ≤ 20000) : CP l yX11_habitThen cX11_habitThen 6 (some .int) 3 68 [.ref aQ, .int (nI pn), .int (nI mnQ)] D z [aN z aQ 31 rQ] (fun _ => True) (some (.int (nI (haF rQ pn mnQ)))) := by
  refine Met.ofW (cc := cX11_habitThen) (maxL := 6) (ret := (some .int)) (by decide) rfl ?_
  intro pg e s m args below meth c s₁ B hml hv
  obtain ⟨rfl, hP, hK, hE⟩ := hv
  have hx := B.exec
  have hb := B.bytes
  have hr := B.returns
  have hts : ∀ w ∈ ALL, w.before _ s = true := fun w h => atoms_spec (ws := wA yX11_habitThen cX11_habitThen 6 (some .int)) B.pre w (List.mem_cons_of_mem _ h)
  have hown : s.vm.findClass RX11 = some m.cls := findClass_of_methodNamed B.named
  have hlocks := B.notSynchronized
  obtain ⟨o0, o1, o1b, o2, o2b, o3, o4, o5, o6, oP⟩ := id hok
  have oQ := oP pn hp
  have hq1 := paF_le (r := rQ) pn mnQ o2b
  have hl := lv_entry ([.ref aQ, .int (nI pn), .int (nI mnQ)]) (n := 6) (Nat.le_of_ble_eq_true rfl)
  rw [lg_entry_eq]
  generalize (lg_sl ([.ref aQ, .int (nI pn), .int (nI mnQ)]) ++ List.replicate (6 - (lg_sl ([.ref aQ, .int (nI pn), .int (nI mnQ)])).length) Slot.unset).toArray = ls at hl ⊢
  have hl : lv_has ls 6 [(0, .ref aQ), (1, .int (nI pn)), (2, .int (nI mnQ))] := hl
  refine lv_aload_n hx hb dX11_habitThen_0 rfl (lv_at hl 0 rfl) ?_
  refine lv_iload_n hx hb dX11_habitThen_1 rfl (lv_at hl 1 rfl) ?_
  refine lv_iconst (v := nI 2) hx hb dX11_habitThen_2 (by decide +kernel) ?_
  have hPc := hP.sub (ws' := [aN z aQ 31 rQ]) [0] rfl
  refine nv_cp1 (va_runS (As := [.ref aQ, .int (nI pn), .int (nI 2)]) (rest := []) ⟨hx, hb, hml, hown, hts⟩ (c_X11_its l D z aQ rQ pn 2 (by first | assumption | omega)) (va_cwS 3 hts (gS m_544 m_545 m_541 m_542) rfl rfl rfl hd_X11_its ⟨Nat.le_of_ble_eq_true rfl, Nat.le_of_ble_eq_true rfl⟩) (nv_preP hK hPc trivial _) rfl rfl hl.1 rfl (lv_room (Nat.le_of_ble_eq_true rfl)) dX11_habitThen_3 ⟨Nat.le_refl _, Nat.le_refl _⟩) ?_
  refine lv_istore_n (lv' := [(3, .int (nI (rQ (7 + 4 * pn + 2)))), (0, .ref aQ), (1, .int (nI pn)), (2, .int (nI mnQ))]) hx hb dX11_habitThen_6 rfl hl (by decide) rfl (fun ls hl => ?_)
  refine lv_aload_n hx hb dX11_habitThen_7 rfl (lv_at hl 1 rfl) ?_
  refine lv_iload_n hx hb dX11_habitThen_8 rfl (lv_at hl 2 rfl) ?_
  refine lv_iload_n hx hb dX11_habitThen_9 rfl (lv_at hl 3 rfl) ?_
  have hPc := hP.sub (ws' := [aN z aQ 31 rQ]) [0] rfl
  refine nv_cp1 (va_runS (As := [.ref aQ, .int (nI pn), .int (nI mnQ)]) (rest := []) ⟨hx, hb, hml, hown, hts⟩ (c_X11_paysOf l D z w0Q aQ rQ pn mnQ (by first | assumption | omega) (by first | assumption | omega) (by first | assumption | omega) (by first | assumption | omega)) (va_cwS 3 hts (gS m_557 m_558 m_541 m_553) rfl rfl rfl hd_X11_paysOf ⟨Nat.le_of_ble_eq_true rfl, Nat.le_of_ble_eq_true rfl⟩) (nv_preP hK hPc trivial _) rfl rfl hl.1 rfl (lv_room (Nat.le_of_ble_eq_true rfl)) dX11_habitThen_10 ⟨Nat.le_refl _, Nat.le_refl _⟩) ?_
  refine lv_istore (lv' := [(4, .int (nI (paF rQ pn mnQ))), (3, .int (nI (rQ (7 + 4 * pn + 2)))), (0, .ref aQ), (1, .int (nI pn)), (2, .int (nI mnQ))]) hx hb dX11_habitThen_13 hl (by decide) rfl (fun ls hl => ?_)
  refine lv_aload_n hx hb dX11_habitThen_15 rfl (lv_at hl 2 rfl) ?_
  refine lv_iload_n hx hb dX11_habitThen_16 rfl (lv_at hl 3 rfl) ?_
  refine lv_iconst (v := nI 0) hx hb dX11_habitThen_17 (by decide +kernel) ?_
  have hPc := hP.sub (ws' := [aN z aQ 31 rQ]) [0] rfl
  refine nv_cp1 (va_runS (As := [.ref aQ, .int (nI pn), .int (nI 0)]) (rest := []) ⟨hx, hb, hml, hown, hts⟩ (c_X11_its l D z aQ rQ pn 0 (by first | assumption | omega)) (va_cwS 3 hts (gS m_544 m_545 m_541 m_542) rfl rfl rfl hd_X11_its ⟨Nat.le_of_ble_eq_true rfl, Nat.le_of_ble_eq_true rfl⟩) (nv_preP hK hPc trivial _) rfl rfl hl.1 rfl (lv_room (Nat.le_of_ble_eq_true rfl)) dX11_habitThen_18 ⟨Nat.le_refl _, Nat.le_refl _⟩) ?_
  refine lv_iconst (v := nI 1) hx hb dX11_habitThen_21 (by decide +kernel) ?_
  refine nv_eq (tgt := 32) hx hb (by omega) (by omega) dX11_habitThen_22 (by decide) (fun hc22 => ?_) (fun hc22 => ?_)
  · refine lv_iload_n hx hb dX11_habitThen_32 rfl (lv_at hl 1 rfl) ?_
    refine lv_bipush (v := nI 99) hx hb dX11_habitThen_33 (by decide +kernel) ?_
    refine nv_join (g2 := F0 m 46 ls [.int (nI (if rQ (7 + 4 * pn + 2) < 99 then rQ (7 + 4 * pn + 2) + 1 else 99))]) (fun J1 => ?_) ?_
    · refine nv_ge (tgt := 44) hx hb (by omega) (by omega) dX11_habitThen_35 (by decide) (fun hc35 => ?_) (fun hc35 => ?_)
      · refine lv_bipush (v := nI 99) hx hb dX11_habitThen_44 (by decide +kernel) ?_
        have q9 : 99 = if rQ (7 + 4 * pn + 2) < 99 then rQ (7 + 4 * pn + 2) + 1 else 99 := by split <;> first | rfl | omega
        exact W.eq (congrArg (fun x9 => F0 m 46 ls (.int (nI x9) :: [])) q9) J1
      · refine lv_iload_n hx hb dX11_habitThen_38 rfl (lv_at hl 1 rfl) ?_
        refine lv_iconst (v := nI 1) hx hb dX11_habitThen_39 (by decide +kernel) ?_
        refine nv_add hx hb dX11_habitThen_40 ?_
        refine lv_goto (tgt := 46) hx hb dX11_habitThen_41 (by decide) ?_
        have q9 : (rQ (7 + 4 * pn + 2) + 1) = if rQ (7 + 4 * pn + 2) < 99 then rQ (7 + 4 * pn + 2) + 1 else 99 := by split <;> first | rfl | omega
        exact W.eq (congrArg (fun x9 => F0 m 46 ls (.int (nI x9) :: [])) q9) J1
    · exact nv_ri hx hb hr hlocks dX11_habitThen_46 (by unfold haF haK; rw [if_pos (show rQ (7 + 4 * pn + 0) = 1 ∨ paF rQ pn mnQ < 100 by omega)])
  · refine lv_iload hx hb dX11_habitThen_25 (lv_at hl 0 rfl) ?_
    refine lv_bipush (v := nI 100) hx hb dX11_habitThen_27 (by decide +kernel) ?_
    refine nv_ge (tgt := 47) hx hb (by omega) (by omega) dX11_habitThen_29 (by decide) (fun hc29 => ?_) (fun hc29 => ?_)
    · refine lv_iload hx hb dX11_habitThen_47 (lv_at hl 0 rfl) ?_
      refine lv_bipush (v := nI 100) hx hb dX11_habitThen_49 (by decide +kernel) ?_
      refine nv_div hx hb (by omega) (by omega) (by omega) dX11_habitThen_51 ?_
      refine lv_bipush (v := nI 9) hx hb dX11_habitThen_52 (by decide +kernel) ?_
      refine nv_join (g2 := F0 m 67 ls [.int (nI (leK (paF rQ pn mnQ)))]) (fun J2 => ?_) ?_
      · refine nv_le (tgt := 62) hx hb (by omega) (by omega) dX11_habitThen_54 (by decide) (fun hc54 => ?_) (fun hc54 => ?_)
        · refine lv_iload hx hb dX11_habitThen_62 (lv_at hl 0 rfl) ?_
          refine lv_bipush (v := nI 100) hx hb dX11_habitThen_64 (by decide +kernel) ?_
          refine nv_div hx hb (by omega) (by omega) (by omega) dX11_habitThen_66 ?_
          have q9 : ((paF rQ pn mnQ) / 100) = leK (paF rQ pn mnQ) := by unfold leK; split <;> first | rfl | omega
          exact W.eq (congrArg (fun x9 => F0 m 67 ls (.int (nI x9) :: [])) q9) J2
        · refine lv_bipush (v := nI 9) hx hb dX11_habitThen_57 (by decide +kernel) ?_
          refine lv_goto (tgt := 67) hx hb dX11_habitThen_59 (by decide) ?_
          have q9 : 9 = leK (paF rQ pn mnQ) := by unfold leK; split <;> first | rfl | omega
          exact W.eq (congrArg (fun x9 => F0 m 67 ls (.int (nI x9) :: [])) q9) J2
      · refine lv_istore (lv' := [(5, .int (nI (leK (paF rQ pn mnQ)))), (4, .int (nI (paF rQ pn mnQ))), (3, .int (nI (rQ (7 + 4 * pn + 2)))), (0, .ref aQ), (1, .int (nI pn)), (2, .int (nI mnQ))]) hx hb dX11_habitThen_67 hl (by decide) rfl (fun ls hl => ?_)
        have hq2 : leK (paF rQ pn mnQ) ≤ 9 := by unfold leK; split <;> omega
        refine lv_iload_n hx hb dX11_habitThen_69 rfl (lv_at hl 2 rfl) ?_
        refine lv_iload hx hb dX11_habitThen_70 (lv_at hl 0 rfl) ?_
        refine nv_join (g2 := F0 m 83 ls [.int (nI (if leK (paF rQ pn mnQ) < rQ (7 + 4 * pn + 2) then rQ (7 + 4 * pn + 2) - leK (paF rQ pn mnQ) else 0))]) (fun J3 => ?_) ?_
        · refine nv_le (tgt := 82) hx hb (by omega) (by omega) dX11_habitThen_72 (by decide) (fun hc72 => ?_) (fun hc72 => ?_)
          · refine lv_iconst (v := nI 0) hx hb dX11_habitThen_82 (by decide +kernel) ?_
            have q9 : 0 = if leK (paF rQ pn mnQ) < rQ (7 + 4 * pn + 2) then rQ (7 + 4 * pn + 2) - leK (paF rQ pn mnQ) else 0 := by split <;> first | rfl | omega
            exact W.eq (congrArg (fun x9 => F0 m 83 ls (.int (nI x9) :: [])) q9) J3
          · refine lv_iload_n hx hb dX11_habitThen_75 rfl (lv_at hl 2 rfl) ?_
            refine lv_iload hx hb dX11_habitThen_76 (lv_at hl 0 rfl) ?_
            refine nv_sub hx hb (by omega) dX11_habitThen_78 ?_
            refine lv_goto (tgt := 83) hx hb dX11_habitThen_79 (by decide) ?_
            have q9 : ((rQ (7 + 4 * pn + 2)) - (leK (paF rQ pn mnQ))) = if leK (paF rQ pn mnQ) < rQ (7 + 4 * pn + 2) then rQ (7 + 4 * pn + 2) - leK (paF rQ pn mnQ) else 0 := by split <;> first | rfl | omega
            exact W.eq (congrArg (fun x9 => F0 m 83 ls (.int (nI x9) :: [])) q9) J3
        · exact nv_ri hx hb hr hlocks dX11_habitThen_83 (by unfold haF haK; rw [if_neg (show ¬ (rQ (7 + 4 * pn + 0) = 1 ∨ paF rQ pn mnQ < 100) by omega)])
    · refine lv_iload_n hx hb dX11_habitThen_32 rfl (lv_at hl 1 rfl) ?_
      refine lv_bipush (v := nI 99) hx hb dX11_habitThen_33 (by decide +kernel) ?_
      refine nv_join (g2 := F0 m 46 ls [.int (nI (if rQ (7 + 4 * pn + 2) < 99 then rQ (7 + 4 * pn + 2) + 1 else 99))]) (fun J4 => ?_) ?_
      · refine nv_ge (tgt := 44) hx hb (by omega) (by omega) dX11_habitThen_35 (by decide) (fun hc35 => ?_) (fun hc35 => ?_)
        · refine lv_bipush (v := nI 99) hx hb dX11_habitThen_44 (by decide +kernel) ?_
          have q9 : 99 = if rQ (7 + 4 * pn + 2) < 99 then rQ (7 + 4 * pn + 2) + 1 else 99 := by split <;> first | rfl | omega
          exact W.eq (congrArg (fun x9 => F0 m 46 ls (.int (nI x9) :: [])) q9) J4
        · refine lv_iload_n hx hb dX11_habitThen_38 rfl (lv_at hl 1 rfl) ?_
          refine lv_iconst (v := nI 1) hx hb dX11_habitThen_39 (by decide +kernel) ?_
          refine nv_add hx hb dX11_habitThen_40 ?_
          refine lv_goto (tgt := 46) hx hb dX11_habitThen_41 (by decide) ?_
          have q9 : (rQ (7 + 4 * pn + 2) + 1) = if rQ (7 + 4 * pn + 2) < 99 then rQ (7 + 4 * pn + 2) + 1 else 99 := by split <;> first | rfl | omega
          exact W.eq (congrArg (fun x9 => F0 m 46 ls (.int (nI x9) :: [])) q9) J4
      · exact nv_ri hx hb hr hlocks dX11_habitThen_46 (by unfold haF haK; rw [if_pos (show rQ (7 + 4 * pn + 0) = 1 ∨ paF rQ pn mnQ < 100 by omega)])

set_option maxHeartbeats 4000000 in
set_option maxRecDepth 100000 in
theorem c_X11_allWords (l : Launch) (D : va_G) (z : Nat → ClassId) (w0Q : Nat) (aQ : Nat) (rQ : Nat → Nat) (mnQ : Nat) (hok : rOK w0Q rQ) (hm : mnQ ≤ 20) (hw : w0Q ≤ 20000) : CP l yX11_allWords cX11_allWords 4 (some .int) 2 45 [.ref aQ, .int (nI mnQ)] D z [aN z aQ 31 rQ] (fun _ => True) (some (.int (nI (awF rQ mnQ (rQ 6))))) := by
  refine Met.ofW (cc := cX11_allWords) (maxL := 4) (ret := (some .int)) (by decide) rfl ?_
  intro pg e s m args below meth c s₁ B hml hv
  obtain ⟨rfl, hP, hK, hE⟩ := hv
  have hx := B.exec
  have hb := B.bytes
  have hr := B.returns
  have hts : ∀ w ∈ ALL, w.before _ s = true := fun w h => atoms_spec (ws := wA yX11_allWords cX11_allWords 4 (some .int)) B.pre w (List.mem_cons_of_mem _ h)
  have hown : s.vm.findClass RX11 = some m.cls := findClass_of_methodNamed B.named
  have hlocks := B.notSynchronized
  obtain ⟨o0, o1, o1b, o2, o2b, o3, o4, o5, o6, oP⟩ := id hok
  have hl := lv_entry ([.ref aQ, .int (nI mnQ)]) (n := 4) (Nat.le_of_ble_eq_true rfl)
  rw [lg_entry_eq]
  generalize (lg_sl ([.ref aQ, .int (nI mnQ)]) ++ List.replicate (4 - (lg_sl ([.ref aQ, .int (nI mnQ)])).length) Slot.unset).toArray = ls at hl ⊢
  have hl : lv_has ls 4 [(0, .ref aQ), (1, .int (nI mnQ))] := hl
  refine lv_iconst (v := nI 0) hx hb dX11_allWords_0 (by decide +kernel) ?_
  refine lv_istore_n (lv' := [(2, .int (nI 0)), (0, .ref aQ), (1, .int (nI mnQ))]) hx hb dX11_allWords_1 rfl hl (by decide) rfl (fun ls hl => ?_)
  refine lv_iconst (v := nI 0) hx hb dX11_allWords_2 (by decide +kernel) ?_
  refine lv_istore_n (lv' := [(3, .int (nI 0)), (2, .int (nI 0)), (0, .ref aQ), (1, .int (nI mnQ))]) hx hb dX11_allWords_3 rfl hl (by decide) rfl (fun ls hl => ?_)
  refine nv_loopP (σ := Nat) (fun x ls => ∃ (jQ : Nat), jQ = x ∧ ((jQ ≤ rQ 6)) ∧ lv_has ls 4 [(0, .ref aQ), (1, .int (nI mnQ)), (2, .int (nI (awF rQ mnQ jQ))), (3, .int (nI jQ))]) (fun x => rQ 6 - x) 4 [] ?_ 0 ?_
  · rintro _ ls ⟨jQ, rfl, hj, hl⟩ ih4
    refine lv_iload_n hx hb dX11_allWords_4 rfl (lv_at hl 3 rfl) ?_
    refine lv_aload_n hx hb dX11_allWords_5 rfl (lv_at hl 0 rfl) ?_
    refine lv_bipush (v := nI 6) hx hb dX11_allWords_6 (by decide +kernel) ?_
    refine nv_ald hx hb hK hP 0 rfl (by omega) (by decide) dX11_allWords_8 ?_
    refine nv_ge (tgt := 27) hx hb (by omega) (by omega) dX11_allWords_9 (by decide) (fun hc9 => ?_) (fun hc9 => ?_)
    · refine lv_iload_n hx hb dX11_allWords_27 rfl (lv_at hl 2 rfl) ?_
      exact nv_ri hx hb hr hlocks dX11_allWords_28 (by rw [show jQ = rQ 6 by omega])
    · refine lv_iload_n hx hb dX11_allWords_12 rfl (lv_at hl 2 rfl) ?_
      refine lv_aload_n hx hb dX11_allWords_13 rfl (lv_at hl 0 rfl) ?_
      refine lv_iload_n hx hb dX11_allWords_14 rfl (lv_at hl 3 rfl) ?_
      refine lv_iload_n hx hb dX11_allWords_15 rfl (lv_at hl 1 rfl) ?_
      have hPc := hP.sub (ws' := [aN z aQ 31 rQ]) [0] rfl
      refine nv_cp1 (va_runS (As := [.ref aQ, .int (nI jQ), .int (nI mnQ)]) (rest := [.int (nI (awF rQ mnQ jQ))]) ⟨hx, hb, hml, hown, hts⟩ (c_X11_wordsOf l D z w0Q aQ rQ jQ mnQ (by first | assumption | omega) (by first | assumption | omega) (by first | assumption | omega) (by first | assumption | omega)) (va_cwS 3 hts (gS m_554 m_555 m_541 m_552) rfl rfl rfl hd_X11_wordsOf ⟨Nat.le_of_ble_eq_true rfl, Nat.le_of_ble_eq_true rfl⟩) (nv_preP hK hPc trivial _) rfl rfl hl.1 rfl (lv_room (Nat.le_of_ble_eq_true rfl)) dX11_allWords_16 ⟨Nat.le_refl _, Nat.le_refl _⟩) ?_
      refine nv_add hx hb dX11_allWords_19 ?_
      refine lv_istore_n (lv' := [(2, .int (nI (awF rQ mnQ jQ + (woF rQ jQ mnQ)))), (0, .ref aQ), (1, .int (nI mnQ)), (3, .int (nI jQ))]) hx hb dX11_allWords_20 rfl hl (by decide) rfl (fun ls hl => ?_)
      refine lv_iinc (v := nI (jQ + 1)) (lv' := [(3, .int (nI (jQ + 1))), (2, .int (nI (awF rQ mnQ jQ + (woF rQ jQ mnQ)))), (0, .ref aQ), (1, .int (nI mnQ))]) hx hb dX11_allWords_21 hl (k := 3) rfl (nI_inc _) (by decide) rfl (fun ls hl => ?_)
      refine lv_goto (tgt := 4) hx hb dX11_allWords_24 (by decide) ?_
      exact ih4 (jQ + 1) _ (by omega) ⟨jQ + 1, rfl, (by omega), lv_sub hl [2, 3, 1, 0] rfl⟩
  · exact ⟨0, rfl, (by omega), lv_sub hl [2, 3, 1, 0] rfl⟩

set_option maxHeartbeats 4000000 in
set_option maxRecDepth 100000 in
theorem c_X11_allPay (l : Launch) (D : va_G) (z : Nat → ClassId) (w0Q : Nat) (aQ : Nat) (rQ : Nat → Nat) (mnQ : Nat) (hok : rOK w0Q rQ) (hm : mnQ ≤ 20) (hw : w0Q ≤ 20000) : CP l yX11_allPay cX11_allPay 4 (some .int) 3 68 [.ref aQ, .int (nI mnQ)] D z [aN z aQ 31 rQ] (fun _ => True) (some (.int (nI (apF rQ mnQ (rQ 6))))) := by
  refine Met.ofW (cc := cX11_allPay) (maxL := 4) (ret := (some .int)) (by decide) rfl ?_
  intro pg e s m args below meth c s₁ B hml hv
  obtain ⟨rfl, hP, hK, hE⟩ := hv
  have hx := B.exec
  have hb := B.bytes
  have hr := B.returns
  have hts : ∀ w ∈ ALL, w.before _ s = true := fun w h => atoms_spec (ws := wA yX11_allPay cX11_allPay 4 (some .int)) B.pre w (List.mem_cons_of_mem _ h)
  have hown : s.vm.findClass RX11 = some m.cls := findClass_of_methodNamed B.named
  have hlocks := B.notSynchronized
  obtain ⟨o0, o1, o1b, o2, o2b, o3, o4, o5, o6, oP⟩ := id hok
  have hl := lv_entry ([.ref aQ, .int (nI mnQ)]) (n := 4) (Nat.le_of_ble_eq_true rfl)
  rw [lg_entry_eq]
  generalize (lg_sl ([.ref aQ, .int (nI mnQ)]) ++ List.replicate (4 - (lg_sl ([.ref aQ, .int (nI mnQ)])).length) Slot.unset).toArray = ls at hl ⊢
  have hl : lv_has ls 4 [(0, .ref aQ), (1, .int (nI mnQ))] := hl
  refine lv_iconst (v := nI 0) hx hb dX11_allPay_0 (by decide +kernel) ?_
  refine lv_istore_n (lv' := [(2, .int (nI 0)), (0, .ref aQ), (1, .int (nI mnQ))]) hx hb dX11_allPay_1 rfl hl (by decide) rfl (fun ls hl => ?_)
  refine lv_iconst (v := nI 0) hx hb dX11_allPay_2 (by decide +kernel) ?_
  refine lv_istore_n (lv' := [(3, .int (nI 0)), (2, .int (nI 0)), (0, .ref aQ), (1, .int (nI mnQ))]) hx hb dX11_allPay_3 rfl hl (by decide) rfl (fun ls hl => ?_)
  refine nv_loopP (σ := Nat) (fun x ls => ∃ (jQ : Nat), jQ = x ∧ ((jQ ≤ rQ 6)) ∧ lv_has ls 4 [(0, .ref aQ), (1, .int (nI mnQ)), (2, .int (nI (apF rQ mnQ jQ))), (3, .int (nI jQ))]) (fun x => rQ 6 - x) 4 [] ?_ 0 ?_
  · rintro _ ls ⟨jQ, rfl, hj, hl⟩ ih4
    refine lv_iload_n hx hb dX11_allPay_4 rfl (lv_at hl 3 rfl) ?_
    refine lv_aload_n hx hb dX11_allPay_5 rfl (lv_at hl 0 rfl) ?_
    refine lv_bipush (v := nI 6) hx hb dX11_allPay_6 (by decide +kernel) ?_
    refine nv_ald hx hb hK hP 0 rfl (by omega) (by decide) dX11_allPay_8 ?_
    refine nv_ge (tgt := 27) hx hb (by omega) (by omega) dX11_allPay_9 (by decide) (fun hc9 => ?_) (fun hc9 => ?_)
    · refine lv_iload_n hx hb dX11_allPay_27 rfl (lv_at hl 2 rfl) ?_
      exact nv_ri hx hb hr hlocks dX11_allPay_28 (by rw [show jQ = rQ 6 by omega])
    · refine lv_iload_n hx hb dX11_allPay_12 rfl (lv_at hl 2 rfl) ?_
      refine lv_aload_n hx hb dX11_allPay_13 rfl (lv_at hl 0 rfl) ?_
      refine lv_iload_n hx hb dX11_allPay_14 rfl (lv_at hl 3 rfl) ?_
      refine lv_iload_n hx hb dX11_allPay_15 rfl (lv_at hl 1 rfl) ?_
      have hPc := hP.sub (ws' := [aN z aQ 31 rQ]) [0] rfl
      refine nv_cp1 (va_runS (As := [.ref aQ, .int (nI jQ), .int (nI mnQ)]) (rest := [.int (nI (apF rQ mnQ jQ))]) ⟨hx, hb, hml, hown, hts⟩ (c_X11_paysOf l D z w0Q aQ rQ jQ mnQ (by first | assumption | omega) (by first | assumption | omega) (by first | assumption | omega) (by first | assumption | omega)) (va_cwS 3 hts (gS m_557 m_558 m_541 m_553) rfl rfl rfl hd_X11_paysOf ⟨Nat.le_of_ble_eq_true rfl, Nat.le_of_ble_eq_true rfl⟩) (nv_preP hK hPc trivial _) rfl rfl hl.1 rfl (lv_room (Nat.le_of_ble_eq_true rfl)) dX11_allPay_16 ⟨Nat.le_refl _, Nat.le_refl _⟩) ?_
      refine nv_add hx hb dX11_allPay_19 ?_
      refine lv_istore_n (lv' := [(2, .int (nI (apF rQ mnQ jQ + (paF rQ jQ mnQ)))), (0, .ref aQ), (1, .int (nI mnQ)), (3, .int (nI jQ))]) hx hb dX11_allPay_20 rfl hl (by decide) rfl (fun ls hl => ?_)
      refine lv_iinc (v := nI (jQ + 1)) (lv' := [(3, .int (nI (jQ + 1))), (2, .int (nI (apF rQ mnQ jQ + (paF rQ jQ mnQ)))), (0, .ref aQ), (1, .int (nI mnQ))]) hx hb dX11_allPay_21 hl (k := 3) rfl (nI_inc _) (by decide) rfl (fun ls hl => ?_)
      refine lv_goto (tgt := 4) hx hb dX11_allPay_24 (by decide) ?_
      exact ih4 (jQ + 1) _ (by omega) ⟨jQ + 1, rfl, (by omega), lv_sub hl [2, 3, 1, 0] rfl⟩
  · exact ⟨0, rfl, (by omega), lv_sub hl [2, 3, 1, 0] rfl⟩
