theorem bc_64b : ∀ n, n < 64 → (fun x : Int32 => (fun y : Int32 => (fun w : Int32 => (fun v : Int32 => (fun u : Int32 => u &&& nI 63) (v + (v.toUInt32 >>> ((nI 16).toUInt32 &&& Int32.toUInt32 31)).toInt32)) (w + (w.toUInt32 >>> ((nI 8).toUInt32 &&& Int32.toUInt32 31)).toInt32)) ((y + (y.toUInt32 >>> ((nI 4).toUInt32 &&& Int32.toUInt32 31)).toInt32) &&& nI 252645135)) ((x &&& nI 858993459) + ((x.toUInt32 >>> ((nI 2).toUInt32 &&& Int32.toUInt32 31)).toInt32 &&& nI 858993459))) (nI n - (((nI n).toUInt32 >>> ((nI 1).toUInt32 &&& Int32.toUInt32 31)).toInt32 &&& nI 1431655765)) = nI (biF n 6) := by decide +kernel

set_option maxHeartbeats 4000000 in
set_option maxRecDepth 100000 in
theorem c_J6_bitCount_0f7a4 (l : Launch) (D : va_G) (z : Nat → ClassId) (sn : Nat) (hs : sn < 64) : CP l yJ6_bitCount_0f7a4 cJ6_bitCount_0f7a4 1 (some .int) 0 0 [.int (nI sn)] D z [] (fun _ => True) (some (.int (nI (biF sn 6)))) := by
  refine Met.ofW (cc := cJ6_bitCount_0f7a4) (maxL := 1) (ret := (some .int)) (by decide) rfl ?_
  intro pg e s m args below meth c s₁ B hml hv
  obtain ⟨rfl, hP, hK, hE⟩ := hv
  have hx := B.exec
  have hb := B.bytes
  have hr := B.returns
  have hts : ∀ w ∈ ALL, w.before _ s = true := fun w h => atoms_spec (ws := wA yJ6_bitCount_0f7a4 cJ6_bitCount_0f7a4 1 (some .int)) B.pre w (List.mem_cons_of_mem _ h)
  have hown : s.vm.findClass RJ6 = some m.cls := findClass_of_methodNamed B.named
  have hlocks := B.notSynchronized
  have hl := lv_entry ([.int (nI sn)]) (n := 1) (Nat.le_of_ble_eq_true rfl)
  rw [lg_entry_eq]
  generalize (lg_sl ([.int (nI sn)]) ++ List.replicate (1 - (lg_sl ([.int (nI sn)])).length) Slot.unset).toArray = ls at hl ⊢
  have hl : lv_has ls 1 [(0, .int (nI sn))] := hl
  refine lv_iload_n hx hb dJ6_bitCount_0f7a4_0 rfl (lv_at hl 0 rfl) ?_
  refine lv_iload_n hx hb dJ6_bitCount_0f7a4_1 rfl (lv_at hl 0 rfl) ?_
  refine lv_iconst (v := nI 1) hx hb dJ6_bitCount_0f7a4_2 (by decide +kernel) ?_
  refine lv_iushr hx hb dJ6_bitCount_0f7a4_3 rfl ?_
  refine lv_ldcw (own := RJ6) hx hb hown (hts _ m_67) dJ6_bitCount_0f7a4_4 ?_
  refine W.eq (g2 := F0 m 7 ls [.int (nI 1431655765), .int (((nI sn).toUInt32 >>> ((nI 1).toUInt32 &&& Int32.toUInt32 31)).toInt32), .int (nI sn)]) rfl ?_
  refine lv_iand hx hb dJ6_bitCount_0f7a4_7 ?_
  refine lv_isub hx hb dJ6_bitCount_0f7a4_8 ?_
  refine lv_topi (fun b1 hb1 => ?_)
  refine lv_istore_n (lv' := [(0, .int b1)]) hx hb dJ6_bitCount_0f7a4_9 rfl hl (by decide) rfl (fun ls hl => ?_)
  refine lv_iload_n hx hb dJ6_bitCount_0f7a4_10 rfl (lv_at hl 0 rfl) ?_
  refine lv_ldcw (own := RJ6) hx hb hown (hts _ m_68) dJ6_bitCount_0f7a4_11 ?_
  refine W.eq (g2 := F0 m 14 ls [.int (nI 858993459), .int b1]) rfl ?_
  refine lv_iand hx hb dJ6_bitCount_0f7a4_14 ?_
  refine lv_iload_n hx hb dJ6_bitCount_0f7a4_15 rfl (lv_at hl 0 rfl) ?_
  refine lv_iconst (v := nI 2) hx hb dJ6_bitCount_0f7a4_16 (by decide +kernel) ?_
  refine lv_iushr hx hb dJ6_bitCount_0f7a4_17 rfl ?_
  refine lv_ldcw (own := RJ6) hx hb hown (hts _ m_68) dJ6_bitCount_0f7a4_18 ?_
  refine W.eq (g2 := F0 m 21 ls [.int (nI 858993459), .int ((b1.toUInt32 >>> ((nI 2).toUInt32 &&& Int32.toUInt32 31)).toInt32), .int (b1 &&& (nI 858993459))]) rfl ?_
  refine lv_iand hx hb dJ6_bitCount_0f7a4_21 ?_
  refine lv_iadd hx hb dJ6_bitCount_0f7a4_22 ?_
  refine lv_topi (fun b2 hb2 => ?_)
  refine lv_istore_n (lv' := [(0, .int b2)]) hx hb dJ6_bitCount_0f7a4_23 rfl hl (by decide) rfl (fun ls hl => ?_)
  refine lv_iload_n hx hb dJ6_bitCount_0f7a4_24 rfl (lv_at hl 0 rfl) ?_
  refine lv_iload_n hx hb dJ6_bitCount_0f7a4_25 rfl (lv_at hl 0 rfl) ?_
  refine lv_iconst (v := nI 4) hx hb dJ6_bitCount_0f7a4_26 (by decide +kernel) ?_
  refine lv_iushr hx hb dJ6_bitCount_0f7a4_27 rfl ?_
  refine lv_iadd hx hb dJ6_bitCount_0f7a4_28 ?_
  refine lv_ldcw (own := RJ6) hx hb hown (hts _ m_69) dJ6_bitCount_0f7a4_29 ?_
  refine W.eq (g2 := F0 m 32 ls [.int (nI 252645135), .int (b2 + ((b2.toUInt32 >>> ((nI 4).toUInt32 &&& Int32.toUInt32 31)).toInt32))]) rfl ?_
  refine lv_iand hx hb dJ6_bitCount_0f7a4_32 ?_
  refine lv_topi (fun b3 hb3 => ?_)
  refine lv_istore_n (lv' := [(0, .int b3)]) hx hb dJ6_bitCount_0f7a4_33 rfl hl (by decide) rfl (fun ls hl => ?_)
  refine lv_iload_n hx hb dJ6_bitCount_0f7a4_34 rfl (lv_at hl 0 rfl) ?_
  refine lv_iload_n hx hb dJ6_bitCount_0f7a4_35 rfl (lv_at hl 0 rfl) ?_
  refine lv_bipush (v := nI 8) hx hb dJ6_bitCount_0f7a4_36 (by decide +kernel) ?_
  refine lv_iushr hx hb dJ6_bitCount_0f7a4_38 rfl ?_
  refine lv_iadd hx hb dJ6_bitCount_0f7a4_39 ?_
  refine lv_topi (fun b4 hb4 => ?_)
  refine lv_istore_n (lv' := [(0, .int b4)]) hx hb dJ6_bitCount_0f7a4_40 rfl hl (by decide) rfl (fun ls hl => ?_)
  refine lv_iload_n hx hb dJ6_bitCount_0f7a4_41 rfl (lv_at hl 0 rfl) ?_
  refine lv_iload_n hx hb dJ6_bitCount_0f7a4_42 rfl (lv_at hl 0 rfl) ?_
  refine lv_bipush (v := nI 16) hx hb dJ6_bitCount_0f7a4_43 (by decide +kernel) ?_
  refine lv_iushr hx hb dJ6_bitCount_0f7a4_45 rfl ?_
  refine lv_iadd hx hb dJ6_bitCount_0f7a4_46 ?_
  refine lv_topi (fun b5 hb5 => ?_)
  refine lv_istore_n (lv' := [(0, .int b5)]) hx hb dJ6_bitCount_0f7a4_47 rfl hl (by decide) rfl (fun ls hl => ?_)
  refine lv_iload_n hx hb dJ6_bitCount_0f7a4_48 rfl (lv_at hl 0 rfl) ?_
  refine lv_bipush (v := nI 63) hx hb dJ6_bitCount_0f7a4_49 (by decide +kernel) ?_
  refine lv_iand hx hb dJ6_bitCount_0f7a4_51 ?_
  exact nv_ri hx hb hr hlocks dJ6_bitCount_0f7a4_52 (by subst hb5; subst hb4; subst hb3; subst hb2; subst hb1; exact bc_64b sn hs)

set_option maxHeartbeats 4000000 in
set_option maxRecDepth 100000 in
theorem c_X6_words_6 (l : Launch) (D : va_G) (z : Nat → ClassId) (aQ : Nat) (t : Nat) (mnQ : Nat) (hbt : Nat) (pr : Nat) (wk : Nat) (ht : t ≤ 9) (hm : mnQ ≤ 20) (hh : hbt ≤ 99) (hp : pr ≤ 100) (hw : wk ≤ 20000) : CP l yX6_words cX6_words 6 (some .int) 0 0 [.ref aQ, .int (nI mnQ), .int (nI hbt), .int (nI pr), .int (nI wk)] D z [(aQ, .inr (6, [.int (nI t)]))] (fun _ => True) (some (.int (nI (plK mnQ t hbt pr)))) := by
  refine Met.ofW (cc := cX6_words) (maxL := 6) (ret := (some .int)) (by decide) rfl ?_
  intro pg e s m args below meth c s₁ B hml hv
  obtain ⟨rfl, hP, hK, hE⟩ := hv
  have hx := B.exec
  have hb := B.bytes
  have hr := B.returns
  have hts : ∀ w ∈ ALL, w.before _ s = true := fun w h => atoms_spec (ws := wA yX6_words cX6_words 6 (some .int)) B.pre w (List.mem_cons_of_mem _ h)
  have hown : s.vm.findClass RX6 = some m.cls := findClass_of_methodNamed B.named
  have hlocks := B.notSynchronized
  have hq1 : mnQ * t ≤ 20 * 9 := Nat.mul_le_mul hm ht
  have hq2 : mnQ * t * hbt ≤ 20 * 9 * 99 := Nat.mul_le_mul hq1 hh
  have hq3 : mnQ * t * hbt / (pr + 20) ≤ mnQ * t * hbt := Nat.div_le_self _ _
  have hl := lv_entry ([.ref aQ, .int (nI mnQ), .int (nI hbt), .int (nI pr), .int (nI wk)]) (n := 6) (Nat.le_of_ble_eq_true rfl)
  rw [lg_entry_eq]
  generalize (lg_sl ([.ref aQ, .int (nI mnQ), .int (nI hbt), .int (nI pr), .int (nI wk)]) ++ List.replicate (6 - (lg_sl ([.ref aQ, .int (nI mnQ), .int (nI hbt), .int (nI pr), .int (nI wk)])).length) Slot.unset).toArray = ls at hl ⊢
  have hl : lv_has ls 6 [(0, .ref aQ), (1, .int (nI mnQ)), (2, .int (nI hbt)), (3, .int (nI pr)), (4, .int (nI wk))] := hl
  refine lv_iload_n hx hb dX6_words_0 rfl (lv_at hl 1 rfl) ?_
  refine lv_aload_n hx hb dX6_words_1 rfl (lv_at hl 0 rfl) ?_
  refine va_get (D := D) (ci := 6) (v := .int (nI t)) (C := RX6) (T := TX6) (N := 1) hx hb hts iX6 hown hK.1 hP 0 rfl rfl 0 (by decide) (hts _ m_4) (fun _ h9 => h9) rfl dX6_words_2 ?_
  refine nv_mul hx hb dX6_words_5 ?_
  refine lv_iload_n hx hb dX6_words_6 rfl (lv_at hl 2 rfl) ?_
  refine nv_mul hx hb dX6_words_7 ?_
  refine lv_iload_n hx hb dX6_words_8 rfl (lv_at hl 3 rfl) ?_
  refine lv_bipush (v := nI 20) hx hb dX6_words_9 (by decide +kernel) ?_
  refine nv_add hx hb dX6_words_11 ?_
  refine nv_div hx hb (by omega) (by omega) (by omega) dX6_words_12 ?_
  refine lv_istore (lv' := [(5, .int (nI (((mnQ * t) * hbt) / (pr + 20)))), (0, .ref aQ), (1, .int (nI mnQ)), (2, .int (nI hbt)), (3, .int (nI pr)), (4, .int (nI wk))]) hx hb dX6_words_13 hl (by decide) rfl (fun ls hl => ?_)
  refine lv_iload hx hb dX6_words_15 (lv_at hl 0 rfl) ?_
  refine lv_bipush (v := nI 99) hx hb dX6_words_17 (by decide +kernel) ?_
  refine nv_ge (tgt := 27) hx hb (by omega) (by omega) dX6_words_19 (by decide) (fun hc19 => ?_) (fun hc19 => ?_)
  · refine lv_bipush (v := nI 99) hx hb dX6_words_27 (by decide +kernel) ?_
    exact nv_ri hx hb hr hlocks dX6_words_29 (by unfold plK; first | (rw [if_neg (by omega)]; done) | (split <;> first | rfl | (congr 1; omega)))
  · refine lv_iload hx hb dX6_words_22 (lv_at hl 0 rfl) ?_
    refine lv_goto (tgt := 29) hx hb dX6_words_24 (by decide) ?_
    exact nv_ri hx hb hr hlocks dX6_words_29 (by unfold plK; first | (rw [if_neg (by omega)]; done) | (split <;> first | rfl | (congr 1; omega)))

set_option maxHeartbeats 4000000 in
set_option maxRecDepth 100000 in
theorem c_X6_words_0 (l : Launch) (D : va_G) (z : Nat → ClassId) (aQ : Nat) (t : Nat) (mnQ : Nat) (hbt : Nat) (pr : Nat) (wk : Nat) (ht : t ≤ 9) (hm : mnQ ≤ 20) (hh : hbt ≤ 99) (hp : pr ≤ 100) (hw : wk ≤ 20000) : CP l yX6_words cX6_words 6 (some .int) 0 0 [.ref aQ, .int (nI mnQ), .int (nI hbt), .int (nI pr), .int (nI wk)] D z [(aQ, .inr (0, [.int (nI t)]))] (fun _ => True) (some (.int (nI (plK mnQ t hbt pr)))) := by
  refine Met.ofW (cc := cX6_words) (maxL := 6) (ret := (some .int)) (by decide) rfl ?_
  intro pg e s m args below meth c s₁ B hml hv
  obtain ⟨rfl, hP, hK, hE⟩ := hv
  have hx := B.exec
  have hb := B.bytes
  have hr := B.returns
  have hts : ∀ w ∈ ALL, w.before _ s = true := fun w h => atoms_spec (ws := wA yX6_words cX6_words 6 (some .int)) B.pre w (List.mem_cons_of_mem _ h)
  have hown : s.vm.findClass RX6 = some m.cls := findClass_of_methodNamed B.named
  have hlocks := B.notSynchronized
  have hq1 : mnQ * t ≤ 20 * 9 := Nat.mul_le_mul hm ht
  have hq2 : mnQ * t * hbt ≤ 20 * 9 * 99 := Nat.mul_le_mul hq1 hh
  have hq3 : mnQ * t * hbt / (pr + 20) ≤ mnQ * t * hbt := Nat.div_le_self _ _
  have hl := lv_entry ([.ref aQ, .int (nI mnQ), .int (nI hbt), .int (nI pr), .int (nI wk)]) (n := 6) (Nat.le_of_ble_eq_true rfl)
  rw [lg_entry_eq]
  generalize (lg_sl ([.ref aQ, .int (nI mnQ), .int (nI hbt), .int (nI pr), .int (nI wk)]) ++ List.replicate (6 - (lg_sl ([.ref aQ, .int (nI mnQ), .int (nI hbt), .int (nI pr), .int (nI wk)])).length) Slot.unset).toArray = ls at hl ⊢
  have hl : lv_has ls 6 [(0, .ref aQ), (1, .int (nI mnQ)), (2, .int (nI hbt)), (3, .int (nI pr)), (4, .int (nI wk))] := hl
  refine lv_iload_n hx hb dX6_words_0 rfl (lv_at hl 1 rfl) ?_
  refine lv_aload_n hx hb dX6_words_1 rfl (lv_at hl 0 rfl) ?_
  refine va_get (D := D) (ci := 0) (v := .int (nI t)) (C := RX0) (T := TX0) (N := 1) hx hb hts iX0 hown hK.1 hP 0 rfl rfl 0 (by decide) (hts _ m_4) (fun _ h9 => h9) rfl dX6_words_2 ?_
  refine nv_mul hx hb dX6_words_5 ?_
  refine lv_iload_n hx hb dX6_words_6 rfl (lv_at hl 2 rfl) ?_
  refine nv_mul hx hb dX6_words_7 ?_
  refine lv_iload_n hx hb dX6_words_8 rfl (lv_at hl 3 rfl) ?_
  refine lv_bipush (v := nI 20) hx hb dX6_words_9 (by decide +kernel) ?_
  refine nv_add hx hb dX6_words_11 ?_
  refine nv_div hx hb (by omega) (by omega) (by omega) dX6_words_12 ?_
  refine lv_istore (lv' := [(5, .int (nI (((mnQ * t) * hbt) / (pr + 20)))), (0, .ref aQ), (1, .int (nI mnQ)), (2, .int (nI hbt)), (3, .int (nI pr)), (4, .int (nI wk))]) hx hb dX6_words_13 hl (by decide) rfl (fun ls hl => ?_)
  refine lv_iload hx hb dX6_words_15 (lv_at hl 0 rfl) ?_
  refine lv_bipush (v := nI 99) hx hb dX6_words_17 (by decide +kernel) ?_
  refine nv_ge (tgt := 27) hx hb (by omega) (by omega) dX6_words_19 (by decide) (fun hc19 => ?_) (fun hc19 => ?_)
  · refine lv_bipush (v := nI 99) hx hb dX6_words_27 (by decide +kernel) ?_
    exact nv_ri hx hb hr hlocks dX6_words_29 (by unfold plK; first | (rw [if_neg (by omega)]; done) | (split <;> first | rfl | (congr 1; omega)))
  · refine lv_iload hx hb dX6_words_22 (lv_at hl 0 rfl) ?_
    refine lv_goto (tgt := 29) hx hb dX6_words_24 (by decide) ?_
    exact nv_ri hx hb hr hlocks dX6_words_29 (by unfold plK; first | (rw [if_neg (by omega)]; done) | (split <;> first | rfl | (congr 1; omega)))

set_option maxHeartbeats 4000000 in
set_option maxRecDepth 100000 in
theorem c_X6_words_2 (l : Launch) (D : va_G) (z : Nat → ClassId) (aQ : Nat) (t : Nat) (mnQ : Nat) (hbt : Nat) (pr : Nat) (wk : Nat) (ht : t ≤ 9) (hm : mnQ ≤ 20) (hh : hbt ≤ 99) (hp : pr ≤ 100) (hw : wk ≤ 20000) : CP l yX6_words cX6_words 6 (some .int) 0 0 [.ref aQ, .int (nI mnQ), .int (nI hbt), .int (nI pr), .int (nI wk)] D z [(aQ, .inr (2, [.int (nI t)]))] (fun _ => True) (some (.int (nI (plK mnQ t hbt pr)))) := by
  refine Met.ofW (cc := cX6_words) (maxL := 6) (ret := (some .int)) (by decide) rfl ?_
  intro pg e s m args below meth c s₁ B hml hv
  obtain ⟨rfl, hP, hK, hE⟩ := hv
  have hx := B.exec
  have hb := B.bytes
  have hr := B.returns
  have hts : ∀ w ∈ ALL, w.before _ s = true := fun w h => atoms_spec (ws := wA yX6_words cX6_words 6 (some .int)) B.pre w (List.mem_cons_of_mem _ h)
  have hown : s.vm.findClass RX6 = some m.cls := findClass_of_methodNamed B.named
  have hlocks := B.notSynchronized
  have hq1 : mnQ * t ≤ 20 * 9 := Nat.mul_le_mul hm ht
  have hq2 : mnQ * t * hbt ≤ 20 * 9 * 99 := Nat.mul_le_mul hq1 hh
  have hq3 : mnQ * t * hbt / (pr + 20) ≤ mnQ * t * hbt := Nat.div_le_self _ _
  have hl := lv_entry ([.ref aQ, .int (nI mnQ), .int (nI hbt), .int (nI pr), .int (nI wk)]) (n := 6) (Nat.le_of_ble_eq_true rfl)
  rw [lg_entry_eq]
  generalize (lg_sl ([.ref aQ, .int (nI mnQ), .int (nI hbt), .int (nI pr), .int (nI wk)]) ++ List.replicate (6 - (lg_sl ([.ref aQ, .int (nI mnQ), .int (nI hbt), .int (nI pr), .int (nI wk)])).length) Slot.unset).toArray = ls at hl ⊢
  have hl : lv_has ls 6 [(0, .ref aQ), (1, .int (nI mnQ)), (2, .int (nI hbt)), (3, .int (nI pr)), (4, .int (nI wk))] := hl
  refine lv_iload_n hx hb dX6_words_0 rfl (lv_at hl 1 rfl) ?_
  refine lv_aload_n hx hb dX6_words_1 rfl (lv_at hl 0 rfl) ?_
  refine va_get (D := D) (ci := 2) (v := .int (nI t)) (C := RX2) (T := TX2) (N := 1) hx hb hts iX2 hown hK.1 hP 0 rfl rfl 0 (by decide) (hts _ m_4) (fun _ h9 => h9) rfl dX6_words_2 ?_
  refine nv_mul hx hb dX6_words_5 ?_
  refine lv_iload_n hx hb dX6_words_6 rfl (lv_at hl 2 rfl) ?_
  refine nv_mul hx hb dX6_words_7 ?_
  refine lv_iload_n hx hb dX6_words_8 rfl (lv_at hl 3 rfl) ?_
  refine lv_bipush (v := nI 20) hx hb dX6_words_9 (by decide +kernel) ?_
  refine nv_add hx hb dX6_words_11 ?_
  refine nv_div hx hb (by omega) (by omega) (by omega) dX6_words_12 ?_
  refine lv_istore (lv' := [(5, .int (nI (((mnQ * t) * hbt) / (pr + 20)))), (0, .ref aQ), (1, .int (nI mnQ)), (2, .int (nI hbt)), (3, .int (nI pr)), (4, .int (nI wk))]) hx hb dX6_words_13 hl (by decide) rfl (fun ls hl => ?_)
  refine lv_iload hx hb dX6_words_15 (lv_at hl 0 rfl) ?_
  refine lv_bipush (v := nI 99) hx hb dX6_words_17 (by decide +kernel) ?_
  refine nv_ge (tgt := 27) hx hb (by omega) (by omega) dX6_words_19 (by decide) (fun hc19 => ?_) (fun hc19 => ?_)
  · refine lv_bipush (v := nI 99) hx hb dX6_words_27 (by decide +kernel) ?_
    exact nv_ri hx hb hr hlocks dX6_words_29 (by unfold plK; first | (rw [if_neg (by omega)]; done) | (split <;> first | rfl | (congr 1; omega)))
  · refine lv_iload hx hb dX6_words_22 (lv_at hl 0 rfl) ?_
    refine lv_goto (tgt := 29) hx hb dX6_words_24 (by decide) ?_
    exact nv_ri hx hb hr hlocks dX6_words_29 (by unfold plK; first | (rw [if_neg (by omega)]; done) | (split <;> first | rfl | (congr 1; omega)))

set_option maxHeartbeats 4000000 in
set_option maxRecDepth 100000 in
theorem c_X6_words_4 (l : Launch) (D : va_G) (z : Nat → ClassId) (aQ : Nat) (t : Nat) (mnQ : Nat) (hbt : Nat) (pr : Nat) (wk : Nat) (ht : t ≤ 9) (hm : mnQ ≤ 20) (hh : hbt ≤ 99) (hp : pr ≤ 100) (hw : wk ≤ 20000) : CP l yX6_words cX6_words 6 (some .int) 0 0 [.ref aQ, .int (nI mnQ), .int (nI hbt), .int (nI pr), .int (nI wk)] D z [(aQ, .inr (4, [.int (nI t)]))] (fun _ => True) (some (.int (nI (plK mnQ t hbt pr)))) := by
  refine Met.ofW (cc := cX6_words) (maxL := 6) (ret := (some .int)) (by decide) rfl ?_
  intro pg e s m args below meth c s₁ B hml hv
  obtain ⟨rfl, hP, hK, hE⟩ := hv
  have hx := B.exec
  have hb := B.bytes
  have hr := B.returns
  have hts : ∀ w ∈ ALL, w.before _ s = true := fun w h => atoms_spec (ws := wA yX6_words cX6_words 6 (some .int)) B.pre w (List.mem_cons_of_mem _ h)
  have hown : s.vm.findClass RX6 = some m.cls := findClass_of_methodNamed B.named
  have hlocks := B.notSynchronized
  have hq1 : mnQ * t ≤ 20 * 9 := Nat.mul_le_mul hm ht
  have hq2 : mnQ * t * hbt ≤ 20 * 9 * 99 := Nat.mul_le_mul hq1 hh
  have hq3 : mnQ * t * hbt / (pr + 20) ≤ mnQ * t * hbt := Nat.div_le_self _ _
  have hl := lv_entry ([.ref aQ, .int (nI mnQ), .int (nI hbt), .int (nI pr), .int (nI wk)]) (n := 6) (Nat.le_of_ble_eq_true rfl)
  rw [lg_entry_eq]
  generalize (lg_sl ([.ref aQ, .int (nI mnQ), .int (nI hbt), .int (nI pr), .int (nI wk)]) ++ List.replicate (6 - (lg_sl ([.ref aQ, .int (nI mnQ), .int (nI hbt), .int (nI pr), .int (nI wk)])).length) Slot.unset).toArray = ls at hl ⊢
  have hl : lv_has ls 6 [(0, .ref aQ), (1, .int (nI mnQ)), (2, .int (nI hbt)), (3, .int (nI pr)), (4, .int (nI wk))] := hl
  refine lv_iload_n hx hb dX6_words_0 rfl (lv_at hl 1 rfl) ?_
  refine lv_aload_n hx hb dX6_words_1 rfl (lv_at hl 0 rfl) ?_
  refine va_get (D := D) (ci := 4) (v := .int (nI t)) (C := RX4) (T := TX4) (N := 1) hx hb hts iX4 hown hK.1 hP 0 rfl rfl 0 (by decide) (hts _ m_4) (fun _ h9 => h9) rfl dX6_words_2 ?_
  refine nv_mul hx hb dX6_words_5 ?_
  refine lv_iload_n hx hb dX6_words_6 rfl (lv_at hl 2 rfl) ?_
  refine nv_mul hx hb dX6_words_7 ?_
  refine lv_iload_n hx hb dX6_words_8 rfl (lv_at hl 3 rfl) ?_
  refine lv_bipush (v := nI 20) hx hb dX6_words_9 (by decide +kernel) ?_
  refine nv_add hx hb dX6_words_11 ?_
  refine nv_div hx hb (by omega) (by omega) (by omega) dX6_words_12 ?_
  refine lv_istore (lv' := [(5, .int (nI (((mnQ * t) * hbt) / (pr + 20)))), (0, .ref aQ), (1, .int (nI mnQ)), (2, .int (nI hbt)), (3, .int (nI pr)), (4, .int (nI wk))]) hx hb dX6_words_13 hl (by decide) rfl (fun ls hl => ?_)
  refine lv_iload hx hb dX6_words_15 (lv_at hl 0 rfl) ?_
  refine lv_bipush (v := nI 99) hx hb dX6_words_17 (by decide +kernel) ?_
  refine nv_ge (tgt := 27) hx hb (by omega) (by omega) dX6_words_19 (by decide) (fun hc19 => ?_) (fun hc19 => ?_)
  · refine lv_bipush (v := nI 99) hx hb dX6_words_27 (by decide +kernel) ?_
    exact nv_ri hx hb hr hlocks dX6_words_29 (by unfold plK; first | (rw [if_neg (by omega)]; done) | (split <;> first | rfl | (congr 1; omega)))
  · refine lv_iload hx hb dX6_words_22 (lv_at hl 0 rfl) ?_
    refine lv_goto (tgt := 29) hx hb dX6_words_24 (by decide) ?_
    exact nv_ri hx hb hr hlocks dX6_words_29 (by unfold plK; first | (rw [if_neg (by omega)]; done) | (split <;> first | rfl | (congr 1; omega)))

set_option maxHeartbeats 4000000 in
set_option maxRecDepth 100000 in
theorem c_X6_pays (l : Launch) (D : va_G) (z : Nat → ClassId) (aQ : Nat) (w9 : Nat) (pr : Nat) (hw9 : w9 ≤ 99) (hp : pr ≤ 100) : CP l yX6_pays cX6_pays 3 (some .int) 0 0 [.ref aQ, .int (nI w9), .int (nI pr)] D z [] (fun _ => True) (some (.int (nI (w9 * pr)))) := by
  refine Met.ofW (cc := cX6_pays) (maxL := 3) (ret := (some .int)) (by decide) rfl ?_
  intro pg e s m args below meth c s₁ B hml hv
  obtain ⟨rfl, hP, hK, hE⟩ := hv
  have hx := B.exec
  have hb := B.bytes
  have hr := B.returns
  have hts : ∀ w ∈ ALL, w.before _ s = true := fun w h => atoms_spec (ws := wA yX6_pays cX6_pays 3 (some .int)) B.pre w (List.mem_cons_of_mem _ h)
  have hown : s.vm.findClass RX6 = some m.cls := findClass_of_methodNamed B.named
  have hlocks := B.notSynchronized
  have hl := lv_entry ([.ref aQ, .int (nI w9), .int (nI pr)]) (n := 3) (Nat.le_of_ble_eq_true rfl)
  rw [lg_entry_eq]
  generalize (lg_sl ([.ref aQ, .int (nI w9), .int (nI pr)]) ++ List.replicate (3 - (lg_sl ([.ref aQ, .int (nI w9), .int (nI pr)])).length) Slot.unset).toArray = ls at hl ⊢
  have hl : lv_has ls 3 [(0, .ref aQ), (1, .int (nI w9)), (2, .int (nI pr))] := hl
  refine lv_iload_n hx hb dX6_pays_0 rfl (lv_at hl 1 rfl) ?_
  refine lv_iload_n hx hb dX6_pays_1 rfl (lv_at hl 2 rfl) ?_
  refine nv_mul hx hb dX6_pays_2 ?_
  exact nv_ri hx hb hr hlocks dX6_pays_3 rfl

set_option maxHeartbeats 4000000 in
set_option maxRecDepth 100000 in
theorem c_X6_habitThen (l : Launch) (D : va_G) (z : Nat → ClassId) (aQ : Nat) (hbt : Nat) (pa : Nat) (hh : hbt ≤ 99) (hpa : pa ≤ 19800) : CP l yX6_habitThen cX6_habitThen 3 (some .int) 1 17 [.ref aQ, .int (nI hbt), .int (nI pa)] D z [] (fun _ => True) (some (.int (nI (haK 0 hbt pa)))) := by
  refine Met.ofW (cc := cX6_habitThen) (maxL := 3) (ret := (some .int)) (by decide) rfl ?_
  intro pg e s m args below meth c s₁ B hml hv
  obtain ⟨rfl, hP, hK, hE⟩ := hv
  have hx := B.exec
  have hb := B.bytes
  have hr := B.returns
  have hts : ∀ w ∈ ALL, w.before _ s = true := fun w h => atoms_spec (ws := wA yX6_habitThen cX6_habitThen 3 (some .int)) B.pre w (List.mem_cons_of_mem _ h)
  have hown : s.vm.findClass RX6 = some m.cls := findClass_of_methodNamed B.named
  have hlocks := B.notSynchronized
  have hl := lv_entry ([.ref aQ, .int (nI hbt), .int (nI pa)]) (n := 3) (Nat.le_of_ble_eq_true rfl)
  rw [lg_entry_eq]
  generalize (lg_sl ([.ref aQ, .int (nI hbt), .int (nI pa)]) ++ List.replicate (3 - (lg_sl ([.ref aQ, .int (nI hbt), .int (nI pa)])).length) Slot.unset).toArray = ls at hl ⊢
  have hl : lv_has ls 3 [(0, .ref aQ), (1, .int (nI hbt)), (2, .int (nI pa))] := hl
  refine lv_iload_n hx hb dX6_habitThen_0 rfl (lv_at hl 2 rfl) ?_
  refine lv_bipush (v := nI 100) hx hb dX6_habitThen_1 (by decide +kernel) ?_
  refine nv_ge (tgt := 15) hx hb (by omega) (by omega) dX6_habitThen_3 (by decide) (fun hc3 => ?_) (fun hc3 => ?_)
  · refine lv_iconst (v := nI 0) hx hb dX6_habitThen_15 (by decide +kernel) ?_
    refine lv_iload_n hx hb dX6_habitThen_16 rfl (lv_at hl 1 rfl) ?_
    refine lv_bipush (v := nI 9) hx hb dX6_habitThen_17 (by decide +kernel) ?_
    refine lv_iload_n hx hb dX6_habitThen_19 rfl (lv_at hl 2 rfl) ?_
    refine lv_bipush (v := nI 100) hx hb dX6_habitThen_20 (by decide +kernel) ?_
    refine nv_div hx hb (by omega) (by omega) (by omega) dX6_habitThen_22 ?_
    refine nv_mmin (r9 := nI (leK pa)) hx hb (hml.trans hl.1.symm) hown (hts _ m_112) (hts _ m_13) (hts _ m_14) (hts _ m_15) (Nat.le_of_ble_eq_true rfl) (Nat.le_of_ble_eq_true rfl) (Nat.le_of_ble_eq_true rfl) (Nat.le_of_ble_eq_true rfl) (by rw [mn_n (by omega) (by omega)]; unfold leK; congr 1; split <;> split <;> omega) dX6_habitThen_23 ?_
    have hle : leK pa ≤ 9 := by unfold leK; split <;> omega
    refine lv_isub hx hb dX6_habitThen_26 ?_
    refine nv_mmax (r9 := nI (if leK pa < hbt then hbt - leK pa else 0)) hx hb (hml.trans hl.1.symm) hown (hts _ m_113) (hts _ m_114) (hts _ m_14) (hts _ m_115) (Nat.le_of_ble_eq_true rfl) (Nat.le_of_ble_eq_true rfl) (Nat.le_of_ble_eq_true rfl) (Nat.le_of_ble_eq_true rfl) (mx_d (by omega) (by omega)) dX6_habitThen_27 ?_
    exact nv_ri hx hb hr hlocks dX6_habitThen_30 (by unfold haK; first | (rw [if_pos (show 0 = 1 ∨ pa < 100 by omega)]; done) | (rw [if_neg (show ¬ (0 = 1 ∨ pa < 100) by omega)]; done))
  · refine lv_bipush (v := nI 99) hx hb dX6_habitThen_6 (by decide +kernel) ?_
    refine lv_iload_n hx hb dX6_habitThen_8 rfl (lv_at hl 1 rfl) ?_
    refine lv_iconst (v := nI 1) hx hb dX6_habitThen_9 (by decide +kernel) ?_
    refine nv_add hx hb dX6_habitThen_10 ?_
    refine nv_mmin (r9 := nI (if hbt < 99 then hbt + 1 else 99)) hx hb (hml.trans hl.1.symm) hown (hts _ m_112) (hts _ m_13) (hts _ m_14) (hts _ m_15) (Nat.le_of_ble_eq_true rfl) (Nat.le_of_ble_eq_true rfl) (Nat.le_of_ble_eq_true rfl) (Nat.le_of_ble_eq_true rfl) (by rw [mn_n (by omega) (by omega)]; congr 1; split <;> split <;> omega) dX6_habitThen_11 ?_
    exact nv_ri hx hb hr hlocks dX6_habitThen_14 (by unfold haK; first | (rw [if_pos (show 0 = 1 ∨ pa < 100 by omega)]; done) | (rw [if_neg (show ¬ (0 = 1 ∨ pa < 100) by omega)]; done))

set_option maxHeartbeats 4000000 in
set_option maxRecDepth 100000 in
theorem c_X6_kind (l : Launch) (D : va_G) (z : Nat → ClassId) (aQ : Nat)  : CP l yX6_kind cX6_kind 1 (some .int) 0 0 [.ref aQ] D z [] (fun _ => True) (some (.int (nI 0))) := by
  refine Met.ofW (cc := cX6_kind) (maxL := 1) (ret := (some .int)) (by decide) rfl ?_
  intro pg e s m args below meth c s₁ B hml hv
  obtain ⟨rfl, hP, hK, hE⟩ := hv
  have hx := B.exec
  have hb := B.bytes
  have hr := B.returns
  have hts : ∀ w ∈ ALL, w.before _ s = true := fun w h => atoms_spec (ws := wA yX6_kind cX6_kind 1 (some .int)) B.pre w (List.mem_cons_of_mem _ h)
  have hown : s.vm.findClass RX6 = some m.cls := findClass_of_methodNamed B.named
  have hlocks := B.notSynchronized
  have hl := lv_entry ([.ref aQ]) (n := 1) (Nat.le_of_ble_eq_true rfl)
  rw [lg_entry_eq]
  generalize (lg_sl ([.ref aQ]) ++ List.replicate (1 - (lg_sl ([.ref aQ])).length) Slot.unset).toArray = ls at hl ⊢
  have hl : lv_has ls 1 [(0, .ref aQ)] := hl
  refine lv_iconst (v := nI 0) hx hb dX6_kind_0 (by decide +kernel) ?_
  exact nv_ri hx hb hr hlocks dX6_kind_1 rfl

set_option maxHeartbeats 4000000 in
set_option maxRecDepth 100000 in
theorem c_X0_kind (l : Launch) (D : va_G) (z : Nat → ClassId) (aQ : Nat)  : CP l yX0_kind cX0_kind 1 (some .int) 0 0 [.ref aQ] D z [] (fun _ => True) (some (.int (nI 1))) := by
  refine Met.ofW (cc := cX0_kind) (maxL := 1) (ret := (some .int)) (by decide) rfl ?_
  intro pg e s m args below meth c s₁ B hml hv
  obtain ⟨rfl, hP, hK, hE⟩ := hv
  have hx := B.exec
  have hb := B.bytes
  have hr := B.returns
  have hts : ∀ w ∈ ALL, w.before _ s = true := fun w h => atoms_spec (ws := wA yX0_kind cX0_kind 1 (some .int)) B.pre w (List.mem_cons_of_mem _ h)
  have hown : s.vm.findClass RX0 = some m.cls := findClass_of_methodNamed B.named
  have hlocks := B.notSynchronized
  have hl := lv_entry ([.ref aQ]) (n := 1) (Nat.le_of_ble_eq_true rfl)
  rw [lg_entry_eq]
  generalize (lg_sl ([.ref aQ]) ++ List.replicate (1 - (lg_sl ([.ref aQ])).length) Slot.unset).toArray = ls at hl ⊢
  have hl : lv_has ls 1 [(0, .ref aQ)] := hl
  refine lv_iconst (v := nI 1) hx hb dX0_kind_0 (by decide +kernel) ?_
  exact nv_ri hx hb hr hlocks dX0_kind_1 rfl

set_option maxHeartbeats 4000000 in
set_option maxRecDepth 100000 in
theorem c_X2_kind (l : Launch) (D : va_G) (z : Nat → ClassId) (aQ : Nat)  : CP l yX2_kind cX2_kind 1 (some .int) 0 0 [.ref aQ] D z [] (fun _ => True) (some (.int (nI 2))) := by
  refine Met.ofW (cc := cX2_kind) (maxL := 1) (ret := (some .int)) (by decide) rfl ?_
  intro pg e s m args below meth c s₁ B hml hv
  obtain ⟨rfl, hP, hK, hE⟩ := hv
  have hx := B.exec
  have hb := B.bytes
  have hr := B.returns
  have hts : ∀ w ∈ ALL, w.before _ s = true := fun w h => atoms_spec (ws := wA yX2_kind cX2_kind 1 (some .int)) B.pre w (List.mem_cons_of_mem _ h)
  have hown : s.vm.findClass RX2 = some m.cls := findClass_of_methodNamed B.named
  have hlocks := B.notSynchronized
  have hl := lv_entry ([.ref aQ]) (n := 1) (Nat.le_of_ble_eq_true rfl)
  rw [lg_entry_eq]
  generalize (lg_sl ([.ref aQ]) ++ List.replicate (1 - (lg_sl ([.ref aQ])).length) Slot.unset).toArray = ls at hl ⊢
  have hl : lv_has ls 1 [(0, .ref aQ)] := hl
  refine lv_iconst (v := nI 2) hx hb dX2_kind_0 (by decide +kernel) ?_
  exact nv_ri hx hb hr hlocks dX2_kind_1 rfl

set_option maxHeartbeats 4000000 in
set_option maxRecDepth 100000 in
theorem c_X4_kind (l : Launch) (D : va_G) (z : Nat → ClassId) (aQ : Nat)  : CP l yX4_kind cX4_kind 1 (some .int) 0 0 [.ref aQ] D z [] (fun _ => True) (some (.int (nI 3))) := by
  refine Met.ofW (cc := cX4_kind) (maxL := 1) (ret := (some .int)) (by decide) rfl ?_
  intro pg e s m args below meth c s₁ B hml hv
  obtain ⟨rfl, hP, hK, hE⟩ := hv
  have hx := B.exec
  have hb := B.bytes
  have hr := B.returns
  have hts : ∀ w ∈ ALL, w.before _ s = true := fun w h => atoms_spec (ws := wA yX4_kind cX4_kind 1 (some .int)) B.pre w (List.mem_cons_of_mem _ h)
  have hown : s.vm.findClass RX4 = some m.cls := findClass_of_methodNamed B.named
  have hlocks := B.notSynchronized
  have hl := lv_entry ([.ref aQ]) (n := 1) (Nat.le_of_ble_eq_true rfl)
  rw [lg_entry_eq]
  generalize (lg_sl ([.ref aQ]) ++ List.replicate (1 - (lg_sl ([.ref aQ])).length) Slot.unset).toArray = ls at hl ⊢
  have hl : lv_has ls 1 [(0, .ref aQ)] := hl
  refine lv_iconst (v := nI 3) hx hb dX4_kind_0 (by decide +kernel) ?_
  exact nv_ri hx hb hr hlocks dX4_kind_1 rfl

set_option maxHeartbeats 4000000 in
set_option maxRecDepth 100000 in
theorem c_X8_kind (l : Launch) (D : va_G) (z : Nat → ClassId) (aQ : Nat)  : CP l yX8_kind cX8_kind 1 (some .int) 0 0 [.ref aQ] D z [] (fun _ => True) (some (.int (nI 4))) := by
  refine Met.ofW (cc := cX8_kind) (maxL := 1) (ret := (some .int)) (by decide) rfl ?_
  intro pg e s m args below meth c s₁ B hml hv
  obtain ⟨rfl, hP, hK, hE⟩ := hv
  have hx := B.exec
  have hb := B.bytes
  have hr := B.returns
  have hts : ∀ w ∈ ALL, w.before _ s = true := fun w h => atoms_spec (ws := wA yX8_kind cX8_kind 1 (some .int)) B.pre w (List.mem_cons_of_mem _ h)
  have hown : s.vm.findClass RX8 = some m.cls := findClass_of_methodNamed B.named
  have hlocks := B.notSynchronized
  have hl := lv_entry ([.ref aQ]) (n := 1) (Nat.le_of_ble_eq_true rfl)
  rw [lg_entry_eq]
  generalize (lg_sl ([.ref aQ]) ++ List.replicate (1 - (lg_sl ([.ref aQ])).length) Slot.unset).toArray = ls at hl ⊢
  have hl : lv_has ls 1 [(0, .ref aQ)] := hl
  refine lv_iconst (v := nI 4) hx hb dX8_kind_0 (by decide +kernel) ?_
  exact nv_ri hx hb hr hlocks dX8_kind_1 rfl

set_option maxHeartbeats 4000000 in
set_option maxRecDepth 100000 in
theorem c_X1_kind (l : Launch) (D : va_G) (z : Nat → ClassId) (aQ : Nat)  : CP l yX1_kind cX1_kind 1 (some .int) 0 0 [.ref aQ] D z [] (fun _ => True) (some (.int (nI 5))) := by
  refine Met.ofW (cc := cX1_kind) (maxL := 1) (ret := (some .int)) (by decide) rfl ?_
  intro pg e s m args below meth c s₁ B hml hv
  obtain ⟨rfl, hP, hK, hE⟩ := hv
  have hx := B.exec
  have hb := B.bytes
  have hr := B.returns
  have hts : ∀ w ∈ ALL, w.before _ s = true := fun w h => atoms_spec (ws := wA yX1_kind cX1_kind 1 (some .int)) B.pre w (List.mem_cons_of_mem _ h)
  have hown : s.vm.findClass RX1 = some m.cls := findClass_of_methodNamed B.named
  have hlocks := B.notSynchronized
  have hl := lv_entry ([.ref aQ]) (n := 1) (Nat.le_of_ble_eq_true rfl)
  rw [lg_entry_eq]
  generalize (lg_sl ([.ref aQ]) ++ List.replicate (1 - (lg_sl ([.ref aQ])).length) Slot.unset).toArray = ls at hl ⊢
  have hl : lv_has ls 1 [(0, .ref aQ)] := hl
  refine lv_iconst (v := nI 5) hx hb dX1_kind_0 (by decide +kernel) ?_
  exact nv_ri hx hb hr hlocks dX1_kind_1 rfl

set_option maxHeartbeats 4000000 in
set_option maxRecDepth 100000 in
theorem c_X6_isChild (l : Launch) (D : va_G) (z : Nat → ClassId) (aQ : Nat)  : CP l yX6_isChild cX6_isChild 1 (some .boolean) 0 0 [.ref aQ] D z [] (fun _ => True) (some (.int (nI 0))) := by
  refine Met.ofW (cc := cX6_isChild) (maxL := 1) (ret := (some .boolean)) (by decide) rfl ?_
  intro pg e s m args below meth c s₁ B hml hv
  obtain ⟨rfl, hP, hK, hE⟩ := hv
  have hx := B.exec
  have hb := B.bytes
  have hr := B.returns
  have hts : ∀ w ∈ ALL, w.before _ s = true := fun w h => atoms_spec (ws := wA yX6_isChild cX6_isChild 1 (some .boolean)) B.pre w (List.mem_cons_of_mem _ h)
  have hown : s.vm.findClass RX6 = some m.cls := findClass_of_methodNamed B.named
  have hlocks := B.notSynchronized
  have hl := lv_entry ([.ref aQ]) (n := 1) (Nat.le_of_ble_eq_true rfl)
  rw [lg_entry_eq]
  generalize (lg_sl ([.ref aQ]) ++ List.replicate (1 - (lg_sl ([.ref aQ])).length) Slot.unset).toArray = ls at hl ⊢
  have hl : lv_has ls 1 [(0, .ref aQ)] := hl
  refine lv_iconst (v := nI 0) hx hb dX6_isChild_0 (by decide +kernel) ?_
  exact nv_rz hx hb hr hlocks dX6_isChild_1 rfl (by decide +kernel)

set_option maxHeartbeats 4000000 in
set_option maxRecDepth 100000 in
theorem c_X1_isChild (l : Launch) (D : va_G) (z : Nat → ClassId) (aQ : Nat)  : CP l yX1_isChild cX1_isChild 1 (some .boolean) 0 0 [.ref aQ] D z [] (fun _ => True) (some (.int (nI 1))) := by
  refine Met.ofW (cc := cX1_isChild) (maxL := 1) (ret := (some .boolean)) (by decide) rfl ?_
  intro pg e s m args below meth c s₁ B hml hv
  obtain ⟨rfl, hP, hK, hE⟩ := hv
  have hx := B.exec
  have hb := B.bytes
  have hr := B.returns
  have hts : ∀ w ∈ ALL, w.before _ s = true := fun w h => atoms_spec (ws := wA yX1_isChild cX1_isChild 1 (some .boolean)) B.pre w (List.mem_cons_of_mem _ h)
  have hown : s.vm.findClass RX1 = some m.cls := findClass_of_methodNamed B.named
  have hlocks := B.notSynchronized
  have hl := lv_entry ([.ref aQ]) (n := 1) (Nat.le_of_ble_eq_true rfl)
  rw [lg_entry_eq]
  generalize (lg_sl ([.ref aQ]) ++ List.replicate (1 - (lg_sl ([.ref aQ])).length) Slot.unset).toArray = ls at hl ⊢
  have hl : lv_has ls 1 [(0, .ref aQ)] := hl
  refine lv_iconst (v := nI 1) hx hb dX1_isChild_0 (by decide +kernel) ?_
  exact nv_rz hx hb hr hlocks dX1_isChild_1 rfl (by decide +kernel)

set_option maxHeartbeats 4000000 in
set_option maxRecDepth 100000 in
theorem c_X0_words (l : Launch) (D : va_G) (z : Nat → ClassId) (aQ : Nat) (t : Nat) (mnQ : Nat) (hbt : Nat) (pr : Nat) (wk : Nat) (ht : t ≤ 9) (hm : mnQ ≤ 20) (hh : hbt ≤ 99) (hp : pr ≤ 100) (hw : wk ≤ 20000) : CP l yX0_words cX0_words 5 (some .int) 1 25 [.ref aQ, .int (nI mnQ), .int (nI hbt), .int (nI pr), .int (nI wk)] D z [(aQ, .inr (0, [.int (nI t)]))] (fun _ => True) (some (.int (nI (woK 1 mnQ t hbt pr wk)))) := by
  refine Met.ofW (cc := cX0_words) (maxL := 5) (ret := (some .int)) (by decide) rfl ?_
  intro pg e s m args below meth c s₁ B hml hv
  obtain ⟨rfl, hP, hK, hE⟩ := hv
  have hx := B.exec
  have hb := B.bytes
  have hr := B.returns
  have hts : ∀ w ∈ ALL, w.before _ s = true := fun w h => atoms_spec (ws := wA yX0_words cX0_words 5 (some .int)) B.pre w (List.mem_cons_of_mem _ h)
  have hown : s.vm.findClass RX0 = some m.cls := findClass_of_methodNamed B.named
  have hlocks := B.notSynchronized
  have hq4 := plK_le mnQ t hbt pr
  have hl := lv_entry ([.ref aQ, .int (nI mnQ), .int (nI hbt), .int (nI pr), .int (nI wk)]) (n := 5) (Nat.le_of_ble_eq_true rfl)
  rw [lg_entry_eq]
  generalize (lg_sl ([.ref aQ, .int (nI mnQ), .int (nI hbt), .int (nI pr), .int (nI wk)]) ++ List.replicate (5 - (lg_sl ([.ref aQ, .int (nI mnQ), .int (nI hbt), .int (nI pr), .int (nI wk)])).length) Slot.unset).toArray = ls at hl ⊢
  have hl : lv_has ls 5 [(0, .ref aQ), (1, .int (nI mnQ)), (2, .int (nI hbt)), (3, .int (nI pr)), (4, .int (nI wk))] := hl
  refine lv_bipush (v := nI 99) hx hb dX0_words_0 (by decide +kernel) ?_
  refine lv_iconst (v := nI 2) hx hb dX0_words_2 (by decide +kernel) ?_
  refine lv_aload_n hx hb dX0_words_3 rfl (lv_at hl 0 rfl) ?_
  refine lv_iload_n hx hb dX0_words_4 rfl (lv_at hl 1 rfl) ?_
  refine lv_iload_n hx hb dX0_words_5 rfl (lv_at hl 2 rfl) ?_
  refine lv_iload_n hx hb dX0_words_6 rfl (lv_at hl 3 rfl) ?_
  refine lv_iload hx hb dX0_words_7 (lv_at hl 4 rfl) ?_
  have hPc : va_P D vwCl [(aQ, .inr (0, [.int (nI t)]))] s.heap := hP
  refine nv_cp1 (va_runSU (C := RX0) (As := [.int (nI mnQ), .int (nI hbt), .int (nI pr), .int (nI wk)]) (rest := [.int (nI 2), .int (nI 99)]) (hK.1.1 0 _ rfl).2 ⟨hx, hb, hml, hown, hts⟩ (c_X6_words_0 l D z aQ t mnQ hbt pr wk ht hm hh hp hw) (va_cwSU 4 hts (gSU m_16 m_17 m_18 m_19 m_8 m_10) rfl rfl rfl ⟨by decide, hd_X6_words.2.2⟩ ⟨Nat.le_of_ble_eq_true rfl, Nat.le_of_ble_eq_true rfl⟩) (nv_preP2 (ci := 0) (q0 := 0) hK hPc trivial hP rfl rfl) rfl rfl hl.1 rfl (lv_room (Nat.le_of_ble_eq_true rfl)) dX0_words_9 ⟨Nat.le_refl _, Nat.le_refl _⟩) ?_
  refine nv_mul hx hb dX0_words_12 ?_
  refine nv_mmin (r9 := nI (woK 1 mnQ t hbt pr wk)) hx hb (hml.trans hl.1.symm) hown (hts _ m_12) (hts _ m_13) (hts _ m_14) (hts _ m_15) (Nat.le_of_ble_eq_true rfl) (Nat.le_of_ble_eq_true rfl) (Nat.le_of_ble_eq_true rfl) (Nat.le_of_ble_eq_true rfl) (by rw [mn_n (by omega) (by omega)]; unfold woK; rw [if_pos rfl]; congr 1; split <;> split <;> omega) dX0_words_13 ?_
  exact nv_ri hx hb hr hlocks dX0_words_16 rfl

set_option maxHeartbeats 4000000 in
set_option maxRecDepth 100000 in
theorem c_X0_pays (l : Launch) (D : va_G) (z : Nat → ClassId) (aQ : Nat) (w9 : Nat) (pr : Nat) (hw9 : w9 ≤ 99) (hp : pr ≤ 100) : CP l yX0_pays cX0_pays 3 (some .int) 0 0 [.ref aQ, .int (nI w9), .int (nI pr)] D z [] (fun _ => True) (some (.int (nI (10 * pr)))) := by
  refine Met.ofW (cc := cX0_pays) (maxL := 3) (ret := (some .int)) (by decide) rfl ?_
  intro pg e s m args below meth c s₁ B hml hv
  obtain ⟨rfl, hP, hK, hE⟩ := hv
  have hx := B.exec
  have hb := B.bytes
  have hr := B.returns
  have hts : ∀ w ∈ ALL, w.before _ s = true := fun w h => atoms_spec (ws := wA yX0_pays cX0_pays 3 (some .int)) B.pre w (List.mem_cons_of_mem _ h)
  have hown : s.vm.findClass RX0 = some m.cls := findClass_of_methodNamed B.named
  have hlocks := B.notSynchronized
  have hl := lv_entry ([.ref aQ, .int (nI w9), .int (nI pr)]) (n := 3) (Nat.le_of_ble_eq_true rfl)
  rw [lg_entry_eq]
  generalize (lg_sl ([.ref aQ, .int (nI w9), .int (nI pr)]) ++ List.replicate (3 - (lg_sl ([.ref aQ, .int (nI w9), .int (nI pr)])).length) Slot.unset).toArray = ls at hl ⊢
  have hl : lv_has ls 3 [(0, .ref aQ), (1, .int (nI w9)), (2, .int (nI pr))] := hl
  refine lv_bipush (v := nI 10) hx hb dX0_pays_0 (by decide +kernel) ?_
  refine lv_iload_n hx hb dX0_pays_2 rfl (lv_at hl 2 rfl) ?_
  refine nv_mul hx hb dX0_pays_3 ?_
  exact nv_ri hx hb hr hlocks dX0_pays_4 rfl

set_option maxHeartbeats 4000000 in
set_option maxRecDepth 100000 in
theorem c_X0_habitThen (l : Launch) (D : va_G) (z : Nat → ClassId) (aQ : Nat) (hbt : Nat) (pa : Nat) (hh : hbt ≤ 99) (hpa : pa ≤ 19800) : CP l yX0_habitThen cX0_habitThen 3 (some .int) 1 13 [.ref aQ, .int (nI hbt), .int (nI pa)] D z [] (fun _ => True) (some (.int (nI (haK 1 hbt pa)))) := by
  refine Met.ofW (cc := cX0_habitThen) (maxL := 3) (ret := (some .int)) (by decide) rfl ?_
  intro pg e s m args below meth c s₁ B hml hv
  obtain ⟨rfl, hP, hK, hE⟩ := hv
  have hx := B.exec
  have hb := B.bytes
  have hr := B.returns
  have hts : ∀ w ∈ ALL, w.before _ s = true := fun w h => atoms_spec (ws := wA yX0_habitThen cX0_habitThen 3 (some .int)) B.pre w (List.mem_cons_of_mem _ h)
  have hown : s.vm.findClass RX0 = some m.cls := findClass_of_methodNamed B.named
  have hlocks := B.notSynchronized
  have hl := lv_entry ([.ref aQ, .int (nI hbt), .int (nI pa)]) (n := 3) (Nat.le_of_ble_eq_true rfl)
  rw [lg_entry_eq]
  generalize (lg_sl ([.ref aQ, .int (nI hbt), .int (nI pa)]) ++ List.replicate (3 - (lg_sl ([.ref aQ, .int (nI hbt), .int (nI pa)])).length) Slot.unset).toArray = ls at hl ⊢
  have hl : lv_has ls 3 [(0, .ref aQ), (1, .int (nI hbt)), (2, .int (nI pa))] := hl
  refine lv_bipush (v := nI 99) hx hb dX0_habitThen_0 (by decide +kernel) ?_
  refine lv_iload_n hx hb dX0_habitThen_2 rfl (lv_at hl 1 rfl) ?_
  refine lv_iconst (v := nI 1) hx hb dX0_habitThen_3 (by decide +kernel) ?_
  refine nv_add hx hb dX0_habitThen_4 ?_
  refine nv_mmin (r9 := nI (haK 1 hbt pa)) hx hb (hml.trans hl.1.symm) hown (hts _ m_12) (hts _ m_13) (hts _ m_14) (hts _ m_15) (Nat.le_of_ble_eq_true rfl) (Nat.le_of_ble_eq_true rfl) (Nat.le_of_ble_eq_true rfl) (Nat.le_of_ble_eq_true rfl) (by rw [mn_n (by omega) (by omega)]; unfold haK; rw [if_pos (show 1 = 1 ∨ pa < 100 from Or.inl rfl)]; congr 1; split <;> split <;> omega) dX0_habitThen_5 ?_
  exact nv_ri hx hb hr hlocks dX0_habitThen_8 rfl

theorem pay_b {w9 pr : Nat} (h : w9 ≤ 99) (k : pr ≤ 100) : w9 * pr ≤ 9900 := Nat.mul_le_mul h k

set_option maxHeartbeats 4000000 in
set_option maxRecDepth 100000 in
theorem c_X2_pays_2 (l : Launch) (D : va_G) (z : Nat → ClassId) (aQ : Nat) (w9 : Nat) (pr : Nat) (t : Nat) (hw9 : w9 ≤ 99) (hp : pr ≤ 100) : CP l yX2_pays cX2_pays 3 (some .int) 1 22 [.ref aQ, .int (nI w9), .int (nI pr)] D z [(aQ, .inr (2, [.int (nI t)]))] (fun _ => True) (some (.int (nI (2 * (w9 * pr))))) := by
  refine Met.ofW (cc := cX2_pays) (maxL := 3) (ret := (some .int)) (by decide) rfl ?_
  intro pg e s m args below meth c s₁ B hml hv
  obtain ⟨rfl, hP, hK, hE⟩ := hv
  have hx := B.exec
  have hb := B.bytes
  have hr := B.returns
  have hts : ∀ w ∈ ALL, w.before _ s = true := fun w h => atoms_spec (ws := wA yX2_pays cX2_pays 3 (some .int)) B.pre w (List.mem_cons_of_mem _ h)
  have hown : s.vm.findClass RX2 = some m.cls := findClass_of_methodNamed B.named
  have hlocks := B.notSynchronized
  have hPr := hP
  have hpb := pay_b hw9 hp
  have hl := lv_entry ([.ref aQ, .int (nI w9), .int (nI pr)]) (n := 3) (Nat.le_of_ble_eq_true rfl)
  rw [lg_entry_eq]
  generalize (lg_sl ([.ref aQ, .int (nI w9), .int (nI pr)]) ++ List.replicate (3 - (lg_sl ([.ref aQ, .int (nI w9), .int (nI pr)])).length) Slot.unset).toArray = ls at hl ⊢
  have hl : lv_has ls 3 [(0, .ref aQ), (1, .int (nI w9)), (2, .int (nI pr))] := hl
  refine lv_iconst (v := nI 2) hx hb dX2_pays_0 (by decide +kernel) ?_
  refine lv_aload_n hx hb dX2_pays_1 rfl (lv_at hl 0 rfl) ?_
  refine lv_iload_n hx hb dX2_pays_2 rfl (lv_at hl 1 rfl) ?_
  refine lv_iload_n hx hb dX2_pays_3 rfl (lv_at hl 2 rfl) ?_
  have hPc : va_P D vwCl [] s.heap := nv_P0
  refine nv_cp1 (va_runSU (C := RX2) (As := [.int (nI w9), .int (nI pr)]) (rest := [.int (nI 2)]) (hK.1.1 2 _ rfl).2 ⟨hx, hb, hml, hown, hts⟩ (c_X6_pays l D z aQ w9 pr hw9 hp) (va_cwSU 2 hts (gSU m_32 m_33 m_34 m_35 m_8 m_30) rfl rfl rfl ⟨by decide, hd_X6_pays.2.2⟩ ⟨Nat.le_of_ble_eq_true rfl, Nat.le_of_ble_eq_true rfl⟩) (nv_preP2 (ci := 2) (q0 := 0) hK hPc trivial hPr rfl rfl) rfl rfl hl.1 rfl (lv_room (Nat.le_of_ble_eq_true rfl)) dX2_pays_4 ⟨Nat.le_refl _, Nat.le_refl _⟩) ?_
  refine nv_mul hx hb dX2_pays_7 ?_
  exact nv_ri hx hb hr hlocks dX2_pays_8 rfl

set_option maxHeartbeats 4000000 in
set_option maxRecDepth 100000 in
theorem c_X4_pays_4 (l : Launch) (D : va_G) (z : Nat → ClassId) (aQ : Nat) (w9 : Nat) (pr : Nat) (t : Nat) (hw9 : w9 ≤ 99) (hp : pr ≤ 100) : CP l yX4_pays cX4_pays 3 (some .int) 1 22 [.ref aQ, .int (nI w9), .int (nI pr)] D z [(aQ, .inr (4, [.int (nI t)]))] (fun _ => True) (some (.int (nI (w9 * pr / 2)))) := by
  refine Met.ofW (cc := cX4_pays) (maxL := 3) (ret := (some .int)) (by decide) rfl ?_
  intro pg e s m args below meth c s₁ B hml hv
  obtain ⟨rfl, hP, hK, hE⟩ := hv
  have hx := B.exec
  have hb := B.bytes
  have hr := B.returns
  have hts : ∀ w ∈ ALL, w.before _ s = true := fun w h => atoms_spec (ws := wA yX4_pays cX4_pays 3 (some .int)) B.pre w (List.mem_cons_of_mem _ h)
  have hown : s.vm.findClass RX4 = some m.cls := findClass_of_methodNamed B.named
  have hlocks := B.notSynchronized
  have hPr := hP
  have hpb := pay_b hw9 hp
  have hl := lv_entry ([.ref aQ, .int (nI w9), .int (nI pr)]) (n := 3) (Nat.le_of_ble_eq_true rfl)
  rw [lg_entry_eq]
  generalize (lg_sl ([.ref aQ, .int (nI w9), .int (nI pr)]) ++ List.replicate (3 - (lg_sl ([.ref aQ, .int (nI w9), .int (nI pr)])).length) Slot.unset).toArray = ls at hl ⊢
  have hl : lv_has ls 3 [(0, .ref aQ), (1, .int (nI w9)), (2, .int (nI pr))] := hl
  refine lv_aload_n hx hb dX4_pays_0 rfl (lv_at hl 0 rfl) ?_
  refine lv_iload_n hx hb dX4_pays_1 rfl (lv_at hl 1 rfl) ?_
  refine lv_iload_n hx hb dX4_pays_2 rfl (lv_at hl 2 rfl) ?_
  have hPc : va_P D vwCl [] s.heap := nv_P0
  refine nv_cp1 (va_runSU (C := RX4) (As := [.int (nI w9), .int (nI pr)]) (rest := []) (hK.1.1 4 _ rfl).2 ⟨hx, hb, hml, hown, hts⟩ (c_X6_pays l D z aQ w9 pr hw9 hp) (va_cwSU 2 hts (gSU m_93 m_33 m_94 m_35 m_8 m_30) rfl rfl rfl ⟨by decide, hd_X6_pays.2.2⟩ ⟨Nat.le_of_ble_eq_true rfl, Nat.le_of_ble_eq_true rfl⟩) (nv_preP2 (ci := 4) (q0 := 0) hK hPc trivial hPr rfl rfl) rfl rfl hl.1 rfl (lv_room (Nat.le_of_ble_eq_true rfl)) dX4_pays_3 ⟨Nat.le_refl _, Nat.le_refl _⟩) ?_
  refine lv_iconst (v := nI 2) hx hb dX4_pays_6 (by decide +kernel) ?_
  refine nv_div hx hb (by omega) (by omega) (by omega) dX4_pays_7 ?_
  exact nv_ri hx hb hr hlocks dX4_pays_8 rfl

set_option maxHeartbeats 4000000 in
set_option maxRecDepth 100000 in
theorem c_X4_pays_8 (l : Launch) (D : va_G) (z : Nat → ClassId) (aQ : Nat) (w9 : Nat) (pr : Nat) (t : Nat) (hw9 : w9 ≤ 99) (hp : pr ≤ 100) : CP l yX4_pays cX4_pays 3 (some .int) 1 22 [.ref aQ, .int (nI w9), .int (nI pr)] D z [(aQ, .inr (8, [.int (nI t)]))] (fun _ => True) (some (.int (nI (w9 * pr / 2)))) := by
  refine Met.ofW (cc := cX4_pays) (maxL := 3) (ret := (some .int)) (by decide) rfl ?_
  intro pg e s m args below meth c s₁ B hml hv
  obtain ⟨rfl, hP, hK, hE⟩ := hv
  have hx := B.exec
  have hb := B.bytes
  have hr := B.returns
  have hts : ∀ w ∈ ALL, w.before _ s = true := fun w h => atoms_spec (ws := wA yX4_pays cX4_pays 3 (some .int)) B.pre w (List.mem_cons_of_mem _ h)
  have hown : s.vm.findClass RX4 = some m.cls := findClass_of_methodNamed B.named
  have hlocks := B.notSynchronized
  have hPr := hP
  have hpb := pay_b hw9 hp
  have hl := lv_entry ([.ref aQ, .int (nI w9), .int (nI pr)]) (n := 3) (Nat.le_of_ble_eq_true rfl)
  rw [lg_entry_eq]
  generalize (lg_sl ([.ref aQ, .int (nI w9), .int (nI pr)]) ++ List.replicate (3 - (lg_sl ([.ref aQ, .int (nI w9), .int (nI pr)])).length) Slot.unset).toArray = ls at hl ⊢
  have hl : lv_has ls 3 [(0, .ref aQ), (1, .int (nI w9)), (2, .int (nI pr))] := hl
  refine lv_aload_n hx hb dX4_pays_0 rfl (lv_at hl 0 rfl) ?_
  refine lv_iload_n hx hb dX4_pays_1 rfl (lv_at hl 1 rfl) ?_
  refine lv_iload_n hx hb dX4_pays_2 rfl (lv_at hl 2 rfl) ?_
  have hPc : va_P D vwCl [] s.heap := nv_P0
  refine nv_cp1 (va_runSU (C := RX8) (As := [.int (nI w9), .int (nI pr)]) (rest := []) (hK.1.1 8 _ rfl).2 ⟨hx, hb, hml, hown, hts⟩ (c_X6_pays l D z aQ w9 pr hw9 hp) (va_cwSU 2 hts (gSU m_93 m_33 m_94 m_35 m_8 m_30) rfl rfl rfl ⟨by decide, hd_X6_pays.2.2⟩ ⟨Nat.le_of_ble_eq_true rfl, Nat.le_of_ble_eq_true rfl⟩) (nv_preP2 (ci := 8) (q0 := 0) hK hPc trivial hPr rfl rfl) rfl rfl hl.1 rfl (lv_room (Nat.le_of_ble_eq_true rfl)) dX4_pays_3 ⟨Nat.le_refl _, Nat.le_refl _⟩) ?_
  refine lv_iconst (v := nI 2) hx hb dX4_pays_6 (by decide +kernel) ?_
  refine nv_div hx hb (by omega) (by omega) (by omega) dX4_pays_7 ?_
  exact nv_ri hx hb hr hlocks dX4_pays_8 rfl

set_option maxHeartbeats 4000000 in
set_option maxRecDepth 100000 in
theorem c_X8_words (l : Launch) (D : va_G) (z : Nat → ClassId) (aQ : Nat) (t : Nat) (mnQ : Nat) (hbt : Nat) (pr : Nat) (wk : Nat) (ht : t ≤ 9) (hm : mnQ ≤ 20) (hh : hbt ≤ 99) (hp : pr ≤ 100) (hw : wk ≤ 20000) : CP l yX8_words cX8_words 5 (some .int) 0 0 [.ref aQ, .int (nI mnQ), .int (nI hbt), .int (nI pr), .int (nI wk)] D z [] (fun _ => True) (some (.int (nI (woK 4 mnQ t hbt pr wk)))) := by
  refine Met.ofW (cc := cX8_words) (maxL := 5) (ret := (some .int)) (by decide) rfl ?_
  intro pg e s m args below meth c s₁ B hml hv
  obtain ⟨rfl, hP, hK, hE⟩ := hv
  have hx := B.exec
  have hb := B.bytes
  have hr := B.returns
  have hts : ∀ w ∈ ALL, w.before _ s = true := fun w h => atoms_spec (ws := wA yX8_words cX8_words 5 (some .int)) B.pre w (List.mem_cons_of_mem _ h)
  have hown : s.vm.findClass RX8 = some m.cls := findClass_of_methodNamed B.named
  have hlocks := B.notSynchronized
  have hl := lv_entry ([.ref aQ, .int (nI mnQ), .int (nI hbt), .int (nI pr), .int (nI wk)]) (n := 5) (Nat.le_of_ble_eq_true rfl)
  rw [lg_entry_eq]
  generalize (lg_sl ([.ref aQ, .int (nI mnQ), .int (nI hbt), .int (nI pr), .int (nI wk)]) ++ List.replicate (5 - (lg_sl ([.ref aQ, .int (nI mnQ), .int (nI hbt), .int (nI pr), .int (nI wk)])).length) Slot.unset).toArray = ls at hl ⊢
  have hl : lv_has ls 5 [(0, .ref aQ), (1, .int (nI mnQ)), (2, .int (nI hbt)), (3, .int (nI pr)), (4, .int (nI wk))] := hl
  refine lv_iload hx hb dX8_words_0 (lv_at hl 4 rfl) ?_
  refine lv_bipush (v := nI 20) hx hb dX8_words_2 (by decide +kernel) ?_
  refine nv_rem hx hb (by omega) (by omega) (by omega) dX8_words_4 ?_
  refine nv_ifne (tgt := 13) hx hb (by omega) dX8_words_5 (by decide) (fun hc5 => ?_) (fun hc5 => ?_)
  · refine lv_iconst (v := nI 0) hx hb dX8_words_13 (by decide +kernel) ?_
    exact nv_ri hx hb hr hlocks dX8_words_14 (by unfold woK; rw [if_neg (by decide), if_pos rfl]; first | (rw [if_pos (by omega)]; done) | (rw [if_neg (by omega)]; done))
  · refine lv_bipush (v := nI 50) hx hb dX8_words_8 (by decide +kernel) ?_
    refine lv_goto (tgt := 14) hx hb dX8_words_10 (by decide) ?_
    exact nv_ri hx hb hr hlocks dX8_words_14 (by unfold woK; rw [if_neg (by decide), if_pos rfl]; first | (rw [if_pos (by omega)]; done) | (rw [if_neg (by omega)]; done))

set_option maxHeartbeats 4000000 in
set_option maxRecDepth 100000 in
theorem c_X1_words (l : Launch) (D : va_G) (z : Nat → ClassId) (aQ : Nat) (t : Nat) (mnQ : Nat) (hbt : Nat) (pr : Nat) (wk : Nat) (ht : t ≤ 9) (hm : mnQ ≤ 20) (hh : hbt ≤ 99) (hp : pr ≤ 100) (hw : wk ≤ 20000) : CP l yX1_words cX1_words 5 (some .int) 0 0 [.ref aQ, .int (nI mnQ), .int (nI hbt), .int (nI pr), .int (nI wk)] D z [] (fun _ => True) (some (.int (nI 0))) := by
  refine Met.ofW (cc := cX1_words) (maxL := 5) (ret := (some .int)) (by decide) rfl ?_
  intro pg e s m args below meth c s₁ B hml hv
  obtain ⟨rfl, hP, hK, hE⟩ := hv
  have hx := B.exec
  have hb := B.bytes
  have hr := B.returns
  have hts : ∀ w ∈ ALL, w.before _ s = true := fun w h => atoms_spec (ws := wA yX1_words cX1_words 5 (some .int)) B.pre w (List.mem_cons_of_mem _ h)
  have hown : s.vm.findClass RX1 = some m.cls := findClass_of_methodNamed B.named
  have hlocks := B.notSynchronized
  have hl := lv_entry ([.ref aQ, .int (nI mnQ), .int (nI hbt), .int (nI pr), .int (nI wk)]) (n := 5) (Nat.le_of_ble_eq_true rfl)
  rw [lg_entry_eq]
  generalize (lg_sl ([.ref aQ, .int (nI mnQ), .int (nI hbt), .int (nI pr), .int (nI wk)]) ++ List.replicate (5 - (lg_sl ([.ref aQ, .int (nI mnQ), .int (nI hbt), .int (nI pr), .int (nI wk)])).length) Slot.unset).toArray = ls at hl ⊢
  have hl : lv_has ls 5 [(0, .ref aQ), (1, .int (nI mnQ)), (2, .int (nI hbt)), (3, .int (nI pr)), (4, .int (nI wk))] := hl
  refine lv_iconst (v := nI 0) hx hb dX1_words_0 (by decide +kernel) ?_
  exact nv_ri hx hb hr hlocks dX1_words_1 rfl
