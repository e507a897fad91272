set_option maxHeartbeats 4000000 in
set_option maxRecDepth 100000 in
theorem c_J1_canEncode_9a6ad (l : Launch) (D : va_G) (z : Nat → ClassId) (cq : Nat) (hcq : cq < 128) : CP l yJ1_canEncode_9a6ad cJ1_canEncode_9a6ad 1 (some .boolean) 0 0 [.int (nI cq)] D z [] (fun _ => True) (some (.int (nI 1))) := by
  refine Met.ofW (cc := cJ1_canEncode_9a6ad) (maxL := 1) (ret := (some .boolean)) (by decide) rfl ?_
  intro pg e s m args below meth c s₁ B hml hv
  obtain ⟨rfl, hP, hK, hE⟩ := hv
  have hx := B.exec
  have hb := B.bytes
  have hr := B.returns
  have hts : ∀ w ∈ ALL, w.before _ s = true := fun w h => atoms_spec (ws := wA yJ1_canEncode_9a6ad cJ1_canEncode_9a6ad 1 (some .boolean)) B.pre w (List.mem_cons_of_mem _ h)
  have hown : s.vm.findClass RJ1 = some m.cls := findClass_of_methodNamed B.named
  have hlocks := B.notSynchronized
  have hl := lv_entry ([.int (nI cq)]) (n := 1) (Nat.le_of_ble_eq_true rfl)
  rw [lg_entry_eq]
  generalize (lg_sl ([.int (nI cq)]) ++ List.replicate (1 - (lg_sl ([.int (nI cq)])).length) Slot.unset).toArray = ls at hl ⊢
  have hl : lv_has ls 1 [(0, .int (nI cq))] := hl
  refine lv_iload_n hx hb dJ1_canEncode_9a6ad_0 rfl (lv_at hl 0 rfl) ?_
  refine lv_if_lt (tgt := 15) hx hb dJ1_canEncode_9a6ad_1 (by decide) (fun hc1 => ?_) (fun hc1 => ?_)
  · exact absurd hc1 (nI_pos (by omega))
  · refine lv_iload_n hx hb dJ1_canEncode_9a6ad_4 rfl (lv_at hl 0 rfl) ?_
    refine lv_sipush (v := nI 255) hx hb dJ1_canEncode_9a6ad_5 (by decide +kernel) ?_
    refine nv_gt (tgt := 15) hx hb (by omega) (by omega) dJ1_canEncode_9a6ad_8 (by decide) (fun hc8 => ?_) (fun hc8 => ?_)
    · (exfalso; omega)
    · refine lv_iconst (v := nI 1) hx hb dJ1_canEncode_9a6ad_11 (by decide +kernel) ?_
      refine lv_goto (tgt := 16) hx hb dJ1_canEncode_9a6ad_12 (by decide) ?_
      exact nv_rz hx hb hr hlocks dJ1_canEncode_9a6ad_16 rfl (by decide +kernel)

set_option maxHeartbeats 4000000 in
set_option maxRecDepth 100000 in
theorem c_J0_isLatin1_aae02 (l : Launch) (D : va_G) (z : Nat → ClassId)   : CPS l yJ0_isLatin1_aae02 cJ0_isLatin1_aae02 1 (some .boolean) 0 0 [.ref (z 6)] D z (some (.int (nI 1))) := by
  refine Met.ofW (cc := cJ0_isLatin1_aae02) (maxL := 1) (ret := (some .boolean)) (by decide) rfl ?_
  intro pg e s m args below meth c s₁ B hml hv
  obtain ⟨rfl, hK, hSE⟩ := hv
  have hS0 : va_S (fun _ => False) s.heap s.heap [] := va_S.rf
  have hP : va_P D vwCl [] s.heap := nv_P0
  have hx := B.exec
  have hb := B.bytes
  have hr := B.returns
  have hts : ∀ w ∈ ALL, w.before _ s = true := fun w h => atoms_spec (ws := wA yJ0_isLatin1_aae02 cJ0_isLatin1_aae02 1 (some .boolean)) B.pre w (List.mem_cons_of_mem _ h)
  have hown : s.vm.findClass RJ0 = some m.cls := findClass_of_methodNamed B.named
  have hlocks := B.notSynchronized
  have hl := lv_entry ([.ref (z 6)]) (n := 1) (Nat.le_of_ble_eq_true rfl)
  rw [lg_entry_eq]
  generalize (lg_sl ([.ref (z 6)]) ++ List.replicate (1 - (lg_sl ([.ref (z 6)])).length) Slot.unset).toArray = ls at hl ⊢
  have hl : lv_has ls 1 [(0, .ref (z 6))] := hl
  refine va_gets (v := .int (nI 1)) hx hb hSE.2.2 hS0 hown (hts _ m_217) (fun _ h9 => h9) dJ0_isLatin1_aae02_0 ?_
  refine nv_ifeq (tgt := 17) hx hb (by omega) dJ0_isLatin1_aae02_3 (by decide) (fun hc3 => ?_) (fun hc3 => ?_)
  · (exfalso; omega)
  · refine lv_aload_n hx hb dJ0_isLatin1_aae02_6 rfl (lv_at hl 0 rfl) ?_
    refine vk_getf hx hb hSE.co hS0 hown (hts _ m_218) (fun _ h9 => h9) dJ0_isLatin1_aae02_7 ?_
    refine nv_ifne (tgt := 17) hx hb (by omega) dJ0_isLatin1_aae02_10 (by decide) (fun hc10 => ?_) (fun hc10 => ?_)
    · (exfalso; omega)
    · refine lv_iconst (v := nI 1) hx hb dJ0_isLatin1_aae02_13 (by decide +kernel) ?_
      refine lv_goto (tgt := 18) hx hb dJ0_isLatin1_aae02_14 (by decide) ?_
      exact nv_rz hx hb hr hlocks dJ0_isLatin1_aae02_18 rfl (by decide +kernel)

set_option maxHeartbeats 4000000 in
set_option maxRecDepth 100000 in
theorem c_J0_coder_7d493 (l : Launch) (D : va_G) (z : Nat → ClassId)   : CPS l yJ0_coder_7d493 cJ0_coder_7d493 1 (some .byte) 0 0 [.ref (z 6)] D z (some (.int (nI 0))) := by
  refine Met.ofW (cc := cJ0_coder_7d493) (maxL := 1) (ret := (some .byte)) (by decide) rfl ?_
  intro pg e s m args below meth c s₁ B hml hv
  obtain ⟨rfl, hK, hSE⟩ := hv
  have hS0 : va_S (fun _ => False) s.heap s.heap [] := va_S.rf
  have hP : va_P D vwCl [] s.heap := nv_P0
  have hx := B.exec
  have hb := B.bytes
  have hr := B.returns
  have hts : ∀ w ∈ ALL, w.before _ s = true := fun w h => atoms_spec (ws := wA yJ0_coder_7d493 cJ0_coder_7d493 1 (some .byte)) B.pre w (List.mem_cons_of_mem _ h)
  have hown : s.vm.findClass RJ0 = some m.cls := findClass_of_methodNamed B.named
  have hlocks := B.notSynchronized
  have hl := lv_entry ([.ref (z 6)]) (n := 1) (Nat.le_of_ble_eq_true rfl)
  rw [lg_entry_eq]
  generalize (lg_sl ([.ref (z 6)]) ++ List.replicate (1 - (lg_sl ([.ref (z 6)])).length) Slot.unset).toArray = ls at hl ⊢
  have hl : lv_has ls 1 [(0, .ref (z 6))] := hl
  refine va_gets (v := .int (nI 1)) hx hb hSE.2.2 hS0 hown (hts _ m_217) (fun _ h9 => h9) dJ0_coder_7d493_0 ?_
  refine nv_ifeq (tgt := 13) hx hb (by omega) dJ0_coder_7d493_3 (by decide) (fun hc3 => ?_) (fun hc3 => ?_)
  · (exfalso; omega)
  · refine lv_aload_n hx hb dJ0_coder_7d493_6 rfl (lv_at hl 0 rfl) ?_
    refine vk_getf hx hb hSE.co hS0 hown (hts _ m_218) (fun _ h9 => h9) dJ0_coder_7d493_7 ?_
    refine lv_goto (tgt := 14) hx hb dJ0_coder_7d493_10 (by decide) ?_
    exact nv_rz hx hb hr hlocks dJ0_coder_7d493_14 rfl (by decide +kernel)

set_option maxHeartbeats 4000000 in
set_option maxRecDepth 100000 in
theorem c_J0_length_8abf5 (l : Launch) (D : va_G) (z : Nat → ClassId)   : CPS l yJ0_length_8abf5 cJ0_length_8abf5 1 (some .int) 1 20 [.ref (z 6)] D z (some (.int (nI 6))) := by
  refine Met.ofW (cc := cJ0_length_8abf5) (maxL := 1) (ret := (some .int)) (by decide) rfl ?_
  intro pg e s m args below meth c s₁ B hml hv
  obtain ⟨rfl, hK, hSE⟩ := hv
  have hS0 : va_S (fun _ => False) s.heap s.heap [] := va_S.rf
  have hP : va_P D vwCl [] s.heap := nv_P0
  have hx := B.exec
  have hb := B.bytes
  have hr := B.returns
  have hts : ∀ w ∈ ALL, w.before _ s = true := fun w h => atoms_spec (ws := wA yJ0_length_8abf5 cJ0_length_8abf5 1 (some .int)) B.pre w (List.mem_cons_of_mem _ h)
  have hown : s.vm.findClass RJ0 = some m.cls := findClass_of_methodNamed B.named
  have hlocks := B.notSynchronized
  have hl := lv_entry ([.ref (z 6)]) (n := 1) (Nat.le_of_ble_eq_true rfl)
  rw [lg_entry_eq]
  generalize (lg_sl ([.ref (z 6)]) ++ List.replicate (1 - (lg_sl ([.ref (z 6)])).length) Slot.unset).toArray = ls at hl ⊢
  have hl : lv_has ls 1 [(0, .ref (z 6))] := hl
  refine lv_aload_n hx hb dJ0_length_8abf5_0 rfl (lv_at hl 0 rfl) ?_
  refine vk_getf hx hb hSE.va hS0 hown (hts _ m_221) (fun _ h9 => h9) dJ0_length_8abf5_1 ?_
  refine va_tlen (v := nI 6) hx hb hSE.T hS0 rfl dJ0_length_8abf5_4 ?_
  refine lv_aload_n hx hb dJ0_length_8abf5_5 rfl (lv_at hl 0 rfl) ?_
  refine nv_cp1 (va_runV (As := []) (rest := [.int (nI 6)]) ⟨hx, hb, hml, hown, hts⟩ (c_J0_coder_7d493 l D z  ) (cwV 0 hts (gV m_222 m_223 m_224 m_225 m_219) rfl rfl rfl ⟨rfl, hd_J0_coder_7d493⟩ ⟨Nat.le_of_ble_eq_true rfl, Nat.le_of_ble_eq_true rfl⟩) (nv_preSV hK hSE _) rfl rfl hl.1 rfl (lv_room (Nat.le_of_ble_eq_true rfl)) dJ0_length_8abf5_6 ⟨Nat.le_refl _, Nat.le_refl _⟩) ?_
  refine nv_shr hx hb (by decide) (by decide) dJ0_length_8abf5_9 ?_
  exact nv_ri hx hb hr hlocks dJ0_length_8abf5_10 (by decide +kernel)

set_option maxHeartbeats 4000000 in
set_option maxRecDepth 100000 in
theorem c_J1_indexOfChar_4cfef (l : Launch) (D : va_G) (z : Nat → ClassId) (cq : Nat) (hcq : cq < 128) : CPS l yJ1_indexOfChar_4cfef cJ1_indexOfChar_4cfef 6 (some .int) 0 0 [.ref (z 7), .int (nI cq), .int (nI 0), .int (nI 6)] D z (some (.int (kdI cq))) := by
  refine Met.ofW (cc := cJ1_indexOfChar_4cfef) (maxL := 6) (ret := (some .int)) (by decide) rfl ?_
  intro pg e s m args below meth c s₁ B hml hv
  obtain ⟨rfl, hK, hSE⟩ := hv
  have hS0 : va_S (fun _ => False) s.heap s.heap [] := va_S.rf
  have hP : va_P D vwCl [] s.heap := nv_P0
  have hx := B.exec
  have hb := B.bytes
  have hr := B.returns
  have hts : ∀ w ∈ ALL, w.before _ s = true := fun w h => atoms_spec (ws := wA yJ1_indexOfChar_4cfef cJ1_indexOfChar_4cfef 6 (some .int)) B.pre w (List.mem_cons_of_mem _ h)
  have hown : s.vm.findClass RJ1 = some m.cls := findClass_of_methodNamed B.named
  have hlocks := B.notSynchronized
  have hl := lv_entry ([.ref (z 7), .int (nI cq), .int (nI 0), .int (nI 6)]) (n := 6) (Nat.le_of_ble_eq_true rfl)
  rw [lg_entry_eq]
  generalize (lg_sl ([.ref (z 7), .int (nI cq), .int (nI 0), .int (nI 6)]) ++ List.replicate (6 - (lg_sl ([.ref (z 7), .int (nI cq), .int (nI 0), .int (nI 6)])).length) Slot.unset).toArray = ls at hl ⊢
  have hl : lv_has ls 6 [(0, .ref (z 7)), (1, .int (nI cq)), (2, .int (nI 0)), (3, .int (nI 6))] := hl
  refine lv_iload_n hx hb dJ1_indexOfChar_4cfef_0 rfl (lv_at hl 1 rfl) ?_
  refine lv_i2b hx hb dJ1_indexOfChar_4cfef_1 rfl ?_
  rw [b8_n _ hcq]
  refine lv_istore (lv' := [(4, .int (nI cq)), (0, .ref (z 7)), (1, .int (nI cq)), (2, .int (nI 0)), (3, .int (nI 6))]) hx hb dJ1_indexOfChar_4cfef_2 hl (by decide) rfl (fun ls hl => ?_)
  refine lv_iload_n hx hb dJ1_indexOfChar_4cfef_4 rfl (lv_at hl 3 rfl) ?_
  refine lv_istore (lv' := [(5, .int (nI 0)), (4, .int (nI cq)), (0, .ref (z 7)), (1, .int (nI cq)), (2, .int (nI 0)), (3, .int (nI 6))]) hx hb dJ1_indexOfChar_4cfef_5 hl (by decide) rfl (fun ls hl => ?_)
  refine lv_iload hx hb dJ1_indexOfChar_4cfef_7 (lv_at hl 0 rfl) ?_
  refine lv_iload_n hx hb dJ1_indexOfChar_4cfef_9 rfl (lv_at hl 5 rfl) ?_
  refine nv_ge (tgt := 31) hx hb (by omega) (by omega) dJ1_indexOfChar_4cfef_10 (by decide) (fun hc10 => ?_) (fun hc10 => ?_)
  · (exfalso; omega)
  · refine lv_aload_n hx hb dJ1_indexOfChar_4cfef_13 rfl (lv_at hl 2 rfl) ?_
    refine lv_iload hx hb dJ1_indexOfChar_4cfef_14 (lv_at hl 0 rfl) ?_
    refine va_tb (v := .int (nI 112)) hx hb hSE.T hS0 (vp_in_nI (by decide) (by decide)) (by rw [nI_clamp (by decide)]; rfl) dJ1_indexOfChar_4cfef_16 ?_
    refine lv_iload hx hb dJ1_indexOfChar_4cfef_17 (lv_at hl 1 rfl) ?_
    refine nv_ne (tgt := 25) hx hb (by omega) (by omega) dJ1_indexOfChar_4cfef_19 (by decide) (fun hc19 => ?_) (fun hc19 => ?_)
    · refine lv_iinc (v := nI 1) (lv' := [(5, .int (nI 1)), (4, .int (nI cq)), (0, .ref (z 7)), (1, .int (nI cq)), (2, .int (nI 0)), (3, .int (nI 6))]) hx hb dJ1_indexOfChar_4cfef_25 hl (k := 0) rfl (nI_inc _) (by decide) rfl (fun ls hl => ?_)
      refine lv_goto (tgt := 7) hx hb dJ1_indexOfChar_4cfef_28 (by decide) ?_
      refine lv_iload hx hb dJ1_indexOfChar_4cfef_7 (lv_at hl 0 rfl) ?_
      refine lv_iload_n hx hb dJ1_indexOfChar_4cfef_9 rfl (lv_at hl 5 rfl) ?_
      refine nv_ge (tgt := 31) hx hb (by omega) (by omega) dJ1_indexOfChar_4cfef_10 (by decide) (fun hc10 => ?_) (fun hc10 => ?_)
      · (exfalso; omega)
      · refine lv_aload_n hx hb dJ1_indexOfChar_4cfef_13 rfl (lv_at hl 2 rfl) ?_
        refine lv_iload hx hb dJ1_indexOfChar_4cfef_14 (lv_at hl 0 rfl) ?_
        refine va_tb (v := .int (nI 98)) hx hb hSE.T hS0 (vp_in_nI (by decide) (by decide)) (by rw [nI_clamp (by decide)]; rfl) dJ1_indexOfChar_4cfef_16 ?_
        refine lv_iload hx hb dJ1_indexOfChar_4cfef_17 (lv_at hl 1 rfl) ?_
        refine nv_ne (tgt := 25) hx hb (by omega) (by omega) dJ1_indexOfChar_4cfef_19 (by decide) (fun hc19 => ?_) (fun hc19 => ?_)
        · refine lv_iinc (v := nI 2) (lv' := [(5, .int (nI 2)), (4, .int (nI cq)), (0, .ref (z 7)), (1, .int (nI cq)), (2, .int (nI 0)), (3, .int (nI 6))]) hx hb dJ1_indexOfChar_4cfef_25 hl (k := 0) rfl (nI_inc _) (by decide) rfl (fun ls hl => ?_)
          refine lv_goto (tgt := 7) hx hb dJ1_indexOfChar_4cfef_28 (by decide) ?_
          refine lv_iload hx hb dJ1_indexOfChar_4cfef_7 (lv_at hl 0 rfl) ?_
          refine lv_iload_n hx hb dJ1_indexOfChar_4cfef_9 rfl (lv_at hl 5 rfl) ?_
          refine nv_ge (tgt := 31) hx hb (by omega) (by omega) dJ1_indexOfChar_4cfef_10 (by decide) (fun hc10 => ?_) (fun hc10 => ?_)
          · (exfalso; omega)
          · refine lv_aload_n hx hb dJ1_indexOfChar_4cfef_13 rfl (lv_at hl 2 rfl) ?_
            refine lv_iload hx hb dJ1_indexOfChar_4cfef_14 (lv_at hl 0 rfl) ?_
            refine va_tb (v := .int (nI 103)) hx hb hSE.T hS0 (vp_in_nI (by decide) (by decide)) (by rw [nI_clamp (by decide)]; rfl) dJ1_indexOfChar_4cfef_16 ?_
            refine lv_iload hx hb dJ1_indexOfChar_4cfef_17 (lv_at hl 1 rfl) ?_
            refine nv_ne (tgt := 25) hx hb (by omega) (by omega) dJ1_indexOfChar_4cfef_19 (by decide) (fun hc19 => ?_) (fun hc19 => ?_)
            · refine lv_iinc (v := nI 3) (lv' := [(5, .int (nI 3)), (4, .int (nI cq)), (0, .ref (z 7)), (1, .int (nI cq)), (2, .int (nI 0)), (3, .int (nI 6))]) hx hb dJ1_indexOfChar_4cfef_25 hl (k := 0) rfl (nI_inc _) (by decide) rfl (fun ls hl => ?_)
              refine lv_goto (tgt := 7) hx hb dJ1_indexOfChar_4cfef_28 (by decide) ?_
              refine lv_iload hx hb dJ1_indexOfChar_4cfef_7 (lv_at hl 0 rfl) ?_
              refine lv_iload_n hx hb dJ1_indexOfChar_4cfef_9 rfl (lv_at hl 5 rfl) ?_
              refine nv_ge (tgt := 31) hx hb (by omega) (by omega) dJ1_indexOfChar_4cfef_10 (by decide) (fun hc10 => ?_) (fun hc10 => ?_)
              · (exfalso; omega)
              · refine lv_aload_n hx hb dJ1_indexOfChar_4cfef_13 rfl (lv_at hl 2 rfl) ?_
                refine lv_iload hx hb dJ1_indexOfChar_4cfef_14 (lv_at hl 0 rfl) ?_
                refine va_tb (v := .int (nI 104)) hx hb hSE.T hS0 (vp_in_nI (by decide) (by decide)) (by rw [nI_clamp (by decide)]; rfl) dJ1_indexOfChar_4cfef_16 ?_
                refine lv_iload hx hb dJ1_indexOfChar_4cfef_17 (lv_at hl 1 rfl) ?_
                refine nv_ne (tgt := 25) hx hb (by omega) (by omega) dJ1_indexOfChar_4cfef_19 (by decide) (fun hc19 => ?_) (fun hc19 => ?_)
                · refine lv_iinc (v := nI 4) (lv' := [(5, .int (nI 4)), (4, .int (nI cq)), (0, .ref (z 7)), (1, .int (nI cq)), (2, .int (nI 0)), (3, .int (nI 6))]) hx hb dJ1_indexOfChar_4cfef_25 hl (k := 0) rfl (nI_inc _) (by decide) rfl (fun ls hl => ?_)
                  refine lv_goto (tgt := 7) hx hb dJ1_indexOfChar_4cfef_28 (by decide) ?_
                  refine lv_iload hx hb dJ1_indexOfChar_4cfef_7 (lv_at hl 0 rfl) ?_
                  refine lv_iload_n hx hb dJ1_indexOfChar_4cfef_9 rfl (lv_at hl 5 rfl) ?_
                  refine nv_ge (tgt := 31) hx hb (by omega) (by omega) dJ1_indexOfChar_4cfef_10 (by decide) (fun hc10 => ?_) (fun hc10 => ?_)
                  · (exfalso; omega)
                  · refine lv_aload_n hx hb dJ1_indexOfChar_4cfef_13 rfl (lv_at hl 2 rfl) ?_
                    refine lv_iload hx hb dJ1_indexOfChar_4cfef_14 (lv_at hl 0 rfl) ?_
                    refine va_tb (v := .int (nI 115)) hx hb hSE.T hS0 (vp_in_nI (by decide) (by decide)) (by rw [nI_clamp (by decide)]; rfl) dJ1_indexOfChar_4cfef_16 ?_
                    refine lv_iload hx hb dJ1_indexOfChar_4cfef_17 (lv_at hl 1 rfl) ?_
                    refine nv_ne (tgt := 25) hx hb (by omega) (by omega) dJ1_indexOfChar_4cfef_19 (by decide) (fun hc19 => ?_) (fun hc19 => ?_)
                    · refine lv_iinc (v := nI 5) (lv' := [(5, .int (nI 5)), (4, .int (nI cq)), (0, .ref (z 7)), (1, .int (nI cq)), (2, .int (nI 0)), (3, .int (nI 6))]) hx hb dJ1_indexOfChar_4cfef_25 hl (k := 0) rfl (nI_inc _) (by decide) rfl (fun ls hl => ?_)
                      refine lv_goto (tgt := 7) hx hb dJ1_indexOfChar_4cfef_28 (by decide) ?_
                      refine lv_iload hx hb dJ1_indexOfChar_4cfef_7 (lv_at hl 0 rfl) ?_
                      refine lv_iload_n hx hb dJ1_indexOfChar_4cfef_9 rfl (lv_at hl 5 rfl) ?_
                      refine nv_ge (tgt := 31) hx hb (by omega) (by omega) dJ1_indexOfChar_4cfef_10 (by decide) (fun hc10 => ?_) (fun hc10 => ?_)
                      · (exfalso; omega)
                      · refine lv_aload_n hx hb dJ1_indexOfChar_4cfef_13 rfl (lv_at hl 2 rfl) ?_
                        refine lv_iload hx hb dJ1_indexOfChar_4cfef_14 (lv_at hl 0 rfl) ?_
                        refine va_tb (v := .int (nI 99)) hx hb hSE.T hS0 (vp_in_nI (by decide) (by decide)) (by rw [nI_clamp (by decide)]; rfl) dJ1_indexOfChar_4cfef_16 ?_
                        refine lv_iload hx hb dJ1_indexOfChar_4cfef_17 (lv_at hl 1 rfl) ?_
                        refine nv_ne (tgt := 25) hx hb (by omega) (by omega) dJ1_indexOfChar_4cfef_19 (by decide) (fun hc19 => ?_) (fun hc19 => ?_)
                        · refine lv_iinc (v := nI 6) (lv' := [(5, .int (nI 6)), (4, .int (nI cq)), (0, .ref (z 7)), (1, .int (nI cq)), (2, .int (nI 0)), (3, .int (nI 6))]) hx hb dJ1_indexOfChar_4cfef_25 hl (k := 0) rfl (nI_inc _) (by decide) rfl (fun ls hl => ?_)
                          refine lv_goto (tgt := 7) hx hb dJ1_indexOfChar_4cfef_28 (by decide) ?_
                          refine lv_iload hx hb dJ1_indexOfChar_4cfef_7 (lv_at hl 0 rfl) ?_
                          refine lv_iload_n hx hb dJ1_indexOfChar_4cfef_9 rfl (lv_at hl 5 rfl) ?_
                          refine nv_ge (tgt := 31) hx hb (by omega) (by omega) dJ1_indexOfChar_4cfef_10 (by decide) (fun hc10 => ?_) (fun hc10 => ?_)
                          · refine lv_iconst (v := (-1)) hx hb dJ1_indexOfChar_4cfef_31 (by decide +kernel) ?_
                            exact nv_ri hx hb hr hlocks dJ1_indexOfChar_4cfef_32 (kdI_no (by omega) (by omega) (by omega) (by omega) (by omega) (by omega)).symm
                          · (exfalso; omega)
                        · refine lv_iload hx hb dJ1_indexOfChar_4cfef_22 (lv_at hl 0 rfl) ?_
                          exact nv_ri hx hb hr hlocks dJ1_indexOfChar_4cfef_24 (by rw [show cq = 99 by omega]; decide +kernel)
                    · refine lv_iload hx hb dJ1_indexOfChar_4cfef_22 (lv_at hl 0 rfl) ?_
                      exact nv_ri hx hb hr hlocks dJ1_indexOfChar_4cfef_24 (by rw [show cq = 115 by omega]; decide +kernel)
                · refine lv_iload hx hb dJ1_indexOfChar_4cfef_22 (lv_at hl 0 rfl) ?_
                  exact nv_ri hx hb hr hlocks dJ1_indexOfChar_4cfef_24 (by rw [show cq = 104 by omega]; decide +kernel)
            · refine lv_iload hx hb dJ1_indexOfChar_4cfef_22 (lv_at hl 0 rfl) ?_
              exact nv_ri hx hb hr hlocks dJ1_indexOfChar_4cfef_24 (by rw [show cq = 103 by omega]; decide +kernel)
        · refine lv_iload hx hb dJ1_indexOfChar_4cfef_22 (lv_at hl 0 rfl) ?_
          exact nv_ri hx hb hr hlocks dJ1_indexOfChar_4cfef_24 (by rw [show cq = 98 by omega]; decide +kernel)
    · refine lv_iload hx hb dJ1_indexOfChar_4cfef_22 (lv_at hl 0 rfl) ?_
      exact nv_ri hx hb hr hlocks dJ1_indexOfChar_4cfef_24 (by rw [show cq = 112 by omega]; decide +kernel)

set_option maxHeartbeats 4000000 in
set_option maxRecDepth 100000 in
theorem c_J1_indexOf_4cfef (l : Launch) (D : va_G) (z : Nat → ClassId) (cq : Nat) (hcq : cq < 128) : CPS l yJ1_indexOf_4cfef cJ1_indexOf_4cfef 4 (some .int) 1 25 [.ref (z 7), .int (nI cq), .int (nI 0), .int (nI 6)] D z (some (.int (kdI cq))) := by
  refine Met.ofW (cc := cJ1_indexOf_4cfef) (maxL := 4) (ret := (some .int)) (by decide) rfl ?_
  intro pg e s m args below meth c s₁ B hml hv
  obtain ⟨rfl, hK, hSE⟩ := hv
  have hS0 : va_S (fun _ => False) s.heap s.heap [] := va_S.rf
  have hP : va_P D vwCl [] s.heap := nv_P0
  have hx := B.exec
  have hb := B.bytes
  have hr := B.returns
  have hts : ∀ w ∈ ALL, w.before _ s = true := fun w h => atoms_spec (ws := wA yJ1_indexOf_4cfef cJ1_indexOf_4cfef 4 (some .int)) B.pre w (List.mem_cons_of_mem _ h)
  have hown : s.vm.findClass RJ1 = some m.cls := findClass_of_methodNamed B.named
  have hlocks := B.notSynchronized
  have hl := lv_entry ([.ref (z 7), .int (nI cq), .int (nI 0), .int (nI 6)]) (n := 4) (Nat.le_of_ble_eq_true rfl)
  rw [lg_entry_eq]
  generalize (lg_sl ([.ref (z 7), .int (nI cq), .int (nI 0), .int (nI 6)]) ++ List.replicate (4 - (lg_sl ([.ref (z 7), .int (nI cq), .int (nI 0), .int (nI 6)])).length) Slot.unset).toArray = ls at hl ⊢
  have hl : lv_has ls 4 [(0, .ref (z 7)), (1, .int (nI cq)), (2, .int (nI 0)), (3, .int (nI 6))] := hl
  refine lv_iload_n hx hb dJ1_indexOf_4cfef_0 rfl (lv_at hl 1 rfl) ?_
  have hPc := hP.sub (ws' := []) [] rfl
  refine nv_cp1 (va_runS (As := [.int (nI cq)]) (rest := []) ⟨hx, hb, hml, hown, hts⟩ (c_J1_canEncode_9a6ad l D z cq (by first | assumption | omega)) (va_cwS 1 hts (gS m_231 m_232 m_233 m_226) rfl rfl rfl hd_J1_canEncode_9a6ad ⟨Nat.le_of_ble_eq_true rfl, Nat.le_of_ble_eq_true rfl⟩) (nv_preP hK hPc trivial _) rfl rfl hl.1 rfl (lv_room (Nat.le_of_ble_eq_true rfl)) dJ1_indexOf_4cfef_1 ⟨Nat.le_refl _, Nat.le_refl _⟩) ?_
  refine nv_ifne (tgt := 9) hx hb (by omega) dJ1_indexOf_4cfef_4 (by decide) (fun hc4 => ?_) (fun hc4 => ?_)
  · refine lv_iload_n hx hb dJ1_indexOf_4cfef_9 rfl (lv_at hl 2 rfl) ?_
    refine lv_iconst (v := nI 0) hx hb dJ1_indexOf_4cfef_10 (by decide +kernel) ?_
    refine nv_mmax (r9 := nI 0) hx hb (hml.trans hl.1.symm) hown (hts _ m_229) (hts _ m_114) (hts _ m_14) (hts _ m_115) (Nat.le_of_ble_eq_true rfl) (Nat.le_of_ble_eq_true rfl) (Nat.le_of_ble_eq_true rfl) (Nat.le_of_ble_eq_true rfl) (by decide +kernel) dJ1_indexOf_4cfef_11 ?_
    refine lv_istore_n (lv' := [(2, .int (nI 0)), (0, .ref (z 7)), (1, .int (nI cq)), (3, .int (nI 6))]) hx hb dJ1_indexOf_4cfef_14 rfl hl (by decide) rfl (fun ls hl => ?_)
    refine lv_iload_n hx hb dJ1_indexOf_4cfef_15 rfl (lv_at hl 3 rfl) ?_
    refine lv_aload_n hx hb dJ1_indexOf_4cfef_16 rfl (lv_at hl 1 rfl) ?_
    refine va_tlen (v := nI 6) hx hb hSE.T hS0 rfl dJ1_indexOf_4cfef_17 ?_
    refine nv_mmin (r9 := nI 6) hx hb (hml.trans hl.1.symm) hown (hts _ m_230) (hts _ m_13) (hts _ m_14) (hts _ m_15) (Nat.le_of_ble_eq_true rfl) (Nat.le_of_ble_eq_true rfl) (Nat.le_of_ble_eq_true rfl) (Nat.le_of_ble_eq_true rfl) (by decide +kernel) dJ1_indexOf_4cfef_18 ?_
    refine lv_istore_n (lv' := [(3, .int (nI 6)), (2, .int (nI 0)), (0, .ref (z 7)), (1, .int (nI cq))]) hx hb dJ1_indexOf_4cfef_21 rfl hl (by decide) rfl (fun ls hl => ?_)
    refine lv_iload_n hx hb dJ1_indexOf_4cfef_22 rfl (lv_at hl 1 rfl) ?_
    refine lv_iload_n hx hb dJ1_indexOf_4cfef_23 rfl (lv_at hl 0 rfl) ?_
    refine nv_lt (tgt := 29) hx hb (by omega) (by omega) dJ1_indexOf_4cfef_24 (by decide) (fun hc24 => ?_) (fun hc24 => ?_)
    · refine lv_aload_n hx hb dJ1_indexOf_4cfef_29 rfl (lv_at hl 2 rfl) ?_
      refine lv_iload_n hx hb dJ1_indexOf_4cfef_30 rfl (lv_at hl 3 rfl) ?_
      refine lv_iload_n hx hb dJ1_indexOf_4cfef_31 rfl (lv_at hl 1 rfl) ?_
      refine lv_iload_n hx hb dJ1_indexOf_4cfef_32 rfl (lv_at hl 0 rfl) ?_
      refine nv_cp1 (va_runS (As := [.ref (z 7), .int (nI cq), .int (nI 0), .int (nI 6)]) (rest := []) ⟨hx, hb, hml, hown, hts⟩ (c_J1_indexOfChar_4cfef l D z cq (by omega)) (va_cwS 4 hts (gS m_234 m_235 m_233 m_227) rfl rfl rfl hd_J1_indexOfChar_4cfef ⟨Nat.le_of_ble_eq_true rfl, Nat.le_of_ble_eq_true rfl⟩) (nv_preSS hK hSE _) rfl rfl hl.1 rfl (lv_room (Nat.le_of_ble_eq_true rfl)) dJ1_indexOf_4cfef_33 ⟨Nat.le_refl _, Nat.le_refl _⟩) ?_
      exact nv_ri hx hb hr hlocks dJ1_indexOf_4cfef_36 rfl
    · (exfalso; omega)
  · (exfalso; omega)

set_option maxHeartbeats 4000000 in
set_option maxRecDepth 100000 in
theorem c_J0_indexOf_7cf53 (l : Launch) (D : va_G) (z : Nat → ClassId) (cq : Nat) (hcq : cq < 128) : CPS l yJ0_indexOf_7cf53 cJ0_indexOf_7cf53 3 (some .int) 2 48 [.ref (z 6), .int (nI cq), .int (nI 0)] D z (some (.int (kdI cq))) := by
  refine Met.ofW (cc := cJ0_indexOf_7cf53) (maxL := 3) (ret := (some .int)) (by decide) rfl ?_
  intro pg e s m args below meth c s₁ B hml hv
  obtain ⟨rfl, hK, hSE⟩ := hv
  have hS0 : va_S (fun _ => False) s.heap s.heap [] := va_S.rf
  have hP : va_P D vwCl [] s.heap := nv_P0
  have hx := B.exec
  have hb := B.bytes
  have hr := B.returns
  have hts : ∀ w ∈ ALL, w.before _ s = true := fun w h => atoms_spec (ws := wA yJ0_indexOf_7cf53 cJ0_indexOf_7cf53 3 (some .int)) B.pre w (List.mem_cons_of_mem _ h)
  have hown : s.vm.findClass RJ0 = some m.cls := findClass_of_methodNamed B.named
  have hlocks := B.notSynchronized
  have hl := lv_entry ([.ref (z 6), .int (nI cq), .int (nI 0)]) (n := 3) (Nat.le_of_ble_eq_true rfl)
  rw [lg_entry_eq]
  generalize (lg_sl ([.ref (z 6), .int (nI cq), .int (nI 0)]) ++ List.replicate (3 - (lg_sl ([.ref (z 6), .int (nI cq), .int (nI 0)])).length) Slot.unset).toArray = ls at hl ⊢
  have hl : lv_has ls 3 [(0, .ref (z 6)), (1, .int (nI cq)), (2, .int (nI 0))] := hl
  refine lv_aload_n hx hb dJ0_indexOf_7cf53_0 rfl (lv_at hl 0 rfl) ?_
  refine nv_cp1 (va_runV (As := []) (rest := []) ⟨hx, hb, hml, hown, hts⟩ (c_J0_isLatin1_aae02 l D z  ) (cwV 0 hts (gV m_282 m_283 m_284 m_225 m_216) rfl rfl rfl ⟨rfl, hd_J0_isLatin1_aae02⟩ ⟨Nat.le_of_ble_eq_true rfl, Nat.le_of_ble_eq_true rfl⟩) (nv_preSV hK hSE _) rfl rfl hl.1 rfl (lv_room (Nat.le_of_ble_eq_true rfl)) dJ0_indexOf_7cf53_1 ⟨Nat.le_refl _, Nat.le_refl _⟩) ?_
  refine nv_ifeq (tgt := 23) hx hb (by omega) dJ0_indexOf_7cf53_4 (by decide) (fun hc4 => ?_) (fun hc4 => ?_)
  · (exfalso; omega)
  · refine lv_aload_n hx hb dJ0_indexOf_7cf53_7 rfl (lv_at hl 0 rfl) ?_
    refine vk_getf hx hb hSE.va hS0 hown (hts _ m_221) (fun _ h9 => h9) dJ0_indexOf_7cf53_8 ?_
    refine lv_iload_n hx hb dJ0_indexOf_7cf53_11 rfl (lv_at hl 1 rfl) ?_
    refine lv_iload_n hx hb dJ0_indexOf_7cf53_12 rfl (lv_at hl 2 rfl) ?_
    refine lv_aload_n hx hb dJ0_indexOf_7cf53_13 rfl (lv_at hl 0 rfl) ?_
    refine nv_cp1 (va_runV (As := []) (rest := [.int (nI 0), .int (nI cq), .ref (z 7)]) ⟨hx, hb, hml, hown, hts⟩ (c_J0_length_8abf5 l D z  ) (cwV 0 hts (gV m_285 m_286 m_287 m_225 m_220) rfl rfl rfl ⟨rfl, hd_J0_length_8abf5⟩ ⟨Nat.le_of_ble_eq_true rfl, Nat.le_of_ble_eq_true rfl⟩) (nv_preSV hK hSE _) rfl rfl hl.1 rfl (lv_room (Nat.le_of_ble_eq_true rfl)) dJ0_indexOf_7cf53_14 ⟨Nat.le_refl _, Nat.le_refl _⟩) ?_
    refine nv_cp1 (va_runS (As := [.ref (z 7), .int (nI cq), .int (nI 0), .int (nI 6)]) (rest := []) ⟨hx, hb, hml, hown, hts⟩ (c_J1_indexOf_4cfef l D z cq (by omega)) (va_cwS 4 hts (gS m_288 m_289 m_233 m_228) rfl rfl rfl hd_J1_indexOf_4cfef ⟨Nat.le_of_ble_eq_true rfl, Nat.le_of_ble_eq_true rfl⟩) (nv_preSS hK hSE _) rfl rfl hl.1 rfl (lv_room (Nat.le_of_ble_eq_true rfl)) dJ0_indexOf_7cf53_17 ⟨Nat.le_refl _, Nat.le_refl _⟩) ?_
    refine lv_goto (tgt := 36) hx hb dJ0_indexOf_7cf53_20 (by decide) ?_
    exact nv_ri hx hb hr hlocks dJ0_indexOf_7cf53_36 rfl

set_option maxHeartbeats 4000000 in
set_option maxRecDepth 100000 in
theorem c_J0_indexOf_0f7a4 (l : Launch) (D : va_G) (z : Nat → ClassId) (cq : Nat) (hcq : cq < 128) : CPS l yJ0_indexOf_0f7a4 cJ0_indexOf_0f7a4 2 (some .int) 3 70 [.ref (z 6), .int (nI cq)] D z (some (.int (kdI cq))) := by
  refine Met.ofW (cc := cJ0_indexOf_0f7a4) (maxL := 2) (ret := (some .int)) (by decide) rfl ?_
  intro pg e s m args below meth c s₁ B hml hv
  obtain ⟨rfl, hK, hSE⟩ := hv
  have hS0 : va_S (fun _ => False) s.heap s.heap [] := va_S.rf
  have hP : va_P D vwCl [] s.heap := nv_P0
  have hx := B.exec
  have hb := B.bytes
  have hr := B.returns
  have hts : ∀ w ∈ ALL, w.before _ s = true := fun w h => atoms_spec (ws := wA yJ0_indexOf_0f7a4 cJ0_indexOf_0f7a4 2 (some .int)) B.pre w (List.mem_cons_of_mem _ h)
  have hown : s.vm.findClass RJ0 = some m.cls := findClass_of_methodNamed B.named
  have hlocks := B.notSynchronized
  have hl := lv_entry ([.ref (z 6), .int (nI cq)]) (n := 2) (Nat.le_of_ble_eq_true rfl)
  rw [lg_entry_eq]
  generalize (lg_sl ([.ref (z 6), .int (nI cq)]) ++ List.replicate (2 - (lg_sl ([.ref (z 6), .int (nI cq)])).length) Slot.unset).toArray = ls at hl ⊢
  have hl : lv_has ls 2 [(0, .ref (z 6)), (1, .int (nI cq))] := hl
  refine lv_aload_n hx hb dJ0_indexOf_0f7a4_0 rfl (lv_at hl 0 rfl) ?_
  refine lv_iload_n hx hb dJ0_indexOf_0f7a4_1 rfl (lv_at hl 1 rfl) ?_
  refine lv_iconst (v := nI 0) hx hb dJ0_indexOf_0f7a4_2 (by decide +kernel) ?_
  refine nv_cp1 (va_runV (As := [.int (nI cq), .int (nI 0)]) (rest := []) ⟨hx, hb, hml, hown, hts⟩ (c_J0_indexOf_7cf53 l D z cq (by omega)) (cwV 2 hts (gV m_293 m_294 m_295 m_225 m_292) rfl rfl rfl ⟨rfl, hd_J0_indexOf_7cf53⟩ ⟨Nat.le_of_ble_eq_true rfl, Nat.le_of_ble_eq_true rfl⟩) (nv_preSV hK hSE _) rfl rfl hl.1 rfl (lv_room (Nat.le_of_ble_eq_true rfl)) dJ0_indexOf_0f7a4_3 ⟨Nat.le_refl _, Nat.le_refl _⟩) ?_
  exact nv_ri hx hb hr hlocks dJ0_indexOf_0f7a4_6 rfl

set_option maxHeartbeats 4000000 in
set_option maxRecDepth 100000 in
theorem c_X9_readPerson (l : Launch) (D : va_G) (z : Nat → ClassId) (sz : Nat) (tp : Nat) (tc : Nat) (tnQ : Nat) (pl : Nat) (f9 : Nat) (ta : Nat → Nat) (hn : Nat) (hp : Nat) (hh : Nat) (pf : Nat → Option Nat) (rQ : Nat → Nat) (X : va_W) (q9s : Nat × Nat) (htp : tOK ta tnQ) (hpl : pl ≤ tnQ) (hf9 : f9 ≤ 100) (hsim : simC ta tnQ pl f9 q9s) (h6 : rQ 6 ≤ 5) (hop : ∀ jQ, jQ < rQ 6 → rQ (7 + 4 * jQ + 3) ≤ 1) (hX : pfA X pf) (hXs : ∀ (i : Nat) (q : Nat × va_E), X[i]? = some q → q.1 < sz) : CXS (σ := Nat × (Nat → Nat) × (Nat → Option Nat)) l yX9_readPerson cX9_readPerson 7 none 5 96 1 1 [.ref tp, .ref hn] D z [(tp, .inr (9, [.ref tc, .int (nI tnQ), .int (nI pl), .int (ftI f9)])), aC z tc 60 ta, (hn, .inr (3, [.ref hp, .ref hh, .int (nI (rQ 6)), .int (nI (hpF rQ (rQ 6))), .int (nI (chF rQ (rQ 6))), .int (nI (rQ 0)), .int (nI (rQ 1)), .int (nI (rQ 2)), .int (nI (rQ 3)), .int (nI (rQ 4)), .int (nI (rQ 5))])), aP z hp 6 pf, aN z hh 6 (hbA rQ)] sz (fun H => peH D [(tp, .inr (9, [.ref tc, .int (nI tnQ), .int (nI pl), .int (ftI f9)])), aC z tc 60 ta, (hn, .inr (3, [.ref hp, .ref hh, .int (nI (rQ 6)), .int (nI (hpF rQ (rQ 6))), .int (nI (chF rQ (rQ 6))), .int (nI (rQ 0)), .int (nI (rQ 1)), .int (nI (rQ 2)), .int (nI (rQ 3)), .int (nI (rQ 4)), .int (nI (rQ 5))])), aP z hp 6 pf, aN z hh 6 (hbA rQ)] pf rQ H) (fun u => [(tp, .inr (9, [.ref tc, .int (nI tnQ), .int (nI u.1), .int (ftI ((aPer ta tnQ q9s).1))])), aC z tc 60 ta, (hn, .inr (3, [.ref hp, .ref hh, .int (nI (u.2.1 6)), .int (nI (hpF u.2.1 (u.2.1 6))), .int (nI (chF u.2.1 (u.2.1 6))), .int (nI (u.2.1 0)), .int (nI (u.2.1 1)), .int (nI (u.2.1 2)), .int (nI (u.2.1 3)), .int (nI (u.2.1 4)), .int (nI (u.2.1 5))])), aP z hp 6 u.2.2, aN z hh 6 (hbA u.2.1)]) none (fun u => (fun H => simC ta tnQ u.1 (aPer ta tnQ q9s).1 (aPer ta tnQ q9s) ∧ peH D [(tp, .inr (9, [.ref tc, .int (nI tnQ), .int (nI u.1), .int (ftI ((aPer ta tnQ q9s).1))])), aC z tc 60 ta, (hn, .inr (3, [.ref hp, .ref hh, .int (nI (u.2.1 6)), .int (nI (hpF u.2.1 (u.2.1 6))), .int (nI (chF u.2.1 (u.2.1 6))), .int (nI (u.2.1 0)), .int (nI (u.2.1 1)), .int (nI (u.2.1 2)), .int (nI (u.2.1 3)), .int (nI (u.2.1 4)), .int (nI (u.2.1 5))])), aP z hp 6 u.2.2, aN z hh 6 (hbA u.2.1)] u.2.2 u.2.1 H ∧ pfA X u.2.2 ∧ ((aPer ta tnQ q9s).1 = 0 → u.2.1 = aRow ta tnQ q9s rQ) ∧ ((aPer ta tnQ q9s).1 ≠ 0 → u.2.1 = rQ) ∧ (∀ jQ, jQ < u.2.1 6 → u.2.1 (7 + 4 * jQ + 3) ≤ 1))) := by
  refine Met.ofW (cc := cX9_readPerson) (maxL := 7) (ret := none) (by decide) rfl ?_
  intro pg e s m args below meth c s₁ B hml hv
  obtain ⟨rfl, ⟨hsz, hP, hK, hD0, hE⟩, hSE⟩ := hv
  have hx := B.exec
  have hb := B.bytes
  have hr := B.returns
  have hts : ∀ w ∈ ALL, w.before _ s = true := fun w h => atoms_spec (ws := wA yX9_readPerson cX9_readPerson 7 none) B.pre w (List.mem_cons_of_mem _ h)
  have hown : s.vm.findClass RX9 = some m.cls := findClass_of_methodNamed B.named
  have hlocks := B.notSynchronized
  subst hsz
  have hD := hD0.self (sz := s.heap.size)
  have htn := htp.1
  have hbk := bk_tn (ta := ta) hpl
  have hcl := chA_l (pl := pl) htp
  have hN : ∀ (H : Heap) (locs : List Loc), va_S (va_A [(tp, .inr (9, [.ref tc, .int (nI tnQ), .int (nI pl), .int (ftI f9)])), aC z tc 60 ta, (hn, .inr (3, [.ref hp, .ref hh, .int (nI (rQ 6)), .int (nI (hpF rQ (rQ 6))), .int (nI (chF rQ (rQ 6))), .int (nI (rQ 0)), .int (nI (rQ 1)), .int (nI (rQ 2)), .int (nI (rQ 3)), .int (nI (rQ 4)), .int (nI (rQ 5))])), aP z hp 6 pf, aN z hh 6 (hbA rQ)] s.heap.size) s.heap H locs → peH D [(tp, .inr (9, [.ref tc, .int (nI tnQ), .int (nI pl), .int (ftI f9)])), aC z tc 60 ta, (hn, .inr (3, [.ref hp, .ref hh, .int (nI (rQ 6)), .int (nI (hpF rQ (rQ 6))), .int (nI (chF rQ (rQ 6))), .int (nI (rQ 0)), .int (nI (rQ 1)), .int (nI (rQ 2)), .int (nI (rQ 3)), .int (nI (rQ 4)), .int (nI (rQ 5))])), aP z hp 6 pf, aN z hh 6 (hbA rQ)] pf rQ H := fun H locs h9 => peH.now hE h9
  have hA : ∀ q : Nat, s.heap.size ≤ q → va_A [(tp, .inr (9, [.ref tc, .int (nI tnQ), .int (nI pl), .int (ftI f9)])), aC z tc 60 ta, (hn, .inr (3, [.ref hp, .ref hh, .int (nI (rQ 6)), .int (nI (hpF rQ (rQ 6))), .int (nI (chF rQ (rQ 6))), .int (nI (rQ 0)), .int (nI (rQ 1)), .int (nI (rQ 2)), .int (nI (rQ 3)), .int (nI (rQ 4)), .int (nI (rQ 5))])), aP z hp 6 pf, aN z hh 6 (hbA rQ)] s.heap.size q := fun q h => Or.inr h
  generalize va_A [(tp, .inr (9, [.ref tc, .int (nI tnQ), .int (nI pl), .int (ftI f9)])), aC z tc 60 ta, (hn, .inr (3, [.ref hp, .ref hh, .int (nI (rQ 6)), .int (nI (hpF rQ (rQ 6))), .int (nI (chF rQ (rQ 6))), .int (nI (rQ 0)), .int (nI (rQ 1)), .int (nI (rQ 2)), .int (nI (rQ 3)), .int (nI (rQ 4)), .int (nI (rQ 5))])), aP z hp 6 pf, aN z hh 6 (hbA rQ)] s.heap.size = A at *
  have hS : va_S A s.heap s.heap [] := va_S.rf
  have hl := lv_entry ([.ref tp, .ref hn]) (n := 7) (Nat.le_of_ble_eq_true rfl)
  rw [lg_entry_eq]
  generalize (lg_sl ([.ref tp, .ref hn]) ++ List.replicate (7 - (lg_sl ([.ref tp, .ref hn])).length) Slot.unset).toArray = ls at hl ⊢
  have hl : lv_has ls 7 [(0, .ref tp), (1, .ref hn)] := hl
  refine va_ldcS hx hb hown hSE.1 dX9_readPerson_0 ?_
  refine lv_aload_n hx hb dX9_readPerson_2 rfl (lv_at hl 0 rfl) ?_
  have hPc := hP.sub (ws' := [(tp, .inr (9, [.ref tc, .int (nI tnQ), .int (nI pl), .int (ftI f9)])), aC z tc 60 ta]) [0, 1] rfl
  have hDc := hD.sub (ws' := [(tp, .inr (9, [.ref tc, .int (nI tnQ), .int (nI pl), .int (ftI f9)])), aC z tc 60 ta]) [0, 1] (by decide) rfl
  refine nv_cm1 (wc := [(tp, .inr (9, [.ref tc, .int (nI tnQ), .int (nI pl), .int (ftI f9)])), aC z tc 60 ta]) (wr := [(hn, .inr (3, [.ref hp, .ref hh, .int (nI (rQ 6)), .int (nI (hpF rQ (rQ 6))), .int (nI (chF rQ (rQ 6))), .int (nI (rQ 0)), .int (nI (rQ 1)), .int (nI (rQ 2)), .int (nI (rQ 3)), .int (nI (rQ 4)), .int (nI (rQ 5))])), aP z hp 6 pf, aN z hh 6 (hbA rQ)]) (w1 := [(tp, .inr (9, [.ref tc, .int (nI tnQ), .int (nI (blk ta tnQ pl)), .int (ftI f9)])), aC z tc 60 ta]) (ws1 := [(tp, .inr (9, [.ref tc, .int (nI tnQ), .int (nI (blk ta tnQ pl)), .int (ftI f9)])), aC z tc 60 ta, (hn, .inr (3, [.ref hp, .ref hh, .int (nI (rQ 6)), .int (nI (hpF rQ (rQ 6))), .int (nI (chF rQ (rQ 6))), .int (nI (rQ 0)), .int (nI (rQ 1)), .int (nI (rQ 2)), .int (nI (rQ 3)), .int (nI (rQ 4)), .int (nI (rQ 5))])), aP z hp 6 pf, aN z hh 6 (hbA rQ)]) (va_runV (As := []) (rest := [.ref (z 6)]) ⟨hx, hb, hml, hown, hts⟩ (c_X9_look l D z s.heap.size tp tc tnQ pl f9 ta (by first | assumption | omega) (by first | assumption | omega) (by first | assumption | omega)) (cwV 0 hts (gV m_201 m_202 m_203 m_204 m_194) rfl rfl rfl ⟨rfl, hd_X9_look⟩ ⟨Nat.le_of_ble_eq_true rfl, Nat.le_of_ble_eq_true rfl⟩) (nv_preMV (ci := 9) (q0 := 0) hK hPc hDc trivial rfl rfl) rfl rfl hl.1 rfl (lv_room (Nat.le_of_ble_eq_true rfl)) dX9_readPerson_3 ⟨by decide, by decide⟩) hP hD hS hA [0, 1] [2, 3, 4] [3, 4, 0, 1, 2] rfl rfl (by decide) (by decide) rfl (by decide) rfl (by decide) (fun H locs hP hD hS hE3 hz3 hf3 => ?_)
  clear hPc hDc
  clear hf3 hz3
  refine nv_cp1 (va_runV (As := [.int (nI (chA ta tnQ pl))]) (rest := []) ⟨hx, hb, hml, hown, hts⟩ (c_J0_indexOf_0f7a4 l D z (chA ta tnQ pl) (by omega)) (cwV 1 hts (gV m_320 m_321 m_322 m_225 m_296) rfl rfl rfl ⟨rfl, hd_J0_indexOf_0f7a4⟩ ⟨Nat.le_of_ble_eq_true rfl, Nat.le_of_ble_eq_true rfl⟩) (nv_preSV hK (hSE.no hS) _) rfl rfl hl.1 rfl (lv_room (Nat.le_of_ble_eq_true rfl)) dX9_readPerson_6 ⟨by decide, by decide⟩) ?_
  refine lv_istore_n (lv' := [(2, .int (kdI (chA ta tnQ pl))), (0, .ref tp), (1, .ref hn)]) hx hb dX9_readPerson_9 rfl hl (by decide) rfl (fun ls hl => ?_)
  refine lv_iload_n hx hb dX9_readPerson_10 rfl (lv_at hl 0 rfl) ?_
  refine lv_if_ge (tgt := 23) hx hb dX9_readPerson_11 (by decide) (fun hc11 => ?_) (fun hc11 => ?_)
  · have hk : kdF (chA ta tnQ pl) ≤ 5 := (kdI_ge _).mp hc11
    rw [show kdI (chA ta tnQ pl) = nI (kdF (chA ta tnQ pl)) from if_pos hk] at hl
    refine lv_aload_n hx hb dX9_readPerson_23 rfl (lv_at hl 1 rfl) ?_
    refine lv_dup hx hb dX9_readPerson_24 rfl ?_
    refine va_get (D := D) (ci := 9) (v := .int (nI (blk ta tnQ pl))) (C := RX9) (T := TX9) (N := 4) hx hb hts iX9 hown hK.1 hP 0 rfl rfl 2 (by decide) (hts _ m_192) (fun _ h9 => h9) rfl dX9_readPerson_25 ?_
    refine lv_iconst (v := nI 1) hx hb dX9_readPerson_28 (by decide +kernel) ?_
    refine nv_add hx hb dX9_readPerson_29 ?_
    refine va_put (D := D) (ci := 9) (v := .int (nI (blk ta tnQ pl + 1))) (ty := tyX9 2) (C := RX9) (T := TX9) (N := 4) hx hb hts iX9 tyX9 tyX9_ok nmX9 hown hK.1 hP hD hS 0 rfl rfl 2 (by decide) (hts _ m_192) (fun _ h9 => h9) rfl (tyX9_ok 2 (by decide)) rfl rfl (Nat.le_of_ble_eq_true rfl) dX9_readPerson_30 (fun H locs hP hD hS => ?_)
    have hP : va_P D vwCl [(tp, .inr (9, [.ref tc, .int (nI tnQ), .int (nI (blk ta tnQ pl + 1)), .int (ftI f9)])), aC z tc 60 ta, (hn, .inr (3, [.ref hp, .ref hh, .int (nI (rQ 6)), .int (nI (hpF rQ (rQ 6))), .int (nI (chF rQ (rQ 6))), .int (nI (rQ 0)), .int (nI (rQ 1)), .int (nI (rQ 2)), .int (nI (rQ 3)), .int (nI (rQ 4)), .int (nI (rQ 5))])), aP z hp 6 pf, aN z hh 6 (hbA rQ)] H := hP
    have hD : va_D A [(tp, .inr (9, [.ref tc, .int (nI tnQ), .int (nI (blk ta tnQ pl + 1)), .int (ftI f9)])), aC z tc 60 ta, (hn, .inr (3, [.ref hp, .ref hh, .int (nI (rQ 6)), .int (nI (hpF rQ (rQ 6))), .int (nI (chF rQ (rQ 6))), .int (nI (rQ 0)), .int (nI (rQ 1)), .int (nI (rQ 2)), .int (nI (rQ 3)), .int (nI (rQ 4)), .int (nI (rQ 5))])), aP z hp 6 pf, aN z hh 6 (hbA rQ)] := hD
    have hs1 : simC ta tnQ (blk ta tnQ pl + 1) f9 (aP1 ta tnQ q9s) := hsim.kin hk
    obtain ⟨c2Q, hcc2⟩ : ∃ y9 : Nat, y9 = blk ta tnQ pl + 1 := ⟨_, rfl⟩
    rw [← hcc2] at hP hD hs1
    have hP : va_P D vwCl [(tp, .inr (9, [.ref tc, .int (nI tnQ), .int (nI c2Q), .int (ftI f9)])), aC z tc 60 ta, (hn, .inr (3, [.ref hp, .ref hh, .int (nI (rQ 6)), .int (nI (hpF rQ (rQ 6))), .int (nI (chF rQ (rQ 6))), .int (nI (rQ 0)), .int (nI (rQ 1)), .int (nI (rQ 2)), .int (nI (rQ 3)), .int (nI (rQ 4)), .int (nI (rQ 5))])), aP z hp 6 pf, aN z hh 6 (hbA rQ)] H := hP
    have hD : va_D A [(tp, .inr (9, [.ref tc, .int (nI tnQ), .int (nI c2Q), .int (ftI f9)])), aC z tc 60 ta, (hn, .inr (3, [.ref hp, .ref hh, .int (nI (rQ 6)), .int (nI (hpF rQ (rQ 6))), .int (nI (chF rQ (rQ 6))), .int (nI (rQ 0)), .int (nI (rQ 1)), .int (nI (rQ 2)), .int (nI (rQ 3)), .int (nI (rQ 4)), .int (nI (rQ 5))])), aP z hp 6 pf, aN z hh 6 (hbA rQ)] := hD
    have hpl2 := hs1.2.1
    have hfl2 : f9 ≤ 100 := by have h7 := hs1.1; have h8 := hs1.2.2.2; omega
    refine lv_aload_n hx hb dX9_readPerson_33 rfl (lv_at hl 1 rfl) ?_
    refine lv_iconst (v := nI 1) hx hb dX9_readPerson_34 (by decide +kernel) ?_
    have hPc := hP.sub (ws' := [(tp, .inr (9, [.ref tc, .int (nI tnQ), .int (nI c2Q), .int (ftI f9)])), aC z tc 60 ta]) [0, 1] rfl
    have hDc := hD.sub (ws' := [(tp, .inr (9, [.ref tc, .int (nI tnQ), .int (nI c2Q), .int (ftI f9)])), aC z tc 60 ta]) [0, 1] (by decide) rfl
    refine nv_cm1 (wc := [(tp, .inr (9, [.ref tc, .int (nI tnQ), .int (nI c2Q), .int (ftI f9)])), aC z tc 60 ta]) (wr := [(hn, .inr (3, [.ref hp, .ref hh, .int (nI (rQ 6)), .int (nI (hpF rQ (rQ 6))), .int (nI (chF rQ (rQ 6))), .int (nI (rQ 0)), .int (nI (rQ 1)), .int (nI (rQ 2)), .int (nI (rQ 3)), .int (nI (rQ 4)), .int (nI (rQ 5))])), aP z hp 6 pf, aN z hh 6 (hbA rQ)]) (w1 := [(tp, .inr (9, [.ref tc, .int (nI tnQ), .int (nI (dpF ta tnQ c2Q 1)), .int (ftI (dfF ta tnQ c2Q 1 f9))])), aC z tc 60 ta]) (ws1 := [(tp, .inr (9, [.ref tc, .int (nI tnQ), .int (nI (dpF ta tnQ c2Q 1)), .int (ftI (dfF ta tnQ c2Q 1 f9))])), aC z tc 60 ta, (hn, .inr (3, [.ref hp, .ref hh, .int (nI (rQ 6)), .int (nI (hpF rQ (rQ 6))), .int (nI (chF rQ (rQ 6))), .int (nI (rQ 0)), .int (nI (rQ 1)), .int (nI (rQ 2)), .int (nI (rQ 3)), .int (nI (rQ 4)), .int (nI (rQ 5))])), aP z hp 6 pf, aN z hh 6 (hbA rQ)]) (va_runV (As := [.int (nI 1)]) (rest := []) ⟨hx, hb, hml, hown, hts⟩ (c_X9_digit l D z H.size tp tc tnQ c2Q f9 ta 1 (by first | assumption | omega) (by first | assumption | omega) (by first | assumption | omega) (by first | assumption | omega)) (cwV 1 hts (gV m_323 m_324 m_325 m_204 m_215) rfl rfl rfl ⟨rfl, hd_X9_digit⟩ ⟨Nat.le_of_ble_eq_true rfl, Nat.le_of_ble_eq_true rfl⟩) (nv_preMV (ci := 9) (q0 := 0) hK hPc hDc trivial rfl rfl) rfl rfl hl.1 rfl (lv_room (Nat.le_of_ble_eq_true rfl)) dX9_readPerson_35 ⟨by decide, by decide⟩) hP hD hS hA [0, 1] [2, 3, 4] [3, 4, 0, 1, 2] rfl rfl (by decide) (by decide) rfl (by decide) rfl (by decide) (fun H locs hP hD hS hE35 hz35 hf35 => ?_)
    clear hPc hDc
    clear hf35 hz35
    have hs2 : simC ta tnQ _ _ (aP2 ta tnQ q9s) := hs1.dig (lo := 1)
    obtain ⟨c3Q, hcc3⟩ : ∃ y9 : Nat, y9 = dpF ta tnQ c2Q 1 := ⟨_, rfl⟩
    rw [← hcc3] at hP hD hs2
    obtain ⟨fb3, hfb3⟩ : ∃ y9 : Nat, y9 = dfF ta tnQ c2Q 1 f9 := ⟨_, rfl⟩
    rw [← hfb3] at hP hD hs2
    have hP : va_P D vwCl [(tp, .inr (9, [.ref tc, .int (nI tnQ), .int (nI c3Q), .int (ftI fb3)])), aC z tc 60 ta, (hn, .inr (3, [.ref hp, .ref hh, .int (nI (rQ 6)), .int (nI (hpF rQ (rQ 6))), .int (nI (chF rQ (rQ 6))), .int (nI (rQ 0)), .int (nI (rQ 1)), .int (nI (rQ 2)), .int (nI (rQ 3)), .int (nI (rQ 4)), .int (nI (rQ 5))])), aP z hp 6 pf, aN z hh 6 (hbA rQ)] H := hP
    have hD : va_D A [(tp, .inr (9, [.ref tc, .int (nI tnQ), .int (nI c3Q), .int (ftI fb3)])), aC z tc 60 ta, (hn, .inr (3, [.ref hp, .ref hh, .int (nI (rQ 6)), .int (nI (hpF rQ (rQ 6))), .int (nI (chF rQ (rQ 6))), .int (nI (rQ 0)), .int (nI (rQ 1)), .int (nI (rQ 2)), .int (nI (rQ 3)), .int (nI (rQ 4)), .int (nI (rQ 5))])), aP z hp 6 pf, aN z hh 6 (hbA rQ)] := hD
    have hpl3 := hs2.2.1
    have hfl3 : fb3 ≤ 100 := by have h7 := hs2.1; have h8 := hs2.2.2.2; omega
    refine lv_istore_n (lv' := [(3, .int (nI (dgC ta tnQ c2Q 1))), (2, .int (nI (kdF (chA ta tnQ pl)))), (0, .ref tp), (1, .ref hn)]) hx hb dX9_readPerson_38 rfl hl (by decide) rfl (fun ls hl => ?_)
    refine lv_aload_n hx hb dX9_readPerson_39 rfl (lv_at hl 2 rfl) ?_
    refine lv_iconst (v := nI 0) hx hb dX9_readPerson_40 (by decide +kernel) ?_
    have hPc := hP.sub (ws' := [(tp, .inr (9, [.ref tc, .int (nI tnQ), .int (nI c3Q), .int (ftI fb3)])), aC z tc 60 ta]) [0, 1] rfl
    have hDc := hD.sub (ws' := [(tp, .inr (9, [.ref tc, .int (nI tnQ), .int (nI c3Q), .int (ftI fb3)])), aC z tc 60 ta]) [0, 1] (by decide) rfl
    refine nv_cm1 (wc := [(tp, .inr (9, [.ref tc, .int (nI tnQ), .int (nI c3Q), .int (ftI fb3)])), aC z tc 60 ta]) (wr := [(hn, .inr (3, [.ref hp, .ref hh, .int (nI (rQ 6)), .int (nI (hpF rQ (rQ 6))), .int (nI (chF rQ (rQ 6))), .int (nI (rQ 0)), .int (nI (rQ 1)), .int (nI (rQ 2)), .int (nI (rQ 3)), .int (nI (rQ 4)), .int (nI (rQ 5))])), aP z hp 6 pf, aN z hh 6 (hbA rQ)]) (w1 := [(tp, .inr (9, [.ref tc, .int (nI tnQ), .int (nI (dpF ta tnQ c3Q 0)), .int (ftI (dfF ta tnQ c3Q 0 fb3))])), aC z tc 60 ta]) (ws1 := [(tp, .inr (9, [.ref tc, .int (nI tnQ), .int (nI (dpF ta tnQ c3Q 0)), .int (ftI (dfF ta tnQ c3Q 0 fb3))])), aC z tc 60 ta, (hn, .inr (3, [.ref hp, .ref hh, .int (nI (rQ 6)), .int (nI (hpF rQ (rQ 6))), .int (nI (chF rQ (rQ 6))), .int (nI (rQ 0)), .int (nI (rQ 1)), .int (nI (rQ 2)), .int (nI (rQ 3)), .int (nI (rQ 4)), .int (nI (rQ 5))])), aP z hp 6 pf, aN z hh 6 (hbA rQ)]) (va_runV (As := [.int (nI 0)]) (rest := []) ⟨hx, hb, hml, hown, hts⟩ (c_X9_digit l D z H.size tp tc tnQ c3Q fb3 ta 0 (by first | assumption | omega) (by first | assumption | omega) (by first | assumption | omega) (by first | assumption | omega)) (cwV 1 hts (gV m_323 m_324 m_325 m_204 m_215) rfl rfl rfl ⟨rfl, hd_X9_digit⟩ ⟨Nat.le_of_ble_eq_true rfl, Nat.le_of_ble_eq_true rfl⟩) (nv_preMV (ci := 9) (q0 := 0) hK hPc hDc trivial rfl rfl) rfl rfl hl.1 rfl (lv_room (Nat.le_of_ble_eq_true rfl)) dX9_readPerson_41 ⟨by decide, by decide⟩) hP hD hS hA [0, 1] [2, 3, 4] [3, 4, 0, 1, 2] rfl rfl (by decide) (by decide) rfl (by decide) rfl (by decide) (fun H locs hP hD hS hE41 hz41 hf41 => ?_)
    clear hPc hDc
    clear hf41 hz41
    have hs3 : simC ta tnQ _ _ (aP3 ta tnQ q9s) := hs2.dig (lo := 0)
    obtain ⟨c4Q, hcc4⟩ : ∃ y9 : Nat, y9 = dpF ta tnQ c3Q 0 := ⟨_, rfl⟩
    rw [← hcc4] at hP hD hs3
    obtain ⟨fb4, hfb4⟩ : ∃ y9 : Nat, y9 = dfF ta tnQ c3Q 0 fb3 := ⟨_, rfl⟩
    rw [← hfb4] at hP hD hs3
    have hP : va_P D vwCl [(tp, .inr (9, [.ref tc, .int (nI tnQ), .int (nI c4Q), .int (ftI fb4)])), aC z tc 60 ta, (hn, .inr (3, [.ref hp, .ref hh, .int (nI (rQ 6)), .int (nI (hpF rQ (rQ 6))), .int (nI (chF rQ (rQ 6))), .int (nI (rQ 0)), .int (nI (rQ 1)), .int (nI (rQ 2)), .int (nI (rQ 3)), .int (nI (rQ 4)), .int (nI (rQ 5))])), aP z hp 6 pf, aN z hh 6 (hbA rQ)] H := hP
    have hD : va_D A [(tp, .inr (9, [.ref tc, .int (nI tnQ), .int (nI c4Q), .int (ftI fb4)])), aC z tc 60 ta, (hn, .inr (3, [.ref hp, .ref hh, .int (nI (rQ 6)), .int (nI (hpF rQ (rQ 6))), .int (nI (chF rQ (rQ 6))), .int (nI (rQ 0)), .int (nI (rQ 1)), .int (nI (rQ 2)), .int (nI (rQ 3)), .int (nI (rQ 4)), .int (nI (rQ 5))])), aP z hp 6 pf, aN z hh 6 (hbA rQ)] := hD
    have hpl4 := hs3.2.1
    have hfl4 : fb4 ≤ 100 := by have h7 := hs3.1; have h8 := hs3.2.2.2; omega
    refine lv_istore (lv' := [(4, .int (nI (dgC ta tnQ c3Q 0))), (3, .int (nI (dgC ta tnQ c2Q 1))), (2, .int (nI (kdF (chA ta tnQ pl)))), (0, .ref tp), (1, .ref hn)]) hx hb dX9_readPerson_44 hl (by decide) rfl (fun ls hl => ?_)
    refine lv_iload hx hb dX9_readPerson_46 (lv_at hl 0 rfl) ?_
    refine lv_bipush (v := nI 10) hx hb dX9_readPerson_48 (by decide +kernel) ?_
    refine nv_mul hx hb dX9_readPerson_50 ?_
    refine lv_aload_n hx hb dX9_readPerson_51 rfl (lv_at hl 3 rfl) ?_
    refine lv_iconst (v := nI 0) hx hb dX9_readPerson_52 (by decide +kernel) ?_
    have hPc := hP.sub (ws' := [(tp, .inr (9, [.ref tc, .int (nI tnQ), .int (nI c4Q), .int (ftI fb4)])), aC z tc 60 ta]) [0, 1] rfl
    have hDc := hD.sub (ws' := [(tp, .inr (9, [.ref tc, .int (nI tnQ), .int (nI c4Q), .int (ftI fb4)])), aC z tc 60 ta]) [0, 1] (by decide) rfl
    refine nv_cm1 (wc := [(tp, .inr (9, [.ref tc, .int (nI tnQ), .int (nI c4Q), .int (ftI fb4)])), aC z tc 60 ta]) (wr := [(hn, .inr (3, [.ref hp, .ref hh, .int (nI (rQ 6)), .int (nI (hpF rQ (rQ 6))), .int (nI (chF rQ (rQ 6))), .int (nI (rQ 0)), .int (nI (rQ 1)), .int (nI (rQ 2)), .int (nI (rQ 3)), .int (nI (rQ 4)), .int (nI (rQ 5))])), aP z hp 6 pf, aN z hh 6 (hbA rQ)]) (w1 := [(tp, .inr (9, [.ref tc, .int (nI tnQ), .int (nI (dpF ta tnQ c4Q 0)), .int (ftI (dfF ta tnQ c4Q 0 fb4))])), aC z tc 60 ta]) (ws1 := [(tp, .inr (9, [.ref tc, .int (nI tnQ), .int (nI (dpF ta tnQ c4Q 0)), .int (ftI (dfF ta tnQ c4Q 0 fb4))])), aC z tc 60 ta, (hn, .inr (3, [.ref hp, .ref hh, .int (nI (rQ 6)), .int (nI (hpF rQ (rQ 6))), .int (nI (chF rQ (rQ 6))), .int (nI (rQ 0)), .int (nI (rQ 1)), .int (nI (rQ 2)), .int (nI (rQ 3)), .int (nI (rQ 4)), .int (nI (rQ 5))])), aP z hp 6 pf, aN z hh 6 (hbA rQ)]) (va_runV (As := [.int (nI 0)]) (rest := [.int (nI ((dgC ta tnQ c3Q 0) * 10))]) ⟨hx, hb, hml, hown, hts⟩ (c_X9_digit l D z H.size tp tc tnQ c4Q fb4 ta 0 (by first | assumption | omega) (by first | assumption | omega) (by first | assumption | omega) (by first | assumption | omega)) (cwV 1 hts (gV m_323 m_324 m_325 m_204 m_215) rfl rfl rfl ⟨rfl, hd_X9_digit⟩ ⟨Nat.le_of_ble_eq_true rfl, Nat.le_of_ble_eq_true rfl⟩) (nv_preMV (ci := 9) (q0 := 0) hK hPc hDc trivial rfl rfl) rfl rfl hl.1 rfl (lv_room (Nat.le_of_ble_eq_true rfl)) dX9_readPerson_53 ⟨by decide, by decide⟩) hP hD hS hA [0, 1] [2, 3, 4] [3, 4, 0, 1, 2] rfl rfl (by decide) (by decide) rfl (by decide) rfl (by decide) (fun H locs hP hD hS hE53 hz53 hf53 => ?_)
    clear hPc hDc
    clear hf53 hz53
    have hs4 : simC ta tnQ _ _ (aP4 ta tnQ q9s) := hs3.dig (lo := 0)
    obtain ⟨c5Q, hcc5⟩ : ∃ y9 : Nat, y9 = dpF ta tnQ c4Q 0 := ⟨_, rfl⟩
    rw [← hcc5] at hP hD hs4
    obtain ⟨fb5, hfb5⟩ : ∃ y9 : Nat, y9 = dfF ta tnQ c4Q 0 fb4 := ⟨_, rfl⟩
    rw [← hfb5] at hP hD hs4
    have hP : va_P D vwCl [(tp, .inr (9, [.ref tc, .int (nI tnQ), .int (nI c5Q), .int (ftI fb5)])), aC z tc 60 ta, (hn, .inr (3, [.ref hp, .ref hh, .int (nI (rQ 6)), .int (nI (hpF rQ (rQ 6))), .int (nI (chF rQ (rQ 6))), .int (nI (rQ 0)), .int (nI (rQ 1)), .int (nI (rQ 2)), .int (nI (rQ 3)), .int (nI (rQ 4)), .int (nI (rQ 5))])), aP z hp 6 pf, aN z hh 6 (hbA rQ)] H := hP
    have hD : va_D A [(tp, .inr (9, [.ref tc, .int (nI tnQ), .int (nI c5Q), .int (ftI fb5)])), aC z tc 60 ta, (hn, .inr (3, [.ref hp, .ref hh, .int (nI (rQ 6)), .int (nI (hpF rQ (rQ 6))), .int (nI (chF rQ (rQ 6))), .int (nI (rQ 0)), .int (nI (rQ 1)), .int (nI (rQ 2)), .int (nI (rQ 3)), .int (nI (rQ 4)), .int (nI (rQ 5))])), aP z hp 6 pf, aN z hh 6 (hbA rQ)] := hD
    have hpl5 := hs4.2.1
    have hfl5 : fb5 ≤ 100 := by have h7 := hs4.1; have h8 := hs4.2.2.2; omega
    refine nv_add hx hb dX9_readPerson_56 ?_
    refine lv_istore (lv' := [(5, .int (nI ((dgC ta tnQ c3Q 0) * 10 + (dgC ta tnQ c4Q 0)))), (4, .int (nI (dgC ta tnQ c3Q 0))), (3, .int (nI (dgC ta tnQ c2Q 1))), (2, .int (nI (kdF (chA ta tnQ pl)))), (0, .ref tp), (1, .ref hn)]) hx hb dX9_readPerson_57 hl (by decide) rfl (fun ls hl => ?_)
    refine lv_aload_n hx hb dX9_readPerson_59 rfl (lv_at hl 4 rfl) ?_
    refine lv_bipush (v := nI 120) hx hb dX9_readPerson_60 (by decide +kernel) ?_
    have hPc := hP.sub (ws' := [(tp, .inr (9, [.ref tc, .int (nI tnQ), .int (nI c5Q), .int (ftI fb5)])), aC z tc 60 ta]) [0, 1] rfl
    have hDc := hD.sub (ws' := [(tp, .inr (9, [.ref tc, .int (nI tnQ), .int (nI c5Q), .int (ftI fb5)])), aC z tc 60 ta]) [0, 1] (by decide) rfl
    refine nv_cm1 (wc := [(tp, .inr (9, [.ref tc, .int (nI tnQ), .int (nI c5Q), .int (ftI fb5)])), aC z tc 60 ta]) (wr := [(hn, .inr (3, [.ref hp, .ref hh, .int (nI (rQ 6)), .int (nI (hpF rQ (rQ 6))), .int (nI (chF rQ (rQ 6))), .int (nI (rQ 0)), .int (nI (rQ 1)), .int (nI (rQ 2)), .int (nI (rQ 3)), .int (nI (rQ 4)), .int (nI (rQ 5))])), aP z hp 6 pf, aN z hh 6 (hbA rQ)]) (w1 := [(tp, .inr (9, [.ref tc, .int (nI tnQ), .int (nI (acF ta tnQ c5Q 120)), .int (ftI fb5)])), aC z tc 60 ta]) (ws1 := [(tp, .inr (9, [.ref tc, .int (nI tnQ), .int (nI (acF ta tnQ c5Q 120)), .int (ftI fb5)])), aC z tc 60 ta, (hn, .inr (3, [.ref hp, .ref hh, .int (nI (rQ 6)), .int (nI (hpF rQ (rQ 6))), .int (nI (chF rQ (rQ 6))), .int (nI (rQ 0)), .int (nI (rQ 1)), .int (nI (rQ 2)), .int (nI (rQ 3)), .int (nI (rQ 4)), .int (nI (rQ 5))])), aP z hp 6 pf, aN z hh 6 (hbA rQ)]) (va_runV (As := [.int (nI 120)]) (rest := []) ⟨hx, hb, hml, hown, hts⟩ (c_X9_accept l D z H.size tp tc tnQ c5Q fb5 ta 120 (by first | assumption | omega) (by first | assumption | omega) (by first | assumption | omega) (by first | assumption | omega) (by first | assumption | omega)) (cwV 1 hts (gV m_212 m_213 m_214 m_204 m_210) rfl rfl rfl ⟨rfl, hd_X9_accept⟩ ⟨Nat.le_of_ble_eq_true rfl, Nat.le_of_ble_eq_true rfl⟩) (nv_preMV (ci := 9) (q0 := 0) hK hPc hDc trivial rfl rfl) rfl rfl hl.1 rfl (lv_room (Nat.le_of_ble_eq_true rfl)) dX9_readPerson_62 ⟨by decide, by decide⟩) hP hD hS hA [0, 1] [2, 3, 4] [3, 4, 0, 1, 2] rfl rfl (by decide) (by decide) rfl (by decide) rfl (by decide) (fun H locs hP hD hS hE62 hz62 hf62 => ?_)
    clear hPc hDc
    clear hf62 hz62
    have hs5 : simC ta tnQ _ _ (aPer ta tnQ q9s) := hs4.opt (ch := 120)
    refine nv_join (g2 := F0 m 73 ls [.int (nI (if isC ta tnQ c5Q 120 then 0 else 1))]) (fun J1 => ?_) ?_
    · refine nv_bne (tgt := 72) hx hb dX9_readPerson_65 (by decide) (fun hc65 => ?_) (fun hc65 => ?_)
      · refine lv_iconst (v := nI 0) hx hb dX9_readPerson_72 (by decide +kernel) ?_
        have q9 : 0 = if isC ta tnQ c5Q 120 then 0 else 1 := by first | (rw [if_pos hc65]; done) | (rw [if_neg hc65]; done)
        exact W.eq (congrArg (fun x9 => F0 m 73 ls (.int (nI x9) :: [])) q9) J1
      · refine lv_iconst (v := nI 1) hx hb dX9_readPerson_68 (by decide +kernel) ?_
        refine lv_goto (tgt := 73) hx hb dX9_readPerson_69 (by decide) ?_
        have q9 : 1 = if isC ta tnQ c5Q 120 then 0 else 1 := by first | (rw [if_pos hc65]; done) | (rw [if_neg hc65]; done)
        exact W.eq (congrArg (fun x9 => F0 m 73 ls (.int (nI x9) :: [])) q9) J1
    · refine lv_istore (lv' := [(6, .int (nI (if isC ta tnQ c5Q 120 then 0 else 1))), (5, .int (nI ((dgC ta tnQ c3Q 0) * 10 + (dgC ta tnQ c4Q 0)))), (4, .int (nI (dgC ta tnQ c3Q 0))), (3, .int (nI (dgC ta tnQ c2Q 1))), (2, .int (nI (kdF (chA ta tnQ pl)))), (0, .ref tp), (1, .ref hn)]) hx hb dX9_readPerson_73 hl (by decide) rfl (fun ls hl => ?_)
      refine lv_aload_n hx hb dX9_readPerson_75 rfl (lv_at hl 5 rfl) ?_
      refine va_get (D := D) (ci := 9) (v := .int (ftI fb5)) (C := RX9) (T := TX9) (N := 4) hx hb hts iX9 hown hK.1 hP 0 rfl rfl 3 (by decide) (hts _ m_193) (fun _ h9 => h9) rfl dX9_readPerson_76 ?_
      refine lv_iconst (v := (-1)) hx hb dX9_readPerson_79 (by decide +kernel) ?_
      refine lv_icmp_ne (tgt := 96) hx hb dX9_readPerson_80 (by decide) (fun hc80 => ?_) (fun hc80 => ?_)
      · refine W.widen (k := 1) (n := 1) (by decide) (by decide) ?_
        exact nv_xv hx hb hr hlocks hS dX9_readPerson_96 (acF ta tnQ c5Q 120, rQ, pf) (by rw [← hs5.1]; exact hP) ⟨by rw [← hs5.1]; exact hs5, (hN _ _ hS).to [0, 1, 2, 3, 4] rfl, hX, fun q9 => absurd ((ftI_m1 (by omega)).mpr (hs5.1.trans q9)) hc80, fun _ => rfl, hop⟩
      · refine lv_aload_n hx hb dX9_readPerson_83 rfl (lv_at hl 6 rfl) ?_
        refine lv_iload_n hx hb dX9_readPerson_84 rfl (lv_at hl 4 rfl) ?_
        refine lv_iload_n hx hb dX9_readPerson_85 rfl (lv_at hl 3 rfl) ?_
        have hS86z : s.heap.size ≤ H.size := hS.1
        refine nv_cn (k := (kdF (chA ta tnQ pl))) (t := (dgC ta tnQ c2Q 1)) (va_runSN (As := [.int (nI (kdF (chA ta tnQ pl))), .int (nI (dgC ta tnQ c2Q 1))]) (rest := [.ref hn]) ⟨hx, hb, hml, hown, hts⟩ (c_X10_newPerson l D z H.size (kdF (chA ta tnQ pl)) (dgC ta tnQ c2Q 1) hk) (⟨va_cnB (host := RX10) 2 hts (gC m_319) rfl rfl rfl (hK.2.1 _ nw_0) (hts _ m_198) hd_X10_newPerson ⟨Nat.le_of_ble_eq_true rfl, Nat.le_of_ble_eq_true rfl⟩, hts _ m_326, trivial⟩) (nv_preM (A := fun _ => True) hK nv_P0 nv_D0 trivial _) rfl rfl hl.1 rfl (lv_room (Nat.le_of_ble_eq_true rfl)) dX9_readPerson_86 ⟨Nat.le_of_ble_eq_true rfl, Nat.le_of_ble_eq_true rfl⟩) hP hS hA (fun qn2 H locs hP hS hq86 hps86 hapt86 hz86 hf86 => ?_)
        have haptX : apt X qn2 := fun i q9 hq9 e9 => by have h8 := hXs i q9 hq9; have h7 := hS86z; omega
        refine lv_iload hx hb dX9_readPerson_89 (lv_at hl 1 rfl) ?_
        refine lv_iload hx hb dX9_readPerson_91 (lv_at hl 0 rfl) ?_
        have hPc := hP.sub (ws' := [(hn, .inr (3, [.ref hp, .ref hh, .int (nI (rQ 6)), .int (nI (hpF rQ (rQ 6))), .int (nI (chF rQ (rQ 6))), .int (nI (rQ 0)), .int (nI (rQ 1)), .int (nI (rQ 2)), .int (nI (rQ 3)), .int (nI (rQ 4)), .int (nI (rQ 5))])), aP z hp 6 pf, aN z hh 6 (hbA rQ)]) [2, 3, 4] rfl
        have hDc := hD.sub (ws' := [(hn, .inr (3, [.ref hp, .ref hh, .int (nI (rQ 6)), .int (nI (hpF rQ (rQ 6))), .int (nI (chF rQ (rQ 6))), .int (nI (rQ 0)), .int (nI (rQ 1)), .int (nI (rQ 2)), .int (nI (rQ 3)), .int (nI (rQ 4)), .int (nI (rQ 5))])), aP z hp 6 pf, aN z hh 6 (hbA rQ)]) [2, 3, 4] (by decide) rfl
        refine nv_cm0 (wc := [(hn, .inr (3, [.ref hp, .ref hh, .int (nI (rQ 6)), .int (nI (hpF rQ (rQ 6))), .int (nI (chF rQ (rQ 6))), .int (nI (rQ 0)), .int (nI (rQ 1)), .int (nI (rQ 2)), .int (nI (rQ 3)), .int (nI (rQ 4)), .int (nI (rQ 5))])), aP z hp 6 pf, aN z hh 6 (hbA rQ)]) (wr := [(tp, .inr (9, [.ref tc, .int (nI tnQ), .int (nI (acF ta tnQ c5Q 120)), .int (ftI fb5)])), aC z tc 60 ta]) (w1 := [(hn, .inr (3, [.ref hp, .ref hh, .int (nI ((adpR rQ (kdF (chA ta tnQ pl)) (dgC ta tnQ c2Q 1) ((dgC ta tnQ c3Q 0) * 10 + (dgC ta tnQ c4Q 0)) (if isC ta tnQ c5Q 120 then 0 else 1)) 6)), .int (nI (hpF (adpR rQ (kdF (chA ta tnQ pl)) (dgC ta tnQ c2Q 1) ((dgC ta tnQ c3Q 0) * 10 + (dgC ta tnQ c4Q 0)) (if isC ta tnQ c5Q 120 then 0 else 1)) ((adpR rQ (kdF (chA ta tnQ pl)) (dgC ta tnQ c2Q 1) ((dgC ta tnQ c3Q 0) * 10 + (dgC ta tnQ c4Q 0)) (if isC ta tnQ c5Q 120 then 0 else 1)) 6))), .int (nI (chF (adpR rQ (kdF (chA ta tnQ pl)) (dgC ta tnQ c2Q 1) ((dgC ta tnQ c3Q 0) * 10 + (dgC ta tnQ c4Q 0)) (if isC ta tnQ c5Q 120 then 0 else 1)) ((adpR rQ (kdF (chA ta tnQ pl)) (dgC ta tnQ c2Q 1) ((dgC ta tnQ c3Q 0) * 10 + (dgC ta tnQ c4Q 0)) (if isC ta tnQ c5Q 120 then 0 else 1)) 6))), .int (nI ((adpR rQ (kdF (chA ta tnQ pl)) (dgC ta tnQ c2Q 1) ((dgC ta tnQ c3Q 0) * 10 + (dgC ta tnQ c4Q 0)) (if isC ta tnQ c5Q 120 then 0 else 1)) 0)), .int (nI ((adpR rQ (kdF (chA ta tnQ pl)) (dgC ta tnQ c2Q 1) ((dgC ta tnQ c3Q 0) * 10 + (dgC ta tnQ c4Q 0)) (if isC ta tnQ c5Q 120 then 0 else 1)) 1)), .int (nI ((adpR rQ (kdF (chA ta tnQ pl)) (dgC ta tnQ c2Q 1) ((dgC ta tnQ c3Q 0) * 10 + (dgC ta tnQ c4Q 0)) (if isC ta tnQ c5Q 120 then 0 else 1)) 2)), .int (nI ((adpR rQ (kdF (chA ta tnQ pl)) (dgC ta tnQ c2Q 1) ((dgC ta tnQ c3Q 0) * 10 + (dgC ta tnQ c4Q 0)) (if isC ta tnQ c5Q 120 then 0 else 1)) 3)), .int (nI ((adpR rQ (kdF (chA ta tnQ pl)) (dgC ta tnQ c2Q 1) ((dgC ta tnQ c3Q 0) * 10 + (dgC ta tnQ c4Q 0)) (if isC ta tnQ c5Q 120 then 0 else 1)) 4)), .int (nI ((adpR rQ (kdF (chA ta tnQ pl)) (dgC ta tnQ c2Q 1) ((dgC ta tnQ c3Q 0) * 10 + (dgC ta tnQ c4Q 0)) (if isC ta tnQ c5Q 120 then 0 else 1)) 5))])), aP z hp 6 (va_up pf (rQ 6) (some qn2)), aN z hh 6 (hbA (adpR rQ (kdF (chA ta tnQ pl)) (dgC ta tnQ c2Q 1) ((dgC ta tnQ c3Q 0) * 10 + (dgC ta tnQ c4Q 0)) (if isC ta tnQ c5Q 120 then 0 else 1)))]) (ws1 := [(tp, .inr (9, [.ref tc, .int (nI tnQ), .int (nI (acF ta tnQ c5Q 120)), .int (ftI fb5)])), aC z tc 60 ta, (hn, .inr (3, [.ref hp, .ref hh, .int (nI ((adpR rQ (kdF (chA ta tnQ pl)) (dgC ta tnQ c2Q 1) ((dgC ta tnQ c3Q 0) * 10 + (dgC ta tnQ c4Q 0)) (if isC ta tnQ c5Q 120 then 0 else 1)) 6)), .int (nI (hpF (adpR rQ (kdF (chA ta tnQ pl)) (dgC ta tnQ c2Q 1) ((dgC ta tnQ c3Q 0) * 10 + (dgC ta tnQ c4Q 0)) (if isC ta tnQ c5Q 120 then 0 else 1)) ((adpR rQ (kdF (chA ta tnQ pl)) (dgC ta tnQ c2Q 1) ((dgC ta tnQ c3Q 0) * 10 + (dgC ta tnQ c4Q 0)) (if isC ta tnQ c5Q 120 then 0 else 1)) 6))), .int (nI (chF (adpR rQ (kdF (chA ta tnQ pl)) (dgC ta tnQ c2Q 1) ((dgC ta tnQ c3Q 0) * 10 + (dgC ta tnQ c4Q 0)) (if isC ta tnQ c5Q 120 then 0 else 1)) ((adpR rQ (kdF (chA ta tnQ pl)) (dgC ta tnQ c2Q 1) ((dgC ta tnQ c3Q 0) * 10 + (dgC ta tnQ c4Q 0)) (if isC ta tnQ c5Q 120 then 0 else 1)) 6))), .int (nI ((adpR rQ (kdF (chA ta tnQ pl)) (dgC ta tnQ c2Q 1) ((dgC ta tnQ c3Q 0) * 10 + (dgC ta tnQ c4Q 0)) (if isC ta tnQ c5Q 120 then 0 else 1)) 0)), .int (nI ((adpR rQ (kdF (chA ta tnQ pl)) (dgC ta tnQ c2Q 1) ((dgC ta tnQ c3Q 0) * 10 + (dgC ta tnQ c4Q 0)) (if isC ta tnQ c5Q 120 then 0 else 1)) 1)), .int (nI ((adpR rQ (kdF (chA ta tnQ pl)) (dgC ta tnQ c2Q 1) ((dgC ta tnQ c3Q 0) * 10 + (dgC ta tnQ c4Q 0)) (if isC ta tnQ c5Q 120 then 0 else 1)) 2)), .int (nI ((adpR rQ (kdF (chA ta tnQ pl)) (dgC ta tnQ c2Q 1) ((dgC ta tnQ c3Q 0) * 10 + (dgC ta tnQ c4Q 0)) (if isC ta tnQ c5Q 120 then 0 else 1)) 3)), .int (nI ((adpR rQ (kdF (chA ta tnQ pl)) (dgC ta tnQ c2Q 1) ((dgC ta tnQ c3Q 0) * 10 + (dgC ta tnQ c4Q 0)) (if isC ta tnQ c5Q 120 then 0 else 1)) 4)), .int (nI ((adpR rQ (kdF (chA ta tnQ pl)) (dgC ta tnQ c2Q 1) ((dgC ta tnQ c3Q 0) * 10 + (dgC ta tnQ c4Q 0)) (if isC ta tnQ c5Q 120 then 0 else 1)) 5))])), aP z hp 6 (va_up pf (rQ 6) (some qn2)), aN z hh 6 (hbA (adpR rQ (kdF (chA ta tnQ pl)) (dgC ta tnQ c2Q 1) ((dgC ta tnQ c3Q 0) * 10 + (dgC ta tnQ c4Q 0)) (if isC ta tnQ c5Q 120 then 0 else 1)))]) (va_runV (As := [.ref qn2, .int (nI ((dgC ta tnQ c3Q 0) * 10 + (dgC ta tnQ c4Q 0))), .int (nI (if isC ta tnQ c5Q 120 then 0 else 1))]) (rest := []) ⟨hx, hb, hml, hown, hts⟩ (c_X3_add l D z H.size hn hp hh pf rQ qn2 (kdF (chA ta tnQ pl)) (dgC ta tnQ c2Q 1) ((dgC ta tnQ c3Q 0) * 10 + (dgC ta tnQ c4Q 0)) (if isC ta tnQ c5Q 120 then 0 else 1) (by first | assumption | omega) (by first | assumption | omega) (by first | assumption | omega) (by have h7 := dgC_le (ta := ta) (tn := tnQ) (pl := c3Q) (lo := 0) (by decide); have h8 := dgC_le (ta := ta) (tn := tnQ) (pl := c4Q) (lo := 0) (by decide); omega) (by split <;> omega)) (cwV 3 hts (gV m_327 m_328 m_329 m_78 m_54) rfl rfl rfl ⟨rfl, hd_X3_add⟩ ⟨Nat.le_of_ble_eq_true rfl, Nat.le_of_ble_eq_true rfl⟩) (nv_preMV (ci := 3) (q0 := 0) hK hPc hDc ⟨(hN _ _ hS).to [2, 3, 4] rfl, hapt86.to [2, 3, 4] rfl, hps86⟩ rfl rfl) rfl rfl hl.1 rfl (lv_room (Nat.le_of_ble_eq_true rfl)) dX9_readPerson_93 ⟨by decide, by decide⟩) hP hD hS hA [2, 3, 4] [0, 1] [0, 1, 2, 3, 4] rfl rfl (by decide) (by decide) rfl (by decide) rfl (by decide) (fun H locs hP hD hS hE93 hz93 hf93 => ?_)
        clear hPc hDc
        have hps93 := hps86.fr (hapt86.to [2, 3, 4] rfl) hf93
        exact nv_xv hx hb hr hlocks hS dX9_readPerson_96 (acF ta tnQ c5Q 120, adpR rQ (kdF (chA ta tnQ pl)) (dgC ta tnQ c2Q 1) ((dgC ta tnQ c3Q 0) * 10 + (dgC ta tnQ c4Q 0)) (if isC ta tnQ c5Q 120 then 0 else 1), va_up pf (rQ 6) (some qn2)) (by rw [← hs5.1]; exact hP) ⟨by rw [← hs5.1]; exact hs5, (((hN _ _ hS).add (by omega) hk (hapt86.to [0, 1, 2, 3, 4] rfl) hps93).to [0, 1, 2, 3, 4] rfl), hX.up haptX, fun q9 => rp_row hsim hs1 hs2 hs3 hs4 q9, fun q9 => absurd (hs5.1.symm.trans ((ftI_m1 (by omega)).mp hc80)) q9, hop_add hop (by split <;> omega)⟩
  · have hk : ¬ kdF (chA ta tnQ pl) ≤ 5 := fun q9 => hc11 ((kdI_ge _).mpr q9)
    obtain ⟨hs9, hz9⟩ := hsim.kin0 hk
    refine lv_aload_n hx hb dX9_readPerson_14 rfl (lv_at hl 1 rfl) ?_
    refine lv_aload_n hx hb dX9_readPerson_15 rfl (lv_at hl 1 rfl) ?_
    refine va_get (D := D) (ci := 9) (v := .int (nI (blk ta tnQ pl))) (C := RX9) (T := TX9) (N := 4) hx hb hts iX9 hown hK.1 hP 0 rfl rfl 2 (by decide) (hts _ m_192) (fun _ h9 => h9) rfl dX9_readPerson_16 ?_
    have hPc := hP.sub (ws' := [(tp, .inr (9, [.ref tc, .int (nI tnQ), .int (nI (blk ta tnQ pl)), .int (ftI f9)]))]) [0] rfl
    have hDc := hD.sub (ws' := [(tp, .inr (9, [.ref tc, .int (nI tnQ), .int (nI (blk ta tnQ pl)), .int (ftI f9)]))]) [0] (by decide) rfl
    refine nv_cm0 (wc := [(tp, .inr (9, [.ref tc, .int (nI tnQ), .int (nI (blk ta tnQ pl)), .int (ftI f9)]))]) (wr := [aC z tc 60 ta, (hn, .inr (3, [.ref hp, .ref hh, .int (nI (rQ 6)), .int (nI (hpF rQ (rQ 6))), .int (nI (chF rQ (rQ 6))), .int (nI (rQ 0)), .int (nI (rQ 1)), .int (nI (rQ 2)), .int (nI (rQ 3)), .int (nI (rQ 4)), .int (nI (rQ 5))])), aP z hp 6 pf, aN z hh 6 (hbA rQ)]) (w1 := [(tp, .inr (9, [.ref tc, .int (nI tnQ), .int (nI (blk ta tnQ pl)), .int (ftI (faF f9 (blk ta tnQ pl)))]))]) (ws1 := [(tp, .inr (9, [.ref tc, .int (nI tnQ), .int (nI (blk ta tnQ pl)), .int (ftI (faF f9 (blk ta tnQ pl)))])), aC z tc 60 ta, (hn, .inr (3, [.ref hp, .ref hh, .int (nI (rQ 6)), .int (nI (hpF rQ (rQ 6))), .int (nI (chF rQ (rQ 6))), .int (nI (rQ 0)), .int (nI (rQ 1)), .int (nI (rQ 2)), .int (nI (rQ 3)), .int (nI (rQ 4)), .int (nI (rQ 5))])), aP z hp 6 pf, aN z hh 6 (hbA rQ)]) (va_runV (As := [.int (nI (blk ta tnQ pl))]) (rest := []) ⟨hx, hb, hml, hown, hts⟩ (c_X9_failAt l D z H.size tp tc tnQ (blk ta tnQ pl) f9 (blk ta tnQ pl) (by first | assumption | omega)) (cwV 1 hts (gV m_207 m_208 m_209 m_204 m_199) rfl rfl rfl ⟨rfl, hd_X9_failAt⟩ ⟨Nat.le_of_ble_eq_true rfl, Nat.le_of_ble_eq_true rfl⟩) (nv_preMV (ci := 9) (q0 := 0) hK hPc hDc trivial rfl rfl) rfl rfl hl.1 rfl (lv_room (Nat.le_of_ble_eq_true rfl)) dX9_readPerson_19 ⟨by decide, by decide⟩) hP hD hS hA [0] [1, 2, 3, 4] [4, 0, 1, 2, 3] rfl rfl (by decide) (by decide) rfl (by decide) rfl (by decide) (fun H locs hP hD hS hE19 hz19 hf19 => ?_)
    clear hPc hDc
    clear hf19 hz19
    refine W.widen (k := 1) (n := 1) (by decide) (by decide) ?_
    exact nv_xv hx hb hr hlocks hS dX9_readPerson_22 (blk ta tnQ pl, rQ, pf) (by rw [← hs9.1]; exact hP) ⟨by rw [← hs9.1]; exact hs9, (hN _ _ hS).to [0, 1, 2, 3, 4] rfl, hX, fun q9 => absurd q9 hz9, fun _ => rfl, hop⟩
