theorem se_0 {P : Nat → Prop} {i : Nat} (hi : i < 1) (h : P 0) : P i := by
  obtain rfl : i = 0 := by omega
  exact h
theorem se_6 {P : Nat → Prop} {j : Nat} (hj : j < 6) (h0 : P 0) (h1 : P 1) (h2 : P 2) (h3 : P 3) (h4 : P 4) (h5 : P 5) : P j := by
  rcases (show j = 0 ∨ j = 1 ∨ j = 2 ∨ j = 3 ∨ j = 4 ∨ j = 5 by omega) with rfl | rfl | rfl | rfl | rfl | rfl
  · exact h0
  · exact h1
  · exact h2
  · exact h3
  · exact h4
  · exact h5
set_option maxHeartbeats 4000000 in
theorem law_env {s : State} {b : Nat} (hts : ∀ w ∈ lw_tbl, w.before #[Value.ref b] s = true) (hgv : (Jvm.Cond.and given_1 narrow_1).before #[Value.ref b] s = true) : ∃ (D : va_G) (z : Nat → ClassId), KK D z s ∧ SE z (fun q => s.heap.size ≤ q) s s.heap := by
  have hta : ∀ w ∈ ALL, w.before #[Value.ref b] s = true := fun w hw => hts w (al_tbl hw)
  have hs := flat_of_before _ hgv
  have hA0 : ∀ a : Nat, a < s.heap.size → ¬ (fun q : Nat => s.heap.size ≤ q) a := fun a ha => Nat.not_le.mpr ha
  obtain ⟨c0, s0, u0⟩ := u_known (C := RX0) (T := TX0) (N := 1) (n := 1) hta iX0 (hta _ m_298)
  obtain ⟨c1, s1, u1⟩ := u_known (C := RX1) (T := TX1) (N := 1) (n := 1) hta iX1 (hta _ m_306)
  obtain ⟨c2, s2, u2⟩ := u_known (C := RX2) (T := TX2) (N := 1) (n := 1) hta iX2 (hta _ m_300)
  obtain ⟨c3, s3, u3⟩ := u_known (C := RX3) (T := TX3) (N := 11) (n := 11) hta iX3 (hta _ m_346)
  obtain ⟨c4, s4, u4⟩ := u_known (C := RX4) (T := TX4) (N := 1) (n := 1) hta iX4 (hta _ m_302)
  obtain ⟨c5, s5, u5⟩ := u_known (C := RX5) (T := TX5) (N := 6) (n := 6) hta iX5 (hta _ m_349)
  obtain ⟨c6, s6, u6⟩ := u_known (C := RX6) (T := TX6) (N := 1) (n := 1) hta iX6 (hta _ m_308)
  obtain ⟨c7, s7, u7⟩ := u_known (C := RX7) (T := TX7) (N := 4) (n := 4) hta iX7 (hta _ m_361)
  obtain ⟨c8, s8, u8⟩ := u_known (C := RX8) (T := TX8) (N := 1) (n := 1) hta iX8 (hta _ m_304)
  obtain ⟨c9, s9, u9⟩ := u_known (C := RX9) (T := TX9) (N := 4) (n := 4) hta iX9 (hta _ m_357)
  obtain ⟨c10, s10, u10⟩ := u_known (C := RX10) (T := TX10) (N := 8) (n := 8) hta iX10 (hta _ m_685)
  obtain ⟨c11, s11, u11⟩ := u_known (C := RX11) (T := TX11) (N := 22) (n := 22) hta iX11 (hta _ m_687)
  obtain ⟨a0, ka0, p0, fa0, ga0, ha0⟩ := Cond.arrayClass_spec (hta _ m_40)
  obtain ⟨a1, ka1, p1, fa1, ga1, ha1⟩ := Cond.arrayClass_spec (hta _ m_170)
  obtain ⟨a2, ka2, p2, fa2, ga2, ha2⟩ := Cond.arrayClass_spec (hta _ m_189)
  obtain ⟨a3, ka3, p3, fa3, ga3, ha3⟩ := Cond.arrayClass_spec (hta _ m_530)
  have ao4 : (Cond.arrayOver (.object "SeaJar$Plain")).before #[Value.ref b] s = true := hts _ (by decide +kernel)
  obtain ⟨p4, a4, ka4, fa4, xa4, ga4, ha4, na4⟩ := Cond.arrayOver_spec ao4
  have ao5 : (Cond.arrayOver (.object "SeaJar$Row")).before #[Value.ref b] s = true := hts _ (by decide +kernel)
  obtain ⟨p5, a5, ka5, fa5, xa5, ga5, ha5, na5⟩ := Cond.arrayOver_spec ao5
  obtain ⟨adK, adV, hvS, hev⟩ := vk_Sof (args := #[Value.ref b]) (s := s) (N := 1) (tm := fun _ => Term.string "SeaJar$Tape" 63) (len := [6]) (byt := [kdB]) (A := fun q => s.heap.size ≤ q) (fun i hi => se_0 (P := fun i => ([6] : List Nat).getD i 0 < 2 ^ 31) hi (by decide)) (fun i hi => hs _ (by decide +kernel)) (fun i hi => hs _ (by decide +kernel)) (fun i hi => hs _ (by decide +kernel)) (fun i hi => se_0 (P := fun i => (Cond.eq (.length (.field (Term.string "SeaJar$Tape" 63) "java/lang/String" "value" "[B")) (.int (Int32.ofNat (([6] : List Nat).getD i 0)))).before #[Value.ref b] s = true) hi (hs _ (by decide +kernel))) (fun i hi => se_0 (P := fun i => ∀ j : Nat, j < ([6] : List Nat).getD i 0 → (Cond.eq (.elem (.field (Term.string "SeaJar$Tape" 63) "java/lang/String" "value" "[B") (.int (Int32.ofNat j))) (.int ((([kdB] : List (List Int32)).getD i []).getD j 0))).before #[Value.ref b] s = true) hi (fun j hj => se_6 (P := fun j => (Cond.eq (.elem (.field (Term.string "SeaJar$Tape" 63) "java/lang/String" "value" "[B") (.int (Int32.ofNat j))) (.int ((([kdB] : List (List Int32)).getD 0 []).getD j 0))).before #[Value.ref b] s = true) hj (hs _ (by decide +kernel)) (hs _ (by decide +kernel)) (hs _ (by decide +kernel)) (hs _ (by decide +kernel)) (hs _ (by decide +kernel)) (hs _ (by decide +kernel)))) (fun i j hi hj hij => absurd (by omega) hij) hA0
  have hv2 : vk_S 1 [6] [kdB] (fun _ => adK 0) (fun _ => adV 0) (fun q => s.heap.size ≤ q) s s.heap := by
    refine ⟨fun i hi => ?_, fun i j hi hj _ => by omega⟩
    obtain rfl : i = 0 := by omega
    exact hvS.1 0 (by decide)
  have hR : vk_R "SeaJar$Tape" 63 "pbghsc" (adK 0) s := vk_R.of (A := #[Value.ref b]) (hts _ (by decide +kernel)) (hev 0 (by decide))
  have hZ : va_Z "java/lang/String" "COMPACT_STRINGS" "Z" (.int 1) (fun q => s.heap.size ≤ q) s s.heap := va_Zof (args := #[Value.ref b]) (hts _ (by decide +kernel)) (hts _ (by decide +kernel)) (va_eqt (hs _ (by decide +kernel))) hA0
  refine ⟨((fun k => match k with | 0 => c0 | 1 => c1 | 2 => c2 | 3 => c3 | 4 => c4 | 5 => c5 | 6 => c6 | 7 => c7 | 8 => c8 | 9 => c9 | 10 => c10 | _ => c11), (fun k => match k with | 0 => s0 | 1 => s1 | 2 => s2 | 3 => s3 | 4 => s4 | 5 => s5 | 6 => s6 | 7 => s7 | 8 => s8 | 9 => s9 | 10 => s10 | _ => s11)), (fun k => match k with | 0 => a0 | 1 => a1 | 2 => a2 | 3 => a3 | 4 => a4 | 5 => a5 | 6 => adK 0 | _ => adV 0), ⟨⟨fun k q hq => ?_, fun k q hk => ?_⟩, fun w hw => va_tabs (nwL_tab w hw) rfl (hts w (nwL_in w hw)), va_AO.of ao4, va_AO.of ao5⟩, hR, hv2, hZ⟩
  · match k, hq with
    | 0, hq => cases hq; exact u0
    | 1, hq => cases hq; exact u1
    | 2, hq => cases hq; exact u2
    | 3, hq => cases hq; exact u3
    | 4, hq => cases hq; exact u4
    | 5, hq => cases hq; exact u5
    | 6, hq => cases hq; exact u6
    | 7, hq => cases hq; exact u7
    | 8, hq => cases hq; exact u8
    | 9, hq => cases hq; exact u9
    | 10, hq => cases hq; exact u10
    | 11, hq => cases hq; exact u11
    | k + 12, hq => simp [vwCl] at hq
  · match k, hk with
    | 0, hk => cases hk; exact ⟨fun n9 z9 => ⟨fun k9 h9 => (by cases h9), ka0, ga0, p0, ha0⟩, fa0⟩
    | 1, hk => cases hk; exact ⟨fun n9 z9 => ⟨fun k9 h9 => (by cases h9), ka1, ga1, p1, ha1⟩, fa1⟩
    | 2, hk => cases hk; exact ⟨fun n9 z9 => ⟨fun k9 h9 => (by cases h9), ka2, ga2, p2, ha2⟩, fa2⟩
    | 3, hk => cases hk; exact ⟨fun n9 z9 => ⟨fun k9 h9 => (by cases h9), ka3, ga3, p3, ha3⟩, fa3⟩
    | 4, hk => cases hk; exact ⟨fun n9 z9 => ⟨fun k9 h9 => (by cases h9), ka4, ga4, p4, ha4⟩, ka4, p4, ga4, ha4, fa4, na4⟩
    | 5, hk => cases hk; exact ⟨fun n9 z9 => ⟨fun k9 h9 => (by cases h9), ka5, ga5, p5, ha5⟩, ka5, p5, ga5, ha5, fa5, na5⟩
    | k + 6, hk => simp at hk