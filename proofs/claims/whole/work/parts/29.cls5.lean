set_option maxHeartbeats 4000000 in
set_option maxRecDepth 100000 in
theorem c_X10_isSheet (l : Launch) (D : va_G) (z : Nat → ClassId) (sv : Int32)  : CP l yX10_isSheet cX10_isSheet 1 (some .boolean) 1 22 [.int sv] D z [] (fun _ => True) (some (.int (bI (wi sv 0 3)))) := by
  refine Met.ofW (cc := cX10_isSheet) (maxL := 1) (ret := (some .boolean)) (by decide) rfl ?_
  intro pg e s m args below meth c s₁ B hml hv
  obtain ⟨rfl, hP, hK, hE⟩ := hv
  have hx := B.exec
  have hb := B.bytes
  have hr := B.returns
  have hts : ∀ w ∈ ALL, w.before _ s = true := fun w h => atoms_spec (ws := wA yX10_isSheet cX10_isSheet 1 (some .boolean)) B.pre w (List.mem_cons_of_mem _ h)
  have hown : s.vm.findClass RX10 = some m.cls := findClass_of_methodNamed B.named
  have hlocks := B.notSynchronized
  have hl := lv_entry ([.int sv]) (n := 1) (Nat.le_of_ble_eq_true rfl)
  rw [lg_entry_eq]
  generalize (lg_sl ([.int sv]) ++ List.replicate (1 - (lg_sl ([.int sv])).length) Slot.unset).toArray = ls at hl ⊢
  have hl : lv_has ls 1 [(0, .int sv)] := hl
  refine lv_iload_n hx hb dX10_isSheet_0 rfl (lv_at hl 0 rfl) ?_
  refine lv_iconst (v := nI 0) hx hb dX10_isSheet_1 (by decide +kernel) ?_
  refine lv_iconst (v := nI 3) hx hb dX10_isSheet_2 (by decide +kernel) ?_
  have hPc := hP.sub (ws' := []) [] rfl
  refine nv_cp1 (va_runS (As := [.int sv, .int (nI 0), .int (nI 3)]) (rest := []) ⟨hx, hb, hml, hown, hts⟩ (c_X10_within l D z sv (nI 0) (nI 3) ) (va_cwS 3 hts (gS m_368 m_197 m_198 m_195) rfl rfl rfl hd_X10_within ⟨Nat.le_of_ble_eq_true rfl, Nat.le_of_ble_eq_true rfl⟩) (nv_preP hK hPc trivial _) rfl rfl hl.1 rfl (lv_room (Nat.le_of_ble_eq_true rfl)) dX10_isSheet_3 ⟨Nat.le_refl _, Nat.le_refl _⟩) ?_
  refine nv_inwi (a := ((0 : Nat) : Int)) (b := ((3 : Nat) : Int)) (nI_toInt (by omega)) (nI_toInt (by omega)) ?_
  exact nv_rz hx hb hr hlocks dX10_isSheet_6 rfl bI_nar

set_option maxHeartbeats 4000000 in
set_option maxRecDepth 100000 in
theorem c_X10_isLane (l : Launch) (D : va_G) (z : Nat → ClassId) (sv : Int32)  : CP l yX10_isLane cX10_isLane 1 (some .boolean) 1 22 [.int sv] D z [] (fun _ => True) (some (.int (bI (wi sv 0 3)))) := by
  refine Met.ofW (cc := cX10_isLane) (maxL := 1) (ret := (some .boolean)) (by decide) rfl ?_
  intro pg e s m args below meth c s₁ B hml hv
  obtain ⟨rfl, hP, hK, hE⟩ := hv
  have hx := B.exec
  have hb := B.bytes
  have hr := B.returns
  have hts : ∀ w ∈ ALL, w.before _ s = true := fun w h => atoms_spec (ws := wA yX10_isLane cX10_isLane 1 (some .boolean)) B.pre w (List.mem_cons_of_mem _ h)
  have hown : s.vm.findClass RX10 = some m.cls := findClass_of_methodNamed B.named
  have hlocks := B.notSynchronized
  have hl := lv_entry ([.int sv]) (n := 1) (Nat.le_of_ble_eq_true rfl)
  rw [lg_entry_eq]
  generalize (lg_sl ([.int sv]) ++ List.replicate (1 - (lg_sl ([.int sv])).length) Slot.unset).toArray = ls at hl ⊢
  have hl : lv_has ls 1 [(0, .int sv)] := hl
  refine lv_iload_n hx hb dX10_isLane_0 rfl (lv_at hl 0 rfl) ?_
  refine lv_iconst (v := nI 0) hx hb dX10_isLane_1 (by decide +kernel) ?_
  refine lv_iconst (v := nI 3) hx hb dX10_isLane_2 (by decide +kernel) ?_
  have hPc := hP.sub (ws' := []) [] rfl
  refine nv_cp1 (va_runS (As := [.int sv, .int (nI 0), .int (nI 3)]) (rest := []) ⟨hx, hb, hml, hown, hts⟩ (c_X10_within l D z sv (nI 0) (nI 3) ) (va_cwS 3 hts (gS m_368 m_197 m_198 m_195) rfl rfl rfl hd_X10_within ⟨Nat.le_of_ble_eq_true rfl, Nat.le_of_ble_eq_true rfl⟩) (nv_preP hK hPc trivial _) rfl rfl hl.1 rfl (lv_room (Nat.le_of_ble_eq_true rfl)) dX10_isLane_3 ⟨Nat.le_refl _, Nat.le_refl _⟩) ?_
  refine nv_inwi (a := ((0 : Nat) : Int)) (b := ((3 : Nat) : Int)) (nI_toInt (by omega)) (nI_toInt (by omega)) ?_
  exact nv_rz hx hb hr hlocks dX10_isLane_6 rfl bI_nar

set_option maxHeartbeats 4000000 in
set_option maxRecDepth 100000 in
theorem c_X10_isPerson (l : Launch) (D : va_G) (z : Nat → ClassId) (o : Nat) (hn : Nat) (pq : Nat) (gi : Nat) (gp : Nat) (ik : Nat) (h2 : Nat) (tp : Nat) (rw9 : Nat) (hp : Nat) (hh : Nat) (rQ : Nat → Nat) (pv : Int32) (h6 : rQ 6 ≤ 6) : CP l yX10_isPerson cX10_isPerson 2 (some .boolean) 1 22 [.ref o, .int pv] D z [(o, .inr (10, [.ref hn, .ref pq, .ref gi, .ref gp, .int (nI ik), .ref h2, .ref tp, .ref rw9])), (hn, .inr (3, [.ref hp, .ref hh, .int (nI (rQ 6)), .int (nI (hpF rQ (rQ 6))), .int (nI (chF rQ (rQ 6))), .int (nI (rQ 0)), .int (nI (rQ 1)), .int (nI (rQ 2)), .int (nI (rQ 3)), .int (nI (rQ 4)), .int (nI (rQ 5))]))] (fun _ => True) (some (.int (bI (wi pv 0 ((rQ 6 : Int) - 1))))) := by
  refine Met.ofW (cc := cX10_isPerson) (maxL := 2) (ret := (some .boolean)) (by decide) rfl ?_
  intro pg e s m args below meth c s₁ B hml hv
  obtain ⟨rfl, hP, hK, hE⟩ := hv
  have hx := B.exec
  have hb := B.bytes
  have hr := B.returns
  have hts : ∀ w ∈ ALL, w.before _ s = true := fun w h => atoms_spec (ws := wA yX10_isPerson cX10_isPerson 2 (some .boolean)) B.pre w (List.mem_cons_of_mem _ h)
  have hown : s.vm.findClass RX10 = some m.cls := findClass_of_methodNamed B.named
  have hlocks := B.notSynchronized
  have hl := lv_entry ([.ref o, .int pv]) (n := 2) (Nat.le_of_ble_eq_true rfl)
  rw [lg_entry_eq]
  generalize (lg_sl ([.ref o, .int pv]) ++ List.replicate (2 - (lg_sl ([.ref o, .int pv])).length) Slot.unset).toArray = ls at hl ⊢
  have hl : lv_has ls 2 [(0, .ref o), (1, .int pv)] := hl
  refine lv_iload_n hx hb dX10_isPerson_0 rfl (lv_at hl 1 rfl) ?_
  refine lv_iconst (v := nI 0) hx hb dX10_isPerson_1 (by decide +kernel) ?_
  refine lv_aload_n hx hb dX10_isPerson_2 rfl (lv_at hl 0 rfl) ?_
  refine va_get (D := D) (ci := 10) (v := .ref hn) (C := RX10) (T := TX10) (N := 8) hx hb hts iX10 hown hK.1 hP 0 rfl rfl 0 (by decide) (hts _ m_347) (fun _ h9 => h9) rfl dX10_isPerson_3 ?_
  refine va_get (D := D) (ci := 3) (v := .int (nI (rQ 6))) (C := RX3) (T := TX3) (N := 11) hx hb hts iX3 hown hK.1 hP 1 rfl rfl 2 (by decide) (hts _ m_367) (fun _ h9 => h9) rfl dX10_isPerson_6 ?_
  refine lv_iconst (v := nI 1) hx hb dX10_isPerson_9 (by decide +kernel) ?_
  refine lv_isub hx hb dX10_isPerson_10 ?_
  have hPc := hP.sub (ws' := []) [] rfl
  refine nv_cp1 (va_runS (As := [.int pv, .int (nI 0), .int ((nI (rQ 6)) - (nI 1))]) (rest := []) ⟨hx, hb, hml, hown, hts⟩ (c_X10_within l D z pv (nI 0) ((nI (rQ 6)) - (nI 1)) ) (va_cwS 3 hts (gS m_368 m_197 m_198 m_195) rfl rfl rfl hd_X10_within ⟨Nat.le_of_ble_eq_true rfl, Nat.le_of_ble_eq_true rfl⟩) (nv_preP hK hPc trivial _) rfl rfl hl.1 rfl (lv_room (Nat.le_of_ble_eq_true rfl)) dX10_isPerson_11 ⟨Nat.le_refl _, Nat.le_refl _⟩) ?_
  refine nv_inwi (a := ((0 : Nat) : Int)) (b := ((rQ 6 : Int) - 1)) (nI_toInt (by omega)) (by exact pk_sub_toInt (by omega) (by decide)) ?_
  exact nv_rz hx hb hr hlocks dX10_isPerson_14 rfl bI_nar

set_option maxHeartbeats 4000000 in
set_option maxRecDepth 100000 in
theorem c_X10_person (l : Launch) (D : va_G) (z : Nat → ClassId) (sz : Nat) (w0Q : Nat) (o : Nat) (hn : Nat) (pq : Nat) (gi : Nat) (gp : Nat) (ik : Nat) (h2 : Nat) (tp : Nat) (rw9 : Nat) (hp : Nat) (hh : Nat) (pf : Nat → Option Nat) (rQ : Nat → Nat) (pp : Nat) (pw : Nat) (pd : Nat) (ph : Nat) (un : Nat) (nx : Nat) (ka : Int32) (te : Int32) (haQ : Int32) (r1Q : Nat → Nat) (un1 : Nat) (vQ : Int32) (hok : rOK w0Q rQ) (hrel : perRel rQ un ka te haQ r1Q un1 vQ) : CX (σ := (Nat → Option Nat)) l yX10_person cX10_person 4 (some .int) 5 96 1 1 [.ref o, .int ka, .int te, .int haQ] D z [(o, .inr (10, [.ref hn, .ref pq, .ref gi, .ref gp, .int (nI ik), .ref h2, .ref tp, .ref rw9])), (hn, .inr (3, [.ref hp, .ref hh, .int (nI (rQ 6)), .int (nI (hpF rQ (rQ 6))), .int (nI (chF rQ (rQ 6))), .int (nI (rQ 0)), .int (nI (rQ 1)), .int (nI (rQ 2)), .int (nI (rQ 3)), .int (nI (rQ 4)), .int (nI (rQ 5))])), aP z hp 6 pf, aN z hh 6 (hbA rQ), (pq, .inr (5, [.ref pp, .ref pw, .ref pd, .ref ph, .int (nI un), .int (nI nx)]))] sz (fun H => peH D [(o, .inr (10, [.ref hn, .ref pq, .ref gi, .ref gp, .int (nI ik), .ref h2, .ref tp, .ref rw9])), (hn, .inr (3, [.ref hp, .ref hh, .int (nI (rQ 6)), .int (nI (hpF rQ (rQ 6))), .int (nI (chF rQ (rQ 6))), .int (nI (rQ 0)), .int (nI (rQ 1)), .int (nI (rQ 2)), .int (nI (rQ 3)), .int (nI (rQ 4)), .int (nI (rQ 5))])), aP z hp 6 pf, aN z hh 6 (hbA rQ), (pq, .inr (5, [.ref pp, .ref pw, .ref pd, .ref ph, .int (nI un), .int (nI nx)]))] pf rQ H) (fun u => [(o, .inr (10, [.ref hn, .ref pq, .ref gi, .ref gp, .int (nI ik), .ref h2, .ref tp, .ref rw9])), (hn, .inr (3, [.ref hp, .ref hh, .int (nI (r1Q 6)), .int (nI (hpF r1Q (r1Q 6))), .int (nI (chF r1Q (r1Q 6))), .int (nI (r1Q 0)), .int (nI (r1Q 1)), .int (nI (r1Q 2)), .int (nI (r1Q 3)), .int (nI (r1Q 4)), .int (nI (r1Q 5))])), aP z hp 6 u, aN z hh 6 (hbA r1Q), (pq, .inr (5, [.ref pp, .ref pw, .ref pd, .ref ph, .int (nI un1), .int (nI nx)]))]) (some (.int vQ)) (fun u => (fun H => peH D [(o, .inr (10, [.ref hn, .ref pq, .ref gi, .ref gp, .int (nI ik), .ref h2, .ref tp, .ref rw9])), (hn, .inr (3, [.ref hp, .ref hh, .int (nI (r1Q 6)), .int (nI (hpF r1Q (r1Q 6))), .int (nI (chF r1Q (r1Q 6))), .int (nI (r1Q 0)), .int (nI (r1Q 1)), .int (nI (r1Q 2)), .int (nI (r1Q 3)), .int (nI (r1Q 4)), .int (nI (r1Q 5))])), aP z hp 6 u, aN z hh 6 (hbA r1Q), (pq, .inr (5, [.ref pp, .ref pw, .ref pd, .ref ph, .int (nI un1), .int (nI nx)]))] u r1Q H)) := by
  refine Met.ofW (cc := cX10_person) (maxL := 4) (ret := (some .int)) (by decide) rfl ?_
  intro pg e s m args below meth c s₁ B hml hv
  obtain ⟨rfl, hsz, hP, hK, hD0, hE⟩ := hv
  have hx := B.exec
  have hb := B.bytes
  have hr := B.returns
  have hts : ∀ w ∈ ALL, w.before _ s = true := fun w h => atoms_spec (ws := wA yX10_person cX10_person 4 (some .int)) B.pre w (List.mem_cons_of_mem _ h)
  have hown : s.vm.findClass RX10 = some m.cls := findClass_of_methodNamed B.named
  have hlocks := B.notSynchronized
  subst hsz
  have hD := hD0.self (sz := s.heap.size)
  obtain ⟨o0, o1, o1b, o2, o2b, o3, o4, o5, o6, oP⟩ := id hok
  have hN : ∀ (H : Heap) (locs : List Loc), va_S (va_A [(o, .inr (10, [.ref hn, .ref pq, .ref gi, .ref gp, .int (nI ik), .ref h2, .ref tp, .ref rw9])), (hn, .inr (3, [.ref hp, .ref hh, .int (nI (rQ 6)), .int (nI (hpF rQ (rQ 6))), .int (nI (chF rQ (rQ 6))), .int (nI (rQ 0)), .int (nI (rQ 1)), .int (nI (rQ 2)), .int (nI (rQ 3)), .int (nI (rQ 4)), .int (nI (rQ 5))])), aP z hp 6 pf, aN z hh 6 (hbA rQ), (pq, .inr (5, [.ref pp, .ref pw, .ref pd, .ref ph, .int (nI un), .int (nI nx)]))] s.heap.size) s.heap H locs → peH D [(o, .inr (10, [.ref hn, .ref pq, .ref gi, .ref gp, .int (nI ik), .ref h2, .ref tp, .ref rw9])), (hn, .inr (3, [.ref hp, .ref hh, .int (nI (rQ 6)), .int (nI (hpF rQ (rQ 6))), .int (nI (chF rQ (rQ 6))), .int (nI (rQ 0)), .int (nI (rQ 1)), .int (nI (rQ 2)), .int (nI (rQ 3)), .int (nI (rQ 4)), .int (nI (rQ 5))])), aP z hp 6 pf, aN z hh 6 (hbA rQ), (pq, .inr (5, [.ref pp, .ref pw, .ref pd, .ref ph, .int (nI un), .int (nI nx)]))] pf rQ H := fun H locs h9 => peH.now hE h9
  have hA : ∀ q : Nat, s.heap.size ≤ q → va_A [(o, .inr (10, [.ref hn, .ref pq, .ref gi, .ref gp, .int (nI ik), .ref h2, .ref tp, .ref rw9])), (hn, .inr (3, [.ref hp, .ref hh, .int (nI (rQ 6)), .int (nI (hpF rQ (rQ 6))), .int (nI (chF rQ (rQ 6))), .int (nI (rQ 0)), .int (nI (rQ 1)), .int (nI (rQ 2)), .int (nI (rQ 3)), .int (nI (rQ 4)), .int (nI (rQ 5))])), aP z hp 6 pf, aN z hh 6 (hbA rQ), (pq, .inr (5, [.ref pp, .ref pw, .ref pd, .ref ph, .int (nI un), .int (nI nx)]))] s.heap.size q := fun q h => Or.inr h
  generalize va_A [(o, .inr (10, [.ref hn, .ref pq, .ref gi, .ref gp, .int (nI ik), .ref h2, .ref tp, .ref rw9])), (hn, .inr (3, [.ref hp, .ref hh, .int (nI (rQ 6)), .int (nI (hpF rQ (rQ 6))), .int (nI (chF rQ (rQ 6))), .int (nI (rQ 0)), .int (nI (rQ 1)), .int (nI (rQ 2)), .int (nI (rQ 3)), .int (nI (rQ 4)), .int (nI (rQ 5))])), aP z hp 6 pf, aN z hh 6 (hbA rQ), (pq, .inr (5, [.ref pp, .ref pw, .ref pd, .ref ph, .int (nI un), .int (nI nx)]))] s.heap.size = A at *
  have hS : va_S A s.heap s.heap [] := va_S.rf
  have hl := lv_entry ([.ref o, .int ka, .int te, .int haQ]) (n := 4) (Nat.le_of_ble_eq_true rfl)
  rw [lg_entry_eq]
  generalize (lg_sl ([.ref o, .int ka, .int te, .int haQ]) ++ List.replicate (4 - (lg_sl ([.ref o, .int ka, .int te, .int haQ])).length) Slot.unset).toArray = ls at hl ⊢
  have hl : lv_has ls 4 [(0, .ref o), (1, .int ka), (2, .int te), (3, .int haQ)] := hl
  refine lv_iload_n hx hb dX10_person_0 rfl (lv_at hl 1 rfl) ?_
  refine lv_iconst (v := nI 0) hx hb dX10_person_1 (by decide +kernel) ?_
  refine lv_iconst (v := nI 5) hx hb dX10_person_2 (by decide +kernel) ?_
  have hPc := hP.sub (ws' := []) [] rfl
  refine nv_cp1 (va_runS (As := [.int ka, .int (nI 0), .int (nI 5)]) (rest := []) ⟨hx, hb, hml, hown, hts⟩ (c_X10_within l D z ka (nI 0) (nI 5) ) (va_cwS 3 hts (gS m_368 m_197 m_198 m_195) rfl rfl rfl hd_X10_within ⟨Nat.le_of_ble_eq_true rfl, Nat.le_of_ble_eq_true rfl⟩) (nv_preP hK hPc trivial _) rfl rfl hl.1 rfl (lv_room (Nat.le_of_ble_eq_true rfl)) dX10_person_3 ⟨by decide, by decide⟩) ?_
  refine nv_inwi (a := ((0 : Nat) : Int)) (b := ((5 : Nat) : Int)) (nI_toInt (by omega)) (nI_toInt (by omega)) ?_
  refine nv_beq (tgt := 29) hx hb dX10_person_6 (by decide) (fun hc6 => ?_) (fun hc6 => ?_)
  · refine lv_iconst (v := (-1)) hx hb dX10_person_29 (by decide +kernel) ?_
    obtain ⟨rfl, rfl, rfl⟩ := hrel.1 (by first | exact fun q => hc6 q.1 | exact fun q => hc16 q.2.1 | exact fun q => hc26 q.2.2)
    refine W.widen (k := 1) (n := 1) (by decide) (by decide) ?_
    exact nv_xi hx hb hr hlocks hS dX10_person_30 pf hP ((hN _ _ hS).to [0, 1, 2, 3, 4] rfl) rfl
  · refine lv_iload_n hx hb dX10_person_9 rfl (lv_at hl 2 rfl) ?_
    refine lv_iconst (v := nI 1) hx hb dX10_person_10 (by decide +kernel) ?_
    refine lv_bipush (v := nI 9) hx hb dX10_person_11 (by decide +kernel) ?_
    have hPc := hP.sub (ws' := []) [] rfl
    refine nv_cp1 (va_runS (As := [.int te, .int (nI 1), .int (nI 9)]) (rest := []) ⟨hx, hb, hml, hown, hts⟩ (c_X10_within l D z te (nI 1) (nI 9) ) (va_cwS 3 hts (gS m_368 m_197 m_198 m_195) rfl rfl rfl hd_X10_within ⟨Nat.le_of_ble_eq_true rfl, Nat.le_of_ble_eq_true rfl⟩) (nv_preP hK hPc trivial _) rfl rfl hl.1 rfl (lv_room (Nat.le_of_ble_eq_true rfl)) dX10_person_13 ⟨by decide, by decide⟩) ?_
    refine nv_inwi (a := ((1 : Nat) : Int)) (b := ((9 : Nat) : Int)) (nI_toInt (by omega)) (nI_toInt (by omega)) ?_
    refine nv_beq (tgt := 29) hx hb dX10_person_16 (by decide) (fun hc16 => ?_) (fun hc16 => ?_)
    · refine lv_iconst (v := (-1)) hx hb dX10_person_29 (by decide +kernel) ?_
      obtain ⟨rfl, rfl, rfl⟩ := hrel.1 (by first | exact fun q => hc6 q.1 | exact fun q => hc16 q.2.1 | exact fun q => hc26 q.2.2)
      refine W.widen (k := 1) (n := 1) (by decide) (by decide) ?_
      exact nv_xi hx hb hr hlocks hS dX10_person_30 pf hP ((hN _ _ hS).to [0, 1, 2, 3, 4] rfl) rfl
    · refine lv_iload_n hx hb dX10_person_19 rfl (lv_at hl 3 rfl) ?_
      refine lv_iconst (v := nI 0) hx hb dX10_person_20 (by decide +kernel) ?_
      refine lv_bipush (v := nI 99) hx hb dX10_person_21 (by decide +kernel) ?_
      have hPc := hP.sub (ws' := []) [] rfl
      refine nv_cp1 (va_runS (As := [.int haQ, .int (nI 0), .int (nI 99)]) (rest := []) ⟨hx, hb, hml, hown, hts⟩ (c_X10_within l D z haQ (nI 0) (nI 99) ) (va_cwS 3 hts (gS m_368 m_197 m_198 m_195) rfl rfl rfl hd_X10_within ⟨Nat.le_of_ble_eq_true rfl, Nat.le_of_ble_eq_true rfl⟩) (nv_preP hK hPc trivial _) rfl rfl hl.1 rfl (lv_room (Nat.le_of_ble_eq_true rfl)) dX10_person_23 ⟨by decide, by decide⟩) ?_
      refine nv_inwi (a := ((0 : Nat) : Int)) (b := ((99 : Nat) : Int)) (nI_toInt (by omega)) (nI_toInt (by omega)) ?_
      refine nv_bne (tgt := 31) hx hb dX10_person_26 (by decide) (fun hc26 => ?_) (fun hc26 => ?_)
      · obtain ⟨knQ, rfl, kn0, kn1⟩ := wi_nat (b := 5) (by decide) hc6
        obtain ⟨tn1, rfl, tn10, tn11⟩ := wi_nat (b := 9) (by decide) hc16
        obtain ⟨hn9, rfl, hn90, hn91⟩ := wi_nat (b := 99) (by decide) hc26
        refine lv_aload_n hx hb dX10_person_31 rfl (lv_at hl 0 rfl) ?_
        refine va_get (D := D) (ci := 10) (v := .ref hn) (C := RX10) (T := TX10) (N := 8) hx hb hts iX10 hown hK.1 hP 0 rfl rfl 0 (by decide) (hts _ m_347) (fun _ h9 => h9) rfl dX10_person_32 ?_
        refine va_get (D := D) (ci := 3) (v := .int (nI (rQ 6))) (C := RX3) (T := TX3) (N := 11) hx hb hts iX3 hown hK.1 hP 1 rfl rfl 2 (by decide) (hts _ m_367) (fun _ h9 => h9) rfl dX10_person_35 ?_
        refine lv_bipush (v := nI 6) hx hb dX10_person_38 (by decide +kernel) ?_
        refine nv_lt (tgt := 46) hx hb (by omega) (by omega) dX10_person_40 (by decide) (fun hc40 => ?_) (fun hc40 => ?_)
        · refine lv_aload_n hx hb dX10_person_46 rfl (lv_at hl 0 rfl) ?_
          refine va_get (D := D) (ci := 10) (v := .ref hn) (C := RX10) (T := TX10) (N := 8) hx hb hts iX10 hown hK.1 hP 0 rfl rfl 0 (by decide) (hts _ m_347) (fun _ h9 => h9) rfl dX10_person_47 ?_
          refine lv_iload_n hx hb dX10_person_50 rfl (lv_at hl 1 rfl) ?_
          refine lv_iload_n hx hb dX10_person_51 rfl (lv_at hl 2 rfl) ?_
          refine nv_cn (k := knQ) (t := tn1) (va_runS (As := [.int (nI knQ), .int (nI tn1)]) (rest := [.ref hn]) ⟨hx, hb, hml, hown, hts⟩ (c_X10_newPerson l D z s.heap.size knQ tn1 (by omega)) (va_cwS 2 hts (gS m_369 m_326 m_198 m_319) rfl rfl rfl hd_X10_newPerson ⟨Nat.le_of_ble_eq_true rfl, Nat.le_of_ble_eq_true rfl⟩) (nv_preM (A := fun _ => True) hK nv_P0 nv_D0 trivial _) rfl rfl hl.1 rfl (lv_room (Nat.le_of_ble_eq_true rfl)) dX10_person_52 ⟨Nat.le_of_ble_eq_true rfl, Nat.le_of_ble_eq_true rfl⟩) hP hS hA (fun qn1 H locs hP hS hq52 hps52 hapt52 hz52 hf52 => ?_)
          refine lv_iload_n hx hb dX10_person_55 rfl (lv_at hl 3 rfl) ?_
          refine lv_iconst (v := nI 1) hx hb dX10_person_56 (by decide +kernel) ?_
          have hPc := hP.sub (ws' := [(hn, .inr (3, [.ref hp, .ref hh, .int (nI (rQ 6)), .int (nI (hpF rQ (rQ 6))), .int (nI (chF rQ (rQ 6))), .int (nI (rQ 0)), .int (nI (rQ 1)), .int (nI (rQ 2)), .int (nI (rQ 3)), .int (nI (rQ 4)), .int (nI (rQ 5))])), aP z hp 6 pf, aN z hh 6 (hbA rQ)]) [1, 2, 3] rfl
          have hDc := hD.sub (ws' := [(hn, .inr (3, [.ref hp, .ref hh, .int (nI (rQ 6)), .int (nI (hpF rQ (rQ 6))), .int (nI (chF rQ (rQ 6))), .int (nI (rQ 0)), .int (nI (rQ 1)), .int (nI (rQ 2)), .int (nI (rQ 3)), .int (nI (rQ 4)), .int (nI (rQ 5))])), aP z hp 6 pf, aN z hh 6 (hbA rQ)]) [1, 2, 3] (by decide) rfl
          refine nv_cm0 (wc := [(hn, .inr (3, [.ref hp, .ref hh, .int (nI (rQ 6)), .int (nI (hpF rQ (rQ 6))), .int (nI (chF rQ (rQ 6))), .int (nI (rQ 0)), .int (nI (rQ 1)), .int (nI (rQ 2)), .int (nI (rQ 3)), .int (nI (rQ 4)), .int (nI (rQ 5))])), aP z hp 6 pf, aN z hh 6 (hbA rQ)]) (wr := [(o, .inr (10, [.ref hn, .ref pq, .ref gi, .ref gp, .int (nI ik), .ref h2, .ref tp, .ref rw9])), (pq, .inr (5, [.ref pp, .ref pw, .ref pd, .ref ph, .int (nI un), .int (nI nx)]))]) (w1 := [(hn, .inr (3, [.ref hp, .ref hh, .int (nI ((adpR rQ knQ tn1 hn9 1) 6)), .int (nI (hpF (adpR rQ knQ tn1 hn9 1) ((adpR rQ knQ tn1 hn9 1) 6))), .int (nI (chF (adpR rQ knQ tn1 hn9 1) ((adpR rQ knQ tn1 hn9 1) 6))), .int (nI ((adpR rQ knQ tn1 hn9 1) 0)), .int (nI ((adpR rQ knQ tn1 hn9 1) 1)), .int (nI ((adpR rQ knQ tn1 hn9 1) 2)), .int (nI ((adpR rQ knQ tn1 hn9 1) 3)), .int (nI ((adpR rQ knQ tn1 hn9 1) 4)), .int (nI ((adpR rQ knQ tn1 hn9 1) 5))])), aP z hp 6 (va_up pf (rQ 6) (some qn1)), aN z hh 6 (hbA (adpR rQ knQ tn1 hn9 1))]) (ws1 := [(o, .inr (10, [.ref hn, .ref pq, .ref gi, .ref gp, .int (nI ik), .ref h2, .ref tp, .ref rw9])), (hn, .inr (3, [.ref hp, .ref hh, .int (nI ((adpR rQ knQ tn1 hn9 1) 6)), .int (nI (hpF (adpR rQ knQ tn1 hn9 1) ((adpR rQ knQ tn1 hn9 1) 6))), .int (nI (chF (adpR rQ knQ tn1 hn9 1) ((adpR rQ knQ tn1 hn9 1) 6))), .int (nI ((adpR rQ knQ tn1 hn9 1) 0)), .int (nI ((adpR rQ knQ tn1 hn9 1) 1)), .int (nI ((adpR rQ knQ tn1 hn9 1) 2)), .int (nI ((adpR rQ knQ tn1 hn9 1) 3)), .int (nI ((adpR rQ knQ tn1 hn9 1) 4)), .int (nI ((adpR rQ knQ tn1 hn9 1) 5))])), aP z hp 6 (va_up pf (rQ 6) (some qn1)), aN z hh 6 (hbA (adpR rQ knQ tn1 hn9 1)), (pq, .inr (5, [.ref pp, .ref pw, .ref pd, .ref ph, .int (nI un), .int (nI nx)]))]) (va_runV (As := [.ref qn1, .int (nI hn9), .int (nI 1)]) (rest := []) ⟨hx, hb, hml, hown, hts⟩ (c_X3_add l D z H.size hn hp hh pf rQ qn1 knQ tn1 hn9 1 (fun jQ hj => (oP jQ hj).2.2.2.2) (by first | assumption | omega) (by first | assumption | omega) (by first | assumption | omega) (by first | assumption | omega)) (cwV 3 hts (gV m_370 m_328 m_329 m_78 m_54) rfl rfl rfl ⟨rfl, hd_X3_add⟩ ⟨Nat.le_of_ble_eq_true rfl, Nat.le_of_ble_eq_true rfl⟩) (nv_preMV (ci := 3) (q0 := 0) hK hPc hDc ⟨(hN _ _ hS).to [1, 2, 3] rfl, hapt52.to [1, 2, 3] rfl, hps52⟩ rfl rfl) rfl rfl hl.1 rfl (lv_room (Nat.le_of_ble_eq_true rfl)) dX10_person_57 ⟨by decide, by decide⟩) hP hD hS hA [1, 2, 3] [0, 4] [0, 2, 3, 4, 1] rfl rfl (by decide) (by decide) rfl (by decide) rfl (by decide) (fun H locs hP hD hS hE57 hz57 hf57 => ?_)
          clear hPc hDc
          have hps57 := hps52.fr (hapt52.to [1, 2, 3] rfl) hf57
          have hf57b := hf57
          refine lv_aload_n hx hb dX10_person_60 rfl (lv_at hl 0 rfl) ?_
          refine va_get (D := D) (ci := 10) (v := .ref pq) (C := RX10) (T := TX10) (N := 8) hx hb hts iX10 hown hK.1 hP 0 rfl rfl 1 (by decide) (hts _ m_351) (fun _ h9 => h9) rfl dX10_person_61 ?_
          have hPc := hP.sub (ws' := [(pq, .inr (5, [.ref pp, .ref pw, .ref pd, .ref ph, .int (nI un), .int (nI nx)]))]) [4] rfl
          have hDc := hD.sub (ws' := [(pq, .inr (5, [.ref pp, .ref pw, .ref pd, .ref ph, .int (nI un), .int (nI nx)]))]) [4] (by decide) rfl
          refine nv_cm0 (wc := [(pq, .inr (5, [.ref pp, .ref pw, .ref pd, .ref ph, .int (nI un), .int (nI nx)]))]) (wr := [(o, .inr (10, [.ref hn, .ref pq, .ref gi, .ref gp, .int (nI ik), .ref h2, .ref tp, .ref rw9])), (hn, .inr (3, [.ref hp, .ref hh, .int (nI ((adpR rQ knQ tn1 hn9 1) 6)), .int (nI (hpF (adpR rQ knQ tn1 hn9 1) ((adpR rQ knQ tn1 hn9 1) 6))), .int (nI (chF (adpR rQ knQ tn1 hn9 1) ((adpR rQ knQ tn1 hn9 1) 6))), .int (nI ((adpR rQ knQ tn1 hn9 1) 0)), .int (nI ((adpR rQ knQ tn1 hn9 1) 1)), .int (nI ((adpR rQ knQ tn1 hn9 1) 2)), .int (nI ((adpR rQ knQ tn1 hn9 1) 3)), .int (nI ((adpR rQ knQ tn1 hn9 1) 4)), .int (nI ((adpR rQ knQ tn1 hn9 1) 5))])), aP z hp 6 (va_up pf (rQ 6) (some qn1)), aN z hh 6 (hbA (adpR rQ knQ tn1 hn9 1))]) (w1 := [(pq, .inr (5, [.ref pp, .ref pw, .ref pd, .ref ph, .int (nI 0), .int (nI nx)]))]) (ws1 := [(o, .inr (10, [.ref hn, .ref pq, .ref gi, .ref gp, .int (nI ik), .ref h2, .ref tp, .ref rw9])), (hn, .inr (3, [.ref hp, .ref hh, .int (nI ((adpR rQ knQ tn1 hn9 1) 6)), .int (nI (hpF (adpR rQ knQ tn1 hn9 1) ((adpR rQ knQ tn1 hn9 1) 6))), .int (nI (chF (adpR rQ knQ tn1 hn9 1) ((adpR rQ knQ tn1 hn9 1) 6))), .int (nI ((adpR rQ knQ tn1 hn9 1) 0)), .int (nI ((adpR rQ knQ tn1 hn9 1) 1)), .int (nI ((adpR rQ knQ tn1 hn9 1) 2)), .int (nI ((adpR rQ knQ tn1 hn9 1) 3)), .int (nI ((adpR rQ knQ tn1 hn9 1) 4)), .int (nI ((adpR rQ knQ tn1 hn9 1) 5))])), aP z hp 6 (va_up pf (rQ 6) (some qn1)), aN z hh 6 (hbA (adpR rQ knQ tn1 hn9 1)), (pq, .inr (5, [.ref pp, .ref pw, .ref pd, .ref ph, .int (nI 0), .int (nI nx)]))]) (va_runV (As := []) (rest := []) ⟨hx, hb, hml, hown, hts⟩ (c_X5_forget l D z H.size pq pp pw pd ph un nx ) (cwV 0 hts (gV m_371 m_372 m_373 m_350 m_159) rfl rfl rfl ⟨rfl, hd_X5_forget⟩ ⟨Nat.le_of_ble_eq_true rfl, Nat.le_of_ble_eq_true rfl⟩) (nv_preMV (ci := 5) (q0 := 0) hK hPc hDc trivial rfl rfl) rfl rfl hl.1 rfl (lv_room (Nat.le_of_ble_eq_true rfl)) dX10_person_64 ⟨by decide, by decide⟩) hP hD hS hA [4] [0, 1, 2, 3] [0, 1, 2, 3, 4] rfl rfl (by decide) (by decide) rfl (by decide) rfl (by decide) (fun H locs hP hD hS hE64 hz64 hf64 => ?_)
          clear hPc hDc
          have hps64 := hps57.fr (hapt52.to [4] rfl) hf64
          refine lv_aload_n hx hb dX10_person_67 rfl (lv_at hl 0 rfl) ?_
          refine va_get (D := D) (ci := 10) (v := .ref hn) (C := RX10) (T := TX10) (N := 8) hx hb hts iX10 hown hK.1 hP 0 rfl rfl 0 (by decide) (hts _ m_347) (fun _ h9 => h9) rfl dX10_person_68 ?_
          refine va_get (D := D) (ci := 3) (v := .int (nI ((adpR rQ knQ tn1 hn9 1) 6))) (C := RX3) (T := TX3) (N := 11) hx hb hts iX3 hown hK.1 hP 1 rfl rfl 2 (by decide) (hts _ m_367) (fun _ h9 => h9) rfl dX10_person_71 ?_
          have h7 := adpR_6 rQ knQ tn1 hn9 1
          refine lv_iconst (v := nI 1) hx hb dX10_person_74 (by decide +kernel) ?_
          refine nv_sub hx hb (by omega) dX10_person_75 ?_
          obtain ⟨rfl, rfl, rfl⟩ := hrel.2.2 knQ tn1 hn9 rfl rfl rfl (by omega) (by omega) (by omega) (by omega) (by omega)
          exact nv_xi hx hb hr hlocks hS dX10_person_76 (va_up pf (rQ 6) (some qn1)) hP (((hN _ _ hS).add (x := 1) (h := hn9) (by omega) (by omega) hapt52 hps64).to [0, 1, 2, 3, 4] rfl) (by rw [adpR_6]; rfl)
        · refine lv_bipush (v := (-3)) hx hb dX10_person_43 (by decide +kernel) ?_
          obtain ⟨rfl, rfl, rfl⟩ := hrel.2.1 hc6 hc16 hc26 (by omega)
          refine W.widen (k := 1) (n := 1) (by decide) (by decide) ?_
          exact nv_xi hx hb hr hlocks hS dX10_person_45 pf hP ((hN _ _ hS).to [0, 1, 2, 3, 4] rfl) rfl
      · refine lv_iconst (v := (-1)) hx hb dX10_person_29 (by decide +kernel) ?_
        obtain ⟨rfl, rfl, rfl⟩ := hrel.1 (by first | exact fun q => hc6 q.1 | exact fun q => hc16 q.2.1 | exact fun q => hc26 q.2.2)
        refine W.widen (k := 1) (n := 1) (by decide) (by decide) ?_
        exact nv_xi hx hb hr hlocks hS dX10_person_30 pf hP ((hN _ _ hS).to [0, 1, 2, 3, 4] rfl) rfl

set_option maxHeartbeats 4000000 in
set_option maxRecDepth 100000 in
theorem c_X10_of (l : Launch) (D : va_G) (z : Nat → ClassId) (w0Q : Nat) (o : Nat) (hn : Nat) (pq : Nat) (gi : Nat) (gp : Nat) (ik : Nat) (h2 : Nat) (tp : Nat) (rw9 : Nat) (hp : Nat) (hh : Nat) (pf : Nat → Option Nat) (rQ : Nat → Nat) (pv : Int32) (wh : Int32) (vQ : Int32) (hok : rOK w0Q rQ) (hw : w0Q ≤ 20000) (hrel : ofRel rQ pv wh vQ) : CP l yX10_of cX10_of 3 (some .int) 5 112 [.ref o, .int pv, .int wh] D z [(o, .inr (10, [.ref hn, .ref pq, .ref gi, .ref gp, .int (nI ik), .ref h2, .ref tp, .ref rw9])), (hn, .inr (3, [.ref hp, .ref hh, .int (nI (rQ 6)), .int (nI (hpF rQ (rQ 6))), .int (nI (chF rQ (rQ 6))), .int (nI (rQ 0)), .int (nI (rQ 1)), .int (nI (rQ 2)), .int (nI (rQ 3)), .int (nI (rQ 4)), .int (nI (rQ 5))])), aP z hp 6 pf, aN z hh 6 (hbA rQ)] (fun H => peH D [(o, .inr (10, [.ref hn, .ref pq, .ref gi, .ref gp, .int (nI ik), .ref h2, .ref tp, .ref rw9])), (hn, .inr (3, [.ref hp, .ref hh, .int (nI (rQ 6)), .int (nI (hpF rQ (rQ 6))), .int (nI (chF rQ (rQ 6))), .int (nI (rQ 0)), .int (nI (rQ 1)), .int (nI (rQ 2)), .int (nI (rQ 3)), .int (nI (rQ 4)), .int (nI (rQ 5))])), aP z hp 6 pf, aN z hh 6 (hbA rQ)] pf rQ H) (some (.int vQ)) := by
  refine Met.ofW (cc := cX10_of) (maxL := 3) (ret := (some .int)) (by decide) rfl ?_
  intro pg e s m args below meth c s₁ B hml hv
  obtain ⟨rfl, hP, hK, hE⟩ := hv
  have hx := B.exec
  have hb := B.bytes
  have hr := B.returns
  have hts : ∀ w ∈ ALL, w.before _ s = true := fun w h => atoms_spec (ws := wA yX10_of cX10_of 3 (some .int)) B.pre w (List.mem_cons_of_mem _ h)
  have hown : s.vm.findClass RX10 = some m.cls := findClass_of_methodNamed B.named
  have hlocks := B.notSynchronized
  obtain ⟨o0, o1, o1b, o2, o2b, o3, o4, o5, o6, oP⟩ := id hok
  have hh64 := hpF_lt (r := rQ) (n := rQ 6) (fun jQ hj => (oP jQ hj).2.2.2.2)
  have h2p : 2 ^ (rQ 6) ≤ 2 ^ 6 := Nat.pow_le_pow_right (by decide) (by omega)
  have hl := lv_entry ([.ref o, .int pv, .int wh]) (n := 3) (Nat.le_of_ble_eq_true rfl)
  rw [lg_entry_eq]
  generalize (lg_sl ([.ref o, .int pv, .int wh]) ++ List.replicate (3 - (lg_sl ([.ref o, .int pv, .int wh])).length) Slot.unset).toArray = ls at hl ⊢
  have hl : lv_has ls 3 [(0, .ref o), (1, .int pv), (2, .int wh)] := hl
  refine lv_aload_n hx hb dX10_of_0 rfl (lv_at hl 0 rfl) ?_
  refine lv_iload_n hx hb dX10_of_1 rfl (lv_at hl 1 rfl) ?_
  have hPc := hP.sub (ws' := [(o, .inr (10, [.ref hn, .ref pq, .ref gi, .ref gp, .int (nI ik), .ref h2, .ref tp, .ref rw9])), (hn, .inr (3, [.ref hp, .ref hh, .int (nI (rQ 6)), .int (nI (hpF rQ (rQ 6))), .int (nI (chF rQ (rQ 6))), .int (nI (rQ 0)), .int (nI (rQ 1)), .int (nI (rQ 2)), .int (nI (rQ 3)), .int (nI (rQ 4)), .int (nI (rQ 5))]))]) [0, 1] rfl
  refine nv_cp1 (va_runV (As := [.int pv]) (rest := []) ⟨hx, hb, hml, hown, hts⟩ (c_X10_isPerson l D z o hn pq gi gp ik h2 tp rw9 hp hh rQ pv (by first | assumption | omega)) (cwV 1 hts (gV m_380 m_381 m_382 m_198 m_375) rfl rfl rfl ⟨rfl, hd_X10_isPerson⟩ ⟨Nat.le_of_ble_eq_true rfl, Nat.le_of_ble_eq_true rfl⟩) (nv_prePV (ci := 10) (q0 := 0) hK hPc trivial rfl rfl) rfl rfl hl.1 rfl (lv_room (Nat.le_of_ble_eq_true rfl)) dX10_of_2 ⟨Nat.le_refl _, Nat.le_refl _⟩) ?_
  refine nv_bne (tgt := 10) hx hb dX10_of_5 (by decide) (fun hc5 => ?_) (fun hc5 => ?_)
  · obtain ⟨pn, rfl, pn0, pn1⟩ := wi_nat (b := rQ 6 - 1) (by decide) (show wi pv 0 ((rQ 6 - 1 : Nat) : Int) from ⟨hc5.1, by have := hc5.1; have := hc5.2; omega⟩)
    have hpn : pn < rQ 6 := by have h8 := hc5; rw [wi_nI (by omega)] at h8; omega
    obtain ⟨qa9, hqa9, hap9, hps9⟩ := hE.2 pn hpn
    have oQ := oP pn hpn
    have hb6 := hbF_le rQ
    refine lv_iload_n hx hb dX10_of_10 rfl (lv_at hl 2 rfl) ?_
    rcases (show wh.toInt = 0 ∨ wh.toInt = 1 ∨ wh.toInt = 2 ∨ wh.toInt = 3 ∨ wh.toInt = 4 ∨ wh.toInt = 5 ∨ wh.toInt = 6 ∨ (wh.toInt < 0 ∨ 6 < wh.toInt) by omega) with hc11 | hc11 | hc11 | hc11 | hc11 | hc11 | hc11 | hc11
    · refine lv_tableIn (off := 41) (tgt := 52) hx hb dX10_of_11 (by omega) (by omega) (by rw [hc11]; rfl) (by decide) ?_
      obtain rfl : wh = nI 0 := i32_of hc11 (by decide)
      obtain rfl := hrel.2 pn 0 rfl rfl hpn (by decide)
      refine lv_aload_n hx hb dX10_of_52 rfl (lv_at hl 0 rfl) ?_
      refine va_get (D := D) (ci := 10) (v := .ref hn) (C := RX10) (T := TX10) (N := 8) hx hb hts iX10 hown hK.1 hP 0 rfl rfl 0 (by decide) (hts _ m_347) (fun _ h9 => h9) rfl dX10_of_53 ?_
      refine va_get (D := D) (ci := 3) (v := .ref hp) (C := RX3) (T := TX3) (N := 11) hx hb hts iX3 hown hK.1 hP 1 rfl rfl 0 (by decide) (hts _ m_376) (fun _ h9 => h9) rfl dX10_of_56 ?_
      refine lv_iload_n hx hb dX10_of_59 rfl (lv_at hl 1 rfl) ?_
      refine nv_pald (v := some qa9) hx hb hK hP 2 rfl (by omega) (by decide) hqa9 dX10_of_60 ?_
      refine W.eq (g2 := F0 m 61 ls [.ref qa9]) rfl ?_
      refine nv_kind hx hb hml hl.1 hown hts hK hps9 oQ.1 ⟨Nat.le_of_ble_eq_true rfl, Nat.le_of_ble_eq_true rfl⟩ (Nat.le_of_ble_eq_true rfl) ⟨Nat.le_of_ble_eq_true rfl, Nat.le_of_ble_eq_true rfl⟩ dX10_of_61 ?_
      refine W.eq (g2 := F0 m 64 ls [.int (nI (rQ (7 + 4 * pn + 0)))]) rfl ?_
      exact nv_ri hx hb hr hlocks dX10_of_64 rfl
    · refine lv_tableIn (off := 54) (tgt := 65) hx hb dX10_of_11 (by omega) (by omega) (by rw [hc11]; rfl) (by decide) ?_
      obtain rfl : wh = nI 1 := i32_of hc11 (by decide)
      obtain rfl := hrel.2 pn 1 rfl rfl hpn (by decide)
      refine lv_aload_n hx hb dX10_of_65 rfl (lv_at hl 0 rfl) ?_
      refine va_get (D := D) (ci := 10) (v := .ref hn) (C := RX10) (T := TX10) (N := 8) hx hb hts iX10 hown hK.1 hP 0 rfl rfl 0 (by decide) (hts _ m_347) (fun _ h9 => h9) rfl dX10_of_66 ?_
      refine va_get (D := D) (ci := 3) (v := .ref hp) (C := RX3) (T := TX3) (N := 11) hx hb hts iX3 hown hK.1 hP 1 rfl rfl 0 (by decide) (hts _ m_376) (fun _ h9 => h9) rfl dX10_of_69 ?_
      refine lv_iload_n hx hb dX10_of_72 rfl (lv_at hl 1 rfl) ?_
      refine nv_pald (v := some qa9) hx hb hK hP 2 rfl (by omega) (by decide) hqa9 dX10_of_73 ?_
      refine W.eq (g2 := F0 m 74 ls [.ref qa9]) rfl ?_
      refine nv_temper hx hb hown hts hK (hts _ m_377) hps9 oQ.1 dX10_of_74 ?_
      exact nv_ri hx hb hr hlocks dX10_of_77 rfl
    · refine lv_tableIn (off := 67) (tgt := 78) hx hb dX10_of_11 (by omega) (by omega) (by rw [hc11]; rfl) (by decide) ?_
      obtain rfl : wh = nI 2 := i32_of hc11 (by decide)
      obtain rfl := hrel.2 pn 2 rfl rfl hpn (by decide)
      refine lv_aload_n hx hb dX10_of_78 rfl (lv_at hl 0 rfl) ?_
      refine va_get (D := D) (ci := 10) (v := .ref hn) (C := RX10) (T := TX10) (N := 8) hx hb hts iX10 hown hK.1 hP 0 rfl rfl 0 (by decide) (hts _ m_347) (fun _ h9 => h9) rfl dX10_of_79 ?_
      refine va_get (D := D) (ci := 3) (v := .ref hh) (C := RX3) (T := TX3) (N := 11) hx hb hts iX3 hown hK.1 hP 1 rfl rfl 1 (by decide) (hts _ m_378) (fun _ h9 => h9) rfl dX10_of_82 ?_
      refine lv_iload_n hx hb dX10_of_85 rfl (lv_at hl 1 rfl) ?_
      refine nv_ald hx hb hK hP 3 rfl (by omega) (by decide) dX10_of_86 ?_
      exact nv_ri hx hb hr hlocks dX10_of_87 rfl
    · refine lv_tableIn (off := 77) (tgt := 88) hx hb dX10_of_11 (by omega) (by omega) (by rw [hc11]; rfl) (by decide) ?_
      obtain rfl : wh = nI 3 := i32_of hc11 (by decide)
      obtain rfl := hrel.2 pn 3 rfl rfl hpn (by decide)
      refine lv_aload_n hx hb dX10_of_88 rfl (lv_at hl 0 rfl) ?_
      refine va_get (D := D) (ci := 10) (v := .ref hn) (C := RX10) (T := TX10) (N := 8) hx hb hts iX10 hown hK.1 hP 0 rfl rfl 0 (by decide) (hts _ m_347) (fun _ h9 => h9) rfl dX10_of_89 ?_
      refine va_get (D := D) (ci := 3) (v := .int (nI (hpF rQ (rQ 6)))) (C := RX3) (T := TX3) (N := 11) hx hb hts iX3 hown hK.1 hP 1 rfl rfl 3 (by decide) (hts _ m_379) (fun _ h9 => h9) rfl dX10_of_92 ?_
      refine lv_iload_n hx hb dX10_of_95 rfl (lv_at hl 1 rfl) ?_
      refine nv_shr hx hb (by omega) (by omega) dX10_of_96 ?_
      refine lv_iconst (v := nI 1) hx hb dX10_of_97 (by decide +kernel) ?_
      refine nv_and hx hb dX10_of_98 ?_
      rw [hpF_bit (fun jQ hj => (oP jQ hj).2.2.2.2) hpn]
      exact nv_ri hx hb hr hlocks dX10_of_99 rfl
    · refine lv_tableIn (off := 89) (tgt := 100) hx hb dX10_of_11 (by omega) (by omega) (by rw [hc11]; rfl) (by decide) ?_
      obtain rfl : wh = nI 4 := i32_of hc11 (by decide)
      obtain rfl := hrel.2 pn 4 rfl rfl hpn (by decide)
      refine lv_aload_n hx hb dX10_of_100 rfl (lv_at hl 0 rfl) ?_
      refine va_get (D := D) (ci := 10) (v := .ref hn) (C := RX10) (T := TX10) (N := 8) hx hb hts iX10 hown hK.1 hP 0 rfl rfl 0 (by decide) (hts _ m_347) (fun _ h9 => h9) rfl dX10_of_101 ?_
      refine lv_iload_n hx hb dX10_of_104 rfl (lv_at hl 1 rfl) ?_
      have hPc := hP.sub (ws' := [(hn, .inr (3, [.ref hp, .ref hh, .int (nI (rQ 6)), .int (nI (hpF rQ (rQ 6))), .int (nI (chF rQ (rQ 6))), .int (nI (rQ 0)), .int (nI (rQ 1)), .int (nI (rQ 2)), .int (nI (rQ 3)), .int (nI (rQ 4)), .int (nI (rQ 5))])), aP z hp 6 pf, aN z hh 6 (hbA rQ)]) [1, 2, 3] rfl
      refine nv_cp1 (va_runV (As := [.int (nI pn)]) (rest := []) ⟨hx, hb, hml, hown, hts⟩ (c_X3_wordsOf l D z w0Q hn hp hh pf rQ pn (by first | assumption | omega) (by first | assumption | omega) (by first | assumption | omega)) (cwV 1 hts (gV m_397 m_96 m_97 m_78 m_91) rfl rfl rfl ⟨rfl, hd_X3_wordsOf⟩ ⟨Nat.le_of_ble_eq_true rfl, Nat.le_of_ble_eq_true rfl⟩) (nv_prePV (ci := 3) (q0 := 0) hK hPc (hE.to [1, 2, 3] rfl) rfl rfl) rfl rfl hl.1 rfl (lv_room (Nat.le_of_ble_eq_true rfl)) dX10_of_105 ⟨Nat.le_refl _, Nat.le_refl _⟩) ?_
      exact nv_ri hx hb hr hlocks dX10_of_108 rfl
    · refine lv_tableIn (off := 98) (tgt := 109) hx hb dX10_of_11 (by omega) (by omega) (by rw [hc11]; rfl) (by decide) ?_
      obtain rfl : wh = nI 5 := i32_of hc11 (by decide)
      obtain rfl := hrel.2 pn 5 rfl rfl hpn (by decide)
      refine lv_aload_n hx hb dX10_of_109 rfl (lv_at hl 0 rfl) ?_
      refine va_get (D := D) (ci := 10) (v := .ref hn) (C := RX10) (T := TX10) (N := 8) hx hb hts iX10 hown hK.1 hP 0 rfl rfl 0 (by decide) (hts _ m_347) (fun _ h9 => h9) rfl dX10_of_110 ?_
      refine lv_iload_n hx hb dX10_of_113 rfl (lv_at hl 1 rfl) ?_
      have hPc := hP.sub (ws' := [(hn, .inr (3, [.ref hp, .ref hh, .int (nI (rQ 6)), .int (nI (hpF rQ (rQ 6))), .int (nI (chF rQ (rQ 6))), .int (nI (rQ 0)), .int (nI (rQ 1)), .int (nI (rQ 2)), .int (nI (rQ 3)), .int (nI (rQ 4)), .int (nI (rQ 5))])), aP z hp 6 pf, aN z hh 6 (hbA rQ)]) [1, 2, 3] rfl
      refine nv_cp1 (va_runV (As := [.int (nI pn)]) (rest := []) ⟨hx, hb, hml, hown, hts⟩ (c_X3_paysOf l D z w0Q hn hp hh pf rQ pn (by first | assumption | omega) (by first | assumption | omega) (by first | assumption | omega)) (cwV 1 hts (gV m_398 m_117 m_118 m_78 m_110) rfl rfl rfl ⟨rfl, hd_X3_paysOf⟩ ⟨Nat.le_of_ble_eq_true rfl, Nat.le_of_ble_eq_true rfl⟩) (nv_prePV (ci := 3) (q0 := 0) hK hPc (hE.to [1, 2, 3] rfl) rfl rfl) rfl rfl hl.1 rfl (lv_room (Nat.le_of_ble_eq_true rfl)) dX10_of_114 ⟨Nat.le_refl _, Nat.le_refl _⟩) ?_
      exact nv_ri hx hb hr hlocks dX10_of_117 rfl
    · refine lv_tableIn (off := 107) (tgt := 118) hx hb dX10_of_11 (by omega) (by omega) (by rw [hc11]; rfl) (by decide) ?_
      obtain rfl : wh = nI 6 := i32_of hc11 (by decide)
      obtain rfl := hrel.2 pn 6 rfl rfl hpn (by decide)
      refine lv_aload_n hx hb dX10_of_118 rfl (lv_at hl 0 rfl) ?_
      refine va_get (D := D) (ci := 10) (v := .ref hn) (C := RX10) (T := TX10) (N := 8) hx hb hts iX10 hown hK.1 hP 0 rfl rfl 0 (by decide) (hts _ m_347) (fun _ h9 => h9) rfl dX10_of_119 ?_
      refine lv_iload_n hx hb dX10_of_122 rfl (lv_at hl 1 rfl) ?_
      have hPc := hP.sub (ws' := [(hn, .inr (3, [.ref hp, .ref hh, .int (nI (rQ 6)), .int (nI (hpF rQ (rQ 6))), .int (nI (chF rQ (rQ 6))), .int (nI (rQ 0)), .int (nI (rQ 1)), .int (nI (rQ 2)), .int (nI (rQ 3)), .int (nI (rQ 4)), .int (nI (rQ 5))])), aP z hp 6 pf, aN z hh 6 (hbA rQ)]) [1, 2, 3] rfl
      refine nv_cp1 (va_runV (As := [.int (nI pn)]) (rest := []) ⟨hx, hb, hml, hown, hts⟩ (c_X3_habitThenOf l D z w0Q hn hp hh pf rQ pn (by first | assumption | omega) (by first | assumption | omega) (by first | assumption | omega)) (cwV 1 hts (gV m_399 m_400 m_401 m_78 m_129) rfl rfl rfl ⟨rfl, hd_X3_habitThenOf⟩ ⟨Nat.le_of_ble_eq_true rfl, Nat.le_of_ble_eq_true rfl⟩) (nv_prePV (ci := 3) (q0 := 0) hK hPc (hE.to [1, 2, 3] rfl) rfl rfl) rfl rfl hl.1 rfl (lv_room (Nat.le_of_ble_eq_true rfl)) dX10_of_123 ⟨Nat.le_refl _, Nat.le_refl _⟩) ?_
      exact nv_ri hx hb hr hlocks dX10_of_126 rfl
    · refine lv_tableOut (tgt := 127) hx hb dX10_of_11 hc11 (by decide) ?_
      obtain rfl := hrel.1 (fun q => by have h1 := q.2.1; have h2 := q.2.2; omega)
      refine lv_iconst (v := (-1)) hx hb dX10_of_127 (by decide +kernel) ?_
      exact nv_ri hx hb hr hlocks dX10_of_128 rfl
  · refine lv_iconst (v := (-1)) hx hb dX10_of_8 (by decide +kernel) ?_
    obtain rfl := hrel.1 (fun q => hc5 q.1)
    exact nv_ri hx hb hr hlocks dX10_of_9 rfl

set_option maxHeartbeats 4000000 in
set_option maxRecDepth 100000 in
theorem c_X10_rule (l : Launch) (D : va_G) (z : Nat → ClassId) (sz : Nat) (o : Nat) (hn : Nat) (pq : Nat) (gi : Nat) (gp : Nat) (ik : Nat) (h2 : Nat) (tp : Nat) (rw9 : Nat) (hp : Nat) (hh : Nat) (rQ : Nat → Nat) (wh : Int32) (xv : Int32) (r1Q : Nat → Nat) (vQ : Int32) (hrel : ruRel rQ wh xv r1Q vQ) : CM l yX10_rule cX10_rule 4 (some .int) 1 22 0 0 [.ref o, .int wh, .int xv] D z [(o, .inr (10, [.ref hn, .ref pq, .ref gi, .ref gp, .int (nI ik), .ref h2, .ref tp, .ref rw9])), (hn, .inr (3, [.ref hp, .ref hh, .int (nI (rQ 6)), .int (nI (hpF rQ (rQ 6))), .int (nI (chF rQ (rQ 6))), .int (nI (rQ 0)), .int (nI (rQ 1)), .int (nI (rQ 2)), .int (nI (rQ 3)), .int (nI (rQ 4)), .int (nI (rQ 5))])), aN z hh 6 (hbA rQ)] sz (fun _ => True) [(o, .inr (10, [.ref hn, .ref pq, .ref gi, .ref gp, .int (nI ik), .ref h2, .ref tp, .ref rw9])), (hn, .inr (3, [.ref hp, .ref hh, .int (nI (r1Q 6)), .int (nI (hpF r1Q (r1Q 6))), .int (nI (chF r1Q (r1Q 6))), .int (nI (r1Q 0)), .int (nI (r1Q 1)), .int (nI (r1Q 2)), .int (nI (r1Q 3)), .int (nI (r1Q 4)), .int (nI (r1Q 5))])), aN z hh 6 (hbA r1Q)] (some (.int vQ)) (fun _ => True) := by
  refine Met.ofW (cc := cX10_rule) (maxL := 4) (ret := (some .int)) (by decide) rfl ?_
  intro pg e s m args below meth c s₁ B hml hv
  obtain ⟨rfl, hsz, hP, hK, hD0, hE⟩ := hv
  have hx := B.exec
  have hb := B.bytes
  have hr := B.returns
  have hts : ∀ w ∈ ALL, w.before _ s = true := fun w h => atoms_spec (ws := wA yX10_rule cX10_rule 4 (some .int)) B.pre w (List.mem_cons_of_mem _ h)
  have hown : s.vm.findClass RX10 = some m.cls := findClass_of_methodNamed B.named
  have hlocks := B.notSynchronized
  subst hsz
  have hD := hD0.self (sz := s.heap.size)
  have hA : ∀ q : Nat, s.heap.size ≤ q → va_A [(o, .inr (10, [.ref hn, .ref pq, .ref gi, .ref gp, .int (nI ik), .ref h2, .ref tp, .ref rw9])), (hn, .inr (3, [.ref hp, .ref hh, .int (nI (rQ 6)), .int (nI (hpF rQ (rQ 6))), .int (nI (chF rQ (rQ 6))), .int (nI (rQ 0)), .int (nI (rQ 1)), .int (nI (rQ 2)), .int (nI (rQ 3)), .int (nI (rQ 4)), .int (nI (rQ 5))])), aN z hh 6 (hbA rQ)] s.heap.size q := fun q h => Or.inr h
  generalize va_A [(o, .inr (10, [.ref hn, .ref pq, .ref gi, .ref gp, .int (nI ik), .ref h2, .ref tp, .ref rw9])), (hn, .inr (3, [.ref hp, .ref hh, .int (nI (rQ 6)), .int (nI (hpF rQ (rQ 6))), .int (nI (chF rQ (rQ 6))), .int (nI (rQ 0)), .int (nI (rQ 1)), .int (nI (rQ 2)), .int (nI (rQ 3)), .int (nI (rQ 4)), .int (nI (rQ 5))])), aN z hh 6 (hbA rQ)] s.heap.size = A at *
  have hS : va_S A s.heap s.heap [] := va_S.rf
  have hl := lv_entry ([.ref o, .int wh, .int xv]) (n := 4) (Nat.le_of_ble_eq_true rfl)
  rw [lg_entry_eq]
  generalize (lg_sl ([.ref o, .int wh, .int xv]) ++ List.replicate (4 - (lg_sl ([.ref o, .int wh, .int xv])).length) Slot.unset).toArray = ls at hl ⊢
  have hl : lv_has ls 4 [(0, .ref o), (1, .int wh), (2, .int xv)] := hl
  refine lv_iload_n hx hb dX10_rule_0 rfl (lv_at hl 1 rfl) ?_
  refine lv_if_ne (tgt := 34) hx hb dX10_rule_1 (by decide) (fun hc1 => ?_) (fun hc1 => ?_)
  · refine lv_iload_n hx hb dX10_rule_34 rfl (lv_at hl 1 rfl) ?_
    refine lv_iconst (v := nI 1) hx hb dX10_rule_35 (by decide +kernel) ?_
    refine lv_icmp_ne (tgt := 68) hx hb dX10_rule_36 (by decide) (fun hc36 => ?_) (fun hc36 => ?_)
    · refine lv_iload_n hx hb dX10_rule_68 rfl (lv_at hl 1 rfl) ?_
      refine lv_iconst (v := nI 2) hx hb dX10_rule_69 (by decide +kernel) ?_
      refine lv_icmp_ne (tgt := 102) hx hb dX10_rule_70 (by decide) (fun hc70 => ?_) (fun hc70 => ?_)
      · obtain ⟨rfl, rfl⟩ := hrel.2.2.2 (by first | exact fun _ => hc12 | exact fun q => absurd (q.trans nI_0) hc1) (by first | exact fun q => absurd (q.symm.trans (hc1.trans nI_0.symm)) (by decide) | exact fun _ => hc46 | exact fun q => absurd q hc36) (by first | exact fun q => absurd (q.symm.trans (hc1.trans nI_0.symm)) (by decide) | exact fun q => absurd (q.symm.trans hc36) (by decide) | exact fun _ => hc80 | exact fun q => absurd q hc70)
        refine lv_iconst (v := (-1)) hx hb dX10_rule_102 (by decide +kernel) ?_
        refine lv_istore_n (lv' := [(3, .int (-1)), (0, .ref o), (1, .int wh), (2, .int xv)]) hx hb dX10_rule_103 rfl hl (by decide) rfl (fun ls hl => ?_)
        refine lv_iload_n hx hb dX10_rule_104 rfl (lv_at hl 0 rfl) ?_
        exact nv_mi hx hb hr hlocks hS dX10_rule_105 hP trivial rfl
      · refine lv_iload_n hx hb dX10_rule_73 rfl (lv_at hl 2 rfl) ?_
        refine lv_iconst (v := nI 0) hx hb dX10_rule_74 (by decide +kernel) ?_
        refine lv_bipush (v := nI 9) hx hb dX10_rule_75 (by decide +kernel) ?_
        have hPc := hP.sub (ws' := []) [] rfl
        refine nv_cp1 (va_runS (As := [.int xv, .int (nI 0), .int (nI 9)]) (rest := []) ⟨hx, hb, hml, hown, hts⟩ (c_X10_within l D z xv (nI 0) (nI 9) ) (va_cwS 3 hts (gS m_368 m_197 m_198 m_195) rfl rfl rfl hd_X10_within ⟨Nat.le_of_ble_eq_true rfl, Nat.le_of_ble_eq_true rfl⟩) (nv_preP hK hPc trivial _) rfl rfl hl.1 rfl (lv_room (Nat.le_of_ble_eq_true rfl)) dX10_rule_77 ⟨by decide, by decide⟩) ?_
        refine nv_inwi (a := ((0 : Nat) : Int)) (b := ((9 : Nat) : Int)) (nI_toInt (by omega)) (nI_toInt (by omega)) ?_
        refine nv_beq (tgt := 102) hx hb dX10_rule_80 (by decide) (fun hc80 => ?_) (fun hc80 => ?_)
        · obtain ⟨rfl, rfl⟩ := hrel.2.2.2 (by first | exact fun _ => hc12 | exact fun q => absurd (q.trans nI_0) hc1) (by first | exact fun q => absurd (q.symm.trans (hc1.trans nI_0.symm)) (by decide) | exact fun _ => hc46 | exact fun q => absurd q hc36) (by first | exact fun q => absurd (q.symm.trans (hc1.trans nI_0.symm)) (by decide) | exact fun q => absurd (q.symm.trans hc36) (by decide) | exact fun _ => hc80 | exact fun q => absurd q hc70)
          refine lv_iconst (v := (-1)) hx hb dX10_rule_102 (by decide +kernel) ?_
          refine lv_istore_n (lv' := [(3, .int (-1)), (0, .ref o), (1, .int wh), (2, .int xv)]) hx hb dX10_rule_103 rfl hl (by decide) rfl (fun ls hl => ?_)
          refine lv_iload_n hx hb dX10_rule_104 rfl (lv_at hl 0 rfl) ?_
          exact nv_mi hx hb hr hlocks hS dX10_rule_105 hP trivial rfl
        · obtain rfl : wh = nI 2 := hc70
          obtain ⟨xn, rfl, x0, x1⟩ := wi_nat (b := 9) (by decide) hc80
          obtain ⟨rfl, rfl⟩ := hrel.2.2.1 xn rfl rfl (by omega)
          refine lv_aload_n hx hb dX10_rule_83 rfl (lv_at hl 0 rfl) ?_
          refine va_get (D := D) (ci := 10) (v := .ref hn) (C := RX10) (T := TX10) (N := 8) hx hb hts iX10 hown hK.1 hP 0 rfl rfl 0 (by decide) (hts _ m_347) (fun _ h9 => h9) rfl dX10_rule_84 ?_
          refine va_get (D := D) (ci := 3) (v := .int (nI (rQ 3))) (C := RX3) (T := TX3) (N := 11) hx hb hts iX3 hown hK.1 hP 1 rfl rfl 8 (by decide) (hts _ m_406) (fun _ h9 => h9) rfl dX10_rule_87 ?_
          refine lv_istore_n (lv' := [(3, .int (nI (rQ 3))), (0, .ref o), (1, .int (nI 2)), (2, .int (nI xn))]) hx hb dX10_rule_90 rfl hl (by decide) rfl (fun ls hl => ?_)
          refine lv_aload_n hx hb dX10_rule_91 rfl (lv_at hl 1 rfl) ?_
          refine va_get (D := D) (ci := 10) (v := .ref hn) (C := RX10) (T := TX10) (N := 8) hx hb hts iX10 hown hK.1 hP 0 rfl rfl 0 (by decide) (hts _ m_347) (fun _ h9 => h9) rfl dX10_rule_92 ?_
          refine lv_iload_n hx hb dX10_rule_95 rfl (lv_at hl 3 rfl) ?_
          refine va_put (D := D) (ci := 3) (v := .int (nI xn)) (ty := tyX3 8) (C := RX3) (T := TX3) (N := 11) hx hb hts iX3 tyX3 tyX3_ok nmX3 hown hK.1 hP hD hS 1 rfl rfl 8 (by decide) (hts _ m_406) (fun _ h9 => h9) rfl (tyX3_ok 8 (by decide)) rfl rfl (Nat.le_of_ble_eq_true rfl) dX10_rule_96 (fun H locs hP hD hS => ?_)
          have hP : va_P D vwCl [(o, .inr (10, [.ref hn, .ref pq, .ref gi, .ref gp, .int (nI ik), .ref h2, .ref tp, .ref rw9])), (hn, .inr (3, [.ref hp, .ref hh, .int (nI (rQ 6)), .int (nI (hpF rQ (rQ 6))), .int (nI (chF rQ (rQ 6))), .int (nI (rQ 0)), .int (nI (rQ 1)), .int (nI (rQ 2)), .int (nI xn), .int (nI (rQ 4)), .int (nI (rQ 5))])), aN z hh 6 (hbA rQ)] H := hP
          have hD : va_D A [(o, .inr (10, [.ref hn, .ref pq, .ref gi, .ref gp, .int (nI ik), .ref h2, .ref tp, .ref rw9])), (hn, .inr (3, [.ref hp, .ref hh, .int (nI (rQ 6)), .int (nI (hpF rQ (rQ 6))), .int (nI (chF rQ (rQ 6))), .int (nI (rQ 0)), .int (nI (rQ 1)), .int (nI (rQ 2)), .int (nI xn), .int (nI (rQ 4)), .int (nI (rQ 5))])), aN z hh 6 (hbA rQ)] := hD
          refine lv_goto (tgt := 104) hx hb dX10_rule_99 (by decide) ?_
          refine lv_iload_n hx hb dX10_rule_104 rfl (lv_at hl 0 rfl) ?_
          exact nv_mi hx hb hr hlocks hS dX10_rule_105 (by show va_P D vwCl [(o, .inr (10, [.ref hn, .ref pq, .ref gi, .ref gp, .int (nI ik), .ref h2, .ref tp, .ref rw9])), (hn, .inr (3, [.ref hp, .ref hh, .int (nI ((uN rQ 3 xn) 6)), .int (nI (hpF (uN rQ 3 xn) ((uN rQ 3 xn) 6))), .int (nI (chF (uN rQ 3 xn) ((uN rQ 3 xn) 6))), .int (nI ((uN rQ 3 xn) 0)), .int (nI ((uN rQ 3 xn) 1)), .int (nI ((uN rQ 3 xn) 2)), .int (nI ((uN rQ 3 xn) 3)), .int (nI ((uN rQ 3 xn) 4)), .int (nI ((uN rQ 3 xn) 5))])), aN z hh 6 (hbA (uN rQ 3 xn))] _; rw [uN_n rQ (k := 3) (v := xn) (j := 6) (by decide), hp_u rQ 3 xn _ (by decide), ch_u rQ 3 xn _ (by decide), uN_n rQ (k := 3) (v := xn) (j := 0) (by decide), uN_n rQ (k := 3) (v := xn) (j := 1) (by decide), uN_n rQ (k := 3) (v := xn) (j := 2) (by decide), uN_n rQ (k := 3) (v := xn) (j := 4) (by decide), uN_n rQ (k := 3) (v := xn) (j := 5) (by decide), uN_s rQ 3 xn, hbA_u rQ 3 xn (by decide)]; exact hP) trivial rfl
    · refine lv_iload_n hx hb dX10_rule_39 rfl (lv_at hl 2 rfl) ?_
      refine lv_iconst (v := nI 1) hx hb dX10_rule_40 (by decide +kernel) ?_
      refine lv_bipush (v := nI 100) hx hb dX10_rule_41 (by decide +kernel) ?_
      have hPc := hP.sub (ws' := []) [] rfl
      refine nv_cp1 (va_runS (As := [.int xv, .int (nI 1), .int (nI 100)]) (rest := []) ⟨hx, hb, hml, hown, hts⟩ (c_X10_within l D z xv (nI 1) (nI 100) ) (va_cwS 3 hts (gS m_368 m_197 m_198 m_195) rfl rfl rfl hd_X10_within ⟨Nat.le_of_ble_eq_true rfl, Nat.le_of_ble_eq_true rfl⟩) (nv_preP hK hPc trivial _) rfl rfl hl.1 rfl (lv_room (Nat.le_of_ble_eq_true rfl)) dX10_rule_43 ⟨by decide, by decide⟩) ?_
      refine nv_inwi (a := ((1 : Nat) : Int)) (b := ((100 : Nat) : Int)) (nI_toInt (by omega)) (nI_toInt (by omega)) ?_
      refine nv_beq (tgt := 68) hx hb dX10_rule_46 (by decide) (fun hc46 => ?_) (fun hc46 => ?_)
      · refine lv_iload_n hx hb dX10_rule_68 rfl (lv_at hl 1 rfl) ?_
        refine lv_iconst (v := nI 2) hx hb dX10_rule_69 (by decide +kernel) ?_
        refine lv_icmp_ne (tgt := 102) hx hb dX10_rule_70 (by decide) (fun hc70 => ?_) (fun hc70 => ?_)
        · obtain ⟨rfl, rfl⟩ := hrel.2.2.2 (by first | exact fun _ => hc12 | exact fun q => absurd (q.trans nI_0) hc1) (by first | exact fun q => absurd (q.symm.trans (hc1.trans nI_0.symm)) (by decide) | exact fun _ => hc46 | exact fun q => absurd q hc36) (by first | exact fun q => absurd (q.symm.trans (hc1.trans nI_0.symm)) (by decide) | exact fun q => absurd (q.symm.trans hc36) (by decide) | exact fun _ => hc80 | exact fun q => absurd q hc70)
          refine lv_iconst (v := (-1)) hx hb dX10_rule_102 (by decide +kernel) ?_
          refine lv_istore_n (lv' := [(3, .int (-1)), (0, .ref o), (1, .int wh), (2, .int xv)]) hx hb dX10_rule_103 rfl hl (by decide) rfl (fun ls hl => ?_)
          refine lv_iload_n hx hb dX10_rule_104 rfl (lv_at hl 0 rfl) ?_
          exact nv_mi hx hb hr hlocks hS dX10_rule_105 hP trivial rfl
        · refine lv_iload_n hx hb dX10_rule_73 rfl (lv_at hl 2 rfl) ?_
          refine lv_iconst (v := nI 0) hx hb dX10_rule_74 (by decide +kernel) ?_
          refine lv_bipush (v := nI 9) hx hb dX10_rule_75 (by decide +kernel) ?_
          have hPc := hP.sub (ws' := []) [] rfl
          refine nv_cp1 (va_runS (As := [.int xv, .int (nI 0), .int (nI 9)]) (rest := []) ⟨hx, hb, hml, hown, hts⟩ (c_X10_within l D z xv (nI 0) (nI 9) ) (va_cwS 3 hts (gS m_368 m_197 m_198 m_195) rfl rfl rfl hd_X10_within ⟨Nat.le_of_ble_eq_true rfl, Nat.le_of_ble_eq_true rfl⟩) (nv_preP hK hPc trivial _) rfl rfl hl.1 rfl (lv_room (Nat.le_of_ble_eq_true rfl)) dX10_rule_77 ⟨by decide, by decide⟩) ?_
          refine nv_inwi (a := ((0 : Nat) : Int)) (b := ((9 : Nat) : Int)) (nI_toInt (by omega)) (nI_toInt (by omega)) ?_
          refine nv_beq (tgt := 102) hx hb dX10_rule_80 (by decide) (fun hc80 => ?_) (fun hc80 => ?_)
          · obtain ⟨rfl, rfl⟩ := hrel.2.2.2 (by first | exact fun _ => hc12 | exact fun q => absurd (q.trans nI_0) hc1) (by first | exact fun q => absurd (q.symm.trans (hc1.trans nI_0.symm)) (by decide) | exact fun _ => hc46 | exact fun q => absurd q hc36) (by first | exact fun q => absurd (q.symm.trans (hc1.trans nI_0.symm)) (by decide) | exact fun q => absurd (q.symm.trans hc36) (by decide) | exact fun _ => hc80 | exact fun q => absurd q hc70)
            refine lv_iconst (v := (-1)) hx hb dX10_rule_102 (by decide +kernel) ?_
            refine lv_istore_n (lv' := [(3, .int (-1)), (0, .ref o), (1, .int wh), (2, .int xv)]) hx hb dX10_rule_103 rfl hl (by decide) rfl (fun ls hl => ?_)
            refine lv_iload_n hx hb dX10_rule_104 rfl (lv_at hl 0 rfl) ?_
            exact nv_mi hx hb hr hlocks hS dX10_rule_105 hP trivial rfl
          · obtain rfl : wh = nI 2 := hc70
            obtain ⟨xn, rfl, x0, x1⟩ := wi_nat (b := 9) (by decide) hc80
            obtain ⟨rfl, rfl⟩ := hrel.2.2.1 xn rfl rfl (by omega)
            refine lv_aload_n hx hb dX10_rule_83 rfl (lv_at hl 0 rfl) ?_
            refine va_get (D := D) (ci := 10) (v := .ref hn) (C := RX10) (T := TX10) (N := 8) hx hb hts iX10 hown hK.1 hP 0 rfl rfl 0 (by decide) (hts _ m_347) (fun _ h9 => h9) rfl dX10_rule_84 ?_
            refine va_get (D := D) (ci := 3) (v := .int (nI (rQ 3))) (C := RX3) (T := TX3) (N := 11) hx hb hts iX3 hown hK.1 hP 1 rfl rfl 8 (by decide) (hts _ m_406) (fun _ h9 => h9) rfl dX10_rule_87 ?_
            refine lv_istore_n (lv' := [(3, .int (nI (rQ 3))), (0, .ref o), (1, .int (nI 2)), (2, .int (nI xn))]) hx hb dX10_rule_90 rfl hl (by decide) rfl (fun ls hl => ?_)
            refine lv_aload_n hx hb dX10_rule_91 rfl (lv_at hl 1 rfl) ?_
            refine va_get (D := D) (ci := 10) (v := .ref hn) (C := RX10) (T := TX10) (N := 8) hx hb hts iX10 hown hK.1 hP 0 rfl rfl 0 (by decide) (hts _ m_347) (fun _ h9 => h9) rfl dX10_rule_92 ?_
            refine lv_iload_n hx hb dX10_rule_95 rfl (lv_at hl 3 rfl) ?_
            refine va_put (D := D) (ci := 3) (v := .int (nI xn)) (ty := tyX3 8) (C := RX3) (T := TX3) (N := 11) hx hb hts iX3 tyX3 tyX3_ok nmX3 hown hK.1 hP hD hS 1 rfl rfl 8 (by decide) (hts _ m_406) (fun _ h9 => h9) rfl (tyX3_ok 8 (by decide)) rfl rfl (Nat.le_of_ble_eq_true rfl) dX10_rule_96 (fun H locs hP hD hS => ?_)
            have hP : va_P D vwCl [(o, .inr (10, [.ref hn, .ref pq, .ref gi, .ref gp, .int (nI ik), .ref h2, .ref tp, .ref rw9])), (hn, .inr (3, [.ref hp, .ref hh, .int (nI (rQ 6)), .int (nI (hpF rQ (rQ 6))), .int (nI (chF rQ (rQ 6))), .int (nI (rQ 0)), .int (nI (rQ 1)), .int (nI (rQ 2)), .int (nI xn), .int (nI (rQ 4)), .int (nI (rQ 5))])), aN z hh 6 (hbA rQ)] H := hP
            have hD : va_D A [(o, .inr (10, [.ref hn, .ref pq, .ref gi, .ref gp, .int (nI ik), .ref h2, .ref tp, .ref rw9])), (hn, .inr (3, [.ref hp, .ref hh, .int (nI (rQ 6)), .int (nI (hpF rQ (rQ 6))), .int (nI (chF rQ (rQ 6))), .int (nI (rQ 0)), .int (nI (rQ 1)), .int (nI (rQ 2)), .int (nI xn), .int (nI (rQ 4)), .int (nI (rQ 5))])), aN z hh 6 (hbA rQ)] := hD
            refine lv_goto (tgt := 104) hx hb dX10_rule_99 (by decide) ?_
            refine lv_iload_n hx hb dX10_rule_104 rfl (lv_at hl 0 rfl) ?_
            exact nv_mi hx hb hr hlocks hS dX10_rule_105 (by show va_P D vwCl [(o, .inr (10, [.ref hn, .ref pq, .ref gi, .ref gp, .int (nI ik), .ref h2, .ref tp, .ref rw9])), (hn, .inr (3, [.ref hp, .ref hh, .int (nI ((uN rQ 3 xn) 6)), .int (nI (hpF (uN rQ 3 xn) ((uN rQ 3 xn) 6))), .int (nI (chF (uN rQ 3 xn) ((uN rQ 3 xn) 6))), .int (nI ((uN rQ 3 xn) 0)), .int (nI ((uN rQ 3 xn) 1)), .int (nI ((uN rQ 3 xn) 2)), .int (nI ((uN rQ 3 xn) 3)), .int (nI ((uN rQ 3 xn) 4)), .int (nI ((uN rQ 3 xn) 5))])), aN z hh 6 (hbA (uN rQ 3 xn))] _; rw [uN_n rQ (k := 3) (v := xn) (j := 6) (by decide), hp_u rQ 3 xn _ (by decide), ch_u rQ 3 xn _ (by decide), uN_n rQ (k := 3) (v := xn) (j := 0) (by decide), uN_n rQ (k := 3) (v := xn) (j := 1) (by decide), uN_n rQ (k := 3) (v := xn) (j := 2) (by decide), uN_n rQ (k := 3) (v := xn) (j := 4) (by decide), uN_n rQ (k := 3) (v := xn) (j := 5) (by decide), uN_s rQ 3 xn, hbA_u rQ 3 xn (by decide)]; exact hP) trivial rfl
      · obtain rfl : wh = nI 1 := hc36
        obtain ⟨xn, rfl, x0, x1⟩ := wi_nat (b := 100) (by decide) hc46
        obtain ⟨rfl, rfl⟩ := hrel.2.1 xn rfl rfl (by omega) (by omega)
        refine lv_aload_n hx hb dX10_rule_49 rfl (lv_at hl 0 rfl) ?_
        refine va_get (D := D) (ci := 10) (v := .ref hn) (C := RX10) (T := TX10) (N := 8) hx hb hts iX10 hown hK.1 hP 0 rfl rfl 0 (by decide) (hts _ m_347) (fun _ h9 => h9) rfl dX10_rule_50 ?_
        refine va_get (D := D) (ci := 3) (v := .int (nI (rQ 2))) (C := RX3) (T := TX3) (N := 11) hx hb hts iX3 hown hK.1 hP 1 rfl rfl 7 (by decide) (hts _ m_405) (fun _ h9 => h9) rfl dX10_rule_53 ?_
        refine lv_istore_n (lv' := [(3, .int (nI (rQ 2))), (0, .ref o), (1, .int (nI 1)), (2, .int (nI xn))]) hx hb dX10_rule_56 rfl hl (by decide) rfl (fun ls hl => ?_)
        refine lv_aload_n hx hb dX10_rule_57 rfl (lv_at hl 1 rfl) ?_
        refine va_get (D := D) (ci := 10) (v := .ref hn) (C := RX10) (T := TX10) (N := 8) hx hb hts iX10 hown hK.1 hP 0 rfl rfl 0 (by decide) (hts _ m_347) (fun _ h9 => h9) rfl dX10_rule_58 ?_
        refine lv_iload_n hx hb dX10_rule_61 rfl (lv_at hl 3 rfl) ?_
        refine va_put (D := D) (ci := 3) (v := .int (nI xn)) (ty := tyX3 7) (C := RX3) (T := TX3) (N := 11) hx hb hts iX3 tyX3 tyX3_ok nmX3 hown hK.1 hP hD hS 1 rfl rfl 7 (by decide) (hts _ m_405) (fun _ h9 => h9) rfl (tyX3_ok 7 (by decide)) rfl rfl (Nat.le_of_ble_eq_true rfl) dX10_rule_62 (fun H locs hP hD hS => ?_)
        have hP : va_P D vwCl [(o, .inr (10, [.ref hn, .ref pq, .ref gi, .ref gp, .int (nI ik), .ref h2, .ref tp, .ref rw9])), (hn, .inr (3, [.ref hp, .ref hh, .int (nI (rQ 6)), .int (nI (hpF rQ (rQ 6))), .int (nI (chF rQ (rQ 6))), .int (nI (rQ 0)), .int (nI (rQ 1)), .int (nI xn), .int (nI (rQ 3)), .int (nI (rQ 4)), .int (nI (rQ 5))])), aN z hh 6 (hbA rQ)] H := hP
        have hD : va_D A [(o, .inr (10, [.ref hn, .ref pq, .ref gi, .ref gp, .int (nI ik), .ref h2, .ref tp, .ref rw9])), (hn, .inr (3, [.ref hp, .ref hh, .int (nI (rQ 6)), .int (nI (hpF rQ (rQ 6))), .int (nI (chF rQ (rQ 6))), .int (nI (rQ 0)), .int (nI (rQ 1)), .int (nI xn), .int (nI (rQ 3)), .int (nI (rQ 4)), .int (nI (rQ 5))])), aN z hh 6 (hbA rQ)] := hD
        refine lv_goto (tgt := 104) hx hb dX10_rule_65 (by decide) ?_
        refine lv_iload_n hx hb dX10_rule_104 rfl (lv_at hl 0 rfl) ?_
        exact nv_mi hx hb hr hlocks hS dX10_rule_105 (by show va_P D vwCl [(o, .inr (10, [.ref hn, .ref pq, .ref gi, .ref gp, .int (nI ik), .ref h2, .ref tp, .ref rw9])), (hn, .inr (3, [.ref hp, .ref hh, .int (nI ((uN rQ 2 xn) 6)), .int (nI (hpF (uN rQ 2 xn) ((uN rQ 2 xn) 6))), .int (nI (chF (uN rQ 2 xn) ((uN rQ 2 xn) 6))), .int (nI ((uN rQ 2 xn) 0)), .int (nI ((uN rQ 2 xn) 1)), .int (nI ((uN rQ 2 xn) 2)), .int (nI ((uN rQ 2 xn) 3)), .int (nI ((uN rQ 2 xn) 4)), .int (nI ((uN rQ 2 xn) 5))])), aN z hh 6 (hbA (uN rQ 2 xn))] _; rw [uN_n rQ (k := 2) (v := xn) (j := 6) (by decide), hp_u rQ 2 xn _ (by decide), ch_u rQ 2 xn _ (by decide), uN_n rQ (k := 2) (v := xn) (j := 0) (by decide), uN_n rQ (k := 2) (v := xn) (j := 1) (by decide), uN_n rQ (k := 2) (v := xn) (j := 3) (by decide), uN_n rQ (k := 2) (v := xn) (j := 4) (by decide), uN_n rQ (k := 2) (v := xn) (j := 5) (by decide), uN_s rQ 2 xn, hbA_u rQ 2 xn (by decide)]; exact hP) trivial rfl
  · refine lv_iload_n hx hb dX10_rule_4 rfl (lv_at hl 2 rfl) ?_
    refine lv_iconst (v := nI 1) hx hb dX10_rule_5 (by decide +kernel) ?_
    refine lv_sipush (v := nI 9999) hx hb dX10_rule_6 (by decide +kernel) ?_
    have hPc := hP.sub (ws' := []) [] rfl
    refine nv_cp1 (va_runS (As := [.int xv, .int (nI 1), .int (nI 9999)]) (rest := []) ⟨hx, hb, hml, hown, hts⟩ (c_X10_within l D z xv (nI 1) (nI 9999) ) (va_cwS 3 hts (gS m_368 m_197 m_198 m_195) rfl rfl rfl hd_X10_within ⟨Nat.le_of_ble_eq_true rfl, Nat.le_of_ble_eq_true rfl⟩) (nv_preP hK hPc trivial _) rfl rfl hl.1 rfl (lv_room (Nat.le_of_ble_eq_true rfl)) dX10_rule_9 ⟨by decide, by decide⟩) ?_
    refine nv_inwi (a := ((1 : Nat) : Int)) (b := ((9999 : Nat) : Int)) (nI_toInt (by omega)) (nI_toInt (by omega)) ?_
    refine nv_beq (tgt := 34) hx hb dX10_rule_12 (by decide) (fun hc12 => ?_) (fun hc12 => ?_)
    · refine lv_iload_n hx hb dX10_rule_34 rfl (lv_at hl 1 rfl) ?_
      refine lv_iconst (v := nI 1) hx hb dX10_rule_35 (by decide +kernel) ?_
      refine lv_icmp_ne (tgt := 68) hx hb dX10_rule_36 (by decide) (fun hc36 => ?_) (fun hc36 => ?_)
      · refine lv_iload_n hx hb dX10_rule_68 rfl (lv_at hl 1 rfl) ?_
        refine lv_iconst (v := nI 2) hx hb dX10_rule_69 (by decide +kernel) ?_
        refine lv_icmp_ne (tgt := 102) hx hb dX10_rule_70 (by decide) (fun hc70 => ?_) (fun hc70 => ?_)
        · obtain ⟨rfl, rfl⟩ := hrel.2.2.2 (by first | exact fun _ => hc12 | exact fun q => absurd (q.trans nI_0) hc1) (by first | exact fun q => absurd (q.symm.trans (hc1.trans nI_0.symm)) (by decide) | exact fun _ => hc46 | exact fun q => absurd q hc36) (by first | exact fun q => absurd (q.symm.trans (hc1.trans nI_0.symm)) (by decide) | exact fun q => absurd (q.symm.trans hc36) (by decide) | exact fun _ => hc80 | exact fun q => absurd q hc70)
          refine lv_iconst (v := (-1)) hx hb dX10_rule_102 (by decide +kernel) ?_
          refine lv_istore_n (lv' := [(3, .int (-1)), (0, .ref o), (1, .int wh), (2, .int xv)]) hx hb dX10_rule_103 rfl hl (by decide) rfl (fun ls hl => ?_)
          refine lv_iload_n hx hb dX10_rule_104 rfl (lv_at hl 0 rfl) ?_
          exact nv_mi hx hb hr hlocks hS dX10_rule_105 hP trivial rfl
        · refine lv_iload_n hx hb dX10_rule_73 rfl (lv_at hl 2 rfl) ?_
          refine lv_iconst (v := nI 0) hx hb dX10_rule_74 (by decide +kernel) ?_
          refine lv_bipush (v := nI 9) hx hb dX10_rule_75 (by decide +kernel) ?_
          have hPc := hP.sub (ws' := []) [] rfl
          refine nv_cp1 (va_runS (As := [.int xv, .int (nI 0), .int (nI 9)]) (rest := []) ⟨hx, hb, hml, hown, hts⟩ (c_X10_within l D z xv (nI 0) (nI 9) ) (va_cwS 3 hts (gS m_368 m_197 m_198 m_195) rfl rfl rfl hd_X10_within ⟨Nat.le_of_ble_eq_true rfl, Nat.le_of_ble_eq_true rfl⟩) (nv_preP hK hPc trivial _) rfl rfl hl.1 rfl (lv_room (Nat.le_of_ble_eq_true rfl)) dX10_rule_77 ⟨by decide, by decide⟩) ?_
          refine nv_inwi (a := ((0 : Nat) : Int)) (b := ((9 : Nat) : Int)) (nI_toInt (by omega)) (nI_toInt (by omega)) ?_
          refine nv_beq (tgt := 102) hx hb dX10_rule_80 (by decide) (fun hc80 => ?_) (fun hc80 => ?_)
          · obtain ⟨rfl, rfl⟩ := hrel.2.2.2 (by first | exact fun _ => hc12 | exact fun q => absurd (q.trans nI_0) hc1) (by first | exact fun q => absurd (q.symm.trans (hc1.trans nI_0.symm)) (by decide) | exact fun _ => hc46 | exact fun q => absurd q hc36) (by first | exact fun q => absurd (q.symm.trans (hc1.trans nI_0.symm)) (by decide) | exact fun q => absurd (q.symm.trans hc36) (by decide) | exact fun _ => hc80 | exact fun q => absurd q hc70)
            refine lv_iconst (v := (-1)) hx hb dX10_rule_102 (by decide +kernel) ?_
            refine lv_istore_n (lv' := [(3, .int (-1)), (0, .ref o), (1, .int wh), (2, .int xv)]) hx hb dX10_rule_103 rfl hl (by decide) rfl (fun ls hl => ?_)
            refine lv_iload_n hx hb dX10_rule_104 rfl (lv_at hl 0 rfl) ?_
            exact nv_mi hx hb hr hlocks hS dX10_rule_105 hP trivial rfl
          · obtain rfl : wh = nI 2 := hc70
            obtain ⟨xn, rfl, x0, x1⟩ := wi_nat (b := 9) (by decide) hc80
            obtain ⟨rfl, rfl⟩ := hrel.2.2.1 xn rfl rfl (by omega)
            refine lv_aload_n hx hb dX10_rule_83 rfl (lv_at hl 0 rfl) ?_
            refine va_get (D := D) (ci := 10) (v := .ref hn) (C := RX10) (T := TX10) (N := 8) hx hb hts iX10 hown hK.1 hP 0 rfl rfl 0 (by decide) (hts _ m_347) (fun _ h9 => h9) rfl dX10_rule_84 ?_
            refine va_get (D := D) (ci := 3) (v := .int (nI (rQ 3))) (C := RX3) (T := TX3) (N := 11) hx hb hts iX3 hown hK.1 hP 1 rfl rfl 8 (by decide) (hts _ m_406) (fun _ h9 => h9) rfl dX10_rule_87 ?_
            refine lv_istore_n (lv' := [(3, .int (nI (rQ 3))), (0, .ref o), (1, .int (nI 2)), (2, .int (nI xn))]) hx hb dX10_rule_90 rfl hl (by decide) rfl (fun ls hl => ?_)
            refine lv_aload_n hx hb dX10_rule_91 rfl (lv_at hl 1 rfl) ?_
            refine va_get (D := D) (ci := 10) (v := .ref hn) (C := RX10) (T := TX10) (N := 8) hx hb hts iX10 hown hK.1 hP 0 rfl rfl 0 (by decide) (hts _ m_347) (fun _ h9 => h9) rfl dX10_rule_92 ?_
            refine lv_iload_n hx hb dX10_rule_95 rfl (lv_at hl 3 rfl) ?_
            refine va_put (D := D) (ci := 3) (v := .int (nI xn)) (ty := tyX3 8) (C := RX3) (T := TX3) (N := 11) hx hb hts iX3 tyX3 tyX3_ok nmX3 hown hK.1 hP hD hS 1 rfl rfl 8 (by decide) (hts _ m_406) (fun _ h9 => h9) rfl (tyX3_ok 8 (by decide)) rfl rfl (Nat.le_of_ble_eq_true rfl) dX10_rule_96 (fun H locs hP hD hS => ?_)
            have hP : va_P D vwCl [(o, .inr (10, [.ref hn, .ref pq, .ref gi, .ref gp, .int (nI ik), .ref h2, .ref tp, .ref rw9])), (hn, .inr (3, [.ref hp, .ref hh, .int (nI (rQ 6)), .int (nI (hpF rQ (rQ 6))), .int (nI (chF rQ (rQ 6))), .int (nI (rQ 0)), .int (nI (rQ 1)), .int (nI (rQ 2)), .int (nI xn), .int (nI (rQ 4)), .int (nI (rQ 5))])), aN z hh 6 (hbA rQ)] H := hP
            have hD : va_D A [(o, .inr (10, [.ref hn, .ref pq, .ref gi, .ref gp, .int (nI ik), .ref h2, .ref tp, .ref rw9])), (hn, .inr (3, [.ref hp, .ref hh, .int (nI (rQ 6)), .int (nI (hpF rQ (rQ 6))), .int (nI (chF rQ (rQ 6))), .int (nI (rQ 0)), .int (nI (rQ 1)), .int (nI (rQ 2)), .int (nI xn), .int (nI (rQ 4)), .int (nI (rQ 5))])), aN z hh 6 (hbA rQ)] := hD
            refine lv_goto (tgt := 104) hx hb dX10_rule_99 (by decide) ?_
            refine lv_iload_n hx hb dX10_rule_104 rfl (lv_at hl 0 rfl) ?_
            exact nv_mi hx hb hr hlocks hS dX10_rule_105 (by show va_P D vwCl [(o, .inr (10, [.ref hn, .ref pq, .ref gi, .ref gp, .int (nI ik), .ref h2, .ref tp, .ref rw9])), (hn, .inr (3, [.ref hp, .ref hh, .int (nI ((uN rQ 3 xn) 6)), .int (nI (hpF (uN rQ 3 xn) ((uN rQ 3 xn) 6))), .int (nI (chF (uN rQ 3 xn) ((uN rQ 3 xn) 6))), .int (nI ((uN rQ 3 xn) 0)), .int (nI ((uN rQ 3 xn) 1)), .int (nI ((uN rQ 3 xn) 2)), .int (nI ((uN rQ 3 xn) 3)), .int (nI ((uN rQ 3 xn) 4)), .int (nI ((uN rQ 3 xn) 5))])), aN z hh 6 (hbA (uN rQ 3 xn))] _; rw [uN_n rQ (k := 3) (v := xn) (j := 6) (by decide), hp_u rQ 3 xn _ (by decide), ch_u rQ 3 xn _ (by decide), uN_n rQ (k := 3) (v := xn) (j := 0) (by decide), uN_n rQ (k := 3) (v := xn) (j := 1) (by decide), uN_n rQ (k := 3) (v := xn) (j := 2) (by decide), uN_n rQ (k := 3) (v := xn) (j := 4) (by decide), uN_n rQ (k := 3) (v := xn) (j := 5) (by decide), uN_s rQ 3 xn, hbA_u rQ 3 xn (by decide)]; exact hP) trivial rfl
      · refine lv_iload_n hx hb dX10_rule_39 rfl (lv_at hl 2 rfl) ?_
        refine lv_iconst (v := nI 1) hx hb dX10_rule_40 (by decide +kernel) ?_
        refine lv_bipush (v := nI 100) hx hb dX10_rule_41 (by decide +kernel) ?_
        have hPc := hP.sub (ws' := []) [] rfl
        refine nv_cp1 (va_runS (As := [.int xv, .int (nI 1), .int (nI 100)]) (rest := []) ⟨hx, hb, hml, hown, hts⟩ (c_X10_within l D z xv (nI 1) (nI 100) ) (va_cwS 3 hts (gS m_368 m_197 m_198 m_195) rfl rfl rfl hd_X10_within ⟨Nat.le_of_ble_eq_true rfl, Nat.le_of_ble_eq_true rfl⟩) (nv_preP hK hPc trivial _) rfl rfl hl.1 rfl (lv_room (Nat.le_of_ble_eq_true rfl)) dX10_rule_43 ⟨by decide, by decide⟩) ?_
        refine nv_inwi (a := ((1 : Nat) : Int)) (b := ((100 : Nat) : Int)) (nI_toInt (by omega)) (nI_toInt (by omega)) ?_
        refine nv_beq (tgt := 68) hx hb dX10_rule_46 (by decide) (fun hc46 => ?_) (fun hc46 => ?_)
        · refine lv_iload_n hx hb dX10_rule_68 rfl (lv_at hl 1 rfl) ?_
          refine lv_iconst (v := nI 2) hx hb dX10_rule_69 (by decide +kernel) ?_
          refine lv_icmp_ne (tgt := 102) hx hb dX10_rule_70 (by decide) (fun hc70 => ?_) (fun hc70 => ?_)
          · obtain ⟨rfl, rfl⟩ := hrel.2.2.2 (by first | exact fun _ => hc12 | exact fun q => absurd (q.trans nI_0) hc1) (by first | exact fun q => absurd (q.symm.trans (hc1.trans nI_0.symm)) (by decide) | exact fun _ => hc46 | exact fun q => absurd q hc36) (by first | exact fun q => absurd (q.symm.trans (hc1.trans nI_0.symm)) (by decide) | exact fun q => absurd (q.symm.trans hc36) (by decide) | exact fun _ => hc80 | exact fun q => absurd q hc70)
            refine lv_iconst (v := (-1)) hx hb dX10_rule_102 (by decide +kernel) ?_
            refine lv_istore_n (lv' := [(3, .int (-1)), (0, .ref o), (1, .int wh), (2, .int xv)]) hx hb dX10_rule_103 rfl hl (by decide) rfl (fun ls hl => ?_)
            refine lv_iload_n hx hb dX10_rule_104 rfl (lv_at hl 0 rfl) ?_
            exact nv_mi hx hb hr hlocks hS dX10_rule_105 hP trivial rfl
          · refine lv_iload_n hx hb dX10_rule_73 rfl (lv_at hl 2 rfl) ?_
            refine lv_iconst (v := nI 0) hx hb dX10_rule_74 (by decide +kernel) ?_
            refine lv_bipush (v := nI 9) hx hb dX10_rule_75 (by decide +kernel) ?_
            have hPc := hP.sub (ws' := []) [] rfl
            refine nv_cp1 (va_runS (As := [.int xv, .int (nI 0), .int (nI 9)]) (rest := []) ⟨hx, hb, hml, hown, hts⟩ (c_X10_within l D z xv (nI 0) (nI 9) ) (va_cwS 3 hts (gS m_368 m_197 m_198 m_195) rfl rfl rfl hd_X10_within ⟨Nat.le_of_ble_eq_true rfl, Nat.le_of_ble_eq_true rfl⟩) (nv_preP hK hPc trivial _) rfl rfl hl.1 rfl (lv_room (Nat.le_of_ble_eq_true rfl)) dX10_rule_77 ⟨by decide, by decide⟩) ?_
            refine nv_inwi (a := ((0 : Nat) : Int)) (b := ((9 : Nat) : Int)) (nI_toInt (by omega)) (nI_toInt (by omega)) ?_
            refine nv_beq (tgt := 102) hx hb dX10_rule_80 (by decide) (fun hc80 => ?_) (fun hc80 => ?_)
            · obtain ⟨rfl, rfl⟩ := hrel.2.2.2 (by first | exact fun _ => hc12 | exact fun q => absurd (q.trans nI_0) hc1) (by first | exact fun q => absurd (q.symm.trans (hc1.trans nI_0.symm)) (by decide) | exact fun _ => hc46 | exact fun q => absurd q hc36) (by first | exact fun q => absurd (q.symm.trans (hc1.trans nI_0.symm)) (by decide) | exact fun q => absurd (q.symm.trans hc36) (by decide) | exact fun _ => hc80 | exact fun q => absurd q hc70)
              refine lv_iconst (v := (-1)) hx hb dX10_rule_102 (by decide +kernel) ?_
              refine lv_istore_n (lv' := [(3, .int (-1)), (0, .ref o), (1, .int wh), (2, .int xv)]) hx hb dX10_rule_103 rfl hl (by decide) rfl (fun ls hl => ?_)
              refine lv_iload_n hx hb dX10_rule_104 rfl (lv_at hl 0 rfl) ?_
              exact nv_mi hx hb hr hlocks hS dX10_rule_105 hP trivial rfl
            · obtain rfl : wh = nI 2 := hc70
              obtain ⟨xn, rfl, x0, x1⟩ := wi_nat (b := 9) (by decide) hc80
              obtain ⟨rfl, rfl⟩ := hrel.2.2.1 xn rfl rfl (by omega)
              refine lv_aload_n hx hb dX10_rule_83 rfl (lv_at hl 0 rfl) ?_
              refine va_get (D := D) (ci := 10) (v := .ref hn) (C := RX10) (T := TX10) (N := 8) hx hb hts iX10 hown hK.1 hP 0 rfl rfl 0 (by decide) (hts _ m_347) (fun _ h9 => h9) rfl dX10_rule_84 ?_
              refine va_get (D := D) (ci := 3) (v := .int (nI (rQ 3))) (C := RX3) (T := TX3) (N := 11) hx hb hts iX3 hown hK.1 hP 1 rfl rfl 8 (by decide) (hts _ m_406) (fun _ h9 => h9) rfl dX10_rule_87 ?_
              refine lv_istore_n (lv' := [(3, .int (nI (rQ 3))), (0, .ref o), (1, .int (nI 2)), (2, .int (nI xn))]) hx hb dX10_rule_90 rfl hl (by decide) rfl (fun ls hl => ?_)
              refine lv_aload_n hx hb dX10_rule_91 rfl (lv_at hl 1 rfl) ?_
              refine va_get (D := D) (ci := 10) (v := .ref hn) (C := RX10) (T := TX10) (N := 8) hx hb hts iX10 hown hK.1 hP 0 rfl rfl 0 (by decide) (hts _ m_347) (fun _ h9 => h9) rfl dX10_rule_92 ?_
              refine lv_iload_n hx hb dX10_rule_95 rfl (lv_at hl 3 rfl) ?_
              refine va_put (D := D) (ci := 3) (v := .int (nI xn)) (ty := tyX3 8) (C := RX3) (T := TX3) (N := 11) hx hb hts iX3 tyX3 tyX3_ok nmX3 hown hK.1 hP hD hS 1 rfl rfl 8 (by decide) (hts _ m_406) (fun _ h9 => h9) rfl (tyX3_ok 8 (by decide)) rfl rfl (Nat.le_of_ble_eq_true rfl) dX10_rule_96 (fun H locs hP hD hS => ?_)
              have hP : va_P D vwCl [(o, .inr (10, [.ref hn, .ref pq, .ref gi, .ref gp, .int (nI ik), .ref h2, .ref tp, .ref rw9])), (hn, .inr (3, [.ref hp, .ref hh, .int (nI (rQ 6)), .int (nI (hpF rQ (rQ 6))), .int (nI (chF rQ (rQ 6))), .int (nI (rQ 0)), .int (nI (rQ 1)), .int (nI (rQ 2)), .int (nI xn), .int (nI (rQ 4)), .int (nI (rQ 5))])), aN z hh 6 (hbA rQ)] H := hP
              have hD : va_D A [(o, .inr (10, [.ref hn, .ref pq, .ref gi, .ref gp, .int (nI ik), .ref h2, .ref tp, .ref rw9])), (hn, .inr (3, [.ref hp, .ref hh, .int (nI (rQ 6)), .int (nI (hpF rQ (rQ 6))), .int (nI (chF rQ (rQ 6))), .int (nI (rQ 0)), .int (nI (rQ 1)), .int (nI (rQ 2)), .int (nI xn), .int (nI (rQ 4)), .int (nI (rQ 5))])), aN z hh 6 (hbA rQ)] := hD
              refine lv_goto (tgt := 104) hx hb dX10_rule_99 (by decide) ?_
              refine lv_iload_n hx hb dX10_rule_104 rfl (lv_at hl 0 rfl) ?_
              exact nv_mi hx hb hr hlocks hS dX10_rule_105 (by show va_P D vwCl [(o, .inr (10, [.ref hn, .ref pq, .ref gi, .ref gp, .int (nI ik), .ref h2, .ref tp, .ref rw9])), (hn, .inr (3, [.ref hp, .ref hh, .int (nI ((uN rQ 3 xn) 6)), .int (nI (hpF (uN rQ 3 xn) ((uN rQ 3 xn) 6))), .int (nI (chF (uN rQ 3 xn) ((uN rQ 3 xn) 6))), .int (nI ((uN rQ 3 xn) 0)), .int (nI ((uN rQ 3 xn) 1)), .int (nI ((uN rQ 3 xn) 2)), .int (nI ((uN rQ 3 xn) 3)), .int (nI ((uN rQ 3 xn) 4)), .int (nI ((uN rQ 3 xn) 5))])), aN z hh 6 (hbA (uN rQ 3 xn))] _; rw [uN_n rQ (k := 3) (v := xn) (j := 6) (by decide), hp_u rQ 3 xn _ (by decide), ch_u rQ 3 xn _ (by decide), uN_n rQ (k := 3) (v := xn) (j := 0) (by decide), uN_n rQ (k := 3) (v := xn) (j := 1) (by decide), uN_n rQ (k := 3) (v := xn) (j := 2) (by decide), uN_n rQ (k := 3) (v := xn) (j := 4) (by decide), uN_n rQ (k := 3) (v := xn) (j := 5) (by decide), uN_s rQ 3 xn, hbA_u rQ 3 xn (by decide)]; exact hP) trivial rfl
        · obtain rfl : wh = nI 1 := hc36
          obtain ⟨xn, rfl, x0, x1⟩ := wi_nat (b := 100) (by decide) hc46
          obtain ⟨rfl, rfl⟩ := hrel.2.1 xn rfl rfl (by omega) (by omega)
          refine lv_aload_n hx hb dX10_rule_49 rfl (lv_at hl 0 rfl) ?_
          refine va_get (D := D) (ci := 10) (v := .ref hn) (C := RX10) (T := TX10) (N := 8) hx hb hts iX10 hown hK.1 hP 0 rfl rfl 0 (by decide) (hts _ m_347) (fun _ h9 => h9) rfl dX10_rule_50 ?_
          refine va_get (D := D) (ci := 3) (v := .int (nI (rQ 2))) (C := RX3) (T := TX3) (N := 11) hx hb hts iX3 hown hK.1 hP 1 rfl rfl 7 (by decide) (hts _ m_405) (fun _ h9 => h9) rfl dX10_rule_53 ?_
          refine lv_istore_n (lv' := [(3, .int (nI (rQ 2))), (0, .ref o), (1, .int (nI 1)), (2, .int (nI xn))]) hx hb dX10_rule_56 rfl hl (by decide) rfl (fun ls hl => ?_)
          refine lv_aload_n hx hb dX10_rule_57 rfl (lv_at hl 1 rfl) ?_
          refine va_get (D := D) (ci := 10) (v := .ref hn) (C := RX10) (T := TX10) (N := 8) hx hb hts iX10 hown hK.1 hP 0 rfl rfl 0 (by decide) (hts _ m_347) (fun _ h9 => h9) rfl dX10_rule_58 ?_
          refine lv_iload_n hx hb dX10_rule_61 rfl (lv_at hl 3 rfl) ?_
          refine va_put (D := D) (ci := 3) (v := .int (nI xn)) (ty := tyX3 7) (C := RX3) (T := TX3) (N := 11) hx hb hts iX3 tyX3 tyX3_ok nmX3 hown hK.1 hP hD hS 1 rfl rfl 7 (by decide) (hts _ m_405) (fun _ h9 => h9) rfl (tyX3_ok 7 (by decide)) rfl rfl (Nat.le_of_ble_eq_true rfl) dX10_rule_62 (fun H locs hP hD hS => ?_)
          have hP : va_P D vwCl [(o, .inr (10, [.ref hn, .ref pq, .ref gi, .ref gp, .int (nI ik), .ref h2, .ref tp, .ref rw9])), (hn, .inr (3, [.ref hp, .ref hh, .int (nI (rQ 6)), .int (nI (hpF rQ (rQ 6))), .int (nI (chF rQ (rQ 6))), .int (nI (rQ 0)), .int (nI (rQ 1)), .int (nI xn), .int (nI (rQ 3)), .int (nI (rQ 4)), .int (nI (rQ 5))])), aN z hh 6 (hbA rQ)] H := hP
          have hD : va_D A [(o, .inr (10, [.ref hn, .ref pq, .ref gi, .ref gp, .int (nI ik), .ref h2, .ref tp, .ref rw9])), (hn, .inr (3, [.ref hp, .ref hh, .int (nI (rQ 6)), .int (nI (hpF rQ (rQ 6))), .int (nI (chF rQ (rQ 6))), .int (nI (rQ 0)), .int (nI (rQ 1)), .int (nI xn), .int (nI (rQ 3)), .int (nI (rQ 4)), .int (nI (rQ 5))])), aN z hh 6 (hbA rQ)] := hD
          refine lv_goto (tgt := 104) hx hb dX10_rule_65 (by decide) ?_
          refine lv_iload_n hx hb dX10_rule_104 rfl (lv_at hl 0 rfl) ?_
          exact nv_mi hx hb hr hlocks hS dX10_rule_105 (by show va_P D vwCl [(o, .inr (10, [.ref hn, .ref pq, .ref gi, .ref gp, .int (nI ik), .ref h2, .ref tp, .ref rw9])), (hn, .inr (3, [.ref hp, .ref hh, .int (nI ((uN rQ 2 xn) 6)), .int (nI (hpF (uN rQ 2 xn) ((uN rQ 2 xn) 6))), .int (nI (chF (uN rQ 2 xn) ((uN rQ 2 xn) 6))), .int (nI ((uN rQ 2 xn) 0)), .int (nI ((uN rQ 2 xn) 1)), .int (nI ((uN rQ 2 xn) 2)), .int (nI ((uN rQ 2 xn) 3)), .int (nI ((uN rQ 2 xn) 4)), .int (nI ((uN rQ 2 xn) 5))])), aN z hh 6 (hbA (uN rQ 2 xn))] _; rw [uN_n rQ (k := 2) (v := xn) (j := 6) (by decide), hp_u rQ 2 xn _ (by decide), ch_u rQ 2 xn _ (by decide), uN_n rQ (k := 2) (v := xn) (j := 0) (by decide), uN_n rQ (k := 2) (v := xn) (j := 1) (by decide), uN_n rQ (k := 2) (v := xn) (j := 3) (by decide), uN_n rQ (k := 2) (v := xn) (j := 4) (by decide), uN_n rQ (k := 2) (v := xn) (j := 5) (by decide), uN_s rQ 2 xn, hbA_u rQ 2 xn (by decide)]; exact hP) trivial rfl
    · obtain rfl : wh = nI 0 := hc1.trans nI_0.symm
      obtain ⟨xn, rfl, x0, x1⟩ := wi_nat (b := 9999) (by decide) hc12
      obtain ⟨rfl, rfl⟩ := hrel.1 xn rfl rfl (by omega) (by omega)
      refine lv_aload_n hx hb dX10_rule_15 rfl (lv_at hl 0 rfl) ?_
      refine va_get (D := D) (ci := 10) (v := .ref hn) (C := RX10) (T := TX10) (N := 8) hx hb hts iX10 hown hK.1 hP 0 rfl rfl 0 (by decide) (hts _ m_347) (fun _ h9 => h9) rfl dX10_rule_16 ?_
      refine va_get (D := D) (ci := 3) (v := .int (nI (rQ 1))) (C := RX3) (T := TX3) (N := 11) hx hb hts iX3 hown hK.1 hP 1 rfl rfl 6 (by decide) (hts _ m_404) (fun _ h9 => h9) rfl dX10_rule_19 ?_
      refine lv_istore_n (lv' := [(3, .int (nI (rQ 1))), (0, .ref o), (1, .int (nI 0)), (2, .int (nI xn))]) hx hb dX10_rule_22 rfl hl (by decide) rfl (fun ls hl => ?_)
      refine lv_aload_n hx hb dX10_rule_23 rfl (lv_at hl 1 rfl) ?_
      refine va_get (D := D) (ci := 10) (v := .ref hn) (C := RX10) (T := TX10) (N := 8) hx hb hts iX10 hown hK.1 hP 0 rfl rfl 0 (by decide) (hts _ m_347) (fun _ h9 => h9) rfl dX10_rule_24 ?_
      refine lv_iload_n hx hb dX10_rule_27 rfl (lv_at hl 3 rfl) ?_
      refine va_put (D := D) (ci := 3) (v := .int (nI xn)) (ty := tyX3 6) (C := RX3) (T := TX3) (N := 11) hx hb hts iX3 tyX3 tyX3_ok nmX3 hown hK.1 hP hD hS 1 rfl rfl 6 (by decide) (hts _ m_404) (fun _ h9 => h9) rfl (tyX3_ok 6 (by decide)) rfl rfl (Nat.le_of_ble_eq_true rfl) dX10_rule_28 (fun H locs hP hD hS => ?_)
      have hP : va_P D vwCl [(o, .inr (10, [.ref hn, .ref pq, .ref gi, .ref gp, .int (nI ik), .ref h2, .ref tp, .ref rw9])), (hn, .inr (3, [.ref hp, .ref hh, .int (nI (rQ 6)), .int (nI (hpF rQ (rQ 6))), .int (nI (chF rQ (rQ 6))), .int (nI (rQ 0)), .int (nI xn), .int (nI (rQ 2)), .int (nI (rQ 3)), .int (nI (rQ 4)), .int (nI (rQ 5))])), aN z hh 6 (hbA rQ)] H := hP
      have hD : va_D A [(o, .inr (10, [.ref hn, .ref pq, .ref gi, .ref gp, .int (nI ik), .ref h2, .ref tp, .ref rw9])), (hn, .inr (3, [.ref hp, .ref hh, .int (nI (rQ 6)), .int (nI (hpF rQ (rQ 6))), .int (nI (chF rQ (rQ 6))), .int (nI (rQ 0)), .int (nI xn), .int (nI (rQ 2)), .int (nI (rQ 3)), .int (nI (rQ 4)), .int (nI (rQ 5))])), aN z hh 6 (hbA rQ)] := hD
      refine lv_goto (tgt := 104) hx hb dX10_rule_31 (by decide) ?_
      refine lv_iload_n hx hb dX10_rule_104 rfl (lv_at hl 0 rfl) ?_
      exact nv_mi hx hb hr hlocks hS dX10_rule_105 (by show va_P D vwCl [(o, .inr (10, [.ref hn, .ref pq, .ref gi, .ref gp, .int (nI ik), .ref h2, .ref tp, .ref rw9])), (hn, .inr (3, [.ref hp, .ref hh, .int (nI ((uN rQ 1 xn) 6)), .int (nI (hpF (uN rQ 1 xn) ((uN rQ 1 xn) 6))), .int (nI (chF (uN rQ 1 xn) ((uN rQ 1 xn) 6))), .int (nI ((uN rQ 1 xn) 0)), .int (nI ((uN rQ 1 xn) 1)), .int (nI ((uN rQ 1 xn) 2)), .int (nI ((uN rQ 1 xn) 3)), .int (nI ((uN rQ 1 xn) 4)), .int (nI ((uN rQ 1 xn) 5))])), aN z hh 6 (hbA (uN rQ 1 xn))] _; rw [uN_n rQ (k := 1) (v := xn) (j := 6) (by decide), hp_u rQ 1 xn _ (by decide), ch_u rQ 1 xn _ (by decide), uN_n rQ (k := 1) (v := xn) (j := 0) (by decide), uN_n rQ (k := 1) (v := xn) (j := 2) (by decide), uN_n rQ (k := 1) (v := xn) (j := 3) (by decide), uN_n rQ (k := 1) (v := xn) (j := 4) (by decide), uN_n rQ (k := 1) (v := xn) (j := 5) (by decide), uN_s rQ 1 xn, hbA_u rQ 1 xn (by decide)]; exact hP) trivial rfl

set_option maxHeartbeats 4000000 in
set_option maxRecDepth 100000 in
theorem c_X10_hope (l : Launch) (D : va_G) (z : Nat → ClassId) (sz : Nat) (w0Q : Nat) (o : Nat) (hn : Nat) (pq : Nat) (gi : Nat) (gp : Nat) (ik : Nat) (h2 : Nat) (tp : Nat) (rw9 : Nat) (hp : Nat) (hh : Nat) (rQ : Nat → Nat) (pv : Int32) (xv : Int32) (r1Q : Nat → Nat) (vQ : Int32) (hok : rOK w0Q rQ) (hrel : hpRel rQ pv xv r1Q vQ) : CM l yX10_hope cX10_hope 4 (some .int) 2 43 0 0 [.ref o, .int pv, .int xv] D z [(o, .inr (10, [.ref hn, .ref pq, .ref gi, .ref gp, .int (nI ik), .ref h2, .ref tp, .ref rw9])), (hn, .inr (3, [.ref hp, .ref hh, .int (nI (rQ 6)), .int (nI (hpF rQ (rQ 6))), .int (nI (chF rQ (rQ 6))), .int (nI (rQ 0)), .int (nI (rQ 1)), .int (nI (rQ 2)), .int (nI (rQ 3)), .int (nI (rQ 4)), .int (nI (rQ 5))])), aN z hh 6 (hbA rQ)] sz (fun _ => True) [(o, .inr (10, [.ref hn, .ref pq, .ref gi, .ref gp, .int (nI ik), .ref h2, .ref tp, .ref rw9])), (hn, .inr (3, [.ref hp, .ref hh, .int (nI (r1Q 6)), .int (nI (hpF r1Q (r1Q 6))), .int (nI (chF r1Q (r1Q 6))), .int (nI (r1Q 0)), .int (nI (r1Q 1)), .int (nI (r1Q 2)), .int (nI (r1Q 3)), .int (nI (r1Q 4)), .int (nI (r1Q 5))])), aN z hh 6 (hbA r1Q)] (some (.int vQ)) (fun _ => True) := by
  refine Met.ofW (cc := cX10_hope) (maxL := 4) (ret := (some .int)) (by decide) rfl ?_
  intro pg e s m args below meth c s₁ B hml hv
  obtain ⟨rfl, hsz, hP, hK, hD0, hE⟩ := hv
  have hx := B.exec
  have hb := B.bytes
  have hr := B.returns
  have hts : ∀ w ∈ ALL, w.before _ s = true := fun w h => atoms_spec (ws := wA yX10_hope cX10_hope 4 (some .int)) B.pre w (List.mem_cons_of_mem _ h)
  have hown : s.vm.findClass RX10 = some m.cls := findClass_of_methodNamed B.named
  have hlocks := B.notSynchronized
  subst hsz
  have hD := hD0.self (sz := s.heap.size)
  obtain ⟨o0, o1, o1b, o2, o2b, o3, o4, o5, o6, oP⟩ := id hok
  have hh64 := hpF_lt (r := rQ) (n := rQ 6) (fun jQ hj => (oP jQ hj).2.2.2.2)
  have h2p : 2 ^ (rQ 6) ≤ 2 ^ 6 := Nat.pow_le_pow_right (by decide) (by omega)
  have hA : ∀ q : Nat, s.heap.size ≤ q → va_A [(o, .inr (10, [.ref hn, .ref pq, .ref gi, .ref gp, .int (nI ik), .ref h2, .ref tp, .ref rw9])), (hn, .inr (3, [.ref hp, .ref hh, .int (nI (rQ 6)), .int (nI (hpF rQ (rQ 6))), .int (nI (chF rQ (rQ 6))), .int (nI (rQ 0)), .int (nI (rQ 1)), .int (nI (rQ 2)), .int (nI (rQ 3)), .int (nI (rQ 4)), .int (nI (rQ 5))])), aN z hh 6 (hbA rQ)] s.heap.size q := fun q h => Or.inr h
  generalize va_A [(o, .inr (10, [.ref hn, .ref pq, .ref gi, .ref gp, .int (nI ik), .ref h2, .ref tp, .ref rw9])), (hn, .inr (3, [.ref hp, .ref hh, .int (nI (rQ 6)), .int (nI (hpF rQ (rQ 6))), .int (nI (chF rQ (rQ 6))), .int (nI (rQ 0)), .int (nI (rQ 1)), .int (nI (rQ 2)), .int (nI (rQ 3)), .int (nI (rQ 4)), .int (nI (rQ 5))])), aN z hh 6 (hbA rQ)] s.heap.size = A at *
  have hS : va_S A s.heap s.heap [] := va_S.rf
  have hl := lv_entry ([.ref o, .int pv, .int xv]) (n := 4) (Nat.le_of_ble_eq_true rfl)
  rw [lg_entry_eq]
  generalize (lg_sl ([.ref o, .int pv, .int xv]) ++ List.replicate (4 - (lg_sl ([.ref o, .int pv, .int xv])).length) Slot.unset).toArray = ls at hl ⊢
  have hl : lv_has ls 4 [(0, .ref o), (1, .int pv), (2, .int xv)] := hl
  refine lv_aload_n hx hb dX10_hope_0 rfl (lv_at hl 0 rfl) ?_
  refine lv_iload_n hx hb dX10_hope_1 rfl (lv_at hl 1 rfl) ?_
  have hPc := hP.sub (ws' := [(o, .inr (10, [.ref hn, .ref pq, .ref gi, .ref gp, .int (nI ik), .ref h2, .ref tp, .ref rw9])), (hn, .inr (3, [.ref hp, .ref hh, .int (nI (rQ 6)), .int (nI (hpF rQ (rQ 6))), .int (nI (chF rQ (rQ 6))), .int (nI (rQ 0)), .int (nI (rQ 1)), .int (nI (rQ 2)), .int (nI (rQ 3)), .int (nI (rQ 4)), .int (nI (rQ 5))]))]) [0, 1] rfl
  refine nv_cp1 (va_runV (As := [.int pv]) (rest := []) ⟨hx, hb, hml, hown, hts⟩ (c_X10_isPerson l D z o hn pq gi gp ik h2 tp rw9 hp hh rQ pv (by first | assumption | omega)) (cwV 1 hts (gV m_380 m_381 m_382 m_198 m_375) rfl rfl rfl ⟨rfl, hd_X10_isPerson⟩ ⟨Nat.le_of_ble_eq_true rfl, Nat.le_of_ble_eq_true rfl⟩) (nv_prePV (ci := 10) (q0 := 0) hK hPc trivial rfl rfl) rfl rfl hl.1 rfl (lv_room (Nat.le_of_ble_eq_true rfl)) dX10_hope_2 ⟨by decide, by decide⟩) ?_
  refine nv_beq (tgt := 17) hx hb dX10_hope_5 (by decide) (fun hc5 => ?_) (fun hc5 => ?_)
  · refine lv_iconst (v := (-1)) hx hb dX10_hope_17 (by decide +kernel) ?_
    obtain ⟨rfl, rfl⟩ := hrel.1 (by first | exact fun q => hc5 q.1 | exact fun q => hc14 q.2)
    exact nv_mi hx hb hr hlocks hS dX10_hope_18 hP trivial rfl
  · refine lv_iload_n hx hb dX10_hope_8 rfl (lv_at hl 2 rfl) ?_
    refine lv_iconst (v := nI 0) hx hb dX10_hope_9 (by decide +kernel) ?_
    refine lv_iconst (v := nI 1) hx hb dX10_hope_10 (by decide +kernel) ?_
    have hPc := hP.sub (ws' := []) [] rfl
    refine nv_cp1 (va_runS (As := [.int xv, .int (nI 0), .int (nI 1)]) (rest := []) ⟨hx, hb, hml, hown, hts⟩ (c_X10_within l D z xv (nI 0) (nI 1) ) (va_cwS 3 hts (gS m_368 m_197 m_198 m_195) rfl rfl rfl hd_X10_within ⟨Nat.le_of_ble_eq_true rfl, Nat.le_of_ble_eq_true rfl⟩) (nv_preP hK hPc trivial _) rfl rfl hl.1 rfl (lv_room (Nat.le_of_ble_eq_true rfl)) dX10_hope_11 ⟨by decide, by decide⟩) ?_
    refine nv_inwi (a := ((0 : Nat) : Int)) (b := ((1 : Nat) : Int)) (nI_toInt (by omega)) (nI_toInt (by omega)) ?_
    refine nv_bne (tgt := 19) hx hb dX10_hope_14 (by decide) (fun hc14 => ?_) (fun hc14 => ?_)
    · obtain ⟨pn, rfl, pn0, pn1⟩ := wi_nat (b := rQ 6 - 1) (by decide) (show wi pv 0 ((rQ 6 - 1 : Nat) : Int) from ⟨hc5.1, by have := hc5.1; have := hc5.2; omega⟩)
      have hpn : pn < rQ 6 := by have h8 := hc5; rw [wi_nI (by omega)] at h8; omega
      obtain ⟨kQ, rfl, k0, k1⟩ := wi_nat (b := 1) (by decide) hc14
      obtain ⟨rfl, rfl⟩ := hrel.2 pn kQ rfl rfl hpn (by omega)
      have hp2 : kQ * 2 ^ pn < 2 ^ 32 := Nat.lt_of_le_of_lt (Nat.mul_le_mul k1 (Nat.pow_le_pow_right (n := 2) (by decide) (show pn ≤ 6 by omega))) (by decide)
      refine lv_aload_n hx hb dX10_hope_19 rfl (lv_at hl 0 rfl) ?_
      refine va_get (D := D) (ci := 10) (v := .ref hn) (C := RX10) (T := TX10) (N := 8) hx hb hts iX10 hown hK.1 hP 0 rfl rfl 0 (by decide) (hts _ m_347) (fun _ h9 => h9) rfl dX10_hope_20 ?_
      refine va_get (D := D) (ci := 3) (v := .int (nI (hpF rQ (rQ 6)))) (C := RX3) (T := TX3) (N := 11) hx hb hts iX3 hown hK.1 hP 1 rfl rfl 3 (by decide) (hts _ m_379) (fun _ h9 => h9) rfl dX10_hope_23 ?_
      refine lv_iload_n hx hb dX10_hope_26 rfl (lv_at hl 1 rfl) ?_
      refine nv_shr hx hb (by omega) (by omega) dX10_hope_27 ?_
      refine lv_iconst (v := nI 1) hx hb dX10_hope_28 (by decide +kernel) ?_
      refine nv_and hx hb dX10_hope_29 ?_
      rw [hpF_bit (fun jQ hj => (oP jQ hj).2.2.2.2) hpn]
      refine lv_istore_n (lv' := [(3, .int (nI (rQ (7 + 4 * pn + 3)))), (0, .ref o), (1, .int (nI pn)), (2, .int (nI kQ))]) hx hb dX10_hope_30 rfl hl (by decide) rfl (fun ls hl => ?_)
      refine lv_aload_n hx hb dX10_hope_31 rfl (lv_at hl 1 rfl) ?_
      refine va_get (D := D) (ci := 10) (v := .ref hn) (C := RX10) (T := TX10) (N := 8) hx hb hts iX10 hown hK.1 hP 0 rfl rfl 0 (by decide) (hts _ m_347) (fun _ h9 => h9) rfl dX10_hope_32 ?_
      refine lv_aload_n hx hb dX10_hope_35 rfl (lv_at hl 1 rfl) ?_
      refine va_get (D := D) (ci := 10) (v := .ref hn) (C := RX10) (T := TX10) (N := 8) hx hb hts iX10 hown hK.1 hP 0 rfl rfl 0 (by decide) (hts _ m_347) (fun _ h9 => h9) rfl dX10_hope_36 ?_
      refine va_get (D := D) (ci := 3) (v := .int (nI (hpF rQ (rQ 6)))) (C := RX3) (T := TX3) (N := 11) hx hb hts iX3 hown hK.1 hP 1 rfl rfl 3 (by decide) (hts _ m_379) (fun _ h9 => h9) rfl dX10_hope_39 ?_
      refine lv_iconst (v := nI 1) hx hb dX10_hope_42 (by decide +kernel) ?_
      refine lv_iload_n hx hb dX10_hope_43 rfl (lv_at hl 2 rfl) ?_
      refine nv_shl hx hb (by omega) (p2_lt (by omega)) dX10_hope_44 ?_
      refine lv_iconst (v := (-1)) hx hb dX10_hope_45 (by decide +kernel) ?_
      refine lv_ixor hx hb dX10_hope_46 ?_
      refine lv_iand hx hb dX10_hope_47 ?_
      refine lv_iload_n hx hb dX10_hope_48 rfl (lv_at hl 3 rfl) ?_
      refine lv_iload_n hx hb dX10_hope_49 rfl (lv_at hl 2 rfl) ?_
      refine nv_shl hx hb (by omega) hp2 dX10_hope_50 ?_
      refine lv_ior hx hb dX10_hope_51 ?_
      rw [sb_raw pn (by omega) kQ (by omega) _ (by omega)]
      refine va_put (D := D) (ci := 3) (v := .int (nI (sbF (hpF rQ (rQ 6)) pn kQ))) (ty := tyX3 3) (C := RX3) (T := TX3) (N := 11) hx hb hts iX3 tyX3 tyX3_ok nmX3 hown hK.1 hP hD hS 1 rfl rfl 3 (by decide) (hts _ m_379) (fun _ h9 => h9) rfl (tyX3_ok 3 (by decide)) rfl rfl (Nat.le_of_ble_eq_true rfl) dX10_hope_52 (fun H locs hP hD hS => ?_)
      have hP : va_P D vwCl [(o, .inr (10, [.ref hn, .ref pq, .ref gi, .ref gp, .int (nI ik), .ref h2, .ref tp, .ref rw9])), (hn, .inr (3, [.ref hp, .ref hh, .int (nI (rQ 6)), .int (nI (sbF (hpF rQ (rQ 6)) pn kQ)), .int (nI (chF rQ (rQ 6))), .int (nI (rQ 0)), .int (nI (rQ 1)), .int (nI (rQ 2)), .int (nI (rQ 3)), .int (nI (rQ 4)), .int (nI (rQ 5))])), aN z hh 6 (hbA rQ)] H := hP
      have hD : va_D A [(o, .inr (10, [.ref hn, .ref pq, .ref gi, .ref gp, .int (nI ik), .ref h2, .ref tp, .ref rw9])), (hn, .inr (3, [.ref hp, .ref hh, .int (nI (rQ 6)), .int (nI (sbF (hpF rQ (rQ 6)) pn kQ)), .int (nI (chF rQ (rQ 6))), .int (nI (rQ 0)), .int (nI (rQ 1)), .int (nI (rQ 2)), .int (nI (rQ 3)), .int (nI (rQ 4)), .int (nI (rQ 5))])), aN z hh 6 (hbA rQ)] := hD
      refine lv_iload_n hx hb dX10_hope_55 rfl (lv_at hl 0 rfl) ?_
      exact nv_mi hx hb hr hlocks hS dX10_hope_56 (by rw [uN_n rQ (k := 7 + 4 * pn + 3) (v := kQ) (j := 6) (by omega), hp_set (fun jQ hj => (oP jQ hj).2.2.2.2) (by omega) hpn (by omega), chF_cg (r := rQ) (fun jQ _ => uN_n _ (by omega)), uN_n rQ (k := 7 + 4 * pn + 3) (v := kQ) (j := 0) (by omega), uN_n rQ (k := 7 + 4 * pn + 3) (v := kQ) (j := 1) (by omega), uN_n rQ (k := 7 + 4 * pn + 3) (v := kQ) (j := 2) (by omega), uN_n rQ (k := 7 + 4 * pn + 3) (v := kQ) (j := 3) (by omega), uN_n rQ (k := 7 + 4 * pn + 3) (v := kQ) (j := 4) (by omega), uN_n rQ (k := 7 + 4 * pn + 3) (v := kQ) (j := 5) (by omega), hbA_o rQ (fun jQ => by omega)]; exact hP) trivial rfl
    · refine lv_iconst (v := (-1)) hx hb dX10_hope_17 (by decide +kernel) ?_
      obtain ⟨rfl, rfl⟩ := hrel.1 (by first | exact fun q => hc5 q.1 | exact fun q => hc14 q.2)
      exact nv_mi hx hb hr hlocks hS dX10_hope_18 hP trivial rfl

set_option maxHeartbeats 4000000 in
set_option maxRecDepth 100000 in
theorem c_X10_type (l : Launch) (D : va_G) (z : Nat → ClassId) (sz : Nat) (o : Nat) (hn : Nat) (pq : Nat) (gi : Nat) (gp : Nat) (ik : Nat) (h2 : Nat) (tp : Nat) (rw9 : Nat) (tc : Nat) (tnQ : Nat) (pl9 : Nat) (fl9 : Int32) (ta : Nat → Nat) (xv : Int32) (ta1 : Nat → Nat) (tn1 : Nat) (vQ : Int32) (ht : tnQ ≤ 60) (hrel : tyRel ta tnQ xv ta1 tn1 vQ) : CM l yX10_type cX10_type 2 (some .int) 1 22 0 0 [.ref o, .int xv] D z [(o, .inr (10, [.ref hn, .ref pq, .ref gi, .ref gp, .int (nI ik), .ref h2, .ref tp, .ref rw9])), (tp, .inr (9, [.ref tc, .int (nI tnQ), .int (nI pl9), .int fl9])), aC z tc 60 ta] sz (fun _ => True) [(o, .inr (10, [.ref hn, .ref pq, .ref gi, .ref gp, .int (nI ik), .ref h2, .ref tp, .ref rw9])), (tp, .inr (9, [.ref tc, .int (nI tn1), .int (nI pl9), .int fl9])), aC z tc 60 ta1] (some (.int vQ)) (fun _ => True) := by
  refine Met.ofW (cc := cX10_type) (maxL := 2) (ret := (some .int)) (by decide) rfl ?_
  intro pg e s m args below meth c s₁ B hml hv
  obtain ⟨rfl, hsz, hP, hK, hD0, hE⟩ := hv
  have hx := B.exec
  have hb := B.bytes
  have hr := B.returns
  have hts : ∀ w ∈ ALL, w.before _ s = true := fun w h => atoms_spec (ws := wA yX10_type cX10_type 2 (some .int)) B.pre w (List.mem_cons_of_mem _ h)
  have hown : s.vm.findClass RX10 = some m.cls := findClass_of_methodNamed B.named
  have hlocks := B.notSynchronized
  subst hsz
  have hD := hD0.self (sz := s.heap.size)
  have hA : ∀ q : Nat, s.heap.size ≤ q → va_A [(o, .inr (10, [.ref hn, .ref pq, .ref gi, .ref gp, .int (nI ik), .ref h2, .ref tp, .ref rw9])), (tp, .inr (9, [.ref tc, .int (nI tnQ), .int (nI pl9), .int fl9])), aC z tc 60 ta] s.heap.size q := fun q h => Or.inr h
  generalize va_A [(o, .inr (10, [.ref hn, .ref pq, .ref gi, .ref gp, .int (nI ik), .ref h2, .ref tp, .ref rw9])), (tp, .inr (9, [.ref tc, .int (nI tnQ), .int (nI pl9), .int fl9])), aC z tc 60 ta] s.heap.size = A at *
  have hS : va_S A s.heap s.heap [] := va_S.rf
  have hl := lv_entry ([.ref o, .int xv]) (n := 2) (Nat.le_of_ble_eq_true rfl)
  rw [lg_entry_eq]
  generalize (lg_sl ([.ref o, .int xv]) ++ List.replicate (2 - (lg_sl ([.ref o, .int xv])).length) Slot.unset).toArray = ls at hl ⊢
  have hl : lv_has ls 2 [(0, .ref o), (1, .int xv)] := hl
  refine lv_iload_n hx hb dX10_type_0 rfl (lv_at hl 1 rfl) ?_
  refine lv_bipush (v := nI 32) hx hb dX10_type_1 (by decide +kernel) ?_
  refine lv_bipush (v := nI 126) hx hb dX10_type_3 (by decide +kernel) ?_
  have hPc := hP.sub (ws' := []) [] rfl
  refine nv_cp1 (va_runS (As := [.int xv, .int (nI 32), .int (nI 126)]) (rest := []) ⟨hx, hb, hml, hown, hts⟩ (c_X10_within l D z xv (nI 32) (nI 126) ) (va_cwS 3 hts (gS m_368 m_197 m_198 m_195) rfl rfl rfl hd_X10_within ⟨Nat.le_of_ble_eq_true rfl, Nat.le_of_ble_eq_true rfl⟩) (nv_preP hK hPc trivial _) rfl rfl hl.1 rfl (lv_room (Nat.le_of_ble_eq_true rfl)) dX10_type_5 ⟨by decide, by decide⟩) ?_
  refine nv_inwi (a := ((32 : Nat) : Int)) (b := ((126 : Nat) : Int)) (nI_toInt (by omega)) (nI_toInt (by omega)) ?_
  refine nv_bne (tgt := 13) hx hb dX10_type_8 (by decide) (fun hc8 => ?_) (fun hc8 => ?_)
  · obtain ⟨xn, rfl, x0, x1⟩ := wi_nat (b := 126) (by decide) hc8
    refine lv_aload_n hx hb dX10_type_13 rfl (lv_at hl 0 rfl) ?_
    refine va_get (D := D) (ci := 10) (v := .ref tp) (C := RX10) (T := TX10) (N := 8) hx hb hts iX10 hown hK.1 hP 0 rfl rfl 6 (by decide) (hts _ m_358) (fun _ h9 => h9) rfl dX10_type_14 ?_
    refine va_get (D := D) (ci := 9) (v := .int (nI tnQ)) (C := RX9) (T := TX9) (N := 4) hx hb hts iX9 hown hK.1 hP 1 rfl rfl 1 (by decide) (hts _ m_409) (fun _ h9 => h9) rfl dX10_type_17 ?_
    refine lv_bipush (v := nI 60) hx hb dX10_type_20 (by decide +kernel) ?_
    refine nv_lt (tgt := 28) hx hb (by omega) (by omega) dX10_type_22 (by decide) (fun hc22 => ?_) (fun hc22 => ?_)
    · obtain ⟨rfl, rfl, rfl⟩ := hrel.2.2 xn rfl (by omega) (by omega) (by omega)
      refine lv_aload_n hx hb dX10_type_28 rfl (lv_at hl 0 rfl) ?_
      refine va_get (D := D) (ci := 10) (v := .ref tp) (C := RX10) (T := TX10) (N := 8) hx hb hts iX10 hown hK.1 hP 0 rfl rfl 6 (by decide) (hts _ m_358) (fun _ h9 => h9) rfl dX10_type_29 ?_
      refine va_get (D := D) (ci := 9) (v := .ref tc) (C := RX9) (T := TX9) (N := 4) hx hb hts iX9 hown hK.1 hP 1 rfl rfl 0 (by decide) (hts _ m_410) (fun _ h9 => h9) rfl dX10_type_32 ?_
      refine lv_aload_n hx hb dX10_type_35 rfl (lv_at hl 0 rfl) ?_
      refine va_get (D := D) (ci := 10) (v := .ref tp) (C := RX10) (T := TX10) (N := 8) hx hb hts iX10 hown hK.1 hP 0 rfl rfl 6 (by decide) (hts _ m_358) (fun _ h9 => h9) rfl dX10_type_36 ?_
      refine va_get (D := D) (ci := 9) (v := .int (nI tnQ)) (C := RX9) (T := TX9) (N := 4) hx hb hts iX9 hown hK.1 hP 1 rfl rfl 1 (by decide) (hts _ m_409) (fun _ h9 => h9) rfl dX10_type_39 ?_
      refine lv_iload_n hx hb dX10_type_42 rfl (lv_at hl 1 rfl) ?_
      refine lv_i2c hx hb dX10_type_43 rfl ?_
      rw [ch_n _ (by omega)]
      refine nv_cast hx hb hK hP hD hS 2 rfl (by omega) (by decide) (by omega) dX10_type_44 (fun H locs hP hD hS => ?_)
      have hP : va_P D vwCl [(o, .inr (10, [.ref hn, .ref pq, .ref gi, .ref gp, .int (nI ik), .ref h2, .ref tp, .ref rw9])), (tp, .inr (9, [.ref tc, .int (nI tnQ), .int (nI pl9), .int fl9])), aC z tc 60 (uN ta tnQ xn)] H := hP
      have hD : va_D A [(o, .inr (10, [.ref hn, .ref pq, .ref gi, .ref gp, .int (nI ik), .ref h2, .ref tp, .ref rw9])), (tp, .inr (9, [.ref tc, .int (nI tnQ), .int (nI pl9), .int fl9])), aC z tc 60 (uN ta tnQ xn)] := hD
      refine lv_aload_n hx hb dX10_type_45 rfl (lv_at hl 0 rfl) ?_
      refine va_get (D := D) (ci := 10) (v := .ref tp) (C := RX10) (T := TX10) (N := 8) hx hb hts iX10 hown hK.1 hP 0 rfl rfl 6 (by decide) (hts _ m_358) (fun _ h9 => h9) rfl dX10_type_46 ?_
      refine lv_dup hx hb dX10_type_49 rfl ?_
      refine va_get (D := D) (ci := 9) (v := .int (nI tnQ)) (C := RX9) (T := TX9) (N := 4) hx hb hts iX9 hown hK.1 hP 1 rfl rfl 1 (by decide) (hts _ m_409) (fun _ h9 => h9) rfl dX10_type_50 ?_
      refine lv_iconst (v := nI 1) hx hb dX10_type_53 (by decide +kernel) ?_
      refine nv_add hx hb dX10_type_54 ?_
      refine va_put (D := D) (ci := 9) (v := .int (nI (tnQ + 1))) (ty := tyX9 1) (C := RX9) (T := TX9) (N := 4) hx hb hts iX9 tyX9 tyX9_ok nmX9 hown hK.1 hP hD hS 1 rfl rfl 1 (by decide) (hts _ m_409) (fun _ h9 => h9) rfl (tyX9_ok 1 (by decide)) rfl rfl (Nat.le_of_ble_eq_true rfl) dX10_type_55 (fun H locs hP hD hS => ?_)
      have hP : va_P D vwCl [(o, .inr (10, [.ref hn, .ref pq, .ref gi, .ref gp, .int (nI ik), .ref h2, .ref tp, .ref rw9])), (tp, .inr (9, [.ref tc, .int (nI (tnQ + 1)), .int (nI pl9), .int fl9])), aC z tc 60 (uN ta tnQ xn)] H := hP
      have hD : va_D A [(o, .inr (10, [.ref hn, .ref pq, .ref gi, .ref gp, .int (nI ik), .ref h2, .ref tp, .ref rw9])), (tp, .inr (9, [.ref tc, .int (nI (tnQ + 1)), .int (nI pl9), .int fl9])), aC z tc 60 (uN ta tnQ xn)] := hD
      refine lv_aload_n hx hb dX10_type_58 rfl (lv_at hl 0 rfl) ?_
      refine va_get (D := D) (ci := 10) (v := .ref tp) (C := RX10) (T := TX10) (N := 8) hx hb hts iX10 hown hK.1 hP 0 rfl rfl 6 (by decide) (hts _ m_358) (fun _ h9 => h9) rfl dX10_type_59 ?_
      refine va_get (D := D) (ci := 9) (v := .int (nI (tnQ + 1))) (C := RX9) (T := TX9) (N := 4) hx hb hts iX9 hown hK.1 hP 1 rfl rfl 1 (by decide) (hts _ m_409) (fun _ h9 => h9) rfl dX10_type_62 ?_
      exact nv_mi hx hb hr hlocks hS dX10_type_65 hP trivial rfl
    · refine lv_bipush (v := (-3)) hx hb dX10_type_25 (by decide +kernel) ?_
      obtain ⟨rfl, rfl, rfl⟩ := hrel.2.1 hc8 (by omega)
      exact nv_mi hx hb hr hlocks hS dX10_type_27 hP trivial rfl
  · refine lv_iconst (v := (-1)) hx hb dX10_type_11 (by decide +kernel) ?_
    obtain ⟨rfl, rfl, rfl⟩ := hrel.1 hc8
    exact nv_mi hx hb hr hlocks hS dX10_type_12 hP trivial rfl

set_option maxHeartbeats 4000000 in
set_option maxRecDepth 100000 in
theorem c_X10_count (l : Launch) (D : va_G) (z : Nat → ClassId) (w0Q : Nat) (o : Nat) (hn : Nat) (pq : Nat) (gi : Nat) (gp : Nat) (ik : Nat) (h2 : Nat) (tp : Nat) (rw9 : Nat) (hp : Nat) (hh : Nat) (pf : Nat → Option Nat) (rQ : Nat → Nat) (pp : Nat) (pw : Nat) (pd : Nat) (ph : Nat) (un : Nat) (nx : Nat) (wh : Int32) (vQ : Int32) (hok : rOK w0Q rQ) (hw : w0Q ≤ 20000) (hrel : cnRel rQ un wh vQ) : CP l yX10_count cX10_count 2 (some .int) 5 113 [.ref o, .int wh] D z [(o, .inr (10, [.ref hn, .ref pq, .ref gi, .ref gp, .int (nI ik), .ref h2, .ref tp, .ref rw9])), (hn, .inr (3, [.ref hp, .ref hh, .int (nI (rQ 6)), .int (nI (hpF rQ (rQ 6))), .int (nI (chF rQ (rQ 6))), .int (nI (rQ 0)), .int (nI (rQ 1)), .int (nI (rQ 2)), .int (nI (rQ 3)), .int (nI (rQ 4)), .int (nI (rQ 5))])), aP z hp 6 pf, aN z hh 6 (hbA rQ), (pq, .inr (5, [.ref pp, .ref pw, .ref pd, .ref ph, .int (nI un), .int (nI nx)]))] (fun H => peH D [(o, .inr (10, [.ref hn, .ref pq, .ref gi, .ref gp, .int (nI ik), .ref h2, .ref tp, .ref rw9])), (hn, .inr (3, [.ref hp, .ref hh, .int (nI (rQ 6)), .int (nI (hpF rQ (rQ 6))), .int (nI (chF rQ (rQ 6))), .int (nI (rQ 0)), .int (nI (rQ 1)), .int (nI (rQ 2)), .int (nI (rQ 3)), .int (nI (rQ 4)), .int (nI (rQ 5))])), aP z hp 6 pf, aN z hh 6 (hbA rQ), (pq, .inr (5, [.ref pp, .ref pw, .ref pd, .ref ph, .int (nI un), .int (nI nx)]))] pf rQ H) (some (.int vQ)) := by
  refine Met.ofW (cc := cX10_count) (maxL := 2) (ret := (some .int)) (by decide) rfl ?_
  intro pg e s m args below meth c s₁ B hml hv
  obtain ⟨rfl, hP, hK, hE⟩ := hv
  have hx := B.exec
  have hb := B.bytes
  have hr := B.returns
  have hts : ∀ w ∈ ALL, w.before _ s = true := fun w h => atoms_spec (ws := wA yX10_count cX10_count 2 (some .int)) B.pre w (List.mem_cons_of_mem _ h)
  have hown : s.vm.findClass RX10 = some m.cls := findClass_of_methodNamed B.named
  have hlocks := B.notSynchronized
  obtain ⟨o0, o1, o1b, o2, o2b, o3, o4, o5, o6, oP⟩ := id hok
  have hl := lv_entry ([.ref o, .int wh]) (n := 2) (Nat.le_of_ble_eq_true rfl)
  rw [lg_entry_eq]
  generalize (lg_sl ([.ref o, .int wh]) ++ List.replicate (2 - (lg_sl ([.ref o, .int wh])).length) Slot.unset).toArray = ls at hl ⊢
  have hl : lv_has ls 2 [(0, .ref o), (1, .int wh)] := hl
  refine lv_iload_n hx hb dX10_count_0 rfl (lv_at hl 1 rfl) ?_
  rcases (show wh.toInt = 0 ∨ wh.toInt = 1 ∨ wh.toInt = 2 ∨ wh.toInt = 3 ∨ wh.toInt = 4 ∨ wh.toInt = 5 ∨ wh.toInt = 6 ∨ wh.toInt = 7 ∨ wh.toInt = 8 ∨ wh.toInt = 9 ∨ wh.toInt = 10 ∨ (wh.toInt < 0 ∨ 10 < wh.toInt) by omega) with hc1 | hc1 | hc1 | hc1 | hc1 | hc1 | hc1 | hc1 | hc1 | hc1 | hc1 | hc1
  · refine lv_tableIn (off := 59) (tgt := 60) hx hb dX10_count_1 (by omega) (by omega) (by rw [hc1]; rfl) (by decide) ?_
    obtain rfl := hrel.1 0 hc1 (by decide)
    refine lv_aload_n hx hb dX10_count_60 rfl (lv_at hl 0 rfl) ?_
    refine va_get (D := D) (ci := 10) (v := .ref hn) (C := RX10) (T := TX10) (N := 8) hx hb hts iX10 hown hK.1 hP 0 rfl rfl 0 (by decide) (hts _ m_347) (fun _ h9 => h9) rfl dX10_count_61 ?_
    refine va_get (D := D) (ci := 3) (v := .int (nI (rQ 6))) (C := RX3) (T := TX3) (N := 11) hx hb hts iX3 hown hK.1 hP 1 rfl rfl 2 (by decide) (hts _ m_367) (fun _ h9 => h9) rfl dX10_count_64 ?_
    exact nv_ri hx hb hr hlocks dX10_count_67 rfl
  · refine lv_tableIn (off := 67) (tgt := 68) hx hb dX10_count_1 (by omega) (by omega) (by rw [hc1]; rfl) (by decide) ?_
    obtain rfl := hrel.1 1 hc1 (by decide)
    refine lv_aload_n hx hb dX10_count_68 rfl (lv_at hl 0 rfl) ?_
    refine va_get (D := D) (ci := 10) (v := .ref hn) (C := RX10) (T := TX10) (N := 8) hx hb hts iX10 hown hK.1 hP 0 rfl rfl 0 (by decide) (hts _ m_347) (fun _ h9 => h9) rfl dX10_count_69 ?_
    refine va_get (D := D) (ci := 3) (v := .int (nI (rQ 4))) (C := RX3) (T := TX3) (N := 11) hx hb hts iX3 hown hK.1 hP 1 rfl rfl 9 (by decide) (hts _ m_421) (fun _ h9 => h9) rfl dX10_count_72 ?_
    exact nv_ri hx hb hr hlocks dX10_count_75 rfl
  · refine lv_tableIn (off := 75) (tgt := 76) hx hb dX10_count_1 (by omega) (by omega) (by rw [hc1]; rfl) (by decide) ?_
    obtain rfl := hrel.1 2 hc1 (by decide)
    refine lv_aload_n hx hb dX10_count_76 rfl (lv_at hl 0 rfl) ?_
    refine va_get (D := D) (ci := 10) (v := .ref hn) (C := RX10) (T := TX10) (N := 8) hx hb hts iX10 hown hK.1 hP 0 rfl rfl 0 (by decide) (hts _ m_347) (fun _ h9 => h9) rfl dX10_count_77 ?_
    refine va_get (D := D) (ci := 3) (v := .int (nI (rQ 0))) (C := RX3) (T := TX3) (N := 11) hx hb hts iX3 hown hK.1 hP 1 rfl rfl 5 (by decide) (hts _ m_422) (fun _ h9 => h9) rfl dX10_count_80 ?_
    exact nv_ri hx hb hr hlocks dX10_count_83 rfl
  · refine lv_tableIn (off := 83) (tgt := 84) hx hb dX10_count_1 (by omega) (by omega) (by rw [hc1]; rfl) (by decide) ?_
    obtain rfl := hrel.1 3 hc1 (by decide)
    refine lv_aload_n hx hb dX10_count_84 rfl (lv_at hl 0 rfl) ?_
    refine va_get (D := D) (ci := 10) (v := .ref hn) (C := RX10) (T := TX10) (N := 8) hx hb hts iX10 hown hK.1 hP 0 rfl rfl 0 (by decide) (hts _ m_347) (fun _ h9 => h9) rfl dX10_count_85 ?_
    refine va_get (D := D) (ci := 3) (v := .int (nI (rQ 1))) (C := RX3) (T := TX3) (N := 11) hx hb hts iX3 hown hK.1 hP 1 rfl rfl 6 (by decide) (hts _ m_404) (fun _ h9 => h9) rfl dX10_count_88 ?_
    exact nv_ri hx hb hr hlocks dX10_count_91 rfl
  · refine lv_tableIn (off := 91) (tgt := 92) hx hb dX10_count_1 (by omega) (by omega) (by rw [hc1]; rfl) (by decide) ?_
    obtain rfl := hrel.1 4 hc1 (by decide)
    refine lv_aload_n hx hb dX10_count_92 rfl (lv_at hl 0 rfl) ?_
    refine va_get (D := D) (ci := 10) (v := .ref hn) (C := RX10) (T := TX10) (N := 8) hx hb hts iX10 hown hK.1 hP 0 rfl rfl 0 (by decide) (hts _ m_347) (fun _ h9 => h9) rfl dX10_count_93 ?_
    refine va_get (D := D) (ci := 3) (v := .int (nI (rQ 2))) (C := RX3) (T := TX3) (N := 11) hx hb hts iX3 hown hK.1 hP 1 rfl rfl 7 (by decide) (hts _ m_405) (fun _ h9 => h9) rfl dX10_count_96 ?_
    exact nv_ri hx hb hr hlocks dX10_count_99 rfl
  · refine lv_tableIn (off := 99) (tgt := 100) hx hb dX10_count_1 (by omega) (by omega) (by rw [hc1]; rfl) (by decide) ?_
    obtain rfl := hrel.1 5 hc1 (by decide)
    refine lv_aload_n hx hb dX10_count_100 rfl (lv_at hl 0 rfl) ?_
    refine va_get (D := D) (ci := 10) (v := .ref hn) (C := RX10) (T := TX10) (N := 8) hx hb hts iX10 hown hK.1 hP 0 rfl rfl 0 (by decide) (hts _ m_347) (fun _ h9 => h9) rfl dX10_count_101 ?_
    refine va_get (D := D) (ci := 3) (v := .int (nI (rQ 3))) (C := RX3) (T := TX3) (N := 11) hx hb hts iX3 hown hK.1 hP 1 rfl rfl 8 (by decide) (hts _ m_406) (fun _ h9 => h9) rfl dX10_count_104 ?_
    exact nv_ri hx hb hr hlocks dX10_count_107 rfl
  · refine lv_tableIn (off := 107) (tgt := 108) hx hb dX10_count_1 (by omega) (by omega) (by rw [hc1]; rfl) (by decide) ?_
    obtain rfl := hrel.1 6 hc1 (by decide)
    refine lv_aload_n hx hb dX10_count_108 rfl (lv_at hl 0 rfl) ?_
    refine va_get (D := D) (ci := 10) (v := .ref hn) (C := RX10) (T := TX10) (N := 8) hx hb hts iX10 hown hK.1 hP 0 rfl rfl 0 (by decide) (hts _ m_347) (fun _ h9 => h9) rfl dX10_count_109 ?_
    refine lv_aload_n hx hb dX10_count_112 rfl (lv_at hl 0 rfl) ?_
    refine va_get (D := D) (ci := 10) (v := .ref hn) (C := RX10) (T := TX10) (N := 8) hx hb hts iX10 hown hK.1 hP 0 rfl rfl 0 (by decide) (hts _ m_347) (fun _ h9 => h9) rfl dX10_count_113 ?_
    refine va_get (D := D) (ci := 3) (v := .int (nI (rQ 3))) (C := RX3) (T := TX3) (N := 11) hx hb hts iX3 hown hK.1 hP 1 rfl rfl 8 (by decide) (hts _ m_406) (fun _ h9 => h9) rfl dX10_count_116 ?_
    have hPc := hP.sub (ws' := [(hn, .inr (3, [.ref hp, .ref hh, .int (nI (rQ 6)), .int (nI (hpF rQ (rQ 6))), .int (nI (chF rQ (rQ 6))), .int (nI (rQ 0)), .int (nI (rQ 1)), .int (nI (rQ 2)), .int (nI (rQ 3)), .int (nI (rQ 4)), .int (nI (rQ 5))]))]) [1] rfl
    refine nv_cp1 (va_runV (As := [.int (nI (rQ 3))]) (rest := []) ⟨hx, hb, hml, hown, hts⟩ (c_X3_withHopes l D z w0Q hn hp hh rQ (rQ 3) (by first | assumption | omega) (by first | assumption | omega)) (cwV 1 hts (gV m_425 m_76 m_77 m_78 m_70) rfl rfl rfl ⟨rfl, hd_X3_withHopes⟩ ⟨Nat.le_of_ble_eq_true rfl, Nat.le_of_ble_eq_true rfl⟩) (nv_prePV (ci := 3) (q0 := 0) hK hPc trivial rfl rfl) rfl rfl hl.1 rfl (lv_room (Nat.le_of_ble_eq_true rfl)) dX10_count_119 ⟨Nat.le_refl _, Nat.le_refl _⟩) ?_
    exact nv_ri hx hb hr hlocks dX10_count_122 rfl
  · refine lv_tableIn (off := 122) (tgt := 123) hx hb dX10_count_1 (by omega) (by omega) (by rw [hc1]; rfl) (by decide) ?_
    obtain rfl := hrel.1 7 hc1 (by decide)
    refine lv_aload_n hx hb dX10_count_123 rfl (lv_at hl 0 rfl) ?_
    refine va_get (D := D) (ci := 10) (v := .ref hn) (C := RX10) (T := TX10) (N := 8) hx hb hts iX10 hown hK.1 hP 0 rfl rfl 0 (by decide) (hts _ m_347) (fun _ h9 => h9) rfl dX10_count_124 ?_
    have hPc := hP.sub (ws' := [(hn, .inr (3, [.ref hp, .ref hh, .int (nI (rQ 6)), .int (nI (hpF rQ (rQ 6))), .int (nI (chF rQ (rQ 6))), .int (nI (rQ 0)), .int (nI (rQ 1)), .int (nI (rQ 2)), .int (nI (rQ 3)), .int (nI (rQ 4)), .int (nI (rQ 5))])), aP z hp 6 pf, aN z hh 6 (hbA rQ)]) [1, 2, 3] rfl
    refine nv_cp1 (va_runV (As := []) (rest := []) ⟨hx, hb, hml, hown, hts⟩ (c_X3_wordsOfAll l D z w0Q hn hp hh pf rQ (by first | assumption | omega) (by first | assumption | omega)) (cwV 0 hts (gV m_426 m_427 m_428 m_78 m_130) rfl rfl rfl ⟨rfl, hd_X3_wordsOfAll⟩ ⟨Nat.le_of_ble_eq_true rfl, Nat.le_of_ble_eq_true rfl⟩) (nv_prePV (ci := 3) (q0 := 0) hK hPc (hE.to [1, 2, 3] rfl) rfl rfl) rfl rfl hl.1 rfl (lv_room (Nat.le_of_ble_eq_true rfl)) dX10_count_127 ⟨Nat.le_refl _, Nat.le_refl _⟩) ?_
    exact nv_ri hx hb hr hlocks dX10_count_130 rfl
  · refine lv_tableIn (off := 130) (tgt := 131) hx hb dX10_count_1 (by omega) (by omega) (by rw [hc1]; rfl) (by decide) ?_
    obtain rfl := hrel.1 8 hc1 (by decide)
    refine lv_aload_n hx hb dX10_count_131 rfl (lv_at hl 0 rfl) ?_
    refine va_get (D := D) (ci := 10) (v := .ref hn) (C := RX10) (T := TX10) (N := 8) hx hb hts iX10 hown hK.1 hP 0 rfl rfl 0 (by decide) (hts _ m_347) (fun _ h9 => h9) rfl dX10_count_132 ?_
    have hPc := hP.sub (ws' := [(hn, .inr (3, [.ref hp, .ref hh, .int (nI (rQ 6)), .int (nI (hpF rQ (rQ 6))), .int (nI (chF rQ (rQ 6))), .int (nI (rQ 0)), .int (nI (rQ 1)), .int (nI (rQ 2)), .int (nI (rQ 3)), .int (nI (rQ 4)), .int (nI (rQ 5))])), aP z hp 6 pf, aN z hh 6 (hbA rQ)]) [1, 2, 3] rfl
    refine nv_cp1 (va_runV (As := []) (rest := []) ⟨hx, hb, hml, hown, hts⟩ (c_X3_paysOfAll l D z w0Q hn hp hh pf rQ (by first | assumption | omega) (by first | assumption | omega)) (cwV 0 hts (gV m_429 m_430 m_431 m_78 m_131) rfl rfl rfl ⟨rfl, hd_X3_paysOfAll⟩ ⟨Nat.le_of_ble_eq_true rfl, Nat.le_of_ble_eq_true rfl⟩) (nv_prePV (ci := 3) (q0 := 0) hK hPc (hE.to [1, 2, 3] rfl) rfl rfl) rfl rfl hl.1 rfl (lv_room (Nat.le_of_ble_eq_true rfl)) dX10_count_135 ⟨Nat.le_refl _, Nat.le_refl _⟩) ?_
    exact nv_ri hx hb hr hlocks dX10_count_138 rfl
  · refine lv_tableIn (off := 138) (tgt := 139) hx hb dX10_count_1 (by omega) (by omega) (by rw [hc1]; rfl) (by decide) ?_
    obtain rfl := hrel.1 9 hc1 (by decide)
    refine lv_aload_n hx hb dX10_count_139 rfl (lv_at hl 0 rfl) ?_
    refine va_get (D := D) (ci := 10) (v := .ref hn) (C := RX10) (T := TX10) (N := 8) hx hb hts iX10 hown hK.1 hP 0 rfl rfl 0 (by decide) (hts _ m_347) (fun _ h9 => h9) rfl dX10_count_140 ?_
    refine va_get (D := D) (ci := 3) (v := .int (nI (hpF rQ (rQ 6)))) (C := RX3) (T := TX3) (N := 11) hx hb hts iX3 hown hK.1 hP 1 rfl rfl 3 (by decide) (hts _ m_379) (fun _ h9 => h9) rfl dX10_count_143 ?_
    refine lv_aload_n hx hb dX10_count_146 rfl (lv_at hl 0 rfl) ?_
    refine va_get (D := D) (ci := 10) (v := .ref hn) (C := RX10) (T := TX10) (N := 8) hx hb hts iX10 hown hK.1 hP 0 rfl rfl 0 (by decide) (hts _ m_347) (fun _ h9 => h9) rfl dX10_count_147 ?_
    refine va_get (D := D) (ci := 3) (v := .int (nI (chF rQ (rQ 6)))) (C := RX3) (T := TX3) (N := 11) hx hb hts iX3 hown hK.1 hP 1 rfl rfl 4 (by decide) (hts _ m_423) (fun _ h9 => h9) rfl dX10_count_150 ?_
    refine nv_and hx hb dX10_count_153 ?_
    rw [hpF_ch (fun jQ hj => (oP jQ hj).2.2.2.2)]
    exact nv_ri hx hb hr hlocks dX10_count_154 rfl
  · refine lv_tableIn (off := 154) (tgt := 155) hx hb dX10_count_1 (by omega) (by omega) (by rw [hc1]; rfl) (by decide) ?_
    obtain rfl := hrel.1 10 hc1 (by decide)
    refine lv_aload_n hx hb dX10_count_155 rfl (lv_at hl 0 rfl) ?_
    refine va_get (D := D) (ci := 10) (v := .ref pq) (C := RX10) (T := TX10) (N := 8) hx hb hts iX10 hown hK.1 hP 0 rfl rfl 1 (by decide) (hts _ m_351) (fun _ h9 => h9) rfl dX10_count_156 ?_
    refine va_get (D := D) (ci := 5) (v := .int (nI un)) (C := RX5) (T := TX5) (N := 6) hx hb hts iX5 hown hK.1 hP 4 rfl rfl 4 (by decide) (hts _ m_424) (fun _ h9 => h9) rfl dX10_count_159 ?_
    exact nv_ri hx hb hr hlocks dX10_count_162 rfl
  · refine lv_tableOut (tgt := 163) hx hb dX10_count_1 hc1 (by decide) ?_
    obtain rfl := hrel.2 hc1
    refine lv_iconst (v := (-1)) hx hb dX10_count_163 (by decide +kernel) ?_
    exact nv_ri hx hb hr hlocks dX10_count_164 rfl

set_option maxHeartbeats 4000000 in
set_option maxRecDepth 100000 in
theorem c_X10_weeks (l : Launch) (D : va_G) (z : Nat → ClassId) (sz : Nat) (w0Q : Nat) (o : Nat) (hn : Nat) (pq : Nat) (gi : Nat) (gp : Nat) (ik : Nat) (h2 : Nat) (tp : Nat) (rw9 : Nat) (hp : Nat) (hh : Nat) (pf : Nat → Option Nat) (rQ : Nat → Nat) (pp : Nat) (pw : Nat) (pd : Nat) (ph : Nat) (fp : Nat → Nat) (fw : Nat → Nat) (fd : Nat → Nat) (fh : Nat → Nat) (un : Nat) (nx : Nat) (psQ : Nat → Nat) (nv : Int32) (r1Q : Nat → Nat) (ps1 : Nat → Nat) (un1 : Nat) (vQ : Int32) (hok : rOK w0Q rQ) (hw : w0Q ≤ 10000) (hpg : pgOK fp fw fd fh nx un psQ) (hrel : wsRel rQ psQ un nv r1Q ps1 un1 vQ) : CX (σ := (Nat → Nat) × (Nat → Nat) × (Nat → Nat) × (Nat → Nat) × Nat) l yX10_weeks cX10_weeks 3 (some .int) 3 77 0 0 [.ref o, .int nv] D z [(o, .inr (10, [.ref hn, .ref pq, .ref gi, .ref gp, .int (nI ik), .ref h2, .ref tp, .ref rw9])), (hn, .inr (3, [.ref hp, .ref hh, .int (nI (rQ 6)), .int (nI (hpF rQ (rQ 6))), .int (nI (chF rQ (rQ 6))), .int (nI (rQ 0)), .int (nI (rQ 1)), .int (nI (rQ 2)), .int (nI (rQ 3)), .int (nI (rQ 4)), .int (nI (rQ 5))])), aP z hp 6 pf, aN z hh 6 (hbA rQ), (pq, .inr (5, [.ref pp, .ref pw, .ref pd, .ref ph, .int (nI un), .int (nI nx)])), aN z pp 8 fp, aN z pw 8 fw, aN z pd 8 fd, aN z ph 48 fh] sz (fun H => peH D [(o, .inr (10, [.ref hn, .ref pq, .ref gi, .ref gp, .int (nI ik), .ref h2, .ref tp, .ref rw9])), (hn, .inr (3, [.ref hp, .ref hh, .int (nI (rQ 6)), .int (nI (hpF rQ (rQ 6))), .int (nI (chF rQ (rQ 6))), .int (nI (rQ 0)), .int (nI (rQ 1)), .int (nI (rQ 2)), .int (nI (rQ 3)), .int (nI (rQ 4)), .int (nI (rQ 5))])), aP z hp 6 pf, aN z hh 6 (hbA rQ), (pq, .inr (5, [.ref pp, .ref pw, .ref pd, .ref ph, .int (nI un), .int (nI nx)])), aN z pp 8 fp, aN z pw 8 fw, aN z pd 8 fd, aN z ph 48 fh] pf rQ H) (fun u => [(o, .inr (10, [.ref hn, .ref pq, .ref gi, .ref gp, .int (nI ik), .ref h2, .ref tp, .ref rw9])), (hn, .inr (3, [.ref hp, .ref hh, .int (nI (r1Q 6)), .int (nI (hpF r1Q (r1Q 6))), .int (nI (chF r1Q (r1Q 6))), .int (nI (r1Q 0)), .int (nI (r1Q 1)), .int (nI (r1Q 2)), .int (nI (r1Q 3)), .int (nI (r1Q 4)), .int (nI (r1Q 5))])), aP z hp 6 pf, aN z hh 6 (hbA r1Q), (pq, .inr (5, [.ref pp, .ref pw, .ref pd, .ref ph, .int (nI un1), .int (nI u.2.2.2.2)])), aN z pp 8 u.1, aN z pw 8 u.2.1, aN z pd 8 u.2.2.1, aN z ph 48 u.2.2.2.1]) (some (.int vQ)) (fun u => (fun _ => pgOK u.1 u.2.1 u.2.2.1 u.2.2.2.1 u.2.2.2.2 un1 ps1)) := by
  refine Met.ofW (cc := cX10_weeks) (maxL := 3) (ret := (some .int)) (by decide) rfl ?_
  intro pg e s m args below meth c s₁ B hml hv
  obtain ⟨rfl, hsz, hP, hK, hD0, hE⟩ := hv
  have hx := B.exec
  have hb := B.bytes
  have hr := B.returns
  have hts : ∀ w ∈ ALL, w.before _ s = true := fun w h => atoms_spec (ws := wA yX10_weeks cX10_weeks 3 (some .int)) B.pre w (List.mem_cons_of_mem _ h)
  have hown : s.vm.findClass RX10 = some m.cls := findClass_of_methodNamed B.named
  have hlocks := B.notSynchronized
  subst hsz
  have hD := hD0.self (sz := s.heap.size)
  obtain ⟨o0, o1, o1b, o2, o2b, o3, o4, o5, o6, oP⟩ := id hok
  have hN : ∀ (H : Heap) (locs : List Loc), va_S (va_A [(o, .inr (10, [.ref hn, .ref pq, .ref gi, .ref gp, .int (nI ik), .ref h2, .ref tp, .ref rw9])), (hn, .inr (3, [.ref hp, .ref hh, .int (nI (rQ 6)), .int (nI (hpF rQ (rQ 6))), .int (nI (chF rQ (rQ 6))), .int (nI (rQ 0)), .int (nI (rQ 1)), .int (nI (rQ 2)), .int (nI (rQ 3)), .int (nI (rQ 4)), .int (nI (rQ 5))])), aP z hp 6 pf, aN z hh 6 (hbA rQ), (pq, .inr (5, [.ref pp, .ref pw, .ref pd, .ref ph, .int (nI un), .int (nI nx)])), aN z pp 8 fp, aN z pw 8 fw, aN z pd 8 fd, aN z ph 48 fh] s.heap.size) s.heap H locs → peH D [(o, .inr (10, [.ref hn, .ref pq, .ref gi, .ref gp, .int (nI ik), .ref h2, .ref tp, .ref rw9])), (hn, .inr (3, [.ref hp, .ref hh, .int (nI (rQ 6)), .int (nI (hpF rQ (rQ 6))), .int (nI (chF rQ (rQ 6))), .int (nI (rQ 0)), .int (nI (rQ 1)), .int (nI (rQ 2)), .int (nI (rQ 3)), .int (nI (rQ 4)), .int (nI (rQ 5))])), aP z hp 6 pf, aN z hh 6 (hbA rQ), (pq, .inr (5, [.ref pp, .ref pw, .ref pd, .ref ph, .int (nI un), .int (nI nx)])), aN z pp 8 fp, aN z pw 8 fw, aN z pd 8 fd, aN z ph 48 fh] pf rQ H := fun H locs h9 => peH.now hE h9
  have hA : ∀ q : Nat, s.heap.size ≤ q → va_A [(o, .inr (10, [.ref hn, .ref pq, .ref gi, .ref gp, .int (nI ik), .ref h2, .ref tp, .ref rw9])), (hn, .inr (3, [.ref hp, .ref hh, .int (nI (rQ 6)), .int (nI (hpF rQ (rQ 6))), .int (nI (chF rQ (rQ 6))), .int (nI (rQ 0)), .int (nI (rQ 1)), .int (nI (rQ 2)), .int (nI (rQ 3)), .int (nI (rQ 4)), .int (nI (rQ 5))])), aP z hp 6 pf, aN z hh 6 (hbA rQ), (pq, .inr (5, [.ref pp, .ref pw, .ref pd, .ref ph, .int (nI un), .int (nI nx)])), aN z pp 8 fp, aN z pw 8 fw, aN z pd 8 fd, aN z ph 48 fh] s.heap.size q := fun q h => Or.inr h
  generalize va_A [(o, .inr (10, [.ref hn, .ref pq, .ref gi, .ref gp, .int (nI ik), .ref h2, .ref tp, .ref rw9])), (hn, .inr (3, [.ref hp, .ref hh, .int (nI (rQ 6)), .int (nI (hpF rQ (rQ 6))), .int (nI (chF rQ (rQ 6))), .int (nI (rQ 0)), .int (nI (rQ 1)), .int (nI (rQ 2)), .int (nI (rQ 3)), .int (nI (rQ 4)), .int (nI (rQ 5))])), aP z hp 6 pf, aN z hh 6 (hbA rQ), (pq, .inr (5, [.ref pp, .ref pw, .ref pd, .ref ph, .int (nI un), .int (nI nx)])), aN z pp 8 fp, aN z pw 8 fw, aN z pd 8 fd, aN z ph 48 fh] s.heap.size = A at *
  have hS : va_S A s.heap s.heap [] := va_S.rf
  have hl := lv_entry ([.ref o, .int nv]) (n := 3) (Nat.le_of_ble_eq_true rfl)
  rw [lg_entry_eq]
  generalize (lg_sl ([.ref o, .int nv]) ++ List.replicate (3 - (lg_sl ([.ref o, .int nv])).length) Slot.unset).toArray = ls at hl ⊢
  have hl : lv_has ls 3 [(0, .ref o), (1, .int nv)] := hl
  refine lv_iload_n hx hb dX10_weeks_0 rfl (lv_at hl 1 rfl) ?_
  refine lv_iconst (v := nI 1) hx hb dX10_weeks_1 (by decide +kernel) ?_
  refine lv_bipush (v := nI 60) hx hb dX10_weeks_2 (by decide +kernel) ?_
  have hPc := hP.sub (ws' := []) [] rfl
  refine nv_cp1 (va_runS (As := [.int nv, .int (nI 1), .int (nI 60)]) (rest := []) ⟨hx, hb, hml, hown, hts⟩ (c_X10_within l D z nv (nI 1) (nI 60) ) (va_cwS 3 hts (gS m_368 m_197 m_198 m_195) rfl rfl rfl hd_X10_within ⟨Nat.le_of_ble_eq_true rfl, Nat.le_of_ble_eq_true rfl⟩) (nv_preP hK hPc trivial _) rfl rfl hl.1 rfl (lv_room (Nat.le_of_ble_eq_true rfl)) dX10_weeks_4 ⟨by decide, by decide⟩) ?_
  refine nv_inwi (a := ((1 : Nat) : Int)) (b := ((60 : Nat) : Int)) (nI_toInt (by omega)) (nI_toInt (by omega)) ?_
  refine nv_bne (tgt := 12) hx hb dX10_weeks_7 (by decide) (fun hc7 => ?_) (fun hc7 => ?_)
  · obtain ⟨kQ, rfl, k0, k1⟩ := wi_nat (b := 60) (by decide) hc7
    refine lv_aload_n hx hb dX10_weeks_12 rfl (lv_at hl 0 rfl) ?_
    refine va_get (D := D) (ci := 10) (v := .ref hn) (C := RX10) (T := TX10) (N := 8) hx hb hts iX10 hown hK.1 hP 0 rfl rfl 0 (by decide) (hts _ m_347) (fun _ h9 => h9) rfl dX10_weeks_13 ?_
    refine va_get (D := D) (ci := 3) (v := .int (nI (rQ 4))) (C := RX3) (T := TX3) (N := 11) hx hb hts iX3 hown hK.1 hP 1 rfl rfl 9 (by decide) (hts _ m_421) (fun _ h9 => h9) rfl dX10_weeks_16 ?_
    refine lv_iload_n hx hb dX10_weeks_19 rfl (lv_at hl 1 rfl) ?_
    refine nv_add hx hb dX10_weeks_20 ?_
    refine lv_sipush (v := nI 9999) hx hb dX10_weeks_21 (by decide +kernel) ?_
    refine nv_le (tgt := 30) hx hb (by omega) (by omega) dX10_weeks_24 (by decide) (fun hc24 => ?_) (fun hc24 => ?_)
    · obtain ⟨rfl, rfl, rfl, rfl⟩ := hrel.2.2 kQ rfl (by omega) (by omega) (by omega)
      refine lv_iconst (v := nI 0) hx hb dX10_weeks_30 (by decide +kernel) ?_
      refine lv_istore_n (lv' := [(2, .int (nI 0)), (0, .ref o), (1, .int (nI kQ))]) hx hb dX10_weeks_31 rfl hl (by decide) rfl (fun ls hl => ?_)
      refine nv_loop (σ := Nat × (Nat → Nat) × (Nat → Nat) × (Nat → Nat) × (Nat → Nat) × Nat) (fun x H locs ls => ∃ (jQ : Nat) (fpv : Nat → Nat) (fwv : Nat → Nat) (fdv : Nat → Nat) (fhv : Nat → Nat) (nxv : Nat), (jQ, fpv, fwv, fdv, fhv, nxv) = x ∧ ((jQ ≤ kQ) ∧ (pgOK fpv fwv fdv fhv nxv (unN un jQ) (psN rQ psQ un jQ))) ∧ va_P D vwCl [(o, .inr (10, [.ref hn, .ref pq, .ref gi, .ref gp, .int (nI ik), .ref h2, .ref tp, .ref rw9])), (hn, .inr (3, [.ref hp, .ref hh, .int (nI ((wkN rQ jQ) 6)), .int (nI (hpF (wkN rQ jQ) ((wkN rQ jQ) 6))), .int (nI (chF (wkN rQ jQ) ((wkN rQ jQ) 6))), .int (nI ((wkN rQ jQ) 0)), .int (nI ((wkN rQ jQ) 1)), .int (nI ((wkN rQ jQ) 2)), .int (nI ((wkN rQ jQ) 3)), .int (nI ((wkN rQ jQ) 4)), .int (nI ((wkN rQ jQ) 5))])), aP z hp 6 pf, aN z hh 6 (hbA (wkN rQ jQ)), (pq, .inr (5, [.ref pp, .ref pw, .ref pd, .ref ph, .int (nI (unN un jQ)), .int (nI nxv)])), aN z pp 8 fpv, aN z pw 8 fwv, aN z pd 8 fdv, aN z ph 48 fhv] H ∧ va_D A [(o, .inr (10, [.ref hn, .ref pq, .ref gi, .ref gp, .int (nI ik), .ref h2, .ref tp, .ref rw9])), (hn, .inr (3, [.ref hp, .ref hh, .int (nI ((wkN rQ jQ) 6)), .int (nI (hpF (wkN rQ jQ) ((wkN rQ jQ) 6))), .int (nI (chF (wkN rQ jQ) ((wkN rQ jQ) 6))), .int (nI ((wkN rQ jQ) 0)), .int (nI ((wkN rQ jQ) 1)), .int (nI ((wkN rQ jQ) 2)), .int (nI ((wkN rQ jQ) 3)), .int (nI ((wkN rQ jQ) 4)), .int (nI ((wkN rQ jQ) 5))])), aP z hp 6 pf, aN z hh 6 (hbA (wkN rQ jQ)), (pq, .inr (5, [.ref pp, .ref pw, .ref pd, .ref ph, .int (nI (unN un jQ)), .int (nI nxv)])), aN z pp 8 fpv, aN z pw 8 fwv, aN z pd 8 fdv, aN z ph 48 fhv] ∧ va_S A s.heap H locs ∧ lv_has ls 3 [(0, .ref o), (1, .int (nI kQ)), (2, .int (nI jQ))]) (fun x => kQ - x.1) 32 [] ?_ (0, fp, fw, fd, fh, nx) ?_
      · rintro _ H locs ls ⟨jQ, fpv, fwv, fdv, fhv, nxv, rfl, ⟨hj, hpgv⟩, hP, hD, hS, hl⟩ ih32
        refine lv_iload_n hx hb dX10_weeks_32 rfl (lv_at hl 2 rfl) ?_
        refine lv_iload_n hx hb dX10_weeks_33 rfl (lv_at hl 1 rfl) ?_
        refine nv_ge (tgt := 69) hx hb (by omega) (by omega) dX10_weeks_34 (by decide) (fun hc34 => ?_) (fun hc34 => ?_)
        · obtain rfl : kQ = jQ := by omega
          refine lv_aload_n hx hb dX10_weeks_69 rfl (lv_at hl 0 rfl) ?_
          refine va_get (D := D) (ci := 10) (v := .ref hn) (C := RX10) (T := TX10) (N := 8) hx hb hts iX10 hown hK.1 hP 0 rfl rfl 0 (by decide) (hts _ m_347) (fun _ h9 => h9) rfl dX10_weeks_70 ?_
          refine va_get (D := D) (ci := 3) (v := .int (nI ((wkN rQ kQ) 0))) (C := RX3) (T := TX3) (N := 11) hx hb hts iX3 hown hK.1 hP 1 rfl rfl 5 (by decide) (hts _ m_422) (fun _ h9 => h9) rfl dX10_weeks_73 ?_
          exact nv_xi hx hb hr hlocks hS dX10_weeks_76 (fpv, fwv, fdv, fhv, nxv) hP hpgv rfl
        · have hg1 := hpgv.1
          have hg2 := hpgv.2.1
          have q3 := wkN_3 rQ jQ
          refine lv_aload_n hx hb dX10_weeks_37 rfl (lv_at hl 0 rfl) ?_
          refine va_get (D := D) (ci := 10) (v := .ref pq) (C := RX10) (T := TX10) (N := 8) hx hb hts iX10 hown hK.1 hP 0 rfl rfl 1 (by decide) (hts _ m_351) (fun _ h9 => h9) rfl dX10_weeks_38 ?_
          refine lv_aload_n hx hb dX10_weeks_41 rfl (lv_at hl 0 rfl) ?_
          refine va_get (D := D) (ci := 10) (v := .ref hn) (C := RX10) (T := TX10) (N := 8) hx hb hts iX10 hown hK.1 hP 0 rfl rfl 0 (by decide) (hts _ m_347) (fun _ h9 => h9) rfl dX10_weeks_42 ?_
          have hPc := hP.sub (ws' := [(pq, .inr (5, [.ref pp, .ref pw, .ref pd, .ref ph, .int (nI (unN un jQ)), .int (nI nxv)])), aN z pp 8 fpv, aN z pw 8 fwv, aN z pd 8 fdv, aN z ph 48 fhv, (hn, .inr (3, [.ref hp, .ref hh, .int (nI ((wkN rQ jQ) 6)), .int (nI (hpF (wkN rQ jQ) ((wkN rQ jQ) 6))), .int (nI (chF (wkN rQ jQ) ((wkN rQ jQ) 6))), .int (nI ((wkN rQ jQ) 0)), .int (nI ((wkN rQ jQ) 1)), .int (nI ((wkN rQ jQ) 2)), .int (nI ((wkN rQ jQ) 3)), .int (nI ((wkN rQ jQ) 4)), .int (nI ((wkN rQ jQ) 5))])), aN z hh 6 (hbA (wkN rQ jQ))]) [4, 5, 6, 7, 8, 1, 3] rfl
          have hDc := hD.sub (ws' := [(pq, .inr (5, [.ref pp, .ref pw, .ref pd, .ref ph, .int (nI (unN un jQ)), .int (nI nxv)])), aN z pp 8 fpv, aN z pw 8 fwv, aN z pd 8 fdv, aN z ph 48 fhv, (hn, .inr (3, [.ref hp, .ref hh, .int (nI ((wkN rQ jQ) 6)), .int (nI (hpF (wkN rQ jQ) ((wkN rQ jQ) 6))), .int (nI (chF (wkN rQ jQ) ((wkN rQ jQ) 6))), .int (nI ((wkN rQ jQ) 0)), .int (nI ((wkN rQ jQ) 1)), .int (nI ((wkN rQ jQ) 2)), .int (nI ((wkN rQ jQ) 3)), .int (nI ((wkN rQ jQ) 4)), .int (nI ((wkN rQ jQ) 5))])), aN z hh 6 (hbA (wkN rQ jQ))]) [4, 5, 6, 7, 8, 1, 3] (by decide) rfl
          refine nv_cm0 (wc := [(pq, .inr (5, [.ref pp, .ref pw, .ref pd, .ref ph, .int (nI (unN un jQ)), .int (nI nxv)])), aN z pp 8 fpv, aN z pw 8 fwv, aN z pd 8 fdv, aN z ph 48 fhv, (hn, .inr (3, [.ref hp, .ref hh, .int (nI ((wkN rQ jQ) 6)), .int (nI (hpF (wkN rQ jQ) ((wkN rQ jQ) 6))), .int (nI (chF (wkN rQ jQ) ((wkN rQ jQ) 6))), .int (nI ((wkN rQ jQ) 0)), .int (nI ((wkN rQ jQ) 1)), .int (nI ((wkN rQ jQ) 2)), .int (nI ((wkN rQ jQ) 3)), .int (nI ((wkN rQ jQ) 4)), .int (nI ((wkN rQ jQ) 5))])), aN z hh 6 (hbA (wkN rQ jQ))]) (wr := [(o, .inr (10, [.ref hn, .ref pq, .ref gi, .ref gp, .int (nI ik), .ref h2, .ref tp, .ref rw9])), aP z hp 6 pf]) (w1 := [(pq, .inr (5, [.ref pp, .ref pw, .ref pd, .ref ph, .int (nI (knU (unN un jQ) + 1)), .int (nI ((nxv + 1) % 8))])), aN z pp 8 (uN fpv nxv ((wkN rQ jQ) 0)), aN z pw 8 (uN fwv nxv ((wkN rQ jQ) 4)), aN z pd 8 (uN fdv nxv ((wkN rQ jQ) 5)), aN z ph 48 (va_cpy (hbA (wkN rQ jQ)) fhv 0 (nxv * 6) 6), (hn, .inr (3, [.ref hp, .ref hh, .int (nI ((wkN rQ jQ) 6)), .int (nI (hpF (wkN rQ jQ) ((wkN rQ jQ) 6))), .int (nI (chF (wkN rQ jQ) ((wkN rQ jQ) 6))), .int (nI ((wkN rQ jQ) 0)), .int (nI ((wkN rQ jQ) 1)), .int (nI ((wkN rQ jQ) 2)), .int (nI ((wkN rQ jQ) 3)), .int (nI ((wkN rQ jQ) 4)), .int (nI ((wkN rQ jQ) 5))])), aN z hh 6 (hbA (wkN rQ jQ))]) (ws1 := [(o, .inr (10, [.ref hn, .ref pq, .ref gi, .ref gp, .int (nI ik), .ref h2, .ref tp, .ref rw9])), (hn, .inr (3, [.ref hp, .ref hh, .int (nI ((wkN rQ jQ) 6)), .int (nI (hpF (wkN rQ jQ) ((wkN rQ jQ) 6))), .int (nI (chF (wkN rQ jQ) ((wkN rQ jQ) 6))), .int (nI ((wkN rQ jQ) 0)), .int (nI ((wkN rQ jQ) 1)), .int (nI ((wkN rQ jQ) 2)), .int (nI ((wkN rQ jQ) 3)), .int (nI ((wkN rQ jQ) 4)), .int (nI ((wkN rQ jQ) 5))])), aP z hp 6 pf, aN z hh 6 (hbA (wkN rQ jQ)), (pq, .inr (5, [.ref pp, .ref pw, .ref pd, .ref ph, .int (nI (knU (unN un jQ) + 1)), .int (nI ((nxv + 1) % 8))])), aN z pp 8 (uN fpv nxv ((wkN rQ jQ) 0)), aN z pw 8 (uN fwv nxv ((wkN rQ jQ) 4)), aN z pd 8 (uN fdv nxv ((wkN rQ jQ) 5)), aN z ph 48 (va_cpy (hbA (wkN rQ jQ)) fhv 0 (nxv * 6) 6)]) (va_runV (As := [.ref hn]) (rest := []) ⟨hx, hb, hml, hown, hts⟩ (c_X5_remember l D z H.size pq pp pw pd ph fpv fwv fdv fhv (unN un jQ) nxv hn hp hh (wkN rQ jQ) (by first | assumption | omega) (by first | assumption | omega)) (cwV 1 hts (gV m_433 m_434 m_435 m_350 m_160) rfl rfl rfl ⟨rfl, hd_X5_remember⟩ ⟨Nat.le_of_ble_eq_true rfl, Nat.le_of_ble_eq_true rfl⟩) (nv_preMV (ci := 5) (q0 := 0) hK hPc hDc trivial rfl rfl) rfl rfl hl.1 rfl (lv_room (Nat.le_of_ble_eq_true rfl)) dX10_weeks_45 ⟨by decide, by decide⟩) hP hD hS hA [4, 5, 6, 7, 8, 1, 3] [0, 2] [0, 7, 1, 8, 2, 3, 4, 5, 6] rfl rfl (by decide) (by decide) rfl (by decide) rfl (by decide) (fun H locs hP hD hS hE45 hz45 hf45 => ?_)
          clear hPc hDc
          clear hf45 hz45
          refine lv_aload_n hx hb dX10_weeks_48 rfl (lv_at hl 0 rfl) ?_
          refine va_get (D := D) (ci := 10) (v := .ref hn) (C := RX10) (T := TX10) (N := 8) hx hb hts iX10 hown hK.1 hP 0 rfl rfl 0 (by decide) (hts _ m_347) (fun _ h9 => h9) rfl dX10_weeks_49 ?_
          refine lv_aload_n hx hb dX10_weeks_52 rfl (lv_at hl 0 rfl) ?_
          refine va_get (D := D) (ci := 10) (v := .ref hn) (C := RX10) (T := TX10) (N := 8) hx hb hts iX10 hown hK.1 hP 0 rfl rfl 0 (by decide) (hts _ m_347) (fun _ h9 => h9) rfl dX10_weeks_53 ?_
          refine va_get (D := D) (ci := 3) (v := .int (nI ((wkN rQ jQ) 3))) (C := RX3) (T := TX3) (N := 11) hx hb hts iX3 hown hK.1 hP 1 rfl rfl 8 (by decide) (hts _ m_406) (fun _ h9 => h9) rfl dX10_weeks_56 ?_
          have hPc := hP.sub (ws' := [(hn, .inr (3, [.ref hp, .ref hh, .int (nI ((wkN rQ jQ) 6)), .int (nI (hpF (wkN rQ jQ) ((wkN rQ jQ) 6))), .int (nI (chF (wkN rQ jQ) ((wkN rQ jQ) 6))), .int (nI ((wkN rQ jQ) 0)), .int (nI ((wkN rQ jQ) 1)), .int (nI ((wkN rQ jQ) 2)), .int (nI ((wkN rQ jQ) 3)), .int (nI ((wkN rQ jQ) 4)), .int (nI ((wkN rQ jQ) 5))])), aP z hp 6 pf, aN z hh 6 (hbA (wkN rQ jQ))]) [1, 2, 3] rfl
          have hDc := hD.sub (ws' := [(hn, .inr (3, [.ref hp, .ref hh, .int (nI ((wkN rQ jQ) 6)), .int (nI (hpF (wkN rQ jQ) ((wkN rQ jQ) 6))), .int (nI (chF (wkN rQ jQ) ((wkN rQ jQ) 6))), .int (nI ((wkN rQ jQ) 0)), .int (nI ((wkN rQ jQ) 1)), .int (nI ((wkN rQ jQ) 2)), .int (nI ((wkN rQ jQ) 3)), .int (nI ((wkN rQ jQ) 4)), .int (nI ((wkN rQ jQ) 5))])), aP z hp 6 pf, aN z hh 6 (hbA (wkN rQ jQ))]) [1, 2, 3] (by decide) rfl
          refine nv_cm1 (wc := [(hn, .inr (3, [.ref hp, .ref hh, .int (nI ((wkN rQ jQ) 6)), .int (nI (hpF (wkN rQ jQ) ((wkN rQ jQ) 6))), .int (nI (chF (wkN rQ jQ) ((wkN rQ jQ) 6))), .int (nI ((wkN rQ jQ) 0)), .int (nI ((wkN rQ jQ) 1)), .int (nI ((wkN rQ jQ) 2)), .int (nI ((wkN rQ jQ) 3)), .int (nI ((wkN rQ jQ) 4)), .int (nI ((wkN rQ jQ) 5))])), aP z hp 6 pf, aN z hh 6 (hbA (wkN rQ jQ))]) (wr := [(o, .inr (10, [.ref hn, .ref pq, .ref gi, .ref gp, .int (nI ik), .ref h2, .ref tp, .ref rw9])), (pq, .inr (5, [.ref pp, .ref pw, .ref pd, .ref ph, .int (nI (knU (unN un jQ) + 1)), .int (nI ((nxv + 1) % 8))])), aN z pp 8 (uN fpv nxv ((wkN rQ jQ) 0)), aN z pw 8 (uN fwv nxv ((wkN rQ jQ) 4)), aN z pd 8 (uN fdv nxv ((wkN rQ jQ) 5)), aN z ph 48 (va_cpy (hbA (wkN rQ jQ)) fhv 0 (nxv * 6) 6)]) (w1 := [(hn, .inr (3, [.ref hp, .ref hh, .int (nI ((weekR (wkN rQ jQ) ((wkN rQ jQ) 3)) 6)), .int (nI (hpF (weekR (wkN rQ jQ) ((wkN rQ jQ) 3)) ((weekR (wkN rQ jQ) ((wkN rQ jQ) 3)) 6))), .int (nI (chF (weekR (wkN rQ jQ) ((wkN rQ jQ) 3)) ((weekR (wkN rQ jQ) ((wkN rQ jQ) 3)) 6))), .int (nI ((weekR (wkN rQ jQ) ((wkN rQ jQ) 3)) 0)), .int (nI ((weekR (wkN rQ jQ) ((wkN rQ jQ) 3)) 1)), .int (nI ((weekR (wkN rQ jQ) ((wkN rQ jQ) 3)) 2)), .int (nI ((weekR (wkN rQ jQ) ((wkN rQ jQ) 3)) 3)), .int (nI ((weekR (wkN rQ jQ) ((wkN rQ jQ) 3)) 4)), .int (nI ((weekR (wkN rQ jQ) ((wkN rQ jQ) 3)) 5))])), aP z hp 6 pf, aN z hh 6 (hbA (weekR (wkN rQ jQ) ((wkN rQ jQ) 3)))]) (ws1 := [(o, .inr (10, [.ref hn, .ref pq, .ref gi, .ref gp, .int (nI ik), .ref h2, .ref tp, .ref rw9])), (hn, .inr (3, [.ref hp, .ref hh, .int (nI ((weekR (wkN rQ jQ) ((wkN rQ jQ) 3)) 6)), .int (nI (hpF (weekR (wkN rQ jQ) ((wkN rQ jQ) 3)) ((weekR (wkN rQ jQ) ((wkN rQ jQ) 3)) 6))), .int (nI (chF (weekR (wkN rQ jQ) ((wkN rQ jQ) 3)) ((weekR (wkN rQ jQ) ((wkN rQ jQ) 3)) 6))), .int (nI ((weekR (wkN rQ jQ) ((wkN rQ jQ) 3)) 0)), .int (nI ((weekR (wkN rQ jQ) ((wkN rQ jQ) 3)) 1)), .int (nI ((weekR (wkN rQ jQ) ((wkN rQ jQ) 3)) 2)), .int (nI ((weekR (wkN rQ jQ) ((wkN rQ jQ) 3)) 3)), .int (nI ((weekR (wkN rQ jQ) ((wkN rQ jQ) 3)) 4)), .int (nI ((weekR (wkN rQ jQ) ((wkN rQ jQ) 3)) 5))])), aP z hp 6 pf, aN z hh 6 (hbA (weekR (wkN rQ jQ) ((wkN rQ jQ) 3))), (pq, .inr (5, [.ref pp, .ref pw, .ref pd, .ref ph, .int (nI (knU (unN un jQ) + 1)), .int (nI ((nxv + 1) % 8))])), aN z pp 8 (uN fpv nxv ((wkN rQ jQ) 0)), aN z pw 8 (uN fwv nxv ((wkN rQ jQ) 4)), aN z pd 8 (uN fdv nxv ((wkN rQ jQ) 5)), aN z ph 48 (va_cpy (hbA (wkN rQ jQ)) fhv 0 (nxv * 6) 6)]) (va_runV (As := [.int (nI ((wkN rQ jQ) 3))]) (rest := []) ⟨hx, hb, hml, hown, hts⟩ (c_X3_live l D z H.size (w0Q + jQ) hn hp hh pf (wkN rQ jQ) ((wkN rQ jQ) 3) (wkN_ok jQ hok) (by first | assumption | omega) (by first | assumption | omega)) (cwV 1 hts (gV m_436 m_135 m_136 m_78 m_133) rfl rfl rfl ⟨rfl, hd_X3_live⟩ ⟨Nat.le_of_ble_eq_true rfl, Nat.le_of_ble_eq_true rfl⟩) (nv_preMV (ci := 3) (q0 := 0) hK hPc hDc (((hN _ _ hS).wk jQ).to [1, 2, 3] rfl) rfl rfl) rfl rfl hl.1 rfl (lv_room (Nat.le_of_ble_eq_true rfl)) dX10_weeks_59 ⟨by decide, by decide⟩) hP hD hS hA [1, 2, 3] [0, 4, 5, 6, 7, 8] [0, 6, 7, 8, 1, 2, 3, 4, 5] rfl rfl (by decide) (by decide) rfl (by decide) rfl (by decide) (fun H locs hP hD hS hE59 hz59 hf59 => ?_)
          clear hPc hDc
          clear hf59 hz59
          refine lv_pop hx hb dX10_weeks_62 rfl ?_
          refine lv_iinc (v := nI (jQ + 1)) (lv' := [(2, .int (nI (jQ + 1))), (0, .ref o), (1, .int (nI kQ))]) hx hb dX10_weeks_63 hl (k := 2) rfl (nI_inc _) (by decide) rfl (fun ls hl => ?_)
          refine lv_goto (tgt := 32) hx hb dX10_weeks_66 (by decide) ?_
          exact ih32 (jQ + 1, uN fpv nxv ((wkN rQ jQ) 0), uN fwv nxv ((wkN rQ jQ) 4), uN fdv nxv ((wkN rQ jQ) 5), va_cpy (hbA (wkN rQ jQ)) fhv 0 (nxv * 6) 6, (nxv + 1) % 8) _ _ _ (by show kQ - (jQ + 1) < kQ - jQ; omega) ⟨jQ + 1, uN fpv nxv ((wkN rQ jQ) 0), uN fwv nxv ((wkN rQ jQ) 4), uN fdv nxv ((wkN rQ jQ) 5), va_cpy (hbA (wkN rQ jQ)) fhv 0 (nxv * 6) 6, (nxv + 1) % 8, rfl, ⟨(by omega), (pg_know hpgv (wkN rQ jQ))⟩, hP, hD, hS, lv_sub hl [1, 2, 0] rfl⟩
      · exact ⟨0, fp, fw, fd, fh, nx, rfl, ⟨(by omega), hpg⟩, hP, hD, hS, lv_sub hl [1, 2, 0] rfl⟩
    · refine lv_bipush (v := (-3)) hx hb dX10_weeks_27 (by decide +kernel) ?_
      obtain ⟨rfl, rfl, rfl, rfl⟩ := hrel.2.1 kQ rfl (by omega) (by omega) (by omega)
      exact nv_xi hx hb hr hlocks hS dX10_weeks_29 (fp, fw, fd, fh, nx) hP hpg rfl
  · refine lv_iconst (v := (-1)) hx hb dX10_weeks_10 (by decide +kernel) ?_
    obtain ⟨rfl, rfl, rfl, rfl⟩ := hrel.1 hc7
    exact nv_xi hx hb hr hlocks hS dX10_weeks_11 (fp, fw, fd, fh, nx) hP hpg rfl

set_option maxHeartbeats 4000000 in
set_option maxRecDepth 100000 in
theorem c_X10_take (l : Launch) (D : va_G) (z : Nat → ClassId) (sz : Nat) (w0Q : Nat) (o : Nat) (hn : Nat) (pq : Nat) (gi : Nat) (gp : Nat) (ik : Nat) (h2 : Nat) (tp : Nat) (rw9 : Nat) (hp : Nat) (hh : Nat) (pf : Nat → Option Nat) (rQ : Nat → Nat) (pp : Nat) (pw : Nat) (pd : Nat) (ph : Nat) (fp : Nat → Nat) (fw : Nat → Nat) (fd : Nat → Nat) (fh : Nat → Nat) (un : Nat) (nx : Nat) (psQ : Nat → Nat) (nv : Int32) (r1Q : Nat → Nat) (ps1 : Nat → Nat) (un1 : Nat) (vQ : Int32) (hok : rOK w0Q rQ) (hpg : pgOK fp fw fd fh nx un psQ) (hrel : taRel rQ psQ un nv r1Q ps1 un1 vQ) : CX (σ := (Nat → Nat) × (Nat → Nat) × (Nat → Nat) × (Nat → Nat) × Nat) l yX10_take cX10_take 2 (some .int) 2 39 0 0 [.ref o, .int nv] D z [(o, .inr (10, [.ref hn, .ref pq, .ref gi, .ref gp, .int (nI ik), .ref h2, .ref tp, .ref rw9])), (hn, .inr (3, [.ref hp, .ref hh, .int (nI (rQ 6)), .int (nI (hpF rQ (rQ 6))), .int (nI (chF rQ (rQ 6))), .int (nI (rQ 0)), .int (nI (rQ 1)), .int (nI (rQ 2)), .int (nI (rQ 3)), .int (nI (rQ 4)), .int (nI (rQ 5))])), aP z hp 6 pf, aN z hh 6 (hbA rQ), (pq, .inr (5, [.ref pp, .ref pw, .ref pd, .ref ph, .int (nI un), .int (nI nx)])), aN z pp 8 fp, aN z pw 8 fw, aN z pd 8 fd, aN z ph 48 fh] sz (fun _ => True) (fun u => [(o, .inr (10, [.ref hn, .ref pq, .ref gi, .ref gp, .int (nI ik), .ref h2, .ref tp, .ref rw9])), (hn, .inr (3, [.ref hp, .ref hh, .int (nI (r1Q 6)), .int (nI (hpF r1Q (r1Q 6))), .int (nI (chF r1Q (r1Q 6))), .int (nI (r1Q 0)), .int (nI (r1Q 1)), .int (nI (r1Q 2)), .int (nI (r1Q 3)), .int (nI (r1Q 4)), .int (nI (r1Q 5))])), aP z hp 6 pf, aN z hh 6 (hbA r1Q), (pq, .inr (5, [.ref pp, .ref pw, .ref pd, .ref ph, .int (nI un1), .int (nI u.2.2.2.2)])), aN z pp 8 u.1, aN z pw 8 u.2.1, aN z pd 8 u.2.2.1, aN z ph 48 u.2.2.2.1]) (some (.int vQ)) (fun u => (fun _ => pgOK u.1 u.2.1 u.2.2.1 u.2.2.2.1 u.2.2.2.2 un1 ps1)) := by
  refine Met.ofW (cc := cX10_take) (maxL := 2) (ret := (some .int)) (by decide) rfl ?_
  intro pg e s m args below meth c s₁ B hml hv
  obtain ⟨rfl, hsz, hP, hK, hD0, hE⟩ := hv
  have hx := B.exec
  have hb := B.bytes
  have hr := B.returns
  have hts : ∀ w ∈ ALL, w.before _ s = true := fun w h => atoms_spec (ws := wA yX10_take cX10_take 2 (some .int)) B.pre w (List.mem_cons_of_mem _ h)
  have hown : s.vm.findClass RX10 = some m.cls := findClass_of_methodNamed B.named
  have hlocks := B.notSynchronized
  subst hsz
  have hD := hD0.self (sz := s.heap.size)
  obtain ⟨o0, o1, o1b, o2, o2b, o3, o4, o5, o6, oP⟩ := id hok
  have hg1 := hpg.1
  have hg2 := hpg.2.1
  have hA : ∀ q : Nat, s.heap.size ≤ q → va_A [(o, .inr (10, [.ref hn, .ref pq, .ref gi, .ref gp, .int (nI ik), .ref h2, .ref tp, .ref rw9])), (hn, .inr (3, [.ref hp, .ref hh, .int (nI (rQ 6)), .int (nI (hpF rQ (rQ 6))), .int (nI (chF rQ (rQ 6))), .int (nI (rQ 0)), .int (nI (rQ 1)), .int (nI (rQ 2)), .int (nI (rQ 3)), .int (nI (rQ 4)), .int (nI (rQ 5))])), aP z hp 6 pf, aN z hh 6 (hbA rQ), (pq, .inr (5, [.ref pp, .ref pw, .ref pd, .ref ph, .int (nI un), .int (nI nx)])), aN z pp 8 fp, aN z pw 8 fw, aN z pd 8 fd, aN z ph 48 fh] s.heap.size q := fun q h => Or.inr h
  generalize va_A [(o, .inr (10, [.ref hn, .ref pq, .ref gi, .ref gp, .int (nI ik), .ref h2, .ref tp, .ref rw9])), (hn, .inr (3, [.ref hp, .ref hh, .int (nI (rQ 6)), .int (nI (hpF rQ (rQ 6))), .int (nI (chF rQ (rQ 6))), .int (nI (rQ 0)), .int (nI (rQ 1)), .int (nI (rQ 2)), .int (nI (rQ 3)), .int (nI (rQ 4)), .int (nI (rQ 5))])), aP z hp 6 pf, aN z hh 6 (hbA rQ), (pq, .inr (5, [.ref pp, .ref pw, .ref pd, .ref ph, .int (nI un), .int (nI nx)])), aN z pp 8 fp, aN z pw 8 fw, aN z pd 8 fd, aN z ph 48 fh] s.heap.size = A at *
  have hS : va_S A s.heap s.heap [] := va_S.rf
  have hl := lv_entry ([.ref o, .int nv]) (n := 2) (Nat.le_of_ble_eq_true rfl)
  rw [lg_entry_eq]
  generalize (lg_sl ([.ref o, .int nv]) ++ List.replicate (2 - (lg_sl ([.ref o, .int nv])).length) Slot.unset).toArray = ls at hl ⊢
  have hl : lv_has ls 2 [(0, .ref o), (1, .int nv)] := hl
  refine lv_iload_n hx hb dX10_take_0 rfl (lv_at hl 1 rfl) ?_
  refine lv_iconst (v := nI 1) hx hb dX10_take_1 (by decide +kernel) ?_
  refine lv_sipush (v := nI 9999) hx hb dX10_take_2 (by decide +kernel) ?_
  have hPc := hP.sub (ws' := []) [] rfl
  refine nv_cp1 (va_runS (As := [.int nv, .int (nI 1), .int (nI 9999)]) (rest := []) ⟨hx, hb, hml, hown, hts⟩ (c_X10_within l D z nv (nI 1) (nI 9999) ) (va_cwS 3 hts (gS m_368 m_197 m_198 m_195) rfl rfl rfl hd_X10_within ⟨Nat.le_of_ble_eq_true rfl, Nat.le_of_ble_eq_true rfl⟩) (nv_preP hK hPc trivial _) rfl rfl hl.1 rfl (lv_room (Nat.le_of_ble_eq_true rfl)) dX10_take_5 ⟨by decide, by decide⟩) ?_
  refine nv_inwi (a := ((1 : Nat) : Int)) (b := ((9999 : Nat) : Int)) (nI_toInt (by omega)) (nI_toInt (by omega)) ?_
  refine nv_bne (tgt := 13) hx hb dX10_take_8 (by decide) (fun hc8 => ?_) (fun hc8 => ?_)
  · obtain ⟨kQ, rfl, k0, k1⟩ := wi_nat (b := 9999) (by decide) hc8
    refine lv_iload_n hx hb dX10_take_13 rfl (lv_at hl 1 rfl) ?_
    refine lv_aload_n hx hb dX10_take_14 rfl (lv_at hl 0 rfl) ?_
    refine va_get (D := D) (ci := 10) (v := .ref hn) (C := RX10) (T := TX10) (N := 8) hx hb hts iX10 hown hK.1 hP 0 rfl rfl 0 (by decide) (hts _ m_347) (fun _ h9 => h9) rfl dX10_take_15 ?_
    refine va_get (D := D) (ci := 3) (v := .int (nI (rQ 0))) (C := RX3) (T := TX3) (N := 11) hx hb hts iX3 hown hK.1 hP 1 rfl rfl 5 (by decide) (hts _ m_422) (fun _ h9 => h9) rfl dX10_take_18 ?_
    refine nv_le (tgt := 27) hx hb (by omega) (by omega) dX10_take_21 (by decide) (fun hc21 => ?_) (fun hc21 => ?_)
    · obtain ⟨rfl, rfl, rfl, rfl⟩ := hrel.2.2 kQ rfl (by omega) (by omega)
      refine lv_aload_n hx hb dX10_take_27 rfl (lv_at hl 0 rfl) ?_
      refine va_get (D := D) (ci := 10) (v := .ref pq) (C := RX10) (T := TX10) (N := 8) hx hb hts iX10 hown hK.1 hP 0 rfl rfl 1 (by decide) (hts _ m_351) (fun _ h9 => h9) rfl dX10_take_28 ?_
      refine lv_aload_n hx hb dX10_take_31 rfl (lv_at hl 0 rfl) ?_
      refine va_get (D := D) (ci := 10) (v := .ref hn) (C := RX10) (T := TX10) (N := 8) hx hb hts iX10 hown hK.1 hP 0 rfl rfl 0 (by decide) (hts _ m_347) (fun _ h9 => h9) rfl dX10_take_32 ?_
      have hPc := hP.sub (ws' := [(pq, .inr (5, [.ref pp, .ref pw, .ref pd, .ref ph, .int (nI un), .int (nI nx)])), aN z pp 8 fp, aN z pw 8 fw, aN z pd 8 fd, aN z ph 48 fh, (hn, .inr (3, [.ref hp, .ref hh, .int (nI (rQ 6)), .int (nI (hpF rQ (rQ 6))), .int (nI (chF rQ (rQ 6))), .int (nI (rQ 0)), .int (nI (rQ 1)), .int (nI (rQ 2)), .int (nI (rQ 3)), .int (nI (rQ 4)), .int (nI (rQ 5))])), aN z hh 6 (hbA rQ)]) [4, 5, 6, 7, 8, 1, 3] rfl
      have hDc := hD.sub (ws' := [(pq, .inr (5, [.ref pp, .ref pw, .ref pd, .ref ph, .int (nI un), .int (nI nx)])), aN z pp 8 fp, aN z pw 8 fw, aN z pd 8 fd, aN z ph 48 fh, (hn, .inr (3, [.ref hp, .ref hh, .int (nI (rQ 6)), .int (nI (hpF rQ (rQ 6))), .int (nI (chF rQ (rQ 6))), .int (nI (rQ 0)), .int (nI (rQ 1)), .int (nI (rQ 2)), .int (nI (rQ 3)), .int (nI (rQ 4)), .int (nI (rQ 5))])), aN z hh 6 (hbA rQ)]) [4, 5, 6, 7, 8, 1, 3] (by decide) rfl
      refine nv_cm0 (wc := [(pq, .inr (5, [.ref pp, .ref pw, .ref pd, .ref ph, .int (nI un), .int (nI nx)])), aN z pp 8 fp, aN z pw 8 fw, aN z pd 8 fd, aN z ph 48 fh, (hn, .inr (3, [.ref hp, .ref hh, .int (nI (rQ 6)), .int (nI (hpF rQ (rQ 6))), .int (nI (chF rQ (rQ 6))), .int (nI (rQ 0)), .int (nI (rQ 1)), .int (nI (rQ 2)), .int (nI (rQ 3)), .int (nI (rQ 4)), .int (nI (rQ 5))])), aN z hh 6 (hbA rQ)]) (wr := [(o, .inr (10, [.ref hn, .ref pq, .ref gi, .ref gp, .int (nI ik), .ref h2, .ref tp, .ref rw9])), aP z hp 6 pf]) (w1 := [(pq, .inr (5, [.ref pp, .ref pw, .ref pd, .ref ph, .int (nI (knU un + 1)), .int (nI ((nx + 1) % 8))])), aN z pp 8 (uN fp nx (rQ 0)), aN z pw 8 (uN fw nx (rQ 4)), aN z pd 8 (uN fd nx (rQ 5)), aN z ph 48 (va_cpy (hbA rQ) fh 0 (nx * 6) 6), (hn, .inr (3, [.ref hp, .ref hh, .int (nI (rQ 6)), .int (nI (hpF rQ (rQ 6))), .int (nI (chF rQ (rQ 6))), .int (nI (rQ 0)), .int (nI (rQ 1)), .int (nI (rQ 2)), .int (nI (rQ 3)), .int (nI (rQ 4)), .int (nI (rQ 5))])), aN z hh 6 (hbA rQ)]) (ws1 := [(o, .inr (10, [.ref hn, .ref pq, .ref gi, .ref gp, .int (nI ik), .ref h2, .ref tp, .ref rw9])), (hn, .inr (3, [.ref hp, .ref hh, .int (nI (rQ 6)), .int (nI (hpF rQ (rQ 6))), .int (nI (chF rQ (rQ 6))), .int (nI (rQ 0)), .int (nI (rQ 1)), .int (nI (rQ 2)), .int (nI (rQ 3)), .int (nI (rQ 4)), .int (nI (rQ 5))])), aP z hp 6 pf, aN z hh 6 (hbA rQ), (pq, .inr (5, [.ref pp, .ref pw, .ref pd, .ref ph, .int (nI (knU un + 1)), .int (nI ((nx + 1) % 8))])), aN z pp 8 (uN fp nx (rQ 0)), aN z pw 8 (uN fw nx (rQ 4)), aN z pd 8 (uN fd nx (rQ 5)), aN z ph 48 (va_cpy (hbA rQ) fh 0 (nx * 6) 6)]) (va_runV (As := [.ref hn]) (rest := []) ⟨hx, hb, hml, hown, hts⟩ (c_X5_remember l D z s.heap.size pq pp pw pd ph fp fw fd fh un nx hn hp hh rQ (by first | assumption | omega) (by first | assumption | omega)) (cwV 1 hts (gV m_433 m_434 m_435 m_350 m_160) rfl rfl rfl ⟨rfl, hd_X5_remember⟩ ⟨Nat.le_of_ble_eq_true rfl, Nat.le_of_ble_eq_true rfl⟩) (nv_preMV (ci := 5) (q0 := 0) hK hPc hDc trivial rfl rfl) rfl rfl hl.1 rfl (lv_room (Nat.le_of_ble_eq_true rfl)) dX10_take_35 ⟨by decide, by decide⟩) hP hD hS hA [4, 5, 6, 7, 8, 1, 3] [0, 2] [0, 7, 1, 8, 2, 3, 4, 5, 6] rfl rfl (by decide) (by decide) rfl (by decide) rfl (by decide) (fun H locs hP hD hS hE35 hz35 hf35 => ?_)
      clear hPc hDc
      clear hf35 hz35
      refine lv_aload_n hx hb dX10_take_38 rfl (lv_at hl 0 rfl) ?_
      refine va_get (D := D) (ci := 10) (v := .ref hn) (C := RX10) (T := TX10) (N := 8) hx hb hts iX10 hown hK.1 hP 0 rfl rfl 0 (by decide) (hts _ m_347) (fun _ h9 => h9) rfl dX10_take_39 ?_
      refine lv_dup hx hb dX10_take_42 rfl ?_
      refine va_get (D := D) (ci := 3) (v := .int (nI (rQ 0))) (C := RX3) (T := TX3) (N := 11) hx hb hts iX3 hown hK.1 hP 1 rfl rfl 5 (by decide) (hts _ m_422) (fun _ h9 => h9) rfl dX10_take_43 ?_
      refine lv_iload_n hx hb dX10_take_46 rfl (lv_at hl 1 rfl) ?_
      refine nv_sub hx hb (by omega) dX10_take_47 ?_
      refine va_put (D := D) (ci := 3) (v := .int (nI ((rQ 0) - kQ))) (ty := tyX3 5) (C := RX3) (T := TX3) (N := 11) hx hb hts iX3 tyX3 tyX3_ok nmX3 hown hK.1 hP hD hS 1 rfl rfl 5 (by decide) (hts _ m_422) (fun _ h9 => h9) rfl (tyX3_ok 5 (by decide)) rfl rfl (Nat.le_of_ble_eq_true rfl) dX10_take_48 (fun H locs hP hD hS => ?_)
      have hP : va_P D vwCl [(o, .inr (10, [.ref hn, .ref pq, .ref gi, .ref gp, .int (nI ik), .ref h2, .ref tp, .ref rw9])), (hn, .inr (3, [.ref hp, .ref hh, .int (nI (rQ 6)), .int (nI (hpF rQ (rQ 6))), .int (nI (chF rQ (rQ 6))), .int (nI ((rQ 0) - kQ)), .int (nI (rQ 1)), .int (nI (rQ 2)), .int (nI (rQ 3)), .int (nI (rQ 4)), .int (nI (rQ 5))])), aP z hp 6 pf, aN z hh 6 (hbA rQ), (pq, .inr (5, [.ref pp, .ref pw, .ref pd, .ref ph, .int (nI (knU un + 1)), .int (nI ((nx + 1) % 8))])), aN z pp 8 (uN fp nx (rQ 0)), aN z pw 8 (uN fw nx (rQ 4)), aN z pd 8 (uN fd nx (rQ 5)), aN z ph 48 (va_cpy (hbA rQ) fh 0 (nx * 6) 6)] H := hP
      have hD : va_D A [(o, .inr (10, [.ref hn, .ref pq, .ref gi, .ref gp, .int (nI ik), .ref h2, .ref tp, .ref rw9])), (hn, .inr (3, [.ref hp, .ref hh, .int (nI (rQ 6)), .int (nI (hpF rQ (rQ 6))), .int (nI (chF rQ (rQ 6))), .int (nI ((rQ 0) - kQ)), .int (nI (rQ 1)), .int (nI (rQ 2)), .int (nI (rQ 3)), .int (nI (rQ 4)), .int (nI (rQ 5))])), aP z hp 6 pf, aN z hh 6 (hbA rQ), (pq, .inr (5, [.ref pp, .ref pw, .ref pd, .ref ph, .int (nI (knU un + 1)), .int (nI ((nx + 1) % 8))])), aN z pp 8 (uN fp nx (rQ 0)), aN z pw 8 (uN fw nx (rQ 4)), aN z pd 8 (uN fd nx (rQ 5)), aN z ph 48 (va_cpy (hbA rQ) fh 0 (nx * 6) 6)] := hD
      refine lv_aload_n hx hb dX10_take_51 rfl (lv_at hl 0 rfl) ?_
      refine va_get (D := D) (ci := 10) (v := .ref hn) (C := RX10) (T := TX10) (N := 8) hx hb hts iX10 hown hK.1 hP 0 rfl rfl 0 (by decide) (hts _ m_347) (fun _ h9 => h9) rfl dX10_take_52 ?_
      refine va_get (D := D) (ci := 3) (v := .int (nI ((rQ 0) - kQ))) (C := RX3) (T := TX3) (N := 11) hx hb hts iX3 hown hK.1 hP 1 rfl rfl 5 (by decide) (hts _ m_422) (fun _ h9 => h9) rfl dX10_take_55 ?_
      exact nv_xi hx hb hr hlocks hS dX10_take_58 (uN fp nx (rQ 0), uN fw nx (rQ 4), uN fd nx (rQ 5), va_cpy (hbA rQ) fh 0 (nx * 6) 6, (nx + 1) % 8) (by rw [uN_n rQ (k := 0) (v := (rQ 0 - kQ)) (j := 6) (by decide), hp_u rQ 0 (rQ 0 - kQ) _ (by decide), ch_u rQ 0 (rQ 0 - kQ) _ (by decide), uN_n rQ (k := 0) (v := (rQ 0 - kQ)) (j := 1) (by decide), uN_n rQ (k := 0) (v := (rQ 0 - kQ)) (j := 2) (by decide), uN_n rQ (k := 0) (v := (rQ 0 - kQ)) (j := 3) (by decide), uN_n rQ (k := 0) (v := (rQ 0 - kQ)) (j := 4) (by decide), uN_n rQ (k := 0) (v := (rQ 0 - kQ)) (j := 5) (by decide), uN_s rQ 0 (rQ 0 - kQ), hbA_u rQ 0 (rQ 0 - kQ) (by decide)]; exact hP) (pg_know hpg rQ) rfl
    · refine lv_bipush (v := (-2)) hx hb dX10_take_24 (by decide +kernel) ?_
      obtain ⟨rfl, rfl, rfl, rfl⟩ := hrel.2.1 kQ rfl (by omega) (by omega) (by omega)
      exact nv_xi hx hb hr hlocks hS dX10_take_26 (fp, fw, fd, fh, nx) hP hpg rfl
  · refine lv_iconst (v := (-1)) hx hb dX10_take_11 (by decide +kernel) ?_
    obtain ⟨rfl, rfl, rfl, rfl⟩ := hrel.1 hc8
    exact nv_xi hx hb hr hlocks hS dX10_take_12 (fp, fw, fd, fh, nx) hP hpg rfl

set_option maxHeartbeats 4000000 in
set_option maxRecDepth 100000 in
theorem c_X10_drift (l : Launch) (D : va_G) (z : Nat → ClassId) (sz : Nat) (w0Q : Nat) (o : Nat) (hn : Nat) (pq : Nat) (gi : Nat) (gp : Nat) (ik : Nat) (h2 : Nat) (tp : Nat) (rw9 : Nat) (hp : Nat) (hh : Nat) (pf : Nat → Option Nat) (rQ : Nat → Nat) (pp : Nat) (pw : Nat) (pd : Nat) (ph : Nat) (fp : Nat → Nat) (fw : Nat → Nat) (fd : Nat → Nat) (fh : Nat → Nat) (un : Nat) (nx : Nat) (psQ : Nat → Nat) (nv : Int32) (r1Q : Nat → Nat) (ps1 : Nat → Nat) (un1 : Nat) (vQ : Int32) (hok : rOK w0Q rQ) (hw : w0Q ≤ 10000) (hpg : pgOK fp fw fd fh nx un psQ) (hrel : dfRel rQ psQ un nv r1Q ps1 un1 vQ) : CX (σ := (Nat → Nat) × (Nat → Nat) × (Nat → Nat) × (Nat → Nat) × Nat) l yX10_drift cX10_drift 4 (some .int) 3 77 0 0 [.ref o, .int nv] D z [(o, .inr (10, [.ref hn, .ref pq, .ref gi, .ref gp, .int (nI ik), .ref h2, .ref tp, .ref rw9])), (hn, .inr (3, [.ref hp, .ref hh, .int (nI (rQ 6)), .int (nI (hpF rQ (rQ 6))), .int (nI (chF rQ (rQ 6))), .int (nI (rQ 0)), .int (nI (rQ 1)), .int (nI (rQ 2)), .int (nI (rQ 3)), .int (nI (rQ 4)), .int (nI (rQ 5))])), aP z hp 6 pf, aN z hh 6 (hbA rQ), (pq, .inr (5, [.ref pp, .ref pw, .ref pd, .ref ph, .int (nI un), .int (nI nx)])), aN z pp 8 fp, aN z pw 8 fw, aN z pd 8 fd, aN z ph 48 fh] sz (fun H => peH D [(o, .inr (10, [.ref hn, .ref pq, .ref gi, .ref gp, .int (nI ik), .ref h2, .ref tp, .ref rw9])), (hn, .inr (3, [.ref hp, .ref hh, .int (nI (rQ 6)), .int (nI (hpF rQ (rQ 6))), .int (nI (chF rQ (rQ 6))), .int (nI (rQ 0)), .int (nI (rQ 1)), .int (nI (rQ 2)), .int (nI (rQ 3)), .int (nI (rQ 4)), .int (nI (rQ 5))])), aP z hp 6 pf, aN z hh 6 (hbA rQ), (pq, .inr (5, [.ref pp, .ref pw, .ref pd, .ref ph, .int (nI un), .int (nI nx)])), aN z pp 8 fp, aN z pw 8 fw, aN z pd 8 fd, aN z ph 48 fh] pf rQ H) (fun u => [(o, .inr (10, [.ref hn, .ref pq, .ref gi, .ref gp, .int (nI ik), .ref h2, .ref tp, .ref rw9])), (hn, .inr (3, [.ref hp, .ref hh, .int (nI (r1Q 6)), .int (nI (hpF r1Q (r1Q 6))), .int (nI (chF r1Q (r1Q 6))), .int (nI (r1Q 0)), .int (nI (r1Q 1)), .int (nI (r1Q 2)), .int (nI (r1Q 3)), .int (nI (r1Q 4)), .int (nI (r1Q 5))])), aP z hp 6 pf, aN z hh 6 (hbA r1Q), (pq, .inr (5, [.ref pp, .ref pw, .ref pd, .ref ph, .int (nI un1), .int (nI u.2.2.2.2)])), aN z pp 8 u.1, aN z pw 8 u.2.1, aN z pd 8 u.2.2.1, aN z ph 48 u.2.2.2.1]) (some (.int vQ)) (fun u => (fun _ => pgOK u.1 u.2.1 u.2.2.1 u.2.2.2.1 u.2.2.2.2 un1 ps1)) := by
  refine Met.ofW (cc := cX10_drift) (maxL := 4) (ret := (some .int)) (by decide) rfl ?_
  intro pg e s m args below meth c s₁ B hml hv
  obtain ⟨rfl, hsz, hP, hK, hD0, hE⟩ := hv
  have hx := B.exec
  have hb := B.bytes
  have hr := B.returns
  have hts : ∀ w ∈ ALL, w.before _ s = true := fun w h => atoms_spec (ws := wA yX10_drift cX10_drift 4 (some .int)) B.pre w (List.mem_cons_of_mem _ h)
  have hown : s.vm.findClass RX10 = some m.cls := findClass_of_methodNamed B.named
  have hlocks := B.notSynchronized
  subst hsz
  have hD := hD0.self (sz := s.heap.size)
  obtain ⟨o0, o1, o1b, o2, o2b, o3, o4, o5, o6, oP⟩ := id hok
  have hN : ∀ (H : Heap) (locs : List Loc), va_S (va_A [(o, .inr (10, [.ref hn, .ref pq, .ref gi, .ref gp, .int (nI ik), .ref h2, .ref tp, .ref rw9])), (hn, .inr (3, [.ref hp, .ref hh, .int (nI (rQ 6)), .int (nI (hpF rQ (rQ 6))), .int (nI (chF rQ (rQ 6))), .int (nI (rQ 0)), .int (nI (rQ 1)), .int (nI (rQ 2)), .int (nI (rQ 3)), .int (nI (rQ 4)), .int (nI (rQ 5))])), aP z hp 6 pf, aN z hh 6 (hbA rQ), (pq, .inr (5, [.ref pp, .ref pw, .ref pd, .ref ph, .int (nI un), .int (nI nx)])), aN z pp 8 fp, aN z pw 8 fw, aN z pd 8 fd, aN z ph 48 fh] s.heap.size) s.heap H locs → peH D [(o, .inr (10, [.ref hn, .ref pq, .ref gi, .ref gp, .int (nI ik), .ref h2, .ref tp, .ref rw9])), (hn, .inr (3, [.ref hp, .ref hh, .int (nI (rQ 6)), .int (nI (hpF rQ (rQ 6))), .int (nI (chF rQ (rQ 6))), .int (nI (rQ 0)), .int (nI (rQ 1)), .int (nI (rQ 2)), .int (nI (rQ 3)), .int (nI (rQ 4)), .int (nI (rQ 5))])), aP z hp 6 pf, aN z hh 6 (hbA rQ), (pq, .inr (5, [.ref pp, .ref pw, .ref pd, .ref ph, .int (nI un), .int (nI nx)])), aN z pp 8 fp, aN z pw 8 fw, aN z pd 8 fd, aN z ph 48 fh] pf rQ H := fun H locs h9 => peH.now hE h9
  have hA : ∀ q : Nat, s.heap.size ≤ q → va_A [(o, .inr (10, [.ref hn, .ref pq, .ref gi, .ref gp, .int (nI ik), .ref h2, .ref tp, .ref rw9])), (hn, .inr (3, [.ref hp, .ref hh, .int (nI (rQ 6)), .int (nI (hpF rQ (rQ 6))), .int (nI (chF rQ (rQ 6))), .int (nI (rQ 0)), .int (nI (rQ 1)), .int (nI (rQ 2)), .int (nI (rQ 3)), .int (nI (rQ 4)), .int (nI (rQ 5))])), aP z hp 6 pf, aN z hh 6 (hbA rQ), (pq, .inr (5, [.ref pp, .ref pw, .ref pd, .ref ph, .int (nI un), .int (nI nx)])), aN z pp 8 fp, aN z pw 8 fw, aN z pd 8 fd, aN z ph 48 fh] s.heap.size q := fun q h => Or.inr h
  generalize va_A [(o, .inr (10, [.ref hn, .ref pq, .ref gi, .ref gp, .int (nI ik), .ref h2, .ref tp, .ref rw9])), (hn, .inr (3, [.ref hp, .ref hh, .int (nI (rQ 6)), .int (nI (hpF rQ (rQ 6))), .int (nI (chF rQ (rQ 6))), .int (nI (rQ 0)), .int (nI (rQ 1)), .int (nI (rQ 2)), .int (nI (rQ 3)), .int (nI (rQ 4)), .int (nI (rQ 5))])), aP z hp 6 pf, aN z hh 6 (hbA rQ), (pq, .inr (5, [.ref pp, .ref pw, .ref pd, .ref ph, .int (nI un), .int (nI nx)])), aN z pp 8 fp, aN z pw 8 fw, aN z pd 8 fd, aN z ph 48 fh] s.heap.size = A at *
  have hS : va_S A s.heap s.heap [] := va_S.rf
  have hl := lv_entry ([.ref o, .int nv]) (n := 4) (Nat.le_of_ble_eq_true rfl)
  rw [lg_entry_eq]
  generalize (lg_sl ([.ref o, .int nv]) ++ List.replicate (4 - (lg_sl ([.ref o, .int nv])).length) Slot.unset).toArray = ls at hl ⊢
  have hl : lv_has ls 4 [(0, .ref o), (1, .int nv)] := hl
  refine lv_iload_n hx hb dX10_drift_0 rfl (lv_at hl 1 rfl) ?_
  refine lv_iconst (v := nI 1) hx hb dX10_drift_1 (by decide +kernel) ?_
  refine lv_bipush (v := nI 60) hx hb dX10_drift_2 (by decide +kernel) ?_
  have hPc := hP.sub (ws' := []) [] rfl
  refine nv_cp1 (va_runS (As := [.int nv, .int (nI 1), .int (nI 60)]) (rest := []) ⟨hx, hb, hml, hown, hts⟩ (c_X10_within l D z nv (nI 1) (nI 60) ) (va_cwS 3 hts (gS m_368 m_197 m_198 m_195) rfl rfl rfl hd_X10_within ⟨Nat.le_of_ble_eq_true rfl, Nat.le_of_ble_eq_true rfl⟩) (nv_preP hK hPc trivial _) rfl rfl hl.1 rfl (lv_room (Nat.le_of_ble_eq_true rfl)) dX10_drift_4 ⟨by decide, by decide⟩) ?_
  refine nv_inwi (a := ((1 : Nat) : Int)) (b := ((60 : Nat) : Int)) (nI_toInt (by omega)) (nI_toInt (by omega)) ?_
  refine nv_bne (tgt := 12) hx hb dX10_drift_7 (by decide) (fun hc7 => ?_) (fun hc7 => ?_)
  · obtain ⟨kQ, rfl, k0, k1⟩ := wi_nat (b := 60) (by decide) hc7
    refine lv_aload_n hx hb dX10_drift_12 rfl (lv_at hl 0 rfl) ?_
    refine va_get (D := D) (ci := 10) (v := .ref hn) (C := RX10) (T := TX10) (N := 8) hx hb hts iX10 hown hK.1 hP 0 rfl rfl 0 (by decide) (hts _ m_347) (fun _ h9 => h9) rfl dX10_drift_13 ?_
    refine va_get (D := D) (ci := 3) (v := .int (nI (rQ 4))) (C := RX3) (T := TX3) (N := 11) hx hb hts iX3 hown hK.1 hP 1 rfl rfl 9 (by decide) (hts _ m_421) (fun _ h9 => h9) rfl dX10_drift_16 ?_
    refine lv_iload_n hx hb dX10_drift_19 rfl (lv_at hl 1 rfl) ?_
    refine nv_add hx hb dX10_drift_20 ?_
    refine lv_sipush (v := nI 9999) hx hb dX10_drift_21 (by decide +kernel) ?_
    refine nv_le (tgt := 30) hx hb (by omega) (by omega) dX10_drift_24 (by decide) (fun hc24 => ?_) (fun hc24 => ?_)
    · obtain ⟨rfl, rfl, rfl, rfl⟩ := hrel.2.2 kQ rfl (by omega) (by omega) (by omega)
      refine lv_iconst (v := nI 0) hx hb dX10_drift_30 (by decide +kernel) ?_
      refine lv_istore_n (lv' := [(2, .int (nI 0)), (0, .ref o), (1, .int (nI kQ))]) hx hb dX10_drift_31 rfl hl (by decide) rfl (fun ls hl => ?_)
      refine lv_iconst (v := nI 0) hx hb dX10_drift_32 (by decide +kernel) ?_
      refine lv_istore_n (lv' := [(3, .int (nI 0)), (2, .int (nI 0)), (0, .ref o), (1, .int (nI kQ))]) hx hb dX10_drift_33 rfl hl (by decide) rfl (fun ls hl => ?_)
      refine nv_loop (σ := Nat × (Nat → Nat) × (Nat → Nat) × (Nat → Nat) × (Nat → Nat) × Nat) (fun x H locs ls => ∃ (jQ : Nat) (fpv : Nat → Nat) (fwv : Nat → Nat) (fdv : Nat → Nat) (fhv : Nat → Nat) (nxv : Nat), (jQ, fpv, fwv, fdv, fhv, nxv) = x ∧ ((jQ ≤ kQ) ∧ (pgOK fpv fwv fdv fhv nxv (unN un jQ) (dpN rQ psQ un jQ))) ∧ va_P D vwCl [(o, .inr (10, [.ref hn, .ref pq, .ref gi, .ref gp, .int (nI ik), .ref h2, .ref tp, .ref rw9])), (hn, .inr (3, [.ref hp, .ref hh, .int (nI ((dkN rQ jQ) 6)), .int (nI (hpF (dkN rQ jQ) ((dkN rQ jQ) 6))), .int (nI (chF (dkN rQ jQ) ((dkN rQ jQ) 6))), .int (nI ((dkN rQ jQ) 0)), .int (nI ((dkN rQ jQ) 1)), .int (nI ((dkN rQ jQ) 2)), .int (nI ((dkN rQ jQ) 3)), .int (nI ((dkN rQ jQ) 4)), .int (nI ((dkN rQ jQ) 5))])), aP z hp 6 pf, aN z hh 6 (hbA (dkN rQ jQ)), (pq, .inr (5, [.ref pp, .ref pw, .ref pd, .ref ph, .int (nI (unN un jQ)), .int (nI nxv)])), aN z pp 8 fpv, aN z pw 8 fwv, aN z pd 8 fdv, aN z ph 48 fhv] H ∧ va_D A [(o, .inr (10, [.ref hn, .ref pq, .ref gi, .ref gp, .int (nI ik), .ref h2, .ref tp, .ref rw9])), (hn, .inr (3, [.ref hp, .ref hh, .int (nI ((dkN rQ jQ) 6)), .int (nI (hpF (dkN rQ jQ) ((dkN rQ jQ) 6))), .int (nI (chF (dkN rQ jQ) ((dkN rQ jQ) 6))), .int (nI ((dkN rQ jQ) 0)), .int (nI ((dkN rQ jQ) 1)), .int (nI ((dkN rQ jQ) 2)), .int (nI ((dkN rQ jQ) 3)), .int (nI ((dkN rQ jQ) 4)), .int (nI ((dkN rQ jQ) 5))])), aP z hp 6 pf, aN z hh 6 (hbA (dkN rQ jQ)), (pq, .inr (5, [.ref pp, .ref pw, .ref pd, .ref ph, .int (nI (unN un jQ)), .int (nI nxv)])), aN z pp 8 fpv, aN z pw 8 fwv, aN z pd 8 fdv, aN z ph 48 fhv] ∧ va_S A s.heap H locs ∧ lv_has ls 4 [(0, .ref o), (1, .int (nI kQ)), (2, .int (nI (dsN rQ jQ))), (3, .int (nI jQ))]) (fun x => kQ - x.1) 34 [] ?_ (0, fp, fw, fd, fh, nx) ?_
      · rintro _ H locs ls ⟨jQ, fpv, fwv, fdv, fhv, nxv, rfl, ⟨hj, hpgv⟩, hP, hD, hS, hl⟩ ih34
        refine lv_iload_n hx hb dX10_drift_34 rfl (lv_at hl 3 rfl) ?_
        refine lv_iload_n hx hb dX10_drift_35 rfl (lv_at hl 1 rfl) ?_
        refine nv_ge (tgt := 73) hx hb (by omega) (by omega) dX10_drift_36 (by decide) (fun hc36 => ?_) (fun hc36 => ?_)
        · obtain rfl : kQ = jQ := by omega
          refine lv_iload_n hx hb dX10_drift_73 rfl (lv_at hl 2 rfl) ?_
          exact nv_xi hx hb hr hlocks hS dX10_drift_74 (fpv, fwv, fdv, fhv, nxv) hP hpgv rfl
        · have hg1 := hpgv.1
          have hg2 := hpgv.2.1
          refine lv_aload_n hx hb dX10_drift_39 rfl (lv_at hl 0 rfl) ?_
          refine va_get (D := D) (ci := 10) (v := .ref pq) (C := RX10) (T := TX10) (N := 8) hx hb hts iX10 hown hK.1 hP 0 rfl rfl 1 (by decide) (hts _ m_351) (fun _ h9 => h9) rfl dX10_drift_40 ?_
          refine lv_aload_n hx hb dX10_drift_43 rfl (lv_at hl 0 rfl) ?_
          refine va_get (D := D) (ci := 10) (v := .ref hn) (C := RX10) (T := TX10) (N := 8) hx hb hts iX10 hown hK.1 hP 0 rfl rfl 0 (by decide) (hts _ m_347) (fun _ h9 => h9) rfl dX10_drift_44 ?_
          have hPc := hP.sub (ws' := [(pq, .inr (5, [.ref pp, .ref pw, .ref pd, .ref ph, .int (nI (unN un jQ)), .int (nI nxv)])), aN z pp 8 fpv, aN z pw 8 fwv, aN z pd 8 fdv, aN z ph 48 fhv, (hn, .inr (3, [.ref hp, .ref hh, .int (nI ((dkN rQ jQ) 6)), .int (nI (hpF (dkN rQ jQ) ((dkN rQ jQ) 6))), .int (nI (chF (dkN rQ jQ) ((dkN rQ jQ) 6))), .int (nI ((dkN rQ jQ) 0)), .int (nI ((dkN rQ jQ) 1)), .int (nI ((dkN rQ jQ) 2)), .int (nI ((dkN rQ jQ) 3)), .int (nI ((dkN rQ jQ) 4)), .int (nI ((dkN rQ jQ) 5))])), aN z hh 6 (hbA (dkN rQ jQ))]) [4, 5, 6, 7, 8, 1, 3] rfl
          have hDc := hD.sub (ws' := [(pq, .inr (5, [.ref pp, .ref pw, .ref pd, .ref ph, .int (nI (unN un jQ)), .int (nI nxv)])), aN z pp 8 fpv, aN z pw 8 fwv, aN z pd 8 fdv, aN z ph 48 fhv, (hn, .inr (3, [.ref hp, .ref hh, .int (nI ((dkN rQ jQ) 6)), .int (nI (hpF (dkN rQ jQ) ((dkN rQ jQ) 6))), .int (nI (chF (dkN rQ jQ) ((dkN rQ jQ) 6))), .int (nI ((dkN rQ jQ) 0)), .int (nI ((dkN rQ jQ) 1)), .int (nI ((dkN rQ jQ) 2)), .int (nI ((dkN rQ jQ) 3)), .int (nI ((dkN rQ jQ) 4)), .int (nI ((dkN rQ jQ) 5))])), aN z hh 6 (hbA (dkN rQ jQ))]) [4, 5, 6, 7, 8, 1, 3] (by decide) rfl
          refine nv_cm0 (wc := [(pq, .inr (5, [.ref pp, .ref pw, .ref pd, .ref ph, .int (nI (unN un jQ)), .int (nI nxv)])), aN z pp 8 fpv, aN z pw 8 fwv, aN z pd 8 fdv, aN z ph 48 fhv, (hn, .inr (3, [.ref hp, .ref hh, .int (nI ((dkN rQ jQ) 6)), .int (nI (hpF (dkN rQ jQ) ((dkN rQ jQ) 6))), .int (nI (chF (dkN rQ jQ) ((dkN rQ jQ) 6))), .int (nI ((dkN rQ jQ) 0)), .int (nI ((dkN rQ jQ) 1)), .int (nI ((dkN rQ jQ) 2)), .int (nI ((dkN rQ jQ) 3)), .int (nI ((dkN rQ jQ) 4)), .int (nI ((dkN rQ jQ) 5))])), aN z hh 6 (hbA (dkN rQ jQ))]) (wr := [(o, .inr (10, [.ref hn, .ref pq, .ref gi, .ref gp, .int (nI ik), .ref h2, .ref tp, .ref rw9])), aP z hp 6 pf]) (w1 := [(pq, .inr (5, [.ref pp, .ref pw, .ref pd, .ref ph, .int (nI (knU (unN un jQ) + 1)), .int (nI ((nxv + 1) % 8))])), aN z pp 8 (uN fpv nxv ((dkN rQ jQ) 0)), aN z pw 8 (uN fwv nxv ((dkN rQ jQ) 4)), aN z pd 8 (uN fdv nxv ((dkN rQ jQ) 5)), aN z ph 48 (va_cpy (hbA (dkN rQ jQ)) fhv 0 (nxv * 6) 6), (hn, .inr (3, [.ref hp, .ref hh, .int (nI ((dkN rQ jQ) 6)), .int (nI (hpF (dkN rQ jQ) ((dkN rQ jQ) 6))), .int (nI (chF (dkN rQ jQ) ((dkN rQ jQ) 6))), .int (nI ((dkN rQ jQ) 0)), .int (nI ((dkN rQ jQ) 1)), .int (nI ((dkN rQ jQ) 2)), .int (nI ((dkN rQ jQ) 3)), .int (nI ((dkN rQ jQ) 4)), .int (nI ((dkN rQ jQ) 5))])), aN z hh 6 (hbA (dkN rQ jQ))]) (ws1 := [(o, .inr (10, [.ref hn, .ref pq, .ref gi, .ref gp, .int (nI ik), .ref h2, .ref tp, .ref rw9])), (hn, .inr (3, [.ref hp, .ref hh, .int (nI ((dkN rQ jQ) 6)), .int (nI (hpF (dkN rQ jQ) ((dkN rQ jQ) 6))), .int (nI (chF (dkN rQ jQ) ((dkN rQ jQ) 6))), .int (nI ((dkN rQ jQ) 0)), .int (nI ((dkN rQ jQ) 1)), .int (nI ((dkN rQ jQ) 2)), .int (nI ((dkN rQ jQ) 3)), .int (nI ((dkN rQ jQ) 4)), .int (nI ((dkN rQ jQ) 5))])), aP z hp 6 pf, aN z hh 6 (hbA (dkN rQ jQ)), (pq, .inr (5, [.ref pp, .ref pw, .ref pd, .ref ph, .int (nI (knU (unN un jQ) + 1)), .int (nI ((nxv + 1) % 8))])), aN z pp 8 (uN fpv nxv ((dkN rQ jQ) 0)), aN z pw 8 (uN fwv nxv ((dkN rQ jQ) 4)), aN z pd 8 (uN fdv nxv ((dkN rQ jQ) 5)), aN z ph 48 (va_cpy (hbA (dkN rQ jQ)) fhv 0 (nxv * 6) 6)]) (va_runV (As := [.ref hn]) (rest := []) ⟨hx, hb, hml, hown, hts⟩ (c_X5_remember l D z H.size pq pp pw pd ph fpv fwv fdv fhv (unN un jQ) nxv hn hp hh (dkN rQ jQ) (by first | assumption | omega) (by first | assumption | omega)) (cwV 1 hts (gV m_433 m_434 m_435 m_350 m_160) rfl rfl rfl ⟨rfl, hd_X5_remember⟩ ⟨Nat.le_of_ble_eq_true rfl, Nat.le_of_ble_eq_true rfl⟩) (nv_preMV (ci := 5) (q0 := 0) hK hPc hDc trivial rfl rfl) rfl rfl hl.1 rfl (lv_room (Nat.le_of_ble_eq_true rfl)) dX10_drift_47 ⟨by decide, by decide⟩) hP hD hS hA [4, 5, 6, 7, 8, 1, 3] [0, 2] [0, 7, 1, 8, 2, 3, 4, 5, 6] rfl rfl (by decide) (by decide) rfl (by decide) rfl (by decide) (fun H locs hP hD hS hE47 hz47 hf47 => ?_)
          clear hPc hDc
          clear hf47 hz47
          refine lv_iload_n hx hb dX10_drift_50 rfl (lv_at hl 2 rfl) ?_
          refine lv_aload_n hx hb dX10_drift_51 rfl (lv_at hl 0 rfl) ?_
          refine va_get (D := D) (ci := 10) (v := .ref hn) (C := RX10) (T := TX10) (N := 8) hx hb hts iX10 hown hK.1 hP 0 rfl rfl 0 (by decide) (hts _ m_347) (fun _ h9 => h9) rfl dX10_drift_52 ?_
          refine lv_aload_n hx hb dX10_drift_55 rfl (lv_at hl 0 rfl) ?_
          refine va_get (D := D) (ci := 10) (v := .ref hn) (C := RX10) (T := TX10) (N := 8) hx hb hts iX10 hown hK.1 hP 0 rfl rfl 0 (by decide) (hts _ m_347) (fun _ h9 => h9) rfl dX10_drift_56 ?_
          have hPc := hP.sub (ws' := [(hn, .inr (3, [.ref hp, .ref hh, .int (nI ((dkN rQ jQ) 6)), .int (nI (hpF (dkN rQ jQ) ((dkN rQ jQ) 6))), .int (nI (chF (dkN rQ jQ) ((dkN rQ jQ) 6))), .int (nI ((dkN rQ jQ) 0)), .int (nI ((dkN rQ jQ) 1)), .int (nI ((dkN rQ jQ) 2)), .int (nI ((dkN rQ jQ) 3)), .int (nI ((dkN rQ jQ) 4)), .int (nI ((dkN rQ jQ) 5))]))]) [1] rfl
          have hDc := hD.sub (ws' := [(hn, .inr (3, [.ref hp, .ref hh, .int (nI ((dkN rQ jQ) 6)), .int (nI (hpF (dkN rQ jQ) ((dkN rQ jQ) 6))), .int (nI (chF (dkN rQ jQ) ((dkN rQ jQ) 6))), .int (nI ((dkN rQ jQ) 0)), .int (nI ((dkN rQ jQ) 1)), .int (nI ((dkN rQ jQ) 2)), .int (nI ((dkN rQ jQ) 3)), .int (nI ((dkN rQ jQ) 4)), .int (nI ((dkN rQ jQ) 5))]))]) [1] (by decide) rfl
          refine nv_cm1 (wc := [(hn, .inr (3, [.ref hp, .ref hh, .int (nI ((dkN rQ jQ) 6)), .int (nI (hpF (dkN rQ jQ) ((dkN rQ jQ) 6))), .int (nI (chF (dkN rQ jQ) ((dkN rQ jQ) 6))), .int (nI ((dkN rQ jQ) 0)), .int (nI ((dkN rQ jQ) 1)), .int (nI ((dkN rQ jQ) 2)), .int (nI ((dkN rQ jQ) 3)), .int (nI ((dkN rQ jQ) 4)), .int (nI ((dkN rQ jQ) 5))]))]) (wr := [(o, .inr (10, [.ref hn, .ref pq, .ref gi, .ref gp, .int (nI ik), .ref h2, .ref tp, .ref rw9])), aP z hp 6 pf, aN z hh 6 (hbA (dkN rQ jQ)), (pq, .inr (5, [.ref pp, .ref pw, .ref pd, .ref ph, .int (nI (knU (unN un jQ) + 1)), .int (nI ((nxv + 1) % 8))])), aN z pp 8 (uN fpv nxv ((dkN rQ jQ) 0)), aN z pw 8 (uN fwv nxv ((dkN rQ jQ) 4)), aN z pd 8 (uN fdv nxv ((dkN rQ jQ) 5)), aN z ph 48 (va_cpy (hbA (dkN rQ jQ)) fhv 0 (nxv * 6) 6)]) (w1 := [(hn, .inr (3, [.ref hp, .ref hh, .int (nI ((drX (dkN rQ jQ)) 6)), .int (nI (hpF (drX (dkN rQ jQ)) ((drX (dkN rQ jQ)) 6))), .int (nI (chF (drX (dkN rQ jQ)) ((drX (dkN rQ jQ)) 6))), .int (nI ((drX (dkN rQ jQ)) 0)), .int (nI ((drX (dkN rQ jQ)) 1)), .int (nI ((drX (dkN rQ jQ)) 2)), .int (nI ((drX (dkN rQ jQ)) 3)), .int (nI ((drX (dkN rQ jQ)) 4)), .int (nI ((drX (dkN rQ jQ)) 5))]))]) (ws1 := [(o, .inr (10, [.ref hn, .ref pq, .ref gi, .ref gp, .int (nI ik), .ref h2, .ref tp, .ref rw9])), (hn, .inr (3, [.ref hp, .ref hh, .int (nI ((drX (dkN rQ jQ)) 6)), .int (nI (hpF (drX (dkN rQ jQ)) ((drX (dkN rQ jQ)) 6))), .int (nI (chF (drX (dkN rQ jQ)) ((drX (dkN rQ jQ)) 6))), .int (nI ((drX (dkN rQ jQ)) 0)), .int (nI ((drX (dkN rQ jQ)) 1)), .int (nI ((drX (dkN rQ jQ)) 2)), .int (nI ((drX (dkN rQ jQ)) 3)), .int (nI ((drX (dkN rQ jQ)) 4)), .int (nI ((drX (dkN rQ jQ)) 5))])), aP z hp 6 pf, aN z hh 6 (hbA (dkN rQ jQ)), (pq, .inr (5, [.ref pp, .ref pw, .ref pd, .ref ph, .int (nI (knU (unN un jQ) + 1)), .int (nI ((nxv + 1) % 8))])), aN z pp 8 (uN fpv nxv ((dkN rQ jQ) 0)), aN z pw 8 (uN fwv nxv ((dkN rQ jQ) 4)), aN z pd 8 (uN fdv nxv ((dkN rQ jQ) 5)), aN z ph 48 (va_cpy (hbA (dkN rQ jQ)) fhv 0 (nxv * 6) 6)]) (va_runV (As := []) (rest := [.ref hn, .int (nI (dsN rQ jQ))]) ⟨hx, hb, hml, hown, hts⟩ (c_X3_drawMishaps l D z H.size (w0Q + jQ) hn hp hh (dkN rQ jQ) (dkN_ok jQ hok)) (cwV 0 hts (gV m_439 m_440 m_441 m_78 m_139) rfl rfl rfl ⟨rfl, hd_X3_drawMishaps⟩ ⟨Nat.le_of_ble_eq_true rfl, Nat.le_of_ble_eq_true rfl⟩) (nv_preMV (ci := 3) (q0 := 0) hK hPc hDc trivial rfl rfl) rfl rfl hl.1 rfl (lv_room (Nat.le_of_ble_eq_true rfl)) dX10_drift_59 ⟨by decide, by decide⟩) hP hD hS hA [1] [0, 2, 3, 4, 5, 6, 7, 8] [0, 8, 1, 2, 3, 4, 5, 6, 7] rfl rfl (by decide) (by decide) rfl (by decide) rfl (by decide) (fun H locs hP hD hS hE59 hz59 hf59 => ?_)
          clear hPc hDc
          clear hf59 hz59
          have hP : va_P D vwCl [(o, .inr (10, [.ref hn, .ref pq, .ref gi, .ref gp, .int (nI ik), .ref h2, .ref tp, .ref rw9])), (hn, .inr (3, [.ref hp, .ref hh, .int (nI ((drX (dkN rQ jQ)) 6)), .int (nI (hpF (drX (dkN rQ jQ)) ((drX (dkN rQ jQ)) 6))), .int (nI (chF (drX (dkN rQ jQ)) ((drX (dkN rQ jQ)) 6))), .int (nI ((drX (dkN rQ jQ)) 0)), .int (nI ((drX (dkN rQ jQ)) 1)), .int (nI ((drX (dkN rQ jQ)) 2)), .int (nI ((drX (dkN rQ jQ)) 3)), .int (nI ((drX (dkN rQ jQ)) 4)), .int (nI ((drX (dkN rQ jQ)) 5))])), aP z hp 6 pf, aN z hh 6 (hbA (drX (dkN rQ jQ))), (pq, .inr (5, [.ref pp, .ref pw, .ref pd, .ref ph, .int (nI (knU (unN un jQ) + 1)), .int (nI ((nxv + 1) % 8))])), aN z pp 8 (uN fpv nxv ((dkN rQ jQ) 0)), aN z pw 8 (uN fwv nxv ((dkN rQ jQ) 4)), aN z pd 8 (uN fdv nxv ((dkN rQ jQ) 5)), aN z ph 48 (va_cpy (hbA (dkN rQ jQ)) fhv 0 (nxv * 6) 6)] H := by rw [show hbA (drX (dkN rQ jQ)) = hbA (dkN rQ jQ) from hbA_u _ 5 _ (by decide)]; exact hP
          have hD : va_D A [(o, .inr (10, [.ref hn, .ref pq, .ref gi, .ref gp, .int (nI ik), .ref h2, .ref tp, .ref rw9])), (hn, .inr (3, [.ref hp, .ref hh, .int (nI ((drX (dkN rQ jQ)) 6)), .int (nI (hpF (drX (dkN rQ jQ)) ((drX (dkN rQ jQ)) 6))), .int (nI (chF (drX (dkN rQ jQ)) ((drX (dkN rQ jQ)) 6))), .int (nI ((drX (dkN rQ jQ)) 0)), .int (nI ((drX (dkN rQ jQ)) 1)), .int (nI ((drX (dkN rQ jQ)) 2)), .int (nI ((drX (dkN rQ jQ)) 3)), .int (nI ((drX (dkN rQ jQ)) 4)), .int (nI ((drX (dkN rQ jQ)) 5))])), aP z hp 6 pf, aN z hh 6 (hbA (drX (dkN rQ jQ))), (pq, .inr (5, [.ref pp, .ref pw, .ref pd, .ref ph, .int (nI (knU (unN un jQ) + 1)), .int (nI ((nxv + 1) % 8))])), aN z pp 8 (uN fpv nxv ((dkN rQ jQ) 0)), aN z pw 8 (uN fwv nxv ((dkN rQ jQ) 4)), aN z pd 8 (uN fdv nxv ((dkN rQ jQ) 5)), aN z ph 48 (va_cpy (hbA (dkN rQ jQ)) fhv 0 (nxv * 6) 6)] := hD.same rfl
          have h85 : drX (dkN rQ jQ) 5 = drN (dkN rQ jQ 5) := uN_s _ _ _
          have hokx := drX_ok (dkN_ok jQ hok)
          have hpex := ((hN _ _ hS).dk jQ).u 5 (drN (dkN rQ jQ 5)) (by decide)
          have hpex : peH D _ pf (drX (dkN rQ jQ)) H := hpex
          have hdr : drN (dkN rQ jQ 5) / 65536 % 10 = drX (dkN rQ jQ) 5 / 65536 % 10 := by rw [h85]
          rw [hdr]
          obtain ⟨xr, hxr⟩ : ∃ xr : Nat → Nat, xr = drX (dkN rQ jQ) := ⟨_, rfl⟩
          rw [← hxr] at hP hD hokx hpex ⊢
          have hP : va_P D vwCl [(o, .inr (10, [.ref hn, .ref pq, .ref gi, .ref gp, .int (nI ik), .ref h2, .ref tp, .ref rw9])), (hn, .inr (3, [.ref hp, .ref hh, .int (nI (xr 6)), .int (nI (hpF xr (xr 6))), .int (nI (chF xr (xr 6))), .int (nI (xr 0)), .int (nI (xr 1)), .int (nI (xr 2)), .int (nI (xr 3)), .int (nI (xr 4)), .int (nI (xr 5))])), aP z hp 6 pf, aN z hh 6 (hbA xr), (pq, .inr (5, [.ref pp, .ref pw, .ref pd, .ref ph, .int (nI (knU (unN un jQ) + 1)), .int (nI ((nxv + 1) % 8))])), aN z pp 8 (uN fpv nxv ((dkN rQ jQ) 0)), aN z pw 8 (uN fwv nxv ((dkN rQ jQ) 4)), aN z pd 8 (uN fdv nxv ((dkN rQ jQ) 5)), aN z ph 48 (va_cpy (hbA (dkN rQ jQ)) fhv 0 (nxv * 6) 6)] H := hP
          have hD : va_D A [(o, .inr (10, [.ref hn, .ref pq, .ref gi, .ref gp, .int (nI ik), .ref h2, .ref tp, .ref rw9])), (hn, .inr (3, [.ref hp, .ref hh, .int (nI (xr 6)), .int (nI (hpF xr (xr 6))), .int (nI (chF xr (xr 6))), .int (nI (xr 0)), .int (nI (xr 1)), .int (nI (xr 2)), .int (nI (xr 3)), .int (nI (xr 4)), .int (nI (xr 5))])), aP z hp 6 pf, aN z hh 6 (hbA xr), (pq, .inr (5, [.ref pp, .ref pw, .ref pd, .ref ph, .int (nI (knU (unN un jQ) + 1)), .int (nI ((nxv + 1) % 8))])), aN z pp 8 (uN fpv nxv ((dkN rQ jQ) 0)), aN z pw 8 (uN fwv nxv ((dkN rQ jQ) 4)), aN z pd 8 (uN fdv nxv ((dkN rQ jQ) 5)), aN z ph 48 (va_cpy (hbA (dkN rQ jQ)) fhv 0 (nxv * 6) 6)] := hD
          have hPc := hP.sub (ws' := [(hn, .inr (3, [.ref hp, .ref hh, .int (nI (xr 6)), .int (nI (hpF xr (xr 6))), .int (nI (chF xr (xr 6))), .int (nI (xr 0)), .int (nI (xr 1)), .int (nI (xr 2)), .int (nI (xr 3)), .int (nI (xr 4)), .int (nI (xr 5))])), aP z hp 6 pf, aN z hh 6 (hbA xr)]) [1, 2, 3] rfl
          have hDc := hD.sub (ws' := [(hn, .inr (3, [.ref hp, .ref hh, .int (nI (xr 6)), .int (nI (hpF xr (xr 6))), .int (nI (chF xr (xr 6))), .int (nI (xr 0)), .int (nI (xr 1)), .int (nI (xr 2)), .int (nI (xr 3)), .int (nI (xr 4)), .int (nI (xr 5))])), aP z hp 6 pf, aN z hh 6 (hbA xr)]) [1, 2, 3] (by decide) rfl
          refine nv_cm1 (wc := [(hn, .inr (3, [.ref hp, .ref hh, .int (nI (xr 6)), .int (nI (hpF xr (xr 6))), .int (nI (chF xr (xr 6))), .int (nI (xr 0)), .int (nI (xr 1)), .int (nI (xr 2)), .int (nI (xr 3)), .int (nI (xr 4)), .int (nI (xr 5))])), aP z hp 6 pf, aN z hh 6 (hbA xr)]) (wr := [(o, .inr (10, [.ref hn, .ref pq, .ref gi, .ref gp, .int (nI ik), .ref h2, .ref tp, .ref rw9])), (pq, .inr (5, [.ref pp, .ref pw, .ref pd, .ref ph, .int (nI (knU (unN un jQ) + 1)), .int (nI ((nxv + 1) % 8))])), aN z pp 8 (uN fpv nxv ((dkN rQ jQ) 0)), aN z pw 8 (uN fwv nxv ((dkN rQ jQ) 4)), aN z pd 8 (uN fdv nxv ((dkN rQ jQ) 5)), aN z ph 48 (va_cpy (hbA (dkN rQ jQ)) fhv 0 (nxv * 6) 6)]) (w1 := [(hn, .inr (3, [.ref hp, .ref hh, .int (nI ((weekR xr (xr 5 / 65536 % 10)) 6)), .int (nI (hpF (weekR xr (xr 5 / 65536 % 10)) ((weekR xr (xr 5 / 65536 % 10)) 6))), .int (nI (chF (weekR xr (xr 5 / 65536 % 10)) ((weekR xr (xr 5 / 65536 % 10)) 6))), .int (nI ((weekR xr (xr 5 / 65536 % 10)) 0)), .int (nI ((weekR xr (xr 5 / 65536 % 10)) 1)), .int (nI ((weekR xr (xr 5 / 65536 % 10)) 2)), .int (nI ((weekR xr (xr 5 / 65536 % 10)) 3)), .int (nI ((weekR xr (xr 5 / 65536 % 10)) 4)), .int (nI ((weekR xr (xr 5 / 65536 % 10)) 5))])), aP z hp 6 pf, aN z hh 6 (hbA (weekR xr (xr 5 / 65536 % 10)))]) (ws1 := [(o, .inr (10, [.ref hn, .ref pq, .ref gi, .ref gp, .int (nI ik), .ref h2, .ref tp, .ref rw9])), (hn, .inr (3, [.ref hp, .ref hh, .int (nI ((weekR xr (xr 5 / 65536 % 10)) 6)), .int (nI (hpF (weekR xr (xr 5 / 65536 % 10)) ((weekR xr (xr 5 / 65536 % 10)) 6))), .int (nI (chF (weekR xr (xr 5 / 65536 % 10)) ((weekR xr (xr 5 / 65536 % 10)) 6))), .int (nI ((weekR xr (xr 5 / 65536 % 10)) 0)), .int (nI ((weekR xr (xr 5 / 65536 % 10)) 1)), .int (nI ((weekR xr (xr 5 / 65536 % 10)) 2)), .int (nI ((weekR xr (xr 5 / 65536 % 10)) 3)), .int (nI ((weekR xr (xr 5 / 65536 % 10)) 4)), .int (nI ((weekR xr (xr 5 / 65536 % 10)) 5))])), aP z hp 6 pf, aN z hh 6 (hbA (weekR xr (xr 5 / 65536 % 10))), (pq, .inr (5, [.ref pp, .ref pw, .ref pd, .ref ph, .int (nI (knU (unN un jQ) + 1)), .int (nI ((nxv + 1) % 8))])), aN z pp 8 (uN fpv nxv ((dkN rQ jQ) 0)), aN z pw 8 (uN fwv nxv ((dkN rQ jQ) 4)), aN z pd 8 (uN fdv nxv ((dkN rQ jQ) 5)), aN z ph 48 (va_cpy (hbA (dkN rQ jQ)) fhv 0 (nxv * 6) 6)]) (va_runV (As := [.int (nI (xr 5 / 65536 % 10))]) (rest := [.int (nI (dsN rQ jQ))]) ⟨hx, hb, hml, hown, hts⟩ (c_X3_live l D z H.size (w0Q + jQ) hn hp hh pf xr (xr 5 / 65536 % 10) hokx (by omega) (by first | assumption | omega)) (cwV 1 hts (gV m_436 m_135 m_136 m_78 m_133) rfl rfl rfl ⟨rfl, hd_X3_live⟩ ⟨Nat.le_of_ble_eq_true rfl, Nat.le_of_ble_eq_true rfl⟩) (nv_preMV (ci := 3) (q0 := 0) hK hPc hDc (hpex.to [1, 2, 3] rfl) rfl rfl) rfl rfl hl.1 rfl (lv_room (Nat.le_of_ble_eq_true rfl)) dX10_drift_62 ⟨by decide, by decide⟩) hP hD hS hA [1, 2, 3] [0, 4, 5, 6, 7, 8] [0, 6, 7, 8, 1, 2, 3, 4, 5] rfl rfl (by decide) (by decide) rfl (by decide) rfl (by decide) (fun H locs hP hD hS hE62 hz62 hf62 => ?_)
          clear hPc hDc
          clear hf62 hz62
          subst hxr
          refine nv_add hx hb dX10_drift_65 ?_
          refine lv_istore_n (lv' := [(2, .int (nI (dsN rQ jQ + (weekW (drX (dkN rQ jQ)) ((drX (dkN rQ jQ)) 5 / 65536 % 10))))), (0, .ref o), (1, .int (nI kQ)), (3, .int (nI jQ))]) hx hb dX10_drift_66 rfl hl (by decide) rfl (fun ls hl => ?_)
          refine lv_iinc (v := nI (jQ + 1)) (lv' := [(3, .int (nI (jQ + 1))), (2, .int (nI (dsN rQ jQ + (weekW (drX (dkN rQ jQ)) ((drX (dkN rQ jQ)) 5 / 65536 % 10))))), (0, .ref o), (1, .int (nI kQ))]) hx hb dX10_drift_67 hl (k := 3) rfl (nI_inc _) (by decide) rfl (fun ls hl => ?_)
          refine lv_goto (tgt := 34) hx hb dX10_drift_70 (by decide) ?_
          exact ih34 (jQ + 1, uN fpv nxv ((dkN rQ jQ) 0), uN fwv nxv ((dkN rQ jQ) 4), uN fdv nxv ((dkN rQ jQ) 5), va_cpy (hbA (dkN rQ jQ)) fhv 0 (nxv * 6) 6, (nxv + 1) % 8) _ _ _ (by show kQ - (jQ + 1) < kQ - jQ; omega) ⟨jQ + 1, uN fpv nxv ((dkN rQ jQ) 0), uN fwv nxv ((dkN rQ jQ) 4), uN fdv nxv ((dkN rQ jQ) 5), va_cpy (hbA (dkN rQ jQ)) fhv 0 (nxv * 6) 6, (nxv + 1) % 8, rfl, ⟨(by omega), (pg_know hpgv (dkN rQ jQ))⟩, hP, hD, hS, lv_sub hl [2, 3, 1, 0] rfl⟩
      · exact ⟨0, fp, fw, fd, fh, nx, rfl, ⟨(by omega), hpg⟩, hP, hD, hS, lv_sub hl [2, 3, 1, 0] rfl⟩
    · refine lv_bipush (v := (-3)) hx hb dX10_drift_27 (by decide +kernel) ?_
      obtain ⟨rfl, rfl, rfl, rfl⟩ := hrel.2.1 kQ rfl (by omega) (by omega) (by omega)
      exact nv_xi hx hb hr hlocks hS dX10_drift_29 (fp, fw, fd, fh, nx) hP hpg rfl
  · refine lv_iconst (v := (-1)) hx hb dX10_drift_10 (by decide +kernel) ?_
    obtain ⟨rfl, rfl, rfl, rfl⟩ := hrel.1 hc7
    exact nv_xi hx hb hr hlocks hS dX10_drift_11 (fp, fw, fd, fh, nx) hP hpg rfl

set_option maxHeartbeats 4000000 in
set_option maxRecDepth 100000 in
theorem c_X10_undo (l : Launch) (D : va_G) (z : Nat → ClassId) (sz : Nat) (o : Nat) (hn : Nat) (pq : Nat) (gi : Nat) (gp : Nat) (ik : Nat) (h2 : Nat) (tp : Nat) (rw9 : Nat) (hp : Nat) (hh : Nat) (rQ : Nat → Nat) (pp : Nat) (pw : Nat) (pd : Nat) (ph : Nat) (fp : Nat → Nat) (fw : Nat → Nat) (fd : Nat → Nat) (fh : Nat → Nat) (un : Nat) (nx : Nat) (psQ : Nat → Nat) (r1Q : Nat → Nat) (un1 : Nat) (vQ : Int32) (hpg : pgOK fp fw fd fh nx un psQ) (hrel : udRel rQ psQ un r1Q un1 vQ) : CX (σ := Nat) l yX10_undo cX10_undo 1 (some .int) 2 39 0 0 [.ref o] D z [(o, .inr (10, [.ref hn, .ref pq, .ref gi, .ref gp, .int (nI ik), .ref h2, .ref tp, .ref rw9])), (hn, .inr (3, [.ref hp, .ref hh, .int (nI (rQ 6)), .int (nI (hpF rQ (rQ 6))), .int (nI (chF rQ (rQ 6))), .int (nI (rQ 0)), .int (nI (rQ 1)), .int (nI (rQ 2)), .int (nI (rQ 3)), .int (nI (rQ 4)), .int (nI (rQ 5))])), aN z hh 6 (hbA rQ), (pq, .inr (5, [.ref pp, .ref pw, .ref pd, .ref ph, .int (nI un), .int (nI nx)])), aN z pp 8 fp, aN z pw 8 fw, aN z pd 8 fd, aN z ph 48 fh] sz (fun _ => True) (fun u => [(o, .inr (10, [.ref hn, .ref pq, .ref gi, .ref gp, .int (nI ik), .ref h2, .ref tp, .ref rw9])), (hn, .inr (3, [.ref hp, .ref hh, .int (nI (r1Q 6)), .int (nI (hpF r1Q (r1Q 6))), .int (nI (chF r1Q (r1Q 6))), .int (nI (r1Q 0)), .int (nI (r1Q 1)), .int (nI (r1Q 2)), .int (nI (r1Q 3)), .int (nI (r1Q 4)), .int (nI (r1Q 5))])), aN z hh 6 (hbA r1Q), (pq, .inr (5, [.ref pp, .ref pw, .ref pd, .ref ph, .int (nI un1), .int (nI u)])), aN z pp 8 fp, aN z pw 8 fw, aN z pd 8 fd, aN z ph 48 fh]) (some (.int vQ)) (fun u => (fun _ => pgOK fp fw fd fh u un1 psQ)) := by
  refine Met.ofW (cc := cX10_undo) (maxL := 1) (ret := (some .int)) (by decide) rfl ?_
  intro pg e s m args below meth c s₁ B hml hv
  obtain ⟨rfl, hsz, hP, hK, hD0, hE⟩ := hv
  have hx := B.exec
  have hb := B.bytes
  have hr := B.returns
  have hts : ∀ w ∈ ALL, w.before _ s = true := fun w h => atoms_spec (ws := wA yX10_undo cX10_undo 1 (some .int)) B.pre w (List.mem_cons_of_mem _ h)
  have hown : s.vm.findClass RX10 = some m.cls := findClass_of_methodNamed B.named
  have hlocks := B.notSynchronized
  subst hsz
  have hD := hD0.self (sz := s.heap.size)
  have hun := hpg.2.1
  have hA : ∀ q : Nat, s.heap.size ≤ q → va_A [(o, .inr (10, [.ref hn, .ref pq, .ref gi, .ref gp, .int (nI ik), .ref h2, .ref tp, .ref rw9])), (hn, .inr (3, [.ref hp, .ref hh, .int (nI (rQ 6)), .int (nI (hpF rQ (rQ 6))), .int (nI (chF rQ (rQ 6))), .int (nI (rQ 0)), .int (nI (rQ 1)), .int (nI (rQ 2)), .int (nI (rQ 3)), .int (nI (rQ 4)), .int (nI (rQ 5))])), aN z hh 6 (hbA rQ), (pq, .inr (5, [.ref pp, .ref pw, .ref pd, .ref ph, .int (nI un), .int (nI nx)])), aN z pp 8 fp, aN z pw 8 fw, aN z pd 8 fd, aN z ph 48 fh] s.heap.size q := fun q h => Or.inr h
  generalize va_A [(o, .inr (10, [.ref hn, .ref pq, .ref gi, .ref gp, .int (nI ik), .ref h2, .ref tp, .ref rw9])), (hn, .inr (3, [.ref hp, .ref hh, .int (nI (rQ 6)), .int (nI (hpF rQ (rQ 6))), .int (nI (chF rQ (rQ 6))), .int (nI (rQ 0)), .int (nI (rQ 1)), .int (nI (rQ 2)), .int (nI (rQ 3)), .int (nI (rQ 4)), .int (nI (rQ 5))])), aN z hh 6 (hbA rQ), (pq, .inr (5, [.ref pp, .ref pw, .ref pd, .ref ph, .int (nI un), .int (nI nx)])), aN z pp 8 fp, aN z pw 8 fw, aN z pd 8 fd, aN z ph 48 fh] s.heap.size = A at *
  have hS : va_S A s.heap s.heap [] := va_S.rf
  have hl := lv_entry ([.ref o]) (n := 1) (Nat.le_of_ble_eq_true rfl)
  rw [lg_entry_eq]
  generalize (lg_sl ([.ref o]) ++ List.replicate (1 - (lg_sl ([.ref o])).length) Slot.unset).toArray = ls at hl ⊢
  have hl : lv_has ls 1 [(0, .ref o)] := hl
  refine lv_aload_n hx hb dX10_undo_0 rfl (lv_at hl 0 rfl) ?_
  refine va_get (D := D) (ci := 10) (v := .ref pq) (C := RX10) (T := TX10) (N := 8) hx hb hts iX10 hown hK.1 hP 0 rfl rfl 1 (by decide) (hts _ m_351) (fun _ h9 => h9) rfl dX10_undo_1 ?_
  refine va_get (D := D) (ci := 5) (v := .int (nI un)) (C := RX5) (T := TX5) (N := 6) hx hb hts iX5 hown hK.1 hP 3 rfl rfl 4 (by decide) (hts _ m_424) (fun _ h9 => h9) rfl dX10_undo_4 ?_
  refine nv_ifne (tgt := 13) hx hb (by omega) dX10_undo_7 (by decide) (fun hc7 => ?_) (fun hc7 => ?_)
  · obtain ⟨rfl, rfl, rfl⟩ := hrel.2 hc7
    refine lv_aload_n hx hb dX10_undo_13 rfl (lv_at hl 0 rfl) ?_
    refine va_get (D := D) (ci := 10) (v := .ref pq) (C := RX10) (T := TX10) (N := 8) hx hb hts iX10 hown hK.1 hP 0 rfl rfl 1 (by decide) (hts _ m_351) (fun _ h9 => h9) rfl dX10_undo_14 ?_
    refine lv_aload_n hx hb dX10_undo_17 rfl (lv_at hl 0 rfl) ?_
    refine va_get (D := D) (ci := 10) (v := .ref hn) (C := RX10) (T := TX10) (N := 8) hx hb hts iX10 hown hK.1 hP 0 rfl rfl 0 (by decide) (hts _ m_347) (fun _ h9 => h9) rfl dX10_undo_18 ?_
    have hPc := hP.sub (ws' := [(pq, .inr (5, [.ref pp, .ref pw, .ref pd, .ref ph, .int (nI un), .int (nI nx)])), aN z pp 8 fp, aN z pw 8 fw, aN z pd 8 fd, aN z ph 48 fh, (hn, .inr (3, [.ref hp, .ref hh, .int (nI (rQ 6)), .int (nI (hpF rQ (rQ 6))), .int (nI (chF rQ (rQ 6))), .int (nI (rQ 0)), .int (nI (rQ 1)), .int (nI (rQ 2)), .int (nI (rQ 3)), .int (nI (rQ 4)), .int (nI (rQ 5))])), aN z hh 6 (hbA rQ)]) [3, 4, 5, 6, 7, 1, 2] rfl
    have hDc := hD.sub (ws' := [(pq, .inr (5, [.ref pp, .ref pw, .ref pd, .ref ph, .int (nI un), .int (nI nx)])), aN z pp 8 fp, aN z pw 8 fw, aN z pd 8 fd, aN z ph 48 fh, (hn, .inr (3, [.ref hp, .ref hh, .int (nI (rQ 6)), .int (nI (hpF rQ (rQ 6))), .int (nI (chF rQ (rQ 6))), .int (nI (rQ 0)), .int (nI (rQ 1)), .int (nI (rQ 2)), .int (nI (rQ 3)), .int (nI (rQ 4)), .int (nI (rQ 5))])), aN z hh 6 (hbA rQ)]) [3, 4, 5, 6, 7, 1, 2] (by decide) rfl
    refine nv_cm0 (wc := [(pq, .inr (5, [.ref pp, .ref pw, .ref pd, .ref ph, .int (nI un), .int (nI nx)])), aN z pp 8 fp, aN z pw 8 fw, aN z pd 8 fd, aN z ph 48 fh, (hn, .inr (3, [.ref hp, .ref hh, .int (nI (rQ 6)), .int (nI (hpF rQ (rQ 6))), .int (nI (chF rQ (rQ 6))), .int (nI (rQ 0)), .int (nI (rQ 1)), .int (nI (rQ 2)), .int (nI (rQ 3)), .int (nI (rQ 4)), .int (nI (rQ 5))])), aN z hh 6 (hbA rQ)]) (wr := [(o, .inr (10, [.ref hn, .ref pq, .ref gi, .ref gp, .int (nI ik), .ref h2, .ref tp, .ref rw9]))]) (w1 := [(pq, .inr (5, [.ref pp, .ref pw, .ref pd, .ref ph, .int (nI (un - 1)), .int (nI ((nx + 8 - 1) % 8))])), aN z pp 8 fp, aN z pw 8 fw, aN z pd 8 fd, aN z ph 48 fh, (hn, .inr (3, [.ref hp, .ref hh, .int (nI ((bkF rQ psQ (un - 1) 6) 6)), .int (nI (hpF (bkF rQ psQ (un - 1) 6) ((bkF rQ psQ (un - 1) 6) 6))), .int (nI (chF (bkF rQ psQ (un - 1) 6) ((bkF rQ psQ (un - 1) 6) 6))), .int (nI ((bkF rQ psQ (un - 1) 6) 0)), .int (nI ((bkF rQ psQ (un - 1) 6) 1)), .int (nI ((bkF rQ psQ (un - 1) 6) 2)), .int (nI ((bkF rQ psQ (un - 1) 6) 3)), .int (nI ((bkF rQ psQ (un - 1) 6) 4)), .int (nI ((bkF rQ psQ (un - 1) 6) 5))])), aN z hh 6 (hbA (bkF rQ psQ (un - 1) 6))]) (ws1 := [(o, .inr (10, [.ref hn, .ref pq, .ref gi, .ref gp, .int (nI ik), .ref h2, .ref tp, .ref rw9])), (hn, .inr (3, [.ref hp, .ref hh, .int (nI ((bkF rQ psQ (un - 1) 6) 6)), .int (nI (hpF (bkF rQ psQ (un - 1) 6) ((bkF rQ psQ (un - 1) 6) 6))), .int (nI (chF (bkF rQ psQ (un - 1) 6) ((bkF rQ psQ (un - 1) 6) 6))), .int (nI ((bkF rQ psQ (un - 1) 6) 0)), .int (nI ((bkF rQ psQ (un - 1) 6) 1)), .int (nI ((bkF rQ psQ (un - 1) 6) 2)), .int (nI ((bkF rQ psQ (un - 1) 6) 3)), .int (nI ((bkF rQ psQ (un - 1) 6) 4)), .int (nI ((bkF rQ psQ (un - 1) 6) 5))])), aN z hh 6 (hbA (bkF rQ psQ (un - 1) 6)), (pq, .inr (5, [.ref pp, .ref pw, .ref pd, .ref ph, .int (nI (un - 1)), .int (nI ((nx + 8 - 1) % 8))])), aN z pp 8 fp, aN z pw 8 fw, aN z pd 8 fd, aN z ph 48 fh]) (va_runV (As := [.ref hn]) (rest := []) ⟨hx, hb, hml, hown, hts⟩ (c_X5_bringBack l D z s.heap.size pq pp pw pd ph fp fw fd fh un nx hn hp hh rQ psQ (by first | assumption | omega) (by first | assumption | omega)) (cwV 1 hts (gV m_444 m_445 m_446 m_350 m_166) rfl rfl rfl ⟨rfl, hd_X5_bringBack⟩ ⟨Nat.le_of_ble_eq_true rfl, Nat.le_of_ble_eq_true rfl⟩) (nv_preMV (ci := 5) (q0 := 0) hK hPc hDc trivial rfl rfl) rfl rfl hl.1 rfl (lv_room (Nat.le_of_ble_eq_true rfl)) dX10_undo_21 ⟨by decide, by decide⟩) hP hD hS hA [3, 4, 5, 6, 7, 1, 2] [0] [0, 6, 7, 1, 2, 3, 4, 5] rfl rfl (by decide) (by decide) rfl (by decide) rfl (by decide) (fun H locs hP hD hS hE21 hz21 hf21 => ?_)
    clear hPc hDc
    clear hf21 hz21
    refine lv_aload_n hx hb dX10_undo_24 rfl (lv_at hl 0 rfl) ?_
    refine va_get (D := D) (ci := 10) (v := .ref pq) (C := RX10) (T := TX10) (N := 8) hx hb hts iX10 hown hK.1 hP 0 rfl rfl 1 (by decide) (hts _ m_351) (fun _ h9 => h9) rfl dX10_undo_25 ?_
    refine va_get (D := D) (ci := 5) (v := .int (nI (un - 1))) (C := RX5) (T := TX5) (N := 6) hx hb hts iX5 hown hK.1 hP 3 rfl rfl 4 (by decide) (hts _ m_424) (fun _ h9 => h9) rfl dX10_undo_28 ?_
    exact nv_xi hx hb hr hlocks hS dX10_undo_31 ((nx + 8 - 1) % 8) hP (pg_back hpg hc7).1 rfl
  · refine lv_bipush (v := (-4)) hx hb dX10_undo_10 (by decide +kernel) ?_
    obtain ⟨rfl, rfl, rfl⟩ := hrel.1 hc7
    exact nv_xi hx hb hr hlocks hS dX10_undo_12 nx hP hpg rfl

set_option maxHeartbeats 4000000 in
set_option maxRecDepth 100000 in
theorem c_X10_seed (l : Launch) (D : va_G) (z : Nat → ClassId) (sz : Nat) (o : Nat) (hn : Nat) (pq : Nat) (gi : Nat) (gp : Nat) (ik : Nat) (h2 : Nat) (tp : Nat) (rw9 : Nat) (hp : Nat) (hh : Nat) (rQ : Nat → Nat) (nv : Int32) (r1Q : Nat → Nat) (vQ : Int32) (hrel : sdRel rQ nv r1Q vQ) : CM l yX10_seed cX10_seed 3 (some .int) 0 0 0 0 [.ref o, .int nv] D z [(o, .inr (10, [.ref hn, .ref pq, .ref gi, .ref gp, .int (nI ik), .ref h2, .ref tp, .ref rw9])), (hn, .inr (3, [.ref hp, .ref hh, .int (nI (rQ 6)), .int (nI (hpF rQ (rQ 6))), .int (nI (chF rQ (rQ 6))), .int (nI (rQ 0)), .int (nI (rQ 1)), .int (nI (rQ 2)), .int (nI (rQ 3)), .int (nI (rQ 4)), .int (nI (rQ 5))])), aN z hh 6 (hbA rQ)] sz (fun _ => True) [(o, .inr (10, [.ref hn, .ref pq, .ref gi, .ref gp, .int (nI ik), .ref h2, .ref tp, .ref rw9])), (hn, .inr (3, [.ref hp, .ref hh, .int (nI (r1Q 6)), .int (nI (hpF r1Q (r1Q 6))), .int (nI (chF r1Q (r1Q 6))), .int (nI (r1Q 0)), .int (nI (r1Q 1)), .int (nI (r1Q 2)), .int (nI (r1Q 3)), .int (nI (r1Q 4)), .int (nI (r1Q 5))])), aN z hh 6 (hbA r1Q)] (some (.int vQ)) (fun _ => True) := by
  refine Met.ofW (cc := cX10_seed) (maxL := 3) (ret := (some .int)) (by decide) rfl ?_
  intro pg e s m args below meth c s₁ B hml hv
  obtain ⟨rfl, hsz, hP, hK, hD0, hE⟩ := hv
  have hx := B.exec
  have hb := B.bytes
  have hr := B.returns
  have hts : ∀ w ∈ ALL, w.before _ s = true := fun w h => atoms_spec (ws := wA yX10_seed cX10_seed 3 (some .int)) B.pre w (List.mem_cons_of_mem _ h)
  have hown : s.vm.findClass RX10 = some m.cls := findClass_of_methodNamed B.named
  have hlocks := B.notSynchronized
  subst hsz
  have hD := hD0.self (sz := s.heap.size)
  have hA : ∀ q : Nat, s.heap.size ≤ q → va_A [(o, .inr (10, [.ref hn, .ref pq, .ref gi, .ref gp, .int (nI ik), .ref h2, .ref tp, .ref rw9])), (hn, .inr (3, [.ref hp, .ref hh, .int (nI (rQ 6)), .int (nI (hpF rQ (rQ 6))), .int (nI (chF rQ (rQ 6))), .int (nI (rQ 0)), .int (nI (rQ 1)), .int (nI (rQ 2)), .int (nI (rQ 3)), .int (nI (rQ 4)), .int (nI (rQ 5))])), aN z hh 6 (hbA rQ)] s.heap.size q := fun q h => Or.inr h
  generalize va_A [(o, .inr (10, [.ref hn, .ref pq, .ref gi, .ref gp, .int (nI ik), .ref h2, .ref tp, .ref rw9])), (hn, .inr (3, [.ref hp, .ref hh, .int (nI (rQ 6)), .int (nI (hpF rQ (rQ 6))), .int (nI (chF rQ (rQ 6))), .int (nI (rQ 0)), .int (nI (rQ 1)), .int (nI (rQ 2)), .int (nI (rQ 3)), .int (nI (rQ 4)), .int (nI (rQ 5))])), aN z hh 6 (hbA rQ)] s.heap.size = A at *
  have hS : va_S A s.heap s.heap [] := va_S.rf
  have hl := lv_entry ([.ref o, .int nv]) (n := 3) (Nat.le_of_ble_eq_true rfl)
  rw [lg_entry_eq]
  generalize (lg_sl ([.ref o, .int nv]) ++ List.replicate (3 - (lg_sl ([.ref o, .int nv])).length) Slot.unset).toArray = ls at hl ⊢
  have hl : lv_has ls 3 [(0, .ref o), (1, .int nv)] := hl
  refine lv_iload_n hx hb dX10_seed_0 rfl (lv_at hl 1 rfl) ?_
  refine lv_if_ge (tgt := 6) hx hb dX10_seed_1 (by decide) (fun hc1 => ?_) (fun hc1 => ?_)
  · obtain ⟨kQ, hk, rfl⟩ := nI_of (x := nv) (Int32.not_lt.mpr hc1)
    obtain ⟨rfl, rfl⟩ := hrel.2 kQ rfl (by omega)
    refine lv_aload_n hx hb dX10_seed_6 rfl (lv_at hl 0 rfl) ?_
    refine va_get (D := D) (ci := 10) (v := .ref hn) (C := RX10) (T := TX10) (N := 8) hx hb hts iX10 hown hK.1 hP 0 rfl rfl 0 (by decide) (hts _ m_347) (fun _ h9 => h9) rfl dX10_seed_7 ?_
    refine va_get (D := D) (ci := 3) (v := .int (nI (rQ 5))) (C := RX3) (T := TX3) (N := 11) hx hb hts iX3 hown hK.1 hP 1 rfl rfl 10 (by decide) (hts _ m_448) (fun _ h9 => h9) rfl dX10_seed_10 ?_
    refine lv_istore_n (lv' := [(2, .int (nI (rQ 5))), (0, .ref o), (1, .int (nI kQ))]) hx hb dX10_seed_13 rfl hl (by decide) rfl (fun ls hl => ?_)
    refine lv_aload_n hx hb dX10_seed_14 rfl (lv_at hl 1 rfl) ?_
    refine va_get (D := D) (ci := 10) (v := .ref hn) (C := RX10) (T := TX10) (N := 8) hx hb hts iX10 hown hK.1 hP 0 rfl rfl 0 (by decide) (hts _ m_347) (fun _ h9 => h9) rfl dX10_seed_15 ?_
    refine lv_iload_n hx hb dX10_seed_18 rfl (lv_at hl 2 rfl) ?_
    refine va_put (D := D) (ci := 3) (v := .int (nI kQ)) (ty := tyX3 10) (C := RX3) (T := TX3) (N := 11) hx hb hts iX3 tyX3 tyX3_ok nmX3 hown hK.1 hP hD hS 1 rfl rfl 10 (by decide) (hts _ m_448) (fun _ h9 => h9) rfl (tyX3_ok 10 (by decide)) rfl rfl (Nat.le_of_ble_eq_true rfl) dX10_seed_19 (fun H locs hP hD hS => ?_)
    have hP : va_P D vwCl [(o, .inr (10, [.ref hn, .ref pq, .ref gi, .ref gp, .int (nI ik), .ref h2, .ref tp, .ref rw9])), (hn, .inr (3, [.ref hp, .ref hh, .int (nI (rQ 6)), .int (nI (hpF rQ (rQ 6))), .int (nI (chF rQ (rQ 6))), .int (nI (rQ 0)), .int (nI (rQ 1)), .int (nI (rQ 2)), .int (nI (rQ 3)), .int (nI (rQ 4)), .int (nI kQ)])), aN z hh 6 (hbA rQ)] H := hP
    have hD : va_D A [(o, .inr (10, [.ref hn, .ref pq, .ref gi, .ref gp, .int (nI ik), .ref h2, .ref tp, .ref rw9])), (hn, .inr (3, [.ref hp, .ref hh, .int (nI (rQ 6)), .int (nI (hpF rQ (rQ 6))), .int (nI (chF rQ (rQ 6))), .int (nI (rQ 0)), .int (nI (rQ 1)), .int (nI (rQ 2)), .int (nI (rQ 3)), .int (nI (rQ 4)), .int (nI kQ)])), aN z hh 6 (hbA rQ)] := hD
    refine lv_iload_n hx hb dX10_seed_22 rfl (lv_at hl 0 rfl) ?_
    exact nv_mi hx hb hr hlocks hS dX10_seed_23 (by rw [uN_n rQ (k := 5) (v := kQ) (j := 6) (by decide), hp_u rQ 5 kQ _ (by decide), ch_u rQ 5 kQ _ (by decide), uN_n rQ (k := 5) (v := kQ) (j := 0) (by decide), uN_n rQ (k := 5) (v := kQ) (j := 1) (by decide), uN_n rQ (k := 5) (v := kQ) (j := 2) (by decide), uN_n rQ (k := 5) (v := kQ) (j := 3) (by decide), uN_n rQ (k := 5) (v := kQ) (j := 4) (by decide), uN_s rQ 5 kQ, hbA_u rQ 5 kQ (by decide)]; exact hP) trivial rfl
  · refine lv_iconst (v := (-1)) hx hb dX10_seed_4 (by decide +kernel) ?_
    obtain ⟨rfl, rfl⟩ := hrel.1 (Int32.not_le.mp hc1)
    exact nv_mi hx hb hr hlocks hS dX10_seed_5 hP trivial rfl
