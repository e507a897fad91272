set_option maxHeartbeats 4000000 in
set_option maxRecDepth 100000 in
theorem c_X5_forget (l : Launch) (D : va_G) (z : Nat → ClassId) (sz : Nat) (pq : Nat) (pp : Nat) (pw : Nat) (pd : Nat) (ph : Nat) (un : Nat) (nx : Nat)  : CM l yX5_forget cX5_forget 1 none 0 0 0 0 [.ref pq] D z [(pq, .inr (5, [.ref pp, .ref pw, .ref pd, .ref ph, .int (nI un), .int (nI nx)]))] sz (fun _ => True) [(pq, .inr (5, [.ref pp, .ref pw, .ref pd, .ref ph, .int (nI 0), .int (nI nx)]))] none (fun _ => True) := by
  refine Met.ofW (cc := cX5_forget) (maxL := 1) (ret := none) (by decide) rfl ?_
  intro pg e s m args below meth c s₁ B hml hv
  obtain ⟨rfl, hsz, hP, hK, hD0, hE⟩ := hv
  have hx := B.exec
  have hb := B.bytes
  have hr := B.returns
  have hts : ∀ w ∈ ALL, w.before _ s = true := fun w h => atoms_spec (ws := wA yX5_forget cX5_forget 1 none) B.pre w (List.mem_cons_of_mem _ h)
  have hown : s.vm.findClass RX5 = some m.cls := findClass_of_methodNamed B.named
  have hlocks := B.notSynchronized
  subst hsz
  have hD := hD0.self (sz := s.heap.size)
  have hA : ∀ q : Nat, s.heap.size ≤ q → va_A [(pq, .inr (5, [.ref pp, .ref pw, .ref pd, .ref ph, .int (nI un), .int (nI nx)]))] s.heap.size q := fun q h => Or.inr h
  generalize va_A [(pq, .inr (5, [.ref pp, .ref pw, .ref pd, .ref ph, .int (nI un), .int (nI nx)]))] s.heap.size = A at *
  have hS : va_S A s.heap s.heap [] := va_S.rf
  have hl := lv_entry ([.ref pq]) (n := 1) (Nat.le_of_ble_eq_true rfl)
  rw [lg_entry_eq]
  generalize (lg_sl ([.ref pq]) ++ List.replicate (1 - (lg_sl ([.ref pq])).length) Slot.unset).toArray = ls at hl ⊢
  have hl : lv_has ls 1 [(0, .ref pq)] := hl
  refine lv_aload_n hx hb dX5_forget_0 rfl (lv_at hl 0 rfl) ?_
  refine lv_iconst (v := nI 0) hx hb dX5_forget_1 (by decide +kernel) ?_
  refine va_put (D := D) (ci := 5) (v := .int (nI 0)) (ty := tyX5 4) (C := RX5) (T := TX5) (N := 6) hx hb hts iX5 tyX5 tyX5_ok nmX5 hown hK.1 hP hD hS 0 rfl rfl 4 (by decide) (hts _ m_152) (fun _ h9 => h9) rfl (tyX5_ok 4 (by decide)) rfl rfl (Nat.le_of_ble_eq_true rfl) dX5_forget_2 (fun H locs hP hD hS => ?_)
  have hP : va_P D vwCl [(pq, .inr (5, [.ref pp, .ref pw, .ref pd, .ref ph, .int (nI 0), .int (nI nx)]))] H := hP
  have hD : va_D A [(pq, .inr (5, [.ref pp, .ref pw, .ref pd, .ref ph, .int (nI 0), .int (nI nx)]))] := hD
  exact nv_mv hx hb hr hlocks hS dX5_forget_5 hP trivial

set_option maxHeartbeats 4000000 in
set_option maxRecDepth 100000 in
theorem c_X5_become (l : Launch) (D : va_G) (z : Nat → ClassId) (sz : Nat) (pq : Nat) (pp : Nat) (pw : Nat) (pd : Nat) (ph : Nat) (fp0 : Nat → Nat) (fw0 : Nat → Nat) (fd0 : Nat → Nat) (fh0 : Nat → Nat) (un0 : Nat) (nx0 : Nat) (pq2 : Nat) (pp2 : Nat) (pw2 : Nat) (pd2 : Nat) (ph2 : Nat) (fp2 : Nat → Nat) (fw2 : Nat → Nat) (fd2 : Nat → Nat) (fh2 : Nat → Nat) (un2 : Nat) (nx2 : Nat)  : CM l yX5_become cX5_become 2 none 1 18 0 0 [.ref pq, .ref pq2] D z [(pq, .inr (5, [.ref pp, .ref pw, .ref pd, .ref ph, .int (nI un0), .int (nI nx0)])), aN z pp 8 fp0, aN z pw 8 fw0, aN z pd 8 fd0, aN z ph 48 fh0, (pq2, .inr (5, [.ref pp2, .ref pw2, .ref pd2, .ref ph2, .int (nI un2), .int (nI nx2)])), aN z pp2 8 fp2, aN z pw2 8 fw2, aN z pd2 8 fd2, aN z ph2 48 fh2] sz (fun _ => True) [(pq, .inr (5, [.ref pp, .ref pw, .ref pd, .ref ph, .int (nI un2), .int (nI nx2)])), aN z pp 8 fp2, aN z pw 8 fw2, aN z pd 8 fd2, aN z ph 48 fh2, (pq2, .inr (5, [.ref pp2, .ref pw2, .ref pd2, .ref ph2, .int (nI un2), .int (nI nx2)])), aN z pp2 8 fp2, aN z pw2 8 fw2, aN z pd2 8 fd2, aN z ph2 48 fh2] none (fun _ => True) := by
  refine Met.ofW (cc := cX5_become) (maxL := 2) (ret := none) (by decide) rfl ?_
  intro pg e s m args below meth c s₁ B hml hv
  obtain ⟨rfl, hsz, hP, hK, hD0, hE⟩ := hv
  have hx := B.exec
  have hb := B.bytes
  have hr := B.returns
  have hts : ∀ w ∈ ALL, w.before _ s = true := fun w h => atoms_spec (ws := wA yX5_become cX5_become 2 none) B.pre w (List.mem_cons_of_mem _ h)
  have hown : s.vm.findClass RX5 = some m.cls := findClass_of_methodNamed B.named
  have hlocks := B.notSynchronized
  subst hsz
  have hD := hD0.self (sz := s.heap.size)
  have hA : ∀ q : Nat, s.heap.size ≤ q → va_A [(pq, .inr (5, [.ref pp, .ref pw, .ref pd, .ref ph, .int (nI un0), .int (nI nx0)])), aN z pp 8 fp0, aN z pw 8 fw0, aN z pd 8 fd0, aN z ph 48 fh0, (pq2, .inr (5, [.ref pp2, .ref pw2, .ref pd2, .ref ph2, .int (nI un2), .int (nI nx2)])), aN z pp2 8 fp2, aN z pw2 8 fw2, aN z pd2 8 fd2, aN z ph2 48 fh2] s.heap.size q := fun q h => Or.inr h
  generalize va_A [(pq, .inr (5, [.ref pp, .ref pw, .ref pd, .ref ph, .int (nI un0), .int (nI nx0)])), aN z pp 8 fp0, aN z pw 8 fw0, aN z pd 8 fd0, aN z ph 48 fh0, (pq2, .inr (5, [.ref pp2, .ref pw2, .ref pd2, .ref ph2, .int (nI un2), .int (nI nx2)])), aN z pp2 8 fp2, aN z pw2 8 fw2, aN z pd2 8 fd2, aN z ph2 48 fh2] s.heap.size = A at *
  have hS : va_S A s.heap s.heap [] := va_S.rf
  have hl := lv_entry ([.ref pq, .ref pq2]) (n := 2) (Nat.le_of_ble_eq_true rfl)
  rw [lg_entry_eq]
  generalize (lg_sl ([.ref pq, .ref pq2]) ++ List.replicate (2 - (lg_sl ([.ref pq, .ref pq2])).length) Slot.unset).toArray = ls at hl ⊢
  have hl : lv_has ls 2 [(0, .ref pq), (1, .ref pq2)] := hl
  refine lv_aload_n hx hb dX5_become_0 rfl (lv_at hl 1 rfl) ?_
  refine va_get (D := D) (ci := 5) (v := .ref pp2) (C := RX5) (T := TX5) (N := 6) hx hb hts iX5 hown hK.1 hP 5 rfl rfl 0 (by decide) (hts _ m_148) (fun _ h9 => h9) rfl dX5_become_1 ?_
  refine lv_iconst (v := nI 0) hx hb dX5_become_4 (by decide +kernel) ?_
  refine lv_aload_n hx hb dX5_become_5 rfl (lv_at hl 0 rfl) ?_
  refine va_get (D := D) (ci := 5) (v := .ref pp) (C := RX5) (T := TX5) (N := 6) hx hb hts iX5 hown hK.1 hP 0 rfl rfl 0 (by decide) (hts _ m_148) (fun _ h9 => h9) rfl dX5_become_6 ?_
  refine lv_iconst (v := nI 0) hx hb dX5_become_9 (by decide +kernel) ?_
  refine lv_bipush (v := nI 8) hx hb dX5_become_10 (by decide +kernel) ?_
  refine nv_copy hx hb (hml.trans hl.1.symm) hown (hts _ m_155) (hts _ m_156) (hts _ m_157) (hts _ m_158) hK hP hD hS 6 1 rfl rfl (by omega) (by omega) (by decide) (by decide) (Nat.le_of_ble_eq_true rfl) (Nat.le_of_ble_eq_true rfl) dX5_become_12 (fun H locs hP hD hS => ?_)
  have hP : va_P D vwCl [(pq, .inr (5, [.ref pp, .ref pw, .ref pd, .ref ph, .int (nI un0), .int (nI nx0)])), aN z pp 8 (va_cpy fp2 fp0 0 0 8), aN z pw 8 fw0, aN z pd 8 fd0, aN z ph 48 fh0, (pq2, .inr (5, [.ref pp2, .ref pw2, .ref pd2, .ref ph2, .int (nI un2), .int (nI nx2)])), aN z pp2 8 fp2, aN z pw2 8 fw2, aN z pd2 8 fd2, aN z ph2 48 fh2] H := hP
  have hD : va_D A [(pq, .inr (5, [.ref pp, .ref pw, .ref pd, .ref ph, .int (nI un0), .int (nI nx0)])), aN z pp 8 (va_cpy fp2 fp0 0 0 8), aN z pw 8 fw0, aN z pd 8 fd0, aN z ph 48 fh0, (pq2, .inr (5, [.ref pp2, .ref pw2, .ref pd2, .ref ph2, .int (nI un2), .int (nI nx2)])), aN z pp2 8 fp2, aN z pw2 8 fw2, aN z pd2 8 fd2, aN z ph2 48 fh2] := hD
  refine lv_aload_n hx hb dX5_become_15 rfl (lv_at hl 1 rfl) ?_
  refine va_get (D := D) (ci := 5) (v := .ref pw2) (C := RX5) (T := TX5) (N := 6) hx hb hts iX5 hown hK.1 hP 5 rfl rfl 1 (by decide) (hts _ m_149) (fun _ h9 => h9) rfl dX5_become_16 ?_
  refine lv_iconst (v := nI 0) hx hb dX5_become_19 (by decide +kernel) ?_
  refine lv_aload_n hx hb dX5_become_20 rfl (lv_at hl 0 rfl) ?_
  refine va_get (D := D) (ci := 5) (v := .ref pw) (C := RX5) (T := TX5) (N := 6) hx hb hts iX5 hown hK.1 hP 0 rfl rfl 1 (by decide) (hts _ m_149) (fun _ h9 => h9) rfl dX5_become_21 ?_
  refine lv_iconst (v := nI 0) hx hb dX5_become_24 (by decide +kernel) ?_
  refine lv_bipush (v := nI 8) hx hb dX5_become_25 (by decide +kernel) ?_
  refine nv_copy hx hb (hml.trans hl.1.symm) hown (hts _ m_155) (hts _ m_156) (hts _ m_157) (hts _ m_158) hK hP hD hS 7 2 rfl rfl (by omega) (by omega) (by decide) (by decide) (Nat.le_of_ble_eq_true rfl) (Nat.le_of_ble_eq_true rfl) dX5_become_27 (fun H locs hP hD hS => ?_)
  have hP : va_P D vwCl [(pq, .inr (5, [.ref pp, .ref pw, .ref pd, .ref ph, .int (nI un0), .int (nI nx0)])), aN z pp 8 (va_cpy fp2 fp0 0 0 8), aN z pw 8 (va_cpy fw2 fw0 0 0 8), aN z pd 8 fd0, aN z ph 48 fh0, (pq2, .inr (5, [.ref pp2, .ref pw2, .ref pd2, .ref ph2, .int (nI un2), .int (nI nx2)])), aN z pp2 8 fp2, aN z pw2 8 fw2, aN z pd2 8 fd2, aN z ph2 48 fh2] H := hP
  have hD : va_D A [(pq, .inr (5, [.ref pp, .ref pw, .ref pd, .ref ph, .int (nI un0), .int (nI nx0)])), aN z pp 8 (va_cpy fp2 fp0 0 0 8), aN z pw 8 (va_cpy fw2 fw0 0 0 8), aN z pd 8 fd0, aN z ph 48 fh0, (pq2, .inr (5, [.ref pp2, .ref pw2, .ref pd2, .ref ph2, .int (nI un2), .int (nI nx2)])), aN z pp2 8 fp2, aN z pw2 8 fw2, aN z pd2 8 fd2, aN z ph2 48 fh2] := hD
  refine lv_aload_n hx hb dX5_become_30 rfl (lv_at hl 1 rfl) ?_
  refine va_get (D := D) (ci := 5) (v := .ref pd2) (C := RX5) (T := TX5) (N := 6) hx hb hts iX5 hown hK.1 hP 5 rfl rfl 2 (by decide) (hts _ m_150) (fun _ h9 => h9) rfl dX5_become_31 ?_
  refine lv_iconst (v := nI 0) hx hb dX5_become_34 (by decide +kernel) ?_
  refine lv_aload_n hx hb dX5_become_35 rfl (lv_at hl 0 rfl) ?_
  refine va_get (D := D) (ci := 5) (v := .ref pd) (C := RX5) (T := TX5) (N := 6) hx hb hts iX5 hown hK.1 hP 0 rfl rfl 2 (by decide) (hts _ m_150) (fun _ h9 => h9) rfl dX5_become_36 ?_
  refine lv_iconst (v := nI 0) hx hb dX5_become_39 (by decide +kernel) ?_
  refine lv_bipush (v := nI 8) hx hb dX5_become_40 (by decide +kernel) ?_
  refine nv_copy hx hb (hml.trans hl.1.symm) hown (hts _ m_155) (hts _ m_156) (hts _ m_157) (hts _ m_158) hK hP hD hS 8 3 rfl rfl (by omega) (by omega) (by decide) (by decide) (Nat.le_of_ble_eq_true rfl) (Nat.le_of_ble_eq_true rfl) dX5_become_42 (fun H locs hP hD hS => ?_)
  have hP : va_P D vwCl [(pq, .inr (5, [.ref pp, .ref pw, .ref pd, .ref ph, .int (nI un0), .int (nI nx0)])), aN z pp 8 (va_cpy fp2 fp0 0 0 8), aN z pw 8 (va_cpy fw2 fw0 0 0 8), aN z pd 8 (va_cpy fd2 fd0 0 0 8), aN z ph 48 fh0, (pq2, .inr (5, [.ref pp2, .ref pw2, .ref pd2, .ref ph2, .int (nI un2), .int (nI nx2)])), aN z pp2 8 fp2, aN z pw2 8 fw2, aN z pd2 8 fd2, aN z ph2 48 fh2] H := hP
  have hD : va_D A [(pq, .inr (5, [.ref pp, .ref pw, .ref pd, .ref ph, .int (nI un0), .int (nI nx0)])), aN z pp 8 (va_cpy fp2 fp0 0 0 8), aN z pw 8 (va_cpy fw2 fw0 0 0 8), aN z pd 8 (va_cpy fd2 fd0 0 0 8), aN z ph 48 fh0, (pq2, .inr (5, [.ref pp2, .ref pw2, .ref pd2, .ref ph2, .int (nI un2), .int (nI nx2)])), aN z pp2 8 fp2, aN z pw2 8 fw2, aN z pd2 8 fd2, aN z ph2 48 fh2] := hD
  refine lv_aload_n hx hb dX5_become_45 rfl (lv_at hl 1 rfl) ?_
  refine va_get (D := D) (ci := 5) (v := .ref ph2) (C := RX5) (T := TX5) (N := 6) hx hb hts iX5 hown hK.1 hP 5 rfl rfl 3 (by decide) (hts _ m_151) (fun _ h9 => h9) rfl dX5_become_46 ?_
  refine lv_iconst (v := nI 0) hx hb dX5_become_49 (by decide +kernel) ?_
  refine lv_aload_n hx hb dX5_become_50 rfl (lv_at hl 0 rfl) ?_
  refine va_get (D := D) (ci := 5) (v := .ref ph) (C := RX5) (T := TX5) (N := 6) hx hb hts iX5 hown hK.1 hP 0 rfl rfl 3 (by decide) (hts _ m_151) (fun _ h9 => h9) rfl dX5_become_51 ?_
  refine lv_iconst (v := nI 0) hx hb dX5_become_54 (by decide +kernel) ?_
  refine lv_bipush (v := nI 48) hx hb dX5_become_55 (by decide +kernel) ?_
  refine nv_copy hx hb (hml.trans hl.1.symm) hown (hts _ m_155) (hts _ m_156) (hts _ m_157) (hts _ m_158) hK hP hD hS 9 4 rfl rfl (by omega) (by omega) (by decide) (by decide) (Nat.le_of_ble_eq_true rfl) (Nat.le_of_ble_eq_true rfl) dX5_become_57 (fun H locs hP hD hS => ?_)
  have hP : va_P D vwCl [(pq, .inr (5, [.ref pp, .ref pw, .ref pd, .ref ph, .int (nI un0), .int (nI nx0)])), aN z pp 8 (va_cpy fp2 fp0 0 0 8), aN z pw 8 (va_cpy fw2 fw0 0 0 8), aN z pd 8 (va_cpy fd2 fd0 0 0 8), aN z ph 48 (va_cpy fh2 fh0 0 0 48), (pq2, .inr (5, [.ref pp2, .ref pw2, .ref pd2, .ref ph2, .int (nI un2), .int (nI nx2)])), aN z pp2 8 fp2, aN z pw2 8 fw2, aN z pd2 8 fd2, aN z ph2 48 fh2] H := hP
  have hD : va_D A [(pq, .inr (5, [.ref pp, .ref pw, .ref pd, .ref ph, .int (nI un0), .int (nI nx0)])), aN z pp 8 (va_cpy fp2 fp0 0 0 8), aN z pw 8 (va_cpy fw2 fw0 0 0 8), aN z pd 8 (va_cpy fd2 fd0 0 0 8), aN z ph 48 (va_cpy fh2 fh0 0 0 48), (pq2, .inr (5, [.ref pp2, .ref pw2, .ref pd2, .ref ph2, .int (nI un2), .int (nI nx2)])), aN z pp2 8 fp2, aN z pw2 8 fw2, aN z pd2 8 fd2, aN z ph2 48 fh2] := hD
  refine lv_aload_n hx hb dX5_become_60 rfl (lv_at hl 0 rfl) ?_
  refine lv_aload_n hx hb dX5_become_61 rfl (lv_at hl 1 rfl) ?_
  refine va_get (D := D) (ci := 5) (v := .int (nI un2)) (C := RX5) (T := TX5) (N := 6) hx hb hts iX5 hown hK.1 hP 5 rfl rfl 4 (by decide) (hts _ m_152) (fun _ h9 => h9) rfl dX5_become_62 ?_
  refine va_put (D := D) (ci := 5) (v := .int (nI un2)) (ty := tyX5 4) (C := RX5) (T := TX5) (N := 6) hx hb hts iX5 tyX5 tyX5_ok nmX5 hown hK.1 hP hD hS 0 rfl rfl 4 (by decide) (hts _ m_152) (fun _ h9 => h9) rfl (tyX5_ok 4 (by decide)) rfl rfl (Nat.le_of_ble_eq_true rfl) dX5_become_65 (fun H locs hP hD hS => ?_)
  have hP : va_P D vwCl [(pq, .inr (5, [.ref pp, .ref pw, .ref pd, .ref ph, .int (nI un2), .int (nI nx0)])), aN z pp 8 (va_cpy fp2 fp0 0 0 8), aN z pw 8 (va_cpy fw2 fw0 0 0 8), aN z pd 8 (va_cpy fd2 fd0 0 0 8), aN z ph 48 (va_cpy fh2 fh0 0 0 48), (pq2, .inr (5, [.ref pp2, .ref pw2, .ref pd2, .ref ph2, .int (nI un2), .int (nI nx2)])), aN z pp2 8 fp2, aN z pw2 8 fw2, aN z pd2 8 fd2, aN z ph2 48 fh2] H := hP
  have hD : va_D A [(pq, .inr (5, [.ref pp, .ref pw, .ref pd, .ref ph, .int (nI un2), .int (nI nx0)])), aN z pp 8 (va_cpy fp2 fp0 0 0 8), aN z pw 8 (va_cpy fw2 fw0 0 0 8), aN z pd 8 (va_cpy fd2 fd0 0 0 8), aN z ph 48 (va_cpy fh2 fh0 0 0 48), (pq2, .inr (5, [.ref pp2, .ref pw2, .ref pd2, .ref ph2, .int (nI un2), .int (nI nx2)])), aN z pp2 8 fp2, aN z pw2 8 fw2, aN z pd2 8 fd2, aN z ph2 48 fh2] := hD
  refine lv_aload_n hx hb dX5_become_68 rfl (lv_at hl 0 rfl) ?_
  refine lv_aload_n hx hb dX5_become_69 rfl (lv_at hl 1 rfl) ?_
  refine va_get (D := D) (ci := 5) (v := .int (nI nx2)) (C := RX5) (T := TX5) (N := 6) hx hb hts iX5 hown hK.1 hP 5 rfl rfl 5 (by decide) (hts _ m_153) (fun _ h9 => h9) rfl dX5_become_70 ?_
  refine va_put (D := D) (ci := 5) (v := .int (nI nx2)) (ty := tyX5 5) (C := RX5) (T := TX5) (N := 6) hx hb hts iX5 tyX5 tyX5_ok nmX5 hown hK.1 hP hD hS 0 rfl rfl 5 (by decide) (hts _ m_153) (fun _ h9 => h9) rfl (tyX5_ok 5 (by decide)) rfl rfl (Nat.le_of_ble_eq_true rfl) dX5_become_73 (fun H locs hP hD hS => ?_)
  have hP : va_P D vwCl [(pq, .inr (5, [.ref pp, .ref pw, .ref pd, .ref ph, .int (nI un2), .int (nI nx2)])), aN z pp 8 (va_cpy fp2 fp0 0 0 8), aN z pw 8 (va_cpy fw2 fw0 0 0 8), aN z pd 8 (va_cpy fd2 fd0 0 0 8), aN z ph 48 (va_cpy fh2 fh0 0 0 48), (pq2, .inr (5, [.ref pp2, .ref pw2, .ref pd2, .ref ph2, .int (nI un2), .int (nI nx2)])), aN z pp2 8 fp2, aN z pw2 8 fw2, aN z pd2 8 fd2, aN z ph2 48 fh2] H := hP
  have hD : va_D A [(pq, .inr (5, [.ref pp, .ref pw, .ref pd, .ref ph, .int (nI un2), .int (nI nx2)])), aN z pp 8 (va_cpy fp2 fp0 0 0 8), aN z pw 8 (va_cpy fw2 fw0 0 0 8), aN z pd 8 (va_cpy fd2 fd0 0 0 8), aN z ph 48 (va_cpy fh2 fh0 0 0 48), (pq2, .inr (5, [.ref pp2, .ref pw2, .ref pd2, .ref ph2, .int (nI un2), .int (nI nx2)])), aN z pp2 8 fp2, aN z pw2 8 fw2, aN z pd2 8 fd2, aN z ph2 48 fh2] := hD
  exact nv_mv hx hb hr hlocks hS dX5_become_76 (va_P.cg (va_P.cg (va_P.cg (va_P.cg hP 1 rfl (fun i hiQ => cpy_all _ _ _ _ hiQ)) 2 rfl (fun i hiQ => cpy_all _ _ _ _ hiQ)) 3 rfl (fun i hiQ => cpy_all _ _ _ _ hiQ)) 4 rfl (fun i hiQ => cpy_all _ _ _ _ hiQ)) trivial

set_option maxHeartbeats 4000000 in
set_option maxRecDepth 100000 in
theorem c_X5_remember (l : Launch) (D : va_G) (z : Nat → ClassId) (sz : Nat) (pq : Nat) (pp : Nat) (pw : Nat) (pd : Nat) (ph : Nat) (fp : Nat → Nat) (fw : Nat → Nat) (fd : Nat → Nat) (fh : Nat → Nat) (un : Nat) (nx : Nat) (hn : Nat) (hp : Nat) (hh : Nat) (rQ : Nat → Nat) (hnx : nx < 8) (hun : un ≤ 8) : CM l yX5_remember cX5_remember 2 none 1 18 0 0 [.ref pq, .ref hn] D z [(pq, .inr (5, [.ref pp, .ref pw, .ref pd, .ref ph, .int (nI un), .int (nI nx)])), aN z pp 8 fp, aN z pw 8 fw, aN z pd 8 fd, aN z ph 48 fh, (hn, .inr (3, [.ref hp, .ref hh, .int (nI (rQ 6)), .int (nI (hpF rQ (rQ 6))), .int (nI (chF rQ (rQ 6))), .int (nI (rQ 0)), .int (nI (rQ 1)), .int (nI (rQ 2)), .int (nI (rQ 3)), .int (nI (rQ 4)), .int (nI (rQ 5))])), aN z hh 6 (hbA rQ)] sz (fun _ => True) [(pq, .inr (5, [.ref pp, .ref pw, .ref pd, .ref ph, .int (nI (knU un + 1)), .int (nI ((nx + 1) % 8))])), aN z pp 8 (uN fp nx (rQ 0)), aN z pw 8 (uN fw nx (rQ 4)), aN z pd 8 (uN fd nx (rQ 5)), aN z ph 48 (va_cpy (hbA rQ) fh 0 (nx * 6) 6), (hn, .inr (3, [.ref hp, .ref hh, .int (nI (rQ 6)), .int (nI (hpF rQ (rQ 6))), .int (nI (chF rQ (rQ 6))), .int (nI (rQ 0)), .int (nI (rQ 1)), .int (nI (rQ 2)), .int (nI (rQ 3)), .int (nI (rQ 4)), .int (nI (rQ 5))])), aN z hh 6 (hbA rQ)] none (fun _ => True) := by
  refine Met.ofW (cc := cX5_remember) (maxL := 2) (ret := none) (by decide) rfl ?_
  intro pg e s m args below meth c s₁ B hml hv
  obtain ⟨rfl, hsz, hP, hK, hD0, hE⟩ := hv
  have hx := B.exec
  have hb := B.bytes
  have hr := B.returns
  have hts : ∀ w ∈ ALL, w.before _ s = true := fun w h => atoms_spec (ws := wA yX5_remember cX5_remember 2 none) B.pre w (List.mem_cons_of_mem _ h)
  have hown : s.vm.findClass RX5 = some m.cls := findClass_of_methodNamed B.named
  have hlocks := B.notSynchronized
  subst hsz
  have hD := hD0.self (sz := s.heap.size)
  have hA : ∀ q : Nat, s.heap.size ≤ q → va_A [(pq, .inr (5, [.ref pp, .ref pw, .ref pd, .ref ph, .int (nI un), .int (nI nx)])), aN z pp 8 fp, aN z pw 8 fw, aN z pd 8 fd, aN z ph 48 fh, (hn, .inr (3, [.ref hp, .ref hh, .int (nI (rQ 6)), .int (nI (hpF rQ (rQ 6))), .int (nI (chF rQ (rQ 6))), .int (nI (rQ 0)), .int (nI (rQ 1)), .int (nI (rQ 2)), .int (nI (rQ 3)), .int (nI (rQ 4)), .int (nI (rQ 5))])), aN z hh 6 (hbA rQ)] s.heap.size q := fun q h => Or.inr h
  generalize va_A [(pq, .inr (5, [.ref pp, .ref pw, .ref pd, .ref ph, .int (nI un), .int (nI nx)])), aN z pp 8 fp, aN z pw 8 fw, aN z pd 8 fd, aN z ph 48 fh, (hn, .inr (3, [.ref hp, .ref hh, .int (nI (rQ 6)), .int (nI (hpF rQ (rQ 6))), .int (nI (chF rQ (rQ 6))), .int (nI (rQ 0)), .int (nI (rQ 1)), .int (nI (rQ 2)), .int (nI (rQ 3)), .int (nI (rQ 4)), .int (nI (rQ 5))])), aN z hh 6 (hbA rQ)] s.heap.size = A at *
  have hS : va_S A s.heap s.heap [] := va_S.rf
  have hl := lv_entry ([.ref pq, .ref hn]) (n := 2) (Nat.le_of_ble_eq_true rfl)
  rw [lg_entry_eq]
  generalize (lg_sl ([.ref pq, .ref hn]) ++ List.replicate (2 - (lg_sl ([.ref pq, .ref hn])).length) Slot.unset).toArray = ls at hl ⊢
  have hl : lv_has ls 2 [(0, .ref pq), (1, .ref hn)] := hl
  refine lv_aload_n hx hb dX5_remember_0 rfl (lv_at hl 0 rfl) ?_
  refine va_get (D := D) (ci := 5) (v := .ref pp) (C := RX5) (T := TX5) (N := 6) hx hb hts iX5 hown hK.1 hP 0 rfl rfl 0 (by decide) (hts _ m_148) (fun _ h9 => h9) rfl dX5_remember_1 ?_
  refine lv_aload_n hx hb dX5_remember_4 rfl (lv_at hl 0 rfl) ?_
  refine va_get (D := D) (ci := 5) (v := .int (nI nx)) (C := RX5) (T := TX5) (N := 6) hx hb hts iX5 hown hK.1 hP 0 rfl rfl 5 (by decide) (hts _ m_153) (fun _ h9 => h9) rfl dX5_remember_5 ?_
  refine lv_aload_n hx hb dX5_remember_8 rfl (lv_at hl 1 rfl) ?_
  refine va_get (D := D) (ci := 3) (v := .int (nI (rQ 0))) (C := RX3) (T := TX3) (N := 11) hx hb hts iX3 hown hK.1 hP 5 rfl rfl 5 (by decide) (hts _ m_161) (fun _ h9 => h9) rfl dX5_remember_9 ?_
  refine nv_ast hx hb hK hP hD hS 1 rfl (by omega) (by decide) dX5_remember_12 (fun H locs hP hD hS => ?_)
  have hP : va_P D vwCl [(pq, .inr (5, [.ref pp, .ref pw, .ref pd, .ref ph, .int (nI un), .int (nI nx)])), aN z pp 8 (uN fp nx (rQ 0)), aN z pw 8 fw, aN z pd 8 fd, aN z ph 48 fh, (hn, .inr (3, [.ref hp, .ref hh, .int (nI (rQ 6)), .int (nI (hpF rQ (rQ 6))), .int (nI (chF rQ (rQ 6))), .int (nI (rQ 0)), .int (nI (rQ 1)), .int (nI (rQ 2)), .int (nI (rQ 3)), .int (nI (rQ 4)), .int (nI (rQ 5))])), aN z hh 6 (hbA rQ)] H := hP
  have hD : va_D A [(pq, .inr (5, [.ref pp, .ref pw, .ref pd, .ref ph, .int (nI un), .int (nI nx)])), aN z pp 8 (uN fp nx (rQ 0)), aN z pw 8 fw, aN z pd 8 fd, aN z ph 48 fh, (hn, .inr (3, [.ref hp, .ref hh, .int (nI (rQ 6)), .int (nI (hpF rQ (rQ 6))), .int (nI (chF rQ (rQ 6))), .int (nI (rQ 0)), .int (nI (rQ 1)), .int (nI (rQ 2)), .int (nI (rQ 3)), .int (nI (rQ 4)), .int (nI (rQ 5))])), aN z hh 6 (hbA rQ)] := hD
  refine lv_aload_n hx hb dX5_remember_13 rfl (lv_at hl 0 rfl) ?_
  refine va_get (D := D) (ci := 5) (v := .ref pw) (C := RX5) (T := TX5) (N := 6) hx hb hts iX5 hown hK.1 hP 0 rfl rfl 1 (by decide) (hts _ m_149) (fun _ h9 => h9) rfl dX5_remember_14 ?_
  refine lv_aload_n hx hb dX5_remember_17 rfl (lv_at hl 0 rfl) ?_
  refine va_get (D := D) (ci := 5) (v := .int (nI nx)) (C := RX5) (T := TX5) (N := 6) hx hb hts iX5 hown hK.1 hP 0 rfl rfl 5 (by decide) (hts _ m_153) (fun _ h9 => h9) rfl dX5_remember_18 ?_
  refine lv_aload_n hx hb dX5_remember_21 rfl (lv_at hl 1 rfl) ?_
  refine va_get (D := D) (ci := 3) (v := .int (nI (rQ 4))) (C := RX3) (T := TX3) (N := 11) hx hb hts iX3 hown hK.1 hP 5 rfl rfl 9 (by decide) (hts _ m_162) (fun _ h9 => h9) rfl dX5_remember_22 ?_
  refine nv_ast hx hb hK hP hD hS 2 rfl (by omega) (by decide) dX5_remember_25 (fun H locs hP hD hS => ?_)
  have hP : va_P D vwCl [(pq, .inr (5, [.ref pp, .ref pw, .ref pd, .ref ph, .int (nI un), .int (nI nx)])), aN z pp 8 (uN fp nx (rQ 0)), aN z pw 8 (uN fw nx (rQ 4)), aN z pd 8 fd, aN z ph 48 fh, (hn, .inr (3, [.ref hp, .ref hh, .int (nI (rQ 6)), .int (nI (hpF rQ (rQ 6))), .int (nI (chF rQ (rQ 6))), .int (nI (rQ 0)), .int (nI (rQ 1)), .int (nI (rQ 2)), .int (nI (rQ 3)), .int (nI (rQ 4)), .int (nI (rQ 5))])), aN z hh 6 (hbA rQ)] H := hP
  have hD : va_D A [(pq, .inr (5, [.ref pp, .ref pw, .ref pd, .ref ph, .int (nI un), .int (nI nx)])), aN z pp 8 (uN fp nx (rQ 0)), aN z pw 8 (uN fw nx (rQ 4)), aN z pd 8 fd, aN z ph 48 fh, (hn, .inr (3, [.ref hp, .ref hh, .int (nI (rQ 6)), .int (nI (hpF rQ (rQ 6))), .int (nI (chF rQ (rQ 6))), .int (nI (rQ 0)), .int (nI (rQ 1)), .int (nI (rQ 2)), .int (nI (rQ 3)), .int (nI (rQ 4)), .int (nI (rQ 5))])), aN z hh 6 (hbA rQ)] := hD
  refine lv_aload_n hx hb dX5_remember_26 rfl (lv_at hl 0 rfl) ?_
  refine va_get (D := D) (ci := 5) (v := .ref pd) (C := RX5) (T := TX5) (N := 6) hx hb hts iX5 hown hK.1 hP 0 rfl rfl 2 (by decide) (hts _ m_150) (fun _ h9 => h9) rfl dX5_remember_27 ?_
  refine lv_aload_n hx hb dX5_remember_30 rfl (lv_at hl 0 rfl) ?_
  refine va_get (D := D) (ci := 5) (v := .int (nI nx)) (C := RX5) (T := TX5) (N := 6) hx hb hts iX5 hown hK.1 hP 0 rfl rfl 5 (by decide) (hts _ m_153) (fun _ h9 => h9) rfl dX5_remember_31 ?_
  refine lv_aload_n hx hb dX5_remember_34 rfl (lv_at hl 1 rfl) ?_
  refine va_get (D := D) (ci := 3) (v := .int (nI (rQ 5))) (C := RX3) (T := TX3) (N := 11) hx hb hts iX3 hown hK.1 hP 5 rfl rfl 10 (by decide) (hts _ m_163) (fun _ h9 => h9) rfl dX5_remember_35 ?_
  refine nv_ast hx hb hK hP hD hS 3 rfl (by omega) (by decide) dX5_remember_38 (fun H locs hP hD hS => ?_)
  have hP : va_P D vwCl [(pq, .inr (5, [.ref pp, .ref pw, .ref pd, .ref ph, .int (nI un), .int (nI nx)])), aN z pp 8 (uN fp nx (rQ 0)), aN z pw 8 (uN fw nx (rQ 4)), aN z pd 8 (uN fd nx (rQ 5)), aN z ph 48 fh, (hn, .inr (3, [.ref hp, .ref hh, .int (nI (rQ 6)), .int (nI (hpF rQ (rQ 6))), .int (nI (chF rQ (rQ 6))), .int (nI (rQ 0)), .int (nI (rQ 1)), .int (nI (rQ 2)), .int (nI (rQ 3)), .int (nI (rQ 4)), .int (nI (rQ 5))])), aN z hh 6 (hbA rQ)] H := hP
  have hD : va_D A [(pq, .inr (5, [.ref pp, .ref pw, .ref pd, .ref ph, .int (nI un), .int (nI nx)])), aN z pp 8 (uN fp nx (rQ 0)), aN z pw 8 (uN fw nx (rQ 4)), aN z pd 8 (uN fd nx (rQ 5)), aN z ph 48 fh, (hn, .inr (3, [.ref hp, .ref hh, .int (nI (rQ 6)), .int (nI (hpF rQ (rQ 6))), .int (nI (chF rQ (rQ 6))), .int (nI (rQ 0)), .int (nI (rQ 1)), .int (nI (rQ 2)), .int (nI (rQ 3)), .int (nI (rQ 4)), .int (nI (rQ 5))])), aN z hh 6 (hbA rQ)] := hD
  refine lv_aload_n hx hb dX5_remember_39 rfl (lv_at hl 1 rfl) ?_
  refine va_get (D := D) (ci := 3) (v := .ref hh) (C := RX3) (T := TX3) (N := 11) hx hb hts iX3 hown hK.1 hP 5 rfl rfl 1 (by decide) (hts _ m_164) (fun _ h9 => h9) rfl dX5_remember_40 ?_
  refine lv_iconst (v := nI 0) hx hb dX5_remember_43 (by decide +kernel) ?_
  refine lv_aload_n hx hb dX5_remember_44 rfl (lv_at hl 0 rfl) ?_
  refine va_get (D := D) (ci := 5) (v := .ref ph) (C := RX5) (T := TX5) (N := 6) hx hb hts iX5 hown hK.1 hP 0 rfl rfl 3 (by decide) (hts _ m_151) (fun _ h9 => h9) rfl dX5_remember_45 ?_
  refine lv_aload_n hx hb dX5_remember_48 rfl (lv_at hl 0 rfl) ?_
  refine va_get (D := D) (ci := 5) (v := .int (nI nx)) (C := RX5) (T := TX5) (N := 6) hx hb hts iX5 hown hK.1 hP 0 rfl rfl 5 (by decide) (hts _ m_153) (fun _ h9 => h9) rfl dX5_remember_49 ?_
  refine lv_bipush (v := nI 6) hx hb dX5_remember_52 (by decide +kernel) ?_
  refine nv_mul hx hb dX5_remember_54 ?_
  refine lv_bipush (v := nI 6) hx hb dX5_remember_55 (by decide +kernel) ?_
  refine nv_copy hx hb (hml.trans hl.1.symm) hown (hts _ m_155) (hts _ m_156) (hts _ m_157) (hts _ m_158) hK hP hD hS 6 4 rfl rfl (by omega) (by omega) (by decide) (by decide) (Nat.le_of_ble_eq_true rfl) (Nat.le_of_ble_eq_true rfl) dX5_remember_57 (fun H locs hP hD hS => ?_)
  have hP : va_P D vwCl [(pq, .inr (5, [.ref pp, .ref pw, .ref pd, .ref ph, .int (nI un), .int (nI nx)])), aN z pp 8 (uN fp nx (rQ 0)), aN z pw 8 (uN fw nx (rQ 4)), aN z pd 8 (uN fd nx (rQ 5)), aN z ph 48 (va_cpy (hbA rQ) fh 0 (nx * 6) 6), (hn, .inr (3, [.ref hp, .ref hh, .int (nI (rQ 6)), .int (nI (hpF rQ (rQ 6))), .int (nI (chF rQ (rQ 6))), .int (nI (rQ 0)), .int (nI (rQ 1)), .int (nI (rQ 2)), .int (nI (rQ 3)), .int (nI (rQ 4)), .int (nI (rQ 5))])), aN z hh 6 (hbA rQ)] H := hP
  have hD : va_D A [(pq, .inr (5, [.ref pp, .ref pw, .ref pd, .ref ph, .int (nI un), .int (nI nx)])), aN z pp 8 (uN fp nx (rQ 0)), aN z pw 8 (uN fw nx (rQ 4)), aN z pd 8 (uN fd nx (rQ 5)), aN z ph 48 (va_cpy (hbA rQ) fh 0 (nx * 6) 6), (hn, .inr (3, [.ref hp, .ref hh, .int (nI (rQ 6)), .int (nI (hpF rQ (rQ 6))), .int (nI (chF rQ (rQ 6))), .int (nI (rQ 0)), .int (nI (rQ 1)), .int (nI (rQ 2)), .int (nI (rQ 3)), .int (nI (rQ 4)), .int (nI (rQ 5))])), aN z hh 6 (hbA rQ)] := hD
  refine lv_aload_n hx hb dX5_remember_60 rfl (lv_at hl 0 rfl) ?_
  refine lv_aload_n hx hb dX5_remember_61 rfl (lv_at hl 0 rfl) ?_
  refine va_get (D := D) (ci := 5) (v := .int (nI nx)) (C := RX5) (T := TX5) (N := 6) hx hb hts iX5 hown hK.1 hP 0 rfl rfl 5 (by decide) (hts _ m_153) (fun _ h9 => h9) rfl dX5_remember_62 ?_
  refine lv_iconst (v := nI 1) hx hb dX5_remember_65 (by decide +kernel) ?_
  refine nv_add hx hb dX5_remember_66 ?_
  refine lv_bipush (v := nI 8) hx hb dX5_remember_67 (by decide +kernel) ?_
  refine nv_rem hx hb (by omega) (by omega) (by omega) dX5_remember_69 ?_
  refine va_put (D := D) (ci := 5) (v := .int (nI ((nx + 1) % 8))) (ty := tyX5 5) (C := RX5) (T := TX5) (N := 6) hx hb hts iX5 tyX5 tyX5_ok nmX5 hown hK.1 hP hD hS 0 rfl rfl 5 (by decide) (hts _ m_153) (fun _ h9 => h9) rfl (tyX5_ok 5 (by decide)) rfl rfl (Nat.le_of_ble_eq_true rfl) dX5_remember_70 (fun H locs hP hD hS => ?_)
  have hP : va_P D vwCl [(pq, .inr (5, [.ref pp, .ref pw, .ref pd, .ref ph, .int (nI un), .int (nI ((nx + 1) % 8))])), aN z pp 8 (uN fp nx (rQ 0)), aN z pw 8 (uN fw nx (rQ 4)), aN z pd 8 (uN fd nx (rQ 5)), aN z ph 48 (va_cpy (hbA rQ) fh 0 (nx * 6) 6), (hn, .inr (3, [.ref hp, .ref hh, .int (nI (rQ 6)), .int (nI (hpF rQ (rQ 6))), .int (nI (chF rQ (rQ 6))), .int (nI (rQ 0)), .int (nI (rQ 1)), .int (nI (rQ 2)), .int (nI (rQ 3)), .int (nI (rQ 4)), .int (nI (rQ 5))])), aN z hh 6 (hbA rQ)] H := hP
  have hD : va_D A [(pq, .inr (5, [.ref pp, .ref pw, .ref pd, .ref ph, .int (nI un), .int (nI ((nx + 1) % 8))])), aN z pp 8 (uN fp nx (rQ 0)), aN z pw 8 (uN fw nx (rQ 4)), aN z pd 8 (uN fd nx (rQ 5)), aN z ph 48 (va_cpy (hbA rQ) fh 0 (nx * 6) 6), (hn, .inr (3, [.ref hp, .ref hh, .int (nI (rQ 6)), .int (nI (hpF rQ (rQ 6))), .int (nI (chF rQ (rQ 6))), .int (nI (rQ 0)), .int (nI (rQ 1)), .int (nI (rQ 2)), .int (nI (rQ 3)), .int (nI (rQ 4)), .int (nI (rQ 5))])), aN z hh 6 (hbA rQ)] := hD
  refine lv_aload_n hx hb dX5_remember_73 rfl (lv_at hl 0 rfl) ?_
  refine lv_bipush (v := nI 8) hx hb dX5_remember_74 (by decide +kernel) ?_
  refine lv_aload_n hx hb dX5_remember_76 rfl (lv_at hl 0 rfl) ?_
  refine va_get (D := D) (ci := 5) (v := .int (nI un)) (C := RX5) (T := TX5) (N := 6) hx hb hts iX5 hown hK.1 hP 0 rfl rfl 4 (by decide) (hts _ m_152) (fun _ h9 => h9) rfl dX5_remember_77 ?_
  refine lv_iconst (v := nI 1) hx hb dX5_remember_80 (by decide +kernel) ?_
  refine nv_add hx hb dX5_remember_81 ?_
  refine nv_mmin (r9 := nI (knU un + 1)) hx hb (hml.trans hl.1.symm) hown (hts _ m_165) (hts _ m_13) (hts _ m_14) (hts _ m_15) (Nat.le_of_ble_eq_true rfl) (Nat.le_of_ble_eq_true rfl) (Nat.le_of_ble_eq_true rfl) (Nat.le_of_ble_eq_true rfl) (by rw [mn_n (by omega) (by omega), kn_min hun]) dX5_remember_82 ?_
  refine va_put (D := D) (ci := 5) (v := .int (nI (knU un + 1))) (ty := tyX5 4) (C := RX5) (T := TX5) (N := 6) hx hb hts iX5 tyX5 tyX5_ok nmX5 hown hK.1 hP hD hS 0 rfl rfl 4 (by decide) (hts _ m_152) (fun _ h9 => h9) rfl (tyX5_ok 4 (by decide)) rfl rfl (Nat.le_of_ble_eq_true rfl) dX5_remember_85 (fun H locs hP hD hS => ?_)
  have hP : va_P D vwCl [(pq, .inr (5, [.ref pp, .ref pw, .ref pd, .ref ph, .int (nI (knU un + 1)), .int (nI ((nx + 1) % 8))])), aN z pp 8 (uN fp nx (rQ 0)), aN z pw 8 (uN fw nx (rQ 4)), aN z pd 8 (uN fd nx (rQ 5)), aN z ph 48 (va_cpy (hbA rQ) fh 0 (nx * 6) 6), (hn, .inr (3, [.ref hp, .ref hh, .int (nI (rQ 6)), .int (nI (hpF rQ (rQ 6))), .int (nI (chF rQ (rQ 6))), .int (nI (rQ 0)), .int (nI (rQ 1)), .int (nI (rQ 2)), .int (nI (rQ 3)), .int (nI (rQ 4)), .int (nI (rQ 5))])), aN z hh 6 (hbA rQ)] H := hP
  have hD : va_D A [(pq, .inr (5, [.ref pp, .ref pw, .ref pd, .ref ph, .int (nI (knU un + 1)), .int (nI ((nx + 1) % 8))])), aN z pp 8 (uN fp nx (rQ 0)), aN z pw 8 (uN fw nx (rQ 4)), aN z pd 8 (uN fd nx (rQ 5)), aN z ph 48 (va_cpy (hbA rQ) fh 0 (nx * 6) 6), (hn, .inr (3, [.ref hp, .ref hh, .int (nI (rQ 6)), .int (nI (hpF rQ (rQ 6))), .int (nI (chF rQ (rQ 6))), .int (nI (rQ 0)), .int (nI (rQ 1)), .int (nI (rQ 2)), .int (nI (rQ 3)), .int (nI (rQ 4)), .int (nI (rQ 5))])), aN z hh 6 (hbA rQ)] := hD
  exact nv_mv hx hb hr hlocks hS dX5_remember_88 hP trivial

set_option maxHeartbeats 4000000 in
set_option maxRecDepth 100000 in
theorem c_X5_bringBack (l : Launch) (D : va_G) (z : Nat → ClassId) (sz : Nat) (pq : Nat) (pp : Nat) (pw : Nat) (pd : Nat) (ph : Nat) (fp : Nat → Nat) (fw : Nat → Nat) (fd : Nat → Nat) (fh : Nat → Nat) (un : Nat) (nx : Nat) (hn : Nat) (hp : Nat) (hh : Nat) (rQ : Nat → Nat) (psQ : Nat → Nat) (hpg : pgOK fp fw fd fh nx un psQ) (hu0 : un ≠ 0) : CM l yX5_bringBack cX5_bringBack 2 none 1 18 0 0 [.ref pq, .ref hn] D z [(pq, .inr (5, [.ref pp, .ref pw, .ref pd, .ref ph, .int (nI un), .int (nI nx)])), aN z pp 8 fp, aN z pw 8 fw, aN z pd 8 fd, aN z ph 48 fh, (hn, .inr (3, [.ref hp, .ref hh, .int (nI (rQ 6)), .int (nI (hpF rQ (rQ 6))), .int (nI (chF rQ (rQ 6))), .int (nI (rQ 0)), .int (nI (rQ 1)), .int (nI (rQ 2)), .int (nI (rQ 3)), .int (nI (rQ 4)), .int (nI (rQ 5))])), aN z hh 6 (hbA rQ)] sz (fun _ => True) [(pq, .inr (5, [.ref pp, .ref pw, .ref pd, .ref ph, .int (nI (un - 1)), .int (nI ((nx + 8 - 1) % 8))])), aN z pp 8 fp, aN z pw 8 fw, aN z pd 8 fd, aN z ph 48 fh, (hn, .inr (3, [.ref hp, .ref hh, .int (nI ((bkF rQ psQ (un - 1) 6) 6)), .int (nI (hpF (bkF rQ psQ (un - 1) 6) ((bkF rQ psQ (un - 1) 6) 6))), .int (nI (chF (bkF rQ psQ (un - 1) 6) ((bkF rQ psQ (un - 1) 6) 6))), .int (nI ((bkF rQ psQ (un - 1) 6) 0)), .int (nI ((bkF rQ psQ (un - 1) 6) 1)), .int (nI ((bkF rQ psQ (un - 1) 6) 2)), .int (nI ((bkF rQ psQ (un - 1) 6) 3)), .int (nI ((bkF rQ psQ (un - 1) 6) 4)), .int (nI ((bkF rQ psQ (un - 1) 6) 5))])), aN z hh 6 (hbA (bkF rQ psQ (un - 1) 6))] none (fun _ => True) := by
  refine Met.ofW (cc := cX5_bringBack) (maxL := 2) (ret := none) (by decide) rfl ?_
  intro pg e s m args below meth c s₁ B hml hv
  obtain ⟨rfl, hsz, hP, hK, hD0, hE⟩ := hv
  have hx := B.exec
  have hb := B.bytes
  have hr := B.returns
  have hts : ∀ w ∈ ALL, w.before _ s = true := fun w h => atoms_spec (ws := wA yX5_bringBack cX5_bringBack 2 none) B.pre w (List.mem_cons_of_mem _ h)
  have hown : s.vm.findClass RX5 = some m.cls := findClass_of_methodNamed B.named
  have hlocks := B.notSynchronized
  subst hsz
  have hD := hD0.self (sz := s.heap.size)
  obtain ⟨hpg2, hg1, hg2, hg3, hg4⟩ := pg_back hpg hu0
  have hnx := hpg.1
  have hun := hpg.2.1
  have hA : ∀ q : Nat, s.heap.size ≤ q → va_A [(pq, .inr (5, [.ref pp, .ref pw, .ref pd, .ref ph, .int (nI un), .int (nI nx)])), aN z pp 8 fp, aN z pw 8 fw, aN z pd 8 fd, aN z ph 48 fh, (hn, .inr (3, [.ref hp, .ref hh, .int (nI (rQ 6)), .int (nI (hpF rQ (rQ 6))), .int (nI (chF rQ (rQ 6))), .int (nI (rQ 0)), .int (nI (rQ 1)), .int (nI (rQ 2)), .int (nI (rQ 3)), .int (nI (rQ 4)), .int (nI (rQ 5))])), aN z hh 6 (hbA rQ)] s.heap.size q := fun q h => Or.inr h
  generalize va_A [(pq, .inr (5, [.ref pp, .ref pw, .ref pd, .ref ph, .int (nI un), .int (nI nx)])), aN z pp 8 fp, aN z pw 8 fw, aN z pd 8 fd, aN z ph 48 fh, (hn, .inr (3, [.ref hp, .ref hh, .int (nI (rQ 6)), .int (nI (hpF rQ (rQ 6))), .int (nI (chF rQ (rQ 6))), .int (nI (rQ 0)), .int (nI (rQ 1)), .int (nI (rQ 2)), .int (nI (rQ 3)), .int (nI (rQ 4)), .int (nI (rQ 5))])), aN z hh 6 (hbA rQ)] s.heap.size = A at *
  have hS : va_S A s.heap s.heap [] := va_S.rf
  have hl := lv_entry ([.ref pq, .ref hn]) (n := 2) (Nat.le_of_ble_eq_true rfl)
  rw [lg_entry_eq]
  generalize (lg_sl ([.ref pq, .ref hn]) ++ List.replicate (2 - (lg_sl ([.ref pq, .ref hn])).length) Slot.unset).toArray = ls at hl ⊢
  have hl : lv_has ls 2 [(0, .ref pq), (1, .ref hn)] := hl
  refine lv_aload_n hx hb dX5_bringBack_0 rfl (lv_at hl 0 rfl) ?_
  refine va_get (D := D) (ci := 5) (v := .int (nI un)) (C := RX5) (T := TX5) (N := 6) hx hb hts iX5 hown hK.1 hP 0 rfl rfl 4 (by decide) (hts _ m_152) (fun _ h9 => h9) rfl dX5_bringBack_1 ?_
  refine nv_ifne (tgt := 8) hx hb (by omega) dX5_bringBack_4 (by decide) (fun hc4 => ?_) (fun hc4 => ?_)
  · refine lv_aload_n hx hb dX5_bringBack_8 rfl (lv_at hl 0 rfl) ?_
    refine lv_aload_n hx hb dX5_bringBack_9 rfl (lv_at hl 0 rfl) ?_
    refine va_get (D := D) (ci := 5) (v := .int (nI nx)) (C := RX5) (T := TX5) (N := 6) hx hb hts iX5 hown hK.1 hP 0 rfl rfl 5 (by decide) (hts _ m_153) (fun _ h9 => h9) rfl dX5_bringBack_10 ?_
    refine lv_bipush (v := nI 8) hx hb dX5_bringBack_13 (by decide +kernel) ?_
    refine nv_add hx hb dX5_bringBack_15 ?_
    refine lv_iconst (v := nI 1) hx hb dX5_bringBack_16 (by decide +kernel) ?_
    refine nv_sub hx hb (by omega) dX5_bringBack_17 ?_
    refine lv_bipush (v := nI 8) hx hb dX5_bringBack_18 (by decide +kernel) ?_
    refine nv_rem hx hb (by omega) (by omega) (by omega) dX5_bringBack_20 ?_
    refine va_put (D := D) (ci := 5) (v := .int (nI (((nx + 8) - 1) % 8))) (ty := tyX5 5) (C := RX5) (T := TX5) (N := 6) hx hb hts iX5 tyX5 tyX5_ok nmX5 hown hK.1 hP hD hS 0 rfl rfl 5 (by decide) (hts _ m_153) (fun _ h9 => h9) rfl (tyX5_ok 5 (by decide)) rfl rfl (Nat.le_of_ble_eq_true rfl) dX5_bringBack_21 (fun H locs hP hD hS => ?_)
    have hP : va_P D vwCl [(pq, .inr (5, [.ref pp, .ref pw, .ref pd, .ref ph, .int (nI un), .int (nI (((nx + 8) - 1) % 8))])), aN z pp 8 fp, aN z pw 8 fw, aN z pd 8 fd, aN z ph 48 fh, (hn, .inr (3, [.ref hp, .ref hh, .int (nI (rQ 6)), .int (nI (hpF rQ (rQ 6))), .int (nI (chF rQ (rQ 6))), .int (nI (rQ 0)), .int (nI (rQ 1)), .int (nI (rQ 2)), .int (nI (rQ 3)), .int (nI (rQ 4)), .int (nI (rQ 5))])), aN z hh 6 (hbA rQ)] H := hP
    have hD : va_D A [(pq, .inr (5, [.ref pp, .ref pw, .ref pd, .ref ph, .int (nI un), .int (nI (((nx + 8) - 1) % 8))])), aN z pp 8 fp, aN z pw 8 fw, aN z pd 8 fd, aN z ph 48 fh, (hn, .inr (3, [.ref hp, .ref hh, .int (nI (rQ 6)), .int (nI (hpF rQ (rQ 6))), .int (nI (chF rQ (rQ 6))), .int (nI (rQ 0)), .int (nI (rQ 1)), .int (nI (rQ 2)), .int (nI (rQ 3)), .int (nI (rQ 4)), .int (nI (rQ 5))])), aN z hh 6 (hbA rQ)] := hD
    refine lv_aload_n hx hb dX5_bringBack_24 rfl (lv_at hl 0 rfl) ?_
    refine lv_dup hx hb dX5_bringBack_25 rfl ?_
    refine va_get (D := D) (ci := 5) (v := .int (nI un)) (C := RX5) (T := TX5) (N := 6) hx hb hts iX5 hown hK.1 hP 0 rfl rfl 4 (by decide) (hts _ m_152) (fun _ h9 => h9) rfl dX5_bringBack_26 ?_
    refine lv_iconst (v := nI 1) hx hb dX5_bringBack_29 (by decide +kernel) ?_
    refine nv_sub hx hb (by omega) dX5_bringBack_30 ?_
    refine va_put (D := D) (ci := 5) (v := .int (nI (un - 1))) (ty := tyX5 4) (C := RX5) (T := TX5) (N := 6) hx hb hts iX5 tyX5 tyX5_ok nmX5 hown hK.1 hP hD hS 0 rfl rfl 4 (by decide) (hts _ m_152) (fun _ h9 => h9) rfl (tyX5_ok 4 (by decide)) rfl rfl (Nat.le_of_ble_eq_true rfl) dX5_bringBack_31 (fun H locs hP hD hS => ?_)
    have hP : va_P D vwCl [(pq, .inr (5, [.ref pp, .ref pw, .ref pd, .ref ph, .int (nI (un - 1)), .int (nI (((nx + 8) - 1) % 8))])), aN z pp 8 fp, aN z pw 8 fw, aN z pd 8 fd, aN z ph 48 fh, (hn, .inr (3, [.ref hp, .ref hh, .int (nI (rQ 6)), .int (nI (hpF rQ (rQ 6))), .int (nI (chF rQ (rQ 6))), .int (nI (rQ 0)), .int (nI (rQ 1)), .int (nI (rQ 2)), .int (nI (rQ 3)), .int (nI (rQ 4)), .int (nI (rQ 5))])), aN z hh 6 (hbA rQ)] H := hP
    have hD : va_D A [(pq, .inr (5, [.ref pp, .ref pw, .ref pd, .ref ph, .int (nI (un - 1)), .int (nI (((nx + 8) - 1) % 8))])), aN z pp 8 fp, aN z pw 8 fw, aN z pd 8 fd, aN z ph 48 fh, (hn, .inr (3, [.ref hp, .ref hh, .int (nI (rQ 6)), .int (nI (hpF rQ (rQ 6))), .int (nI (chF rQ (rQ 6))), .int (nI (rQ 0)), .int (nI (rQ 1)), .int (nI (rQ 2)), .int (nI (rQ 3)), .int (nI (rQ 4)), .int (nI (rQ 5))])), aN z hh 6 (hbA rQ)] := hD
    refine lv_aload_n hx hb dX5_bringBack_34 rfl (lv_at hl 1 rfl) ?_
    refine lv_aload_n hx hb dX5_bringBack_35 rfl (lv_at hl 0 rfl) ?_
    refine va_get (D := D) (ci := 5) (v := .ref pp) (C := RX5) (T := TX5) (N := 6) hx hb hts iX5 hown hK.1 hP 0 rfl rfl 0 (by decide) (hts _ m_148) (fun _ h9 => h9) rfl dX5_bringBack_36 ?_
    refine lv_aload_n hx hb dX5_bringBack_39 rfl (lv_at hl 0 rfl) ?_
    refine va_get (D := D) (ci := 5) (v := .int (nI (((nx + 8) - 1) % 8))) (C := RX5) (T := TX5) (N := 6) hx hb hts iX5 hown hK.1 hP 0 rfl rfl 5 (by decide) (hts _ m_153) (fun _ h9 => h9) rfl dX5_bringBack_40 ?_
    refine nv_ald hx hb hK hP 1 rfl (by omega) (by decide) dX5_bringBack_43 ?_
    refine va_put (D := D) (ci := 3) (v := .int (nI (fp (((nx + 8) - 1) % 8)))) (ty := tyX3 5) (C := RX3) (T := TX3) (N := 11) hx hb hts iX3 tyX3 tyX3_ok nmX3 hown hK.1 hP hD hS 5 rfl rfl 5 (by decide) (hts _ m_161) (fun _ h9 => h9) rfl (tyX3_ok 5 (by decide)) rfl rfl (Nat.le_of_ble_eq_true rfl) dX5_bringBack_44 (fun H locs hP hD hS => ?_)
    have hP : va_P D vwCl [(pq, .inr (5, [.ref pp, .ref pw, .ref pd, .ref ph, .int (nI (un - 1)), .int (nI (((nx + 8) - 1) % 8))])), aN z pp 8 fp, aN z pw 8 fw, aN z pd 8 fd, aN z ph 48 fh, (hn, .inr (3, [.ref hp, .ref hh, .int (nI (rQ 6)), .int (nI (hpF rQ (rQ 6))), .int (nI (chF rQ (rQ 6))), .int (nI (fp (((nx + 8) - 1) % 8))), .int (nI (rQ 1)), .int (nI (rQ 2)), .int (nI (rQ 3)), .int (nI (rQ 4)), .int (nI (rQ 5))])), aN z hh 6 (hbA rQ)] H := hP
    have hD : va_D A [(pq, .inr (5, [.ref pp, .ref pw, .ref pd, .ref ph, .int (nI (un - 1)), .int (nI (((nx + 8) - 1) % 8))])), aN z pp 8 fp, aN z pw 8 fw, aN z pd 8 fd, aN z ph 48 fh, (hn, .inr (3, [.ref hp, .ref hh, .int (nI (rQ 6)), .int (nI (hpF rQ (rQ 6))), .int (nI (chF rQ (rQ 6))), .int (nI (fp (((nx + 8) - 1) % 8))), .int (nI (rQ 1)), .int (nI (rQ 2)), .int (nI (rQ 3)), .int (nI (rQ 4)), .int (nI (rQ 5))])), aN z hh 6 (hbA rQ)] := hD
    refine lv_aload_n hx hb dX5_bringBack_47 rfl (lv_at hl 1 rfl) ?_
    refine lv_aload_n hx hb dX5_bringBack_48 rfl (lv_at hl 0 rfl) ?_
    refine va_get (D := D) (ci := 5) (v := .ref pw) (C := RX5) (T := TX5) (N := 6) hx hb hts iX5 hown hK.1 hP 0 rfl rfl 1 (by decide) (hts _ m_149) (fun _ h9 => h9) rfl dX5_bringBack_49 ?_
    refine lv_aload_n hx hb dX5_bringBack_52 rfl (lv_at hl 0 rfl) ?_
    refine va_get (D := D) (ci := 5) (v := .int (nI (((nx + 8) - 1) % 8))) (C := RX5) (T := TX5) (N := 6) hx hb hts iX5 hown hK.1 hP 0 rfl rfl 5 (by decide) (hts _ m_153) (fun _ h9 => h9) rfl dX5_bringBack_53 ?_
    refine nv_ald hx hb hK hP 2 rfl (by omega) (by decide) dX5_bringBack_56 ?_
    refine va_put (D := D) (ci := 3) (v := .int (nI (fw (((nx + 8) - 1) % 8)))) (ty := tyX3 9) (C := RX3) (T := TX3) (N := 11) hx hb hts iX3 tyX3 tyX3_ok nmX3 hown hK.1 hP hD hS 5 rfl rfl 9 (by decide) (hts _ m_162) (fun _ h9 => h9) rfl (tyX3_ok 9 (by decide)) rfl rfl (Nat.le_of_ble_eq_true rfl) dX5_bringBack_57 (fun H locs hP hD hS => ?_)
    have hP : va_P D vwCl [(pq, .inr (5, [.ref pp, .ref pw, .ref pd, .ref ph, .int (nI (un - 1)), .int (nI (((nx + 8) - 1) % 8))])), aN z pp 8 fp, aN z pw 8 fw, aN z pd 8 fd, aN z ph 48 fh, (hn, .inr (3, [.ref hp, .ref hh, .int (nI (rQ 6)), .int (nI (hpF rQ (rQ 6))), .int (nI (chF rQ (rQ 6))), .int (nI (fp (((nx + 8) - 1) % 8))), .int (nI (rQ 1)), .int (nI (rQ 2)), .int (nI (rQ 3)), .int (nI (fw (((nx + 8) - 1) % 8))), .int (nI (rQ 5))])), aN z hh 6 (hbA rQ)] H := hP
    have hD : va_D A [(pq, .inr (5, [.ref pp, .ref pw, .ref pd, .ref ph, .int (nI (un - 1)), .int (nI (((nx + 8) - 1) % 8))])), aN z pp 8 fp, aN z pw 8 fw, aN z pd 8 fd, aN z ph 48 fh, (hn, .inr (3, [.ref hp, .ref hh, .int (nI (rQ 6)), .int (nI (hpF rQ (rQ 6))), .int (nI (chF rQ (rQ 6))), .int (nI (fp (((nx + 8) - 1) % 8))), .int (nI (rQ 1)), .int (nI (rQ 2)), .int (nI (rQ 3)), .int (nI (fw (((nx + 8) - 1) % 8))), .int (nI (rQ 5))])), aN z hh 6 (hbA rQ)] := hD
    refine lv_aload_n hx hb dX5_bringBack_60 rfl (lv_at hl 1 rfl) ?_
    refine lv_aload_n hx hb dX5_bringBack_61 rfl (lv_at hl 0 rfl) ?_
    refine va_get (D := D) (ci := 5) (v := .ref pd) (C := RX5) (T := TX5) (N := 6) hx hb hts iX5 hown hK.1 hP 0 rfl rfl 2 (by decide) (hts _ m_150) (fun _ h9 => h9) rfl dX5_bringBack_62 ?_
    refine lv_aload_n hx hb dX5_bringBack_65 rfl (lv_at hl 0 rfl) ?_
    refine va_get (D := D) (ci := 5) (v := .int (nI (((nx + 8) - 1) % 8))) (C := RX5) (T := TX5) (N := 6) hx hb hts iX5 hown hK.1 hP 0 rfl rfl 5 (by decide) (hts _ m_153) (fun _ h9 => h9) rfl dX5_bringBack_66 ?_
    refine nv_ald hx hb hK hP 3 rfl (by omega) (by decide) dX5_bringBack_69 ?_
    refine va_put (D := D) (ci := 3) (v := .int (nI (fd (((nx + 8) - 1) % 8)))) (ty := tyX3 10) (C := RX3) (T := TX3) (N := 11) hx hb hts iX3 tyX3 tyX3_ok nmX3 hown hK.1 hP hD hS 5 rfl rfl 10 (by decide) (hts _ m_163) (fun _ h9 => h9) rfl (tyX3_ok 10 (by decide)) rfl rfl (Nat.le_of_ble_eq_true rfl) dX5_bringBack_70 (fun H locs hP hD hS => ?_)
    have hP : va_P D vwCl [(pq, .inr (5, [.ref pp, .ref pw, .ref pd, .ref ph, .int (nI (un - 1)), .int (nI (((nx + 8) - 1) % 8))])), aN z pp 8 fp, aN z pw 8 fw, aN z pd 8 fd, aN z ph 48 fh, (hn, .inr (3, [.ref hp, .ref hh, .int (nI (rQ 6)), .int (nI (hpF rQ (rQ 6))), .int (nI (chF rQ (rQ 6))), .int (nI (fp (((nx + 8) - 1) % 8))), .int (nI (rQ 1)), .int (nI (rQ 2)), .int (nI (rQ 3)), .int (nI (fw (((nx + 8) - 1) % 8))), .int (nI (fd (((nx + 8) - 1) % 8)))])), aN z hh 6 (hbA rQ)] H := hP
    have hD : va_D A [(pq, .inr (5, [.ref pp, .ref pw, .ref pd, .ref ph, .int (nI (un - 1)), .int (nI (((nx + 8) - 1) % 8))])), aN z pp 8 fp, aN z pw 8 fw, aN z pd 8 fd, aN z ph 48 fh, (hn, .inr (3, [.ref hp, .ref hh, .int (nI (rQ 6)), .int (nI (hpF rQ (rQ 6))), .int (nI (chF rQ (rQ 6))), .int (nI (fp (((nx + 8) - 1) % 8))), .int (nI (rQ 1)), .int (nI (rQ 2)), .int (nI (rQ 3)), .int (nI (fw (((nx + 8) - 1) % 8))), .int (nI (fd (((nx + 8) - 1) % 8)))])), aN z hh 6 (hbA rQ)] := hD
    refine lv_aload_n hx hb dX5_bringBack_73 rfl (lv_at hl 0 rfl) ?_
    refine va_get (D := D) (ci := 5) (v := .ref ph) (C := RX5) (T := TX5) (N := 6) hx hb hts iX5 hown hK.1 hP 0 rfl rfl 3 (by decide) (hts _ m_151) (fun _ h9 => h9) rfl dX5_bringBack_74 ?_
    refine lv_aload_n hx hb dX5_bringBack_77 rfl (lv_at hl 0 rfl) ?_
    refine va_get (D := D) (ci := 5) (v := .int (nI (((nx + 8) - 1) % 8))) (C := RX5) (T := TX5) (N := 6) hx hb hts iX5 hown hK.1 hP 0 rfl rfl 5 (by decide) (hts _ m_153) (fun _ h9 => h9) rfl dX5_bringBack_78 ?_
    refine lv_bipush (v := nI 6) hx hb dX5_bringBack_81 (by decide +kernel) ?_
    refine nv_mul hx hb dX5_bringBack_83 ?_
    refine lv_aload_n hx hb dX5_bringBack_84 rfl (lv_at hl 1 rfl) ?_
    refine va_get (D := D) (ci := 3) (v := .ref hh) (C := RX3) (T := TX3) (N := 11) hx hb hts iX3 hown hK.1 hP 5 rfl rfl 1 (by decide) (hts _ m_164) (fun _ h9 => h9) rfl dX5_bringBack_85 ?_
    refine lv_iconst (v := nI 0) hx hb dX5_bringBack_88 (by decide +kernel) ?_
    refine lv_bipush (v := nI 6) hx hb dX5_bringBack_89 (by decide +kernel) ?_
    refine nv_copy hx hb (hml.trans hl.1.symm) hown (hts _ m_155) (hts _ m_156) (hts _ m_157) (hts _ m_158) hK hP hD hS 4 6 rfl rfl (by omega) (by omega) (by decide) (by decide) (Nat.le_of_ble_eq_true rfl) (Nat.le_of_ble_eq_true rfl) dX5_bringBack_91 (fun H locs hP hD hS => ?_)
    have hP : va_P D vwCl [(pq, .inr (5, [.ref pp, .ref pw, .ref pd, .ref ph, .int (nI (un - 1)), .int (nI (((nx + 8) - 1) % 8))])), aN z pp 8 fp, aN z pw 8 fw, aN z pd 8 fd, aN z ph 48 fh, (hn, .inr (3, [.ref hp, .ref hh, .int (nI (rQ 6)), .int (nI (hpF rQ (rQ 6))), .int (nI (chF rQ (rQ 6))), .int (nI (fp (((nx + 8) - 1) % 8))), .int (nI (rQ 1)), .int (nI (rQ 2)), .int (nI (rQ 3)), .int (nI (fw (((nx + 8) - 1) % 8))), .int (nI (fd (((nx + 8) - 1) % 8)))])), aN z hh 6 (va_cpy fh (hbA rQ) ((((nx + 8) - 1) % 8) * 6) 0 6)] H := hP
    have hD : va_D A [(pq, .inr (5, [.ref pp, .ref pw, .ref pd, .ref ph, .int (nI (un - 1)), .int (nI (((nx + 8) - 1) % 8))])), aN z pp 8 fp, aN z pw 8 fw, aN z pd 8 fd, aN z ph 48 fh, (hn, .inr (3, [.ref hp, .ref hh, .int (nI (rQ 6)), .int (nI (hpF rQ (rQ 6))), .int (nI (chF rQ (rQ 6))), .int (nI (fp (((nx + 8) - 1) % 8))), .int (nI (rQ 1)), .int (nI (rQ 2)), .int (nI (rQ 3)), .int (nI (fw (((nx + 8) - 1) % 8))), .int (nI (fd (((nx + 8) - 1) % 8)))])), aN z hh 6 (va_cpy fh (hbA rQ) ((((nx + 8) - 1) % 8) * 6) 0 6)] := hD
    exact nv_mv hx hb hr hlocks hS dX5_bringBack_94 (by rw [bkF_at rQ psQ (un - 1) 6 (i := 6) (by decide) (by decide) (by decide) (fun p _ => by omega), hp_bk, ch_bk, (bkF_0 rQ psQ (un - 1) 6).1, (bkF_0 rQ psQ (un - 1) 6).2.1, (bkF_0 rQ psQ (un - 1) 6).2.2, bkF_at rQ psQ (un - 1) 6 (i := 1) (by decide) (by decide) (by decide) (fun p _ => by omega), bkF_at rQ psQ (un - 1) 6 (i := 2) (by decide) (by decide) (by decide) (fun p _ => by omega), bkF_at rQ psQ (un - 1) 6 (i := 3) (by decide) (by decide) (by decide) (fun p _ => by omega), ← hg1, ← hg2, ← hg3]; exact va_P.cg hP 6 rfl (fun i hiQ => by rw [pk_cpy_in (Nat.zero_le _) (by omega), hbA_at, bkF_h _ _ _ _ hiQ, ← hg4 i hiQ, show (nx + 8 - 1) % 8 * 6 + (i - 0) = 6 * ((nx + 8 - 1) % 8) + i by omega])) trivial
  · exact absurd hc4 hu0

set_option maxHeartbeats 4000000 in
set_option maxRecDepth 100000 in
theorem c_X7_lacks (l : Launch) (D : va_G) (z : Nat → ClassId) (ro : Nat) (ri : Nat) (sh9 : Nat) (ln9 : Nat) (mn9 : Nat) (ivQ : Int32) (nv : Int32) (hmn : mn9 ≤ 24) : CP l yX7_lacks cX7_lacks 3 (some .boolean) 0 0 [.ref ro, .int ivQ, .int nv] D z [(ro, .inr (7, [.ref ri, .int (nI sh9), .int (nI ln9), .int (nI mn9)]))] (fun _ => True) (some (.int (bI (¬ inb ivQ nv mn9)))) := by
  refine Met.ofW (cc := cX7_lacks) (maxL := 3) (ret := (some .boolean)) (by decide) rfl ?_
  intro pg e s m args below meth c s₁ B hml hv
  obtain ⟨rfl, hP, hK, hE⟩ := hv
  have hx := B.exec
  have hb := B.bytes
  have hr := B.returns
  have hts : ∀ w ∈ ALL, w.before _ s = true := fun w h => atoms_spec (ws := wA yX7_lacks cX7_lacks 3 (some .boolean)) B.pre w (List.mem_cons_of_mem _ h)
  have hown : s.vm.findClass RX7 = some m.cls := findClass_of_methodNamed B.named
  have hlocks := B.notSynchronized
  have hl := lv_entry ([.ref ro, .int ivQ, .int nv]) (n := 3) (Nat.le_of_ble_eq_true rfl)
  rw [lg_entry_eq]
  generalize (lg_sl ([.ref ro, .int ivQ, .int nv]) ++ List.replicate (3 - (lg_sl ([.ref ro, .int ivQ, .int nv])).length) Slot.unset).toArray = ls at hl ⊢
  have hl : lv_has ls 3 [(0, .ref ro), (1, .int ivQ), (2, .int nv)] := hl
  refine lv_iload_n hx hb dX7_lacks_0 rfl (lv_at hl 1 rfl) ?_
  refine lv_if_lt (tgt := 26) hx hb dX7_lacks_1 (by decide) (fun hc1 => ?_) (fun hc1 => ?_)
  · refine lv_iconst (v := nI 1) hx hb dX7_lacks_26 (by decide +kernel) ?_
    refine lv_goto (tgt := 31) hx hb dX7_lacks_27 (by decide) ?_
    exact nv_rz hx hb hr hlocks dX7_lacks_31 (by first | exact (bI_t (P := ¬ inb ivQ nv mn9) (fun q9 => absurd ((fo_lt _).mp hc1) (by have := q9.1; omega))).symm | exact (bI_t (P := ¬ inb ivQ nv mn9) (fun q9 => absurd ((fo_lt _).mp hc5) (by have := q9.2.1; omega))).symm | exact (bI_t (P := ¬ inb ivQ nv mn9) (fun q9 => by have h1 := q9.1; have h2 := q9.2.1; have h3 := q9.2.2; rw [Int32.lt_iff_toInt_lt, nI_toInt (by omega)] at hc13; omega)).symm | exact (bI_t (P := ¬ inb ivQ nv mn9) (fun q9 => by have h3 := q9.2.2; rw [Int32.le_iff_toInt_le, la_sub hc1 hc13 (by omega)] at hc23; omega)).symm | exact (bI_f (P := ¬ inb ivQ nv mn9) (fun q9 => q9 ⟨Int.not_lt.mp (fun q8 => hc1 ((fo_lt _).mpr q8)), Int.not_lt.mp (fun q8 => hc5 ((fo_lt _).mpr q8)), by have h3 := hc23; rw [Int32.le_iff_toInt_le, la_sub hc1 hc13 (by omega)] at h3; omega⟩)).symm) bI_nar
  · refine lv_iload_n hx hb dX7_lacks_4 rfl (lv_at hl 2 rfl) ?_
    refine lv_if_lt (tgt := 26) hx hb dX7_lacks_5 (by decide) (fun hc5 => ?_) (fun hc5 => ?_)
    · refine lv_iconst (v := nI 1) hx hb dX7_lacks_26 (by decide +kernel) ?_
      refine lv_goto (tgt := 31) hx hb dX7_lacks_27 (by decide) ?_
      exact nv_rz hx hb hr hlocks dX7_lacks_31 (by first | exact (bI_t (P := ¬ inb ivQ nv mn9) (fun q9 => absurd ((fo_lt _).mp hc1) (by have := q9.1; omega))).symm | exact (bI_t (P := ¬ inb ivQ nv mn9) (fun q9 => absurd ((fo_lt _).mp hc5) (by have := q9.2.1; omega))).symm | exact (bI_t (P := ¬ inb ivQ nv mn9) (fun q9 => by have h1 := q9.1; have h2 := q9.2.1; have h3 := q9.2.2; rw [Int32.lt_iff_toInt_lt, nI_toInt (by omega)] at hc13; omega)).symm | exact (bI_t (P := ¬ inb ivQ nv mn9) (fun q9 => by have h3 := q9.2.2; rw [Int32.le_iff_toInt_le, la_sub hc1 hc13 (by omega)] at hc23; omega)).symm | exact (bI_f (P := ¬ inb ivQ nv mn9) (fun q9 => q9 ⟨Int.not_lt.mp (fun q8 => hc1 ((fo_lt _).mpr q8)), Int.not_lt.mp (fun q8 => hc5 ((fo_lt _).mpr q8)), by have h3 := hc23; rw [Int32.le_iff_toInt_le, la_sub hc1 hc13 (by omega)] at h3; omega⟩)).symm) bI_nar
    · refine lv_iload_n hx hb dX7_lacks_8 rfl (lv_at hl 1 rfl) ?_
      refine lv_aload_n hx hb dX7_lacks_9 rfl (lv_at hl 0 rfl) ?_
      refine va_get (D := D) (ci := 7) (v := .int (nI mn9)) (C := RX7) (T := TX7) (N := 4) hx hb hts iX7 hown hK.1 hP 0 rfl rfl 3 (by decide) (hts _ m_174) (fun _ h9 => h9) rfl dX7_lacks_10 ?_
      refine lv_icmp_gt (tgt := 26) hx hb dX7_lacks_13 (by decide) (fun hc13 => ?_) (fun hc13 => ?_)
      · refine lv_iconst (v := nI 1) hx hb dX7_lacks_26 (by decide +kernel) ?_
        refine lv_goto (tgt := 31) hx hb dX7_lacks_27 (by decide) ?_
        exact nv_rz hx hb hr hlocks dX7_lacks_31 (by first | exact (bI_t (P := ¬ inb ivQ nv mn9) (fun q9 => absurd ((fo_lt _).mp hc1) (by have := q9.1; omega))).symm | exact (bI_t (P := ¬ inb ivQ nv mn9) (fun q9 => absurd ((fo_lt _).mp hc5) (by have := q9.2.1; omega))).symm | exact (bI_t (P := ¬ inb ivQ nv mn9) (fun q9 => by have h1 := q9.1; have h2 := q9.2.1; have h3 := q9.2.2; rw [Int32.lt_iff_toInt_lt, nI_toInt (by omega)] at hc13; omega)).symm | exact (bI_t (P := ¬ inb ivQ nv mn9) (fun q9 => by have h3 := q9.2.2; rw [Int32.le_iff_toInt_le, la_sub hc1 hc13 (by omega)] at hc23; omega)).symm | exact (bI_f (P := ¬ inb ivQ nv mn9) (fun q9 => q9 ⟨Int.not_lt.mp (fun q8 => hc1 ((fo_lt _).mpr q8)), Int.not_lt.mp (fun q8 => hc5 ((fo_lt _).mpr q8)), by have h3 := hc23; rw [Int32.le_iff_toInt_le, la_sub hc1 hc13 (by omega)] at h3; omega⟩)).symm) bI_nar
      · refine lv_iload_n hx hb dX7_lacks_16 rfl (lv_at hl 2 rfl) ?_
        refine lv_aload_n hx hb dX7_lacks_17 rfl (lv_at hl 0 rfl) ?_
        refine va_get (D := D) (ci := 7) (v := .int (nI mn9)) (C := RX7) (T := TX7) (N := 4) hx hb hts iX7 hown hK.1 hP 0 rfl rfl 3 (by decide) (hts _ m_174) (fun _ h9 => h9) rfl dX7_lacks_18 ?_
        refine lv_iload_n hx hb dX7_lacks_21 rfl (lv_at hl 1 rfl) ?_
        refine lv_isub hx hb dX7_lacks_22 ?_
        refine lv_icmp_le (tgt := 30) hx hb dX7_lacks_23 (by decide) (fun hc23 => ?_) (fun hc23 => ?_)
        · refine lv_iconst (v := nI 0) hx hb dX7_lacks_30 (by decide +kernel) ?_
          exact nv_rz hx hb hr hlocks dX7_lacks_31 (by first | exact (bI_t (P := ¬ inb ivQ nv mn9) (fun q9 => absurd ((fo_lt _).mp hc1) (by have := q9.1; omega))).symm | exact (bI_t (P := ¬ inb ivQ nv mn9) (fun q9 => absurd ((fo_lt _).mp hc5) (by have := q9.2.1; omega))).symm | exact (bI_t (P := ¬ inb ivQ nv mn9) (fun q9 => by have h1 := q9.1; have h2 := q9.2.1; have h3 := q9.2.2; rw [Int32.lt_iff_toInt_lt, nI_toInt (by omega)] at hc13; omega)).symm | exact (bI_t (P := ¬ inb ivQ nv mn9) (fun q9 => by have h3 := q9.2.2; rw [Int32.le_iff_toInt_le, la_sub hc1 hc13 (by omega)] at hc23; omega)).symm | exact (bI_f (P := ¬ inb ivQ nv mn9) (fun q9 => q9 ⟨Int.not_lt.mp (fun q8 => hc1 ((fo_lt _).mpr q8)), Int.not_lt.mp (fun q8 => hc5 ((fo_lt _).mpr q8)), by have h3 := hc23; rw [Int32.le_iff_toInt_le, la_sub hc1 hc13 (by omega)] at h3; omega⟩)).symm) bI_nar
        · refine lv_iconst (v := nI 1) hx hb dX7_lacks_26 (by decide +kernel) ?_
          refine lv_goto (tgt := 31) hx hb dX7_lacks_27 (by decide) ?_
          exact nv_rz hx hb hr hlocks dX7_lacks_31 (by first | exact (bI_t (P := ¬ inb ivQ nv mn9) (fun q9 => absurd ((fo_lt _).mp hc1) (by have := q9.1; omega))).symm | exact (bI_t (P := ¬ inb ivQ nv mn9) (fun q9 => absurd ((fo_lt _).mp hc5) (by have := q9.2.1; omega))).symm | exact (bI_t (P := ¬ inb ivQ nv mn9) (fun q9 => by have h1 := q9.1; have h2 := q9.2.1; have h3 := q9.2.2; rw [Int32.lt_iff_toInt_lt, nI_toInt (by omega)] at hc13; omega)).symm | exact (bI_t (P := ¬ inb ivQ nv mn9) (fun q9 => by have h3 := q9.2.2; rw [Int32.le_iff_toInt_le, la_sub hc1 hc13 (by omega)] at hc23; omega)).symm | exact (bI_f (P := ¬ inb ivQ nv mn9) (fun q9 => q9 ⟨Int.not_lt.mp (fun q8 => hc1 ((fo_lt _).mpr q8)), Int.not_lt.mp (fun q8 => hc5 ((fo_lt _).mpr q8)), by have h3 := hc23; rw [Int32.le_iff_toInt_le, la_sub hc1 hc13 (by omega)] at h3; omega⟩)).symm) bI_nar

set_option maxHeartbeats 4000000 in
set_option maxRecDepth 100000 in
theorem c_X7_refuses (l : Launch) (D : va_G) (z : Nat → ClassId) (ro : Nat) (ri : Nat) (sh9 : Nat) (ln9 : Nat) (mn9 : Nat) (av : Int32) (ivQ : Int32) (nv : Int32) (hsh : sh9 ≤ 1) (hmn : mn9 ≤ 24) : CP l yX7_refuses cX7_refuses 4 (some .int) 1 22 [.ref ro, .int av, .int ivQ, .int nv] D z [(ro, .inr (7, [.ref ri, .int (nI sh9), .int (nI ln9), .int (nI mn9)]))] (fun _ => True) (some (.int (foV sh9 ln9 mn9 av ivQ nv))) := by
  refine Met.ofW (cc := cX7_refuses) (maxL := 4) (ret := (some .int)) (by decide) rfl ?_
  intro pg e s m args below meth c s₁ B hml hv
  obtain ⟨rfl, hP, hK, hE⟩ := hv
  have hx := B.exec
  have hb := B.bytes
  have hr := B.returns
  have hts : ∀ w ∈ ALL, w.before _ s = true := fun w h => atoms_spec (ws := wA yX7_refuses cX7_refuses 4 (some .int)) B.pre w (List.mem_cons_of_mem _ h)
  have hown : s.vm.findClass RX7 = some m.cls := findClass_of_methodNamed B.named
  have hlocks := B.notSynchronized
  have hl := lv_entry ([.ref ro, .int av, .int ivQ, .int nv]) (n := 4) (Nat.le_of_ble_eq_true rfl)
  rw [lg_entry_eq]
  generalize (lg_sl ([.ref ro, .int av, .int ivQ, .int nv]) ++ List.replicate (4 - (lg_sl ([.ref ro, .int av, .int ivQ, .int nv])).length) Slot.unset).toArray = ls at hl ⊢
  have hl : lv_has ls 4 [(0, .ref ro), (1, .int av), (2, .int ivQ), (3, .int nv)] := hl
  refine lv_aload_n hx hb dX7_refuses_0 rfl (lv_at hl 0 rfl) ?_
  refine va_get (D := D) (ci := 7) (v := .int (nI sh9)) (C := RX7) (T := TX7) (N := 4) hx hb hts iX7 hown hK.1 hP 0 rfl rfl 1 (by decide) (hts _ m_172) (fun _ h9 => h9) rfl dX7_refuses_1 ?_
  refine nv_ifne (tgt := 10) hx hb (by omega) dX7_refuses_4 (by decide) (fun hc4 => ?_) (fun hc4 => ?_)
  · refine lv_aload_n hx hb dX7_refuses_10 rfl (lv_at hl 0 rfl) ?_
    refine va_get (D := D) (ci := 7) (v := .int (nI ln9)) (C := RX7) (T := TX7) (N := 4) hx hb hts iX7 hown hK.1 hP 0 rfl rfl 2 (by decide) (hts _ m_173) (fun _ h9 => h9) rfl dX7_refuses_11 ?_
    refine lv_iload_n hx hb dX7_refuses_14 rfl (lv_at hl 1 rfl) ?_
    refine lv_icmp_eq (tgt := 21) hx hb dX7_refuses_15 (by decide) (fun hc15 => ?_) (fun hc15 => ?_)
    · refine lv_aload_n hx hb dX7_refuses_21 rfl (lv_at hl 0 rfl) ?_
      refine lv_iload_n hx hb dX7_refuses_22 rfl (lv_at hl 2 rfl) ?_
      refine lv_iload_n hx hb dX7_refuses_23 rfl (lv_at hl 3 rfl) ?_
      have hPc := hP.sub (ws' := [(ro, .inr (7, [.ref ri, .int (nI sh9), .int (nI ln9), .int (nI mn9)]))]) [0] rfl
      refine nv_cp1 (va_runV (As := [.int ivQ, .int nv]) (rest := []) ⟨hx, hb, hml, hown, hts⟩ (c_X7_lacks l D z ro ri sh9 ln9 mn9 ivQ nv (by first | assumption | omega)) (cwV 2 hts (gV m_178 m_179 m_180 m_181 m_176) rfl rfl rfl ⟨rfl, hd_X7_lacks⟩ ⟨Nat.le_of_ble_eq_true rfl, Nat.le_of_ble_eq_true rfl⟩) (nv_prePV (ci := 7) (q0 := 0) hK hPc trivial rfl rfl) rfl rfl hl.1 rfl (lv_room (Nat.le_of_ble_eq_true rfl)) dX7_refuses_24 ⟨Nat.le_refl _, Nat.le_refl _⟩) ?_
      refine nv_beq (tgt := 35) hx hb dX7_refuses_27 (by decide) (fun hc27 => ?_) (fun hc27 => ?_)
      · refine lv_iconst (v := nI 0) hx hb dX7_refuses_35 (by decide +kernel) ?_
        exact nv_ri hx hb hr hlocks dX7_refuses_36 (by unfold foV; first | (rw [if_pos (by omega)]; done) | (rw [if_neg (by omega), if_neg hc15]; done) | (rw [if_neg (by omega), if_pos hc15, if_neg hc27]; done) | (rw [if_neg (by omega), if_pos hc15, if_pos (Classical.byContradiction hc27)]; done))
      · refine lv_bipush (v := (-13)) hx hb dX7_refuses_30 (by decide +kernel) ?_
        refine lv_goto (tgt := 36) hx hb dX7_refuses_32 (by decide) ?_
        exact nv_ri hx hb hr hlocks dX7_refuses_36 (by unfold foV; first | (rw [if_pos (by omega)]; done) | (rw [if_neg (by omega), if_neg hc15]; done) | (rw [if_neg (by omega), if_pos hc15, if_neg hc27]; done) | (rw [if_neg (by omega), if_pos hc15, if_pos (Classical.byContradiction hc27)]; done))
    · refine lv_bipush (v := (-12)) hx hb dX7_refuses_18 (by decide +kernel) ?_
      exact nv_ri hx hb hr hlocks dX7_refuses_20 (by unfold foV; first | (rw [if_pos (by omega)]; done) | (rw [if_neg (by omega), if_neg hc15]; done) | (rw [if_neg (by omega), if_pos hc15, if_neg hc27]; done) | (rw [if_neg (by omega), if_pos hc15, if_pos (Classical.byContradiction hc27)]; done))
  · refine lv_bipush (v := (-11)) hx hb dX7_refuses_7 (by decide +kernel) ?_
    exact nv_ri hx hb hr hlocks dX7_refuses_9 (by unfold foV; first | (rw [if_pos (by omega)]; done) | (rw [if_neg (by omega), if_neg hc15]; done) | (rw [if_neg (by omega), if_pos hc15, if_neg hc27]; done) | (rw [if_neg (by omega), if_pos hc15, if_pos (Classical.byContradiction hc27)]; done))

theorem va_P.cgL {D : va_G} {z : Nat → ClassId} {ws : va_W} {H : Heap} (h : va_P D vwCl ws H) (k : Nat) {a n : Nat} {f g : Nat → Int64} (hk : ws[k]? = some (aL z a n f)) (e : ∀ j, j < n → f j = g j) : va_P D vwCl (ws.set k (aL z a n g)) H := by
  have hl := (List.getElem?_eq_some_iff.mp hk).1
  intro i q hq
  by_cases hi : i = k
  · subst hi
    rw [List.getElem?_set_self hl] at hq
    cases hq
    have h1 : H[a]? = some (vp_cell (z 1) (n, .inr (.inl f))) := h i _ hk
    show H[a]? = some (vp_cell (z 1) (n, .inr (.inl g)))
    rw [h1, vp_cell_l, vp_cell_l, arrV_cg (fun j hj => by rw [e j hj])]
  · rw [List.getElem?_set_ne (Ne.symm hi)] at hq
    exact h i q hq
theorem zeF_at (it : Nat → Int64) (b n j : Nat) : zeF it b n j = if b ≤ j ∧ j < b + n then 0 else it j := by
  induction n with
  | zero => rw [if_neg (by omega)]; rfl
  | succ n ih =>
    show vp_updL (zeF it b n) (b + n) 0 j = _
    by_cases q : j = b + n
    · subst q; rw [pk_uLs, if_pos (by omega)]
    · rw [pk_uLn q, ih]
      by_cases q2 : b ≤ j ∧ j < b + n
      · rw [if_pos q2, if_pos (by omega)]
      · rw [if_neg q2, if_neg (by omega)]

set_option maxHeartbeats 4000000 in
set_option maxRecDepth 100000 in
theorem c_X7_begin (l : Launch) (D : va_G) (z : Nat → ClassId) (sz : Nat) (ro : Nat) (ri : Nat) (sh9 : Nat) (ln9 : Nat) (mn9 : Nat) (itf : Nat → Int64) (aq : Nat) (nq : Nat)  : CM l yX7_begin cX7_begin 4 none 0 0 0 0 [.ref ro, .int (nI aq), .int (nI nq)] D z [(ro, .inr (7, [.ref ri, .int (nI sh9), .int (nI ln9), .int (nI mn9)])), aL z ri 24 itf] sz (fun _ => True) [(ro, .inr (7, [.ref ri, .int (nI 1), .int (nI aq), .int (nI nq)])), aL z ri 24 (fun _ => 0)] none (fun _ => True) := by
  refine Met.ofW (cc := cX7_begin) (maxL := 4) (ret := none) (by decide) rfl ?_
  intro pg e s m args below meth c s₁ B hml hv
  obtain ⟨rfl, hsz, hP, hK, hD0, hE⟩ := hv
  have hx := B.exec
  have hb := B.bytes
  have hr := B.returns
  have hts : ∀ w ∈ ALL, w.before _ s = true := fun w h => atoms_spec (ws := wA yX7_begin cX7_begin 4 none) B.pre w (List.mem_cons_of_mem _ h)
  have hown : s.vm.findClass RX7 = some m.cls := findClass_of_methodNamed B.named
  have hlocks := B.notSynchronized
  subst hsz
  have hD := hD0.self (sz := s.heap.size)
  have hA : ∀ q : Nat, s.heap.size ≤ q → va_A [(ro, .inr (7, [.ref ri, .int (nI sh9), .int (nI ln9), .int (nI mn9)])), aL z ri 24 itf] s.heap.size q := fun q h => Or.inr h
  generalize va_A [(ro, .inr (7, [.ref ri, .int (nI sh9), .int (nI ln9), .int (nI mn9)])), aL z ri 24 itf] s.heap.size = A at *
  have hS : va_S A s.heap s.heap [] := va_S.rf
  have hl := lv_entry ([.ref ro, .int (nI aq), .int (nI nq)]) (n := 4) (Nat.le_of_ble_eq_true rfl)
  rw [lg_entry_eq]
  generalize (lg_sl ([.ref ro, .int (nI aq), .int (nI nq)]) ++ List.replicate (4 - (lg_sl ([.ref ro, .int (nI aq), .int (nI nq)])).length) Slot.unset).toArray = ls at hl ⊢
  have hl : lv_has ls 4 [(0, .ref ro), (1, .int (nI aq)), (2, .int (nI nq))] := hl
  refine lv_aload_n hx hb dX7_begin_0 rfl (lv_at hl 0 rfl) ?_
  refine lv_iconst (v := nI 1) hx hb dX7_begin_1 (by decide +kernel) ?_
  refine va_put (D := D) (ci := 7) (v := .int (nI 1)) (ty := tyX7 1) (C := RX7) (T := TX7) (N := 4) hx hb hts iX7 tyX7 tyX7_ok nmX7 hown hK.1 hP hD hS 0 rfl rfl 1 (by decide) (hts _ m_172) (fun _ h9 => h9) rfl (tyX7_ok 1 (by decide)) rfl rfl (Nat.le_of_ble_eq_true rfl) dX7_begin_2 (fun H locs hP hD hS => ?_)
  have hP : va_P D vwCl [(ro, .inr (7, [.ref ri, .int (nI 1), .int (nI ln9), .int (nI mn9)])), aL z ri 24 itf] H := hP
  have hD : va_D A [(ro, .inr (7, [.ref ri, .int (nI 1), .int (nI ln9), .int (nI mn9)])), aL z ri 24 itf] := hD
  refine lv_aload_n hx hb dX7_begin_5 rfl (lv_at hl 0 rfl) ?_
  refine lv_iload_n hx hb dX7_begin_6 rfl (lv_at hl 1 rfl) ?_
  refine va_put (D := D) (ci := 7) (v := .int (nI aq)) (ty := tyX7 2) (C := RX7) (T := TX7) (N := 4) hx hb hts iX7 tyX7 tyX7_ok nmX7 hown hK.1 hP hD hS 0 rfl rfl 2 (by decide) (hts _ m_173) (fun _ h9 => h9) rfl (tyX7_ok 2 (by decide)) rfl rfl (Nat.le_of_ble_eq_true rfl) dX7_begin_7 (fun H locs hP hD hS => ?_)
  have hP : va_P D vwCl [(ro, .inr (7, [.ref ri, .int (nI 1), .int (nI aq), .int (nI mn9)])), aL z ri 24 itf] H := hP
  have hD : va_D A [(ro, .inr (7, [.ref ri, .int (nI 1), .int (nI aq), .int (nI mn9)])), aL z ri 24 itf] := hD
  refine lv_aload_n hx hb dX7_begin_10 rfl (lv_at hl 0 rfl) ?_
  refine lv_iload_n hx hb dX7_begin_11 rfl (lv_at hl 2 rfl) ?_
  refine va_put (D := D) (ci := 7) (v := .int (nI nq)) (ty := tyX7 3) (C := RX7) (T := TX7) (N := 4) hx hb hts iX7 tyX7 tyX7_ok nmX7 hown hK.1 hP hD hS 0 rfl rfl 3 (by decide) (hts _ m_174) (fun _ h9 => h9) rfl (tyX7_ok 3 (by decide)) rfl rfl (Nat.le_of_ble_eq_true rfl) dX7_begin_12 (fun H locs hP hD hS => ?_)
  have hP : va_P D vwCl [(ro, .inr (7, [.ref ri, .int (nI 1), .int (nI aq), .int (nI nq)])), aL z ri 24 itf] H := hP
  have hD : va_D A [(ro, .inr (7, [.ref ri, .int (nI 1), .int (nI aq), .int (nI nq)])), aL z ri 24 itf] := hD
  refine lv_iconst (v := nI 0) hx hb dX7_begin_15 (by decide +kernel) ?_
  refine lv_istore_n (lv' := [(3, .int (nI 0)), (0, .ref ro), (1, .int (nI aq)), (2, .int (nI nq))]) hx hb dX7_begin_16 rfl hl (by decide) rfl (fun ls hl => ?_)
  refine nv_loop (σ := Nat) (fun x H locs ls => ∃ (jq : Nat), jq = x ∧ ((jq ≤ 24)) ∧ va_P D vwCl [(ro, .inr (7, [.ref ri, .int (nI 1), .int (nI aq), .int (nI nq)])), aL z ri 24 (zeF itf 0 jq)] H ∧ va_D A [(ro, .inr (7, [.ref ri, .int (nI 1), .int (nI aq), .int (nI nq)])), aL z ri 24 (zeF itf 0 jq)] ∧ va_S A s.heap H locs ∧ lv_has ls 4 [(0, .ref ro), (3, .int (nI jq))]) (fun x => 24 - x) 17 [] ?_ 0 ?_
  · rintro _ H locs ls ⟨jq, rfl, hj, hP, hD, hS, hl⟩ ih17
    refine lv_iload_n hx hb dX7_begin_17 rfl (lv_at hl 1 rfl) ?_
    refine lv_bipush (v := nI 24) hx hb dX7_begin_18 (by decide +kernel) ?_
    refine nv_ge (tgt := 36) hx hb (by omega) (by omega) dX7_begin_20 (by decide) (fun hc20 => ?_) (fun hc20 => ?_)
    · obtain rfl : jq = 24 := by omega
      exact nv_mv hx hb hr hlocks hS dX7_begin_36 (va_P.cgL hP 1 rfl (fun i hiQ => by rw [zeF_at, if_pos (by omega)])) trivial
    · refine lv_aload_n hx hb dX7_begin_23 rfl (lv_at hl 0 rfl) ?_
      refine va_get (D := D) (ci := 7) (v := .ref ri) (C := RX7) (T := TX7) (N := 4) hx hb hts iX7 hown hK.1 hP 0 rfl rfl 0 (by decide) (hts _ m_171) (fun _ h9 => h9) rfl dX7_begin_24 ?_
      refine lv_iload_n hx hb dX7_begin_27 rfl (lv_at hl 1 rfl) ?_
      refine lv_lconst (v := 0) hx hb dX7_begin_28 (by decide +kernel) ?_
      refine nv_last hx hb hK hP hD hS 1 rfl (by omega) (by decide) dX7_begin_29 (fun H locs hP hD hS => ?_)
      have hP : va_P D vwCl [(ro, .inr (7, [.ref ri, .int (nI 1), .int (nI aq), .int (nI nq)])), aL z ri 24 (vp_updL (zeF itf 0 jq) jq 0)] H := hP
      have hD : va_D A [(ro, .inr (7, [.ref ri, .int (nI 1), .int (nI aq), .int (nI nq)])), aL z ri 24 (vp_updL (zeF itf 0 jq) jq 0)] := hD
      refine lv_iinc (v := nI (jq + 1)) (lv' := [(3, .int (nI (jq + 1))), (0, .ref ro)]) hx hb dX7_begin_30 hl (k := 1) rfl (nI_inc _) (by decide) rfl (fun ls hl => ?_)
      refine lv_goto (tgt := 17) hx hb dX7_begin_33 (by decide) ?_
      rw [show vp_updL (zeF itf 0 jq) jq 0 = zeF itf 0 (jq + 1) from by show _ = vp_updL (zeF itf 0 jq) (0 + jq) 0; rw [Nat.zero_add]] at hP hD
      exact ih17 (jq + 1) _ _ _ (by omega) ⟨jq + 1, rfl, (by omega), hP, hD, hS, lv_sub hl [1, 0] rfl⟩
  · exact ⟨0, rfl, (by omega), hP, hD, hS, lv_sub hl [1, 0] rfl⟩

set_option maxHeartbeats 4000000 in
set_option maxRecDepth 100000 in
theorem c_X7_put (l : Launch) (D : va_G) (z : Nat → ClassId) (sz : Nat) (ro : Nat) (ri : Nat) (sh9 : Nat) (ln9 : Nat) (mn9 : Nat) (itf : Nat → Int64) (iq : Nat) (vv : Int64) (hmn : mn9 ≤ 24) (hln : ln9 ≤ 3) (hiq : iq + 1 ≤ mn9) : CM l yX7_put cX7_put 4 none 1 22 0 0 [.ref ro, .int (nI iq), .long vv] D z [(ro, .inr (7, [.ref ri, .int (nI sh9), .int (nI ln9), .int (nI mn9)])), aL z ri 24 itf] sz (fun _ => True) [(ro, .inr (7, [.ref ri, .int (nI sh9), .int (nI ln9), .int (nI mn9)])), aL z ri 24 (vp_updL itf iq (cutF ln9 vv))] none (fun _ => True) := by
  refine Met.ofW (cc := cX7_put) (maxL := 4) (ret := none) (by decide) rfl ?_
  intro pg e s m args below meth c s₁ B hml hv
  obtain ⟨rfl, hsz, hP, hK, hD0, hE⟩ := hv
  have hx := B.exec
  have hb := B.bytes
  have hr := B.returns
  have hts : ∀ w ∈ ALL, w.before _ s = true := fun w h => atoms_spec (ws := wA yX7_put cX7_put 4 none) B.pre w (List.mem_cons_of_mem _ h)
  have hown : s.vm.findClass RX7 = some m.cls := findClass_of_methodNamed B.named
  have hlocks := B.notSynchronized
  subst hsz
  have hD := hD0.self (sz := s.heap.size)
  have hin9 : inb (nI iq) (nI 1) mn9 := ⟨by rw [nI_toInt (by omega)]; omega, by decide, by rw [nI_toInt (by omega), nI_toInt (by decide)]; omega⟩
  have hA : ∀ q : Nat, s.heap.size ≤ q → va_A [(ro, .inr (7, [.ref ri, .int (nI sh9), .int (nI ln9), .int (nI mn9)])), aL z ri 24 itf] s.heap.size q := fun q h => Or.inr h
  generalize va_A [(ro, .inr (7, [.ref ri, .int (nI sh9), .int (nI ln9), .int (nI mn9)])), aL z ri 24 itf] s.heap.size = A at *
  have hS : va_S A s.heap s.heap [] := va_S.rf
  have hl := lv_entry ([.ref ro, .int (nI iq), .long vv]) (n := 4) (Nat.le_of_ble_eq_true rfl)
  rw [lg_entry_eq]
  generalize (lg_sl ([.ref ro, .int (nI iq), .long vv]) ++ List.replicate (4 - (lg_sl ([.ref ro, .int (nI iq), .long vv])).length) Slot.unset).toArray = ls at hl ⊢
  have hl : lv_has ls 4 [(0, .ref ro), (1, .int (nI iq)), (2, .long vv)] := hl
  refine lv_aload_n hx hb dX7_put_0 rfl (lv_at hl 0 rfl) ?_
  refine lv_iload_n hx hb dX7_put_1 rfl (lv_at hl 1 rfl) ?_
  refine lv_iconst (v := nI 1) hx hb dX7_put_2 (by decide +kernel) ?_
  have hPc := hP.sub (ws' := [(ro, .inr (7, [.ref ri, .int (nI sh9), .int (nI ln9), .int (nI mn9)]))]) [0] rfl
  refine nv_cp1 (va_runV (As := [.int (nI iq), .int (nI 1)]) (rest := []) ⟨hx, hb, hml, hown, hts⟩ (c_X7_lacks l D z ro ri sh9 ln9 mn9 (nI iq) (nI 1) (by first | assumption | omega)) (cwV 2 hts (gV m_178 m_179 m_180 m_181 m_176) rfl rfl rfl ⟨rfl, hd_X7_lacks⟩ ⟨Nat.le_of_ble_eq_true rfl, Nat.le_of_ble_eq_true rfl⟩) (nv_prePV (ci := 7) (q0 := 0) hK hPc trivial rfl rfl) rfl rfl hl.1 rfl (lv_room (Nat.le_of_ble_eq_true rfl)) dX7_put_3 ⟨by decide, by decide⟩) ?_
  refine nv_beq (tgt := 10) hx hb dX7_put_6 (by decide) (fun hc6 => ?_) (fun hc6 => ?_)
  · refine lv_aload_n hx hb dX7_put_10 rfl (lv_at hl 0 rfl) ?_
    refine va_get (D := D) (ci := 7) (v := .int (nI ln9)) (C := RX7) (T := TX7) (N := 4) hx hb hts iX7 hown hK.1 hP 0 rfl rfl 2 (by decide) (hts _ m_173) (fun _ h9 => h9) rfl dX7_put_11 ?_
    rcases (show ln9 = 0 ∨ ln9 = 1 ∨ ln9 = 2 ∨ ln9 = 3 by have h9 := hln; omega) with hc14 | hc14 | hc14 | hc14
    · refine lv_tableIn (off := 26) (tgt := 40) hx hb dX7_put_14 (by rw [hc14]; decide) (by rw [hc14]; decide) (by rw [hc14]; rfl) (by decide) ?_
      refine lv_aload_n hx hb dX7_put_40 rfl (lv_at hl 0 rfl) ?_
      refine va_get (D := D) (ci := 7) (v := .ref ri) (C := RX7) (T := TX7) (N := 4) hx hb hts iX7 hown hK.1 hP 0 rfl rfl 0 (by decide) (hts _ m_171) (fun _ h9 => h9) rfl dX7_put_41 ?_
      refine lv_iload_n hx hb dX7_put_44 rfl (lv_at hl 1 rfl) ?_
      refine lv_lload_n hx hb dX7_put_45 rfl (lv_at hl 2 rfl) ?_
      refine lv_l2i hx hb dX7_put_46 rfl ?_
      refine lv_i2b hx hb dX7_put_47 rfl ?_
      refine lv_i2l hx hb dX7_put_48 rfl ?_
      refine nv_last hx hb hK hP hD hS 1 rfl (by omega) (by decide) dX7_put_49 (fun H locs hP hD hS => ?_)
      have hP : va_P D vwCl [(ro, .inr (7, [.ref ri, .int (nI sh9), .int (nI ln9), .int (nI mn9)])), aL z ri 24 (vp_updL itf iq vv.toInt32.toInt8.toInt32.toInt64)] H := hP
      have hD : va_D A [(ro, .inr (7, [.ref ri, .int (nI sh9), .int (nI ln9), .int (nI mn9)])), aL z ri 24 (vp_updL itf iq vv.toInt32.toInt8.toInt32.toInt64)] := hD
      refine lv_goto (tgt := 85) hx hb dX7_put_50 (by decide) ?_
      exact nv_mv hx hb hr hlocks hS dX7_put_85 (by unfold cutF; first | (rw [if_pos hc14]; exact hP) | (rw [if_neg (by omega), if_pos hc14]; exact hP) | (rw [if_neg (by omega), if_neg (by omega), if_pos hc14]; exact hP) | (rw [if_neg (by omega), if_neg (by omega), if_neg (by omega)]; exact hP)) trivial
    · refine lv_tableIn (off := 39) (tgt := 53) hx hb dX7_put_14 (by rw [hc14]; decide) (by rw [hc14]; decide) (by rw [hc14]; rfl) (by decide) ?_
      refine lv_aload_n hx hb dX7_put_53 rfl (lv_at hl 0 rfl) ?_
      refine va_get (D := D) (ci := 7) (v := .ref ri) (C := RX7) (T := TX7) (N := 4) hx hb hts iX7 hown hK.1 hP 0 rfl rfl 0 (by decide) (hts _ m_171) (fun _ h9 => h9) rfl dX7_put_54 ?_
      refine lv_iload_n hx hb dX7_put_57 rfl (lv_at hl 1 rfl) ?_
      refine lv_lload_n hx hb dX7_put_58 rfl (lv_at hl 2 rfl) ?_
      refine lv_l2i hx hb dX7_put_59 rfl ?_
      refine lv_i2s hx hb dX7_put_60 rfl ?_
      refine lv_i2l hx hb dX7_put_61 rfl ?_
      refine nv_last hx hb hK hP hD hS 1 rfl (by omega) (by decide) dX7_put_62 (fun H locs hP hD hS => ?_)
      have hP : va_P D vwCl [(ro, .inr (7, [.ref ri, .int (nI sh9), .int (nI ln9), .int (nI mn9)])), aL z ri 24 (vp_updL itf iq vv.toInt32.toInt16.toInt32.toInt64)] H := hP
      have hD : va_D A [(ro, .inr (7, [.ref ri, .int (nI sh9), .int (nI ln9), .int (nI mn9)])), aL z ri 24 (vp_updL itf iq vv.toInt32.toInt16.toInt32.toInt64)] := hD
      refine lv_goto (tgt := 85) hx hb dX7_put_63 (by decide) ?_
      exact nv_mv hx hb hr hlocks hS dX7_put_85 (by unfold cutF; first | (rw [if_pos hc14]; exact hP) | (rw [if_neg (by omega), if_pos hc14]; exact hP) | (rw [if_neg (by omega), if_neg (by omega), if_pos hc14]; exact hP) | (rw [if_neg (by omega), if_neg (by omega), if_neg (by omega)]; exact hP)) trivial
    · refine lv_tableIn (off := 52) (tgt := 66) hx hb dX7_put_14 (by rw [hc14]; decide) (by rw [hc14]; decide) (by rw [hc14]; rfl) (by decide) ?_
      refine lv_aload_n hx hb dX7_put_66 rfl (lv_at hl 0 rfl) ?_
      refine va_get (D := D) (ci := 7) (v := .ref ri) (C := RX7) (T := TX7) (N := 4) hx hb hts iX7 hown hK.1 hP 0 rfl rfl 0 (by decide) (hts _ m_171) (fun _ h9 => h9) rfl dX7_put_67 ?_
      refine lv_iload_n hx hb dX7_put_70 rfl (lv_at hl 1 rfl) ?_
      refine lv_lload_n hx hb dX7_put_71 rfl (lv_at hl 2 rfl) ?_
      refine lv_l2i hx hb dX7_put_72 rfl ?_
      refine lv_i2l hx hb dX7_put_73 rfl ?_
      refine nv_last hx hb hK hP hD hS 1 rfl (by omega) (by decide) dX7_put_74 (fun H locs hP hD hS => ?_)
      have hP : va_P D vwCl [(ro, .inr (7, [.ref ri, .int (nI sh9), .int (nI ln9), .int (nI mn9)])), aL z ri 24 (vp_updL itf iq vv.toInt32.toInt64)] H := hP
      have hD : va_D A [(ro, .inr (7, [.ref ri, .int (nI sh9), .int (nI ln9), .int (nI mn9)])), aL z ri 24 (vp_updL itf iq vv.toInt32.toInt64)] := hD
      refine lv_goto (tgt := 85) hx hb dX7_put_75 (by decide) ?_
      exact nv_mv hx hb hr hlocks hS dX7_put_85 (by unfold cutF; first | (rw [if_pos hc14]; exact hP) | (rw [if_neg (by omega), if_pos hc14]; exact hP) | (rw [if_neg (by omega), if_neg (by omega), if_pos hc14]; exact hP) | (rw [if_neg (by omega), if_neg (by omega), if_neg (by omega)]; exact hP)) trivial
    · refine lv_tableOut (tgt := 78) hx hb dX7_put_14 (by rw [hc14]; decide) (by decide) ?_
      refine lv_aload_n hx hb dX7_put_78 rfl (lv_at hl 0 rfl) ?_
      refine va_get (D := D) (ci := 7) (v := .ref ri) (C := RX7) (T := TX7) (N := 4) hx hb hts iX7 hown hK.1 hP 0 rfl rfl 0 (by decide) (hts _ m_171) (fun _ h9 => h9) rfl dX7_put_79 ?_
      refine lv_iload_n hx hb dX7_put_82 rfl (lv_at hl 1 rfl) ?_
      refine lv_lload_n hx hb dX7_put_83 rfl (lv_at hl 2 rfl) ?_
      refine nv_last hx hb hK hP hD hS 1 rfl (by omega) (by decide) dX7_put_84 (fun H locs hP hD hS => ?_)
      have hP : va_P D vwCl [(ro, .inr (7, [.ref ri, .int (nI sh9), .int (nI ln9), .int (nI mn9)])), aL z ri 24 (vp_updL itf iq vv)] H := hP
      have hD : va_D A [(ro, .inr (7, [.ref ri, .int (nI sh9), .int (nI ln9), .int (nI mn9)])), aL z ri 24 (vp_updL itf iq vv)] := hD
      exact nv_mv hx hb hr hlocks hS dX7_put_85 (by unfold cutF; first | (rw [if_pos hc14]; exact hP) | (rw [if_neg (by omega), if_pos hc14]; exact hP) | (rw [if_neg (by omega), if_neg (by omega), if_pos hc14]; exact hP) | (rw [if_neg (by omega), if_neg (by omega), if_neg (by omega)]; exact hP)) trivial
  · exact absurd hin9 hc6

set_option maxHeartbeats 4000000 in
set_option maxRecDepth 100000 in
theorem c_X10_within (l : Launch) (D : va_G) (z : Nat → ClassId) (xv : Int32) (loQ : Int32) (hiQ : Int32)  : CP l yX10_within cX10_within 3 (some .boolean) 0 0 [.int xv, .int loQ, .int hiQ] D z [] (fun _ => True) (some (.int (bI (loQ ≤ xv ∧ xv ≤ hiQ)))) := by
  refine Met.ofW (cc := cX10_within) (maxL := 3) (ret := (some .boolean)) (by decide) rfl ?_
  intro pg e s m args below meth c s₁ B hml hv
  obtain ⟨rfl, hP, hK, hE⟩ := hv
  have hx := B.exec
  have hb := B.bytes
  have hr := B.returns
  have hts : ∀ w ∈ ALL, w.before _ s = true := fun w h => atoms_spec (ws := wA yX10_within cX10_within 3 (some .boolean)) B.pre w (List.mem_cons_of_mem _ h)
  have hown : s.vm.findClass RX10 = some m.cls := findClass_of_methodNamed B.named
  have hlocks := B.notSynchronized
  have hl := lv_entry ([.int xv, .int loQ, .int hiQ]) (n := 3) (Nat.le_of_ble_eq_true rfl)
  rw [lg_entry_eq]
  generalize (lg_sl ([.int xv, .int loQ, .int hiQ]) ++ List.replicate (3 - (lg_sl ([.int xv, .int loQ, .int hiQ])).length) Slot.unset).toArray = ls at hl ⊢
  have hl : lv_has ls 3 [(0, .int xv), (1, .int loQ), (2, .int hiQ)] := hl
  refine lv_iload_n hx hb dX10_within_0 rfl (lv_at hl 0 rfl) ?_
  refine lv_iload_n hx hb dX10_within_1 rfl (lv_at hl 1 rfl) ?_
  refine lv_icmp_lt (tgt := 14) hx hb dX10_within_2 (by decide) (fun hc2 => ?_) (fun hc2 => ?_)
  · refine lv_iconst (v := nI 0) hx hb dX10_within_14 (by decide +kernel) ?_
    exact nv_rz hx hb hr hlocks dX10_within_15 (by first | exact (bI_t (P := loQ ≤ xv ∧ xv ≤ hiQ) ⟨hc2 |> Int32.not_lt.mp, hc7⟩).symm | exact (bI_t (P := loQ ≤ xv ∧ xv ≤ hiQ) ⟨Int32.not_lt.mp hc2, Int32.not_lt.mp hc7⟩).symm | exact (bI_f (P := loQ ≤ xv ∧ xv ≤ hiQ) (fun q => hc7 q.2)).symm | exact (bI_f (P := loQ ≤ xv ∧ xv ≤ hiQ) (fun q => Int32.not_lt.mpr q.2 hc7)).symm | exact (bI_f (P := loQ ≤ xv ∧ xv ≤ hiQ) (fun q => Int32.not_lt.mpr q.1 hc2)).symm | exact (bI_f (P := loQ ≤ xv ∧ xv ≤ hiQ) (fun q => hc2 q.1)).symm | exact (bI_t (P := loQ ≤ xv ∧ xv ≤ hiQ) ⟨hc2, hc7⟩).symm) bI_nar
  · refine lv_iload_n hx hb dX10_within_5 rfl (lv_at hl 0 rfl) ?_
    refine lv_iload_n hx hb dX10_within_6 rfl (lv_at hl 2 rfl) ?_
    refine lv_icmp_gt (tgt := 14) hx hb dX10_within_7 (by decide) (fun hc7 => ?_) (fun hc7 => ?_)
    · refine lv_iconst (v := nI 0) hx hb dX10_within_14 (by decide +kernel) ?_
      exact nv_rz hx hb hr hlocks dX10_within_15 (by first | exact (bI_t (P := loQ ≤ xv ∧ xv ≤ hiQ) ⟨hc2 |> Int32.not_lt.mp, hc7⟩).symm | exact (bI_t (P := loQ ≤ xv ∧ xv ≤ hiQ) ⟨Int32.not_lt.mp hc2, Int32.not_lt.mp hc7⟩).symm | exact (bI_f (P := loQ ≤ xv ∧ xv ≤ hiQ) (fun q => hc7 q.2)).symm | exact (bI_f (P := loQ ≤ xv ∧ xv ≤ hiQ) (fun q => Int32.not_lt.mpr q.2 hc7)).symm | exact (bI_f (P := loQ ≤ xv ∧ xv ≤ hiQ) (fun q => Int32.not_lt.mpr q.1 hc2)).symm | exact (bI_f (P := loQ ≤ xv ∧ xv ≤ hiQ) (fun q => hc2 q.1)).symm | exact (bI_t (P := loQ ≤ xv ∧ xv ≤ hiQ) ⟨hc2, hc7⟩).symm) bI_nar
    · refine lv_iconst (v := nI 1) hx hb dX10_within_10 (by decide +kernel) ?_
      refine lv_goto (tgt := 15) hx hb dX10_within_11 (by decide) ?_
      exact nv_rz hx hb hr hlocks dX10_within_15 (by first | exact (bI_t (P := loQ ≤ xv ∧ xv ≤ hiQ) ⟨hc2 |> Int32.not_lt.mp, hc7⟩).symm | exact (bI_t (P := loQ ≤ xv ∧ xv ≤ hiQ) ⟨Int32.not_lt.mp hc2, Int32.not_lt.mp hc7⟩).symm | exact (bI_f (P := loQ ≤ xv ∧ xv ≤ hiQ) (fun q => hc7 q.2)).symm | exact (bI_f (P := loQ ≤ xv ∧ xv ≤ hiQ) (fun q => Int32.not_lt.mpr q.2 hc7)).symm | exact (bI_f (P := loQ ≤ xv ∧ xv ≤ hiQ) (fun q => Int32.not_lt.mpr q.1 hc2)).symm | exact (bI_f (P := loQ ≤ xv ∧ xv ≤ hiQ) (fun q => hc2 q.1)).symm | exact (bI_t (P := loQ ≤ xv ∧ xv ≤ hiQ) ⟨hc2, hc7⟩).symm) bI_nar
