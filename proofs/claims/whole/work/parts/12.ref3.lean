theorem nI_back (a b : Int32) : a + (b - a) = b := by
  rw [Int32.add_comm]
  exact Int32.sub_add_cancel b a
theorem lN_fa (a b : Nat) : lN a &&& lN b = lN (a &&& b) := by
  unfold lN
  apply Int64.toBitVec_inj.mp
  simp [Int64.toBitVec_and, Int64.toBitVec_ofNat']
theorem drL {x : Nat} (h : x < 2 ^ 31) : (((nI x).toInt64 * (1103515245) + (12345)) &&& (2147483647)).toInt32 = nI (drN x) := by
  rw [nI_l h, show (1103515245 : Int64) = lN 1103515245 from rfl, show (12345 : Int64) = lN 12345 from rfl, show (2147483647 : Int64) = lN (2 ^ 31 - 1) from rfl, lN_mul, lN_add, lN_fa, Nat.and_two_pow_sub_one_eq_mod, lN_i]
  rfl

set_option maxHeartbeats 4000000 in
set_option maxRecDepth 100000 in
theorem c_X11_know (l : Launch) (D : va_G) (z : Nat → ClassId) (sz : Nat) (o : Nat) (qj : Nat) (qt : Nat) (qf : Nat) (qp : Nat) (qk : Nat) (qq : Nat) (qa : Nat) (qs : Nat) (ql : Nat) (qm : Nat) (qi : Nat) (qe : Nat) (un : Nat) (ku : Nat) (ik : Nat) (tnQ : Nat) (th : Nat) (la : Nat) (wo : Nat) (cu : Nat) (fa : Nat) (fat : Nat) (rQ : Nat → Nat) (psQ : Nat → Nat) (hun : un ≤ 8) : CM l yX11_know cX11_know 2 none 1 22 0 0 [.ref o] D z [(o, .inr (11, [.ref qj, .ref qt, .ref qf, .ref qp, .int (nI un), .ref qk, .ref qq, .int (nI ku), .int (nI ik), .ref qa, .int (nI tnQ), .int (nI th), .int (nI la), .int (nI wo), .int (nI cu), .int (nI fa), .int (nI fat), .ref qs, .ref ql, .ref qm, .ref qi, .ref qe])), aN z qj 31 rQ, aN z qp 72 psQ] sz (fun _ => True) [(o, .inr (11, [.ref qj, .ref qt, .ref qf, .ref qp, .int (nI (knU un + 1)), .ref qk, .ref qq, .int (nI ku), .int (nI ik), .ref qa, .int (nI tnQ), .int (nI th), .int (nI la), .int (nI wo), .int (nI cu), .int (nI fa), .int (nI fat), .ref qs, .ref ql, .ref qm, .ref qi, .ref qe])), aN z qj 31 rQ, aN z qp 72 (knP rQ psQ un)] none (fun _ => True) := by
  refine Met.ofW (cc := cX11_know) (maxL := 2) (ret := none) (by decide) rfl ?_
  intro pg e s m args below meth c s₁ B hml hv
  obtain ⟨rfl, hsz, hP, hK, hD0, hE⟩ := hv
  have hx := B.exec
  have hb := B.bytes
  have hr := B.returns
  have hts : ∀ w ∈ ALL, w.before _ s = true := fun w h => atoms_spec (ws := wA yX11_know cX11_know 2 none) B.pre w (List.mem_cons_of_mem _ h)
  have hown : s.vm.findClass RX11 = some m.cls := findClass_of_methodNamed B.named
  have hlocks := B.notSynchronized
  subst hsz
  have hD := hD0.self (sz := s.heap.size)
  have hu7 := knU_lt hun
  have hA : ∀ q : Nat, s.heap.size ≤ q → va_A [(o, .inr (11, [.ref qj, .ref qt, .ref qf, .ref qp, .int (nI un), .ref qk, .ref qq, .int (nI ku), .int (nI ik), .ref qa, .int (nI tnQ), .int (nI th), .int (nI la), .int (nI wo), .int (nI cu), .int (nI fa), .int (nI fat), .ref qs, .ref ql, .ref qm, .ref qi, .ref qe])), aN z qj 31 rQ, aN z qp 72 psQ] s.heap.size q := fun q h => Or.inr h
  generalize va_A [(o, .inr (11, [.ref qj, .ref qt, .ref qf, .ref qp, .int (nI un), .ref qk, .ref qq, .int (nI ku), .int (nI ik), .ref qa, .int (nI tnQ), .int (nI th), .int (nI la), .int (nI wo), .int (nI cu), .int (nI fa), .int (nI fat), .ref qs, .ref ql, .ref qm, .ref qi, .ref qe])), aN z qj 31 rQ, aN z qp 72 psQ] s.heap.size = A at *
  have hS : va_S A s.heap s.heap [] := va_S.rf
  have hl := lv_entry ([.ref o]) (n := 2) (Nat.le_of_ble_eq_true rfl)
  rw [lg_entry_eq]
  generalize (lg_sl ([.ref o]) ++ List.replicate (2 - (lg_sl ([.ref o])).length) Slot.unset).toArray = ls at hl ⊢
  have hl : lv_has ls 2 [(0, .ref o)] := hl
  refine lv_aload_n hx hb dX11_know_0 rfl (lv_at hl 0 rfl) ?_
  refine va_get (D := D) (ci := 11) (v := .int (nI un)) (C := RX11) (T := TX11) (N := 22) hx hb hts iX11 hown hK.1 hP 0 rfl rfl 4 (by decide) (hts _ m_580) (fun _ h9 => h9) rfl dX11_know_1 ?_
  refine lv_bipush (v := nI 8) hx hb dX11_know_4 (by decide +kernel) ?_
  refine nv_ne (tgt := 48) hx hb (by omega) (by omega) dX11_know_6 (by decide) (fun hc6 => ?_) (fun hc6 => ?_)
  · have eU : knU un = un := if_neg hc6
    have eS : knS psQ un = psQ := if_neg hc6
    have hP : va_P D vwCl [(o, .inr (11, [.ref qj, .ref qt, .ref qf, .ref qp, .int (nI (knU un)), .ref qk, .ref qq, .int (nI ku), .int (nI ik), .ref qa, .int (nI tnQ), .int (nI th), .int (nI la), .int (nI wo), .int (nI cu), .int (nI fa), .int (nI fat), .ref qs, .ref ql, .ref qm, .ref qi, .ref qe])), aN z qj 31 rQ, aN z qp 72 (knS psQ un)] s.heap := by rw [eU, eS]; exact hP
    have hD : va_D A [(o, .inr (11, [.ref qj, .ref qt, .ref qf, .ref qp, .int (nI (knU un)), .ref qk, .ref qq, .int (nI ku), .int (nI ik), .ref qa, .int (nI tnQ), .int (nI th), .int (nI la), .int (nI wo), .int (nI cu), .int (nI fa), .int (nI fat), .ref qs, .ref ql, .ref qm, .ref qi, .ref qe])), aN z qj 31 rQ, aN z qp 72 (knS psQ un)] := by rw [eU, eS]; exact hD
    clear eU eS
    refine lv_aload_n hx hb dX11_know_48 rfl (lv_at hl 0 rfl) ?_
    refine va_get (D := D) (ci := 11) (v := .ref qp) (C := RX11) (T := TX11) (N := 22) hx hb hts iX11 hown hK.1 hP 0 rfl rfl 3 (by decide) (hts _ m_526) (fun _ h9 => h9) rfl dX11_know_49 ?_
    refine lv_bipush (v := nI 9) hx hb dX11_know_52 (by decide +kernel) ?_
    refine lv_aload_n hx hb dX11_know_54 rfl (lv_at hl 0 rfl) ?_
    refine va_get (D := D) (ci := 11) (v := .int (nI (knU un))) (C := RX11) (T := TX11) (N := 22) hx hb hts iX11 hown hK.1 hP 0 rfl rfl 4 (by decide) (hts _ m_580) (fun _ h9 => h9) rfl dX11_know_55 ?_
    refine nv_mul hx hb dX11_know_58 ?_
    refine lv_aload_n hx hb dX11_know_59 rfl (lv_at hl 0 rfl) ?_
    refine va_get (D := D) (ci := 11) (v := .ref qj) (C := RX11) (T := TX11) (N := 22) hx hb hts iX11 hown hK.1 hP 0 rfl rfl 0 (by decide) (hts _ m_523) (fun _ h9 => h9) rfl dX11_know_60 ?_
    refine lv_iconst (v := nI 0) hx hb dX11_know_63 (by decide +kernel) ?_
    refine nv_ald hx hb hK hP 1 rfl (by omega) (by decide) dX11_know_64 ?_
    refine nv_ast hx hb hK hP hD hS 2 rfl (by omega) (by decide) dX11_know_65 (fun H locs hP hD hS => ?_)
    have hP : va_P D vwCl [(o, .inr (11, [.ref qj, .ref qt, .ref qf, .ref qp, .int (nI (knU un)), .ref qk, .ref qq, .int (nI ku), .int (nI ik), .ref qa, .int (nI tnQ), .int (nI th), .int (nI la), .int (nI wo), .int (nI cu), .int (nI fa), .int (nI fat), .ref qs, .ref ql, .ref qm, .ref qi, .ref qe])), aN z qj 31 rQ, aN z qp 72 (uN (knS psQ un) (9 * (knU un)) (rQ 0))] H := hP
    have hD : va_D A [(o, .inr (11, [.ref qj, .ref qt, .ref qf, .ref qp, .int (nI (knU un)), .ref qk, .ref qq, .int (nI ku), .int (nI ik), .ref qa, .int (nI tnQ), .int (nI th), .int (nI la), .int (nI wo), .int (nI cu), .int (nI fa), .int (nI fat), .ref qs, .ref ql, .ref qm, .ref qi, .ref qe])), aN z qj 31 rQ, aN z qp 72 (uN (knS psQ un) (9 * (knU un)) (rQ 0))] := hD
    refine lv_aload_n hx hb dX11_know_66 rfl (lv_at hl 0 rfl) ?_
    refine va_get (D := D) (ci := 11) (v := .ref qp) (C := RX11) (T := TX11) (N := 22) hx hb hts iX11 hown hK.1 hP 0 rfl rfl 3 (by decide) (hts _ m_526) (fun _ h9 => h9) rfl dX11_know_67 ?_
    refine lv_bipush (v := nI 9) hx hb dX11_know_70 (by decide +kernel) ?_
    refine lv_aload_n hx hb dX11_know_72 rfl (lv_at hl 0 rfl) ?_
    refine va_get (D := D) (ci := 11) (v := .int (nI (knU un))) (C := RX11) (T := TX11) (N := 22) hx hb hts iX11 hown hK.1 hP 0 rfl rfl 4 (by decide) (hts _ m_580) (fun _ h9 => h9) rfl dX11_know_73 ?_
    refine nv_mul hx hb dX11_know_76 ?_
    refine lv_iconst (v := nI 1) hx hb dX11_know_77 (by decide +kernel) ?_
    refine nv_add hx hb dX11_know_78 ?_
    refine lv_aload_n hx hb dX11_know_79 rfl (lv_at hl 0 rfl) ?_
    refine va_get (D := D) (ci := 11) (v := .ref qj) (C := RX11) (T := TX11) (N := 22) hx hb hts iX11 hown hK.1 hP 0 rfl rfl 0 (by decide) (hts _ m_523) (fun _ h9 => h9) rfl dX11_know_80 ?_
    refine lv_iconst (v := nI 4) hx hb dX11_know_83 (by decide +kernel) ?_
    refine nv_ald hx hb hK hP 1 rfl (by omega) (by decide) dX11_know_84 ?_
    refine nv_ast hx hb hK hP hD hS 2 rfl (by omega) (by decide) dX11_know_85 (fun H locs hP hD hS => ?_)
    have hP : va_P D vwCl [(o, .inr (11, [.ref qj, .ref qt, .ref qf, .ref qp, .int (nI (knU un)), .ref qk, .ref qq, .int (nI ku), .int (nI ik), .ref qa, .int (nI tnQ), .int (nI th), .int (nI la), .int (nI wo), .int (nI cu), .int (nI fa), .int (nI fat), .ref qs, .ref ql, .ref qm, .ref qi, .ref qe])), aN z qj 31 rQ, aN z qp 72 (uN (uN (knS psQ un) (9 * (knU un)) (rQ 0)) (9 * (knU un) + 1) (rQ 4))] H := hP
    have hD : va_D A [(o, .inr (11, [.ref qj, .ref qt, .ref qf, .ref qp, .int (nI (knU un)), .ref qk, .ref qq, .int (nI ku), .int (nI ik), .ref qa, .int (nI tnQ), .int (nI th), .int (nI la), .int (nI wo), .int (nI cu), .int (nI fa), .int (nI fat), .ref qs, .ref ql, .ref qm, .ref qi, .ref qe])), aN z qj 31 rQ, aN z qp 72 (uN (uN (knS psQ un) (9 * (knU un)) (rQ 0)) (9 * (knU un) + 1) (rQ 4))] := hD
    refine lv_aload_n hx hb dX11_know_86 rfl (lv_at hl 0 rfl) ?_
    refine va_get (D := D) (ci := 11) (v := .ref qp) (C := RX11) (T := TX11) (N := 22) hx hb hts iX11 hown hK.1 hP 0 rfl rfl 3 (by decide) (hts _ m_526) (fun _ h9 => h9) rfl dX11_know_87 ?_
    refine lv_bipush (v := nI 9) hx hb dX11_know_90 (by decide +kernel) ?_
    refine lv_aload_n hx hb dX11_know_92 rfl (lv_at hl 0 rfl) ?_
    refine va_get (D := D) (ci := 11) (v := .int (nI (knU un))) (C := RX11) (T := TX11) (N := 22) hx hb hts iX11 hown hK.1 hP 0 rfl rfl 4 (by decide) (hts _ m_580) (fun _ h9 => h9) rfl dX11_know_93 ?_
    refine nv_mul hx hb dX11_know_96 ?_
    refine lv_iconst (v := nI 2) hx hb dX11_know_97 (by decide +kernel) ?_
    refine nv_add hx hb dX11_know_98 ?_
    refine lv_aload_n hx hb dX11_know_99 rfl (lv_at hl 0 rfl) ?_
    refine va_get (D := D) (ci := 11) (v := .ref qj) (C := RX11) (T := TX11) (N := 22) hx hb hts iX11 hown hK.1 hP 0 rfl rfl 0 (by decide) (hts _ m_523) (fun _ h9 => h9) rfl dX11_know_100 ?_
    refine lv_iconst (v := nI 5) hx hb dX11_know_103 (by decide +kernel) ?_
    refine nv_ald hx hb hK hP 1 rfl (by omega) (by decide) dX11_know_104 ?_
    refine nv_ast hx hb hK hP hD hS 2 rfl (by omega) (by decide) dX11_know_105 (fun H locs hP hD hS => ?_)
    have hP : va_P D vwCl [(o, .inr (11, [.ref qj, .ref qt, .ref qf, .ref qp, .int (nI (knU un)), .ref qk, .ref qq, .int (nI ku), .int (nI ik), .ref qa, .int (nI tnQ), .int (nI th), .int (nI la), .int (nI wo), .int (nI cu), .int (nI fa), .int (nI fat), .ref qs, .ref ql, .ref qm, .ref qi, .ref qe])), aN z qj 31 rQ, aN z qp 72 (uN (uN (uN (knS psQ un) (9 * (knU un)) (rQ 0)) (9 * (knU un) + 1) (rQ 4)) (9 * (knU un) + 2) (rQ 5))] H := hP
    have hD : va_D A [(o, .inr (11, [.ref qj, .ref qt, .ref qf, .ref qp, .int (nI (knU un)), .ref qk, .ref qq, .int (nI ku), .int (nI ik), .ref qa, .int (nI tnQ), .int (nI th), .int (nI la), .int (nI wo), .int (nI cu), .int (nI fa), .int (nI fat), .ref qs, .ref ql, .ref qm, .ref qi, .ref qe])), aN z qj 31 rQ, aN z qp 72 (uN (uN (uN (knS psQ un) (9 * (knU un)) (rQ 0)) (9 * (knU un) + 1) (rQ 4)) (9 * (knU un) + 2) (rQ 5))] := hD
    refine lv_iconst (v := nI 0) hx hb dX11_know_106 (by decide +kernel) ?_
    refine lv_istore_n (lv' := [(1, .int (nI 0)), (0, .ref o)]) hx hb dX11_know_107 rfl hl (by decide) rfl (fun ls hl => ?_)
    refine nv_loop (σ := Nat) (fun x H locs ls => ∃ (jQ : Nat), jQ = x ∧ ((jQ ≤ 6)) ∧ va_P D vwCl [(o, .inr (11, [.ref qj, .ref qt, .ref qf, .ref qp, .int (nI (knU un)), .ref qk, .ref qq, .int (nI ku), .int (nI ik), .ref qa, .int (nI tnQ), .int (nI th), .int (nI la), .int (nI wo), .int (nI cu), .int (nI fa), .int (nI fat), .ref qs, .ref ql, .ref qm, .ref qi, .ref qe])), aN z qj 31 rQ, aN z qp 72 (knE rQ (knS psQ un) (knU un) jQ)] H ∧ va_D A [(o, .inr (11, [.ref qj, .ref qt, .ref qf, .ref qp, .int (nI (knU un)), .ref qk, .ref qq, .int (nI ku), .int (nI ik), .ref qa, .int (nI tnQ), .int (nI th), .int (nI la), .int (nI wo), .int (nI cu), .int (nI fa), .int (nI fat), .ref qs, .ref ql, .ref qm, .ref qi, .ref qe])), aN z qj 31 rQ, aN z qp 72 (knE rQ (knS psQ un) (knU un) jQ)] ∧ va_S A s.heap H locs ∧ lv_has ls 2 [(0, .ref o), (1, .int (nI jQ))]) (fun x => 6 - x) 108 [] ?_ 0 ?_
    · rintro _ H locs ls ⟨jQ, rfl, hj, hP, hD, hS, hl⟩ ih108
      refine lv_iload_n hx hb dX11_know_108 rfl (lv_at hl 1 rfl) ?_
      refine lv_bipush (v := nI 6) hx hb dX11_know_109 (by decide +kernel) ?_
      refine nv_ge (tgt := 145) hx hb (by omega) (by omega) dX11_know_111 (by decide) (fun hc111 => ?_) (fun hc111 => ?_)
      · obtain rfl : jQ = 6 := by omega
        refine lv_aload_n hx hb dX11_know_145 rfl (lv_at hl 0 rfl) ?_
        refine lv_dup hx hb dX11_know_146 rfl ?_
        refine va_get (D := D) (ci := 11) (v := .int (nI (knU un))) (C := RX11) (T := TX11) (N := 22) hx hb hts iX11 hown hK.1 hP 0 rfl rfl 4 (by decide) (hts _ m_580) (fun _ h9 => h9) rfl dX11_know_147 ?_
        refine lv_iconst (v := nI 1) hx hb dX11_know_150 (by decide +kernel) ?_
        refine nv_add hx hb dX11_know_151 ?_
        refine va_put (D := D) (ci := 11) (v := .int (nI (knU un + 1))) (ty := tyX11 4) (C := RX11) (T := TX11) (N := 22) hx hb hts iX11 tyX11 tyX11_ok nmX11 hown hK.1 hP hD hS 0 rfl rfl 4 (by decide) (hts _ m_580) (fun _ h9 => h9) rfl (tyX11_ok 4 (by decide)) rfl rfl (Nat.le_of_ble_eq_true rfl) dX11_know_152 (fun H locs hP hD hS => ?_)
        have hP : va_P D vwCl [(o, .inr (11, [.ref qj, .ref qt, .ref qf, .ref qp, .int (nI (knU un + 1)), .ref qk, .ref qq, .int (nI ku), .int (nI ik), .ref qa, .int (nI tnQ), .int (nI th), .int (nI la), .int (nI wo), .int (nI cu), .int (nI fa), .int (nI fat), .ref qs, .ref ql, .ref qm, .ref qi, .ref qe])), aN z qj 31 rQ, aN z qp 72 (knE rQ (knS psQ un) (knU un) 6)] H := hP
        have hD : va_D A [(o, .inr (11, [.ref qj, .ref qt, .ref qf, .ref qp, .int (nI (knU un + 1)), .ref qk, .ref qq, .int (nI ku), .int (nI ik), .ref qa, .int (nI tnQ), .int (nI th), .int (nI la), .int (nI wo), .int (nI cu), .int (nI fa), .int (nI fat), .ref qs, .ref ql, .ref qm, .ref qi, .ref qe])), aN z qj 31 rQ, aN z qp 72 (knE rQ (knS psQ un) (knU un) 6)] := hD
        exact nv_mv hx hb hr hlocks hS dX11_know_155 hP trivial
      · refine lv_aload_n hx hb dX11_know_114 rfl (lv_at hl 0 rfl) ?_
        refine va_get (D := D) (ci := 11) (v := .ref qp) (C := RX11) (T := TX11) (N := 22) hx hb hts iX11 hown hK.1 hP 0 rfl rfl 3 (by decide) (hts _ m_526) (fun _ h9 => h9) rfl dX11_know_115 ?_
        refine lv_bipush (v := nI 9) hx hb dX11_know_118 (by decide +kernel) ?_
        refine lv_aload_n hx hb dX11_know_120 rfl (lv_at hl 0 rfl) ?_
        refine va_get (D := D) (ci := 11) (v := .int (nI (knU un))) (C := RX11) (T := TX11) (N := 22) hx hb hts iX11 hown hK.1 hP 0 rfl rfl 4 (by decide) (hts _ m_580) (fun _ h9 => h9) rfl dX11_know_121 ?_
        refine nv_mul hx hb dX11_know_124 ?_
        refine lv_iconst (v := nI 3) hx hb dX11_know_125 (by decide +kernel) ?_
        refine nv_add hx hb dX11_know_126 ?_
        refine lv_iload_n hx hb dX11_know_127 rfl (lv_at hl 1 rfl) ?_
        refine nv_add hx hb dX11_know_128 ?_
        refine lv_aload_n hx hb dX11_know_129 rfl (lv_at hl 0 rfl) ?_
        refine va_get (D := D) (ci := 11) (v := .ref qj) (C := RX11) (T := TX11) (N := 22) hx hb hts iX11 hown hK.1 hP 0 rfl rfl 0 (by decide) (hts _ m_523) (fun _ h9 => h9) rfl dX11_know_130 ?_
        refine lv_iload_n hx hb dX11_know_133 rfl (lv_at hl 1 rfl) ?_
        refine lv_iconst (v := nI 2) hx hb dX11_know_134 (by decide +kernel) ?_
        have hPc := hP.sub (ws' := [aN z qj 31 rQ]) [1] rfl
        refine nv_cp1 (va_runS (As := [.ref qj, .int (nI jQ), .int (nI 2)]) (rest := [.int (nI (9 * (knU un) + 3 + jQ)), .ref qp]) ⟨hx, hb, hml, hown, hts⟩ (c_X11_its l D z qj rQ jQ 2 (by first | assumption | omega)) (va_cwS 3 hts (gS m_544 m_545 m_541 m_542) rfl rfl rfl hd_X11_its ⟨Nat.le_of_ble_eq_true rfl, Nat.le_of_ble_eq_true rfl⟩) (nv_preP hK hPc trivial _) rfl rfl hl.1 rfl (lv_room (Nat.le_of_ble_eq_true rfl)) dX11_know_135 ⟨by decide, by decide⟩) ?_
        refine nv_ast hx hb hK hP hD hS 2 rfl (by omega) (by decide) dX11_know_138 (fun H locs hP hD hS => ?_)
        have hP : va_P D vwCl [(o, .inr (11, [.ref qj, .ref qt, .ref qf, .ref qp, .int (nI (knU un)), .ref qk, .ref qq, .int (nI ku), .int (nI ik), .ref qa, .int (nI tnQ), .int (nI th), .int (nI la), .int (nI wo), .int (nI cu), .int (nI fa), .int (nI fat), .ref qs, .ref ql, .ref qm, .ref qi, .ref qe])), aN z qj 31 rQ, aN z qp 72 (uN (knE rQ (knS psQ un) (knU un) jQ) (9 * (knU un) + 3 + jQ) (rQ (7 + 4 * jQ + 2)))] H := hP
        have hD : va_D A [(o, .inr (11, [.ref qj, .ref qt, .ref qf, .ref qp, .int (nI (knU un)), .ref qk, .ref qq, .int (nI ku), .int (nI ik), .ref qa, .int (nI tnQ), .int (nI th), .int (nI la), .int (nI wo), .int (nI cu), .int (nI fa), .int (nI fat), .ref qs, .ref ql, .ref qm, .ref qi, .ref qe])), aN z qj 31 rQ, aN z qp 72 (uN (knE rQ (knS psQ un) (knU un) jQ) (9 * (knU un) + 3 + jQ) (rQ (7 + 4 * jQ + 2)))] := hD
        refine lv_iinc (v := nI (jQ + 1)) (lv' := [(1, .int (nI (jQ + 1))), (0, .ref o)]) hx hb dX11_know_139 hl (k := 1) rfl (nI_inc _) (by decide) rfl (fun ls hl => ?_)
        refine lv_goto (tgt := 108) hx hb dX11_know_142 (by decide) ?_
        exact ih108 (jQ + 1) _ _ _ (by omega) ⟨jQ + 1, rfl, (by omega), hP, hD, hS, lv_sub hl [1, 0] rfl⟩
    · exact ⟨0, rfl, (by omega), hP, hD, hS, lv_sub hl [1, 0] rfl⟩
  · refine lv_iconst (v := nI 0) hx hb dX11_know_9 (by decide +kernel) ?_
    refine lv_istore_n (lv' := [(1, .int (nI 0)), (0, .ref o)]) hx hb dX11_know_10 rfl hl (by decide) rfl (fun ls hl => ?_)
    refine nv_loop (σ := Nat) (fun x H locs ls => ∃ (jQ : Nat), jQ = x ∧ ((jQ ≤ 63)) ∧ va_P D vwCl [(o, .inr (11, [.ref qj, .ref qt, .ref qf, .ref qp, .int (nI un), .ref qk, .ref qq, .int (nI ku), .int (nI ik), .ref qa, .int (nI tnQ), .int (nI th), .int (nI la), .int (nI wo), .int (nI cu), .int (nI fa), .int (nI fat), .ref qs, .ref ql, .ref qm, .ref qi, .ref qe])), aN z qj 31 rQ, aN z qp 72 (shF psQ jQ)] H ∧ va_D A [(o, .inr (11, [.ref qj, .ref qt, .ref qf, .ref qp, .int (nI un), .ref qk, .ref qq, .int (nI ku), .int (nI ik), .ref qa, .int (nI tnQ), .int (nI th), .int (nI la), .int (nI wo), .int (nI cu), .int (nI fa), .int (nI fat), .ref qs, .ref ql, .ref qm, .ref qi, .ref qe])), aN z qj 31 rQ, aN z qp 72 (shF psQ jQ)] ∧ va_S A s.heap H locs ∧ lv_has ls 2 [(0, .ref o), (1, .int (nI jQ))]) (fun x => 63 - x) 11 [] ?_ 0 ?_
    · rintro _ H locs ls ⟨jQ, rfl, hj, hP, hD, hS, hl⟩ ih11
      refine lv_iload_n hx hb dX11_know_11 rfl (lv_at hl 1 rfl) ?_
      refine lv_bipush (v := nI 63) hx hb dX11_know_12 (by decide +kernel) ?_
      refine nv_ge (tgt := 38) hx hb (by omega) (by omega) dX11_know_14 (by decide) (fun hc14 => ?_) (fun hc14 => ?_)
      · obtain rfl : jQ = 63 := by omega
        refine lv_aload_n hx hb dX11_know_38 rfl (lv_at hl 0 rfl) ?_
        refine lv_dup hx hb dX11_know_39 rfl ?_
        refine va_get (D := D) (ci := 11) (v := .int (nI un)) (C := RX11) (T := TX11) (N := 22) hx hb hts iX11 hown hK.1 hP 0 rfl rfl 4 (by decide) (hts _ m_580) (fun _ h9 => h9) rfl dX11_know_40 ?_
        refine lv_iconst (v := nI 1) hx hb dX11_know_43 (by decide +kernel) ?_
        refine nv_sub hx hb (by omega) dX11_know_44 ?_
        refine va_put (D := D) (ci := 11) (v := .int (nI (un - 1))) (ty := tyX11 4) (C := RX11) (T := TX11) (N := 22) hx hb hts iX11 tyX11 tyX11_ok nmX11 hown hK.1 hP hD hS 0 rfl rfl 4 (by decide) (hts _ m_580) (fun _ h9 => h9) rfl (tyX11_ok 4 (by decide)) rfl rfl (Nat.le_of_ble_eq_true rfl) dX11_know_45 (fun H locs hP hD hS => ?_)
        have hP : va_P D vwCl [(o, .inr (11, [.ref qj, .ref qt, .ref qf, .ref qp, .int (nI (un - 1)), .ref qk, .ref qq, .int (nI ku), .int (nI ik), .ref qa, .int (nI tnQ), .int (nI th), .int (nI la), .int (nI wo), .int (nI cu), .int (nI fa), .int (nI fat), .ref qs, .ref ql, .ref qm, .ref qi, .ref qe])), aN z qj 31 rQ, aN z qp 72 (shF psQ 63)] H := hP
        have hD : va_D A [(o, .inr (11, [.ref qj, .ref qt, .ref qf, .ref qp, .int (nI (un - 1)), .ref qk, .ref qq, .int (nI ku), .int (nI ik), .ref qa, .int (nI tnQ), .int (nI th), .int (nI la), .int (nI wo), .int (nI cu), .int (nI fa), .int (nI fat), .ref qs, .ref ql, .ref qm, .ref qi, .ref qe])), aN z qj 31 rQ, aN z qp 72 (shF psQ 63)] := hD
        have eU : knU un = un - 1 := by unfold knU; rw [if_pos hc6]; omega
        have eS : knS psQ un = shF psQ 63 := by rw [shF_63, hc6]
        have hP : va_P D vwCl [(o, .inr (11, [.ref qj, .ref qt, .ref qf, .ref qp, .int (nI (knU un)), .ref qk, .ref qq, .int (nI ku), .int (nI ik), .ref qa, .int (nI tnQ), .int (nI th), .int (nI la), .int (nI wo), .int (nI cu), .int (nI fa), .int (nI fat), .ref qs, .ref ql, .ref qm, .ref qi, .ref qe])), aN z qj 31 rQ, aN z qp 72 (knS psQ un)] H := by rw [eU, eS]; exact hP
        have hD : va_D A [(o, .inr (11, [.ref qj, .ref qt, .ref qf, .ref qp, .int (nI (knU un)), .ref qk, .ref qq, .int (nI ku), .int (nI ik), .ref qa, .int (nI tnQ), .int (nI th), .int (nI la), .int (nI wo), .int (nI cu), .int (nI fa), .int (nI fat), .ref qs, .ref ql, .ref qm, .ref qi, .ref qe])), aN z qj 31 rQ, aN z qp 72 (knS psQ un)] := by rw [eU, eS]; exact hD
        clear eU eS
        refine lv_aload_n hx hb dX11_know_48 rfl (lv_at hl 0 rfl) ?_
        refine va_get (D := D) (ci := 11) (v := .ref qp) (C := RX11) (T := TX11) (N := 22) hx hb hts iX11 hown hK.1 hP 0 rfl rfl 3 (by decide) (hts _ m_526) (fun _ h9 => h9) rfl dX11_know_49 ?_
        refine lv_bipush (v := nI 9) hx hb dX11_know_52 (by decide +kernel) ?_
        refine lv_aload_n hx hb dX11_know_54 rfl (lv_at hl 0 rfl) ?_
        refine va_get (D := D) (ci := 11) (v := .int (nI (knU un))) (C := RX11) (T := TX11) (N := 22) hx hb hts iX11 hown hK.1 hP 0 rfl rfl 4 (by decide) (hts _ m_580) (fun _ h9 => h9) rfl dX11_know_55 ?_
        refine nv_mul hx hb dX11_know_58 ?_
        refine lv_aload_n hx hb dX11_know_59 rfl (lv_at hl 0 rfl) ?_
        refine va_get (D := D) (ci := 11) (v := .ref qj) (C := RX11) (T := TX11) (N := 22) hx hb hts iX11 hown hK.1 hP 0 rfl rfl 0 (by decide) (hts _ m_523) (fun _ h9 => h9) rfl dX11_know_60 ?_
        refine lv_iconst (v := nI 0) hx hb dX11_know_63 (by decide +kernel) ?_
        refine nv_ald hx hb hK hP 1 rfl (by omega) (by decide) dX11_know_64 ?_
        refine nv_ast hx hb hK hP hD hS 2 rfl (by omega) (by decide) dX11_know_65 (fun H locs hP hD hS => ?_)
        have hP : va_P D vwCl [(o, .inr (11, [.ref qj, .ref qt, .ref qf, .ref qp, .int (nI (knU un)), .ref qk, .ref qq, .int (nI ku), .int (nI ik), .ref qa, .int (nI tnQ), .int (nI th), .int (nI la), .int (nI wo), .int (nI cu), .int (nI fa), .int (nI fat), .ref qs, .ref ql, .ref qm, .ref qi, .ref qe])), aN z qj 31 rQ, aN z qp 72 (uN (knS psQ un) (9 * (knU un)) (rQ 0))] H := hP
        have hD : va_D A [(o, .inr (11, [.ref qj, .ref qt, .ref qf, .ref qp, .int (nI (knU un)), .ref qk, .ref qq, .int (nI ku), .int (nI ik), .ref qa, .int (nI tnQ), .int (nI th), .int (nI la), .int (nI wo), .int (nI cu), .int (nI fa), .int (nI fat), .ref qs, .ref ql, .ref qm, .ref qi, .ref qe])), aN z qj 31 rQ, aN z qp 72 (uN (knS psQ un) (9 * (knU un)) (rQ 0))] := hD
        refine lv_aload_n hx hb dX11_know_66 rfl (lv_at hl 0 rfl) ?_
        refine va_get (D := D) (ci := 11) (v := .ref qp) (C := RX11) (T := TX11) (N := 22) hx hb hts iX11 hown hK.1 hP 0 rfl rfl 3 (by decide) (hts _ m_526) (fun _ h9 => h9) rfl dX11_know_67 ?_
        refine lv_bipush (v := nI 9) hx hb dX11_know_70 (by decide +kernel) ?_
        refine lv_aload_n hx hb dX11_know_72 rfl (lv_at hl 0 rfl) ?_
        refine va_get (D := D) (ci := 11) (v := .int (nI (knU un))) (C := RX11) (T := TX11) (N := 22) hx hb hts iX11 hown hK.1 hP 0 rfl rfl 4 (by decide) (hts _ m_580) (fun _ h9 => h9) rfl dX11_know_73 ?_
        refine nv_mul hx hb dX11_know_76 ?_
        refine lv_iconst (v := nI 1) hx hb dX11_know_77 (by decide +kernel) ?_
        refine nv_add hx hb dX11_know_78 ?_
        refine lv_aload_n hx hb dX11_know_79 rfl (lv_at hl 0 rfl) ?_
        refine va_get (D := D) (ci := 11) (v := .ref qj) (C := RX11) (T := TX11) (N := 22) hx hb hts iX11 hown hK.1 hP 0 rfl rfl 0 (by decide) (hts _ m_523) (fun _ h9 => h9) rfl dX11_know_80 ?_
        refine lv_iconst (v := nI 4) hx hb dX11_know_83 (by decide +kernel) ?_
        refine nv_ald hx hb hK hP 1 rfl (by omega) (by decide) dX11_know_84 ?_
        refine nv_ast hx hb hK hP hD hS 2 rfl (by omega) (by decide) dX11_know_85 (fun H locs hP hD hS => ?_)
        have hP : va_P D vwCl [(o, .inr (11, [.ref qj, .ref qt, .ref qf, .ref qp, .int (nI (knU un)), .ref qk, .ref qq, .int (nI ku), .int (nI ik), .ref qa, .int (nI tnQ), .int (nI th), .int (nI la), .int (nI wo), .int (nI cu), .int (nI fa), .int (nI fat), .ref qs, .ref ql, .ref qm, .ref qi, .ref qe])), aN z qj 31 rQ, aN z qp 72 (uN (uN (knS psQ un) (9 * (knU un)) (rQ 0)) (9 * (knU un) + 1) (rQ 4))] H := hP
        have hD : va_D A [(o, .inr (11, [.ref qj, .ref qt, .ref qf, .ref qp, .int (nI (knU un)), .ref qk, .ref qq, .int (nI ku), .int (nI ik), .ref qa, .int (nI tnQ), .int (nI th), .int (nI la), .int (nI wo), .int (nI cu), .int (nI fa), .int (nI fat), .ref qs, .ref ql, .ref qm, .ref qi, .ref qe])), aN z qj 31 rQ, aN z qp 72 (uN (uN (knS psQ un) (9 * (knU un)) (rQ 0)) (9 * (knU un) + 1) (rQ 4))] := hD
        refine lv_aload_n hx hb dX11_know_86 rfl (lv_at hl 0 rfl) ?_
        refine va_get (D := D) (ci := 11) (v := .ref qp) (C := RX11) (T := TX11) (N := 22) hx hb hts iX11 hown hK.1 hP 0 rfl rfl 3 (by decide) (hts _ m_526) (fun _ h9 => h9) rfl dX11_know_87 ?_
        refine lv_bipush (v := nI 9) hx hb dX11_know_90 (by decide +kernel) ?_
        refine lv_aload_n hx hb dX11_know_92 rfl (lv_at hl 0 rfl) ?_
        refine va_get (D := D) (ci := 11) (v := .int (nI (knU un))) (C := RX11) (T := TX11) (N := 22) hx hb hts iX11 hown hK.1 hP 0 rfl rfl 4 (by decide) (hts _ m_580) (fun _ h9 => h9) rfl dX11_know_93 ?_
        refine nv_mul hx hb dX11_know_96 ?_
        refine lv_iconst (v := nI 2) hx hb dX11_know_97 (by decide +kernel) ?_
        refine nv_add hx hb dX11_know_98 ?_
        refine lv_aload_n hx hb dX11_know_99 rfl (lv_at hl 0 rfl) ?_
        refine va_get (D := D) (ci := 11) (v := .ref qj) (C := RX11) (T := TX11) (N := 22) hx hb hts iX11 hown hK.1 hP 0 rfl rfl 0 (by decide) (hts _ m_523) (fun _ h9 => h9) rfl dX11_know_100 ?_
        refine lv_iconst (v := nI 5) hx hb dX11_know_103 (by decide +kernel) ?_
        refine nv_ald hx hb hK hP 1 rfl (by omega) (by decide) dX11_know_104 ?_
        refine nv_ast hx hb hK hP hD hS 2 rfl (by omega) (by decide) dX11_know_105 (fun H locs hP hD hS => ?_)
        have hP : va_P D vwCl [(o, .inr (11, [.ref qj, .ref qt, .ref qf, .ref qp, .int (nI (knU un)), .ref qk, .ref qq, .int (nI ku), .int (nI ik), .ref qa, .int (nI tnQ), .int (nI th), .int (nI la), .int (nI wo), .int (nI cu), .int (nI fa), .int (nI fat), .ref qs, .ref ql, .ref qm, .ref qi, .ref qe])), aN z qj 31 rQ, aN z qp 72 (uN (uN (uN (knS psQ un) (9 * (knU un)) (rQ 0)) (9 * (knU un) + 1) (rQ 4)) (9 * (knU un) + 2) (rQ 5))] H := hP
        have hD : va_D A [(o, .inr (11, [.ref qj, .ref qt, .ref qf, .ref qp, .int (nI (knU un)), .ref qk, .ref qq, .int (nI ku), .int (nI ik), .ref qa, .int (nI tnQ), .int (nI th), .int (nI la), .int (nI wo), .int (nI cu), .int (nI fa), .int (nI fat), .ref qs, .ref ql, .ref qm, .ref qi, .ref qe])), aN z qj 31 rQ, aN z qp 72 (uN (uN (uN (knS psQ un) (9 * (knU un)) (rQ 0)) (9 * (knU un) + 1) (rQ 4)) (9 * (knU un) + 2) (rQ 5))] := hD
        refine lv_iconst (v := nI 0) hx hb dX11_know_106 (by decide +kernel) ?_
        refine lv_istore_n (lv' := [(1, .int (nI 0)), (0, .ref o)]) hx hb dX11_know_107 rfl hl (by decide) rfl (fun ls hl => ?_)
        refine nv_loop (σ := Nat) (fun x H locs ls => ∃ (jQ : Nat), jQ = x ∧ ((jQ ≤ 6)) ∧ va_P D vwCl [(o, .inr (11, [.ref qj, .ref qt, .ref qf, .ref qp, .int (nI (knU un)), .ref qk, .ref qq, .int (nI ku), .int (nI ik), .ref qa, .int (nI tnQ), .int (nI th), .int (nI la), .int (nI wo), .int (nI cu), .int (nI fa), .int (nI fat), .ref qs, .ref ql, .ref qm, .ref qi, .ref qe])), aN z qj 31 rQ, aN z qp 72 (knE rQ (knS psQ un) (knU un) jQ)] H ∧ va_D A [(o, .inr (11, [.ref qj, .ref qt, .ref qf, .ref qp, .int (nI (knU un)), .ref qk, .ref qq, .int (nI ku), .int (nI ik), .ref qa, .int (nI tnQ), .int (nI th), .int (nI la), .int (nI wo), .int (nI cu), .int (nI fa), .int (nI fat), .ref qs, .ref ql, .ref qm, .ref qi, .ref qe])), aN z qj 31 rQ, aN z qp 72 (knE rQ (knS psQ un) (knU un) jQ)] ∧ va_S A s.heap H locs ∧ lv_has ls 2 [(0, .ref o), (1, .int (nI jQ))]) (fun x => 6 - x) 108 [] ?_ 0 ?_
        · rintro _ H locs ls ⟨jQ, rfl, hj, hP, hD, hS, hl⟩ ih108
          refine lv_iload_n hx hb dX11_know_108 rfl (lv_at hl 1 rfl) ?_
          refine lv_bipush (v := nI 6) hx hb dX11_know_109 (by decide +kernel) ?_
          refine nv_ge (tgt := 145) hx hb (by omega) (by omega) dX11_know_111 (by decide) (fun hc111 => ?_) (fun hc111 => ?_)
          · obtain rfl : jQ = 6 := by omega
            refine lv_aload_n hx hb dX11_know_145 rfl (lv_at hl 0 rfl) ?_
            refine lv_dup hx hb dX11_know_146 rfl ?_
            refine va_get (D := D) (ci := 11) (v := .int (nI (knU un))) (C := RX11) (T := TX11) (N := 22) hx hb hts iX11 hown hK.1 hP 0 rfl rfl 4 (by decide) (hts _ m_580) (fun _ h9 => h9) rfl dX11_know_147 ?_
            refine lv_iconst (v := nI 1) hx hb dX11_know_150 (by decide +kernel) ?_
            refine nv_add hx hb dX11_know_151 ?_
            refine va_put (D := D) (ci := 11) (v := .int (nI (knU un + 1))) (ty := tyX11 4) (C := RX11) (T := TX11) (N := 22) hx hb hts iX11 tyX11 tyX11_ok nmX11 hown hK.1 hP hD hS 0 rfl rfl 4 (by decide) (hts _ m_580) (fun _ h9 => h9) rfl (tyX11_ok 4 (by decide)) rfl rfl (Nat.le_of_ble_eq_true rfl) dX11_know_152 (fun H locs hP hD hS => ?_)
            have hP : va_P D vwCl [(o, .inr (11, [.ref qj, .ref qt, .ref qf, .ref qp, .int (nI (knU un + 1)), .ref qk, .ref qq, .int (nI ku), .int (nI ik), .ref qa, .int (nI tnQ), .int (nI th), .int (nI la), .int (nI wo), .int (nI cu), .int (nI fa), .int (nI fat), .ref qs, .ref ql, .ref qm, .ref qi, .ref qe])), aN z qj 31 rQ, aN z qp 72 (knE rQ (knS psQ un) (knU un) 6)] H := hP
            have hD : va_D A [(o, .inr (11, [.ref qj, .ref qt, .ref qf, .ref qp, .int (nI (knU un + 1)), .ref qk, .ref qq, .int (nI ku), .int (nI ik), .ref qa, .int (nI tnQ), .int (nI th), .int (nI la), .int (nI wo), .int (nI cu), .int (nI fa), .int (nI fat), .ref qs, .ref ql, .ref qm, .ref qi, .ref qe])), aN z qj 31 rQ, aN z qp 72 (knE rQ (knS psQ un) (knU un) 6)] := hD
            exact nv_mv hx hb hr hlocks hS dX11_know_155 hP trivial
          · refine lv_aload_n hx hb dX11_know_114 rfl (lv_at hl 0 rfl) ?_
            refine va_get (D := D) (ci := 11) (v := .ref qp) (C := RX11) (T := TX11) (N := 22) hx hb hts iX11 hown hK.1 hP 0 rfl rfl 3 (by decide) (hts _ m_526) (fun _ h9 => h9) rfl dX11_know_115 ?_
            refine lv_bipush (v := nI 9) hx hb dX11_know_118 (by decide +kernel) ?_
            refine lv_aload_n hx hb dX11_know_120 rfl (lv_at hl 0 rfl) ?_
            refine va_get (D := D) (ci := 11) (v := .int (nI (knU un))) (C := RX11) (T := TX11) (N := 22) hx hb hts iX11 hown hK.1 hP 0 rfl rfl 4 (by decide) (hts _ m_580) (fun _ h9 => h9) rfl dX11_know_121 ?_
            refine nv_mul hx hb dX11_know_124 ?_
            refine lv_iconst (v := nI 3) hx hb dX11_know_125 (by decide +kernel) ?_
            refine nv_add hx hb dX11_know_126 ?_
            refine lv_iload_n hx hb dX11_know_127 rfl (lv_at hl 1 rfl) ?_
            refine nv_add hx hb dX11_know_128 ?_
            refine lv_aload_n hx hb dX11_know_129 rfl (lv_at hl 0 rfl) ?_
            refine va_get (D := D) (ci := 11) (v := .ref qj) (C := RX11) (T := TX11) (N := 22) hx hb hts iX11 hown hK.1 hP 0 rfl rfl 0 (by decide) (hts _ m_523) (fun _ h9 => h9) rfl dX11_know_130 ?_
            refine lv_iload_n hx hb dX11_know_133 rfl (lv_at hl 1 rfl) ?_
            refine lv_iconst (v := nI 2) hx hb dX11_know_134 (by decide +kernel) ?_
            have hPc := hP.sub (ws' := [aN z qj 31 rQ]) [1] rfl
            refine nv_cp1 (va_runS (As := [.ref qj, .int (nI jQ), .int (nI 2)]) (rest := [.int (nI (9 * (knU un) + 3 + jQ)), .ref qp]) ⟨hx, hb, hml, hown, hts⟩ (c_X11_its l D z qj rQ jQ 2 (by first | assumption | omega)) (va_cwS 3 hts (gS m_544 m_545 m_541 m_542) rfl rfl rfl hd_X11_its ⟨Nat.le_of_ble_eq_true rfl, Nat.le_of_ble_eq_true rfl⟩) (nv_preP hK hPc trivial _) rfl rfl hl.1 rfl (lv_room (Nat.le_of_ble_eq_true rfl)) dX11_know_135 ⟨by decide, by decide⟩) ?_
            refine nv_ast hx hb hK hP hD hS 2 rfl (by omega) (by decide) dX11_know_138 (fun H locs hP hD hS => ?_)
            have hP : va_P D vwCl [(o, .inr (11, [.ref qj, .ref qt, .ref qf, .ref qp, .int (nI (knU un)), .ref qk, .ref qq, .int (nI ku), .int (nI ik), .ref qa, .int (nI tnQ), .int (nI th), .int (nI la), .int (nI wo), .int (nI cu), .int (nI fa), .int (nI fat), .ref qs, .ref ql, .ref qm, .ref qi, .ref qe])), aN z qj 31 rQ, aN z qp 72 (uN (knE rQ (knS psQ un) (knU un) jQ) (9 * (knU un) + 3 + jQ) (rQ (7 + 4 * jQ + 2)))] H := hP
            have hD : va_D A [(o, .inr (11, [.ref qj, .ref qt, .ref qf, .ref qp, .int (nI (knU un)), .ref qk, .ref qq, .int (nI ku), .int (nI ik), .ref qa, .int (nI tnQ), .int (nI th), .int (nI la), .int (nI wo), .int (nI cu), .int (nI fa), .int (nI fat), .ref qs, .ref ql, .ref qm, .ref qi, .ref qe])), aN z qj 31 rQ, aN z qp 72 (uN (knE rQ (knS psQ un) (knU un) jQ) (9 * (knU un) + 3 + jQ) (rQ (7 + 4 * jQ + 2)))] := hD
            refine lv_iinc (v := nI (jQ + 1)) (lv' := [(1, .int (nI (jQ + 1))), (0, .ref o)]) hx hb dX11_know_139 hl (k := 1) rfl (nI_inc _) (by decide) rfl (fun ls hl => ?_)
            refine lv_goto (tgt := 108) hx hb dX11_know_142 (by decide) ?_
            exact ih108 (jQ + 1) _ _ _ (by omega) ⟨jQ + 1, rfl, (by omega), hP, hD, hS, lv_sub hl [1, 0] rfl⟩
        · exact ⟨0, rfl, (by omega), hP, hD, hS, lv_sub hl [1, 0] rfl⟩
      · refine lv_aload_n hx hb dX11_know_17 rfl (lv_at hl 0 rfl) ?_
        refine va_get (D := D) (ci := 11) (v := .ref qp) (C := RX11) (T := TX11) (N := 22) hx hb hts iX11 hown hK.1 hP 0 rfl rfl 3 (by decide) (hts _ m_526) (fun _ h9 => h9) rfl dX11_know_18 ?_
        refine lv_iload_n hx hb dX11_know_21 rfl (lv_at hl 1 rfl) ?_
        refine lv_aload_n hx hb dX11_know_22 rfl (lv_at hl 0 rfl) ?_
        refine va_get (D := D) (ci := 11) (v := .ref qp) (C := RX11) (T := TX11) (N := 22) hx hb hts iX11 hown hK.1 hP 0 rfl rfl 3 (by decide) (hts _ m_526) (fun _ h9 => h9) rfl dX11_know_23 ?_
        refine lv_iload_n hx hb dX11_know_26 rfl (lv_at hl 1 rfl) ?_
        refine lv_bipush (v := nI 9) hx hb dX11_know_27 (by decide +kernel) ?_
        refine nv_add hx hb dX11_know_29 ?_
        refine nv_ald hx hb hK hP 2 rfl (by omega) (by decide) dX11_know_30 ?_
        refine nv_ast hx hb hK hP hD hS 2 rfl (by omega) (by decide) dX11_know_31 (fun H locs hP hD hS => ?_)
        have hP : va_P D vwCl [(o, .inr (11, [.ref qj, .ref qt, .ref qf, .ref qp, .int (nI un), .ref qk, .ref qq, .int (nI ku), .int (nI ik), .ref qa, .int (nI tnQ), .int (nI th), .int (nI la), .int (nI wo), .int (nI cu), .int (nI fa), .int (nI fat), .ref qs, .ref ql, .ref qm, .ref qi, .ref qe])), aN z qj 31 rQ, aN z qp 72 (uN (shF psQ jQ) jQ ((shF psQ jQ) (jQ + 9)))] H := hP
        have hD : va_D A [(o, .inr (11, [.ref qj, .ref qt, .ref qf, .ref qp, .int (nI un), .ref qk, .ref qq, .int (nI ku), .int (nI ik), .ref qa, .int (nI tnQ), .int (nI th), .int (nI la), .int (nI wo), .int (nI cu), .int (nI fa), .int (nI fat), .ref qs, .ref ql, .ref qm, .ref qi, .ref qe])), aN z qj 31 rQ, aN z qp 72 (uN (shF psQ jQ) jQ ((shF psQ jQ) (jQ + 9)))] := hD
        refine lv_iinc (v := nI (jQ + 1)) (lv' := [(1, .int (nI (jQ + 1))), (0, .ref o)]) hx hb dX11_know_32 hl (k := 1) rfl (nI_inc _) (by decide) rfl (fun ls hl => ?_)
        refine lv_goto (tgt := 11) hx hb dX11_know_35 (by decide) ?_
        exact ih11 (jQ + 1) _ _ _ (by omega) ⟨jQ + 1, rfl, (by omega), hP, hD, hS, lv_sub hl [1, 0] rfl⟩
    · exact ⟨0, rfl, (by omega), hP, hD, hS, lv_sub hl [1, 0] rfl⟩

set_option maxHeartbeats 4000000 in
set_option maxRecDepth 100000 in
theorem c_X11_weeks (l : Launch) (D : va_G) (z : Nat → ClassId) (sz : Nat) (w0Q : Nat) (o : Nat) (qj : Nat) (qt : Nat) (qf : Nat) (qp : Nat) (qk : Nat) (qq : Nat) (qa : Nat) (qs : Nat) (ql : Nat) (qm : Nat) (qi : Nat) (qe : Nat) (un : Nat) (ku : Nat) (ik : Nat) (tnQ : Nat) (th : Nat) (la : Nat) (wo : Nat) (cu : Nat) (fa : Nat) (fat : Nat) (rQ : Nat → Nat) (psQ : Nat → Nat) (nv : Int32) (r1Q : Nat → Nat) (ps1 : Nat → Nat) (un1 : Nat) (vQ : Int32) (hok : rOK w0Q rQ) (hw : w0Q ≤ 10000) (hun : un ≤ 8) (hrel : wsRel rQ psQ un nv r1Q ps1 un1 vQ) : CM l yX11_weeks cX11_weeks 4 (some .int) 5 118 0 0 [.ref o, .int nv] D z [(o, .inr (11, [.ref qj, .ref qt, .ref qf, .ref qp, .int (nI un), .ref qk, .ref qq, .int (nI ku), .int (nI ik), .ref qa, .int (nI tnQ), .int (nI th), .int (nI la), .int (nI wo), .int (nI cu), .int (nI fa), .int (nI fat), .ref qs, .ref ql, .ref qm, .ref qi, .ref qe])), aN z qj 31 rQ, aN z qp 72 psQ] sz (fun _ => True) [(o, .inr (11, [.ref qj, .ref qt, .ref qf, .ref qp, .int (nI un1), .ref qk, .ref qq, .int (nI ku), .int (nI ik), .ref qa, .int (nI tnQ), .int (nI 0), .int (nI la), .int (nI wo), .int (nI cu), .int (nI fa), .int (nI fat), .ref qs, .ref ql, .ref qm, .ref qi, .ref qe])), aN z qj 31 r1Q, aN z qp 72 ps1] (some (.int vQ)) (fun _ => True) := by
  refine Met.ofW (cc := cX11_weeks) (maxL := 4) (ret := (some .int)) (by decide) rfl ?_
  intro pg e s m args below meth c s₁ B hml hv
  obtain ⟨rfl, hsz, hP, hK, hD0, hE⟩ := hv
  have hx := B.exec
  have hb := B.bytes
  have hr := B.returns
  have hts : ∀ w ∈ ALL, w.before _ s = true := fun w h => atoms_spec (ws := wA yX11_weeks cX11_weeks 4 (some .int)) B.pre w (List.mem_cons_of_mem _ h)
  have hown : s.vm.findClass RX11 = some m.cls := findClass_of_methodNamed B.named
  have hlocks := B.notSynchronized
  subst hsz
  have hD := hD0.self (sz := s.heap.size)
  obtain ⟨o0, o1, o1b, o2, o2b, o3, o4, o5, o6, oP⟩ := id hok
  have hA : ∀ q : Nat, s.heap.size ≤ q → va_A [(o, .inr (11, [.ref qj, .ref qt, .ref qf, .ref qp, .int (nI un), .ref qk, .ref qq, .int (nI ku), .int (nI ik), .ref qa, .int (nI tnQ), .int (nI th), .int (nI la), .int (nI wo), .int (nI cu), .int (nI fa), .int (nI fat), .ref qs, .ref ql, .ref qm, .ref qi, .ref qe])), aN z qj 31 rQ, aN z qp 72 psQ] s.heap.size q := fun q h => Or.inr h
  generalize va_A [(o, .inr (11, [.ref qj, .ref qt, .ref qf, .ref qp, .int (nI un), .ref qk, .ref qq, .int (nI ku), .int (nI ik), .ref qa, .int (nI tnQ), .int (nI th), .int (nI la), .int (nI wo), .int (nI cu), .int (nI fa), .int (nI fat), .ref qs, .ref ql, .ref qm, .ref qi, .ref qe])), aN z qj 31 rQ, aN z qp 72 psQ] s.heap.size = A at *
  have hS : va_S A s.heap s.heap [] := va_S.rf
  have hl := lv_entry ([.ref o, .int nv]) (n := 4) (Nat.le_of_ble_eq_true rfl)
  rw [lg_entry_eq]
  generalize (lg_sl ([.ref o, .int nv]) ++ List.replicate (4 - (lg_sl ([.ref o, .int nv])).length) Slot.unset).toArray = ls at hl ⊢
  have hl : lv_has ls 4 [(0, .ref o), (1, .int nv)] := hl
  refine lv_aload_n hx hb dX11_weeks_0 rfl (lv_at hl 0 rfl) ?_
  refine lv_iconst (v := nI 0) hx hb dX11_weeks_1 (by decide +kernel) ?_
  refine va_put (D := D) (ci := 11) (v := .int (nI 0)) (ty := tyX11 11) (C := RX11) (T := TX11) (N := 22) hx hb hts iX11 tyX11 tyX11_ok nmX11 hown hK.1 hP hD hS 0 rfl rfl 11 (by decide) (hts _ m_576) (fun _ h9 => h9) rfl (tyX11_ok 11 (by decide)) rfl rfl (Nat.le_of_ble_eq_true rfl) dX11_weeks_2 (fun H locs hP hD hS => ?_)
  have hP : va_P D vwCl [(o, .inr (11, [.ref qj, .ref qt, .ref qf, .ref qp, .int (nI un), .ref qk, .ref qq, .int (nI ku), .int (nI ik), .ref qa, .int (nI tnQ), .int (nI 0), .int (nI la), .int (nI wo), .int (nI cu), .int (nI fa), .int (nI fat), .ref qs, .ref ql, .ref qm, .ref qi, .ref qe])), aN z qj 31 rQ, aN z qp 72 psQ] H := hP
  have hD : va_D A [(o, .inr (11, [.ref qj, .ref qt, .ref qf, .ref qp, .int (nI un), .ref qk, .ref qq, .int (nI ku), .int (nI ik), .ref qa, .int (nI tnQ), .int (nI 0), .int (nI la), .int (nI wo), .int (nI cu), .int (nI fa), .int (nI fat), .ref qs, .ref ql, .ref qm, .ref qi, .ref qe])), aN z qj 31 rQ, aN z qp 72 psQ] := hD
  refine lv_iload_n hx hb dX11_weeks_5 rfl (lv_at hl 1 rfl) ?_
  refine lv_i2l hx hb dX11_weeks_6 rfl ?_
  refine lv_lconst (v := 1) hx hb dX11_weeks_7 (by decide +kernel) ?_
  refine lv_ldc2 (own := RX11) hx hb hown (hts _ m_636) dX11_weeks_8 ?_
  have hPc := hP.sub (ws' := []) [] rfl
  refine nv_cp1 (va_runS (As := [.long nv.toInt64, .long 1, .long (60)]) (rest := []) ⟨hx, hb, hml, hown, hts⟩ (c_X11_in l D z nv.toInt64 1 (60) ) (va_cwS 3 hts (gS m_539 m_540 m_541 m_536) rfl rfl rfl hd_X11_in ⟨Nat.le_of_ble_eq_true rfl, Nat.le_of_ble_eq_true rfl⟩) (nv_preP hK hPc trivial _) rfl rfl hl.1 rfl (lv_room (Nat.le_of_ble_eq_true rfl)) dX11_weeks_11 ⟨by decide, by decide⟩) ?_
  refine nv_inwl (a := 1) (b := 60) (by decide) (by decide) ?_
  refine nv_bne (tgt := 19) hx hb dX11_weeks_14 (by decide) (fun hc14 => ?_) (fun hc14 => ?_)
  · obtain ⟨kQ, rfl, k0, k1⟩ := wi_nat (b := 60) (by decide) hc14
    refine lv_aload_n hx hb dX11_weeks_19 rfl (lv_at hl 0 rfl) ?_
    refine va_get (D := D) (ci := 11) (v := .ref qj) (C := RX11) (T := TX11) (N := 22) hx hb hts iX11 hown hK.1 hP 0 rfl rfl 0 (by decide) (hts _ m_523) (fun _ h9 => h9) rfl dX11_weeks_20 ?_
    refine lv_iconst (v := nI 4) hx hb dX11_weeks_23 (by decide +kernel) ?_
    refine nv_ald hx hb hK hP 1 rfl (by omega) (by decide) dX11_weeks_24 ?_
    refine lv_iload_n hx hb dX11_weeks_25 rfl (lv_at hl 1 rfl) ?_
    refine nv_add hx hb dX11_weeks_26 ?_
    refine lv_sipush (v := nI 9999) hx hb dX11_weeks_27 (by decide +kernel) ?_
    refine nv_le (tgt := 36) hx hb (by omega) (by omega) dX11_weeks_30 (by decide) (fun hc30 => ?_) (fun hc30 => ?_)
    · obtain ⟨rfl, rfl, rfl, rfl⟩ := hrel.2.2 kQ rfl (by omega) (by omega) (by omega)
      refine lv_iconst (v := nI 0) hx hb dX11_weeks_36 (by decide +kernel) ?_
      refine lv_istore_n (lv' := [(2, .int (nI 0)), (0, .ref o), (1, .int (nI kQ))]) hx hb dX11_weeks_37 rfl hl (by decide) rfl (fun ls hl => ?_)
      refine nv_loop (σ := Nat) (fun x H locs ls => ∃ (jQ : Nat), jQ = x ∧ ((jQ ≤ kQ)) ∧ va_P D vwCl [(o, .inr (11, [.ref qj, .ref qt, .ref qf, .ref qp, .int (nI (unN un jQ)), .ref qk, .ref qq, .int (nI ku), .int (nI ik), .ref qa, .int (nI tnQ), .int (nI 0), .int (nI la), .int (nI wo), .int (nI cu), .int (nI fa), .int (nI fat), .ref qs, .ref ql, .ref qm, .ref qi, .ref qe])), aN z qj 31 (wkN rQ jQ), aN z qp 72 (psN rQ psQ un jQ)] H ∧ va_D A [(o, .inr (11, [.ref qj, .ref qt, .ref qf, .ref qp, .int (nI (unN un jQ)), .ref qk, .ref qq, .int (nI ku), .int (nI ik), .ref qa, .int (nI tnQ), .int (nI 0), .int (nI la), .int (nI wo), .int (nI cu), .int (nI fa), .int (nI fat), .ref qs, .ref ql, .ref qm, .ref qi, .ref qe])), aN z qj 31 (wkN rQ jQ), aN z qp 72 (psN rQ psQ un jQ)] ∧ va_S A s.heap H locs ∧ lv_has ls 4 [(0, .ref o), (1, .int (nI kQ)), (2, .int (nI jQ))]) (fun x => kQ - x) 38 [] ?_ 0 ?_
      · rintro _ H locs ls ⟨jQ, rfl, hj, hP, hD, hS, hl⟩ ih38
        refine lv_iload_n hx hb dX11_weeks_38 rfl (lv_at hl 2 rfl) ?_
        refine lv_iload_n hx hb dX11_weeks_39 rfl (lv_at hl 1 rfl) ?_
        refine nv_ge (tgt := 62) hx hb (by omega) (by omega) dX11_weeks_40 (by decide) (fun hc40 => ?_) (fun hc40 => ?_)
        · obtain rfl : kQ = jQ := by omega
          refine lv_aload_n hx hb dX11_weeks_62 rfl (lv_at hl 0 rfl) ?_
          refine va_get (D := D) (ci := 11) (v := .ref qj) (C := RX11) (T := TX11) (N := 22) hx hb hts iX11 hown hK.1 hP 0 rfl rfl 0 (by decide) (hts _ m_523) (fun _ h9 => h9) rfl dX11_weeks_63 ?_
          refine lv_iconst (v := nI 0) hx hb dX11_weeks_66 (by decide +kernel) ?_
          refine nv_ald hx hb hK hP 1 rfl (by omega) (by decide) dX11_weeks_67 ?_
          exact nv_mi hx hb hr hlocks hS dX11_weeks_68 hP trivial rfl
        · refine lv_aload_n hx hb dX11_weeks_43 rfl (lv_at hl 0 rfl) ?_
          have hPc := hP.sub (ws' := [(o, .inr (11, [.ref qj, .ref qt, .ref qf, .ref qp, .int (nI (unN un jQ)), .ref qk, .ref qq, .int (nI ku), .int (nI ik), .ref qa, .int (nI tnQ), .int (nI 0), .int (nI la), .int (nI wo), .int (nI cu), .int (nI fa), .int (nI fat), .ref qs, .ref ql, .ref qm, .ref qi, .ref qe])), aN z qj 31 (wkN rQ jQ), aN z qp 72 (psN rQ psQ un jQ)]) [0, 1, 2] rfl
          have hDc := hD.sub (ws' := [(o, .inr (11, [.ref qj, .ref qt, .ref qf, .ref qp, .int (nI (unN un jQ)), .ref qk, .ref qq, .int (nI ku), .int (nI ik), .ref qa, .int (nI tnQ), .int (nI 0), .int (nI la), .int (nI wo), .int (nI cu), .int (nI fa), .int (nI fat), .ref qs, .ref ql, .ref qm, .ref qi, .ref qe])), aN z qj 31 (wkN rQ jQ), aN z qp 72 (psN rQ psQ un jQ)]) [0, 1, 2] (by decide) rfl
          refine nv_cm0 (wc := [(o, .inr (11, [.ref qj, .ref qt, .ref qf, .ref qp, .int (nI (unN un jQ)), .ref qk, .ref qq, .int (nI ku), .int (nI ik), .ref qa, .int (nI tnQ), .int (nI 0), .int (nI la), .int (nI wo), .int (nI cu), .int (nI fa), .int (nI fat), .ref qs, .ref ql, .ref qm, .ref qi, .ref qe])), aN z qj 31 (wkN rQ jQ), aN z qp 72 (psN rQ psQ un jQ)]) (wr := []) (w1 := [(o, .inr (11, [.ref qj, .ref qt, .ref qf, .ref qp, .int (nI (knU (unN un jQ) + 1)), .ref qk, .ref qq, .int (nI ku), .int (nI ik), .ref qa, .int (nI tnQ), .int (nI 0), .int (nI la), .int (nI wo), .int (nI cu), .int (nI fa), .int (nI fat), .ref qs, .ref ql, .ref qm, .ref qi, .ref qe])), aN z qj 31 (wkN rQ jQ), aN z qp 72 (knP (wkN rQ jQ) (psN rQ psQ un jQ) (unN un jQ))]) (ws1 := [(o, .inr (11, [.ref qj, .ref qt, .ref qf, .ref qp, .int (nI (knU (unN un jQ) + 1)), .ref qk, .ref qq, .int (nI ku), .int (nI ik), .ref qa, .int (nI tnQ), .int (nI 0), .int (nI la), .int (nI wo), .int (nI cu), .int (nI fa), .int (nI fat), .ref qs, .ref ql, .ref qm, .ref qi, .ref qe])), aN z qj 31 (wkN rQ jQ), aN z qp 72 (knP (wkN rQ jQ) (psN rQ psQ un jQ) (unN un jQ))]) (va_runV (As := []) (rest := []) ⟨hx, hb, hml, hown, hts⟩ (c_X11_know l D z H.size o qj qt qf qp qk qq qa qs ql qm qi qe (unN un jQ) ku ik tnQ 0 la wo cu fa fat (wkN rQ jQ) (psN rQ psQ un jQ) (unN_le hun jQ)) (cwV 0 hts (gV m_637 m_638 m_639 m_541 m_635) rfl rfl rfl ⟨rfl, hd_X11_know⟩ ⟨Nat.le_of_ble_eq_true rfl, Nat.le_of_ble_eq_true rfl⟩) (nv_preMV (ci := 11) (q0 := 0) hK hPc hDc trivial rfl rfl) rfl rfl hl.1 rfl (lv_room (Nat.le_of_ble_eq_true rfl)) dX11_weeks_44 ⟨by decide, by decide⟩) hP hD hS hA [0, 1, 2] [] [0, 1, 2] rfl rfl (by decide) (by decide) rfl (by decide) rfl (by decide) (fun H locs hP hD hS hE44 hz44 hf44 => ?_)
          clear hPc hDc
          clear hf44 hz44
          refine lv_aload_n hx hb dX11_weeks_47 rfl (lv_at hl 0 rfl) ?_
          refine va_get (D := D) (ci := 11) (v := .ref qj) (C := RX11) (T := TX11) (N := 22) hx hb hts iX11 hown hK.1 hP 0 rfl rfl 0 (by decide) (hts _ m_523) (fun _ h9 => h9) rfl dX11_weeks_48 ?_
          refine lv_iconst (v := nI 0) hx hb dX11_weeks_51 (by decide +kernel) ?_
          have hPc := hP.sub (ws' := [aN z qj 31 (wkN rQ jQ)]) [1] rfl
          have hDc := hD.sub (ws' := [aN z qj 31 (wkN rQ jQ)]) [1] (by decide) rfl
          refine nv_cm1 (wc := [aN z qj 31 (wkN rQ jQ)]) (wr := [(o, .inr (11, [.ref qj, .ref qt, .ref qf, .ref qp, .int (nI (knU (unN un jQ) + 1)), .ref qk, .ref qq, .int (nI ku), .int (nI ik), .ref qa, .int (nI tnQ), .int (nI 0), .int (nI la), .int (nI wo), .int (nI cu), .int (nI fa), .int (nI fat), .ref qs, .ref ql, .ref qm, .ref qi, .ref qe])), aN z qp 72 (knP (wkN rQ jQ) (psN rQ psQ un jQ) (unN un jQ))]) (w1 := [aN z qj 31 (weekR (wkN rQ jQ) (wkN rQ jQ 3))]) (ws1 := [(o, .inr (11, [.ref qj, .ref qt, .ref qf, .ref qp, .int (nI (knU (unN un jQ) + 1)), .ref qk, .ref qq, .int (nI ku), .int (nI ik), .ref qa, .int (nI tnQ), .int (nI 0), .int (nI la), .int (nI wo), .int (nI cu), .int (nI fa), .int (nI fat), .ref qs, .ref ql, .ref qm, .ref qi, .ref qe])), aN z qj 31 (weekR (wkN rQ jQ) (wkN rQ jQ 3)), aN z qp 72 (knP (wkN rQ jQ) (psN rQ psQ un jQ) (unN un jQ))]) (va_runS (As := [.ref qj, .int (nI 0)]) (rest := []) ⟨hx, hb, hml, hown, hts⟩ (c_X11_week l D z H.size (w0Q + jQ) qj (wkN rQ jQ) (nI 0) (wkN rQ jQ 3) (wkN_ok jQ hok) (nI_add _ 0) (by rw [wkN_3]; omega) (by first | assumption | omega)) (va_cwS 2 hts (gS m_572 m_573 m_541 m_569) rfl rfl rfl hd_X11_week ⟨Nat.le_of_ble_eq_true rfl, Nat.le_of_ble_eq_true rfl⟩) (nv_preM hK hPc hDc trivial _) rfl rfl hl.1 rfl (lv_room (Nat.le_of_ble_eq_true rfl)) dX11_weeks_52 ⟨by decide, by decide⟩) hP hD hS hA [1] [0, 2] [0, 2, 1] rfl rfl (by decide) (by decide) rfl (by decide) rfl (by decide) (fun H locs hP hD hS hE52 hz52 hf52 => ?_)
          clear hPc hDc
          clear hf52 hz52
          refine lv_istore_n (lv' := [(3, .int (nI (weekW (wkN rQ jQ) (wkN rQ jQ 3)))), (0, .ref o), (1, .int (nI kQ)), (2, .int (nI jQ))]) hx hb dX11_weeks_55 rfl hl (by decide) rfl (fun ls hl => ?_)
          refine lv_iinc (v := nI (jQ + 1)) (lv' := [(2, .int (nI (jQ + 1))), (3, .int (nI (weekW (wkN rQ jQ) (wkN rQ jQ 3)))), (0, .ref o), (1, .int (nI kQ))]) hx hb dX11_weeks_56 hl (k := 3) rfl (nI_inc _) (by decide) rfl (fun ls hl => ?_)
          refine lv_goto (tgt := 38) hx hb dX11_weeks_59 (by decide) ?_
          exact ih38 (jQ + 1) _ _ _ (by omega) ⟨jQ + 1, rfl, (by omega), hP, hD, hS, lv_sub hl [2, 3, 0] rfl⟩
      · exact ⟨0, rfl, (by omega), hP, hD, hS, lv_sub hl [1, 2, 0] rfl⟩
    · refine lv_bipush (v := (-3)) hx hb dX11_weeks_33 (by decide +kernel) ?_
      obtain ⟨rfl, rfl, rfl, rfl⟩ := hrel.2.1 kQ rfl (by omega) (by omega) (by omega)
      exact nv_mi hx hb hr hlocks hS dX11_weeks_35 hP trivial rfl
  · refine lv_iconst (v := (-1)) hx hb dX11_weeks_17 (by decide +kernel) ?_
    obtain ⟨rfl, rfl, rfl, rfl⟩ := hrel.1 hc14
    exact nv_mi hx hb hr hlocks hS dX11_weeks_18 hP trivial rfl

set_option maxHeartbeats 4000000 in
set_option maxRecDepth 100000 in
theorem c_X11_take (l : Launch) (D : va_G) (z : Nat → ClassId) (sz : Nat) (w0Q : Nat) (o : Nat) (qj : Nat) (qt : Nat) (qf : Nat) (qp : Nat) (qk : Nat) (qq : Nat) (qa : Nat) (qs : Nat) (ql : Nat) (qm : Nat) (qi : Nat) (qe : Nat) (un : Nat) (ku : Nat) (ik : Nat) (tnQ : Nat) (th : Nat) (la : Nat) (wo : Nat) (cu : Nat) (fa : Nat) (fat : Nat) (rQ : Nat → Nat) (psQ : Nat → Nat) (nv : Int32) (r1Q : Nat → Nat) (ps1 : Nat → Nat) (un1 : Nat) (vQ : Int32) (hok : rOK w0Q rQ) (hun : un ≤ 8) (hrel : taRel rQ psQ un nv r1Q ps1 un1 vQ) : CM l yX11_take cX11_take 2 (some .int) 2 43 0 0 [.ref o, .int nv] D z [(o, .inr (11, [.ref qj, .ref qt, .ref qf, .ref qp, .int (nI un), .ref qk, .ref qq, .int (nI ku), .int (nI ik), .ref qa, .int (nI tnQ), .int (nI th), .int (nI la), .int (nI wo), .int (nI cu), .int (nI fa), .int (nI fat), .ref qs, .ref ql, .ref qm, .ref qi, .ref qe])), aN z qj 31 rQ, aN z qp 72 psQ] sz (fun _ => True) [(o, .inr (11, [.ref qj, .ref qt, .ref qf, .ref qp, .int (nI un1), .ref qk, .ref qq, .int (nI ku), .int (nI ik), .ref qa, .int (nI tnQ), .int (nI 0), .int (nI la), .int (nI wo), .int (nI cu), .int (nI fa), .int (nI fat), .ref qs, .ref ql, .ref qm, .ref qi, .ref qe])), aN z qj 31 r1Q, aN z qp 72 ps1] (some (.int vQ)) (fun _ => True) := by
  refine Met.ofW (cc := cX11_take) (maxL := 2) (ret := (some .int)) (by decide) rfl ?_
  intro pg e s m args below meth c s₁ B hml hv
  obtain ⟨rfl, hsz, hP, hK, hD0, hE⟩ := hv
  have hx := B.exec
  have hb := B.bytes
  have hr := B.returns
  have hts : ∀ w ∈ ALL, w.before _ s = true := fun w h => atoms_spec (ws := wA yX11_take cX11_take 2 (some .int)) B.pre w (List.mem_cons_of_mem _ h)
  have hown : s.vm.findClass RX11 = some m.cls := findClass_of_methodNamed B.named
  have hlocks := B.notSynchronized
  subst hsz
  have hD := hD0.self (sz := s.heap.size)
  obtain ⟨o0, o1, o1b, o2, o2b, o3, o4, o5, o6, oP⟩ := id hok
  have hA : ∀ q : Nat, s.heap.size ≤ q → va_A [(o, .inr (11, [.ref qj, .ref qt, .ref qf, .ref qp, .int (nI un), .ref qk, .ref qq, .int (nI ku), .int (nI ik), .ref qa, .int (nI tnQ), .int (nI th), .int (nI la), .int (nI wo), .int (nI cu), .int (nI fa), .int (nI fat), .ref qs, .ref ql, .ref qm, .ref qi, .ref qe])), aN z qj 31 rQ, aN z qp 72 psQ] s.heap.size q := fun q h => Or.inr h
  generalize va_A [(o, .inr (11, [.ref qj, .ref qt, .ref qf, .ref qp, .int (nI un), .ref qk, .ref qq, .int (nI ku), .int (nI ik), .ref qa, .int (nI tnQ), .int (nI th), .int (nI la), .int (nI wo), .int (nI cu), .int (nI fa), .int (nI fat), .ref qs, .ref ql, .ref qm, .ref qi, .ref qe])), aN z qj 31 rQ, aN z qp 72 psQ] s.heap.size = A at *
  have hS : va_S A s.heap s.heap [] := va_S.rf
  have hl := lv_entry ([.ref o, .int nv]) (n := 2) (Nat.le_of_ble_eq_true rfl)
  rw [lg_entry_eq]
  generalize (lg_sl ([.ref o, .int nv]) ++ List.replicate (2 - (lg_sl ([.ref o, .int nv])).length) Slot.unset).toArray = ls at hl ⊢
  have hl : lv_has ls 2 [(0, .ref o), (1, .int nv)] := hl
  refine lv_aload_n hx hb dX11_take_0 rfl (lv_at hl 0 rfl) ?_
  refine lv_iconst (v := nI 0) hx hb dX11_take_1 (by decide +kernel) ?_
  refine va_put (D := D) (ci := 11) (v := .int (nI 0)) (ty := tyX11 11) (C := RX11) (T := TX11) (N := 22) hx hb hts iX11 tyX11 tyX11_ok nmX11 hown hK.1 hP hD hS 0 rfl rfl 11 (by decide) (hts _ m_576) (fun _ h9 => h9) rfl (tyX11_ok 11 (by decide)) rfl rfl (Nat.le_of_ble_eq_true rfl) dX11_take_2 (fun H locs hP hD hS => ?_)
  have hP : va_P D vwCl [(o, .inr (11, [.ref qj, .ref qt, .ref qf, .ref qp, .int (nI un), .ref qk, .ref qq, .int (nI ku), .int (nI ik), .ref qa, .int (nI tnQ), .int (nI 0), .int (nI la), .int (nI wo), .int (nI cu), .int (nI fa), .int (nI fat), .ref qs, .ref ql, .ref qm, .ref qi, .ref qe])), aN z qj 31 rQ, aN z qp 72 psQ] H := hP
  have hD : va_D A [(o, .inr (11, [.ref qj, .ref qt, .ref qf, .ref qp, .int (nI un), .ref qk, .ref qq, .int (nI ku), .int (nI ik), .ref qa, .int (nI tnQ), .int (nI 0), .int (nI la), .int (nI wo), .int (nI cu), .int (nI fa), .int (nI fat), .ref qs, .ref ql, .ref qm, .ref qi, .ref qe])), aN z qj 31 rQ, aN z qp 72 psQ] := hD
  refine lv_iload_n hx hb dX11_take_5 rfl (lv_at hl 1 rfl) ?_
  refine lv_i2l hx hb dX11_take_6 rfl ?_
  refine lv_lconst (v := 1) hx hb dX11_take_7 (by decide +kernel) ?_
  refine lv_ldc2 (own := RX11) hx hb hown (hts _ m_587) dX11_take_8 ?_
  have hPc := hP.sub (ws' := []) [] rfl
  refine nv_cp1 (va_runS (As := [.long nv.toInt64, .long 1, .long (9999)]) (rest := []) ⟨hx, hb, hml, hown, hts⟩ (c_X11_in l D z nv.toInt64 1 (9999) ) (va_cwS 3 hts (gS m_539 m_540 m_541 m_536) rfl rfl rfl hd_X11_in ⟨Nat.le_of_ble_eq_true rfl, Nat.le_of_ble_eq_true rfl⟩) (nv_preP hK hPc trivial _) rfl rfl hl.1 rfl (lv_room (Nat.le_of_ble_eq_true rfl)) dX11_take_11 ⟨by decide, by decide⟩) ?_
  refine nv_inwl (a := 1) (b := 9999) (by decide) (by decide) ?_
  refine nv_bne (tgt := 19) hx hb dX11_take_14 (by decide) (fun hc14 => ?_) (fun hc14 => ?_)
  · obtain ⟨kQ, rfl, k0, k1⟩ := wi_nat (b := 9999) (by decide) hc14
    refine lv_iload_n hx hb dX11_take_19 rfl (lv_at hl 1 rfl) ?_
    refine lv_aload_n hx hb dX11_take_20 rfl (lv_at hl 0 rfl) ?_
    refine va_get (D := D) (ci := 11) (v := .ref qj) (C := RX11) (T := TX11) (N := 22) hx hb hts iX11 hown hK.1 hP 0 rfl rfl 0 (by decide) (hts _ m_523) (fun _ h9 => h9) rfl dX11_take_21 ?_
    refine lv_iconst (v := nI 0) hx hb dX11_take_24 (by decide +kernel) ?_
    refine nv_ald hx hb hK hP 1 rfl (by omega) (by decide) dX11_take_25 ?_
    refine nv_le (tgt := 32) hx hb (by omega) (by omega) dX11_take_26 (by decide) (fun hc26 => ?_) (fun hc26 => ?_)
    · obtain ⟨rfl, rfl, rfl, rfl⟩ := hrel.2.2 kQ rfl (by omega) (by omega)
      refine lv_aload_n hx hb dX11_take_32 rfl (lv_at hl 0 rfl) ?_
      have hPc := hP.sub (ws' := [(o, .inr (11, [.ref qj, .ref qt, .ref qf, .ref qp, .int (nI un), .ref qk, .ref qq, .int (nI ku), .int (nI ik), .ref qa, .int (nI tnQ), .int (nI 0), .int (nI la), .int (nI wo), .int (nI cu), .int (nI fa), .int (nI fat), .ref qs, .ref ql, .ref qm, .ref qi, .ref qe])), aN z qj 31 rQ, aN z qp 72 psQ]) [0, 1, 2] rfl
      have hDc := hD.sub (ws' := [(o, .inr (11, [.ref qj, .ref qt, .ref qf, .ref qp, .int (nI un), .ref qk, .ref qq, .int (nI ku), .int (nI ik), .ref qa, .int (nI tnQ), .int (nI 0), .int (nI la), .int (nI wo), .int (nI cu), .int (nI fa), .int (nI fat), .ref qs, .ref ql, .ref qm, .ref qi, .ref qe])), aN z qj 31 rQ, aN z qp 72 psQ]) [0, 1, 2] (by decide) rfl
      refine nv_cm0 (wc := [(o, .inr (11, [.ref qj, .ref qt, .ref qf, .ref qp, .int (nI un), .ref qk, .ref qq, .int (nI ku), .int (nI ik), .ref qa, .int (nI tnQ), .int (nI 0), .int (nI la), .int (nI wo), .int (nI cu), .int (nI fa), .int (nI fat), .ref qs, .ref ql, .ref qm, .ref qi, .ref qe])), aN z qj 31 rQ, aN z qp 72 psQ]) (wr := []) (w1 := [(o, .inr (11, [.ref qj, .ref qt, .ref qf, .ref qp, .int (nI (knU un + 1)), .ref qk, .ref qq, .int (nI ku), .int (nI ik), .ref qa, .int (nI tnQ), .int (nI 0), .int (nI la), .int (nI wo), .int (nI cu), .int (nI fa), .int (nI fat), .ref qs, .ref ql, .ref qm, .ref qi, .ref qe])), aN z qj 31 rQ, aN z qp 72 (knP rQ psQ un)]) (ws1 := [(o, .inr (11, [.ref qj, .ref qt, .ref qf, .ref qp, .int (nI (knU un + 1)), .ref qk, .ref qq, .int (nI ku), .int (nI ik), .ref qa, .int (nI tnQ), .int (nI 0), .int (nI la), .int (nI wo), .int (nI cu), .int (nI fa), .int (nI fat), .ref qs, .ref ql, .ref qm, .ref qi, .ref qe])), aN z qj 31 rQ, aN z qp 72 (knP rQ psQ un)]) (va_runV (As := []) (rest := []) ⟨hx, hb, hml, hown, hts⟩ (c_X11_know l D z H.size o qj qt qf qp qk qq qa qs ql qm qi qe un ku ik tnQ 0 la wo cu fa fat rQ psQ (by first | assumption | omega)) (cwV 0 hts (gV m_637 m_638 m_639 m_541 m_635) rfl rfl rfl ⟨rfl, hd_X11_know⟩ ⟨Nat.le_of_ble_eq_true rfl, Nat.le_of_ble_eq_true rfl⟩) (nv_preMV (ci := 11) (q0 := 0) hK hPc hDc trivial rfl rfl) rfl rfl hl.1 rfl (lv_room (Nat.le_of_ble_eq_true rfl)) dX11_take_33 ⟨by decide, by decide⟩) hP hD hS hA [0, 1, 2] [] [0, 1, 2] rfl rfl (by decide) (by decide) rfl (by decide) rfl (by decide) (fun H locs hP hD hS hE33 hz33 hf33 => ?_)
      clear hPc hDc
      clear hf33 hz33
      refine lv_aload_n hx hb dX11_take_36 rfl (lv_at hl 0 rfl) ?_
      refine va_get (D := D) (ci := 11) (v := .ref qj) (C := RX11) (T := TX11) (N := 22) hx hb hts iX11 hown hK.1 hP 0 rfl rfl 0 (by decide) (hts _ m_523) (fun _ h9 => h9) rfl dX11_take_37 ?_
      refine lv_iconst (v := nI 0) hx hb dX11_take_40 (by decide +kernel) ?_
      refine lv_dup2_11 hx hb dX11_take_41 rfl rfl ?_
      refine nv_ald hx hb hK hP 1 rfl (by omega) (by decide) dX11_take_42 ?_
      refine lv_iload_n hx hb dX11_take_43 rfl (lv_at hl 1 rfl) ?_
      refine nv_sub hx hb (by omega) dX11_take_44 ?_
      refine nv_ast hx hb hK hP hD hS 1 rfl (by omega) (by decide) dX11_take_45 (fun H locs hP hD hS => ?_)
      have hP : va_P D vwCl [(o, .inr (11, [.ref qj, .ref qt, .ref qf, .ref qp, .int (nI (knU un + 1)), .ref qk, .ref qq, .int (nI ku), .int (nI ik), .ref qa, .int (nI tnQ), .int (nI 0), .int (nI la), .int (nI wo), .int (nI cu), .int (nI fa), .int (nI fat), .ref qs, .ref ql, .ref qm, .ref qi, .ref qe])), aN z qj 31 (uN rQ 0 ((rQ 0) - kQ)), aN z qp 72 (knP rQ psQ un)] H := hP
      have hD : va_D A [(o, .inr (11, [.ref qj, .ref qt, .ref qf, .ref qp, .int (nI (knU un + 1)), .ref qk, .ref qq, .int (nI ku), .int (nI ik), .ref qa, .int (nI tnQ), .int (nI 0), .int (nI la), .int (nI wo), .int (nI cu), .int (nI fa), .int (nI fat), .ref qs, .ref ql, .ref qm, .ref qi, .ref qe])), aN z qj 31 (uN rQ 0 ((rQ 0) - kQ)), aN z qp 72 (knP rQ psQ un)] := hD
      refine lv_aload_n hx hb dX11_take_46 rfl (lv_at hl 0 rfl) ?_
      refine va_get (D := D) (ci := 11) (v := .ref qj) (C := RX11) (T := TX11) (N := 22) hx hb hts iX11 hown hK.1 hP 0 rfl rfl 0 (by decide) (hts _ m_523) (fun _ h9 => h9) rfl dX11_take_47 ?_
      refine lv_iconst (v := nI 0) hx hb dX11_take_50 (by decide +kernel) ?_
      refine nv_ald hx hb hK hP 1 rfl (by omega) (by decide) dX11_take_51 ?_
      exact nv_mi hx hb hr hlocks hS dX11_take_52 hP trivial (by rw [uN_s])
    · refine lv_bipush (v := (-2)) hx hb dX11_take_29 (by decide +kernel) ?_
      obtain ⟨rfl, rfl, rfl, rfl⟩ := hrel.2.1 kQ rfl (by omega) (by omega) (by omega)
      exact nv_mi hx hb hr hlocks hS dX11_take_31 hP trivial rfl
  · refine lv_iconst (v := (-1)) hx hb dX11_take_17 (by decide +kernel) ?_
    obtain ⟨rfl, rfl, rfl, rfl⟩ := hrel.1 hc14
    exact nv_mi hx hb hr hlocks hS dX11_take_18 hP trivial rfl

set_option maxHeartbeats 4000000 in
set_option maxRecDepth 100000 in
theorem c_X11_drift (l : Launch) (D : va_G) (z : Nat → ClassId) (sz : Nat) (w0Q : Nat) (o : Nat) (qj : Nat) (qt : Nat) (qf : Nat) (qp : Nat) (qk : Nat) (qq : Nat) (qa : Nat) (qs : Nat) (ql : Nat) (qm : Nat) (qi : Nat) (qe : Nat) (un : Nat) (ku : Nat) (ik : Nat) (tnQ : Nat) (th : Nat) (la : Nat) (wo : Nat) (cu : Nat) (fa : Nat) (fat : Nat) (rQ : Nat → Nat) (psQ : Nat → Nat) (nv : Int32) (r1Q : Nat → Nat) (ps1 : Nat → Nat) (un1 : Nat) (vQ : Int32) (hok : rOK w0Q rQ) (hw : w0Q ≤ 10000) (hun : un ≤ 8) (hrel : dfRel rQ psQ un nv r1Q ps1 un1 vQ) : CM l yX11_drift cX11_drift 4 (some .int) 5 118 0 0 [.ref o, .int nv] D z [(o, .inr (11, [.ref qj, .ref qt, .ref qf, .ref qp, .int (nI un), .ref qk, .ref qq, .int (nI ku), .int (nI ik), .ref qa, .int (nI tnQ), .int (nI th), .int (nI la), .int (nI wo), .int (nI cu), .int (nI fa), .int (nI fat), .ref qs, .ref ql, .ref qm, .ref qi, .ref qe])), aN z qj 31 rQ, aN z qp 72 psQ] sz (fun _ => True) [(o, .inr (11, [.ref qj, .ref qt, .ref qf, .ref qp, .int (nI un1), .ref qk, .ref qq, .int (nI ku), .int (nI ik), .ref qa, .int (nI tnQ), .int (nI 0), .int (nI la), .int (nI wo), .int (nI cu), .int (nI fa), .int (nI fat), .ref qs, .ref ql, .ref qm, .ref qi, .ref qe])), aN z qj 31 r1Q, aN z qp 72 ps1] (some (.int vQ)) (fun _ => True) := by
  refine Met.ofW (cc := cX11_drift) (maxL := 4) (ret := (some .int)) (by decide) rfl ?_
  intro pg e s m args below meth c s₁ B hml hv
  obtain ⟨rfl, hsz, hP, hK, hD0, hE⟩ := hv
  have hx := B.exec
  have hb := B.bytes
  have hr := B.returns
  have hts : ∀ w ∈ ALL, w.before _ s = true := fun w h => atoms_spec (ws := wA yX11_drift cX11_drift 4 (some .int)) B.pre w (List.mem_cons_of_mem _ h)
  have hown : s.vm.findClass RX11 = some m.cls := findClass_of_methodNamed B.named
  have hlocks := B.notSynchronized
  subst hsz
  have hD := hD0.self (sz := s.heap.size)
  obtain ⟨o0, o1, o1b, o2, o2b, o3, o4, o5, o6, oP⟩ := id hok
  have hA : ∀ q : Nat, s.heap.size ≤ q → va_A [(o, .inr (11, [.ref qj, .ref qt, .ref qf, .ref qp, .int (nI un), .ref qk, .ref qq, .int (nI ku), .int (nI ik), .ref qa, .int (nI tnQ), .int (nI th), .int (nI la), .int (nI wo), .int (nI cu), .int (nI fa), .int (nI fat), .ref qs, .ref ql, .ref qm, .ref qi, .ref qe])), aN z qj 31 rQ, aN z qp 72 psQ] s.heap.size q := fun q h => Or.inr h
  generalize va_A [(o, .inr (11, [.ref qj, .ref qt, .ref qf, .ref qp, .int (nI un), .ref qk, .ref qq, .int (nI ku), .int (nI ik), .ref qa, .int (nI tnQ), .int (nI th), .int (nI la), .int (nI wo), .int (nI cu), .int (nI fa), .int (nI fat), .ref qs, .ref ql, .ref qm, .ref qi, .ref qe])), aN z qj 31 rQ, aN z qp 72 psQ] s.heap.size = A at *
  have hS : va_S A s.heap s.heap [] := va_S.rf
  have hl := lv_entry ([.ref o, .int nv]) (n := 4) (Nat.le_of_ble_eq_true rfl)
  rw [lg_entry_eq]
  generalize (lg_sl ([.ref o, .int nv]) ++ List.replicate (4 - (lg_sl ([.ref o, .int nv])).length) Slot.unset).toArray = ls at hl ⊢
  have hl : lv_has ls 4 [(0, .ref o), (1, .int nv)] := hl
  refine lv_aload_n hx hb dX11_drift_0 rfl (lv_at hl 0 rfl) ?_
  refine lv_iconst (v := nI 0) hx hb dX11_drift_1 (by decide +kernel) ?_
  refine va_put (D := D) (ci := 11) (v := .int (nI 0)) (ty := tyX11 11) (C := RX11) (T := TX11) (N := 22) hx hb hts iX11 tyX11 tyX11_ok nmX11 hown hK.1 hP hD hS 0 rfl rfl 11 (by decide) (hts _ m_576) (fun _ h9 => h9) rfl (tyX11_ok 11 (by decide)) rfl rfl (Nat.le_of_ble_eq_true rfl) dX11_drift_2 (fun H locs hP hD hS => ?_)
  have hP : va_P D vwCl [(o, .inr (11, [.ref qj, .ref qt, .ref qf, .ref qp, .int (nI un), .ref qk, .ref qq, .int (nI ku), .int (nI ik), .ref qa, .int (nI tnQ), .int (nI 0), .int (nI la), .int (nI wo), .int (nI cu), .int (nI fa), .int (nI fat), .ref qs, .ref ql, .ref qm, .ref qi, .ref qe])), aN z qj 31 rQ, aN z qp 72 psQ] H := hP
  have hD : va_D A [(o, .inr (11, [.ref qj, .ref qt, .ref qf, .ref qp, .int (nI un), .ref qk, .ref qq, .int (nI ku), .int (nI ik), .ref qa, .int (nI tnQ), .int (nI 0), .int (nI la), .int (nI wo), .int (nI cu), .int (nI fa), .int (nI fat), .ref qs, .ref ql, .ref qm, .ref qi, .ref qe])), aN z qj 31 rQ, aN z qp 72 psQ] := hD
  refine lv_iload_n hx hb dX11_drift_5 rfl (lv_at hl 1 rfl) ?_
  refine lv_i2l hx hb dX11_drift_6 rfl ?_
  refine lv_lconst (v := 1) hx hb dX11_drift_7 (by decide +kernel) ?_
  refine lv_ldc2 (own := RX11) hx hb hown (hts _ m_636) dX11_drift_8 ?_
  have hPc := hP.sub (ws' := []) [] rfl
  refine nv_cp1 (va_runS (As := [.long nv.toInt64, .long 1, .long (60)]) (rest := []) ⟨hx, hb, hml, hown, hts⟩ (c_X11_in l D z nv.toInt64 1 (60) ) (va_cwS 3 hts (gS m_539 m_540 m_541 m_536) rfl rfl rfl hd_X11_in ⟨Nat.le_of_ble_eq_true rfl, Nat.le_of_ble_eq_true rfl⟩) (nv_preP hK hPc trivial _) rfl rfl hl.1 rfl (lv_room (Nat.le_of_ble_eq_true rfl)) dX11_drift_11 ⟨by decide, by decide⟩) ?_
  refine nv_inwl (a := 1) (b := 60) (by decide) (by decide) ?_
  refine nv_bne (tgt := 19) hx hb dX11_drift_14 (by decide) (fun hc14 => ?_) (fun hc14 => ?_)
  · obtain ⟨kQ, rfl, k0, k1⟩ := wi_nat (b := 60) (by decide) hc14
    refine lv_aload_n hx hb dX11_drift_19 rfl (lv_at hl 0 rfl) ?_
    refine va_get (D := D) (ci := 11) (v := .ref qj) (C := RX11) (T := TX11) (N := 22) hx hb hts iX11 hown hK.1 hP 0 rfl rfl 0 (by decide) (hts _ m_523) (fun _ h9 => h9) rfl dX11_drift_20 ?_
    refine lv_iconst (v := nI 4) hx hb dX11_drift_23 (by decide +kernel) ?_
    refine nv_ald hx hb hK hP 1 rfl (by omega) (by decide) dX11_drift_24 ?_
    refine lv_iload_n hx hb dX11_drift_25 rfl (lv_at hl 1 rfl) ?_
    refine nv_add hx hb dX11_drift_26 ?_
    refine lv_sipush (v := nI 9999) hx hb dX11_drift_27 (by decide +kernel) ?_
    refine nv_le (tgt := 36) hx hb (by omega) (by omega) dX11_drift_30 (by decide) (fun hc30 => ?_) (fun hc30 => ?_)
    · obtain ⟨rfl, rfl, rfl, rfl⟩ := hrel.2.2 kQ rfl (by omega) (by omega) (by omega)
      refine lv_iconst (v := nI 0) hx hb dX11_drift_36 (by decide +kernel) ?_
      refine lv_istore_n (lv' := [(2, .int (nI 0)), (0, .ref o), (1, .int (nI kQ))]) hx hb dX11_drift_37 rfl hl (by decide) rfl (fun ls hl => ?_)
      refine lv_iconst (v := nI 0) hx hb dX11_drift_38 (by decide +kernel) ?_
      refine lv_istore_n (lv' := [(3, .int (nI 0)), (2, .int (nI 0)), (0, .ref o), (1, .int (nI kQ))]) hx hb dX11_drift_39 rfl hl (by decide) rfl (fun ls hl => ?_)
      refine nv_loop (σ := Nat) (fun x H locs ls => ∃ (jQ : Nat), jQ = x ∧ ((jQ ≤ kQ)) ∧ va_P D vwCl [(o, .inr (11, [.ref qj, .ref qt, .ref qf, .ref qp, .int (nI (unN un jQ)), .ref qk, .ref qq, .int (nI ku), .int (nI ik), .ref qa, .int (nI tnQ), .int (nI 0), .int (nI la), .int (nI wo), .int (nI cu), .int (nI fa), .int (nI fat), .ref qs, .ref ql, .ref qm, .ref qi, .ref qe])), aN z qj 31 (dkN rQ jQ), aN z qp 72 (dpN rQ psQ un jQ)] H ∧ va_D A [(o, .inr (11, [.ref qj, .ref qt, .ref qf, .ref qp, .int (nI (unN un jQ)), .ref qk, .ref qq, .int (nI ku), .int (nI ik), .ref qa, .int (nI tnQ), .int (nI 0), .int (nI la), .int (nI wo), .int (nI cu), .int (nI fa), .int (nI fat), .ref qs, .ref ql, .ref qm, .ref qi, .ref qe])), aN z qj 31 (dkN rQ jQ), aN z qp 72 (dpN rQ psQ un jQ)] ∧ va_S A s.heap H locs ∧ lv_has ls 4 [(0, .ref o), (1, .int (nI kQ)), (2, .int (nI (dsN rQ jQ))), (3, .int (nI jQ))]) (fun x => kQ - x) 40 [] ?_ 0 ?_
      · rintro _ H locs ls ⟨jQ, rfl, hj, hP, hD, hS, hl⟩ ih40
        refine lv_iload_n hx hb dX11_drift_40 rfl (lv_at hl 3 rfl) ?_
        refine lv_iload_n hx hb dX11_drift_41 rfl (lv_at hl 1 rfl) ?_
        refine nv_ge (tgt := 110) hx hb (by omega) (by omega) dX11_drift_42 (by decide) (fun hc42 => ?_) (fun hc42 => ?_)
        · obtain rfl : kQ = jQ := by omega
          refine lv_iload_n hx hb dX11_drift_110 rfl (lv_at hl 2 rfl) ?_
          exact nv_mi hx hb hr hlocks hS dX11_drift_111 hP trivial rfl
        · refine lv_aload_n hx hb dX11_drift_45 rfl (lv_at hl 0 rfl) ?_
          have hPc := hP.sub (ws' := [(o, .inr (11, [.ref qj, .ref qt, .ref qf, .ref qp, .int (nI (unN un jQ)), .ref qk, .ref qq, .int (nI ku), .int (nI ik), .ref qa, .int (nI tnQ), .int (nI 0), .int (nI la), .int (nI wo), .int (nI cu), .int (nI fa), .int (nI fat), .ref qs, .ref ql, .ref qm, .ref qi, .ref qe])), aN z qj 31 (dkN rQ jQ), aN z qp 72 (dpN rQ psQ un jQ)]) [0, 1, 2] rfl
          have hDc := hD.sub (ws' := [(o, .inr (11, [.ref qj, .ref qt, .ref qf, .ref qp, .int (nI (unN un jQ)), .ref qk, .ref qq, .int (nI ku), .int (nI ik), .ref qa, .int (nI tnQ), .int (nI 0), .int (nI la), .int (nI wo), .int (nI cu), .int (nI fa), .int (nI fat), .ref qs, .ref ql, .ref qm, .ref qi, .ref qe])), aN z qj 31 (dkN rQ jQ), aN z qp 72 (dpN rQ psQ un jQ)]) [0, 1, 2] (by decide) rfl
          refine nv_cm0 (wc := [(o, .inr (11, [.ref qj, .ref qt, .ref qf, .ref qp, .int (nI (unN un jQ)), .ref qk, .ref qq, .int (nI ku), .int (nI ik), .ref qa, .int (nI tnQ), .int (nI 0), .int (nI la), .int (nI wo), .int (nI cu), .int (nI fa), .int (nI fat), .ref qs, .ref ql, .ref qm, .ref qi, .ref qe])), aN z qj 31 (dkN rQ jQ), aN z qp 72 (dpN rQ psQ un jQ)]) (wr := []) (w1 := [(o, .inr (11, [.ref qj, .ref qt, .ref qf, .ref qp, .int (nI (knU (unN un jQ) + 1)), .ref qk, .ref qq, .int (nI ku), .int (nI ik), .ref qa, .int (nI tnQ), .int (nI 0), .int (nI la), .int (nI wo), .int (nI cu), .int (nI fa), .int (nI fat), .ref qs, .ref ql, .ref qm, .ref qi, .ref qe])), aN z qj 31 (dkN rQ jQ), aN z qp 72 (knP (dkN rQ jQ) (dpN rQ psQ un jQ) (unN un jQ))]) (ws1 := [(o, .inr (11, [.ref qj, .ref qt, .ref qf, .ref qp, .int (nI (knU (unN un jQ) + 1)), .ref qk, .ref qq, .int (nI ku), .int (nI ik), .ref qa, .int (nI tnQ), .int (nI 0), .int (nI la), .int (nI wo), .int (nI cu), .int (nI fa), .int (nI fat), .ref qs, .ref ql, .ref qm, .ref qi, .ref qe])), aN z qj 31 (dkN rQ jQ), aN z qp 72 (knP (dkN rQ jQ) (dpN rQ psQ un jQ) (unN un jQ))]) (va_runV (As := []) (rest := []) ⟨hx, hb, hml, hown, hts⟩ (c_X11_know l D z H.size o qj qt qf qp qk qq qa qs ql qm qi qe (unN un jQ) ku ik tnQ 0 la wo cu fa fat (dkN rQ jQ) (dpN rQ psQ un jQ) (unN_le hun jQ)) (cwV 0 hts (gV m_637 m_638 m_639 m_541 m_635) rfl rfl rfl ⟨rfl, hd_X11_know⟩ ⟨Nat.le_of_ble_eq_true rfl, Nat.le_of_ble_eq_true rfl⟩) (nv_preMV (ci := 11) (q0 := 0) hK hPc hDc trivial rfl rfl) rfl rfl hl.1 rfl (lv_room (Nat.le_of_ble_eq_true rfl)) dX11_drift_46 ⟨by decide, by decide⟩) hP hD hS hA [0, 1, 2] [] [0, 1, 2] rfl rfl (by decide) (by decide) rfl (by decide) rfl (by decide) (fun H locs hP hD hS hE46 hz46 hf46 => ?_)
          clear hPc hDc
          clear hf46 hz46
          refine lv_aload_n hx hb dX11_drift_49 rfl (lv_at hl 0 rfl) ?_
          refine va_get (D := D) (ci := 11) (v := .ref qj) (C := RX11) (T := TX11) (N := 22) hx hb hts iX11 hown hK.1 hP 0 rfl rfl 0 (by decide) (hts _ m_523) (fun _ h9 => h9) rfl dX11_drift_50 ?_
          refine lv_iconst (v := nI 5) hx hb dX11_drift_53 (by decide +kernel) ?_
          refine lv_aload_n hx hb dX11_drift_54 rfl (lv_at hl 0 rfl) ?_
          refine va_get (D := D) (ci := 11) (v := .ref qj) (C := RX11) (T := TX11) (N := 22) hx hb hts iX11 hown hK.1 hP 0 rfl rfl 0 (by decide) (hts _ m_523) (fun _ h9 => h9) rfl dX11_drift_55 ?_
          refine lv_iconst (v := nI 5) hx hb dX11_drift_58 (by decide +kernel) ?_
          refine nv_ald hx hb hK hP 1 rfl (by omega) (by decide) dX11_drift_59 ?_
          refine lv_i2l hx hb dX11_drift_60 rfl ?_
          refine lv_ldc2 (own := RX11) hx hb hown (hts _ m_642) dX11_drift_61 ?_
          refine lv_lmul hx hb dX11_drift_64 ?_
          refine lv_ldc2 (own := RX11) hx hb hown (hts _ m_643) dX11_drift_65 ?_
          refine lv_ladd hx hb dX11_drift_68 ?_
          refine lv_ldc2 (own := RX11) hx hb hown (hts _ m_644) dX11_drift_69 ?_
          refine lv_land hx hb dX11_drift_72 ?_
          refine lv_l2i hx hb dX11_drift_73 rfl ?_
          rw [drL (by have h8 := (dkN_ok jQ hok).2.2.2.2.2.2.2.1; omega)]
          refine nv_ast hx hb hK hP hD hS 1 rfl (by omega) (by decide) dX11_drift_74 (fun H locs hP hD hS => ?_)
          have hP : va_P D vwCl [(o, .inr (11, [.ref qj, .ref qt, .ref qf, .ref qp, .int (nI (knU (unN un jQ) + 1)), .ref qk, .ref qq, .int (nI ku), .int (nI ik), .ref qa, .int (nI tnQ), .int (nI 0), .int (nI la), .int (nI wo), .int (nI cu), .int (nI fa), .int (nI fat), .ref qs, .ref ql, .ref qm, .ref qi, .ref qe])), aN z qj 31 (uN (dkN rQ jQ) 5 (drN (dkN rQ jQ 5))), aN z qp 72 (knP (dkN rQ jQ) (dpN rQ psQ un jQ) (unN un jQ))] H := hP
          have hD : va_D A [(o, .inr (11, [.ref qj, .ref qt, .ref qf, .ref qp, .int (nI (knU (unN un jQ) + 1)), .ref qk, .ref qq, .int (nI ku), .int (nI ik), .ref qa, .int (nI tnQ), .int (nI 0), .int (nI la), .int (nI wo), .int (nI cu), .int (nI fa), .int (nI fat), .ref qs, .ref ql, .ref qm, .ref qi, .ref qe])), aN z qj 31 (uN (dkN rQ jQ) 5 (drN (dkN rQ jQ 5))), aN z qp 72 (knP (dkN rQ jQ) (dpN rQ psQ un jQ) (unN un jQ))] := hD
          have hP : va_P D vwCl [(o, .inr (11, [.ref qj, .ref qt, .ref qf, .ref qp, .int (nI (knU (unN un jQ) + 1)), .ref qk, .ref qq, .int (nI ku), .int (nI ik), .ref qa, .int (nI tnQ), .int (nI 0), .int (nI la), .int (nI wo), .int (nI cu), .int (nI fa), .int (nI fat), .ref qs, .ref ql, .ref qm, .ref qi, .ref qe])), aN z qj 31 (drX (dkN rQ jQ)), aN z qp 72 (knP (dkN rQ jQ) (dpN rQ psQ un jQ) (unN un jQ))] H := hP
          have hD : va_D A [(o, .inr (11, [.ref qj, .ref qt, .ref qf, .ref qp, .int (nI (knU (unN un jQ) + 1)), .ref qk, .ref qq, .int (nI ku), .int (nI ik), .ref qa, .int (nI tnQ), .int (nI 0), .int (nI la), .int (nI wo), .int (nI cu), .int (nI fa), .int (nI fat), .ref qs, .ref ql, .ref qm, .ref qi, .ref qe])), aN z qj 31 (drX (dkN rQ jQ)), aN z qp 72 (knP (dkN rQ jQ) (dpN rQ psQ un jQ) (unN un jQ))] := hD
          have h85 : drX (dkN rQ jQ) 5 < 2147483648 := by unfold drX; rw [uN_s]; exact drN_lt _
          have hokx := drX_ok (dkN_ok jQ hok)
          obtain ⟨xr, hxr⟩ : ∃ xr : Nat → Nat, xr = drX (dkN rQ jQ) := ⟨_, rfl⟩
          rw [← hxr] at hP hD h85 hokx
          refine lv_iload_n hx hb dX11_drift_75 rfl (lv_at hl 2 rfl) ?_
          refine lv_aload_n hx hb dX11_drift_76 rfl (lv_at hl 0 rfl) ?_
          refine va_get (D := D) (ci := 11) (v := .ref qj) (C := RX11) (T := TX11) (N := 22) hx hb hts iX11 hown hK.1 hP 0 rfl rfl 0 (by decide) (hts _ m_523) (fun _ h9 => h9) rfl dX11_drift_77 ?_
          refine lv_aload_n hx hb dX11_drift_80 rfl (lv_at hl 0 rfl) ?_
          refine va_get (D := D) (ci := 11) (v := .ref qj) (C := RX11) (T := TX11) (N := 22) hx hb hts iX11 hown hK.1 hP 0 rfl rfl 0 (by decide) (hts _ m_523) (fun _ h9 => h9) rfl dX11_drift_81 ?_
          refine lv_iconst (v := nI 5) hx hb dX11_drift_84 (by decide +kernel) ?_
          refine nv_ald hx hb hK hP 1 rfl (by omega) (by decide) dX11_drift_85 ?_
          refine lv_ldc (own := RX11) hx hb hown (hts _ m_645) dX11_drift_86 ?_
          refine W.eq (g2 := F0 m 88 ls [.int (nI 65536), .int (nI (xr 5)), .ref qj, .int (nI (dsN rQ jQ))]) rfl ?_
          refine nv_div hx hb (by omega) (by omega) (by omega) dX11_drift_88 ?_
          refine lv_bipush (v := nI 10) hx hb dX11_drift_89 (by decide +kernel) ?_
          refine nv_rem hx hb (by omega) (by omega) (by omega) dX11_drift_91 ?_
          refine lv_aload_n hx hb dX11_drift_92 rfl (lv_at hl 0 rfl) ?_
          refine va_get (D := D) (ci := 11) (v := .ref qj) (C := RX11) (T := TX11) (N := 22) hx hb hts iX11 hown hK.1 hP 0 rfl rfl 0 (by decide) (hts _ m_523) (fun _ h9 => h9) rfl dX11_drift_93 ?_
          refine lv_iconst (v := nI 3) hx hb dX11_drift_96 (by decide +kernel) ?_
          refine nv_ald hx hb hK hP 1 rfl (by omega) (by decide) dX11_drift_97 ?_
          refine lv_isub hx hb dX11_drift_98 ?_
          refine lv_topi (fun mo hmo => ?_)
          have hPc := hP.sub (ws' := [aN z qj 31 xr]) [1] rfl
          have hDc := hD.sub (ws' := [aN z qj 31 xr]) [1] (by decide) rfl
          refine nv_cm1 (wc := [aN z qj 31 xr]) (wr := [(o, .inr (11, [.ref qj, .ref qt, .ref qf, .ref qp, .int (nI (knU (unN un jQ) + 1)), .ref qk, .ref qq, .int (nI ku), .int (nI ik), .ref qa, .int (nI tnQ), .int (nI 0), .int (nI la), .int (nI wo), .int (nI cu), .int (nI fa), .int (nI fat), .ref qs, .ref ql, .ref qm, .ref qi, .ref qe])), aN z qp 72 (knP (dkN rQ jQ) (dpN rQ psQ un jQ) (unN un jQ))]) (w1 := [aN z qj 31 (weekR xr (xr 5 / 65536 % 10))]) (ws1 := [(o, .inr (11, [.ref qj, .ref qt, .ref qf, .ref qp, .int (nI (knU (unN un jQ) + 1)), .ref qk, .ref qq, .int (nI ku), .int (nI ik), .ref qa, .int (nI tnQ), .int (nI 0), .int (nI la), .int (nI wo), .int (nI cu), .int (nI fa), .int (nI fat), .ref qs, .ref ql, .ref qm, .ref qi, .ref qe])), aN z qj 31 (weekR xr (xr 5 / 65536 % 10)), aN z qp 72 (knP (dkN rQ jQ) (dpN rQ psQ un jQ) (unN un jQ))]) (va_runS (As := [.ref qj, .int mo]) (rest := [.int (nI (dsN rQ jQ))]) ⟨hx, hb, hml, hown, hts⟩ (c_X11_week l D z H.size (w0Q + jQ) qj xr mo (xr 5 / 65536 % 10) hokx (by rw [hmo]; exact nI_back _ _) (by omega) (by first | assumption | omega)) (va_cwS 2 hts (gS m_572 m_573 m_541 m_569) rfl rfl rfl hd_X11_week ⟨Nat.le_of_ble_eq_true rfl, Nat.le_of_ble_eq_true rfl⟩) (nv_preM hK hPc hDc trivial _) rfl rfl hl.1 rfl (lv_room (Nat.le_of_ble_eq_true rfl)) dX11_drift_99 ⟨by decide, by decide⟩) hP hD hS hA [1] [0, 2] [0, 2, 1] rfl rfl (by decide) (by decide) rfl (by decide) rfl (by decide) (fun H locs hP hD hS hE99 hz99 hf99 => ?_)
          clear hPc hDc
          clear hf99 hz99
          refine nv_add hx hb dX11_drift_102 ?_
          refine lv_istore_n (lv' := [(2, .int (nI (dsN rQ jQ + (weekW xr (xr 5 / 65536 % 10))))), (0, .ref o), (1, .int (nI kQ)), (3, .int (nI jQ))]) hx hb dX11_drift_103 rfl hl (by decide) rfl (fun ls hl => ?_)
          subst hxr
          refine lv_iinc (v := nI (jQ + 1)) (lv' := [(3, .int (nI (jQ + 1))), (2, .int (nI (dsN rQ jQ + (weekW (drX (dkN rQ jQ)) ((drX (dkN rQ jQ)) 5 / 65536 % 10))))), (0, .ref o), (1, .int (nI kQ))]) hx hb dX11_drift_104 hl (k := 3) rfl (nI_inc _) (by decide) rfl (fun ls hl => ?_)
          refine lv_goto (tgt := 40) hx hb dX11_drift_107 (by decide) ?_
          exact ih40 (jQ + 1) _ _ _ (by omega) ⟨jQ + 1, rfl, (by omega), hP, hD, hS, lv_sub hl [2, 3, 1, 0] rfl⟩
      · exact ⟨0, rfl, (by omega), hP, hD, hS, lv_sub hl [2, 3, 1, 0] rfl⟩
    · refine lv_bipush (v := (-3)) hx hb dX11_drift_33 (by decide +kernel) ?_
      obtain ⟨rfl, rfl, rfl, rfl⟩ := hrel.2.1 kQ rfl (by omega) (by omega) (by omega)
      exact nv_mi hx hb hr hlocks hS dX11_drift_35 hP trivial rfl
  · refine lv_iconst (v := (-1)) hx hb dX11_drift_17 (by decide +kernel) ?_
    obtain ⟨rfl, rfl, rfl, rfl⟩ := hrel.1 hc14
    exact nv_mi hx hb hr hlocks hS dX11_drift_18 hP trivial rfl

set_option maxHeartbeats 4000000 in
set_option maxRecDepth 100000 in
theorem c_X11_undo (l : Launch) (D : va_G) (z : Nat → ClassId) (sz : Nat) (o : Nat) (qj : Nat) (qt : Nat) (qf : Nat) (qp : Nat) (qk : Nat) (qq : Nat) (qa : Nat) (qs : Nat) (ql : Nat) (qm : Nat) (qi : Nat) (qe : Nat) (un : Nat) (ku : Nat) (ik : Nat) (tnQ : Nat) (th : Nat) (la : Nat) (wo : Nat) (cu : Nat) (fa : Nat) (fat : Nat) (rQ : Nat → Nat) (psQ : Nat → Nat) (r1Q : Nat → Nat) (un1 : Nat) (vQ : Int32) (hun : un ≤ 8) (hrel : udRel rQ psQ un r1Q un1 vQ) : CM l yX11_undo cX11_undo 2 (some .int) 0 0 0 0 [.ref o] D z [(o, .inr (11, [.ref qj, .ref qt, .ref qf, .ref qp, .int (nI un), .ref qk, .ref qq, .int (nI ku), .int (nI ik), .ref qa, .int (nI tnQ), .int (nI th), .int (nI la), .int (nI wo), .int (nI cu), .int (nI fa), .int (nI fat), .ref qs, .ref ql, .ref qm, .ref qi, .ref qe])), aN z qj 31 rQ, aN z qp 72 psQ] sz (fun _ => True) [(o, .inr (11, [.ref qj, .ref qt, .ref qf, .ref qp, .int (nI un1), .ref qk, .ref qq, .int (nI ku), .int (nI ik), .ref qa, .int (nI tnQ), .int (nI 0), .int (nI la), .int (nI wo), .int (nI cu), .int (nI fa), .int (nI fat), .ref qs, .ref ql, .ref qm, .ref qi, .ref qe])), aN z qj 31 r1Q, aN z qp 72 psQ] (some (.int vQ)) (fun _ => True) := by
  refine Met.ofW (cc := cX11_undo) (maxL := 2) (ret := (some .int)) (by decide) rfl ?_
  intro pg e s m args below meth c s₁ B hml hv
  obtain ⟨rfl, hsz, hP, hK, hD0, hE⟩ := hv
  have hx := B.exec
  have hb := B.bytes
  have hr := B.returns
  have hts : ∀ w ∈ ALL, w.before _ s = true := fun w h => atoms_spec (ws := wA yX11_undo cX11_undo 2 (some .int)) B.pre w (List.mem_cons_of_mem _ h)
  have hown : s.vm.findClass RX11 = some m.cls := findClass_of_methodNamed B.named
  have hlocks := B.notSynchronized
  subst hsz
  have hD := hD0.self (sz := s.heap.size)
  have hA : ∀ q : Nat, s.heap.size ≤ q → va_A [(o, .inr (11, [.ref qj, .ref qt, .ref qf, .ref qp, .int (nI un), .ref qk, .ref qq, .int (nI ku), .int (nI ik), .ref qa, .int (nI tnQ), .int (nI th), .int (nI la), .int (nI wo), .int (nI cu), .int (nI fa), .int (nI fat), .ref qs, .ref ql, .ref qm, .ref qi, .ref qe])), aN z qj 31 rQ, aN z qp 72 psQ] s.heap.size q := fun q h => Or.inr h
  generalize va_A [(o, .inr (11, [.ref qj, .ref qt, .ref qf, .ref qp, .int (nI un), .ref qk, .ref qq, .int (nI ku), .int (nI ik), .ref qa, .int (nI tnQ), .int (nI th), .int (nI la), .int (nI wo), .int (nI cu), .int (nI fa), .int (nI fat), .ref qs, .ref ql, .ref qm, .ref qi, .ref qe])), aN z qj 31 rQ, aN z qp 72 psQ] s.heap.size = A at *
  have hS : va_S A s.heap s.heap [] := va_S.rf
  have hl := lv_entry ([.ref o]) (n := 2) (Nat.le_of_ble_eq_true rfl)
  rw [lg_entry_eq]
  generalize (lg_sl ([.ref o]) ++ List.replicate (2 - (lg_sl ([.ref o])).length) Slot.unset).toArray = ls at hl ⊢
  have hl : lv_has ls 2 [(0, .ref o)] := hl
  refine lv_aload_n hx hb dX11_undo_0 rfl (lv_at hl 0 rfl) ?_
  refine lv_iconst (v := nI 0) hx hb dX11_undo_1 (by decide +kernel) ?_
  refine va_put (D := D) (ci := 11) (v := .int (nI 0)) (ty := tyX11 11) (C := RX11) (T := TX11) (N := 22) hx hb hts iX11 tyX11 tyX11_ok nmX11 hown hK.1 hP hD hS 0 rfl rfl 11 (by decide) (hts _ m_576) (fun _ h9 => h9) rfl (tyX11_ok 11 (by decide)) rfl rfl (Nat.le_of_ble_eq_true rfl) dX11_undo_2 (fun H locs hP hD hS => ?_)
  have hP : va_P D vwCl [(o, .inr (11, [.ref qj, .ref qt, .ref qf, .ref qp, .int (nI un), .ref qk, .ref qq, .int (nI ku), .int (nI ik), .ref qa, .int (nI tnQ), .int (nI 0), .int (nI la), .int (nI wo), .int (nI cu), .int (nI fa), .int (nI fat), .ref qs, .ref ql, .ref qm, .ref qi, .ref qe])), aN z qj 31 rQ, aN z qp 72 psQ] H := hP
  have hD : va_D A [(o, .inr (11, [.ref qj, .ref qt, .ref qf, .ref qp, .int (nI un), .ref qk, .ref qq, .int (nI ku), .int (nI ik), .ref qa, .int (nI tnQ), .int (nI 0), .int (nI la), .int (nI wo), .int (nI cu), .int (nI fa), .int (nI fat), .ref qs, .ref ql, .ref qm, .ref qi, .ref qe])), aN z qj 31 rQ, aN z qp 72 psQ] := hD
  refine lv_aload_n hx hb dX11_undo_5 rfl (lv_at hl 0 rfl) ?_
  refine va_get (D := D) (ci := 11) (v := .int (nI un)) (C := RX11) (T := TX11) (N := 22) hx hb hts iX11 hown hK.1 hP 0 rfl rfl 4 (by decide) (hts _ m_580) (fun _ h9 => h9) rfl dX11_undo_6 ?_
  refine nv_ifne (tgt := 15) hx hb (by omega) dX11_undo_9 (by decide) (fun hc9 => ?_) (fun hc9 => ?_)
  · obtain ⟨rfl, rfl, rfl⟩ := hrel.2 hc9
    refine lv_aload_n hx hb dX11_undo_15 rfl (lv_at hl 0 rfl) ?_
    refine lv_dup hx hb dX11_undo_16 rfl ?_
    refine va_get (D := D) (ci := 11) (v := .int (nI un)) (C := RX11) (T := TX11) (N := 22) hx hb hts iX11 hown hK.1 hP 0 rfl rfl 4 (by decide) (hts _ m_580) (fun _ h9 => h9) rfl dX11_undo_17 ?_
    refine lv_iconst (v := nI 1) hx hb dX11_undo_20 (by decide +kernel) ?_
    refine nv_sub hx hb (by omega) dX11_undo_21 ?_
    refine va_put (D := D) (ci := 11) (v := .int (nI (un - 1))) (ty := tyX11 4) (C := RX11) (T := TX11) (N := 22) hx hb hts iX11 tyX11 tyX11_ok nmX11 hown hK.1 hP hD hS 0 rfl rfl 4 (by decide) (hts _ m_580) (fun _ h9 => h9) rfl (tyX11_ok 4 (by decide)) rfl rfl (Nat.le_of_ble_eq_true rfl) dX11_undo_22 (fun H locs hP hD hS => ?_)
    have hP : va_P D vwCl [(o, .inr (11, [.ref qj, .ref qt, .ref qf, .ref qp, .int (nI (un - 1)), .ref qk, .ref qq, .int (nI ku), .int (nI ik), .ref qa, .int (nI tnQ), .int (nI 0), .int (nI la), .int (nI wo), .int (nI cu), .int (nI fa), .int (nI fat), .ref qs, .ref ql, .ref qm, .ref qi, .ref qe])), aN z qj 31 rQ, aN z qp 72 psQ] H := hP
    have hD : va_D A [(o, .inr (11, [.ref qj, .ref qt, .ref qf, .ref qp, .int (nI (un - 1)), .ref qk, .ref qq, .int (nI ku), .int (nI ik), .ref qa, .int (nI tnQ), .int (nI 0), .int (nI la), .int (nI wo), .int (nI cu), .int (nI fa), .int (nI fat), .ref qs, .ref ql, .ref qm, .ref qi, .ref qe])), aN z qj 31 rQ, aN z qp 72 psQ] := hD
    refine lv_aload_n hx hb dX11_undo_25 rfl (lv_at hl 0 rfl) ?_
    refine va_get (D := D) (ci := 11) (v := .ref qj) (C := RX11) (T := TX11) (N := 22) hx hb hts iX11 hown hK.1 hP 0 rfl rfl 0 (by decide) (hts _ m_523) (fun _ h9 => h9) rfl dX11_undo_26 ?_
    refine lv_iconst (v := nI 0) hx hb dX11_undo_29 (by decide +kernel) ?_
    refine lv_aload_n hx hb dX11_undo_30 rfl (lv_at hl 0 rfl) ?_
    refine va_get (D := D) (ci := 11) (v := .ref qp) (C := RX11) (T := TX11) (N := 22) hx hb hts iX11 hown hK.1 hP 0 rfl rfl 3 (by decide) (hts _ m_526) (fun _ h9 => h9) rfl dX11_undo_31 ?_
    refine lv_bipush (v := nI 9) hx hb dX11_undo_34 (by decide +kernel) ?_
    refine lv_aload_n hx hb dX11_undo_36 rfl (lv_at hl 0 rfl) ?_
    refine va_get (D := D) (ci := 11) (v := .int (nI (un - 1))) (C := RX11) (T := TX11) (N := 22) hx hb hts iX11 hown hK.1 hP 0 rfl rfl 4 (by decide) (hts _ m_580) (fun _ h9 => h9) rfl dX11_undo_37 ?_
    refine nv_mul hx hb dX11_undo_40 ?_
    refine nv_ald hx hb hK hP 2 rfl (by omega) (by decide) dX11_undo_41 ?_
    refine nv_ast hx hb hK hP hD hS 1 rfl (by omega) (by decide) dX11_undo_42 (fun H locs hP hD hS => ?_)
    have hP : va_P D vwCl [(o, .inr (11, [.ref qj, .ref qt, .ref qf, .ref qp, .int (nI (un - 1)), .ref qk, .ref qq, .int (nI ku), .int (nI ik), .ref qa, .int (nI tnQ), .int (nI 0), .int (nI la), .int (nI wo), .int (nI cu), .int (nI fa), .int (nI fat), .ref qs, .ref ql, .ref qm, .ref qi, .ref qe])), aN z qj 31 (uN rQ 0 (psQ (9 * (un - 1)))), aN z qp 72 psQ] H := hP
    have hD : va_D A [(o, .inr (11, [.ref qj, .ref qt, .ref qf, .ref qp, .int (nI (un - 1)), .ref qk, .ref qq, .int (nI ku), .int (nI ik), .ref qa, .int (nI tnQ), .int (nI 0), .int (nI la), .int (nI wo), .int (nI cu), .int (nI fa), .int (nI fat), .ref qs, .ref ql, .ref qm, .ref qi, .ref qe])), aN z qj 31 (uN rQ 0 (psQ (9 * (un - 1)))), aN z qp 72 psQ] := hD
    refine lv_aload_n hx hb dX11_undo_43 rfl (lv_at hl 0 rfl) ?_
    refine va_get (D := D) (ci := 11) (v := .ref qj) (C := RX11) (T := TX11) (N := 22) hx hb hts iX11 hown hK.1 hP 0 rfl rfl 0 (by decide) (hts _ m_523) (fun _ h9 => h9) rfl dX11_undo_44 ?_
    refine lv_iconst (v := nI 4) hx hb dX11_undo_47 (by decide +kernel) ?_
    refine lv_aload_n hx hb dX11_undo_48 rfl (lv_at hl 0 rfl) ?_
    refine va_get (D := D) (ci := 11) (v := .ref qp) (C := RX11) (T := TX11) (N := 22) hx hb hts iX11 hown hK.1 hP 0 rfl rfl 3 (by decide) (hts _ m_526) (fun _ h9 => h9) rfl dX11_undo_49 ?_
    refine lv_bipush (v := nI 9) hx hb dX11_undo_52 (by decide +kernel) ?_
    refine lv_aload_n hx hb dX11_undo_54 rfl (lv_at hl 0 rfl) ?_
    refine va_get (D := D) (ci := 11) (v := .int (nI (un - 1))) (C := RX11) (T := TX11) (N := 22) hx hb hts iX11 hown hK.1 hP 0 rfl rfl 4 (by decide) (hts _ m_580) (fun _ h9 => h9) rfl dX11_undo_55 ?_
    refine nv_mul hx hb dX11_undo_58 ?_
    refine lv_iconst (v := nI 1) hx hb dX11_undo_59 (by decide +kernel) ?_
    refine nv_add hx hb dX11_undo_60 ?_
    refine nv_ald hx hb hK hP 2 rfl (by omega) (by decide) dX11_undo_61 ?_
    refine nv_ast hx hb hK hP hD hS 1 rfl (by omega) (by decide) dX11_undo_62 (fun H locs hP hD hS => ?_)
    have hP : va_P D vwCl [(o, .inr (11, [.ref qj, .ref qt, .ref qf, .ref qp, .int (nI (un - 1)), .ref qk, .ref qq, .int (nI ku), .int (nI ik), .ref qa, .int (nI tnQ), .int (nI 0), .int (nI la), .int (nI wo), .int (nI cu), .int (nI fa), .int (nI fat), .ref qs, .ref ql, .ref qm, .ref qi, .ref qe])), aN z qj 31 (uN (uN rQ 0 (psQ (9 * (un - 1)))) 4 (psQ ((9 * (un - 1)) + 1))), aN z qp 72 psQ] H := hP
    have hD : va_D A [(o, .inr (11, [.ref qj, .ref qt, .ref qf, .ref qp, .int (nI (un - 1)), .ref qk, .ref qq, .int (nI ku), .int (nI ik), .ref qa, .int (nI tnQ), .int (nI 0), .int (nI la), .int (nI wo), .int (nI cu), .int (nI fa), .int (nI fat), .ref qs, .ref ql, .ref qm, .ref qi, .ref qe])), aN z qj 31 (uN (uN rQ 0 (psQ (9 * (un - 1)))) 4 (psQ ((9 * (un - 1)) + 1))), aN z qp 72 psQ] := hD
    refine lv_aload_n hx hb dX11_undo_63 rfl (lv_at hl 0 rfl) ?_
    refine va_get (D := D) (ci := 11) (v := .ref qj) (C := RX11) (T := TX11) (N := 22) hx hb hts iX11 hown hK.1 hP 0 rfl rfl 0 (by decide) (hts _ m_523) (fun _ h9 => h9) rfl dX11_undo_64 ?_
    refine lv_iconst (v := nI 5) hx hb dX11_undo_67 (by decide +kernel) ?_
    refine lv_aload_n hx hb dX11_undo_68 rfl (lv_at hl 0 rfl) ?_
    refine va_get (D := D) (ci := 11) (v := .ref qp) (C := RX11) (T := TX11) (N := 22) hx hb hts iX11 hown hK.1 hP 0 rfl rfl 3 (by decide) (hts _ m_526) (fun _ h9 => h9) rfl dX11_undo_69 ?_
    refine lv_bipush (v := nI 9) hx hb dX11_undo_72 (by decide +kernel) ?_
    refine lv_aload_n hx hb dX11_undo_74 rfl (lv_at hl 0 rfl) ?_
    refine va_get (D := D) (ci := 11) (v := .int (nI (un - 1))) (C := RX11) (T := TX11) (N := 22) hx hb hts iX11 hown hK.1 hP 0 rfl rfl 4 (by decide) (hts _ m_580) (fun _ h9 => h9) rfl dX11_undo_75 ?_
    refine nv_mul hx hb dX11_undo_78 ?_
    refine lv_iconst (v := nI 2) hx hb dX11_undo_79 (by decide +kernel) ?_
    refine nv_add hx hb dX11_undo_80 ?_
    refine nv_ald hx hb hK hP 2 rfl (by omega) (by decide) dX11_undo_81 ?_
    refine nv_ast hx hb hK hP hD hS 1 rfl (by omega) (by decide) dX11_undo_82 (fun H locs hP hD hS => ?_)
    have hP : va_P D vwCl [(o, .inr (11, [.ref qj, .ref qt, .ref qf, .ref qp, .int (nI (un - 1)), .ref qk, .ref qq, .int (nI ku), .int (nI ik), .ref qa, .int (nI tnQ), .int (nI 0), .int (nI la), .int (nI wo), .int (nI cu), .int (nI fa), .int (nI fat), .ref qs, .ref ql, .ref qm, .ref qi, .ref qe])), aN z qj 31 (uN (uN (uN rQ 0 (psQ (9 * (un - 1)))) 4 (psQ ((9 * (un - 1)) + 1))) 5 (psQ ((9 * (un - 1)) + 2))), aN z qp 72 psQ] H := hP
    have hD : va_D A [(o, .inr (11, [.ref qj, .ref qt, .ref qf, .ref qp, .int (nI (un - 1)), .ref qk, .ref qq, .int (nI ku), .int (nI ik), .ref qa, .int (nI tnQ), .int (nI 0), .int (nI la), .int (nI wo), .int (nI cu), .int (nI fa), .int (nI fat), .ref qs, .ref ql, .ref qm, .ref qi, .ref qe])), aN z qj 31 (uN (uN (uN rQ 0 (psQ (9 * (un - 1)))) 4 (psQ ((9 * (un - 1)) + 1))) 5 (psQ ((9 * (un - 1)) + 2))), aN z qp 72 psQ] := hD
    refine lv_iconst (v := nI 0) hx hb dX11_undo_83 (by decide +kernel) ?_
    refine lv_istore_n (lv' := [(1, .int (nI 0)), (0, .ref o)]) hx hb dX11_undo_84 rfl hl (by decide) rfl (fun ls hl => ?_)
    refine nv_loop (σ := Nat) (fun x H locs ls => ∃ (jQ : Nat), jQ = x ∧ ((jQ ≤ 6)) ∧ va_P D vwCl [(o, .inr (11, [.ref qj, .ref qt, .ref qf, .ref qp, .int (nI (un - 1)), .ref qk, .ref qq, .int (nI ku), .int (nI ik), .ref qa, .int (nI tnQ), .int (nI 0), .int (nI la), .int (nI wo), .int (nI cu), .int (nI fa), .int (nI fat), .ref qs, .ref ql, .ref qm, .ref qi, .ref qe])), aN z qj 31 (bkF rQ psQ (un - 1) jQ), aN z qp 72 psQ] H ∧ va_D A [(o, .inr (11, [.ref qj, .ref qt, .ref qf, .ref qp, .int (nI (un - 1)), .ref qk, .ref qq, .int (nI ku), .int (nI ik), .ref qa, .int (nI tnQ), .int (nI 0), .int (nI la), .int (nI wo), .int (nI cu), .int (nI fa), .int (nI fat), .ref qs, .ref ql, .ref qm, .ref qi, .ref qe])), aN z qj 31 (bkF rQ psQ (un - 1) jQ), aN z qp 72 psQ] ∧ va_S A s.heap H locs ∧ lv_has ls 2 [(0, .ref o), (1, .int (nI jQ))]) (fun x => 6 - x) 85 [] ?_ 0 ?_
    · rintro _ H locs ls ⟨jQ, rfl, hj, hP, hD, hS, hl⟩ ih85
      refine lv_iload_n hx hb dX11_undo_85 rfl (lv_at hl 1 rfl) ?_
      refine lv_bipush (v := nI 6) hx hb dX11_undo_86 (by decide +kernel) ?_
      refine nv_ge (tgt := 126) hx hb (by omega) (by omega) dX11_undo_88 (by decide) (fun hc88 => ?_) (fun hc88 => ?_)
      · obtain rfl : jQ = 6 := by omega
        refine lv_aload_n hx hb dX11_undo_126 rfl (lv_at hl 0 rfl) ?_
        refine va_get (D := D) (ci := 11) (v := .int (nI (un - 1))) (C := RX11) (T := TX11) (N := 22) hx hb hts iX11 hown hK.1 hP 0 rfl rfl 4 (by decide) (hts _ m_580) (fun _ h9 => h9) rfl dX11_undo_127 ?_
        exact nv_mi hx hb hr hlocks hS dX11_undo_130 hP trivial rfl
      · refine lv_aload_n hx hb dX11_undo_91 rfl (lv_at hl 0 rfl) ?_
        refine va_get (D := D) (ci := 11) (v := .ref qj) (C := RX11) (T := TX11) (N := 22) hx hb hts iX11 hown hK.1 hP 0 rfl rfl 0 (by decide) (hts _ m_523) (fun _ h9 => h9) rfl dX11_undo_92 ?_
        refine lv_bipush (v := nI 7) hx hb dX11_undo_95 (by decide +kernel) ?_
        refine lv_iconst (v := nI 4) hx hb dX11_undo_97 (by decide +kernel) ?_
        refine lv_iload_n hx hb dX11_undo_98 rfl (lv_at hl 1 rfl) ?_
        refine nv_mul hx hb dX11_undo_99 ?_
        refine nv_add hx hb dX11_undo_100 ?_
        refine lv_iconst (v := nI 2) hx hb dX11_undo_101 (by decide +kernel) ?_
        refine nv_add hx hb dX11_undo_102 ?_
        refine lv_aload_n hx hb dX11_undo_103 rfl (lv_at hl 0 rfl) ?_
        refine va_get (D := D) (ci := 11) (v := .ref qp) (C := RX11) (T := TX11) (N := 22) hx hb hts iX11 hown hK.1 hP 0 rfl rfl 3 (by decide) (hts _ m_526) (fun _ h9 => h9) rfl dX11_undo_104 ?_
        refine lv_bipush (v := nI 9) hx hb dX11_undo_107 (by decide +kernel) ?_
        refine lv_aload_n hx hb dX11_undo_109 rfl (lv_at hl 0 rfl) ?_
        refine va_get (D := D) (ci := 11) (v := .int (nI (un - 1))) (C := RX11) (T := TX11) (N := 22) hx hb hts iX11 hown hK.1 hP 0 rfl rfl 4 (by decide) (hts _ m_580) (fun _ h9 => h9) rfl dX11_undo_110 ?_
        refine nv_mul hx hb dX11_undo_113 ?_
        refine lv_iconst (v := nI 3) hx hb dX11_undo_114 (by decide +kernel) ?_
        refine nv_add hx hb dX11_undo_115 ?_
        refine lv_iload_n hx hb dX11_undo_116 rfl (lv_at hl 1 rfl) ?_
        refine nv_add hx hb dX11_undo_117 ?_
        refine nv_ald hx hb hK hP 2 rfl (by omega) (by decide) dX11_undo_118 ?_
        refine nv_ast hx hb hK hP hD hS 1 rfl (by omega) (by decide) dX11_undo_119 (fun H locs hP hD hS => ?_)
        have hP : va_P D vwCl [(o, .inr (11, [.ref qj, .ref qt, .ref qf, .ref qp, .int (nI (un - 1)), .ref qk, .ref qq, .int (nI ku), .int (nI ik), .ref qa, .int (nI tnQ), .int (nI 0), .int (nI la), .int (nI wo), .int (nI cu), .int (nI fa), .int (nI fat), .ref qs, .ref ql, .ref qm, .ref qi, .ref qe])), aN z qj 31 (uN (bkF rQ psQ (un - 1) jQ) (7 + (4 * jQ) + 2) (psQ (((9 * (un - 1)) + 3) + jQ))), aN z qp 72 psQ] H := hP
        have hD : va_D A [(o, .inr (11, [.ref qj, .ref qt, .ref qf, .ref qp, .int (nI (un - 1)), .ref qk, .ref qq, .int (nI ku), .int (nI ik), .ref qa, .int (nI tnQ), .int (nI 0), .int (nI la), .int (nI wo), .int (nI cu), .int (nI fa), .int (nI fat), .ref qs, .ref ql, .ref qm, .ref qi, .ref qe])), aN z qj 31 (uN (bkF rQ psQ (un - 1) jQ) (7 + (4 * jQ) + 2) (psQ (((9 * (un - 1)) + 3) + jQ))), aN z qp 72 psQ] := hD
        refine lv_iinc (v := nI (jQ + 1)) (lv' := [(1, .int (nI (jQ + 1))), (0, .ref o)]) hx hb dX11_undo_120 hl (k := 1) rfl (nI_inc _) (by decide) rfl (fun ls hl => ?_)
        refine lv_goto (tgt := 85) hx hb dX11_undo_123 (by decide) ?_
        exact ih85 (jQ + 1) _ _ _ (by omega) ⟨jQ + 1, rfl, (by omega), hP, hD, hS, lv_sub hl [1, 0] rfl⟩
    · exact ⟨0, rfl, (by omega), hP, hD, hS, lv_sub hl [1, 0] rfl⟩
  · refine lv_bipush (v := (-4)) hx hb dX11_undo_12 (by decide +kernel) ?_
    obtain ⟨rfl, rfl, rfl⟩ := hrel.1 hc9
    exact nv_mi hx hb hr hlocks hS dX11_undo_14 hP trivial rfl

set_option maxHeartbeats 4000000 in
set_option maxRecDepth 100000 in
theorem c_X11_seed (l : Launch) (D : va_G) (z : Nat → ClassId) (sz : Nat) (o : Nat) (qj : Nat) (qt : Nat) (qf : Nat) (qp : Nat) (qk : Nat) (qq : Nat) (qa : Nat) (qs : Nat) (ql : Nat) (qm : Nat) (qi : Nat) (qe : Nat) (un : Nat) (ku : Nat) (ik : Nat) (tnQ : Nat) (th : Nat) (la : Nat) (wo : Nat) (cu : Nat) (fa : Nat) (fat : Nat) (rQ : Nat → Nat) (nv : Int32) (r1Q : Nat → Nat) (vQ : Int32) (hrel : sdRel rQ nv r1Q vQ) : CM l yX11_seed cX11_seed 3 (some .int) 0 0 0 0 [.ref o, .int nv] D z [(o, .inr (11, [.ref qj, .ref qt, .ref qf, .ref qp, .int (nI un), .ref qk, .ref qq, .int (nI ku), .int (nI ik), .ref qa, .int (nI tnQ), .int (nI th), .int (nI la), .int (nI wo), .int (nI cu), .int (nI fa), .int (nI fat), .ref qs, .ref ql, .ref qm, .ref qi, .ref qe])), aN z qj 31 rQ] sz (fun _ => True) [(o, .inr (11, [.ref qj, .ref qt, .ref qf, .ref qp, .int (nI un), .ref qk, .ref qq, .int (nI ku), .int (nI ik), .ref qa, .int (nI tnQ), .int (nI 0), .int (nI la), .int (nI wo), .int (nI cu), .int (nI fa), .int (nI fat), .ref qs, .ref ql, .ref qm, .ref qi, .ref qe])), aN z qj 31 r1Q] (some (.int vQ)) (fun _ => True) := by
  refine Met.ofW (cc := cX11_seed) (maxL := 3) (ret := (some .int)) (by decide) rfl ?_
  intro pg e s m args below meth c s₁ B hml hv
  obtain ⟨rfl, hsz, hP, hK, hD0, hE⟩ := hv
  have hx := B.exec
  have hb := B.bytes
  have hr := B.returns
  have hts : ∀ w ∈ ALL, w.before _ s = true := fun w h => atoms_spec (ws := wA yX11_seed cX11_seed 3 (some .int)) B.pre w (List.mem_cons_of_mem _ h)
  have hown : s.vm.findClass RX11 = some m.cls := findClass_of_methodNamed B.named
  have hlocks := B.notSynchronized
  subst hsz
  have hD := hD0.self (sz := s.heap.size)
  have hA : ∀ q : Nat, s.heap.size ≤ q → va_A [(o, .inr (11, [.ref qj, .ref qt, .ref qf, .ref qp, .int (nI un), .ref qk, .ref qq, .int (nI ku), .int (nI ik), .ref qa, .int (nI tnQ), .int (nI th), .int (nI la), .int (nI wo), .int (nI cu), .int (nI fa), .int (nI fat), .ref qs, .ref ql, .ref qm, .ref qi, .ref qe])), aN z qj 31 rQ] s.heap.size q := fun q h => Or.inr h
  generalize va_A [(o, .inr (11, [.ref qj, .ref qt, .ref qf, .ref qp, .int (nI un), .ref qk, .ref qq, .int (nI ku), .int (nI ik), .ref qa, .int (nI tnQ), .int (nI th), .int (nI la), .int (nI wo), .int (nI cu), .int (nI fa), .int (nI fat), .ref qs, .ref ql, .ref qm, .ref qi, .ref qe])), aN z qj 31 rQ] s.heap.size = A at *
  have hS : va_S A s.heap s.heap [] := va_S.rf
  have hl := lv_entry ([.ref o, .int nv]) (n := 3) (Nat.le_of_ble_eq_true rfl)
  rw [lg_entry_eq]
  generalize (lg_sl ([.ref o, .int nv]) ++ List.replicate (3 - (lg_sl ([.ref o, .int nv])).length) Slot.unset).toArray = ls at hl ⊢
  have hl : lv_has ls 3 [(0, .ref o), (1, .int nv)] := hl
  refine lv_aload_n hx hb dX11_seed_0 rfl (lv_at hl 0 rfl) ?_
  refine lv_iconst (v := nI 0) hx hb dX11_seed_1 (by decide +kernel) ?_
  refine va_put (D := D) (ci := 11) (v := .int (nI 0)) (ty := tyX11 11) (C := RX11) (T := TX11) (N := 22) hx hb hts iX11 tyX11 tyX11_ok nmX11 hown hK.1 hP hD hS 0 rfl rfl 11 (by decide) (hts _ m_576) (fun _ h9 => h9) rfl (tyX11_ok 11 (by decide)) rfl rfl (Nat.le_of_ble_eq_true rfl) dX11_seed_2 (fun H locs hP hD hS => ?_)
  have hP : va_P D vwCl [(o, .inr (11, [.ref qj, .ref qt, .ref qf, .ref qp, .int (nI un), .ref qk, .ref qq, .int (nI ku), .int (nI ik), .ref qa, .int (nI tnQ), .int (nI 0), .int (nI la), .int (nI wo), .int (nI cu), .int (nI fa), .int (nI fat), .ref qs, .ref ql, .ref qm, .ref qi, .ref qe])), aN z qj 31 rQ] H := hP
  have hD : va_D A [(o, .inr (11, [.ref qj, .ref qt, .ref qf, .ref qp, .int (nI un), .ref qk, .ref qq, .int (nI ku), .int (nI ik), .ref qa, .int (nI tnQ), .int (nI 0), .int (nI la), .int (nI wo), .int (nI cu), .int (nI fa), .int (nI fat), .ref qs, .ref ql, .ref qm, .ref qi, .ref qe])), aN z qj 31 rQ] := hD
  refine lv_iload_n hx hb dX11_seed_5 rfl (lv_at hl 1 rfl) ?_
  refine lv_if_ge (tgt := 11) hx hb dX11_seed_6 (by decide) (fun hc6 => ?_) (fun hc6 => ?_)
  · obtain ⟨kQ, hk, rfl⟩ := nI_of (x := nv) (Int32.not_lt.mpr hc6)
    obtain ⟨rfl, rfl⟩ := hrel.2 kQ rfl (by omega)
    refine lv_aload_n hx hb dX11_seed_11 rfl (lv_at hl 0 rfl) ?_
    refine va_get (D := D) (ci := 11) (v := .ref qj) (C := RX11) (T := TX11) (N := 22) hx hb hts iX11 hown hK.1 hP 0 rfl rfl 0 (by decide) (hts _ m_523) (fun _ h9 => h9) rfl dX11_seed_12 ?_
    refine lv_iconst (v := nI 5) hx hb dX11_seed_15 (by decide +kernel) ?_
    refine nv_ald hx hb hK hP 1 rfl (by omega) (by decide) dX11_seed_16 ?_
    refine lv_istore_n (lv' := [(2, .int (nI (rQ 5))), (0, .ref o), (1, .int (nI kQ))]) hx hb dX11_seed_17 rfl hl (by decide) rfl (fun ls hl => ?_)
    refine lv_aload_n hx hb dX11_seed_18 rfl (lv_at hl 1 rfl) ?_
    refine va_get (D := D) (ci := 11) (v := .ref qj) (C := RX11) (T := TX11) (N := 22) hx hb hts iX11 hown hK.1 hP 0 rfl rfl 0 (by decide) (hts _ m_523) (fun _ h9 => h9) rfl dX11_seed_19 ?_
    refine lv_iconst (v := nI 5) hx hb dX11_seed_22 (by decide +kernel) ?_
    refine lv_iload_n hx hb dX11_seed_23 rfl (lv_at hl 2 rfl) ?_
    refine nv_ast hx hb hK hP hD hS 1 rfl (by omega) (by decide) dX11_seed_24 (fun H locs hP hD hS => ?_)
    have hP : va_P D vwCl [(o, .inr (11, [.ref qj, .ref qt, .ref qf, .ref qp, .int (nI un), .ref qk, .ref qq, .int (nI ku), .int (nI ik), .ref qa, .int (nI tnQ), .int (nI 0), .int (nI la), .int (nI wo), .int (nI cu), .int (nI fa), .int (nI fat), .ref qs, .ref ql, .ref qm, .ref qi, .ref qe])), aN z qj 31 (uN rQ 5 kQ)] H := hP
    have hD : va_D A [(o, .inr (11, [.ref qj, .ref qt, .ref qf, .ref qp, .int (nI un), .ref qk, .ref qq, .int (nI ku), .int (nI ik), .ref qa, .int (nI tnQ), .int (nI 0), .int (nI la), .int (nI wo), .int (nI cu), .int (nI fa), .int (nI fat), .ref qs, .ref ql, .ref qm, .ref qi, .ref qe])), aN z qj 31 (uN rQ 5 kQ)] := hD
    refine lv_iload_n hx hb dX11_seed_25 rfl (lv_at hl 0 rfl) ?_
    exact nv_mi hx hb hr hlocks hS dX11_seed_26 hP trivial rfl
  · refine lv_iconst (v := (-1)) hx hb dX11_seed_9 (by decide +kernel) ?_
    obtain ⟨rfl, rfl⟩ := hrel.1 (Int32.not_le.mp hc6)
    exact nv_mi hx hb hr hlocks hS dX11_seed_10 hP trivial rfl
