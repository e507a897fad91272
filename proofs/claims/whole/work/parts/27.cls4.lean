set_option maxHeartbeats 4000000 in
set_option maxRecDepth 100000 in
theorem c_X6_init_6 (l : Launch) (D : va_G) (z : Nat → ClassId) (sz : Nat) (aQ : Nat) (t0 : Nat) (t : Nat)  : CM l yX6_init cX6_init 2 none 1 12 0 0 [.ref aQ, .int (nI t)] D z [(aQ, .inr (6, [.int (nI t0)]))] sz (fun _ => True) [(aQ, .inr (6, [.int (nI t)]))] none (fun _ => True) := by
  refine Met.ofW (cc := cX6_init) (maxL := 2) (ret := none) (by decide) rfl ?_
  intro pg e s m args below meth c s₁ B hml hv
  obtain ⟨rfl, hsz, hP, hK, hD0, hE⟩ := hv
  have hx := B.exec
  have hb := B.bytes
  have hr := B.returns
  have hts : ∀ w ∈ ALL, w.before _ s = true := fun w h => atoms_spec (ws := wA yX6_init cX6_init 2 none) B.pre w (List.mem_cons_of_mem _ h)
  have hown : s.vm.findClass RX6 = some m.cls := findClass_of_methodNamed B.named
  have hlocks := B.notSynchronized
  subst hsz
  have hD := hD0.self (sz := s.heap.size)
  have hin : meth.name = "<init>" := (name_of_methodNamed B.named B.method).1
  have hA : ∀ q : Nat, s.heap.size ≤ q → va_A [(aQ, .inr (6, [.int (nI t0)]))] s.heap.size q := fun q h => Or.inr h
  generalize va_A [(aQ, .inr (6, [.int (nI t0)]))] s.heap.size = A at *
  have hS : va_S A s.heap s.heap [] := va_S.rf
  have hl := lv_entry ([.ref aQ, .int (nI t)]) (n := 2) (Nat.le_of_ble_eq_true rfl)
  rw [lg_entry_eq]
  generalize (lg_sl ([.ref aQ, .int (nI t)]) ++ List.replicate (2 - (lg_sl ([.ref aQ, .int (nI t)])).length) Slot.unset).toArray = ls at hl ⊢
  have hl : lv_has ls 2 [(0, .ref aQ), (1, .int (nI t))] := hl
  refine lv_aload_n hx hb dX6_init_0 rfl (lv_at hl 0 rfl) ?_
  refine W.objInit hx hb hown (hts _ m_1) (hts _ m_2) (hts _ m_3) rfl (by rw [hml]; exact hl.1) rfl dX6_init_1 (Nat.le_of_ble_eq_true rfl) (Nat.le_of_ble_eq_true rfl) ?_
  refine W.eq (g2 := F0 m 4 ls []) rfl ?_
  refine lv_aload_n hx hb dX6_init_4 rfl (lv_at hl 0 rfl) ?_
  refine lv_iload_n hx hb dX6_init_5 rfl (lv_at hl 1 rfl) ?_
  refine va_putF (D := D) (ci := 6) (v := .int (nI t)) (ty := tyX6 0) (C := RX6) (T := TX6) (N := 1) hx hb hts iX6 tyX6 tyX6_ok nmX6 hown hK.1 hP hD hS 0 rfl rfl 0 (by decide) (hts _ m_4) (fun _ h9 => h9) rfl hin rfl (tyX6_ok 0 (by decide)) rfl rfl (Nat.le_of_ble_eq_true rfl) dX6_init_6 (fun H locs hP hD hS => ?_)
  have hP : va_P D vwCl [(aQ, .inr (6, [.int (nI t)]))] H := hP
  have hD : va_D A [(aQ, .inr (6, [.int (nI t)]))] := hD
  exact nv_mv hx hb hr hlocks hS dX6_init_9 hP trivial

set_option maxHeartbeats 4000000 in
set_option maxRecDepth 100000 in
theorem c_X6_init_0 (l : Launch) (D : va_G) (z : Nat → ClassId) (sz : Nat) (aQ : Nat) (t0 : Nat) (t : Nat)  : CM l yX6_init cX6_init 2 none 1 12 0 0 [.ref aQ, .int (nI t)] D z [(aQ, .inr (0, [.int (nI t0)]))] sz (fun _ => True) [(aQ, .inr (0, [.int (nI t)]))] none (fun _ => True) := by
  refine Met.ofW (cc := cX6_init) (maxL := 2) (ret := none) (by decide) rfl ?_
  intro pg e s m args below meth c s₁ B hml hv
  obtain ⟨rfl, hsz, hP, hK, hD0, hE⟩ := hv
  have hx := B.exec
  have hb := B.bytes
  have hr := B.returns
  have hts : ∀ w ∈ ALL, w.before _ s = true := fun w h => atoms_spec (ws := wA yX6_init cX6_init 2 none) B.pre w (List.mem_cons_of_mem _ h)
  have hown : s.vm.findClass RX6 = some m.cls := findClass_of_methodNamed B.named
  have hlocks := B.notSynchronized
  subst hsz
  have hD := hD0.self (sz := s.heap.size)
  have hin : meth.name = "<init>" := (name_of_methodNamed B.named B.method).1
  have hA : ∀ q : Nat, s.heap.size ≤ q → va_A [(aQ, .inr (0, [.int (nI t0)]))] s.heap.size q := fun q h => Or.inr h
  generalize va_A [(aQ, .inr (0, [.int (nI t0)]))] s.heap.size = A at *
  have hS : va_S A s.heap s.heap [] := va_S.rf
  have hl := lv_entry ([.ref aQ, .int (nI t)]) (n := 2) (Nat.le_of_ble_eq_true rfl)
  rw [lg_entry_eq]
  generalize (lg_sl ([.ref aQ, .int (nI t)]) ++ List.replicate (2 - (lg_sl ([.ref aQ, .int (nI t)])).length) Slot.unset).toArray = ls at hl ⊢
  have hl : lv_has ls 2 [(0, .ref aQ), (1, .int (nI t))] := hl
  refine lv_aload_n hx hb dX6_init_0 rfl (lv_at hl 0 rfl) ?_
  refine W.objInit hx hb hown (hts _ m_1) (hts _ m_2) (hts _ m_3) rfl (by rw [hml]; exact hl.1) rfl dX6_init_1 (Nat.le_of_ble_eq_true rfl) (Nat.le_of_ble_eq_true rfl) ?_
  refine W.eq (g2 := F0 m 4 ls []) rfl ?_
  refine lv_aload_n hx hb dX6_init_4 rfl (lv_at hl 0 rfl) ?_
  refine lv_iload_n hx hb dX6_init_5 rfl (lv_at hl 1 rfl) ?_
  refine va_putF (D := D) (ci := 0) (v := .int (nI t)) (ty := tyX0 0) (C := RX0) (T := TX0) (N := 1) hx hb hts iX0 tyX0 tyX0_ok nmX0 hown hK.1 hP hD hS 0 rfl rfl 0 (by decide) (hts _ m_4) (fun _ h9 => h9) rfl hin rfl (tyX0_ok 0 (by decide)) rfl rfl (Nat.le_of_ble_eq_true rfl) dX6_init_6 (fun H locs hP hD hS => ?_)
  have hP : va_P D vwCl [(aQ, .inr (0, [.int (nI t)]))] H := hP
  have hD : va_D A [(aQ, .inr (0, [.int (nI t)]))] := hD
  exact nv_mv hx hb hr hlocks hS dX6_init_9 hP trivial

set_option maxHeartbeats 4000000 in
set_option maxRecDepth 100000 in
theorem c_X6_init_2 (l : Launch) (D : va_G) (z : Nat → ClassId) (sz : Nat) (aQ : Nat) (t0 : Nat) (t : Nat)  : CM l yX6_init cX6_init 2 none 1 12 0 0 [.ref aQ, .int (nI t)] D z [(aQ, .inr (2, [.int (nI t0)]))] sz (fun _ => True) [(aQ, .inr (2, [.int (nI t)]))] none (fun _ => True) := by
  refine Met.ofW (cc := cX6_init) (maxL := 2) (ret := none) (by decide) rfl ?_
  intro pg e s m args below meth c s₁ B hml hv
  obtain ⟨rfl, hsz, hP, hK, hD0, hE⟩ := hv
  have hx := B.exec
  have hb := B.bytes
  have hr := B.returns
  have hts : ∀ w ∈ ALL, w.before _ s = true := fun w h => atoms_spec (ws := wA yX6_init cX6_init 2 none) B.pre w (List.mem_cons_of_mem _ h)
  have hown : s.vm.findClass RX6 = some m.cls := findClass_of_methodNamed B.named
  have hlocks := B.notSynchronized
  subst hsz
  have hD := hD0.self (sz := s.heap.size)
  have hin : meth.name = "<init>" := (name_of_methodNamed B.named B.method).1
  have hA : ∀ q : Nat, s.heap.size ≤ q → va_A [(aQ, .inr (2, [.int (nI t0)]))] s.heap.size q := fun q h => Or.inr h
  generalize va_A [(aQ, .inr (2, [.int (nI t0)]))] s.heap.size = A at *
  have hS : va_S A s.heap s.heap [] := va_S.rf
  have hl := lv_entry ([.ref aQ, .int (nI t)]) (n := 2) (Nat.le_of_ble_eq_true rfl)
  rw [lg_entry_eq]
  generalize (lg_sl ([.ref aQ, .int (nI t)]) ++ List.replicate (2 - (lg_sl ([.ref aQ, .int (nI t)])).length) Slot.unset).toArray = ls at hl ⊢
  have hl : lv_has ls 2 [(0, .ref aQ), (1, .int (nI t))] := hl
  refine lv_aload_n hx hb dX6_init_0 rfl (lv_at hl 0 rfl) ?_
  refine W.objInit hx hb hown (hts _ m_1) (hts _ m_2) (hts _ m_3) rfl (by rw [hml]; exact hl.1) rfl dX6_init_1 (Nat.le_of_ble_eq_true rfl) (Nat.le_of_ble_eq_true rfl) ?_
  refine W.eq (g2 := F0 m 4 ls []) rfl ?_
  refine lv_aload_n hx hb dX6_init_4 rfl (lv_at hl 0 rfl) ?_
  refine lv_iload_n hx hb dX6_init_5 rfl (lv_at hl 1 rfl) ?_
  refine va_putF (D := D) (ci := 2) (v := .int (nI t)) (ty := tyX2 0) (C := RX2) (T := TX2) (N := 1) hx hb hts iX2 tyX2 tyX2_ok nmX2 hown hK.1 hP hD hS 0 rfl rfl 0 (by decide) (hts _ m_4) (fun _ h9 => h9) rfl hin rfl (tyX2_ok 0 (by decide)) rfl rfl (Nat.le_of_ble_eq_true rfl) dX6_init_6 (fun H locs hP hD hS => ?_)
  have hP : va_P D vwCl [(aQ, .inr (2, [.int (nI t)]))] H := hP
  have hD : va_D A [(aQ, .inr (2, [.int (nI t)]))] := hD
  exact nv_mv hx hb hr hlocks hS dX6_init_9 hP trivial

set_option maxHeartbeats 4000000 in
set_option maxRecDepth 100000 in
theorem c_X6_init_4 (l : Launch) (D : va_G) (z : Nat → ClassId) (sz : Nat) (aQ : Nat) (t0 : Nat) (t : Nat)  : CM l yX6_init cX6_init 2 none 1 12 0 0 [.ref aQ, .int (nI t)] D z [(aQ, .inr (4, [.int (nI t0)]))] sz (fun _ => True) [(aQ, .inr (4, [.int (nI t)]))] none (fun _ => True) := by
  refine Met.ofW (cc := cX6_init) (maxL := 2) (ret := none) (by decide) rfl ?_
  intro pg e s m args below meth c s₁ B hml hv
  obtain ⟨rfl, hsz, hP, hK, hD0, hE⟩ := hv
  have hx := B.exec
  have hb := B.bytes
  have hr := B.returns
  have hts : ∀ w ∈ ALL, w.before _ s = true := fun w h => atoms_spec (ws := wA yX6_init cX6_init 2 none) B.pre w (List.mem_cons_of_mem _ h)
  have hown : s.vm.findClass RX6 = some m.cls := findClass_of_methodNamed B.named
  have hlocks := B.notSynchronized
  subst hsz
  have hD := hD0.self (sz := s.heap.size)
  have hin : meth.name = "<init>" := (name_of_methodNamed B.named B.method).1
  have hA : ∀ q : Nat, s.heap.size ≤ q → va_A [(aQ, .inr (4, [.int (nI t0)]))] s.heap.size q := fun q h => Or.inr h
  generalize va_A [(aQ, .inr (4, [.int (nI t0)]))] s.heap.size = A at *
  have hS : va_S A s.heap s.heap [] := va_S.rf
  have hl := lv_entry ([.ref aQ, .int (nI t)]) (n := 2) (Nat.le_of_ble_eq_true rfl)
  rw [lg_entry_eq]
  generalize (lg_sl ([.ref aQ, .int (nI t)]) ++ List.replicate (2 - (lg_sl ([.ref aQ, .int (nI t)])).length) Slot.unset).toArray = ls at hl ⊢
  have hl : lv_has ls 2 [(0, .ref aQ), (1, .int (nI t))] := hl
  refine lv_aload_n hx hb dX6_init_0 rfl (lv_at hl 0 rfl) ?_
  refine W.objInit hx hb hown (hts _ m_1) (hts _ m_2) (hts _ m_3) rfl (by rw [hml]; exact hl.1) rfl dX6_init_1 (Nat.le_of_ble_eq_true rfl) (Nat.le_of_ble_eq_true rfl) ?_
  refine W.eq (g2 := F0 m 4 ls []) rfl ?_
  refine lv_aload_n hx hb dX6_init_4 rfl (lv_at hl 0 rfl) ?_
  refine lv_iload_n hx hb dX6_init_5 rfl (lv_at hl 1 rfl) ?_
  refine va_putF (D := D) (ci := 4) (v := .int (nI t)) (ty := tyX4 0) (C := RX4) (T := TX4) (N := 1) hx hb hts iX4 tyX4 tyX4_ok nmX4 hown hK.1 hP hD hS 0 rfl rfl 0 (by decide) (hts _ m_4) (fun _ h9 => h9) rfl hin rfl (tyX4_ok 0 (by decide)) rfl rfl (Nat.le_of_ble_eq_true rfl) dX6_init_6 (fun H locs hP hD hS => ?_)
  have hP : va_P D vwCl [(aQ, .inr (4, [.int (nI t)]))] H := hP
  have hD : va_D A [(aQ, .inr (4, [.int (nI t)]))] := hD
  exact nv_mv hx hb hr hlocks hS dX6_init_9 hP trivial

set_option maxHeartbeats 4000000 in
set_option maxRecDepth 100000 in
theorem c_X6_init_8 (l : Launch) (D : va_G) (z : Nat → ClassId) (sz : Nat) (aQ : Nat) (t0 : Nat) (t : Nat)  : CM l yX6_init cX6_init 2 none 1 12 0 0 [.ref aQ, .int (nI t)] D z [(aQ, .inr (8, [.int (nI t0)]))] sz (fun _ => True) [(aQ, .inr (8, [.int (nI t)]))] none (fun _ => True) := by
  refine Met.ofW (cc := cX6_init) (maxL := 2) (ret := none) (by decide) rfl ?_
  intro pg e s m args below meth c s₁ B hml hv
  obtain ⟨rfl, hsz, hP, hK, hD0, hE⟩ := hv
  have hx := B.exec
  have hb := B.bytes
  have hr := B.returns
  have hts : ∀ w ∈ ALL, w.before _ s = true := fun w h => atoms_spec (ws := wA yX6_init cX6_init 2 none) B.pre w (List.mem_cons_of_mem _ h)
  have hown : s.vm.findClass RX6 = some m.cls := findClass_of_methodNamed B.named
  have hlocks := B.notSynchronized
  subst hsz
  have hD := hD0.self (sz := s.heap.size)
  have hin : meth.name = "<init>" := (name_of_methodNamed B.named B.method).1
  have hA : ∀ q : Nat, s.heap.size ≤ q → va_A [(aQ, .inr (8, [.int (nI t0)]))] s.heap.size q := fun q h => Or.inr h
  generalize va_A [(aQ, .inr (8, [.int (nI t0)]))] s.heap.size = A at *
  have hS : va_S A s.heap s.heap [] := va_S.rf
  have hl := lv_entry ([.ref aQ, .int (nI t)]) (n := 2) (Nat.le_of_ble_eq_true rfl)
  rw [lg_entry_eq]
  generalize (lg_sl ([.ref aQ, .int (nI t)]) ++ List.replicate (2 - (lg_sl ([.ref aQ, .int (nI t)])).length) Slot.unset).toArray = ls at hl ⊢
  have hl : lv_has ls 2 [(0, .ref aQ), (1, .int (nI t))] := hl
  refine lv_aload_n hx hb dX6_init_0 rfl (lv_at hl 0 rfl) ?_
  refine W.objInit hx hb hown (hts _ m_1) (hts _ m_2) (hts _ m_3) rfl (by rw [hml]; exact hl.1) rfl dX6_init_1 (Nat.le_of_ble_eq_true rfl) (Nat.le_of_ble_eq_true rfl) ?_
  refine W.eq (g2 := F0 m 4 ls []) rfl ?_
  refine lv_aload_n hx hb dX6_init_4 rfl (lv_at hl 0 rfl) ?_
  refine lv_iload_n hx hb dX6_init_5 rfl (lv_at hl 1 rfl) ?_
  refine va_putF (D := D) (ci := 8) (v := .int (nI t)) (ty := tyX8 0) (C := RX8) (T := TX8) (N := 1) hx hb hts iX8 tyX8 tyX8_ok nmX8 hown hK.1 hP hD hS 0 rfl rfl 0 (by decide) (hts _ m_4) (fun _ h9 => h9) rfl hin rfl (tyX8_ok 0 (by decide)) rfl rfl (Nat.le_of_ble_eq_true rfl) dX6_init_6 (fun H locs hP hD hS => ?_)
  have hP : va_P D vwCl [(aQ, .inr (8, [.int (nI t)]))] H := hP
  have hD : va_D A [(aQ, .inr (8, [.int (nI t)]))] := hD
  exact nv_mv hx hb hr hlocks hS dX6_init_9 hP trivial

set_option maxHeartbeats 4000000 in
set_option maxRecDepth 100000 in
theorem c_X6_init_1 (l : Launch) (D : va_G) (z : Nat → ClassId) (sz : Nat) (aQ : Nat) (t0 : Nat) (t : Nat)  : CM l yX6_init cX6_init 2 none 1 12 0 0 [.ref aQ, .int (nI t)] D z [(aQ, .inr (1, [.int (nI t0)]))] sz (fun _ => True) [(aQ, .inr (1, [.int (nI t)]))] none (fun _ => True) := by
  refine Met.ofW (cc := cX6_init) (maxL := 2) (ret := none) (by decide) rfl ?_
  intro pg e s m args below meth c s₁ B hml hv
  obtain ⟨rfl, hsz, hP, hK, hD0, hE⟩ := hv
  have hx := B.exec
  have hb := B.bytes
  have hr := B.returns
  have hts : ∀ w ∈ ALL, w.before _ s = true := fun w h => atoms_spec (ws := wA yX6_init cX6_init 2 none) B.pre w (List.mem_cons_of_mem _ h)
  have hown : s.vm.findClass RX6 = some m.cls := findClass_of_methodNamed B.named
  have hlocks := B.notSynchronized
  subst hsz
  have hD := hD0.self (sz := s.heap.size)
  have hin : meth.name = "<init>" := (name_of_methodNamed B.named B.method).1
  have hA : ∀ q : Nat, s.heap.size ≤ q → va_A [(aQ, .inr (1, [.int (nI t0)]))] s.heap.size q := fun q h => Or.inr h
  generalize va_A [(aQ, .inr (1, [.int (nI t0)]))] s.heap.size = A at *
  have hS : va_S A s.heap s.heap [] := va_S.rf
  have hl := lv_entry ([.ref aQ, .int (nI t)]) (n := 2) (Nat.le_of_ble_eq_true rfl)
  rw [lg_entry_eq]
  generalize (lg_sl ([.ref aQ, .int (nI t)]) ++ List.replicate (2 - (lg_sl ([.ref aQ, .int (nI t)])).length) Slot.unset).toArray = ls at hl ⊢
  have hl : lv_has ls 2 [(0, .ref aQ), (1, .int (nI t))] := hl
  refine lv_aload_n hx hb dX6_init_0 rfl (lv_at hl 0 rfl) ?_
  refine W.objInit hx hb hown (hts _ m_1) (hts _ m_2) (hts _ m_3) rfl (by rw [hml]; exact hl.1) rfl dX6_init_1 (Nat.le_of_ble_eq_true rfl) (Nat.le_of_ble_eq_true rfl) ?_
  refine W.eq (g2 := F0 m 4 ls []) rfl ?_
  refine lv_aload_n hx hb dX6_init_4 rfl (lv_at hl 0 rfl) ?_
  refine lv_iload_n hx hb dX6_init_5 rfl (lv_at hl 1 rfl) ?_
  refine va_putF (D := D) (ci := 1) (v := .int (nI t)) (ty := tyX1 0) (C := RX1) (T := TX1) (N := 1) hx hb hts iX1 tyX1 tyX1_ok nmX1 hown hK.1 hP hD hS 0 rfl rfl 0 (by decide) (hts _ m_4) (fun _ h9 => h9) rfl hin rfl (tyX1_ok 0 (by decide)) rfl rfl (Nat.le_of_ble_eq_true rfl) dX6_init_6 (fun H locs hP hD hS => ?_)
  have hP : va_P D vwCl [(aQ, .inr (1, [.int (nI t)]))] H := hP
  have hD : va_D A [(aQ, .inr (1, [.int (nI t)]))] := hD
  exact nv_mv hx hb hr hlocks hS dX6_init_9 hP trivial

set_option maxHeartbeats 4000000 in
set_option maxRecDepth 100000 in
theorem c_X0_init_0 (l : Launch) (D : va_G) (z : Nat → ClassId) (sz : Nat) (aQ : Nat) (t0 : Nat) (t : Nat)  : CM l yX0_init cX0_init 2 none 2 33 0 0 [.ref aQ, .int (nI t)] D z [(aQ, .inr (0, [.int (nI t0)]))] sz (fun _ => True) [(aQ, .inr (0, [.int (nI t)]))] none (fun _ => True) := by
  refine Met.ofW (cc := cX0_init) (maxL := 2) (ret := none) (by decide) rfl ?_
  intro pg e s m args below meth c s₁ B hml hv
  obtain ⟨rfl, hsz, hP, hK, hD0, hE⟩ := hv
  have hx := B.exec
  have hb := B.bytes
  have hr := B.returns
  have hts : ∀ w ∈ ALL, w.before _ s = true := fun w h => atoms_spec (ws := wA yX0_init cX0_init 2 none) B.pre w (List.mem_cons_of_mem _ h)
  have hown : s.vm.findClass RX0 = some m.cls := findClass_of_methodNamed B.named
  have hlocks := B.notSynchronized
  subst hsz
  have hD := hD0.self (sz := s.heap.size)
  have hin : meth.name = "<init>" := (name_of_methodNamed B.named B.method).1
  have hA : ∀ q : Nat, s.heap.size ≤ q → va_A [(aQ, .inr (0, [.int (nI t0)]))] s.heap.size q := fun q h => Or.inr h
  generalize va_A [(aQ, .inr (0, [.int (nI t0)]))] s.heap.size = A at *
  have hS : va_S A s.heap s.heap [] := va_S.rf
  have hl := lv_entry ([.ref aQ, .int (nI t)]) (n := 2) (Nat.le_of_ble_eq_true rfl)
  rw [lg_entry_eq]
  generalize (lg_sl ([.ref aQ, .int (nI t)]) ++ List.replicate (2 - (lg_sl ([.ref aQ, .int (nI t)])).length) Slot.unset).toArray = ls at hl ⊢
  have hl : lv_has ls 2 [(0, .ref aQ), (1, .int (nI t))] := hl
  refine lv_aload_n hx hb dX0_init_0 rfl (lv_at hl 0 rfl) ?_
  refine lv_iload_n hx hb dX0_init_1 rfl (lv_at hl 1 rfl) ?_
  have hPc := hP.sub (ws' := [(aQ, .inr (0, [.int (nI t0)]))]) [0] rfl
  have hDc := hD.sub (ws' := [(aQ, .inr (0, [.int (nI t0)]))]) [0] (by decide) rfl
  refine nv_cm0 (wc := [(aQ, .inr (0, [.int (nI t0)]))]) (wr := []) (w1 := [(aQ, .inr (0, [.int (nI t)]))]) (ws1 := [(aQ, .inr (0, [.int (nI t)]))]) (va_runI (As := [.int (nI t)]) (rest := []) ⟨hx, hb, hml, hown, hts⟩ (c_X6_init_0 l D z s.heap.size aQ t0 t ) (cwI 1 hts (gC m_0) rfl rfl rfl (hts _ m_8) (hts _ m_6) (hts _ m_7) rfl hd_X6_init ⟨Nat.le_of_ble_eq_true rfl, Nat.le_of_ble_eq_true rfl⟩) (nv_preM hK hPc hDc trivial _) rfl rfl hl.1 rfl (lv_room (Nat.le_of_ble_eq_true rfl)) dX0_init_2 ⟨Nat.le_of_ble_eq_true rfl, Nat.le_of_ble_eq_true rfl⟩) hP hD hS hA [0] [] [0] rfl rfl (by decide) (by decide) rfl (by decide) rfl (by decide) (fun H locs hP hD hS hE2 hz2 hf2 => ?_)
  clear hPc hDc hE2 hz2 hf2
  exact nv_mv hx hb hr hlocks hS dX0_init_5 hP trivial

set_option maxHeartbeats 4000000 in
set_option maxRecDepth 100000 in
theorem c_X2_init_2 (l : Launch) (D : va_G) (z : Nat → ClassId) (sz : Nat) (aQ : Nat) (t0 : Nat) (t : Nat)  : CM l yX2_init cX2_init 2 none 2 33 0 0 [.ref aQ, .int (nI t)] D z [(aQ, .inr (2, [.int (nI t0)]))] sz (fun _ => True) [(aQ, .inr (2, [.int (nI t)]))] none (fun _ => True) := by
  refine Met.ofW (cc := cX2_init) (maxL := 2) (ret := none) (by decide) rfl ?_
  intro pg e s m args below meth c s₁ B hml hv
  obtain ⟨rfl, hsz, hP, hK, hD0, hE⟩ := hv
  have hx := B.exec
  have hb := B.bytes
  have hr := B.returns
  have hts : ∀ w ∈ ALL, w.before _ s = true := fun w h => atoms_spec (ws := wA yX2_init cX2_init 2 none) B.pre w (List.mem_cons_of_mem _ h)
  have hown : s.vm.findClass RX2 = some m.cls := findClass_of_methodNamed B.named
  have hlocks := B.notSynchronized
  subst hsz
  have hD := hD0.self (sz := s.heap.size)
  have hin : meth.name = "<init>" := (name_of_methodNamed B.named B.method).1
  have hA : ∀ q : Nat, s.heap.size ≤ q → va_A [(aQ, .inr (2, [.int (nI t0)]))] s.heap.size q := fun q h => Or.inr h
  generalize va_A [(aQ, .inr (2, [.int (nI t0)]))] s.heap.size = A at *
  have hS : va_S A s.heap s.heap [] := va_S.rf
  have hl := lv_entry ([.ref aQ, .int (nI t)]) (n := 2) (Nat.le_of_ble_eq_true rfl)
  rw [lg_entry_eq]
  generalize (lg_sl ([.ref aQ, .int (nI t)]) ++ List.replicate (2 - (lg_sl ([.ref aQ, .int (nI t)])).length) Slot.unset).toArray = ls at hl ⊢
  have hl : lv_has ls 2 [(0, .ref aQ), (1, .int (nI t))] := hl
  refine lv_aload_n hx hb dX2_init_0 rfl (lv_at hl 0 rfl) ?_
  refine lv_iload_n hx hb dX2_init_1 rfl (lv_at hl 1 rfl) ?_
  have hPc := hP.sub (ws' := [(aQ, .inr (2, [.int (nI t0)]))]) [0] rfl
  have hDc := hD.sub (ws' := [(aQ, .inr (2, [.int (nI t0)]))]) [0] (by decide) rfl
  refine nv_cm0 (wc := [(aQ, .inr (2, [.int (nI t0)]))]) (wr := []) (w1 := [(aQ, .inr (2, [.int (nI t)]))]) (ws1 := [(aQ, .inr (2, [.int (nI t)]))]) (va_runI (As := [.int (nI t)]) (rest := []) ⟨hx, hb, hml, hown, hts⟩ (c_X6_init_2 l D z s.heap.size aQ t0 t ) (cwI 1 hts (gC m_0) rfl rfl rfl (hts _ m_8) (hts _ m_28) (hts _ m_7) rfl hd_X6_init ⟨Nat.le_of_ble_eq_true rfl, Nat.le_of_ble_eq_true rfl⟩) (nv_preM hK hPc hDc trivial _) rfl rfl hl.1 rfl (lv_room (Nat.le_of_ble_eq_true rfl)) dX2_init_2 ⟨Nat.le_of_ble_eq_true rfl, Nat.le_of_ble_eq_true rfl⟩) hP hD hS hA [0] [] [0] rfl rfl (by decide) (by decide) rfl (by decide) rfl (by decide) (fun H locs hP hD hS hE2 hz2 hf2 => ?_)
  clear hPc hDc hE2 hz2 hf2
  exact nv_mv hx hb hr hlocks hS dX2_init_5 hP trivial

set_option maxHeartbeats 4000000 in
set_option maxRecDepth 100000 in
theorem c_X1_init_1 (l : Launch) (D : va_G) (z : Nat → ClassId) (sz : Nat) (aQ : Nat) (t0 : Nat) (t : Nat)  : CM l yX1_init cX1_init 2 none 2 33 0 0 [.ref aQ, .int (nI t)] D z [(aQ, .inr (1, [.int (nI t0)]))] sz (fun _ => True) [(aQ, .inr (1, [.int (nI t)]))] none (fun _ => True) := by
  refine Met.ofW (cc := cX1_init) (maxL := 2) (ret := none) (by decide) rfl ?_
  intro pg e s m args below meth c s₁ B hml hv
  obtain ⟨rfl, hsz, hP, hK, hD0, hE⟩ := hv
  have hx := B.exec
  have hb := B.bytes
  have hr := B.returns
  have hts : ∀ w ∈ ALL, w.before _ s = true := fun w h => atoms_spec (ws := wA yX1_init cX1_init 2 none) B.pre w (List.mem_cons_of_mem _ h)
  have hown : s.vm.findClass RX1 = some m.cls := findClass_of_methodNamed B.named
  have hlocks := B.notSynchronized
  subst hsz
  have hD := hD0.self (sz := s.heap.size)
  have hin : meth.name = "<init>" := (name_of_methodNamed B.named B.method).1
  have hA : ∀ q : Nat, s.heap.size ≤ q → va_A [(aQ, .inr (1, [.int (nI t0)]))] s.heap.size q := fun q h => Or.inr h
  generalize va_A [(aQ, .inr (1, [.int (nI t0)]))] s.heap.size = A at *
  have hS : va_S A s.heap s.heap [] := va_S.rf
  have hl := lv_entry ([.ref aQ, .int (nI t)]) (n := 2) (Nat.le_of_ble_eq_true rfl)
  rw [lg_entry_eq]
  generalize (lg_sl ([.ref aQ, .int (nI t)]) ++ List.replicate (2 - (lg_sl ([.ref aQ, .int (nI t)])).length) Slot.unset).toArray = ls at hl ⊢
  have hl : lv_has ls 2 [(0, .ref aQ), (1, .int (nI t))] := hl
  refine lv_aload_n hx hb dX1_init_0 rfl (lv_at hl 0 rfl) ?_
  refine lv_iload_n hx hb dX1_init_1 rfl (lv_at hl 1 rfl) ?_
  have hPc := hP.sub (ws' := [(aQ, .inr (1, [.int (nI t0)]))]) [0] rfl
  have hDc := hD.sub (ws' := [(aQ, .inr (1, [.int (nI t0)]))]) [0] (by decide) rfl
  refine nv_cm0 (wc := [(aQ, .inr (1, [.int (nI t0)]))]) (wr := []) (w1 := [(aQ, .inr (1, [.int (nI t)]))]) (ws1 := [(aQ, .inr (1, [.int (nI t)]))]) (va_runI (As := [.int (nI t)]) (rest := []) ⟨hx, hb, hml, hown, hts⟩ (c_X6_init_1 l D z s.heap.size aQ t0 t ) (cwI 1 hts (gC m_0) rfl rfl rfl (hts _ m_8) (hts _ m_23) (hts _ m_7) rfl hd_X6_init ⟨Nat.le_of_ble_eq_true rfl, Nat.le_of_ble_eq_true rfl⟩) (nv_preM hK hPc hDc trivial _) rfl rfl hl.1 rfl (lv_room (Nat.le_of_ble_eq_true rfl)) dX1_init_2 ⟨Nat.le_of_ble_eq_true rfl, Nat.le_of_ble_eq_true rfl⟩) hP hD hS hA [0] [] [0] rfl rfl (by decide) (by decide) rfl (by decide) rfl (by decide) (fun H locs hP hD hS hE2 hz2 hf2 => ?_)
  clear hPc hDc hE2 hz2 hf2
  exact nv_mv hx hb hr hlocks hS dX1_init_5 hP trivial

set_option maxHeartbeats 4000000 in
set_option maxRecDepth 100000 in
theorem c_X4_init_4 (l : Launch) (D : va_G) (z : Nat → ClassId) (sz : Nat) (aQ : Nat) (t0 : Nat) (t : Nat)  : CM l yX4_init cX4_init 2 none 2 33 0 0 [.ref aQ, .int (nI t)] D z [(aQ, .inr (4, [.int (nI t0)]))] sz (fun _ => True) [(aQ, .inr (4, [.int (nI t)]))] none (fun _ => True) := by
  refine Met.ofW (cc := cX4_init) (maxL := 2) (ret := none) (by decide) rfl ?_
  intro pg e s m args below meth c s₁ B hml hv
  obtain ⟨rfl, hsz, hP, hK, hD0, hE⟩ := hv
  have hx := B.exec
  have hb := B.bytes
  have hr := B.returns
  have hts : ∀ w ∈ ALL, w.before _ s = true := fun w h => atoms_spec (ws := wA yX4_init cX4_init 2 none) B.pre w (List.mem_cons_of_mem _ h)
  have hown : s.vm.findClass RX4 = some m.cls := findClass_of_methodNamed B.named
  have hlocks := B.notSynchronized
  subst hsz
  have hD := hD0.self (sz := s.heap.size)
  have hin : meth.name = "<init>" := (name_of_methodNamed B.named B.method).1
  have hA : ∀ q : Nat, s.heap.size ≤ q → va_A [(aQ, .inr (4, [.int (nI t0)]))] s.heap.size q := fun q h => Or.inr h
  generalize va_A [(aQ, .inr (4, [.int (nI t0)]))] s.heap.size = A at *
  have hS : va_S A s.heap s.heap [] := va_S.rf
  have hl := lv_entry ([.ref aQ, .int (nI t)]) (n := 2) (Nat.le_of_ble_eq_true rfl)
  rw [lg_entry_eq]
  generalize (lg_sl ([.ref aQ, .int (nI t)]) ++ List.replicate (2 - (lg_sl ([.ref aQ, .int (nI t)])).length) Slot.unset).toArray = ls at hl ⊢
  have hl : lv_has ls 2 [(0, .ref aQ), (1, .int (nI t))] := hl
  refine lv_aload_n hx hb dX4_init_0 rfl (lv_at hl 0 rfl) ?_
  refine lv_iload_n hx hb dX4_init_1 rfl (lv_at hl 1 rfl) ?_
  have hPc := hP.sub (ws' := [(aQ, .inr (4, [.int (nI t0)]))]) [0] rfl
  have hDc := hD.sub (ws' := [(aQ, .inr (4, [.int (nI t0)]))]) [0] (by decide) rfl
  refine nv_cm0 (wc := [(aQ, .inr (4, [.int (nI t0)]))]) (wr := []) (w1 := [(aQ, .inr (4, [.int (nI t)]))]) (ws1 := [(aQ, .inr (4, [.int (nI t)]))]) (va_runI (As := [.int (nI t)]) (rest := []) ⟨hx, hb, hml, hown, hts⟩ (c_X6_init_4 l D z s.heap.size aQ t0 t ) (cwI 1 hts (gC m_0) rfl rfl rfl (hts _ m_8) (hts _ m_144) (hts _ m_7) rfl hd_X6_init ⟨Nat.le_of_ble_eq_true rfl, Nat.le_of_ble_eq_true rfl⟩) (nv_preM hK hPc hDc trivial _) rfl rfl hl.1 rfl (lv_room (Nat.le_of_ble_eq_true rfl)) dX4_init_2 ⟨Nat.le_of_ble_eq_true rfl, Nat.le_of_ble_eq_true rfl⟩) hP hD hS hA [0] [] [0] rfl rfl (by decide) (by decide) rfl (by decide) rfl (by decide) (fun H locs hP hD hS hE2 hz2 hf2 => ?_)
  clear hPc hDc hE2 hz2 hf2
  exact nv_mv hx hb hr hlocks hS dX4_init_5 hP trivial

set_option maxHeartbeats 4000000 in
set_option maxRecDepth 100000 in
theorem c_X4_init_8 (l : Launch) (D : va_G) (z : Nat → ClassId) (sz : Nat) (aQ : Nat) (t0 : Nat) (t : Nat)  : CM l yX4_init cX4_init 2 none 2 33 0 0 [.ref aQ, .int (nI t)] D z [(aQ, .inr (8, [.int (nI t0)]))] sz (fun _ => True) [(aQ, .inr (8, [.int (nI t)]))] none (fun _ => True) := by
  refine Met.ofW (cc := cX4_init) (maxL := 2) (ret := none) (by decide) rfl ?_
  intro pg e s m args below meth c s₁ B hml hv
  obtain ⟨rfl, hsz, hP, hK, hD0, hE⟩ := hv
  have hx := B.exec
  have hb := B.bytes
  have hr := B.returns
  have hts : ∀ w ∈ ALL, w.before _ s = true := fun w h => atoms_spec (ws := wA yX4_init cX4_init 2 none) B.pre w (List.mem_cons_of_mem _ h)
  have hown : s.vm.findClass RX4 = some m.cls := findClass_of_methodNamed B.named
  have hlocks := B.notSynchronized
  subst hsz
  have hD := hD0.self (sz := s.heap.size)
  have hin : meth.name = "<init>" := (name_of_methodNamed B.named B.method).1
  have hA : ∀ q : Nat, s.heap.size ≤ q → va_A [(aQ, .inr (8, [.int (nI t0)]))] s.heap.size q := fun q h => Or.inr h
  generalize va_A [(aQ, .inr (8, [.int (nI t0)]))] s.heap.size = A at *
  have hS : va_S A s.heap s.heap [] := va_S.rf
  have hl := lv_entry ([.ref aQ, .int (nI t)]) (n := 2) (Nat.le_of_ble_eq_true rfl)
  rw [lg_entry_eq]
  generalize (lg_sl ([.ref aQ, .int (nI t)]) ++ List.replicate (2 - (lg_sl ([.ref aQ, .int (nI t)])).length) Slot.unset).toArray = ls at hl ⊢
  have hl : lv_has ls 2 [(0, .ref aQ), (1, .int (nI t))] := hl
  refine lv_aload_n hx hb dX4_init_0 rfl (lv_at hl 0 rfl) ?_
  refine lv_iload_n hx hb dX4_init_1 rfl (lv_at hl 1 rfl) ?_
  have hPc := hP.sub (ws' := [(aQ, .inr (8, [.int (nI t0)]))]) [0] rfl
  have hDc := hD.sub (ws' := [(aQ, .inr (8, [.int (nI t0)]))]) [0] (by decide) rfl
  refine nv_cm0 (wc := [(aQ, .inr (8, [.int (nI t0)]))]) (wr := []) (w1 := [(aQ, .inr (8, [.int (nI t)]))]) (ws1 := [(aQ, .inr (8, [.int (nI t)]))]) (va_runI (As := [.int (nI t)]) (rest := []) ⟨hx, hb, hml, hown, hts⟩ (c_X6_init_8 l D z s.heap.size aQ t0 t ) (cwI 1 hts (gC m_0) rfl rfl rfl (hts _ m_8) (hts _ m_144) (hts _ m_7) rfl hd_X6_init ⟨Nat.le_of_ble_eq_true rfl, Nat.le_of_ble_eq_true rfl⟩) (nv_preM hK hPc hDc trivial _) rfl rfl hl.1 rfl (lv_room (Nat.le_of_ble_eq_true rfl)) dX4_init_2 ⟨Nat.le_of_ble_eq_true rfl, Nat.le_of_ble_eq_true rfl⟩) hP hD hS hA [0] [] [0] rfl rfl (by decide) (by decide) rfl (by decide) rfl (by decide) (fun H locs hP hD hS hE2 hz2 hf2 => ?_)
  clear hPc hDc hE2 hz2 hf2
  exact nv_mv hx hb hr hlocks hS dX4_init_5 hP trivial

set_option maxHeartbeats 4000000 in
set_option maxRecDepth 100000 in
theorem c_X8_init (l : Launch) (D : va_G) (z : Nat → ClassId) (sz : Nat) (aQ : Nat) (t0 : Nat) (t : Nat)  : CM l yX8_init cX8_init 2 none 3 54 0 0 [.ref aQ, .int (nI t)] D z [(aQ, .inr (8, [.int (nI t0)]))] sz (fun _ => True) [(aQ, .inr (8, [.int (nI t)]))] none (fun _ => True) := by
  refine Met.ofW (cc := cX8_init) (maxL := 2) (ret := none) (by decide) rfl ?_
  intro pg e s m args below meth c s₁ B hml hv
  obtain ⟨rfl, hsz, hP, hK, hD0, hE⟩ := hv
  have hx := B.exec
  have hb := B.bytes
  have hr := B.returns
  have hts : ∀ w ∈ ALL, w.before _ s = true := fun w h => atoms_spec (ws := wA yX8_init cX8_init 2 none) B.pre w (List.mem_cons_of_mem _ h)
  have hown : s.vm.findClass RX8 = some m.cls := findClass_of_methodNamed B.named
  have hlocks := B.notSynchronized
  subst hsz
  have hD := hD0.self (sz := s.heap.size)
  have hin : meth.name = "<init>" := (name_of_methodNamed B.named B.method).1
  have hA : ∀ q : Nat, s.heap.size ≤ q → va_A [(aQ, .inr (8, [.int (nI t0)]))] s.heap.size q := fun q h => Or.inr h
  generalize va_A [(aQ, .inr (8, [.int (nI t0)]))] s.heap.size = A at *
  have hS : va_S A s.heap s.heap [] := va_S.rf
  have hl := lv_entry ([.ref aQ, .int (nI t)]) (n := 2) (Nat.le_of_ble_eq_true rfl)
  rw [lg_entry_eq]
  generalize (lg_sl ([.ref aQ, .int (nI t)]) ++ List.replicate (2 - (lg_sl ([.ref aQ, .int (nI t)])).length) Slot.unset).toArray = ls at hl ⊢
  have hl : lv_has ls 2 [(0, .ref aQ), (1, .int (nI t))] := hl
  refine lv_aload_n hx hb dX8_init_0 rfl (lv_at hl 0 rfl) ?_
  refine lv_iload_n hx hb dX8_init_1 rfl (lv_at hl 1 rfl) ?_
  have hPc := hP.sub (ws' := [(aQ, .inr (8, [.int (nI t0)]))]) [0] rfl
  have hDc := hD.sub (ws' := [(aQ, .inr (8, [.int (nI t0)]))]) [0] (by decide) rfl
  refine nv_cm0 (wc := [(aQ, .inr (8, [.int (nI t0)]))]) (wr := []) (w1 := [(aQ, .inr (8, [.int (nI t)]))]) (ws1 := [(aQ, .inr (8, [.int (nI t)]))]) (va_runI (As := [.int (nI t)]) (rest := []) ⟨hx, hb, hml, hown, hts⟩ (c_X4_init_8 l D z s.heap.size aQ t0 t ) (cwI 1 hts (gC m_143) rfl rfl rfl (hts _ m_107) (hts _ m_184) (hts _ m_185) rfl hd_X4_init ⟨Nat.le_of_ble_eq_true rfl, Nat.le_of_ble_eq_true rfl⟩) (nv_preM hK hPc hDc trivial _) rfl rfl hl.1 rfl (lv_room (Nat.le_of_ble_eq_true rfl)) dX8_init_2 ⟨Nat.le_of_ble_eq_true rfl, Nat.le_of_ble_eq_true rfl⟩) hP hD hS hA [0] [] [0] rfl rfl (by decide) (by decide) rfl (by decide) rfl (by decide) (fun H locs hP hD hS hE2 hz2 hf2 => ?_)
  clear hPc hDc hE2 hz2 hf2
  exact nv_mv hx hb hr hlocks hS dX8_init_5 hP trivial

set_option maxHeartbeats 4000000 in
set_option maxRecDepth 100000 in
theorem c_X10_newPerson (l : Launch) (D : va_G) (z : Nat → ClassId) (sz : Nat) (kq : Nat) (tqQ : Nat) (hkq : kq ≤ 5) : CN l yX10_newPerson cX10_newPerson 2 (some (.object "SeaJar$Plain")) 4 75 1 1 [.int (nI kq), .int (nI tqQ)] D z sz kq tqQ := by
  refine Met.ofW (cc := cX10_newPerson) (maxL := 2) (ret := (some (.object "SeaJar$Plain"))) (by decide) rfl ?_
  intro pg e s m args below meth c s₁ B hml hv
  obtain ⟨rfl, hsz, hP, hK, hD0, hE⟩ := hv
  have hx := B.exec
  have hb := B.bytes
  have hr := B.returns
  have hts : ∀ w ∈ ALL, w.before _ s = true := fun w h => atoms_spec (ws := wA yX10_newPerson cX10_newPerson 2 (some (.object "SeaJar$Plain"))) B.pre w (List.mem_cons_of_mem _ h)
  have hown : s.vm.findClass RX10 = some m.cls := findClass_of_methodNamed B.named
  have hlocks := B.notSynchronized
  subst hsz
  have hD := hD0.self (sz := s.heap.size)
  have hA2 : ∀ q : Nat, va_A [] s.heap.size q → s.heap.size ≤ q := fun q h => A0_sz h
  have hA : ∀ q : Nat, s.heap.size ≤ q → va_A [] s.heap.size q := fun q h => Or.inr h
  generalize va_A [] s.heap.size = A at *
  have hS : va_S A s.heap s.heap [] := va_S.rf
  have hl := lv_entry ([.int (nI kq), .int (nI tqQ)]) (n := 2) (Nat.le_of_ble_eq_true rfl)
  rw [lg_entry_eq]
  generalize (lg_sl ([.int (nI kq), .int (nI tqQ)]) ++ List.replicate (2 - (lg_sl ([.int (nI kq), .int (nI tqQ)])).length) Slot.unset).toArray = ls at hl ⊢
  have hl : lv_has ls 2 [(0, .int (nI kq)), (1, .int (nI tqQ))] := hl
  refine lv_iload_n hx hb dX10_newPerson_0 rfl (lv_at hl 0 rfl) ?_
  rcases (show kq = 0 ∨ kq = 1 ∨ kq = 2 ∨ kq = 3 ∨ kq = 4 ∨ kq = 5 by have h9 := hkq; omega) with hc1 | hc1 | hc1 | hc1 | hc1 | hc1
  · refine lv_tableOut (tgt := 81) hx hb dX10_newPerson_1 (by rw [hc1]; decide) (by decide) ?_
    refine va_new (ci := 6) (fs := [.int (nI 0)]) (C := RX6) (T := TX6) (N := 1) hx hb hts iX6 tyX6 tyX6_ok hown (hts _ m_307) (hts _ m_308) (hts _ m_8) hK.1 hP hD hS hA rfl (fun jQ hj => by rcases (show jQ = 0 by omega) with rfl <;> rfl) (Nat.le_of_ble_eq_true rfl) (Nat.le_of_ble_eq_true rfl) dX10_newPerson_81 (fun qn1 H hP hD hS => ?_)
    have hP : va_P D vwCl [(qn1, .inr (6, [.int (nI 0)]))] H := hP
    have hD : va_D A [(qn1, .inr (6, [.int (nI 0)]))] := hD
    refine lv_dup hx hb dX10_newPerson_84 rfl ?_
    refine lv_iload_n hx hb dX10_newPerson_85 rfl (lv_at hl 1 rfl) ?_
    have hPc := hP.sub (ws' := [(qn1, .inr (6, [.int (nI 0)]))]) [0] rfl
    have hDc := hD.sub (ws' := [(qn1, .inr (6, [.int (nI 0)]))]) [0] (by decide) rfl
    refine nv_cm0 (wc := [(qn1, .inr (6, [.int (nI 0)]))]) (wr := []) (w1 := [(qn1, .inr (6, [.int (nI tqQ)]))]) (ws1 := [(qn1, .inr (6, [.int (nI tqQ)]))]) (va_runI (As := [.int (nI tqQ)]) (rest := [.ref qn1]) ⟨hx, hb, hml, hown, hts⟩ (c_X6_init_6 l D z H.size qn1 0 tqQ ) (cwI 1 hts (gC m_0) rfl rfl rfl (hts _ m_8) (hts _ m_318) (hts _ m_7) rfl hd_X6_init ⟨Nat.le_of_ble_eq_true rfl, Nat.le_of_ble_eq_true rfl⟩) (nv_preM hK hPc hDc trivial _) rfl rfl hl.1 rfl (lv_room (Nat.le_of_ble_eq_true rfl)) dX10_newPerson_86 ⟨Nat.le_of_ble_eq_true rfl, Nat.le_of_ble_eq_true rfl⟩) hP hD hS hA [0] [] [0] rfl rfl (by decide) (by decide) rfl (by decide) rfl (by decide) (fun H locs hP hD hS hE86 hz86 hf86 => ?_)
    clear hPc hDc hE86 hz86 hf86
    exact W.aret hx hb hr (Or.inl ⟨_, rfl⟩) (Or.inr ⟨_, rfl⟩) (fun t9 ht9 _ => ⟨qn1, rfl, hA2 _ (hD.2 0 _ rfl), by rw [ht9]; exact (show psAt D H qn1 kq tqQ by rw [hc1]; exact hP 0 _ rfl), hS.F ht9⟩) hS.2.2 dX10_newPerson_89 hlocks
  · refine lv_tableIn (off := 35) (tgt := 36) hx hb dX10_newPerson_1 (by rw [hc1]; decide) (by rw [hc1]; decide) (by rw [hc1]; rfl) (by decide) ?_
    refine va_new (ci := 0) (fs := [.int (nI 0)]) (C := RX0) (T := TX0) (N := 1) hx hb hts iX0 tyX0 tyX0_ok hown (hts _ m_297) (hts _ m_298) (hts _ m_82) hK.1 hP hD hS hA rfl (fun jQ hj => by rcases (show jQ = 0 by omega) with rfl <;> rfl) (Nat.le_of_ble_eq_true rfl) (Nat.le_of_ble_eq_true rfl) dX10_newPerson_36 (fun qn2 H hP hD hS => ?_)
    have hP : va_P D vwCl [(qn2, .inr (0, [.int (nI 0)]))] H := hP
    have hD : va_D A [(qn2, .inr (0, [.int (nI 0)]))] := hD
    refine lv_dup hx hb dX10_newPerson_39 rfl ?_
    refine lv_iload_n hx hb dX10_newPerson_40 rfl (lv_at hl 1 rfl) ?_
    have hPc := hP.sub (ws' := [(qn2, .inr (0, [.int (nI 0)]))]) [0] rfl
    have hDc := hD.sub (ws' := [(qn2, .inr (0, [.int (nI 0)]))]) [0] (by decide) rfl
    refine nv_cm0 (wc := [(qn2, .inr (0, [.int (nI 0)]))]) (wr := []) (w1 := [(qn2, .inr (0, [.int (nI tqQ)]))]) (ws1 := [(qn2, .inr (0, [.int (nI tqQ)]))]) (va_runI (As := [.int (nI tqQ)]) (rest := [.ref qn2]) ⟨hx, hb, hml, hown, hts⟩ (c_X0_init_0 l D z H.size qn2 0 tqQ ) (cwI 1 hts (gC m_5) rfl rfl rfl (hts _ m_82) (hts _ m_309) (hts _ m_310) rfl hd_X0_init ⟨Nat.le_of_ble_eq_true rfl, Nat.le_of_ble_eq_true rfl⟩) (nv_preM hK hPc hDc trivial _) rfl rfl hl.1 rfl (lv_room (Nat.le_of_ble_eq_true rfl)) dX10_newPerson_41 ⟨Nat.le_of_ble_eq_true rfl, Nat.le_of_ble_eq_true rfl⟩) hP hD hS hA [0] [] [0] rfl rfl (by decide) (by decide) rfl (by decide) rfl (by decide) (fun H locs hP hD hS hE41 hz41 hf41 => ?_)
    clear hPc hDc hE41 hz41 hf41
    exact W.aret hx hb hr (Or.inl ⟨_, rfl⟩) (Or.inr ⟨_, rfl⟩) (fun t9 ht9 _ => ⟨qn2, rfl, hA2 _ (hD.2 0 _ rfl), by rw [ht9]; exact (show psAt D H qn2 kq tqQ by rw [hc1]; exact hP 0 _ rfl), hS.F ht9⟩) hS.2.2 dX10_newPerson_44 hlocks
  · refine lv_tableIn (off := 44) (tgt := 45) hx hb dX10_newPerson_1 (by rw [hc1]; decide) (by rw [hc1]; decide) (by rw [hc1]; rfl) (by decide) ?_
    refine va_new (ci := 2) (fs := [.int (nI 0)]) (C := RX2) (T := TX2) (N := 1) hx hb hts iX2 tyX2 tyX2_ok hown (hts _ m_299) (hts _ m_300) (hts _ m_104) hK.1 hP hD hS hA rfl (fun jQ hj => by rcases (show jQ = 0 by omega) with rfl <;> rfl) (Nat.le_of_ble_eq_true rfl) (Nat.le_of_ble_eq_true rfl) dX10_newPerson_45 (fun qn3 H hP hD hS => ?_)
    have hP : va_P D vwCl [(qn3, .inr (2, [.int (nI 0)]))] H := hP
    have hD : va_D A [(qn3, .inr (2, [.int (nI 0)]))] := hD
    refine lv_dup hx hb dX10_newPerson_48 rfl ?_
    refine lv_iload_n hx hb dX10_newPerson_49 rfl (lv_at hl 1 rfl) ?_
    have hPc := hP.sub (ws' := [(qn3, .inr (2, [.int (nI 0)]))]) [0] rfl
    have hDc := hD.sub (ws' := [(qn3, .inr (2, [.int (nI 0)]))]) [0] (by decide) rfl
    refine nv_cm0 (wc := [(qn3, .inr (2, [.int (nI 0)]))]) (wr := []) (w1 := [(qn3, .inr (2, [.int (nI tqQ)]))]) (ws1 := [(qn3, .inr (2, [.int (nI tqQ)]))]) (va_runI (As := [.int (nI tqQ)]) (rest := [.ref qn3]) ⟨hx, hb, hml, hown, hts⟩ (c_X2_init_2 l D z H.size qn3 0 tqQ ) (cwI 1 hts (gC m_27) rfl rfl rfl (hts _ m_104) (hts _ m_311) (hts _ m_312) rfl hd_X2_init ⟨Nat.le_of_ble_eq_true rfl, Nat.le_of_ble_eq_true rfl⟩) (nv_preM hK hPc hDc trivial _) rfl rfl hl.1 rfl (lv_room (Nat.le_of_ble_eq_true rfl)) dX10_newPerson_50 ⟨Nat.le_of_ble_eq_true rfl, Nat.le_of_ble_eq_true rfl⟩) hP hD hS hA [0] [] [0] rfl rfl (by decide) (by decide) rfl (by decide) rfl (by decide) (fun H locs hP hD hS hE50 hz50 hf50 => ?_)
    clear hPc hDc hE50 hz50 hf50
    exact W.aret hx hb hr (Or.inl ⟨_, rfl⟩) (Or.inr ⟨_, rfl⟩) (fun t9 ht9 _ => ⟨qn3, rfl, hA2 _ (hD.2 0 _ rfl), by rw [ht9]; exact (show psAt D H qn3 kq tqQ by rw [hc1]; exact hP 0 _ rfl), hS.F ht9⟩) hS.2.2 dX10_newPerson_53 hlocks
  · refine lv_tableIn (off := 53) (tgt := 54) hx hb dX10_newPerson_1 (by rw [hc1]; decide) (by rw [hc1]; decide) (by rw [hc1]; rfl) (by decide) ?_
    refine va_new (ci := 4) (fs := [.int (nI 0)]) (C := RX4) (T := TX4) (N := 1) hx hb hts iX4 tyX4 tyX4_ok hown (hts _ m_301) (hts _ m_302) (hts _ m_107) hK.1 hP hD hS hA rfl (fun jQ hj => by rcases (show jQ = 0 by omega) with rfl <;> rfl) (Nat.le_of_ble_eq_true rfl) (Nat.le_of_ble_eq_true rfl) dX10_newPerson_54 (fun qn4 H hP hD hS => ?_)
    have hP : va_P D vwCl [(qn4, .inr (4, [.int (nI 0)]))] H := hP
    have hD : va_D A [(qn4, .inr (4, [.int (nI 0)]))] := hD
    refine lv_dup hx hb dX10_newPerson_57 rfl ?_
    refine lv_iload_n hx hb dX10_newPerson_58 rfl (lv_at hl 1 rfl) ?_
    have hPc := hP.sub (ws' := [(qn4, .inr (4, [.int (nI 0)]))]) [0] rfl
    have hDc := hD.sub (ws' := [(qn4, .inr (4, [.int (nI 0)]))]) [0] (by decide) rfl
    refine nv_cm0 (wc := [(qn4, .inr (4, [.int (nI 0)]))]) (wr := []) (w1 := [(qn4, .inr (4, [.int (nI tqQ)]))]) (ws1 := [(qn4, .inr (4, [.int (nI tqQ)]))]) (va_runI (As := [.int (nI tqQ)]) (rest := [.ref qn4]) ⟨hx, hb, hml, hown, hts⟩ (c_X4_init_4 l D z H.size qn4 0 tqQ ) (cwI 1 hts (gC m_143) rfl rfl rfl (hts _ m_107) (hts _ m_313) (hts _ m_185) rfl hd_X4_init ⟨Nat.le_of_ble_eq_true rfl, Nat.le_of_ble_eq_true rfl⟩) (nv_preM hK hPc hDc trivial _) rfl rfl hl.1 rfl (lv_room (Nat.le_of_ble_eq_true rfl)) dX10_newPerson_59 ⟨Nat.le_of_ble_eq_true rfl, Nat.le_of_ble_eq_true rfl⟩) hP hD hS hA [0] [] [0] rfl rfl (by decide) (by decide) rfl (by decide) rfl (by decide) (fun H locs hP hD hS hE59 hz59 hf59 => ?_)
    clear hPc hDc hE59 hz59 hf59
    exact W.aret hx hb hr (Or.inl ⟨_, rfl⟩) (Or.inr ⟨_, rfl⟩) (fun t9 ht9 _ => ⟨qn4, rfl, hA2 _ (hD.2 0 _ rfl), by rw [ht9]; exact (show psAt D H qn4 kq tqQ by rw [hc1]; exact hP 0 _ rfl), hS.F ht9⟩) hS.2.2 dX10_newPerson_62 hlocks
  · refine lv_tableIn (off := 62) (tgt := 63) hx hb dX10_newPerson_1 (by rw [hc1]; decide) (by rw [hc1]; decide) (by rw [hc1]; rfl) (by decide) ?_
    refine va_new (ci := 8) (fs := [.int (nI 0)]) (C := RX8) (T := TX8) (N := 1) hx hb hts iX8 tyX8 tyX8_ok hown (hts _ m_303) (hts _ m_304) (hts _ m_90) hK.1 hP hD hS hA rfl (fun jQ hj => by rcases (show jQ = 0 by omega) with rfl <;> rfl) (Nat.le_of_ble_eq_true rfl) (Nat.le_of_ble_eq_true rfl) dX10_newPerson_63 (fun qn5 H hP hD hS => ?_)
    have hP : va_P D vwCl [(qn5, .inr (8, [.int (nI 0)]))] H := hP
    have hD : va_D A [(qn5, .inr (8, [.int (nI 0)]))] := hD
    refine lv_dup hx hb dX10_newPerson_66 rfl ?_
    refine lv_iload_n hx hb dX10_newPerson_67 rfl (lv_at hl 1 rfl) ?_
    have hPc := hP.sub (ws' := [(qn5, .inr (8, [.int (nI 0)]))]) [0] rfl
    have hDc := hD.sub (ws' := [(qn5, .inr (8, [.int (nI 0)]))]) [0] (by decide) rfl
    refine nv_cm0 (wc := [(qn5, .inr (8, [.int (nI 0)]))]) (wr := []) (w1 := [(qn5, .inr (8, [.int (nI tqQ)]))]) (ws1 := [(qn5, .inr (8, [.int (nI tqQ)]))]) (va_runI (As := [.int (nI tqQ)]) (rest := [.ref qn5]) ⟨hx, hb, hml, hown, hts⟩ (c_X8_init l D z H.size qn5 0 tqQ ) (cwI 1 hts (gC m_183) rfl rfl rfl (hts _ m_90) (hts _ m_314) (hts _ m_315) rfl hd_X8_init ⟨Nat.le_of_ble_eq_true rfl, Nat.le_of_ble_eq_true rfl⟩) (nv_preM hK hPc hDc trivial _) rfl rfl hl.1 rfl (lv_room (Nat.le_of_ble_eq_true rfl)) dX10_newPerson_68 ⟨Nat.le_of_ble_eq_true rfl, Nat.le_of_ble_eq_true rfl⟩) hP hD hS hA [0] [] [0] rfl rfl (by decide) (by decide) rfl (by decide) rfl (by decide) (fun H locs hP hD hS hE68 hz68 hf68 => ?_)
    clear hPc hDc hE68 hz68 hf68
    exact W.aret hx hb hr (Or.inl ⟨_, rfl⟩) (Or.inr ⟨_, rfl⟩) (fun t9 ht9 _ => ⟨qn5, rfl, hA2 _ (hD.2 0 _ rfl), by rw [ht9]; exact (show psAt D H qn5 kq tqQ by rw [hc1]; exact hP 0 _ rfl), hS.F ht9⟩) hS.2.2 dX10_newPerson_71 hlocks
  · refine lv_tableIn (off := 71) (tgt := 72) hx hb dX10_newPerson_1 (by rw [hc1]; decide) (by rw [hc1]; decide) (by rw [hc1]; rfl) (by decide) ?_
    refine va_new (ci := 1) (fs := [.int (nI 0)]) (C := RX1) (T := TX1) (N := 1) hx hb hts iX1 tyX1 tyX1_ok hown (hts _ m_305) (hts _ m_306) (hts _ m_61) hK.1 hP hD hS hA rfl (fun jQ hj => by rcases (show jQ = 0 by omega) with rfl <;> rfl) (Nat.le_of_ble_eq_true rfl) (Nat.le_of_ble_eq_true rfl) dX10_newPerson_72 (fun qn6 H hP hD hS => ?_)
    have hP : va_P D vwCl [(qn6, .inr (1, [.int (nI 0)]))] H := hP
    have hD : va_D A [(qn6, .inr (1, [.int (nI 0)]))] := hD
    refine lv_dup hx hb dX10_newPerson_75 rfl ?_
    refine lv_iload_n hx hb dX10_newPerson_76 rfl (lv_at hl 1 rfl) ?_
    have hPc := hP.sub (ws' := [(qn6, .inr (1, [.int (nI 0)]))]) [0] rfl
    have hDc := hD.sub (ws' := [(qn6, .inr (1, [.int (nI 0)]))]) [0] (by decide) rfl
    refine nv_cm0 (wc := [(qn6, .inr (1, [.int (nI 0)]))]) (wr := []) (w1 := [(qn6, .inr (1, [.int (nI tqQ)]))]) (ws1 := [(qn6, .inr (1, [.int (nI tqQ)]))]) (va_runI (As := [.int (nI tqQ)]) (rest := [.ref qn6]) ⟨hx, hb, hml, hown, hts⟩ (c_X1_init_1 l D z H.size qn6 0 tqQ ) (cwI 1 hts (gC m_22) rfl rfl rfl (hts _ m_61) (hts _ m_316) (hts _ m_317) rfl hd_X1_init ⟨Nat.le_of_ble_eq_true rfl, Nat.le_of_ble_eq_true rfl⟩) (nv_preM hK hPc hDc trivial _) rfl rfl hl.1 rfl (lv_room (Nat.le_of_ble_eq_true rfl)) dX10_newPerson_77 ⟨Nat.le_of_ble_eq_true rfl, Nat.le_of_ble_eq_true rfl⟩) hP hD hS hA [0] [] [0] rfl rfl (by decide) (by decide) rfl (by decide) rfl (by decide) (fun H locs hP hD hS hE77 hz77 hf77 => ?_)
    clear hPc hDc hE77 hz77 hf77
    exact W.aret hx hb hr (Or.inl ⟨_, rfl⟩) (Or.inr ⟨_, rfl⟩) (fun t9 ht9 _ => ⟨qn6, rfl, hA2 _ (hD.2 0 _ rfl), by rw [ht9]; exact (show psAt D H qn6 kq tqQ by rw [hc1]; exact hP 0 _ rfl), hS.F ht9⟩) hS.2.2 dX10_newPerson_80 hlocks

set_option maxHeartbeats 4000000 in
set_option maxRecDepth 100000 in
theorem c_X3_init (l : Launch) (D : va_G) (z : Nat → ClassId) (sz : Nat) (aQ : Nat)  : CG (σ := Nat × Nat) l yX3_init cX3_init 1 none 1 12 2 12 [.ref aQ] D z [(aQ, .inr (3, [.null, .null, .int (nI 0), .int (nI 0), .int (nI 0), .int (nI 0), .int (nI 0), .int (nI 0), .int (nI 0), .int (nI 0), .int (nI 0)]))] sz (fun u => [(aQ, .inr (3, [.ref u.1, .ref u.2, .int (nI 0), .int (nI 0), .int (nI 0), .int (nI 0), .int (nI 4000), .int (nI 20), .int (nI 3), .int (nI 0), .int (nI 1)])), aP z u.1 6 (fun _ => none), aN z u.2 6 (fun _ => 0)]) := by
  refine Met.ofW (cc := cX3_init) (maxL := 1) (ret := none) (by decide) rfl ?_
  intro pg e s m args below meth c s₁ B hml hv
  obtain ⟨rfl, hsz, hP, hK, hD0, hE⟩ := hv
  have hx := B.exec
  have hb := B.bytes
  have hr := B.returns
  have hts : ∀ w ∈ ALL, w.before _ s = true := fun w h => atoms_spec (ws := wA yX3_init cX3_init 1 none) B.pre w (List.mem_cons_of_mem _ h)
  have hown : s.vm.findClass RX3 = some m.cls := findClass_of_methodNamed B.named
  have hlocks := B.notSynchronized
  subst hsz
  have hD := hD0.self (sz := s.heap.size)
  have hin : meth.name = "<init>" := (name_of_methodNamed B.named B.method).1
  have hA : ∀ q : Nat, s.heap.size ≤ q → va_A [(aQ, .inr (3, [.null, .null, .int (nI 0), .int (nI 0), .int (nI 0), .int (nI 0), .int (nI 0), .int (nI 0), .int (nI 0), .int (nI 0), .int (nI 0)]))] s.heap.size q := fun q h => Or.inr h
  generalize va_A [(aQ, .inr (3, [.null, .null, .int (nI 0), .int (nI 0), .int (nI 0), .int (nI 0), .int (nI 0), .int (nI 0), .int (nI 0), .int (nI 0), .int (nI 0)]))] s.heap.size = A at *
  have hS : va_S A s.heap s.heap [] := va_S.rf
  have hl := lv_entry ([.ref aQ]) (n := 1) (Nat.le_of_ble_eq_true rfl)
  rw [lg_entry_eq]
  generalize (lg_sl ([.ref aQ]) ++ List.replicate (1 - (lg_sl ([.ref aQ])).length) Slot.unset).toArray = ls at hl ⊢
  have hl : lv_has ls 1 [(0, .ref aQ)] := hl
  refine lv_aload_n hx hb dX3_init_0 rfl (lv_at hl 0 rfl) ?_
  refine W.objInit hx hb hown (hts _ m_37) (hts _ m_2) (hts _ m_3) rfl (by rw [hml]; exact hl.1) rfl dX3_init_1 (Nat.le_of_ble_eq_true rfl) (Nat.le_of_ble_eq_true rfl) ?_
  refine W.eq (g2 := F0 m 4 ls []) rfl ?_
  refine lv_aload_n hx hb dX3_init_4 rfl (lv_at hl 0 rfl) ?_
  refine lv_bipush (v := nI 6) hx hb dX3_init_5 (by decide +kernel) ?_
  refine nv_newP (N := 6) hx hb hown (hts _ m_38) hK hP hD hS hA (by decide) (Nat.le_of_ble_eq_true rfl) (Nat.le_of_ble_eq_true rfl) dX3_init_7 (fun qn1 H hP hD hS => ?_)
  have hP : va_P D vwCl [(aQ, .inr (3, [.null, .null, .int (nI 0), .int (nI 0), .int (nI 0), .int (nI 0), .int (nI 0), .int (nI 0), .int (nI 0), .int (nI 0), .int (nI 0)])), aP z qn1 6 (fun _ => none)] H := hP
  have hD : va_D A [(aQ, .inr (3, [.null, .null, .int (nI 0), .int (nI 0), .int (nI 0), .int (nI 0), .int (nI 0), .int (nI 0), .int (nI 0), .int (nI 0), .int (nI 0)])), aP z qn1 6 (fun _ => none)] := hD
  refine va_putF (D := D) (ci := 3) (v := .ref qn1) (ty := tyX3 0) (C := RX3) (T := TX3) (N := 11) hx hb hts iX3 tyX3 tyX3_ok nmX3 hown hK.1 hP hD hS 0 rfl rfl 0 (by decide) (hts _ m_39) (fun _ h9 => h9) rfl hin rfl (tyX3_ok 0 (by decide)) rfl rfl (Nat.le_of_ble_eq_true rfl) dX3_init_10 (fun H locs hP hD hS => ?_)
  have hP : va_P D vwCl [(aQ, .inr (3, [.ref qn1, .null, .int (nI 0), .int (nI 0), .int (nI 0), .int (nI 0), .int (nI 0), .int (nI 0), .int (nI 0), .int (nI 0), .int (nI 0)])), aP z qn1 6 (fun _ => none)] H := hP
  have hD : va_D A [(aQ, .inr (3, [.ref qn1, .null, .int (nI 0), .int (nI 0), .int (nI 0), .int (nI 0), .int (nI 0), .int (nI 0), .int (nI 0), .int (nI 0), .int (nI 0)])), aP z qn1 6 (fun _ => none)] := hD
  refine lv_aload_n hx hb dX3_init_13 rfl (lv_at hl 0 rfl) ?_
  refine lv_bipush (v := nI 6) hx hb dX3_init_14 (by decide +kernel) ?_
  refine nv_newN (N := 6) hx hb (hts _ m_40) hK hP hD hS hA (by decide) (Nat.le_of_ble_eq_true rfl) (Nat.le_of_ble_eq_true rfl) dX3_init_16 (fun qn2 H hP hD hS => ?_)
  have hP : va_P D vwCl [(aQ, .inr (3, [.ref qn1, .null, .int (nI 0), .int (nI 0), .int (nI 0), .int (nI 0), .int (nI 0), .int (nI 0), .int (nI 0), .int (nI 0), .int (nI 0)])), aP z qn1 6 (fun _ => none), aN z qn2 6 (fun _ => 0)] H := hP
  have hD : va_D A [(aQ, .inr (3, [.ref qn1, .null, .int (nI 0), .int (nI 0), .int (nI 0), .int (nI 0), .int (nI 0), .int (nI 0), .int (nI 0), .int (nI 0), .int (nI 0)])), aP z qn1 6 (fun _ => none), aN z qn2 6 (fun _ => 0)] := hD
  refine va_putF (D := D) (ci := 3) (v := .ref qn2) (ty := tyX3 1) (C := RX3) (T := TX3) (N := 11) hx hb hts iX3 tyX3 tyX3_ok nmX3 hown hK.1 hP hD hS 0 rfl rfl 1 (by decide) (hts _ m_41) (fun _ h9 => h9) rfl hin rfl (tyX3_ok 1 (by decide)) rfl rfl (Nat.le_of_ble_eq_true rfl) dX3_init_18 (fun H locs hP hD hS => ?_)
  have hP : va_P D vwCl [(aQ, .inr (3, [.ref qn1, .ref qn2, .int (nI 0), .int (nI 0), .int (nI 0), .int (nI 0), .int (nI 0), .int (nI 0), .int (nI 0), .int (nI 0), .int (nI 0)])), aP z qn1 6 (fun _ => none), aN z qn2 6 (fun _ => 0)] H := hP
  have hD : va_D A [(aQ, .inr (3, [.ref qn1, .ref qn2, .int (nI 0), .int (nI 0), .int (nI 0), .int (nI 0), .int (nI 0), .int (nI 0), .int (nI 0), .int (nI 0), .int (nI 0)])), aP z qn1 6 (fun _ => none), aN z qn2 6 (fun _ => 0)] := hD
  refine lv_aload_n hx hb dX3_init_21 rfl (lv_at hl 0 rfl) ?_
  refine lv_iconst (v := nI 0) hx hb dX3_init_22 (by decide +kernel) ?_
  refine va_put (D := D) (ci := 3) (v := .int (nI 0)) (ty := tyX3 2) (C := RX3) (T := TX3) (N := 11) hx hb hts iX3 tyX3 tyX3_ok nmX3 hown hK.1 hP hD hS 0 rfl rfl 2 (by decide) (hts _ m_42) (fun _ h9 => h9) rfl (tyX3_ok 2 (by decide)) rfl rfl (Nat.le_of_ble_eq_true rfl) dX3_init_23 (fun H locs hP hD hS => ?_)
  have hP : va_P D vwCl [(aQ, .inr (3, [.ref qn1, .ref qn2, .int (nI 0), .int (nI 0), .int (nI 0), .int (nI 0), .int (nI 0), .int (nI 0), .int (nI 0), .int (nI 0), .int (nI 0)])), aP z qn1 6 (fun _ => none), aN z qn2 6 (fun _ => 0)] H := hP
  have hD : va_D A [(aQ, .inr (3, [.ref qn1, .ref qn2, .int (nI 0), .int (nI 0), .int (nI 0), .int (nI 0), .int (nI 0), .int (nI 0), .int (nI 0), .int (nI 0), .int (nI 0)])), aP z qn1 6 (fun _ => none), aN z qn2 6 (fun _ => 0)] := hD
  refine lv_aload_n hx hb dX3_init_26 rfl (lv_at hl 0 rfl) ?_
  refine lv_iconst (v := nI 0) hx hb dX3_init_27 (by decide +kernel) ?_
  refine va_put (D := D) (ci := 3) (v := .int (nI 0)) (ty := tyX3 3) (C := RX3) (T := TX3) (N := 11) hx hb hts iX3 tyX3 tyX3_ok nmX3 hown hK.1 hP hD hS 0 rfl rfl 3 (by decide) (hts _ m_43) (fun _ h9 => h9) rfl (tyX3_ok 3 (by decide)) rfl rfl (Nat.le_of_ble_eq_true rfl) dX3_init_28 (fun H locs hP hD hS => ?_)
  have hP : va_P D vwCl [(aQ, .inr (3, [.ref qn1, .ref qn2, .int (nI 0), .int (nI 0), .int (nI 0), .int (nI 0), .int (nI 0), .int (nI 0), .int (nI 0), .int (nI 0), .int (nI 0)])), aP z qn1 6 (fun _ => none), aN z qn2 6 (fun _ => 0)] H := hP
  have hD : va_D A [(aQ, .inr (3, [.ref qn1, .ref qn2, .int (nI 0), .int (nI 0), .int (nI 0), .int (nI 0), .int (nI 0), .int (nI 0), .int (nI 0), .int (nI 0), .int (nI 0)])), aP z qn1 6 (fun _ => none), aN z qn2 6 (fun _ => 0)] := hD
  refine lv_aload_n hx hb dX3_init_31 rfl (lv_at hl 0 rfl) ?_
  refine lv_iconst (v := nI 0) hx hb dX3_init_32 (by decide +kernel) ?_
  refine va_put (D := D) (ci := 3) (v := .int (nI 0)) (ty := tyX3 4) (C := RX3) (T := TX3) (N := 11) hx hb hts iX3 tyX3 tyX3_ok nmX3 hown hK.1 hP hD hS 0 rfl rfl 4 (by decide) (hts _ m_44) (fun _ h9 => h9) rfl (tyX3_ok 4 (by decide)) rfl rfl (Nat.le_of_ble_eq_true rfl) dX3_init_33 (fun H locs hP hD hS => ?_)
  have hP : va_P D vwCl [(aQ, .inr (3, [.ref qn1, .ref qn2, .int (nI 0), .int (nI 0), .int (nI 0), .int (nI 0), .int (nI 0), .int (nI 0), .int (nI 0), .int (nI 0), .int (nI 0)])), aP z qn1 6 (fun _ => none), aN z qn2 6 (fun _ => 0)] H := hP
  have hD : va_D A [(aQ, .inr (3, [.ref qn1, .ref qn2, .int (nI 0), .int (nI 0), .int (nI 0), .int (nI 0), .int (nI 0), .int (nI 0), .int (nI 0), .int (nI 0), .int (nI 0)])), aP z qn1 6 (fun _ => none), aN z qn2 6 (fun _ => 0)] := hD
  refine lv_aload_n hx hb dX3_init_36 rfl (lv_at hl 0 rfl) ?_
  refine lv_iconst (v := nI 0) hx hb dX3_init_37 (by decide +kernel) ?_
  refine va_put (D := D) (ci := 3) (v := .int (nI 0)) (ty := tyX3 5) (C := RX3) (T := TX3) (N := 11) hx hb hts iX3 tyX3 tyX3_ok nmX3 hown hK.1 hP hD hS 0 rfl rfl 5 (by decide) (hts _ m_45) (fun _ h9 => h9) rfl (tyX3_ok 5 (by decide)) rfl rfl (Nat.le_of_ble_eq_true rfl) dX3_init_38 (fun H locs hP hD hS => ?_)
  have hP : va_P D vwCl [(aQ, .inr (3, [.ref qn1, .ref qn2, .int (nI 0), .int (nI 0), .int (nI 0), .int (nI 0), .int (nI 0), .int (nI 0), .int (nI 0), .int (nI 0), .int (nI 0)])), aP z qn1 6 (fun _ => none), aN z qn2 6 (fun _ => 0)] H := hP
  have hD : va_D A [(aQ, .inr (3, [.ref qn1, .ref qn2, .int (nI 0), .int (nI 0), .int (nI 0), .int (nI 0), .int (nI 0), .int (nI 0), .int (nI 0), .int (nI 0), .int (nI 0)])), aP z qn1 6 (fun _ => none), aN z qn2 6 (fun _ => 0)] := hD
  refine lv_aload_n hx hb dX3_init_41 rfl (lv_at hl 0 rfl) ?_
  refine lv_sipush (v := nI 4000) hx hb dX3_init_42 (by decide +kernel) ?_
  refine va_put (D := D) (ci := 3) (v := .int (nI 4000)) (ty := tyX3 6) (C := RX3) (T := TX3) (N := 11) hx hb hts iX3 tyX3 tyX3_ok nmX3 hown hK.1 hP hD hS 0 rfl rfl 6 (by decide) (hts _ m_46) (fun _ h9 => h9) rfl (tyX3_ok 6 (by decide)) rfl rfl (Nat.le_of_ble_eq_true rfl) dX3_init_45 (fun H locs hP hD hS => ?_)
  have hP : va_P D vwCl [(aQ, .inr (3, [.ref qn1, .ref qn2, .int (nI 0), .int (nI 0), .int (nI 0), .int (nI 0), .int (nI 4000), .int (nI 0), .int (nI 0), .int (nI 0), .int (nI 0)])), aP z qn1 6 (fun _ => none), aN z qn2 6 (fun _ => 0)] H := hP
  have hD : va_D A [(aQ, .inr (3, [.ref qn1, .ref qn2, .int (nI 0), .int (nI 0), .int (nI 0), .int (nI 0), .int (nI 4000), .int (nI 0), .int (nI 0), .int (nI 0), .int (nI 0)])), aP z qn1 6 (fun _ => none), aN z qn2 6 (fun _ => 0)] := hD
  refine lv_aload_n hx hb dX3_init_48 rfl (lv_at hl 0 rfl) ?_
  refine lv_bipush (v := nI 20) hx hb dX3_init_49 (by decide +kernel) ?_
  refine va_put (D := D) (ci := 3) (v := .int (nI 20)) (ty := tyX3 7) (C := RX3) (T := TX3) (N := 11) hx hb hts iX3 tyX3 tyX3_ok nmX3 hown hK.1 hP hD hS 0 rfl rfl 7 (by decide) (hts _ m_47) (fun _ h9 => h9) rfl (tyX3_ok 7 (by decide)) rfl rfl (Nat.le_of_ble_eq_true rfl) dX3_init_51 (fun H locs hP hD hS => ?_)
  have hP : va_P D vwCl [(aQ, .inr (3, [.ref qn1, .ref qn2, .int (nI 0), .int (nI 0), .int (nI 0), .int (nI 0), .int (nI 4000), .int (nI 20), .int (nI 0), .int (nI 0), .int (nI 0)])), aP z qn1 6 (fun _ => none), aN z qn2 6 (fun _ => 0)] H := hP
  have hD : va_D A [(aQ, .inr (3, [.ref qn1, .ref qn2, .int (nI 0), .int (nI 0), .int (nI 0), .int (nI 0), .int (nI 4000), .int (nI 20), .int (nI 0), .int (nI 0), .int (nI 0)])), aP z qn1 6 (fun _ => none), aN z qn2 6 (fun _ => 0)] := hD
  refine lv_aload_n hx hb dX3_init_54 rfl (lv_at hl 0 rfl) ?_
  refine lv_iconst (v := nI 3) hx hb dX3_init_55 (by decide +kernel) ?_
  refine va_put (D := D) (ci := 3) (v := .int (nI 3)) (ty := tyX3 8) (C := RX3) (T := TX3) (N := 11) hx hb hts iX3 tyX3 tyX3_ok nmX3 hown hK.1 hP hD hS 0 rfl rfl 8 (by decide) (hts _ m_48) (fun _ h9 => h9) rfl (tyX3_ok 8 (by decide)) rfl rfl (Nat.le_of_ble_eq_true rfl) dX3_init_56 (fun H locs hP hD hS => ?_)
  have hP : va_P D vwCl [(aQ, .inr (3, [.ref qn1, .ref qn2, .int (nI 0), .int (nI 0), .int (nI 0), .int (nI 0), .int (nI 4000), .int (nI 20), .int (nI 3), .int (nI 0), .int (nI 0)])), aP z qn1 6 (fun _ => none), aN z qn2 6 (fun _ => 0)] H := hP
  have hD : va_D A [(aQ, .inr (3, [.ref qn1, .ref qn2, .int (nI 0), .int (nI 0), .int (nI 0), .int (nI 0), .int (nI 4000), .int (nI 20), .int (nI 3), .int (nI 0), .int (nI 0)])), aP z qn1 6 (fun _ => none), aN z qn2 6 (fun _ => 0)] := hD
  refine lv_aload_n hx hb dX3_init_59 rfl (lv_at hl 0 rfl) ?_
  refine lv_iconst (v := nI 0) hx hb dX3_init_60 (by decide +kernel) ?_
  refine va_put (D := D) (ci := 3) (v := .int (nI 0)) (ty := tyX3 9) (C := RX3) (T := TX3) (N := 11) hx hb hts iX3 tyX3 tyX3_ok nmX3 hown hK.1 hP hD hS 0 rfl rfl 9 (by decide) (hts _ m_49) (fun _ h9 => h9) rfl (tyX3_ok 9 (by decide)) rfl rfl (Nat.le_of_ble_eq_true rfl) dX3_init_61 (fun H locs hP hD hS => ?_)
  have hP : va_P D vwCl [(aQ, .inr (3, [.ref qn1, .ref qn2, .int (nI 0), .int (nI 0), .int (nI 0), .int (nI 0), .int (nI 4000), .int (nI 20), .int (nI 3), .int (nI 0), .int (nI 0)])), aP z qn1 6 (fun _ => none), aN z qn2 6 (fun _ => 0)] H := hP
  have hD : va_D A [(aQ, .inr (3, [.ref qn1, .ref qn2, .int (nI 0), .int (nI 0), .int (nI 0), .int (nI 0), .int (nI 4000), .int (nI 20), .int (nI 3), .int (nI 0), .int (nI 0)])), aP z qn1 6 (fun _ => none), aN z qn2 6 (fun _ => 0)] := hD
  refine lv_aload_n hx hb dX3_init_64 rfl (lv_at hl 0 rfl) ?_
  refine lv_iconst (v := nI 1) hx hb dX3_init_65 (by decide +kernel) ?_
  refine va_put (D := D) (ci := 3) (v := .int (nI 1)) (ty := tyX3 10) (C := RX3) (T := TX3) (N := 11) hx hb hts iX3 tyX3 tyX3_ok nmX3 hown hK.1 hP hD hS 0 rfl rfl 10 (by decide) (hts _ m_50) (fun _ h9 => h9) rfl (tyX3_ok 10 (by decide)) rfl rfl (Nat.le_of_ble_eq_true rfl) dX3_init_66 (fun H locs hP hD hS => ?_)
  have hP : va_P D vwCl [(aQ, .inr (3, [.ref qn1, .ref qn2, .int (nI 0), .int (nI 0), .int (nI 0), .int (nI 0), .int (nI 4000), .int (nI 20), .int (nI 3), .int (nI 0), .int (nI 1)])), aP z qn1 6 (fun _ => none), aN z qn2 6 (fun _ => 0)] H := hP
  have hD : va_D A [(aQ, .inr (3, [.ref qn1, .ref qn2, .int (nI 0), .int (nI 0), .int (nI 0), .int (nI 0), .int (nI 4000), .int (nI 20), .int (nI 3), .int (nI 0), .int (nI 1)])), aP z qn1 6 (fun _ => none), aN z qn2 6 (fun _ => 0)] := hD
  exact W.vret hx hb hr (fun t9 ht9 _ => ⟨rfl, ⟨(qn1, qn2), by rw [ht9]; exact hP, hD⟩, hS.F ht9⟩) hS.2.2 dX3_init_69 hlocks

set_option maxHeartbeats 4000000 in
set_option maxRecDepth 100000 in
theorem c_X5_init (l : Launch) (D : va_G) (z : Nat → ClassId) (sz : Nat) (aQ : Nat)  : CG (σ := Nat × Nat × Nat × Nat) l yX5_init cX5_init 1 none 1 12 4 72 [.ref aQ] D z [(aQ, .inr (5, [.null, .null, .null, .null, .int (nI 0), .int (nI 0)]))] sz (fun u => [(aQ, .inr (5, [.ref u.1, .ref u.2.1, .ref u.2.2.1, .ref u.2.2.2, .int (nI 0), .int (nI 0)])), aN z u.1 8 (fun _ => 0), aN z u.2.1 8 (fun _ => 0), aN z u.2.2.1 8 (fun _ => 0), aN z u.2.2.2 48 (fun _ => 0)]) := by
  refine Met.ofW (cc := cX5_init) (maxL := 1) (ret := none) (by decide) rfl ?_
  intro pg e s m args below meth c s₁ B hml hv
  obtain ⟨rfl, hsz, hP, hK, hD0, hE⟩ := hv
  have hx := B.exec
  have hb := B.bytes
  have hr := B.returns
  have hts : ∀ w ∈ ALL, w.before _ s = true := fun w h => atoms_spec (ws := wA yX5_init cX5_init 1 none) B.pre w (List.mem_cons_of_mem _ h)
  have hown : s.vm.findClass RX5 = some m.cls := findClass_of_methodNamed B.named
  have hlocks := B.notSynchronized
  subst hsz
  have hD := hD0.self (sz := s.heap.size)
  have hin : meth.name = "<init>" := (name_of_methodNamed B.named B.method).1
  have hA : ∀ q : Nat, s.heap.size ≤ q → va_A [(aQ, .inr (5, [.null, .null, .null, .null, .int (nI 0), .int (nI 0)]))] s.heap.size q := fun q h => Or.inr h
  generalize va_A [(aQ, .inr (5, [.null, .null, .null, .null, .int (nI 0), .int (nI 0)]))] s.heap.size = A at *
  have hS : va_S A s.heap s.heap [] := va_S.rf
  have hl := lv_entry ([.ref aQ]) (n := 1) (Nat.le_of_ble_eq_true rfl)
  rw [lg_entry_eq]
  generalize (lg_sl ([.ref aQ]) ++ List.replicate (1 - (lg_sl ([.ref aQ])).length) Slot.unset).toArray = ls at hl ⊢
  have hl : lv_has ls 1 [(0, .ref aQ)] := hl
  refine lv_aload_n hx hb dX5_init_0 rfl (lv_at hl 0 rfl) ?_
  refine W.objInit hx hb hown (hts _ m_147) (hts _ m_2) (hts _ m_3) rfl (by rw [hml]; exact hl.1) rfl dX5_init_1 (Nat.le_of_ble_eq_true rfl) (Nat.le_of_ble_eq_true rfl) ?_
  refine W.eq (g2 := F0 m 4 ls []) rfl ?_
  refine lv_aload_n hx hb dX5_init_4 rfl (lv_at hl 0 rfl) ?_
  refine lv_bipush (v := nI 8) hx hb dX5_init_5 (by decide +kernel) ?_
  refine nv_newN (N := 8) hx hb (hts _ m_40) hK hP hD hS hA (by decide) (Nat.le_of_ble_eq_true rfl) (Nat.le_of_ble_eq_true rfl) dX5_init_7 (fun qn1 H hP hD hS => ?_)
  have hP : va_P D vwCl [(aQ, .inr (5, [.null, .null, .null, .null, .int (nI 0), .int (nI 0)])), aN z qn1 8 (fun _ => 0)] H := hP
  have hD : va_D A [(aQ, .inr (5, [.null, .null, .null, .null, .int (nI 0), .int (nI 0)])), aN z qn1 8 (fun _ => 0)] := hD
  refine va_putF (D := D) (ci := 5) (v := .ref qn1) (ty := tyX5 0) (C := RX5) (T := TX5) (N := 6) hx hb hts iX5 tyX5 tyX5_ok nmX5 hown hK.1 hP hD hS 0 rfl rfl 0 (by decide) (hts _ m_148) (fun _ h9 => h9) rfl hin rfl (tyX5_ok 0 (by decide)) rfl rfl (Nat.le_of_ble_eq_true rfl) dX5_init_9 (fun H locs hP hD hS => ?_)
  have hP : va_P D vwCl [(aQ, .inr (5, [.ref qn1, .null, .null, .null, .int (nI 0), .int (nI 0)])), aN z qn1 8 (fun _ => 0)] H := hP
  have hD : va_D A [(aQ, .inr (5, [.ref qn1, .null, .null, .null, .int (nI 0), .int (nI 0)])), aN z qn1 8 (fun _ => 0)] := hD
  refine lv_aload_n hx hb dX5_init_12 rfl (lv_at hl 0 rfl) ?_
  refine lv_bipush (v := nI 8) hx hb dX5_init_13 (by decide +kernel) ?_
  refine nv_newN (N := 8) hx hb (hts _ m_40) hK hP hD hS hA (by decide) (Nat.le_of_ble_eq_true rfl) (Nat.le_of_ble_eq_true rfl) dX5_init_15 (fun qn2 H hP hD hS => ?_)
  have hP : va_P D vwCl [(aQ, .inr (5, [.ref qn1, .null, .null, .null, .int (nI 0), .int (nI 0)])), aN z qn1 8 (fun _ => 0), aN z qn2 8 (fun _ => 0)] H := hP
  have hD : va_D A [(aQ, .inr (5, [.ref qn1, .null, .null, .null, .int (nI 0), .int (nI 0)])), aN z qn1 8 (fun _ => 0), aN z qn2 8 (fun _ => 0)] := hD
  refine va_putF (D := D) (ci := 5) (v := .ref qn2) (ty := tyX5 1) (C := RX5) (T := TX5) (N := 6) hx hb hts iX5 tyX5 tyX5_ok nmX5 hown hK.1 hP hD hS 0 rfl rfl 1 (by decide) (hts _ m_149) (fun _ h9 => h9) rfl hin rfl (tyX5_ok 1 (by decide)) rfl rfl (Nat.le_of_ble_eq_true rfl) dX5_init_17 (fun H locs hP hD hS => ?_)
  have hP : va_P D vwCl [(aQ, .inr (5, [.ref qn1, .ref qn2, .null, .null, .int (nI 0), .int (nI 0)])), aN z qn1 8 (fun _ => 0), aN z qn2 8 (fun _ => 0)] H := hP
  have hD : va_D A [(aQ, .inr (5, [.ref qn1, .ref qn2, .null, .null, .int (nI 0), .int (nI 0)])), aN z qn1 8 (fun _ => 0), aN z qn2 8 (fun _ => 0)] := hD
  refine lv_aload_n hx hb dX5_init_20 rfl (lv_at hl 0 rfl) ?_
  refine lv_bipush (v := nI 8) hx hb dX5_init_21 (by decide +kernel) ?_
  refine nv_newN (N := 8) hx hb (hts _ m_40) hK hP hD hS hA (by decide) (Nat.le_of_ble_eq_true rfl) (Nat.le_of_ble_eq_true rfl) dX5_init_23 (fun qn3 H hP hD hS => ?_)
  have hP : va_P D vwCl [(aQ, .inr (5, [.ref qn1, .ref qn2, .null, .null, .int (nI 0), .int (nI 0)])), aN z qn1 8 (fun _ => 0), aN z qn2 8 (fun _ => 0), aN z qn3 8 (fun _ => 0)] H := hP
  have hD : va_D A [(aQ, .inr (5, [.ref qn1, .ref qn2, .null, .null, .int (nI 0), .int (nI 0)])), aN z qn1 8 (fun _ => 0), aN z qn2 8 (fun _ => 0), aN z qn3 8 (fun _ => 0)] := hD
  refine va_putF (D := D) (ci := 5) (v := .ref qn3) (ty := tyX5 2) (C := RX5) (T := TX5) (N := 6) hx hb hts iX5 tyX5 tyX5_ok nmX5 hown hK.1 hP hD hS 0 rfl rfl 2 (by decide) (hts _ m_150) (fun _ h9 => h9) rfl hin rfl (tyX5_ok 2 (by decide)) rfl rfl (Nat.le_of_ble_eq_true rfl) dX5_init_25 (fun H locs hP hD hS => ?_)
  have hP : va_P D vwCl [(aQ, .inr (5, [.ref qn1, .ref qn2, .ref qn3, .null, .int (nI 0), .int (nI 0)])), aN z qn1 8 (fun _ => 0), aN z qn2 8 (fun _ => 0), aN z qn3 8 (fun _ => 0)] H := hP
  have hD : va_D A [(aQ, .inr (5, [.ref qn1, .ref qn2, .ref qn3, .null, .int (nI 0), .int (nI 0)])), aN z qn1 8 (fun _ => 0), aN z qn2 8 (fun _ => 0), aN z qn3 8 (fun _ => 0)] := hD
  refine lv_aload_n hx hb dX5_init_28 rfl (lv_at hl 0 rfl) ?_
  refine lv_bipush (v := nI 48) hx hb dX5_init_29 (by decide +kernel) ?_
  refine nv_newN (N := 48) hx hb (hts _ m_40) hK hP hD hS hA (by decide) (Nat.le_of_ble_eq_true rfl) (Nat.le_of_ble_eq_true rfl) dX5_init_31 (fun qn4 H hP hD hS => ?_)
  have hP : va_P D vwCl [(aQ, .inr (5, [.ref qn1, .ref qn2, .ref qn3, .null, .int (nI 0), .int (nI 0)])), aN z qn1 8 (fun _ => 0), aN z qn2 8 (fun _ => 0), aN z qn3 8 (fun _ => 0), aN z qn4 48 (fun _ => 0)] H := hP
  have hD : va_D A [(aQ, .inr (5, [.ref qn1, .ref qn2, .ref qn3, .null, .int (nI 0), .int (nI 0)])), aN z qn1 8 (fun _ => 0), aN z qn2 8 (fun _ => 0), aN z qn3 8 (fun _ => 0), aN z qn4 48 (fun _ => 0)] := hD
  refine va_putF (D := D) (ci := 5) (v := .ref qn4) (ty := tyX5 3) (C := RX5) (T := TX5) (N := 6) hx hb hts iX5 tyX5 tyX5_ok nmX5 hown hK.1 hP hD hS 0 rfl rfl 3 (by decide) (hts _ m_151) (fun _ h9 => h9) rfl hin rfl (tyX5_ok 3 (by decide)) rfl rfl (Nat.le_of_ble_eq_true rfl) dX5_init_33 (fun H locs hP hD hS => ?_)
  have hP : va_P D vwCl [(aQ, .inr (5, [.ref qn1, .ref qn2, .ref qn3, .ref qn4, .int (nI 0), .int (nI 0)])), aN z qn1 8 (fun _ => 0), aN z qn2 8 (fun _ => 0), aN z qn3 8 (fun _ => 0), aN z qn4 48 (fun _ => 0)] H := hP
  have hD : va_D A [(aQ, .inr (5, [.ref qn1, .ref qn2, .ref qn3, .ref qn4, .int (nI 0), .int (nI 0)])), aN z qn1 8 (fun _ => 0), aN z qn2 8 (fun _ => 0), aN z qn3 8 (fun _ => 0), aN z qn4 48 (fun _ => 0)] := hD
  refine lv_aload_n hx hb dX5_init_36 rfl (lv_at hl 0 rfl) ?_
  refine lv_iconst (v := nI 0) hx hb dX5_init_37 (by decide +kernel) ?_
  refine va_put (D := D) (ci := 5) (v := .int (nI 0)) (ty := tyX5 4) (C := RX5) (T := TX5) (N := 6) hx hb hts iX5 tyX5 tyX5_ok nmX5 hown hK.1 hP hD hS 0 rfl rfl 4 (by decide) (hts _ m_152) (fun _ h9 => h9) rfl (tyX5_ok 4 (by decide)) rfl rfl (Nat.le_of_ble_eq_true rfl) dX5_init_38 (fun H locs hP hD hS => ?_)
  have hP : va_P D vwCl [(aQ, .inr (5, [.ref qn1, .ref qn2, .ref qn3, .ref qn4, .int (nI 0), .int (nI 0)])), aN z qn1 8 (fun _ => 0), aN z qn2 8 (fun _ => 0), aN z qn3 8 (fun _ => 0), aN z qn4 48 (fun _ => 0)] H := hP
  have hD : va_D A [(aQ, .inr (5, [.ref qn1, .ref qn2, .ref qn3, .ref qn4, .int (nI 0), .int (nI 0)])), aN z qn1 8 (fun _ => 0), aN z qn2 8 (fun _ => 0), aN z qn3 8 (fun _ => 0), aN z qn4 48 (fun _ => 0)] := hD
  refine lv_aload_n hx hb dX5_init_41 rfl (lv_at hl 0 rfl) ?_
  refine lv_iconst (v := nI 0) hx hb dX5_init_42 (by decide +kernel) ?_
  refine va_put (D := D) (ci := 5) (v := .int (nI 0)) (ty := tyX5 5) (C := RX5) (T := TX5) (N := 6) hx hb hts iX5 tyX5 tyX5_ok nmX5 hown hK.1 hP hD hS 0 rfl rfl 5 (by decide) (hts _ m_153) (fun _ h9 => h9) rfl (tyX5_ok 5 (by decide)) rfl rfl (Nat.le_of_ble_eq_true rfl) dX5_init_43 (fun H locs hP hD hS => ?_)
  have hP : va_P D vwCl [(aQ, .inr (5, [.ref qn1, .ref qn2, .ref qn3, .ref qn4, .int (nI 0), .int (nI 0)])), aN z qn1 8 (fun _ => 0), aN z qn2 8 (fun _ => 0), aN z qn3 8 (fun _ => 0), aN z qn4 48 (fun _ => 0)] H := hP
  have hD : va_D A [(aQ, .inr (5, [.ref qn1, .ref qn2, .ref qn3, .ref qn4, .int (nI 0), .int (nI 0)])), aN z qn1 8 (fun _ => 0), aN z qn2 8 (fun _ => 0), aN z qn3 8 (fun _ => 0), aN z qn4 48 (fun _ => 0)] := hD
  exact W.vret hx hb hr (fun t9 ht9 _ => ⟨rfl, ⟨(qn1, qn2, qn3, qn4), by rw [ht9]; exact hP, hD⟩, hS.F ht9⟩) hS.2.2 dX5_init_46 hlocks

set_option maxHeartbeats 4000000 in
set_option maxRecDepth 100000 in
theorem c_X7_init (l : Launch) (D : va_G) (z : Nat → ClassId) (sz : Nat) (aQ : Nat)  : CG (σ := Nat) l yX7_init cX7_init 1 none 1 12 1 24 [.ref aQ] D z [(aQ, .inr (7, [.null, .int (nI 0), .int (nI 0), .int (nI 0)]))] sz (fun u => [(aQ, .inr (7, [.ref u, .int (nI 0), .int (nI 0), .int (nI 0)])), aL z u 24 (fun _ => 0)]) := by
  refine Met.ofW (cc := cX7_init) (maxL := 1) (ret := none) (by decide) rfl ?_
  intro pg e s m args below meth c s₁ B hml hv
  obtain ⟨rfl, hsz, hP, hK, hD0, hE⟩ := hv
  have hx := B.exec
  have hb := B.bytes
  have hr := B.returns
  have hts : ∀ w ∈ ALL, w.before _ s = true := fun w h => atoms_spec (ws := wA yX7_init cX7_init 1 none) B.pre w (List.mem_cons_of_mem _ h)
  have hown : s.vm.findClass RX7 = some m.cls := findClass_of_methodNamed B.named
  have hlocks := B.notSynchronized
  subst hsz
  have hD := hD0.self (sz := s.heap.size)
  have hin : meth.name = "<init>" := (name_of_methodNamed B.named B.method).1
  have hA : ∀ q : Nat, s.heap.size ≤ q → va_A [(aQ, .inr (7, [.null, .int (nI 0), .int (nI 0), .int (nI 0)]))] s.heap.size q := fun q h => Or.inr h
  generalize va_A [(aQ, .inr (7, [.null, .int (nI 0), .int (nI 0), .int (nI 0)]))] s.heap.size = A at *
  have hS : va_S A s.heap s.heap [] := va_S.rf
  have hl := lv_entry ([.ref aQ]) (n := 1) (Nat.le_of_ble_eq_true rfl)
  rw [lg_entry_eq]
  generalize (lg_sl ([.ref aQ]) ++ List.replicate (1 - (lg_sl ([.ref aQ])).length) Slot.unset).toArray = ls at hl ⊢
  have hl : lv_has ls 1 [(0, .ref aQ)] := hl
  refine lv_aload_n hx hb dX7_init_0 rfl (lv_at hl 0 rfl) ?_
  refine W.objInit hx hb hown (hts _ m_169) (hts _ m_2) (hts _ m_3) rfl (by rw [hml]; exact hl.1) rfl dX7_init_1 (Nat.le_of_ble_eq_true rfl) (Nat.le_of_ble_eq_true rfl) ?_
  refine W.eq (g2 := F0 m 4 ls []) rfl ?_
  refine lv_aload_n hx hb dX7_init_4 rfl (lv_at hl 0 rfl) ?_
  refine lv_bipush (v := nI 24) hx hb dX7_init_5 (by decide +kernel) ?_
  refine nv_newL (N := 24) hx hb (hts _ m_170) hK hP hD hS hA (by decide) (Nat.le_of_ble_eq_true rfl) (Nat.le_of_ble_eq_true rfl) dX7_init_7 (fun qn1 H hP hD hS => ?_)
  have hP : va_P D vwCl [(aQ, .inr (7, [.null, .int (nI 0), .int (nI 0), .int (nI 0)])), aL z qn1 24 (fun _ => 0)] H := hP
  have hD : va_D A [(aQ, .inr (7, [.null, .int (nI 0), .int (nI 0), .int (nI 0)])), aL z qn1 24 (fun _ => 0)] := hD
  refine va_putF (D := D) (ci := 7) (v := .ref qn1) (ty := tyX7 0) (C := RX7) (T := TX7) (N := 4) hx hb hts iX7 tyX7 tyX7_ok nmX7 hown hK.1 hP hD hS 0 rfl rfl 0 (by decide) (hts _ m_171) (fun _ h9 => h9) rfl hin rfl (tyX7_ok 0 (by decide)) rfl rfl (Nat.le_of_ble_eq_true rfl) dX7_init_9 (fun H locs hP hD hS => ?_)
  have hP : va_P D vwCl [(aQ, .inr (7, [.ref qn1, .int (nI 0), .int (nI 0), .int (nI 0)])), aL z qn1 24 (fun _ => 0)] H := hP
  have hD : va_D A [(aQ, .inr (7, [.ref qn1, .int (nI 0), .int (nI 0), .int (nI 0)])), aL z qn1 24 (fun _ => 0)] := hD
  refine lv_aload_n hx hb dX7_init_12 rfl (lv_at hl 0 rfl) ?_
  refine lv_iconst (v := nI 0) hx hb dX7_init_13 (by decide +kernel) ?_
  refine va_put (D := D) (ci := 7) (v := .int (nI 0)) (ty := tyX7 1) (C := RX7) (T := TX7) (N := 4) hx hb hts iX7 tyX7 tyX7_ok nmX7 hown hK.1 hP hD hS 0 rfl rfl 1 (by decide) (hts _ m_172) (fun _ h9 => h9) rfl (tyX7_ok 1 (by decide)) rfl rfl (Nat.le_of_ble_eq_true rfl) dX7_init_14 (fun H locs hP hD hS => ?_)
  have hP : va_P D vwCl [(aQ, .inr (7, [.ref qn1, .int (nI 0), .int (nI 0), .int (nI 0)])), aL z qn1 24 (fun _ => 0)] H := hP
  have hD : va_D A [(aQ, .inr (7, [.ref qn1, .int (nI 0), .int (nI 0), .int (nI 0)])), aL z qn1 24 (fun _ => 0)] := hD
  refine lv_aload_n hx hb dX7_init_17 rfl (lv_at hl 0 rfl) ?_
  refine lv_iconst (v := nI 0) hx hb dX7_init_18 (by decide +kernel) ?_
  refine va_put (D := D) (ci := 7) (v := .int (nI 0)) (ty := tyX7 2) (C := RX7) (T := TX7) (N := 4) hx hb hts iX7 tyX7 tyX7_ok nmX7 hown hK.1 hP hD hS 0 rfl rfl 2 (by decide) (hts _ m_173) (fun _ h9 => h9) rfl (tyX7_ok 2 (by decide)) rfl rfl (Nat.le_of_ble_eq_true rfl) dX7_init_19 (fun H locs hP hD hS => ?_)
  have hP : va_P D vwCl [(aQ, .inr (7, [.ref qn1, .int (nI 0), .int (nI 0), .int (nI 0)])), aL z qn1 24 (fun _ => 0)] H := hP
  have hD : va_D A [(aQ, .inr (7, [.ref qn1, .int (nI 0), .int (nI 0), .int (nI 0)])), aL z qn1 24 (fun _ => 0)] := hD
  refine lv_aload_n hx hb dX7_init_22 rfl (lv_at hl 0 rfl) ?_
  refine lv_iconst (v := nI 0) hx hb dX7_init_23 (by decide +kernel) ?_
  refine va_put (D := D) (ci := 7) (v := .int (nI 0)) (ty := tyX7 3) (C := RX7) (T := TX7) (N := 4) hx hb hts iX7 tyX7 tyX7_ok nmX7 hown hK.1 hP hD hS 0 rfl rfl 3 (by decide) (hts _ m_174) (fun _ h9 => h9) rfl (tyX7_ok 3 (by decide)) rfl rfl (Nat.le_of_ble_eq_true rfl) dX7_init_24 (fun H locs hP hD hS => ?_)
  have hP : va_P D vwCl [(aQ, .inr (7, [.ref qn1, .int (nI 0), .int (nI 0), .int (nI 0)])), aL z qn1 24 (fun _ => 0)] H := hP
  have hD : va_D A [(aQ, .inr (7, [.ref qn1, .int (nI 0), .int (nI 0), .int (nI 0)])), aL z qn1 24 (fun _ => 0)] := hD
  exact W.vret hx hb hr (fun t9 ht9 _ => ⟨rfl, ⟨qn1, by rw [ht9]; exact hP, hD⟩, hS.F ht9⟩) hS.2.2 dX7_init_27 hlocks

set_option maxHeartbeats 4000000 in
set_option maxRecDepth 100000 in
theorem c_X9_init (l : Launch) (D : va_G) (z : Nat → ClassId) (sz : Nat) (aQ : Nat)  : CG (σ := Nat) l yX9_init cX9_init 1 none 1 12 1 60 [.ref aQ] D z [(aQ, .inr (9, [.null, .int (nI 0), .int (nI 0), .int (nI 0)]))] sz (fun u => [(aQ, .inr (9, [.ref u, .int (nI 0), .int (nI 0), .int (-1)])), aC z u 60 (fun _ => 0)]) := by
  refine Met.ofW (cc := cX9_init) (maxL := 1) (ret := none) (by decide) rfl ?_
  intro pg e s m args below meth c s₁ B hml hv
  obtain ⟨rfl, hsz, hP, hK, hD0, hE⟩ := hv
  have hx := B.exec
  have hb := B.bytes
  have hr := B.returns
  have hts : ∀ w ∈ ALL, w.before _ s = true := fun w h => atoms_spec (ws := wA yX9_init cX9_init 1 none) B.pre w (List.mem_cons_of_mem _ h)
  have hown : s.vm.findClass RX9 = some m.cls := findClass_of_methodNamed B.named
  have hlocks := B.notSynchronized
  subst hsz
  have hD := hD0.self (sz := s.heap.size)
  have hin : meth.name = "<init>" := (name_of_methodNamed B.named B.method).1
  have hA : ∀ q : Nat, s.heap.size ≤ q → va_A [(aQ, .inr (9, [.null, .int (nI 0), .int (nI 0), .int (nI 0)]))] s.heap.size q := fun q h => Or.inr h
  generalize va_A [(aQ, .inr (9, [.null, .int (nI 0), .int (nI 0), .int (nI 0)]))] s.heap.size = A at *
  have hS : va_S A s.heap s.heap [] := va_S.rf
  have hl := lv_entry ([.ref aQ]) (n := 1) (Nat.le_of_ble_eq_true rfl)
  rw [lg_entry_eq]
  generalize (lg_sl ([.ref aQ]) ++ List.replicate (1 - (lg_sl ([.ref aQ])).length) Slot.unset).toArray = ls at hl ⊢
  have hl : lv_has ls 1 [(0, .ref aQ)] := hl
  refine lv_aload_n hx hb dX9_init_0 rfl (lv_at hl 0 rfl) ?_
  refine W.objInit hx hb hown (hts _ m_188) (hts _ m_2) (hts _ m_3) rfl (by rw [hml]; exact hl.1) rfl dX9_init_1 (Nat.le_of_ble_eq_true rfl) (Nat.le_of_ble_eq_true rfl) ?_
  refine W.eq (g2 := F0 m 4 ls []) rfl ?_
  refine lv_aload_n hx hb dX9_init_4 rfl (lv_at hl 0 rfl) ?_
  refine lv_bipush (v := nI 60) hx hb dX9_init_5 (by decide +kernel) ?_
  refine nv_newC (N := 60) hx hb (hts _ m_189) hK hP hD hS hA (by decide) (Nat.le_of_ble_eq_true rfl) (Nat.le_of_ble_eq_true rfl) dX9_init_7 (fun qn1 H hP hD hS => ?_)
  have hP : va_P D vwCl [(aQ, .inr (9, [.null, .int (nI 0), .int (nI 0), .int (nI 0)])), aC z qn1 60 (fun _ => 0)] H := hP
  have hD : va_D A [(aQ, .inr (9, [.null, .int (nI 0), .int (nI 0), .int (nI 0)])), aC z qn1 60 (fun _ => 0)] := hD
  refine va_putF (D := D) (ci := 9) (v := .ref qn1) (ty := tyX9 0) (C := RX9) (T := TX9) (N := 4) hx hb hts iX9 tyX9 tyX9_ok nmX9 hown hK.1 hP hD hS 0 rfl rfl 0 (by decide) (hts _ m_190) (fun _ h9 => h9) rfl hin rfl (tyX9_ok 0 (by decide)) rfl rfl (Nat.le_of_ble_eq_true rfl) dX9_init_9 (fun H locs hP hD hS => ?_)
  have hP : va_P D vwCl [(aQ, .inr (9, [.ref qn1, .int (nI 0), .int (nI 0), .int (nI 0)])), aC z qn1 60 (fun _ => 0)] H := hP
  have hD : va_D A [(aQ, .inr (9, [.ref qn1, .int (nI 0), .int (nI 0), .int (nI 0)])), aC z qn1 60 (fun _ => 0)] := hD
  refine lv_aload_n hx hb dX9_init_12 rfl (lv_at hl 0 rfl) ?_
  refine lv_iconst (v := nI 0) hx hb dX9_init_13 (by decide +kernel) ?_
  refine va_put (D := D) (ci := 9) (v := .int (nI 0)) (ty := tyX9 1) (C := RX9) (T := TX9) (N := 4) hx hb hts iX9 tyX9 tyX9_ok nmX9 hown hK.1 hP hD hS 0 rfl rfl 1 (by decide) (hts _ m_191) (fun _ h9 => h9) rfl (tyX9_ok 1 (by decide)) rfl rfl (Nat.le_of_ble_eq_true rfl) dX9_init_14 (fun H locs hP hD hS => ?_)
  have hP : va_P D vwCl [(aQ, .inr (9, [.ref qn1, .int (nI 0), .int (nI 0), .int (nI 0)])), aC z qn1 60 (fun _ => 0)] H := hP
  have hD : va_D A [(aQ, .inr (9, [.ref qn1, .int (nI 0), .int (nI 0), .int (nI 0)])), aC z qn1 60 (fun _ => 0)] := hD
  refine lv_aload_n hx hb dX9_init_17 rfl (lv_at hl 0 rfl) ?_
  refine lv_iconst (v := nI 0) hx hb dX9_init_18 (by decide +kernel) ?_
  refine va_put (D := D) (ci := 9) (v := .int (nI 0)) (ty := tyX9 2) (C := RX9) (T := TX9) (N := 4) hx hb hts iX9 tyX9 tyX9_ok nmX9 hown hK.1 hP hD hS 0 rfl rfl 2 (by decide) (hts _ m_192) (fun _ h9 => h9) rfl (tyX9_ok 2 (by decide)) rfl rfl (Nat.le_of_ble_eq_true rfl) dX9_init_19 (fun H locs hP hD hS => ?_)
  have hP : va_P D vwCl [(aQ, .inr (9, [.ref qn1, .int (nI 0), .int (nI 0), .int (nI 0)])), aC z qn1 60 (fun _ => 0)] H := hP
  have hD : va_D A [(aQ, .inr (9, [.ref qn1, .int (nI 0), .int (nI 0), .int (nI 0)])), aC z qn1 60 (fun _ => 0)] := hD
  refine lv_aload_n hx hb dX9_init_22 rfl (lv_at hl 0 rfl) ?_
  refine lv_iconst (v := (-1)) hx hb dX9_init_23 (by decide +kernel) ?_
  refine va_put (D := D) (ci := 9) (v := .int (-1)) (ty := tyX9 3) (C := RX9) (T := TX9) (N := 4) hx hb hts iX9 tyX9 tyX9_ok nmX9 hown hK.1 hP hD hS 0 rfl rfl 3 (by decide) (hts _ m_193) (fun _ h9 => h9) rfl (tyX9_ok 3 (by decide)) rfl rfl (Nat.le_of_ble_eq_true rfl) dX9_init_24 (fun H locs hP hD hS => ?_)
  have hP : va_P D vwCl [(aQ, .inr (9, [.ref qn1, .int (nI 0), .int (nI 0), .int (-1)])), aC z qn1 60 (fun _ => 0)] H := hP
  have hD : va_D A [(aQ, .inr (9, [.ref qn1, .int (nI 0), .int (nI 0), .int (-1)])), aC z qn1 60 (fun _ => 0)] := hD
  exact W.vret hx hb hr (fun t9 ht9 _ => ⟨rfl, ⟨qn1, by rw [ht9]; exact hP, hD⟩, hS.F ht9⟩) hS.2.2 dX9_init_27 hlocks
