/-! the fixed classes, array classes, and the words that no list of steady words carries -/
abbrev tyL (z : Nat → ClassId) : List (ClassId × FieldType) := [(z 0, .int), (z 1, .long), (z 2, .char), (z 3, .boolean), (z 4, .object "SeaJar$Plain"), (z 5, .object "SeaJar$Row")]
def NW (U : State) : Prop := ∀ w ∈ nwL, va_Nw w U
theorem NW.same {u U : State} (h : u.vm = U.vm) (k : NW u) : NW U := fun w hw => va_Nw.same (nwL_tab w hw) h (k w hw)
theorem NW.warm {s U : State} (hW : s.WarmedH U.vm) (k : NW s) : NW U := by
  intro w hw
  have h := k w hw
  rcases nwL_form w hw with ⟨a, i, x, h0, rfl⟩ | ⟨a, b, rfl⟩
  · exact va_Nw.warmM hW h
  · exact va_tabs rfl (rfl : (s.setVm U.vm).vm = U.vm) (by rw [Cond.castable_setVm hW.alike]; exact h)
def KK (D : va_G) (z : Nat → ClassId) (U : State) : Prop := va_K D vwCl (tyL z) U ∧ NW U ∧ va_AO "SeaJar$Plain" U ∧ va_AO "SeaJar$Row" U
theorem KK.like {D : va_G} {z : Nat → ClassId} {u U : State} (h : u.vm.Alike U.vm) (hn : NW U) (k : KK D z u) : KK D z U := ⟨va_K.moved h k.1, hn, va_AO.moved h k.2.2.1, va_AO.moved h k.2.2.2⟩
theorem KK.same {D : va_G} {z : Nat → ClassId} {u U : State} (h : u.vm = U.vm) (k : KK D z u) : KK D z U := KK.like (by rw [h]; exact Vm.Alike.refl _) (k.2.1.same h) k
theorem KK.warm {D : va_G} {z : Nat → ClassId} {s U : State} (hW : s.WarmedH U.vm) (k : KK D z s) : KK D z U := KK.like hW.alike (k.2.1.warm hW) k
abbrev wA (y : MethodName) (b : ByteArray) (n : Nat) (r : Option FieldType) : List Cond := Cond.code y b n r :: ALL
/-! the words of a call, out of ALL -/
theorem al_good {x : List Cond} (h : ∀ w ∈ x, w ∈ ALL) : GoodIn ALL x := fun w hw => ⟨h w hw, good_of_word (List.mem_filter.mp (h w hw)).2⟩
theorem al_w {y : MethodName} {b : ByteArray} {n : Nat} {r : Option FieldType} (h : Cond.code y b n r ∈ ALL) : ∀ w ∈ wA y b n r, w ∈ ALL := fun w hw => (List.mem_cons.mp hw).elim (fun q => by rw [q]; exact h) (fun q => q)
theorem al_app {x y : List Cond} (h : ∀ w ∈ x, w ∈ ALL) (k : ∀ w ∈ y, w ∈ ALL) : ∀ w ∈ x ++ y, w ∈ ALL := fun w hw => (List.mem_append.mp hw).elim (h w) (k w)
theorem al_c {w0 : Cond} {x : List Cond} (h : w0 ∈ ALL) (k : ∀ w ∈ x, w ∈ ALL) : ∀ w ∈ w0 :: x, w ∈ ALL := fun w hw => (List.mem_cons.mp hw).elim (fun q => by rw [q]; exact h) (k w)
theorem al_n : ∀ w ∈ ([] : List Cond), w ∈ ALL := fun _ h => absurd h List.not_mem_nil
section AG
variable {own C owner : String} {i n : Nat} {x y : MethodName} {b : ByteArray} {r : Option FieldType}
theorem gS (h1 : Cond.methodLink own i y ∈ ALL) (h2 : Cond.static y ∈ ALL) (h3 : Cond.initialized y.cls ∈ ALL) (h4 : Cond.code y b n r ∈ ALL) : GoodIn ALL (va_wsS own i y (wA y b n r)) := al_good (al_app (al_c h1 (al_c h2 (al_c h3 al_n))) (al_w h4))
theorem gV (h1 : Cond.methodLink own i y ∈ ALL) (h2 : Cond.instanceMethod y ∈ ALL) (h3 : Cond.selects C y y ∈ ALL) (h5 : Cond.initialized C ∈ ALL) (h4 : Cond.code y b n r ∈ ALL) : GoodIn ALL (wsV own i C y (wA y b n r)) := al_good (al_app (al_c h1 (al_c h2 (al_c h3 (al_c h5 al_n)))) (al_w h4))
theorem gU (h1 : Cond.methodLink own i x ∈ ALL) (h2 : Cond.sameMethod x.cls owner x.name x.desc ∈ ALL) (h3 : Cond.selects C x y ∈ ALL) (h5 : Cond.instanceMethod y ∈ ALL) (h6 : Cond.initialized y.cls ∈ ALL) (h4 : Cond.code y b n r ∈ ALL) : GoodIn ALL (va_wsU own i C owner x y (wA y b n r)) := al_good (al_app (al_c h1 (al_c h2 (al_c h3 (al_c h5 (al_c h6 al_n))))) (al_w h4))
theorem gO (h1 : Cond.methodLink own i x ∈ ALL) (h2 : Cond.sameMethod x.cls owner x.name x.desc ∈ ALL) (h7 : Cond.instanceMethod ⟨owner, x.name, x.desc⟩ ∈ ALL) (h3 : Cond.selects C x y ∈ ALL) (h5 : Cond.instanceMethod y ∈ ALL) (h6 : Cond.initialized y.cls ∈ ALL) (h4 : Cond.code y b n r ∈ ALL) : GoodIn ALL (va_wsO own i C owner x y (wA y b n r)) := al_good (al_app (al_c h1 (al_c h2 (al_c h7 (al_c h3 (al_c h5 (al_c h6 al_n)))))) (al_w h4))
theorem gSU (h1 : Cond.methodLink own i y ∈ ALL) (h2 : Cond.sameMethod y.cls y.cls y.name y.desc ∈ ALL) (h3 : Cond.superclass own y.cls ∈ ALL) (h5 : Cond.instanceMethod y ∈ ALL) (h6 : Cond.initialized y.cls ∈ ALL) (h4 : Cond.code y b n r ∈ ALL) : GoodIn ALL (va_wsSU own i y (wA y b n r)) := al_good (al_app (al_c h1 (al_c h2 (al_c h3 (al_c h5 (al_c h6 al_n))))) (al_w h4))
theorem gC (h4 : Cond.code y b n r ∈ ALL) : GoodIn ALL (wA y b n r) := al_good (al_w h4)
end AG
/-! numbers -/
def uN (f : Nat → Nat) (k v : Nat) : Nat → Nat := fun j => if j = k then v else f j
theorem uN_s (f : Nat → Nat) (k v : Nat) : uN f k v k = v := if_pos rfl
theorem uN_n (f : Nat → Nat) {k v j : Nat} (h : j ≠ k) : uN f k v j = f j := if_neg h
theorem upd_nI (f : Nat → Nat) (k v : Nat) : upd (fun j => nI (f j)) k (nI v) = fun j => nI (uN f k v j) := by
  funext j
  unfold upd uN
  split <;> rfl
theorem nI_inc (j : Nat) : nI j + Int32.ofInt 1 = nI (j + 1) := nI_1 j
theorem nv_fo (a b : Nat) : nI a ||| nI b = nI (a ||| b) := by
  unfold nI
  apply Int32.toBitVec_inj.mp
  simp [Int32.toBitVec_or, Int32.toBitVec_ofNat']
theorem nv_fa (a b : Nat) : nI a &&& nI b = nI (a &&& b) := by
  unfold nI
  apply Int32.toBitVec_inj.mp
  simp [Int32.toBitVec_and, Int32.toBitVec_ofNat']
theorem nv_sl : ∀ n, n < 32 → ((nI n &&& 31).toBitVec.smod 32).toNat = n := by decide +kernel
/-- a truth as a number -/
def bI (P : Prop) [Decidable P] : Int32 := if P then 1 else 0
theorem bI_0 {P : Prop} [Decidable P] (h : bI P = 0) : ¬ P := fun q => by
  unfold bI at h
  rw [if_pos q] at h
  exact absurd h (by decide)
theorem bI_1 {P : Prop} [Decidable P] (h : ¬ bI P = 0) : P := by
  rcases Decidable.em P with q | q
  · exact q
  · exact absurd (by unfold bI; rw [if_neg q]) h
theorem bI_t {P : Prop} [Decidable P] (h : P) : bI P = 1 := if_pos h
theorem bI_f {P : Prop} [Decidable P] (h : ¬ P) : bI P = 0 := if_neg h
theorem bI_nar {P : Prop} [Decidable P] : narrow .boolean (.int (bI P)) = .int (bI P) := by
  unfold bI
  split <;> rfl
/-- a number between two bounds -/
abbrev wi (x : Int32) (a b : Int) : Prop := a ≤ x.toInt ∧ x.toInt ≤ b
theorem wi_nat {x : Int32} {b : Nat} {a : Int} (ha : 0 ≤ a) (h : wi x a b) : ∃ k : Nat, x = nI k ∧ a ≤ k ∧ k ≤ b := by
  have h1 : 0 ≤ x.toInt := Int.le_trans ha h.1
  obtain ⟨j, hj, rfl⟩ := nI_of (x := x) (fun q => by rw [Int32.lt_iff_toInt_lt] at q; have h0 : (0 : Int32).toInt = 0 := (by decide); omega)
  have e := nI_toInt hj
  have h2 := h.1
  have h3 := h.2
  rw [e] at h2 h3
  exact ⟨j, rfl, h2, by omega⟩
theorem wi_nI {k : Nat} {a b : Int} (hk : k < 2 ^ 31) : wi (nI k) a b ↔ a ≤ k ∧ (k : Int) ≤ b := by
  unfold wi
  rw [nI_toInt hk]
section NV
variable {p : Program} {l : Launch} {e : Env} {R : Room} {s : State} {m : MethodId} {args : Array Value} {below : List Frame} {meth : Method} {c : Code} {H : Heap} {locs : List Loc} {cells slots : Nat} {Q : State → Prop}
variable {cc : ByteArray} {pc : Nat} {ls : Array Slot} {rest : List Value} {D : va_G} {z : Nat → ClassId} {A : Nat → Prop} {a : Nat} {ws : va_W} {H0 : Heap}
theorem nv_ic (hx : p.tables.exec = Jvm.exec) (hb : c.code = cc) {n : Nat} (hdg : decode cc pc = .ok (.iconst (n : Int), 1)) (k : W p l e R s m args below meth c H locs cells slots Q (F0 m (pc + 1) ls (.int (nI n) :: rest))) : W p l e R s m args below meth c H locs cells slots Q (F0 m pc ls rest) := lv_iconst hx hb hdg (by show Int32.ofInt (n : Int) = nI n; rfl) k
theorem nv_add (hx : p.tables.exec = Jvm.exec) (hb : c.code = cc) {i j : Nat} (hdg : decode cc pc = .ok (.iadd, 1)) (k : W p l e R s m args below meth c H locs cells slots Q (F0 m (pc + 1) ls (.int (nI (i + j)) :: rest))) : W p l e R s m args below meth c H locs cells slots Q (F0 m pc ls (.int (nI j) :: .int (nI i) :: rest)) := lv_iadd hx hb hdg (by rw [nI_add]; exact k)
theorem nv_mul (hx : p.tables.exec = Jvm.exec) (hb : c.code = cc) {i j : Nat} (hdg : decode cc pc = .ok (.imul, 1)) (k : W p l e R s m args below meth c H locs cells slots Q (F0 m (pc + 1) ls (.int (nI (i * j)) :: rest))) : W p l e R s m args below meth c H locs cells slots Q (F0 m pc ls (.int (nI j) :: .int (nI i) :: rest)) := lv_imul hx hb hdg (by rw [pk_mul]; exact k)
theorem nv_sub (hx : p.tables.exec = Jvm.exec) (hb : c.code = cc) {i j : Nat} (h : j ≤ i) (hdg : decode cc pc = .ok (.isub, 1)) (k : W p l e R s m args below meth c H locs cells slots Q (F0 m (pc + 1) ls (.int (nI (i - j)) :: rest))) : W p l e R s m args below meth c H locs cells slots Q (F0 m pc ls (.int (nI j) :: .int (nI i) :: rest)) := lv_isub hx hb hdg (by rw [pk_sub h]; exact k)
theorem nv_div (hx : p.tables.exec = Jvm.exec) (hb : c.code = cc) {i j : Nat} (hi : i < 2 ^ 31) (h0 : 0 < j) (hj : j < 2 ^ 31) (hdg : decode cc pc = .ok (.idiv, 1)) (k : W p l e R s m args below meth c H locs cells slots Q (F0 m (pc + 1) ls (.int (nI (i / j)) :: rest))) : W p l e R s m args below meth c H locs cells slots Q (F0 m pc ls (.int (nI j) :: .int (nI i) :: rest)) := lv_idiv hx hb hdg (nI_ne0 h0 hj) (by rw [pk_div hi h0 hj]; exact k)
theorem nv_rem (hx : p.tables.exec = Jvm.exec) (hb : c.code = cc) {i j : Nat} (hi : i < 2 ^ 31) (h0 : 0 < j) (hj : j < 2 ^ 31) (hdg : decode cc pc = .ok (.irem, 1)) (k : W p l e R s m args below meth c H locs cells slots Q (F0 m (pc + 1) ls (.int (nI (i % j)) :: rest))) : W p l e R s m args below meth c H locs cells slots Q (F0 m pc ls (.int (nI j) :: .int (nI i) :: rest)) := lv_irem hx hb hdg (nI_ne0 h0 hj) (by rw [pk_rem hi h0 hj]; exact k)
theorem nv_or (hx : p.tables.exec = Jvm.exec) (hb : c.code = cc) {i j : Nat} (hdg : decode cc pc = .ok (.ior, 1)) (k : W p l e R s m args below meth c H locs cells slots Q (F0 m (pc + 1) ls (.int (nI (i ||| j)) :: rest))) : W p l e R s m args below meth c H locs cells slots Q (F0 m pc ls (.int (nI j) :: .int (nI i) :: rest)) := lv_ior hx hb hdg (by rw [nv_fo]; exact k)
theorem nv_and (hx : p.tables.exec = Jvm.exec) (hb : c.code = cc) {i j : Nat} (hdg : decode cc pc = .ok (.iand, 1)) (k : W p l e R s m args below meth c H locs cells slots Q (F0 m (pc + 1) ls (.int (nI (i &&& j)) :: rest))) : W p l e R s m args below meth c H locs cells slots Q (F0 m pc ls (.int (nI j) :: .int (nI i) :: rest)) := lv_iand hx hb hdg (by rw [nv_fa]; exact k)
theorem nv_shl (hx : p.tables.exec = Jvm.exec) (hb : c.code = cc) {i j : Nat} (hj : j < 32) (h : i * 2 ^ j < 2 ^ 32) (hdg : decode cc pc = .ok (.ishl, 1)) (k : W p l e R s m args below meth c H locs cells slots Q (F0 m (pc + 1) ls (.int (nI (i * 2 ^ j)) :: rest))) : W p l e R s m args below meth c H locs cells slots Q (F0 m pc ls (.int (nI j) :: .int (nI i) :: rest)) := lv_ishl hx hb hdg (by rw [pk_shlN _ j (nv_sl j hj) h]; exact k)
theorem nv_shr (hx : p.tables.exec = Jvm.exec) (hb : c.code = cc) {i j : Nat} (hj : j < 32) (h : i < 2 ^ 31) (hdg : decode cc pc = .ok (.ishr, 1)) (k : W p l e R s m args below meth c H locs cells slots Q (F0 m (pc + 1) ls (.int (nI (i / 2 ^ j)) :: rest))) : W p l e R s m args below meth c H locs cells slots Q (F0 m pc ls (.int (nI j) :: .int (nI i) :: rest)) := lv_ishr hx hb hdg (by rw [pk_shrN h _ j (nv_sl j hj)]; exact k)
theorem nv_lt (hx : p.tables.exec = Jvm.exec) (hb : c.code = cc) {i j : Nat} {off : Int} {tgt : Nat} (hi : i < 2 ^ 31) (hj : j < 2 ^ 31) (hdg : decode cc pc = .ok (.if_icmp .lt off, 3)) (ht : (pc : Int) + off = (tgt : Int)) (kt : i < j → W p l e R s m args below meth c H locs cells slots Q (F0 m tgt ls rest)) (kf : j ≤ i → W p l e R s m args below meth c H locs cells slots Q (F0 m (pc + 3) ls rest)) : W p l e R s m args below meth c H locs cells slots Q (F0 m pc ls (.int (nI j) :: .int (nI i) :: rest)) := lv_icmp_lt hx hb hdg ht (fun h => kt ((nI_ltI hi hj).mp h)) (fun h => kf (Nat.not_lt.mp fun q => h ((nI_ltI hi hj).mpr q)))
theorem nv_ge (hx : p.tables.exec = Jvm.exec) (hb : c.code = cc) {i j : Nat} {off : Int} {tgt : Nat} (hi : i < 2 ^ 31) (hj : j < 2 ^ 31) (hdg : decode cc pc = .ok (.if_icmp .ge off, 3)) (ht : (pc : Int) + off = (tgt : Int)) (kt : j ≤ i → W p l e R s m args below meth c H locs cells slots Q (F0 m tgt ls rest)) (kf : i < j → W p l e R s m args below meth c H locs cells slots Q (F0 m (pc + 3) ls rest)) : W p l e R s m args below meth c H locs cells slots Q (F0 m pc ls (.int (nI j) :: .int (nI i) :: rest)) := lv_icmp_ge hx hb hdg ht (fun h => kt ((nI_leI hj hi).mp h)) (fun h => kf (Nat.not_le.mp fun q => h ((nI_leI hj hi).mpr q)))
theorem nv_gt (hx : p.tables.exec = Jvm.exec) (hb : c.code = cc) {i j : Nat} {off : Int} {tgt : Nat} (hi : i < 2 ^ 31) (hj : j < 2 ^ 31) (hdg : decode cc pc = .ok (.if_icmp .gt off, 3)) (ht : (pc : Int) + off = (tgt : Int)) (kt : j < i → W p l e R s m args below meth c H locs cells slots Q (F0 m tgt ls rest)) (kf : i ≤ j → W p l e R s m args below meth c H locs cells slots Q (F0 m (pc + 3) ls rest)) : W p l e R s m args below meth c H locs cells slots Q (F0 m pc ls (.int (nI j) :: .int (nI i) :: rest)) := lv_icmp_gt hx hb hdg ht (fun h => kt ((nI_ltI hj hi).mp h)) (fun h => kf (Nat.not_lt.mp fun q => h ((nI_ltI hj hi).mpr q)))
theorem nv_le (hx : p.tables.exec = Jvm.exec) (hb : c.code = cc) {i j : Nat} {off : Int} {tgt : Nat} (hi : i < 2 ^ 31) (hj : j < 2 ^ 31) (hdg : decode cc pc = .ok (.if_icmp .le off, 3)) (ht : (pc : Int) + off = (tgt : Int)) (kt : i ≤ j → W p l e R s m args below meth c H locs cells slots Q (F0 m tgt ls rest)) (kf : j < i → W p l e R s m args below meth c H locs cells slots Q (F0 m (pc + 3) ls rest)) : W p l e R s m args below meth c H locs cells slots Q (F0 m pc ls (.int (nI j) :: .int (nI i) :: rest)) := lv_icmp_le hx hb hdg ht (fun h => kt ((nI_leI hi hj).mp h)) (fun h => kf (Nat.not_le.mp fun q => h ((nI_leI hi hj).mpr q)))
theorem nv_eq (hx : p.tables.exec = Jvm.exec) (hb : c.code = cc) {i j : Nat} {off : Int} {tgt : Nat} (hi : i < 2 ^ 31) (hj : j < 2 ^ 31) (hdg : decode cc pc = .ok (.if_icmp .eq off, 3)) (ht : (pc : Int) + off = (tgt : Int)) (kt : i = j → W p l e R s m args below meth c H locs cells slots Q (F0 m tgt ls rest)) (kf : i ≠ j → W p l e R s m args below meth c H locs cells slots Q (F0 m (pc + 3) ls rest)) : W p l e R s m args below meth c H locs cells slots Q (F0 m pc ls (.int (nI j) :: .int (nI i) :: rest)) := lv_icmp_eq hx hb hdg ht (fun h => kt ((nI_eq hi hj).mp h)) (fun h => kf fun q => h ((nI_eq hi hj).mpr q))
theorem nv_ne (hx : p.tables.exec = Jvm.exec) (hb : c.code = cc) {i j : Nat} {off : Int} {tgt : Nat} (hi : i < 2 ^ 31) (hj : j < 2 ^ 31) (hdg : decode cc pc = .ok (.if_icmp .ne off, 3)) (ht : (pc : Int) + off = (tgt : Int)) (kt : i ≠ j → W p l e R s m args below meth c H locs cells slots Q (F0 m tgt ls rest)) (kf : i = j → W p l e R s m args below meth c H locs cells slots Q (F0 m (pc + 3) ls rest)) : W p l e R s m args below meth c H locs cells slots Q (F0 m pc ls (.int (nI j) :: .int (nI i) :: rest)) := lv_icmp_ne hx hb hdg ht (fun h => kt fun q => h ((nI_eq hi hj).mpr q)) (fun h => kf ((nI_eq hi hj).mp h))
theorem nv_z0 {i : Nat} (hi : i < 2 ^ 31) : nI i = 0 ↔ i = 0 := by
  rw [show (0 : Int32) = nI 0 from nI_0.symm]
  exact nI_eq hi (by decide)
theorem nv_ifeq (hx : p.tables.exec = Jvm.exec) (hb : c.code = cc) {i : Nat} {off : Int} {tgt : Nat} (hi : i < 2 ^ 31) (hdg : decode cc pc = .ok (.ifCond .eq off, 3)) (ht : (pc : Int) + off = (tgt : Int)) (kt : i = 0 → W p l e R s m args below meth c H locs cells slots Q (F0 m tgt ls rest)) (kf : i ≠ 0 → W p l e R s m args below meth c H locs cells slots Q (F0 m (pc + 3) ls rest)) : W p l e R s m args below meth c H locs cells slots Q (F0 m pc ls (.int (nI i) :: rest)) := lv_if_eq hx hb hdg ht (fun h => kt ((nv_z0 hi).mp h)) (fun h => kf fun q => h ((nv_z0 hi).mpr q))
theorem nv_ifne (hx : p.tables.exec = Jvm.exec) (hb : c.code = cc) {i : Nat} {off : Int} {tgt : Nat} (hi : i < 2 ^ 31) (hdg : decode cc pc = .ok (.ifCond .ne off, 3)) (ht : (pc : Int) + off = (tgt : Int)) (kt : i ≠ 0 → W p l e R s m args below meth c H locs cells slots Q (F0 m tgt ls rest)) (kf : i = 0 → W p l e R s m args below meth c H locs cells slots Q (F0 m (pc + 3) ls rest)) : W p l e R s m args below meth c H locs cells slots Q (F0 m pc ls (.int (nI i) :: rest)) := lv_if_ne hx hb hdg ht (fun h => kt fun q => h ((nv_z0 hi).mpr q)) (fun h => kf ((nv_z0 hi).mp h))
theorem nv_beq (hx : p.tables.exec = Jvm.exec) (hb : c.code = cc) {P : Prop} {dP : Decidable P} {off : Int} {tgt : Nat} (hdg : decode cc pc = .ok (.ifCond .eq off, 3)) (ht : (pc : Int) + off = (tgt : Int)) (kt : ¬ P → W p l e R s m args below meth c H locs cells slots Q (F0 m tgt ls rest)) (kf : P → W p l e R s m args below meth c H locs cells slots Q (F0 m (pc + 3) ls rest)) : W p l e R s m args below meth c H locs cells slots Q (F0 m pc ls (.int (bI P) :: rest)) := lv_if_eq hx hb hdg ht (fun h => kt (bI_0 h)) (fun h => kf (bI_1 h))
theorem nv_bne (hx : p.tables.exec = Jvm.exec) (hb : c.code = cc) {P : Prop} {dP : Decidable P} {off : Int} {tgt : Nat} (hdg : decode cc pc = .ok (.ifCond .ne off, 3)) (ht : (pc : Int) + off = (tgt : Int)) (kt : P → W p l e R s m args below meth c H locs cells slots Q (F0 m tgt ls rest)) (kf : ¬ P → W p l e R s m args below meth c H locs cells slots Q (F0 m (pc + 3) ls rest)) : W p l e R s m args below meth c H locs cells slots Q (F0 m pc ls (.int (bI P) :: rest)) := lv_if_ne hx hb hdg ht (fun h => kt (bI_1 h)) (fun h => kf (bI_0 h))
/-- an int array of numbers -/
abbrev aN (z : Nat → ClassId) (a n : Nat) (f : Nat → Nat) : Nat × va_E := (a, .inl (z 0, n, .inl (fun j => nI (f j))))
theorem nv_ald (hx : p.tables.exec = Jvm.exec) (hb : c.code = cc) (hK : KK D z s) (hP : va_P D vwCl ws H) (q0 : Nat) {n : Nat} {f : Nat → Nat} (ha : ws[q0]? = some (aN z a n f)) {i : Nat} (hi : i < n) (hn : n < 2 ^ 31) (hdg : decode cc pc = .ok (.iaload, 1)) (k : W p l e R s m args below meth c H locs cells slots Q (F0 m (pc + 1) ls (.int (nI (f i)) :: rest))) : W p l e R s m args below meth c H locs cells slots Q (F0 m pc ls (.int (nI i) :: .ref a :: rest)) := va_iald hx hb hK.1 hP q0 0 ha rfl (vp_in_nI hi hn) hdg (by rw [nI_clamp (Nat.lt_trans hi hn)]; exact k)
theorem nv_ast (hx : p.tables.exec = Jvm.exec) (hb : c.code = cc) (hK : KK D z s) (hP : va_P D vwCl ws H) (hD : va_D A ws) (hS : va_S A H0 H locs) (q0 : Nat) {n : Nat} {f : Nat → Nat} (ha : ws[q0]? = some (aN z a n f)) {i v : Nat} (hi : i < n) (hn : n < 2 ^ 31) (hdg : decode cc pc = .ok (.iastore, 1)) (k : ∀ (H1 : Heap) (locs1 : List Loc), va_P D vwCl (ws.set q0 (aN z a n (uN f i v))) H1 → va_D A (ws.set q0 (aN z a n (uN f i v))) → va_S A H0 H1 locs1 → W p l e R s m args below meth c H1 locs1 cells slots Q (F0 m (pc + 1) ls rest)) : W p l e R s m args below meth c H locs cells slots Q (F0 m pc ls (.int (nI v) :: .int (nI i) :: .ref a :: rest)) := va_iast hx hb hK.1 hP hD hS q0 0 ha rfl (vp_in_nI hi hn) hdg (fun H1 l1 h1 h2 h3 => by
  rw [nI_clamp (Nat.lt_trans hi hn), upd_nI] at h1 h2
  exact k H1 l1 h1 h2 h3)
theorem nv_lx (x : Int32) : x.toInt64.toInt = x.toInt := Int32.toInt_toInt64 x
theorem nv_lw {k : Nat} (h : k < 2 ^ 31) : (nI k).toInt64.toInt = (k : Int) := by rw [nv_lx, nI_toInt h]
theorem bI_c {P P' : Prop} {dP : Decidable P} {dQ : Decidable P'} (h : P ↔ P') : @bI P dP = @bI P' dQ := by
  unfold bI
  by_cases q : P
  · rw [if_pos q, if_pos (h.mp q)]
  · rw [if_neg q, if_neg (fun z => q (h.mpr z))]
theorem nv_inwl {x : Int32} {lo hi : Int64} {a b : Int} (ha : lo.toInt = a) (hb : hi.toInt = b) (k : W p l e R s m args below meth c H locs cells slots Q (F0 m pc ls (.int (bI (wi x a b)) :: rest))) : W p l e R s m args below meth c H locs cells slots Q (F0 m pc ls (.int (bI (lo ≤ x.toInt64 ∧ x.toInt64 ≤ hi)) :: rest)) := by
  rw [bI_c (P' := wi x a b) (by rw [Int64.le_iff_toInt_le, Int64.le_iff_toInt_le, nv_lx, ha, hb])]
  exact k
theorem nv_innl {x a b : Nat} {lo hi : Int64} (hx : x < 2 ^ 31) (ha : lo.toInt = a) (hb : hi.toInt = b) (k : W p l e R s m args below meth c H locs cells slots Q (F0 m pc ls (.int (bI (a ≤ x ∧ x ≤ b)) :: rest))) : W p l e R s m args below meth c H locs cells slots Q (F0 m pc ls (.int (bI (lo ≤ (nI x).toInt64 ∧ (nI x).toInt64 ≤ hi)) :: rest)) := by
  rw [bI_c (P' := a ≤ x ∧ x ≤ b) (by rw [Int64.le_iff_toInt_le, Int64.le_iff_toInt_le, nv_lw hx, ha, hb]; omega)]
  exact k
theorem nv_inwi {x lo hi : Int32} {a b : Int} (ha : lo.toInt = a) (hb : hi.toInt = b) (k : W p l e R s m args below meth c H locs cells slots Q (F0 m pc ls (.int (bI (wi x a b)) :: rest))) : W p l e R s m args below meth c H locs cells slots Q (F0 m pc ls (.int (bI (lo ≤ x ∧ x ≤ hi)) :: rest)) := by
  rw [bI_c (P' := wi x a b) (by rw [Int32.le_iff_toInt_le, Int32.le_iff_toInt_le, ha, hb])]
  exact k
theorem nv_inni {x a b : Nat} {lo hi : Int32} (hx : x < 2 ^ 31) (ha : lo.toInt = a) (hb : hi.toInt = b) (k : W p l e R s m args below meth c H locs cells slots Q (F0 m pc ls (.int (bI (a ≤ x ∧ x ≤ b)) :: rest))) : W p l e R s m args below meth c H locs cells slots Q (F0 m pc ls (.int (bI (lo ≤ nI x ∧ nI x ≤ hi)) :: rest)) := by
  rw [bI_c (P' := a ≤ x ∧ x ≤ b) (by rw [Int32.le_iff_toInt_le, Int32.le_iff_toInt_le, nI_toInt hx, ha, hb]; omega)]
  exact k
end NV
/-! contracts: of a method that changes nothing, and of one that changes its world -/
def nR (D : va_G) (z : Nat → ClassId) (w0 : va_W) (E : Heap → Prop) : State → Prop := fun U => va_P D vwCl w0 U.heap ∧ KK D z U ∧ E U.heap
theorem nR_blind {D : va_G} {z : Nat → ClassId} {w0 : va_W} {E : Heap → Prop} {av : List Value} : FrameBlind (va_Pc av (nR D z w0 E)) := fun a U g mk q => by
  obtain ⟨q0, qP, qK, qE⟩ := q
  exact ⟨q0, qP, KK.same (u := U) (U := U.calling g mk a) rfl qK, qE⟩
def nP (D : va_G) (z : Nat → ClassId) (w0 : va_W) (sz : Nat) (E : Heap → Prop) : State → Prop := fun U => U.heap.size = sz ∧ va_P D vwCl w0 U.heap ∧ KK D z U ∧ va_D (fun _ => True) w0 ∧ E U.heap
theorem nP_blind {D : va_G} {z : Nat → ClassId} {w0 : va_W} {sz : Nat} {E : Heap → Prop} {av : List Value} : FrameBlind (va_Pc av (nP D z w0 sz E)) := fun a U g mk q => by
  obtain ⟨q0, q1, qP, qK, qD, qE⟩ := q
  exact ⟨q0, q1, qP, KK.same (u := U) (U := U.calling g mk a) rfl qK, qD, qE⟩
def nQ (D : va_G) (w1 : va_W) (v : Option Value) (E1 : Heap → Prop) (A : Nat → Prop) : Array Value → State → Outcome → State → Prop := fun _ st oc t => oc = .returned v ∧ va_P D vwCl w1 t.heap ∧ E1 t.heap ∧ va_F A st t
def nS (v : Option Value) : Array Value → State → Outcome → State → Prop := fun _ st oc t => oc = .returned v ∧ t.heap = st.heap
abbrev CP (l : Launch) (y : MethodName) (b : ByteArray) (n : Nat) (r : Option FieldType) (fr lo : Nat) (As : List Value) (D : va_G) (z : Nat → ClassId) (w0 : va_W) (E : Heap → Prop) (v : Option Value) : Prop := Met l y (wA y b n r) { frames := fr, cells := 0, slots := 0, locals := lo } (va_Pc As (nR D z w0 E)) (nS v) 0 0 (fun _ => False)
abbrev CM (l : Launch) (y : MethodName) (b : ByteArray) (n : Nat) (r : Option FieldType) (fr lo mc ms : Nat) (As : List Value) (D : va_G) (z : Nat → ClassId) (w0 : va_W) (sz : Nat) (E : Heap → Prop) (w1 : va_W) (v : Option Value) (E1 : Heap → Prop) : Prop := Met l y (wA y b n r) { frames := fr, cells := mc, slots := ms, locals := lo } (va_Pc As (nP D z w0 sz E)) (nQ D w1 v E1 (va_A w0 sz)) mc ms (va_A w0 sz)
theorem va_D.same {A : Nat → Prop} {w0 w1 : va_W} (h : va_D A w0) (e : w0.map Prod.fst = w1.map Prod.fst) : va_D A w1 := by
  have key : ∀ (k : Nat) (q : Nat × va_E), w1[k]? = some q → ∃ q0, w0[k]? = some q0 ∧ q0.1 = q.1 := by
    intro k q hk
    have h1 : (w1.map Prod.fst)[k]? = some q.1 := by rw [List.getElem?_map, hk]; rfl
    rw [← e, List.getElem?_map] at h1
    cases h2 : w0[k]? with
    | none => rw [h2] at h1; cases h1
    | some q0 => rw [h2] at h1; exact ⟨q0, rfl, Option.some.inj h1⟩
  refine ⟨fun i j x y hi hj hxy => ?_, fun k q hk => ?_⟩
  · obtain ⟨x0, h1, h2⟩ := key i x hi
    obtain ⟨y0, h3, h4⟩ := key j y hj
    exact h.1 i j x0 y0 h1 h3 (h2.trans (hxy.trans h4.symm))
  · obtain ⟨q0, h1, h2⟩ := key k q hk
    rw [← h2]
    exact h.2 k q0 h1
section NC
variable {p : Program} {l : Launch} {e : Env} {R : Room} {s : State} {m : MethodId} {args : Array Value} {below : List Frame} {meth : Method} {c : Code} {H : Heap} {locs : List Loc} {cells slots : Nat} {Q : State → Prop}
variable {cc : ByteArray} {pc : Nat} {ls : Array Slot} {rest st0 : List Value} {D : va_G} {z : Nat → ClassId} {A : Nat → Prop} {a : Nat} {ws wc wr w1 ws1 : va_W} {H0 : Heap} {v : Option Value} {E E1 : Heap → Prop} {av : Array Value} {mc ms : Nat}
theorem nv_preP (hK : KK D z s) (hP : va_P D vwCl wc H) (hE : E H) (As : List Value) : PreS s H (va_Pc As (nR D z wc E)) As := ⟨nR_blind, fun U hU hW => ⟨rfl, by rw [hU]; exact hP, hK.warm hW, by rw [hU]; exact hE⟩⟩
theorem nv_prePV (hK : KK D z s) (hP : va_P D vwCl wc H) (hE : E H) {b : Nat} {As : List Value} {ci q0 : Nat} {q : vw_C} {fs : List Value} (hc : vwCl[ci]? = some q) (he : wc[q0]? = some (b, .inr (ci, fs))) : PreV s H q.1 b (va_Pc (.ref b :: As) (nR D z wc E)) As := ⟨nR_blind, va_recv hK.1 hP hc he, fun U hU hW => ⟨rfl, by rw [hU]; exact hP, hK.warm hW, by rw [hU]; exact hE⟩⟩
theorem nv_preM (hK : KK D z s) (hP : va_P D vwCl wc H) (hD : va_D A wc) (hE : E H) (As : List Value) : PreS s H (va_Pc As (nP D z wc H.size E)) As := ⟨nP_blind, fun U hU hW => ⟨rfl, by rw [hU], by rw [hU]; exact hP, hK.warm hW, hD.weaken (fun _ _ _ _ => trivial), by rw [hU]; exact hE⟩⟩
theorem nv_preMV (hK : KK D z s) (hP : va_P D vwCl wc H) (hD : va_D A wc) (hE : E H) {b : Nat} {As : List Value} {ci q0 : Nat} {q : vw_C} {fs : List Value} (hc : vwCl[ci]? = some q) (he : wc[q0]? = some (b, .inr (ci, fs))) : PreV s H q.1 b (va_Pc (.ref b :: As) (nP D z wc H.size E)) As := ⟨nP_blind, va_recv hK.1 hP hc he, fun U hU hW => ⟨rfl, by rw [hU], by rw [hU]; exact hP, hK.warm hW, hD.weaken (fun _ _ _ _ => trivial), by rw [hU]; exact hE⟩⟩
/-- behind a call that changes nothing -/
theorem nv_cp (hr : va_Run p l e R s m args below meth c H locs cells slots 0 0 (F0 m pc ls st0) rest (nS v av) (fun _ => False)) (kk : W p l e R s m args below meth c H locs cells slots Q (F0 m (pc + 3) ls (v.toList ++ rest))) : W p l e R s m args below meth c H locs cells slots Q (F0 m pc ls st0) := by
  intro T hT X
  obtain ⟨v', st₀, t, T', L, h0, X', hL, e1, -, ⟨hv, hh⟩, st⟩ := hr T hT X
  cases hv
  obtain ⟨t2, a1, b1⟩ := kk T' (by rw [e1, hh, h0]) (Stand.forget X' (fun q h => (hL q h).elim))
  exact ⟨t2, st t2 a1, b1⟩
theorem nv_cp1 {x : Value} (hr : va_Run p l e R s m args below meth c H locs cells slots 0 0 (F0 m pc ls st0) rest (nS (some x) av) (fun _ => False)) (kk : W p l e R s m args below meth c H locs cells slots Q (F0 m (pc + 3) ls (x :: rest))) : W p l e R s m args below meth c H locs cells slots Q (F0 m pc ls st0) := nv_cp hr kk
theorem nv_cp0 (hr : va_Run p l e R s m args below meth c H locs cells slots 0 0 (F0 m pc ls st0) rest (nS none av) (fun _ => False)) (kk : W p l e R s m args below meth c H locs cells slots Q (F0 m (pc + 3) ls rest)) : W p l e R s m args below meth c H locs cells slots Q (F0 m pc ls st0) := nv_cp hr kk
/-- behind a call that changes its world: the list stays in its order -/
theorem nv_cm (hr : va_Run p l e R s m args below meth c H locs cells slots mc ms (F0 m pc ls st0) rest (nQ D w1 v E1 (va_A wc H.size) av) (va_A wc H.size)) (hP : va_P D vwCl ws H) (hD : va_D A ws) (hS : va_S A H0 H locs) (hA : ∀ q, H0.size ≤ q → A q) (isC isR pm : List Nat) (hC : isC.map (fun i => ws[i]?) = wc.map some) (hR : isR.map (fun i => ws[i]?) = wr.map some) (hn : va_nd isR = true) (hdis : ∀ i ∈ isR, i ∉ isC) (hsame : wc.map Prod.fst = w1.map Prod.fst) (hnc : va_nd isC = true) (hpm : pm.map (fun i => (wr ++ w1)[i]?) = ws1.map some) (hnp : va_nd pm = true)
    (kk : ∀ (H1 : Heap) (locs1 : List Loc), va_P D vwCl ws1 H1 → va_D A ws1 → va_S A H0 H1 locs1 → E1 H1 → H.size ≤ H1.size → (∀ q : Nat, q < H.size → ¬ va_A wc H.size q → H1[q]? = H[q]?) → W p l e R s m args below meth c H1 locs1 (cells + mc) (slots + ms) Q (F0 m (pc + 3) ls (v.toList ++ rest))) : W p l e R s m args below meth c H locs cells slots Q (F0 m pc ls st0) := by
  have hF := va_free (wc := wc) hD hS hA isC hC
  have hDc : va_D (va_A wc H.size) w1 := ((hD.sub isC hnc hC).self (sz := H.size)).same hsame
  intro T hT X
  obtain ⟨v', st₀, t, T', L, h0, X', hL, e1, e2, ⟨hv, hP1, hE1, hz, hk⟩, st⟩ := hr T hT X
  cases hv
  rw [h0] at hz hk
  rw [← e1] at hP1 hE1 hz hk
  obtain ⟨gP, gD⟩ := va_join hP hD isC isR hC hR hn hdis hk hF hP1 hDc
  have gP1 : va_P D vwCl ws1 T'.heap := by
    intro k q hq
    have h1 : (pm.map (fun i => (wr ++ w1)[i]?))[k]? = some (some q) := by rw [hpm, List.getElem?_map, hq]; rfl
    rw [List.getElem?_map] at h1
    cases hi : pm[k]? with
    | none => rw [hi] at h1; cases h1
    | some i => rw [hi] at h1; exact gP i q (Option.some.inj h1)
  obtain ⟨t2, a1, b1⟩ := kk T'.heap (locs ++ L) gP1 (gD.sub pm hnp hpm)
    ⟨Nat.le_trans hS.1 hz, fun q h1 h2 => by rw [hk q (Nat.lt_of_lt_of_le h1 hS.1) (fun y => h2 (hF q y))]; exact hS.2.1 q h1 h2, fun q hq => by
      rcases List.mem_append.mp hq with h | h
      · exact hS.2.2 q h
      · exact hF _ (hL q h)⟩ hE1 hz hk T' rfl X'
  exact ⟨t2, st t2 a1, b1⟩
theorem nv_cm1 {x : Value} (hr : va_Run p l e R s m args below meth c H locs cells slots mc ms (F0 m pc ls st0) rest (nQ D w1 (some x) E1 (va_A wc H.size) av) (va_A wc H.size)) (hP : va_P D vwCl ws H) (hD : va_D A ws) (hS : va_S A H0 H locs) (hA : ∀ q, H0.size ≤ q → A q) (isC isR pm : List Nat) (hC : isC.map (fun i => ws[i]?) = wc.map some) (hR : isR.map (fun i => ws[i]?) = wr.map some) (hn : va_nd isR = true) (hdis : ∀ i ∈ isR, i ∉ isC) (hsame : wc.map Prod.fst = w1.map Prod.fst) (hnc : va_nd isC = true) (hpm : pm.map (fun i => (wr ++ w1)[i]?) = ws1.map some) (hnp : va_nd pm = true)
    (kk : ∀ (H1 : Heap) (locs1 : List Loc), va_P D vwCl ws1 H1 → va_D A ws1 → va_S A H0 H1 locs1 → E1 H1 → H.size ≤ H1.size → (∀ q : Nat, q < H.size → ¬ va_A wc H.size q → H1[q]? = H[q]?) → W p l e R s m args below meth c H1 locs1 (cells + mc) (slots + ms) Q (F0 m (pc + 3) ls (x :: rest))) : W p l e R s m args below meth c H locs cells slots Q (F0 m pc ls st0) := nv_cm hr hP hD hS hA isC isR pm hC hR hn hdis hsame hnc hpm hnp kk
theorem nv_cm0 (hr : va_Run p l e R s m args below meth c H locs cells slots mc ms (F0 m pc ls st0) rest (nQ D w1 none E1 (va_A wc H.size) av) (va_A wc H.size)) (hP : va_P D vwCl ws H) (hD : va_D A ws) (hS : va_S A H0 H locs) (hA : ∀ q, H0.size ≤ q → A q) (isC isR pm : List Nat) (hC : isC.map (fun i => ws[i]?) = wc.map some) (hR : isR.map (fun i => ws[i]?) = wr.map some) (hn : va_nd isR = true) (hdis : ∀ i ∈ isR, i ∉ isC) (hsame : wc.map Prod.fst = w1.map Prod.fst) (hnc : va_nd isC = true) (hpm : pm.map (fun i => (wr ++ w1)[i]?) = ws1.map some) (hnp : va_nd pm = true)
    (kk : ∀ (H1 : Heap) (locs1 : List Loc), va_P D vwCl ws1 H1 → va_D A ws1 → va_S A H0 H1 locs1 → E1 H1 → H.size ≤ H1.size → (∀ q : Nat, q < H.size → ¬ va_A wc H.size q → H1[q]? = H[q]?) → W p l e R s m args below meth c H1 locs1 (cells + mc) (slots + ms) Q (F0 m (pc + 3) ls rest)) : W p l e R s m args below meth c H locs cells slots Q (F0 m pc ls st0) := nv_cm hr hP hD hS hA isC isR pm hC hR hn hdis hsame hnc hpm hnp kk
theorem nv_nl {free : Addr → Prop} : ∀ q ∈ ([] : List Loc), free q.base := fun _ h => absurd h List.not_mem_nil
/-- returns -/
theorem nv_ri {x v : Int32} (hx : p.tables.exec = Jvm.exec) (hb : c.code = cc) (hr : meth.sig.returnType = some .int) (hlocks : meth.locks = false) (hdg : decode cc pc = .ok (.ireturn, 1)) (hv : x = v) : W p l e R s m args below meth c s.heap [] 0 0 (MQ below (nS (some (.int v))) args s 0 0 (fun _ => False)) (F0 m pc ls [.int x]) := by
  subst hv
  exact W.iret hx hb hr (fun t ht _ => ⟨rfl, ht⟩) nv_nl hdg hlocks
theorem nv_rz {x v : Int32} {ty : FieldType} (hx : p.tables.exec = Jvm.exec) (hb : c.code = cc) (hr : meth.sig.returnType = some ty) (hlocks : meth.locks = false) (hdg : decode cc pc = .ok (.ireturn, 1)) (hv : x = v) (hn : narrow ty (.int v) = .int v) : W p l e R s m args below meth c s.heap [] 0 0 (MQ below (nS (some (.int v))) args s 0 0 (fun _ => False)) (F0 m pc ls [.int x]) := by
  subst hv
  exact W.zret hx hb hr hn (fun t ht _ => ⟨rfl, ht⟩) nv_nl hdg hlocks
theorem nv_mi {x v : Int32} (hx : p.tables.exec = Jvm.exec) (hb : c.code = cc) (hr : meth.sig.returnType = some .int) (hlocks : meth.locks = false) (hS : va_S A s.heap H locs) (hdg : decode cc pc = .ok (.ireturn, 1)) (hP : va_P D vwCl w1 H) (hE : E1 H) (hv : x = v) : W p l e R s m args below meth c H locs cells slots (MQ below (nQ D w1 (some (.int v)) E1 A) args s cells slots A) (F0 m pc ls [.int x]) := by
  subst hv
  exact W.iret hx hb hr (fun t ht _ => ⟨rfl, by rw [ht]; exact hP, by rw [ht]; exact hE, hS.F ht⟩) hS.2.2 hdg hlocks
theorem nv_mz {x v : Int32} {ty : FieldType} (hx : p.tables.exec = Jvm.exec) (hb : c.code = cc) (hr : meth.sig.returnType = some ty) (hlocks : meth.locks = false) (hS : va_S A s.heap H locs) (hdg : decode cc pc = .ok (.ireturn, 1)) (hP : va_P D vwCl w1 H) (hE : E1 H) (hv : x = v) (hn : narrow ty (.int v) = .int v) : W p l e R s m args below meth c H locs cells slots (MQ below (nQ D w1 (some (.int v)) E1 A) args s cells slots A) (F0 m pc ls [.int x]) := by
  subst hv
  exact W.zret hx hb hr hn (fun t ht _ => ⟨rfl, by rw [ht]; exact hP, by rw [ht]; exact hE, hS.F ht⟩) hS.2.2 hdg hlocks
theorem nv_mv (hx : p.tables.exec = Jvm.exec) (hb : c.code = cc) (hr : meth.sig.returnType = none) (hlocks : meth.locks = false) (hS : va_S A s.heap H locs) (hdg : decode cc pc = .ok (.return_, 1)) (hP : va_P D vwCl w1 H) (hE : E1 H) : W p l e R s m args below meth c H locs cells slots (MQ below (nQ D w1 none E1 A) args s cells slots A) (F0 m pc ls []) :=
  W.vret hx hb hr (fun t ht _ => ⟨rfl, by rw [ht]; exact hP, by rw [ht]; exact hE, hS.F ht⟩) hS.2.2 hdg hlocks
end NC
section NL
variable {p : Program} {l : Launch} {e : Env} {R : Room} {s : State} {m : MethodId} {args : Array Value} {below : List Frame} {meth : Method} {c : Code} {H : Heap} {locs : List Loc} {cells slots : Nat} {Q : State → Prop} {g g2 : JFrame}
theorem nv_join (k : W p l e R s m args below meth c H locs cells slots Q g2 → W p l e R s m args below meth c H locs cells slots Q g) (k2 : W p l e R s m args below meth c H locs cells slots Q g2) : W p l e R s m args below meth c H locs cells slots Q g := k k2
/-- a loop: a state x, a measure that falls; the heap may move -/
theorem nv_loop {σ : Type} (I : σ → Heap → List Loc → Array Slot → Prop) (μ : σ → Nat) (pc : Nat) (st : List Value)
    (body : ∀ (x : σ) (H : Heap) (locs : List Loc) (ls : Array Slot), I x H locs ls → (∀ (y : σ) (H' : Heap) (locs' : List Loc) (ls' : Array Slot), μ y < μ x → I y H' locs' ls' → W p l e R s m args below meth c H' locs' cells slots Q (F0 m pc ls' st)) → W p l e R s m args below meth c H locs cells slots Q (F0 m pc ls st)) :
    ∀ (x : σ) {H : Heap} {locs : List Loc} {ls : Array Slot}, I x H locs ls → W p l e R s m args below meth c H locs cells slots Q (F0 m pc ls st) := by
  have key : ∀ (n : Nat) (x : σ) (H : Heap) (locs : List Loc) (ls : Array Slot), μ x < n → I x H locs ls → W p l e R s m args below meth c H locs cells slots Q (F0 m pc ls st) := by
    intro n
    induction n with
    | zero => intro x H locs ls h; exact absurd h (Nat.not_lt_zero _)
    | succ n ih => intro x H locs ls h hI; exact body x H locs ls hI (fun y H' locs' ls' hy hI' => ih y H' locs' ls' (by omega) hI')
  exact fun x {H locs ls} hI => key (μ x + 1) x H locs ls (Nat.lt_succ_self _) hI
/-- a loop that leaves the heap alone -/
theorem nv_loopP {σ : Type} (I : σ → Array Slot → Prop) (μ : σ → Nat) (pc : Nat) (st : List Value)
    (body : ∀ (x : σ) (ls : Array Slot), I x ls → (∀ (y : σ) (ls' : Array Slot), μ y < μ x → I y ls' → W p l e R s m args below meth c H locs cells slots Q (F0 m pc ls' st)) → W p l e R s m args below meth c H locs cells slots Q (F0 m pc ls st)) :
    ∀ (x : σ) {ls : Array Slot}, I x ls → W p l e R s m args below meth c H locs cells slots Q (F0 m pc ls st) := by
  have key : ∀ (n : Nat) (x : σ) (ls : Array Slot), μ x < n → I x ls → W p l e R s m args below meth c H locs cells slots Q (F0 m pc ls st) := by
    intro n
    induction n with
    | zero => intro x ls h; exact absurd h (Nat.not_lt_zero _)
    | succ n ih => intro x ls h hI; exact body x ls hI (fun y ls' hy hI' => ih y ls' (by omega) hI')
  exact fun x {ls} hI => key (μ x + 1) x ls (Nat.lt_succ_self _) hI
end NL
/-! what lies beyond an array's length doesn't matter -/
theorem arrV_cg {cA : ClassId} {n : Nat} {f g : Nat → Value} (h : ∀ j, j < n → f j = g j) : arrV cA n f = arrV cA n g := by
  unfold arrV
  congr 1
  apply congrArg
  first
  | exact List.map_congr_left (fun j hj => h j (List.mem_range.mp hj))
  | (funext i; exact h i.1 i.2)
theorem va_P.cg {D : va_G} {z : Nat → ClassId} {ws : va_W} {H : Heap} (h : va_P D vwCl ws H) (k : Nat) {a n : Nat} {f g : Nat → Nat} (hk : ws[k]? = some (aN z a n f)) (e : ∀ j, j < n → f j = g j) : va_P D vwCl (ws.set k (aN z a n g)) H := by
  have hl := (List.getElem?_eq_some_iff.mp hk).1
  intro i q hq
  by_cases hi : i = k
  · subst hi
    rw [List.getElem?_set_self hl] at hq
    cases hq
    have h1 : H[a]? = some (vp_cell (z 0) (n, .inl (fun j => nI (f j)))) := h i _ hk
    show H[a]? = some (vp_cell (z 0) (n, .inl (fun j => nI (g j))))
    rw [h1, vp_cell_i, vp_cell_i, arrV_cg (fun j hj => by rw [e j hj])]
  · rw [List.getElem?_set_ne (Ne.symm hi)] at hq
    exact h i q hq
/-! contracts whose world behind is known but for a choice u -/
def nQx {σ : Type} (D : va_G) (w1 : σ → va_W) (v : Option Value) (E1 : σ → Heap → Prop) (A : Nat → Prop) : Array Value → State → Outcome → State → Prop := fun _ st oc t => oc = .returned v ∧ (∃ u : σ, va_P D vwCl (w1 u) t.heap ∧ E1 u t.heap) ∧ va_F A st t
abbrev CX {σ : Type} (l : Launch) (y : MethodName) (b : ByteArray) (n : Nat) (r : Option FieldType) (fr lo mc ms : Nat) (As : List Value) (D : va_G) (z : Nat → ClassId) (w0 : va_W) (sz : Nat) (E : Heap → Prop) (w1 : σ → va_W) (v : Option Value) (E1 : σ → Heap → Prop) : Prop := Met l y (wA y b n r) { frames := fr, cells := mc, slots := ms, locals := lo } (va_Pc As (nP D z w0 sz E)) (nQx D w1 v E1 (va_A w0 sz)) mc ms (va_A w0 sz)
section NX
variable {p : Program} {l : Launch} {e : Env} {R : Room} {s : State} {m : MethodId} {args : Array Value} {below : List Frame} {meth : Method} {c : Code} {H : Heap} {locs : List Loc} {cells slots : Nat} {Q : State → Prop}
variable {cc : ByteArray} {pc : Nat} {ls : Array Slot} {rest st0 : List Value} {D : va_G} {z : Nat → ClassId} {A : Nat → Prop} {a : Nat} {ws wc wr : va_W} {H0 : Heap} {v : Option Value} {av : Array Value} {mc ms : Nat} {σ : Type} {w1 ws1 : σ → va_W} {E1 : σ → Heap → Prop}
theorem nv_cx (hr : va_Run p l e R s m args below meth c H locs cells slots mc ms (F0 m pc ls st0) rest (nQx D w1 v E1 (va_A wc H.size) av) (va_A wc H.size)) (hP : va_P D vwCl ws H) (hD : va_D A ws) (hS : va_S A H0 H locs) (hA : ∀ q, H0.size ≤ q → A q) (isC isR pm : List Nat) (hC : isC.map (fun i => ws[i]?) = wc.map some) (hR : isR.map (fun i => ws[i]?) = wr.map some) (hn : va_nd isR = true) (hdis : ∀ i ∈ isR, i ∉ isC) (hsame : ∀ u, wc.map Prod.fst = (w1 u).map Prod.fst) (hnc : va_nd isC = true) (hpm : ∀ u, pm.map (fun i => (wr ++ w1 u)[i]?) = (ws1 u).map some) (hnp : va_nd pm = true)
    (kk : ∀ (u : σ) (H1 : Heap) (locs1 : List Loc), va_P D vwCl (ws1 u) H1 → va_D A (ws1 u) → va_S A H0 H1 locs1 → E1 u H1 → H.size ≤ H1.size → (∀ q : Nat, q < H.size → ¬ va_A wc H.size q → H1[q]? = H[q]?) → W p l e R s m args below meth c H1 locs1 (cells + mc) (slots + ms) Q (F0 m (pc + 3) ls (v.toList ++ rest))) : W p l e R s m args below meth c H locs cells slots Q (F0 m pc ls st0) := by
  have hF := va_free (wc := wc) hD hS hA isC hC
  intro T hT X
  obtain ⟨v', st₀, t, T', L, h0, X', hL, e1, e2, ⟨hv, ⟨u, hP1, hE1⟩, hz, hk⟩, st⟩ := hr T hT X
  have hDc : va_D (va_A wc H.size) (w1 u) := ((hD.sub isC hnc hC).self (sz := H.size)).same (hsame u)
  cases hv
  rw [h0] at hz hk
  rw [← e1] at hP1 hE1 hz hk
  obtain ⟨gP, gD⟩ := va_join hP hD isC isR hC hR hn hdis hk hF hP1 hDc
  have gP1 : va_P D vwCl (ws1 u) T'.heap := by
    intro k q hq
    have h1 : (pm.map (fun i => (wr ++ w1 u)[i]?))[k]? = some (some q) := by rw [hpm, List.getElem?_map, hq]; rfl
    rw [List.getElem?_map] at h1
    cases hi : pm[k]? with
    | none => rw [hi] at h1; cases h1
    | some i => rw [hi] at h1; exact gP i q (Option.some.inj h1)
  obtain ⟨t2, a1, b1⟩ := kk u T'.heap (locs ++ L) gP1 (gD.sub pm hnp (hpm u))
    ⟨Nat.le_trans hS.1 hz, fun q h1 h2 => by rw [hk q (Nat.lt_of_lt_of_le h1 hS.1) (fun y => h2 (hF q y))]; exact hS.2.1 q h1 h2, fun q hq => by
      rcases List.mem_append.mp hq with h | h
      · exact hS.2.2 q h
      · exact hF _ (hL q h)⟩ hE1 hz hk T' rfl X'
  exact ⟨t2, st t2 a1, b1⟩
theorem nv_xi {x v : Int32} (hx : p.tables.exec = Jvm.exec) (hb : c.code = cc) (hr : meth.sig.returnType = some .int) (hlocks : meth.locks = false) (hS : va_S A s.heap H locs) (hdg : decode cc pc = .ok (.ireturn, 1)) (u : σ) (hP : va_P D vwCl (w1 u) H) (hE : E1 u H) (hv : x = v) : W p l e R s m args below meth c H locs cells slots (MQ below (nQx D w1 (some (.int v)) E1 A) args s cells slots A) (F0 m pc ls [.int x]) := by
  subst hv
  exact W.iret hx hb hr (fun t ht _ => ⟨rfl, ⟨u, by rw [ht]; exact hP, by rw [ht]; exact hE⟩, hS.F ht⟩) hS.2.2 hdg hlocks
theorem nv_xz {x v : Int32} {ty : FieldType} (hx : p.tables.exec = Jvm.exec) (hb : c.code = cc) (hr : meth.sig.returnType = some ty) (hlocks : meth.locks = false) (hS : va_S A s.heap H locs) (hdg : decode cc pc = .ok (.ireturn, 1)) (u : σ) (hP : va_P D vwCl (w1 u) H) (hE : E1 u H) (hv : x = v) (hn : narrow ty (.int v) = .int v) : W p l e R s m args below meth c H locs cells slots (MQ below (nQx D w1 (some (.int v)) E1 A) args s cells slots A) (F0 m pc ls [.int x]) := by
  subst hv
  exact W.zret hx hb hr hn (fun t ht _ => ⟨rfl, ⟨u, by rw [ht]; exact hP, by rw [ht]; exact hE⟩, hS.F ht⟩) hS.2.2 hdg hlocks
theorem nv_xv (hx : p.tables.exec = Jvm.exec) (hb : c.code = cc) (hr : meth.sig.returnType = none) (hlocks : meth.locks = false) (hS : va_S A s.heap H locs) (hdg : decode cc pc = .ok (.return_, 1)) (u : σ) (hP : va_P D vwCl (w1 u) H) (hE : E1 u H) : W p l e R s m args below meth c H locs cells slots (MQ below (nQx D w1 none E1 A) args s cells slots A) (F0 m pc ls []) :=
  W.vret hx hb hr (fun t ht _ => ⟨rfl, ⟨u, by rw [ht]; exact hP, by rw [ht]; exact hE⟩, hS.F ht⟩) hS.2.2 hdg hlocks
theorem nv_cx1 {x : Value} (hr : va_Run p l e R s m args below meth c H locs cells slots mc ms (F0 m pc ls st0) rest (nQx D w1 (some x) E1 (va_A wc H.size) av) (va_A wc H.size)) (hP : va_P D vwCl ws H) (hD : va_D A ws) (hS : va_S A H0 H locs) (hA : ∀ q, H0.size ≤ q → A q) (isC isR pm : List Nat) (hC : isC.map (fun i => ws[i]?) = wc.map some) (hR : isR.map (fun i => ws[i]?) = wr.map some) (hn : va_nd isR = true) (hdis : ∀ i ∈ isR, i ∉ isC) (hsame : ∀ u, wc.map Prod.fst = (w1 u).map Prod.fst) (hnc : va_nd isC = true) (hpm : ∀ u, pm.map (fun i => (wr ++ w1 u)[i]?) = (ws1 u).map some) (hnp : va_nd pm = true)
    (kk : ∀ (u : σ) (H1 : Heap) (locs1 : List Loc), va_P D vwCl (ws1 u) H1 → va_D A (ws1 u) → va_S A H0 H1 locs1 → E1 u H1 → H.size ≤ H1.size → (∀ q : Nat, q < H.size → ¬ va_A wc H.size q → H1[q]? = H[q]?) → W p l e R s m args below meth c H1 locs1 (cells + mc) (slots + ms) Q (F0 m (pc + 3) ls (x :: rest))) : W p l e R s m args below meth c H locs cells slots Q (F0 m pc ls st0) := nv_cx hr hP hD hS hA isC isR pm hC hR hn hdis hsame hnc hpm hnp kk
theorem nv_cx0 (hr : va_Run p l e R s m args below meth c H locs cells slots mc ms (F0 m pc ls st0) rest (nQx D w1 none E1 (va_A wc H.size) av) (va_A wc H.size)) (hP : va_P D vwCl ws H) (hD : va_D A ws) (hS : va_S A H0 H locs) (hA : ∀ q, H0.size ≤ q → A q) (isC isR pm : List Nat) (hC : isC.map (fun i => ws[i]?) = wc.map some) (hR : isR.map (fun i => ws[i]?) = wr.map some) (hn : va_nd isR = true) (hdis : ∀ i ∈ isR, i ∉ isC) (hsame : ∀ u, wc.map Prod.fst = (w1 u).map Prod.fst) (hnc : va_nd isC = true) (hpm : ∀ u, pm.map (fun i => (wr ++ w1 u)[i]?) = (ws1 u).map some) (hnp : va_nd pm = true)
    (kk : ∀ (u : σ) (H1 : Heap) (locs1 : List Loc), va_P D vwCl (ws1 u) H1 → va_D A (ws1 u) → va_S A H0 H1 locs1 → E1 u H1 → H.size ≤ H1.size → (∀ q : Nat, q < H.size → ¬ va_A wc H.size q → H1[q]? = H[q]?) → W p l e R s m args below meth c H1 locs1 (cells + mc) (slots + ms) Q (F0 m (pc + 3) ls rest)) : W p l e R s m args below meth c H locs cells slots Q (F0 m pc ls st0) := nv_cx hr hP hD hS hA isC isR pm hC hR hn hdis hsame hnc hpm hnp kk
end NX
