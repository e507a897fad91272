/-! a method that makes a person and answers it; constructors that make cells -/
def nQn (D : va_G) (k t sz : Nat) (A : Nat → Prop) : Array Value → State → Outcome → State → Prop := fun _ st oc t9 => ∃ q, oc = .returned (some (.ref q)) ∧ sz ≤ q ∧ psAt D t9.heap q k t ∧ va_F A st t9
abbrev CN (l : Launch) (y : MethodName) (b : ByteArray) (n : Nat) (r : Option FieldType) (fr lo mc ms : Nat) (As : List Value) (D : va_G) (z : Nat → ClassId) (sz k t : Nat) : Prop := Met l y (wA y b n r) { frames := fr, cells := mc, slots := ms, locals := lo } (va_Pc As (nP D z [] sz (fun _ => True))) (nQn D k t sz (va_A [] sz)) mc ms (va_A [] sz)
def nQg {σ : Type} (D : va_G) (w1 : σ → va_W) (A : Nat → Prop) : Array Value → State → Outcome → State → Prop := fun _ st oc t => oc = .returned none ∧ (∃ u : σ, va_P D vwCl (w1 u) t.heap ∧ va_D A (w1 u)) ∧ va_F A st t
abbrev CG {σ : Type} (l : Launch) (y : MethodName) (b : ByteArray) (n : Nat) (r : Option FieldType) (fr lo mc ms : Nat) (As : List Value) (D : va_G) (z : Nat → ClassId) (w0 : va_W) (sz : Nat) (w1 : σ → va_W) : Prop := Met l y (wA y b n r) { frames := fr, cells := mc, slots := ms, locals := lo } (va_Pc As (nP D z w0 sz (fun _ => True))) (nQg D w1 (va_A w0 sz)) mc ms (va_A w0 sz)
theorem nv_D0 {A : Nat → Prop} : va_D A [] := by
  refine ⟨fun i j p q h _ _ => ?_, fun k q h => ?_⟩
  · cases h
  · cases h
theorem A0_sz {sz q : Nat} (h : va_A [] sz q) : sz ≤ q := by
  rcases h with ⟨k, e, hk⟩ | h
  · cases hk
  · exact h
section NB4
variable {p : Program} {l : Launch} {e : Env} {R : Room} {s : State} {m : MethodId} {args : Array Value} {below : List Frame} {meth : Method} {c : Code} {H : Heap} {locs : List Loc} {cells slots : Nat} {Q : State → Prop}
variable {cc : ByteArray} {pc : Nat} {ls : Array Slot} {rest st0 : List Value} {D : va_G} {z : Nat → ClassId} {A : Nat → Prop} {a : Nat} {ws wc wr : va_W} {H0 : Heap} {av : Array Value} {mc ms : Nat} {σ : Type} {w1 ws1 : σ → va_W}
theorem nv_cn {k t : Nat} (hr : va_Run p l e R s m args below meth c H locs cells slots mc ms (F0 m pc ls st0) rest (nQn D k t H.size (va_A [] H.size) av) (va_A [] H.size)) (hP : va_P D vwCl ws H) (hS : va_S A H0 H locs) (hA : ∀ q, H0.size ≤ q → A q)
    (kk : ∀ (q : Nat) (H1 : Heap) (locs1 : List Loc), va_P D vwCl ws H1 → va_S A H0 H1 locs1 → H.size ≤ q → psAt D H1 q k t → apt ws q → H.size ≤ H1.size → (∀ x : Nat, x < H.size → H1[x]? = H[x]?) → W p l e R s m args below meth c H1 locs1 (cells + mc) (slots + ms) Q (F0 m (pc + 3) ls (.ref q :: rest))) : W p l e R s m args below meth c H locs cells slots Q (F0 m pc ls st0) := by
  intro T hT X
  obtain ⟨v', st₀, t9, T', L, h0, X', hL, e1, e2, ⟨q, hv, hq, hps, hz, hk⟩, st⟩ := hr T hT X
  cases hv
  rw [h0] at hz hk
  rw [← e1] at hps hz hk
  have hkk : ∀ x : Nat, x < H.size → T'.heap[x]? = H[x]? := fun x hx => hk x hx (fun y => by have := A0_sz y; omega)
  obtain ⟨t2, a1, b1⟩ := kk q T'.heap (locs ++ L) (hP.kept (fun k x hx => hkk x.1 ((hP k x hx).lt)))
    ⟨Nat.le_trans hS.1 hz, fun x h1 h2 => by rw [hkk x (Nat.lt_of_lt_of_le h1 hS.1)]; exact hS.2.1 x h1 h2, fun x hx => by
      rcases List.mem_append.mp hx with h | h
      · exact hS.2.2 x h
      · exact hA _ (Nat.le_trans hS.1 (A0_sz (hL x h)))⟩ hq hps (fun i x hx y => by have := (hP i x hx).lt; omega) hz hkk T' rfl X'
  exact ⟨t2, st t2 a1, b1⟩
theorem nv_cg (hr : va_Run p l e R s m args below meth c H locs cells slots mc ms (F0 m pc ls st0) rest (nQg D w1 (va_A wc H.size) av) (va_A wc H.size)) (hP : va_P D vwCl ws H) (hD : va_D A ws) (hS : va_S A H0 H locs) (hA : ∀ q, H0.size ≤ q → A q) (isC isR pm : List Nat) (hC : isC.map (fun i => ws[i]?) = wc.map some) (hR : isR.map (fun i => ws[i]?) = wr.map some) (hn : va_nd isR = true) (hdis : ∀ i ∈ isR, i ∉ isC) (hpm : ∀ u, pm.map (fun i => (wr ++ w1 u)[i]?) = (ws1 u).map some) (hnp : va_nd pm = true)
    (kk : ∀ (u : σ) (H1 : Heap) (locs1 : List Loc), va_P D vwCl (ws1 u) H1 → va_D A (ws1 u) → va_S A H0 H1 locs1 → H.size ≤ H1.size → (∀ q : Nat, q < H.size → ¬ va_A wc H.size q → H1[q]? = H[q]?) → W p l e R s m args below meth c H1 locs1 (cells + mc) (slots + ms) Q (F0 m (pc + 3) ls rest)) : W p l e R s m args below meth c H locs cells slots Q (F0 m pc ls st0) := by
  have hF := va_free (wc := wc) hD hS hA isC hC
  intro T hT X
  obtain ⟨v', st₀, t, T', L, h0, X', hL, e1, e2, ⟨hv, ⟨u, hP1, hD1⟩, hz, hk⟩, st⟩ := hr T hT X
  cases hv
  rw [h0] at hz hk
  rw [← e1] at hP1 hz hk
  obtain ⟨gP, gD⟩ := va_join hP hD isC isR hC hR hn hdis hk hF hP1 hD1
  have gP1 : va_P D vwCl (ws1 u) T'.heap := by
    intro k q hq
    have h1 : (pm.map (fun i => (wr ++ w1 u)[i]?))[k]? = some (some q) := by rw [hpm, List.getElem?_map, hq]; rfl
    rw [List.getElem?_map] at h1
    cases hi : pm[k]? with
    | none => rw [hi] at h1; cases h1
    | some i => rw [hi] at h1; exact gP i q (Option.some.inj h1)
  obtain ⟨t2, a1, b1⟩ := kk u T'.heap (locs ++ L) gP1 (gD.sub pm hnp (hpm u))
    ⟨Nat.le_trans hS.1 hz, fun q h1 h2 => by rw [hk q (Nat.lt_of_lt_of_le h1 hS.1) (fun y => h2 (hF q y))]; exact hS.2.1 q h1 h2, fun q hq => by
      rcases List.mem_append.mp hq with h | h
      · exact hS.2.2 q h
      · exact hF _ (hL q h)⟩ hz hk T' rfl X'
  exact ⟨t2, st t2 a1, b1⟩
/-- arrays are made: their class is the one that is known -/
theorem nv_newN {N : Nat} (hx : p.tables.exec = Jvm.exec) (hb : c.code = cc) (harr : (Cond.arrayClass .int).before args s = true) (hK : KK D z s) (hP : va_P D vwCl ws H) (hD : va_D A ws) (hS : va_S A H0 H locs) (hA : ∀ q, H0.size ≤ q → A q) (hN : N < 1000) (hcells : cells + 1 ≤ R.cells) (hslots : slots + N ≤ R.slots) (hdg : decode cc pc = .ok (.newarray .int, 2))
    (kk : ∀ (q : Nat) (H1 : Heap), va_P D vwCl (ws ++ [aN z q N (fun _ => 0)]) H1 → va_D A (ws ++ [aN z q N (fun _ => 0)]) → va_S A H0 H1 locs → W p l e R s m args below meth c H1 locs (cells + 1) (slots + N) Q (F0 m (pc + 2) ls (.ref q :: rest))) : W p l e R s m args below meth c H locs cells slots Q (F0 m pc ls (.int (nI N) :: rest)) := by
  refine va_newa (atype := .int) (ty := .int) (a0 := (N, .inl (fun _ => nI 0))) hx hb harr rfl hK.1 hP hD hS hA (fun cA => by rw [vp_cell_i, nI_0]; rfl) (nI_pos (by omega)) (nI_clamp (by omega)) (by show N * 4 ≤ _; omega) hcells hslots hdg (fun q cA H1 hK1 h1 h2 h3 => ?_)
  have e9 : cA = z 0 := Option.some.inj ((hK1.2 6 (cA, .int) rfl).2.symm.trans (hK.1.2 0 (z 0, .int) rfl).2)
  subst e9
  exact kk q H1 h1 h2 h3
theorem nv_newL {N : Nat} (hx : p.tables.exec = Jvm.exec) (hb : c.code = cc) (harr : (Cond.arrayClass .long).before args s = true) (hK : KK D z s) (hP : va_P D vwCl ws H) (hD : va_D A ws) (hS : va_S A H0 H locs) (hA : ∀ q, H0.size ≤ q → A q) (hN : N < 1000) (hcells : cells + 1 ≤ R.cells) (hslots : slots + N ≤ R.slots) (hdg : decode cc pc = .ok (.newarray .long, 2))
    (kk : ∀ (q : Nat) (H1 : Heap), va_P D vwCl (ws ++ [aL z q N (fun _ => 0)]) H1 → va_D A (ws ++ [aL z q N (fun _ => 0)]) → va_S A H0 H1 locs → W p l e R s m args below meth c H1 locs (cells + 1) (slots + N) Q (F0 m (pc + 2) ls (.ref q :: rest))) : W p l e R s m args below meth c H locs cells slots Q (F0 m pc ls (.int (nI N) :: rest)) := by
  refine va_newa (atype := .long) (ty := .long) (a0 := (N, .inr (.inl (fun _ => 0)))) hx hb harr rfl hK.1 hP hD hS hA (fun cA => by rw [vp_cell_l]; rfl) (nI_pos (by omega)) (nI_clamp (by omega)) (by show N * 8 ≤ _; omega) hcells hslots hdg (fun q cA H1 hK1 h1 h2 h3 => ?_)
  have e9 : cA = z 1 := Option.some.inj ((hK1.2 6 (cA, .long) rfl).2.symm.trans (hK.1.2 1 (z 1, .long) rfl).2)
  subst e9
  exact kk q H1 h1 h2 h3
theorem nv_newC {N : Nat} (hx : p.tables.exec = Jvm.exec) (hb : c.code = cc) (harr : (Cond.arrayClass .char).before args s = true) (hK : KK D z s) (hP : va_P D vwCl ws H) (hD : va_D A ws) (hS : va_S A H0 H locs) (hA : ∀ q, H0.size ≤ q → A q) (hN : N < 1000) (hcells : cells + 1 ≤ R.cells) (hslots : slots + N ≤ R.slots) (hdg : decode cc pc = .ok (.newarray .char, 2))
    (kk : ∀ (q : Nat) (H1 : Heap), va_P D vwCl (ws ++ [aC z q N (fun _ => 0)]) H1 → va_D A (ws ++ [aC z q N (fun _ => 0)]) → va_S A H0 H1 locs → W p l e R s m args below meth c H1 locs (cells + 1) (slots + N) Q (F0 m (pc + 2) ls (.ref q :: rest))) : W p l e R s m args below meth c H locs cells slots Q (F0 m pc ls (.int (nI N) :: rest)) := by
  refine va_newa (atype := .char) (ty := .char) (a0 := (N, .inl (fun _ => nI 0))) hx hb harr rfl hK.1 hP hD hS hA (fun cA => by rw [vp_cell_i, nI_0]; rfl) (nI_pos (by omega)) (nI_clamp (by omega)) (by show N * 2 ≤ _; omega) hcells hslots hdg (fun q cA H1 hK1 h1 h2 h3 => ?_)
  have e9 : cA = z 2 := Option.some.inj ((hK1.2 6 (cA, .char) rfl).2.symm.trans (hK.1.2 2 (z 2, .char) rfl).2)
  subst e9
  exact kk q H1 h1 h2 h3
theorem nv_newZ {N : Nat} (hx : p.tables.exec = Jvm.exec) (hb : c.code = cc) (harr : (Cond.arrayClass .boolean).before args s = true) (hK : KK D z s) (hP : va_P D vwCl ws H) (hD : va_D A ws) (hS : va_S A H0 H locs) (hA : ∀ q, H0.size ≤ q → A q) (hN : N < 1000) (hcells : cells + 1 ≤ R.cells) (hslots : slots + N ≤ R.slots) (hdg : decode cc pc = .ok (.newarray .boolean, 2))
    (kk : ∀ (q : Nat) (H1 : Heap), va_P D vwCl (ws ++ [aZ z q N (fun _ => 0)]) H1 → va_D A (ws ++ [aZ z q N (fun _ => 0)]) → va_S A H0 H1 locs → W p l e R s m args below meth c H1 locs (cells + 1) (slots + N) Q (F0 m (pc + 2) ls (.ref q :: rest))) : W p l e R s m args below meth c H locs cells slots Q (F0 m pc ls (.int (nI N) :: rest)) := by
  refine va_newa (atype := .boolean) (ty := .boolean) (a0 := (N, .inl (fun _ => nI 0))) hx hb harr rfl hK.1 hP hD hS hA (fun cA => by rw [vp_cell_i, nI_0]; rfl) (nI_pos (by omega)) (nI_clamp (by omega)) (by show N * 1 ≤ _; omega) hcells hslots hdg (fun q cA H1 hK1 h1 h2 h3 => ?_)
  have e9 : cA = z 3 := Option.some.inj ((hK1.2 6 (cA, .boolean) rfl).2.symm.trans (hK.1.2 3 (z 3, .boolean) rfl).2)
  subst e9
  exact kk q H1 h1 h2 h3
theorem nv_newP {own : String} {index N : Nat} (hx : p.tables.exec = Jvm.exec) (hb : c.code = cc) (hown : s.vm.findClass own = some m.cls) (hcl : (Cond.classLink own index "SeaJar$Plain").before args s = true) (hK : KK D z s) (hP : va_P D vwCl ws H) (hD : va_D A ws) (hS : va_S A H0 H locs) (hA : ∀ q, H0.size ≤ q → A q) (hN : N < 1000) (hcells : cells + 1 ≤ R.cells) (hslots : slots + N ≤ R.slots) (hdg : decode cc pc = .ok (.anewarray index, 3))
    (kk : ∀ (q : Nat) (H1 : Heap), va_P D vwCl (ws ++ [aP z q N (fun _ => none)]) H1 → va_D A (ws ++ [aP z q N (fun _ => none)]) → va_S A H0 H1 locs → W p l e R s m args below meth c H1 locs (cells + 1) (slots + N) Q (F0 m (pc + 3) ls (.ref q :: rest))) : W p l e R s m args below meth c H locs cells slots Q (F0 m pc ls (.int (nI N) :: rest)) := by
  refine va_newq hx hb hown hcl hK.2.2.1 hK.1 hP hD hS hA (nI_pos (by omega)) (nI_clamp (by omega)) (by omega) hcells hslots hdg (fun q cA H1 hK1 h1 h2 h3 => ?_)
  obtain ⟨_, _, -, -, -, f1⟩ := (hK1.2 6 (cA, .object "SeaJar$Plain") rfl).2
  obtain ⟨_, _, -, -, -, f2⟩ := (hK.1.2 4 (z 4, .object "SeaJar$Plain") rfl).2
  have e9 : cA = z 4 := Option.some.inj (f1.symm.trans f2)
  subst e9
  exact kk q H1 h1 h2 h3
theorem nv_newR {own : String} {index N : Nat} (hx : p.tables.exec = Jvm.exec) (hb : c.code = cc) (hown : s.vm.findClass own = some m.cls) (hcl : (Cond.classLink own index "SeaJar$Row").before args s = true) (hK : KK D z s) (hP : va_P D vwCl ws H) (hD : va_D A ws) (hS : va_S A H0 H locs) (hA : ∀ q, H0.size ≤ q → A q) (hN : N < 1000) (hcells : cells + 1 ≤ R.cells) (hslots : slots + N ≤ R.slots) (hdg : decode cc pc = .ok (.anewarray index, 3))
    (kk : ∀ (q : Nat) (H1 : Heap), va_P D vwCl (ws ++ [aR z q N (fun _ => none)]) H1 → va_D A (ws ++ [aR z q N (fun _ => none)]) → va_S A H0 H1 locs → W p l e R s m args below meth c H1 locs (cells + 1) (slots + N) Q (F0 m (pc + 3) ls (.ref q :: rest))) : W p l e R s m args below meth c H locs cells slots Q (F0 m pc ls (.int (nI N) :: rest)) := by
  refine va_newq hx hb hown hcl hK.2.2.2 hK.1 hP hD hS hA (nI_pos (by omega)) (nI_clamp (by omega)) (by omega) hcells hslots hdg (fun q cA H1 hK1 h1 h2 h3 => ?_)
  obtain ⟨_, _, -, -, -, f1⟩ := (hK1.2 6 (cA, .object "SeaJar$Row") rfl).2
  obtain ⟨_, _, -, -, -, f2⟩ := (hK.1.2 5 (z 5, .object "SeaJar$Row") rfl).2
  have e9 : cA = z 5 := Option.some.inj (f1.symm.trans f2)
  subst e9
  exact kk q H1 h1 h2 h3
/-- a row comes into the row of rows -/
theorem nv_rast (hx : p.tables.exec = Jvm.exec) (hb : c.code = cc) (hK : KK D z s) (hP : va_P D vwCl ws H) (hD : va_D A ws) (hS : va_S A H0 H locs) (q0 qk : Nat) {n v : Nat} {vs : List Value} {f : Nat → Option Nat} (ha : ws[q0]? = some (aR z a n f)) (hv : ws[qk]? = some (v, .inr (7, vs))) {i : Nat} (hi : i < n) (hn : n < 2 ^ 31) (hdg : decode cc pc = .ok (.aastore, 1)) (k : ∀ (H1 : Heap) (locs1 : List Loc), va_P D vwCl (ws.set q0 (aR z a n (va_up f i (some v)))) H1 → va_D A (ws.set q0 (aR z a n (va_up f i (some v)))) → va_S A H0 H1 locs1 → W p l e R s m args below meth c H1 locs1 cells slots Q (F0 m (pc + 1) ls rest)) : W p l e R s m args below meth c H locs cells slots Q (F0 m pc ls (.ref v :: .int (nI i) :: .ref a :: rest)) := va_astq (r := (RX7, TX7, 4)) hx hb hK.1 hP hD hS q0 5 qk 7 ha rfl hv rfl (vp_in_nI hi hn) hdg (fun H1 l1 h1 h2 h3 => by
  rw [nI_clamp (Nat.lt_trans hi hn)] at h1 h2
  exact k H1 l1 h1 h2 h3)
end NB4
