/-! THE TAPE as the class reads it: place pl, fault f (0: none; e + 1: at e) -/
def ftI (f : Nat) : Int32 := if f = 0 then -1 else nI (f - 1)
def faF (f w : Nat) : Nat := if f = 0 then w + 1 else f
theorem ftI_m1 {f : Nat} (h : f < 2 ^ 31) : ftI f = -1 ↔ f = 0 := by
  unfold ftI
  constructor
  · intro q
    by_cases h0 : f = 0
    · exact h0
    · rw [if_neg h0] at q
      have h1 := congrArg Int32.toInt q
      rw [nI_toInt (by omega), show ((-1 : Int32)).toInt = -1 from by decide] at h1
      omega
  · intro q; rw [if_pos q]
theorem ftI_s (w : Nat) : ftI (w + 1) = nI w := if_neg (Nat.succ_ne_zero w)
def acF (ta : Nat → Nat) (tn pl ch : Nat) : Nat := if isC ta tn pl ch then blk ta tn pl + 1 else blk ta tn pl
def exF (ta : Nat → Nat) (tn pl ch f : Nat) : Nat := if isC ta tn pl ch then f else faF f (blk ta tn pl)
def dgC (ta : Nat → Nat) (tn pl lo : Nat) : Nat := if isD ta tn pl lo then ta (blk ta tn pl) - 48 else lo
def dpF (ta : Nat → Nat) (tn pl lo : Nat) : Nat := if isD ta tn pl lo then blk ta tn pl + 1 else blk ta tn pl
def dfF (ta : Nat → Nat) (tn pl lo f : Nat) : Nat := if isD ta tn pl lo then f else faF f (blk ta tn pl)
def nfF (ta : Nat → Nat) (tn pl hi f : Nat) : Nat := if 1 ≤ nuV ta tn pl ∧ nuV ta tn pl ≤ hi then f else faF f (blk ta tn pl)
theorem ch_is {ta : Nat → Nat} {tn pl ch : Nat} (h : 0 < ch) : chA ta tn pl = ch ↔ isC ta tn pl ch := by
  unfold chA
  by_cases q : blk ta tn pl < tn
  · rw [if_pos q]; exact ⟨fun e => ⟨q, e⟩, fun e => e.2⟩
  · rw [if_neg q]; exact ⟨fun e => by omega, fun e => absurd e.1 q⟩
theorem dg_is {ta : Nat → Nat} {tn pl lo : Nat} : (48 + lo ≤ chA ta tn pl ∧ chA ta tn pl ≤ 57) ↔ isD ta tn pl lo := by
  unfold chA
  by_cases q : blk ta tn pl < tn
  · rw [if_pos q]; exact ⟨fun e => ⟨q, e.1, e.2⟩, fun e => ⟨e.2.1, e.2.2⟩⟩
  · rw [if_neg q]; exact ⟨fun e => by omega, fun e => absurd e.1 q⟩
theorem bk_tn {ta : Nat → Nat} {tn pl : Nat} (h : pl ≤ tn) : blk ta tn pl ≤ tn := by
  have := blk_le ta tn pl
  omega
theorem chA_l {ta : Nat → Nat} {tn pl : Nat} (ht : tOK ta tn) : chA ta tn pl < 128 := by
  unfold chA
  split
  · have := ht.2 (blk ta tn pl) (by assumption); omega
  · omega
theorem chA_0 {ta : Nat → Nat} {tn pl : Nat} (ht : tOK ta tn) : chA ta tn pl = 0 ↔ ¬ blk ta tn pl < tn := by
  unfold chA
  by_cases q : blk ta tn pl < tn
  · rw [if_pos q]; have := ht.2 _ q; exact ⟨fun e => by omega, fun e => absurd q e⟩
  · rw [if_neg q]; exact ⟨fun _ => q, fun _ => rfl⟩
theorem ac_tn {ta : Nat → Nat} {tn pl ch : Nat} (h : pl ≤ tn) : acF ta tn pl ch ≤ tn := by
  have := bk_tn (ta := ta) h
  unfold acF
  split
  · rename_i q; have := q.1; omega
  · exact this
theorem dp_tn {ta : Nat → Nat} {tn pl lo : Nat} (h : pl ≤ tn) : dpF ta tn pl lo ≤ tn := by
  have := bk_tn (ta := ta) h
  unfold dpF
  split
  · rename_i q; have := q.1; omega
  · exact this
/-- the class's reader against the abstract one -/
def simC (ta : Nat → Nat) (tn pl f : Nat) (q : Nat × Nat) : Prop := f = q.1 ∧ pl ≤ tn ∧ (q.1 = 0 → blk ta tn pl = blk ta tn q.2) ∧ q.1 ≤ tn + 1
theorem simC.chr {ta : Nat → Nat} {tn pl f ch : Nat} {q : Nat × Nat} (h : simC ta tn pl f q) : simC ta tn (acF ta tn pl ch) (exF ta tn pl ch f) (aChr ta tn ch q) := by
  obtain ⟨h1, h2, h3, h4⟩ := h
  have hb := bk_tn (ta := ta) h2
  by_cases h0 : q.1 = 0
  · have e := h3 h0
    unfold aChr exF
    rw [if_pos h0]
    by_cases hc : isC ta tn pl ch
    · rw [if_pos hc, if_pos ((isC_e e).mp hc)]
      refine ⟨by rw [h1, h0], ac_tn h2, fun _ => ?_, Nat.zero_le _⟩
      unfold acF; rw [if_pos hc, e]
    · rw [if_neg hc, if_neg (fun z => hc ((isC_e e).mpr z))]
      refine ⟨?_, ac_tn h2, fun z => absurd z (Nat.succ_ne_zero _), ?_⟩
      · unfold faF; rw [if_pos (h1.trans h0), e]
      · show blk ta tn q.2 + 1 ≤ tn + 1; rw [← e]; omega
  · unfold aChr exF faF
    rw [if_neg h0]
    refine ⟨?_, ac_tn h2, fun z => absurd z h0, h4⟩
    by_cases hc : isC ta tn pl ch
    · rw [if_pos hc]; exact h1
    · rw [if_neg hc, if_neg (by omega)]; exact h1
theorem simC.dig {ta : Nat → Nat} {tn pl f lo : Nat} {q : Nat × Nat} (h : simC ta tn pl f q) : simC ta tn (dpF ta tn pl lo) (dfF ta tn pl lo f) (aDig ta tn lo q) := by
  obtain ⟨h1, h2, h3, h4⟩ := h
  have hb := bk_tn (ta := ta) h2
  by_cases h0 : q.1 = 0
  · have e := h3 h0
    unfold aDig dfF
    rw [if_pos h0]
    by_cases hc : isD ta tn pl lo
    · rw [if_pos hc, if_pos ((isD_e e).mp hc)]
      refine ⟨by rw [h1, h0], dp_tn h2, fun _ => ?_, Nat.zero_le _⟩
      unfold dpF; rw [if_pos hc, e]
    · rw [if_neg hc, if_neg (fun z => hc ((isD_e e).mpr z))]
      refine ⟨?_, dp_tn h2, fun z => absurd z (Nat.succ_ne_zero _), ?_⟩
      · unfold faF; rw [if_pos (h1.trans h0), e]
      · show blk ta tn q.2 + 1 ≤ tn + 1; rw [← e]; omega
  · unfold aDig dfF faF
    rw [if_neg h0]
    refine ⟨?_, dp_tn h2, fun z => absurd z h0, h4⟩
    by_cases hc : isD ta tn pl lo
    · rw [if_pos hc]; exact h1
    · rw [if_neg hc, if_neg (by omega)]; exact h1
theorem simC.num {ta : Nat → Nat} {tn pl f hi : Nat} {q : Nat × Nat} (h : simC ta tn pl f q) : simC ta tn (blk ta tn pl + dcF ta tn (blk ta tn pl)) (nfF ta tn pl hi f) (aNum ta tn hi q) := by
  obtain ⟨h1, h2, h3, h4⟩ := h
  have hb := bk_tn (ta := ta) h2
  have hd := dc_tn (ta := ta) (tn := tn) hb
  by_cases h0 : q.1 = 0
  · have e := h3 h0
    unfold aNum nfF
    rw [if_pos h0, nuV_e e]
    by_cases hc : 1 ≤ nuV ta tn q.2 ∧ nuV ta tn q.2 ≤ hi
    · rw [if_pos hc, if_pos hc]
      exact ⟨by rw [h1, h0], hd, fun _ => by rw [e], Nat.zero_le _⟩
    · rw [if_neg hc, if_neg hc]
      refine ⟨?_, hd, fun z => absurd z (Nat.succ_ne_zero _), ?_⟩
      · unfold faF; rw [if_pos (h1.trans h0), e]
      · show blk ta tn q.2 + 1 ≤ tn + 1; rw [← e]; omega
  · unfold aNum nfF faF
    rw [if_neg h0]
    refine ⟨?_, hd, fun z => absurd z h0, h4⟩
    by_cases hc : 1 ≤ nuV ta tn pl ∧ nuV ta tn pl ≤ hi
    · rw [if_pos hc]; exact h1
    · rw [if_neg hc, if_neg (by omega)]; exact h1
theorem simC.opt {ta : Nat → Nat} {tn pl f ch : Nat} {q : Nat × Nat} (h : simC ta tn pl f q) : simC ta tn (acF ta tn pl ch) f (aOpt ta tn ch q) := by
  obtain ⟨h1, h2, h3, h4⟩ := h
  by_cases h0 : q.1 = 0
  · have e := h3 h0
    unfold aOpt
    by_cases hc : isC ta tn pl ch
    · rw [if_pos ⟨h0, (isC_e e).mp hc⟩]
      refine ⟨by rw [h1, h0], ac_tn h2, fun _ => ?_, Nat.zero_le _⟩
      unfold acF; rw [if_pos hc, e]
    · rw [if_neg (fun z => hc ((isC_e e).mpr z.2))]
      refine ⟨h1, ac_tn h2, fun _ => ?_, h4⟩
      unfold acF; rw [if_neg hc, blk_blk]; exact e
  · unfold aOpt
    rw [if_neg (fun z => h0 z.1)]
    exact ⟨h1, ac_tn h2, fun z => absurd z h0, h4⟩
theorem simC.look {ta : Nat → Nat} {tn pl f : Nat} {q : Nat × Nat} (h : simC ta tn pl f q) : simC ta tn (blk ta tn pl) f q := ⟨h.1, bk_tn h.2.1, fun z => by rw [blk_blk]; exact h.2.2.1 z, h.2.2.2⟩
/-- a kind by its letter -/
def kdI (c : Nat) : Int32 := if kdF c ≤ 5 then nI (kdF c) else -1
theorem kdI_no {c : Nat} (h1 : c ≠ 112) (h2 : c ≠ 98) (h3 : c ≠ 103) (h4 : c ≠ 104) (h5 : c ≠ 115) (h6 : c ≠ 99) : kdI c = -1 := by
  have e : kdF c = 4294967292 := by
    unfold kdF
    rw [if_neg h1, if_neg h2, if_neg h3, if_neg h4, if_neg h5, if_neg h6]
  unfold kdI
  rw [e]
  rfl
theorem simC.kin {ta : Nat → Nat} {tn pl f : Nat} {q : Nat × Nat} (h : simC ta tn pl f q) (hk : kdF (chA ta tn pl) ≤ 5) : simC ta tn (blk ta tn pl + 1) f (aKin ta tn q) := by
  obtain ⟨h1, h2, h3, h4⟩ := h
  have hl := kd_tn hk
  unfold aKin
  by_cases h0 : q.1 = 0
  · have e := h3 h0
    rw [if_pos h0, if_pos (by rw [← chA_e e]; exact hk)]
    exact ⟨by rw [h1, h0], by omega, fun _ => by rw [e], Nat.zero_le _⟩
  · rw [if_neg h0]; exact ⟨h1, by omega, fun z => absurd z h0, h4⟩
theorem simC.kin0 {ta : Nat → Nat} {tn pl f : Nat} {q : Nat × Nat} (h : simC ta tn pl f q) (hk : ¬ kdF (chA ta tn pl) ≤ 5) : simC ta tn (blk ta tn pl) (faF f (blk ta tn pl)) (aPer ta tn q) ∧ (aPer ta tn q).1 ≠ 0 := by
  obtain ⟨h1, h2, h3, h4⟩ := h
  have hb := bk_tn (ta := ta) h2
  have key : ∀ x : Nat × Nat, x.1 ≠ 0 → aOpt ta tn 120 (aDig ta tn 0 (aDig ta tn 0 (aDig ta tn 1 x))) = x := by
    intro x hx
    have d1 : ∀ lo, aDig ta tn lo x = x := fun lo => by unfold aDig; rw [if_neg hx]
    rw [d1, d1, d1]
    unfold aOpt
    rw [if_neg (fun z => hx z.1)]
  show simC ta tn _ _ (aOpt ta tn 120 (aDig ta tn 0 (aDig ta tn 0 (aDig ta tn 1 (aKin ta tn q))))) ∧ (aOpt ta tn 120 (aDig ta tn 0 (aDig ta tn 0 (aDig ta tn 1 (aKin ta tn q))))).1 ≠ 0
  by_cases h0 : q.1 = 0
  · have e := h3 h0
    have ek : aKin ta tn q = (blk ta tn q.2 + 1, 0) := by unfold aKin; rw [if_pos h0, if_neg (by rw [← chA_e e]; exact hk)]
    rw [ek, key _ (Nat.succ_ne_zero _)]
    refine ⟨⟨?_, hb, fun z => absurd z (Nat.succ_ne_zero _), ?_⟩, Nat.succ_ne_zero _⟩
    · unfold faF; rw [if_pos (h1.trans h0), e]
    · show blk ta tn q.2 + 1 ≤ tn + 1; rw [← e]; omega
  · have ek : aKin ta tn q = q := by unfold aKin; rw [if_neg h0]
    rw [ek, key _ h0]
    refine ⟨⟨?_, hb, fun z => absurd z h0, h4⟩, h0⟩
    unfold faF; rw [if_neg (by omega)]; exact h1
theorem dgC_V {ta : Nat → Nat} {tn pl lo : Nat} (h : isD ta tn pl lo) : dgC ta tn pl lo = dgV ta tn pl lo := by
  unfold dgC dgV
  rw [if_pos h, if_pos h]
theorem aDig_is {ta : Nat → Nat} {tn lo : Nat} {q : Nat × Nat} (h : (aDig ta tn lo q).1 = 0) : isD ta tn q.2 lo := by
  have h0 := aDig_0 h
  unfold aDig at h
  rw [if_pos h0] at h
  by_cases q9 : isD ta tn q.2 lo
  · exact q9
  · rw [if_neg q9] at h; exact absurd h (Nat.succ_ne_zero _)
theorem dgC_le {ta : Nat → Nat} {tn pl lo : Nat} (h : lo ≤ 9) : dgC ta tn pl lo ≤ 9 := by
  unfold dgC
  split
  · rename_i q; have := q.2.2; omega
  · exact h
theorem nuV_b (ta : Nat → Nat) (tn pl : Nat) : nuV ta tn pl < 10000 := by
  have h4 := dcF_le ta tn (blk ta tn pl)
  have key : ∀ i, i < dcF ta tn (blk ta tn pl) → dig ta tn (blk ta tn pl + i) := by
    intro i hi
    unfold dcF at hi
    by_cases a0 : dig ta tn (blk ta tn pl + 0)
    · rw [if_pos a0] at hi
      by_cases a1 : dig ta tn (blk ta tn pl + 1)
      · rw [if_pos a1] at hi
        by_cases a2 : dig ta tn (blk ta tn pl + 2)
        · rw [if_pos a2] at hi
          by_cases a3 : dig ta tn (blk ta tn pl + 3)
          · rw [if_pos a3] at hi
            rcases (show i = 0 ∨ i = 1 ∨ i = 2 ∨ i = 3 by omega) with rfl | rfl | rfl | rfl
            · exact a0
            · exact a1
            · exact a2
            · exact a3
          · rw [if_neg a3] at hi
            rcases (show i = 0 ∨ i = 1 ∨ i = 2 by omega) with rfl | rfl | rfl
            · exact a0
            · exact a1
            · exact a2
        · rw [if_neg a2] at hi
          rcases (show i = 0 ∨ i = 1 by omega) with rfl | rfl
          · exact a0
          · exact a1
      · rw [if_neg a1] at hi
        rcases (show i = 0 by omega) with rfl
        exact a0
    · rw [if_neg a0] at hi; omega
  have h1 := nvF_le key
  have h2 := p10_le h4
  unfold nuV
  omega
/-! the letters of the kinds: a String that is never written -/
def kdB : List Int32 := [112, 98, 103, 104, 115, 99]
def SE (z : Nat → ClassId) (A : Nat → Prop) (U : State) (H : Heap) : Prop := vk_R "SeaJar$Tape" 63 "pbghsc" (z 6) U ∧ vk_S 1 [6] [kdB] (fun _ => z 6) (fun _ => z 7) A U H ∧ va_Z "java/lang/String" "COMPACT_STRINGS" "Z" (.int 1) A U H
theorem SE.like {z : Nat → ClassId} {A : Nat → Prop} {u U : State} {H : Heap} (hv : u.vm.Alike U.vm) (hr : vk_R "SeaJar$Tape" 63 "pbghsc" (z 6) U) (h : SE z A u H) : SE z A U H := ⟨hr, h.2.1.moved hv, h.2.2.moved hv⟩
theorem SE.same {z : Nat → ClassId} {A : Nat → Prop} {u U : State} {H : Heap} (hv : u.vm = U.vm) (h : SE z A u H) : SE z A U H := h.like (by rw [hv]; exact Vm.Alike.refl _) (h.1.same hv.symm)
theorem SE.warm {z : Nat → ClassId} {A : Nat → Prop} {s U : State} {H : Heap} (hW : s.WarmedH U.vm) (h : SE z A s H) : SE z A U H := h.like hW.alike (h.1.warm hW)
theorem SE.kept {z : Nat → ClassId} {A : Nat → Prop} {U : State} {H H1 : Heap} (h : SE z A U H) (hq : ∀ a : Nat, a < H.size → ¬ A a → H1[a]? = H[a]?) : SE z A U H1 := ⟨h.1, h.2.1.kept hq, h.2.2.kept hq⟩
theorem SE.narrow {z : Nat → ClassId} {A B : Nat → Prop} {U : State} {H : Heap} (h : SE z A U H) (hAB : ∀ q, B q → A q) : SE z B U H := ⟨h.1, h.2.1.narrow hAB, h.2.2.narrow hAB⟩
theorem SE.O {z : Nat → ClassId} {A : Nat → Prop} {U : State} {H : Heap} (h : SE z A U H) : va_O "java/lang/String" (z 6) A U H := (h.2.1.1 0 (by decide)).1
theorem SE.co {z : Nat → ClassId} {A : Nat → Prop} {U : State} {H : Heap} (h : SE z A U H) : va_OF "java/lang/String" "coder" "B" (.int (nI 0)) (z 6) A U H := (h.2.1.1 0 (by decide)).2.1
theorem SE.va {z : Nat → ClassId} {A : Nat → Prop} {U : State} {H : Heap} (h : SE z A U H) : va_OF "java/lang/String" "value" "[B" (.ref (z 7)) (z 6) A U H := (h.2.1.1 0 (by decide)).2.2.1
theorem SE.T {z : Nat → ClassId} {A : Nat → Prop} {U : State} {H : Heap} (h : SE z A U H) : va_T .byte (z 7) 6 (fun j => .int (kdB.getD j 0)) A U H := (h.2.1.1 0 (by decide)).2.2.2
def nRS (D : va_G) (z : Nat → ClassId) : State → Prop := fun U => KK D z U ∧ SE z (fun _ => False) U U.heap
theorem nRS_blind {D : va_G} {z : Nat → ClassId} {av : List Value} : FrameBlind (va_Pc av (nRS D z)) := fun a U g mk q => by
  obtain ⟨q0, qK, qE⟩ := q
  exact ⟨q0, KK.same (u := U) (U := U.calling g mk a) rfl qK, SE.same (u := U) (U := U.calling g mk a) rfl qE⟩
abbrev CPS (l : Launch) (y : MethodName) (b : ByteArray) (n : Nat) (r : Option FieldType) (fr lo : Nat) (As : List Value) (D : va_G) (z : Nat → ClassId) (v : Option Value) : Prop := Met l y (wA y b n r) { frames := fr, cells := 0, slots := 0, locals := lo } (va_Pc As (nRS D z)) (nS v) 0 0 (fun _ => False)
/-- contracts that know the letters beside their world -/
def nPS (D : va_G) (z : Nat → ClassId) (w0 : va_W) (sz : Nat) (E : Heap → Prop) : State → Prop := fun U => nP D z w0 sz E U ∧ SE z (va_A w0 sz) U U.heap
theorem nPS_blind {D : va_G} {z : Nat → ClassId} {w0 : va_W} {sz : Nat} {E : Heap → Prop} {av : List Value} : FrameBlind (va_Pc av (nPS D z w0 sz E)) := fun a U g mk q => by
  obtain ⟨q0, ⟨q1, qP, qK, qD, qE⟩, qS⟩ := q
  exact ⟨q0, ⟨q1, qP, KK.same (u := U) (U := U.calling g mk a) rfl qK, qD, qE⟩, SE.same (u := U) (U := U.calling g mk a) rfl qS⟩
abbrev CXS {σ : Type} (l : Launch) (y : MethodName) (b : ByteArray) (n : Nat) (r : Option FieldType) (fr lo mc ms : Nat) (As : List Value) (D : va_G) (z : Nat → ClassId) (w0 : va_W) (sz : Nat) (E : Heap → Prop) (w1 : σ → va_W) (v : Option Value) (E1 : σ → Heap → Prop) : Prop := Met l y (wA y b n r) { frames := fr, cells := mc, slots := ms, locals := lo } (va_Pc As (nPS D z w0 sz E)) (nQx D w1 v E1 (va_A w0 sz)) mc ms (va_A w0 sz)
section NS8
variable {p : Program} {l : Launch} {e : Env} {R : Room} {s : State} {m : MethodId} {args : Array Value} {below : List Frame} {meth : Method} {c : Code} {H : Heap} {locs : List Loc} {cells slots : Nat} {Q : State → Prop}
variable {cc : ByteArray} {pc : Nat} {ls : Array Slot} {rest st0 : List Value} {D : va_G} {z : Nat → ClassId} {A : Nat → Prop} {a : Nat} {ws wc : va_W} {E : Heap → Prop}
theorem nv_preSS (hK : KK D z s) (hSE : SE z (fun _ => False) s H) (As : List Value) : PreS s H (va_Pc As (nRS D z)) As := ⟨nRS_blind, fun U hU hW => ⟨rfl, hK.warm hW, by rw [hU]; exact hSE.warm hW⟩⟩
theorem nv_preSV (hK : KK D z s) (hSE : SE z (fun _ => False) s H) (As : List Value) : PreV s H "java/lang/String" (z 6) (va_Pc (.ref (z 6) :: As) (nRS D z)) As := ⟨nRS_blind, by obtain ⟨cell, h1, h2, h3, -⟩ := hSE.O; exact ⟨cell, h1, h2, h3⟩, fun U hU hW => ⟨rfl, hK.warm hW, by rw [hU]; exact hSE.warm hW⟩⟩
/-- at a call: the letters beside the callee's world -/
theorem SE.at {H0 : Heap} (h : SE z A s H0) (hD : va_D A ws) (hS : va_S A H0 H locs) (hA : ∀ q, H0.size ≤ q → A q) (isC9 : List Nat) (hC : isC9.map (fun i => ws[i]?) = wc.map some) : SE z (va_A wc H.size) s H := (h.kept hS.2.1).narrow (va_free (wc := wc) hD hS hA isC9 hC)
theorem SE.no {H0 : Heap} (h : SE z A s H0) (hS : va_S A H0 H locs) : SE z (fun _ => False) s H := (h.kept hS.2.1).narrow (fun _ q => q.elim)
theorem nv_preXS (hK : KK D z s) (hP : va_P D vwCl wc H) (hD : va_D A wc) (hE : E H) (hSE : SE z (va_A wc H.size) s H) {b : Nat} {As : List Value} {ci q0 : Nat} {q : vw_C} {fs : List Value} (hc : vwCl[ci]? = some q) (he : wc[q0]? = some (b, .inr (ci, fs))) : PreV s H q.1 b (va_Pc (.ref b :: As) (nPS D z wc H.size E)) As := ⟨nPS_blind, va_recv hK.1 hP hc he, fun U hU hW => ⟨rfl, ⟨by rw [hU], by rw [hU]; exact hP, hK.warm hW, hD.weaken (fun _ _ _ _ => trivial), by rw [hU]; exact hE⟩, by rw [hU]; exact hSE.warm hW⟩⟩
/-- a loop in which cells may be made -/
theorem nv_loopG {σ : Type} (I : σ → Heap → List Loc → Array Slot → Prop) (μ κ : σ → Nat) (pc : Nat) (st : List Value)
    (body : ∀ (x : σ) (H : Heap) (locs : List Loc) (ls : Array Slot), I x H locs ls → (∀ (y : σ) (H' : Heap) (locs' : List Loc) (ls' : Array Slot), μ y < μ x → I y H' locs' ls' → W p l e R s m args below meth c H' locs' (κ y) (κ y) Q (F0 m pc ls' st)) → W p l e R s m args below meth c H locs (κ x) (κ x) Q (F0 m pc ls st)) :
    ∀ (x : σ) {H : Heap} {locs : List Loc} {ls : Array Slot}, I x H locs ls → W p l e R s m args below meth c H locs (κ x) (κ x) Q (F0 m pc ls st) := by
  have key : ∀ (n : Nat) (x : σ) (H : Heap) (locs : List Loc) (ls : Array Slot), μ x < n → I x H locs ls → W p l e R s m args below meth c H locs (κ x) (κ x) Q (F0 m pc ls st) := by
    intro n
    induction n with
    | zero => intro x H locs ls h; exact absurd h (Nat.not_lt_zero _)
    | succ n ih => intro x H locs ls h hI; exact body x H locs ls hI (fun y H' locs' ls' hy hI' => ih y H' locs' ls' (by omega) hI')
  exact fun x {H locs ls} hI => key (μ x + 1) x H locs ls (Nat.lt_succ_self _) hI
/-- a field is put; no other cell changes -/
theorem nv_putK {H0 : Heap} (hx : p.tables.exec = Jvm.exec) (hb : c.code = cc) {own ref C : String} {T : u_T} {N ci index : Nat} {Ts : List Cond} (hts : ∀ w ∈ Ts, w.before args s = true) (hin : ∀ w ∈ u_ws C T N, w ∈ Ts) (ty0 : Nat → FieldType) (hty : ∀ k, k < N → parseFieldDescriptor (T k).2.2.1 = some (ty0 k)) (hnm : ∀ a, a < N → ∀ b, b < N → a ≠ b → (T a).2.1 ≠ (T b).2.1) (hown : s.vm.findClass own = some m.cls) {tys : List (ClassId × FieldType)} (hK : va_K D vwCl tys s) (hP : va_P D vwCl ws H) (hD : va_D A ws) (hS0 : va_S A H0 H locs) (q0 : Nat) {fs : List Value} (he : ws[q0]? = some (a, .inr (ci, fs))) (hc : vwCl[ci]? = some (C, T, N)) (k : Nat) (hk : k < N) (hlink : (Cond.fieldLink own index ref (T k).2.1 (T k).2.2.1).before args s = true) (hsame : ∀ x, s.fieldFound? (T k).1 (T k).2.1 (T k).2.2.1 = some x → s.fieldFound? ref (T k).2.1 (T k).2.2.1 = some x) (hfin : (T k).2.2.2 = false) {ty : FieldType} {v : Value} (hd : parseFieldDescriptor (T k).2.2.1 = some ty) (hn : narrow ty v = v) (hfit : fits ty v = true) (hl : k < fs.length)
    (hdg : decode cc pc = .ok (.putfield index, 3)) (kk : ∀ (H1 : Heap) (locs1 : List Loc), va_P D vwCl (ws.set q0 (a, .inr (ci, fs.set k v))) H1 → va_D A (ws.set q0 (a, .inr (ci, fs.set k v))) → va_S A H0 H1 locs1 → (∀ q : Nat, q ≠ a → H1[q]? = H[q]?) → W p l e R s m args below meth c H1 locs1 cells slots Q (F0 m (pc + 3) ls rest)) : W p l e R s m args below meth c H locs cells slots Q (F0 m pc ls (v :: .ref a :: rest)) := by
  have hap := va_apart (own := own) hts hin ty0 hty hnm hK hc
  obtain ⟨r, h1, cell, q1, q2, q3, q4⟩ := hP q0 _ he
  have hr : r = (C, T, N) := Option.some.inj (h1.symm.trans hc)
  subst hr
  obtain ⟨hS, hfc, kC, hkC, hkind⟩ := hK.1 ci _ hc
  obtain ⟨cf, kf, fi, f, hi, hsl⟩ := hS k hk
  have hlay := hts _ (hin _ (u_in_lay hk))
  unfold u_lay at hlay
  rw [if_neg (by rw [hfin]; decide)] at hlay
  have hst := (u_facts hfc hkC (u_lays hts hin hk) hi).1
  have h6 := u_store hfc hkC hkind hlay hi hd hn hfit
  refine W.putK hx hb (f := f) ⟨hown, hlink, ⟨_, _, _, hsame _ hi⟩, hst⟩ (by rw [q2]; exact h6) q1 q3 (by rw [hsl]; exact k2_hasslot (q4 k hk)) rfl rfl hdg fun H' e1 e2 e3 => ?_
  rw [hsl] at e1 ⊢
  exact kk H' _ (hP.set hD he ⟨_, hc, t_OB.to (V := updV (vp_V fs) k v) ⟨_, e1, q2, q3, t_set q4 hap hk v⟩ (fun j _ => vp_updV_set hl v j)⟩ e3) (hD.set he) (hS0.put e2 e3 (hD.2 q0 _ he)) e3
end NS8
theorem peH.put {D : va_G} {ws w1 : va_W} {pf : Nat → Option Nat} {r : Nat → Nat} {H H1 : Heap} {a : Nat} (h : peH D ws pf r H) (e : w1.map Prod.fst = ws.map Prod.fst) (k : Nat) {x : va_E} (ha : ws[k]? = some (a, x)) (hk : ∀ q : Nat, q ≠ a → H1[q]? = H[q]?) : peH D w1 pf r H1 := h.mv (fun b _ hb => ⟨hb.same e, hk b (fun q => hb k _ ha q.symm)⟩)
/-- a house read from the tape: the row before its people, on a row r -/
def cF0 (ta : Nat → Nat) (tn : Nat) (r : Nat → Nat) : Nat → Nat := uN (uN (uN r 1 (nuV ta tn 0)) 2 (nuV ta tn (aH2 ta tn).2)) 3 (dgV ta tn (aH4 ta tn).2 0)
def cHR (ta : Nat → Nat) (tn : Nat) (r : Nat → Nat) : Nat → Nat := aLoR ta tn 6 (aH6 ta tn) (cF0 ta tn r)
def hcRel (ta : Nat → Nat) (tn : Nat) (r : Nat → Nat) (un : Nat) (r1 : Nat → Nat) (un1 : Nat) (v : Int32) : Prop :=
  ((aHS ta tn).1 ≠ 0 → r1 = r ∧ un1 = un ∧ v = -20 - nI ((aHS ta tn).1 - 1)) ∧ ((aHS ta tn).1 = 0 → r1 = cHR ta tn (mvR r) ∧ un1 = 0 ∧ v = nI (cHR ta tn (mvR r) 6))
