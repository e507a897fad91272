/-! arrays of longs, of truths, of letters; rows over them -/
abbrev aZ (z : Nat → ClassId) (a n : Nat) (f : Nat → Nat) : Nat × va_E := (a, .inl (z 3, n, .inl (fun j => nI (f j))))
abbrev aC (z : Nat → ClassId) (a n : Nat) (f : Nat → Nat) : Nat × va_E := (a, .inl (z 2, n, .inl (fun j => nI (f j))))
abbrev aL (z : Nat → ClassId) (a n : Nat) (f : Nat → Int64) : Nat × va_E := (a, .inl (z 1, n, .inr (.inl f)))
abbrev aP (z : Nat → ClassId) (a n : Nat) (f : Nat → Option Nat) : Nat × va_E := (a, .inl (z 4, n, .inr (.inr (.inr (.inr f)))))
abbrev aR (z : Nat → ClassId) (a n : Nat) (f : Nat → Option Nat) : Nat × va_E := (a, .inl (z 5, n, .inr (.inr (.inr (.inr f)))))
theorem nar_b {v : Nat} (h : v ≤ 1) : vp_nar .boolean (nI v) = nI v := by
  rcases (show v = 0 ∨ v = 1 by omega) with rfl | rfl <;> decide +kernel
theorem nar_c : ∀ v, v < 128 → vp_nar .char (nI v) = nI v := by decide +kernel
theorem lx_add (x y : Int32) : (x.toInt64 + y.toInt64).toInt = x.toInt + y.toInt := by
  have h1 := Int32.le_toInt x
  have h2 := Int32.toInt_lt x
  have h3 := Int32.le_toInt y
  have h4 := Int32.toInt_lt y
  rw [Int64.toInt_add, nv_lx, nv_lx]
  exact Int.bmod_eq_of_le (by omega) (by omega)
section NV2
variable {p : Program} {l : Launch} {e : Env} {R : Room} {s : State} {m : MethodId} {args : Array Value} {below : List Frame} {meth : Method} {c : Code} {H : Heap} {locs : List Loc} {cells slots : Nat} {Q : State → Prop}
variable {cc : ByteArray} {pc : Nat} {ls : Array Slot} {rest : List Value} {D : va_G} {z : Nat → ClassId} {A : Nat → Prop} {a : Nat} {ws : va_W} {H0 : Heap}
theorem nv_zald (hx : p.tables.exec = Jvm.exec) (hb : c.code = cc) (hK : KK D z s) (hP : va_P D vwCl ws H) (q0 : Nat) {n : Nat} {f : Nat → Nat} (ha : ws[q0]? = some (aZ z a n f)) {i : Nat} (hi : i < n) (hn : n < 2 ^ 31) (hdg : decode cc pc = .ok (.baload, 1)) (k : W p l e R s m args below meth c H locs cells slots Q (F0 m (pc + 1) ls (.int (nI (f i)) :: rest))) : W p l e R s m args below meth c H locs cells slots Q (F0 m pc ls (.int (nI i) :: .ref a :: rest)) := va_zald hx hb hK.1 hP q0 3 ha rfl (vp_in_nI hi hn) hdg (by rw [nI_clamp (Nat.lt_trans hi hn)]; exact k)
theorem nv_cald (hx : p.tables.exec = Jvm.exec) (hb : c.code = cc) (hK : KK D z s) (hP : va_P D vwCl ws H) (q0 : Nat) {n : Nat} {f : Nat → Nat} (ha : ws[q0]? = some (aC z a n f)) {i : Nat} (hi : i < n) (hn : n < 2 ^ 31) (hdg : decode cc pc = .ok (.caload, 1)) (k : W p l e R s m args below meth c H locs cells slots Q (F0 m (pc + 1) ls (.int (nI (f i)) :: rest))) : W p l e R s m args below meth c H locs cells slots Q (F0 m pc ls (.int (nI i) :: .ref a :: rest)) := va_cald hx hb hK.1 hP q0 2 ha rfl (vp_in_nI hi hn) hdg (by rw [nI_clamp (Nat.lt_trans hi hn)]; exact k)
theorem nv_lald (hx : p.tables.exec = Jvm.exec) (hb : c.code = cc) (hK : KK D z s) (hP : va_P D vwCl ws H) (q0 : Nat) {n : Nat} {f : Nat → Int64} (ha : ws[q0]? = some (aL z a n f)) {i : Nat} (hi : i < n) (hn : n < 2 ^ 31) (hdg : decode cc pc = .ok (.laload, 1)) (k : W p l e R s m args below meth c H locs cells slots Q (F0 m (pc + 1) ls (.long (f i) :: rest))) : W p l e R s m args below meth c H locs cells slots Q (F0 m pc ls (.int (nI i) :: .ref a :: rest)) := va_lald hx hb hK.1 hP q0 1 ha rfl (vp_in_nI hi hn) hdg (by rw [nI_clamp (Nat.lt_trans hi hn)]; exact k)
theorem nv_zast (hx : p.tables.exec = Jvm.exec) (hb : c.code = cc) (hK : KK D z s) (hP : va_P D vwCl ws H) (hD : va_D A ws) (hS : va_S A H0 H locs) (q0 : Nat) {n : Nat} {f : Nat → Nat} (ha : ws[q0]? = some (aZ z a n f)) {i v : Nat} (hi : i < n) (hn : n < 2 ^ 31) (hv : v ≤ 1) (hdg : decode cc pc = .ok (.bastore, 1)) (k : ∀ (H1 : Heap) (locs1 : List Loc), va_P D vwCl (ws.set q0 (aZ z a n (uN f i v))) H1 → va_D A (ws.set q0 (aZ z a n (uN f i v))) → va_S A H0 H1 locs1 → W p l e R s m args below meth c H1 locs1 cells slots Q (F0 m (pc + 1) ls rest)) : W p l e R s m args below meth c H locs cells slots Q (F0 m pc ls (.int (nI v) :: .int (nI i) :: .ref a :: rest)) := va_zast hx hb hK.1 hP hD hS q0 3 ha rfl (vp_in_nI hi hn) hdg (fun H1 l1 h1 h2 h3 => by
  rw [nI_clamp (Nat.lt_trans hi hn), nar_b hv, upd_nI] at h1 h2
  exact k H1 l1 h1 h2 h3)
theorem nv_cast (hx : p.tables.exec = Jvm.exec) (hb : c.code = cc) (hK : KK D z s) (hP : va_P D vwCl ws H) (hD : va_D A ws) (hS : va_S A H0 H locs) (q0 : Nat) {n : Nat} {f : Nat → Nat} (ha : ws[q0]? = some (aC z a n f)) {i v : Nat} (hi : i < n) (hn : n < 2 ^ 31) (hv : v < 128) (hdg : decode cc pc = .ok (.castore, 1)) (k : ∀ (H1 : Heap) (locs1 : List Loc), va_P D vwCl (ws.set q0 (aC z a n (uN f i v))) H1 → va_D A (ws.set q0 (aC z a n (uN f i v))) → va_S A H0 H1 locs1 → W p l e R s m args below meth c H1 locs1 cells slots Q (F0 m (pc + 1) ls rest)) : W p l e R s m args below meth c H locs cells slots Q (F0 m pc ls (.int (nI v) :: .int (nI i) :: .ref a :: rest)) := va_cast hx hb hK.1 hP hD hS q0 2 ha rfl (vp_in_nI hi hn) hdg (fun H1 l1 h1 h2 h3 => by
  rw [nI_clamp (Nat.lt_trans hi hn), nar_c v hv, upd_nI] at h1 h2
  exact k H1 l1 h1 h2 h3)
theorem nv_last (hx : p.tables.exec = Jvm.exec) (hb : c.code = cc) (hK : KK D z s) (hP : va_P D vwCl ws H) (hD : va_D A ws) (hS : va_S A H0 H locs) (q0 : Nat) {n : Nat} {f : Nat → Int64} (ha : ws[q0]? = some (aL z a n f)) {i : Nat} {v : Int64} (hi : i < n) (hn : n < 2 ^ 31) (hdg : decode cc pc = .ok (.lastore, 1)) (k : ∀ (H1 : Heap) (locs1 : List Loc), va_P D vwCl (ws.set q0 (aL z a n (vp_updL f i v))) H1 → va_D A (ws.set q0 (aL z a n (vp_updL f i v))) → va_S A H0 H1 locs1 → W p l e R s m args below meth c H1 locs1 cells slots Q (F0 m (pc + 1) ls rest)) : W p l e R s m args below meth c H locs cells slots Q (F0 m pc ls (.long v :: .int (nI i) :: .ref a :: rest)) := va_last hx hb hK.1 hP hD hS q0 1 ha rfl (vp_in_nI hi hn) hdg (fun H1 l1 h1 h2 h3 => by
  rw [nI_clamp (Nat.lt_trans hi hn)] at h1 h2
  exact k H1 l1 h1 h2 h3)
theorem nv_rl {x v : Int64} (hx : p.tables.exec = Jvm.exec) (hb : c.code = cc) (hr : meth.sig.returnType = some .long) (hlocks : meth.locks = false) (hdg : decode cc pc = .ok (.lreturn, 1)) (hv : x = v) : W p l e R s m args below meth c s.heap [] 0 0 (MQ below (nS (some (.long v))) args s 0 0 (fun _ => False)) (F0 m pc ls [.long x]) := by
  subst hv
  exact W.lret hx hb hr (fun t ht _ => ⟨rfl, ht⟩) nv_nl hdg hlocks
end NV2
/-! 24 taken .. 29 copy: sheets. sh: is there one (0, 1); ln: its lane; mn: how many items; it: all items, 24 to a sheet -/
def cutF (lane : Nat) (v : Int64) : Int64 := if lane = 0 then v.toInt32.toInt8.toInt32.toInt64 else if lane = 1 then v.toInt32.toInt16.toInt32.toInt64 else if lane = 2 then v.toInt32.toInt64 else v
abbrev inb (i n : Int32) (M : Nat) : Prop := 0 ≤ i.toInt ∧ 0 ≤ n.toInt ∧ i.toInt + n.toInt ≤ (M : Int)
def foV (h l M : Nat) (av i n : Int32) : Int32 := if h = 0 then -11 else if nI l = av then (if inb i n M then nI 0 else -13) else -12
theorem foV_0 {h l M : Nat} {av i n : Int32} (q : foV h l M av i n = 0) : h ≠ 0 ∧ nI l = av ∧ inb i n M := by
  unfold foV at q
  by_cases h0 : h = 0
  · rw [if_pos h0] at q; exact absurd q (by decide)
  · rw [if_neg h0] at q
    by_cases h1 : nI l = av
    · rw [if_pos h1] at q
      by_cases h2 : inb i n M
      · exact ⟨h0, h1, h2⟩
      · rw [if_neg h2] at q; exact absurd q (by decide)
    · rw [if_neg h1] at q; exact absurd q (by decide)
def zeF (it : Nat → Int64) (b : Nat) : Nat → (Nat → Int64)
  | 0 => it
  | j + 1 => vp_updL (zeF it b j) (b + j) 0
def shRel (sh ln mn : Nat → Nat) (it : Nat → Int64) (s av n : Int32) (sh1 ln1 mn1 : Nat → Nat) (it1 : Nat → Int64) (v : Int32) : Prop :=
  (¬ (wi s 0 3 ∧ wi av 0 3 ∧ n ≤ nI 24) → sh1 = sh ∧ ln1 = ln ∧ mn1 = mn ∧ it1 = it ∧ v = -1) ∧
  (wi s 0 3 → wi av 0 3 → n < 0 → sh1 = sh ∧ ln1 = ln ∧ mn1 = mn ∧ it1 = it ∧ v = -14) ∧
  (∀ sq aq nq : Nat, s = nI sq → av = nI aq → n = nI nq → sq ≤ 3 → aq ≤ 3 → nq ≤ 24 → sh1 = uN sh sq 1 ∧ ln1 = uN ln sq aq ∧ mn1 = uN mn sq nq ∧ it1 = zeF it (24 * sq) 24 ∧ v = nI nq)
def dpRel (sh mn : Nat → Nat) (s : Int32) (sh1 : Nat → Nat) (v : Int32) : Prop :=
  (¬ wi s 0 3 → sh1 = sh ∧ v = -1) ∧ (∀ sq : Nat, s = nI sq → sq ≤ 3 → sh sq = 0 → sh1 = sh ∧ v = -11) ∧ (∀ sq : Nat, s = nI sq → sq ≤ 3 → sh sq ≠ 0 → sh1 = uN sh sq 0 ∧ v = nI (mn sq))
def itRel (sh ln mn : Nat → Nat) (it : Nat → Int64) (s av i : Int32) (x : Int64) (it1 : Nat → Int64) (v : Int32) : Prop :=
  (¬ (wi s 0 3 ∧ wi av 0 3) → it1 = it ∧ v = -1) ∧
  (∀ sq : Nat, s = nI sq → sq ≤ 3 → wi av 0 3 → ¬ foV (sh sq) (ln sq) (mn sq) av i (nI 1) = 0 → it1 = it ∧ v = foV (sh sq) (ln sq) (mn sq) av i (nI 1)) ∧
  (∀ sq aq iq : Nat, s = nI sq → av = nI aq → i = nI iq → sq ≤ 3 → aq ≤ 3 → iq + 1 ≤ mn sq → foV (sh sq) (ln sq) (mn sq) av i (nI 1) = 0 → it1 = vp_updL it (24 * sq + iq) (cutF aq x) ∧ v = nI 1)
def flF (r : Nat → Nat) (it : Nat → Int64) (b aq : Nat) : Nat → (Nat → Int64)
  | 0 => it
  | j + 1 => vp_updL (flF r it b aq j) (b + j) (cutF aq (nI (wkN r (j + 1) 0)).toInt64)
def fiRel (r sh ln mn : Nat → Nat) (it : Nat → Int64) (n s av i : Int32) (it1 : Nat → Int64) (v : Int32) : Prop :=
  (¬ (wi n 1 24 ∧ wi s 0 3 ∧ wi av 0 3) → it1 = it ∧ v = -1) ∧
  (∀ sq : Nat, s = nI sq → sq ≤ 3 → wi n 1 24 → wi av 0 3 → ¬ foV (sh sq) (ln sq) (mn sq) av i n = 0 → it1 = it ∧ v = foV (sh sq) (ln sq) (mn sq) av i n) ∧
  (∀ sq aq iq kq : Nat, s = nI sq → av = nI aq → i = nI iq → n = nI kq → sq ≤ 3 → aq ≤ 3 → 1 ≤ kq → kq ≤ 24 → iq + kq ≤ mn sq → foV (sh sq) (ln sq) (mn sq) av i n = 0 → it1 = flF r it (24 * sq + iq) aq kq ∧ v = nI kq)
def fitP (r : Nat → Nat) (it : Nat → Int64) (b by9 n : Nat) : Prop := ∀ i, i < n → (nI (wkN (uN r 0 (r 0 - by9)) (i + 1) 0)).toInt64 = it (b + i)
theorem fitP_0 (r : Nat → Nat) (it : Nat → Int64) (b by9 : Nat) : fitP r it b by9 0 := fun _ h => absurd h (Nat.not_lt_zero _)
theorem fitP_s {r : Nat → Nat} {it : Nat → Int64} {b by9 n : Nat} (h : fitP r it b by9 n) (k : (nI (wkN (uN r 0 (r 0 - by9)) (n + 1) 0)).toInt64 = it (b + n)) : fitP r it b by9 (n + 1) := fun i hi => (Nat.lt_succ_iff_lt_or_eq.mp hi).elim (h i) (fun q => by rw [q]; exact k)
noncomputable def fitD (r : Nat → Nat) (it : Nat → Int64) (b by9 n : Nat) : Nat := @ite Nat (fitP r it b by9 n) (Classical.propDecidable _) 1 0
theorem fitD_1 {r : Nat → Nat} {it : Nat → Int64} {b by9 n : Nat} (h : fitP r it b by9 n) : fitD r it b by9 n = 1 := by unfold fitD; rw [if_pos h]
theorem fitD_0 {r : Nat → Nat} {it : Nat → Int64} {b by9 n : Nat} (h : ¬ fitP r it b by9 n) : fitD r it b by9 n = 0 := by unfold fitD; rw [if_neg h]
noncomputable def tkC (r : Nat → Nat) (it : Nat → Int64) (b n : Nat) : Nat → Nat
  | 0 => 0
  | j + 1 => tkC r it b n j + fitD r it b (r 0 - j) n
noncomputable def tkL (r : Nat → Nat) (it : Nat → Int64) (b n : Nat) : Nat → Int32
  | 0 => -4
  | j + 1 => if fitD r it b (r 0 - j) n = 1 then nI (r 0 - j) else tkL r it b n j
def tkB (c j : Nat) : Int32 := if j ≤ c then nI (c - j) else -1
def tkRel (r sh ln mn : Nat → Nat) (it : Nat → Int64) (s av i n w v : Int32) : Prop :=
  (¬ (wi s 0 3 ∧ wi av 0 3 ∧ wi n 1 8 ∧ wi w 0 1) → v = -1) ∧
  (∀ sq : Nat, s = nI sq → sq ≤ 3 → wi av 0 3 → wi n 1 8 → wi w 0 1 → ¬ foV (sh sq) (ln sq) (mn sq) av i n = 0 → v = foV (sh sq) (ln sq) (mn sq) av i n) ∧
  (∀ sq iq kq : Nat, s = nI sq → i = nI iq → n = nI kq → sq ≤ 3 → wi av 0 3 → 1 ≤ kq → kq ≤ 8 → iq + kq ≤ mn sq → foV (sh sq) (ln sq) (mn sq) av i n = 0 → (w = nI 0 → v = nI (tkC r it (24 * sq + iq) kq (r 0 + 1))) ∧ (w = nI 1 → v = tkL r it (24 * sq + iq) kq (r 0 + 1)))
def ltF (it le : Nat → Int64) (b : Nat) : Nat → (Nat → Int64)
  | 0 => le
  | j + 1 => vp_updL (ltF it le b j) j (it (b + j))
def cpF (it le : Nat → Int64) (b : Nat) : Nat → (Nat → Int64)
  | 0 => it
  | j + 1 => vp_updL (cpF it le b j) (b + j) (le j)
theorem ltF_at (it le : Nat → Int64) (b n j : Nat) (h : j < n) : ltF it le b n j = it (b + j) := by
  induction n with
  | zero => exact absurd h (Nat.not_lt_zero _)
  | succ n ih =>
    show vp_updL (ltF it le b n) n (it (b + n)) j = _
    by_cases q : j = n
    · subst q; exact pk_uLs
    · rw [pk_uLn q]; exact ih (by omega)
/-- items it, n from b0 on come to b1 on -/
def cyF (it : Nat → Int64) (b0 b1 n : Nat) : Nat → Int64 := fun j => if b1 ≤ j ∧ j < b1 + n then it (b0 + (j - b1)) else it j
theorem cpF_at (it le : Nat → Int64) (b n j : Nat) : cpF it le b n j = if b ≤ j ∧ j < b + n then le (j - b) else it j := by
  induction n with
  | zero => rw [if_neg (by omega)]; rfl
  | succ n ih =>
    show vp_updL (cpF it le b n) (b + n) (le n) j = _
    by_cases q : j = b + n
    · subst q; rw [pk_uLs, if_pos (by omega), show b + n - b = n by omega]
    · rw [pk_uLn q, ih]
      by_cases q2 : b ≤ j ∧ j < b + n
      · rw [if_pos q2, if_pos (by omega)]
      · rw [if_neg q2, if_neg (by omega)]
theorem cp_cy (it le : Nat → Int64) (b0 b1 n : Nat) : cpF it (ltF it le b0 n) b1 n = cyF it b0 b1 n := by
  funext j
  rw [cpF_at]
  unfold cyF
  by_cases q : b1 ≤ j ∧ j < b1 + n
  · rw [if_pos q, if_pos q, ltF_at _ _ _ _ _ (by omega)]
  · rw [if_neg q, if_neg q]
def cyRel (sh ln mn : Nat → Nat) (it : Nat → Int64) (s i t j n : Int32) (it1 : Nat → Int64) (v : Int32) : Prop :=
  (¬ (wi s 0 3 ∧ wi t 0 3) → it1 = it ∧ v = -1) ∧
  (∀ sq tq : Nat, s = nI sq → t = nI tq → sq ≤ 3 → tq ≤ 3 → (sh sq = 0 ∨ sh tq = 0) → it1 = it ∧ v = -11) ∧
  (∀ sq tq : Nat, s = nI sq → t = nI tq → sq ≤ 3 → tq ≤ 3 → sh sq ≠ 0 → sh tq ≠ 0 → ln sq ≠ ln tq → it1 = it ∧ v = -12) ∧
  (∀ sq tq : Nat, s = nI sq → t = nI tq → sq ≤ 3 → tq ≤ 3 → sh sq ≠ 0 → sh tq ≠ 0 → ln sq = ln tq → ¬ (inb i n (mn sq) ∧ inb j n (mn tq)) → it1 = it ∧ v = -13) ∧
  (∀ sq tq iq jq nq : Nat, s = nI sq → t = nI tq → i = nI iq → j = nI jq → n = nI nq → sq ≤ 3 → tq ≤ 3 → sh sq ≠ 0 → sh tq ≠ 0 → ln sq = ln tq → iq + nq ≤ mn sq → jq + nq ≤ mn tq → it1 = cyF it (24 * sq + iq) (24 * tq + jq) nq ∧ v = nI nq)
