/-! numbers and sets of the class -/
theorem i32_of {x : Int32} {k : Nat} (h : x.toInt = k) (hk : k < 2 ^ 31) : x = nI k := Int32.toInt_inj.mp (by rw [h, nI_toInt hk])
theorem ch_n : ∀ n, n < 128 → ((nI n).toUInt32 % 65536).toInt32 = nI n := by decide +kernel
theorem hpF_tb {r : Nat → Nat} {n : Nat} (h : ∀ j, j < n → r (7 + 4 * j + 3) ≤ 1) (i : Nat) : (hpF r n).testBit i = (decide (i < n) && decide (r (7 + 4 * i + 3) = 1)) := by
  induction n with
  | zero => show (0 : Nat).testBit i = _; rw [Nat.zero_testBit]; simp
  | succ n ih =>
    have hn := h n (Nat.lt_succ_self n)
    show (hpF r n ||| (r (7 + 4 * n + 3) * 2 ^ n)).testBit i = _
    rw [Nat.testBit_or, ih (fun j hj => h j (by omega))]
    by_cases q : i = n
    · subst q
      rcases (show r (7 + 4 * i + 3) = 0 ∨ r (7 + 4 * i + 3) = 1 by omega) with q2 | q2 <;> rw [q2] <;> simp
    · have e1 : (r (7 + 4 * n + 3) * 2 ^ n).testBit i = false := by
        rcases (show r (7 + 4 * n + 3) = 0 ∨ r (7 + 4 * n + 3) = 1 by omega) with q2 | q2 <;> rw [q2]
        · rw [Nat.zero_mul]; exact Nat.zero_testBit i
        · rw [Nat.one_mul, Nat.testBit_two_pow]; simp; omega
      rw [e1, Bool.or_false]
      by_cases q3 : i < n
      · rw [decide_eq_true q3, decide_eq_true (show i < n + 1 by omega)]
      · rw [decide_eq_false q3, decide_eq_false (show ¬ i < n + 1 by omega)]
theorem bit_of {x i : Nat} : x / 2 ^ i &&& 1 = if x.testBit i then 1 else 0 := by
  rw [Nat.and_one_is_mod, Nat.testBit_eq_decide_div_mod_eq]
  have := Nat.mod_lt (x / 2 ^ i) (by decide : 2 > 0)
  by_cases h : x / 2 ^ i % 2 = 1
  · rw [h]; rfl
  · rw [if_neg (by simpa using h)]; omega
theorem hpF_bit {r : Nat → Nat} {n pn : Nat} (h : ∀ j, j < n → r (7 + 4 * j + 3) ≤ 1) (hp : pn < n) : hpF r n / 2 ^ pn &&& 1 = r (7 + 4 * pn + 3) := by
  rw [bit_of, hpF_tb h]
  have hn := h pn hp
  rw [decide_eq_true hp]
  rcases (show r (7 + 4 * pn + 3) = 0 ∨ r (7 + 4 * pn + 3) = 1 by omega) with q | q <;> rw [q] <;> rfl
/-- one of a set's places is set to k -/
def sbF (x p k : Nat) : Nat := (x &&& (63 - 2 ^ p)) ||| (k * 2 ^ p)
theorem sb_raw : ∀ p, p < 6 → ∀ k, k < 2 → ∀ x, x < 64 → (nI x &&& (nI (1 * 2 ^ p) ^^^ (-1))) ||| nI (k * 2 ^ p) = nI (sbF x p k) := by decide +kernel
theorem sb_tb : ∀ p, p < 6 → ∀ i, i < 6 → (63 - 2 ^ p).testBit i = decide (i ≠ p) := by decide +kernel
theorem sb_lt {x p k : Nat} (hx : x < 64) (hp : p < 6) (hk : k ≤ 1) : sbF x p k < 64 := by
  unfold sbF
  refine Nat.or_lt_two_pow (n := 6) (Nat.lt_of_le_of_lt Nat.and_le_left hx) ?_
  have h1 := Nat.pow_le_pow_right (n := 2) (by decide) (show p ≤ 5 by omega)
  have h2 := Nat.mul_le_mul hk h1
  omega
theorem hp_set {r : Nat → Nat} {n pn k : Nat} (h : ∀ j, j < n → r (7 + 4 * j + 3) ≤ 1) (hn : n ≤ 6) (hp : pn < n) (hk : k ≤ 1) : hpF (uN r (7 + 4 * pn + 3) k) n = sbF (hpF r n) pn k := by
  have h1 : ∀ j, j < n → uN r (7 + 4 * pn + 3) k (7 + 4 * j + 3) ≤ 1 := by
    intro j hj
    by_cases q : j = pn
    · subst q; rw [uN_s]; exact hk
    · rw [uN_n _ (by omega)]; exact h j hj
  have b1 := hpF_lt h1
  have b2 := hpF_lt h
  have b3 := Nat.pow_le_pow_right (n := 2) (by decide) hn
  apply Nat.eq_of_testBit_eq
  intro i
  by_cases hi : i < 6
  · rw [hpF_tb h1]
    unfold sbF
    rw [Nat.testBit_or, Nat.testBit_and, hpF_tb h, sb_tb pn (by omega) i hi]
    by_cases q : i = pn
    · subst q
      rw [uN_s, decide_eq_true hp]
      rcases (show k = 0 ∨ k = 1 by omega) with rfl | rfl <;> simp
    · rw [uN_n _ (by omega)]
      have e1 : (k * 2 ^ pn).testBit i = false := by
        rcases (show k = 0 ∨ k = 1 by omega) with rfl | rfl
        · rw [Nat.zero_mul]; exact Nat.zero_testBit i
        · rw [Nat.one_mul, Nat.testBit_two_pow]; simp; omega
      rw [e1]
      simp [q]
  · have h64 : 2 ^ 6 ≤ 2 ^ i := Nat.pow_le_pow_right (by decide) (by omega)
    have b4 := sb_lt (x := hpF r n) (p := pn) (k := k) (by omega) (by omega) hk
    rw [Nat.testBit_lt_two_pow (show hpF (uN r (7 + 4 * pn + 3) k) n < 2 ^ i by omega), Nat.testBit_lt_two_pow (show sbF (hpF r n) pn k < 2 ^ i by omega)]
theorem psAt.fr {D : va_G} {H H1 : Heap} {wc : va_W} {q k t : Nat} (h : psAt D H q k t) (ha : apt wc q) (hf : ∀ x : Nat, x < H.size → ¬ va_A wc H.size x → H1[x]? = H[x]?) : psAt D H1 q k t := h.kept (hf q h.lt (ha.nA h.lt))
theorem drX_kt (r : Nat → Nat) (j : Nat) : drX r (7 + 4 * j + 0) = r (7 + 4 * j + 0) ∧ drX r (7 + 4 * j + 1) = r (7 + 4 * j + 1) ∧ drX r (7 + 4 * j + 3) = r (7 + 4 * j + 3) := ⟨drX_o r (by omega), drX_o r (by omega), drX_o r (by omega)⟩
theorem dkN_kt (r : Nat → Nat) (n j : Nat) : dkN r n (7 + 4 * j + 0) = r (7 + 4 * j + 0) ∧ dkN r n (7 + 4 * j + 1) = r (7 + 4 * j + 1) ∧ dkN r n (7 + 4 * j + 3) = r (7 + 4 * j + 3) := by
  induction n with
  | zero => exact ⟨rfl, rfl, rfl⟩
  | succ n ih =>
    obtain ⟨a1, a2, a3⟩ := weekR_kt (drX (dkN r n)) ((drX (dkN r n)) 5 / 65536 % 10) j
    obtain ⟨b1, b2, b3⟩ := drX_kt (dkN r n) j
    exact ⟨a1.trans (b1.trans ih.1), a2.trans (b2.trans ih.2.1), a3.trans (b3.trans ih.2.2)⟩
theorem peH.dk {D : va_G} {ws : va_W} {pf : Nat → Option Nat} {r : Nat → Nat} {H : Heap} (n : Nat) (h : peH D ws pf r H) : peH D ws pf (dkN r n) H := h.cg (dkN_6 r n) (fun j _ => ⟨(dkN_kt r n j).1, (dkN_kt r n j).2.1⟩)
section NT
variable {p : Program} {l : Launch} {e : Env} {R : Room} {s : State} {m : MethodId} {args : Array Value} {below : List Frame} {meth : Method} {c : Code} {H : Heap} {locs : List Loc} {cells slots : Nat} {Q : State → Prop}
variable {cc : ByteArray} {pc : Nat} {ls : Array Slot} {rest : List Value} {D : va_G} {z : Nat → ClassId}
theorem nv_temper (hx : p.tables.exec = Jvm.exec) (hb : c.code = cc) (hown : s.vm.findClass RX10 = some m.cls) (hts : ∀ w ∈ ALL, w.before args s = true) (hK : KK D z s) {index : Nat} (hlink : (Cond.fieldLink RX10 index "SeaJar$Plain" "temper" "I").before args s = true) {a k t : Nat} (hps : psAt D H a k t) (hk : k ≤ 5) (hdg : decode cc pc = .ok (.getfield index, 3)) (kk : W p l e R s m args below meth c H locs cells slots Q (F0 m (pc + 3) ls (.int (nI t) :: rest))) : W p l e R s m args below meth c H locs cells slots Q (F0 m pc ls (.ref a :: rest)) := by
  rcases (show k = 0 ∨ k = 1 ∨ k = 2 ∨ k = 3 ∨ k = 4 ∨ k = 5 by omega) with rfl | rfl | rfl | rfl | rfl | rfl
  · exact va_get (D := D) (ci := 6) (v := .int (nI t)) (C := RX6) (T := TX6) (N := 1) hx hb hts iX6 hown hK.1 hps.P 0 rfl rfl 0 (by decide) hlink (fun _ h9 => h9) rfl hdg kk
  · exact va_get (D := D) (ci := 0) (v := .int (nI t)) (C := RX0) (T := TX0) (N := 1) hx hb hts iX0 hown hK.1 hps.P 0 rfl rfl 0 (by decide) hlink (fun _ h9 => h9) rfl hdg kk
  · exact va_get (D := D) (ci := 2) (v := .int (nI t)) (C := RX2) (T := TX2) (N := 1) hx hb hts iX2 hown hK.1 hps.P 0 rfl rfl 0 (by decide) hlink (fun _ h9 => h9) rfl hdg kk
  · exact va_get (D := D) (ci := 4) (v := .int (nI t)) (C := RX4) (T := TX4) (N := 1) hx hb hts iX4 hown hK.1 hps.P 0 rfl rfl 0 (by decide) hlink (fun _ h9 => h9) rfl hdg kk
  · exact va_get (D := D) (ci := 8) (v := .int (nI t)) (C := RX8) (T := TX8) (N := 1) hx hb hts iX8 hown hK.1 hps.P 0 rfl rfl 0 (by decide) hlink (fun _ h9 => h9) rfl hdg kk
  · exact va_get (D := D) (ci := 1) (v := .int (nI t)) (C := RX1) (T := TX1) (N := 1) hx hb hts iX1 hown hK.1 hps.P 0 rfl rfl 0 (by decide) hlink (fun _ h9 => h9) rfl hdg kk
end NT
