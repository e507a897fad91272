set_option maxHeartbeats 4000000 in
theorem lw_body {p : Program} {e : Env} {s : State} {m : MethodId} {below : List Frame} {meth : Method} {c : Code} (l : Launch) {b L : Nat} {xs : Nat → Int32} {D : va_G} {z : Nat → ClassId} {A : Nat → Prop} {cells slots ix9 : Nat} {H : Heap} {locs : List Loc} {ls : Array Slot} {QQ : State → Prop} {o q : Nat} (C1 : lw_C p s m meth c b L xs D z A) (hj : 6 * ix9 + 6 ≤ L) (hL : L ≤ 384) (hcel : cells + 6 ≤ 600000) (hslo : slots + 6 ≤ 7302250) (hl : lv_has ls 4 [(0, .ref b), (1, .ref o), (2, .ref q), (3, .int (nI (6 * ix9)))]) (hS : va_S A s.heap H locs) (hI : LI D z A s.heap H locs o q) (kk : ∀ (H1 : Heap) (locs1 : List Loc), LI D z A s.heap H1 locs1 o q → W p l e room_1 s m #[Value.ref b] below meth c H1 locs1 (cells + 6) (slots + 6) QQ (F0 m 1064 ls [])) : W p l e room_1 s m #[Value.ref b] below meth c H locs cells slots QQ (F0 m 27 ls []) := by
  obtain ⟨hx, hb, hml, hown, hts, hK, hA, hnb, hX, hbl, hSE⟩ := id C1
  refine lv_aload_n hx hb dL_law_27 rfl (lv_at hl 0 rfl) ?_
  refine lv_iload_n hx hb dL_law_28 rfl (lv_at hl 3 rfl) ?_
  refine nv_sld hx hb hX hbl hnb hS (by omega) hL dL_law_29 ?_
  refine lv_bipush (v := nI 31) hx hb dL_law_30 (by decide +kernel) ?_
  refine lv_iand hx hb dL_law_32 ?_
  obtain ⟨kq, hkq, ekq⟩ := pk_andE (xs (6 * ix9)) (m := nI 31) 5 (by decide)
  refine W.eq (g2 := F0 m 33 ls [.int (nI kq)]) (by rw [ekq]) ?_
  have hkq : kq < 32 := hkq
  rcases (show kq = 0 ∨ kq = 1 ∨ kq = 2 ∨ kq = 3 ∨ kq = 4 ∨ kq = 5 ∨ kq = 6 ∨ kq = 7 ∨ kq = 8 ∨ kq = 9 ∨ kq = 10 ∨ kq = 11 ∨ kq = 12 ∨ kq = 13 ∨ kq = 14 ∨ kq = 15 ∨ kq = 16 ∨ kq = 17 ∨ kq = 18 ∨ kq = 19 ∨ kq = 20 ∨ kq = 21 ∨ kq = 22 ∨ kq = 23 ∨ kq = 24 ∨ kq = 25 ∨ kq = 26 ∨ kq = 27 ∨ kq = 28 ∨ kq = 29 ∨ kq = 30 ∨ kq = 31 by omega) with hk9 | hk9 | hk9 | hk9 | hk9 | hk9 | hk9 | hk9 | hk9 | hk9 | hk9 | hk9 | hk9 | hk9 | hk9 | hk9 | hk9 | hk9 | hk9 | hk9 | hk9 | hk9 | hk9 | hk9 | hk9 | hk9 | hk9 | hk9 | hk9 | hk9 | hk9 | hk9
  · refine lv_tableIn (off := 127) (tgt := 160) hx hb dL_law_33 (by rw [hk9]; decide) (by rw [hk9]; decide) (by rw [hk9]; rfl) (by decide) ?_
    obtain ⟨i0, i1, i2, i3, hI⟩ := hI
    unfold LI4 at hI
    obtain ⟨n9, f9, g9, w9, x9, hP, hD, hS, hHK, hik, hkk, hpg, htp, hso, hrf, h4, hpN, hpI⟩ := hI
    exact lw_k0 l C1 hj hL hcel hslo hl hP hD hS hHK hik hkk hpg htp hso hrf h4 hpN hpI kk
  · refine lv_tableIn (off := 170) (tgt := 203) hx hb dL_law_33 (by rw [hk9]; decide) (by rw [hk9]; decide) (by rw [hk9]; rfl) (by decide) ?_
    obtain ⟨i0, i1, i2, i3, hI⟩ := hI
    unfold LI4 at hI
    obtain ⟨n9, f9, g9, w9, x9, hP, hD, hS, hHK, hik, hkk, hpg, htp, hso, hrf, h4, hpN, hpI⟩ := hI
    exact lw_k1 l C1 hj hL hcel hslo hl hP hD hS hHK hik hkk hpg htp hso hrf h4 hpN hpI kk
  · refine lv_tableIn (off := 203) (tgt := 236) hx hb dL_law_33 (by rw [hk9]; decide) (by rw [hk9]; decide) (by rw [hk9]; rfl) (by decide) ?_
    obtain ⟨i0, i1, i2, i3, hI⟩ := hI
    unfold LI4 at hI
    obtain ⟨n9, f9, g9, w9, x9, hP, hD, hS, hHK, hik, hkk, hpg, htp, hso, hrf, h4, hpN, hpI⟩ := hI
    exact lw_k2 l C1 hj hL hcel hslo hl hP hD hS hHK hik hkk hpg htp hso hrf h4 hpN hpI kk
  · refine lv_tableIn (off := 236) (tgt := 269) hx hb dL_law_33 (by rw [hk9]; decide) (by rw [hk9]; decide) (by rw [hk9]; rfl) (by decide) ?_
    obtain ⟨i0, i1, i2, i3, hI⟩ := hI
    unfold LI4 at hI
    obtain ⟨n9, f9, g9, w9, x9, hP, hD, hS, hHK, hik, hkk, hpg, htp, hso, hrf, h4, hpN, hpI⟩ := hI
    exact lw_k3 l C1 hj hL hcel hslo hl hP hD hS hHK hik hkk hpg htp hso hrf h4 hpN hpI kk
  · refine lv_tableIn (off := 269) (tgt := 302) hx hb dL_law_33 (by rw [hk9]; decide) (by rw [hk9]; decide) (by rw [hk9]; rfl) (by decide) ?_
    obtain ⟨i0, i1, i2, i3, hI⟩ := hI
    unfold LI4 at hI
    obtain ⟨n9, f9, g9, w9, x9, hP, hD, hS, hHK, hik, hkk, hpg, htp, hso, hrf, h4, hpN, hpI⟩ := hI
    exact lw_k4 l C1 hj hL hcel hslo hl hP hD hS hHK hik hkk hpg htp hso hrf h4 hpN hpI kk
  · refine lv_tableIn (off := 292) (tgt := 325) hx hb dL_law_33 (by rw [hk9]; decide) (by rw [hk9]; decide) (by rw [hk9]; rfl) (by decide) ?_
    obtain ⟨i0, i1, i2, i3, hI⟩ := hI
    unfold LI4 at hI
    obtain ⟨n9, f9, g9, w9, x9, hP, hD, hS, hHK, hik, hkk, hpg, htp, hso, hrf, h4, hpN, hpI⟩ := hI
    exact lw_k5 l C1 hj hL hcel hslo hl hP hD hS hHK hik hkk hpg htp hso hrf h4 hpN hpI kk
  · refine lv_tableIn (off := 305) (tgt := 338) hx hb dL_law_33 (by rw [hk9]; decide) (by rw [hk9]; decide) (by rw [hk9]; rfl) (by decide) ?_
    obtain ⟨i0, i1, i2, i3, hI⟩ := hI
    unfold LI4 at hI
    obtain ⟨n9, f9, g9, w9, x9, hP, hD, hS, hHK, hik, hkk, hpg, htp, hso, hrf, h4, hpN, hpI⟩ := hI
    exact lw_k6 l C1 hj hL hcel hslo hl hP hD hS hHK hik hkk hpg htp hso hrf h4 hpN hpI kk
  · refine lv_tableIn (off := 328) (tgt := 361) hx hb dL_law_33 (by rw [hk9]; decide) (by rw [hk9]; decide) (by rw [hk9]; rfl) (by decide) ?_
    obtain ⟨i0, i1, i2, i3, hI⟩ := hI
    unfold LI4 at hI
    obtain ⟨n9, f9, g9, w9, x9, hP, hD, hS, hHK, hik, hkk, hpg, htp, hso, hrf, h4, hpN, hpI⟩ := hI
    exact lw_k7 l C1 hj hL hcel hslo hl hP hD hS hHK hik hkk hpg htp hso hrf h4 hpN hpI kk
  · refine lv_tableIn (off := 351) (tgt := 384) hx hb dL_law_33 (by rw [hk9]; decide) (by rw [hk9]; decide) (by rw [hk9]; rfl) (by decide) ?_
    obtain ⟨i0, i1, i2, i3, hI⟩ := hI
    unfold LI4 at hI
    obtain ⟨n9, f9, g9, w9, x9, hP, hD, hS, hHK, hik, hkk, hpg, htp, hso, hrf, h4, hpN, hpI⟩ := hI
    exact lw_k8 l C1 hj hL hcel hslo hl hP hD hS hHK hik hkk hpg htp hso hrf h4 hpN hpI kk
  · refine lv_tableIn (off := 374) (tgt := 407) hx hb dL_law_33 (by rw [hk9]; decide) (by rw [hk9]; decide) (by rw [hk9]; rfl) (by decide) ?_
    obtain ⟨i0, i1, i2, i3, hI⟩ := hI
    unfold LI4 at hI
    obtain ⟨n9, f9, g9, w9, x9, hP, hD, hS, hHK, hik, hkk, hpg, htp, hso, hrf, h4, hpN, hpI⟩ := hI
    exact lw_k9 l C1 hj hL hcel hslo hl hP hD hS hHK hik hkk hpg htp hso hrf h4 hpN hpI kk
  · refine lv_tableIn (off := 397) (tgt := 430) hx hb dL_law_33 (by rw [hk9]; decide) (by rw [hk9]; decide) (by rw [hk9]; rfl) (by decide) ?_
    obtain ⟨i0, i1, i2, i3, hI⟩ := hI
    unfold LI4 at hI
    obtain ⟨n9, f9, g9, w9, x9, hP, hD, hS, hHK, hik, hkk, hpg, htp, hso, hrf, h4, hpN, hpI⟩ := hI
    exact lw_k10 l C1 hj hL hcel hslo hl hP hD hS hHK hik hkk hpg htp hso hrf h4 hpN hpI kk
  · refine lv_tableIn (off := 410) (tgt := 443) hx hb dL_law_33 (by rw [hk9]; decide) (by rw [hk9]; decide) (by rw [hk9]; rfl) (by decide) ?_
    obtain ⟨i0, i1, i2, i3, hI⟩ := hI
    unfold LI4 at hI
    obtain ⟨n9, f9, g9, w9, x9, hP, hD, hS, hHK, hik, hkk, hpg, htp, hso, hrf, h4, hpN, hpI⟩ := hI
    exact lw_k11 l C1 hj hL hcel hslo hl hP hD hS hHK hik hkk hpg htp hso hrf h4 hpN hpI kk
  · refine lv_tableIn (off := 433) (tgt := 466) hx hb dL_law_33 (by rw [hk9]; decide) (by rw [hk9]; decide) (by rw [hk9]; rfl) (by decide) ?_
    obtain ⟨i0, i1, i2, i3, hI⟩ := hI
    unfold LI4 at hI
    obtain ⟨n9, f9, g9, w9, x9, hP, hD, hS, hHK, hik, hkk, hpg, htp, hso, hrf, h4, hpN, hpI⟩ := hI
    exact lw_k12 l C1 hj hL hcel hslo hl hP hD hS hHK hik hkk hpg htp hso hrf h4 hpN hpI kk
  · refine lv_tableIn (off := 466) (tgt := 499) hx hb dL_law_33 (by rw [hk9]; decide) (by rw [hk9]; decide) (by rw [hk9]; rfl) (by decide) ?_
    obtain ⟨i0, i1, i2, i3, hI⟩ := hI
    unfold LI4 at hI
    obtain ⟨n9, f9, g9, w9, x9, hP, hD, hS, hHK, hik, hkk, hpg, htp, hso, hrf, h4, hpN, hpI⟩ := hI
    exact lw_k13 l C1 hj hL hcel hslo hl hP hD hS hHK hik hkk hpg htp hso hrf h4 hpN hpI kk
  · refine lv_tableIn (off := 479) (tgt := 512) hx hb dL_law_33 (by rw [hk9]; decide) (by rw [hk9]; decide) (by rw [hk9]; rfl) (by decide) ?_
    obtain ⟨i0, i1, i2, i3, hI⟩ := hI
    unfold LI4 at hI
    obtain ⟨n9, f9, g9, w9, x9, hP, hD, hS, hHK, hik, hkk, hpg, htp, hso, hrf, h4, hpN, hpI⟩ := hI
    exact lw_k14 l C1 hj hL hcel hslo hl hP hD hS hHK hik hkk hpg htp hso hrf h4 hpN hpI kk
  · refine lv_tableIn (off := 512) (tgt := 545) hx hb dL_law_33 (by rw [hk9]; decide) (by rw [hk9]; decide) (by rw [hk9]; rfl) (by decide) ?_
    obtain ⟨i0, i1, i2, i3, hI⟩ := hI
    unfold LI4 at hI
    obtain ⟨n9, f9, g9, w9, x9, hP, hD, hS, hHK, hik, hkk, hpg, htp, hso, hrf, h4, hpN, hpI⟩ := hI
    exact lw_k15 l C1 hj hL hcel hslo hl hP hD hS hHK hik hkk hpg htp hso hrf h4 hpN hpI kk
  · refine lv_tableIn (off := 545) (tgt := 578) hx hb dL_law_33 (by rw [hk9]; decide) (by rw [hk9]; decide) (by rw [hk9]; rfl) (by decide) ?_
    obtain ⟨i0, i1, i2, i3, hI⟩ := hI
    unfold LI4 at hI
    obtain ⟨n9, f9, g9, w9, x9, hP, hD, hS, hHK, hik, hkk, hpg, htp, hso, hrf, h4, hpN, hpI⟩ := hI
    exact lw_k16 l C1 hj hL hcel hslo hl hP hD hS hHK hik hkk hpg htp hso hrf h4 hpN hpI kk
  · refine lv_tableIn (off := 568) (tgt := 601) hx hb dL_law_33 (by rw [hk9]; decide) (by rw [hk9]; decide) (by rw [hk9]; rfl) (by decide) ?_
    obtain ⟨i0, i1, i2, i3, hI⟩ := hI
    unfold LI4 at hI
    obtain ⟨n9, f9, g9, w9, x9, hP, hD, hS, hHK, hik, hkk, hpg, htp, hso, hrf, h4, hpN, hpI⟩ := hI
    exact lw_k17 l C1 hj hL hcel hslo hl hP hD hS hHK hik hkk hpg htp hso hrf h4 hpN hpI kk
  · refine lv_tableIn (off := 611) (tgt := 644) hx hb dL_law_33 (by rw [hk9]; decide) (by rw [hk9]; decide) (by rw [hk9]; rfl) (by decide) ?_
    obtain ⟨i0, i1, i2, i3, hI⟩ := hI
    unfold LI4 at hI
    obtain ⟨n9, f9, g9, w9, x9, hP, hD, hS, hHK, hik, hkk, hpg, htp, hso, hrf, h4, hpN, hpI⟩ := hI
    exact lw_k18 l C1 hj hL hcel hslo hl hP hD hS hHK hik hkk hpg htp hso hrf h4 hpN hpI kk
  · refine lv_tableIn (off := 644) (tgt := 677) hx hb dL_law_33 (by rw [hk9]; decide) (by rw [hk9]; decide) (by rw [hk9]; rfl) (by decide) ?_
    obtain ⟨i0, i1, i2, i3, hI⟩ := hI
    unfold LI4 at hI
    obtain ⟨n9, f9, g9, w9, x9, hP, hD, hS, hHK, hik, hkk, hpg, htp, hso, hrf, h4, hpN, hpI⟩ := hI
    exact lw_k19 l C1 hj hL hcel hslo hl hP hD hS hHK hik hkk hpg htp hso hrf h4 hpN hpI kk
  · refine lv_tableIn (off := 677) (tgt := 710) hx hb dL_law_33 (by rw [hk9]; decide) (by rw [hk9]; decide) (by rw [hk9]; rfl) (by decide) ?_
    obtain ⟨i0, i1, i2, i3, hI⟩ := hI
    unfold LI4 at hI
    obtain ⟨n9, f9, g9, w9, x9, hP, hD, hS, hHK, hik, hkk, hpg, htp, hso, hrf, h4, hpN, hpI⟩ := hI
    exact lw_k20 l C1 hj hL hcel hslo hl hP hD hS hHK hik hkk hpg htp hso hrf h4 hpN hpI kk
  · refine lv_tableIn (off := 690) (tgt := 723) hx hb dL_law_33 (by rw [hk9]; decide) (by rw [hk9]; decide) (by rw [hk9]; rfl) (by decide) ?_
    obtain ⟨i0, i1, i2, i3, hI⟩ := hI
    unfold LI4 at hI
    obtain ⟨n9, f9, g9, w9, x9, hP, hD, hS, hHK, hik, hkk, hpg, htp, hso, hrf, h4, hpN, hpI⟩ := hI
    exact lw_k21 l C1 hj hL hcel hslo hl hP hD hS hHK hik hkk hpg htp hso hrf h4 hpN hpI kk
  · refine lv_tableIn (off := 703) (tgt := 736) hx hb dL_law_33 (by rw [hk9]; decide) (by rw [hk9]; decide) (by rw [hk9]; rfl) (by decide) ?_
    obtain ⟨sq, hq3, hsv⟩ := sv_ex (xs (6 * ix9 + 1))
    obtain ⟨i1, i2, i3, hI⟩ := hI.one hq3
    unfold LI4 at hI
    obtain ⟨n9, f9, g9, w9, x9, hP, hD, hS, hHK, hik, hkk, hpg, htp, hso, hrf, h4, hpN, hpI⟩ := hI
    exact lw_k22 l C1 hj hL hcel hslo hl hP hD hS hHK hik hkk hpg htp hso hrf h4 hpN hpI hsv kk
  · refine lv_tableIn (off := 766) (tgt := 799) hx hb dL_law_33 (by rw [hk9]; decide) (by rw [hk9]; decide) (by rw [hk9]; rfl) (by decide) ?_
    obtain ⟨sq, hq3, hsv⟩ := sv_ex (xs (6 * ix9 + 2))
    obtain ⟨i1, i2, i3, hI⟩ := hI.one hq3
    unfold LI4 at hI
    obtain ⟨n9, f9, g9, w9, x9, hP, hD, hS, hHK, hik, hkk, hpg, htp, hso, hrf, h4, hpN, hpI⟩ := hI
    exact lw_k23 l C1 hj hL hcel hslo hl hP hD hS hHK hik hkk hpg htp hso hrf h4 hpN hpI hsv kk
  · refine lv_tableIn (off := 819) (tgt := 852) hx hb dL_law_33 (by rw [hk9]; decide) (by rw [hk9]; decide) (by rw [hk9]; rfl) (by decide) ?_
    obtain ⟨sq, hq3, hsv⟩ := sv_ex (xs (6 * ix9 + 1))
    obtain ⟨i1, i2, i3, hI⟩ := hI.one hq3
    unfold LI4 at hI
    obtain ⟨n9, f9, g9, w9, x9, hP, hD, hS, hHK, hik, hkk, hpg, htp, hso, hrf, h4, hpN, hpI⟩ := hI
    exact lw_k24 l C1 hj hL hcel hslo hl hP hD hS hHK hik hkk hpg htp hso hrf h4 hpN hpI hsv kk
  · refine lv_tableIn (off := 862) (tgt := 895) hx hb dL_law_33 (by rw [hk9]; decide) (by rw [hk9]; decide) (by rw [hk9]; rfl) (by decide) ?_
    obtain ⟨sq, hq3, hsv⟩ := sv_ex (xs (6 * ix9 + 1))
    obtain ⟨i1, i2, i3, hI⟩ := hI.one hq3
    unfold LI4 at hI
    obtain ⟨n9, f9, g9, w9, x9, hP, hD, hS, hHK, hik, hkk, hpg, htp, hso, hrf, h4, hpN, hpI⟩ := hI
    exact lw_k25 l C1 hj hL hcel hslo hl hP hD hS hHK hik hkk hpg htp hso hrf h4 hpN hpI hsv kk
  · refine lv_tableIn (off := 885) (tgt := 918) hx hb dL_law_33 (by rw [hk9]; decide) (by rw [hk9]; decide) (by rw [hk9]; rfl) (by decide) ?_
    obtain ⟨sq, hq3, hsv⟩ := sv_ex (xs (6 * ix9 + 1))
    obtain ⟨i1, i2, i3, hI⟩ := hI.one hq3
    unfold LI4 at hI
    obtain ⟨n9, f9, g9, w9, x9, hP, hD, hS, hHK, hik, hkk, hpg, htp, hso, hrf, h4, hpN, hpI⟩ := hI
    exact lw_k26 l C1 hj hL hcel hslo hl hP hD hS hHK hik hkk hpg htp hso hrf h4 hpN hpI hsv kk
  · refine lv_tableIn (off := 968) (tgt := 1001) hx hb dL_law_33 (by rw [hk9]; decide) (by rw [hk9]; decide) (by rw [hk9]; rfl) (by decide) ?_
    obtain ⟨sq, hq3, hsv⟩ := sv_ex (xs (6 * ix9 + 1))
    obtain ⟨tq9, ht3, htv⟩ := sv_ex (xs (6 * ix9 + 3))
    by_cases hst : sq = tq9
    · subst hst
      obtain ⟨i1, i2, i3, hI⟩ := hI.one hq3
      unfold LI4 at hI
      obtain ⟨n9, f9, g9, w9, x9, hP, hD, hS, hHK, hik, hkk, hpg, htp, hso, hrf, h4, hpN, hpI⟩ := hI
      exact lw_k27a l C1 hj hL hcel hslo hl hP hD hS hHK hik hkk hpg htp hso hrf h4 hpN hpI hsv htv kk
    · obtain ⟨i2, i3, hI⟩ := hI.two hq3 ht3 hst
      unfold LI4 at hI
      obtain ⟨n9, f9, g9, w9, x9, hP, hD, hS, hHK, hik, hkk, hpg, htp, hso, hrf, h4, hpN, hpI⟩ := hI
      exact lw_k27b l C1 hj hL hcel hslo hl hP hD hS hHK hik hkk hpg htp hso hrf h4 hpN hpI hsv htv kk
  · refine lv_tableOut (tgt := 1064) hx hb dL_law_33 (by rw [hk9]; decide) (by decide) ?_
    exact W.widen (k := cells + 6) (n := slots + 6) (by omega) (by omega) (kk _ _ hI)
  · refine lv_tableOut (tgt := 1064) hx hb dL_law_33 (by rw [hk9]; decide) (by decide) ?_
    exact W.widen (k := cells + 6) (n := slots + 6) (by omega) (by omega) (kk _ _ hI)
  · refine lv_tableOut (tgt := 1064) hx hb dL_law_33 (by rw [hk9]; decide) (by decide) ?_
    exact W.widen (k := cells + 6) (n := slots + 6) (by omega) (by omega) (kk _ _ hI)
  · refine lv_tableOut (tgt := 1064) hx hb dL_law_33 (by rw [hk9]; decide) (by decide) ?_
    exact W.widen (k := cells + 6) (n := slots + 6) (by omega) (by omega) (kk _ _ hI)
theorem LI.S {D : va_G} {z : Nat → ClassId} {A : Nat → Prop} {H0 H : Heap} {locs : List Loc} {o q : Nat} (h : LI D z A H0 H locs o q) : va_S A H0 H locs := by
  obtain ⟨i0, i1, i2, i3, h⟩ := h
  unfold LI4 at h
  obtain ⟨n9, f9, g9, w9, x9, hP, hD, hS, h⟩ := h
  exact hS