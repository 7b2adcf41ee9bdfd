set_option maxHeartbeats 8000000 in
set_option maxRecDepth 100000 in
theorem law_head {p : Program} {l : Launch} {e : Env} {s : State} {m : MethodId} {below : List Frame} {meth : Method} {c : Code} {b L : Nat} {xs : Nat → Int32} {D : va_G} {cI cJ cZ cR : ClassId} {A : Nat → Prop} {h0 pg pc bk br fg f1 f2 f3 og o1 o2 lg l1 l2 l3 l4 l5 m0 m1 m2 m3 m4 m5 m6 m7 m8 m9 m10 m11 m12 m13 i : Nat} (hAA : ∀ q : Nat, A q ↔ s.heap.size ≤ q) (hL : L ≤ 2048) (C0 : lw_At p s m meth c b L xs) (hK : kK D cI cJ cZ cR s) (hi : i ≤ L) (hC0 : i + 4 ≤ L → lawC p l e s m below meth c b D cI cJ cZ cR A h0 pg pc bk br fg f1 f2 f3 og o1 o2 lg l1 l2 l3 l4 l5 m0 m1 m2 m3 m4 m5 m6 m7 m8 m9 m10 m11 m12 m13 486 i) : lawC p l e s m below meth c b D cI cJ cZ cR A h0 pg pc bk br fg f1 f2 f3 og o1 o2 lg l1 l2 l3 l4 l5 m0 m1 m2 m3 m4 m5 m6 m7 m8 m9 m10 m11 m12 m13 18 i := by
  obtain ⟨hx, hb, hrt, hml, hown0, hts0, hX, hbl, hlocks, hgv⟩ := id C0
  have hbA : ¬ A b := fun q => absurd ((hAA b).mp q) (Nat.not_le.mpr hbl)
  have hts : ∀ w ∈ gT, w.before #[Value.ref b] s = true := fun w h => hts0 w (List.mem_filter.mp h).1
  have hown : s.vm.findClass RL = some m.cls := hown0
  have hA : ∀ q : Nat, s.heap.size ≤ q → A q := fun q h => (hAA q).mpr h
  have hK1 := hK.1
  have hd : Hd p s m meth c #[Value.ref b] ⟨RL, "law", ""⟩ code 4 := ⟨hx, hb, hml, hown, hts⟩
  intro oS lS s1 s2 s3 z pf r9 rho n9 v g1 g2 g3 sf sd ff gf zf kf cf zm rm nm vm k1 k2 k3 k4 k5 k6 k7 k8 k9 hv pm ro re rn rg ea ne fw nf na la fa cn hI H locs ls hP hD hS hl
  obtain ⟨hz, hr, hB, hf, ez, ep, er, en, ev, es1, es2, es3, hMR, hFW, hSD, hLR, hRR, hFR, hRQ, hOS, hMO⟩ := hI
  subst ez
  subst ep
  subst er
  subst en
  subst ev
  subst es1
  subst es2
  subst es3
  have hP : va_P D vwCl ([kX6 h0 pg bk fg og lg oS lS s1 s2 s3, kX3 pg pc (nI z), kI cI pc 16 pf, kX5 bk br (nI r9), kQ cR br 9 (fun k => some ((rho k).1.1)), kX0 fg f1 f2 f3 (nI n9) (nI v), kI cI f1 12 g1, kI cI f2 12 g2, kI cI f3 12 g3, kX2 og o1 o2, kI cI o1 2400 sf, kI cI o2 4 sd, kX1 lg l1 l2 l3 l4 l5, kJ cJ l1 96 ff, kI cI l2 96 gf, kI cZ l3 96 zf, kI cI l4 96 kf, kI cI l5 6 cf, kX7 m0 (nI z) m1 (nI r9) m2 m3 m4 m5 (nI n9) (nI v) m6 s1 s2 s3 k4 m7 k5 k6 k7 k8 m8 m9 m10 k9 m11 m12 m13 hv, kI cI m1 16 pf, kI cI m2 9 ro, kI cI m3 9 re, kI cI m4 9 rn, kI cI m5 27 rg, kI cI m6 12 ea, kI cI m7 5 ne, kI cI m8 2400 fw, kI cI m9 32 nf, kI cI m10 4 na, kJ cJ m11 80 la, kI cI m12 48 fa, kI cI m13 3 cn] ++ RB cI rho) H := hP
  have hD : va_D A ([kX6 h0 pg bk fg og lg oS lS s1 s2 s3, kX3 pg pc (nI z), kI cI pc 16 pf, kX5 bk br (nI r9), kQ cR br 9 (fun k => some ((rho k).1.1)), kX0 fg f1 f2 f3 (nI n9) (nI v), kI cI f1 12 g1, kI cI f2 12 g2, kI cI f3 12 g3, kX2 og o1 o2, kI cI o1 2400 sf, kI cI o2 4 sd, kX1 lg l1 l2 l3 l4 l5, kJ cJ l1 96 ff, kI cI l2 96 gf, kI cZ l3 96 zf, kI cI l4 96 kf, kI cI l5 6 cf, kX7 m0 (nI z) m1 (nI r9) m2 m3 m4 m5 (nI n9) (nI v) m6 s1 s2 s3 k4 m7 k5 k6 k7 k8 m8 m9 m10 k9 m11 m12 m13 hv, kI cI m1 16 pf, kI cI m2 9 ro, kI cI m3 9 re, kI cI m4 9 rn, kI cI m5 27 rg, kI cI m6 12 ea, kI cI m7 5 ne, kI cI m8 2400 fw, kI cI m9 32 nf, kI cI m10 4 na, kJ cJ m11 80 la, kI cI m12 48 fa, kI cI m13 3 cn] ++ RB cI rho) := hD
  have hl : lv_has ls 4 [(0, .ref b), (1, .ref h0), (2, .ref m0), (3, .int (nI i))] := hl
  refine lv_iload_n hx hb dL_law_18 rfl (lv_at hl 3 rfl) ?_
  refine lv_aload_n hx hb dL_law_19 rfl (lv_at hl 0 rfl) ?_
  refine va_slen hx hb hX hbl hbA hS dL_law_20 ?_
  refine lv_nmi (show _ = (nI L) from rfl) ?_
  refine lv_iconst (v := 4) hx hb dL_law_21 (by decide) ?_
  refine lv_isub hx hb dL_law_22 ?_
  refine lv_icmp_gt (tgt := 492) hx hb dL_law_23 (by decide) (fun c_1 => ?_) (fun c_1 => ?_)
  · skip
    refine lv_iconst (v := 1) hx hb dL_law_492 (by decide) ?_
    refine va_forget (fun q hq => (hAA _).mp (hS.2.2 q hq)) ?_
    refine W.widen (k := 600000) (n := 7302250) (Nat.le_of_ble_eq_true rfl) (Nat.le_of_ble_eq_true rfl) ?_
    exact lw_ret hx hb hrt hlocks dL_law_493
  · skip
    have hi4 : i + 4 ≤ L := by rcases Nat.lt_or_ge L (i + 4) with q | q; exact absurd ((lg_len hL (by omega)).mpr q) c_1; exact q
    have hC := hC0 hi4
    refine lv_aload_n hx hb dL_law_26 rfl (lv_at hl 0 rfl) ?_
    refine lv_iload_n hx hb dL_law_27 rfl (lv_at hl 3 rfl) ?_
    refine va_sld hx hb hX hbl hbA hS (vp_in_nI (by omega) (by omega)) dL_law_28 ?_
    refine lv_nmi (show _ = (xs i : Int32) from by rw [nI_clamp (by omega)]) ?_
    refine lv_bipush (v := 15) hx hb dL_law_29 (by decide) ?_
    refine lv_iand hx hb dL_law_31 ?_
    rcases sw_15 ((xs i) &&& 15) with c_2 | c_2 | c_2 | c_2 | c_2 | c_2 | c_2 | c_2 | c_2 | c_2 | c_2 | c_2 | c_2 | c_2 | c_2 | c_2 | c_2
    · refine lv_nmi c_2 ?_
      refine lv_tableIn (off := 80) (tgt := 112) hx hb dL_law_32 (by decide) (by decide) (by decide) (by decide) ?_
      exact (law_0 hAA hL C0 hK (by omega) hC) oS lS s1 s2 s3 z pf r9 rho n9 v g1 g2 g3 sf sd ff gf zf kf cf z r9 n9 v s1 s2 s3 k4 k5 k6 k7 k8 k9 hv pf ro re rn rg ea ne fw nf na la fa cn ⟨hz, hr, hB, hf, rfl, rfl, rfl, rfl, rfl, rfl, rfl, rfl, hMR, hFW, hSD, hLR, hRR, hFR, hRQ, hOS, hMO⟩ _ _ _ hP hD hS (lv_sub hl [0, 1, 2, 3] rfl)
    · refine lv_nmi c_2 ?_
      refine lv_tableIn (off := 103) (tgt := 135) hx hb dL_law_32 (by decide) (by decide) (by decide) (by decide) ?_
      exact (law_1 hAA hL C0 hK (by omega) hC) oS lS s1 s2 s3 z pf r9 rho n9 v g1 g2 g3 sf sd ff gf zf kf cf z r9 n9 v s1 s2 s3 k4 k5 k6 k7 k8 k9 hv pf ro re rn rg ea ne fw nf na la fa cn ⟨hz, hr, hB, hf, rfl, rfl, rfl, rfl, rfl, rfl, rfl, rfl, hMR, hFW, hSD, hLR, hRR, hFR, hRQ, hOS, hMO⟩ _ _ _ hP hD hS (lv_sub hl [0, 1, 2, 3] rfl)
    · refine lv_nmi c_2 ?_
      refine lv_tableIn (off := 116) (tgt := 148) hx hb dL_law_32 (by decide) (by decide) (by decide) (by decide) ?_
      exact (law_2 hAA hL C0 hK (by omega) hC) oS lS s1 s2 s3 z pf r9 rho n9 v g1 g2 g3 sf sd ff gf zf kf cf z r9 n9 v s1 s2 s3 k4 k5 k6 k7 k8 k9 hv pf ro re rn rg ea ne fw nf na la fa cn ⟨hz, hr, hB, hf, rfl, rfl, rfl, rfl, rfl, rfl, rfl, rfl, hMR, hFW, hSD, hLR, hRR, hFR, hRQ, hOS, hMO⟩ _ _ _ hP hD hS (lv_sub hl [0, 1, 2, 3] rfl)
    · refine lv_nmi c_2 ?_
      refine lv_tableIn (off := 155) (tgt := 187) hx hb dL_law_32 (by decide) (by decide) (by decide) (by decide) ?_
      exact (law_3 hAA hL C0 hK (by omega) hC) oS lS s1 s2 s3 z pf r9 rho n9 v g1 g2 g3 sf sd ff gf zf kf cf z r9 n9 v s1 s2 s3 k4 k5 k6 k7 k8 k9 hv pf ro re rn rg ea ne fw nf na la fa cn ⟨hz, hr, hB, hf, rfl, rfl, rfl, rfl, rfl, rfl, rfl, rfl, hMR, hFW, hSD, hLR, hRR, hFR, hRQ, hOS, hMO⟩ _ _ _ hP hD hS (lv_sub hl [0, 1, 2, 3] rfl)
    · refine lv_nmi c_2 ?_
      refine lv_tableIn (off := 168) (tgt := 200) hx hb dL_law_32 (by decide) (by decide) (by decide) (by decide) ?_
      exact (law_4 hAA hL C0 hK (by omega) hC) oS lS s1 s2 s3 z pf r9 rho n9 v g1 g2 g3 sf sd ff gf zf kf cf z r9 n9 v s1 s2 s3 k4 k5 k6 k7 k8 k9 hv pf ro re rn rg ea ne fw nf na la fa cn ⟨hz, hr, hB, hf, rfl, rfl, rfl, rfl, rfl, rfl, rfl, rfl, hMR, hFW, hSD, hLR, hRR, hFR, hRQ, hOS, hMO⟩ _ _ _ hP hD hS (lv_sub hl [0, 1, 2, 3] rfl)
    · refine lv_nmi c_2 ?_
      refine lv_tableIn (off := 191) (tgt := 223) hx hb dL_law_32 (by decide) (by decide) (by decide) (by decide) ?_
      exact (law_5 hAA hL C0 hK (by omega) hC) oS lS s1 s2 s3 z pf r9 rho n9 v g1 g2 g3 sf sd ff gf zf kf cf z r9 n9 v s1 s2 s3 k4 k5 k6 k7 k8 k9 hv pf ro re rn rg ea ne fw nf na la fa cn ⟨hz, hr, hB, hf, rfl, rfl, rfl, rfl, rfl, rfl, rfl, rfl, hMR, hFW, hSD, hLR, hRR, hFR, hRQ, hOS, hMO⟩ _ _ _ hP hD hS (lv_sub hl [0, 1, 2, 3] rfl)
    · refine lv_nmi c_2 ?_
      refine lv_tableIn (off := 204) (tgt := 236) hx hb dL_law_32 (by decide) (by decide) (by decide) (by decide) ?_
      exact (law_6 hAA hL C0 hK (by omega) hC) oS lS s1 s2 s3 z pf r9 rho n9 v g1 g2 g3 sf sd ff gf zf kf cf z r9 n9 v s1 s2 s3 k4 k5 k6 k7 k8 k9 hv pf ro re rn rg ea ne fw nf na la fa cn ⟨hz, hr, hB, hf, rfl, rfl, rfl, rfl, rfl, rfl, rfl, rfl, hMR, hFW, hSD, hLR, hRR, hFR, hRQ, hOS, hMO⟩ _ _ _ hP hD hS (lv_sub hl [0, 1, 2, 3] rfl)
    · refine lv_nmi c_2 ?_
      refine lv_tableIn (off := 237) (tgt := 269) hx hb dL_law_32 (by decide) (by decide) (by decide) (by decide) ?_
      exact (law_7 hAA hL C0 hK (by omega) hC) oS lS s1 s2 s3 z pf r9 rho n9 v g1 g2 g3 sf sd ff gf zf kf cf z r9 n9 v s1 s2 s3 k4 k5 k6 k7 k8 k9 hv pf ro re rn rg ea ne fw nf na la fa cn ⟨hz, hr, hB, hf, rfl, rfl, rfl, rfl, rfl, rfl, rfl, rfl, hMR, hFW, hSD, hLR, hRR, hFR, hRQ, hOS, hMO⟩ _ _ _ hP hD hS (lv_sub hl [0, 1, 2, 3] rfl)
    · refine lv_nmi c_2 ?_
      refine lv_tableIn (off := 260) (tgt := 292) hx hb dL_law_32 (by decide) (by decide) (by decide) (by decide) ?_
      exact (law_8 hAA hL C0 hK (by omega) hC) oS lS s1 s2 s3 z pf r9 rho n9 v g1 g2 g3 sf sd ff gf zf kf cf z r9 n9 v s1 s2 s3 k4 k5 k6 k7 k8 k9 hv pf ro re rn rg ea ne fw nf na la fa cn ⟨hz, hr, hB, hf, rfl, rfl, rfl, rfl, rfl, rfl, rfl, rfl, hMR, hFW, hSD, hLR, hRR, hFR, hRQ, hOS, hMO⟩ _ _ _ hP hD hS (lv_sub hl [0, 1, 2, 3] rfl)
    · refine lv_nmi c_2 ?_
      refine lv_tableIn (off := 293) (tgt := 325) hx hb dL_law_32 (by decide) (by decide) (by decide) (by decide) ?_
      exact (law_9 hAA hL C0 hK (by omega) hC) oS lS s1 s2 s3 z pf r9 rho n9 v g1 g2 g3 sf sd ff gf zf kf cf z r9 n9 v s1 s2 s3 k4 k5 k6 k7 k8 k9 hv pf ro re rn rg ea ne fw nf na la fa cn ⟨hz, hr, hB, hf, rfl, rfl, rfl, rfl, rfl, rfl, rfl, rfl, hMR, hFW, hSD, hLR, hRR, hFR, hRQ, hOS, hMO⟩ _ _ _ hP hD hS (lv_sub hl [0, 1, 2, 3] rfl)
    · refine lv_nmi c_2 ?_
      refine lv_tableIn (off := 316) (tgt := 348) hx hb dL_law_32 (by decide) (by decide) (by decide) (by decide) ?_
      exact (law_10 hAA hL C0 hK (by omega) hC) oS lS s1 s2 s3 z pf r9 rho n9 v g1 g2 g3 sf sd ff gf zf kf cf z r9 n9 v s1 s2 s3 k4 k5 k6 k7 k8 k9 hv pf ro re rn rg ea ne fw nf na la fa cn ⟨hz, hr, hB, hf, rfl, rfl, rfl, rfl, rfl, rfl, rfl, rfl, hMR, hFW, hSD, hLR, hRR, hFR, hRQ, hOS, hMO⟩ _ _ _ hP hD hS (lv_sub hl [0, 1, 2, 3] rfl)
    · refine lv_nmi c_2 ?_
      refine lv_tableIn (off := 329) (tgt := 361) hx hb dL_law_32 (by decide) (by decide) (by decide) (by decide) ?_
      exact (law_11 hAA hL C0 hK (by omega) hC) oS lS s1 s2 s3 z pf r9 rho n9 v g1 g2 g3 sf sd ff gf zf kf cf z r9 n9 v s1 s2 s3 k4 k5 k6 k7 k8 k9 hv pf ro re rn rg ea ne fw nf na la fa cn ⟨hz, hr, hB, hf, rfl, rfl, rfl, rfl, rfl, rfl, rfl, rfl, hMR, hFW, hSD, hLR, hRR, hFR, hRQ, hOS, hMO⟩ _ _ _ hP hD hS (lv_sub hl [0, 1, 2, 3] rfl)
    · refine lv_nmi c_2 ?_
      refine lv_tableIn (off := 352) (tgt := 384) hx hb dL_law_32 (by decide) (by decide) (by decide) (by decide) ?_
      exact (law_12 hAA hL C0 hK (by omega) hC) oS lS s1 s2 s3 z pf r9 rho n9 v g1 g2 g3 sf sd ff gf zf kf cf z r9 n9 v s1 s2 s3 k4 k5 k6 k7 k8 k9 hv pf ro re rn rg ea ne fw nf na la fa cn ⟨hz, hr, hB, hf, rfl, rfl, rfl, rfl, rfl, rfl, rfl, rfl, hMR, hFW, hSD, hLR, hRR, hFR, hRQ, hOS, hMO⟩ _ _ _ hP hD hS (lv_sub hl [0, 1, 2, 3] rfl)
    · refine lv_nmi c_2 ?_
      refine lv_tableIn (off := 375) (tgt := 407) hx hb dL_law_32 (by decide) (by decide) (by decide) (by decide) ?_
      exact (law_13 hAA hL C0 hK (by omega) hC) oS lS s1 s2 s3 z pf r9 rho n9 v g1 g2 g3 sf sd ff gf zf kf cf z r9 n9 v s1 s2 s3 k4 k5 k6 k7 k8 k9 hv pf ro re rn rg ea ne fw nf na la fa cn ⟨hz, hr, hB, hf, rfl, rfl, rfl, rfl, rfl, rfl, rfl, rfl, hMR, hFW, hSD, hLR, hRR, hFR, hRQ, hOS, hMO⟩ _ _ _ hP hD hS (lv_sub hl [0, 1, 2, 3] rfl)
    · refine lv_nmi c_2 ?_
      refine lv_tableIn (off := 418) (tgt := 450) hx hb dL_law_32 (by decide) (by decide) (by decide) (by decide) ?_
      exact (law_14 hAA hL C0 hK (by omega) hC) oS lS s1 s2 s3 z pf r9 rho n9 v g1 g2 g3 sf sd ff gf zf kf cf z r9 n9 v s1 s2 s3 k4 k5 k6 k7 k8 k9 hv pf ro re rn rg ea ne fw nf na la fa cn ⟨hz, hr, hB, hf, rfl, rfl, rfl, rfl, rfl, rfl, rfl, rfl, hMR, hFW, hSD, hLR, hRR, hFR, hRQ, hOS, hMO⟩ _ _ _ hP hD hS (lv_sub hl [0, 1, 2, 3] rfl)
    · refine lv_nmi c_2 ?_
      refine lv_tableIn (off := 441) (tgt := 473) hx hb dL_law_32 (by decide) (by decide) (by decide) (by decide) ?_
      exact (law_15 hAA hL C0 hK (by omega) hC) oS lS s1 s2 s3 z pf r9 rho n9 v g1 g2 g3 sf sd ff gf zf kf cf z r9 n9 v s1 s2 s3 k4 k5 k6 k7 k8 k9 hv pf ro re rn rg ea ne fw nf na la fa cn ⟨hz, hr, hB, hf, rfl, rfl, rfl, rfl, rfl, rfl, rfl, rfl, hMR, hFW, hSD, hLR, hRR, hFR, hRQ, hOS, hMO⟩ _ _ _ hP hD hS (lv_sub hl [0, 1, 2, 3] rfl)
    · refine lv_tableOut (tgt := 486) hx hb dL_law_32 c_2 (by decide) ?_
      exact hC oS lS s1 s2 s3 z pf r9 rho n9 v g1 g2 g3 sf sd ff gf zf kf cf z r9 n9 v s1 s2 s3 k4 k5 k6 k7 k8 k9 hv pf ro re rn rg ea ne fw nf na la fa cn ⟨hz, hr, hB, hf, rfl, rfl, rfl, rfl, rfl, rfl, rfl, rfl, hMR, hFW, hSD, hLR, hRR, hFR, hRQ, hOS, hMO⟩ _ _ _ hP hD hS (lv_sub hl [0, 1, 2, 3] rfl)
set_option maxHeartbeats 8000000 in
set_option maxRecDepth 100000 in
theorem law_back {p : Program} {l : Launch} {e : Env} {s : State} {m : MethodId} {below : List Frame} {meth : Method} {c : Code} {b L : Nat} {xs : Nat → Int32} {D : va_G} {cI cJ cZ cR : ClassId} {A : Nat → Prop} {h0 pg pc bk br fg f1 f2 f3 og o1 o2 lg l1 l2 l3 l4 l5 m0 m1 m2 m3 m4 m5 m6 m7 m8 m9 m10 m11 m12 m13 i : Nat} (hAA : ∀ q : Nat, A q ↔ s.heap.size ≤ q) (hL : L ≤ 2048) (C0 : lw_At p s m meth c b L xs) (hK : kK D cI cJ cZ cR s) (hi : i + 4 ≤ L) (hC : lawC p l e s m below meth c b D cI cJ cZ cR A h0 pg pc bk br fg f1 f2 f3 og o1 o2 lg l1 l2 l3 l4 l5 m0 m1 m2 m3 m4 m5 m6 m7 m8 m9 m10 m11 m12 m13 18 (i + 4)) : lawC p l e s m below meth c b D cI cJ cZ cR A h0 pg pc bk br fg f1 f2 f3 og o1 o2 lg l1 l2 l3 l4 l5 m0 m1 m2 m3 m4 m5 m6 m7 m8 m9 m10 m11 m12 m13 486 i := by
  obtain ⟨hx, hb, hrt, hml, hown0, hts0, hX, hbl, hlocks, hgv⟩ := id C0
  have hbA : ¬ A b := fun q => absurd ((hAA b).mp q) (Nat.not_le.mpr hbl)
  have hts : ∀ w ∈ gT, w.before #[Value.ref b] s = true := fun w h => hts0 w (List.mem_filter.mp h).1
  have hown : s.vm.findClass RL = some m.cls := hown0
  have hA : ∀ q : Nat, s.heap.size ≤ q → A q := fun q h => (hAA q).mpr h
  have hK1 := hK.1
  have hd : Hd p s m meth c #[Value.ref b] ⟨RL, "law", ""⟩ code 4 := ⟨hx, hb, hml, hown, hts⟩
  intro oS lS s1 s2 s3 z pf r9 rho n9 v g1 g2 g3 sf sd ff gf zf kf cf zm rm nm vm k1 k2 k3 k4 k5 k6 k7 k8 k9 hv pm ro re rn rg ea ne fw nf na la fa cn hI H locs ls hP hD hS hl
  obtain ⟨hz, hr, hB, hf, ez, ep, er, en, ev, es1, es2, es3, hMR, hFW, hSD, hLR, hRR, hFR, hRQ, hOS, hMO⟩ := hI
  subst ez
  subst ep
  subst er
  subst en
  subst ev
  subst es1
  subst es2
  subst es3
  have hP : va_P D vwCl ([kX6 h0 pg bk fg og lg oS lS s1 s2 s3, kX3 pg pc (nI z), kI cI pc 16 pf, kX5 bk br (nI r9), kQ cR br 9 (fun k => some ((rho k).1.1)), kX0 fg f1 f2 f3 (nI n9) (nI v), kI cI f1 12 g1, kI cI f2 12 g2, kI cI f3 12 g3, kX2 og o1 o2, kI cI o1 2400 sf, kI cI o2 4 sd, kX1 lg l1 l2 l3 l4 l5, kJ cJ l1 96 ff, kI cI l2 96 gf, kI cZ l3 96 zf, kI cI l4 96 kf, kI cI l5 6 cf, kX7 m0 (nI z) m1 (nI r9) m2 m3 m4 m5 (nI n9) (nI v) m6 s1 s2 s3 k4 m7 k5 k6 k7 k8 m8 m9 m10 k9 m11 m12 m13 hv, kI cI m1 16 pf, kI cI m2 9 ro, kI cI m3 9 re, kI cI m4 9 rn, kI cI m5 27 rg, kI cI m6 12 ea, kI cI m7 5 ne, kI cI m8 2400 fw, kI cI m9 32 nf, kI cI m10 4 na, kJ cJ m11 80 la, kI cI m12 48 fa, kI cI m13 3 cn] ++ RB cI rho) H := hP
  have hD : va_D A ([kX6 h0 pg bk fg og lg oS lS s1 s2 s3, kX3 pg pc (nI z), kI cI pc 16 pf, kX5 bk br (nI r9), kQ cR br 9 (fun k => some ((rho k).1.1)), kX0 fg f1 f2 f3 (nI n9) (nI v), kI cI f1 12 g1, kI cI f2 12 g2, kI cI f3 12 g3, kX2 og o1 o2, kI cI o1 2400 sf, kI cI o2 4 sd, kX1 lg l1 l2 l3 l4 l5, kJ cJ l1 96 ff, kI cI l2 96 gf, kI cZ l3 96 zf, kI cI l4 96 kf, kI cI l5 6 cf, kX7 m0 (nI z) m1 (nI r9) m2 m3 m4 m5 (nI n9) (nI v) m6 s1 s2 s3 k4 m7 k5 k6 k7 k8 m8 m9 m10 k9 m11 m12 m13 hv, kI cI m1 16 pf, kI cI m2 9 ro, kI cI m3 9 re, kI cI m4 9 rn, kI cI m5 27 rg, kI cI m6 12 ea, kI cI m7 5 ne, kI cI m8 2400 fw, kI cI m9 32 nf, kI cI m10 4 na, kJ cJ m11 80 la, kI cI m12 48 fa, kI cI m13 3 cn] ++ RB cI rho) := hD
  have hl : lv_has ls 4 [(0, .ref b), (1, .ref h0), (2, .ref m0), (3, .int (nI i))] := hl
  refine lv_iinc (v := nI (i + 4)) (lv' := [(3, .int (nI (i + 4))), (0, .ref b), (1, .ref h0), (2, .ref m0)]) hx hb dL_law_486 hl (k := 3) rfl (nI_add i 4) (by decide) rfl (fun ls hl => ?_)
  refine lv_goto (tgt := 18) hx hb dL_law_489 (by decide) ?_
  exact hC oS lS s1 s2 s3 z pf r9 rho n9 v g1 g2 g3 sf sd ff gf zf kf cf z r9 n9 v s1 s2 s3 k4 k5 k6 k7 k8 k9 hv pf ro re rn rg ea ne fw nf na la fa cn ⟨hz, hr, hB, hf, rfl, rfl, rfl, rfl, rfl, rfl, rfl, rfl, hMR, hFW, hSD, hLR, hRR, hFR, hRQ, hOS, hMO⟩ _ _ _ hP hD hS (lv_sub hl [1, 2, 3, 0] rfl)
set_option maxHeartbeats 8000000 in
set_option maxRecDepth 100000 in
theorem law_loop {p : Program} {l : Launch} {e : Env} {s : State} {m : MethodId} {below : List Frame} {meth : Method} {c : Code} {b L : Nat} {xs : Nat → Int32} {D : va_G} {cI cJ cZ cR : ClassId} {A : Nat → Prop} {h0 pg pc bk br fg f1 f2 f3 og o1 o2 lg l1 l2 l3 l4 l5 m0 m1 m2 m3 m4 m5 m6 m7 m8 m9 m10 m11 m12 m13 : Nat} (hAA : ∀ q : Nat, A q ↔ s.heap.size ≤ q) (hL : L ≤ 2048) (C0 : lw_At p s m meth c b L xs) (hK : kK D cI cJ cZ cR s) : ∀ n i : Nat, L < i + 4 * n + 4 → i ≤ L → lawC p l e s m below meth c b D cI cJ cZ cR A h0 pg pc bk br fg f1 f2 f3 og o1 o2 lg l1 l2 l3 l4 l5 m0 m1 m2 m3 m4 m5 m6 m7 m8 m9 m10 m11 m12 m13 18 i := by
  intro n
  induction n with
  | zero => intro i h1 h2; exact law_head hAA hL C0 hK h2 (fun q => absurd q (by omega))
  | succ n ih => intro i h1 h2; exact law_head hAA hL C0 hK h2 (fun q => law_back hAA hL C0 hK q (ih (i + 4) (by omega) (by omega)))
set_option maxHeartbeats 8000000 in
set_option maxRecDepth 100000 in
/-- from the entry, for every script of at most 2048 ints, the law comes to its end with true -/
theorem whole_start {p : Program} {e : Env} {s : State} {m : MethodId} {below : List Frame} {meth : Method} {c : Code} (l : Launch) (hflags : l.flags = flags0) {b L : Nat} {xs : Nat → Int32} (hL : L ≤ 2048) (C0 : lw_At p s m meth c b L xs) : W p l e room_1 s m #[Value.ref b] below meth c s.heap [] 0 0 (lw_Z below #[Value.ref b] s) (entryFrame m ([Value.ref b] : List Value).toArray 4) := by
  obtain ⟨hx, hb, hrt, hml, hown0, hts0, hX, hbl, hlocks, hgv⟩ := id C0
  obtain ⟨A, hAA⟩ : ∃ A : Nat → Prop, ∀ q, A q ↔ s.heap.size ≤ q := ⟨fun q => s.heap.size ≤ q, fun _ => Iff.rfl⟩
  have hts : ∀ w ∈ gT, w.before #[Value.ref b] s = true := fun w h => hts0 w (List.mem_filter.mp h).1
  have hown : s.vm.findClass RL = some m.cls := hown0
  have hA : ∀ q : Nat, s.heap.size ≤ q → A q := fun q h => (hAA q).mpr h
  obtain ⟨D, cI, cJ, cZ, cR, hK⟩ := law_K hts (law_N (fun w h => hts0 w (List.mem_append_right _ h)))
  have hK1 := hK.1
  have hd : Hd p s m meth c #[Value.ref b] ⟨RL, "law", ""⟩ code 4 := ⟨hx, hb, hml, hown, hts⟩
  have hS : va_S A s.heap s.heap [] := va_S.rf
  have hP : va_P D vwCl [] s.heap := fun k q h => by simp at h
  have hD : va_D A [] := ⟨fun i j p q h => by simp at h, fun k q h => by simp at h⟩
  have hl := lv_entry ([.ref b]) (n := 4) (Nat.le_of_ble_eq_true rfl)
  rw [lg_entry_eq]
  generalize (lg_sl ([.ref b]) ++ List.replicate (4 - (lg_sl ([.ref b])).length) Slot.unset).toArray = ls at hl ⊢
  have hl : lv_has ls 4 [(0, .ref b)] := hl
  refine va_new (ci := 6) (fs := [.null, .null, .null, .null, .null, .int 0, .int 0, .int 0, .int 0, .int 0]) (C := RX6) (T := TX6) (N := 10) hx hb hts iT_X6 tyX6 tyX6_ok hown (hts _ t_12) (hts _ t_13) (hts _ t_1) hK1 hP hD hS hA rfl df_X6 (Nat.le_of_ble_eq_true rfl) (Nat.le_of_ble_eq_true rfl) dL_law_0 (fun q_1 H hP hD hS => ?_)
  have hP : va_P D vwCl [(q_1, .inr (6, [.null, .null, .null, .null, .null, .int 0, .int 0, .int 0, .int 0, .int 0]))] H := hP
  have hD : va_D A [(q_1, .inr (6, [.null, .null, .null, .null, .null, .int 0, .int 0, .int 0, .int 0, .int 0]))] := hD
  refine W.widen (k := 1) (n := 10) (Nat.le_of_ble_eq_true rfl) (Nat.le_of_ble_eq_true rfl) ?_
  refine lv_dup hx hb dL_law_3 rfl ?_
  refine xc_v (wc := [(q_1, .inr (6, [.null, .null, .null, .null, .null, .int 0, .int 0, .int 0, .int 0, .int 0]))]) (wr := []) (xrI (n := 0) (As := []) (rest := [.ref q_1]) hd hK hP hD (c_X6_init l D cI cJ cZ cR _ q_1 ) mI_X6_init.1 mI_X6_init.2.1 t_14 mI_X6_init.2.2 rfl hS_X6_init ⟨(Nat.le_of_ble_eq_true rfl), (Nat.le_of_ble_eq_true rfl)⟩ [0] rfl rfl rfl hl.1 rfl (Nat.le_of_ble_eq_true rfl) dL_law_4 ⟨(Nat.le_of_ble_eq_true rfl), (Nat.le_of_ble_eq_true rfl)⟩) hP hD hS hA [0] [] rfl rfl rfl (by decide) (fun u_3 H locs hw_4 hP hD hS => ?_)
  obtain ⟨pg_5, pc_6, bk_7, br_8, fg_9, f1_10, f2_11, f3_12, og_13, o1_14, o2_15, lg_16, l1_17, l2_18, l3_19, l4_20, l5_21, rho_22⟩ := u_3
  obtain ⟨hP, hD⟩ := PD.perm ⟨hP, hD⟩ (permB' (wr := []) (a := [kX6 q_1 pg_5 bk_7 fg_9 og_13 lg_16 0 0 0 0 0, kX3 pg_5 pc_6 0, kI cI pc_6 16 (fun _ => 0), kX5 bk_7 br_8 0, kQ cR br_8 9 (fun k => some ((rho_22 k).1.1)), kX0 fg_9 f1_10 f2_11 f3_12 0 0, kI cI f1_10 12 (fun _ => 0), kI cI f2_11 12 (fun _ => 0), kI cI f3_12 12 (fun _ => 0), kX2 og_13 o1_14 o2_15, kI cI o1_14 2400 (fun _ => 0), kI cI o2_15 4 (fun _ => 0), kX1 lg_16 l1_17 l2_18 l3_19 l4_20 l5_21, kJ cJ l1_17 96 (fun _ => 0), kI cI l2_18 96 (fun _ => 0), kI cZ l3_19 96 (fun _ => 0), kI cI l4_20 96 (fun _ => 0), kI cI l5_21 6 (fun _ => 0)]) (T := RB cI rho_22))
  have hP : va_P D vwCl ([kX6 q_1 pg_5 bk_7 fg_9 og_13 lg_16 0 0 0 0 0, kX3 pg_5 pc_6 0, kI cI pc_6 16 (fun _ => 0), kX5 bk_7 br_8 0, kQ cR br_8 9 (fun k => some ((rho_22 k).1.1)), kX0 fg_9 f1_10 f2_11 f3_12 0 0, kI cI f1_10 12 (fun _ => 0), kI cI f2_11 12 (fun _ => 0), kI cI f3_12 12 (fun _ => 0), kX2 og_13 o1_14 o2_15, kI cI o1_14 2400 (fun _ => 0), kI cI o2_15 4 (fun _ => 0), kX1 lg_16 l1_17 l2_18 l3_19 l4_20 l5_21, kJ cJ l1_17 96 (fun _ => 0), kI cI l2_18 96 (fun _ => 0), kI cZ l3_19 96 (fun _ => 0), kI cI l4_20 96 (fun _ => 0), kI cI l5_21 6 (fun _ => 0)] ++ RB cI rho_22) H := hP
  have hD : va_D A ([kX6 q_1 pg_5 bk_7 fg_9 og_13 lg_16 0 0 0 0 0, kX3 pg_5 pc_6 0, kI cI pc_6 16 (fun _ => 0), kX5 bk_7 br_8 0, kQ cR br_8 9 (fun k => some ((rho_22 k).1.1)), kX0 fg_9 f1_10 f2_11 f3_12 0 0, kI cI f1_10 12 (fun _ => 0), kI cI f2_11 12 (fun _ => 0), kI cI f3_12 12 (fun _ => 0), kX2 og_13 o1_14 o2_15, kI cI o1_14 2400 (fun _ => 0), kI cI o2_15 4 (fun _ => 0), kX1 lg_16 l1_17 l2_18 l3_19 l4_20 l5_21, kJ cJ l1_17 96 (fun _ => 0), kI cI l2_18 96 (fun _ => 0), kI cZ l3_19 96 (fun _ => 0), kI cI l4_20 96 (fun _ => 0), kI cI l5_21 6 (fun _ => 0)] ++ RB cI rho_22) := hD
  refine W.widen (k := 90) (n := 4231) (Nat.le_of_ble_eq_true rfl) (Nat.le_of_ble_eq_true rfl) ?_
  refine lv_astore_n (lv' := [(1, .ref q_1), (0, .ref b)]) hx hb dL_law_7 rfl hl (by decide) rfl (fun ls hl => ?_)
  refine va_new (ci := 7) (fs := [.int 0, .null, .int 0, .null, .null, .null, .null, .int 0, .int 0, .null, .int 0, .int 0, .int 0, .int 0, .null, .int 0, .int 0, .int 0, .int 0, .null, .null, .null, .int 0, .null, .null, .null, .long 0]) (C := RX7) (T := TX7) (N := 27) hx hb hts iT_X7 tyX7 tyX7_ok hown (hts _ t_545) (hts _ t_546) (hts _ t_8) hK1 hP hD hS hA rfl df_X7 (Nat.le_of_ble_eq_true rfl) (Nat.le_of_ble_eq_true rfl) dL_law_8 (fun q_23 H hP hD hS => ?_)
  obtain ⟨hP, hD⟩ := PD.perm ⟨hP, hD⟩ permA'
  have hP : va_P D vwCl ([kX6 q_1 pg_5 bk_7 fg_9 og_13 lg_16 0 0 0 0 0, kX3 pg_5 pc_6 0, kI cI pc_6 16 (fun _ => 0), kX5 bk_7 br_8 0, kQ cR br_8 9 (fun k => some ((rho_22 k).1.1)), kX0 fg_9 f1_10 f2_11 f3_12 0 0, kI cI f1_10 12 (fun _ => 0), kI cI f2_11 12 (fun _ => 0), kI cI f3_12 12 (fun _ => 0), kX2 og_13 o1_14 o2_15, kI cI o1_14 2400 (fun _ => 0), kI cI o2_15 4 (fun _ => 0), kX1 lg_16 l1_17 l2_18 l3_19 l4_20 l5_21, kJ cJ l1_17 96 (fun _ => 0), kI cI l2_18 96 (fun _ => 0), kI cZ l3_19 96 (fun _ => 0), kI cI l4_20 96 (fun _ => 0), kI cI l5_21 6 (fun _ => 0), (q_23, .inr (7, [.int 0, .null, .int 0, .null, .null, .null, .null, .int 0, .int 0, .null, .int 0, .int 0, .int 0, .int 0, .null, .int 0, .int 0, .int 0, .int 0, .null, .null, .null, .int 0, .null, .null, .null, .long 0]))] ++ RB cI rho_22) H := hP
  have hD : va_D A ([kX6 q_1 pg_5 bk_7 fg_9 og_13 lg_16 0 0 0 0 0, kX3 pg_5 pc_6 0, kI cI pc_6 16 (fun _ => 0), kX5 bk_7 br_8 0, kQ cR br_8 9 (fun k => some ((rho_22 k).1.1)), kX0 fg_9 f1_10 f2_11 f3_12 0 0, kI cI f1_10 12 (fun _ => 0), kI cI f2_11 12 (fun _ => 0), kI cI f3_12 12 (fun _ => 0), kX2 og_13 o1_14 o2_15, kI cI o1_14 2400 (fun _ => 0), kI cI o2_15 4 (fun _ => 0), kX1 lg_16 l1_17 l2_18 l3_19 l4_20 l5_21, kJ cJ l1_17 96 (fun _ => 0), kI cI l2_18 96 (fun _ => 0), kI cZ l3_19 96 (fun _ => 0), kI cI l4_20 96 (fun _ => 0), kI cI l5_21 6 (fun _ => 0), (q_23, .inr (7, [.int 0, .null, .int 0, .null, .null, .null, .null, .int 0, .int 0, .null, .int 0, .int 0, .int 0, .int 0, .null, .int 0, .int 0, .int 0, .int 0, .null, .null, .null, .int 0, .null, .null, .null, .long 0]))] ++ RB cI rho_22) := hD
  refine W.widen (k := 91) (n := 4258) (Nat.le_of_ble_eq_true rfl) (Nat.le_of_ble_eq_true rfl) ?_
  refine lv_dup hx hb dL_law_11 rfl ?_
  have hPD : PD D A ([(q_23, .inr (7, [.int 0, .null, .int 0, .null, .null, .null, .null, .int 0, .int 0, .null, .int 0, .int 0, .int 0, .int 0, .null, .int 0, .int 0, .int 0, .int 0, .null, .null, .null, .int 0, .null, .null, .null, .long 0]))] ++ ([kX6 q_1 pg_5 bk_7 fg_9 og_13 lg_16 0 0 0 0 0, kX3 pg_5 pc_6 0, kI cI pc_6 16 (fun _ => 0), kX5 bk_7 br_8 0, kQ cR br_8 9 (fun k => some ((rho_22 k).1.1)), kX0 fg_9 f1_10 f2_11 f3_12 0 0, kI cI f1_10 12 (fun _ => 0), kI cI f2_11 12 (fun _ => 0), kI cI f3_12 12 (fun _ => 0), kX2 og_13 o1_14 o2_15, kI cI o1_14 2400 (fun _ => 0), kI cI o2_15 4 (fun _ => 0), kX1 lg_16 l1_17 l2_18 l3_19 l4_20 l5_21, kJ cJ l1_17 96 (fun _ => 0), kI cI l2_18 96 (fun _ => 0), kI cZ l3_19 96 (fun _ => 0), kI cI l4_20 96 (fun _ => 0), kI cI l5_21 6 (fun _ => 0)] ++ RB cI rho_22)) H := PD.perm ⟨hP, hD⟩ (permA pm_76)
  refine xp_v (wc := [(q_23, .inr (7, [.int 0, .null, .int 0, .null, .null, .null, .null, .int 0, .int 0, .null, .int 0, .int 0, .int 0, .int 0, .null, .int 0, .int 0, .int 0, .int 0, .null, .null, .null, .int 0, .null, .null, .null, .long 0]))]) (wr := ([kX6 q_1 pg_5 bk_7 fg_9 og_13 lg_16 0 0 0 0 0, kX3 pg_5 pc_6 0, kI cI pc_6 16 (fun _ => 0), kX5 bk_7 br_8 0, kQ cR br_8 9 (fun k => some ((rho_22 k).1.1)), kX0 fg_9 f1_10 f2_11 f3_12 0 0, kI cI f1_10 12 (fun _ => 0), kI cI f2_11 12 (fun _ => 0), kI cI f3_12 12 (fun _ => 0), kX2 og_13 o1_14 o2_15, kI cI o1_14 2400 (fun _ => 0), kI cI o2_15 4 (fun _ => 0), kX1 lg_16 l1_17 l2_18 l3_19 l4_20 l5_21, kJ cJ l1_17 96 (fun _ => 0), kI cI l2_18 96 (fun _ => 0), kI cZ l3_19 96 (fun _ => 0), kI cI l4_20 96 (fun _ => 0), kI cI l5_21 6 (fun _ => 0)] ++ RB cI rho_22)) (xqI (n := 0) (As := []) (rest := [.ref q_23]) hd hK hPD.left (c_X7_init l D cI cJ cZ cR _ q_23 ) mI_X7_init.1 mI_X7_init.2.1 t_547 mI_X7_init.2.2 rfl hS_X7_init ⟨(Nat.le_of_ble_eq_true rfl), (Nat.le_of_ble_eq_true rfl)⟩ rfl hl.1 rfl (Nat.le_of_ble_eq_true rfl) dL_law_12 ⟨(Nat.le_of_ble_eq_true rfl), (Nat.le_of_ble_eq_true rfl)⟩) hPD hS hA (fun u_25 H locs hw_26 hPD hS => ?_)
  obtain ⟨m1_27, m2_28, m3_29, m4_30, m5_31, m6_32, m7_33, m8_34, m9_35, m10_36, m11_37, m12_38, m13_39⟩ := u_25
  obtain ⟨hP, hD⟩ := hPD.perm permA'
  have hP : va_P D vwCl ([kX6 q_1 pg_5 bk_7 fg_9 og_13 lg_16 0 0 0 0 0, kX3 pg_5 pc_6 0, kI cI pc_6 16 (fun _ => 0), kX5 bk_7 br_8 0, kQ cR br_8 9 (fun k => some ((rho_22 k).1.1)), kX0 fg_9 f1_10 f2_11 f3_12 0 0, kI cI f1_10 12 (fun _ => 0), kI cI f2_11 12 (fun _ => 0), kI cI f3_12 12 (fun _ => 0), kX2 og_13 o1_14 o2_15, kI cI o1_14 2400 (fun _ => 0), kI cI o2_15 4 (fun _ => 0), kX1 lg_16 l1_17 l2_18 l3_19 l4_20 l5_21, kJ cJ l1_17 96 (fun _ => 0), kI cI l2_18 96 (fun _ => 0), kI cZ l3_19 96 (fun _ => 0), kI cI l4_20 96 (fun _ => 0), kI cI l5_21 6 (fun _ => 0), kX7 q_23 0 m1_27 0 m2_28 m3_29 m4_30 m5_31 0 0 m6_32 0 0 0 0 m7_33 0 0 0 0 m8_34 m9_35 m10_36 0 m11_37 m12_38 m13_39 0, kI cI m1_27 16 (fun _ => 0), kI cI m2_28 9 (fun _ => 0), kI cI m3_29 9 (fun _ => 0), kI cI m4_30 9 (fun _ => 0), kI cI m5_31 27 (fun _ => 0), kI cI m6_32 12 (fun _ => 0), kI cI m7_33 5 (fun _ => 0), kI cI m8_34 2400 (fun _ => 0), kI cI m9_35 32 (fun _ => 0), kI cI m10_36 4 (fun _ => 0), kJ cJ m11_37 80 (fun _ => 0), kI cI m12_38 48 (fun _ => 0), kI cI m13_39 3 (fun _ => 0)] ++ RB cI rho_22) H := hP
  have hD : va_D A ([kX6 q_1 pg_5 bk_7 fg_9 og_13 lg_16 0 0 0 0 0, kX3 pg_5 pc_6 0, kI cI pc_6 16 (fun _ => 0), kX5 bk_7 br_8 0, kQ cR br_8 9 (fun k => some ((rho_22 k).1.1)), kX0 fg_9 f1_10 f2_11 f3_12 0 0, kI cI f1_10 12 (fun _ => 0), kI cI f2_11 12 (fun _ => 0), kI cI f3_12 12 (fun _ => 0), kX2 og_13 o1_14 o2_15, kI cI o1_14 2400 (fun _ => 0), kI cI o2_15 4 (fun _ => 0), kX1 lg_16 l1_17 l2_18 l3_19 l4_20 l5_21, kJ cJ l1_17 96 (fun _ => 0), kI cI l2_18 96 (fun _ => 0), kI cZ l3_19 96 (fun _ => 0), kI cI l4_20 96 (fun _ => 0), kI cI l5_21 6 (fun _ => 0), kX7 q_23 0 m1_27 0 m2_28 m3_29 m4_30 m5_31 0 0 m6_32 0 0 0 0 m7_33 0 0 0 0 m8_34 m9_35 m10_36 0 m11_37 m12_38 m13_39 0, kI cI m1_27 16 (fun _ => 0), kI cI m2_28 9 (fun _ => 0), kI cI m3_29 9 (fun _ => 0), kI cI m4_30 9 (fun _ => 0), kI cI m5_31 27 (fun _ => 0), kI cI m6_32 12 (fun _ => 0), kI cI m7_33 5 (fun _ => 0), kI cI m8_34 2400 (fun _ => 0), kI cI m9_35 32 (fun _ => 0), kI cI m10_36 4 (fun _ => 0), kJ cJ m11_37 80 (fun _ => 0), kI cI m12_38 48 (fun _ => 0), kI cI m13_39 3 (fun _ => 0)] ++ RB cI rho_22) := hD
  refine W.widen (k := 104) (n := 6912) (Nat.le_of_ble_eq_true rfl) (Nat.le_of_ble_eq_true rfl) ?_
  refine lv_astore_n (lv' := [(2, .ref q_23), (1, .ref q_1), (0, .ref b)]) hx hb dL_law_15 rfl hl (by decide) rfl (fun ls hl => ?_)
  refine lv_iconst (v := 0) hx hb dL_law_16 (by decide) ?_
  refine lv_istore_n (lv' := [(3, .int 0), (2, .ref q_23), (1, .ref q_1), (0, .ref b)]) hx hb dL_law_17 rfl hl (by decide) rfl (fun ls hl => ?_)
  have hPD : PD D A ([kX6 q_1 pg_5 bk_7 fg_9 og_13 lg_16 0 0 0 0 0, kX3 pg_5 pc_6 0, kI cI pc_6 16 (fun _ => 0), kX5 bk_7 br_8 0, kQ cR br_8 9 (fun k => some ((rho_22 k).1.1)), kX0 fg_9 f1_10 f2_11 f3_12 0 0, kI cI f1_10 12 (fun _ => 0), kI cI f2_11 12 (fun _ => 0), kI cI f3_12 12 (fun _ => 0), kX2 og_13 o1_14 o2_15, kI cI o1_14 2400 (fun _ => 0), kI cI o2_15 4 (fun _ => 0), kX1 lg_16 l1_17 l2_18 l3_19 l4_20 l5_21, kJ cJ l1_17 96 (fun _ => 0), kI cI l2_18 96 (fun _ => 0), kI cZ l3_19 96 (fun _ => 0), kI cI l4_20 96 (fun _ => 0), kI cI l5_21 6 (fun _ => 0), kX7 q_23 0 m1_27 0 m2_28 m3_29 m4_30 m5_31 0 0 m6_32 0 0 0 0 m7_33 0 0 0 0 m8_34 m9_35 m10_36 0 m11_37 m12_38 m13_39 0, kI cI m1_27 16 (fun _ => 0), kI cI m2_28 9 (fun _ => 0), kI cI m3_29 9 (fun _ => 0), kI cI m4_30 9 (fun _ => 0), kI cI m5_31 27 (fun _ => 0), kI cI m6_32 12 (fun _ => 0), kI cI m7_33 5 (fun _ => 0), kI cI m8_34 2400 (fun _ => 0), kI cI m9_35 32 (fun _ => 0), kI cI m10_36 4 (fun _ => 0), kJ cJ m11_37 80 (fun _ => 0), kI cI m12_38 48 (fun _ => 0), kI cI m13_39 3 (fun _ => 0)] ++ RB cI rho_22) H := (PD.perm ⟨hP, hD⟩ (permB pm_77)).left
  exact law_loop hAA hL C0 hK 512 0 (by omega) (by omega) 0 0 0 0 0 0 (fun _ => 0) 0 rho_22 0 0 (fun _ => 0) (fun _ => 0) (fun _ => 0) (fun _ => 0) (fun _ => 0) (fun _ => 0) (fun _ => 0) (fun _ => 0) (fun _ => 0) (fun _ => 0) 0 0 0 0 0 0 0 0 0 0 0 0 0 0 (fun _ => 0) (fun _ => 0) (fun _ => 0) (fun _ => 0) (fun _ => 0) (fun _ => 0) (fun _ => 0) (fun _ => 0) (fun _ => 0) (fun _ => 0) (fun _ => 0) (fun _ => 0) (fun _ => 0) ⟨(Nat.zero_le _), (Nat.zero_le _), (fun j hj => absurd hj (Nat.not_lt_zero _)), ⟨by decide, by decide, Or.inl rfl⟩, rfl, rfl, rfl, rfl, rfl, rfl, rfl, rfl, (fun j hj => absurd hj (Nat.not_lt_zero _)), (fun k hk => ⟨0, by decide, rfl⟩), (fun k hk => ⟨0, by decide, rfl⟩), (fun k hk => by show 0 ≤ (0 : Int64).toInt ∧ (0 : Int64).toInt ≤ 1152921504606846976; decide), (fun j hj => absurd hj (Nat.not_lt_zero _)), (fun j hj => absurd hj (Nat.not_lt_zero _)), (fun j hj => absurd hj (Nat.not_lt_zero _)), (fun h => absurd rfl h), (fun h => absurd rfl h)⟩ _ _ _ hPD.1 hPD.2 hS (lv_sub hl [3, 2, 1, 0] rfl)
