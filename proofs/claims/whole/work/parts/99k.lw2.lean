set_option maxRecDepth 100000 in
set_option maxHeartbeats 4000000 in
theorem lw_k13 {p : Program} {l : Launch} {e : Env} {s : State} {m : MethodId} {below : List Frame} {meth : Method} {c : Code} {b Ls : Nat} {xs : Nat → Int32} {dC : Nat → ClassId} {dI : Nat → Nat → Nat} {cI cJ cG cZ : ClassId} {a0 b0 ao : Nat} {Q : State → Prop} {j L : Nat} {g : Nat → Int64} {wx wm : va_W} {ls : Array Slot} {H : Heap} {locs : List Loc} (K : LK p s m c b Ls xs dC dI cI cJ cG cZ) (hj : j ≤ 1000) (h3 : 3 * j + 3 ≤ Ls) (hL : L ≤ 4096) (hI : INV cI cJ cG cZ a0 b0 j L wx wm) (hl : lv_has ls 7 [(4, .int (nI (3 * j))), (3, .ref ao), (2, .ref b0), (1, .ref a0), (0, .ref b)]) (hH : LH s dC dI (wLaw cJ ao g wx wm) H locs) (bk : BK p l e s m below meth c b dC dI cI cJ cG cZ a0 b0 ao Q j) : W p l e room_1 s m #[Value.ref b] below meth c H locs (200 + 6 * j) (80000 + 6 * j + 10 * L) Q (F0 m 491 ls []) := by
  have hx := K.1
  have hb := K.2.1
  have htt := K.2.2.2.2.1
  have hX := K.2.2.2.2.2.1
  have hbl := K.2.2.2.2.2.2.1
  have hLs := K.2.2.2.2.2.2.2.2.2.2
  have hown := K.2.2.2.1
  have hbA : ¬ lA s b := Nat.not_le.mpr hbl
  obtain ⟨fx, hx0⟩ := INV_x0 hI
  obtain ⟨fm, hm0⟩ := INV_m0 hI
  obtain ⟨r, Px, Pm, hCx, hCm, hN⟩ := s_shade (l := l) (dC := dC) (dI := dI) (F := 40 ^ 18 + 1) (Nat.lt_succ_self _) hj (xs (nI (3 * j) + 1).toNatClampNeg) hI
  refine lv_aload_n hx hb d_law_491 rfl (lv_at hl 3 rfl) ?_
  refine lv_aload_n hx hb d_law_492 rfl (lv_at hl 4 rfl) ?_
  refine lv_iload hx hb d_law_493 (lv_at hl 0 rfl) ?_
  refine lv_iconst (v := 1) hx hb d_law_495 (by decide) ?_
  refine lv_iadd hx hb d_law_496 ?_
  refine va_sld hx hb hX hbl hbA hH.2.2 (in_1 h3 hLs) d_law_497 ?_
  refine lw_xi K (As := [.int (xs (nI (3 * j) + 1).toNatClampNeg)]) (rest := []) hCx (cwV 1 htt (gdV kt_526 kt_527 kt_528 kt_1 kt_529) rfl rfl rfl (by decide +kernel) ⟨Nat.le_of_ble_eq_true rfl, Nat.le_of_ble_eq_true rfl⟩) hx0 hH rfl rfl (Nat.le_of_ble_eq_true rfl) d_law_498 hl.1 ⟨by omega, by omega⟩ (fun u1 H locs hu1 hH1 => ?_)
  refine lv_aload_n hx hb d_law_501 rfl (lv_at hl 2 rfl) ?_
  refine lv_aload_n hx hb d_law_502 rfl (lv_at hl 4 rfl) ?_
  refine lv_iload hx hb d_law_503 (lv_at hl 0 rfl) ?_
  refine lv_iconst (v := 1) hx hb d_law_505 (by decide) ?_
  refine lv_iadd hx hb d_law_506 ?_
  refine va_sld hx hb hX hbl hbA hH1.2.2 (in_1 h3 hLs) d_law_507 ?_
  refine lw_mi K (As := [.int (xs (nI (3 * j) + 1).toNatClampNeg)]) (rest := [.int r]) hCm (cwV 1 htt (gdV kt_960 kt_961 kt_962 kt_10 kt_963) rfl rfl rfl (by decide +kernel) ⟨Nat.le_of_ble_eq_true rfl, Nat.le_of_ble_eq_true rfl⟩) hm0 hH1 rfl rfl (Nat.le_of_ble_eq_true rfl) d_law_508 hl.1 ⟨by omega, by omega⟩ (fun u2 H locs hu2 hH2 => ?_)
  refine lv_icmp_eq (tgt := 791) hx hb d_law_511 (by decide) (fun _ => ?_) (fun h => absurd rfl h)
  refine W.widen (k := 200 + 6 * (j + 1)) (n := 80000 + 6 * (j + 1) + 10 * L) (by omega) (by omega) ?_
  exact bk L g u1 u2 ls H locs hL (hN u1 u2 hu1 hu2) hl hH2
set_option maxRecDepth 100000 in
set_option maxHeartbeats 4000000 in
theorem lw_k14 {p : Program} {l : Launch} {e : Env} {s : State} {m : MethodId} {below : List Frame} {meth : Method} {c : Code} {b Ls : Nat} {xs : Nat → Int32} {dC : Nat → ClassId} {dI : Nat → Nat → Nat} {cI cJ cG cZ : ClassId} {a0 b0 ao : Nat} {Q : State → Prop} {j L : Nat} {g : Nat → Int64} {wx wm : va_W} {ls : Array Slot} {H : Heap} {locs : List Loc} (K : LK p s m c b Ls xs dC dI cI cJ cG cZ) (hj : j ≤ 1000) (h3 : 3 * j + 3 ≤ Ls) (hL : L ≤ 4096) (hI : INV cI cJ cG cZ a0 b0 j L wx wm) (hl : lv_has ls 7 [(4, .int (nI (3 * j))), (3, .ref ao), (2, .ref b0), (1, .ref a0), (0, .ref b)]) (hH : LH s dC dI (wLaw cJ ao g wx wm) H locs) (bk : BK p l e s m below meth c b dC dI cI cJ cG cZ a0 b0 ao Q j) : W p l e room_1 s m #[Value.ref b] below meth c H locs (200 + 6 * j) (80000 + 6 * j + 10 * L) Q (F0 m 516 ls []) := by
  have hx := K.1
  have hb := K.2.1
  have htt := K.2.2.2.2.1
  have hX := K.2.2.2.2.2.1
  have hbl := K.2.2.2.2.2.2.1
  have hLs := K.2.2.2.2.2.2.2.2.2.2
  have hown := K.2.2.2.1
  have hbA : ¬ lA s b := Nat.not_le.mpr hbl
  obtain ⟨fx, hx0⟩ := INV_x0 hI
  obtain ⟨fm, hm0⟩ := INV_m0 hI
  obtain ⟨r, Px, Pm, hCx, hCm, hN⟩ := s_clique (l := l) (dC := dC) (dI := dI) (F := 40 ^ 18 + 1) (Nat.lt_succ_self _) hj hI
  refine lv_aload_n hx hb d_law_516 rfl (lv_at hl 3 rfl) ?_
  refine lw_xi K (As := []) (rest := []) hCx (cwV 0 htt (gdV kt_530 kt_531 kt_532 kt_1 kt_533) rfl rfl rfl (by decide +kernel) ⟨Nat.le_of_ble_eq_true rfl, Nat.le_of_ble_eq_true rfl⟩) hx0 hH rfl rfl (Nat.le_of_ble_eq_true rfl) d_law_517 hl.1 ⟨by omega, by omega⟩ (fun u1 H locs hu1 hH1 => ?_)
  refine lv_aload_n hx hb d_law_520 rfl (lv_at hl 2 rfl) ?_
  refine lw_mi K (As := []) (rest := [.int r]) hCm (cwV 0 htt (gdV kt_964 kt_965 kt_966 kt_10 kt_967) rfl rfl rfl (by decide +kernel) ⟨Nat.le_of_ble_eq_true rfl, Nat.le_of_ble_eq_true rfl⟩) hm0 hH1 rfl rfl (Nat.le_of_ble_eq_true rfl) d_law_521 hl.1 ⟨by omega, by omega⟩ (fun u2 H locs hu2 hH2 => ?_)
  refine lv_icmp_eq (tgt := 791) hx hb d_law_524 (by decide) (fun _ => ?_) (fun h => absurd rfl h)
  refine W.widen (k := 200 + 6 * (j + 1)) (n := 80000 + 6 * (j + 1) + 10 * L) (by omega) (by omega) ?_
  exact bk L g u1 u2 ls H locs hL (hN u1 u2 hu1 hu2) hl hH2
set_option maxRecDepth 100000 in
set_option maxHeartbeats 4000000 in
theorem lw_k15 {p : Program} {l : Launch} {e : Env} {s : State} {m : MethodId} {below : List Frame} {meth : Method} {c : Code} {b Ls : Nat} {xs : Nat → Int32} {dC : Nat → ClassId} {dI : Nat → Nat → Nat} {cI cJ cG cZ : ClassId} {a0 b0 ao : Nat} {Q : State → Prop} {j L : Nat} {g : Nat → Int64} {wx wm : va_W} {ls : Array Slot} {H : Heap} {locs : List Loc} (K : LK p s m c b Ls xs dC dI cI cJ cG cZ) (hj : j ≤ 1000) (h3 : 3 * j + 3 ≤ Ls) (hL : L ≤ 4096) (hI : INV cI cJ cG cZ a0 b0 j L wx wm) (hl : lv_has ls 7 [(4, .int (nI (3 * j))), (3, .ref ao), (2, .ref b0), (1, .ref a0), (0, .ref b)]) (hH : LH s dC dI (wLaw cJ ao g wx wm) H locs) (bk : BK p l e s m below meth c b dC dI cI cJ cG cZ a0 b0 ao Q j) : W p l e room_1 s m #[Value.ref b] below meth c H locs (200 + 6 * j) (80000 + 6 * j + 10 * L) Q (F0 m 529 ls []) := by
  have hx := K.1
  have hb := K.2.1
  have htt := K.2.2.2.2.1
  have hX := K.2.2.2.2.2.1
  have hbl := K.2.2.2.2.2.2.1
  have hLs := K.2.2.2.2.2.2.2.2.2.2
  have hown := K.2.2.2.1
  have hbA : ¬ lA s b := Nat.not_le.mpr hbl
  obtain ⟨fx, hx0⟩ := INV_x0 hI
  obtain ⟨fm, hm0⟩ := INV_m0 hI
  obtain ⟨r, Px, Pm, hCx, hCm, hN⟩ := s_apart (l := l) (dC := dC) (dI := dI) (F := 40 ^ 18 + 1) (Nat.lt_succ_self _) hj hI
  refine lv_aload_n hx hb d_law_529 rfl (lv_at hl 3 rfl) ?_
  refine lw_xi K (As := []) (rest := []) hCx (cwV 0 htt (gdV kt_549 kt_550 kt_551 kt_1 kt_552) rfl rfl rfl (by decide +kernel) ⟨Nat.le_of_ble_eq_true rfl, Nat.le_of_ble_eq_true rfl⟩) hx0 hH rfl rfl (Nat.le_of_ble_eq_true rfl) d_law_530 hl.1 ⟨by omega, by omega⟩ (fun u1 H locs hu1 hH1 => ?_)
  refine lv_aload_n hx hb d_law_533 rfl (lv_at hl 2 rfl) ?_
  refine lw_mi K (As := []) (rest := [.int r]) hCm (cwV 0 htt (gdV kt_975 kt_976 kt_977 kt_10 kt_978) rfl rfl rfl (by decide +kernel) ⟨Nat.le_of_ble_eq_true rfl, Nat.le_of_ble_eq_true rfl⟩) hm0 hH1 rfl rfl (Nat.le_of_ble_eq_true rfl) d_law_534 hl.1 ⟨by omega, by omega⟩ (fun u2 H locs hu2 hH2 => ?_)
  refine lv_icmp_eq (tgt := 791) hx hb d_law_537 (by decide) (fun _ => ?_) (fun h => absurd rfl h)
  refine W.widen (k := 200 + 6 * (j + 1)) (n := 80000 + 6 * (j + 1) + 10 * L) (by omega) (by omega) ?_
  exact bk L g u1 u2 ls H locs hL (hN u1 u2 hu1 hu2) hl hH2
set_option maxRecDepth 100000 in
set_option maxHeartbeats 4000000 in
theorem lw_k16 {p : Program} {l : Launch} {e : Env} {s : State} {m : MethodId} {below : List Frame} {meth : Method} {c : Code} {b Ls : Nat} {xs : Nat → Int32} {dC : Nat → ClassId} {dI : Nat → Nat → Nat} {cI cJ cG cZ : ClassId} {a0 b0 ao : Nat} {Q : State → Prop} {j L : Nat} {g : Nat → Int64} {wx wm : va_W} {ls : Array Slot} {H : Heap} {locs : List Loc} (K : LK p s m c b Ls xs dC dI cI cJ cG cZ) (hj : j ≤ 1000) (h3 : 3 * j + 3 ≤ Ls) (hL : L ≤ 4096) (hI : INV cI cJ cG cZ a0 b0 j L wx wm) (hl : lv_has ls 7 [(4, .int (nI (3 * j))), (3, .ref ao), (2, .ref b0), (1, .ref a0), (0, .ref b)]) (hH : LH s dC dI (wLaw cJ ao g wx wm) H locs) (bk : BK p l e s m below meth c b dC dI cI cJ cG cZ a0 b0 ao Q j) : W p l e room_1 s m #[Value.ref b] below meth c H locs (200 + 6 * j) (80000 + 6 * j + 10 * L) Q (F0 m 542 ls []) := by
  have hx := K.1
  have hb := K.2.1
  have htt := K.2.2.2.2.1
  have hX := K.2.2.2.2.2.1
  have hbl := K.2.2.2.2.2.2.1
  have hLs := K.2.2.2.2.2.2.2.2.2.2
  have hown := K.2.2.2.1
  have hbA : ¬ lA s b := Nat.not_le.mpr hbl
  obtain ⟨fx, hx0⟩ := INV_x0 hI
  obtain ⟨fm, hm0⟩ := INV_m0 hI
  obtain ⟨r, Px, Pm, hCx, hCm, hN⟩ := s_chordal (l := l) (dC := dC) (dI := dI) (F := 40 ^ 18 + 1) (Nat.lt_succ_self _) hj hI
  refine lv_aload_n hx hb d_law_542 rfl (lv_at hl 3 rfl) ?_
  refine lw_xi K (As := []) (rest := []) hCx (cwV 0 htt (gdV kt_557 kt_558 kt_559 kt_1 kt_560) rfl rfl rfl (by decide +kernel) ⟨Nat.le_of_ble_eq_true rfl, Nat.le_of_ble_eq_true rfl⟩) hx0 hH rfl rfl (Nat.le_of_ble_eq_true rfl) d_law_543 hl.1 ⟨by omega, by omega⟩ (fun u1 H locs hu1 hH1 => ?_)
  refine lv_aload_n hx hb d_law_546 rfl (lv_at hl 2 rfl) ?_
  refine lw_mi K (As := []) (rest := [.int r]) hCm (cwV 0 htt (gdV kt_979 kt_980 kt_981 kt_10 kt_982) rfl rfl rfl (by decide +kernel) ⟨Nat.le_of_ble_eq_true rfl, Nat.le_of_ble_eq_true rfl⟩) hm0 hH1 rfl rfl (Nat.le_of_ble_eq_true rfl) d_law_547 hl.1 ⟨by omega, by omega⟩ (fun u2 H locs hu2 hH2 => ?_)
  refine lv_icmp_eq (tgt := 791) hx hb d_law_550 (by decide) (fun _ => ?_) (fun h => absurd rfl h)
  refine W.widen (k := 200 + 6 * (j + 1)) (n := 80000 + 6 * (j + 1) + 10 * L) (by omega) (by omega) ?_
  exact bk L g u1 u2 ls H locs hL (hN u1 u2 hu1 hu2) hl hH2
set_option maxRecDepth 100000 in
set_option maxHeartbeats 4000000 in
theorem lw_k17 {p : Program} {l : Launch} {e : Env} {s : State} {m : MethodId} {below : List Frame} {meth : Method} {c : Code} {b Ls : Nat} {xs : Nat → Int32} {dC : Nat → ClassId} {dI : Nat → Nat → Nat} {cI cJ cG cZ : ClassId} {a0 b0 ao : Nat} {Q : State → Prop} {j L : Nat} {g : Nat → Int64} {wx wm : va_W} {ls : Array Slot} {H : Heap} {locs : List Loc} (K : LK p s m c b Ls xs dC dI cI cJ cG cZ) (hj : j ≤ 1000) (h3 : 3 * j + 3 ≤ Ls) (hL : L ≤ 4096) (hI : INV cI cJ cG cZ a0 b0 j L wx wm) (hl : lv_has ls 7 [(4, .int (nI (3 * j))), (3, .ref ao), (2, .ref b0), (1, .ref a0), (0, .ref b)]) (hH : LH s dC dI (wLaw cJ ao g wx wm) H locs) (bk : BK p l e s m below meth c b dC dI cI cJ cG cZ a0 b0 ao Q j) : W p l e room_1 s m #[Value.ref b] below meth c H locs (200 + 6 * j) (80000 + 6 * j + 10 * L) Q (F0 m 555 ls []) := by
  have hx := K.1
  have hb := K.2.1
  have htt := K.2.2.2.2.1
  have hX := K.2.2.2.2.2.1
  have hbl := K.2.2.2.2.2.2.1
  have hLs := K.2.2.2.2.2.2.2.2.2.2
  have hown := K.2.2.2.1
  have hbA : ¬ lA s b := Nat.not_le.mpr hbl
  obtain ⟨fx, hx0⟩ := INV_x0 hI
  obtain ⟨fm, hm0⟩ := INV_m0 hI
  obtain ⟨r, Px, Pm, hCx, hCm, hN⟩ := s_taken (l := l) (dC := dC) (dI := dI) (F := 40 ^ 18 + 1) (Nat.lt_succ_self _) hj (xs (nI (3 * j) + 1).toNatClampNeg) hI
  refine lv_aload_n hx hb d_law_555 rfl (lv_at hl 3 rfl) ?_
  refine lv_aload_n hx hb d_law_556 rfl (lv_at hl 4 rfl) ?_
  refine lv_iload hx hb d_law_557 (lv_at hl 0 rfl) ?_
  refine lv_iconst (v := 1) hx hb d_law_559 (by decide) ?_
  refine lv_iadd hx hb d_law_560 ?_
  refine va_sld hx hb hX hbl hbA hH.2.2 (in_1 h3 hLs) d_law_561 ?_
  refine lw_xi K (As := [.int (xs (nI (3 * j) + 1).toNatClampNeg)]) (rest := []) hCx (cwV 1 htt (gdV kt_571 kt_572 kt_573 kt_1 kt_574) rfl rfl rfl (by decide +kernel) ⟨Nat.le_of_ble_eq_true rfl, Nat.le_of_ble_eq_true rfl⟩) hx0 hH rfl rfl (Nat.le_of_ble_eq_true rfl) d_law_562 hl.1 ⟨by omega, by omega⟩ (fun u1 H locs hu1 hH1 => ?_)
  refine lv_aload_n hx hb d_law_565 rfl (lv_at hl 2 rfl) ?_
  refine lv_aload_n hx hb d_law_566 rfl (lv_at hl 4 rfl) ?_
  refine lv_iload hx hb d_law_567 (lv_at hl 0 rfl) ?_
  refine lv_iconst (v := 1) hx hb d_law_569 (by decide) ?_
  refine lv_iadd hx hb d_law_570 ?_
  refine va_sld hx hb hX hbl hbA hH1.2.2 (in_1 h3 hLs) d_law_571 ?_
  refine lw_mi K (As := [.int (xs (nI (3 * j) + 1).toNatClampNeg)]) (rest := [.int r]) hCm (cwV 1 htt (gdV kt_983 kt_984 kt_985 kt_10 kt_986) rfl rfl rfl (by decide +kernel) ⟨Nat.le_of_ble_eq_true rfl, Nat.le_of_ble_eq_true rfl⟩) hm0 hH1 rfl rfl (Nat.le_of_ble_eq_true rfl) d_law_572 hl.1 ⟨by omega, by omega⟩ (fun u2 H locs hu2 hH2 => ?_)
  refine lv_icmp_eq (tgt := 791) hx hb d_law_575 (by decide) (fun _ => ?_) (fun h => absurd rfl h)
  refine W.widen (k := 200 + 6 * (j + 1)) (n := 80000 + 6 * (j + 1) + 10 * L) (by omega) (by omega) ?_
  exact bk L g u1 u2 ls H locs hL (hN u1 u2 hu1 hu2) hl hH2
set_option maxRecDepth 100000 in
set_option maxHeartbeats 4000000 in
theorem lw_k18 {p : Program} {l : Launch} {e : Env} {s : State} {m : MethodId} {below : List Frame} {meth : Method} {c : Code} {b Ls : Nat} {xs : Nat → Int32} {dC : Nat → ClassId} {dI : Nat → Nat → Nat} {cI cJ cG cZ : ClassId} {a0 b0 ao : Nat} {Q : State → Prop} {j L : Nat} {g : Nat → Int64} {wx wm : va_W} {ls : Array Slot} {H : Heap} {locs : List Loc} (K : LK p s m c b Ls xs dC dI cI cJ cG cZ) (hj : j ≤ 1000) (h3 : 3 * j + 3 ≤ Ls) (hL : L ≤ 4096) (hI : INV cI cJ cG cZ a0 b0 j L wx wm) (hl : lv_has ls 7 [(4, .int (nI (3 * j))), (3, .ref ao), (2, .ref b0), (1, .ref a0), (0, .ref b)]) (hH : LH s dC dI (wLaw cJ ao g wx wm) H locs) (bk : BK p l e s m below meth c b dC dI cI cJ cG cZ a0 b0 ao Q j) : W p l e room_1 s m #[Value.ref b] below meth c H locs (200 + 6 * j) (80000 + 6 * j + 10 * L) Q (F0 m 580 ls []) := by
  have hx := K.1
  have hb := K.2.1
  have htt := K.2.2.2.2.1
  have hX := K.2.2.2.2.2.1
  have hbl := K.2.2.2.2.2.2.1
  have hLs := K.2.2.2.2.2.2.2.2.2.2
  have hown := K.2.2.2.1
  have hbA : ¬ lA s b := Nat.not_le.mpr hbl
  obtain ⟨fx, hx0⟩ := INV_x0 hI
  obtain ⟨fm, hm0⟩ := INV_m0 hI
  obtain ⟨r, Px, Pm, hCx, hCm, hN⟩ := s_left (l := l) (dC := dC) (dI := dI) (F := 40 ^ 18 + 1) (Nat.lt_succ_self _) hj hI
  refine lv_aload_n hx hb d_law_580 rfl (lv_at hl 3 rfl) ?_
  refine lw_xi K (As := []) (rest := []) hCx (cwV 0 htt (gdV kt_575 kt_576 kt_577 kt_1 kt_578) rfl rfl rfl (by decide +kernel) ⟨Nat.le_of_ble_eq_true rfl, Nat.le_of_ble_eq_true rfl⟩) hx0 hH rfl rfl (Nat.le_of_ble_eq_true rfl) d_law_581 hl.1 ⟨by omega, by omega⟩ (fun u1 H locs hu1 hH1 => ?_)
  refine lv_aload_n hx hb d_law_584 rfl (lv_at hl 2 rfl) ?_
  refine lw_mi K (As := []) (rest := [.int r]) hCm (cwV 0 htt (gdV kt_987 kt_988 kt_989 kt_10 kt_990) rfl rfl rfl (by decide +kernel) ⟨Nat.le_of_ble_eq_true rfl, Nat.le_of_ble_eq_true rfl⟩) hm0 hH1 rfl rfl (Nat.le_of_ble_eq_true rfl) d_law_585 hl.1 ⟨by omega, by omega⟩ (fun u2 H locs hu2 hH2 => ?_)
  refine lv_icmp_eq (tgt := 791) hx hb d_law_588 (by decide) (fun _ => ?_) (fun h => absurd rfl h)
  refine W.widen (k := 200 + 6 * (j + 1)) (n := 80000 + 6 * (j + 1) + 10 * L) (by omega) (by omega) ?_
  exact bk L g u1 u2 ls H locs hL (hN u1 u2 hu1 hu2) hl hH2
set_option maxRecDepth 100000 in
set_option maxHeartbeats 4000000 in
theorem lw_k19 {p : Program} {l : Launch} {e : Env} {s : State} {m : MethodId} {below : List Frame} {meth : Method} {c : Code} {b Ls : Nat} {xs : Nat → Int32} {dC : Nat → ClassId} {dI : Nat → Nat → Nat} {cI cJ cG cZ : ClassId} {a0 b0 ao : Nat} {Q : State → Prop} {j L : Nat} {g : Nat → Int64} {wx wm : va_W} {ls : Array Slot} {H : Heap} {locs : List Loc} (K : LK p s m c b Ls xs dC dI cI cJ cG cZ) (hj : j ≤ 1000) (h3 : 3 * j + 3 ≤ Ls) (hL : L ≤ 4096) (hI : INV cI cJ cG cZ a0 b0 j L wx wm) (hl : lv_has ls 7 [(4, .int (nI (3 * j))), (3, .ref ao), (2, .ref b0), (1, .ref a0), (0, .ref b)]) (hH : LH s dC dI (wLaw cJ ao g wx wm) H locs) (bk : BK p l e s m below meth c b dC dI cI cJ cG cZ a0 b0 ao Q j) : W p l e room_1 s m #[Value.ref b] below meth c H locs (200 + 6 * j) (80000 + 6 * j + 10 * L) Q (F0 m 593 ls []) := by
  have hx := K.1
  have hb := K.2.1
  have htt := K.2.2.2.2.1
  have hX := K.2.2.2.2.2.1
  have hbl := K.2.2.2.2.2.2.1
  have hLs := K.2.2.2.2.2.2.2.2.2.2
  have hown := K.2.2.2.1
  have hbA : ¬ lA s b := Nat.not_le.mpr hbl
  obtain ⟨fx, hx0⟩ := INV_x0 hI
  obtain ⟨fm, hm0⟩ := INV_m0 hI
  obtain ⟨r, Px, Pm, hCx, hCm, hN⟩ := s_greedy (l := l) (dC := dC) (dI := dI) (F := 40 ^ 18 + 1) (Nat.lt_succ_self _) hj (xs (nI (3 * j) + 1).toNatClampNeg) hI
  refine lv_aload_n hx hb d_law_593 rfl (lv_at hl 3 rfl) ?_
  refine lv_aload_n hx hb d_law_594 rfl (lv_at hl 4 rfl) ?_
  refine lv_iload hx hb d_law_595 (lv_at hl 0 rfl) ?_
  refine lv_iconst (v := 1) hx hb d_law_597 (by decide) ?_
  refine lv_iadd hx hb d_law_598 ?_
  refine va_sld hx hb hX hbl hbA hH.2.2 (in_1 h3 hLs) d_law_599 ?_
  refine lw_xi K (As := [.int (xs (nI (3 * j) + 1).toNatClampNeg)]) (rest := []) hCx (cwV 1 htt (gdV kt_579 kt_580 kt_581 kt_1 kt_582) rfl rfl rfl (by decide +kernel) ⟨Nat.le_of_ble_eq_true rfl, Nat.le_of_ble_eq_true rfl⟩) hx0 hH rfl rfl (Nat.le_of_ble_eq_true rfl) d_law_600 hl.1 ⟨by omega, by omega⟩ (fun u1 H locs hu1 hH1 => ?_)
  refine lv_aload_n hx hb d_law_603 rfl (lv_at hl 2 rfl) ?_
  refine lv_aload_n hx hb d_law_604 rfl (lv_at hl 4 rfl) ?_
  refine lv_iload hx hb d_law_605 (lv_at hl 0 rfl) ?_
  refine lv_iconst (v := 1) hx hb d_law_607 (by decide) ?_
  refine lv_iadd hx hb d_law_608 ?_
  refine va_sld hx hb hX hbl hbA hH1.2.2 (in_1 h3 hLs) d_law_609 ?_
  refine lw_mi K (As := [.int (xs (nI (3 * j) + 1).toNatClampNeg)]) (rest := [.int r]) hCm (cwV 1 htt (gdV kt_991 kt_992 kt_993 kt_10 kt_994) rfl rfl rfl (by decide +kernel) ⟨Nat.le_of_ble_eq_true rfl, Nat.le_of_ble_eq_true rfl⟩) hm0 hH1 rfl rfl (Nat.le_of_ble_eq_true rfl) d_law_610 hl.1 ⟨by omega, by omega⟩ (fun u2 H locs hu2 hH2 => ?_)
  refine lv_icmp_eq (tgt := 791) hx hb d_law_613 (by decide) (fun _ => ?_) (fun h => absurd rfl h)
  refine W.widen (k := 200 + 6 * (j + 1)) (n := 80000 + 6 * (j + 1) + 10 * L) (by omega) (by omega) ?_
  exact bk L g u1 u2 ls H locs hL (hN u1 u2 hu1 hu2) hl hH2
set_option maxRecDepth 100000 in
set_option maxHeartbeats 4000000 in
theorem lw_k20 {p : Program} {l : Launch} {e : Env} {s : State} {m : MethodId} {below : List Frame} {meth : Method} {c : Code} {b Ls : Nat} {xs : Nat → Int32} {dC : Nat → ClassId} {dI : Nat → Nat → Nat} {cI cJ cG cZ : ClassId} {a0 b0 ao : Nat} {Q : State → Prop} {j L : Nat} {g : Nat → Int64} {wx wm : va_W} {ls : Array Slot} {H : Heap} {locs : List Loc} (K : LK p s m c b Ls xs dC dI cI cJ cG cZ) (hj : j ≤ 1000) (h3 : 3 * j + 3 ≤ Ls) (hL : L ≤ 4096) (hI : INV cI cJ cG cZ a0 b0 j L wx wm) (hl : lv_has ls 7 [(4, .int (nI (3 * j))), (3, .ref ao), (2, .ref b0), (1, .ref a0), (0, .ref b)]) (hH : LH s dC dI (wLaw cJ ao g wx wm) H locs) (bk : BK p l e s m below meth c b dC dI cI cJ cG cZ a0 b0 ao Q j) : W p l e room_1 s m #[Value.ref b] below meth c H locs (200 + 6 * j) (80000 + 6 * j + 10 * L) Q (F0 m 618 ls []) := by
  have hx := K.1
  have hb := K.2.1
  have htt := K.2.2.2.2.1
  have hX := K.2.2.2.2.2.1
  have hbl := K.2.2.2.2.2.2.1
  have hLs := K.2.2.2.2.2.2.2.2.2.2
  have hown := K.2.2.2.1
  have hbA : ¬ lA s b := Nat.not_le.mpr hbl
  obtain ⟨fx, hx0⟩ := INV_x0 hI
  obtain ⟨fm, hm0⟩ := INV_m0 hI
  obtain ⟨r, Px, Pm, hCx, hCm, hN⟩ := s_tint (l := l) (dC := dC) (dI := dI) (F := 40 ^ 18 + 1) (Nat.lt_succ_self _) hj (xs (nI (3 * j) + 1).toNatClampNeg) hI
  refine lv_aload_n hx hb d_law_618 rfl (lv_at hl 3 rfl) ?_
  refine lv_aload_n hx hb d_law_619 rfl (lv_at hl 4 rfl) ?_
  refine lv_iload hx hb d_law_620 (lv_at hl 0 rfl) ?_
  refine lv_iconst (v := 1) hx hb d_law_622 (by decide) ?_
  refine lv_iadd hx hb d_law_623 ?_
  refine va_sld hx hb hX hbl hbA hH.2.2 (in_1 h3 hLs) d_law_624 ?_
  refine lw_xi K (As := [.int (xs (nI (3 * j) + 1).toNatClampNeg)]) (rest := []) hCx (cwV 1 htt (gdV kt_606 kt_607 kt_608 kt_1 kt_609) rfl rfl rfl (by decide +kernel) ⟨Nat.le_of_ble_eq_true rfl, Nat.le_of_ble_eq_true rfl⟩) hx0 hH rfl rfl (Nat.le_of_ble_eq_true rfl) d_law_625 hl.1 ⟨by omega, by omega⟩ (fun u1 H locs hu1 hH1 => ?_)
  refine lv_aload_n hx hb d_law_628 rfl (lv_at hl 2 rfl) ?_
  refine lv_aload_n hx hb d_law_629 rfl (lv_at hl 4 rfl) ?_
  refine lv_iload hx hb d_law_630 (lv_at hl 0 rfl) ?_
  refine lv_iconst (v := 1) hx hb d_law_632 (by decide) ?_
  refine lv_iadd hx hb d_law_633 ?_
  refine va_sld hx hb hX hbl hbA hH1.2.2 (in_1 h3 hLs) d_law_634 ?_
  refine lw_mi K (As := [.int (xs (nI (3 * j) + 1).toNatClampNeg)]) (rest := [.int r]) hCm (cwV 1 htt (gdV kt_1015 kt_1016 kt_1017 kt_10 kt_1018) rfl rfl rfl (by decide +kernel) ⟨Nat.le_of_ble_eq_true rfl, Nat.le_of_ble_eq_true rfl⟩) hm0 hH1 rfl rfl (Nat.le_of_ble_eq_true rfl) d_law_635 hl.1 ⟨by omega, by omega⟩ (fun u2 H locs hu2 hH2 => ?_)
  refine lv_icmp_eq (tgt := 791) hx hb d_law_638 (by decide) (fun _ => ?_) (fun h => absurd rfl h)
  refine W.widen (k := 200 + 6 * (j + 1)) (n := 80000 + 6 * (j + 1) + 10 * L) (by omega) (by omega) ?_
  exact bk L g u1 u2 ls H locs hL (hN u1 u2 hu1 hu2) hl hH2
set_option maxRecDepth 100000 in
set_option maxHeartbeats 4000000 in
theorem lw_k21 {p : Program} {l : Launch} {e : Env} {s : State} {m : MethodId} {below : List Frame} {meth : Method} {c : Code} {b Ls : Nat} {xs : Nat → Int32} {dC : Nat → ClassId} {dI : Nat → Nat → Nat} {cI cJ cG cZ : ClassId} {a0 b0 ao : Nat} {Q : State → Prop} {j L : Nat} {g : Nat → Int64} {wx wm : va_W} {ls : Array Slot} {H : Heap} {locs : List Loc} (K : LK p s m c b Ls xs dC dI cI cJ cG cZ) (hj : j ≤ 1000) (h3 : 3 * j + 3 ≤ Ls) (hL : L ≤ 4096) (hI : INV cI cJ cG cZ a0 b0 j L wx wm) (hl : lv_has ls 7 [(4, .int (nI (3 * j))), (3, .ref ao), (2, .ref b0), (1, .ref a0), (0, .ref b)]) (hH : LH s dC dI (wLaw cJ ao g wx wm) H locs) (bk : BK p l e s m below meth c b dC dI cI cJ cG cZ a0 b0 ao Q j) : W p l e room_1 s m #[Value.ref b] below meth c H locs (200 + 6 * j) (80000 + 6 * j + 10 * L) Q (F0 m 643 ls []) := by
  have hx := K.1
  have hb := K.2.1
  have htt := K.2.2.2.2.1
  have hX := K.2.2.2.2.2.1
  have hbl := K.2.2.2.2.2.2.1
  have hLs := K.2.2.2.2.2.2.2.2.2.2
  have hown := K.2.2.2.1
  have hbA : ¬ lA s b := Nat.not_le.mpr hbl
  obtain ⟨fx, hx0⟩ := INV_x0 hI
  obtain ⟨fm, hm0⟩ := INV_m0 hI
  obtain ⟨r, Px, Pm, hCx, hCm, hN⟩ := s_put (l := l) (dC := dC) (dI := dI) (F := 40 ^ 18 + 1) (Nat.lt_succ_self _) hj (xs (nI (3 * j) + 1).toNatClampNeg) (xs (nI (3 * j) + 2).toNatClampNeg) hI
  refine lv_aload_n hx hb d_law_643 rfl (lv_at hl 3 rfl) ?_
  refine lv_aload_n hx hb d_law_644 rfl (lv_at hl 4 rfl) ?_
  refine lv_iload hx hb d_law_645 (lv_at hl 0 rfl) ?_
  refine lv_iconst (v := 1) hx hb d_law_647 (by decide) ?_
  refine lv_iadd hx hb d_law_648 ?_
  refine va_sld hx hb hX hbl hbA hH.2.2 (in_1 h3 hLs) d_law_649 ?_
  refine lv_aload_n hx hb d_law_650 rfl (lv_at hl 4 rfl) ?_
  refine lv_iload hx hb d_law_651 (lv_at hl 0 rfl) ?_
  refine lv_iconst (v := 2) hx hb d_law_653 (by decide) ?_
  refine lv_iadd hx hb d_law_654 ?_
  refine va_sld hx hb hX hbl hbA hH.2.2 (in_2 h3 hLs) d_law_655 ?_
  refine lw_xi K (As := [.int (xs (nI (3 * j) + 1).toNatClampNeg), .int (xs (nI (3 * j) + 2).toNatClampNeg)]) (rest := []) hCx (cwV 2 htt (gdV kt_610 kt_611 kt_612 kt_1 kt_613) rfl rfl rfl (by decide +kernel) ⟨Nat.le_of_ble_eq_true rfl, Nat.le_of_ble_eq_true rfl⟩) hx0 hH rfl rfl (Nat.le_of_ble_eq_true rfl) d_law_656 hl.1 ⟨by omega, by omega⟩ (fun u1 H locs hu1 hH1 => ?_)
  refine lv_aload_n hx hb d_law_659 rfl (lv_at hl 2 rfl) ?_
  refine lv_aload_n hx hb d_law_660 rfl (lv_at hl 4 rfl) ?_
  refine lv_iload hx hb d_law_661 (lv_at hl 0 rfl) ?_
  refine lv_iconst (v := 1) hx hb d_law_663 (by decide) ?_
  refine lv_iadd hx hb d_law_664 ?_
  refine va_sld hx hb hX hbl hbA hH1.2.2 (in_1 h3 hLs) d_law_665 ?_
  refine lv_aload_n hx hb d_law_666 rfl (lv_at hl 4 rfl) ?_
  refine lv_iload hx hb d_law_667 (lv_at hl 0 rfl) ?_
  refine lv_iconst (v := 2) hx hb d_law_669 (by decide) ?_
  refine lv_iadd hx hb d_law_670 ?_
  refine va_sld hx hb hX hbl hbA hH1.2.2 (in_2 h3 hLs) d_law_671 ?_
  refine lw_mi K (As := [.int (xs (nI (3 * j) + 1).toNatClampNeg), .int (xs (nI (3 * j) + 2).toNatClampNeg)]) (rest := [.int r]) hCm (cwV 2 htt (gdV kt_1019 kt_1020 kt_1021 kt_10 kt_1022) rfl rfl rfl (by decide +kernel) ⟨Nat.le_of_ble_eq_true rfl, Nat.le_of_ble_eq_true rfl⟩) hm0 hH1 rfl rfl (Nat.le_of_ble_eq_true rfl) d_law_672 hl.1 ⟨by omega, by omega⟩ (fun u2 H locs hu2 hH2 => ?_)
  refine lv_icmp_eq (tgt := 791) hx hb d_law_675 (by decide) (fun _ => ?_) (fun h => absurd rfl h)
  refine W.widen (k := 200 + 6 * (j + 1)) (n := 80000 + 6 * (j + 1) + 10 * L) (by omega) (by omega) ?_
  exact bk L g u1 u2 ls H locs hL (hN u1 u2 hu1 hu2) hl hH2
set_option maxRecDepth 100000 in
set_option maxHeartbeats 4000000 in
theorem lw_k22 {p : Program} {l : Launch} {e : Env} {s : State} {m : MethodId} {below : List Frame} {meth : Method} {c : Code} {b Ls : Nat} {xs : Nat → Int32} {dC : Nat → ClassId} {dI : Nat → Nat → Nat} {cI cJ cG cZ : ClassId} {a0 b0 ao : Nat} {Q : State → Prop} {j L : Nat} {g : Nat → Int64} {wx wm : va_W} {ls : Array Slot} {H : Heap} {locs : List Loc} (K : LK p s m c b Ls xs dC dI cI cJ cG cZ) (hj : j ≤ 1000) (h3 : 3 * j + 3 ≤ Ls) (hL : L ≤ 4096) (hI : INV cI cJ cG cZ a0 b0 j L wx wm) (hl : lv_has ls 7 [(4, .int (nI (3 * j))), (3, .ref ao), (2, .ref b0), (1, .ref a0), (0, .ref b)]) (hH : LH s dC dI (wLaw cJ ao g wx wm) H locs) (bk : BK p l e s m below meth c b dC dI cI cJ cG cZ a0 b0 ao Q j) : W p l e room_1 s m #[Value.ref b] below meth c H locs (200 + 6 * j) (80000 + 6 * j + 10 * L) Q (F0 m 680 ls []) := by
  have hx := K.1
  have hb := K.2.1
  have htt := K.2.2.2.2.1
  have hX := K.2.2.2.2.2.1
  have hbl := K.2.2.2.2.2.2.1
  have hLs := K.2.2.2.2.2.2.2.2.2.2
  have hown := K.2.2.2.1
  have hbA : ¬ lA s b := Nat.not_le.mpr hbl
  obtain ⟨fx, hx0⟩ := INV_x0 hI
  obtain ⟨fm, hm0⟩ := INV_m0 hI
  obtain ⟨r, Px, Pm, hCx, hCm, hN⟩ := s_tried (l := l) (dC := dC) (dI := dI) (F := 40 ^ 18 + 1) (Nat.lt_succ_self _) hj (xs (nI (3 * j) + 1).toNatClampNeg) hI
  refine lv_aload_n hx hb d_law_680 rfl (lv_at hl 3 rfl) ?_
  refine lv_aload_n hx hb d_law_681 rfl (lv_at hl 4 rfl) ?_
  refine lv_iload hx hb d_law_682 (lv_at hl 0 rfl) ?_
  refine lv_iconst (v := 1) hx hb d_law_684 (by decide) ?_
  refine lv_iadd hx hb d_law_685 ?_
  refine va_sld hx hb hX hbl hbA hH.2.2 (in_1 h3 hLs) d_law_686 ?_
  refine lw_xi K (As := [.int (xs (nI (3 * j) + 1).toNatClampNeg)]) (rest := []) hCx (cwV 1 htt (gdV kt_617 kt_618 kt_619 kt_1 kt_620) rfl rfl rfl (by decide +kernel) ⟨Nat.le_of_ble_eq_true rfl, Nat.le_of_ble_eq_true rfl⟩) hx0 hH rfl rfl (Nat.le_of_ble_eq_true rfl) d_law_687 hl.1 ⟨by omega, by omega⟩ (fun u1 H locs hu1 hH1 => ?_)
  refine lv_aload_n hx hb d_law_690 rfl (lv_at hl 2 rfl) ?_
  refine lv_aload_n hx hb d_law_691 rfl (lv_at hl 4 rfl) ?_
  refine lv_iload hx hb d_law_692 (lv_at hl 0 rfl) ?_
  refine lv_iconst (v := 1) hx hb d_law_694 (by decide) ?_
  refine lv_iadd hx hb d_law_695 ?_
  refine va_sld hx hb hX hbl hbA hH1.2.2 (in_1 h3 hLs) d_law_696 ?_
  refine lw_mi K (As := [.int (xs (nI (3 * j) + 1).toNatClampNeg)]) (rest := [.int r]) hCm (cwV 1 htt (gdV kt_1023 kt_1024 kt_1025 kt_10 kt_1026) rfl rfl rfl (by decide +kernel) ⟨Nat.le_of_ble_eq_true rfl, Nat.le_of_ble_eq_true rfl⟩) hm0 hH1 rfl rfl (Nat.le_of_ble_eq_true rfl) d_law_697 hl.1 ⟨by omega, by omega⟩ (fun u2 H locs hu2 hH2 => ?_)
  refine lv_icmp_eq (tgt := 791) hx hb d_law_700 (by decide) (fun _ => ?_) (fun h => absurd rfl h)
  refine W.widen (k := 200 + 6 * (j + 1)) (n := 80000 + 6 * (j + 1) + 10 * L) (by omega) (by omega) ?_
  exact bk L g u1 u2 ls H locs hL (hN u1 u2 hu1 hu2) hl hH2
set_option maxRecDepth 100000 in
set_option maxHeartbeats 4000000 in
theorem lw_k23 {p : Program} {l : Launch} {e : Env} {s : State} {m : MethodId} {below : List Frame} {meth : Method} {c : Code} {b Ls : Nat} {xs : Nat → Int32} {dC : Nat → ClassId} {dI : Nat → Nat → Nat} {cI cJ cG cZ : ClassId} {a0 b0 ao : Nat} {Q : State → Prop} {j L : Nat} {g : Nat → Int64} {wx wm : va_W} {ls : Array Slot} {H : Heap} {locs : List Loc} (K : LK p s m c b Ls xs dC dI cI cJ cG cZ) (hj : j ≤ 1000) (h3 : 3 * j + 3 ≤ Ls) (hL : L ≤ 4096) (hI : INV cI cJ cG cZ a0 b0 j L wx wm) (hl : lv_has ls 7 [(4, .int (nI (3 * j))), (3, .ref ao), (2, .ref b0), (1, .ref a0), (0, .ref b)]) (hH : LH s dC dI (wLaw cJ ao g wx wm) H locs) (bk : BK p l e s m below meth c b dC dI cI cJ cG cZ a0 b0 ao Q j) : W p l e room_1 s m #[Value.ref b] below meth c H locs (200 + 6 * j) (80000 + 6 * j + 10 * L) Q (F0 m 705 ls []) := by
  have hx := K.1
  have hb := K.2.1
  have htt := K.2.2.2.2.1
  have hX := K.2.2.2.2.2.1
  have hbl := K.2.2.2.2.2.2.1
  have hLs := K.2.2.2.2.2.2.2.2.2.2
  have hown := K.2.2.2.1
  have hbA : ¬ lA s b := Nat.not_le.mpr hbl
  obtain ⟨fx, hx0⟩ := INV_x0 hI
  obtain ⟨fm, hm0⟩ := INV_m0 hI
  obtain ⟨r, Px, Pm, hCx, hCm, hN⟩ := s_faults (l := l) (dC := dC) (dI := dI) (F := 40 ^ 18 + 1) (Nat.lt_succ_self _) hj hI
  refine lv_aload_n hx hb d_law_705 rfl (lv_at hl 3 rfl) ?_
  refine lw_xi K (As := []) (rest := []) hCx (cwV 0 htt (gdV kt_621 kt_622 kt_623 kt_1 kt_624) rfl rfl rfl (by decide +kernel) ⟨Nat.le_of_ble_eq_true rfl, Nat.le_of_ble_eq_true rfl⟩) hx0 hH rfl rfl (Nat.le_of_ble_eq_true rfl) d_law_706 hl.1 ⟨by omega, by omega⟩ (fun u1 H locs hu1 hH1 => ?_)
  refine lv_aload_n hx hb d_law_709 rfl (lv_at hl 2 rfl) ?_
  refine lw_mi K (As := []) (rest := [.int r]) hCm (cwV 0 htt (gdV kt_1027 kt_1028 kt_1029 kt_10 kt_1030) rfl rfl rfl (by decide +kernel) ⟨Nat.le_of_ble_eq_true rfl, Nat.le_of_ble_eq_true rfl⟩) hm0 hH1 rfl rfl (Nat.le_of_ble_eq_true rfl) d_law_710 hl.1 ⟨by omega, by omega⟩ (fun u2 H locs hu2 hH2 => ?_)
  refine lv_icmp_eq (tgt := 791) hx hb d_law_713 (by decide) (fun _ => ?_) (fun h => absurd rfl h)
  refine W.widen (k := 200 + 6 * (j + 1)) (n := 80000 + 6 * (j + 1) + 10 * L) (by omega) (by omega) ?_
  exact bk L g u1 u2 ls H locs hL (hN u1 u2 hu1 hu2) hl hH2
set_option maxRecDepth 100000 in
set_option maxHeartbeats 4000000 in
theorem lw_k24 {p : Program} {l : Launch} {e : Env} {s : State} {m : MethodId} {below : List Frame} {meth : Method} {c : Code} {b Ls : Nat} {xs : Nat → Int32} {dC : Nat → ClassId} {dI : Nat → Nat → Nat} {cI cJ cG cZ : ClassId} {a0 b0 ao : Nat} {Q : State → Prop} {j L : Nat} {g : Nat → Int64} {wx wm : va_W} {ls : Array Slot} {H : Heap} {locs : List Loc} (K : LK p s m c b Ls xs dC dI cI cJ cG cZ) (hj : j ≤ 1000) (h3 : 3 * j + 3 ≤ Ls) (hL : L ≤ 4096) (hI : INV cI cJ cG cZ a0 b0 j L wx wm) (hl : lv_has ls 7 [(4, .int (nI (3 * j))), (3, .ref ao), (2, .ref b0), (1, .ref a0), (0, .ref b)]) (hH : LH s dC dI (wLaw cJ ao g wx wm) H locs) (bk : BK p l e s m below meth c b dC dI cI cJ cG cZ a0 b0 ao Q j) : W p l e room_1 s m #[Value.ref b] below meth c H locs (200 + 6 * j) (80000 + 6 * j + 10 * L) Q (F0 m 718 ls []) := by
  have hx := K.1
  have hb := K.2.1
  have htt := K.2.2.2.2.1
  have hX := K.2.2.2.2.2.1
  have hbl := K.2.2.2.2.2.2.1
  have hLs := K.2.2.2.2.2.2.2.2.2.2
  have hown := K.2.2.2.1
  have hbA : ¬ lA s b := Nat.not_le.mpr hbl
  obtain ⟨fx, hx0⟩ := INV_x0 hI
  obtain ⟨fm, hm0⟩ := INV_m0 hI
  obtain ⟨r, Px, Pm, hCx, hCm, hN⟩ := s_turn (l := l) (dC := dC) (dI := dI) (F := 40 ^ 18 + 1) (Nat.lt_succ_self _) hj (xs (nI (3 * j) + 1).toNatClampNeg) (xs (nI (3 * j) + 2).toNatClampNeg) hI
  refine lv_aload_n hx hb d_law_718 rfl (lv_at hl 3 rfl) ?_
  refine lv_aload_n hx hb d_law_719 rfl (lv_at hl 4 rfl) ?_
  refine lv_iload hx hb d_law_720 (lv_at hl 0 rfl) ?_
  refine lv_iconst (v := 1) hx hb d_law_722 (by decide) ?_
  refine lv_iadd hx hb d_law_723 ?_
  refine va_sld hx hb hX hbl hbA hH.2.2 (in_1 h3 hLs) d_law_724 ?_
  refine lv_aload_n hx hb d_law_725 rfl (lv_at hl 4 rfl) ?_
  refine lv_iload hx hb d_law_726 (lv_at hl 0 rfl) ?_
  refine lv_iconst (v := 2) hx hb d_law_728 (by decide) ?_
  refine lv_iadd hx hb d_law_729 ?_
  refine va_sld hx hb hX hbl hbA hH.2.2 (in_2 h3 hLs) d_law_730 ?_
  refine lw_xi K (As := [.int (xs (nI (3 * j) + 1).toNatClampNeg), .int (xs (nI (3 * j) + 2).toNatClampNeg)]) (rest := []) hCx (cwV 2 htt (gdV kt_625 kt_626 kt_627 kt_1 kt_628) rfl rfl rfl (by decide +kernel) ⟨Nat.le_of_ble_eq_true rfl, Nat.le_of_ble_eq_true rfl⟩) hx0 hH rfl rfl (Nat.le_of_ble_eq_true rfl) d_law_731 hl.1 ⟨by omega, by omega⟩ (fun u1 H locs hu1 hH1 => ?_)
  refine lv_aload_n hx hb d_law_734 rfl (lv_at hl 2 rfl) ?_
  refine lv_aload_n hx hb d_law_735 rfl (lv_at hl 4 rfl) ?_
  refine lv_iload hx hb d_law_736 (lv_at hl 0 rfl) ?_
  refine lv_iconst (v := 1) hx hb d_law_738 (by decide) ?_
  refine lv_iadd hx hb d_law_739 ?_
  refine va_sld hx hb hX hbl hbA hH1.2.2 (in_1 h3 hLs) d_law_740 ?_
  refine lv_aload_n hx hb d_law_741 rfl (lv_at hl 4 rfl) ?_
  refine lv_iload hx hb d_law_742 (lv_at hl 0 rfl) ?_
  refine lv_iconst (v := 2) hx hb d_law_744 (by decide) ?_
  refine lv_iadd hx hb d_law_745 ?_
  refine va_sld hx hb hX hbl hbA hH1.2.2 (in_2 h3 hLs) d_law_746 ?_
  refine lw_mi K (As := [.int (xs (nI (3 * j) + 1).toNatClampNeg), .int (xs (nI (3 * j) + 2).toNatClampNeg)]) (rest := [.int r]) hCm (cwV 2 htt (gdV kt_1031 kt_1032 kt_1033 kt_10 kt_1034) rfl rfl rfl (by decide +kernel) ⟨Nat.le_of_ble_eq_true rfl, Nat.le_of_ble_eq_true rfl⟩) hm0 hH1 rfl rfl (Nat.le_of_ble_eq_true rfl) d_law_747 hl.1 ⟨by omega, by omega⟩ (fun u2 H locs hu2 hH2 => ?_)
  refine lv_icmp_eq (tgt := 791) hx hb d_law_750 (by decide) (fun _ => ?_) (fun h => absurd rfl h)
  refine W.widen (k := 200 + 6 * (j + 1)) (n := 80000 + 6 * (j + 1) + 10 * L) (by omega) (by omega) ?_
  exact bk L g u1 u2 ls H locs hL (hN u1 u2 hu1 hu2) hl hH2
set_option maxRecDepth 100000 in
set_option maxHeartbeats 4000000 in
theorem lw_k25 {p : Program} {l : Launch} {e : Env} {s : State} {m : MethodId} {below : List Frame} {meth : Method} {c : Code} {b Ls : Nat} {xs : Nat → Int32} {dC : Nat → ClassId} {dI : Nat → Nat → Nat} {cI cJ cG cZ : ClassId} {a0 b0 ao : Nat} {Q : State → Prop} {j L : Nat} {g : Nat → Int64} {wx wm : va_W} {ls : Array Slot} {H : Heap} {locs : List Loc} (K : LK p s m c b Ls xs dC dI cI cJ cG cZ) (hj : j ≤ 1000) (h3 : 3 * j + 3 ≤ Ls) (hL : L ≤ 4096) (hI : INV cI cJ cG cZ a0 b0 j L wx wm) (hl : lv_has ls 7 [(4, .int (nI (3 * j))), (3, .ref ao), (2, .ref b0), (1, .ref a0), (0, .ref b)]) (hH : LH s dC dI (wLaw cJ ao g wx wm) H locs) (bk : BK p l e s m below meth c b dC dI cI cJ cG cZ a0 b0 ao Q j) : W p l e room_1 s m #[Value.ref b] below meth c H locs (200 + 6 * j) (80000 + 6 * j + 10 * L) Q (F0 m 755 ls []) := by
  have hx := K.1
  have hb := K.2.1
  have htt := K.2.2.2.2.1
  have hX := K.2.2.2.2.2.1
  have hbl := K.2.2.2.2.2.2.1
  have hLs := K.2.2.2.2.2.2.2.2.2.2
  have hown := K.2.2.2.1
  have hbA : ¬ lA s b := Nat.not_le.mpr hbl
  obtain ⟨fx, hx0⟩ := INV_x0 hI
  obtain ⟨fm, hm0⟩ := INV_m0 hI
  obtain ⟨r, Px, Pm, hCx, hCm, hN⟩ := s_told (l := l) (dC := dC) (dI := dI) (F := 40 ^ 18 + 1) (Nat.lt_succ_self _) hj (xs (nI (3 * j) + 1).toNatClampNeg) hI
  refine lv_aload_n hx hb d_law_755 rfl (lv_at hl 3 rfl) ?_
  refine lv_aload_n hx hb d_law_756 rfl (lv_at hl 4 rfl) ?_
  refine lv_iload hx hb d_law_757 (lv_at hl 0 rfl) ?_
  refine lv_iconst (v := 1) hx hb d_law_759 (by decide) ?_
  refine lv_iadd hx hb d_law_760 ?_
  refine va_sld hx hb hX hbl hbA hH.2.2 (in_1 h3 hLs) d_law_761 ?_
  refine lw_xi K (As := [.int (xs (nI (3 * j) + 1).toNatClampNeg)]) (rest := []) hCx (cwV 1 htt (gdV kt_634 kt_635 kt_636 kt_1 kt_637) rfl rfl rfl (by decide +kernel) ⟨Nat.le_of_ble_eq_true rfl, Nat.le_of_ble_eq_true rfl⟩) hx0 hH rfl rfl (Nat.le_of_ble_eq_true rfl) d_law_762 hl.1 ⟨by omega, by omega⟩ (fun u1 H locs hu1 hH1 => ?_)
  refine lv_aload_n hx hb d_law_765 rfl (lv_at hl 2 rfl) ?_
  refine lv_aload_n hx hb d_law_766 rfl (lv_at hl 4 rfl) ?_
  refine lv_iload hx hb d_law_767 (lv_at hl 0 rfl) ?_
  refine lv_iconst (v := 1) hx hb d_law_769 (by decide) ?_
  refine lv_iadd hx hb d_law_770 ?_
  refine va_sld hx hb hX hbl hbA hH1.2.2 (in_1 h3 hLs) d_law_771 ?_
  refine lw_mi K (As := [.int (xs (nI (3 * j) + 1).toNatClampNeg)]) (rest := [.int r]) hCm (cwV 1 htt (gdV kt_1035 kt_1036 kt_1037 kt_10 kt_1038) rfl rfl rfl (by decide +kernel) ⟨Nat.le_of_ble_eq_true rfl, Nat.le_of_ble_eq_true rfl⟩) hm0 hH1 rfl rfl (Nat.le_of_ble_eq_true rfl) d_law_772 hl.1 ⟨by omega, by omega⟩ (fun u2 H locs hu2 hH2 => ?_)
  refine lv_icmp_eq (tgt := 791) hx hb d_law_775 (by decide) (fun _ => ?_) (fun h => absurd rfl h)
  refine W.widen (k := 200 + 6 * (j + 1)) (n := 80000 + 6 * (j + 1) + 10 * L) (by omega) (by omega) ?_
  exact bk L g u1 u2 ls H locs hL (hN u1 u2 hu1 hu2) hl hH2
set_option maxRecDepth 100000 in
set_option maxHeartbeats 4000000 in
theorem lw_k26 {p : Program} {l : Launch} {e : Env} {s : State} {m : MethodId} {below : List Frame} {meth : Method} {c : Code} {b Ls : Nat} {xs : Nat → Int32} {dC : Nat → ClassId} {dI : Nat → Nat → Nat} {cI cJ cG cZ : ClassId} {a0 b0 ao : Nat} {Q : State → Prop} {j L : Nat} {g : Nat → Int64} {wx wm : va_W} {ls : Array Slot} {H : Heap} {locs : List Loc} (K : LK p s m c b Ls xs dC dI cI cJ cG cZ) (hj : j ≤ 1000) (h3 : 3 * j + 3 ≤ Ls) (hL : L ≤ 4096) (hI : INV cI cJ cG cZ a0 b0 j L wx wm) (hl : lv_has ls 7 [(4, .int (nI (3 * j))), (3, .ref ao), (2, .ref b0), (1, .ref a0), (0, .ref b)]) (hH : LH s dC dI (wLaw cJ ao g wx wm) H locs) (bk : BK p l e s m below meth c b dC dI cI cJ cG cZ a0 b0 ao Q j) : W p l e room_1 s m #[Value.ref b] below meth c H locs (200 + 6 * j) (80000 + 6 * j + 10 * L) Q (F0 m 780 ls []) := by
  have hx := K.1
  have hb := K.2.1
  have htt := K.2.2.2.2.1
  have hX := K.2.2.2.2.2.1
  have hbl := K.2.2.2.2.2.2.1
  have hLs := K.2.2.2.2.2.2.2.2.2.2
  have hown := K.2.2.2.1
  have hbA : ¬ lA s b := Nat.not_le.mpr hbl
  obtain ⟨fx, hx0⟩ := INV_x0 hI
  obtain ⟨fm, hm0⟩ := INV_m0 hI
  obtain ⟨Px, Pm, hCx, hCm, hN⟩ := s_clear (l := l) (dC := dC) (dI := dI) (F := 40 ^ 18 + 1) (Nat.lt_succ_self _) hj hI
  refine lv_aload_n hx hb d_law_780 rfl (lv_at hl 3 rfl) ?_
  refine lw_xv K (As := []) (rest := []) hCx (cwV 0 htt (gdV kt_656 kt_657 kt_658 kt_1 kt_659) rfl rfl rfl (by decide +kernel) ⟨Nat.le_of_ble_eq_true rfl, Nat.le_of_ble_eq_true rfl⟩) hx0 hH rfl rfl (Nat.le_of_ble_eq_true rfl) d_law_781 hl.1 ⟨by omega, by omega⟩ (fun u1 H locs hu1 hH1 => ?_)
  refine lv_aload_n hx hb d_law_784 rfl (lv_at hl 2 rfl) ?_
  refine lw_mv K (As := []) (rest := []) hCm (cwV 0 htt (gdV kt_859 kt_762 kt_763 kt_10 kt_764) rfl rfl rfl (by decide +kernel) ⟨Nat.le_of_ble_eq_true rfl, Nat.le_of_ble_eq_true rfl⟩) hm0 hH1 rfl rfl (Nat.le_of_ble_eq_true rfl) d_law_785 hl.1 ⟨by omega, by omega⟩ (fun u2 H locs hu2 hH2 => ?_)
  refine lv_goto (tgt := 791) hx hb d_law_788 (by decide) ?_
  refine W.widen (k := 200 + 6 * (j + 1)) (n := 80000 + 6 * (j + 1) + 10 * L) (by omega) (by omega) ?_
  exact bk L g u1 u2 ls H locs hL (hN u1 u2 hu1 hu2) hl hH2
