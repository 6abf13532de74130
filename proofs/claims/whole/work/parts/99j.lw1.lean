set_option maxRecDepth 100000 in
set_option maxHeartbeats 4000000 in
theorem lw_k0 {p : Program} {l : Launch} {e : Env} {s : State} {m : MethodId} {below : List Frame} {meth : Method} {c : Code} {b Ls : Nat} {xs : Nat → Int32} {dC : Nat → ClassId} {dI : Nat → Nat → Nat} {cI cJ cG cZ : ClassId} {a0 b0 ao : Nat} {Q : State → Prop} {j L : Nat} {g : Nat → Int64} {wx wm : va_W} {ls : Array Slot} {H : Heap} {locs : List Loc} (K : LK p s m c b Ls xs dC dI cI cJ cG cZ) (hj : j ≤ 1000) (h3 : 3 * j + 3 ≤ Ls) (hL : L ≤ 4096) (hI : INV cI cJ cG cZ a0 b0 j L wx wm) (hl : lv_has ls 7 [(4, .int (nI (3 * j))), (3, .ref ao), (2, .ref b0), (1, .ref a0), (0, .ref b)]) (hH : LH s dC dI (wLaw cJ ao g wx wm) H locs) (bk : BK p l e s m below meth c b dC dI cI cJ cG cZ a0 b0 ao Q j) : W p l e room_1 s m #[Value.ref b] below meth c H locs (200 + 6 * j) (80000 + 6 * j + 10 * L) Q (F0 m 160 ls []) := by
  have hx := K.1
  have hb := K.2.1
  have htt := K.2.2.2.2.1
  have hX := K.2.2.2.2.2.1
  have hbl := K.2.2.2.2.2.2.1
  have hLs := K.2.2.2.2.2.2.2.2.2.2
  have hown := K.2.2.2.1
  have hbA : ¬ lA s b := Nat.not_le.mpr hbl
  obtain ⟨fx, hx0⟩ := INV_x0 hI
  obtain ⟨fm, hm0⟩ := INV_m0 hI
  obtain ⟨r, Px, Pm, hCx, hCm, hN⟩ := s_node (l := l) (dC := dC) (dI := dI) (F := 40 ^ 18 + 1) (Nat.lt_succ_self _) hj hI
  refine lv_aload_n hx hb d_law_160 rfl (lv_at hl 3 rfl) ?_
  refine lw_xi K (As := []) (rest := []) hCx (cwV 0 htt (gdV kt_258 kt_259 kt_260 kt_1 kt_261) rfl rfl rfl (by decide +kernel) ⟨Nat.le_of_ble_eq_true rfl, Nat.le_of_ble_eq_true rfl⟩) hx0 hH rfl rfl (Nat.le_of_ble_eq_true rfl) d_law_161 hl.1 ⟨by omega, by omega⟩ (fun u1 H locs hu1 hH1 => ?_)
  refine lv_aload_n hx hb d_law_164 rfl (lv_at hl 2 rfl) ?_
  refine lw_mi K (As := []) (rest := [.int r]) hCm (cwV 0 htt (gdV kt_860 kt_861 kt_862 kt_10 kt_863) rfl rfl rfl (by decide +kernel) ⟨Nat.le_of_ble_eq_true rfl, Nat.le_of_ble_eq_true rfl⟩) hm0 hH1 rfl rfl (Nat.le_of_ble_eq_true rfl) d_law_165 hl.1 ⟨by omega, by omega⟩ (fun u2 H locs hu2 hH2 => ?_)
  refine lv_icmp_eq (tgt := 791) hx hb d_law_168 (by decide) (fun _ => ?_) (fun h => absurd rfl h)
  refine W.widen (k := 200 + 6 * (j + 1)) (n := 80000 + 6 * (j + 1) + 10 * L) (by omega) (by omega) ?_
  exact bk L g u1 u2 ls H locs hL (hN u1 u2 hu1 hu2) hl hH2
set_option maxRecDepth 100000 in
set_option maxHeartbeats 4000000 in
theorem lw_k1 {p : Program} {l : Launch} {e : Env} {s : State} {m : MethodId} {below : List Frame} {meth : Method} {c : Code} {b Ls : Nat} {xs : Nat → Int32} {dC : Nat → ClassId} {dI : Nat → Nat → Nat} {cI cJ cG cZ : ClassId} {a0 b0 ao : Nat} {Q : State → Prop} {j L : Nat} {g : Nat → Int64} {wx wm : va_W} {ls : Array Slot} {H : Heap} {locs : List Loc} (K : LK p s m c b Ls xs dC dI cI cJ cG cZ) (hj : j ≤ 1000) (h3 : 3 * j + 3 ≤ Ls) (hL : L ≤ 4096) (hI : INV cI cJ cG cZ a0 b0 j L wx wm) (hl : lv_has ls 7 [(4, .int (nI (3 * j))), (3, .ref ao), (2, .ref b0), (1, .ref a0), (0, .ref b)]) (hH : LH s dC dI (wLaw cJ ao g wx wm) H locs) (bk : BK p l e s m below meth c b dC dI cI cJ cG cZ a0 b0 ao Q j) : W p l e room_1 s m #[Value.ref b] below meth c H locs (200 + 6 * j) (80000 + 6 * j + 10 * L) Q (F0 m 173 ls []) := by
  have hx := K.1
  have hb := K.2.1
  have htt := K.2.2.2.2.1
  have hX := K.2.2.2.2.2.1
  have hbl := K.2.2.2.2.2.2.1
  have hLs := K.2.2.2.2.2.2.2.2.2.2
  have hown := K.2.2.2.1
  have hbA : ¬ lA s b := Nat.not_le.mpr hbl
  obtain ⟨fx, hx0⟩ := INV_x0 hI
  obtain ⟨fm, hm0⟩ := INV_m0 hI
  obtain ⟨r, Px, Pm, hCx, hCm, hN⟩ := s_arc (l := l) (dC := dC) (dI := dI) (F := 40 ^ 18 + 1) (Nat.lt_succ_self _) hj (xs (nI (3 * j) + 1).toNatClampNeg) (xs (nI (3 * j) + 2).toNatClampNeg) hI
  refine lv_aload_n hx hb d_law_173 rfl (lv_at hl 3 rfl) ?_
  refine lv_aload_n hx hb d_law_174 rfl (lv_at hl 4 rfl) ?_
  refine lv_iload hx hb d_law_175 (lv_at hl 0 rfl) ?_
  refine lv_iconst (v := 1) hx hb d_law_177 (by decide) ?_
  refine lv_iadd hx hb d_law_178 ?_
  refine va_sld hx hb hX hbl hbA hH.2.2 (in_1 h3 hLs) d_law_179 ?_
  refine lv_aload_n hx hb d_law_180 rfl (lv_at hl 4 rfl) ?_
  refine lv_iload hx hb d_law_181 (lv_at hl 0 rfl) ?_
  refine lv_iconst (v := 2) hx hb d_law_183 (by decide) ?_
  refine lv_iadd hx hb d_law_184 ?_
  refine va_sld hx hb hX hbl hbA hH.2.2 (in_2 h3 hLs) d_law_185 ?_
  refine lw_xi K (As := [.int (xs (nI (3 * j) + 1).toNatClampNeg), .int (xs (nI (3 * j) + 2).toNatClampNeg)]) (rest := []) hCx (cwV 2 htt (gdV kt_266 kt_267 kt_268 kt_1 kt_269) rfl rfl rfl (by decide +kernel) ⟨Nat.le_of_ble_eq_true rfl, Nat.le_of_ble_eq_true rfl⟩) hx0 hH rfl rfl (Nat.le_of_ble_eq_true rfl) d_law_186 hl.1 ⟨by omega, by omega⟩ (fun u1 H locs hu1 hH1 => ?_)
  refine lv_aload_n hx hb d_law_189 rfl (lv_at hl 2 rfl) ?_
  refine lv_aload_n hx hb d_law_190 rfl (lv_at hl 4 rfl) ?_
  refine lv_iload hx hb d_law_191 (lv_at hl 0 rfl) ?_
  refine lv_iconst (v := 1) hx hb d_law_193 (by decide) ?_
  refine lv_iadd hx hb d_law_194 ?_
  refine va_sld hx hb hX hbl hbA hH1.2.2 (in_1 h3 hLs) d_law_195 ?_
  refine lv_aload_n hx hb d_law_196 rfl (lv_at hl 4 rfl) ?_
  refine lv_iload hx hb d_law_197 (lv_at hl 0 rfl) ?_
  refine lv_iconst (v := 2) hx hb d_law_199 (by decide) ?_
  refine lv_iadd hx hb d_law_200 ?_
  refine va_sld hx hb hX hbl hbA hH1.2.2 (in_2 h3 hLs) d_law_201 ?_
  refine lw_mi K (As := [.int (xs (nI (3 * j) + 1).toNatClampNeg), .int (xs (nI (3 * j) + 2).toNatClampNeg)]) (rest := [.int r]) hCm (cwV 2 htt (gdV kt_864 kt_865 kt_866 kt_10 kt_867) rfl rfl rfl (by decide +kernel) ⟨Nat.le_of_ble_eq_true rfl, Nat.le_of_ble_eq_true rfl⟩) hm0 hH1 rfl rfl (Nat.le_of_ble_eq_true rfl) d_law_202 hl.1 ⟨by omega, by omega⟩ (fun u2 H locs hu2 hH2 => ?_)
  refine lv_icmp_eq (tgt := 791) hx hb d_law_205 (by decide) (fun _ => ?_) (fun h => absurd rfl h)
  refine W.widen (k := 200 + 6 * (j + 1)) (n := 80000 + 6 * (j + 1) + 10 * L) (by omega) (by omega) ?_
  exact bk L g u1 u2 ls H locs hL (hN u1 u2 hu1 hu2) hl hH2
set_option maxRecDepth 100000 in
set_option maxHeartbeats 4000000 in
theorem lw_k2 {p : Program} {l : Launch} {e : Env} {s : State} {m : MethodId} {below : List Frame} {meth : Method} {c : Code} {b Ls : Nat} {xs : Nat → Int32} {dC : Nat → ClassId} {dI : Nat → Nat → Nat} {cI cJ cG cZ : ClassId} {a0 b0 ao : Nat} {Q : State → Prop} {j L : Nat} {g : Nat → Int64} {wx wm : va_W} {ls : Array Slot} {H : Heap} {locs : List Loc} (K : LK p s m c b Ls xs dC dI cI cJ cG cZ) (hj : j ≤ 1000) (h3 : 3 * j + 3 ≤ Ls) (hL : L ≤ 4096) (hI : INV cI cJ cG cZ a0 b0 j L wx wm) (hl : lv_has ls 7 [(4, .int (nI (3 * j))), (3, .ref ao), (2, .ref b0), (1, .ref a0), (0, .ref b)]) (hH : LH s dC dI (wLaw cJ ao g wx wm) H locs) (bk : BK p l e s m below meth c b dC dI cI cJ cG cZ a0 b0 ao Q j) : W p l e room_1 s m #[Value.ref b] below meth c H locs (200 + 6 * j) (80000 + 6 * j + 10 * L) Q (F0 m 210 ls []) := by
  have hx := K.1
  have hb := K.2.1
  have htt := K.2.2.2.2.1
  have hX := K.2.2.2.2.2.1
  have hbl := K.2.2.2.2.2.2.1
  have hLs := K.2.2.2.2.2.2.2.2.2.2
  have hown := K.2.2.2.1
  have hbA : ¬ lA s b := Nat.not_le.mpr hbl
  obtain ⟨fx, hx0⟩ := INV_x0 hI
  obtain ⟨fm, hm0⟩ := INV_m0 hI
  obtain ⟨r, Px, Pm, hCx, hCm, hN⟩ := s_drop (l := l) (dC := dC) (dI := dI) (F := 40 ^ 18 + 1) (Nat.lt_succ_self _) hj hI
  refine lv_aload_n hx hb d_law_210 rfl (lv_at hl 3 rfl) ?_
  refine lw_xi K (As := []) (rest := []) hCx (cwV 0 htt (gdV kt_282 kt_283 kt_284 kt_1 kt_285) rfl rfl rfl (by decide +kernel) ⟨Nat.le_of_ble_eq_true rfl, Nat.le_of_ble_eq_true rfl⟩) hx0 hH rfl rfl (Nat.le_of_ble_eq_true rfl) d_law_211 hl.1 ⟨by omega, by omega⟩ (fun u1 H locs hu1 hH1 => ?_)
  refine lv_aload_n hx hb d_law_214 rfl (lv_at hl 2 rfl) ?_
  refine lw_mi K (As := []) (rest := [.int r]) hCm (cwV 0 htt (gdV kt_872 kt_873 kt_874 kt_10 kt_875) rfl rfl rfl (by decide +kernel) ⟨Nat.le_of_ble_eq_true rfl, Nat.le_of_ble_eq_true rfl⟩) hm0 hH1 rfl rfl (Nat.le_of_ble_eq_true rfl) d_law_215 hl.1 ⟨by omega, by omega⟩ (fun u2 H locs hu2 hH2 => ?_)
  refine lv_icmp_eq (tgt := 791) hx hb d_law_218 (by decide) (fun _ => ?_) (fun h => absurd rfl h)
  refine W.widen (k := 200 + 6 * (j + 1)) (n := 80000 + 6 * (j + 1) + 10 * L) (by omega) (by omega) ?_
  exact bk L g u1 u2 ls H locs hL (hN u1 u2 hu1 hu2) hl hH2
set_option maxRecDepth 100000 in
set_option maxHeartbeats 4000000 in
theorem lw_k3 {p : Program} {l : Launch} {e : Env} {s : State} {m : MethodId} {below : List Frame} {meth : Method} {c : Code} {b Ls : Nat} {xs : Nat → Int32} {dC : Nat → ClassId} {dI : Nat → Nat → Nat} {cI cJ cG cZ : ClassId} {a0 b0 ao : Nat} {Q : State → Prop} {j L : Nat} {g : Nat → Int64} {wx wm : va_W} {ls : Array Slot} {H : Heap} {locs : List Loc} (K : LK p s m c b Ls xs dC dI cI cJ cG cZ) (hj : j ≤ 1000) (h3 : 3 * j + 3 ≤ Ls) (hL : L ≤ 4096) (hI : INV cI cJ cG cZ a0 b0 j L wx wm) (hl : lv_has ls 7 [(4, .int (nI (3 * j))), (3, .ref ao), (2, .ref b0), (1, .ref a0), (0, .ref b)]) (hH : LH s dC dI (wLaw cJ ao g wx wm) H locs) (bk : BK p l e s m below meth c b dC dI cI cJ cG cZ a0 b0 ao Q j) : W p l e room_1 s m #[Value.ref b] below meth c H locs (200 + 6 * j) (80000 + 6 * j + 10 * L) Q (F0 m 223 ls []) := by
  have hx := K.1
  have hb := K.2.1
  have htt := K.2.2.2.2.1
  have hX := K.2.2.2.2.2.1
  have hbl := K.2.2.2.2.2.2.1
  have hLs := K.2.2.2.2.2.2.2.2.2.2
  have hown := K.2.2.2.1
  have hbA : ¬ lA s b := Nat.not_le.mpr hbl
  obtain ⟨fx, hx0⟩ := INV_x0 hI
  obtain ⟨fm, hm0⟩ := INV_m0 hI
  obtain ⟨r, Px, Pm, hCx, hCm, hN⟩ := s_least (l := l) (dC := dC) (dI := dI) (F := 40 ^ 18 + 1) (Nat.lt_succ_self _) hj hI
  refine lv_aload_n hx hb d_law_223 rfl (lv_at hl 3 rfl) ?_
  refine lw_xi K (As := []) (rest := []) hCx (cwV 0 htt (gdV kt_290 kt_291 kt_292 kt_1 kt_293) rfl rfl rfl (by decide +kernel) ⟨Nat.le_of_ble_eq_true rfl, Nat.le_of_ble_eq_true rfl⟩) hx0 hH rfl rfl (Nat.le_of_ble_eq_true rfl) d_law_224 hl.1 ⟨by omega, by omega⟩ (fun u1 H locs hu1 hH1 => ?_)
  refine lv_aload_n hx hb d_law_227 rfl (lv_at hl 2 rfl) ?_
  refine lw_mi K (As := []) (rest := [.int r]) hCm (cwV 0 htt (gdV kt_876 kt_877 kt_878 kt_10 kt_879) rfl rfl rfl (by decide +kernel) ⟨Nat.le_of_ble_eq_true rfl, Nat.le_of_ble_eq_true rfl⟩) hm0 hH1 rfl rfl (Nat.le_of_ble_eq_true rfl) d_law_228 hl.1 ⟨by omega, by omega⟩ (fun u2 H locs hu2 hH2 => ?_)
  refine lv_icmp_eq (tgt := 791) hx hb d_law_231 (by decide) (fun _ => ?_) (fun h => absurd rfl h)
  refine W.widen (k := 200 + 6 * (j + 1)) (n := 80000 + 6 * (j + 1) + 10 * L) (by omega) (by omega) ?_
  exact bk L g u1 u2 ls H locs hL (hN u1 u2 hu1 hu2) hl hH2
set_option maxRecDepth 100000 in
set_option maxHeartbeats 4000000 in
theorem lw_k4 {p : Program} {l : Launch} {e : Env} {s : State} {m : MethodId} {below : List Frame} {meth : Method} {c : Code} {b Ls : Nat} {xs : Nat → Int32} {dC : Nat → ClassId} {dI : Nat → Nat → Nat} {cI cJ cG cZ : ClassId} {a0 b0 ao : Nat} {Q : State → Prop} {j L : Nat} {g : Nat → Int64} {wx wm : va_W} {ls : Array Slot} {H : Heap} {locs : List Loc} (K : LK p s m c b Ls xs dC dI cI cJ cG cZ) (hj : j ≤ 1000) (h3 : 3 * j + 3 ≤ Ls) (hL : L ≤ 4096) (hI : INV cI cJ cG cZ a0 b0 j L wx wm) (hl : lv_has ls 7 [(4, .int (nI (3 * j))), (3, .ref ao), (2, .ref b0), (1, .ref a0), (0, .ref b)]) (hH : LH s dC dI (wLaw cJ ao g wx wm) H locs) (bk : BK p l e s m below meth c b dC dI cI cJ cG cZ a0 b0 ao Q j) : W p l e room_1 s m #[Value.ref b] below meth c H locs (200 + 6 * j) (80000 + 6 * j + 10 * L) Q (F0 m 236 ls []) := by
  have hx := K.1
  have hb := K.2.1
  have htt := K.2.2.2.2.1
  have hX := K.2.2.2.2.2.1
  have hbl := K.2.2.2.2.2.2.1
  have hLs := K.2.2.2.2.2.2.2.2.2.2
  have hown := K.2.2.2.1
  have hbA : ¬ lA s b := Nat.not_le.mpr hbl
  obtain ⟨fx, hx0⟩ := INV_x0 hI
  obtain ⟨fm, hm0⟩ := INV_m0 hI
  obtain ⟨r, Px, Pm, hCx, hCm, hN⟩ := s_even (l := l) (dC := dC) (dI := dI) (F := 40 ^ 18 + 1) (Nat.lt_succ_self _) hj (xs (nI (3 * j) + 1).toNatClampNeg) hI
  refine lv_aload_n hx hb d_law_236 rfl (lv_at hl 3 rfl) ?_
  refine lv_aload_n hx hb d_law_237 rfl (lv_at hl 4 rfl) ?_
  refine lv_iload hx hb d_law_238 (lv_at hl 0 rfl) ?_
  refine lv_iconst (v := 1) hx hb d_law_240 (by decide) ?_
  refine lv_iadd hx hb d_law_241 ?_
  refine va_sld hx hb hX hbl hbA hH.2.2 (in_1 h3 hLs) d_law_242 ?_
  refine lw_xi K (As := [.int (xs (nI (3 * j) + 1).toNatClampNeg)]) (rest := []) hCx (cwV 1 htt (gdV kt_366 kt_367 kt_368 kt_1 kt_369) rfl rfl rfl (by decide +kernel) ⟨Nat.le_of_ble_eq_true rfl, Nat.le_of_ble_eq_true rfl⟩) hx0 hH rfl rfl (Nat.le_of_ble_eq_true rfl) d_law_243 hl.1 ⟨by omega, by omega⟩ (fun u1 H locs hu1 hH1 => ?_)
  refine lv_aload_n hx hb d_law_246 rfl (lv_at hl 2 rfl) ?_
  refine lv_aload_n hx hb d_law_247 rfl (lv_at hl 4 rfl) ?_
  refine lv_iload hx hb d_law_248 (lv_at hl 0 rfl) ?_
  refine lv_iconst (v := 1) hx hb d_law_250 (by decide) ?_
  refine lv_iadd hx hb d_law_251 ?_
  refine va_sld hx hb hX hbl hbA hH1.2.2 (in_1 h3 hLs) d_law_252 ?_
  refine lw_mi K (As := [.int (xs (nI (3 * j) + 1).toNatClampNeg)]) (rest := [.int r]) hCm (cwV 1 htt (gdV kt_900 kt_901 kt_902 kt_10 kt_903) rfl rfl rfl (by decide +kernel) ⟨Nat.le_of_ble_eq_true rfl, Nat.le_of_ble_eq_true rfl⟩) hm0 hH1 rfl rfl (Nat.le_of_ble_eq_true rfl) d_law_253 hl.1 ⟨by omega, by omega⟩ (fun u2 H locs hu2 hH2 => ?_)
  refine lv_icmp_eq (tgt := 791) hx hb d_law_256 (by decide) (fun _ => ?_) (fun h => absurd rfl h)
  refine W.widen (k := 200 + 6 * (j + 1)) (n := 80000 + 6 * (j + 1) + 10 * L) (by omega) (by omega) ?_
  exact bk L g u1 u2 ls H locs hL (hN u1 u2 hu1 hu2) hl hH2
set_option maxRecDepth 100000 in
set_option maxHeartbeats 4000000 in
theorem lw_k5 {p : Program} {l : Launch} {e : Env} {s : State} {m : MethodId} {below : List Frame} {meth : Method} {c : Code} {b Ls : Nat} {xs : Nat → Int32} {dC : Nat → ClassId} {dI : Nat → Nat → Nat} {cI cJ cG cZ : ClassId} {a0 b0 ao : Nat} {Q : State → Prop} {j L : Nat} {g : Nat → Int64} {wx wm : va_W} {ls : Array Slot} {H : Heap} {locs : List Loc} (K : LK p s m c b Ls xs dC dI cI cJ cG cZ) (hj : j ≤ 1000) (h3 : 3 * j + 3 ≤ Ls) (hL : L ≤ 4096) (hI : INV cI cJ cG cZ a0 b0 j L wx wm) (hl : lv_has ls 7 [(4, .int (nI (3 * j))), (3, .ref ao), (2, .ref b0), (1, .ref a0), (0, .ref b)]) (hH : LH s dC dI (wLaw cJ ao g wx wm) H locs) (bk : BK p l e s m below meth c b dC dI cI cJ cG cZ a0 b0 ao Q j) : W p l e room_1 s m #[Value.ref b] below meth c H locs (200 + 6 * j) (80000 + 6 * j + 10 * L) Q (F0 m 261 ls []) := by
  have hx := K.1
  have hb := K.2.1
  have htt := K.2.2.2.2.1
  have hX := K.2.2.2.2.2.1
  have hbl := K.2.2.2.2.2.2.1
  have hLs := K.2.2.2.2.2.2.2.2.2.2
  have hown := K.2.2.2.1
  have hbA : ¬ lA s b := Nat.not_le.mpr hbl
  obtain ⟨fx, hx0⟩ := INV_x0 hI
  obtain ⟨fm, hm0⟩ := INV_m0 hI
  obtain ⟨r, Px, Pm, hCx, hCm, hN⟩ := s_colour (l := l) (dC := dC) (dI := dI) (F := 40 ^ 18 + 1) (Nat.lt_succ_self _) hj (xs (nI (3 * j) + 1).toNatClampNeg) hI
  refine lv_aload_n hx hb d_law_261 rfl (lv_at hl 3 rfl) ?_
  refine lv_aload_n hx hb d_law_262 rfl (lv_at hl 4 rfl) ?_
  refine lv_iload hx hb d_law_263 (lv_at hl 0 rfl) ?_
  refine lv_iconst (v := 1) hx hb d_law_265 (by decide) ?_
  refine lv_iadd hx hb d_law_266 ?_
  refine va_sld hx hb hX hbl hbA hH.2.2 (in_1 h3 hLs) d_law_267 ?_
  refine lw_xi K (As := [.int (xs (nI (3 * j) + 1).toNatClampNeg)]) (rest := []) hCx (cwV 1 htt (gdV kt_378 kt_379 kt_380 kt_1 kt_381) rfl rfl rfl (by decide +kernel) ⟨Nat.le_of_ble_eq_true rfl, Nat.le_of_ble_eq_true rfl⟩) hx0 hH rfl rfl (Nat.le_of_ble_eq_true rfl) d_law_268 hl.1 ⟨by omega, by omega⟩ (fun u1 H locs hu1 hH1 => ?_)
  refine lv_aload_n hx hb d_law_271 rfl (lv_at hl 2 rfl) ?_
  refine lv_aload_n hx hb d_law_272 rfl (lv_at hl 4 rfl) ?_
  refine lv_iload hx hb d_law_273 (lv_at hl 0 rfl) ?_
  refine lv_iconst (v := 1) hx hb d_law_275 (by decide) ?_
  refine lv_iadd hx hb d_law_276 ?_
  refine va_sld hx hb hX hbl hbA hH1.2.2 (in_1 h3 hLs) d_law_277 ?_
  refine lw_mi K (As := [.int (xs (nI (3 * j) + 1).toNatClampNeg)]) (rest := [.int r]) hCm (cwV 1 htt (gdV kt_904 kt_905 kt_906 kt_10 kt_907) rfl rfl rfl (by decide +kernel) ⟨Nat.le_of_ble_eq_true rfl, Nat.le_of_ble_eq_true rfl⟩) hm0 hH1 rfl rfl (Nat.le_of_ble_eq_true rfl) d_law_278 hl.1 ⟨by omega, by omega⟩ (fun u2 H locs hu2 hH2 => ?_)
  refine lv_icmp_eq (tgt := 791) hx hb d_law_281 (by decide) (fun _ => ?_) (fun h => absurd rfl h)
  refine W.widen (k := 200 + 6 * (j + 1)) (n := 80000 + 6 * (j + 1) + 10 * L) (by omega) (by omega) ?_
  exact bk L g u1 u2 ls H locs hL (hN u1 u2 hu1 hu2) hl hH2
set_option maxRecDepth 100000 in
set_option maxHeartbeats 4000000 in
theorem lw_k6 {p : Program} {l : Launch} {e : Env} {s : State} {m : MethodId} {below : List Frame} {meth : Method} {c : Code} {b Ls : Nat} {xs : Nat → Int32} {dC : Nat → ClassId} {dI : Nat → Nat → Nat} {cI cJ cG cZ : ClassId} {a0 b0 ao : Nat} {Q : State → Prop} {j L : Nat} {g : Nat → Int64} {wx wm : va_W} {ls : Array Slot} {H : Heap} {locs : List Loc} (K : LK p s m c b Ls xs dC dI cI cJ cG cZ) (hj : j ≤ 1000) (h3 : 3 * j + 3 ≤ Ls) (hL : L ≤ 4096) (hI : INV cI cJ cG cZ a0 b0 j L wx wm) (hl : lv_has ls 7 [(4, .int (nI (3 * j))), (3, .ref ao), (2, .ref b0), (1, .ref a0), (0, .ref b)]) (hH : LH s dC dI (wLaw cJ ao g wx wm) H locs) (bk : BK p l e s m below meth c b dC dI cI cJ cG cZ a0 b0 ao Q j) : W p l e room_1 s m #[Value.ref b] below meth c H locs (200 + 6 * j) (80000 + 6 * j + 10 * L) Q (F0 m 286 ls []) := by
  have hx := K.1
  have hb := K.2.1
  have htt := K.2.2.2.2.1
  have hX := K.2.2.2.2.2.1
  have hbl := K.2.2.2.2.2.2.1
  have hLs := K.2.2.2.2.2.2.2.2.2.2
  have hown := K.2.2.2.1
  have hbA : ¬ lA s b := Nat.not_le.mpr hbl
  obtain ⟨fx, hx0⟩ := INV_x0 hI
  obtain ⟨fm, hm0⟩ := INV_m0 hI
  obtain ⟨r, Px, Pm, hCx, hCm, hN⟩ := s_ways (l := l) (dC := dC) (dI := dI) (F := 40 ^ 18 + 1) (Nat.lt_succ_self _) hj (((xs (nI (3 * j) + 1).toNatClampNeg).toInt64 <<< ((32 : Int32).toInt64 &&& 63)) ||| ((xs (nI (3 * j) + 2).toNatClampNeg).toInt64 &&& 4294967295)) hI
  refine lv_aload_n hx hb d_law_286 rfl (lv_at hl 3 rfl) ?_
  refine lv_aload_n hx hb d_law_287 rfl (lv_at hl 4 rfl) ?_
  refine lv_iload hx hb d_law_288 (lv_at hl 0 rfl) ?_
  refine lv_iconst (v := 1) hx hb d_law_290 (by decide) ?_
  refine lv_iadd hx hb d_law_291 ?_
  refine va_sld hx hb hX hbl hbA hH.2.2 (in_1 h3 hLs) d_law_292 ?_
  refine lv_i2l hx hb d_law_293 rfl ?_
  refine lv_bipush (v := 32) hx hb d_law_294 (by decide) ?_
  refine lv_lshl hx hb d_law_296 rfl ?_
  refine lv_aload_n hx hb d_law_297 rfl (lv_at hl 4 rfl) ?_
  refine lv_iload hx hb d_law_298 (lv_at hl 0 rfl) ?_
  refine lv_iconst (v := 2) hx hb d_law_300 (by decide) ?_
  refine lv_iadd hx hb d_law_301 ?_
  refine va_sld hx hb hX hbl hbA hH.2.2 (in_2 h3 hLs) d_law_302 ?_
  refine lv_i2l hx hb d_law_303 rfl ?_
  refine lv_ldc2 (own := R_law) (v := 4294967295) hx hb hown (htt _ kl_mask) d_law_304 ?_
  refine lv_land hx hb d_law_307 ?_
  refine lv_lor hx hb d_law_308 ?_
  refine lw_xl K (As := [.long (((xs (nI (3 * j) + 1).toNatClampNeg).toInt64 <<< ((32 : Int32).toInt64 &&& 63)) ||| ((xs (nI (3 * j) + 2).toNatClampNeg).toInt64 &&& 4294967295))]) (rest := []) hCx (cwV 1 htt (gdV kt_383 kt_384 kt_385 kt_1 kt_386) rfl rfl rfl (by decide +kernel) ⟨Nat.le_of_ble_eq_true rfl, Nat.le_of_ble_eq_true rfl⟩) hx0 hH rfl rfl (Nat.le_of_ble_eq_true rfl) d_law_309 hl.1 ⟨by omega, by omega⟩ (fun u1 H locs hu1 hH1 => ?_)
  refine lv_aload_n hx hb d_law_312 rfl (lv_at hl 2 rfl) ?_
  refine lv_aload_n hx hb d_law_313 rfl (lv_at hl 4 rfl) ?_
  refine lv_iload hx hb d_law_314 (lv_at hl 0 rfl) ?_
  refine lv_iconst (v := 1) hx hb d_law_316 (by decide) ?_
  refine lv_iadd hx hb d_law_317 ?_
  refine va_sld hx hb hX hbl hbA hH1.2.2 (in_1 h3 hLs) d_law_318 ?_
  refine lv_i2l hx hb d_law_319 rfl ?_
  refine lv_bipush (v := 32) hx hb d_law_320 (by decide) ?_
  refine lv_lshl hx hb d_law_322 rfl ?_
  refine lv_aload_n hx hb d_law_323 rfl (lv_at hl 4 rfl) ?_
  refine lv_iload hx hb d_law_324 (lv_at hl 0 rfl) ?_
  refine lv_iconst (v := 2) hx hb d_law_326 (by decide) ?_
  refine lv_iadd hx hb d_law_327 ?_
  refine va_sld hx hb hX hbl hbA hH1.2.2 (in_2 h3 hLs) d_law_328 ?_
  refine lv_i2l hx hb d_law_329 rfl ?_
  refine lv_ldc2 (own := R_law) (v := 4294967295) hx hb hown (htt _ kl_mask) d_law_330 ?_
  refine lv_land hx hb d_law_333 ?_
  refine lv_lor hx hb d_law_334 ?_
  refine lw_ml K (As := [.long (((xs (nI (3 * j) + 1).toNatClampNeg).toInt64 <<< ((32 : Int32).toInt64 &&& 63)) ||| ((xs (nI (3 * j) + 2).toNatClampNeg).toInt64 &&& 4294967295))]) (rest := [.long r]) hCm (cwV 1 htt (gdV kt_908 kt_909 kt_910 kt_10 kt_911) rfl rfl rfl (by decide +kernel) ⟨Nat.le_of_ble_eq_true rfl, Nat.le_of_ble_eq_true rfl⟩) hm0 hH1 rfl rfl (Nat.le_of_ble_eq_true rfl) d_law_335 hl.1 ⟨by omega, by omega⟩ (fun u2 H locs hu2 hH2 => ?_)
  refine W.lcmp hx hb d_law_338 ?_
  refine lv_if_eq (tgt := 791) hx hb d_law_339 (by decide) (fun _ => ?_) (fun h => absurd (cmp_self _) h)
  refine W.widen (k := 200 + 6 * (j + 1)) (n := 80000 + 6 * (j + 1) + 10 * L) (by omega) (by omega) ?_
  exact bk L g u1 u2 ls H locs hL (hN u1 u2 hu1 hu2) hl hH2
set_option maxRecDepth 100000 in
set_option maxHeartbeats 4000000 in
theorem lw_k7 {p : Program} {l : Launch} {e : Env} {s : State} {m : MethodId} {below : List Frame} {meth : Method} {c : Code} {b Ls : Nat} {xs : Nat → Int32} {dC : Nat → ClassId} {dI : Nat → Nat → Nat} {cI cJ cG cZ : ClassId} {a0 b0 ao : Nat} {Q : State → Prop} {j L : Nat} {g : Nat → Int64} {wx wm : va_W} {ls : Array Slot} {H : Heap} {locs : List Loc} (K : LK p s m c b Ls xs dC dI cI cJ cG cZ) (hj : j ≤ 1000) (h3 : 3 * j + 3 ≤ Ls) (hL : L ≤ 4096) (hI : INV cI cJ cG cZ a0 b0 j L wx wm) (hl : lv_has ls 7 [(4, .int (nI (3 * j))), (3, .ref ao), (2, .ref b0), (1, .ref a0), (0, .ref b)]) (hH : LH s dC dI (wLaw cJ ao g wx wm) H locs) (bk : BK p l e s m below meth c b dC dI cI cJ cG cZ a0 b0 ao Q j) : W p l e room_1 s m #[Value.ref b] below meth c H locs (200 + 6 * j) (80000 + 6 * j + 10 * L) Q (F0 m 344 ls []) := by
  have hx := K.1
  have hb := K.2.1
  have htt := K.2.2.2.2.1
  have hX := K.2.2.2.2.2.1
  have hbl := K.2.2.2.2.2.2.1
  have hLs := K.2.2.2.2.2.2.2.2.2.2
  have hown := K.2.2.2.1
  have hbA : ¬ lA s b := Nat.not_le.mpr hbl
  obtain ⟨fx, hx0⟩ := INV_x0 hI
  obtain ⟨fm, hm0⟩ := INV_m0 hI
  obtain ⟨r, Px, Pm, hCx, hCm, hN⟩ := s_coefficient (l := l) (dC := dC) (dI := dI) (F := 40 ^ 18 + 1) (Nat.lt_succ_self _) hj (xs (nI (3 * j) + 1).toNatClampNeg) hI
  refine lv_aload_n hx hb d_law_344 rfl (lv_at hl 3 rfl) ?_
  refine lv_aload_n hx hb d_law_345 rfl (lv_at hl 4 rfl) ?_
  refine lv_iload hx hb d_law_346 (lv_at hl 0 rfl) ?_
  refine lv_iconst (v := 1) hx hb d_law_348 (by decide) ?_
  refine lv_iadd hx hb d_law_349 ?_
  refine va_sld hx hb hX hbl hbA hH.2.2 (in_1 h3 hLs) d_law_350 ?_
  refine lw_xl K (As := [.int (xs (nI (3 * j) + 1).toNatClampNeg)]) (rest := []) hCx (cwV 1 htt (gdV kt_429 kt_430 kt_431 kt_1 kt_432) rfl rfl rfl (by decide +kernel) ⟨Nat.le_of_ble_eq_true rfl, Nat.le_of_ble_eq_true rfl⟩) hx0 hH rfl rfl (Nat.le_of_ble_eq_true rfl) d_law_351 hl.1 ⟨by omega, by omega⟩ (fun u1 H locs hu1 hH1 => ?_)
  refine lv_aload_n hx hb d_law_354 rfl (lv_at hl 2 rfl) ?_
  refine lv_aload_n hx hb d_law_355 rfl (lv_at hl 4 rfl) ?_
  refine lv_iload hx hb d_law_356 (lv_at hl 0 rfl) ?_
  refine lv_iconst (v := 1) hx hb d_law_358 (by decide) ?_
  refine lv_iadd hx hb d_law_359 ?_
  refine va_sld hx hb hX hbl hbA hH1.2.2 (in_1 h3 hLs) d_law_360 ?_
  refine lw_ml K (As := [.int (xs (nI (3 * j) + 1).toNatClampNeg)]) (rest := [.long r]) hCm (cwV 1 htt (gdV kt_920 kt_921 kt_922 kt_10 kt_923) rfl rfl rfl (by decide +kernel) ⟨Nat.le_of_ble_eq_true rfl, Nat.le_of_ble_eq_true rfl⟩) hm0 hH1 rfl rfl (Nat.le_of_ble_eq_true rfl) d_law_361 hl.1 ⟨by omega, by omega⟩ (fun u2 H locs hu2 hH2 => ?_)
  refine W.lcmp hx hb d_law_364 ?_
  refine lv_if_eq (tgt := 791) hx hb d_law_365 (by decide) (fun _ => ?_) (fun h => absurd (cmp_self _) h)
  refine W.widen (k := 200 + 6 * (j + 1)) (n := 80000 + 6 * (j + 1) + 10 * L) (by omega) (by omega) ?_
  exact bk L g u1 u2 ls H locs hL (hN u1 u2 hu1 hu2) hl hH2
set_option maxRecDepth 100000 in
set_option maxHeartbeats 4000000 in
theorem lw_k8 {p : Program} {l : Launch} {e : Env} {s : State} {m : MethodId} {below : List Frame} {meth : Method} {c : Code} {b Ls : Nat} {xs : Nat → Int32} {dC : Nat → ClassId} {dI : Nat → Nat → Nat} {cI cJ cG cZ : ClassId} {a0 b0 ao : Nat} {Q : State → Prop} {j L : Nat} {g : Nat → Int64} {wx wm : va_W} {ls : Array Slot} {H : Heap} {locs : List Loc} (K : LK p s m c b Ls xs dC dI cI cJ cG cZ) (hj : j ≤ 1000) (h3 : 3 * j + 3 ≤ Ls) (hL : L ≤ 4096) (hI : INV cI cJ cG cZ a0 b0 j L wx wm) (hl : lv_has ls 7 [(4, .int (nI (3 * j))), (3, .ref ao), (2, .ref b0), (1, .ref a0), (0, .ref b)]) (hH : LH s dC dI (wLaw cJ ao g wx wm) H locs) (bk : BK p l e s m below meth c b dC dI cI cJ cG cZ a0 b0 ao Q j) : W p l e room_1 s m #[Value.ref b] below meth c H locs (200 + 6 * j) (80000 + 6 * j + 10 * L) Q (F0 m 370 ls []) := by
  have hx := K.1
  have hb := K.2.1
  have htt := K.2.2.2.2.1
  have hX := K.2.2.2.2.2.1
  have hbl := K.2.2.2.2.2.2.1
  have hLs := K.2.2.2.2.2.2.2.2.2.2
  have hown := K.2.2.2.1
  have hbA : ¬ lA s b := Nat.not_le.mpr hbl
  obtain ⟨fx, hx0⟩ := INV_x0 hI
  obtain ⟨fm, hm0⟩ := INV_m0 hI
  obtain ⟨r, Px, Pm, hCx, hCm, hN⟩ := s_list (l := l) (dC := dC) (dI := dI) (F := 40 ^ 18 + 1) (Nat.lt_succ_self _) hj (xs (nI (3 * j) + 1).toNatClampNeg) (xs (nI (3 * j) + 2).toNatClampNeg) hI
  refine lv_aload_n hx hb d_law_370 rfl (lv_at hl 3 rfl) ?_
  refine lv_aload_n hx hb d_law_371 rfl (lv_at hl 4 rfl) ?_
  refine lv_iload hx hb d_law_372 (lv_at hl 0 rfl) ?_
  refine lv_iconst (v := 1) hx hb d_law_374 (by decide) ?_
  refine lv_iadd hx hb d_law_375 ?_
  refine va_sld hx hb hX hbl hbA hH.2.2 (in_1 h3 hLs) d_law_376 ?_
  refine lv_aload_n hx hb d_law_377 rfl (lv_at hl 4 rfl) ?_
  refine lv_iload hx hb d_law_378 (lv_at hl 0 rfl) ?_
  refine lv_iconst (v := 2) hx hb d_law_380 (by decide) ?_
  refine lv_iadd hx hb d_law_381 ?_
  refine va_sld hx hb hX hbl hbA hH.2.2 (in_2 h3 hLs) d_law_382 ?_
  refine lw_xi K (As := [.int (xs (nI (3 * j) + 1).toNatClampNeg), .int (xs (nI (3 * j) + 2).toNatClampNeg)]) (rest := []) hCx (cwV 2 htt (gdV kt_437 kt_438 kt_439 kt_1 kt_440) rfl rfl rfl (by decide +kernel) ⟨Nat.le_of_ble_eq_true rfl, Nat.le_of_ble_eq_true rfl⟩) hx0 hH rfl rfl (Nat.le_of_ble_eq_true rfl) d_law_383 hl.1 ⟨by omega, by omega⟩ (fun u1 H locs hu1 hH1 => ?_)
  refine lv_aload_n hx hb d_law_386 rfl (lv_at hl 2 rfl) ?_
  refine lv_aload_n hx hb d_law_387 rfl (lv_at hl 4 rfl) ?_
  refine lv_iload hx hb d_law_388 (lv_at hl 0 rfl) ?_
  refine lv_iconst (v := 1) hx hb d_law_390 (by decide) ?_
  refine lv_iadd hx hb d_law_391 ?_
  refine va_sld hx hb hX hbl hbA hH1.2.2 (in_1 h3 hLs) d_law_392 ?_
  refine lv_aload_n hx hb d_law_393 rfl (lv_at hl 4 rfl) ?_
  refine lv_iload hx hb d_law_394 (lv_at hl 0 rfl) ?_
  refine lv_iconst (v := 2) hx hb d_law_396 (by decide) ?_
  refine lv_iadd hx hb d_law_397 ?_
  refine va_sld hx hb hX hbl hbA hH1.2.2 (in_2 h3 hLs) d_law_398 ?_
  refine lw_mi K (As := [.int (xs (nI (3 * j) + 1).toNatClampNeg), .int (xs (nI (3 * j) + 2).toNatClampNeg)]) (rest := [.int r]) hCm (cwV 2 htt (gdV kt_924 kt_925 kt_926 kt_10 kt_927) rfl rfl rfl (by decide +kernel) ⟨Nat.le_of_ble_eq_true rfl, Nat.le_of_ble_eq_true rfl⟩) hm0 hH1 rfl rfl (Nat.le_of_ble_eq_true rfl) d_law_399 hl.1 ⟨by omega, by omega⟩ (fun u2 H locs hu2 hH2 => ?_)
  refine lv_icmp_eq (tgt := 791) hx hb d_law_402 (by decide) (fun _ => ?_) (fun h => absurd rfl h)
  refine W.widen (k := 200 + 6 * (j + 1)) (n := 80000 + 6 * (j + 1) + 10 * L) (by omega) (by omega) ?_
  exact bk L g u1 u2 ls H locs hL (hN u1 u2 hu1 hu2) hl hH2
set_option maxRecDepth 100000 in
set_option maxHeartbeats 4000000 in
theorem lw_k9 {p : Program} {l : Launch} {e : Env} {s : State} {m : MethodId} {below : List Frame} {meth : Method} {c : Code} {b Ls : Nat} {xs : Nat → Int32} {dC : Nat → ClassId} {dI : Nat → Nat → Nat} {cI cJ cG cZ : ClassId} {a0 b0 ao : Nat} {Q : State → Prop} {j L : Nat} {g : Nat → Int64} {wx wm : va_W} {ls : Array Slot} {H : Heap} {locs : List Loc} (K : LK p s m c b Ls xs dC dI cI cJ cG cZ) (hj : j ≤ 1000) (h3 : 3 * j + 3 ≤ Ls) (hL : L ≤ 4096) (hI : INV cI cJ cG cZ a0 b0 j L wx wm) (hl : lv_has ls 7 [(4, .int (nI (3 * j))), (3, .ref ao), (2, .ref b0), (1, .ref a0), (0, .ref b)]) (hH : LH s dC dI (wLaw cJ ao g wx wm) H locs) (bk : BK p l e s m below meth c b dC dI cI cJ cG cZ a0 b0 ao Q j) : W p l e room_1 s m #[Value.ref b] below meth c H locs (200 + 6 * j) (80000 + 6 * j + 10 * L) Q (F0 m 407 ls []) := by
  have hx := K.1
  have hb := K.2.1
  have htt := K.2.2.2.2.1
  have hX := K.2.2.2.2.2.1
  have hbl := K.2.2.2.2.2.2.1
  have hLs := K.2.2.2.2.2.2.2.2.2.2
  have hown := K.2.2.2.1
  have hbA : ¬ lA s b := Nat.not_le.mpr hbl
  obtain ⟨fx, hx0⟩ := INV_x0 hI
  obtain ⟨fm, hm0⟩ := INV_m0 hI
  obtain ⟨r, Px, Pm, hCx, hCm, hN⟩ := s_lists (l := l) (dC := dC) (dI := dI) (F := 40 ^ 18 + 1) (Nat.lt_succ_self _) hj hI
  refine lv_aload_n hx hb d_law_407 rfl (lv_at hl 3 rfl) ?_
  refine lw_xi K (As := []) (rest := []) hCx (cwV 0 htt (gdV kt_441 kt_442 kt_443 kt_1 kt_444) rfl rfl rfl (by decide +kernel) ⟨Nat.le_of_ble_eq_true rfl, Nat.le_of_ble_eq_true rfl⟩) hx0 hH rfl rfl (Nat.le_of_ble_eq_true rfl) d_law_408 hl.1 ⟨by omega, by omega⟩ (fun u1 H locs hu1 hH1 => ?_)
  refine lv_aload_n hx hb d_law_411 rfl (lv_at hl 2 rfl) ?_
  refine lw_mi K (As := []) (rest := [.int r]) hCm (cwV 0 htt (gdV kt_928 kt_929 kt_930 kt_10 kt_931) rfl rfl rfl (by decide +kernel) ⟨Nat.le_of_ble_eq_true rfl, Nat.le_of_ble_eq_true rfl⟩) hm0 hH1 rfl rfl (Nat.le_of_ble_eq_true rfl) d_law_412 hl.1 ⟨by omega, by omega⟩ (fun u2 H locs hu2 hH2 => ?_)
  refine lv_icmp_eq (tgt := 791) hx hb d_law_415 (by decide) (fun _ => ?_) (fun h => absurd rfl h)
  refine W.widen (k := 200 + 6 * (j + 1)) (n := 80000 + 6 * (j + 1) + 10 * L) (by omega) (by omega) ?_
  exact bk L g u1 u2 ls H locs hL (hN u1 u2 hu1 hu2) hl hH2
set_option maxRecDepth 100000 in
set_option maxHeartbeats 4000000 in
theorem lw_k10 {p : Program} {l : Launch} {e : Env} {s : State} {m : MethodId} {below : List Frame} {meth : Method} {c : Code} {b Ls : Nat} {xs : Nat → Int32} {dC : Nat → ClassId} {dI : Nat → Nat → Nat} {cI cJ cG cZ : ClassId} {a0 b0 ao : Nat} {Q : State → Prop} {j L : Nat} {g : Nat → Int64} {wx wm : va_W} {ls : Array Slot} {H : Heap} {locs : List Loc} (K : LK p s m c b Ls xs dC dI cI cJ cG cZ) (hj : j ≤ 1000) (h3 : 3 * j + 3 ≤ Ls) (hL : L ≤ 4096) (hI : INV cI cJ cG cZ a0 b0 j L wx wm) (hl : lv_has ls 7 [(4, .int (nI (3 * j))), (3, .ref ao), (2, .ref b0), (1, .ref a0), (0, .ref b)]) (hH : LH s dC dI (wLaw cJ ao g wx wm) H locs) (bk : BK p l e s m below meth c b dC dI cI cJ cG cZ a0 b0 ao Q j) : W p l e room_1 s m #[Value.ref b] below meth c H locs (200 + 6 * j) (80000 + 6 * j + 10 * L) Q (F0 m 420 ls []) := by
  have hx := K.1
  have hb := K.2.1
  have htt := K.2.2.2.2.1
  have hX := K.2.2.2.2.2.1
  have hbl := K.2.2.2.2.2.2.1
  have hLs := K.2.2.2.2.2.2.2.2.2.2
  have hown := K.2.2.2.1
  have hbA : ¬ lA s b := Nat.not_le.mpr hbl
  obtain ⟨fx, hx0⟩ := INV_x0 hI
  obtain ⟨fm, hm0⟩ := INV_m0 hI
  obtain ⟨r, L2, mc, ms, rm, Px, Pm, hCx, hCm, ⟨hr1, hr2, hr3, hr4⟩, hmc, hms, hL2, hN⟩ := s_listed (l := l) (dC := dC) (dI := dI) (F := 40 ^ 18 + 1) (Nat.lt_succ_self _) hj hI
  refine lv_aload_n hx hb d_law_420 rfl (lv_at hl 3 rfl) ?_
  refine lw_xl K (As := []) (rest := []) hCx (cwV 0 htt (gdV kt_449 kt_450 kt_451 kt_1 kt_452) rfl hr1 hr2 (by decide +kernel) ⟨hr3, hr4⟩) hx0 hH rfl rfl (Nat.le_of_ble_eq_true rfl) d_law_421 hl.1 ⟨by omega, by omega⟩ (fun u1 H locs hu1 hH1 => ?_)
  refine lv_aload_n hx hb d_law_424 rfl (lv_at hl 2 rfl) ?_
  refine lw_ml K (As := []) (rest := [.long r]) hCm (cwV 0 htt (gdV kt_936 kt_937 kt_938 kt_10 kt_939) rfl rfl rfl (by decide +kernel) ⟨Nat.le_of_ble_eq_true rfl, Nat.le_of_ble_eq_true rfl⟩) hm0 hH1 rfl rfl (Nat.le_of_ble_eq_true rfl) d_law_425 hl.1 ⟨by omega, by omega⟩ (fun u2 H locs hu2 hH2 => ?_)
  refine W.lcmp hx hb d_law_428 ?_
  refine lv_if_eq (tgt := 791) hx hb d_law_429 (by decide) (fun _ => ?_) (fun h => absurd (cmp_self _) h)
  refine W.widen (k := 200 + 6 * (j + 1)) (n := 80000 + 6 * (j + 1) + 10 * L2) (by omega) (by omega) ?_
  exact bk L2 g u1 u2 ls H locs hL2 (hN u1 u2 hu1 hu2) hl hH2
set_option maxRecDepth 100000 in
set_option maxHeartbeats 4000000 in
theorem lw_k11 {p : Program} {l : Launch} {e : Env} {s : State} {m : MethodId} {below : List Frame} {meth : Method} {c : Code} {b Ls : Nat} {xs : Nat → Int32} {dC : Nat → ClassId} {dI : Nat → Nat → Nat} {cI cJ cG cZ : ClassId} {a0 b0 ao : Nat} {Q : State → Prop} {j L : Nat} {g : Nat → Int64} {wx wm : va_W} {ls : Array Slot} {H : Heap} {locs : List Loc} (K : LK p s m c b Ls xs dC dI cI cJ cG cZ) (hj : j ≤ 1000) (h3 : 3 * j + 3 ≤ Ls) (hL : L ≤ 4096) (hI : INV cI cJ cG cZ a0 b0 j L wx wm) (hl : lv_has ls 7 [(4, .int (nI (3 * j))), (3, .ref ao), (2, .ref b0), (1, .ref a0), (0, .ref b)]) (hH : LH s dC dI (wLaw cJ ao g wx wm) H locs) (bk : BK p l e s m below meth c b dC dI cI cJ cG cZ a0 b0 ao Q j) : W p l e room_1 s m #[Value.ref b] below meth c H locs (200 + 6 * j) (80000 + 6 * j + 10 * L) Q (F0 m 434 ls []) := by
  have hx := K.1
  have hb := K.2.1
  have htt := K.2.2.2.2.1
  have hX := K.2.2.2.2.2.1
  have hbl := K.2.2.2.2.2.2.1
  have hLs := K.2.2.2.2.2.2.2.2.2.2
  have hown := K.2.2.2.1
  have hbA : ¬ lA s b := Nat.not_le.mpr hbl
  obtain ⟨fx, hx0⟩ := INV_x0 hI
  obtain ⟨fm, hm0⟩ := INV_m0 hI
  obtain ⟨r, Px, Pm, hCx, hCm, hN⟩ := s_why (l := l) (dC := dC) (dI := dI) (F := 40 ^ 18 + 1) (Nat.lt_succ_self _) hj hI
  refine lv_aload_n hx hb d_law_434 rfl (lv_at hl 3 rfl) ?_
  refine lw_xi K (As := []) (rest := []) hCx (cwV 0 htt (gdV kt_513 kt_514 kt_515 kt_1 kt_516) rfl rfl rfl (by decide +kernel) ⟨Nat.le_of_ble_eq_true rfl, Nat.le_of_ble_eq_true rfl⟩) hx0 hH rfl rfl (Nat.le_of_ble_eq_true rfl) d_law_435 hl.1 ⟨by omega, by omega⟩ (fun u1 H locs hu1 hH1 => ?_)
  refine lv_aload_n hx hb d_law_438 rfl (lv_at hl 2 rfl) ?_
  refine lw_mi K (As := []) (rest := [.int r]) hCm (cwV 0 htt (gdV kt_944 kt_945 kt_946 kt_10 kt_947) rfl rfl rfl (by decide +kernel) ⟨Nat.le_of_ble_eq_true rfl, Nat.le_of_ble_eq_true rfl⟩) hm0 hH1 rfl rfl (Nat.le_of_ble_eq_true rfl) d_law_439 hl.1 ⟨by omega, by omega⟩ (fun u2 H locs hu2 hH2 => ?_)
  refine lv_icmp_eq (tgt := 791) hx hb d_law_442 (by decide) (fun _ => ?_) (fun h => absurd rfl h)
  refine W.widen (k := 200 + 6 * (j + 1)) (n := 80000 + 6 * (j + 1) + 10 * L) (by omega) (by omega) ?_
  exact bk L g u1 u2 ls H locs hL (hN u1 u2 hu1 hu2) hl hH2
theorem callSW {p : Program} {l : Launch} {e : Env} {R : Room} {s : State} {m : MethodId} {args : Array Value} {below : List Frame} {meth : Method} {c : Code} {T : State} {locs : List Loc} {cells slots : Nat} (X : Stand p l e R s m args below meth c T locs cells slots) (hx : p.tables.exec = Jvm.exec) {own : String} {index : Nat} {y : MethodName} {bytes : ByteArray} {maxL : Nat} {ret : Option FieldType} {hs : List (Nat × Nat × Nat × Nat)}
    (ho : s.vm.findClass own = some m.cls) (h1 : (Cond.methodLink own index y).before args s = true) (h2 : (Cond.static y).before args s = true) (h3 : (Cond.initialized y.cls).before args s = true) (h4 : (Cond.codeWith y bytes maxL ret hs).before args s = true) (hy : y.cls ≠ "java/lang/invoke/MethodHandle" ∧ y.cls ≠ "java/lang/invoke/VarHandle")
    {W : Nat} {Pre : _root_.Jvm.Free.Pt → Array Value → Prop} {Post : _root_.Jvm.Free.Pt → Array Value → Option Value → _root_.Jvm.Free.Pt → Prop} (hK : Back l R p e below s args y 3 W Pre Post)
    {g : JFrame} (hg : g.method = m) (hz : g.locals.size = c.maxLocals) {As rest : List Value} (hn : ∀ sig, parseMethodDescriptor y.desc = some sig → As.length = sig.parameters.length)
    (hst : g.stack = As.reverse ++ rest) (hW : 2 * g.monitorRoom + (rest.map fun v => v.category).sum ≤ W) (hd : decode c.code g.pc = .ok (.invokestatic index, 3))
    (hp : ∀ v1, s.WarmedH v1 → Pre ⟨T.setVm v1, locs, cells, slots⟩ As.toArray) :
    ∃ (v : Option Value) (v1 : Vm) (B : _root_.Jvm.Free.Pt), s.WarmedH v1 ∧ Stand p l e R s m args below meth c B.U B.locs B.cells B.slots ∧ Post ⟨T.setVm v1, locs, cells, slots⟩ As.toArray v B ∧
      ∀ t, Steps p.tables e below (B.U.setTop { g with pc := g.pc + 3, stack := v.toList ++ rest }) t → Steps p.tables e below (T.setTop g) t := by
  obtain ⟨mk, mM, cM, n1, n2, -, -, -, -, -, -, n3⟩ := Cond.codeWith_spec h4
  obtain ⟨kP, k1, -⟩ := className_of_methodNamed n1
  obtain ⟨v1, X1, st1⟩ := X.invokestatic hx ho h1 n1 n2 (Cond.static_spec n1 n2 h2) k1 (Cond.initialized_spec (findClass_of_methodNamed n1) k1 h3) hy (g := g) hg (argsL := As) (rest := rest) (hn _ n3) hst hd
  obtain ⟨v, B, X2, q, st2⟩ := hK m meth c ⟨T.setVm v1, locs, cells, slots⟩ { g with stack := rest } (.invokestatic index) mk As.toArray X1 hg hz hd hW (X1.named n1) (hp v1 X1.warmed)
  exact ⟨v, v1, B, X1.warmed, X2, q, fun t h => st1 _ fun acts => by rw [doInvoke_state]; exact st2.trans h⟩
set_option maxRecDepth 100000 in
set_option maxHeartbeats 4000000 in
theorem lw_s12 {p : Program} {l : Launch} {e : Env} {s : State} {m : MethodId} {below : List Frame} {meth : Method} {c : Code} {b Ls : Nat} {xs : Nat → Int32} {dC : Nat → ClassId} {dI : Nat → Nat → Nat} {cI cJ cG cZ : ClassId} {a0 ao : Nat} {Q : State → Prop} {k : Int32} {P : va_W → Prop} {wx wm : va_W} {f : Nat → Int64} {H : Heap} {locs : List Loc} {ls : Array Slot} {cells slots : Nat} (K : LK p s m c b Ls xs dC dI cI cJ cG cZ) (hC : CU l (dC, dI) (tyL cI cJ cG cZ) y_law_arcs us_law_arcs rm_law_arcs [.ref a0, .ref ao] 1 6 ((ao, .inl (cJ, 1, .inr (.inl f))) :: wx) k P) (hH : LH s dC dI (wLaw cJ ao f wx wm) H locs) (hls : ls.size = 7) (hf : cells + 1 ≤ 601024 ∧ slots + 6 ≤ 7293033)
    (kk : ∀ (u : va_W) (H1 : Heap) (locs1 : List Loc), P u → LH s dC dI (u ++ wm) H1 locs1 → W p l e room_1 s m #[Value.ref b] below meth c H1 locs1 (cells + 1) (slots + 6) Q (F0 m (449 + 3) ls [.int k])) : W p l e room_1 s m #[Value.ref b] below meth c H locs cells slots Q (F0 m 449 ls [.ref ao, .ref a0]) := by
  obtain ⟨hx, hb, hml, hown, htt, -, -, hK, hNw, hTH, -⟩ := K
  obtain ⟨hP, hD, hS⟩ := hH
  have hC2 : CU l (dC, dI) (tyL cI cJ cG cZ) y_law_arcs us_law_arcs rm_law_arcs [.ref a0, .ref ao] 1 6 (wLaw cJ ao f wx wm) k (fun v => ∃ u, P u ∧ v = u ++ wm) := CU_lift (wr := wm) hC (sb_rf _) (fun u hu => ⟨_, sb_rf _, u, hu, rfl⟩)
  have hF := fr_all hD hS (fun q h => h)
  have hold : ∀ (q : Addr) (c : Cell), s.heap[q]? = some c → H[q]? = some c := fun q c h => by
    have hq : q < s.heap.size := (Array.getElem?_eq_some_iff.mp h).1
    rw [hS.2.1 q hq (Nat.not_le.mpr hq)]
    exact h
  have hG : GoodIn gtbl us_law_arcs := fun w hw => by
    rcases List.mem_cons.mp hw with rfl | hw
    · exact ⟨kl_arcs_cd, good_of_word (List.mem_filter.mp kl_arcs_cd).2⟩
    · exact ⟨hw, good_of_word (List.mem_filter.mp hw).2⟩
  have hgw := pay_in htt hG
  have hBk : Back l room_1 p e below s #[Value.ref b] y_law_arcs 3 8 (PreOf room_1 1 6 (PcU (dC, dI) (tyL cI cJ cG cZ) [.ref a0, .ref ao] H.size (wLaw cJ ao f wx wm))) (PostOf _ 1 6 _) := va_backW (hh := [(0, 8, 11, 13)]) (bytes := method_3_code) (maxL := 3) (ret := some .int) (hC2 H.size) PcU_blind rfl rfl (Nat.le_of_ble_eq_true rfl) (Nat.le_of_ble_eq_true rfl) hgw List.mem_cons_self (fun a' U hW => hgw _ (List.mem_cons_of_mem _ kl_ini) a' U hW)
  refine va_calli (A1 := va_A (wLaw cJ ao f wx wm) H.size) (free := va_A (wLaw cJ ao f wx wm) H.size) (mc := 1) (ms := 6) (rest := []) (a := ([.ref a0, .ref ao] : List Value).toArray) (post := fun (r' : Int32) (u : va_W) => r' = k ∧ ∃ v, P v ∧ u = v ++ wm) (B := fun u t => PoS (dC, dI) (tyL cI cJ cG cZ) u (va_A (wLaw cJ ao f wx wm) H.size) t) ?_ hS (fun q _ h => hF q h) hF (fun r' u t H1 locs ht hvm hw hB hz1 hk1 hS => ?_)
  · intro T hT X
    obtain ⟨v, vm₁, ⟨U', l2, c2, s2⟩, hW₁, X', ⟨g', mk, t, L, e1, e2, hq, h1, hL, h2, h3⟩, st⟩ := callSW X hx (bytes := method_3_code) (maxL := 3) (ret := some .int) (hs := [(0, 8, 11, 13)]) hown (htt _ kl_arcs) (htt _ kl_arcs_st) (htt _ kl_ini) (htt _ kl_arcs_cd) (by decide) hBk (g := F0 m 449 ls [.ref ao, .ref a0]) rfl (hls.trans hml.symm) (As := [.ref a0, .ref ao]) (rest := []) (fun sig h => by
      have hd : (parseMethodDescriptor y_law_arcs.desc).map (fun d => d.parameters.length) = some 2 := by decide +kernel
      rw [h] at hd
      exact (Option.some.inj hd).symm) rfl (by show 2 * 0 + 0 ≤ 8; decide) (by rw [hb]; exact d_law_449)
      (fun vm₁ hW₁ => ⟨hf.1, hf.2, rfl, (PcS_in (av := [.ref a0, .ref ao]) hP hK hD hNw (T.setVm vm₁) hT hW₁).2, th_ride (s := s) (U := T.setVm vm₁) hW₁ (fun q c h => by show T.heap[q]? = some c; rw [hT]; exact hold q c h) hTH⟩)
    dsimp only [_root_.Jvm.Free.Pt.U, _root_.Jvm.Free.Pt.locs, _root_.Jvm.Free.Pt.cells, _root_.Jvm.Free.Pt.slots] at X' e1 e2 h1 h2 h3 st
    subst h1; subst h2; subst h3
    exact ⟨v, (T.setVm vm₁).calling g' mk ([.ref a0, .ref ao] : List Value).toArray, t, U', L, hT, X', hL, e1, e2, hq, st⟩
  · obtain ⟨rfl, u, hu, rfl⟩ := hw
    obtain ⟨hP1, hK1, hD1⟩ := hB
    rw [ht] at hP1
    exact kk u H1 locs hu ⟨hP1, hD1.weaken (fun _ q _ h => hF q.1 h), hS⟩
set_option maxRecDepth 100000 in
set_option maxHeartbeats 4000000 in
theorem lw_k12 {p : Program} {l : Launch} {e : Env} {s : State} {m : MethodId} {below : List Frame} {meth : Method} {c : Code} {b Ls : Nat} {xs : Nat → Int32} {dC : Nat → ClassId} {dI : Nat → Nat → Nat} {cI cJ cG cZ : ClassId} {a0 b0 ao : Nat} {Q : State → Prop} (hlt : l.stackTraces = false) {j L : Nat} {g : Nat → Int64} {wx wm : va_W} {ls : Array Slot} {H : Heap} {locs : List Loc} (K : LK p s m c b Ls xs dC dI cI cJ cG cZ) (hj : j ≤ 1000) (h3 : 3 * j + 3 ≤ Ls) (hL : L ≤ 4096) (hI : INV cI cJ cG cZ a0 b0 j L wx wm) (hl : lv_has ls 7 [(4, .int (nI (3 * j))), (3, .ref ao), (2, .ref b0), (1, .ref a0), (0, .ref b)]) (hH : LH s dC dI (wLaw cJ ao g wx wm) H locs) (bk : BK p l e s m below meth c b dC dI cI cJ cG cZ a0 b0 ao Q j) : W p l e room_1 s m #[Value.ref b] below meth c H locs (200 + 6 * j) (80000 + 6 * j + 10 * L) Q (F0 m 447 ls []) := by
  have hx := K.1
  have hb := K.2.1
  have htt := K.2.2.2.2.1
  obtain ⟨fx, hx0⟩ := INV_x0 hI
  obtain ⟨fm, hm0⟩ := INV_m0 hI
  obtain ⟨k, r, Px, Pm, hCx, hCm, hTh, hk, hN⟩ := s_arcs (l := l) (dC := dC) (dI := dI) (ao := ao) (f := g) (F := 40 ^ 18 + 1) hlt (Nat.lt_succ_self _) hj hI
  refine lv_aload_n hx hb d_law_447 rfl (lv_at hl 3 rfl) ?_
  refine lv_aload_n hx hb d_law_448 rfl (lv_at hl 1 rfl) ?_
  refine lw_s12 K hCx hH hl.1 ⟨by omega, by omega⟩ (fun v H locs hv hH1 => ?_)
  obtain ⟨g2, wx2, rfl, hg, hN2⟩ := hN v hv
  refine lv_istore (lv' := [(5, .int k), (4, .int (nI (3 * j))), (3, .ref ao), (2, .ref b0), (1, .ref a0), (0, .ref b)]) hx hb d_law_452 hl (by decide) rfl (fun ls hl => ?_)
  refine lv_aload_n hx hb d_law_454 rfl (lv_at hl 3 rfl) ?_
  refine lw_mi K (As := []) (rest := []) (wx := wx2) hCm (cwV 0 htt (gdV kt_948 kt_949 kt_950 kt_10 kt_951) rfl rfl rfl (by decide +kernel) ⟨Nat.le_of_ble_eq_true rfl, Nat.le_of_ble_eq_true rfl⟩) hm0 hH1 rfl rfl (Nat.le_of_ble_eq_true rfl) d_law_455 hl.1 ⟨by omega, by omega⟩ (fun u2 H locs hu2 hH2 => ?_)
  refine lv_istore (lv' := [(6, .int r), (5, .int k), (4, .int (nI (3 * j))), (3, .ref ao), (2, .ref b0), (1, .ref a0), (0, .ref b)]) hx hb d_law_458 hl (by decide) rfl (fun ls hl => ?_)
  obtain ⟨fm2, hm2⟩ := INV_m0 (hN2 u2 hu2)
  refine lv_aload_n hx hb d_law_460 rfl (lv_at hl 4 rfl) ?_
  refine lw_mi K (As := []) (rest := []) (wx := wx2) (hTh u2 hu2) (cwV 0 htt (gdV kt_855 kt_856 kt_857 kt_10 kt_858) rfl rfl rfl (by decide +kernel) ⟨Nat.le_of_ble_eq_true rfl, Nat.le_of_ble_eq_true rfl⟩) hm2 hH2 rfl rfl (Nat.le_of_ble_eq_true rfl) d_law_461 hl.1 ⟨by omega, by omega⟩ (fun u3 H locs hu3 hH3 => ?_)
  subst hu3
  refine lv_iload hx hb d_law_464 (lv_at hl 1 rfl) ?_
  refine lv_icmp_eq (tgt := 471) hx hb d_law_466 (by decide) (fun _ => ?_) (fun h => absurd rfl h)
  have fin : W p l e room_1 s m #[Value.ref b] below meth c H locs (200 + 6 * j + 1 + 0 + 0) (80000 + 6 * j + 10 * L + 6 + 0 + 0) Q (F0 m 488 ls []) := by
    refine lv_goto (tgt := 791) hx hb d_law_488 (by decide) ?_
    refine W.widen (k := 200 + 6 * (j + 1)) (n := 80000 + 6 * (j + 1) + 10 * L) (by omega) (by omega) ?_
    exact bk L g2 wx2 _ ls H locs hL (hN2 _ hu2) (lv_sub hl [2, 3, 4, 5, 6] rfl) hH3
  refine lv_iload hx hb d_law_471 (lv_at hl 1 rfl) ?_
  refine lv_if_ne (tgt := 488) hx hb d_law_473 (by decide) (fun _ => fin) (fun h0 => ?_)
  refine lv_aload_n hx hb d_law_476 rfl (lv_at hl 3 rfl) ?_
  refine lv_iconst (v := 0) hx hb d_law_477 (by decide) ?_
  refine va_lald (D := (dC, dI)) (cl := vwCl) (tys := (tyL cI cJ cG cZ)) hx hb K.2.2.2.2.2.2.2.1 hH3.1 0 1 rfl rfl (inb_vp (by decide)) d_law_478 ?_
  refine lv_iload hx hb d_law_479 (lv_at hl 0 rfl) ?_
  refine lv_i2l hx hb d_law_481 rfl ?_
  refine W.lcmp hx hb d_law_482 ?_
  refine lv_if_eq (tgt := 488) hx hb d_law_483 (by decide) (fun _ => fin) (fun h => absurd (by rw [show g2 (0 : Int32).toNatClampNeg = r.toInt64 from hg h0]; exact cmp_self _) h)
