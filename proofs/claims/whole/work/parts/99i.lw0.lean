/-! the law's loop: the worlds of the class, of the reference and the array out side by side -/
abbrev wLaw (cJ : ClassId) (ao : Nat) (g : Nat → Int64) (wx wm : va_W) : va_W := (ao, .inl (cJ, 1, .inr (.inl g))) :: (wx ++ wm)
theorem sb_x (o : Nat × va_E) (wx wm : va_W) : sb (wx ++ (o :: wm)) (o :: (wx ++ wm)) := by
  have h := sb_app (sb_comm wx [o]) (sb_rf wm)
  simpa [List.append_assoc] using h
theorem sb_x' (o : Nat × va_E) (u wm : va_W) : sb (o :: (u ++ wm)) (u ++ (o :: wm)) := by
  have h := sb_app (sb_comm [o] u) (sb_rf wm)
  simpa [List.append_assoc] using h
theorem sb_m (o : Nat × va_E) (wx wm : va_W) : sb (wm ++ (o :: wx)) (o :: (wx ++ wm)) := sb_comm wm (o :: wx)
theorem sb_m' (o : Nat × va_E) (wx u : va_W) : sb (o :: (wx ++ u)) (u ++ (o :: wx)) := sb_comm (o :: wx) u
theorem m_at {o : Nat × va_E} {u wm : va_W} {q : Nat × va_E} (h : wm[0]? = some q) : (o :: (u ++ wm))[u.length + 1]? = some q := by
  rw [List.getElem?_cons_succ]
  exact at_r (i := 0) h
theorem x_at {o : Nat × va_E} {wx wm : va_W} {q : Nat × va_E} (h : wx[0]? = some q) : (o :: (wx ++ wm))[1]? = some q := by
  rw [List.getElem?_cons_succ]
  exact at_l h
theorem INV_x0 {cI cJ cG cZ : ClassId} {a0 b0 j L : Nat} {wx wm : va_W} (h : INV cI cJ cG cZ a0 b0 j L wx wm) : ∃ fs, wx[0]? = some (a0, .inr (0, fs)) := by
  obtain ⟨ax, ay, q0, q1, n, ka, V, c, iv, av, jv, fr, M, rfl, rfl, _⟩ := h
  exact ⟨_, rfl⟩
theorem INV_m0 {cI cJ cG cZ : ClassId} {a0 b0 j L : Nat} {wx wm : va_W} (h : INV cI cJ cG cZ a0 b0 j L wx wm) : ∃ fs, wm[0]? = some (b0, .inr (8, fs)) := by
  obtain ⟨ax, ay, q0, q1, n, ka, V, c, iv, av, jv, fr, M, rfl, rfl, _⟩ := h
  exact ⟨_, rfl⟩
abbrev lA (s : State) : Nat → Prop := fun q => s.heap.size ≤ q
def LK (p : Program) (s : State) (m : MethodId) (c : Code) (b Ls : Nat) (xs : Nat → Int32) (dC : Nat → ClassId) (dI : Nat → Nat → Nat) (cI cJ cG cZ : ClassId) : Prop := p.tables.exec = Jvm.exec ∧ c.code = code ∧ c.maxLocals = 7 ∧ s.vm.findClass R_law = some m.cls ∧ (∀ w ∈ gtbl, w.before #[Value.ref b] s = true) ∧ va_X b Ls xs s s.heap ∧ b < s.heap.size ∧ va_K (dC, dI) vwCl (tyL cI cJ cG cZ) s ∧ NwA s ∧ TH s ∧ Ls ≤ 1536
def LH (s : State) (dC : Nat → ClassId) (dI : Nat → Nat → Nat) (w : va_W) (H : Heap) (locs : List Loc) : Prop := va_P (dC, dI) vwCl w H ∧ va_D (lA s) w ∧ va_S (lA s) s.heap H locs
theorem lw_xi {p : Program} {l : Launch} {e : Env} {s : State} {m : MethodId} {below : List Frame} {meth : Method} {c : Code} {b Ls : Nat} {xs : Nat → Int32} {dC : Nat → ClassId} {dI : Nat → Nat → Nat} {cI cJ cG cZ : ClassId} {a0 : Nat} {Q : State → Prop} (K : LK p s m c b Ls xs dC dI cI cJ cG cZ) {y : MethodName} {us : List Cond} {rm : Room} {As rest st0 : List Value} {mc ms n idx maxL pc cells slots : Nat} {bytes : ByteArray} {ret : Option FieldType} {r : Int32} {P : va_W → Prop} {wx wm : va_W} {o : Nat × va_E} {fs : List Value} {H : Heap} {locs : List Loc} {ls : Array Slot} (hC : CI l (dC, dI) (tyL cI cJ cG cZ) y us rm (.ref a0 :: As) mc ms wx r P) (cw : CallW room_1 s #[Value.ref b] R_law R_CS idx y bytes maxL ret us rm mc ms n) (h0 : wx[0]? = some (a0, .inr (0, fs))) (hH : LH s dC dI (o :: (wx ++ wm)) H locs) (hn : As.length = n) (hst : st0 = As.reverse ++ .ref a0 :: rest) (hW : (rest.map fun v => v.category).sum ≤ 8) (hdg : decode code pc = .ok (.invokevirtual idx, 3)) (hls : ls.size = 7) (hf : cells + mc ≤ 601024 ∧ slots + ms ≤ 7293033)
    (kk : ∀ (u : va_W) (H1 : Heap) (locs1 : List Loc), P u → LH s dC dI (o :: (u ++ wm)) H1 locs1 → W p l e room_1 s m #[Value.ref b] below meth c H1 locs1 (cells + mc) (slots + ms) Q (F0 m (pc + 3) ls (.int r :: rest))) : W p l e room_1 s m #[Value.ref b] below meth c H locs cells slots Q (F0 m pc ls st0) := by
  obtain ⟨hx, hb, hml, hown, htt, -, -, hK, hNw, -⟩ := K
  obtain ⟨hP, hD, hS⟩ := hH
  have hC2 : CI l (dC, dI) (tyL cI cJ cG cZ) y us rm (.ref a0 :: As) mc ms (o :: (wx ++ wm)) r (fun v => ∃ u, P u ∧ v = o :: (u ++ wm)) := CI_lift (wr := o :: wm) hC (sb_x o wx wm) (fun u hu => ⟨_, sb_x' o u wm, u, hu, rfl⟩)
  have hF := fr_all hD hS (fun q h => h)
  refine va_calli (va_runV (As := As) (rest := rest) ⟨hx, hb, hml, hown, htt⟩ (hC2 H.size) cw ⟨PcS_blind, va_recv hK hP (ci := 0) (q0 := 1) rfl (x_at h0), PcS_in hP hK hD hNw⟩ rfl hn hls hst (lv_room hW) hdg hf) hS (fun q _ h => hF q h) hF (fun r' u t H1 locs ht hvm hw hB hz1 hk1 hS => ?_)
  obtain ⟨rfl, u, hu, rfl⟩ := hw
  obtain ⟨hP1, hK1, hD1⟩ := hB
  rw [ht] at hP1
  exact kk u H1 locs hu ⟨hP1, hD1.weaken (fun _ q _ h => hF q.1 h), hS⟩
theorem lw_mi {p : Program} {l : Launch} {e : Env} {s : State} {m : MethodId} {below : List Frame} {meth : Method} {c : Code} {b Ls : Nat} {xs : Nat → Int32} {dC : Nat → ClassId} {dI : Nat → Nat → Nat} {cI cJ cG cZ : ClassId} {b0 : Nat} {Q : State → Prop} (K : LK p s m c b Ls xs dC dI cI cJ cG cZ) {y : MethodName} {us : List Cond} {rm : Room} {As rest st0 : List Value} {mc ms n idx maxL pc cells slots : Nat} {bytes : ByteArray} {ret : Option FieldType} {r : Int32} {P : va_W → Prop} {wx wm : va_W} {o : Nat × va_E} {fs : List Value} {H : Heap} {locs : List Loc} {ls : Array Slot} (hC : CI l (dC, dI) (tyL cI cJ cG cZ) y us rm (.ref b0 :: As) mc ms wm r P) (cw : CallW room_1 s #[Value.ref b] R_law R_Mo idx y bytes maxL ret us rm mc ms n) (h0 : wm[0]? = some (b0, .inr (8, fs))) (hH : LH s dC dI (o :: (wx ++ wm)) H locs) (hn : As.length = n) (hst : st0 = As.reverse ++ .ref b0 :: rest) (hW : (rest.map fun v => v.category).sum ≤ 8) (hdg : decode code pc = .ok (.invokevirtual idx, 3)) (hls : ls.size = 7) (hf : cells + mc ≤ 601024 ∧ slots + ms ≤ 7293033)
    (kk : ∀ (u : va_W) (H1 : Heap) (locs1 : List Loc), P u → LH s dC dI (o :: (wx ++ u)) H1 locs1 → W p l e room_1 s m #[Value.ref b] below meth c H1 locs1 (cells + mc) (slots + ms) Q (F0 m (pc + 3) ls (.int r :: rest))) : W p l e room_1 s m #[Value.ref b] below meth c H locs cells slots Q (F0 m pc ls st0) := by
  obtain ⟨hx, hb, hml, hown, htt, -, -, hK, hNw, -⟩ := K
  obtain ⟨hP, hD, hS⟩ := hH
  have hC2 : CI l (dC, dI) (tyL cI cJ cG cZ) y us rm (.ref b0 :: As) mc ms (o :: (wx ++ wm)) r (fun v => ∃ u, P u ∧ v = o :: (wx ++ u)) := CI_lift (wr := o :: wx) hC (sb_m o wx wm) (fun u hu => ⟨_, sb_m' o wx u, u, hu, rfl⟩)
  have hF := fr_all hD hS (fun q h => h)
  refine va_calli (va_runV (As := As) (rest := rest) ⟨hx, hb, hml, hown, htt⟩ (hC2 H.size) cw ⟨PcS_blind, va_recv hK hP (ci := 8) (q0 := wx.length + 1) rfl (m_at h0), PcS_in hP hK hD hNw⟩ rfl hn hls hst (lv_room hW) hdg hf) hS (fun q _ h => hF q h) hF (fun r' u t H1 locs ht hvm hw hB hz1 hk1 hS => ?_)
  obtain ⟨rfl, u, hu, rfl⟩ := hw
  obtain ⟨hP1, hK1, hD1⟩ := hB
  rw [ht] at hP1
  exact kk u H1 locs hu ⟨hP1, hD1.weaken (fun _ q _ h => hF q.1 h), hS⟩
theorem lw_xl {p : Program} {l : Launch} {e : Env} {s : State} {m : MethodId} {below : List Frame} {meth : Method} {c : Code} {b Ls : Nat} {xs : Nat → Int32} {dC : Nat → ClassId} {dI : Nat → Nat → Nat} {cI cJ cG cZ : ClassId} {a0 : Nat} {Q : State → Prop} (K : LK p s m c b Ls xs dC dI cI cJ cG cZ) {y : MethodName} {us : List Cond} {rm : Room} {As rest st0 : List Value} {mc ms n idx maxL pc cells slots : Nat} {bytes : ByteArray} {ret : Option FieldType} {r : Int64} {P : va_W → Prop} {wx wm : va_W} {o : Nat × va_E} {fs : List Value} {H : Heap} {locs : List Loc} {ls : Array Slot} (hC : CL l (dC, dI) (tyL cI cJ cG cZ) y us rm (.ref a0 :: As) mc ms wx r P) (cw : CallW room_1 s #[Value.ref b] R_law R_CS idx y bytes maxL ret us rm mc ms n) (h0 : wx[0]? = some (a0, .inr (0, fs))) (hH : LH s dC dI (o :: (wx ++ wm)) H locs) (hn : As.length = n) (hst : st0 = As.reverse ++ .ref a0 :: rest) (hW : (rest.map fun v => v.category).sum ≤ 8) (hdg : decode code pc = .ok (.invokevirtual idx, 3)) (hls : ls.size = 7) (hf : cells + mc ≤ 601024 ∧ slots + ms ≤ 7293033)
    (kk : ∀ (u : va_W) (H1 : Heap) (locs1 : List Loc), P u → LH s dC dI (o :: (u ++ wm)) H1 locs1 → W p l e room_1 s m #[Value.ref b] below meth c H1 locs1 (cells + mc) (slots + ms) Q (F0 m (pc + 3) ls (.long r :: rest))) : W p l e room_1 s m #[Value.ref b] below meth c H locs cells slots Q (F0 m pc ls st0) := by
  obtain ⟨hx, hb, hml, hown, htt, -, -, hK, hNw, -⟩ := K
  obtain ⟨hP, hD, hS⟩ := hH
  have hC2 : CL l (dC, dI) (tyL cI cJ cG cZ) y us rm (.ref a0 :: As) mc ms (o :: (wx ++ wm)) r (fun v => ∃ u, P u ∧ v = o :: (u ++ wm)) := CL_lift (wr := o :: wm) hC (sb_x o wx wm) (fun u hu => ⟨_, sb_x' o u wm, u, hu, rfl⟩)
  have hF := fr_all hD hS (fun q h => h)
  refine va_calll (va_runV (As := As) (rest := rest) ⟨hx, hb, hml, hown, htt⟩ (hC2 H.size) cw ⟨PcS_blind, va_recv hK hP (ci := 0) (q0 := 1) rfl (x_at h0), PcS_in hP hK hD hNw⟩ rfl hn hls hst (lv_room hW) hdg hf) hS (fun q _ h => hF q h) hF (fun r' u t H1 locs ht hvm hw hB hz1 hk1 hS => ?_)
  obtain ⟨rfl, u, hu, rfl⟩ := hw
  obtain ⟨hP1, hK1, hD1⟩ := hB
  rw [ht] at hP1
  exact kk u H1 locs hu ⟨hP1, hD1.weaken (fun _ q _ h => hF q.1 h), hS⟩
theorem lw_ml {p : Program} {l : Launch} {e : Env} {s : State} {m : MethodId} {below : List Frame} {meth : Method} {c : Code} {b Ls : Nat} {xs : Nat → Int32} {dC : Nat → ClassId} {dI : Nat → Nat → Nat} {cI cJ cG cZ : ClassId} {b0 : Nat} {Q : State → Prop} (K : LK p s m c b Ls xs dC dI cI cJ cG cZ) {y : MethodName} {us : List Cond} {rm : Room} {As rest st0 : List Value} {mc ms n idx maxL pc cells slots : Nat} {bytes : ByteArray} {ret : Option FieldType} {r : Int64} {P : va_W → Prop} {wx wm : va_W} {o : Nat × va_E} {fs : List Value} {H : Heap} {locs : List Loc} {ls : Array Slot} (hC : CL l (dC, dI) (tyL cI cJ cG cZ) y us rm (.ref b0 :: As) mc ms wm r P) (cw : CallW room_1 s #[Value.ref b] R_law R_Mo idx y bytes maxL ret us rm mc ms n) (h0 : wm[0]? = some (b0, .inr (8, fs))) (hH : LH s dC dI (o :: (wx ++ wm)) H locs) (hn : As.length = n) (hst : st0 = As.reverse ++ .ref b0 :: rest) (hW : (rest.map fun v => v.category).sum ≤ 8) (hdg : decode code pc = .ok (.invokevirtual idx, 3)) (hls : ls.size = 7) (hf : cells + mc ≤ 601024 ∧ slots + ms ≤ 7293033)
    (kk : ∀ (u : va_W) (H1 : Heap) (locs1 : List Loc), P u → LH s dC dI (o :: (wx ++ u)) H1 locs1 → W p l e room_1 s m #[Value.ref b] below meth c H1 locs1 (cells + mc) (slots + ms) Q (F0 m (pc + 3) ls (.long r :: rest))) : W p l e room_1 s m #[Value.ref b] below meth c H locs cells slots Q (F0 m pc ls st0) := by
  obtain ⟨hx, hb, hml, hown, htt, -, -, hK, hNw, -⟩ := K
  obtain ⟨hP, hD, hS⟩ := hH
  have hC2 : CL l (dC, dI) (tyL cI cJ cG cZ) y us rm (.ref b0 :: As) mc ms (o :: (wx ++ wm)) r (fun v => ∃ u, P u ∧ v = o :: (wx ++ u)) := CL_lift (wr := o :: wx) hC (sb_m o wx wm) (fun u hu => ⟨_, sb_m' o wx u, u, hu, rfl⟩)
  have hF := fr_all hD hS (fun q h => h)
  refine va_calll (va_runV (As := As) (rest := rest) ⟨hx, hb, hml, hown, htt⟩ (hC2 H.size) cw ⟨PcS_blind, va_recv hK hP (ci := 8) (q0 := wx.length + 1) rfl (m_at h0), PcS_in hP hK hD hNw⟩ rfl hn hls hst (lv_room hW) hdg hf) hS (fun q _ h => hF q h) hF (fun r' u t H1 locs ht hvm hw hB hz1 hk1 hS => ?_)
  obtain ⟨rfl, u, hu, rfl⟩ := hw
  obtain ⟨hP1, hK1, hD1⟩ := hB
  rw [ht] at hP1
  exact kk u H1 locs hu ⟨hP1, hD1.weaken (fun _ q _ h => hF q.1 h), hS⟩
theorem lw_xv {p : Program} {l : Launch} {e : Env} {s : State} {m : MethodId} {below : List Frame} {meth : Method} {c : Code} {b Ls : Nat} {xs : Nat → Int32} {dC : Nat → ClassId} {dI : Nat → Nat → Nat} {cI cJ cG cZ : ClassId} {a0 : Nat} {Q : State → Prop} (K : LK p s m c b Ls xs dC dI cI cJ cG cZ) {y : MethodName} {us : List Cond} {rm : Room} {As rest st0 : List Value} {mc ms n idx maxL pc cells slots : Nat} {bytes : ByteArray} {ret : Option FieldType} {P : va_W → Prop} {wx wm : va_W} {o : Nat × va_E} {fs : List Value} {H : Heap} {locs : List Loc} {ls : Array Slot} (hC : CV l (dC, dI) (tyL cI cJ cG cZ) y us rm (.ref a0 :: As) mc ms wx P) (cw : CallW room_1 s #[Value.ref b] R_law R_CS idx y bytes maxL ret us rm mc ms n) (h0 : wx[0]? = some (a0, .inr (0, fs))) (hH : LH s dC dI (o :: (wx ++ wm)) H locs) (hn : As.length = n) (hst : st0 = As.reverse ++ .ref a0 :: rest) (hW : (rest.map fun v => v.category).sum ≤ 8) (hdg : decode code pc = .ok (.invokevirtual idx, 3)) (hls : ls.size = 7) (hf : cells + mc ≤ 601024 ∧ slots + ms ≤ 7293033)
    (kk : ∀ (u : va_W) (H1 : Heap) (locs1 : List Loc), P u → LH s dC dI (o :: (u ++ wm)) H1 locs1 → W p l e room_1 s m #[Value.ref b] below meth c H1 locs1 (cells + mc) (slots + ms) Q (F0 m (pc + 3) ls rest)) : W p l e room_1 s m #[Value.ref b] below meth c H locs cells slots Q (F0 m pc ls st0) := by
  obtain ⟨hx, hb, hml, hown, htt, -, -, hK, hNw, -⟩ := K
  obtain ⟨hP, hD, hS⟩ := hH
  have hC2 : CV l (dC, dI) (tyL cI cJ cG cZ) y us rm (.ref a0 :: As) mc ms (o :: (wx ++ wm)) (fun v => ∃ u, P u ∧ v = o :: (u ++ wm)) := CV_lift (wr := o :: wm) hC (sb_x o wx wm) (fun u hu => ⟨_, sb_x' o u wm, u, hu, rfl⟩)
  have hF := fr_all hD hS (fun q h => h)
  refine va_callv (va_runV (As := As) (rest := rest) ⟨hx, hb, hml, hown, htt⟩ (hC2 H.size) cw ⟨PcS_blind, va_recv hK hP (ci := 0) (q0 := 1) rfl (x_at h0), PcS_in hP hK hD hNw⟩ rfl hn hls hst (lv_room hW) hdg hf) hS (fun q _ h => hF q h) hF (fun u t H1 locs ht hvm hw hB hz1 hk1 hS => ?_)
  obtain ⟨u, hu, rfl⟩ := hw
  obtain ⟨hP1, hK1, hD1⟩ := hB
  rw [ht] at hP1
  exact kk u H1 locs hu ⟨hP1, hD1.weaken (fun _ q _ h => hF q.1 h), hS⟩
theorem lw_mv {p : Program} {l : Launch} {e : Env} {s : State} {m : MethodId} {below : List Frame} {meth : Method} {c : Code} {b Ls : Nat} {xs : Nat → Int32} {dC : Nat → ClassId} {dI : Nat → Nat → Nat} {cI cJ cG cZ : ClassId} {b0 : Nat} {Q : State → Prop} (K : LK p s m c b Ls xs dC dI cI cJ cG cZ) {y : MethodName} {us : List Cond} {rm : Room} {As rest st0 : List Value} {mc ms n idx maxL pc cells slots : Nat} {bytes : ByteArray} {ret : Option FieldType} {P : va_W → Prop} {wx wm : va_W} {o : Nat × va_E} {fs : List Value} {H : Heap} {locs : List Loc} {ls : Array Slot} (hC : CV l (dC, dI) (tyL cI cJ cG cZ) y us rm (.ref b0 :: As) mc ms wm P) (cw : CallW room_1 s #[Value.ref b] R_law R_Mo idx y bytes maxL ret us rm mc ms n) (h0 : wm[0]? = some (b0, .inr (8, fs))) (hH : LH s dC dI (o :: (wx ++ wm)) H locs) (hn : As.length = n) (hst : st0 = As.reverse ++ .ref b0 :: rest) (hW : (rest.map fun v => v.category).sum ≤ 8) (hdg : decode code pc = .ok (.invokevirtual idx, 3)) (hls : ls.size = 7) (hf : cells + mc ≤ 601024 ∧ slots + ms ≤ 7293033)
    (kk : ∀ (u : va_W) (H1 : Heap) (locs1 : List Loc), P u → LH s dC dI (o :: (wx ++ u)) H1 locs1 → W p l e room_1 s m #[Value.ref b] below meth c H1 locs1 (cells + mc) (slots + ms) Q (F0 m (pc + 3) ls rest)) : W p l e room_1 s m #[Value.ref b] below meth c H locs cells slots Q (F0 m pc ls st0) := by
  obtain ⟨hx, hb, hml, hown, htt, -, -, hK, hNw, -⟩ := K
  obtain ⟨hP, hD, hS⟩ := hH
  have hC2 : CV l (dC, dI) (tyL cI cJ cG cZ) y us rm (.ref b0 :: As) mc ms (o :: (wx ++ wm)) (fun v => ∃ u, P u ∧ v = o :: (wx ++ u)) := CV_lift (wr := o :: wx) hC (sb_m o wx wm) (fun u hu => ⟨_, sb_m' o wx u, u, hu, rfl⟩)
  have hF := fr_all hD hS (fun q h => h)
  refine va_callv (va_runV (As := As) (rest := rest) ⟨hx, hb, hml, hown, htt⟩ (hC2 H.size) cw ⟨PcS_blind, va_recv hK hP (ci := 8) (q0 := wx.length + 1) rfl (m_at h0), PcS_in hP hK hD hNw⟩ rfl hn hls hst (lv_room hW) hdg hf) hS (fun q _ h => hF q h) hF (fun u t H1 locs ht hvm hw hB hz1 hk1 hS => ?_)
  obtain ⟨u, hu, rfl⟩ := hw
  obtain ⟨hP1, hK1, hD1⟩ := hB
  rw [ht] at hP1
  exact kk u H1 locs hu ⟨hP1, hD1.weaken (fun _ q _ h => hF q.1 h), hS⟩
theorem cmp_self (x : Int64) : lg_cmp x x = 0 := by
  unfold lg_cmp
  rw [if_neg (fun h => by have h : x < x := h; rw [Int64.lt_iff_toInt_lt] at h; omega), if_pos rfl]
theorem in_1 {j Ls : Nat} (h : 3 * j + 3 ≤ Ls) (hL : Ls ≤ 1536) : vp_in (nI (3 * j) + 1) Ls := by
  rw [nI_1]
  exact inb_vp (inb_nI (by omega) (by omega))
theorem in_2 {j Ls : Nat} (h : 3 * j + 3 ≤ Ls) (hL : Ls ≤ 1536) : vp_in (nI (3 * j) + 2) Ls := by
  have e : nI (3 * j) + 2 = nI (3 * j + 2) := nI_add (3 * j) 2
  rw [e]
  exact inb_vp (inb_nI (by omega) (by omega))
theorem in_0 {j Ls : Nat} (h : 3 * j + 3 ≤ Ls) (hL : Ls ≤ 1536) : vp_in (nI (3 * j)) Ls := inb_vp (inb_nI (by omega) (by omega))
abbrev BK (p : Program) (l : Launch) (e : Env) (s : State) (m : MethodId) (below : List Frame) (meth : Method) (c : Code) (b : Nat) (dC : Nat → ClassId) (dI : Nat → Nat → Nat) (cI cJ cG cZ : ClassId) (a0 b0 ao : Nat) (Q : State → Prop) (j : Nat) : Prop := ∀ (L2 : Nat) (g : Nat → Int64) (wx wm : va_W) (ls : Array Slot) (H : Heap) (locs : List Loc), L2 ≤ 4096 → INV cI cJ cG cZ a0 b0 (j + 1) L2 wx wm → lv_has ls 7 [(4, .int (nI (3 * j))), (3, .ref ao), (2, .ref b0), (1, .ref a0), (0, .ref b)] → LH s dC dI (wLaw cJ ao g wx wm) H locs → W p l e room_1 s m #[Value.ref b] below meth c H locs (200 + 6 * (j + 1)) (80000 + 6 * (j + 1) + 10 * L2) Q (F0 m 791 ls [])
