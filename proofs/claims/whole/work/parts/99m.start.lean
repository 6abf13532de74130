abbrev CT (l : Launch) (D : va_G) (ty : List (ClassId × FieldType)) (y : MethodName) (us : List Cond) (rm : Room) (av : List Value) (mc ms : Nat) (w : va_W) (P : va_W → Prop) : Prop := ∀ sz : Nat, Met l y us rm (PcT D ty av sz w) (va_Qv (fun (u : va_W) => P u) (fun u t => PoS D ty u (va_A w sz) t) (va_A w sz)) mc ms (va_A w sz)
theorem CT_of0 {S : Type} {W : S → va_W} {l : Launch} {D : va_G} {ty : List (ClassId × FieldType)} {y : MethodName} {us : List Cond} {rm : Room} {av : List Value} {mc ms : Nat} {w : va_W} (h : ∀ sz : Nat, Met l y us rm (PcT D ty av sz w) (va_Qv (fun (_ : S) => True) (fun u t => PoS D ty (W u) (va_A w sz) t) (va_A w sz)) mc ms (va_A w sz)) : CT l D ty y us rm av mc ms w (fun v => ∃ u, v = W u) := fun sz => Met.lift (h sz) (fun _ _ q => q) (fun a s o t q ⟨⟨u, e1, _, e4⟩, e5⟩ => ⟨⟨W u, e1, ⟨u, rfl⟩, e4⟩, e5⟩) (fun _ h => h)
theorem CV_of0 {S : Type} {W : S → va_W} {l : Launch} {D : va_G} {ty : List (ClassId × FieldType)} {y : MethodName} {us : List Cond} {rm : Room} {av : List Value} {mc ms : Nat} {w : va_W} (h : ∀ sz : Nat, Met l y us rm (PcS D ty av sz w) (va_Qv (fun (_ : S) => True) (fun u t => PoS D ty (W u) (va_A w sz) t) (va_A w sz)) mc ms (va_A w sz)) : CV l D ty y us rm av mc ms w (fun v => ∃ u, v = W u) := fun sz => Met.lift (h sz) (fun _ _ q => q) (fun a s o t q ⟨⟨u, e1, _, e4⟩, e5⟩ => ⟨⟨W u, e1, ⟨u, rfl⟩, e4⟩, e5⟩) (fun _ h => h)
def IX (cI cJ cG cZ : ClassId) (a0 : Nat) (w : va_W) : Prop := ∃ u : Nat × Nat × Nat × Nat × Nat × Nat × Nat × Nat × Nat × Nat × Nat × Nat × Nat × Nat × Nat × Nat × Nat × Nat × Nat × Nat × Nat × Nat × Nat × Nat × Nat × Nat × Nat × Nat × Nat × Nat × Nat × Nat × Nat × (Nat → Nat) × (Nat → Nat), w = (wd_full_CS cI cJ cG cZ a0 u.1 u.2.1 u.2.2.1 u.2.2.2.1 u.2.2.2.2.1 u.2.2.2.2.2.1 u.2.2.2.2.2.2.1 u.2.2.2.2.2.2.2.1 u.2.2.2.2.2.2.2.2.1 u.2.2.2.2.2.2.2.2.2.1 u.2.2.2.2.2.2.2.2.2.2.1 u.2.2.2.2.2.2.2.2.2.2.2.1 u.2.2.2.2.2.2.2.2.2.2.2.2.1 u.2.2.2.2.2.2.2.2.2.2.2.2.2.1 u.2.2.2.2.2.2.2.2.2.2.2.2.2.2.1 u.2.2.2.2.2.2.2.2.2.2.2.2.2.2.2.1 u.2.2.2.2.2.2.2.2.2.2.2.2.2.2.2.2.1 u.2.2.2.2.2.2.2.2.2.2.2.2.2.2.2.2.2.1 u.2.2.2.2.2.2.2.2.2.2.2.2.2.2.2.2.2.2.1 u.2.2.2.2.2.2.2.2.2.2.2.2.2.2.2.2.2.2.2.1 u.2.2.2.2.2.2.2.2.2.2.2.2.2.2.2.2.2.2.2.2.1 u.2.2.2.2.2.2.2.2.2.2.2.2.2.2.2.2.2.2.2.2.2.1 u.2.2.2.2.2.2.2.2.2.2.2.2.2.2.2.2.2.2.2.2.2.2.1 u.2.2.2.2.2.2.2.2.2.2.2.2.2.2.2.2.2.2.2.2.2.2.2.1 u.2.2.2.2.2.2.2.2.2.2.2.2.2.2.2.2.2.2.2.2.2.2.2.2.1 u.2.2.2.2.2.2.2.2.2.2.2.2.2.2.2.2.2.2.2.2.2.2.2.2.2.1 u.2.2.2.2.2.2.2.2.2.2.2.2.2.2.2.2.2.2.2.2.2.2.2.2.2.2.1 u.2.2.2.2.2.2.2.2.2.2.2.2.2.2.2.2.2.2.2.2.2.2.2.2.2.2.2.1 u.2.2.2.2.2.2.2.2.2.2.2.2.2.2.2.2.2.2.2.2.2.2.2.2.2.2.2.2.1 u.2.2.2.2.2.2.2.2.2.2.2.2.2.2.2.2.2.2.2.2.2.2.2.2.2.2.2.2.2.1 u.2.2.2.2.2.2.2.2.2.2.2.2.2.2.2.2.2.2.2.2.2.2.2.2.2.2.2.2.2.2.1 u.2.2.2.2.2.2.2.2.2.2.2.2.2.2.2.2.2.2.2.2.2.2.2.2.2.2.2.2.2.2.2.1 u.2.2.2.2.2.2.2.2.2.2.2.2.2.2.2.2.2.2.2.2.2.2.2.2.2.2.2.2.2.2.2.2.1 u.2.2.2.2.2.2.2.2.2.2.2.2.2.2.2.2.2.2.2.2.2.2.2.2.2.2.2.2.2.2.2.2.2.1 u.2.2.2.2.2.2.2.2.2.2.2.2.2.2.2.2.2.2.2.2.2.2.2.2.2.2.2.2.2.2.2.2.2.2 0 0 0 (fun _ => 0) (fun _ => 0) (fun _ => 0) 0 0 0 0 0 0 (fun _ => 0) (fun _ => 0) (fun _ => 0) (-1) (fun _ => 0) (fun _ => 0) (fun _ => 0) (fun _ => 0) 0 (-1) 0 (fun _ => 0) 1 (fun _ => 0) 1 (fun _ => 0) 1 (fun _ => 0) 1 (fun _ => 0) 1 (fun _ => 0) 0 (fun _ => 0) 0 0 (fun _ => 0) (fillA 12 (-1) (fun _ => 0)) (fun _ => 0) (fillA 12 4095 (fun _ => 0)) (fillA 12 (-1) (fun _ => 0)) (fillA 40 (-1) (fun _ => 0)) (fillA 12 (-1) (fun _ => 0)) (fun _ _ => 0) (fun _ _ => 0))
def IM (cI cJ cG cZ : ClassId) (a0 : Nat) (w : va_W) : Prop := ∃ u : Nat × Nat × Nat × Nat × Nat × Nat × Nat × Nat × Nat × Nat × Nat × Nat × Nat × Nat × Nat × Nat × Nat × Nat × Nat × Nat × Nat, w = (wd_full_Mo cI cJ cG cZ a0 u.1 u.2.1 u.2.2.1 u.2.2.2.1 u.2.2.2.2.1 u.2.2.2.2.2.1 u.2.2.2.2.2.2.1 u.2.2.2.2.2.2.2.1 u.2.2.2.2.2.2.2.2.1 u.2.2.2.2.2.2.2.2.2.1 u.2.2.2.2.2.2.2.2.2.2.1 u.2.2.2.2.2.2.2.2.2.2.2.1 u.2.2.2.2.2.2.2.2.2.2.2.2.1 u.2.2.2.2.2.2.2.2.2.2.2.2.2.1 u.2.2.2.2.2.2.2.2.2.2.2.2.2.2.1 u.2.2.2.2.2.2.2.2.2.2.2.2.2.2.2.1 u.2.2.2.2.2.2.2.2.2.2.2.2.2.2.2.2.1 u.2.2.2.2.2.2.2.2.2.2.2.2.2.2.2.2.2.1 u.2.2.2.2.2.2.2.2.2.2.2.2.2.2.2.2.2.2.1 u.2.2.2.2.2.2.2.2.2.2.2.2.2.2.2.2.2.2.2.1 u.2.2.2.2.2.2.2.2.2.2.2.2.2.2.2.2.2.2.2.2 0 0 0 0 0 0 0 (fun _ => 0) (fun _ => 0) (fun _ => 0) (fun _ => 0) (fillA 12 (-1) (fun _ => 0)) (fillA 40 (-1) (fun _ => 0)) (fillA 12 (-1) (fun _ => 0)) (fillA 12 (-1) (fun _ => 0)) (fun _ => 0) (fun _ => 0) (fun _ => 0) (fun _ => 0) (fun _ => 0) (fun _ => 0) (fun _ => 0) (fun _ => 0) (fun _ => 0) (fun _ => 0) (fun _ => 0) (fun _ => 0) (fun _ => 0))
theorem INV_00 {cI cJ cG cZ : ClassId} {a0 b0 : Nat} {wx wm : va_W} (hx : IX cI cJ cG cZ a0 wx) (hm : IM cI cJ cG cZ b0 wm) : INV cI cJ cG cZ a0 b0 0 1 wx wm := by
  obtain ⟨u, rfl⟩ := hx
  obtain ⟨v, rfl⟩ := hm
  exact INV_0
theorem aov {t : FieldType} {A : Array Value} {U : State} (h : (Cond.arrayOver (.array t)).before A U = true) : ∃ (comp c : ClassId) (k : Class), U.vm.classes[c]? = some k ∧ k.kind = .array comp (.array t) ∧ U.vm.findClass ("[" ++ (FieldType.array t).toString) = some c := by
  unfold Cond.before Cond.holds at h
  simp only [Cond.value, beq_iff_eq] at h
  cases hc : U.vm.findClass (FieldType.array t).toString with
  | none => simp [hc] at h
  | some comp =>
    simp only [hc, Option.bind_some, Option.bind_eq_some_iff, Option.map_eq_some_iff] at h
    obtain ⟨c, hi, k, hk, hb⟩ := h
    obtain ⟨hlt, hp, -⟩ := Array.findIdx?_eq_some_iff_getElem.mp hi
    have hkk : U.vm.classes[c] = k := (Array.getElem?_eq_some_iff.mp hk).2
    rw [hkk] at hp
    cases hkind : k.kind with
    | array cm ty =>
      rw [hkind] at hb hp
      simp at hb hp
      exact ⟨comp, c, k, hk, by rw [hkind, hp, hb.1], hb.2⟩
    | _ => rw [hkind] at hb; simp at hb
set_option maxRecDepth 100000 in
theorem K_start {b : Nat} {s : State} (htt : ∀ w ∈ gtbl, w.before #[Value.ref b] s = true) (hov : (Cond.arrayOver (.array .int)).before #[Value.ref b] s = true) : ∃ (dC : Nat → ClassId) (dI : Nat → Nat → Nat) (cI cJ cG cZ : ClassId), va_K (dC, dI) vwCl (tyL cI cJ cG cZ) s := by
  have hc : ∀ c : Nat, ∃ (cC : ClassId) (iS : Nat → Nat), ∀ q, vwCl[c]? = some q → u_Kn s q.1 q.2.1 q.2.2 cC iS := by
    intro c
    obtain ⟨c0, i0, h0⟩ := u_known (N := 11) htt hin_CS (htt _ kl_inst1)
    obtain ⟨c1, i1, h1⟩ := u_known (N := 6) htt hin_Net (htt _ kt_27)
    obtain ⟨c2, i2, h2⟩ := u_known (N := 10) htt hin_Pai (htt _ kt_74)
    obtain ⟨c3, i3, h3⟩ := u_known (N := 6) htt hin_Pol (htt _ kt_114)
    obtain ⟨c4, i4, h4⟩ := u_known (N := 9) htt hin_LC (htt _ kt_141)
    obtain ⟨c5, i5, h5⟩ := u_known (N := 2) htt hin_SF (htt _ kt_175)
    obtain ⟨c6, i6, h6⟩ := u_known (N := 3) htt hin_TA (htt _ kt_188)
    obtain ⟨c7, i7, h7⟩ := u_known (N := 2) htt hin_Gr (htt _ kt_207)
    obtain ⟨c8, i8, h8⟩ := u_known (N := 28) htt hin_Mo (htt _ kl_inst2)
    match c with
    | 0 => exact ⟨c0, i0, fun q hq => by cases hq; exact h0⟩
    | 1 => exact ⟨c1, i1, fun q hq => by cases hq; exact h1⟩
    | 2 => exact ⟨c2, i2, fun q hq => by cases hq; exact h2⟩
    | 3 => exact ⟨c3, i3, fun q hq => by cases hq; exact h3⟩
    | 4 => exact ⟨c4, i4, fun q hq => by cases hq; exact h4⟩
    | 5 => exact ⟨c5, i5, fun q hq => by cases hq; exact h5⟩
    | 6 => exact ⟨c6, i6, fun q hq => by cases hq; exact h6⟩
    | 7 => exact ⟨c7, i7, fun q hq => by cases hq; exact h7⟩
    | 8 => exact ⟨c8, i8, fun q hq => by cases hq; exact h8⟩
    | c + 9 => exact ⟨c0, i0, fun q hq => by cases hq⟩
  obtain ⟨cI, kI, pI, eI1, eI2, eI3⟩ := Cond.arrayClass_spec (htt _ kt_arrI)
  obtain ⟨cJ, kJ, pJ, eJ1, eJ2, eJ3⟩ := Cond.arrayClass_spec (htt _ kt_arrJ)
  obtain ⟨cZ, kZ, pZ, eZ1, eZ2, eZ3⟩ := Cond.arrayClass_spec (htt _ kt_arrZ)
  obtain ⟨pG, cG, kG, eG2, eG3, eG1⟩ := aov hov
  refine ⟨fun c => (hc c).choose, fun c => (hc c).choose_spec.choose, cI, cJ, cG, cZ, fun c q hq => (hc c).choose_spec.choose_spec q hq, fun k q hk => ?_⟩
  match k with
  | 0 => cases hk; exact ⟨fun n z => ⟨fun k h => (by cases h), kI, eI2, pI, eI3⟩, eI1⟩
  | 1 => cases hk; exact ⟨fun n z => ⟨fun k h => (by cases h), kJ, eJ2, pJ, eJ3⟩, eJ1⟩
  | 2 => cases hk; exact ⟨fun n z => ⟨fun k h => (by cases h), kG, eG2, pG, eG3⟩, eG1⟩
  | 3 => cases hk; exact ⟨fun n z => ⟨fun k h => (by cases h), kZ, eZ2, pZ, eZ3⟩, eZ1⟩
  | k + 4 => cases hk
set_option maxRecDepth 100000 in
theorem TH_start {b : Nat} {s : State} (hts : ∀ w ∈ lw_tbl, w.before #[Value.ref b] s = true) (hgv : (Jvm.Cond.and given_1 narrow_1).before #[Value.ref b] s = true) : TH s := by
  have hs := flat_of_before _ hgv
  refine ⟨fun w hw => ?_, ?_⟩
  · simp only [thw, List.mem_cons, List.not_mem_nil, or_false] at hw
    rcases hw with rfl | rfl | rfl | rfl | rfl | rfl | rfl | rfl
    · exact va_tabs rfl rfl (hts _ (by decide +kernel))
    · exact va_tabs rfl rfl (hts _ (by decide +kernel))
    · exact va_tabs rfl rfl (hts _ (by decide +kernel))
    · exact va_tabs rfl rfl (hts _ (by decide +kernel))
    · exact hts (.laysStatic Bundle.tN "UNASSIGNED_STACK" Bundle.steD) (by decide +kernel)
    · exact hts (.laysStatic Bundle.tN "SUPPRESSED_SENTINEL" Bundle.listD) (by decide +kernel)
    · exact hs (.isRef (.static Bundle.tN "UNASSIGNED_STACK" Bundle.steD)) (by decide +kernel)
    · exact hs (.isRef (.static Bundle.tN "SUPPRESSED_SENTINEL" Bundle.listD)) (by decide +kernel)
  · have h1 : (Cond.exactly (Term.string R_CS 146) "java/lang/String").before #[Value.ref b] s = true := hs _ (by decide +kernel)
    obtain ⟨a, -, -, -, h2, -⟩ := Cond.exactly_spec h1
    have h3 : (Cond.stringRef R_CS 146 "more than 16 arcs").before #[Value.ref b] s = true := hts _ (by decide +kernel)
    exact ⟨a, vk_R.of h3 h2⟩
set_option maxRecDepth 100000 in
set_option maxHeartbeats 4000000 in
theorem whole_start {p : Program} {e : Env} {s : State} {m : MethodId} {below : List Frame} {meth : Method} {c : Code} (l : Launch) (hlt : l.stackTraces = false) {b L : Nat} {xs : Nat → Int32} (hL : L ≤ 1536) (C0 : lw_At p s m meth c b L xs) : W p l e room_1 s m #[Value.ref b] below meth c s.heap [] 0 0 (lw_Z below #[Value.ref b] s) (entryFrame m ([Value.ref b] : List Value).toArray 7) := by
  obtain ⟨hx, hb, hr, hml, hown, hts, hX, hbl, hlocks, hgv⟩ := C0
  have htt : ∀ w ∈ gtbl, w.before #[Value.ref b] s = true := fun w h => hts w (List.mem_filter.mp h).1
  have hov : (Cond.arrayOver (.array .int)).before #[Value.ref b] s = true := hts _ (by decide +kernel)
  have hO : va_AOA .int s := va_AOA.of hov
  have hNw : NwA s := fun w hw => va_Nw.of (nestw_on w hw) (hts w ((by decide +kernel : ∀ w ∈ nestw, w ∈ lw_tbl) w hw))
  have hTH := TH_start hts hgv
  obtain ⟨dC, dI, cI, cJ, cG, cZ, hK⟩ := K_start htt hov
  have K : LK p s m c b L xs dC dI cI cJ cG cZ := ⟨hx, hb, hml, hown, htt, hX, hbl, hK, hNw, hTH, hL⟩
  have hA : ∀ q, s.heap.size ≤ q → lA s q := fun q h => h
  have hS : va_S (lA s) s.heap s.heap [] := va_S.rf
  have hP : va_P (dC, dI) vwCl [] s.heap := fun k q h => by simp at h
  have hD : va_D (lA s) [] := ⟨fun i j p q h => by simp at h, fun k q h => by simp at h⟩
  have hl := lv_entry ([Value.ref b]) (n := 7) (Nat.le_of_ble_eq_true rfl)
  rw [lg_entry_eq]
  generalize (lg_sl ([Value.ref b]) ++ List.replicate (7 - (lg_sl ([Value.ref b])).length) Slot.unset).toArray = ls at hl ⊢
  have hl : lv_has ls 7 [(0, .ref b)] := hl
  generalize hH : s.heap = H at hP ⊢
  have hS : va_S (lA s) s.heap H [] := hH ▸ hS
  generalize hLo : ([] : List Loc) = locs at hS ⊢
  clear hH hLo
  refine va_new (D := (dC, dI)) (cl := vwCl) (tys := tyL cI cJ cG cZ) (ci := 0) (fs := [.null, .null, .null, .null, .null, .null, .null, .null, .null, .null, .null]) (C := R_CS) (T := T_CS) (N := 11) hx hb htt hin_CS ty_CS tyok_CS hown (htt _ kl_new1) (htt _ kl_inst1) (htt _ kt_1) hK hP hD hS hA rfl (by decide +kernel) (Nat.le_of_ble_eq_true rfl) (Nat.le_of_ble_eq_true rfl) d_law_0 (fun a0 H hP hD hS => ?_)
  refine lv_dup hx hb d_law_3 rfl ?_
  have hP : va_P (dC, dI) vwCl [(a0, .inr (0, [.null, .null, .null, .null, .null, .null, .null, .null, .null, .null, .null]))] H := hP
  have hD : va_D (lA s) [(a0, .inr (0, [.null, .null, .null, .null, .null, .null, .null, .null, .null, .null, .null]))] := hD
  have hF := fr_all hD hS hA
  have hC : CT l (dC, dI) (tyL cI cJ cG cZ) y_CS_init us_CS_init rm_CS_init [.ref a0] 119 1667 [(a0, .inr (0, [.null, .null, .null, .null, .null, .null, .null, .null, .null, .null, .null]))] (IX cI cJ cG cZ a0) := CT_of0 (c_CS_init l dC dI cI cJ cG cZ a0)
  refine va_callv (va_runI (As := []) (rest := [.ref a0]) ⟨hx, hb, hml, hown, htt⟩ (hC H.size) (cwI 0 htt (gdN kt_22) rfl rfl rfl (htt _ kt_1) (htt _ kt_20) (htt _ kt_21) rfl (by decide +kernel) ⟨(Nat.le_of_ble_eq_true rfl), (Nat.le_of_ble_eq_true rfl)⟩) ⟨PcT_blind, PcT_in hP hK hD hNw hO⟩ rfl rfl hl.1 rfl (lv_room (Nat.le_of_ble_eq_true rfl)) d_law_4 ⟨(Nat.le_of_ble_eq_true rfl), (Nat.le_of_ble_eq_true rfl)⟩) hS (fun q _ h => hF q h) hF (fun wx t H1 locs ht hvm hw hB hz1 hk1 hS => ?_)
  have hwx : IX cI cJ cG cZ a0 wx := hw
  obtain ⟨hP1, hK1, hD1⟩ := hB
  rw [ht] at hP1
  have hD1 := hD1.weaken (fun _ q _ h => hF q.1 h)
  clear hF hC hP hD hw
  refine lv_astore_n (lv' := [(1, .ref a0), (0, .ref b)]) hx hb d_law_7 rfl hl (by decide) rfl (fun ls hl => ?_)
  refine va_new (D := (dC, dI)) (cl := vwCl) (tys := tyL cI cJ cG cZ) (ci := 8) (fs := [.int 0, .int 0, .int 0, .null, .null, .null, .null, .null, .null, .null, .null, .int 0, .null, .int 0, .null, .null, .null, .null, .null, .null, .null, .int 0, .int 0, .null, .null, .null, .null, .null]) (C := R_Mo) (T := T_Mo) (N := 28) hx hb htt hin_Mo ty_Mo tyok_Mo hown (htt _ kl_new2) (htt _ kl_inst2) (htt _ kt_10) hK hP1 hD1 hS hA rfl (by decide +kernel) (Nat.le_of_ble_eq_true rfl) (Nat.le_of_ble_eq_true rfl) d_law_8 (fun b0 H hP hD hS => ?_)
  refine lv_dup hx hb d_law_11 rfl ?_
  have hF := fr_all hD hS hA
  have hC : CV l (dC, dI) (tyL cI cJ cG cZ) y_Mo_init us_Mo_init rm_Mo_init [.ref b0] 21 74022 (wx ++ [(b0, .inr (8, [.int 0, .int 0, .int 0, .null, .null, .null, .null, .null, .null, .null, .null, .int 0, .null, .int 0, .null, .null, .null, .null, .null, .null, .null, .int 0, .int 0, .null, .null, .null, .null, .null]))]) (fun v => ∃ u, IM cI cJ cG cZ b0 u ∧ v = wx ++ u) := CV_lift (wr := wx) (P := IM cI cJ cG cZ b0) (CV_of0 (fun sz => c_Mo_init l dC dI cI cJ cG cZ b0 sz 41 _ _ _ _ _ _ _ _ _ _ _ (Mo_clear_ok (by decide)))) (sb_comm _ wx) (fun u hu => ⟨_, sb_comm wx u, u, hu, rfl⟩)
  refine va_callv (va_runI (As := []) (rest := [.ref b0]) ⟨hx, hb, hml, hown, htt⟩ (hC H.size) (cwI 0 htt (gdN kt_758) rfl rfl rfl (htt _ kt_10) (htt _ kt_756) (htt _ kt_757) rfl (by decide +kernel) ⟨(Nat.le_of_ble_eq_true rfl), (Nat.le_of_ble_eq_true rfl)⟩) ⟨PcS_blind, PcS_in hP hK hD hNw⟩ rfl rfl hl.1 rfl (lv_room (Nat.le_of_ble_eq_true rfl)) d_law_12 ⟨(Nat.le_of_ble_eq_true rfl), (Nat.le_of_ble_eq_true rfl)⟩) hS (fun q _ h => hF q h) hF (fun wy t H1 locs ht hvm hw hB hz1 hk1 hS => ?_)
  obtain ⟨wm, hwm, rfl⟩ := hw
  obtain ⟨hP1, hK1, hD1⟩ := hB
  rw [ht] at hP1
  have hD1 := hD1.weaken (fun _ q _ h => hF q.1 h)
  clear hF hC hP hD
  refine lv_astore_n (lv' := [(2, .ref b0), (1, .ref a0), (0, .ref b)]) hx hb d_law_15 rfl hl (by decide) rfl (fun ls hl => ?_)
  refine lv_iconst (v := 1) hx hb d_law_16 (by decide) ?_
  refine gx_newJ (D := (dC, dI)) (cl := vwCl) hx hb (htt _ kt_arrJ) hK hP1 hD1 hS hA (n := 1) (N' := 1) (by decide) (by decide) (by decide) (Nat.le_of_ble_eq_true rfl) (Nat.le_of_ble_eq_true rfl) d_law_17 (fun ao H hP hD hS => ?_)
  refine lv_astore_n (lv' := [(3, .ref ao), (2, .ref b0), (1, .ref a0), (0, .ref b)]) hx hb d_law_19 rfl hl (by decide) rfl (fun ls hl => ?_)
  refine lv_iconst (v := 0) hx hb d_law_20 (by decide) ?_
  refine lv_istore (lv' := [(4, .int 0), (3, .ref ao), (2, .ref b0), (1, .ref a0), (0, .ref b)]) hx hb d_law_21 hl (by decide) rfl (fun ls hl => ?_)
  have hP2 : va_P (dC, dI) vwCl (wLaw cJ ao (fun _ => 0) wx wm) H := hP.sb (sb_comm [_] (wx ++ wm))
  have hD2 : va_D (lA s) (wLaw cJ ao (fun _ => 0) wx wm) := hD.sb (sb_comm [_] (wx ++ wm))
  refine W.widen (k := 200 + 6 * 0) (n := 80000 + 6 * 0 + 10 * 1) (Nat.le_of_ble_eq_true rfl) (Nat.le_of_ble_eq_true rfl) ?_
  exact lw_loop hlt K hr hlocks 600 0 1 (fun _ => 0) wx wm ls H _ (by omega) (by omega) (by decide) (INV_00 hwx hwm) hl ⟨hP2, hD2, hS⟩
