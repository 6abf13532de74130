/-! calls of the JDK's methods, each as one row -/
def bitc (x : Int32) : Int32 := (m_Int_bitCount 0 x).getD 0
theorem bitc_m (x : Int32) : m_Int_bitCount 0 x = some (bitc x) := rfl
theorem gB_eq {α ρ : Type} (e : α) (k : α → Option ρ) : gB e k = k e := rfl
theorem gC_t {ρ : Type} {b : Bool} {a : Option ρ} (h : b = true) : gC b a = a := by subst h; rfl
theorem gM_s {α ρ : Type} {o : Option α} {k : α → Option ρ} {x : α} (h : o = some x) : gM o k = k x := by subst h; rfl
theorem gL_s {σ ρ : Type} {body : (σ → Option ρ) → σ → Option ρ} {n : Nat} {s : σ} : gL body (n + 1) s = body (gL body n) s := rfl
theorem inb_nI {i n : Nat} (h : i < n) (hn : n < 2 ^ 31) : inb (nI i) n = true := by
  have h1 : vp_in (nI i) n := vp_in_nI h hn
  unfold inb
  exact decide_eq_true h1
theorem fill_up {α : Type} {n i : Nat} {v : α} {w : Nat → α} : (fun j => if j = i then v else fillA i v w j) = fillA (i + 1) v w := by
  funext j
  unfold fillA
  by_cases h : j = i
  · subst h; simp
  · by_cases h2 : j < i
    · simp [h, h2, Nat.lt_succ_of_lt h2]
    · simp [h, h2, show ¬ j < i + 1 by omega]
theorem fillI_loop (n : Nat) (hn : n < 2 ^ 31) (v : Int32) (w : Nat → Int32) : ∀ (F i : Nat), i ≤ n → n - i < F → gL (fun (k_5 : (Int32 × (Nat → Int32)) → Option ((Nat → Int32))) (z_5 : Int32 × (Nat → Int32)) => match z_5 with
  | (x2_2, w0_3) =>
  if nI n ≤ x2_2 then (
    some w0_3
  ) else (
    gC (inb x2_2 n) (
    gB (x2_2 + 1) (fun x2_6 =>
    k_5 (x2_6, upd w0_3 x2_2.toNatClampNeg v)))
  )) F (nI i, fillA i v w) = some (fillA n v w) := by
  intro F
  induction F with
  | zero => intro i h1 h2; omega
  | succ F ih =>
    intro i h1 h2
    rw [gL_s]
    dsimp only
    by_cases h : i = n
    · subst h
      rw [if_pos (nI_le (Nat.le_refl _) hn)]
    · rw [if_neg (nI_ge (by omega) hn), gC_t (inb_nI (by omega) hn), gB_eq, nI_clamp (by omega), nI_1]
      have e : upd (fillA i v w) i v = fillA (i + 1) v w := fill_up (n := n)
      rw [e]
      exact ih (i + 1) (by omega) (by omega)
theorem fillI_m {n : Nat} (hn : n < 2 ^ 31) (v : Int32) (w : Nat → Int32) : m_Arr_fillI (n + 1) n w v = some (fillA n v w) := by
  unfold m_Arr_fillI
  rw [gB_eq]
  have h0 : fillA 0 v w = w := by funext j; simp [fillA]
  have := fillI_loop n hn v w (n + 1) 0 (by omega) (by omega)
  rw [h0] at this
  exact this
theorem fillL_loop (n : Nat) (hn : n < 2 ^ 31) (v : Int64) (w : Nat → Int64) : ∀ (F i : Nat), i ≤ n → n - i < F → gL (fun (k_6 : (Int32 × (Nat → Int64)) → Option ((Nat → Int64))) (z_6 : Int32 × (Nat → Int64)) => match z_6 with
  | (x3_2, w0_3) =>
  if nI n ≤ x3_2 then (
    some w0_3
  ) else (
    gC (inb x3_2 n) (
    gB (x3_2 + 1) (fun x3_6 =>
    k_6 (x3_6, vp_updL w0_3 x3_2.toNatClampNeg v)))
  )) F (nI i, fillA i v w) = some (fillA n v w) := by
  intro F
  induction F with
  | zero => intro i h1 h2; omega
  | succ F ih =>
    intro i h1 h2
    rw [gL_s]
    dsimp only
    by_cases h : i = n
    · subst h
      rw [if_pos (nI_le (Nat.le_refl _) hn)]
    · rw [if_neg (nI_ge (by omega) hn), gC_t (inb_nI (by omega) hn), gB_eq, nI_clamp (by omega), nI_1]
      have e : vp_updL (fillA i v w) i v = fillA (i + 1) v w := fill_up (n := n)
      rw [e]
      exact ih (i + 1) (by omega) (by omega)
theorem fillL_m {n : Nat} (hn : n < 2 ^ 31) (v : Int64) (w : Nat → Int64) : m_Arr_fillL (n + 1) n w v = some (fillA n v w) := by
  unfold m_Arr_fillL
  rw [gB_eq]
  have h0 : fillA 0 v w = w := by funext j; simp [fillA]
  have := fillL_loop n hn v w (n + 1) 0 (by omega) (by omega)
  rw [h0] at this
  exact this
theorem at_apart {D : va_G} {cl : List vw_C} {A : Nat → Prop} {ws : va_W} {H : Heap} {q0 k a : Nat} {e : va_E} {q : Nat × va_E} (hP : va_P D cl ws H) (hD : va_D A ws) (ha : ws[q0]? = some (a, e)) (hq : ws[k]? = some q) (hk : k ≠ q0) : q.1 < H.size ∧ ¬ va_A [(a, e)] H.size q.1 := by
  refine ⟨(hP k q hq).lt, fun h => ?_⟩
  rcases h with ⟨j, e9, hj⟩ | h
  · match j, hj with
    | 0, hj =>
      cases hj
      exact hk (hD.1 k q0 q _ hq ha rfl)
    | j + 1, hj => simp at hj
  · have := (hP k q hq).lt
    omega
theorem set_P {D : va_G} {cl : List vw_C} {A : Nat → Prop} {ws : va_W} {H H1 : Heap} {q0 a : Nat} {e e1 : va_E} (hP : va_P D cl ws H) (hD : va_D A ws) (ha : ws[q0]? = some (a, e)) (hk : ∀ q : Nat, q < H.size → ¬ va_A [(a, e)] H.size q → H1[q]? = H[q]?) (h1 : va_at D cl (a, e1) H1) : va_P D cl (ws.set q0 (a, e1)) H1 := by
  intro k q hq
  by_cases h : k = q0
  · subst h
    rw [List.getElem?_set] at hq
    have hlt : k < ws.length := (List.getElem?_eq_some_iff.mp ha).1
    simp [hlt] at hq
    rw [← hq]
    exact h1
  · rw [List.getElem?_set_ne (Ne.symm h)] at hq
    obtain ⟨x1, x2⟩ := at_apart hP hD ha hq h
    exact (hP k q hq).kept (hk _ x1 x2)
section GX
variable {p : Program} {l : Launch} {e : Env} {R : Room} {s : State} {m : MethodId} {args : Array Value} {below : List Frame} {meth : Method} {c : Code} {H : Heap} {locs : List Loc} {cells slots : Nat} {Q : State → Prop}
variable {cc : ByteArray} {pc : Nat} {ls : Array Slot} {rest : List Value} {dC : Nat → ClassId} {dI : Nat → Nat → Nat} {A : Nat → Prop} {a : Nat} {tys : List (ClassId × FieldType)} {ws : va_W} {H0 : Heap} {cI cJ cG cZ : ClassId} {own : String} {idx nL : Nat}
theorem gx_bit (hexec : p.tables.exec = Jvm.exec) (hb : c.code = cc) (hml : c.maxLocals = nL) (hown : s.vm.findClass own = some m.cls) (htt : ∀ w ∈ gtbl, w.before args s = true) (hlink : Cond.methodLink own idx y_Int_bitCount ∈ gtbl) (hK : va_K (dC, dI) vwCl (tyL cI cJ cG cZ) s) (hNw : NwA s) (hP : va_P (dC, dI) vwCl ws H) (hD : va_D A ws) (hS : va_S A H0 H locs) (hA : ∀ q, H0.size ≤ q → A q) (hls : ls.size = nL) {x : Int32} (hroom : 2 * (F0 m pc ls (.int x :: rest)).monitorRoom + (rest.map fun v => v.category).sum ≤ 8) (hfr : 1 ≤ R.frames) (hlo : 20 ≤ R.locals) (hc : cells ≤ R.cells) (hs : slots ≤ R.slots) (hdg : decode cc pc = .ok (.invokestatic idx, 3))
    (kk : ∀ (H1 : Heap) (locs1 : List Loc), va_P (dC, dI) vwCl ws H1 → va_D A ws → va_S A H0 H1 locs1 → W p l e R s m args below meth c H1 locs1 cells slots Q (F0 m (pc + 3) ls (.int (bitc x) :: rest))) : W p l e R s m args below meth c H locs cells slots Q (F0 m pc ls (.int x :: rest)) := by
  have hPc : va_P (dC, dI) vwCl (wd_Int_bitCount cI cJ cG cZ) H := fun k q h => by simp at h
  have hDc : va_D A (wd_Int_bitCount cI cJ cG cZ) := ⟨fun i j p q h => by simp at h, fun k q h => by simp at h⟩
  have hFc : ∀ q, va_A (wd_Int_bitCount cI cJ cG cZ) H.size q → A q := va_free hD hS hA [] rfl
  refine va_calli (va_runS (As := [.int x]) (rest := rest) ⟨hexec, hb, hml, hown, htt⟩ (c_Int_bitCount l dC dI cI cJ cG cZ H.size 0 x (bitc x) (bitc_m x)) (va_cwS 1 htt (gdJ hlink kt_323 kt_bini kt_324) rfl rfl rfl (by decide +kernel) ⟨hfr, hlo⟩) ⟨PcS_blind, PcS_in hPc hK hDc hNw⟩ rfl rfl hls rfl hroom hdg ⟨hc, hs⟩) hS (fun q _ h => hFc q h) hFc (fun r u t H1 locs1 ht hvm hw hB hz1 hk1 hS1 => ?_)
  have hw : bitc x = r := hw
  subst hw
  refine kk H1 locs1 (hP.kept fun k q hq => hk1 q.1 (hP k q hq).lt ?_) hD hS1
  rintro (⟨j, e9, hj⟩ | h)
  · simp at hj
  · have := (hP k q hq).lt
    omega
theorem gx_filli (hexec : p.tables.exec = Jvm.exec) (hb : c.code = cc) (hml : c.maxLocals = nL) (hown : s.vm.findClass own = some m.cls) (htt : ∀ w ∈ gtbl, w.before args s = true) (hlink : Cond.methodLink own idx y_Arr_fillI ∈ gtbl) (hK : va_K (dC, dI) vwCl (tyL cI cJ cG cZ) s) (hNw : NwA s) (hP : va_P (dC, dI) vwCl ws H) (hD : va_D A ws) (hS : va_S A H0 H locs) (hA : ∀ q, H0.size ≤ q → A q) (q0 : Nat) {n : Nat} {f : Nat → Int32} (ha : ws[q0]? = some (a, .inl (cI, n, .inl f))) (hn : n < 2 ^ 31) (hls : ls.size = nL) {x : Int32} (hroom : 2 * (F0 m pc ls (.int x :: .ref a :: rest)).monitorRoom + (rest.map fun v => v.category).sum ≤ 8) (hfr : 1 ≤ R.frames) (hlo : 24 ≤ R.locals) (hc : cells ≤ R.cells) (hs : slots ≤ R.slots) (hdg : decode cc pc = .ok (.invokestatic idx, 3))
    (kk : ∀ (H1 : Heap) (locs1 : List Loc), va_P (dC, dI) vwCl (ws.set q0 (a, .inl (cI, n, .inl (fillA n x f)))) H1 → va_D A (ws.set q0 (a, .inl (cI, n, .inl (fillA n x f)))) → va_S A H0 H1 locs1 → W p l e R s m args below meth c H1 locs1 cells slots Q (F0 m (pc + 3) ls rest)) : W p l e R s m args below meth c H locs cells slots Q (F0 m pc ls (.int x :: .ref a :: rest)) := by
  have hPc : va_P (dC, dI) vwCl (wd_Arr_fillI cI cJ cG cZ a n f) H := fun k q h => by
    match k, h with
    | 0, h => cases h; exact hP q0 _ ha
    | k + 1, h => simp at h
  have hDc : va_D A (wd_Arr_fillI cI cJ cG cZ a n f) := ⟨fun i j p q h1 h2 _ => by
    match i, j, h1, h2 with
    | 0, 0, _, _ => rfl
    | 0, j + 1, _, h2 => simp at h2
    | i + 1, _, h1, _ => simp at h1, fun k q h => by
    match k, h with
    | 0, h => cases h; exact hD.2 q0 _ ha
    | k + 1, h => simp at h⟩
  have hFc : ∀ q, va_A (wd_Arr_fillI cI cJ cG cZ a n f) H.size q → A q := fun q h => by
    rcases h with ⟨k, e9, h⟩ | h
    · exact hDc.2 k _ h
    · exact hA q (Nat.le_trans hS.1 h)
  refine va_callv (va_runS (As := [.ref a, .int x]) (rest := rest) ⟨hexec, hb, hml, hown, htt⟩ (c_Arr_fillI l dC dI cI cJ cG cZ a H.size (n + 1) n f x _ (fillI_m hn x f)) (va_cwS 2 htt (gdJ hlink kt_213 kt_aini kt_214) rfl rfl rfl (by decide +kernel) ⟨hfr, Nat.le_trans (by decide) hlo⟩) ⟨PcS_blind, PcS_in hPc hK hDc hNw⟩ rfl rfl hls rfl hroom hdg ⟨hc, hs⟩) hS (fun q _ h => hFc q h) hFc (fun u t H1 locs1 ht hvm hw hB hz1 hk1 hS1 => ?_)
  obtain ⟨hP1, -, -⟩ := hB
  rw [ht] at hP1
  exact kk H1 locs1 (set_P hP hD ha hk1 (hP1 0 _ rfl)) (hD.set ha) hS1
theorem gx_filll (hexec : p.tables.exec = Jvm.exec) (hb : c.code = cc) (hml : c.maxLocals = nL) (hown : s.vm.findClass own = some m.cls) (htt : ∀ w ∈ gtbl, w.before args s = true) (hlink : Cond.methodLink own idx y_Arr_fillL ∈ gtbl) (hK : va_K (dC, dI) vwCl (tyL cI cJ cG cZ) s) (hNw : NwA s) (hP : va_P (dC, dI) vwCl ws H) (hD : va_D A ws) (hS : va_S A H0 H locs) (hA : ∀ q, H0.size ≤ q → A q) (q0 : Nat) {n : Nat} {f : Nat → Int64} (ha : ws[q0]? = some (a, .inl (cJ, n, .inr (.inl f)))) (hn : n < 2 ^ 31) (hls : ls.size = nL) {x : Int64} (hroom : 2 * (F0 m pc ls (.long x :: .ref a :: rest)).monitorRoom + (rest.map fun v => v.category).sum ≤ 8) (hfr : 1 ≤ R.frames) (hlo : 24 ≤ R.locals) (hc : cells ≤ R.cells) (hs : slots ≤ R.slots) (hdg : decode cc pc = .ok (.invokestatic idx, 3))
    (kk : ∀ (H1 : Heap) (locs1 : List Loc), va_P (dC, dI) vwCl (ws.set q0 (a, .inl (cJ, n, .inr (.inl (fillA n x f))))) H1 → va_D A (ws.set q0 (a, .inl (cJ, n, .inr (.inl (fillA n x f))))) → va_S A H0 H1 locs1 → W p l e R s m args below meth c H1 locs1 cells slots Q (F0 m (pc + 3) ls rest)) : W p l e R s m args below meth c H locs cells slots Q (F0 m pc ls (.long x :: .ref a :: rest)) := by
  have hPc : va_P (dC, dI) vwCl (wd_Arr_fillL cI cJ cG cZ a n f) H := fun k q h => by
    match k, h with
    | 0, h => cases h; exact hP q0 _ ha
    | k + 1, h => simp at h
  have hDc : va_D A (wd_Arr_fillL cI cJ cG cZ a n f) := ⟨fun i j p q h1 h2 _ => by
    match i, j, h1, h2 with
    | 0, 0, _, _ => rfl
    | 0, j + 1, _, h2 => simp at h2
    | i + 1, _, h1, _ => simp at h1, fun k q h => by
    match k, h with
    | 0, h => cases h; exact hD.2 q0 _ ha
    | k + 1, h => simp at h⟩
  have hFc : ∀ q, va_A (wd_Arr_fillL cI cJ cG cZ a n f) H.size q → A q := fun q h => by
    rcases h with ⟨k, e9, h⟩ | h
    · exact hDc.2 k _ h
    · exact hA q (Nat.le_trans hS.1 h)
  refine va_callv (va_runS (As := [.ref a, .long x]) (rest := rest) ⟨hexec, hb, hml, hown, htt⟩ (c_Arr_fillL l dC dI cI cJ cG cZ a H.size (n + 1) n f x _ (fillL_m hn x f)) (va_cwS 2 htt (gdJ hlink kt_396 kt_aini kt_397) rfl rfl rfl (by decide +kernel) ⟨hfr, Nat.le_trans (by decide) hlo⟩) ⟨PcS_blind, PcS_in hPc hK hDc hNw⟩ rfl rfl hls rfl hroom hdg ⟨hc, hs⟩) hS (fun q _ h => hFc q h) hFc (fun u t H1 locs1 ht hvm hw hB hz1 hk1 hS1 => ?_)
  obtain ⟨hP1, -, -⟩ := hB
  rw [ht] at hP1
  exact kk H1 locs1 (set_P hP hD ha hk1 (hP1 0 _ rfl)) (hD.set ha) hS1
theorem gx_copy (hexec : p.tables.exec = Jvm.exec) (hb : c.code = cc) (hml : c.maxLocals = nL) (hown : s.vm.findClass own = some m.cls) (htt : ∀ w ∈ gtbl, w.before args s = true) (hlink : Cond.methodLink own idx arraycopyName ∈ gtbl) (hK : va_K (dC, dI) vwCl (tyL cI cJ cG cZ) s) (hP : va_P (dC, dI) vwCl ws H) (hD : va_D A ws) (hS : va_S A H0 H locs) (q0 q1 : Nat) {a0 n0 n1 : Nat} {f g : Nat → Int32} (ha0 : ws[q0]? = some (a0, .inl (cI, n0, .inl f))) (ha1 : ws[q1]? = some (a, .inl (cI, n1, .inl g))) {sp dp n : Int32} (hy : cpyB sp dp n n0 n1 = true) (hls : ls.size = nL) (hroom : 2 * (F0 m pc ls (.int n :: .int dp :: .ref a :: .int sp :: .ref a0 :: rest)).monitorRoom + (rest.map fun v => v.category).sum ≤ 8) (hfr : 1 ≤ R.frames) (hlo : 40 ≤ R.locals) (hdg : decode cc pc = .ok (.invokestatic idx, 3))
    (kk : ∀ (H1 : Heap) (locs1 : List Loc), va_P (dC, dI) vwCl (ws.set q1 (a, .inl (cI, n1, .inl (va_cpy f g sp.toNatClampNeg dp.toNatClampNeg n.toNatClampNeg)))) H1 → va_D A (ws.set q1 (a, .inl (cI, n1, .inl (va_cpy f g sp.toNatClampNeg dp.toNatClampNeg n.toNatClampNeg)))) → va_S A H0 H1 locs1 → W p l e R s m args below meth c H1 locs1 cells slots Q (F0 m (pc + 3) ls rest)) : W p l e R s m args below meth c H locs cells slots Q (F0 m pc ls (.int n :: .int dp :: .ref a :: .int sp :: .ref a0 :: rest)) := by
  unfold cpyB at hy
  simp only [Bool.and_eq_true, decide_eq_true_eq] at hy
  obtain ⟨h1, h2, h3, h4, h5⟩ := hy
  have hw : nativeFrameWords "java/lang/System" "arraycopy" 5 ≤ 21 := by decide +kernel
  refine va_copyi hexec hb (hml.trans hls.symm) hown (htt _ hlink) (htt _ kt_cnat) (htt _ kt_cst) (htt _ kt_cini) hK hP hD hS q0 q1 0 0 ha0 ha1 rfl rfl rfl h1 h2 h3 h4 h5 (fun _ _ => rfl) hfr (by omega) hdg kk
theorem gx_mmax (hexec : p.tables.exec = Jvm.exec) (hb : c.code = cc) (hml : c.maxLocals = nL) (hown : s.vm.findClass own = some m.cls) (htt : ∀ w ∈ gtbl, w.before args s = true) (hlink : Cond.methodLink own idx Lib.Math.max.name ∈ gtbl) (hls : ls.size = nL) {x y : Int32} (hroom : 2 * (F0 m pc ls (.int y :: .int x :: rest)).monitorRoom + (rest.map fun v => v.category).sum ≤ 8) (hfr : 1 ≤ R.frames) (hlo : 24 ≤ R.locals) (hc : cells ≤ R.cells) (hs : slots ≤ R.slots) (hdg : decode cc pc = .ok (.invokestatic idx, 3))
    (kk : W p l e R s m args below meth c H locs cells slots Q (F0 m (pc + 3) ls (.int (maxI x y) :: rest))) : W p l e R s m args below meth c H locs cells slots Q (F0 m pc ls (.int y :: .int x :: rest)) :=
  va_mmax hexec hb (hml.trans hls.symm) hown (htt _ hlink) (htt _ kt_644) (htt _ kt_mini) (htt _ kt_maxc) hfr (by omega) hc hs hdg kk
theorem gx_mmin (hexec : p.tables.exec = Jvm.exec) (hb : c.code = cc) (hml : c.maxLocals = nL) (hown : s.vm.findClass own = some m.cls) (htt : ∀ w ∈ gtbl, w.before args s = true) (hlink : Cond.methodLink own idx Lib.Math.min.name ∈ gtbl) (hls : ls.size = nL) {x y : Int32} (hroom : 2 * (F0 m pc ls (.int y :: .int x :: rest)).monitorRoom + (rest.map fun v => v.category).sum ≤ 8) (hfr : 1 ≤ R.frames) (hlo : 24 ≤ R.locals) (hc : cells ≤ R.cells) (hs : slots ≤ R.slots) (hdg : decode cc pc = .ok (.invokestatic idx, 3))
    (kk : W p l e R s m args below meth c H locs cells slots Q (F0 m (pc + 3) ls (.int (minI x y) :: rest))) : W p l e R s m args below meth c H locs cells slots Q (F0 m pc ls (.int y :: .int x :: rest)) :=
  va_mmin hexec hb (hml.trans hls.symm) hown (htt _ hlink) (htt _ kt_752) (htt _ kt_mini) (htt _ kt_minc) hfr (by omega) hc hs hdg kk
theorem gx_ald {D : va_G} {cl : List vw_C} {cG : ClassId} {i : Int32} (hexec : p.tables.exec = Jvm.exec) (hb : c.code = cc) (hK : va_K D cl tys s) (hP : va_P D cl ws H) (q0 t0 : Nat) {n : Nat} {r : Nat → Nat} (ha : ws[q0]? = some (a, .inl (cG, n, .inr (.inr (.inr (.inr (gO r n))))))) (ht : tys[t0]? = some (cG, .array .int)) (hin : vp_in i n) (hdg : decode cc pc = .ok (.aaload, 1))
    (kk : W p l e R s m args below meth c H locs cells slots Q (F0 m (pc + 1) ls (.ref (r i.toNatClampNeg) :: rest))) : W p l e R s m args below meth c H locs cells slots Q (F0 m pc ls (.int i :: .ref a :: rest)) := by
  have hlt : i.toNatClampNeg < n := Nat.not_le.mp fun q => hin (Or.inr q)
  refine W.aald (v := va_rf (gO r n i.toNatClampNeg)) (ty := .array .int) hexec hb (hP q0 _ ha) ((hK.2 t0 _ ht).1 n (fun j => va_rf (gO r n j))) rfl (fun q => by cases q) (by show ¬ (i < 0 ∨ (arrV _ _ _).slots.size ≤ _); rw [arrV_size]; exact hin) (by show (arrV _ _ _).slots[_]? = _; rw [arrV_read _ _ hlt]) rfl rfl hdg ?_
  rw [gO_lt hlt]
  exact kk
end GX
