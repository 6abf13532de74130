/-! PURE, 2: masks and how many bits they have -/
theorem bt_nI (k : Nat) {i : Nat} (hi : i < 32) : bt (nI k) i = k.testBit i := by
  show (BitVec.ofNat 32 k).getLsbD i = k.testBit i
  rw [BitVec.getLsbD_ofNat]
  simp [hi]
theorem nI_self (x : Int32) : x = nI x.toBitVec.toNat := by
  apply Int32.toBitVec_inj.1
  show x.toBitVec = BitVec.ofNat 32 x.toBitVec.toNat
  simp
theorem mask_of {x : Int32} {w : Nat} (h : ∀ i, w ≤ i → i < 32 → bt x i = false) : ∃ k, k < 2 ^ w ∧ x = nI k := by
  refine ⟨x.toBitVec.toNat, ?_, nI_self x⟩
  apply Nat.lt_pow_two_of_testBit
  intro i hi
  by_cases h32 : i < 32
  · have := h i hi h32
    rw [nI_self x, bt_nI _ h32] at this
    exact this
  · apply Nat.testBit_lt_two_pow
    have h1 := x.toBitVec.isLt
    have h2 : 2 ^ 32 ≤ 2 ^ i := Nat.pow_le_pow_right (by omega) (by omega)
    omega
def popN (k : Nat) : Nat → Nat
  | 0 => 0
  | w + 1 => popN k w + (k / 2 ^ w) % 2
def bN1 (k : Nat) : Nat := k - ((k / 2) &&& 1431655765)
def bN2 (k : Nat) : Nat := (k &&& 858993459) + ((k / 4) &&& 858993459)
def bN3 (k : Nat) : Nat := (k + k / 16) &&& 252645135
def bN4 (k : Nat) : Nat := k + k / 256
def bN5 (k : Nat) : Nat := (k + k / 65536) &&& 63
theorem bitc_N {k : Nat} (hk : k < 65536) : bitc (nI k) = nI (bN5 (bN4 (bN3 (bN2 (bN1 k))))) := by
  have e1 : ((nI k).toUInt32 >>> ((1 : Int32).toUInt32 &&& Int32.toUInt32 31)).toInt32 = nI (k / 2) := pk_ushrN (by omega) 1 1 (by decide)
  have a1 : ((k / 2) &&& 1431655765) ≤ k / 2 := Nat.and_le_left
  have hb1 : bN1 k ≤ k := Nat.sub_le _ _
  have e2 : ((nI (bN1 k)).toUInt32 >>> ((2 : Int32).toUInt32 &&& Int32.toUInt32 31)).toInt32 = nI (bN1 k / 4) := pk_ushrN (by omega) 2 2 (by decide)
  have hb2 : bN2 (bN1 k) ≤ 2 * k := by
    have q1 : (bN1 k &&& 858993459) ≤ bN1 k := Nat.and_le_left
    have q2 : ((bN1 k / 4) &&& 858993459) ≤ bN1 k / 4 := Nat.and_le_left
    unfold bN2
    omega
  have e3 : ((nI (bN2 (bN1 k))).toUInt32 >>> ((4 : Int32).toUInt32 &&& Int32.toUInt32 31)).toInt32 = nI (bN2 (bN1 k) / 16) := pk_ushrN (by omega) 4 4 (by decide)
  have hb3 : bN3 (bN2 (bN1 k)) ≤ 4 * k := by
    have q1 : ((bN2 (bN1 k) + bN2 (bN1 k) / 16) &&& 252645135) ≤ bN2 (bN1 k) + bN2 (bN1 k) / 16 := Nat.and_le_left
    unfold bN3
    omega
  have e4 : ((nI (bN3 (bN2 (bN1 k)))).toUInt32 >>> ((8 : Int32).toUInt32 &&& Int32.toUInt32 31)).toInt32 = nI (bN3 (bN2 (bN1 k)) / 256) := pk_ushrN (by omega) 8 8 (by decide)
  have hb4 : bN4 (bN3 (bN2 (bN1 k))) ≤ 8 * k := by unfold bN4; omega
  have e5 : ((nI (bN4 (bN3 (bN2 (bN1 k))))).toUInt32 >>> ((16 : Int32).toUInt32 &&& Int32.toUInt32 31)).toInt32 = nI (bN4 (bN3 (bN2 (bN1 k))) / 65536) := pk_ushrN (by omega) 16 16 (by decide)
  have s1 : nI k - (nI (k / 2) &&& 1431655765) = nI (bN1 k) := by
    show nI k - (nI (k / 2) &&& nI 1431655765) = _
    rw [nx_and, pk_sub (by omega)]; rfl
  have s2 : (nI (bN1 k) &&& 858993459) + (nI (bN1 k / 4) &&& 858993459) = nI (bN2 (bN1 k)) := by
    show (nI (bN1 k) &&& nI 858993459) + (nI (bN1 k / 4) &&& nI 858993459) = _
    rw [nx_and, nx_and, nI_add]; rfl
  have s3 : (nI (bN2 (bN1 k)) + nI (bN2 (bN1 k) / 16)) &&& 252645135 = nI (bN3 (bN2 (bN1 k))) := by
    show (nI (bN2 (bN1 k)) + nI (bN2 (bN1 k) / 16)) &&& nI 252645135 = _
    rw [nI_add, nx_and]; rfl
  have s4 : nI (bN3 (bN2 (bN1 k))) + nI (bN3 (bN2 (bN1 k)) / 256) = nI (bN4 (bN3 (bN2 (bN1 k)))) := by rw [nI_add]; rfl
  have s5 : (nI (bN4 (bN3 (bN2 (bN1 k)))) + nI (bN4 (bN3 (bN2 (bN1 k))) / 65536)) &&& 63 = nI (bN5 (bN4 (bN3 (bN2 (bN1 k))))) := by
    show (nI (bN4 (bN3 (bN2 (bN1 k)))) + nI (bN4 (bN3 (bN2 (bN1 k))) / 65536)) &&& nI 63 = _
    rw [nI_add, nx_and]; rfl
  have hm := bitc_m (nI k)
  unfold m_Int_bitCount at hm
  simp only [gB_eq, e1, s1, e2, s2, e3, s3, e4, s4, e5, s5] at hm
  exact (Option.some.inj hm).symm
set_option maxRecDepth 20000 in
theorem pop12 : ∀ a, a < 64 → ∀ b, b < 64 → bN5 (bN4 (bN3 (bN2 (bN1 (64 * a + b))))) = popN (64 * a + b) 12 := by decide +kernel
theorem bitc_12 {k : Nat} (hk : k < 4096) : bitc (nI k) = nI (popN k 12) := by
  rw [bitc_N (by omega)]
  have := pop12 (k / 64) (by omega) (k % 64) (by omega)
  rw [show 64 * (k / 64) + k % 64 = k by omega] at this
  rw [this]
theorem popN_le (k : Nat) : ∀ w, popN k w ≤ w
  | 0 => Nat.le_refl 0
  | w + 1 => by
    have := popN_le k w
    show popN k w + (k / 2 ^ w) % 2 ≤ w + 1
    omega
theorem bit_and1 {k w : Nat} (hk : k < 2 ^ 31) (hw : w < 32) : (nI k >>> (nI w &&& 31)) &&& 1 = nI ((k / 2 ^ w) % 2) := by
  rw [pk_shrN hk (nI w &&& 31) w (s_l w hw)]
  show nI (k / 2 ^ w) &&& nI 1 = _
  rw [nx_and, Nat.and_one_is_mod]
/-- the reference's count(bits) -/
theorem Mo_count_ok {k F : Nat} (hk : k < 4096) (hF : 12 < F) : m_Mo_count F (nI k) = some (nI (popN k 12)) := by
  unfold m_Mo_count
  have H : OK (gL (fun (k_4 : (Int32 × Int32) → Option (Int32)) (z_4 : Int32 × Int32) => match z_4 with
  | (x1_1, x2_2) =>
  if (12 : Int32) ≤ x2_2 then (
    some x1_1
  ) else (
    gB (x1_1 + ((nI k >>> (x2_2 &&& 31)) &&& 1)) (fun x1_4 =>
    gB (x2_2 + 1) (fun x2_5 =>
    k_4 (x1_4, x2_5)))
  )
  ) F (0, 0)) (fun r => r = nI (popN k 12)) := by
    refine OK_for 12 (fun i z => z = (nI (popN k i), nI i)) ?_ ?_ F 0 (0, 0) (by omega) rfl (by omega)
    · rintro k1 z rfl
      dsimp only
      rw [if_pos (show (12 : Int32) ≤ nI 12 by decide)]
      exact OK_some rfl
    · rintro k1 i z hi rfl hk1
      dsimp only
      rw [if_neg (show ¬ (12 : Int32) ≤ nI i from nI_ge (b := 12) hi (by omega)), gB_eq, gB_eq, bit_and1 (by omega) (by omega), nI_add, nI_1]
      exact hk1 _ rfl
  obtain ⟨r, h1, h2⟩ := H
  rw [h1, h2]
