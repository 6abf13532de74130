/-! PURE: how many bits a mask of 16 has -/
def pp16 (k : Nat) : Nat := k % 2 + k / 2 % 2 + k / 4 % 2 + k / 8 % 2 + k / 16 % 2 + k / 32 % 2 + k / 64 % 2 + k / 128 % 2 + k / 256 % 2 + k / 512 % 2 + k / 1024 % 2 + k / 2048 % 2 + k / 4096 % 2 + k / 8192 % 2 + k / 16384 % 2 + k / 32768 % 2
def ch16 (a : Nat) : Nat → Bool
  | 0 => true
  | b + 1 => Nat.beq (bN5 (bN4 (bN3 (bN2 (bN1 (Nat.add (Nat.mul 256 a) b)))))) (pp16 (Nat.add (Nat.mul 256 a) b)) && ch16 a b
def ch256 : Nat → Bool
  | 0 => true
  | a + 1 => ch16 a 256 && ch256 a
set_option maxRecDepth 200000 in
theorem t16 : ch256 256 = true := by decide +kernel
theorem ch16_e {a : Nat} : ∀ m, ch16 a m = true → ∀ b, b < m → bN5 (bN4 (bN3 (bN2 (bN1 (256 * a + b))))) = pp16 (256 * a + b) := by
  intro m
  induction m with
  | zero => intro _ b hb; omega
  | succ m ih =>
    intro h b hb
    have h' : (Nat.beq (bN5 (bN4 (bN3 (bN2 (bN1 (256 * a + m)))))) (pp16 (256 * a + m)) && ch16 a m) = true := h
    rw [Bool.and_eq_true] at h'
    by_cases e : b = m
    · subst e; exact Nat.eq_of_beq_eq_true h'.1
    · exact ih h'.2 b (by omega)
theorem ch256_e : ∀ m, ch256 m = true → ∀ a, a < m → ch16 a 256 = true := by
  intro m
  induction m with
  | zero => intro _ a ha; omega
  | succ m ih =>
    intro h a ha
    have h' : (ch16 m 256 && ch256 m) = true := h
    rw [Bool.and_eq_true] at h'
    by_cases e : a = m
    · subst e; exact h'.1
    · exact ih h'.2 a (by omega)
theorem pp16_popN (k : Nat) : pp16 k = popN k 16 := by
  have e : popN k 16 = 0 + k / 2 ^ 0 % 2 + k / 2 ^ 1 % 2 + k / 2 ^ 2 % 2 + k / 2 ^ 3 % 2 + k / 2 ^ 4 % 2 + k / 2 ^ 5 % 2 + k / 2 ^ 6 % 2 + k / 2 ^ 7 % 2 + k / 2 ^ 8 % 2 + k / 2 ^ 9 % 2 + k / 2 ^ 10 % 2 + k / 2 ^ 11 % 2 + k / 2 ^ 12 % 2 + k / 2 ^ 13 % 2 + k / 2 ^ 14 % 2 + k / 2 ^ 15 % 2 := rfl
  rw [e]
  unfold pp16
  rw [Nat.zero_add, Nat.pow_zero, Nat.div_one]
theorem bitc_16 {k : Nat} (hk : k < 65536) : bitc (nI k) = nI (popN k 16) := by
  rw [bitc_N hk, ← pp16_popN]
  have := ch16_e 256 (ch256_e 256 t16 (k / 256) (by omega)) (k % 256) (by omega)
  rw [show 256 * (k / 256) + k % 256 = k by omega] at this
  rw [this]
theorem bitc_b16 {x : Int32} (h : ∀ i, 16 ≤ i → i < 32 → bt x i = false) : bitc x = nI (bc x 16) := by
  obtain ⟨k, hk, rfl⟩ := mask_of h
  rw [bitc_16 hk, ← popN_bc _ 16 (by omega)]
  have e : (nI k).toBitVec.toNat = k := by
    show (BitVec.ofNat 32 k).toNat = k
    rw [BitVec.toNat_ofNat]
    exact Nat.mod_eq_of_lt (by omega)
  rw [e]
