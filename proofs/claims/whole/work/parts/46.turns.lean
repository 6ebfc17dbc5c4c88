/-! ===== turns ===== -/
set_option maxRecDepth 100000 in
theorem xor_k : ∀ m, m < 64 → ∀ k, k < 6 → zI (m : Nat) ^^^ shl (zI 1) (zI (k : Nat)) = zI ((m ^^^ 2 ^ k : Nat) : Int) := by decide +kernel
theorem onM_sw {w : Int → Int} (hw : WF w) {t : Int} (h0 : 0 ≤ t) (h1 : t < w 72) : onM (fset w (42 + t) (1 - w (42 + t))) = onM w ^^^ 2 ^ t.toNat := by
  have hn := hw.1
  have b1 := hw.2.2 t h0 h1
  have b2 := hw.2.1 (42 + t) (by omega) (by omega)
  apply Nat.eq_of_testBit_eq
  intro i
  unfold onM
  rw [Nat.testBit_xor, Nat.testBit_two_pow, onK_bit, onK_bit, fs_ne (by omega)]
  by_cases e : t.toNat = i
  · have e2 : (42 : Int) + (i : Int) = 42 + t := by omega
    rw [e2, fs_eq]
    have : i < (w 72).toNat := by omega
    by_cases c : w (42 + t) = 1
    · simp [e, this, c]
    · have c0 : w (42 + t) = 0 := by omega
      simp [e, this, c0]
  · rw [fs_ne (by omega)]
    simp [e]
