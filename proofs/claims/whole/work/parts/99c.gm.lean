/-! the two numberings of a LockMaster's cells -/
section ZGm
set_option maxRecDepth 100000
def zpi (k : Nat) : Nat := if k < 135 then k + 1 else if k < 495 then k + 3 else if k = 495 then 0 else if k = 496 then 136 else if k = 497 then 137 else k
theorem zpi_lt {k : Nat} (h : k < 509) : zpi k < 509 := by
  unfold zpi
  split
  · omega
  · split
    · omega
    · split
      · omega
      · split
        · omega
        · split <;> omega
theorem zpi_inj {i j : Nat} (hi : i < 509) (hj : j < 509) (h : zpi i = zpi j) : i = j := by
  unfold zpi at h
  repeat' split at h
  all_goals omega
theorem zpi_F : ∀ k, k < 509 → gN8 (zpi k) = eF0 k := by
  intro k hk
  funext i
  unfold zpi eF0
  by_cases h1 : k < 135
  · rw [if_pos h1, if_pos (by omega)]
    unfold gN8
    rw [if_neg (by omega), if_pos (by omega), show k + 1 - 1 = k by omega]
    rfl
  · rw [if_neg h1]
    by_cases h2 : k < 495
    · rw [if_pos h2, if_pos h2]
      unfold gN8
      rw [if_neg (by omega), if_neg (by omega), if_pos (by omega)]
      unfold gN2
      rw [if_neg (by omega), show (k + 3 - 136 - 2) % 45 = k % 45 by omega]
      rfl
    · rw [if_neg h2, if_neg h2]
      by_cases h3 : k = 495
      · rw [if_pos h3, if_pos h3]
        rfl
      · rw [if_neg h3, if_neg h3]
        by_cases h4 : k = 496
        · rw [if_pos h4]
          rfl
        · rw [if_neg h4]
          by_cases h5 : k = 497
          · rw [if_pos h5]
            rfl
          · rw [if_neg h5]
            unfold gN8
            rw [if_neg (by omega), if_neg (by omega), if_neg (by omega)]
theorem zemb_pi : zemb ULM uN8 zpi := by
  have h : ∀ k, k < 509 → uN8.2 (zpi k) = zren zpi (ULM.2 k) := by decide +kernel
  exact ⟨fun k hk => zpi_lt hk, fun i j hi hj e => zpi_inj hi hj e, h⟩
end ZGm
