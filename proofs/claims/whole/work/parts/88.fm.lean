/-! THE PURE PART: two new objects stand alike -/
section ZFm
set_option maxRecDepth 20000
def eF0 : zF := fun c i => if c < 495 then (if c % 45 = 0 then (if i = 4 then 5 else if i = 5 then 20 else 0) else 0) else if c = 495 then (if i = 6 then -1 else 0) else 0
def eM0 : zF := fun c i => if c = 0 then (if i = 10 then -1 else 0) else if c = 1 then (if i = 3 then 5 else if i = 4 then 20 else 0) else 0
theorem eF0_r (r : Nat) {c : Nat} (hc : c < 45) (h0 : c ≠ 0) : eF0 c r = 0 := by
  unfold eF0
  rw [if_pos (by omega), if_neg (by omega)]
theorem eBoth_new : eBoth eF0 eM0 := by
  refine ⟨⟨0, 0, 0, fun _ => [], ⟨⟨by decide, by decide, fun h => absurd h (by decide), by decide⟩, ⟨rfl, rfl, rfl, rfl, rfl, rfl⟩, ⟨rfl, rfl, rfl, rfl, rfl, rfl, rfl, rfl⟩, ⟨5, by decide, by decide, rfl⟩, ⟨20, by decide, rfl⟩, ⟨0, by decide, rfl⟩⟩, ⟨fun r hr => absurd hr (Nat.not_lt_zero r), fun r _ _ => eF0_r r (by decide) (by decide)⟩, ⟨fun k hk => absurd hk (Nat.not_lt_zero _), fun k _ _ => ⟨eF0_r k (by decide) (by decide), eF0_r k (by decide) (by decide), eF0_r k (by decide) (by decide), eF0_r k (by decide) (by decide)⟩⟩, fun s hs => absurd hs (Nat.not_lt_zero s), ⟨fun s hs => absurd hs (Nat.not_lt_zero s), fun h hh => absurd hh (Nat.not_lt_zero h)⟩⟩, ⟨0, by decide, rfl, rfl, fun h => absurd h (by decide)⟩, ⟨0, 0, by decide, by decide, rfl, rfl, rfl, fun j hj => absurd hj (Nat.not_lt_zero j)⟩, ⟨0, by decide, rfl, rfl, fun i hi => absurd hi (Nat.not_lt_zero i)⟩, rfl, rfl⟩
end ZFm
