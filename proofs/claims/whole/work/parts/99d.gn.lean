/-! a world seen under other names -/
section ZGn
set_option maxRecDepth 20000
theorem zP_emb {D : va_G} {cA : zT} {U' U : zU} {em ad : Nat → Nat} {G G' : zF} {H : Heap} (he : zemb U' U em) (hG : ∀ k, k < U'.1 → G (em k) = G' k) (hP : va_P D zcl (zWs cA U ad G) H) : va_P D zcl (zWs cA U' (fun k => ad (em k)) G') H := by
  obtain ⟨he1, he2, he3⟩ := he
  intro k q hq
  obtain ⟨hk, rfl⟩ := zWs_in hq
  have h1 := hP (em k) _ (zWs_at cA U ad G (he1 k hk))
  rw [he3 k hk, zE_ren, hG k hk] at h1
  exact h1
theorem z_dd0 : FP.ddiv (FP.i2d 0) (FP.i2d 1) = 0 := by decide +kernel
/-- the new LockMaster in ULM's names -/
theorem zLM_P {D : va_G} {cA : zT} {ad : Nat → Nat} {H : Heap} (hP : va_P D zcl (zWs cA uN8 ad gN8) H) : va_P D zcl (zWs cA ULM (fun k => ad (zpi k)) eF0) H := zP_emb zemb_pi (fun k hk => zpi_F k hk) hP
def eL0 : zF := fun k => if k < 509 then eF0 k else if k < 519 then eM0 (k - 509) else if k = 519 then (fun _ => 0) else fun i => if i = 1 then 1 else 0
def zadL (aC aM : Nat → Nat) (q1 q2 : Nat) : Nat → Nat := fun k => if k < 509 then aC k else if k < 519 then aM (k - 509) else if k = 519 then q1 else q2
theorem zAg_0 : zAg eL0 := ⟨eF0, eM0, eBoth_new, fun k hk => (if_pos hk).symm, fun k hk => by
  unfold eL0
  rw [if_neg (by omega), if_pos (by omega), show 509 + k - 509 = k by omega]⟩
theorem zUL_P {D : va_G} {cA : zT} {aC aM : Nat → Nat} {q1 q2 : Nat} {H : Heap} (hC : va_P D zcl (zWs cA ULM aC eF0) H) (hM : va_P D zcl (zWs cA UM aM eM0) H) (h1 : va_at D zcl (q1, .inl (cA.2.2.2.1, 1, .inr (.inl (fun _ => 0)))) H) (h2 : va_at D zcl (q2, .inl (cA.2.2.2.2, 1, .inr (.inr (.inr (.inl (fun _ => 0)))))) H) : va_P D zcl (zWs cA UL (zadL aC aM q1 q2) eL0) H := by
  intro k q hq
  obtain ⟨hk, rfl⟩ := zWs_in hq
  have hk : k < 521 := hk
  by_cases k1 : k < 509
  · have e1 : UL.2 k = ULM.2 k := by
      have := zemb_UC.2.2 k k1
      rw [zren_id] at this
      exact this
    have e2 : zE cA (zadL aC aM q1 q2) (UL.2 k) (eL0 k) = zE cA aC (ULM.2 k) (eF0 k) := by
      rw [e1, show eL0 k = eF0 k from if_pos k1]
      have hc : ∀ k, k < 509 → zclo 509 (ULM.2 k) = true := by decide +kernel
      exact zE_cg (fun i hi => if_pos hi) (hc k k1) _
    rw [e2, show zadL aC aM q1 q2 k = aC k from if_pos k1]
    exact hC k _ (zWs_at cA ULM aC eF0 k1)
  · by_cases k2 : k < 519
    · obtain ⟨j, rfl⟩ : ∃ j, k = 509 + j := ⟨k - 509, by omega⟩
      have hj : j < 10 := by omega
      have e1 := zemb_UM.2.2 j hj
      have ea : ∀ i, i < 10 → zadL aC aM q1 q2 (509 + i) = aM i := fun i hi => by
        unfold zadL
        rw [if_neg (by omega), if_pos (by omega), show 509 + i - 509 = i by omega]
      have eF : eL0 (509 + j) = eM0 j := by
        unfold eL0
        rw [if_neg (by omega), if_pos (by omega), show 509 + j - 509 = j by omega]
      have hc : ∀ k, k < 10 → zclo 10 (UM.2 k) = true := by decide +kernel
      rw [e1, eF, zE_ren, ea j hj, zE_cg (ad' := aM) ea (hc j hj)]
      exact hM j _ (zWs_at cA UM aM eM0 hj)
    · rcases (show k = 519 ∨ k = 520 by omega) with rfl | rfl
      · exact h1
      · have e : zE cA (zadL aC aM q1 q2) (UL.2 520) (eL0 520) = .inl (cA.2.2.2.2, 1, .inr (.inr (.inr (.inl (fun _ => 0))))) := by
          show (Sum.inl (cA.2.2.2.2, 1, .inr (.inr (.inr (.inl (fun _ => FP.ddiv (FP.i2d 0) (FP.i2d 1)))))) : va_E) = _
          rw [z_dd0]
        rw [e]
        exact h2
end ZGn
