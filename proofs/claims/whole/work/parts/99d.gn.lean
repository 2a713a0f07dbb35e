/-! a world seen under other names -/
section ZGn
set_option maxRecDepth 20000
theorem zP_emb {D : va_G} {cA : zT} {U' U : zU} {em ad : Nat → Nat} {G G' : zF} {H : Heap} (he : zemb U' U em) (hG : ∀ k, k < U'.1 → G (em k) = G' k) (hP : va_P D zcl (zWs cA U ad G) H) : va_P D zcl (zWs cA U' (fun k => ad (em k)) G') H := by
  obtain ⟨he1, he2, he3⟩ := he
  intro k q hq
  obtain ⟨hk, rfl⟩ := zWs_in hq
  have h1 := hP (em k) _ (zWs_at cA U ad G (he1 k hk))
  rw [he3 k hk, zE_ren, hG k hk] at h1
  exact h1
theorem z_dd0 : FP.ddiv (FP.i2d 0) (FP.i2d 1) = 0 := by decide +kernel
/-- the new LockMaster in ULM's names -/
theorem zLM_P {D : va_G} {cA : zT} {ad : Nat → Nat} {H : Heap} (hP : va_P D zcl (zWs cA uN8 ad gN8) H) : va_P D zcl (zWs cA ULM (fun k => ad (zpi k)) eF0) H := zP_emb zemb_pi (fun k hk => zpi_F k hk) hP
end ZGn
