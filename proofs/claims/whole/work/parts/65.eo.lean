/-! THE PURE PART: undo, save, restore, append -/
section ZEo
set_option maxRecDepth 20000
/-- the same for a call without an answer -/
def eCallV (spc spm : zSp) (ac am : List Value) (names : List String) : Prop := ∀ Fc Fm, eBoth Fc Fm → spc ac Fc (fun r Fc' => r = none ∧ spm am Fm (fun r' Fm' => r' = none ∧ Fm' 0 0 = 0 ∧ eBoth Fc' Fm') (fun _ _ => False))
  (fun E Fc' => spm am Fm (fun r' Fm' => r' = none ∧ (Fm' 0 0 = eCd names 1 E ∧ ¬ eCd names 1 E = 0 ∧ E ∈ names) ∧ eBoth Fc' Fm') (fun _ _ => False))
theorem vw_0 (F : zF) : vw 0 F = F := by
  funext k
  show F (0 + k) = F k
  rw [Nat.zero_add]
theorem k_undo : eCall sX8_undo sX9_undo [.ref 495] [.ref 0] [xS] := by
  intro Fc Fm h
  dsimp only [sX8_undo, sX9_undo]
  have h0 := h
  obtain ⟨hn, hb, ⟨u, w, u1, u2, u3, u4, u5, u6⟩, hl, f1, f2⟩ := h
  by_cases hu : u = 0
  · have c1 : ¬ 0 < Fc 496 2 := by rw [u3, hu]; decide
    refine ⟨fun q => absurd q c1, fun _ => ⟨fun _ => eRs h0 1 _ _ (by simp) rfl (by decide), fun q => absurd (by rw [u5, hu]; rfl) q⟩⟩
  · obtain ⟨v, rfl⟩ : ∃ v, u = v + 1 := ⟨u - 1, by omega⟩
    have c1 : 0 < Fc 496 2 := by rw [u3]; exact nI_lt (a := 0) (by omega) (by omega)
    have c2 : ¬ Fm 0 3 = 0 := by rw [u5]; exact nI_ne0 (by omega) (by omega)
    refine ⟨fun _ => ⟨w, u2, u4, _, rfl, fun q => absurd q c2, fun _ => ⟨v, by omega, u5, ?_, ?_, ?_⟩⟩, fun q => absurd c1 q⟩
    · rw [u3, nI_m1 (by omega)]
      rfl
    · unfold mCp mT
      rw [if_neg (fun q => absurd q.1 (by decide)), zup_an _ _ _ (by decide), zup_at]
    · have hm2 : ∀ c, c ≠ 0 → c ≠ 1 → mCp (zup (mT Fm) 0 3 (nI v)) 1 2 (197 * v) 197 c = Fm c := fun c q0 q1 => by
        funext i
        unfold mCp mT
        rw [if_neg (fun q => q1 q.1), zup_ne _ _ _ q0, zup_ne _ _ _ q0]
      have hm0 : ∀ i, i ≠ 0 → i ≠ 3 → mCp (zup (mT Fm) 0 3 (nI v)) 1 2 (197 * v) 197 0 i = Fm 0 i := fun i q0 q3 => by
        unfold mCp mT
        rw [if_neg (fun q => absurd q.1 (by decide)), zup_an _ _ _ q3, zup_an _ _ _ q0]
      have hm03 : mCp (zup (mT Fm) 0 3 (nI v)) 1 2 (197 * v) 197 0 3 = nI v := by
        unfold mCp mT
        rw [if_neg (fun q => absurd q.1 (by decide)), zup_at]
      have hm1 : eM (fun i => Fm 2 (197 * v + i)) (mCp (zup (mT Fm) 0 3 (nI v)) 1 2 (197 * v) 197 1) := fun i hi => by
        unfold mCp mT
        rw [if_pos ⟨rfl, hi⟩, zup_ne _ _ _ (by decide), zup_ne _ _ _ (by decide)]
      have hw' : aOld Fc = nI (if 0 < w then w - 1 else 7) := by
        unfold aOld
        rw [u4]
        by_cases h7 : 0 < w
        · rw [if_pos h7, if_pos (show 0 < nI w from nI_lt (a := 0) h7 (by omega)), nI_m1 (by omega)]
        · rw [if_neg h7, if_neg (show ¬ 0 < nI w by rw [show w = 0 by omega]; decide)]
          rfl
      have hcc : ∀ c, 45 ≤ c → c ≠ 496 → aTb Fc (zcp Fc 0 (135 + 45 * w)) c = Fc c := fun c q1 q2 => by
        unfold aTb
        rw [zup_ne _ _ _ q2, zup_ne _ _ _ q2, zcp_out _ _ _ (by omega)]
      have hc45 : ∀ c, c < 45 → aTb Fc (zcp Fc 0 (135 + 45 * w)) c = zcp Fc 0 (135 + 45 * w) c := fun c q1 => by
        unfold aTb
        rw [zup_ne _ _ _ (by omega), zup_ne _ _ _ (by omega)]
      have h961 : aTb Fc (zcp Fc 0 (135 + 45 * w)) 496 1 = nI (if 0 < w then w - 1 else 7) := by
        unfold aTb
        rw [zup_an _ _ _ (by decide), zup_at, hw']
      have h962 : aTb Fc (zcp Fc 0 (135 + 45 * w)) 496 2 = nI v := by
        unfold aTb
        rw [zup_at, u3, nI_m1 (by omega)]
        rfl
      have hvw : ∀ b, 90 ≤ b → b + 45 ≤ 496 → ∀ c, c < 44 → vw b (aTb Fc (zcp Fc 0 (135 + 45 * w))) c = vw b Fc c := fun b q1 q2 c hc => hcc (b + c) (by omega) (by omega)
      generalize aTb Fc (zcp Fc 0 (135 + 45 * w)) = Gc at hcc hc45 h961 h962 hvw ⊢
      generalize mCp (zup (mT Fm) 0 3 (nI v)) 1 2 (197 * v) 197 = Gm at hm2 hm0 hm03 hm1 ⊢
      refine ⟨?_, ?_, ⟨v, if 0 < w then w - 1 else 7, by omega, by split <;> omega, h962, h961, hm03, fun j hj => ?_⟩, ?_, ?_, ?_⟩
      · have q := u6 0 (by omega)
        rw [show (w + 8 - 0) % 8 = w by omega, show v + 1 - 1 - 0 = v by omega] at q
        refine eCan_q (fun c i hd => ?_) hm1 q
        have hc := eDom_44 hd
        have q2 := eQ_cp Fc 0 (135 + 45 * w) c i hd
        rw [vw_0] at q2
        rw [hc45 c (by omega)]
        exact q2
      · obtain ⟨b, b1, b2, b3, b4⟩ := hb
        rw [hcc 495 (by decide) (by decide), hm0 5 (by decide) (by decide), hm2 3 (by decide) (by decide)]
        exact ⟨b, b1, b2, b3, fun q => eCan_q (eQ_44 (hvw 90 (by decide) (by decide))) (eM_r _) (b4 q)⟩
      · have q := u6 (j + 1) (by omega)
        rw [hm2 2 (by decide) (by decide)]
        have e1 : ((if 0 < w then w - 1 else 7) + 8 - j) % 8 = (w + 8 - (j + 1)) % 8 := by
          split <;> omega
        rw [e1, show v - 1 - j = v + 1 - 1 - (j + 1) by omega]
        exact eCan_q (eQ_44 (hvw _ (by omega) (by omega))) (eM_r _) q
      · rw [hcc 498 (by decide) (by decide), hcc 500 (by decide) (by decide), hm0 8 (by decide) (by decide), hm2 5 (by decide) (by decide)]
        exact hl
      · rw [hcc 495 (by decide) (by decide), hm0 10 (by decide) (by decide)]
        exact f1
      · rw [hcc 495 (by decide) (by decide), hm0 11 (by decide) (by decide)]
        exact f2
theorem k_save : eCallV sX8_save sX9_save [.ref 495] [.ref 0] [] := by
  intro Fc Fm h
  dsimp only [sX8_save, sX9_save]
  refine ⟨rfl, rfl, ?_, ?_⟩
  · unfold mCp mT
    rw [if_neg (fun q => absurd q.1 (by decide)), zup_an _ _ _ (by decide), zup_at]
  · obtain ⟨hn, hb, ⟨u, w, u1, u2, u3, u4, u5, u6⟩, hl, f1, f2⟩ := h
    have hm2 : ∀ c, c ≠ 0 → c ≠ 3 → mCp (zup (mT Fm) 0 5 1) 3 1 0 197 c = Fm c := fun c q0 q1 => by
      funext i
      unfold mCp mT
      rw [if_neg (fun q => q1 q.1), zup_ne _ _ _ q0, zup_ne _ _ _ q0]
    have hm0 : ∀ i, i ≠ 0 → i ≠ 5 → mCp (zup (mT Fm) 0 5 1) 3 1 0 197 0 i = Fm 0 i := fun i q0 q3 => by
      unfold mCp mT
      rw [if_neg (fun q => absurd q.1 (by decide)), zup_an _ _ _ q3, zup_an _ _ _ q0]
    have hm05 : mCp (zup (mT Fm) 0 5 1) 3 1 0 197 0 5 = 1 := by
      unfold mCp mT
      rw [if_neg (fun q => absurd q.1 (by decide)), zup_at]
    have hm3 : eM (Fm 1) (mCp (zup (mT Fm) 0 5 1) 3 1 0 197 3) := fun i hi => by
      unfold mCp mT
      rw [if_pos ⟨rfl, hi⟩, zup_ne _ _ _ (by decide), zup_ne _ _ _ (by decide), Nat.zero_add]
    have hcc : ∀ c, c < 90 ∨ 135 ≤ c → c ≠ 495 → zup (zcp Fc 90 0) 495 5 1 c = Fc c := fun c q1 q2 => by
      rw [zup_ne _ _ _ q2, zcp_out _ _ _ (by omega)]
    have h495 : ∀ i, i ≠ 5 → zup (zcp Fc 90 0) 495 5 1 495 i = Fc 495 i := fun i q => by
      rw [zup_an _ _ _ q, zcp_out _ _ _ (by decide)]
    refine ⟨?_, ⟨1, by decide, zup_at _ _ _ _, hm05, fun _ => ?_⟩, ⟨u, w, u1, u2, ?_, ?_, ?_, fun j hj => ?_⟩, ?_, ?_, ?_⟩
    · rw [hm2 1 (by decide) (by decide)]
      exact eCan_q (eQ_44 (fun c hc => hcc c (by omega) (by omega))) (eM_r _) hn
    · refine eCan_q (fun c i hd => ?_) hm3 hn
      have hc := eDom_44 hd
      have q2 := eQ_cp Fc 90 0 c i hd
      rw [vw_0] at q2
      show zup (zcp Fc 90 0) 495 5 1 (90 + c) i = _
      rw [zup_ne _ _ _ (by omega)]
      exact q2
    · rw [hcc 496 (by decide) (by decide)]; exact u3
    · rw [hcc 496 (by decide) (by decide)]; exact u4
    · rw [hm0 3 (by decide) (by decide)]; exact u5
    · rw [hm2 2 (by decide) (by decide)]
      exact eCan_q (eQ_44 (fun c hc => hcc _ (by omega) (by omega))) (eM_r _) (u6 j hj)
    · rw [hcc 498 (by decide) (by decide), hcc 500 (by decide) (by decide), hm0 8 (by decide) (by decide), hm2 5 (by decide) (by decide)]
      exact hl
    · rw [h495 6 (by decide), hm0 10 (by decide) (by decide)]
      exact f1
    · rw [h495 7 (by decide), hm0 11 (by decide) (by decide)]
      exact f2
theorem k_restore : eCallV sX8_restore sX9_restore [.ref 495] [.ref 0] [xS] := by
  intro Fc Fm h
  dsimp only [sX8_restore, sX9_restore]
  have h0 := h
  obtain ⟨hn, ⟨b, b1, b2, b3, b4⟩, ⟨u, w, u1, u2, u3, u4, u5, u6⟩, hl, f1, f2⟩ := h
  by_cases hb0 : b = 0
  · subst hb0
    refine ⟨fun q => absurd b2 q, fun _ => ⟨fun _ => ⟨rfl, ⟨by rw [zup_at]; decide, by decide, by simp⟩, eBoth_t h0 1⟩, fun q => absurd b3 q⟩⟩
  · have hb1 : b = 1 := by omega
    subst hb1
    refine ⟨fun _ => ⟨rfl, fun q => absurd (b3.symm.trans q) (by decide), fun _ => ⟨rfl, ?_, ?_⟩⟩, fun q => absurd (by rw [b2]; decide) q⟩
    · rw [zup_an _ _ _ (by decide)]
      unfold mCp mT
      rw [if_neg (fun q => absurd q.1 (by decide)), zup_at]
    · have hm2 : ∀ c, c ≠ 0 → c ≠ 1 → zup (mCp (mT Fm) 1 3 0 197) 0 3 0 c = Fm c := fun c q0 q1 => by
        rw [zup_ne _ _ _ q0]
        funext i
        unfold mCp mT
        rw [if_neg (fun q => q1 q.1), zup_ne _ _ _ q0]
      have hm0 : ∀ i, i ≠ 0 → i ≠ 3 → zup (mCp (mT Fm) 1 3 0 197) 0 3 0 0 i = Fm 0 i := fun i q0 q3 => by
        rw [zup_an _ _ _ q3]
        unfold mCp mT
        rw [if_neg (fun q => absurd q.1 (by decide)), zup_an _ _ _ q0]
      have hm1 : eM (Fm 3) (zup (mCp (mT Fm) 1 3 0 197) 0 3 0 1) := fun i hi => by
        rw [zup_ne _ _ _ (by decide)]
        unfold mCp mT
        rw [if_pos ⟨rfl, hi⟩, zup_ne _ _ _ (by decide), Nat.zero_add]
      have hcc : ∀ c, 45 ≤ c → c ≠ 496 → zup (zcp Fc 0 90) 496 2 0 c = Fc c := fun c q1 q2 => by
        rw [zup_ne _ _ _ q2, zcp_out _ _ _ (by omega)]
      refine ⟨?_, ⟨1, by decide, ?_, ?_, fun _ => ?_⟩, ⟨0, w, by decide, u2, zup_at _ _ _ _, ?_, zup_at _ _ _ _, fun j hj => absurd hj (Nat.not_lt_zero j)⟩, ?_, ?_, ?_⟩
      · refine eCan_q (fun c i hd => ?_) hm1 (b4 rfl)
        have hc := eDom_44 hd
        have q2 := eQ_cp Fc 0 90 c i hd
        rw [vw_0] at q2
        rw [zup_ne _ _ _ (by omega)]
        exact q2
      · rw [hcc 495 (by decide) (by decide)]; exact b2
      · rw [hm0 5 (by decide) (by decide)]; exact b3
      · rw [hm2 3 (by decide) (by decide)]
        exact eCan_q (eQ_44 (fun c hc => hcc (90 + c) (by omega) (by omega))) (eM_r _) (b4 rfl)
      · rw [zup_an _ _ _ (by decide), zcp_out _ _ _ (by decide)]; exact u4
      · rw [hcc 498 (by decide) (by decide), hcc 500 (by decide) (by decide), hm0 8 (by decide) (by decide), hm2 5 (by decide) (by decide)]
        exact hl
      · rw [hcc 495 (by decide) (by decide), hm0 10 (by decide) (by decide)]
        exact f1
      · rw [hcc 495 (by decide) (by decide), hm0 11 (by decide) (by decide)]
        exact f2
theorem k_append (c : Int32) : eCallV sX8_append sX9_append [.ref 495, .int c] [.ref 0, .int c] [xS] := by
  intro Fc Fm h
  dsimp only [sX8_append, sX9_append]
  have h0 := h
  obtain ⟨hn, hb, hu, ⟨l, l1, l2, l3, l4⟩, f1, f2⟩ := h
  by_cases hl : l = 50
  · subst hl
    refine ⟨fun q => absurd q (by rw [l2]; decide), fun _ => ⟨fun _ => ⟨rfl, ⟨by rw [zup_at]; decide, by decide, by simp⟩, eBoth_t h0 1⟩, fun q => absurd l3 q⟩⟩
  · have c1 : Fc 498 5 < 50 := by rw [l2]; exact nI_lt (b := 50) (by omega) (by decide)
    have c2 : ¬ Fm 0 8 = 50 := by rw [l3]; exact fun q => hl ((nI_eq (b := 50) (by omega) (by decide)).mp q)
    refine ⟨fun _ => ⟨rfl, fun q => absurd q c2, fun _ => ⟨l, by omega, l3, rfl, ?_, ?_⟩⟩, fun q => absurd c1 q⟩
    · unfold mT
      rw [zup_ne _ _ _ (by decide), zup_an _ _ _ (by decide), zup_at]
    · have hx : xPut (vw 498 Fc) c = zup (zup (vw 498 Fc) 2 l c) 0 5 (nI (l + 1)) := by
        unfold xPut
        rw [show vw 498 Fc 0 5 = nI l from l2, nI_1, zwr_k _ _ _ (by omega) (by decide)]
      rw [hx]
      have ho : ∀ a, a < 498 → spl 498 11 Fc (zup (zup (vw 498 Fc) 2 l c) 0 5 (nI (l + 1))) a = Fc a := fun a q => spl_out _ _ _ _ (Or.inl q)
      have h498 : spl 498 11 Fc (zup (zup (vw 498 Fc) 2 l c) 0 5 (nI (l + 1))) 498 5 = nI (l + 1) := by
        rw [show (498 : Nat) = 498 + 0 from rfl, spl_in 498 11 _ _ (by decide), zup_at]
      have h500 : spl 498 11 Fc (zup (zup (vw 498 Fc) 2 l c) 0 5 (nI (l + 1))) 500 = fun i => if i = l then c else Fc 500 i := by
        rw [show (500 : Nat) = 498 + 2 from rfl, spl_in 498 11 _ _ (by decide), zup_ne _ _ _ (by decide)]
        funext i
        unfold zup
        rw [if_pos rfl]
        rfl
      have hm0 : ∀ i, i ≠ 0 → i ≠ 8 → zup (zup (mT Fm) 0 8 (Fm 0 8 + 1)) 5 l c 0 i = Fm 0 i := fun i q0 q8 => by
        unfold mT
        rw [zup_ne _ _ _ (by decide), zup_an _ _ _ q8, zup_an _ _ _ q0]
      have hmc : ∀ a, a ≠ 0 → a ≠ 5 → zup (zup (mT Fm) 0 8 (Fm 0 8 + 1)) 5 l c a = Fm a := fun a q0 q5 => by
        unfold mT
        rw [zup_ne _ _ _ q5, zup_ne _ _ _ q0, zup_ne _ _ _ q0]
      refine ⟨?_, ?_, ?_, ⟨l + 1, by omega, h498, ?_, fun i hi => ?_⟩, ?_, ?_⟩
      · rw [hmc 1 (by decide) (by decide)]
        exact eCan_q (eQ_44 (fun a ha => ho a (by omega))) (eM_r _) hn
      · obtain ⟨b, b1, b2, b3, b4⟩ := hb
        rw [ho 495 (by decide), hm0 5 (by decide) (by decide), hmc 3 (by decide) (by decide)]
        exact ⟨b, b1, b2, b3, fun q => eCan_q (eQ_44 (fun a ha => ho (90 + a) (by omega))) (eM_r _) (b4 q)⟩
      · obtain ⟨u, w, u1, u2, u3, u4, u5, u6⟩ := hu
        rw [ho 496 (by decide), hm0 3 (by decide) (by decide), hmc 2 (by decide) (by decide)]
        exact ⟨u, w, u1, u2, u3, u4, u5, fun j hj => eCan_q (eQ_44 (fun a ha => ho _ (by omega))) (eM_r _) (u6 j hj)⟩
      · rw [zup_ne _ _ _ (by decide), zup_at, l3, nI_1]
      · rw [h500]
        dsimp only
        unfold zup
        rw [if_pos rfl]
        by_cases hil : i = l
        · rw [if_pos hil, if_pos hil]
        · rw [if_neg hil, if_neg hil, show mT Fm 5 = Fm 5 from zup_ne _ _ _ (by decide)]
          exact l4 i (by omega)
      · rw [ho 495 (by decide), hm0 10 (by decide) (by decide)]
        exact f1
      · rw [ho 495 (by decide), hm0 11 (by decide) (by decide)]
        exact f2
end ZEo
