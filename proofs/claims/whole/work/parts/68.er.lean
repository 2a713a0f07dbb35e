/-! THE PURE PART: the calls hindrance, pass, untilLeft -/
section ZEr
set_option maxRecDepth 20000
theorem mHg_o (F : zF) (k : Nat) (L : List Nat) : (∀ i, i ≠ 16 → mHg F k L 0 i = mT F 0 i) ∧ ∀ c, c ≠ 0 → c ≠ 8 → mHg F k L c = F c := by
  unfold mHg zls
  refine ⟨fun i q => ?_, fun c q0 q7 => ?_⟩
  · rw [if_neg (fun z => absurd z.1 (by decide)), if_neg (fun z => q z.2)]
  · funext i
    rw [if_neg (fun z => q7 z.1), if_neg (fun z => q0 z.1)]
    unfold mT
    rw [zup_ne _ _ _ q0]
theorem eBoth_c {Fc Gc Fm Gm : zF} (h : eBoth Fc Fm) (hc : ∀ c, c < 44 ∨ 90 ≤ c → Gc c = Fc c) (hm1 : eM (Fm 1) (Gm 1)) (h2 : Gm 2 = Fm 2) (h3 : Gm 3 = Fm 3) (h5 : Gm 5 = Fm 5) (h0 : ∀ i, i = 3 ∨ i = 5 ∨ i = 8 ∨ i = 10 ∨ i = 11 → Gm 0 i = Fm 0 i) : eBoth Gc Gm :=
  ⟨eCan_q (eQ_44 (fun c q => hc c (Or.inl q))) hm1 h.1, eRst_o h.2 (fun c q => hc c (Or.inr q)) h2 h3 h5 h0⟩
theorem k_hindrance (s : Int32) : eCall sX8_hindrance sX9_hindrance [.ref 495, .int s] [.ref 0, .int s] [xI, xS] := by
  intro Fc Fm h
  dsimp only [sX8_hindrance, sX9_hindrance]
  obtain ⟨n, m, tk, cv, hC⟩ := h.1
  have hC0 := hC
  obtain ⟨hS, h2, h3, h6, h7⟩ := hC
  obtain ⟨⟨hn, hm, hnm, ht⟩, ⟨s0, s1, s2, s3, s4, s5⟩, -⟩ := hS
  have hq : (0 ≤ s ∧ s ≤ Fm 1 2 - 1) ↔ (0 ≤ s ∧ s < Fc 25 9) := by rw [s2, s4]; exact eShp hn
  by_cases c1 : 0 ≤ s ∧ s < Fc 25 9
  · have c1' := hq.mpr c1
    have c1b := c1
    rw [s4] at c1b
    obtain ⟨i, hi, rfl⟩ := eI16 hn c1b
    obtain ⟨a, ha, a1, a2, a3, a4, a5, a6, a7⟩ := eCv_of hn h7 hi
    have vi := eSh_v h6 hn hm hi
    have hl : qWa Fc (nI i) = -1 ↔ mOf Fm i 4 < 0 := by
      rw [vi.2.2.2.2.2.2.2.1]
      exact (eLeft h6 hm hi).1
    refine ⟨fun _ => ⟨fun c2 => ?_, fun c2 => ?_⟩, fun q => absurd c1 q⟩
    · have c3 : ¬ mOf Fm i 4 < 0 := fun q => c2 (hl.mpr q)
      have h35 : ¬ Fc 35 a = -1 := by
        rw [← a6, ← vi.2.2.2.2.2.2.2.1]
        exact c2
      rcases (eLeft h6 hm ha).2 with ⟨q, -⟩ | ⟨k, k1, k2⟩
      · exact absurd q h35
      · obtain ⟨-, g2, g3, g4, g5, x, g6, g7, g8⟩ := eAt h6 hm ha k2 (by omega)
        have va := eSh_v h6 hn hm ha
        have hwa : qWa Fc (nI a) = nI k := va.2.2.2.2.2.2.2.1.trans k2
        have hr := (eRules hC0 (by decide) ha a5 (by omega) k2).1
        have hu := (eNat h6 ha).1.2.2.2.2.2.2.2.2
        have hA : aHi Fc (qFi Fc (nI i)) = qLook Fc (nI a) (qLen Fc (nI k)) := by
          unfold aHi
          rw [a2, hwa]
        have hG : ∀ c, c ≠ 44 → qLook Fc (nI a) (qLen Fc (nI k)) c = Fc c := fun c q => qLook_o _ _ _ q
        obtain ⟨l0, l1, l2, l3, l5, l6, len, c, nb, f, b, lb, ⟨lk0, lk1, lk2, lk3, lk4⟩, lk5, lk6⟩ := eLo_v h3 hm k1
        have hC2 := eC_q (H := qLook Fc (nI a) (qLen Fc (nI k))) (N := Fm 1) (eQ_44 (fun c hc => hG c (by omega))) (eM_r _) hC0
        have hb8 := mB_8 lb.2.2.2.2.1 lb.2.2.2.2.2.2
        have hW : mRu (mT Fm) a k (k + nU Fm a) (k + 1 - nU Fm a) (cv a) = mWr Fm a k (cv a) := by
          rw [mRu_c (mT_1 Fm)]
          unfold mWr
          rw [g2, g3, nI_clamp (by omega), nI_clamp (by omega)]
        have hle : mRu (mT Fm) a k (k + nU Fm a) (k + 1 - nU Fm a) (cv a) ≤ 0 ↔ mWr Fm a k (cv a) = 0 := by
          rw [hW, ← mWr_le]
          exact Int32.not_lt.symm
        have hnz : ∀ j, j < 5 → j = k + nU Fm a ∨ j = k + 1 - nU Fm a ∨ j = k → ¬ Fm 1 (10 + 3 * j) = 0 := fun j _ hj => by
          obtain ⟨-, a', l', w', q1, q2, q3, q4, q5, q6, -⟩ := h2.1 j (by omega)
          rw [q6]
          exact nI_ne0 (by omega) (by omega)
        have hth : mHg Fm k (cv a) 0 0 = 0 := by
          rw [(mHg_o Fm k (cv a)).1 0 (by decide)]
          exact mT_00 _
        have hbo : eBoth (aHi Fc (qFi Fc (nI i))) (mHg Fm k (cv a)) := by
          have q := mHg_o Fm k (cv a)
          refine eBoth_c h (fun c hc => by rw [hA]; exact hG c (by omega)) (by rw [q.2 1 (by decide) (by decide)]; exact eM_r _) (q.2 2 (by decide) (by decide)) (q.2 3 (by decide) (by decide)) (q.2 5 (by decide) (by decide)) (fun i hi => ?_)
          rw [q.1 i (by omega)]
          exact zup_an _ _ _ (by omega)
        have hval : qHO Fc (aHi Fc (qFi Fc (nI i))) (qFi Fc (nI i)) = if mWr Fm a k (cv a) = 0 then mHn Fm a k b else mWr Fm a k (cv a) := by
          unfold qHO
          rw [hA, a2, hwa, hr]
          by_cases hz : mWr Fm a k (cv a) = 0
          · rw [if_pos hz, if_pos hz]
            have e3 : qUp (qLook Fc (nI a) (qLen Fc (nI k))) (nI a) = mOf Fm a 3 := (eSh_v hC2.2.2.2.1 hn hm ha).2.2.2.1
            have eF : qFu (qLook Fc (nI a) (qLen Fc (nI k))) (nI k) = mLP Fm k 3 := (eLo_v hC2.2.2.1 hm k1).2.2.2.1
            have eW : qW (qLook Fc (nI a) (qLen Fc (nI k))) (nI k) = mWa Fm k := by
              obtain ⟨⟨-, -, r3⟩, -⟩ := hC2.2.1.1 k (by omega)
              exact (zrd_k _ (by omega) (by decide)).trans r3
            have eL := (eLck hC2.2.2.1 hm k1).1
            have eB : (mLP Fm k 4).toNatClampNeg = b := by rw [lk4]; exact nI_clamp (by omega)
            rw [eB] at eL
            have hW0 : ∀ v : Int32, (v ≤ mWa Fm k) ↔ ¬ mWa Fm k < v := fun v => Int32.not_lt.symm
            unfold mHn
            rw [e3]
            by_cases hu1 : nU Fm a = 1
            · have hu3 : mOf Fm a 3 = 1 := by rw [hu.1, hu1]; rfl
              rw [hu3, if_neg (show ¬ (1 : Int32) = 0 by decide)]
              have eU : qLkU (qLook Fc (nI a) (qLen Fc (nI k))) (nI k) = mLP Fm k 1 - mLP Fm k 1 / 4 * (if mLP Fm k 3 = 1 then mLP Fm k 2 else nI (mBit b)) := by
                unfold qLkU
                rw [eF]
                by_cases hf : mLP Fm k 3 = 1
                · rw [if_pos hf, if_pos hf, (eLo_v hC2.2.2.1 hm k1).2.1, (eLo_v hC2.2.2.1 hm k1).2.2.1, Int32.mul_comm (mLP Fm k 1 / 4)]
                  congr 1
                  congr 1
                  have e14 : qQu (qLook Fc (nI a) (qLen Fc (nI k))) (nI k) = nI (c / 4) := by
                    show zrd 4 (qLook Fc (nI a) (qLen Fc (nI k)) 14) (nI k) = _
                    rw [hG 14 (by decide)]
                    exact lk5
                  rw [e14, lk1, nI_div4 c lb.2.2.2.1]
                · rw [if_neg hf, if_neg hf, eL]
                  rfl
              have hcf : qCFU (qLook Fc (nI a) (qLen Fc (nI k))) (nI k) ↔ ¬ mWa Fm k < mLP Fm k 1 - mLP Fm k 1 / 4 * (if mLP Fm k 3 = 1 then mLP Fm k 2 else nI (mBit b)) := by
                unfold qCFU
                rw [eU, eW]
                exact hW0 _
              by_cases hlt : mWa Fm k < mLP Fm k 1 - mLP Fm k 1 / 4 * (if mLP Fm k 3 = 1 then mLP Fm k 2 else nI (mBit b))
              · rw [if_pos hlt, if_neg]
                rintro (q | q)
                · exact hcf.mp q.2 hlt
                · exact q.1 rfl
              · rw [if_neg hlt, if_pos (Or.inl ⟨rfl, hcf.mpr hlt⟩)]
            · have hu3 : mOf Fm a 3 = 0 := by rw [hu.1, show nU Fm a = 0 by omega]; rfl
              rw [hu3, if_pos (show (0 : Int32) = 0 from rfl)]
              have hcb : qCBR (qLook Fc (nI a) (qLen Fc (nI k))) (nI k) ↔ (mLP Fm k 3 = 1 ∨ ¬ mWa Fm k < mLP Fm k 1 - mLP Fm k 1 / 4 * nI (mBit b)) := by
                unfold qCBR
                rw [eF, eW, eL]
                exact or_congr Iff.rfl (hW0 _)
              by_cases hf : mLP Fm k 3 = 1
              · rw [if_pos hf, if_pos (Or.inr ⟨by decide, hcb.mpr (Or.inl hf)⟩)]
              · rw [if_neg hf]
                by_cases hlt : mWa Fm k < mLP Fm k 1 - mLP Fm k 1 / 4 * nI (mBit b)
                · rw [if_pos hlt, if_neg]
                  rintro (q | q)
                  · exact absurd q.1 (by decide)
                  · rcases hcb.mp q.2 with q2 | q2
                    · exact hf q2
                    · exact q2 hlt
                · rw [if_neg hlt, if_pos (Or.inr ⟨by decide, hcb.mpr (Or.inr hlt)⟩)]
          · rw [if_neg hz, if_neg hz]
        refine ⟨_, rfl, fun _ => ⟨i, rfl, by omega, fun q => absurd q c3, fun _ => ⟨a, n, k, k + nU Fm a, k + 1 - nU Fm a, cv a, b, a3, by omega, hn, by omega, s2, eCv_m hn h7 ha, g4, g2, by omega, g3, by omega, hnz, hb8, lk4, fun z => ⟨?_, hth, hbo⟩, fun z => ⟨?_, hth, hbo⟩⟩⟩, fun q => absurd c1' q⟩
        · rw [hval, if_pos (hle.mp z)]
        · rw [hval, if_neg (fun q => z (hle.mpr q)), hW]
    · exact ⟨fun _ => ⟨i, rfl, by omega, fun _ => eRs h 2 _ _ (by simp) (by decide) (by decide), fun q => absurd (hl.mp (Classical.not_not.mp c2)) q⟩, fun q => absurd c1' q⟩
  · exact ⟨fun q => absurd q c1, fun _ => ⟨fun q => absurd (hq.mp q) c1, fun _ => eRs h 1 _ _ (by simp) (by decide) (by decide)⟩⟩
/-- some ticks -/
theorem eTicksL {G F : zF} {n m t : Nat} {cv : Nat → List Nat} (hC : eC G (F 1) n m t t 900 cv) (hm1 : 1 ≤ m) : ∀ N, t + N ≤ 500 → ∃ S : Nat → zF, S 0 = F ∧ (∀ k, k < N → ∃ n m cv, mTp (S k) n m cv ∧ S (k + 1) = mTick (S k) n m cv) ∧ ∀ k, k ≤ N → (∃ cv', eC (aTicks G k) (S k 1) n m (t + k) (t + k) 900 cv') ∧ eFr F (S k) n
  | 0, _ => ⟨fun _ => F, rfl, fun k hk => absurd hk (Nat.not_lt_zero k), fun k hk => by
      have : k = 0 := by omega
      subst this
      exact ⟨⟨cv, hC⟩, eFr_x (fun _ _ => rfl) (fun _ => rfl)⟩⟩
  | N + 1, hN => by
    obtain ⟨S, h0, h1, h2⟩ := eTicksL hC hm1 N (by omega)
    obtain ⟨⟨cv', h3⟩, h4⟩ := h2 N (Nat.le_refl _)
    obtain ⟨cvs, cw, t1, t2, t3⟩ := eTick h3 hm1 (by omega)
    refine ⟨fun k => if k = N + 1 then mTick (S N) n m cvs else S k, ?_, fun k hk => ?_, fun k hk => ?_⟩
    · dsimp only
      rw [if_neg (by omega)]
      exact h0
    · dsimp only
      rw [if_neg (show ¬ k = N + 1 by omega)]
      by_cases hkN : k = N
      · subst hkN
        rw [if_pos rfl]
        exact ⟨n, m, cvs, t1, rfl⟩
      · rw [if_neg (by omega)]
        exact h1 k (by omega)
    · dsimp only
      by_cases hkN : k = N + 1
      · subst hkN
        rw [if_pos rfl]
        exact ⟨⟨cw, t2⟩, eFr_trans h4 t3⟩
      · rw [if_neg hkN]
        exact h2 k (by omega)
theorem aTicks_o (G : zF) {c : Nat} (hc : 45 ≤ c) : ∀ N, aTicks G N c = G c
  | 0 => rfl
  | N + 1 => (qOT_o _ hc).trans (aTicks_o G hc N)
theorem k_pass (x : Int32) : eCall sX8_pass sX9_pass [.ref 495, .int x] [.ref 0, .int x] [xA, xS] := by
  intro Fc Fm h
  dsimp only [sX8_pass, sX9_pass]
  obtain ⟨n, m, tk, cv, hC⟩ := h.1
  have hC0 := hC
  obtain ⟨hS, h2, h3, h6, h7⟩ := hC
  obtain ⟨⟨hn, hm, hnm, ht⟩, ⟨s0, s1, s2, s3, s4, s5⟩, ⟨p4, p5, p6, p7, p8, p9, p10, p11⟩, -⟩ := hS
  have c12 : ((1 ≤ x ∧ x ≤ 40) ∧ x ≤ 500 - Fc 0 7) ↔ ((1 ≤ x ∧ x ≤ 40) ∧ Fm 1 0 + x ≤ 500) := by
    refine ⟨fun q => ⟨q.1, ?_⟩, fun q => ⟨q.1, ?_⟩⟩
    · obtain ⟨⟨q1, q2⟩, q3⟩ := q
      obtain ⟨N, n1, n2, rfl⟩ := eNat4 (a := 1) (n := 40) q1 q2 (by decide) (by decide)
      rw [p7, s0, show (500 : Int32) = nI 500 from rfl, nI_subc ht, nI_leI (by omega) (by omega)] at q3
      rw [s0, nI_add]
      exact nI_le (b := 500) (by omega) (by decide)
    · obtain ⟨⟨q1, q2⟩, q3⟩ := q
      obtain ⟨N, n1, n2, rfl⟩ := eNat4 (a := 1) (n := 40) q1 q2 (by decide) (by decide)
      rw [s0, nI_add, show (500 : Int32) = nI 500 from rfl, nI_leI (by omega) (by omega)] at q3
      rw [p7, s0, show (500 : Int32) = nI 500 from rfl, nI_subc ht]
      exact nI_le (by omega) (by omega)
  have cm : 2 ≤ Fm 1 1 ↔ 2 ≤ Fc 1 3 := by rw [s1, s3]
  by_cases c1 : (1 ≤ x ∧ x ≤ 40) ∧ x ≤ 500 - Fc 0 7
  · have c1' := c12.mp c1
    by_cases c2 : 2 ≤ Fc 1 3
    · have c2' := cm.mpr c2
      have hm2 : 2 ≤ m := by
        rw [s3] at c2
        exact (nI_leI (a := 2) (by decide) (by omega)).mp c2
      obtain ⟨N, n1, n2, rfl⟩ := eNat4 (a := 1) (n := 40) c1.1.1 c1.1.2 (by decide) (by decide)
      have hN : (nI N).toNatClampNeg = N := nI_clamp (by omega)
      have hle : tk + N ≤ 500 := by
        have q3 := c1'.2
        rw [s0, nI_add, show (500 : Int32) = nI 500 from rfl, nI_leI (by omega) (by omega)] at q3
        exact q3
      obtain ⟨k, u, h1, h2', h3', h4, h5, h6', h7', h8, h9, h10, h11⟩ := eKept h
      have hC2 := h10 _ _ _ _ _ _ hC0
      have hC3 : eC (zcp (aKp Fc) (135 + 45 * k) 0) ((zup (mKeep (mT Fm) u) 0 18 0) 1) n m tk tk 900 cv := by
        rw [zup_ne _ _ _ (by decide)]
        exact hC2
      obtain ⟨S, t0, t1, t2⟩ := eTicksL hC3 (by omega) N hle
      obtain ⟨⟨cv', t3⟩, t4⟩ := t2 N (Nat.le_refl _)
      have hG25 : (zcp (aKp Fc) (135 + 45 * k) 0 25 9).toNatClampNeg = n := by rw [h9 25 (by decide), s4]; exact nI_clamp (by omega)
      have hT25 : (aTicks (zcp (aKp Fc) (135 + 45 * k) 0) N 25 9).toNatClampNeg = n := by rw [t3.1.2.1.2.2.2.2.1]; exact nI_clamp (by omega)
      refine ⟨fun _ => ⟨fun _ => ⟨k, h1, h2', _, rfl, fun _ => ⟨fun _ => ⟨u, S, h3', h4, t0, by rw [hN]; exact t1, ?_⟩, fun q => absurd c2' q⟩, fun q => absurd c1' q⟩, fun q => absurd c2 q⟩, fun q => absurd c1 q⟩
      rw [hN, hG25, hT25, eSir hn hm t3.2.2.2.1 (-1) n (Nat.le_refl _), eSir hn hm hC3.2.2.2.1 (-1) n (Nat.le_refl _)]
      refine ⟨?_, ?_, h11 _ _ ⟨n, m, tk + N, cv', t3⟩ (fun c hc => aTicks_o _ hc N) ?_ ?_ ?_ (fun i hi => ?_)⟩
      · rw [t4.2.2, zup_at, Int32.zero_add]
      · rw [t4.2.1 0 (by decide) (by decide) (by decide), zup_an _ _ _ (by decide)]
        exact h6'
      · rw [t4.1 2 (by decide) (by decide) (by decide) (by decide) (by decide), zup_ne _ _ _ (by decide)]
      · rw [t4.1 3 (by decide) (by decide) (by decide) (by decide) (by decide), zup_ne _ _ _ (by decide)]
      · rw [t4.1 5 (by decide) (by decide) (by decide) (by decide) (by decide), zup_ne _ _ _ (by decide)]
      · rw [t4.2.1 i (by omega) (by omega) (by omega), zup_an _ _ _ (by omega)]
    · refine ⟨fun _ => ⟨fun q => absurd q c2, fun _ => ⟨fun _ => ⟨fun q => absurd (cm.mp q) c2, fun _ => eRs h 2 _ _ (by simp) (by decide) (by decide)⟩, fun q => absurd c1' q⟩⟩, fun q => absurd c1 q⟩
  · exact ⟨fun q => absurd q c1, fun _ => ⟨fun q => absurd (c12.mpr q) c1, fun _ => eRs h 1 _ _ (by simp) (by decide) (by decide)⟩⟩
/-- a forecast -/
theorem eUntil {n m i : Nat} (hi : i < n) (hm1 : 1 ≤ m) : ∀ (d n0 : Nat) (G F : zF) (t : Nat) (cv : Nat → List Nat), eC (vw 45 G) (F 1) n m t t 900 cv →
    ∃ (S : Nat → zF) (N : Nat), S 0 = F ∧ (aFc (nI i) d n0 G).1 = n0 + N ∧ N ≤ d ∧ (∀ k, k < N → (∃ n m cv, mTp (S k) n m cv ∧ S (k + 1) = mTick (S k) n m cv) ∧ S k 1 0 < 500 ∧ ¬ mOf (S k) i 4 < 0) ∧ (N = d ∨ (500 ≤ S N 1 0 ∨ mOf (S N) i 4 < 0)) ∧
      (∃ t' cv', eC (vw 45 (aFc (nI i) d n0 G).2) (S N 1) n m t' t' 900 cv') ∧ eFr F (S N) n ∧ ∀ c, c < 45 ∨ 90 ≤ c → (aFc (nI i) d n0 G).2 c = G c
  | 0, n0, G, F, t, cv, hC => ⟨fun _ => F, 0, rfl, rfl, Nat.le_refl _, fun k hk => absurd hk (Nat.not_lt_zero k), Or.inl rfl, ⟨t, cv, hC⟩, eFr_x (fun _ _ => rfl) (fun _ => rfl), fun _ _ => rfl⟩
  | d + 1, n0, G, F, t, cv, hC => by
    have hn := hC.1.1.1
    have hm := hC.1.1.2.1
    have ht := hC.1.1.2.2.2
    have h45 : G 45 7 = F 1 0 := hC.1.2.2.1.2.2.2.1
    have s0 := hC.1.2.1.1
    have hl : qWa (vw 45 G) (nI i) = -1 ↔ mOf F i 4 < 0 := by
      rw [(eSh_v hC.2.2.2.1 hn hm hi).2.2.2.2.2.2.2.1]
      exact (eLeft hC.2.2.2.1 hm hi).1
    unfold aFc
    by_cases hc : G 45 7 < 500 ∧ ¬ qWa (vw 45 G) (nI i) = -1
    · rw [if_pos hc]
      have ht5 : t < 500 := by
        have := hc.1
        rw [h45, s0] at this
        exact (nI_ltI (b := 500) (by omega) (by decide)).mp this
      obtain ⟨cvs, cw, t1, t2, t3⟩ := eTick hC hm1 ht5
      have hv : vw 45 (aFt G) = fun k => if k < 45 then qOT (vw 45 G) k else vw 45 G k := by
        funext k
        unfold aFt
        show spl 45 45 G (qOT (vw 45 G)) (45 + k) = _
        by_cases hk : k < 45
        · rw [spl_in 45 45 _ _ hk, if_pos hk]
        · rw [spl_out 45 45 _ _ (by omega), if_neg hk]
          rfl
      have t2' : eC (vw 45 (aFt G)) (mTick F n m cvs 1) n m (t + 1) (t + 1) 900 cw := eC_q (eQ_44 (fun c hc => by rw [hv]; dsimp only; rw [if_pos (by omega)])) (eM_r _) t2
      obtain ⟨S, N, i1, i2, i3, i4, i5, i6, i7, i8⟩ := eUntil hi hm1 d (n0 + 1) (aFt G) (mTick F n m cvs) (t + 1) cw t2'
      refine ⟨fun k => if k = 0 then F else S (k - 1), N + 1, if_pos rfl, by rw [i2]; omega, by omega, fun k hk => ?_, ?_, ?_, ?_, fun c hc2 => ?_⟩
      · dsimp only
        rw [if_neg (show ¬ k + 1 = 0 by omega), Nat.add_sub_cancel]
        by_cases hk0 : k = 0
        · subst hk0
          rw [if_pos rfl, i1]
          refine ⟨⟨n, m, cvs, t1, rfl⟩, by rw [← h45]; exact hc.1, fun q => hc.2 (hl.mpr q)⟩
        · rw [if_neg hk0]
          have := i4 (k - 1) (by omega)
          rw [Nat.sub_add_cancel (by omega)] at this
          exact this
      · dsimp only
        rw [if_neg (by omega), Nat.add_sub_cancel]
        exact i5.imp (fun q => by omega) (fun q => q)
      · dsimp only
        rw [if_neg (by omega), Nat.add_sub_cancel]
        exact i6
      · dsimp only
        rw [if_neg (by omega), Nat.add_sub_cancel]
        exact eFr_trans t3 i7
      · rw [i8 c hc2]
        unfold aFt
        exact spl_out 45 45 _ _ (by omega)
    · rw [if_neg hc]
      refine ⟨fun _ => F, 0, rfl, rfl, Nat.zero_le _, fun k hk => absurd hk (Nat.not_lt_zero k), Or.inr ?_, ⟨t, cv, hC⟩, eFr_x (fun _ _ => rfl) (fun _ => rfl), fun _ _ => rfl⟩
      by_cases h5 : G 45 7 < 500
      · refine Or.inr (hl.mp (Classical.not_not.mp (fun q => hc ⟨h5, q⟩)))
      · refine Or.inl ?_
        rw [h45] at h5
        exact Int32.not_lt.mp h5
theorem k_untilLeft (s x : Int32) : eCall sX8_untilLeft sX9_untilLeft [.ref 495, .int s, .int x] [.ref 0, .int s, .int x] [xI, xA, xS, xE] := by
  intro Fc Fm h
  dsimp only [sX8_untilLeft, sX9_untilLeft]
  obtain ⟨n, m, tk, cv, hC⟩ := h.1
  have hC0 := hC
  obtain ⟨hS, h2, h3, h6, h7⟩ := hC
  obtain ⟨⟨hn, hm, hnm, ht⟩, ⟨s0, s1, s2, s3, s4, s5⟩, -⟩ := hS
  have hq : (0 ≤ s ∧ s ≤ Fm 1 2 - 1) ↔ (0 ≤ s ∧ s < Fc 25 9) := by rw [s2, s4]; exact eShp hn
  by_cases c1 : 0 ≤ s ∧ s < Fc 25 9
  · have c1' := hq.mpr c1
    have c1b := c1
    rw [s4] at c1b
    obtain ⟨i, hi, rfl⟩ := eI16 hn c1b
    have vi := eSh_v h6 hn hm hi
    have hl : qWa Fc (nI i) = -1 ↔ mOf Fm i 4 < 0 := by
      rw [vi.2.2.2.2.2.2.2.1]
      exact (eLeft h6 hm hi).1
    by_cases c2 : 1 ≤ x ∧ x ≤ 40
    · by_cases c3 : qWa Fc (nI i) = -1
      · exact ⟨fun _ => ⟨fun _ => ⟨fun q => absurd c3 q, fun _ => ⟨fun _ => ⟨fun _ => ⟨i, rfl, by omega, fun _ => eRs h 3 _ _ (by simp) (by decide) (by decide), fun q => absurd (hl.mp c3) q⟩, fun q => absurd c2 q⟩, fun q => absurd c1' q⟩⟩, fun q => absurd c2 q⟩, fun q => absurd c1 q⟩
      · have c3' : ¬ mOf Fm i 4 < 0 := fun q => c3 (hl.mpr q)
        have hv : eC (vw 45 (zcp Fc 45 0)) ((mCp (mT Fm) 4 1 0 197) 1) n m tk tk 900 cv := by
          refine eC_q ?_ ?_ hC0
          · have q := eQ_cp Fc 45 0
            rw [vw_0] at q
            exact q
          · intro i hi
            unfold mCp
            rw [if_neg (fun q => absurd q.1 (by decide)), mT_1]
        obtain ⟨S, N, i1, i2, i3, i4, i5, ⟨t', cv', i6⟩, i7, i8⟩ := eUntil hi (by have := hnm (by omega); omega) x.toNatClampNeg 0 (zcp Fc 45 0) (mCp (mT Fm) 4 1 0 197) tk cv hv
        rw [Nat.zero_add] at i2
        have hlN : qWa (vw 45 (aFc (nI i) x.toNatClampNeg 0 (zcp Fc 45 0)).2) (nI i) = -1 ↔ mOf (S N) i 4 < 0 := by
          rw [(eSh_v i6.2.2.2.1 hn hm hi).2.2.2.2.2.2.2.1]
          exact (eLeft i6.2.2.2.1 hm hi).1
        have hcc : ∀ c, c < 45 ∨ 90 ≤ c → (aFc (nI i) x.toNatClampNeg 0 (zcp Fc 45 0)).2 c = Fc c := fun c hc => by
          rw [i8 c hc, zcp_out _ _ _ (by omega)]
        have hmc : ∀ c, c ≠ 0 → c ≠ 1 → c ≠ 4 → c ≠ 7 → c ≠ 8 → c ≠ 9 → mCp (S N) 1 4 0 197 c = Fm c := fun c q0 q1 q4 q7 q8 q9 => by
          funext j
          unfold mCp
          rw [if_neg (fun q => q1 q.1), i7.1 c q0 q1 q7 q8 q9]
          unfold mCp
          rw [if_neg (fun q => q4 q.1)]
          unfold mT
          rw [zup_ne _ _ _ q0]
        have hm0 : ∀ j, j ≠ 14 → j ≠ 16 → j ≠ 18 → mCp (S N) 1 4 0 197 0 j = mT Fm 0 j := fun j q1 q2 q3 => by
          unfold mCp
          rw [if_neg (fun q => absurd q.1 (by decide)), i7.2.1 j q1 q2 q3]
          unfold mCp
          rw [if_neg (fun q => absurd q.1 (by decide))]
        have hm1 : eM (Fm 1) (mCp (S N) 1 4 0 197 1) := fun j hj => by
          unfold mCp
          rw [if_pos ⟨rfl, hj⟩, i7.1 4 (by decide) (by decide) (by decide) (by decide) (by decide), Nat.zero_add]
          unfold mCp
          rw [if_pos ⟨rfl, hj⟩, mT_1, Nat.zero_add]
        have hbo : eBoth (aFc (nI i) x.toNatClampNeg 0 (zcp Fc 45 0)).2 (mCp (S N) 1 4 0 197) := eBoth_c h (fun c hc => hcc c (by omega)) hm1 (hmc 2 (by decide) (by decide) (by decide) (by decide) (by decide) (by decide)) (hmc 3 (by decide) (by decide) (by decide) (by decide) (by decide) (by decide)) (hmc 5 (by decide) (by decide) (by decide) (by decide) (by decide) (by decide)) (fun j hj => by
          rw [hm0 j (by omega) (by omega) (by omega)]
          exact zup_an _ _ _ (by omega))
        by_cases c4 : mOf (S N) i 4 < 0
        · refine ⟨fun _ => ⟨fun _ => ⟨fun _ => ⟨fun _ => ⟨_, rfl, fun _ => ⟨fun _ => ⟨i, rfl, by omega, fun q => absurd q c3', fun _ => ⟨S, N, i1, i3, i4, i5, fun _ => ⟨by rw [i2], ?_, hbo⟩, fun q => absurd c4 q⟩⟩, fun q => absurd c2 q⟩, fun q => absurd c1' q⟩, fun q => absurd (hlN.mpr c4) q⟩, fun q => absurd c3 q⟩, fun q => absurd c2 q⟩, fun q => absurd c1 q⟩
          rw [hm0 0 (by decide) (by decide) (by decide)]
          exact mT_00 _
        · refine ⟨fun _ => ⟨fun _ => ⟨fun _ => ⟨fun q => absurd (hlN.mp q) c4, fun _ => ⟨fun _ => ⟨fun _ => ⟨i, rfl, by omega, fun q => absurd q c3', fun _ => ⟨S, N, i1, i3, i4, i5, fun q => absurd q c4, fun _ => ⟨⟨_, rfl⟩, ⟨by rw [zup_at]; decide, by decide, by simp⟩, eBoth_t hbo 4⟩⟩⟩, fun q => absurd c2 q⟩, fun q => absurd c1' q⟩⟩, fun q => absurd c3 q⟩, fun q => absurd c2 q⟩, fun q => absurd c1 q⟩
    · exact ⟨fun _ => ⟨fun q => absurd q c2, fun _ => ⟨fun _ => ⟨fun q => absurd q c2, fun _ => eRs h 2 _ _ (by simp) (by decide) (by decide)⟩, fun q => absurd c1' q⟩⟩, fun q => absurd c1 q⟩
  · exact ⟨fun q => absurd q c1, fun _ => ⟨fun q => absurd (hq.mp q) c1, fun _ => eRs h 1 _ _ (by simp) (by decide) (by decide)⟩⟩
end ZEr
