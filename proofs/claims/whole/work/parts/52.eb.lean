/-! THE PURE PART: a row moves on -/
section ZEb
set_option maxRecDepth 20000
theorem qMv_st {v : Int32} {u : Int32} : ∀ (R : List Nat) (G : zF), eChn G R → R.Nodup → (∀ x, x ∈ R → G 35 x + (if u = 1 then -1 else 1) = v ∧ G 33 x = u) → 0 ≤ v → v < G 8 9 →
    (∀ c, c ≠ 35 → c ≠ 37 → qMv R.length G (eHd R) c = G c) ∧ (∀ x, x ∈ R → qMv R.length G (eHd R) 35 x = v ∧ qMv R.length G (eHd R) 37 x = G 0 7 + 1) ∧ ∀ x, ¬ x ∈ R → qMv R.length G (eHd R) 35 x = G 35 x ∧ qMv R.length G (eHd R) 37 x = G 37 x
  | [], G, _, _, _, _, _ => ⟨fun c _ _ => rfl, fun x h => (nomatch h), fun x _ => ⟨rfl, rfl⟩⟩
  | x :: t, G, hc, hd, hu, h0, h1 => by
    have hd := List.nodup_cons.mp hd
    obtain ⟨hx1, hx2⟩ := hu x List.mem_cons_self
    have e : qMO G (nI x) = zup (zup G 35 x v) 37 x (G 0 7 + 1) := by
      have e1 : qNL G (nI x) = v := by
        unfold qNL
        rw [show qWa G (nI x) = G 35 x from zrd_k _ hc.1 (by decide), show qUp G (nI x) = u from (zrd_k _ hc.1 (by decide)).trans hx2]
        exact hx1
      unfold qMO
      rw [e1, if_pos ⟨h0, h1⟩, zwr_k _ _ _ hc.1 (by decide), zwr_k _ _ _ hc.1 (by decide)]
    have hG : ∀ c, c ≠ 35 → c ≠ 37 → (zup (zup G 35 x v) 37 x (G 0 7 + 1)) c = G c := fun c q1 q2 => by rw [zup_ne _ _ _ q2, zup_ne _ _ _ q1]
    have hG35 : ∀ y, y ≠ x → (zup (zup G 35 x v) 37 x (G 0 7 + 1)) 35 y = G 35 y := fun y q => by rw [zup_ne _ _ _ (by decide), zup_an _ _ _ q]
    have hG37 : ∀ y, y ≠ x → (zup (zup G 35 x v) 37 x (G 0 7 + 1)) 37 y = G 37 y := fun y q => by rw [zup_an _ _ _ q, zup_ne _ _ _ (by decide)]
    obtain ⟨i1, i2, i3⟩ := qMv_st (v := v) (u := u) t (zup (zup G 35 x v) 37 x (G 0 7 + 1)) (eChn_c _ (fun y _ => by rw [hG 43 (by decide) (by decide)]) hc.2.2) hd.2 (fun y hy => by
      have hne : y ≠ x := fun q => hd.1 (by rw [← q]; exact hy)
      rw [hG35 y hne, hG 33 (by decide) (by decide)]
      exact hu y (List.mem_cons_of_mem _ hy)) h0 (by rw [hG 8 (by decide) (by decide)]; exact h1)
    have eq : qMv (x :: t).length G (eHd (x :: t)) = qMv t.length (zup (zup G 35 x v) 37 x (G 0 7 + 1)) (eHd t) := by
      show qMv t.length (qMO G (nI x)) (qNx G (nI x)) = _
      rw [e, eNx_k hc]
    rw [eq]
    refine ⟨fun c q1 q2 => (i1 c q1 q2).trans (hG c q1 q2), fun y hy => ?_, fun y hy => ?_⟩
    · by_cases hyt : y ∈ t
      · have := i2 y hyt
        rw [hG 0 (by decide) (by decide)] at this
        exact this
      · have hyx : y = x := (List.mem_cons.mp hy).resolve_right hyt
        have := i3 y hyt
        rw [this.1, this.2, hyx, zup_ne _ _ _ (by decide), zup_at, zup_at]
        exact ⟨rfl, rfl⟩
    · have := i3 y (fun q => hy (List.mem_cons_of_mem _ q))
      have hne : y ≠ x := fun q => hy (by rw [q]; exact List.mem_cons_self)
      rw [this.1, this.2, hG35 y hne, hG37 y hne]
      exact ⟨rfl, rfl⟩
theorem qMv_lv {u : Int32} : ∀ (R : List Nat) (G : zF), eChn G R → R.Nodup → (∀ x, x ∈ R → ¬ (0 ≤ G 35 x + (if u = 1 then -1 else 1) ∧ G 35 x + (if u = 1 then -1 else 1) < G 8 9) ∧ G 33 x = u) →
    (∀ c, c ≠ 35 → c ≠ 39 → c ≠ 41 → c ≠ 43 → qMv R.length G (eHd R) c = G c) ∧ (∀ x, x ∈ R → qMv R.length G (eHd R) 35 x = -1 ∧ qMv R.length G (eHd R) 39 x = G 0 7 ∧ qMv R.length G (eHd R) 41 x = nI x ∧ qMv R.length G (eHd R) 43 x = -1) ∧ ∀ x, ¬ x ∈ R → ∀ c, qMv R.length G (eHd R) c x = G c x
  | [], G, _, _, _ => ⟨fun c _ _ _ _ => rfl, fun x h => (nomatch h), fun x _ c => rfl⟩
  | x :: t, G, hc, hd, hu => by
    have hd := List.nodup_cons.mp hd
    obtain ⟨hx1, hx2⟩ := hu x List.mem_cons_self
    have e : qMO G (nI x) = zup (zup (zup (zup G 35 x (-1)) 39 x (G 0 7)) 41 x (nI x)) 43 x (-1) := by
      have e1 : qNL G (nI x) = G 35 x + (if u = 1 then -1 else 1) := by
        unfold qNL
        rw [show qWa G (nI x) = G 35 x from zrd_k _ hc.1 (by decide), show qUp G (nI x) = u from (zrd_k _ hc.1 (by decide)).trans hx2]
      unfold qMO
      rw [e1, if_neg hx1]
      unfold qLv
      rw [zwr_k _ _ _ hc.1 (by decide), zwr_k _ _ _ hc.1 (by decide), zwr_k _ _ _ hc.1 (by decide), zwr_k _ _ _ hc.1 (by decide)]
    generalize hG2 : zup (zup (zup (zup G 35 x (-1)) 39 x (G 0 7)) 41 x (nI x)) 43 x (-1) = G2 at e
    have hG : ∀ c, c ≠ 35 → c ≠ 39 → c ≠ 41 → c ≠ 43 → G2 c = G c := fun c q1 q2 q3 q4 => by rw [← hG2, zup_ne _ _ _ q4, zup_ne _ _ _ q3, zup_ne _ _ _ q2, zup_ne _ _ _ q1]
    have hGo : ∀ y, y ≠ x → ∀ c, G2 c y = G c y := fun y q c => by
      rw [← hG2]
      simp [zup, q]
    have hGx : G2 35 x = -1 ∧ G2 39 x = G 0 7 ∧ G2 41 x = nI x ∧ G2 43 x = -1 := by
      rw [← hG2]
      simp [zup]
    have hne : ∀ y, y ∈ t → y ≠ x := fun y hy q => hd.1 (by rw [← q]; exact hy)
    obtain ⟨i1, i2, i3⟩ := qMv_lv (u := u) t G2 (eChn_c _ (fun y hy => hGo y (hne y hy) 43) hc.2.2) hd.2 (fun y hy => by
      rw [hGo y (hne y hy), hGo y (hne y hy), hG 8 (by decide) (by decide) (by decide) (by decide)]
      exact hu y (List.mem_cons_of_mem _ hy))
    have eq : qMv (x :: t).length G (eHd (x :: t)) = qMv t.length G2 (eHd t) := by
      show qMv t.length (qMO G (nI x)) (qNx G (nI x)) = _
      rw [e, eNx_k hc]
    rw [eq]
    refine ⟨fun c q1 q2 q3 q4 => (i1 c q1 q2 q3 q4).trans (hG c q1 q2 q3 q4), fun y hy => ?_, fun y hy c => ?_⟩
    · by_cases hyt : y ∈ t
      · have := i2 y hyt
        rw [hG 0 (by decide) (by decide) (by decide) (by decide)] at this
        exact this
      · have hyx : y = x := (List.mem_cons.mp hy).resolve_right hyt
        have := i3 y hyt
        rw [this, this, this, this, hyx]
        exact hGx
    · rw [i3 y (fun q => hy (List.mem_cons_of_mem _ q)), hGo y (fun q => hy (by rw [q]; exact List.mem_cons_self))]
theorem mLa_r (to : Int32) (G : zF) (s : Nat) : (∀ c, c ≠ 1 → c ≠ 9 → mLa to G s c = G c) ∧ (∀ x w, w < 9 → mOf (mLa to G s) x w = if x = s ∧ w = 5 then G 1 0 + 1 else if x = s ∧ w = 4 then to else mOf G x w) ∧ (∀ x, mLa to G s 9 x = if x = s then 1 else G 9 x) ∧ ∀ i, i < 53 → mLa to G s 1 i = G 1 i := by
  unfold mLa
  refine ⟨fun c h1 h2 => by rw [zup_ne _ _ _ h1, zup_ne _ _ _ h1, zup_ne _ _ _ h2], fun x w hw => ?_, fun x => ?_, fun i hi => ?_⟩
  · rw [mOf_zup _ _ _ _ (by decide) hw, mOf_zup _ _ _ _ (by decide) hw]
    have e : mOf (zup G 9 s 1) x w = mOf G x w := by unfold mOf; rw [zup_ne _ _ _ (by decide)]
    rw [e]
  · rw [zup_ne _ _ _ (by decide), zup_ne _ _ _ (by decide)]
    by_cases h : x = s
    · rw [if_pos h, h, zup_at]
    · rw [if_neg h, zup_an _ _ _ h]
  · rw [zup_an _ _ _ (by omega), zup_an _ _ _ (by omega), zup_ne _ _ _ (by decide)]
theorem mLr_st (to : Int32) : ∀ (R : List Nat) (G : zF), R.Nodup →
    (∀ c, c ≠ 1 → c ≠ 9 → mLr false to R G c = G c) ∧ (∀ x, x ∈ R → mOf (mLr false to R G) x 4 = to ∧ mOf (mLr false to R G) x 5 = G 1 0 + 1 ∧ mLr false to R G 9 x = 1) ∧ (∀ x w, w < 9 → (¬ x ∈ R ∨ (w ≠ 4 ∧ w ≠ 5)) → mOf (mLr false to R G) x w = mOf G x w) ∧ (∀ x, ¬ x ∈ R → mLr false to R G 9 x = G 9 x) ∧ ∀ i, i < 53 → mLr false to R G 1 i = G 1 i
  | [], G, _ => ⟨fun c _ _ => rfl, fun x h => (nomatch h), fun x w _ _ => rfl, fun x _ => rfl, fun i _ => rfl⟩
  | s :: t, G, hd => by
    have hd := List.nodup_cons.mp hd
    obtain ⟨a1, a2, a3, a4⟩ := mLa_r to G s
    obtain ⟨i1, i2, i3, i4, i5⟩ := mLr_st to t (mLa to G s) hd.2
    have eq : mLr false to (s :: t) G = mLr false to t (mLa to G s) := rfl
    rw [eq]
    refine ⟨fun c h1 h2 => (i1 c h1 h2).trans (a1 c h1 h2), fun x hx => ?_, fun x w hw hx => ?_, fun x hx => ?_, fun i hi => (i5 i hi).trans (a4 i hi)⟩
    · by_cases hxt : x ∈ t
      · have := i2 x hxt
        rw [a4 0 (by decide)] at this
        exact this
      · have hxs : x = s := (List.mem_cons.mp hx).resolve_right hxt
        rw [i3 x 4 (by decide) (Or.inl hxt), i3 x 5 (by decide) (Or.inl hxt), i4 x hxt, a2 x 4 (by decide), a2 x 5 (by decide), a3 x, if_neg (fun q => absurd q.2 (by decide)), if_pos ⟨hxs, rfl⟩, if_pos ⟨hxs, rfl⟩, if_pos hxs]
        exact ⟨rfl, rfl, rfl⟩
    · rw [i3 x w hw (hx.imp (fun q q2 => q (List.mem_cons_of_mem _ q2)) (fun q => q)), a2 x w hw, if_neg, if_neg]
      · rintro ⟨q1, q2⟩
        rcases hx with hx | hx
        · exact hx (by rw [q1]; exact List.mem_cons_self)
        · exact hx.1 q2
      · rintro ⟨q1, q2⟩
        rcases hx with hx | hx
        · exact hx (by rw [q1]; exact List.mem_cons_self)
        · exact hx.2 q2
    · rw [i4 x (fun q => hx (List.mem_cons_of_mem _ q)), a3 x, if_neg (fun q => hx (by rw [q]; exact List.mem_cons_self))]
theorem mLb_r (G : zF) (s : Nat) : (∀ c, c ≠ 1 → c ≠ 9 → c ≠ 0 → mLb G s c = G c) ∧ (∀ x w, w < 9 → mOf (mLb G s) x w = if x = s ∧ w = 8 then G 1 0 else if x = s ∧ w = 7 then 0 else if x = s ∧ w = 6 then nI s else if x = s ∧ w = 5 then G 1 0 + 1 else if x = s ∧ w = 4 then -1 else mOf G x w) ∧ (∀ x, mLb G s 9 x = if x = s then 1 else G 9 x) ∧ (∀ i, i < 53 → mLb G s 1 i = G 1 i) ∧ mLb G s 0 18 = G 0 18 + 1 ∧ ∀ i, i ≠ 18 → mLb G s 0 i = G 0 i := by
  obtain ⟨a1, a2, a3, a4⟩ := mLa_r (-1) G s
  unfold mLb
  refine ⟨fun c h1 h2 h3 => ?_, fun x w hw => ?_, fun x => ?_, fun i hi => ?_, zup_at _ _ _ _, fun i hi => ?_⟩
  · rw [zup_ne _ _ _ h3, zup_ne _ _ _ h1, zup_ne _ _ _ h1, zup_ne _ _ _ h1, a1 c h1 h2]
  · have e : ∀ Q : zF, ∀ y, mOf (zup Q 0 18 y) x w = mOf Q x w := fun Q y => by unfold mOf; rw [zup_ne _ _ _ (by decide)]
    rw [e, mOf_zup _ _ _ _ (by decide) hw, mOf_zup _ _ _ _ (by decide) hw, mOf_zup _ _ _ _ (by decide) hw, a2 x w hw]
  · rw [zup_ne _ _ _ (by decide), zup_ne _ _ _ (by decide), zup_ne _ _ _ (by decide), zup_ne _ _ _ (by decide), a3 x]
  · rw [zup_ne _ _ _ (by decide), zup_an _ _ _ (by omega), zup_an _ _ _ (by omega), zup_an _ _ _ (by omega), a4 i hi]
  · rw [zup_an _ _ _ hi, zup_ne _ _ _ (by decide), zup_ne _ _ _ (by decide), zup_ne _ _ _ (by decide), a1 0 (by decide) (by decide)]
theorem mLr_lv (to : Int32) : ∀ (R : List Nat) (G : zF), R.Nodup →
    (∀ c, c ≠ 1 → c ≠ 9 → c ≠ 0 → mLr true to R G c = G c) ∧ (∀ x, x ∈ R → mOf (mLr true to R G) x 4 = -1 ∧ mOf (mLr true to R G) x 6 = nI x ∧ mOf (mLr true to R G) x 7 = 0 ∧ mOf (mLr true to R G) x 8 = G 1 0 ∧ mLr true to R G 9 x = 1) ∧ (∀ x w, w < 9 → (¬ x ∈ R ∨ w < 4) → mOf (mLr true to R G) x w = mOf G x w) ∧ (∀ x, ¬ x ∈ R → mLr true to R G 9 x = G 9 x) ∧ (∀ i, i < 53 → mLr true to R G 1 i = G 1 i) ∧ mLr true to R G 0 18 = G 0 18 + nI R.length ∧ ∀ i, i ≠ 18 → mLr true to R G 0 i = G 0 i
  | [], G, _ => ⟨fun c _ _ _ => rfl, fun x h => (nomatch h), fun x w _ _ => rfl, fun x _ => rfl, fun i _ => rfl, (Int32.add_zero _).symm, fun i _ => rfl⟩
  | s :: t, G, hd => by
    have hd := List.nodup_cons.mp hd
    obtain ⟨a1, a2, a3, a4, a5, a6⟩ := mLb_r G s
    obtain ⟨i1, i2, i3, i4, i5, i6, i7⟩ := mLr_lv to t (mLb G s) hd.2
    have eq : mLr true to (s :: t) G = mLr true to t (mLb G s) := rfl
    rw [eq]
    refine ⟨fun c h1 h2 h3 => (i1 c h1 h2 h3).trans (a1 c h1 h2 h3), fun x hx => ?_, fun x w hw hx => ?_, fun x hx => ?_, fun i hi => (i5 i hi).trans (a4 i hi), ?_, fun i hi => (i7 i hi).trans (a6 i hi)⟩
    · by_cases hxt : x ∈ t
      · have := i2 x hxt
        rw [a4 0 (by decide)] at this
        exact this
      · have hxs : x = s := (List.mem_cons.mp hx).resolve_right hxt
        rw [i3 x 4 (by decide) (Or.inl hxt), i3 x 6 (by decide) (Or.inl hxt), i3 x 7 (by decide) (Or.inl hxt), i3 x 8 (by decide) (Or.inl hxt), i4 x hxt, a2 x 4 (by decide), a2 x 6 (by decide), a2 x 7 (by decide), a2 x 8 (by decide), a3 x, hxs]
        simp
    · rw [i3 x w hw (hx.imp (fun q q2 => q (List.mem_cons_of_mem _ q2)) (fun q => q)), a2 x w hw]
      rcases hx with hx | hx
      · have hne : x ≠ s := fun q => hx (by rw [q]; exact List.mem_cons_self)
        simp [hne]
      · rw [if_neg (by omega), if_neg (by omega), if_neg (by omega), if_neg (by omega), if_neg (by omega)]
    · rw [i4 x (fun q => hx (List.mem_cons_of_mem _ q)), a3 x, if_neg (fun q => hx (by rw [q]; exact List.mem_cons_self))]
    · rw [i6, a5, List.length_cons, ← nI_1, Int32.add_assoc, Int32.add_comm 1]
theorem mRw_take (F : zF) (len : Int32) : ∀ (L : List Nat) (a : Int32), mRw F len L a = L.take (mRw F len L a).length
  | [], _ => rfl
  | s :: t, a => by
    unfold mRw
    split
    · rw [List.length_cons, List.take_succ_cons, ← mRw_take F len t (a + mOf F s 0)]
    · rfl
end ZEb
