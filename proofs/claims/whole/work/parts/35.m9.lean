/-! one tick of the reference -/
section ZM9
set_option maxRecDepth 20000
def zi3 (h : Nat) (I : zJ) (h' : Nat) (I' : zJ) (h2 : Nat) (I2 : zJ) : Nat → Option zJ := fun pc => match Nat.beq pc h with
  | true => some I
  | false => zi2 h' I' h2 I2 pc
theorem zthree {Y : zM} {ok : zO} {ex : zX} {h h' h2 : Nat} {I I' I2 : zJ} (hI : ∀ ls st kc ks F, I ls st kc ks F → zWP Y ok ex h ls st kc ks F) (hI' : ∀ ls st kc ks F, I' ls st kc ks F → zWP Y ok ex h' ls st kc ks F) (hI2 : ∀ ls st kc ks F, I2 ls st kc ks F → zWP Y ok ex h2 ls st kc ks F) : ∀ t J, zi3 h I h' I' h2 I2 t = some J → ∀ ls st kc ks F, J ls st kc ks F → zWP Y ok ex t ls st kc ks F := by
  intro t J hJ
  unfold zi3 at hJ
  split at hJ
  · rename_i hb
    have hb := Nat.eq_of_beq_eq_true hb
    subst hb
    cases hJ
    exact hI
  · exact ztwo hI' hI2 t J hJ
def mCl (F : zF) (k : Nat) : zF := fun c i => if c = 9 ∧ i < k then 0 else F c i
theorem mCl_0 (F : zF) : mCl F 0 = F := by
  funext c i
  unfold mCl
  rw [if_neg (by omega)]
theorem mCl_s (F : zF) (k : Nat) : zup (mCl F k) 9 k 0 = mCl F (k + 1) := by
  funext c i
  unfold zup mCl
  by_cases hc : c = 9
  · subst hc
    by_cases hi : i = k
    · subst hi
      rw [if_pos rfl, if_pos rfl, if_pos ⟨rfl, by omega⟩]
    · rw [if_pos rfl, if_neg hi]
      by_cases h2 : i < k
      · rw [if_pos ⟨rfl, h2⟩, if_pos ⟨rfl, by omega⟩]
      · rw [if_neg (fun h0 => h2 h0.2), if_neg (fun h0 => h2 (by omega))]
  · rw [if_neg hc, if_neg (fun h0 => hc h0.1), if_neg (fun h0 => hc h0.1)]
def mTw (F : zF) (n : Nat) (cv : Nat → Nat → List Nat) : Nat → zF
  | 0 => mCl F 16
  | k + 1 => mWk (mTw F n cv k) n k (cv k)
def mSl (G : zF) (m r : Nat) : zF := if mLev G r ≤ G 1 (10 + 3 * r + 1) then G else
  if r + 1 = m then zup (zup G 1 (10 + 3 * r + 2) (G 1 (10 + 3 * r + 2) - (G 1 (10 + 3 * r + 2) - G 1 (10 + 3 * r) * G 1 (10 + 3 * r + 1)))) 1 7 (G 1 7 + (G 1 (10 + 3 * r + 2) - G 1 (10 + 3 * r) * G 1 (10 + 3 * r + 1)))
  else zup (zup G 1 (10 + 3 * r + 2) (G 1 (10 + 3 * r + 2) - (G 1 (10 + 3 * r + 2) - G 1 (10 + 3 * r) * G 1 (10 + 3 * r + 1)))) 1 (10 + 3 * r + 5) (G 1 (10 + 3 * r + 5) + (G 1 (10 + 3 * r + 2) - G 1 (10 + 3 * r) * G 1 (10 + 3 * r + 1)))
def mSls (G : zF) (m : Nat) : Nat → zF
  | 0 => G
  | r + 1 => mSl (mSls G m r) m r
def mInf (G : zF) : zF := zup (zup G 1 12 (G 1 12 + G 1 5)) 1 6 (G 1 6 + G 1 5)
def mTe (G : zF) (m : Nat) : zF := zup (mSls (mInf G) m m) 1 0 (mSls (mInf G) m m 1 0 + 1)
def mTick (F : zF) (n m : Nat) (cv : Nat → Nat → List Nat) : zF := mTe (mTw F n cv (m - 1)) m
def mTp (F : zF) (n m : Nat) (cv : Nat → Nat → List Nat) : Prop := 1 ≤ m ∧ m ≤ 5 ∧ (∀ k, k + 1 < m → mWp (mTw F n cv k) n k (cv k)) ∧ (∀ k, k < m → mTw F n cv k 1 1 = nI m) ∧ ∀ r, r < m → ¬ mTw F n cv (m - 1) 1 (10 + 3 * r) = 0
def sX9_ticks : zSp := fun as F ok _ => match as with
  | [.ref 0] => ∃ n m cv, mTp F n m cv ∧ ok none (mTick F n m cv)
  | _ => False
theorem mSl_at (G : zF) (m r : Nat) {i : Nat} (h1 : i ≠ 7) (h2 : ∀ j, i ≠ 10 + 3 * j + 2) : mSl G m r 1 i = G 1 i := by
  have h3 := h2 (r + 1)
  unfold mSl
  split
  · rfl
  · split
    · rw [zup_an _ _ _ h1, zup_an _ _ _ (h2 r)]
    · rw [zup_an _ _ _ (by omega), zup_an _ _ _ (h2 r)]
theorem mSls_at (G : zF) (m : Nat) {i : Nat} (h1 : i ≠ 7) (h2 : ∀ j, i ≠ 10 + 3 * j + 2) : ∀ r, mSls G m r 1 i = G 1 i
  | 0 => rfl
  | r + 1 => (mSl_at _ _ _ h1 h2).trans (mSls_at G m h1 h2 r)
theorem mInf_at (G : zF) {i : Nat} (h1 : i ≠ 6) (h2 : i ≠ 12) : mInf G 1 i = G 1 i := by
  unfold mInf
  rw [zup_an _ _ _ h1, zup_an _ _ _ h2]
theorem ix_re5 (s : Nat) : 10 + 3 * nI s + 5 = nI (10 + 3 * s + 5) := by rw [ix_re, show (5 : Int32) = nI 5 from rfl, nI_add]

def kX9_ticks : List zI := [
  (0, 1, .iconst 0, [], 0),
  (1, 1, .istore_n 1, [], 0),
  (2, 1, .iload_n 1, [], 0),
  (3, 2, .bipush 16, [], 16),
  (5, 3, .if_icmp .ge 16, [21], 0),
  (8, 1, .aload_n 0, [], 0),
  (9, 3, .getfield 38, [], 0),
  (12, 1, .iload_n 1, [], 0),
  (13, 1, .iconst 0, [], 0),
  (14, 1, .bastore, [], 0),
  (15, 3, .iinc 1 1, [], 1),
  (18, 3, .goto (-16), [2], 0),
  (21, 1, .iconst 0, [], 0),
  (22, 1, .istore_n 1, [], 0),
  (23, 1, .iload_n 1, [], 0),
  (24, 1, .aload_n 0, [], 0),
  (25, 3, .getfield 9, [], 0),
  (28, 1, .iconst 1, [], 1),
  (29, 1, .iaload, [], 0),
  (30, 1, .iconst 1, [], 1),
  (31, 1, .isub, [], 0),
  (32, 3, .if_icmp .ge 14, [46], 0),
  (35, 1, .aload_n 0, [], 0),
  (36, 1, .iload_n 1, [], 0),
  (37, 3, .invokevirtual 193, [], 0),
  (40, 3, .iinc 1 1, [], 1),
  (43, 3, .goto (-20), [23], 0),
  (46, 1, .aload_n 0, [], 0),
  (47, 3, .getfield 9, [], 0),
  (50, 2, .bipush 12, [], 12),
  (52, 1, .dup2, [], 0),
  (53, 1, .iaload, [], 0),
  (54, 1, .aload_n 0, [], 0),
  (55, 3, .getfield 9, [], 0),
  (58, 1, .iconst 5, [], 5),
  (59, 1, .iaload, [], 0),
  (60, 1, .iadd, [], 0),
  (61, 1, .iastore, [], 0),
  (62, 1, .aload_n 0, [], 0),
  (63, 3, .getfield 9, [], 0),
  (66, 2, .bipush 6, [], 6),
  (68, 1, .dup2, [], 0),
  (69, 1, .iaload, [], 0),
  (70, 1, .aload_n 0, [], 0),
  (71, 3, .getfield 9, [], 0),
  (74, 1, .iconst 5, [], 5),
  (75, 1, .iaload, [], 0),
  (76, 1, .iadd, [], 0),
  (77, 1, .iastore, [], 0),
  (78, 1, .iconst 0, [], 0),
  (79, 1, .istore_n 1, [], 0),
  (80, 1, .iload_n 1, [], 0),
  (81, 1, .aload_n 0, [], 0),
  (82, 3, .getfield 9, [], 0),
  (85, 1, .iconst 1, [], 1),
  (86, 1, .iaload, [], 0),
  (87, 3, .if_icmp .ge 110, [197], 0),
  (90, 2, .bipush 10, [], 10),
  (92, 1, .iconst 3, [], 3),
  (93, 1, .iload_n 1, [], 0),
  (94, 1, .imul, [], 0),
  (95, 1, .iadd, [], 0),
  (96, 1, .istore_n 2, [], 0),
  (97, 1, .aload_n 0, [], 0),
  (98, 1, .iload_n 1, [], 0),
  (99, 3, .invokevirtual 65, [], 0),
  (102, 1, .aload_n 0, [], 0),
  (103, 3, .getfield 9, [], 0),
  (106, 1, .iload_n 2, [], 0),
  (107, 1, .iconst 1, [], 1),
  (108, 1, .iadd, [], 0),
  (109, 1, .iaload, [], 0),
  (110, 3, .if_icmp .gt 6, [116], 0),
  (113, 3, .goto 78, [191], 0),
  (116, 1, .aload_n 0, [], 0),
  (117, 3, .getfield 9, [], 0),
  (120, 1, .iload_n 2, [], 0),
  (121, 1, .iconst 2, [], 2),
  (122, 1, .iadd, [], 0),
  (123, 1, .iaload, [], 0),
  (124, 1, .aload_n 0, [], 0),
  (125, 3, .getfield 9, [], 0),
  (128, 1, .iload_n 2, [], 0),
  (129, 1, .iaload, [], 0),
  (130, 1, .aload_n 0, [], 0),
  (131, 3, .getfield 9, [], 0),
  (134, 1, .iload_n 2, [], 0),
  (135, 1, .iconst 1, [], 1),
  (136, 1, .iadd, [], 0),
  (137, 1, .iaload, [], 0),
  (138, 1, .imul, [], 0),
  (139, 1, .isub, [], 0),
  (140, 1, .istore_n 3, [], 0),
  (141, 1, .aload_n 0, [], 0),
  (142, 3, .getfield 9, [], 0),
  (145, 1, .iload_n 2, [], 0),
  (146, 1, .iconst 2, [], 2),
  (147, 1, .iadd, [], 0),
  (148, 1, .dup2, [], 0),
  (149, 1, .iaload, [], 0),
  (150, 1, .iload_n 3, [], 0),
  (151, 1, .isub, [], 0),
  (152, 1, .iastore, [], 0),
  (153, 1, .iload_n 1, [], 0),
  (154, 1, .aload_n 0, [], 0),
  (155, 3, .getfield 9, [], 0),
  (158, 1, .iconst 1, [], 1),
  (159, 1, .iaload, [], 0),
  (160, 1, .iconst 1, [], 1),
  (161, 1, .isub, [], 0),
  (162, 3, .if_icmp .ne 17, [179], 0),
  (165, 1, .aload_n 0, [], 0),
  (166, 3, .getfield 9, [], 0),
  (169, 2, .bipush 7, [], 7),
  (171, 1, .dup2, [], 0),
  (172, 1, .iaload, [], 0),
  (173, 1, .iload_n 3, [], 0),
  (174, 1, .iadd, [], 0),
  (175, 1, .iastore, [], 0),
  (176, 3, .goto 15, [191], 0),
  (179, 1, .aload_n 0, [], 0),
  (180, 3, .getfield 9, [], 0),
  (183, 1, .iload_n 2, [], 0),
  (184, 1, .iconst 5, [], 5),
  (185, 1, .iadd, [], 0),
  (186, 1, .dup2, [], 0),
  (187, 1, .iaload, [], 0),
  (188, 1, .iload_n 3, [], 0),
  (189, 1, .iadd, [], 0),
  (190, 1, .iastore, [], 0),
  (191, 3, .iinc 1 1, [], 1),
  (194, 3, .goto (-114), [80], 0),
  (197, 1, .aload_n 0, [], 0),
  (198, 3, .getfield 9, [], 0),
  (201, 1, .iconst 0, [], 0),
  (202, 1, .dup2, [], 0),
  (203, 1, .iaload, [], 0),
  (204, 1, .iconst 1, [], 1),
  (205, 1, .iadd, [], 0),
  (206, 1, .iastore, [], 0),
  (207, 1, .return_, [], 0)]
theorem kX9_ticks_ok : kX9_ticks.all (zck cX9_ticks) = true := by decide +kernel

def rX9_ticks : Room := { frames := 5, cells := 0, slots := 0, locals := 121 }
abbrev YX9_ticks : zM := (RX9, cX9_ticks, 4, none, rX9_ticks, UM, zlk fX9, zcs [(193, 2, 0, 0, zvs (UM) 9 (sX9_works)), (65, 2, 0, 0, zvs (UM) 9 (sX9_level))] [])
theorem YX9_ticks_ok : zYok (YX9_ticks) := zYok_of fX9_ok (zall (zcal_mono (zcalV (Y := YX9_ticks) (y := yX9_works) (cc := cX9_works) (nL := 5) (ret := none) (rm := rX9_works) (mX9_works) 193 1 9 (T := TX9) rfl wX9_193 ⟨by decide +kernel, by decide +kernel, by decide +kernel⟩ (by decide) ⟨Nat.le_of_ble_eq_true rfl, Nat.le_of_ble_eq_true rfl⟩) (fun _ _ _ _ h => zvs_P h)) (zall (zcal_mono (zcalV (Y := YX9_ticks) (y := yX9_level) (cc := cX9_level) (nL := 2) (ret := some .int) (rm := rX9_level) (mX9_level) 65 1 9 (T := TX9) rfl wX9_65 ⟨by decide +kernel, by decide +kernel, by decide +kernel⟩ (by decide) ⟨Nat.le_of_ble_eq_true rfl, Nat.le_of_ble_eq_true rfl⟩) (fun _ _ _ _ h => zvs_P h)) znil)) znil

theorem lX9_tick3 (ok : zO) (ex : zX) (G : zF) (m : Nat) (hm : m ≤ 5) (h1 : G 1 1 = nI m) (ha : ∀ r, r < m → ¬ G 1 (10 + 3 * r) = 0) (h : ok none (zup (mSls G m m) 1 0 (mSls G m m 1 0 + 1))) : ∀ (d r : Nat) (w2 w3 : Option Value), r + d = m → zWP YX9_ticks ok ex 80 [some (.ref 0), some (.int (nI r)), w2, w3] [] 0 0 (mSls G m r) := by
  intro d
  induction d with
  | zero =>
    intro r w2 w3 hr
    have hr : r = m := hr
    subst hr
    refine zat_ok YX9_ticks_ok (inv := zi3 2 (fun ls st kc ks G => zWP YX9_ticks ok ex 2 ls st kc ks G) 23 (fun ls st kc ks G => zWP YX9_ticks ok ex 23 ls st kc ks G) 80 (fun ls st kc ks G => zWP YX9_ticks ok ex 80 ls st kc ks G)) (zthree (fun _ _ _ _ _ h => h) (fun _ _ _ _ _ h => h) (fun _ _ _ _ _ h => h)) kX9_ticks (List.all_eq_true.mp kX9_ticks_ok) 80 _ _ _ _ _ ?_
    refine Exists.intro (zix (k := 1) rfl (by decide) (by decide)) ?_
    refine And.intro (fun _ => ?_) (fun g => absurd ?_ g)
    · refine Exists.intro (zix (k := 0) rfl (by decide) (by decide)) ?_
      refine Exists.intro (zix (k := 0) rfl (by decide) (by decide)) ?_
      exact h
    · show mSls G r r 1 1 ≤ nI r
      rw [mSls_at G r (by decide) (by omega), h1]
      exact nI_le (Nat.le_refl _) (by omega)
  | succ d ih =>
    intro r w2 w3 hr
    have ih := fun w2 w3 => ih (r + 1) w2 w3 (by omega)
    rw [← nI_1] at ih
    have e1 : mSls G m r 1 1 = nI m := by rw [mSls_at G m (by decide) (by omega), h1]
    have ea : ¬ mSls G m r 1 (10 + 3 * r) = 0 := by
      rw [mSls_at G m (by omega) (by omega)]
      exact ha r (by omega)
    have es : mSls G m (r + 1) = mSl (mSls G m r) m r := rfl
    rw [es] at ih
    generalize mSls G m r = S at ih e1 ea
    have c0 : (10 + 3 * nI r).toNatClampNeg = 10 + 3 * r := zicl (ix_re r) (by omega)
    have c1 : (10 + 3 * nI r + 1).toNatClampNeg = 10 + 3 * r + 1 := zicl (ix_re1 r) (by omega)
    have c2 : (10 + 3 * nI r + 2).toNatClampNeg = 10 + 3 * r + 2 := zicl (ix_re2 r) (by omega)
    have c5 : (10 + 3 * nI r + 5).toNatClampNeg = 10 + 3 * r + 5 := zicl (ix_re5 r) (by omega)
    refine zat_ok YX9_ticks_ok (inv := zi3 2 (fun ls st kc ks G => zWP YX9_ticks ok ex 2 ls st kc ks G) 23 (fun ls st kc ks G => zWP YX9_ticks ok ex 23 ls st kc ks G) 80 (fun ls st kc ks G => zWP YX9_ticks ok ex 80 ls st kc ks G)) (zthree (fun _ _ _ _ _ h => h) (fun _ _ _ _ _ h => h) (fun _ _ _ _ _ h => h)) kX9_ticks (List.all_eq_true.mp kX9_ticks_ok) 80 _ _ _ _ _ ?_
    refine Exists.intro (zix (k := 1) rfl (by decide) (by decide)) ?_
    refine And.intro (fun g => absurd ?_ (nI_ge (a := r) (b := m) (by omega) (by omega))) (fun _ => ?_)
    · have g : S 1 1 ≤ nI r := g
      rw [e1] at g
      exact g
    refine ⟨r, rfl, by omega, ea, ?_⟩
    refine Exists.intro (zix (ix_re1 r) (by omega) (by decide)) ?_
    refine And.intro (fun g => ?_) (fun g => ?_)
    · have g : S 1 (10 + 3 * nI r + 1).toNatClampNeg < mLev S r := g
      rw [c1] at g
      have e2 : ¬ mLev S r ≤ S 1 (10 + 3 * r + 1) := Int32.not_le.mpr g
      refine Exists.intro (zix (ix_re2 r) (by omega) (by decide)) ?_
      refine Exists.intro (zix (ix_re r) (by omega) (by decide)) ?_
      refine Exists.intro (zix (ix_re1 r) (by omega) (by decide)) ?_
      refine Exists.intro (zix (ix_re2 r) (by omega) (by decide)) ?_
      refine Exists.intro (zix (ix_re2 r) (by omega) (by decide)) ?_
      refine Exists.intro (zix (k := 1) rfl (by decide) (by decide)) ?_
      have hq : nI m - 1 = nI (m - 1) := by
        have h9 : nI (m - 1 + 1) - 1 = nI (m - 1) := nI_pred (m - 1)
        rw [Nat.sub_add_cancel (by omega)] at h9
        exact h9
      refine And.intro (fun g2 => ?_) (fun g2 => ?_)
      · have g2 : ¬ nI r = zup S 1 (10 + 3 * nI r + 2).toNatClampNeg (S 1 (10 + 3 * nI r + 2).toNatClampNeg - (S 1 (10 + 3 * nI r + 2).toNatClampNeg - S 1 (10 + 3 * nI r).toNatClampNeg * S 1 (10 + 3 * nI r + 1).toNatClampNeg)) 1 1 - 1 := g2
        rw [zup_an _ _ _ (by rw [c2]; omega), e1, hq, nI_eq (by omega) (by omega)] at g2
        have e3 : mSl S m r = zup (zup S 1 (10 + 3 * nI r + 2).toNatClampNeg (S 1 (10 + 3 * nI r + 2).toNatClampNeg - (S 1 (10 + 3 * nI r + 2).toNatClampNeg - S 1 (10 + 3 * nI r).toNatClampNeg * S 1 (10 + 3 * nI r + 1).toNatClampNeg))) 1 (10 + 3 * nI r + 5).toNatClampNeg (zup S 1 (10 + 3 * nI r + 2).toNatClampNeg (S 1 (10 + 3 * nI r + 2).toNatClampNeg - (S 1 (10 + 3 * nI r + 2).toNatClampNeg - S 1 (10 + 3 * nI r).toNatClampNeg * S 1 (10 + 3 * nI r + 1).toNatClampNeg)) 1 (10 + 3 * nI r + 5).toNatClampNeg + (S 1 (10 + 3 * nI r + 2).toNatClampNeg - S 1 (10 + 3 * nI r).toNatClampNeg * S 1 (10 + 3 * nI r + 1).toNatClampNeg)) := by
          unfold mSl
          rw [if_neg e2, if_neg (by omega), c0, c1, c2, c5]
          congr 1
          rw [zup_an _ _ _ (show 10 + 3 * r + 5 ≠ 10 + 3 * r + 2 by omega)]
        rw [e3] at ih
        refine Exists.intro (zix (ix_re5 r) (by omega) (by decide)) ?_
        refine Exists.intro (zix (ix_re5 r) (by omega) (by decide)) ?_
        exact ih _ _
      · have g2 : nI r = zup S 1 (10 + 3 * nI r + 2).toNatClampNeg (S 1 (10 + 3 * nI r + 2).toNatClampNeg - (S 1 (10 + 3 * nI r + 2).toNatClampNeg - S 1 (10 + 3 * nI r).toNatClampNeg * S 1 (10 + 3 * nI r + 1).toNatClampNeg)) 1 1 - 1 := g2
        rw [zup_an _ _ _ (by rw [c2]; omega), e1, hq, nI_eq (by omega) (by omega)] at g2
        have e3 : mSl S m r = zup (zup S 1 (10 + 3 * nI r + 2).toNatClampNeg (S 1 (10 + 3 * nI r + 2).toNatClampNeg - (S 1 (10 + 3 * nI r + 2).toNatClampNeg - S 1 (10 + 3 * nI r).toNatClampNeg * S 1 (10 + 3 * nI r + 1).toNatClampNeg))) 1 7 (zup S 1 (10 + 3 * nI r + 2).toNatClampNeg (S 1 (10 + 3 * nI r + 2).toNatClampNeg - (S 1 (10 + 3 * nI r + 2).toNatClampNeg - S 1 (10 + 3 * nI r).toNatClampNeg * S 1 (10 + 3 * nI r + 1).toNatClampNeg)) 1 7 + (S 1 (10 + 3 * nI r + 2).toNatClampNeg - S 1 (10 + 3 * nI r).toNatClampNeg * S 1 (10 + 3 * nI r + 1).toNatClampNeg)) := by
          unfold mSl
          rw [if_neg e2, if_pos (by omega), c0, c1, c2]
          congr 1
          rw [zup_an _ _ _ (show 7 ≠ 10 + 3 * r + 2 by omega)]
        rw [e3] at ih
        refine Exists.intro (zix (k := 7) rfl (by decide) (by decide)) ?_
        refine Exists.intro (zix (k := 7) rfl (by decide) (by decide)) ?_
        exact ih _ _
    · have g : ¬ S 1 (10 + 3 * nI r + 1).toNatClampNeg < mLev S r := g
      rw [c1] at g
      have e2 : mSl S m r = S := if_pos (Int32.not_lt.mp g)
      rw [e2] at ih
      exact ih _ _

theorem lX9_tick2 (ok : zO) (ex : zX) (F : zF) (n m : Nat) (cv : Nat → Nat → List Nat) (hp : mTp F n m cv) (h : ok none (mTick F n m cv)) : ∀ (d k : Nat), k + d = m - 1 → zWP YX9_ticks ok ex 23 [some (.ref 0), some (.int (nI k)), none, none] [] 0 0 (mTw F n cv k) := by
  obtain ⟨hm0, hm5, hw, h1, ha⟩ := hp
  have hq : nI m - 1 = nI (m - 1) := by
    have h9 : nI (m - 1 + 1) - 1 = nI (m - 1) := nI_pred (m - 1)
    rw [Nat.sub_add_cancel (by omega)] at h9
    exact h9
  intro d
  induction d with
  | zero =>
    intro k hk
    have hk : k = m - 1 := hk
    have e1 := h1 k (by omega)
    rw [← hk] at ha
    unfold mTick at h
    rw [← hk] at h
    generalize mTw F n cv k = G at h e1 ha
    refine zat_ok YX9_ticks_ok (inv := zi3 2 (fun ls st kc ks G => zWP YX9_ticks ok ex 2 ls st kc ks G) 23 (fun ls st kc ks G => zWP YX9_ticks ok ex 23 ls st kc ks G) 80 (fun ls st kc ks G => zWP YX9_ticks ok ex 80 ls st kc ks G)) (zthree (fun _ _ _ _ _ h => h) (fun _ _ _ _ _ h => h) (fun _ _ _ _ _ h => h)) kX9_ticks (List.all_eq_true.mp kX9_ticks_ok) 23 _ _ _ _ _ ?_
    refine Exists.intro (zix (k := 1) rfl (by decide) (by decide)) ?_
    refine And.intro (fun _ => ?_) (fun g => absurd ?_ g)
    · refine Exists.intro (zix (k := 12) rfl (by decide) (by decide)) ?_
      refine Exists.intro (zix (k := 5) rfl (by decide) (by decide)) ?_
      refine Exists.intro (zix (k := 12) rfl (by decide) (by decide)) ?_
      refine Exists.intro (zix (k := 6) rfl (by decide) (by decide)) ?_
      refine Exists.intro (zix (k := 5) rfl (by decide) (by decide)) ?_
      refine Exists.intro (zix (k := 6) rfl (by decide) (by decide)) ?_
      exact lX9_tick3 ok ex (mInf G) m hm5 (by rw [mInf_at G (by decide) (by decide)]; exact e1) (fun r hr => by rw [mInf_at G (by omega) (by omega)]; exact ha r hr) h m 0 none none (Nat.zero_add _)
    · show G 1 1 - 1 ≤ nI k
      rw [e1, hq, hk]
      exact nI_le (Nat.le_refl _) (by omega)
  | succ d ih =>
    intro k hk
    have ih := ih (k + 1) (by omega)
    rw [← nI_1] at ih
    have e1 := h1 k (by omega)
    have ew := hw k (by omega)
    refine zat_ok YX9_ticks_ok (inv := zi3 2 (fun ls st kc ks G => zWP YX9_ticks ok ex 2 ls st kc ks G) 23 (fun ls st kc ks G => zWP YX9_ticks ok ex 23 ls st kc ks G) 80 (fun ls st kc ks G => zWP YX9_ticks ok ex 80 ls st kc ks G)) (zthree (fun _ _ _ _ _ h => h) (fun _ _ _ _ _ h => h) (fun _ _ _ _ _ h => h)) kX9_ticks (List.all_eq_true.mp kX9_ticks_ok) 23 _ _ _ _ _ ?_
    refine Exists.intro (zix (k := 1) rfl (by decide) (by decide)) ?_
    refine And.intro (fun g => absurd ?_ (nI_ge (a := k) (b := m - 1) (by omega) (by omega))) (fun _ => ?_)
    · have g : mTw F n cv k 1 1 - 1 ≤ nI k := g
      rw [e1, hq] at g
      exact g
    exact ⟨n, k, cv k, rfl, by omega, ew, ih⟩
theorem lX9_tick1 (ok : zO) (ex : zX) (F : zF) (n m : Nat) (cv : Nat → Nat → List Nat) (hp : mTp F n m cv) (h : ok none (mTick F n m cv)) : ∀ (d k : Nat), k + d = 16 → zWP YX9_ticks ok ex 2 [some (.ref 0), some (.int (nI k)), none, none] [] 0 0 (mCl F k) := by
  intro d
  induction d with
  | zero =>
    intro k hk
    have hk : k = 16 := hk
    subst hk
    refine zat_ok YX9_ticks_ok (inv := zi3 2 (fun ls st kc ks G => zWP YX9_ticks ok ex 2 ls st kc ks G) 23 (fun ls st kc ks G => zWP YX9_ticks ok ex 23 ls st kc ks G) 80 (fun ls st kc ks G => zWP YX9_ticks ok ex 80 ls st kc ks G)) (zthree (fun _ _ _ _ _ h => h) (fun _ _ _ _ _ h => h) (fun _ _ _ _ _ h => h)) kX9_ticks (List.all_eq_true.mp kX9_ticks_ok) 2 _ _ _ _ _ ?_
    exact And.intro (fun _ => lX9_tick2 ok ex F n m cv hp h (m - 1) 0 (Nat.zero_add _)) (fun g => absurd (by decide) g)
  | succ d ih =>
    intro k hk
    have ih := ih (k + 1) (by omega)
    rw [← nI_1, ← mCl_s] at ih
    have hc : (nI k).toNatClampNeg = k := nI_clamp (by omega)
    refine zat_ok YX9_ticks_ok (inv := zi3 2 (fun ls st kc ks G => zWP YX9_ticks ok ex 2 ls st kc ks G) 23 (fun ls st kc ks G => zWP YX9_ticks ok ex 23 ls st kc ks G) 80 (fun ls st kc ks G => zWP YX9_ticks ok ex 80 ls st kc ks G)) (zthree (fun _ _ _ _ _ h => h) (fun _ _ _ _ _ h => h) (fun _ _ _ _ _ h => h)) kX9_ticks (List.all_eq_true.mp kX9_ticks_ok) 2 _ _ _ _ _ ?_
    refine And.intro (fun g => absurd g (nI_ge (a := k) (b := 16) (by omega) (by decide))) (fun _ => ?_)
    refine Exists.intro (zix (x := nI k) rfl (by omega) (by decide)) ?_
    rw [hc]
    exact ih

theorem mX9_ticks : zMet (UM) yX9_ticks cX9_ticks 4 (none) rX9_ticks (sX9_ticks) := by
  refine zmet (Y := YX9_ticks) rfl (by decide +kernel) ?_
  intro av F ok ex h
  unfold sX9_ticks at h
  split at h
  · refine zgo_ok (YX9_ticks_ok) (inv := zi3 2 (fun ls st kc ks G => zWP YX9_ticks ok ex 2 ls st kc ks G) 23 (fun ls st kc ks G => zWP YX9_ticks ok ex 23 ls st kc ks G) 80 (fun ls st kc ks G => zWP YX9_ticks ok ex 80 ls st kc ks G)) (zthree (fun _ _ _ _ _ h => h) (fun _ _ _ _ _ h => h) (fun _ _ _ _ _ h => h)) kX9_ticks (List.all_eq_true.mp kX9_ticks_ok) 0 _ _ _ _ _ ?_
    obtain ⟨n, m, cv, hp, h⟩ := h
    have h5 := lX9_tick1 ok ex F n m cv hp h 16 0 rfl
    rw [mCl_0] at h5
    exact h5
  · exact h.elim

end ZM9
