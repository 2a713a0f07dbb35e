/-! the reference's calls: join, part -/
section ZN3
set_option maxRecDepth 20000
def mJn (F : zF) (b h z : Int32) : Nat → zF
  | 0 => F
  | k + 1 => if mOf (mJn F b h z k) k 6 = b then zup (zup (mJn F b h z k) 1 (53 + 9 * k + 6) h) 1 (53 + 9 * k + 7) (z + mOf (zup (mJn F b h z k) 1 (53 + 9 * k + 6) h) k 7) else mJn F b h z k
theorem mJn_lo (F : zF) (b h z : Int32) {i : Nat} (hi : i < 53) : ∀ k, mJn F b h z k 1 i = F 1 i
  | 0 => rfl
  | k + 1 => by
    unfold mJn
    split
    · rw [zup_an _ _ _ (by omega), zup_an _ _ _ (by omega), mJn_lo F b h z hi k]
    · exact mJn_lo F b h z hi k
def mP1 (F : zF) (p : Int32) (k : Nat) : zF := if p < mOf F k 7 then zup F 1 (53 + 9 * k + 7) (mOf F k 7 - 1) else F
def mPt (F : zF) (hd p nx : Int32) (i : Nat) : Nat → zF
  | 0 => F
  | k + 1 => if mOf (mPt F hd p nx i k) k 6 = hd ∧ ¬ k = i then zup (mP1 (mPt F hd p nx i k) p k) 1 (53 + 9 * k + 6) nx else mPt F hd p nx i k
theorem mPt_lo (F : zF) (hd p nx : Int32) (i : Nat) {j : Nat} (hj : j < 53) : ∀ k, mPt F hd p nx i k 1 j = F 1 j
  | 0 => rfl
  | k + 1 => by
    unfold mPt
    split
    · rw [zup_an _ _ _ (by omega)]
      unfold mP1
      split
      · rw [zup_an _ _ _ (by omega), mPt_lo F hd p nx i hj k]
      · exact mPt_lo F hd p nx i hj k
    · exact mPt_lo F hd p nx i hj k
def mPf2 (F : zF) (i : Nat) : zF := zup (zup F 1 (53 + 9 * i + 6) (nI i)) 1 (53 + 9 * i + 7) 0
def mJo (G : zF) (i j n : Nat) : zF := mJn G (mOf G i 6) (mOf G j 6) (nI (mSz G (mOf G j 6) n)) n
def sX9_join : zSp := fun as F ok _ => match as with
  | [.ref 0, .int s, .int t] => zcn ((0 ≤ s ∧ s ≤ F 1 2 - 1) ∧ (0 ≤ t ∧ t ≤ F 1 2 - 1)) (∃ i j, s = nI i ∧ i < 16 ∧ t = nI j ∧ j < 16 ∧ zcn (mOf F i 6 = mOf F j 6) (ok (some (.int 0)) (zup (zup (mT F) 0 11 2) 0 0 1)) (zcn (¬ mOf F i 4 < 0 ∧ mLk F i = mLk F j ∧ mOf F i 3 = mOf F j 3)
      (∃ u n, u ≤ 8 ∧ F 0 3 = nI u ∧ n ≤ 16 ∧ mKeep (mT F) u 1 2 = nI n ∧ ok (some (.int (nI (mSz (mJo (mKeep (mT F) u) i j n) (mOf (mKeep (mT F) u) j 6) n)))) (mJo (mKeep (mT F) u) i j n)) (ok (some (.int 0)) (zup (zup (mT F) 0 11 3) 0 0 1)))) (ok (some (.int 0)) (zup (zup (mT F) 0 11 1) 0 0 1))
  | _ => False
def sX9_part : zSp := fun as F ok _ => match as with
  | [.ref 0, .int s] => zcn (0 ≤ s ∧ s ≤ F 1 2 - 1) (∃ i n, s = nI i ∧ i < 16 ∧ n ≤ 16 ∧ F 1 2 = nI n ∧ zcn (nI (mSz (mT F) (mOf F i 6) n) = 1) (ok (some (.int 0)) (zup (zup (mT F) 0 11 6) 0 0 1))
      (∃ u t, u ≤ 8 ∧ F 0 3 = nI u ∧ mKeep (mT F) u 1 2 = nI n ∧ t < 16 ∧ mOf (mKeep (mT F) u) t 6 = mOf F i 6 ∧ mOf (mKeep (mT F) u) t 7 = (if mOf (mKeep (mT F) u) i 7 = 0 then 1 else 0) ∧ (∀ j, j < t → ¬ (mOf (mKeep (mT F) u) j 6 = mOf F i 6 ∧ mOf (mKeep (mT F) u) j 7 = (if mOf (mKeep (mT F) u) i 7 = 0 then 1 else 0))) ∧
        ok (some (.int (nI (mSz (mT F) (mOf F i 6) n) - 1))) (mPf2 (mPt (mKeep (mT F) u) (mOf F i 6) (mOf (mKeep (mT F) u) i 7) (nI t) i n) i))) (ok (some (.int 0)) (zup (zup (mT F) 0 11 1) 0 0 1))
  | _ => False

def kX9_join : List zI := [
  (0, 1, .aload_n 0, [], 0),
  (1, 1, .iconst 0, [], 0),
  (2, 3, .putfield 42, [], 0),
  (5, 1, .aload_n 0, [], 0),
  (6, 1, .iload_n 1, [], 0),
  (7, 3, .invokevirtual 133, [], 0),
  (10, 3, .ifCond .eq 11, [21], 0),
  (13, 1, .aload_n 0, [], 0),
  (14, 1, .iload_n 2, [], 0),
  (15, 3, .invokevirtual 133, [], 0),
  (18, 3, .ifCond .ne 10, [28], 0),
  (21, 1, .aload_n 0, [], 0),
  (22, 1, .iconst 1, [], 1),
  (23, 1, .iconst 1, [], 1),
  (24, 3, .invokevirtual 110, [], 0),
  (27, 1, .ireturn, [], 0),
  (28, 1, .aload_n 0, [], 0),
  (29, 1, .iload_n 1, [], 0),
  (30, 2, .bipush 6, [], 6),
  (32, 3, .invokevirtual 75, [], 0),
  (35, 1, .aload_n 0, [], 0),
  (36, 1, .iload_n 2, [], 0),
  (37, 2, .bipush 6, [], 6),
  (39, 3, .invokevirtual 75, [], 0),
  (42, 3, .if_icmp .ne 10, [52], 0),
  (45, 1, .aload_n 0, [], 0),
  (46, 1, .iconst 2, [], 2),
  (47, 1, .iconst 1, [], 1),
  (48, 3, .invokevirtual 110, [], 0),
  (51, 1, .ireturn, [], 0),
  (52, 1, .aload_n 0, [], 0),
  (53, 1, .iload_n 1, [], 0),
  (54, 1, .iconst 4, [], 4),
  (55, 3, .invokevirtual 75, [], 0),
  (58, 3, .ifCond .lt 31, [89], 0),
  (61, 1, .aload_n 0, [], 0),
  (62, 1, .iload_n 1, [], 0),
  (63, 3, .invokevirtual 136, [], 0),
  (66, 1, .aload_n 0, [], 0),
  (67, 1, .iload_n 2, [], 0),
  (68, 3, .invokevirtual 136, [], 0),
  (71, 3, .if_icmp .ne 18, [89], 0),
  (74, 1, .aload_n 0, [], 0),
  (75, 1, .iload_n 1, [], 0),
  (76, 1, .iconst 3, [], 3),
  (77, 3, .invokevirtual 75, [], 0),
  (80, 1, .aload_n 0, [], 0),
  (81, 1, .iload_n 2, [], 0),
  (82, 1, .iconst 3, [], 3),
  (83, 3, .invokevirtual 75, [], 0),
  (86, 3, .if_icmp .eq 10, [96], 0),
  (89, 1, .aload_n 0, [], 0),
  (90, 1, .iconst 3, [], 3),
  (91, 1, .iconst 1, [], 1),
  (92, 3, .invokevirtual 110, [], 0),
  (95, 1, .ireturn, [], 0),
  (96, 1, .aload_n 0, [], 0),
  (97, 3, .invokevirtual 59, [], 0),
  (100, 1, .aload_n 0, [], 0),
  (101, 1, .iload_n 1, [], 0),
  (102, 2, .bipush 6, [], 6),
  (104, 3, .invokevirtual 75, [], 0),
  (107, 1, .istore_n 3, [], 0),
  (108, 1, .aload_n 0, [], 0),
  (109, 1, .iload_n 2, [], 0),
  (110, 2, .bipush 6, [], 6),
  (112, 3, .invokevirtual 75, [], 0),
  (115, 2, .istore 4, [], 0),
  (117, 1, .aload_n 0, [], 0),
  (118, 2, .iload 4, [], 0),
  (120, 3, .invokevirtual 139, [], 0),
  (123, 2, .istore 5, [], 0),
  (125, 1, .iconst 0, [], 0),
  (126, 2, .istore 6, [], 0),
  (128, 2, .iload 6, [], 0),
  (130, 1, .aload_n 0, [], 0),
  (131, 3, .getfield 9, [], 0),
  (134, 1, .iconst 2, [], 2),
  (135, 1, .iaload, [], 0),
  (136, 3, .if_icmp .ge 53, [189], 0),
  (139, 1, .aload_n 0, [], 0),
  (140, 2, .iload 6, [], 0),
  (142, 2, .bipush 6, [], 6),
  (144, 3, .invokevirtual 75, [], 0),
  (147, 1, .iload_n 3, [], 0),
  (148, 3, .if_icmp .eq 6, [154], 0),
  (151, 3, .goto 32, [183], 0),
  (154, 1, .aload_n 0, [], 0),
  (155, 2, .iload 6, [], 0),
  (157, 2, .bipush 6, [], 6),
  (159, 2, .iload 4, [], 0),
  (161, 3, .invokevirtual 106, [], 0),
  (164, 1, .aload_n 0, [], 0),
  (165, 2, .iload 6, [], 0),
  (167, 2, .bipush 7, [], 7),
  (169, 2, .iload 5, [], 0),
  (171, 1, .aload_n 0, [], 0),
  (172, 2, .iload 6, [], 0),
  (174, 2, .bipush 7, [], 7),
  (176, 3, .invokevirtual 75, [], 0),
  (179, 1, .iadd, [], 0),
  (180, 3, .invokevirtual 106, [], 0),
  (183, 3, .iinc 6 1, [], 1),
  (186, 3, .goto (-58), [128], 0),
  (189, 1, .aload_n 0, [], 0),
  (190, 2, .iload 4, [], 0),
  (192, 3, .invokevirtual 139, [], 0),
  (195, 1, .ireturn, [], 0)]
theorem kX9_join_ok : kX9_join.all (zck cX9_join) = true := by decide +kernel

def rX9_join : Room := { frames := 2, cells := 0, slots := 0, locals := 45 }
abbrev YX9_join : zM := (RX9, cX9_join, 7, some .int, rX9_join, UM, zlk fX9, zcs [(133, 2, 0, 0, zvs (UM) 9 (sX9_isShip)), (110, 3, 0, 0, zvs (UM) 9 (sX9_refuses)), (75, 3, 0, 0, zvs (UM) 9 (sX9_of)), (136, 2, 0, 0, zvs (UM) 9 (sX9_lockOf)), (59, 1, 0, 0, zvs (UM) 9 (sX9_changes)), (139, 2, 0, 0, zvs (UM) 9 (sX9_sizeOf)), (106, 4, 0, 0, zvs (UM) 9 (sX9_puts))] [])
theorem YX9_join_ok : zYok (YX9_join) := zYok_of fX9_ok (zall (zcal_mono (zcalV (Y := YX9_join) (y := yX9_isShip) (cc := cX9_isShip) (nL := 2) (ret := some .boolean) (rm := rX9_isShip) (mX9_isShip) 133 1 9 (T := TX9) rfl wX9_133 ⟨by decide +kernel, by decide +kernel, by decide +kernel⟩ (by decide) ⟨Nat.le_of_ble_eq_true rfl, Nat.le_of_ble_eq_true rfl⟩) (fun _ _ _ _ h => zvs_P h)) (zall (zcal_mono (zcalV (Y := YX9_join) (y := yX9_refuses) (cc := cX9_refuses) (nL := 3) (ret := some .int) (rm := rX9_refuses) (mX9_refuses) 110 2 9 (T := TX9) rfl wX9_110 ⟨by decide +kernel, by decide +kernel, by decide +kernel⟩ (by decide) ⟨Nat.le_of_ble_eq_true rfl, Nat.le_of_ble_eq_true rfl⟩) (fun _ _ _ _ h => zvs_P h)) (zall (zcal_mono (zcalV (Y := YX9_join) (y := yX9_of) (cc := cX9_of) (nL := 3) (ret := some .int) (rm := rX9_of) (mX9_of) 75 2 9 (T := TX9) rfl wX9_75 ⟨by decide +kernel, by decide +kernel, by decide +kernel⟩ (by decide) ⟨Nat.le_of_ble_eq_true rfl, Nat.le_of_ble_eq_true rfl⟩) (fun _ _ _ _ h => zvs_P h)) (zall (zcal_mono (zcalV (Y := YX9_join) (y := yX9_lockOf) (cc := cX9_lockOf) (nL := 2) (ret := some .int) (rm := rX9_lockOf) (mX9_lockOf) 136 1 9 (T := TX9) rfl wX9_136 ⟨by decide +kernel, by decide +kernel, by decide +kernel⟩ (by decide) ⟨Nat.le_of_ble_eq_true rfl, Nat.le_of_ble_eq_true rfl⟩) (fun _ _ _ _ h => zvs_P h)) (zall (zcal_mono (zcalV (Y := YX9_join) (y := yX9_changes) (cc := cX9_changes) (nL := 2) (ret := none) (rm := rX9_changes) (mX9_changes) 59 0 9 (T := TX9) rfl wX9_59 ⟨by decide +kernel, by decide +kernel, by decide +kernel⟩ (by decide) ⟨Nat.le_of_ble_eq_true rfl, Nat.le_of_ble_eq_true rfl⟩) (fun _ _ _ _ h => zvs_P h)) (zall (zcal_mono (zcalV (Y := YX9_join) (y := yX9_sizeOf) (cc := cX9_sizeOf) (nL := 4) (ret := some .int) (rm := rX9_sizeOf) (mX9_sizeOf) 139 1 9 (T := TX9) rfl wX9_139 ⟨by decide +kernel, by decide +kernel, by decide +kernel⟩ (by decide) ⟨Nat.le_of_ble_eq_true rfl, Nat.le_of_ble_eq_true rfl⟩) (fun _ _ _ _ h => zvs_P h)) (zall (zcal_mono (zcalV (Y := YX9_join) (y := yX9_puts) (cc := cX9_puts) (nL := 4) (ret := none) (rm := rX9_puts) (mX9_puts) 106 3 9 (T := TX9) rfl wX9_106 ⟨by decide +kernel, by decide +kernel, by decide +kernel⟩ (by decide) ⟨Nat.le_of_ble_eq_true rfl, Nat.le_of_ble_eq_true rfl⟩) (fun _ _ _ _ h => zvs_P h)) znil))))))) znil

theorem lX9_join (ok : zO) (ex : zX) (G : zF) (a c b h z : Int32) (n : Nat) (hn : n ≤ 16) (h0 : G 1 2 = nI n) (h1 : ok (some (.int (nI (mSz (mJn G b h z n) h n)))) (mJn G b h z n)) : ∀ (d k : Nat), k + d = n → zWP YX9_join ok ex 128 [some (.ref 0), some (.int a), some (.int c), some (.int b), some (.int h), some (.int z), some (.int (nI k))] [] 0 0 (mJn G b h z k) := by
  intro d
  induction d with
  | zero =>
    intro k hk
    have hk : k = n := hk
    subst hk
    have h2 : mJn G b h z k 1 2 = nI k := by rw [mJn_lo G b h z (by decide), h0]
    refine zat_ok YX9_join_ok (inv := zi1 128 (fun ls st kc ks G => zWP YX9_join ok ex 128 ls st kc ks G)) (zone fun _ _ _ _ _ h => h) kX9_join (List.all_eq_true.mp kX9_join_ok) 128 _ _ _ _ _ ?_
    refine Exists.intro (zix (k := 2) rfl (by decide) (by decide)) ?_
    refine And.intro (fun _ => ⟨k, hn, h2, h1⟩) (fun g => absurd ?_ g)
    show mJn G b h z k 1 2 ≤ nI k
    rw [h2]
    exact nI_le (Nat.le_refl _) (by omega)
  | succ d ih =>
    intro k hk
    have ih := ih (k + 1) (by omega)
    rw [← nI_1 k] at ih
    refine zat_ok YX9_join_ok (inv := zi1 128 (fun ls st kc ks G => zWP YX9_join ok ex 128 ls st kc ks G)) (zone fun _ _ _ _ _ h => h) kX9_join (List.all_eq_true.mp kX9_join_ok) 128 _ _ _ _ _ ?_
    refine Exists.intro (zix (k := 2) rfl (by decide) (by decide)) ?_
    refine And.intro (fun g => absurd ?_ (nI_ge (a := k) (b := n) (by omega) (by omega))) (fun _ => ?_)
    · have g : mJn G b h z k 1 2 ≤ nI k := g
      rw [mJn_lo G b h z (by decide), h0] at g
      exact g
    refine ⟨k, 6, rfl, rfl, by omega, by decide, ?_⟩
    refine And.intro (fun g => ?_) (fun g => ?_)
    · have g : mOf (mJn G b h z k) k 6 = b := g
      have e : mJn G b h z (k + 1) = zup (zup (mJn G b h z k) 1 (53 + 9 * k + 6) h) 1 (53 + 9 * k + 7) (z + mOf (zup (mJn G b h z k) 1 (53 + 9 * k + 6) h) k 7) := if_pos g
      rw [e] at ih
      refine ⟨k, 6, rfl, rfl, by omega, by decide, ?_⟩
      refine ⟨k, 7, rfl, rfl, by omega, by decide, ?_⟩
      refine ⟨k, 7, rfl, rfl, by omega, by decide, ?_⟩
      exact ih
    · have g : ¬ mOf (mJn G b h z k) k 6 = b := g
      have e : mJn G b h z (k + 1) = mJn G b h z k := if_neg g
      rw [e] at ih
      exact ih

theorem mX9_join : zMet (UM) yX9_join cX9_join 7 (some .int) rX9_join (sX9_join) := by
  refine zmet (Y := YX9_join) rfl (by decide +kernel) ?_
  intro av F ok ex h
  unfold sX9_join at h
  split at h
  · rename_i s t
    refine zgo_ok (YX9_join_ok) (inv := zi1 128 (fun ls st kc ks G => zWP YX9_join ok ex 128 ls st kc ks G)) (zone fun _ _ _ _ _ h => h) kX9_join (List.all_eq_true.mp kX9_join_ok) 0 _ _ _ _ _ ?_
    refine And.intro (fun h1 => ?_) (fun h1 => zjeq0 (h.2 fun g => h1 g.1))
    refine zjeq1 ?_
    refine And.intro (fun h2 => ?_) (fun h2 => zjne0 (h.2 fun g => h2 g.2))
    refine zjne1 ?_
    obtain ⟨i, j, rfl, hi, rfl, hj, h⟩ := h.1 ⟨h1, h2⟩
    refine ⟨i, 6, rfl, rfl, hi, by decide, ?_⟩
    refine ⟨j, 6, rfl, rfl, hj, by decide, ?_⟩
    refine And.intro (fun h3 => ?_) (fun h3 => h.1 h3)
    have h := h.2 h3
    refine ⟨i, 4, rfl, rfl, hi, by decide, ?_⟩
    refine And.intro (fun h4 => h.2 fun g => g.1 h4) (fun h4 => ?_)
    refine ⟨i, rfl, hi, ?_⟩
    refine ⟨j, rfl, hj, ?_⟩
    refine And.intro (fun h5 => h.2 fun g => h5 g.2.1) (fun h5 => ?_)
    refine ⟨i, 3, rfl, rfl, hi, by decide, ?_⟩
    refine ⟨j, 3, rfl, rfl, hj, by decide, ?_⟩
    refine And.intro (fun h6 => ?_) (fun h6 => h.2 fun g => h6 g.2.2)
    obtain ⟨u, n, hu, h7, hn, h8, h⟩ := h.1 ⟨h4, h5, h6⟩
    refine ⟨u, hu, h7, ?_⟩
    refine ⟨i, 6, rfl, rfl, hi, by decide, ?_⟩
    refine ⟨j, 6, rfl, rfl, hj, by decide, ?_⟩
    refine ⟨n, hn, h8, ?_⟩
    exact lX9_join ok ex (mKeep (mT F) u) (nI i) (nI j) _ _ _ n hn h8 h n 0 (Nat.zero_add _)
  · exact h.elim

def kX9_part : List zI := [
  (0, 1, .aload_n 0, [], 0),
  (1, 1, .iconst 0, [], 0),
  (2, 3, .putfield 42, [], 0),
  (5, 1, .aload_n 0, [], 0),
  (6, 1, .iload_n 1, [], 0),
  (7, 3, .invokevirtual 133, [], 0),
  (10, 3, .ifCond .ne 10, [20], 0),
  (13, 1, .aload_n 0, [], 0),
  (14, 1, .iconst 1, [], 1),
  (15, 1, .iconst 1, [], 1),
  (16, 3, .invokevirtual 110, [], 0),
  (19, 1, .ireturn, [], 0),
  (20, 1, .aload_n 0, [], 0),
  (21, 1, .iload_n 1, [], 0),
  (22, 2, .bipush 6, [], 6),
  (24, 3, .invokevirtual 75, [], 0),
  (27, 1, .istore_n 2, [], 0),
  (28, 1, .aload_n 0, [], 0),
  (29, 1, .iload_n 2, [], 0),
  (30, 3, .invokevirtual 139, [], 0),
  (33, 1, .istore_n 3, [], 0),
  (34, 1, .iload_n 3, [], 0),
  (35, 1, .iconst 1, [], 1),
  (36, 3, .if_icmp .ne 11, [47], 0),
  (39, 1, .aload_n 0, [], 0),
  (40, 2, .bipush 6, [], 6),
  (42, 1, .iconst 1, [], 1),
  (43, 3, .invokevirtual 110, [], 0),
  (46, 1, .ireturn, [], 0),
  (47, 1, .aload_n 0, [], 0),
  (48, 3, .invokevirtual 59, [], 0),
  (51, 1, .aload_n 0, [], 0),
  (52, 1, .iload_n 1, [], 0),
  (53, 2, .bipush 7, [], 7),
  (55, 3, .invokevirtual 75, [], 0),
  (58, 2, .istore 4, [], 0),
  (60, 1, .aload_n 0, [], 0),
  (61, 1, .iload_n 2, [], 0),
  (62, 2, .iload 4, [], 0),
  (64, 3, .ifCond .ne 7, [71], 0),
  (67, 1, .iconst 1, [], 1),
  (68, 3, .goto 4, [72], 0),
  (71, 1, .iconst 0, [], 0),
  (72, 3, .invokevirtual 142, [], 0),
  (75, 2, .istore 5, [], 0),
  (77, 1, .iconst 0, [], 0),
  (78, 2, .istore 6, [], 0),
  (80, 2, .iload 6, [], 0),
  (82, 1, .aload_n 0, [], 0),
  (83, 3, .getfield 9, [], 0),
  (86, 1, .iconst 2, [], 2),
  (87, 1, .iaload, [], 0),
  (88, 3, .if_icmp .ge 71, [159], 0),
  (91, 1, .aload_n 0, [], 0),
  (92, 2, .iload 6, [], 0),
  (94, 2, .bipush 6, [], 6),
  (96, 3, .invokevirtual 75, [], 0),
  (99, 1, .iload_n 2, [], 0),
  (100, 3, .if_icmp .ne 53, [153], 0),
  (103, 2, .iload 6, [], 0),
  (105, 1, .iload_n 1, [], 0),
  (106, 3, .if_icmp .ne 6, [112], 0),
  (109, 3, .goto 44, [153], 0),
  (112, 1, .aload_n 0, [], 0),
  (113, 2, .iload 6, [], 0),
  (115, 2, .bipush 7, [], 7),
  (117, 3, .invokevirtual 75, [], 0),
  (120, 2, .iload 4, [], 0),
  (122, 3, .if_icmp .le 21, [143], 0),
  (125, 1, .aload_n 0, [], 0),
  (126, 2, .iload 6, [], 0),
  (128, 2, .bipush 7, [], 7),
  (130, 1, .aload_n 0, [], 0),
  (131, 2, .iload 6, [], 0),
  (133, 2, .bipush 7, [], 7),
  (135, 3, .invokevirtual 75, [], 0),
  (138, 1, .iconst 1, [], 1),
  (139, 1, .isub, [], 0),
  (140, 3, .invokevirtual 106, [], 0),
  (143, 1, .aload_n 0, [], 0),
  (144, 2, .iload 6, [], 0),
  (146, 2, .bipush 6, [], 6),
  (148, 2, .iload 5, [], 0),
  (150, 3, .invokevirtual 106, [], 0),
  (153, 3, .iinc 6 1, [], 1),
  (156, 3, .goto (-76), [80], 0),
  (159, 1, .aload_n 0, [], 0),
  (160, 1, .iload_n 1, [], 0),
  (161, 2, .bipush 6, [], 6),
  (163, 1, .iload_n 1, [], 0),
  (164, 3, .invokevirtual 106, [], 0),
  (167, 1, .aload_n 0, [], 0),
  (168, 1, .iload_n 1, [], 0),
  (169, 2, .bipush 7, [], 7),
  (171, 1, .iconst 0, [], 0),
  (172, 3, .invokevirtual 106, [], 0),
  (175, 1, .iload_n 3, [], 0),
  (176, 1, .iconst 1, [], 1),
  (177, 1, .isub, [], 0),
  (178, 1, .ireturn, [], 0)]
theorem kX9_part_ok : kX9_part.all (zck cX9_part) = true := by decide +kernel

def rX9_part : Room := { frames := 2, cells := 0, slots := 0, locals := 45 }
abbrev YX9_part : zM := (RX9, cX9_part, 7, some .int, rX9_part, UM, zlk fX9, zcs [(133, 2, 0, 0, zvs (UM) 9 (sX9_isShip)), (110, 3, 0, 0, zvs (UM) 9 (sX9_refuses)), (75, 3, 0, 0, zvs (UM) 9 (sX9_of)), (139, 2, 0, 0, zvs (UM) 9 (sX9_sizeOf)), (59, 1, 0, 0, zvs (UM) 9 (sX9_changes)), (142, 3, 0, 0, zvs (UM) 9 (sX9_shipIn)), (106, 4, 0, 0, zvs (UM) 9 (sX9_puts))] [])
theorem YX9_part_ok : zYok (YX9_part) := zYok_of fX9_ok (zall (zcal_mono (zcalV (Y := YX9_part) (y := yX9_isShip) (cc := cX9_isShip) (nL := 2) (ret := some .boolean) (rm := rX9_isShip) (mX9_isShip) 133 1 9 (T := TX9) rfl wX9_133 ⟨by decide +kernel, by decide +kernel, by decide +kernel⟩ (by decide) ⟨Nat.le_of_ble_eq_true rfl, Nat.le_of_ble_eq_true rfl⟩) (fun _ _ _ _ h => zvs_P h)) (zall (zcal_mono (zcalV (Y := YX9_part) (y := yX9_refuses) (cc := cX9_refuses) (nL := 3) (ret := some .int) (rm := rX9_refuses) (mX9_refuses) 110 2 9 (T := TX9) rfl wX9_110 ⟨by decide +kernel, by decide +kernel, by decide +kernel⟩ (by decide) ⟨Nat.le_of_ble_eq_true rfl, Nat.le_of_ble_eq_true rfl⟩) (fun _ _ _ _ h => zvs_P h)) (zall (zcal_mono (zcalV (Y := YX9_part) (y := yX9_of) (cc := cX9_of) (nL := 3) (ret := some .int) (rm := rX9_of) (mX9_of) 75 2 9 (T := TX9) rfl wX9_75 ⟨by decide +kernel, by decide +kernel, by decide +kernel⟩ (by decide) ⟨Nat.le_of_ble_eq_true rfl, Nat.le_of_ble_eq_true rfl⟩) (fun _ _ _ _ h => zvs_P h)) (zall (zcal_mono (zcalV (Y := YX9_part) (y := yX9_sizeOf) (cc := cX9_sizeOf) (nL := 4) (ret := some .int) (rm := rX9_sizeOf) (mX9_sizeOf) 139 1 9 (T := TX9) rfl wX9_139 ⟨by decide +kernel, by decide +kernel, by decide +kernel⟩ (by decide) ⟨Nat.le_of_ble_eq_true rfl, Nat.le_of_ble_eq_true rfl⟩) (fun _ _ _ _ h => zvs_P h)) (zall (zcal_mono (zcalV (Y := YX9_part) (y := yX9_changes) (cc := cX9_changes) (nL := 2) (ret := none) (rm := rX9_changes) (mX9_changes) 59 0 9 (T := TX9) rfl wX9_59 ⟨by decide +kernel, by decide +kernel, by decide +kernel⟩ (by decide) ⟨Nat.le_of_ble_eq_true rfl, Nat.le_of_ble_eq_true rfl⟩) (fun _ _ _ _ h => zvs_P h)) (zall (zcal_mono (zcalV (Y := YX9_part) (y := yX9_shipIn) (cc := cX9_shipIn) (nL := 4) (ret := some .int) (rm := rX9_shipIn) (mX9_shipIn) 142 2 9 (T := TX9) rfl wX9_142 ⟨by decide +kernel, by decide +kernel, by decide +kernel⟩ (by decide) ⟨Nat.le_of_ble_eq_true rfl, Nat.le_of_ble_eq_true rfl⟩) (fun _ _ _ _ h => zvs_P h)) (zall (zcal_mono (zcalV (Y := YX9_part) (y := yX9_puts) (cc := cX9_puts) (nL := 4) (ret := none) (rm := rX9_puts) (mX9_puts) 106 3 9 (T := TX9) rfl wX9_106 ⟨by decide +kernel, by decide +kernel, by decide +kernel⟩ (by decide) ⟨Nat.le_of_ble_eq_true rfl, Nat.le_of_ble_eq_true rfl⟩) (fun _ _ _ _ h => zvs_P h)) znil))))))) znil

theorem lX9_part (ok : zO) (ex : zX) (G : zF) (i : Nat) (x hd z p : Int32) (n : Nat) (hi : i < 16) (hn : n ≤ 16) (h0 : G 1 2 = nI n) (h1 : ok (some (.int (z - 1))) (mPf2 (mPt G hd p x i n) i)) : ∀ (d k : Nat), k + d = n → zWP YX9_part ok ex 80 [some (.ref 0), some (.int (nI i)), some (.int hd), some (.int z), some (.int p), some (.int x), some (.int (nI k))] [] 0 0 (mPt G hd p x i k) := by
  intro d
  induction d with
  | zero =>
    intro k hk
    have hk : k = n := hk
    subst hk
    refine zat_ok YX9_part_ok (inv := zi1 80 (fun ls st kc ks G => zWP YX9_part ok ex 80 ls st kc ks G)) (zone fun _ _ _ _ _ h => h) kX9_part (List.all_eq_true.mp kX9_part_ok) 80 _ _ _ _ _ ?_
    refine Exists.intro (zix (k := 2) rfl (by decide) (by decide)) ?_
    refine And.intro (fun _ => ⟨i, 6, rfl, rfl, hi, by decide, i, 7, rfl, rfl, hi, by decide, h1⟩) (fun g => absurd ?_ g)
    show mPt G hd p x i k 1 2 ≤ nI k
    rw [mPt_lo G hd p x i (by decide), h0]
    exact nI_le (Nat.le_refl _) (by omega)
  | succ d ih =>
    intro k hk
    have ih := ih (k + 1) (by omega)
    rw [← nI_1 k] at ih
    refine zat_ok YX9_part_ok (inv := zi1 80 (fun ls st kc ks G => zWP YX9_part ok ex 80 ls st kc ks G)) (zone fun _ _ _ _ _ h => h) kX9_part (List.all_eq_true.mp kX9_part_ok) 80 _ _ _ _ _ ?_
    refine Exists.intro (zix (k := 2) rfl (by decide) (by decide)) ?_
    refine And.intro (fun g => absurd ?_ (nI_ge (a := k) (b := n) (by omega) (by omega))) (fun _ => ?_)
    · have g : mPt G hd p x i k 1 2 ≤ nI k := g
      rw [mPt_lo G hd p x i (by decide), h0] at g
      exact g
    refine ⟨k, 6, rfl, rfl, by omega, by decide, ?_⟩
    refine And.intro (fun g => ?_) (fun g => ?_)
    · have g : ¬ mOf (mPt G hd p x i k) k 6 = hd := g
      have e : mPt G hd p x i (k + 1) = mPt G hd p x i k := if_neg (fun q => g q.1)
      rw [e] at ih
      exact ih
    have g : mOf (mPt G hd p x i k) k 6 = hd := g
    refine And.intro (fun f => ?_) (fun f => ?_)
    · have f : ¬ nI k = nI i := f
      have f2 : ¬ k = i := fun q => f (by rw [q])
      have e : mPt G hd p x i (k + 1) = zup (mP1 (mPt G hd p x i k) p k) 1 (53 + 9 * k + 6) x := if_pos ⟨g, f2⟩
      rw [e] at ih
      unfold mP1 at ih
      refine ⟨k, 7, rfl, rfl, by omega, by decide, ?_⟩
      refine And.intro (fun v => ?_) (fun v => ?_)
      · have v : mOf (mPt G hd p x i k) k 7 ≤ p := v
        rw [if_neg (Int32.not_lt.mpr v)] at ih
        refine ⟨k, 6, rfl, rfl, by omega, by decide, ?_⟩
        exact ih
      · have v : ¬ mOf (mPt G hd p x i k) k 7 ≤ p := v
        rw [if_pos (Int32.not_le.mp v)] at ih
        refine ⟨k, 7, rfl, rfl, by omega, by decide, ?_⟩
        refine ⟨k, 7, rfl, rfl, by omega, by decide, ?_⟩
        refine ⟨k, 6, rfl, rfl, by omega, by decide, ?_⟩
        exact ih
    · have f : nI k = nI i := f
      have f2 : k = i := (nI_eq (by omega) (by omega)).mp f
      have e : mPt G hd p x i (k + 1) = mPt G hd p x i k := if_neg (fun q => q.2 f2)
      rw [e] at ih
      exact ih

theorem mX9_part : zMet (UM) yX9_part cX9_part 7 (some .int) rX9_part (sX9_part) := by
  refine zmet (Y := YX9_part) rfl (by decide +kernel) ?_
  intro av F ok ex h
  unfold sX9_part at h
  split at h
  · rename_i s
    refine zgo_ok (YX9_part_ok) (inv := zi1 80 (fun ls st kc ks G => zWP YX9_part ok ex 80 ls st kc ks G)) (zone fun _ _ _ _ _ h => h) kX9_part (List.all_eq_true.mp kX9_part_ok) 0 _ _ _ _ _ ?_
    refine And.intro (fun h1 => ?_) (fun h1 => zjne0 (h.2 h1))
    refine zjne1 ?_
    obtain ⟨i, n, rfl, hi, hn, h2, h⟩ := h.1 h1
    refine ⟨i, 6, rfl, rfl, hi, by decide, ?_⟩
    refine ⟨n, hn, h2, ?_⟩
    refine And.intro (fun h3 => ?_) (fun h3 => h.1 h3)
    obtain ⟨u, t, hu, h4, h5, ht, h8, h9, hz, h⟩ := h.2 h3
    refine ⟨u, hu, h4, ?_⟩
    refine ⟨i, 7, rfl, rfl, hi, by decide, ?_⟩
    refine And.intro (fun g => ?_) (fun g => ?_)
    · have g : ¬ mOf (mKeep (mT F) u) i 7 = 0 := g
      rw [if_neg g] at h9
      simp only [if_neg g] at hz
      refine ⟨t, ht, h8, h9, hz, ?_⟩
      exact lX9_part ok ex (mKeep (mT F) u) i (nI t) _ _ _ n hi hn h5 h n 0 (Nat.zero_add _)
    · have g : mOf (mKeep (mT F) u) i 7 = 0 := g
      rw [if_pos g] at h9
      simp only [if_pos g] at hz
      refine ⟨t, ht, h8, h9, hz, ?_⟩
      exact lX9_part ok ex (mKeep (mT F) u) i (nI t) _ _ _ n hi hn h5 h n 0 (Nat.zero_add _)
  · exact h.elim

end ZN3
