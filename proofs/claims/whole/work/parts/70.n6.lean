/-! the reference's addReach -/
section ZN6
set_option maxRecDepth 20000
def mR3 (G : zF) (r : Nat) (a l : Int32) : zF := zup (zup (zup G 1 (10 + 3 * r) a) 1 (10 + 3 * r + 1) l) 1 (10 + 3 * r + 2) (a * l)
def mR4 (G : zF) (r : Nat) (a l : Int32) : zF := zup (mR3 G r a l) 1 9 (mR3 G r a l 1 9 + a * l)
def mR5 (G : zF) (k : Nat) (n m b : Int32) : zF := zup (zup (zup G 1 k n) 1 (k + 1) m) 1 (k + 2) b
def mR6 (G : zF) (k : Nat) : Nat → zF
  | 0 => G
  | i + 1 => zup (mR6 G k i) 1 (k + (3 + i)) 0
def mR7 (G : zF) : zF := zup G 1 1 (G 1 1 + 1)
/-- the reach r is made, and its lock -/
def mRn (G : zF) (r : Nat) (a l n m b : Int32) : zF := if r = 0 then mR4 G r a l else mR6 (mR5 (mR4 G r a l) (25 + 7 * (r - 1)) n m b) (25 + 7 * (r - 1)) 4
def sX9_addReach : zSp := fun as F ok _ => match as with
  | [.ref 0, .int a, .int l, .int n, .int m, .int b] => zcn ((1 ≤ a ∧ a ≤ 9) ∧ (10 ≤ l ∧ l ≤ 99)) (zcn (0 < F 1 1 → (1 ≤ n ∧ n ≤ 9) ∧ (4 ≤ m ∧ m ≤ 60) ∧ (0 ≤ b ∧ b ≤ 3)) (zcn (F 1 1 = 5 ∨ 0 < F 1 2) (ok (some (.int 0)) (zup (mT F) 0 0 2))
      (∃ u r, u ≤ 8 ∧ F 0 3 = nI u ∧ r < 5 ∧ F 1 1 = nI r ∧ ok (some (.int (mRn (mKeep (mT F) u) r a l n m b 1 1))) (mR7 (mRn (mKeep (mT F) u) r a l n m b)))) (ok (some (.int 0)) (zup (mT F) 0 0 1))) (ok (some (.int 0)) (zup (mT F) 0 0 1))
  | _ => False

def kX9_addReach : List zI := [
  (0, 1, .aload_n 0, [], 0),
  (1, 1, .iconst 0, [], 0),
  (2, 3, .putfield 42, [], 0),
  (5, 1, .iload_n 1, [], 0),
  (6, 1, .iconst 1, [], 1),
  (7, 2, .bipush 9, [], 9),
  (9, 3, .invokestatic 55, [], 0),
  (12, 3, .ifCond .eq 14, [26], 0),
  (15, 1, .iload_n 2, [], 0),
  (16, 2, .bipush 10, [], 10),
  (18, 2, .bipush 99, [], 99),
  (20, 3, .invokestatic 55, [], 0),
  (23, 3, .ifCond .ne 9, [32], 0),
  (26, 1, .aload_n 0, [], 0),
  (27, 1, .iconst 1, [], 1),
  (28, 3, .invokevirtual 48, [], 0),
  (31, 1, .ireturn, [], 0),
  (32, 1, .aload_n 0, [], 0),
  (33, 3, .getfield 9, [], 0),
  (36, 1, .iconst 1, [], 1),
  (37, 1, .iaload, [], 0),
  (38, 2, .istore 6, [], 0),
  (40, 2, .iload 6, [], 0),
  (42, 3, .ifCond .le 40, [82], 0),
  (45, 1, .iload_n 3, [], 0),
  (46, 1, .iconst 1, [], 1),
  (47, 2, .bipush 9, [], 9),
  (49, 3, .invokestatic 55, [], 0),
  (52, 3, .ifCond .eq 24, [76], 0),
  (55, 2, .iload 4, [], 0),
  (57, 1, .iconst 4, [], 4),
  (58, 2, .bipush 60, [], 60),
  (60, 3, .invokestatic 55, [], 0),
  (63, 3, .ifCond .eq 13, [76], 0),
  (66, 2, .iload 5, [], 0),
  (68, 1, .iconst 0, [], 0),
  (69, 1, .iconst 3, [], 3),
  (70, 3, .invokestatic 55, [], 0),
  (73, 3, .ifCond .ne 9, [82], 0),
  (76, 1, .aload_n 0, [], 0),
  (77, 1, .iconst 1, [], 1),
  (78, 3, .invokevirtual 48, [], 0),
  (81, 1, .ireturn, [], 0),
  (82, 2, .iload 6, [], 0),
  (84, 1, .iconst 5, [], 5),
  (85, 3, .if_icmp .eq 12, [97], 0),
  (88, 1, .aload_n 0, [], 0),
  (89, 3, .getfield 9, [], 0),
  (92, 1, .iconst 2, [], 2),
  (93, 1, .iaload, [], 0),
  (94, 3, .ifCond .le 9, [103], 0),
  (97, 1, .aload_n 0, [], 0),
  (98, 1, .iconst 2, [], 2),
  (99, 3, .invokevirtual 48, [], 0),
  (102, 1, .ireturn, [], 0),
  (103, 1, .aload_n 0, [], 0),
  (104, 3, .invokevirtual 59, [], 0),
  (107, 2, .bipush 10, [], 10),
  (109, 1, .iconst 3, [], 3),
  (110, 2, .iload 6, [], 0),
  (112, 1, .imul, [], 0),
  (113, 1, .iadd, [], 0),
  (114, 2, .istore 7, [], 0),
  (116, 1, .aload_n 0, [], 0),
  (117, 3, .getfield 9, [], 0),
  (120, 2, .iload 7, [], 0),
  (122, 1, .iload_n 1, [], 0),
  (123, 1, .iastore, [], 0),
  (124, 1, .aload_n 0, [], 0),
  (125, 3, .getfield 9, [], 0),
  (128, 2, .iload 7, [], 0),
  (130, 1, .iconst 1, [], 1),
  (131, 1, .iadd, [], 0),
  (132, 1, .iload_n 2, [], 0),
  (133, 1, .iastore, [], 0),
  (134, 1, .aload_n 0, [], 0),
  (135, 3, .getfield 9, [], 0),
  (138, 2, .iload 7, [], 0),
  (140, 1, .iconst 2, [], 2),
  (141, 1, .iadd, [], 0),
  (142, 1, .iload_n 1, [], 0),
  (143, 1, .iload_n 2, [], 0),
  (144, 1, .imul, [], 0),
  (145, 1, .iastore, [], 0),
  (146, 1, .aload_n 0, [], 0),
  (147, 3, .getfield 9, [], 0),
  (150, 2, .bipush 9, [], 9),
  (152, 1, .dup2, [], 0),
  (153, 1, .iaload, [], 0),
  (154, 1, .iload_n 1, [], 0),
  (155, 1, .iload_n 2, [], 0),
  (156, 1, .imul, [], 0),
  (157, 1, .iadd, [], 0),
  (158, 1, .iastore, [], 0),
  (159, 2, .iload 6, [], 0),
  (161, 3, .ifCond .le 72, [233], 0),
  (164, 2, .bipush 25, [], 25),
  (166, 2, .bipush 7, [], 7),
  (168, 2, .iload 6, [], 0),
  (170, 1, .iconst 1, [], 1),
  (171, 1, .isub, [], 0),
  (172, 1, .imul, [], 0),
  (173, 1, .iadd, [], 0),
  (174, 2, .istore 8, [], 0),
  (176, 1, .aload_n 0, [], 0),
  (177, 3, .getfield 9, [], 0),
  (180, 2, .iload 8, [], 0),
  (182, 1, .iload_n 3, [], 0),
  (183, 1, .iastore, [], 0),
  (184, 1, .aload_n 0, [], 0),
  (185, 3, .getfield 9, [], 0),
  (188, 2, .iload 8, [], 0),
  (190, 1, .iconst 1, [], 1),
  (191, 1, .iadd, [], 0),
  (192, 2, .iload 4, [], 0),
  (194, 1, .iastore, [], 0),
  (195, 1, .aload_n 0, [], 0),
  (196, 3, .getfield 9, [], 0),
  (199, 2, .iload 8, [], 0),
  (201, 1, .iconst 2, [], 2),
  (202, 1, .iadd, [], 0),
  (203, 2, .iload 5, [], 0),
  (205, 1, .iastore, [], 0),
  (206, 1, .iconst 3, [], 3),
  (207, 2, .istore 9, [], 0),
  (209, 2, .iload 9, [], 0),
  (211, 2, .bipush 7, [], 7),
  (213, 3, .if_icmp .ge 20, [233], 0),
  (216, 1, .aload_n 0, [], 0),
  (217, 3, .getfield 9, [], 0),
  (220, 2, .iload 8, [], 0),
  (222, 2, .iload 9, [], 0),
  (224, 1, .iadd, [], 0),
  (225, 1, .iconst 0, [], 0),
  (226, 1, .iastore, [], 0),
  (227, 3, .iinc 9 1, [], 1),
  (230, 3, .goto (-21), [209], 0),
  (233, 1, .aload_n 0, [], 0),
  (234, 3, .getfield 9, [], 0),
  (237, 1, .iconst 1, [], 1),
  (238, 1, .dup2, [], 0),
  (239, 1, .iaload, [], 0),
  (240, 1, .dup_x2, [], 0),
  (241, 1, .iconst 1, [], 1),
  (242, 1, .iadd, [], 0),
  (243, 1, .iastore, [], 0),
  (244, 1, .ireturn, [], 0)]
theorem kX9_addReach_ok : kX9_addReach.all (zck cX9_addReach) = true := by decide +kernel

def rX9_addReach : Room := { frames := 1, cells := 0, slots := 0, locals := 22 }
abbrev YX9_addReach : zM := (RX9, cX9_addReach, 10, some .int, rX9_addReach, UM, zlk fX9, zcs [(48, 2, 0, 0, zvs (UM) 9 (sX9_raises)), (59, 1, 0, 0, zvs (UM) 9 (sX9_changes))] [(55, 3, 0, 0, sX9_in)])
theorem YX9_addReach_ok : zYok (YX9_addReach) := zYok_of fX9_ok (zall (zcal_mono (zcalV (Y := YX9_addReach) (y := yX9_raises) (cc := cX9_raises) (nL := 2) (ret := some .int) (rm := rX9_raises) (mX9_raises) 48 1 9 (T := TX9) rfl wX9_48 ⟨by decide +kernel, by decide +kernel, by decide +kernel⟩ (by decide) ⟨Nat.le_of_ble_eq_true rfl, Nat.le_of_ble_eq_true rfl⟩) (fun _ _ _ _ h => zvs_P h)) (zall (zcal_mono (zcalV (Y := YX9_addReach) (y := yX9_changes) (cc := cX9_changes) (nL := 2) (ret := none) (rm := rX9_changes) (mX9_changes) 59 0 9 (T := TX9) rfl wX9_59 ⟨by decide +kernel, by decide +kernel, by decide +kernel⟩ (by decide) ⟨Nat.le_of_ble_eq_true rfl, Nat.le_of_ble_eq_true rfl⟩) (fun _ _ _ _ h => zvs_P h)) znil)) (zall (zcalS (Y := YX9_addReach) (y := yX9_in) (cc := cX9_in) (nL := 3) (ret := some .boolean) (rm := rX9_in) (mX9_in) 55 3 wX9_55 ⟨by decide +kernel, by decide +kernel, by decide +kernel⟩ (by decide) ⟨Nat.le_of_ble_eq_true rfl, Nat.le_of_ble_eq_true rfl⟩) znil)

theorem lX9_aR3 (ok : zO) (ex : zX) (G : zF) (a l n m b x : Int32) (w7 w8 w9 : Option Value) (h : ok (some (.int (G 1 1))) (mR7 G)) : zWP YX9_addReach ok ex 233 [some (.ref 0), some (.int a), some (.int l), some (.int n), some (.int m), some (.int b), some (.int x), w7, w8, w9] [] 0 0 G := by
  refine zat_ok YX9_addReach_ok (inv := zih YX9_addReach ok ex [82, 107, 209, 233]) zih_ok kX9_addReach (List.all_eq_true.mp kX9_addReach_ok) 233 _ _ _ _ _ ?_
  exact Exists.intro (zix (k := 1) rfl (by decide) (by decide)) (Exists.intro (zix (k := 1) rfl (by decide) (by decide)) h)
theorem lX9_aR2 (ok : zO) (ex : zX) (G : zF) (a l n m b x : Int32) (k : Nat) (hk : k < 100) (y : Int32) (h : ok (some (.int (mR6 G k 4 1 1))) (mR7 (mR6 G k 4))) : ∀ (d i : Nat), i + d = 4 → zWP YX9_addReach ok ex 209 [some (.ref 0), some (.int a), some (.int l), some (.int n), some (.int m), some (.int b), some (.int x), some (.int y), some (.int (nI k)), some (.int (nI (3 + i)))] [] 0 0 (mR6 G k i) := by
  intro d
  induction d with
  | zero =>
    intro i hi
    have hi : i = 4 := hi
    rw [hi]
    refine zat_ok YX9_addReach_ok (inv := zih YX9_addReach ok ex [82, 107, 209, 233]) zih_ok kX9_addReach (List.all_eq_true.mp kX9_addReach_ok) 209 _ _ _ _ _ ?_
    exact And.intro (fun _ => lX9_aR3 ok ex _ a l n m b x _ _ _ h) (fun g => absurd (by decide) g)
  | succ d ih =>
    intro i hi
    have ih := ih (i + 1) (by omega)
    have e1 : (nI k + nI (3 + i)).toNatClampNeg = k + (3 + i) := by rw [nI_add]; exact nI_clamp (by omega)
    have e2 : nI (3 + (i + 1)) = nI (3 + i) + 1 := (nI_1 (3 + i)).symm
    rw [e2, show mR6 G k (i + 1) = zup (mR6 G k i) 1 (nI k + nI (3 + i)).toNatClampNeg 0 by rw [e1]; rfl] at ih
    refine zat_ok YX9_addReach_ok (inv := zih YX9_addReach ok ex [82, 107, 209, 233]) zih_ok kX9_addReach (List.all_eq_true.mp kX9_addReach_ok) 209 _ _ _ _ _ ?_
    refine And.intro (fun g => absurd g (nI_ge (a := 3 + i) (b := 7) (by omega) (by decide))) (fun _ => ?_)
    exact Exists.intro (zix (nI_add k (3 + i)) (by omega) (by decide)) ih
theorem lX9_aR1 (ok : zO) (ex : zX) (G : zF) (a l n m b : Int32) (r : Nat) (hr : r < 5) (h : ok (some (.int (mRn G r a l n m b 1 1))) (mR7 (mRn G r a l n m b))) : zWP YX9_addReach ok ex 107 [some (.ref 0), some (.int a), some (.int l), some (.int n), some (.int m), some (.int b), some (.int (nI r)), none, none, none] [] 0 0 G := by
  have x1 : (10 + 3 * nI r : Int32) = nI (10 + 3 * r) := ix_re r
  have x2 : (10 + 3 * nI r + 1 : Int32) = nI (10 + 3 * r + 1) := ix_re1 r
  have x3 : (10 + 3 * nI r + 2 : Int32) = nI (10 + 3 * r + 2) := ix_re2 r
  have e1 := zicl x1 (by omega)
  have e2 := zicl x2 (by omega)
  have e3 := zicl x3 (by omega)
  have hS : mR4 G r a l = zup (zup (zup (zup G 1 (10 + 3 * nI r).toNatClampNeg a) 1 (10 + 3 * nI r + 1).toNatClampNeg l) 1 (10 + 3 * nI r + 2).toNatClampNeg (a * l)) 1 9 (zup (zup (zup G 1 (10 + 3 * nI r).toNatClampNeg a) 1 (10 + 3 * nI r + 1).toNatClampNeg l) 1 (10 + 3 * nI r + 2).toNatClampNeg (a * l) 1 9 + a * l) := by
    rw [e1, e2, e3]
    rfl
  unfold mRn at h
  refine zat_ok YX9_addReach_ok (inv := zih YX9_addReach ok ex [82, 107, 209, 233]) zih_ok kX9_addReach (List.all_eq_true.mp kX9_addReach_ok) 107 _ _ _ _ _ ?_
  refine Exists.intro (zix x1 (by omega) (by decide)) ?_
  refine Exists.intro (zix x2 (by omega) (by decide)) ?_
  refine Exists.intro (zix x3 (by omega) (by decide)) ?_
  refine Exists.intro (zix (k := 9) rfl (by decide) (by decide)) ?_
  refine Exists.intro (zix (k := 9) rfl (by decide) (by decide)) ?_
  refine And.intro (fun g => ?_) (fun g => ?_)
  · have hr0 : r = 0 := by
      have g : nI r ≤ 0 := g
      rcases Nat.lt_or_ge 0 r with q | q
      · exact absurd g (nI_nle q (by omega))
      · omega
    rw [if_pos hr0, hS] at h
    exact lX9_aR3 ok ex _ a l n m b _ _ _ _ h
  · have hr0 : ¬ r = 0 := by
      have g : ¬ nI r ≤ 0 := g
      intro q
      rw [q] at g
      exact g (by decide)
    rw [if_neg hr0, hS] at h
    have y1 : (25 + 7 * (nI r - 1) : Int32) = nI (25 + 7 * (r - 1)) := by
      rw [nI_m1 (by omega), show (25 : Int32) = nI 25 from rfl, show (7 : Int32) = nI 7 from rfl, nI_mulc, nI_add]
    have y2 : (25 + 7 * (nI r - 1) + 1 : Int32) = nI (25 + 7 * (r - 1) + 1) := by rw [y1, nI_1]
    have y3 : (25 + 7 * (nI r - 1) + 2 : Int32) = nI (25 + 7 * (r - 1) + 2) := by rw [y1, show (2 : Int32) = nI 2 from rfl, nI_add]
    have f1 := zicl y1 (by omega)
    have f2 := zicl y2 (by omega)
    have f3 := zicl y3 (by omega)
    refine Exists.intro (zix y1 (by omega) (by decide)) ?_
    refine Exists.intro (zix y2 (by omega) (by decide)) ?_
    refine Exists.intro (zix y3 (by omega) (by decide)) ?_
    have h5 := lX9_aR2 ok ex _ a l n m b (nI r) (25 + 7 * (r - 1)) (by omega) (10 + 3 * nI r) h 4 0 rfl
    have h6 : ∀ K : zF, mR6 K (25 + 7 * (r - 1)) 0 = K := fun _ => rfl
    rw [h6] at h5
    unfold mR5 at h5
    rw [← f2, ← f3, ← y1, ← f1] at h5
    exact h5

theorem lX9_aR0 (ok : zO) (ex : zX) (F : zF) (a l n m b : Int32) (h : zcn (F 1 1 = 5 ∨ 0 < F 1 2) (ok (some (.int 0)) (zup (mT F) 0 0 2))
      (∃ u r, u ≤ 8 ∧ F 0 3 = nI u ∧ r < 5 ∧ F 1 1 = nI r ∧ ok (some (.int (mRn (mKeep (mT F) u) r a l n m b 1 1))) (mR7 (mRn (mKeep (mT F) u) r a l n m b)))) : zWP YX9_addReach ok ex 82 [some (.ref 0), some (.int a), some (.int l), some (.int n), some (.int m), some (.int b), some (.int (F 1 1)), none, none, none] [] 0 0 (mT F) := by
  refine zat_ok YX9_addReach_ok (inv := zih YX9_addReach ok ex [82, 107, 209, 233]) zih_ok kX9_addReach (List.all_eq_true.mp kX9_addReach_ok) 82 _ _ _ _ _ ?_
  refine And.intro (fun g => h.1 (Or.inl g)) (fun g => ?_)
  refine Exists.intro (zix (k := 2) rfl (by decide) (by decide)) ?_
  refine And.intro (fun g2 => ?_) (fun g2 => h.1 (Or.inr (Int32.not_le.mp g2)))
  obtain ⟨u, r, h1, h2, h3, h4, h5⟩ := h.2 (fun q => q.elim g (fun q2 => absurd g2 (Int32.not_le.mpr q2)))
  refine ⟨u, h1, h2, ?_⟩
  have h6 := lX9_aR1 ok ex (mKeep (mT F) u) a l n m b r h3 h5
  rw [← h4] at h6
  exact h6

theorem mX9_addReach : zMet (UM) yX9_addReach cX9_addReach 10 (some .int) rX9_addReach (sX9_addReach) := by
  refine zmet (Y := YX9_addReach) rfl (by decide +kernel) ?_
  intro av F ok ex h
  unfold sX9_addReach at h
  split at h
  · rename_i a l n m b
    refine zgo_ok (YX9_addReach_ok) (inv := zih YX9_addReach ok ex [82, 107, 209, 233]) zih_ok kX9_addReach (List.all_eq_true.mp kX9_addReach_ok) 0 _ _ _ _ _ ?_
    refine And.intro (fun h1 => ?_) (fun h1 => zjeq0 (h.2 fun g => h1 g.1))
    refine zjeq1 ?_
    refine And.intro (fun h2 => ?_) (fun h2 => zjne0 (h.2 fun g => h2 g.2))
    refine zjne1 ?_
    have h := h.1 ⟨h1, h2⟩
    refine Exists.intro (zix (k := 1) rfl (by decide) (by decide)) ?_
    refine And.intro (fun h3 => ?_) (fun h3 => ?_)
    · have h3 : F 1 1 ≤ 0 := h3
      exact lX9_aR0 ok ex F a l n m b (h.1 (fun q => absurd h3 (Int32.not_le.mpr q)))
    · have h3 : 0 < F 1 1 := Int32.not_le.mp h3
      refine And.intro (fun h4 => ?_) (fun h4 => zjeq0 (h.2 fun g => h4 (g h3).1))
      refine zjeq1 ?_
      refine And.intro (fun h5 => ?_) (fun h5 => zjeq0 (h.2 fun g => h5 (g h3).2.1))
      refine zjeq1 ?_
      refine And.intro (fun h6 => ?_) (fun h6 => zjne0 (h.2 fun g => h6 (g h3).2.2))
      refine zjne1 ?_
      exact lX9_aR0 ok ex F a l n m b (h.1 (fun _ => ⟨h4, h5, h6⟩))
  · exact h.elim

end ZN6
