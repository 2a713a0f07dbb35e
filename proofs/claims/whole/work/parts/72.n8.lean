/-! the reference's arrive -/
section ZN8
set_option maxRecDepth 20000
abbrev zVa : Type := Int32 × Int32 × Int32 × Int32
def mAv (c : Nat → Int32) (l : Nat) : Nat → Nat → Bool × Nat × List zVa
  | 0, p => (false, p, [])
  | d + 1, p => if (mPa c p).1 = true then (if (mPa c p).2.1 < l then (if c (mPa c p).2.1 = 44 then ((mAv c l d ((mPa c p).2.1 + 1)).1, (mAv c l d ((mPa c p).2.1 + 1)).2.1, (mPa c p).2.2 :: (mAv c l d ((mPa c p).2.1 + 1)).2.2) else (false, (mPa c p).2.1, [])) else (true, (mPa c p).2.1, [(mPa c p).2.2])) else (false, (mPa c p).2.1, [])
def mNl : zF → Nat → List zVa → zF
  | F, _, [] => F
  | F, n, v :: t => mNl (mNS F n v.1 v.2.1 v.2.2.1 v.2.2.2) (n + 1) t
/-- behind a text: fault, reason, thrown -/
def mAx (F G : zF) (a b c : Int32) : Prop := (∀ c, c ≠ 0 → c ≠ 6 → G c = F c) ∧ (∀ i, i ≠ 0 → i ≠ 8 → i ≠ 9 → i ≠ 10 → i ≠ 11 → G 0 i = F 0 i) ∧ G 0 8 = 0 ∧ G 0 10 = a ∧ G 0 11 = b ∧ G 0 0 = c
def mAf (F G : zF) (u n0 : Nat) (L : List zVa) : Prop := G 1 = mNl F n0 L 1 ∧ G 2 = mKeep F u 2 ∧ G 3 = F 3 ∧ G 5 = F 5 ∧ G 0 0 = 0 ∧ G 0 3 = mKeep F u 0 3 ∧ G 0 5 = F 0 5 ∧ G 0 8 = 0 ∧ G 0 10 = -1 ∧ G 0 11 = F 0 11
/-- what is asked when the text is read -/
def mAh (F : zF) (L : List zVa) (ok : zO) : Prop := zcn (F 1 1 < 2) (∀ G, mAx F G (-1) 5 2 → ok (some (.int 0)) G) (zcn (¬ F 1 2 + nI L.length ≤ 16) (∀ G, mAx F G (-1) 4 2 → ok (some (.int 0)) G)
  (∃ u n0, u ≤ 8 ∧ F 0 3 = nI u ∧ F 1 2 = nI n0 ∧ n0 + L.length ≤ 16 ∧ ∀ G, mAf F G u n0 L → ok (some (.int (nI L.length))) G))
def sX9_arrive : zSp := fun as F ok _ => match as with
  | [.ref 0] => ∃ l, l ≤ 50 ∧ F 0 8 = nI l ∧ ((mAv (cAt F l) l 11 0).1 = false → ∀ G, mAx F G (nI (mAv (cAt F l) l 11 0).2.1) (F 0 11) 1 → ok (some (.int 0)) G) ∧ ((mAv (cAt F l) l 11 0).1 = true → mAh F (mAv (cAt F l) l 11 0).2.2 ok)
  | _ => False
/-- while it is read -/
def mB (F G : zF) (p : Nat) : Prop := (∀ c, c ≠ 0 → c ≠ 6 → G c = F c) ∧ (∀ i, i ≠ 0 → i ≠ 9 → G 0 i = F 0 i) ∧ G 0 0 = 0 ∧ G 0 9 = nI p
def mArr (G : zF) (L : List zVa) : Prop := ∀ (j : Nat) (v : zVa), L[j]? = some v → G 6 (4 * j) = v.1 ∧ G 6 (4 * j + 1) = v.2.1 ∧ G 6 (4 * j + 2) = v.2.2.1 ∧ G 6 (4 * j + 3) = v.2.2.2
theorem mPt2_ps {c : Nat → Int32} {q : Nat} {z d u : Int32} {l : Nat} (hl : ∀ p, l ≤ p → c p = 0) (hq : q ≤ l) : q ≤ (mPt2 c q z d u).2.1 ∧ (mPt2 c q z d u).2.1 ≤ l := by
  have hlt : ∀ p, ¬ c p = 0 → p < l := fun p h => by
    rcases Nat.lt_or_ge p l with g | g
    · exact g
    · exact absurd (hl p g) h
  unfold mPt2
  split
  · rename_i h1
    have := hlt q (by rw [h1]; decide)
    split
    · rename_i h2
      have := hlt (q + 1) (mIn0 (by decide) h2.1)
      exact ⟨by dsimp only; omega, by dsimp only; omega⟩
    · exact ⟨by dsimp only; omega, by dsimp only; omega⟩
  · exact ⟨Nat.le_refl _, hq⟩
theorem mPz_ps {c : Nat → Int32} {p : Nat} {u : Int32} {l : Nat} (hl : ∀ p, l ≤ p → c p = 0) (hp : p < l) : (mPz c p u).2.1 ≤ l ∧ ((mPz c p u).1 = true → p + 4 ≤ (mPz c p u).2.1) := by
  have hlt : ∀ p, ¬ c p = 0 → p < l := fun p h => by
    rcases Nat.lt_or_ge p l with g | g
    · exact g
    · exact absurd (hl p g) h
  unfold mPz
  split
  · rename_i h1
    have := hlt (p + 1) (mIn0 (by decide) h1.1)
    split
    · rename_i h2
      have := hlt (p + 2) (by rw [h2]; decide)
      split
      · rename_i h3
        have := hlt (p + 3) (mIn0 (by decide) h3.1)
        split
        · rename_i h4
          have := hlt (p + 4) (mIn0 (by decide) h4.1)
          have q := mPt2_ps (c := c) (q := p + 5) (z := c (p + 1) - 48) (d := 10 * (c (p + 3) - 48) + c (p + 4) - 48) (u := u) hl (by omega)
          exact ⟨q.2, fun _ => by omega⟩
        · have q := mPt2_ps (c := c) (q := p + 4) (z := c (p + 1) - 48) (d := c (p + 3) - 48) (u := u) hl (by omega)
          exact ⟨q.2, fun _ => by omega⟩
      · exact ⟨by dsimp only; omega, fun e => absurd (show false = true from e) (by decide)⟩
    · exact ⟨by dsimp only; omega, fun e => absurd (show false = true from e) (by decide)⟩
  · exact ⟨by dsimp only; omega, fun e => absurd (show false = true from e) (by decide)⟩
theorem mPa_ps {c : Nat → Int32} {p : Nat} {l : Nat} (hl : ∀ p, l ≤ p → c p = 0) (hp : p ≤ l) : (mPa c p).2.1 ≤ l ∧ ((mPa c p).1 = true → p + 4 ≤ (mPa c p).2.1) := by
  have hlt : ∀ p, ¬ c p = 0 → p < l := fun p h => by
    rcases Nat.lt_or_ge p l with g | g
    · exact g
    · exact absurd (hl p g) h
  unfold mPa
  split
  · rename_i h1
    exact mPz_ps hl (hlt p (by rw [h1]; decide))
  · split
    · rename_i h1
      exact mPz_ps hl (hlt p (by rw [h1]; decide))
    · exact ⟨hp, fun e => absurd (show false = true from e) (by decide)⟩
theorem mNS_ne (F : zF) (n : Nat) (a b c d : Int32) {k : Nat} (h : k ≠ 1) : mNS F n a b c d k = F k := by
  unfold mNS
  rw [zup_ne _ _ _ h, zup_ne _ _ _ h, zup_ne _ _ _ h, zup_ne _ _ _ h, zup_ne _ _ _ h, zup_ne _ _ _ h, zup_ne _ _ _ h, zup_ne _ _ _ h, zup_ne _ _ _ h, zup_ne _ _ _ h]
theorem mNS_2 (F : zF) (n : Nat) (a b c d : Int32) : mNS F n a b c d 1 2 = nI (n + 1) := by
  unfold mNS
  rw [zup_an _ _ _ (by omega), zup_an _ _ _ (by omega), zup_an _ _ _ (by omega), zup_an _ _ _ (by omega), zup_an _ _ _ (by omega), zup_an _ _ _ (by omega), zup_an _ _ _ (by omega), zup_an _ _ _ (by omega), zup_an _ _ _ (by omega), zup_at, nI_1]
theorem mNl_ne {k : Nat} (h : k ≠ 1) : ∀ (L : List zVa) (F : zF) (n : Nat), mNl F n L k = F k
  | [], _, _ => rfl
  | v :: t, F, n => (mNl_ne h t _ _).trans (mNS_ne F n _ _ _ _ h)
theorem mNl_2 : ∀ (L : List zVa) (F : zF) (n : Nat), F 1 2 = nI n → mNl F n L 1 2 = nI (n + L.length)
  | [], _, _, h => h
  | v :: t, F, n, _ => by
    rw [List.length_cons, show n + (t.length + 1) = n + 1 + t.length by omega]
    exact mNl_2 t _ _ (mNS_2 F n _ _ _ _)
theorem zup_c1 {F G : zF} (e : G 1 = F 1) (i : Nat) (v : Int32) : zup G 1 i v 1 = zup F 1 i v 1 := by
  funext b
  unfold zup
  rw [if_pos rfl, if_pos rfl, e]
theorem mNS_c1 {F G : zF} (e : G 1 = F 1) (n : Nat) (a b c d : Int32) : mNS G n a b c d 1 = mNS F n a b c d 1 := by
  unfold mNS
  rw [e]
  exact zup_c1 (zup_c1 (zup_c1 (zup_c1 (zup_c1 (zup_c1 (zup_c1 (zup_c1 (zup_c1 (zup_c1 e _ _) _ _) _ _) _ _) _ _) _ _) _ _) _ _) _ _) _ _
theorem mNl_c1 : ∀ (L : List zVa) {F G : zF} (n : Nat), G 1 = F 1 → mNl G n L 1 = mNl F n L 1
  | [], _, _, _, e => e
  | v :: t, _, _, n, e => mNl_c1 t (n + 1) (mNS_c1 e n _ _ _ _)
theorem mNl_sn : ∀ (L : List zVa) (F : zF) (n : Nat) (v : zVa), mNl F n (L ++ [v]) = mNS (mNl F n L) (n + L.length) v.1 v.2.1 v.2.2.1 v.2.2.2
  | [], _, _, _ => rfl
  | w :: t, F, n, v => by
    show mNl (mNS F n w.1 w.2.1 w.2.2.1 w.2.2.2) (n + 1) (t ++ [v]) = _
    rw [mNl_sn t, List.length_cons, show n + (t.length + 1) = n + 1 + t.length by omega]
    rfl
theorem mKeep_c {F G : zF} (e1 : G 1 = F 1) (e2 : G 2 = F 2) (u : Nat) : mKeep G u 2 = mKeep F u 2 ∧ mKeep G u 1 = F 1 ∧ mKeep G u 0 3 = mKeep F u 0 3 ∧ (∀ i, i ≠ 3 → mKeep G u 0 i = G 0 i) ∧ ∀ c, c ≠ 0 → c ≠ 2 → mKeep G u c = G c := by
  refine ⟨?_, ?_, ?_, fun i h => ?_, fun c h0 h2 => ?_⟩
  · funext i
    unfold mKeep
    split
    · rw [zup_ne _ _ _ (by decide), zup_ne _ _ _ (by decide)]
      unfold mPush
      split
      · rw [zup_ne _ _ _ (by decide), zup_ne _ _ _ (by decide)]
        unfold mShift
        rw [if_neg (fun q => absurd q.1 (by decide)), if_neg (fun q => absurd q.1 (by decide)), e1]
      · rw [zup_ne _ _ _ (by decide), zup_ne _ _ _ (by decide)]
        unfold mShift
        rw [e2]
    · rw [zup_ne _ _ _ (by decide), zup_ne _ _ _ (by decide)]
      unfold mPush
      rw [e1, e2]
  · rw [← e1]
    unfold mKeep
    split
    · rw [zup_ne _ _ _ (by decide)]
      funext i
      unfold mPush
      rw [if_neg (fun q => absurd q.1 (by decide)), zup_ne _ _ _ (by decide)]
      unfold mShift
      rw [if_neg (fun q => absurd q.1 (by decide))]
    · rw [zup_ne _ _ _ (by decide)]
      funext i
      unfold mPush
      rw [if_neg (fun q => absurd q.1 (by decide))]
  · unfold mKeep
    split
    · rw [zup_at, zup_at]
    · rw [zup_at, zup_at]
  · unfold mKeep mPush mShift
    split <;> simp [zup, h]
  · funext i
    unfold mKeep mPush mShift
    split <;> simp [zup, h0, h2]

def kX9_arrive : List zI := [
  (0, 1, .aload_n 0, [], 0),
  (1, 1, .iconst 0, [], 0),
  (2, 3, .putfield 42, [], 0),
  (5, 1, .aload_n 0, [], 0),
  (6, 1, .iconst 0, [], 0),
  (7, 3, .putfield 120, [], 0),
  (10, 1, .iconst 0, [], 0),
  (11, 1, .istore_n 1, [], 0),
  (12, 1, .iconst 1, [], 1),
  (13, 1, .istore_n 2, [], 0),
  (14, 1, .iload_n 2, [], 0),
  (15, 3, .ifCond .eq 72, [87], 0),
  (18, 1, .aload_n 0, [], 0),
  (19, 1, .iload_n 1, [], 0),
  (20, 3, .invokevirtual 130, [], 0),
  (23, 1, .istore_n 3, [], 0),
  (24, 1, .iload_n 3, [], 0),
  (25, 3, .ifCond .eq 18, [43], 0),
  (28, 1, .aload_n 0, [], 0),
  (29, 3, .getfield 120, [], 0),
  (32, 1, .aload_n 0, [], 0),
  (33, 3, .getfield 117, [], 0),
  (36, 3, .if_icmp .ge 7, [43], 0),
  (39, 1, .iconst 1, [], 1),
  (40, 3, .goto 4, [44], 0),
  (43, 1, .iconst 0, [], 0),
  (44, 1, .istore_n 2, [], 0),
  (45, 1, .iload_n 3, [], 0),
  (46, 3, .ifCond .eq 16, [62], 0),
  (49, 1, .iload_n 2, [], 0),
  (50, 3, .ifCond .eq 31, [81], 0),
  (53, 1, .aload_n 0, [], 0),
  (54, 2, .bipush 44, [], 44),
  (56, 3, .invokevirtual 127, [], 0),
  (59, 3, .ifCond .ne 22, [81], 0),
  (62, 1, .aload_n 0, [], 0),
  (63, 1, .aload_n 0, [], 0),
  (64, 3, .getfield 120, [], 0),
  (67, 3, .putfield 25, [], 0),
  (70, 1, .aload_n 0, [], 0),
  (71, 1, .iconst 0, [], 0),
  (72, 3, .putfield 117, [], 0),
  (75, 1, .aload_n 0, [], 0),
  (76, 1, .iconst 1, [], 1),
  (77, 3, .invokevirtual 48, [], 0),
  (80, 1, .ireturn, [], 0),
  (81, 3, .iinc 1 1, [], 1),
  (84, 3, .goto (-70), [14], 0),
  (87, 1, .aload_n 0, [], 0),
  (88, 1, .iconst (-1), [], (-1)),
  (89, 3, .putfield 25, [], 0),
  (92, 1, .aload_n 0, [], 0),
  (93, 1, .iconst 0, [], 0),
  (94, 3, .putfield 117, [], 0),
  (97, 1, .aload_n 0, [], 0),
  (98, 3, .getfield 9, [], 0),
  (101, 1, .iconst 1, [], 1),
  (102, 1, .iaload, [], 0),
  (103, 1, .iconst 2, [], 2),
  (104, 3, .if_icmp .ge 10, [114], 0),
  (107, 1, .aload_n 0, [], 0),
  (108, 1, .iconst 5, [], 5),
  (109, 1, .iconst 2, [], 2),
  (110, 3, .invokevirtual 110, [], 0),
  (113, 1, .ireturn, [], 0),
  (114, 1, .aload_n 0, [], 0),
  (115, 3, .getfield 9, [], 0),
  (118, 1, .iconst 2, [], 2),
  (119, 1, .iaload, [], 0),
  (120, 1, .iload_n 1, [], 0),
  (121, 1, .iadd, [], 0),
  (122, 2, .bipush 16, [], 16),
  (124, 3, .if_icmp .le 10, [134], 0),
  (127, 1, .aload_n 0, [], 0),
  (128, 1, .iconst 4, [], 4),
  (129, 1, .iconst 2, [], 2),
  (130, 3, .invokevirtual 110, [], 0),
  (133, 1, .ireturn, [], 0),
  (134, 1, .aload_n 0, [], 0),
  (135, 3, .invokevirtual 59, [], 0),
  (138, 1, .iconst 0, [], 0),
  (139, 1, .istore_n 3, [], 0),
  (140, 1, .iload_n 3, [], 0),
  (141, 1, .iload_n 1, [], 0),
  (142, 3, .if_icmp .ge 53, [195], 0),
  (145, 1, .aload_n 0, [], 0),
  (146, 1, .aload_n 0, [], 0),
  (147, 3, .getfield 29, [], 0),
  (150, 1, .iconst 4, [], 4),
  (151, 1, .iload_n 3, [], 0),
  (152, 1, .imul, [], 0),
  (153, 1, .iaload, [], 0),
  (154, 1, .aload_n 0, [], 0),
  (155, 3, .getfield 29, [], 0),
  (158, 1, .iconst 4, [], 4),
  (159, 1, .iload_n 3, [], 0),
  (160, 1, .imul, [], 0),
  (161, 1, .iconst 1, [], 1),
  (162, 1, .iadd, [], 0),
  (163, 1, .iaload, [], 0),
  (164, 1, .aload_n 0, [], 0),
  (165, 3, .getfield 29, [], 0),
  (168, 1, .iconst 4, [], 4),
  (169, 1, .iload_n 3, [], 0),
  (170, 1, .imul, [], 0),
  (171, 1, .iconst 2, [], 2),
  (172, 1, .iadd, [], 0),
  (173, 1, .iaload, [], 0),
  (174, 1, .aload_n 0, [], 0),
  (175, 3, .getfield 29, [], 0),
  (178, 1, .iconst 4, [], 4),
  (179, 1, .iload_n 3, [], 0),
  (180, 1, .imul, [], 0),
  (181, 1, .iconst 3, [], 3),
  (182, 1, .iadd, [], 0),
  (183, 1, .iaload, [], 0),
  (184, 3, .invokevirtual 113, [], 0),
  (187, 2, .istore 4, [], 0),
  (189, 3, .iinc 3 1, [], 1),
  (192, 3, .goto (-52), [140], 0),
  (195, 1, .iload_n 1, [], 0),
  (196, 1, .ireturn, [], 0)]
theorem kX9_arrive_ok : kX9_arrive.all (zck cX9_arrive) = true := by decide +kernel

def rX9_arrive : Room := { frames := 3, cells := 0, slots := 0, locals := 64 }
abbrev YX9_arrive : zM := (RX9, cX9_arrive, 5, some .int, rX9_arrive, UM, zlk fX9, zcs [(130, 2, 0, 0, zvs (UM) 9 (sX9_arrives)), (127, 2, 0, 0, zvs (UM) 9 (sX9_takes)), (48, 2, 0, 0, zvs (UM) 9 (sX9_raises)), (110, 3, 0, 0, zvs (UM) 9 (sX9_refuses)), (59, 1, 0, 0, zvs (UM) 9 (sX9_changes)), (113, 5, 0, 0, zvs (UM) 9 (sX9_newShip))] [])
theorem YX9_arrive_ok : zYok (YX9_arrive) := zYok_of fX9_ok (zall (zcal_mono (zcalV (Y := YX9_arrive) (y := yX9_arrives) (cc := cX9_arrives) (nL := 4) (ret := some .boolean) (rm := rX9_arrives) (mX9_arrives) 130 1 9 (T := TX9) rfl wX9_130 ⟨by decide +kernel, by decide +kernel, by decide +kernel⟩ (by decide) ⟨Nat.le_of_ble_eq_true rfl, Nat.le_of_ble_eq_true rfl⟩) (fun _ _ _ _ h => zvs_P h)) (zall (zcal_mono (zcalV (Y := YX9_arrive) (y := yX9_takes) (cc := cX9_takes) (nL := 2) (ret := some .boolean) (rm := rX9_takes) (mX9_takes) 127 1 9 (T := TX9) rfl wX9_127 ⟨by decide +kernel, by decide +kernel, by decide +kernel⟩ (by decide) ⟨Nat.le_of_ble_eq_true rfl, Nat.le_of_ble_eq_true rfl⟩) (fun _ _ _ _ h => zvs_P h)) (zall (zcal_mono (zcalV (Y := YX9_arrive) (y := yX9_raises) (cc := cX9_raises) (nL := 2) (ret := some .int) (rm := rX9_raises) (mX9_raises) 48 1 9 (T := TX9) rfl wX9_48 ⟨by decide +kernel, by decide +kernel, by decide +kernel⟩ (by decide) ⟨Nat.le_of_ble_eq_true rfl, Nat.le_of_ble_eq_true rfl⟩) (fun _ _ _ _ h => zvs_P h)) (zall (zcal_mono (zcalV (Y := YX9_arrive) (y := yX9_refuses) (cc := cX9_refuses) (nL := 3) (ret := some .int) (rm := rX9_refuses) (mX9_refuses) 110 2 9 (T := TX9) rfl wX9_110 ⟨by decide +kernel, by decide +kernel, by decide +kernel⟩ (by decide) ⟨Nat.le_of_ble_eq_true rfl, Nat.le_of_ble_eq_true rfl⟩) (fun _ _ _ _ h => zvs_P h)) (zall (zcal_mono (zcalV (Y := YX9_arrive) (y := yX9_changes) (cc := cX9_changes) (nL := 2) (ret := none) (rm := rX9_changes) (mX9_changes) 59 0 9 (T := TX9) rfl wX9_59 ⟨by decide +kernel, by decide +kernel, by decide +kernel⟩ (by decide) ⟨Nat.le_of_ble_eq_true rfl, Nat.le_of_ble_eq_true rfl⟩) (fun _ _ _ _ h => zvs_P h)) (zall (zcal_mono (zcalV (Y := YX9_arrive) (y := yX9_newShip) (cc := cX9_newShip) (nL := 6) (ret := some .int) (rm := rX9_newShip) (mX9_newShip) 113 4 9 (T := TX9) rfl wX9_113 ⟨by decide +kernel, by decide +kernel, by decide +kernel⟩ (by decide) ⟨Nat.le_of_ble_eq_true rfl, Nat.le_of_ble_eq_true rfl⟩) (fun _ _ _ _ h => zvs_P h)) znil)))))) znil

theorem lX9_ar62 (ok : zO) (ex : zX) (F G : zF) (p : Nat) (w1 w2 w3 : Option Value) (hB : mB F G p) (h : ∀ G', mAx F G' (nI p) (F 0 11) 1 → ok (some (.int 0)) G') : zWP YX9_arrive ok ex 62 [some (.ref 0), w1, w2, w3, none] [] 0 0 G := by
  obtain ⟨b1, b2, b3, b4⟩ := hB
  refine zat_ok YX9_arrive_ok (inv := zih YX9_arrive ok ex [14, 62, 87, 140]) zih_ok kX9_arrive (List.all_eq_true.mp kX9_arrive_ok) 62 _ _ _ _ _ ?_
  refine h _ ⟨fun c c0 c6 => ?_, fun i i0 i8 i9 i10 i11 => ?_, ?_, ?_, ?_, ?_⟩
  · rw [zup_ne _ _ _ c0, zup_ne _ _ _ c0, zup_ne _ _ _ c0]
    exact b1 c c0 c6
  · rw [zup_an _ _ _ i0, zup_an _ _ _ i8, zup_an _ _ _ i10]
    exact b2 i i0 i9
  · rw [zup_an _ _ _ (by decide), zup_at]
  · rw [zup_an _ _ _ (by decide), zup_an _ _ _ (by decide), zup_at, b4]
  · rw [zup_an _ _ _ (by decide), zup_an _ _ _ (by decide), zup_an _ _ _ (by decide)]
    exact b2 11 (by decide) (by decide)
  · rw [zup_at]
theorem lX9_ar140 (ok : zO) (ex : zX) (K : zF) (n0 : Nat) (L : List zVa) (x2 : Int32) (h2 : K 1 2 = nI n0) (h16 : n0 + L.length ≤ 16) (hA : mArr K L) (h : ok (some (.int (nI L.length))) (mNl K n0 L)) : ∀ (d i : Nat) (w : Option Value), i + d = L.length → zWP YX9_arrive ok ex 140 [some (.ref 0), some (.int (nI L.length)), some (.int x2), some (.int (nI i)), w] [] 0 0 (mNl K n0 (L.take i)) := by
  intro d
  induction d with
  | zero =>
    intro i w hi
    have hi : i = L.length := hi
    rw [hi, List.take_length]
    refine zat_ok YX9_arrive_ok (inv := zih YX9_arrive ok ex [14, 62, 87, 140]) zih_ok kX9_arrive (List.all_eq_true.mp kX9_arrive_ok) 140 _ _ _ _ _ ?_
    exact And.intro (fun _ => h) (fun g => absurd (nI_le (Nat.le_refl _) (by omega)) g)
  | succ d ih =>
    intro i w hi
    obtain ⟨v, hv⟩ : ∃ v, L[i]? = some v := ⟨_, List.getElem?_eq_getElem (by omega)⟩
    have hil : (L.take i).length = i := by rw [List.length_take]; omega
    have ht : L.take (i + 1) = L.take i ++ [v] := by rw [List.take_add_one, hv]; rfl
    obtain ⟨a0, a1, a2, a3⟩ := hA i v hv
    have e6 : mNl K n0 (L.take i) 6 = K 6 := mNl_ne (by decide) _ _ _
    have e0 : (4 * nI i).toNatClampNeg = 4 * i := zicl (ix_a0 i) (by omega)
    have e1 : (4 * nI i + 1).toNatClampNeg = 4 * i + 1 := zicl (ix_a1 i) (by omega)
    have e2 : (4 * nI i + 2).toNatClampNeg = 4 * i + 2 := zicl (ix_a2 i) (by omega)
    have e3 : (4 * nI i + 3).toNatClampNeg = 4 * i + 3 := zicl (ix_a3 i) (by omega)
    rw [← e6, ← e0] at a0
    rw [← e6, ← e1] at a1
    rw [← e6, ← e2] at a2
    rw [← e6, ← e3] at a3
    have ih := fun w => ih (i + 1) w (by omega)
    rw [ht, mNl_sn, hil, ← nI_1 i, ← a0, ← a1, ← a2, ← a3] at ih
    refine zat_ok YX9_arrive_ok (inv := zih YX9_arrive ok ex [14, 62, 87, 140]) zih_ok kX9_arrive (List.all_eq_true.mp kX9_arrive_ok) 140 _ _ _ _ _ ?_
    refine And.intro (fun g => absurd g (nI_ge (a := i) (b := L.length) (by omega) (by omega))) (fun _ => ?_)
    refine Exists.intro (zix (ix_a0 i) (by omega) (by decide)) ?_
    refine Exists.intro (zix (ix_a1 i) (by omega) (by decide)) ?_
    refine Exists.intro (zix (ix_a2 i) (by omega) (by decide)) ?_
    refine Exists.intro (zix (ix_a3 i) (by omega) (by decide)) ?_
    refine ⟨n0 + i, by omega, ?_, ih _⟩
    have := mNl_2 (L.take i) K n0 h2
    rw [hil] at this
    exact this
theorem lX9_ar87 (ok : zO) (ex : zX) (F G : zF) (p : Nat) (L : List zVa) (x2 x3 : Int32) (hL : L.length ≤ 16) (hB : mB F G p) (hA : mArr G L) (h : mAh F L ok) : zWP YX9_arrive ok ex 87 [some (.ref 0), some (.int (nI L.length)), some (.int x2), some (.int x3), none] [] 0 0 G := by
  obtain ⟨b1, b2, b3, b4⟩ := hB
  have g1 : (zup (zup G 0 10 (-1)) 0 8 0) 1 = F 1 := by rw [zup_ne _ _ _ (by decide), zup_ne _ _ _ (by decide)]; exact b1 1 (by decide) (by decide)
  have g2 : (zup (zup G 0 10 (-1)) 0 8 0) 2 = F 2 := by rw [zup_ne _ _ _ (by decide), zup_ne _ _ _ (by decide)]; exact b1 2 (by decide) (by decide)
  have gc : ∀ c, c ≠ 0 → c ≠ 6 → (zup (zup G 0 10 (-1)) 0 8 0) c = F c := fun c c0 c6 => by rw [zup_ne _ _ _ c0, zup_ne _ _ _ c0]; exact b1 c c0 c6
  have g0 : ∀ i, i ≠ 0 → i ≠ 8 → i ≠ 9 → i ≠ 10 → (zup (zup G 0 10 (-1)) 0 8 0) 0 i = F 0 i := fun i i0 i8 i9 i10 => by rw [zup_an _ _ _ i8, zup_an _ _ _ i10]; exact b2 i i0 i9
  have g8 : (zup (zup G 0 10 (-1)) 0 8 0) 0 8 = 0 := zup_at _ _ _ _
  have g10 : (zup (zup G 0 10 (-1)) 0 8 0) 0 10 = -1 := by rw [zup_an _ _ _ (by decide), zup_at]
  have g00 : (zup (zup G 0 10 (-1)) 0 8 0) 0 0 = 0 := by rw [zup_an _ _ _ (by decide), zup_an _ _ _ (by decide)]; exact b3
  have g6 : (zup (zup G 0 10 (-1)) 0 8 0) 6 = G 6 := by rw [zup_ne _ _ _ (by decide), zup_ne _ _ _ (by decide)]
  have hrf : ∀ y, mAx F (zup (zup (zup (zup G 0 10 (-1)) 0 8 0) 0 11 y) 0 0 2) (-1) y 2 := fun y => by
    refine ⟨fun c c0 c6 => ?_, fun i i0 i8 i9 i10 i11 => ?_, ?_, ?_, ?_, zup_at _ _ _ _⟩
    · rw [zup_ne _ _ _ c0, zup_ne _ _ _ c0]; exact gc c c0 c6
    · rw [zup_an _ _ _ i0, zup_an _ _ _ i11]; exact g0 i i0 i8 i9 i10
    · rw [zup_an _ _ _ (by decide), zup_an _ _ _ (by decide)]; exact g8
    · rw [zup_an _ _ _ (by decide), zup_an _ _ _ (by decide)]; exact g10
    · rw [zup_an _ _ _ (by decide), zup_at]
  refine zat_ok YX9_arrive_ok (inv := zih YX9_arrive ok ex [14, 62, 87, 140]) zih_ok kX9_arrive (List.all_eq_true.mp kX9_arrive_ok) 87 _ _ _ _ _ ?_
  refine Exists.intro (zix (k := 1) rfl (by decide) (by decide)) ?_
  refine And.intro (fun t1 => ?_) (fun t1 => ?_)
  · have t1 : 2 ≤ G 1 1 := t1
    rw [b1 1 (by decide) (by decide)] at t1
    refine Exists.intro (zix (k := 2) rfl (by decide) (by decide)) ?_
    refine And.intro (fun t2 => ?_) (fun t2 => ?_)
    · have t2 : G 1 2 + nI L.length ≤ 16 := t2
      rw [b1 1 (by decide) (by decide)] at t2
      obtain ⟨u, n0, u1, u2, u3, u4, h⟩ := (h.2 (Int32.not_lt.mpr t1)).2 (fun q => q t2)
      refine ⟨u, u1, (g0 3 (by decide) (by decide) (by decide) (by decide)).trans u2, ?_⟩
      obtain ⟨k1, k2, k3, k4, k5⟩ := mKeep_c g1 g2 u
      have h5 := lX9_ar140 ok ex (mKeep (zup (zup G 0 10 (-1)) 0 8 0) u) n0 L x2 (by rw [k2]; exact u3) u4 (fun j v hj => by rw [k5 6 (by decide) (by decide), g6]; exact hA j v hj) (h _ ?_) L.length 0 none (Nat.zero_add _)
      · exact h5
      · refine ⟨mNl_c1 L n0 k2, ?_, ?_, ?_, ?_, ?_, ?_, ?_, ?_, ?_⟩
        · rw [mNl_ne (by decide)]; exact k1
        · rw [mNl_ne (by decide), k5 3 (by decide) (by decide)]; exact gc 3 (by decide) (by decide)
        · rw [mNl_ne (by decide), k5 5 (by decide) (by decide)]; exact gc 5 (by decide) (by decide)
        · rw [mNl_ne (by decide), k4 0 (by decide)]; exact g00
        · rw [mNl_ne (by decide)]; exact k3
        · rw [mNl_ne (by decide), k4 5 (by decide)]; exact g0 5 (by decide) (by decide) (by decide) (by decide)
        · rw [mNl_ne (by decide), k4 8 (by decide)]; exact g8
        · rw [mNl_ne (by decide), k4 10 (by decide)]; exact g10
        · rw [mNl_ne (by decide), k4 11 (by decide)]; exact g0 11 (by decide) (by decide) (by decide) (by decide)
    · have t2 : ¬ G 1 2 + nI L.length ≤ 16 := t2
      rw [b1 1 (by decide) (by decide)] at t2
      exact (h.2 (Int32.not_lt.mpr t1)).1 t2 _ (hrf 4)
  · have t1 : ¬ 2 ≤ G 1 1 := t1
    rw [b1 1 (by decide) (by decide)] at t1
    exact h.1 (Int32.not_le.mp t1) _ (hrf 5)
theorem lX9_ar14 (ok : zO) (ex : zX) (F : zF) (l : Nat) : ∀ (d n p : Nat) (G : zF) (acc : List zVa) (w3 : Option Value), 11 ≤ d + n → 5 * n ≤ p → mPl G l p → acc.length = n → mArr G acc → mB F G p →
    ((mAv (cAt F l) l d p).1 = false → ∀ G', mAx F G' (nI (mAv (cAt F l) l d p).2.1) (F 0 11) 1 → ok (some (.int 0)) G') → ((mAv (cAt F l) l d p).1 = true → mAh F (acc ++ (mAv (cAt F l) l d p).2.2) ok) →
    zWP YX9_arrive ok ex 14 [some (.ref 0), some (.int (nI n)), some (.int 1), w3, none] [] 0 0 G := by
  intro d
  induction d with
  | zero =>
    intro n p G acc w3 h1 h2 h3
    obtain ⟨-, -, q1, q2⟩ := h3
    omega
  | succ d ih =>
    intro n p G acc w3 h1 h2 h3 h4 h5 h6 hf ht
    have hpl := h3.2.2.1
    have hl50 := h3.2.2.2
    have hcG : cAt G l = cAt F l := by
      funext q
      unfold cAt
      rw [h6.1 5 (by decide) (by decide)]
    have hps := mPa_ps (c := cAt F l) (p := p) (l := l) (fun q hq => cAt_0 F hq) hpl
    unfold mAv at hf ht
    generalize hR : mPa (cAt F l) p = R at hps hf ht
    refine zat_ok YX9_arrive_ok (inv := zih YX9_arrive ok ex [14, 62, 87, 140]) zih_ok kX9_arrive (List.all_eq_true.mp kX9_arrive_ok) 14 _ _ _ _ _ ?_
    refine zjeq1 ?_
    refine ⟨n, l, p, rfl, by omega, hl50, hpl, h3.1, h3.2.1, fun G' e => ?_⟩
    rw [hcG, hR] at e
    rw [hcG, hR]
    obtain ⟨⟨e1, e2, e3⟩, e4, e5⟩ := e
    have hB' : mB F G' R.2.1 := ⟨fun c c0 c6 => (e1 c c0 c6).trans (h6.1 c c0 c6), fun i i0 i9 => (e2 i i9).trans (h6.2.1 i i0 i9), (e2 0 (by decide)).trans h6.2.2.1, e4⟩
    have hP' : mPl G' l R.2.1 := ⟨(e2 8 (by decide)).trans h3.1, e4, hps.1, hl50⟩
    have hcG' : cAt G' l = cAt F l := by
      funext q
      unfold cAt
      rw [hB'.1 5 (by decide) (by decide)]
    by_cases hb : R.1 = true
    · rw [if_pos hb] at hf ht
      have hA' : mArr G' (acc ++ [R.2.2]) := fun j v hj => by
        by_cases hjn : j < n
        · rw [List.getElem?_append_left (by omega)] at hj
          rw [e3 (4 * j) (by omega), e3 (4 * j + 1) (by omega), e3 (4 * j + 2) (by omega), e3 (4 * j + 3) (by omega)]
          exact h5 j v hj
        · rw [List.getElem?_append_right (by omega)] at hj
          have hj0 : j = n := by
            rcases Nat.lt_or_ge 0 (j - acc.length) with q | q
            · rw [List.getElem?_eq_none (by simp; omega)] at hj
              exact nomatch hj
            · omega
          rw [hj0, h4, Nat.sub_self] at hj
          cases hj
          rw [hj0]
          exact e5 hb
      rw [if_pos hb]
      refine zjeq1 ?_
      refine And.intro (fun t1 => ?_) (fun t1 => ?_)
      · -- the text ends
        have t1 : G' 0 8 ≤ G' 0 9 := t1
        rw [hP'.1, hP'.2.1, nI_leI (by omega) (by omega)] at t1
        rw [if_neg (by omega)] at hf ht
        refine zjeq1 (zjeq0 ?_)
        have h9 := lX9_ar87 ok ex F G' R.2.1 (acc ++ [R.2.2]) 0 1 (by simp; omega) hB' hA' (ht rfl)
        rw [List.length_append, List.length_singleton, h4, ← nI_1] at h9
        refine zat_ok YX9_arrive_ok (inv := zih YX9_arrive ok ex [14, 62, 87, 140]) zih_ok kX9_arrive (List.all_eq_true.mp kX9_arrive_ok) 14 _ _ _ _ _ ?_
        exact zjeq0 h9
      · have t1 : ¬ G' 0 8 ≤ G' 0 9 := t1
        rw [hP'.1, hP'.2.1, nI_leI (by omega) (by omega)] at t1
        rw [if_pos (by omega)] at hf ht
        refine zjeq1 (zjeq1 ?_)
        refine ⟨mPl_in hP', fun t2 => zjne1 ?_, fun t2 => zjne0 ?_⟩
        · have t2 := (mPl_tk hP' (by decide)).mp t2
          rw [hcG'] at t2
          rw [if_pos t2] at hf ht
          have hn := hps.2 hb
          have h9 := ih (n + 1) (R.2.1 + 1) (zup G' 0 9 (G' 0 9 + 1)) (acc ++ [R.2.2]) (some (.int 1)) (by omega) (by omega) (mPl_nx hP' (by omega)) (by simp; omega) (fun j v hj => by rw [zup_ne _ _ _ (by decide)]; exact hA' j v hj)
            ⟨fun c c0 c6 => by rw [zup_ne _ _ _ c0]; exact hB'.1 c c0 c6, fun i i0 i9 => by rw [zup_an _ _ _ i9]; exact hB'.2.1 i i0 i9, by rw [zup_an _ _ _ (by decide)]; exact hB'.2.2.1, by rw [zup_at, e4, nI_1]⟩
            hf (fun g => by rw [List.append_assoc]; exact ht g)
          rw [← nI_1] at h9
          exact h9
        · have t2 : ¬ cAt G' l R.2.1 = 44 := fun q => t2 ((mPl_tk hP' (by decide)).mpr q)
          rw [hcG'] at t2
          rw [if_neg t2] at hf
          exact lX9_ar62 ok ex F G' R.2.1 _ _ _ hB' (hf rfl)
    · rw [if_neg hb] at hf
      rw [if_neg hb]
      refine zjeq0 (zjeq0 ?_)
      exact lX9_ar62 ok ex F G' R.2.1 _ _ _ hB' (hf rfl)

theorem mX9_arrive : zMet (UM) yX9_arrive cX9_arrive 5 (some .int) rX9_arrive (sX9_arrive) := by
  refine zmet (Y := YX9_arrive) rfl (by decide +kernel) ?_
  intro av F ok ex h
  unfold sX9_arrive at h
  split at h
  · refine zgo_ok (YX9_arrive_ok) (inv := zih YX9_arrive ok ex [14, 62, 87, 140]) zih_ok kX9_arrive (List.all_eq_true.mp kX9_arrive_ok) 0 _ _ _ _ _ ?_
    obtain ⟨l, hl, h8, hf, ht⟩ := h
    have hB : mB F (zup (mT F) 0 9 0) 0 := ⟨fun c c0 c6 => by rw [zup_ne _ _ _ c0]; exact zup_ne _ _ _ c0, fun i i0 i9 => by rw [zup_an _ _ _ i9]; exact zup_an _ _ _ i0, by rw [zup_an _ _ _ (by decide)]; exact zup_at _ _ _ _, zup_at _ _ _ _⟩
    exact lX9_ar14 ok ex F l 11 0 0 (zup (mT F) 0 9 0) [] none (by decide) (by decide) ⟨(hB.2.1 8 (by decide) (by decide)).trans h8, hB.2.2.2, Nat.zero_le _, hl⟩ rfl (fun j v hj => nomatch hj) hB hf (fun g => by rw [List.nil_append]; exact ht g)
  · exact h.elim

end ZN8
