/-! the reference's account, meanLocked -/
section ZN5
set_option maxRecDepth 20000
def mA2 (F : zF) : Nat → Int32
  | 0 => 0
  | k + 1 => if mOf F k 4 < 0 then mA2 F k + 1 else mA2 F k
def mA3 (F : zF) : Nat → Int32
  | 0 => 0
  | k + 1 => if ¬ mOf F k 4 < 0 ∧ mOf F k 6 = nI k then mA3 F k + 1 else mA3 F k
def mA4 (F : zF) : Nat → Int32
  | 0 => 0
  | k + 1 => mA4 F k + mWa F k
def mA5 (F : zF) : Nat → Int32
  | 0 => 0
  | k + 1 => mA5 F k + mHd F k
def mA7 (F : zF) (w : Nat) : Nat → Int32
  | 0 => 0
  | k + 1 => mA7 F w k + mLP F k w
def sX9_account : zSp := fun as F ok _ => match as with
  | [.ref 0, .int w] => ∃ n m, n ≤ 16 ∧ F 1 2 = nI n ∧ m ≤ 5 ∧ F 1 1 = nI m ∧ (∀ k, k < m - 1 → ∃ b, b < 8 ∧ mLP F k 4 = nI b) ∧ (w = 0 → ok (some (.int (F 1 1))) (mT F)) ∧ (w = 1 → ok (some (.int (F 1 2))) (mT F)) ∧ (w = 2 → ok (some (.int (mA2 (mT F) n))) (mT F)) ∧ (w = 3 → ok (some (.int (mA3 (mT F) n))) (mT F)) ∧ (w = 4 → ok (some (.int (mA4 (mT F) m))) (mT F)) ∧ (w = 5 → ok (some (.int (mA5 (mT F) (m - 1)))) (mT F)) ∧ (w = 6 → ok (some (.int (F 1 6))) (mT F)) ∧ (w = 7 → ok (some (.int (F 1 7))) (mT F)) ∧ (w = 8 → ok (some (.int (mA7 (mT F) 6 (m - 1)))) (mT F)) ∧ (w = 9 → ok (some (.int (F 1 8))) (mT F)) ∧ (w = 10 → ok (some (.int (F 1 9))) (mT F)) ∧ (¬ (0 ≤ w ∧ w ≤ 10) → (ok (some (.int 0)) (zup (mT F) 0 0 1)))
  | _ => False
def sX9_meanLocked : zSp := fun as F ok _ => match as with
  | [.ref 0] => ∃ m, m ≤ 5 ∧ F 1 1 = nI m ∧ zcn (mA7 (mT F) 6 (m - 1) = 0) (ok (some (.double (FP.i2d 0))) (zup (mT F) 0 0 1)) (∃ _ : vf_n64 (FP.ddiv (FP.i2d (mA7 (mT F) 5 (m - 1))) (FP.i2d (mA7 (mT F) 6 (m - 1)))), ok (some (.double (FP.ddiv (FP.i2d (mA7 (mT F) 5 (m - 1))) (FP.i2d (mA7 (mT F) 6 (m - 1)))))) (mT F))
  | _ => False
theorem zrng10 {w : Int32} (h : w.toInt < 0 ∨ 10 < w.toInt) : ¬ (0 ≤ w ∧ w ≤ 10) := by
  rintro ⟨h1, h2⟩
  have h1 := Int32.le_iff_toInt_le.mp h1
  have h2 := Int32.le_iff_toInt_le.mp h2
  have h3 : (0 : Int32).toInt = 0 := rfl
  have h4 : (10 : Int32).toInt = 10 := rfl
  omega
theorem zm1_le : ∀ m, m < 6 → nI m - 1 ≤ nI (m - 1) := by decide
theorem zm1_ge : ∀ m, m < 6 → ∀ k, k < m - 1 → ¬ nI m - 1 ≤ nI k := by decide

def kX9_account : List zI := [
  (0, 1, .aload_n 0, [], 0),
  (1, 1, .iconst 0, [], 0),
  (2, 3, .putfield 42, [], 0),
  (5, 1, .iconst 0, [], 0),
  (6, 1, .istore_n 2, [], 0),
  (7, 1, .iload_n 1, [], 0),
  (8, 60, .tableswitch 271 0 10 #[60, 67, 74, 106, 149, 177, 207, 215, 223, 255, 263], [279, 68, 75, 82, 114, 157, 185, 215, 223, 231, 263, 271], 0),
  (68, 1, .aload_n 0, [], 0),
  (69, 3, .getfield 9, [], 0),
  (72, 1, .iconst 1, [], 1),
  (73, 1, .iaload, [], 0),
  (74, 1, .ireturn, [], 0),
  (75, 1, .aload_n 0, [], 0),
  (76, 3, .getfield 9, [], 0),
  (79, 1, .iconst 2, [], 2),
  (80, 1, .iaload, [], 0),
  (81, 1, .ireturn, [], 0),
  (82, 1, .iconst 0, [], 0),
  (83, 1, .istore_n 3, [], 0),
  (84, 1, .iload_n 3, [], 0),
  (85, 1, .aload_n 0, [], 0),
  (86, 3, .getfield 9, [], 0),
  (89, 1, .iconst 2, [], 2),
  (90, 1, .iaload, [], 0),
  (91, 3, .if_icmp .ge 21, [112], 0),
  (94, 1, .aload_n 0, [], 0),
  (95, 1, .iload_n 3, [], 0),
  (96, 1, .iconst 4, [], 4),
  (97, 3, .invokevirtual 75, [], 0),
  (100, 3, .ifCond .ge 6, [106], 0),
  (103, 3, .iinc 2 1, [], 1),
  (106, 3, .iinc 3 1, [], 1),
  (109, 3, .goto (-25), [84], 0),
  (112, 1, .iload_n 2, [], 0),
  (113, 1, .ireturn, [], 0),
  (114, 1, .iconst 0, [], 0),
  (115, 1, .istore_n 3, [], 0),
  (116, 1, .iload_n 3, [], 0),
  (117, 1, .aload_n 0, [], 0),
  (118, 3, .getfield 9, [], 0),
  (121, 1, .iconst 2, [], 2),
  (122, 1, .iaload, [], 0),
  (123, 3, .if_icmp .ge 32, [155], 0),
  (126, 1, .aload_n 0, [], 0),
  (127, 1, .iload_n 3, [], 0),
  (128, 1, .iconst 4, [], 4),
  (129, 3, .invokevirtual 75, [], 0),
  (132, 3, .ifCond .lt 17, [149], 0),
  (135, 1, .aload_n 0, [], 0),
  (136, 1, .iload_n 3, [], 0),
  (137, 2, .bipush 6, [], 6),
  (139, 3, .invokevirtual 75, [], 0),
  (142, 1, .iload_n 3, [], 0),
  (143, 3, .if_icmp .ne 6, [149], 0),
  (146, 3, .iinc 2 1, [], 1),
  (149, 3, .iinc 3 1, [], 1),
  (152, 3, .goto (-36), [116], 0),
  (155, 1, .iload_n 2, [], 0),
  (156, 1, .ireturn, [], 0),
  (157, 1, .iconst 0, [], 0),
  (158, 1, .istore_n 3, [], 0),
  (159, 1, .iload_n 3, [], 0),
  (160, 1, .aload_n 0, [], 0),
  (161, 3, .getfield 9, [], 0),
  (164, 1, .iconst 1, [], 1),
  (165, 1, .iaload, [], 0),
  (166, 3, .if_icmp .ge 17, [183], 0),
  (169, 1, .iload_n 2, [], 0),
  (170, 1, .aload_n 0, [], 0),
  (171, 1, .iload_n 3, [], 0),
  (172, 3, .invokevirtual 62, [], 0),
  (175, 1, .iadd, [], 0),
  (176, 1, .istore_n 2, [], 0),
  (177, 3, .iinc 3 1, [], 1),
  (180, 3, .goto (-21), [159], 0),
  (183, 1, .iload_n 2, [], 0),
  (184, 1, .ireturn, [], 0),
  (185, 1, .iconst 0, [], 0),
  (186, 1, .istore_n 3, [], 0),
  (187, 1, .iload_n 3, [], 0),
  (188, 1, .aload_n 0, [], 0),
  (189, 3, .getfield 9, [], 0),
  (192, 1, .iconst 1, [], 1),
  (193, 1, .iaload, [], 0),
  (194, 1, .iconst 1, [], 1),
  (195, 1, .isub, [], 0),
  (196, 3, .if_icmp .ge 17, [213], 0),
  (199, 1, .iload_n 2, [], 0),
  (200, 1, .aload_n 0, [], 0),
  (201, 1, .iload_n 3, [], 0),
  (202, 3, .invokevirtual 93, [], 0),
  (205, 1, .iadd, [], 0),
  (206, 1, .istore_n 2, [], 0),
  (207, 3, .iinc 3 1, [], 1),
  (210, 3, .goto (-23), [187], 0),
  (213, 1, .iload_n 2, [], 0),
  (214, 1, .ireturn, [], 0),
  (215, 1, .aload_n 0, [], 0),
  (216, 3, .getfield 9, [], 0),
  (219, 2, .bipush 6, [], 6),
  (221, 1, .iaload, [], 0),
  (222, 1, .ireturn, [], 0),
  (223, 1, .aload_n 0, [], 0),
  (224, 3, .getfield 9, [], 0),
  (227, 2, .bipush 7, [], 7),
  (229, 1, .iaload, [], 0),
  (230, 1, .ireturn, [], 0),
  (231, 1, .iconst 0, [], 0),
  (232, 1, .istore_n 3, [], 0),
  (233, 1, .iload_n 3, [], 0),
  (234, 1, .aload_n 0, [], 0),
  (235, 3, .getfield 9, [], 0),
  (238, 1, .iconst 1, [], 1),
  (239, 1, .iaload, [], 0),
  (240, 1, .iconst 1, [], 1),
  (241, 1, .isub, [], 0),
  (242, 3, .if_icmp .ge 19, [261], 0),
  (245, 1, .iload_n 2, [], 0),
  (246, 1, .aload_n 0, [], 0),
  (247, 1, .iload_n 3, [], 0),
  (248, 2, .bipush 6, [], 6),
  (250, 3, .invokevirtual 79, [], 0),
  (253, 1, .iadd, [], 0),
  (254, 1, .istore_n 2, [], 0),
  (255, 3, .iinc 3 1, [], 1),
  (258, 3, .goto (-25), [233], 0),
  (261, 1, .iload_n 2, [], 0),
  (262, 1, .ireturn, [], 0),
  (263, 1, .aload_n 0, [], 0),
  (264, 3, .getfield 9, [], 0),
  (267, 2, .bipush 8, [], 8),
  (269, 1, .iaload, [], 0),
  (270, 1, .ireturn, [], 0),
  (271, 1, .aload_n 0, [], 0),
  (272, 3, .getfield 9, [], 0),
  (275, 2, .bipush 9, [], 9),
  (277, 1, .iaload, [], 0),
  (278, 1, .ireturn, [], 0),
  (279, 1, .aload_n 0, [], 0),
  (280, 1, .iconst 1, [], 1),
  (281, 3, .invokevirtual 48, [], 0),
  (284, 1, .ireturn, [], 0)]
theorem kX9_account_ok : kX9_account.all (zck cX9_account) = true := by decide +kernel

def rX9_account : Room := { frames := 3, cells := 0, slots := 0, locals := 64 }
abbrev YX9_account : zM := (RX9, cX9_account, 4, some .int, rX9_account, UM, zlk fX9, zcs [(75, 3, 0, 0, zvs (UM) 9 (sX9_of)), (62, 2, 0, 0, zvs (UM) 9 (sX9_water)), (93, 2, 0, 0, zvs (UM) 9 (sX9_held)), (79, 3, 0, 0, zvs (UM) 9 (sX9_lockPart)), (48, 2, 0, 0, zvs (UM) 9 (sX9_raises))] [])
theorem YX9_account_ok : zYok (YX9_account) := zYok_of fX9_ok (zall (zcal_mono (zcalV (Y := YX9_account) (y := yX9_of) (cc := cX9_of) (nL := 3) (ret := some .int) (rm := rX9_of) (mX9_of) 75 2 9 (T := TX9) rfl wX9_75 ⟨by decide +kernel, by decide +kernel, by decide +kernel⟩ (by decide) ⟨Nat.le_of_ble_eq_true rfl, Nat.le_of_ble_eq_true rfl⟩) (fun _ _ _ _ h => zvs_P h)) (zall (zcal_mono (zcalV (Y := YX9_account) (y := yX9_water) (cc := cX9_water) (nL := 2) (ret := some .int) (rm := rX9_water) (mX9_water) 62 1 9 (T := TX9) rfl wX9_62 ⟨by decide +kernel, by decide +kernel, by decide +kernel⟩ (by decide) ⟨Nat.le_of_ble_eq_true rfl, Nat.le_of_ble_eq_true rfl⟩) (fun _ _ _ _ h => zvs_P h)) (zall (zcal_mono (zcalV (Y := YX9_account) (y := yX9_held) (cc := cX9_held) (nL := 2) (ret := some .int) (rm := rX9_held) (mX9_held) 93 1 9 (T := TX9) rfl wX9_93 ⟨by decide +kernel, by decide +kernel, by decide +kernel⟩ (by decide) ⟨Nat.le_of_ble_eq_true rfl, Nat.le_of_ble_eq_true rfl⟩) (fun _ _ _ _ h => zvs_P h)) (zall (zcal_mono (zcalV (Y := YX9_account) (y := yX9_lockPart) (cc := cX9_lockPart) (nL := 3) (ret := some .int) (rm := rX9_lockPart) (mX9_lockPart) 79 2 9 (T := TX9) rfl wX9_79 ⟨by decide +kernel, by decide +kernel, by decide +kernel⟩ (by decide) ⟨Nat.le_of_ble_eq_true rfl, Nat.le_of_ble_eq_true rfl⟩) (fun _ _ _ _ h => zvs_P h)) (zall (zcal_mono (zcalV (Y := YX9_account) (y := yX9_raises) (cc := cX9_raises) (nL := 2) (ret := some .int) (rm := rX9_raises) (mX9_raises) 48 1 9 (T := TX9) rfl wX9_48 ⟨by decide +kernel, by decide +kernel, by decide +kernel⟩ (by decide) ⟨Nat.le_of_ble_eq_true rfl, Nat.le_of_ble_eq_true rfl⟩) (fun _ _ _ _ h => zvs_P h)) znil))))) znil

theorem lX9_ac2 (ok : zO) (ex : zX) (G : zF) (w : Int32) (n : Nat) (hn : n ≤ 16) (h0 : G 1 2 = nI n)  (h : ok (some (.int (mA2 G (n)))) G) : ∀ (d k : Nat), k + d = n → zWP YX9_account ok ex 84 [some (.ref 0), some (.int w), some (.int (mA2 G k)), some (.int (nI k))] [] 0 0 G := by
  intro d
  induction d with
  | zero =>
    intro k hk
    have hk : k = n := hk
    rw [hk]
    refine zat_ok YX9_account_ok (inv := zih YX9_account ok ex [84, 116, 159, 187, 233]) zih_ok kX9_account (List.all_eq_true.mp kX9_account_ok) 84 _ _ _ _ _ ?_
    refine Exists.intro (zix (k := 2) rfl (by decide) (by decide)) ?_
    refine And.intro (fun _ => h) (fun g => absurd ?_ g)
    show G 1 2 ≤ nI (n)
    rw [h0]
    exact nI_le (Nat.le_refl _) (by omega)
  | succ d ih =>
    intro k hk
    have ih := ih (k + 1) (by omega)
    rw [← nI_1 k] at ih
    refine zat_ok YX9_account_ok (inv := zih YX9_account ok ex [84, 116, 159, 187, 233]) zih_ok kX9_account (List.all_eq_true.mp kX9_account_ok) 84 _ _ _ _ _ ?_
    refine Exists.intro (zix (k := 2) rfl (by decide) (by decide)) ?_
    refine And.intro (fun g => absurd ?_ (nI_ge (a := k) (b := n) (by omega) (by omega))) (fun _ => ?_)
    · have g : G 1 2 ≤ nI k := g
      rw [h0] at g
      exact g
    refine ⟨k, 4, rfl, rfl, by omega, by decide, ?_⟩
    refine And.intro (fun g => ?_) (fun g => ?_)
    · have e : mA2 G (k + 1) = mA2 G k := if_neg (Int32.not_lt.mpr g)
      rw [e] at ih
      exact ih
    · have e : mA2 G (k + 1) = mA2 G k + 1 := if_pos (Int32.not_le.mp g)
      rw [e] at ih
      exact ih

theorem lX9_ac3 (ok : zO) (ex : zX) (G : zF) (w : Int32) (n : Nat) (hn : n ≤ 16) (h0 : G 1 2 = nI n)  (h : ok (some (.int (mA3 G (n)))) G) : ∀ (d k : Nat), k + d = n → zWP YX9_account ok ex 116 [some (.ref 0), some (.int w), some (.int (mA3 G k)), some (.int (nI k))] [] 0 0 G := by
  intro d
  induction d with
  | zero =>
    intro k hk
    have hk : k = n := hk
    rw [hk]
    refine zat_ok YX9_account_ok (inv := zih YX9_account ok ex [84, 116, 159, 187, 233]) zih_ok kX9_account (List.all_eq_true.mp kX9_account_ok) 116 _ _ _ _ _ ?_
    refine Exists.intro (zix (k := 2) rfl (by decide) (by decide)) ?_
    refine And.intro (fun _ => h) (fun g => absurd ?_ g)
    show G 1 2 ≤ nI (n)
    rw [h0]
    exact nI_le (Nat.le_refl _) (by omega)
  | succ d ih =>
    intro k hk
    have ih := ih (k + 1) (by omega)
    rw [← nI_1 k] at ih
    refine zat_ok YX9_account_ok (inv := zih YX9_account ok ex [84, 116, 159, 187, 233]) zih_ok kX9_account (List.all_eq_true.mp kX9_account_ok) 116 _ _ _ _ _ ?_
    refine Exists.intro (zix (k := 2) rfl (by decide) (by decide)) ?_
    refine And.intro (fun g => absurd ?_ (nI_ge (a := k) (b := n) (by omega) (by omega))) (fun _ => ?_)
    · have g : G 1 2 ≤ nI k := g
      rw [h0] at g
      exact g
    refine ⟨k, 4, rfl, rfl, by omega, by decide, ?_⟩
    refine And.intro (fun g => ?_) (fun g => ?_)
    · have g : mOf G k 4 < 0 := g
      have e : mA3 G (k + 1) = mA3 G k := if_neg (fun f => f.1 g)
      rw [e] at ih
      exact ih
    · have g : ¬ mOf G k 4 < 0 := g
      refine ⟨k, 6, rfl, rfl, by omega, by decide, ?_⟩
      refine And.intro (fun f => ?_) (fun f => ?_)
      · have f : ¬ mOf G k 6 = nI k := f
        have e : mA3 G (k + 1) = mA3 G k := if_neg (fun v => f v.2)
        rw [e] at ih
        exact ih
      · have f : mOf G k 6 = nI k := f
        have e : mA3 G (k + 1) = mA3 G k + 1 := if_pos ⟨g, f⟩
        rw [e] at ih
        exact ih

theorem lX9_ac4 (ok : zO) (ex : zX) (G : zF) (w : Int32) (n : Nat) (hn : n ≤ 5) (h0 : G 1 1 = nI n)  (h : ok (some (.int (mA4 G (n)))) G) : ∀ (d k : Nat), k + d = n → zWP YX9_account ok ex 159 [some (.ref 0), some (.int w), some (.int (mA4 G k)), some (.int (nI k))] [] 0 0 G := by
  intro d
  induction d with
  | zero =>
    intro k hk
    have hk : k = n := hk
    rw [hk]
    refine zat_ok YX9_account_ok (inv := zih YX9_account ok ex [84, 116, 159, 187, 233]) zih_ok kX9_account (List.all_eq_true.mp kX9_account_ok) 159 _ _ _ _ _ ?_
    refine Exists.intro (zix (k := 1) rfl (by decide) (by decide)) ?_
    refine And.intro (fun _ => h) (fun g => absurd ?_ g)
    show G 1 1 ≤ nI (n)
    rw [h0]
    exact nI_le (Nat.le_refl _) (by omega)
  | succ d ih =>
    intro k hk
    have ih := ih (k + 1) (by omega)
    rw [← nI_1 k] at ih
    refine zat_ok YX9_account_ok (inv := zih YX9_account ok ex [84, 116, 159, 187, 233]) zih_ok kX9_account (List.all_eq_true.mp kX9_account_ok) 159 _ _ _ _ _ ?_
    refine Exists.intro (zix (k := 1) rfl (by decide) (by decide)) ?_
    refine And.intro (fun g => absurd ?_ (nI_ge (a := k) (b := n) (by omega) (by omega))) (fun _ => ?_)
    · have g : G 1 1 ≤ nI k := g
      rw [h0] at g
      exact g
    exact ⟨k, rfl, by omega, ih⟩

theorem lX9_ac5 (ok : zO) (ex : zX) (G : zF) (w : Int32) (n : Nat) (hn : n < 6) (h0 : G 1 1 = nI n) (hb : ∀ k, k < n - 1 → ∃ b, b < 8 ∧ mLP G k 4 = nI b) (h : ok (some (.int (mA5 G (n - 1)))) G) : ∀ (d k : Nat), k + d = n - 1 → zWP YX9_account ok ex 187 [some (.ref 0), some (.int w), some (.int (mA5 G k)), some (.int (nI k))] [] 0 0 G := by
  intro d
  induction d with
  | zero =>
    intro k hk
    have hk : k = n - 1 := hk
    rw [hk]
    refine zat_ok YX9_account_ok (inv := zih YX9_account ok ex [84, 116, 159, 187, 233]) zih_ok kX9_account (List.all_eq_true.mp kX9_account_ok) 187 _ _ _ _ _ ?_
    refine Exists.intro (zix (k := 1) rfl (by decide) (by decide)) ?_
    refine And.intro (fun _ => h) (fun g => absurd ?_ g)
    show G 1 1 - 1 ≤ nI (n - 1)
    rw [h0]
    exact zm1_le n hn
  | succ d ih =>
    intro k hk
    have ih := ih (k + 1) (by omega)
    rw [← nI_1 k] at ih
    refine zat_ok YX9_account_ok (inv := zih YX9_account ok ex [84, 116, 159, 187, 233]) zih_ok kX9_account (List.all_eq_true.mp kX9_account_ok) 187 _ _ _ _ _ ?_
    refine Exists.intro (zix (k := 1) rfl (by decide) (by decide)) ?_
    refine And.intro (fun g => absurd ?_ (zm1_ge n hn k (by omega))) (fun _ => ?_)
    · have g : G 1 1 - 1 ≤ nI k := g
      rw [h0] at g
      exact g
    exact ⟨k, rfl, by omega, hb k (by omega), ih⟩

theorem lX9_ac8 (ok : zO) (ex : zX) (G : zF) (w : Int32) (n : Nat) (hn : n < 6) (h0 : G 1 1 = nI n)  (h : ok (some (.int (mA7 G 6 (n - 1)))) G) : ∀ (d k : Nat), k + d = n - 1 → zWP YX9_account ok ex 233 [some (.ref 0), some (.int w), some (.int (mA7 G 6 k)), some (.int (nI k))] [] 0 0 G := by
  intro d
  induction d with
  | zero =>
    intro k hk
    have hk : k = n - 1 := hk
    rw [hk]
    refine zat_ok YX9_account_ok (inv := zih YX9_account ok ex [84, 116, 159, 187, 233]) zih_ok kX9_account (List.all_eq_true.mp kX9_account_ok) 233 _ _ _ _ _ ?_
    refine Exists.intro (zix (k := 1) rfl (by decide) (by decide)) ?_
    refine And.intro (fun _ => h) (fun g => absurd ?_ g)
    show G 1 1 - 1 ≤ nI (n - 1)
    rw [h0]
    exact zm1_le n hn
  | succ d ih =>
    intro k hk
    have ih := ih (k + 1) (by omega)
    rw [← nI_1 k] at ih
    refine zat_ok YX9_account_ok (inv := zih YX9_account ok ex [84, 116, 159, 187, 233]) zih_ok kX9_account (List.all_eq_true.mp kX9_account_ok) 233 _ _ _ _ _ ?_
    refine Exists.intro (zix (k := 1) rfl (by decide) (by decide)) ?_
    refine And.intro (fun g => absurd ?_ (zm1_ge n hn k (by omega))) (fun _ => ?_)
    · have g : G 1 1 - 1 ≤ nI k := g
      rw [h0] at g
      exact g
    exact ⟨k, 6, rfl, rfl, by omega, by decide, ih⟩

theorem mX9_account : zMet (UM) yX9_account cX9_account 4 (some .int) rX9_account (sX9_account) := by
  refine zmet (Y := YX9_account) rfl (by decide +kernel) ?_
  intro av F ok ex h
  unfold sX9_account at h
  split at h
  · rename_i w
    refine zgo_ok (YX9_account_ok) (inv := zih YX9_account ok ex [84, 116, 159, 187, 233]) zih_ok kX9_account (List.all_eq_true.mp kX9_account_ok) 0 _ _ _ _ _ ?_
    obtain ⟨n, m, hn, h4, hm, h5, hb, g0, g1, g2, g3, g4, g5, g6, g7, g8, g9, g10, gn⟩ := h
    refine And.intro ((And.intro (fun h3 => ?_) (And.intro (fun h3 => ?_) (And.intro (fun h3 => ?_) (And.intro (fun h3 => ?_) (And.intro (fun h3 => ?_) (And.intro (fun h3 => ?_) (And.intro (fun h3 => ?_) (And.intro (fun h3 => ?_) (And.intro (fun h3 => ?_) (And.intro (fun h3 => ?_) (And.intro (fun h3 => ?_)  trivial)))))))))))) (fun h3 => gn (zrng10 h3))
    · exact Exists.intro (zix (k := 1) rfl (by decide) (by decide)) (g0 h3)
    · exact Exists.intro (zix (k := 2) rfl (by decide) (by decide)) (g1 h3)
    · exact lX9_ac2 ok ex (mT F) w n hn h4 (g2 h3) n 0 (Nat.zero_add _)
    · exact lX9_ac3 ok ex (mT F) w n hn h4 (g3 h3) n 0 (Nat.zero_add _)
    · exact lX9_ac4 ok ex (mT F) w m hm h5 (g4 h3) m 0 (Nat.zero_add _)
    · exact lX9_ac5 ok ex (mT F) w m (by omega) h5 hb (g5 h3) (m - 1) 0 (Nat.zero_add _)
    · exact Exists.intro (zix (k := 6) rfl (by decide) (by decide)) (g6 h3)
    · exact Exists.intro (zix (k := 7) rfl (by decide) (by decide)) (g7 h3)
    · exact lX9_ac8 ok ex (mT F) w m (by omega) h5 (g8 h3) (m - 1) 0 (Nat.zero_add _)
    · exact Exists.intro (zix (k := 8) rfl (by decide) (by decide)) (g9 h3)
    · exact Exists.intro (zix (k := 9) rfl (by decide) (by decide)) (g10 h3)
  · exact h.elim

def kX9_meanLocked : List zI := [
  (0, 1, .aload_n 0, [], 0),
  (1, 1, .iconst 0, [], 0),
  (2, 3, .putfield 42, [], 0),
  (5, 1, .iconst 0, [], 0),
  (6, 1, .istore_n 1, [], 0),
  (7, 1, .iconst 0, [], 0),
  (8, 1, .istore_n 2, [], 0),
  (9, 1, .iconst 0, [], 0),
  (10, 1, .istore_n 3, [], 0),
  (11, 1, .iload_n 3, [], 0),
  (12, 1, .aload_n 0, [], 0),
  (13, 3, .getfield 9, [], 0),
  (16, 1, .iconst 1, [], 1),
  (17, 1, .iaload, [], 0),
  (18, 1, .iconst 1, [], 1),
  (19, 1, .isub, [], 0),
  (20, 3, .if_icmp .ge 28, [48], 0),
  (23, 1, .iload_n 1, [], 0),
  (24, 1, .aload_n 0, [], 0),
  (25, 1, .iload_n 3, [], 0),
  (26, 1, .iconst 5, [], 5),
  (27, 3, .invokevirtual 79, [], 0),
  (30, 1, .iadd, [], 0),
  (31, 1, .istore_n 1, [], 0),
  (32, 1, .iload_n 2, [], 0),
  (33, 1, .aload_n 0, [], 0),
  (34, 1, .iload_n 3, [], 0),
  (35, 2, .bipush 6, [], 6),
  (37, 3, .invokevirtual 79, [], 0),
  (40, 1, .iadd, [], 0),
  (41, 1, .istore_n 2, [], 0),
  (42, 3, .iinc 3 1, [], 1),
  (45, 3, .goto (-34), [11], 0),
  (48, 1, .iload_n 2, [], 0),
  (49, 3, .ifCond .ne 12, [61], 0),
  (52, 1, .aload_n 0, [], 0),
  (53, 1, .iconst 1, [], 1),
  (54, 3, .invokevirtual 48, [], 0),
  (57, 1, .i2d, [], 0),
  (58, 3, .goto 8, [66], 0),
  (61, 1, .iload_n 1, [], 0),
  (62, 1, .i2d, [], 0),
  (63, 1, .iload_n 2, [], 0),
  (64, 1, .i2d, [], 0),
  (65, 1, .ddiv, [], 0),
  (66, 1, .dreturn, [], 0)]
theorem kX9_meanLocked_ok : kX9_meanLocked.all (zck cX9_meanLocked) = true := by decide +kernel

def rX9_meanLocked : Room := { frames := 1, cells := 0, slots := 0, locals := 22 }
abbrev YX9_meanLocked : zM := (RX9, cX9_meanLocked, 4, some .double, rX9_meanLocked, UM, zlk fX9, zcs [(79, 3, 0, 0, zvs (UM) 9 (sX9_lockPart)), (48, 2, 0, 0, zvs (UM) 9 (sX9_raises))] [])
theorem YX9_meanLocked_ok : zYok (YX9_meanLocked) := zYok_of fX9_ok (zall (zcal_mono (zcalV (Y := YX9_meanLocked) (y := yX9_lockPart) (cc := cX9_lockPart) (nL := 3) (ret := some .int) (rm := rX9_lockPart) (mX9_lockPart) 79 2 9 (T := TX9) rfl wX9_79 ⟨by decide +kernel, by decide +kernel, by decide +kernel⟩ (by decide) ⟨Nat.le_of_ble_eq_true rfl, Nat.le_of_ble_eq_true rfl⟩) (fun _ _ _ _ h => zvs_P h)) (zall (zcal_mono (zcalV (Y := YX9_meanLocked) (y := yX9_raises) (cc := cX9_raises) (nL := 2) (ret := some .int) (rm := rX9_raises) (mX9_raises) 48 1 9 (T := TX9) rfl wX9_48 ⟨by decide +kernel, by decide +kernel, by decide +kernel⟩ (by decide) ⟨Nat.le_of_ble_eq_true rfl, Nat.le_of_ble_eq_true rfl⟩) (fun _ _ _ _ h => zvs_P h)) znil)) znil

theorem lX9_mean (ok : zO) (ex : zX) (G : zF) (m : Nat) (hm : m < 6) (h0 : G 1 1 = nI m) (h : zcn (mA7 G 6 (m - 1) = 0) (ok (some (.double (FP.i2d 0))) (zup G 0 0 1)) (∃ _ : vf_n64 (FP.ddiv (FP.i2d (mA7 G 5 (m - 1))) (FP.i2d (mA7 G 6 (m - 1)))), ok (some (.double (FP.ddiv (FP.i2d (mA7 G 5 (m - 1))) (FP.i2d (mA7 G 6 (m - 1)))))) G)) : ∀ (d k : Nat), k + d = m - 1 → zWP YX9_meanLocked ok ex 11 [some (.ref 0), some (.int (mA7 G 5 k)), some (.int (mA7 G 6 k)), some (.int (nI k))] [] 0 0 G := by
  intro d
  induction d with
  | zero =>
    intro k hk
    have hk : k = m - 1 := hk
    rw [hk]
    refine zat_ok YX9_meanLocked_ok (inv := zih YX9_meanLocked ok ex [11]) zih_ok kX9_meanLocked (List.all_eq_true.mp kX9_meanLocked_ok) 11 _ _ _ _ _ ?_
    refine Exists.intro (zix (k := 1) rfl (by decide) (by decide)) ?_
    refine And.intro (fun _ => ?_) (fun g => absurd ?_ g)
    · refine And.intro (fun g => h.2 g) (fun g => h.1 g)
    · show G 1 1 - 1 ≤ nI (m - 1)
      rw [h0]
      exact zm1_le m hm
  | succ d ih =>
    intro k hk
    have ih := ih (k + 1) (by omega)
    rw [← nI_1 k] at ih
    refine zat_ok YX9_meanLocked_ok (inv := zih YX9_meanLocked ok ex [11]) zih_ok kX9_meanLocked (List.all_eq_true.mp kX9_meanLocked_ok) 11 _ _ _ _ _ ?_
    refine Exists.intro (zix (k := 1) rfl (by decide) (by decide)) ?_
    refine And.intro (fun g => absurd ?_ (zm1_ge m hm k (by omega))) (fun _ => ?_)
    · have g : G 1 1 - 1 ≤ nI k := g
      rw [h0] at g
      exact g
    refine ⟨k, 5, rfl, rfl, by omega, by decide, ?_⟩
    exact ⟨k, 6, rfl, rfl, by omega, by decide, ih⟩

theorem mX9_meanLocked : zMet (UM) yX9_meanLocked cX9_meanLocked 4 (some .double) rX9_meanLocked (sX9_meanLocked) := by
  refine zmet (Y := YX9_meanLocked) rfl (by decide +kernel) ?_
  intro av F ok ex h
  unfold sX9_meanLocked at h
  split at h
  · refine zgo_ok (YX9_meanLocked_ok) (inv := zih YX9_meanLocked ok ex [11]) zih_ok kX9_meanLocked (List.all_eq_true.mp kX9_meanLocked_ok) 0 _ _ _ _ _ ?_
    obtain ⟨m, hm, h5, h⟩ := h
    exact lX9_mean ok ex (mT F) m (by omega) h5 h (m - 1) 0 (Nat.zero_add _)
  · exact h.elim

end ZN5
