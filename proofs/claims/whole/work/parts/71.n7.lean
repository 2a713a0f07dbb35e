/-! the reference reads a text -/
section ZN7
set_option maxRecDepth 20000
def cAt (F : zF) (l p : Nat) : Int32 := if p < l then F 5 p else 0
/-- goes, the place, size, draught, rank, up -/
abbrev zPa : Type := Bool × Nat × Int32 × Int32 × Int32 × Int32
def mPt2 (c : Nat → Int32) (q : Nat) (z d u : Int32) : zPa := if c q = 114 then (if 48 ≤ c (q + 1) ∧ c (q + 1) ≤ 51 then (true, q + 2, z, d, c (q + 1) - 48, u) else (false, q + 1, z, d, 0, u)) else (true, q, z, d, 0, u)
def mPz (c : Nat → Int32) (p : Nat) (u : Int32) : zPa := if 49 ≤ c (p + 1) ∧ c (p + 1) ≤ 57 then (if c (p + 2) = 116 then (if 49 ≤ c (p + 3) ∧ c (p + 3) ≤ 57 then
    (if 48 ≤ c (p + 4) ∧ c (p + 4) ≤ 57 then mPt2 c (p + 5) (c (p + 1) - 48) (10 * (c (p + 3) - 48) + c (p + 4) - 48) u else mPt2 c (p + 4) (c (p + 1) - 48) (c (p + 3) - 48) u)
  else (false, p + 3, 0, 0, 0, u)) else (false, p + 2, 0, 0, 0, u)) else (false, p + 1, 0, 0, 0, u)
def mPa (c : Nat → Int32) (p : Nat) : zPa := if c p = 117 then mPz c p 1 else if c p = 100 then mPz c p 0 else (false, p, 0, 0, 0, 0)
/-- all but the place and what was read is as before, also the arrivals before the n-th -/
def mAw (F G : zF) (n : Nat) : Prop := (∀ c, c ≠ 0 → c ≠ 6 → G c = F c) ∧ (∀ i, i ≠ 9 → G 0 i = F 0 i) ∧ ∀ i, i < 4 * n → G 6 i = F 6 i
def mAe (F G : zF) (n : Nat) (r : zPa) : Prop := mAw F G n ∧ G 0 9 = nI r.2.1 ∧ (r.1 = true → G 6 (4 * n) = r.2.2.1 ∧ G 6 (4 * n + 1) = r.2.2.2.1 ∧ G 6 (4 * n + 2) = r.2.2.2.2.1 ∧ G 6 (4 * n + 3) = r.2.2.2.2.2)
def mAk (F : zF) (n : Nat) (r : zPa) (ok : zO) : Prop := ∀ G, mAe F G n r → ok (some (.int (if r.1 = true then 1 else 0))) G
def sX9_arrives : zSp := fun as F ok _ => match as with
  | [.ref 0, .int x] => ∃ n l p, x = nI n ∧ n < 11 ∧ l ≤ 50 ∧ p ≤ l ∧ F 0 8 = nI l ∧ F 0 9 = nI p ∧ mAk F n (mPa (cAt F l) p) ok
  | _ => False
theorem mAw_trans {F G H : zF} {n : Nat} (h1 : mAw F G n) (h2 : mAw G H n) : mAw F H n := ⟨fun c a b => (h2.1 c a b).trans (h1.1 c a b), fun i a => (h2.2.1 i a).trans (h1.2.1 i a), fun i a => (h2.2.2 i a).trans (h1.2.2 i a)⟩
theorem mAw_refl (F : zF) (n : Nat) : mAw F F n := ⟨fun _ _ _ => rfl, fun _ _ => rfl, fun _ _ => rfl⟩
theorem mAw_9 (F : zF) (n : Nat) (v : Int32) : mAw F (zup F 0 9 v) n := ⟨fun c a _ => zup_ne _ _ _ a, fun i a => zup_an _ _ _ a, fun i _ => by rw [zup_ne _ _ _ (by decide)]⟩
theorem mAw_6 (F : zF) {n k : Nat} (v : Int32) (h : 4 * n ≤ k) : mAw F (zup F 6 k v) n := ⟨fun c _ a => zup_ne _ _ _ a, fun i a => by rw [zup_ne _ _ _ (by decide)], fun i a => zup_an _ _ _ (by omega)⟩
theorem mAk_w {F G : zF} {n : Nat} {r : zPa} {ok : zO} (h : mAw F G n) (k : mAk F n r ok) : mAk G n r ok := fun H e => k H ⟨mAw_trans h e.1, e.2⟩
theorem cAt_w {F G : zF} {n l : Nat} (h : mAw F G n) : cAt G l = cAt F l := by
  funext p
  unfold cAt
  rw [h.1 5 (by decide) (by decide)]
theorem cAt_0 (F : zF) {l p : Nat} (h : l ≤ p) : cAt F l p = 0 := if_neg (by omega)
/-- the place and the length -/
def mPl (F : zF) (l p : Nat) : Prop := F 0 8 = nI l ∧ F 0 9 = nI p ∧ p ≤ l ∧ l ≤ 50
theorem mPl_in {F : zF} {l p : Nat} (h : mPl F l p) : F 0 9 < F 0 8 → vp_in (F 0 9) 50 := by
  obtain ⟨h1, h2, h3, h4⟩ := h
  intro g
  rw [h1, h2, nI_ltI (by omega) (by omega)] at g
  rw [h2]
  exact vp_in_nI (by omega) (by decide)
theorem mPl_he {F : zF} {l p : Nat} (h : mPl F l p) : mHe F = cAt F l p := by
  obtain ⟨h1, h2, h3, h4⟩ := h
  unfold mHe cAt
  rw [h1, h2]
  by_cases g : p < l
  · rw [if_pos g, if_pos (nI_lt g (by omega)), nI_clamp (by omega)]
  · rw [if_neg g, if_neg (nI_nlt (by omega) (by omega))]
theorem mPl_tk {F : zF} {l p : Nat} (h : mPl F l p) {c : Int32} (hc : ¬ c = 0) : (¬ F 0 9 = F 0 8 ∧ mHe F = c) ↔ cAt F l p = c := by
  rw [mPl_he h]
  obtain ⟨h1, h2, h3, h4⟩ := h
  refine ⟨fun g => g.2, fun g => ⟨fun e => hc ?_, g⟩⟩
  rw [h1, h2, nI_eq (by omega) (by omega)] at e
  rw [← g, cAt_0 F (by omega)]
theorem mPl_lt {F : zF} {l p : Nat} (h : ¬ cAt F l p = 0) : p < l := by
  rcases Nat.lt_or_ge p l with g | g
  · exact g
  · exact absurd (cAt_0 F g) h
theorem mPl_nx {F : zF} {l p : Nat} (h : mPl F l p) (g : p < l) : mPl (zup F 0 9 (F 0 9 + 1)) l (p + 1) := by
  obtain ⟨h1, h2, h3, h4⟩ := h
  refine ⟨by rw [zup_an _ _ _ (by decide)]; exact h1, by rw [zup_at, h2, nI_1], g, h4⟩
theorem mPl_6 {F : zF} {l p : Nat} (h : mPl F l p) (k : Nat) (v : Int32) : mPl (zup F 6 k v) l p := by
  unfold mPl
  rw [zup_ne _ _ _ (by decide)]
  exact h
theorem mIn0 {c a : Int32} (h : 48 ≤ a) (g : a ≤ c) : ¬ c = 0 := by
  intro e
  rw [e] at g
  have h1 := Int32.le_iff_toInt_le.mp h
  have h2 := Int32.le_iff_toInt_le.mp g
  have h3 : (48 : Int32).toInt = 48 := rfl
  have h4 : (0 : Int32).toInt = 0 := rfl
  omega
theorem mRd {F : zF} {l p : Nat} (h : mPl F l p) (g : p < l) : F 5 (F 0 9).toNatClampNeg = cAt F l p ∧ vp_in (F 0 9) 50 := by
  obtain ⟨h1, h2, h3, h4⟩ := h
  rw [h2]
  refine ⟨?_, vp_in_nI (by omega) (by decide)⟩
  rw [nI_clamp (by omega)]
  unfold cAt
  rw [if_pos g]
theorem ix_a0 (n : Nat) : 4 * nI n = nI (4 * n) := by rw [show (4 : Int32) = nI 4 from rfl, nI_mulc]
theorem ix_a1 (n : Nat) : 4 * nI n + 1 = nI (4 * n + 1) := by rw [ix_a0, nI_1]
theorem ix_a2 (n : Nat) : 4 * nI n + 2 = nI (4 * n + 2) := by rw [ix_a0, show (2 : Int32) = nI 2 from rfl, nI_add]
theorem ix_a3 (n : Nat) : 4 * nI n + 3 = nI (4 * n + 3) := by rw [ix_a0, show (3 : Int32) = nI 3 from rfl, nI_add]

def kX9_arrives : List zI := [
  (0, 1, .aload_n 0, [], 0),
  (1, 2, .bipush 117, [], 117),
  (3, 3, .invokevirtual 127, [], 0),
  (6, 1, .istore_n 2, [], 0),
  (7, 1, .iload_n 2, [], 0),
  (8, 3, .ifCond .ne 14, [22], 0),
  (11, 1, .aload_n 0, [], 0),
  (12, 2, .bipush 100, [], 100),
  (14, 3, .invokevirtual 127, [], 0),
  (17, 3, .ifCond .ne 5, [22], 0),
  (20, 1, .iconst 0, [], 0),
  (21, 1, .ireturn, [], 0),
  (22, 1, .aload_n 0, [], 0),
  (23, 3, .invokevirtual 123, [], 0),
  (26, 2, .bipush 49, [], 49),
  (28, 2, .bipush 57, [], 57),
  (30, 3, .invokestatic 55, [], 0),
  (33, 3, .ifCond .ne 5, [38], 0),
  (36, 1, .iconst 0, [], 0),
  (37, 1, .ireturn, [], 0),
  (38, 1, .aload_n 0, [], 0),
  (39, 3, .getfield 29, [], 0),
  (42, 1, .iconst 4, [], 4),
  (43, 1, .iload_n 1, [], 0),
  (44, 1, .imul, [], 0),
  (45, 1, .aload_n 0, [], 0),
  (46, 3, .getfield 22, [], 0),
  (49, 1, .aload_n 0, [], 0),
  (50, 1, .dup, [], 0),
  (51, 3, .getfield 120, [], 0),
  (54, 1, .dup_x1, [], 0),
  (55, 1, .iconst 1, [], 1),
  (56, 1, .iadd, [], 0),
  (57, 3, .putfield 120, [], 0),
  (60, 1, .iaload, [], 0),
  (61, 2, .bipush 48, [], 48),
  (63, 1, .isub, [], 0),
  (64, 1, .iastore, [], 0),
  (65, 1, .aload_n 0, [], 0),
  (66, 2, .bipush 116, [], 116),
  (68, 3, .invokevirtual 127, [], 0),
  (71, 3, .ifCond .eq 17, [88], 0),
  (74, 1, .aload_n 0, [], 0),
  (75, 3, .invokevirtual 123, [], 0),
  (78, 2, .bipush 49, [], 49),
  (80, 2, .bipush 57, [], 57),
  (82, 3, .invokestatic 55, [], 0),
  (85, 3, .ifCond .ne 5, [90], 0),
  (88, 1, .iconst 0, [], 0),
  (89, 1, .ireturn, [], 0),
  (90, 1, .aload_n 0, [], 0),
  (91, 3, .getfield 22, [], 0),
  (94, 1, .aload_n 0, [], 0),
  (95, 1, .dup, [], 0),
  (96, 3, .getfield 120, [], 0),
  (99, 1, .dup_x1, [], 0),
  (100, 1, .iconst 1, [], 1),
  (101, 1, .iadd, [], 0),
  (102, 3, .putfield 120, [], 0),
  (105, 1, .iaload, [], 0),
  (106, 2, .bipush 48, [], 48),
  (108, 1, .isub, [], 0),
  (109, 1, .istore_n 3, [], 0),
  (110, 1, .aload_n 0, [], 0),
  (111, 3, .invokevirtual 123, [], 0),
  (114, 2, .bipush 48, [], 48),
  (116, 2, .bipush 57, [], 57),
  (118, 3, .invokestatic 55, [], 0),
  (121, 3, .ifCond .eq 28, [149], 0),
  (124, 2, .bipush 10, [], 10),
  (126, 1, .iload_n 3, [], 0),
  (127, 1, .imul, [], 0),
  (128, 1, .aload_n 0, [], 0),
  (129, 3, .getfield 22, [], 0),
  (132, 1, .aload_n 0, [], 0),
  (133, 1, .dup, [], 0),
  (134, 3, .getfield 120, [], 0),
  (137, 1, .dup_x1, [], 0),
  (138, 1, .iconst 1, [], 1),
  (139, 1, .iadd, [], 0),
  (140, 3, .putfield 120, [], 0),
  (143, 1, .iaload, [], 0),
  (144, 1, .iadd, [], 0),
  (145, 2, .bipush 48, [], 48),
  (147, 1, .isub, [], 0),
  (148, 1, .istore_n 3, [], 0),
  (149, 1, .aload_n 0, [], 0),
  (150, 3, .getfield 29, [], 0),
  (153, 1, .iconst 4, [], 4),
  (154, 1, .iload_n 1, [], 0),
  (155, 1, .imul, [], 0),
  (156, 1, .iconst 1, [], 1),
  (157, 1, .iadd, [], 0),
  (158, 1, .iload_n 3, [], 0),
  (159, 1, .iastore, [], 0),
  (160, 1, .aload_n 0, [], 0),
  (161, 3, .getfield 29, [], 0),
  (164, 1, .iconst 4, [], 4),
  (165, 1, .iload_n 1, [], 0),
  (166, 1, .imul, [], 0),
  (167, 1, .iconst 2, [], 2),
  (168, 1, .iadd, [], 0),
  (169, 1, .iconst 0, [], 0),
  (170, 1, .iastore, [], 0),
  (171, 1, .aload_n 0, [], 0),
  (172, 3, .getfield 29, [], 0),
  (175, 1, .iconst 4, [], 4),
  (176, 1, .iload_n 1, [], 0),
  (177, 1, .imul, [], 0),
  (178, 1, .iconst 3, [], 3),
  (179, 1, .iadd, [], 0),
  (180, 1, .iload_n 2, [], 0),
  (181, 3, .ifCond .eq 7, [188], 0),
  (184, 1, .iconst 1, [], 1),
  (185, 3, .goto 4, [189], 0),
  (188, 1, .iconst 0, [], 0),
  (189, 1, .iastore, [], 0),
  (190, 1, .aload_n 0, [], 0),
  (191, 2, .bipush 114, [], 114),
  (193, 3, .invokevirtual 127, [], 0),
  (196, 3, .ifCond .ne 5, [201], 0),
  (199, 1, .iconst 1, [], 1),
  (200, 1, .ireturn, [], 0),
  (201, 1, .aload_n 0, [], 0),
  (202, 3, .invokevirtual 123, [], 0),
  (205, 2, .bipush 48, [], 48),
  (207, 2, .bipush 51, [], 51),
  (209, 3, .invokestatic 55, [], 0),
  (212, 3, .ifCond .ne 5, [217], 0),
  (215, 1, .iconst 0, [], 0),
  (216, 1, .ireturn, [], 0),
  (217, 1, .aload_n 0, [], 0),
  (218, 3, .getfield 29, [], 0),
  (221, 1, .iconst 4, [], 4),
  (222, 1, .iload_n 1, [], 0),
  (223, 1, .imul, [], 0),
  (224, 1, .iconst 2, [], 2),
  (225, 1, .iadd, [], 0),
  (226, 1, .aload_n 0, [], 0),
  (227, 3, .getfield 22, [], 0),
  (230, 1, .aload_n 0, [], 0),
  (231, 1, .dup, [], 0),
  (232, 3, .getfield 120, [], 0),
  (235, 1, .dup_x1, [], 0),
  (236, 1, .iconst 1, [], 1),
  (237, 1, .iadd, [], 0),
  (238, 3, .putfield 120, [], 0),
  (241, 1, .iaload, [], 0),
  (242, 2, .bipush 48, [], 48),
  (244, 1, .isub, [], 0),
  (245, 1, .iastore, [], 0),
  (246, 1, .iconst 1, [], 1),
  (247, 1, .ireturn, [], 0)]
theorem kX9_arrives_ok : kX9_arrives.all (zck cX9_arrives) = true := by decide +kernel

def rX9_arrives : Room := { frames := 2, cells := 0, slots := 0, locals := 41 }
abbrev YX9_arrives : zM := (RX9, cX9_arrives, 4, some .boolean, rX9_arrives, UM, zlk fX9, zcs [(127, 2, 0, 0, zvs (UM) 9 (sX9_takes)), (123, 1, 0, 0, zvs (UM) 9 (sX9_here))] [(55, 3, 0, 0, sX9_in)])
theorem YX9_arrives_ok : zYok (YX9_arrives) := zYok_of fX9_ok (zall (zcal_mono (zcalV (Y := YX9_arrives) (y := yX9_takes) (cc := cX9_takes) (nL := 2) (ret := some .boolean) (rm := rX9_takes) (mX9_takes) 127 1 9 (T := TX9) rfl wX9_127 ⟨by decide +kernel, by decide +kernel, by decide +kernel⟩ (by decide) ⟨Nat.le_of_ble_eq_true rfl, Nat.le_of_ble_eq_true rfl⟩) (fun _ _ _ _ h => zvs_P h)) (zall (zcal_mono (zcalV (Y := YX9_arrives) (y := yX9_here) (cc := cX9_here) (nL := 1) (ret := some .int) (rm := rX9_here) (mX9_here) 123 0 9 (T := TX9) rfl wX9_123 ⟨by decide +kernel, by decide +kernel, by decide +kernel⟩ (by decide) ⟨Nat.le_of_ble_eq_true rfl, Nat.le_of_ble_eq_true rfl⟩) (fun _ _ _ _ h => zvs_P h)) znil)) (zall (zcalS (Y := YX9_arrives) (y := yX9_in) (cc := cX9_in) (nL := 3) (ret := some .boolean) (rm := rX9_in) (mX9_in) 55 3 wX9_55 ⟨by decide +kernel, by decide +kernel, by decide +kernel⟩ (by decide) ⟨Nat.le_of_ble_eq_true rfl, Nat.le_of_ble_eq_true rfl⟩) znil)

theorem lX9_av4 (ok : zO) (ex : zX) (G : zF) (n l q : Nat) (z d u : Int32) (w2 w3 : Option Value) (hn : n < 11) (hp : mPl G l q) (g0 : G 6 (4 * n) = z) (g1 : G 6 (4 * n + 1) = d) (g2 : G 6 (4 * n + 2) = 0) (g3 : G 6 (4 * n + 3) = u) (h : mAk G n (mPt2 (cAt G l) q z d u) ok) : zWP YX9_arrives ok ex 190 [some (.ref 0), some (.int (nI n)), w2, w3] [] 0 0 G := by
  refine zat_ok YX9_arrives_ok (inv := zih YX9_arrives ok ex [22, 149, 190]) zih_ok kX9_arrives (List.all_eq_true.mp kX9_arrives_ok) 190 _ _ _ _ _ ?_
  refine ⟨mPl_in hp, fun t1 => zjne1 ?_, fun t1 => zjne0 ?_⟩
  · have t1 := (mPl_tk hp (by decide)).mp t1
    have hlt := mPl_lt (F := G) (l := l) (p := q) (by rw [t1]; decide)
    have hp1 := mPl_nx hp hlt
    have hc1 : cAt (zup G 0 9 (G 0 9 + 1)) l = cAt G l := cAt_w (mAw_9 G n _)
    unfold mPt2 at h
    rw [if_pos t1] at h
    refine ⟨mPl_in hp1, ?_⟩
    rw [mPl_he hp1, hc1]
    refine And.intro (fun t2 => zjne1 ?_) (fun t2 => zjne0 ?_)
    · rw [if_pos t2] at h
      have hlt2 := mPl_lt (F := G) (l := l) (p := q + 1) (mIn0 (by decide) t2.1)
      obtain ⟨r1, r2⟩ := mRd hp1 hlt2
      rw [hc1] at r1
      refine Exists.intro r2 ?_
      refine Exists.intro (zix (ix_a2 n) (by omega) (by decide)) ?_
      refine Exists.intro (Or.inr rfl) (h _ ?_)
      have e2 : (4 * nI n + 2).toNatClampNeg = 4 * n + 2 := zicl (ix_a2 n) (by omega)
      have hA : mAw G (zup (zup (zup G 0 9 (G 0 9 + 1)) 0 9 ((zup G 0 9 (G 0 9 + 1)) 0 9 + 1)) 6 (4 * n + 2) (zup (zup G 0 9 (G 0 9 + 1)) 0 9 ((zup G 0 9 (G 0 9 + 1)) 0 9 + 1) 5 ((zup G 0 9 (G 0 9 + 1)) 0 9).toNatClampNeg - 48)) n := mAw_trans (mAw_trans (mAw_9 G n _) (mAw_9 _ n _)) (mAw_6 _ _ (by omega))
      show mAe G (zup (zup (zup G 0 9 (G 0 9 + 1)) 0 9 ((zup G 0 9 (G 0 9 + 1)) 0 9 + 1)) 6 (4 * nI n + 2).toNatClampNeg (zup (zup G 0 9 (G 0 9 + 1)) 0 9 ((zup G 0 9 (G 0 9 + 1)) 0 9 + 1) 5 ((zup G 0 9 (G 0 9 + 1)) 0 9).toNatClampNeg - 48)) n _
      rw [e2]
      refine ⟨hA, ?_, fun _ => ⟨?_, ?_, ?_, ?_⟩⟩
      · rw [zup_ne _ _ _ (by decide), zup_at, zup_at, hp.2.1, nI_1, nI_1]
      · rw [zup_an _ _ _ (by omega), zup_ne _ _ _ (by decide), zup_ne _ _ _ (by decide)]
        exact g0
      · rw [zup_an _ _ _ (by omega), zup_ne _ _ _ (by decide), zup_ne _ _ _ (by decide)]
        exact g1
      · rw [zup_at, zup_ne _ _ _ (show 5 ≠ 0 by decide), r1]
      · rw [zup_an _ _ _ (by omega), zup_ne _ _ _ (by decide), zup_ne _ _ _ (by decide)]
        exact g3
    · rw [if_neg t2] at h
      refine Exists.intro (Or.inl rfl) (h _ ⟨mAw_9 G n _, ?_, fun e => absurd (show false = true from e) (by decide)⟩)
      rw [zup_at, hp.2.1, nI_1]
  · have t1 : ¬ cAt G l q = 114 := fun e => t1 ((mPl_tk hp (by decide)).mpr e)
    unfold mPt2 at h
    rw [if_neg t1] at h
    exact Exists.intro (Or.inr rfl) (h _ ⟨mAw_refl G n, hp.2.1, fun _ => ⟨g0, g1, g2, g3⟩⟩)
theorem lX9_av3 (ok : zO) (ex : zX) (G : zF) (n l q : Nat) (z d u : Int32) (hu : u = 0 ∨ u = 1) (hn : n < 11) (hp : mPl G l q) (g0 : G 6 (4 * n) = z) (h : mAk G n (mPt2 (cAt G l) q z d u) ok) : zWP YX9_arrives ok ex 149 [some (.ref 0), some (.int (nI n)), some (.int u), some (.int d)] [] 0 0 G := by
  have e1 : (4 * nI n + 1).toNatClampNeg = 4 * n + 1 := zicl (ix_a1 n) (by omega)
  have e2 : (4 * nI n + 2).toNatClampNeg = 4 * n + 2 := zicl (ix_a2 n) (by omega)
  have e3 : (4 * nI n + 3).toNatClampNeg = 4 * n + 3 := zicl (ix_a3 n) (by omega)
  have hA : mAw G (zup (zup (zup G 6 (4 * n + 1) d) 6 (4 * n + 2) 0) 6 (4 * n + 3) u) n := mAw_trans (mAw_trans (mAw_6 _ _ (by omega)) (mAw_6 _ _ (by omega))) (mAw_6 _ _ (by omega))
  have h5 := lX9_av4 ok ex (zup (zup (zup G 6 (4 * n + 1) d) 6 (4 * n + 2) 0) 6 (4 * n + 3) u) n l q z d u (some (.int u)) (some (.int d)) hn (mPl_6 (mPl_6 (mPl_6 hp _ _) _ _) _ _)
    (by rw [zup_an _ _ _ (by omega), zup_an _ _ _ (by omega), zup_an _ _ _ (by omega)]; exact g0) (by rw [zup_an _ _ _ (by omega), zup_an _ _ _ (by omega), zup_at]) (by rw [zup_an _ _ _ (by omega), zup_at]) (zup_at _ _ _ _) (by rw [cAt_w hA]; exact mAk_w hA h)
  rw [← e1, ← e2, ← e3] at h5
  refine zat_ok YX9_arrives_ok (inv := zih YX9_arrives ok ex [22, 149, 190]) zih_ok kX9_arrives (List.all_eq_true.mp kX9_arrives_ok) 149 _ _ _ _ _ ?_
  refine Exists.intro (zix (ix_a1 n) (by omega) (by decide)) ?_
  refine Exists.intro (zix (ix_a2 n) (by omega) (by decide)) ?_
  rcases hu with rfl | rfl
  · exact zjeq0 (Exists.intro (zix (ix_a3 n) (by omega) (by decide)) h5)
  · exact zjeq1 (Exists.intro (zix (ix_a3 n) (by omega) (by decide)) h5)
theorem lX9_av2 (ok : zO) (ex : zX) (G : zF) (n l p : Nat) (u : Int32) (w3 : Option Value) (hu : u = 0 ∨ u = 1) (hn : n < 11) (hp : mPl G l (p + 1)) (h : mAk G n (mPz (cAt G l) p u) ok) : zWP YX9_arrives ok ex 22 [some (.ref 0), some (.int (nI n)), some (.int u), w3] [] 0 0 G := by
  unfold mPz at h
  refine zat_ok YX9_arrives_ok (inv := zih YX9_arrives ok ex [22, 149, 190]) zih_ok kX9_arrives (List.all_eq_true.mp kX9_arrives_ok) 22 _ _ _ _ _ ?_
  refine ⟨mPl_in hp, ?_⟩
  rw [mPl_he hp]
  refine And.intro (fun t1 => zjne1 ?_) (fun t1 => zjne0 ?_)
  · rw [if_pos t1] at h
    have hlt := mPl_lt (F := G) (l := l) (p := p + 1) (mIn0 (by decide) t1.1)
    obtain ⟨r1, r2⟩ := mRd hp hlt
    have e0 : (4 * nI n).toNatClampNeg = 4 * n := zicl (ix_a0 n) (by omega)
    refine Exists.intro r2 ?_
    refine Exists.intro (zix (ix_a0 n) (by omega) (by decide)) ?_
    generalize hG1 : zup (zup G 0 9 (G 0 9 + 1)) 6 (4 * nI n).toNatClampNeg (zup G 0 9 (G 0 9 + 1) 5 (G 0 9).toNatClampNeg - 48) = G1
    have hA : mAw G G1 n := by
      rw [← hG1, e0]
      exact mAw_trans (mAw_9 G n _) (mAw_6 _ _ (Nat.le_refl _))
    have hp1 : mPl G1 l (p + 2) := by
      rw [← hG1]
      exact mPl_6 (mPl_nx hp hlt) _ _
    have z1 : G1 6 (4 * n) = cAt G l (p + 1) - 48 := by
      rw [← hG1, e0, zup_at, zup_ne _ _ _ (show 5 ≠ 0 by decide), r1]
    have hc1 : cAt G1 l = cAt G l := cAt_w hA
    refine ⟨mPl_in hp1, fun t2 => zjeq1 ?_, fun t2 => zjeq0 ?_⟩
    · have t2 := (mPl_tk hp1 (by decide)).mp t2
      have hlt2 := mPl_lt (F := G1) (l := l) (p := p + 2) (by rw [t2]; decide)
      rw [hc1] at t2
      rw [if_pos t2] at h
      have hp2 := mPl_nx hp1 hlt2
      have hA2 : mAw G (zup G1 0 9 (G1 0 9 + 1)) n := mAw_trans hA (mAw_9 G1 n _)
      have hc2 : cAt (zup G1 0 9 (G1 0 9 + 1)) l = cAt G l := cAt_w hA2
      have z2 : (zup G1 0 9 (G1 0 9 + 1)) 6 (4 * n) = cAt G l (p + 1) - 48 := by rw [zup_ne _ _ _ (by decide)]; exact z1
      generalize hG2 : zup G1 0 9 (G1 0 9 + 1) = G2 at hp2 hA2 hc2 z2 ⊢
      refine ⟨mPl_in hp2, ?_⟩
      rw [mPl_he hp2, hc2]
      refine And.intro (fun t3 => zjne1 ?_) (fun t3 => zjne0 ?_)
      · rw [if_pos t3] at h
        have hlt3 := mPl_lt (F := G) (l := l) (p := p + 3) (mIn0 (by decide) t3.1)
        obtain ⟨r3, r4⟩ := mRd hp2 hlt3
        rw [hc2] at r3
        refine Exists.intro r4 ?_
        have hp3 := mPl_nx hp2 hlt3
        have hA3 : mAw G (zup G2 0 9 (G2 0 9 + 1)) n := mAw_trans hA2 (mAw_9 G2 n _)
        have hc3 : cAt (zup G2 0 9 (G2 0 9 + 1)) l = cAt G l := cAt_w hA3
        have z3 : (zup G2 0 9 (G2 0 9 + 1)) 6 (4 * n) = cAt G l (p + 1) - 48 := by rw [zup_ne _ _ _ (by decide)]; exact z2
        have d3 : (zup G2 0 9 (G2 0 9 + 1)) 5 (G2 0 9).toNatClampNeg = cAt G l (p + 3) := by rw [zup_ne _ _ _ (by decide)]; exact r3
        refine ⟨mPl_in hp3, ?_⟩
        rw [mPl_he hp3, hc3]
        refine And.intro (fun t4 => zjeq1 ?_) (fun t4 => zjeq0 ?_)
        · rw [if_pos t4] at h
          have hlt4 := mPl_lt (F := G) (l := l) (p := p + 4) (mIn0 (by decide) t4.1)
          obtain ⟨r5, r6⟩ := mRd hp3 hlt4
          rw [hc3] at r5
          refine Exists.intro r6 ?_
          have hp4 := mPl_nx hp3 hlt4
          have hA4 : mAw G (zup (zup G2 0 9 (G2 0 9 + 1)) 0 9 ((zup G2 0 9 (G2 0 9 + 1)) 0 9 + 1)) n := mAw_trans hA3 (mAw_9 _ n _)
          have z4 : (zup (zup G2 0 9 (G2 0 9 + 1)) 0 9 ((zup G2 0 9 (G2 0 9 + 1)) 0 9 + 1)) 6 (4 * n) = cAt G l (p + 1) - 48 := by rw [zup_ne _ _ _ (by decide)]; exact z3
          have d4 : (zup (zup G2 0 9 (G2 0 9 + 1)) 0 9 ((zup G2 0 9 (G2 0 9 + 1)) 0 9 + 1)) 5 ((zup G2 0 9 (G2 0 9 + 1)) 0 9).toNatClampNeg = cAt G l (p + 4) := by rw [zup_ne _ _ _ (by decide)]; exact r5
          have h6 := lX9_av3 ok ex _ n l (p + 5) _ (10 * (cAt G l (p + 3) - 48) + cAt G l (p + 4) - 48) u hu hn hp4 z4 (by rw [cAt_w hA4]; exact mAk_w hA4 h)
          rw [← d3, ← d4] at h6
          exact h6
        · rw [if_neg t4] at h
          have h6 := lX9_av3 ok ex _ n l (p + 4) _ (cAt G l (p + 3) - 48) u hu hn hp3 z3 (by rw [hc3]; exact mAk_w hA3 h)
          rw [← d3] at h6
          exact h6
      · rw [if_neg t3] at h
        exact Exists.intro (Or.inl rfl) (h _ ⟨hA2, hp2.2.1, fun e => absurd (show false = true from e) (by decide)⟩)
    · have t2 : ¬ cAt G1 l (p + 2) = 116 := fun e => t2 ((mPl_tk hp1 (by decide)).mpr e)
      rw [hc1] at t2
      rw [if_neg t2] at h
      exact Exists.intro (Or.inl rfl) (h _ ⟨hA, hp1.2.1, fun e => absurd (show false = true from e) (by decide)⟩)
  · rw [if_neg t1] at h
    exact Exists.intro (Or.inl rfl) (h _ ⟨mAw_refl G n, hp.2.1, fun e => absurd (show false = true from e) (by decide)⟩)

theorem mX9_arrives : zMet (UM) yX9_arrives cX9_arrives 4 (some .boolean) rX9_arrives (sX9_arrives) := by
  refine zmet (Y := YX9_arrives) rfl (by decide +kernel) ?_
  intro av F ok ex h
  unfold sX9_arrives at h
  split at h
  · rename_i x
    refine zgo_ok (YX9_arrives_ok) (inv := zih YX9_arrives ok ex [22, 149, 190]) zih_ok kX9_arrives (List.all_eq_true.mp kX9_arrives_ok) 0 _ _ _ _ _ ?_
    obtain ⟨n, l, p, rfl, hn, hl, hpl, h8, h9, h⟩ := h
    have hp : mPl F l p := ⟨h8, h9, hpl, hl⟩
    unfold mPa at h
    refine ⟨mPl_in hp, fun t1 => zjne1 ?_, fun t1 => zjne0 ?_⟩
    · have t1 := (mPl_tk hp (by decide)).mp t1
      have hlt := mPl_lt (F := F) (l := l) (p := p) (by rw [t1]; decide)
      rw [if_pos t1] at h
      exact lX9_av2 ok ex _ n l p 1 none (Or.inr rfl) hn (mPl_nx hp hlt) (by rw [cAt_w (mAw_9 F n _)]; exact mAk_w (mAw_9 F n _) h)
    · have t1 : ¬ cAt F l p = 117 := fun e => t1 ((mPl_tk hp (by decide)).mpr e)
      rw [if_neg t1] at h
      refine ⟨mPl_in hp, fun t2 => zjne1 ?_, fun t2 => zjne0 ?_⟩
      · have t2 := (mPl_tk hp (by decide)).mp t2
        have hlt := mPl_lt (F := F) (l := l) (p := p) (by rw [t2]; decide)
        rw [if_pos t2] at h
        exact lX9_av2 ok ex _ n l p 0 none (Or.inl rfl) hn (mPl_nx hp hlt) (by rw [cAt_w (mAw_9 F n _)]; exact mAk_w (mAw_9 F n _) h)
      · have t2 : ¬ cAt F l p = 100 := fun e => t2 ((mPl_tk hp (by decide)).mpr e)
        rw [if_neg t2] at h
        exact Exists.intro (Or.inl rfl) (h _ ⟨mAw_refl F n, hp.2.1, fun e => absurd (show false = true from e) (by decide)⟩)
  · exact h.elim

end ZN7
