/-! the world of a LockMaster: canals at 0 (now), 45 (forecast), 90 (snapshot), 135 .. 450 (kept); 495 itself, 496 Changes, 497 its row of canals, 498 the text -/
section ZL0
def lM : List zS := [(0, 8, [some 0, some 45, some 90, some 496, some 498, none, none, none]), (0, 2, [some 497, none, none]), (3, 8, [some 135, some 180, some 225, some 270, some 315, some 360, some 405, some 450])]
def ULM : zU := (509, fun k => match Nat.blt k 495 with
  | true => zren (fun j => 45 * (k / 45) + j) ((znth lC (k % 45)).getD (1, 0, []))
  | false => match Nat.blt k 498 with
    | true => (znth lM (k - 495)).getD (1, 0, [])
    | false => zren (fun j => 498 + j) ((znth lT (k - 498)).getD (1, 0, [])))
theorem ULM_small : zsmall ULM := by
  have h : ∀ k, k < 509 → (ULM.2 k).2.1 < 2 ^ 31 := by decide +kernel
  exact h
theorem zemb_C : ∀ c, c < 11 → zemb UC ULM (fun k => 45 * c + k) := by
  intro c hc
  have h : ∀ c, c < 11 → ∀ k, k < 45 → ULM.2 (45 * c + k) = zren (fun j => 45 * c + j) (UC.2 k) := by decide +kernel
  refine ⟨fun k hk => ?_, fun i j _ _ e => ?_, h c hc⟩
  · have hk : k < 45 := hk
    show 45 * c + k < 509
    omega
  · have e : 45 * c + i = 45 * c + j := e
    omega
theorem zemb_T : zemb UT ULM (fun k => 498 + k) := by
  have h : ∀ k, k < 11 → ULM.2 (498 + k) = zren (fun j => 498 + j) (UT.2 k) := by decide +kernel
  refine ⟨fun k hk => ?_, fun i j _ _ e => ?_, h⟩
  · have hk : k < 11 := hk
    show 498 + k < 509
    omega
  · have e : 498 + i = 498 + j := e
    omega
def zem2 (c c' : Nat) : Nat → Nat := fun k => if k < 45 then 45 * c + k else 45 * c' + (k - 45)
theorem zemb_2 : ∀ c, c < 11 → ∀ c', c' < 11 → c ≠ c' → zemb UC2 ULM (zem2 c c') := by
  intro c hc c' hc' hne
  have h : ((List.range 11).all fun c => (List.range 11).all fun c' => (List.range 90).all fun k => decide (ULM.2 (zem2 c c' k) = zren (zem2 c c') (UC2.2 k))) = true := by decide +kernel
  refine ⟨fun k hk => ?_, fun i j hi hj e => ?_, fun k hk => of_decide_eq_true (List.all_eq_true.1 (List.all_eq_true.1 (List.all_eq_true.1 h c (List.mem_range.2 hc)) c' (List.mem_range.2 hc')) k (List.mem_range.2 hk))⟩
  · have hk : k < 90 := hk
    show zem2 c c' k < 509
    unfold zem2
    split <;> omega
  · have hi : i < 90 := hi
    have hj : j < 90 := hj
    unfold zem2 at e
    split at e <;> split at e <;> omega
theorem zv_id (v : Value) : zv (fun k => k) v = v := by cases v <;> rfl
theorem zmap_id (as : List Value) : as = as.map (zv fun k => k) := by
  induction as with
  | nil => rfl
  | cons v r ih => rw [List.map_cons, zv_id, ← ih]
/-- what the first canal's methods do stays in its cells -/
def zfr (sp : zSp) : Prop := ∀ as F ok ex, sp as F ok ex → sp as F (fun q G => ok q G ∧ ∀ j, 45 ≤ j → G j = F j) (fun _ _ => False)
theorem zlift0 {y : MethodName} {cc : ByteArray} {nL : Nat} {ret : Option FieldType} {rm : Room} {sp : zSp} (hM : zMet UC y cc nL ret rm sp) (hf : zfr sp) : zMet ULM y cc nL ret rm sp := by
  have he : zemb UC ULM (fun k => k) := by
    have := zemb_C 0 (by decide)
    simpa using this
  refine zlift hM (fun as F ok ex h => ⟨fun k => k, as, _, _, he, zmap_id as, hf as F ok ex h, fun q F' e => ⟨F', ⟨fun _ _ => rfl, fun j hj => e.2 j ?_⟩, ?_⟩, fun _ _ e => e.elim⟩)
  · rcases Nat.lt_or_ge j 45 with h1 | h1
    · exact absurd rfl (hj j h1)
    · exact h1
  · cases q with
    | none => exact e.1
    | some v => rw [Option.map_some, zv_id]; exact e.1
def vw (b : Nat) (F : zF) : zF := fun k => F (b + k)
def spl (b n : Nat) (F G : zF) : zF := fun j => if b ≤ j ∧ j < b + n then G (j - b) else F j
theorem spl_in (b n : Nat) (F G : zF) {k : Nat} (h : k < n) : spl b n F G (b + k) = G k := by
  unfold spl
  rw [if_pos ⟨by omega, by omega⟩]
  congr 1
  omega
theorem spl_out (b n : Nat) (F G : zF) {j : Nat} (h : j < b ∨ b + n ≤ j) : spl b n F G j = F j := by
  unfold spl
  rw [if_neg (by omega)]
theorem zspl_sh {U' : zU} (b : Nat) (F G : zF) : zspl U' (fun k => b + k) F G (spl b U'.1 F G) := by
  refine ⟨fun k hk => spl_in b _ F G hk, fun j hj => spl_out b _ F G ?_⟩
  rcases Nat.lt_or_ge j b with h | h
  · exact Or.inl h
  · rcases Nat.lt_or_ge j (b + U'.1) with h2 | h2
    · exact absurd (show b + (j - b) = j by omega) (hj (j - b) (by omega))
    · exact Or.inr h2

theorem qMkS_o (F : zF) (s d r b : Int32) {k : Nat} (h : 45 ≤ k) : qMkS F s d r b k = F k := by
  unfold qMkS
  simp only [zup_ne _ _ _ (show k ≠ 25 by omega), zwr_ne _ _ _ _ (show k ≠ 27 by omega), zwr_ne _ _ _ _ (show k ≠ 29 by omega), zwr_ne _ _ _ _ (show k ≠ 31 by omega), zwr_ne _ _ _ _ (show k ≠ 33 by omega), zwr_ne _ _ _ _ (show k ≠ 39 by omega), zwr_ne _ _ _ _ (show k ≠ 41 by omega), zwr_ne _ _ _ _ (show k ≠ 43 by omega)]
theorem qT1_o (G : zF) (c l : Int32) {k : Nat} (h : k ≠ 7 ∧ k ≠ 8 ∧ k ≠ 18 ∧ k ≠ 20) : qT1 G c l k = G k := by
  unfold qT1
  split
  · exact qTC_o _ _ h
  · rfl
theorem qTT_o (F : zF) (l : Int32) {k : Nat} (h : 45 ≤ k) : qTT F l k = F k := by
  unfold qTT
  split
  · exact qCC_o _ _ _ _ (by omega)
  · unfold qT2
    split
    · rw [qT1_o _ _ _ (by omega), qCC_o _ _ _ _ (by omega)]
    · unfold qT3
      rw [qLR_o _ _ _ _ (by omega) (by omega), qLook_o _ _ _ (by omega), qTC_o _ _ (by omega), qT1_o _ _ _ (by omega), qCC_o _ _ _ _ (by omega)]
theorem qTTs_o (F : zF) {k : Nat} (h : 45 ≤ k) : ∀ n, qTTs F n k = F k
  | 0 => rfl
  | n + 1 => (qTT_o _ _ h).trans (qTTs_o F h n)
theorem qOT_o (F : zF) {k : Nat} (h : 45 ≤ k) : qOT F k = F k := by
  unfold qOT qEnd qIn
  rw [zup_ne _ _ _ (by omega), zup_ne _ _ _ (by omega), qSp_3 _ _ _ (by omega), zwr_ne _ _ _ _ (by omega), zup_ne _ _ _ (by omega), qTTs_o F h]
theorem qJn_o (F : zF) (a b : Int32) {k : Nat} (h : 45 ≤ k) : qJn F a b k = F k := by
  unfold qJn
  rw [qNm_o _ (by omega), zwr_ne _ _ _ _ (by omega)]
theorem qTk_o (F : zF) (s : Int32) {k : Nat} (h : 45 ≤ k) : qTk F s k = F k := by
  unfold qTk
  rw [zwr_ne _ _ _ _ (by omega), zwr_ne _ _ _ _ (by omega)]
  split
  · exact qNm_o _ (by omega) _ _ _
  · exact zwr_ne _ _ _ _ (by omega)
theorem qMkL_o (F : zF) (a b c : Int32) {k : Nat} (h : 45 ≤ k) : qMkL F a b c k = F k := by
  unfold qMkL
  rw [zup_ne _ _ _ (by omega), zwr_ne _ _ _ _ (by omega), zwr_ne _ _ _ _ (by omega), zwr_ne _ _ _ _ (by omega), zwr_ne _ _ _ _ (by omega)]

theorem frX6_levelOf : zfr sX6_levelOf := by
  intro as F ok ex h
  unfold sX6_levelOf at h ⊢
  split at h
  · exact ⟨h, fun _ _ => rfl⟩
  · exact h.elim

theorem uX6_levelOf : zMet ULM yX6_levelOf cX6_levelOf 3 (some .int) rX6_levelOf sX6_levelOf := zlift0 mX6_levelOf frX6_levelOf
theorem frX6_drynessOf : zfr sX6_drynessOf := by
  intro as F ok ex h
  unfold sX6_drynessOf at h ⊢
  split at h
  · exact ⟨h, fun _ _ => rfl⟩
  · exact h.elim

theorem uX6_drynessOf : zMet ULM yX6_drynessOf cX6_drynessOf 3 (some .int) rX6_drynessOf sX6_drynessOf := zlift0 mX6_drynessOf frX6_drynessOf
theorem frX5_waterIn : zfr sX5_waterIn := by
  intro as F ok ex h
  unfold sX5_waterIn at h ⊢
  split at h
  · exact ⟨h, fun _ _ => rfl⟩
  · exact h.elim

theorem uX5_waterIn : zMet ULM yX5_waterIn cX5_waterIn 2 (some .int) rX5_waterIn sX5_waterIn := zlift0 mX5_waterIn frX5_waterIn
theorem frX5_allWater : zfr sX5_allWater := by
  intro as F ok ex h
  unfold sX5_allWater at h ⊢
  split at h
  · exact ⟨h, fun _ _ => rfl⟩
  · exact h.elim

theorem uX5_allWater : zMet ULM yX5_allWater cX5_allWater 3 (some .int) rX5_allWater sX5_allWater := zlift0 mX5_allWater frX5_allWater
theorem frX3_shipsInReach : zfr sX3_shipsInReach := by
  intro as F ok ex h
  unfold sX3_shipsInReach at h ⊢
  split at h
  · exact ⟨h, fun _ _ => rfl⟩
  · exact h.elim

theorem uX3_shipsInReach : zMet ULM yX3_shipsInReach cX3_shipsInReach 4 (some .int) rX3_shipsInReach sX3_shipsInReach := zlift0 mX3_shipsInReach frX3_shipsInReach
theorem frX3_convoysAt : zfr sX3_convoysAt := by
  intro as F ok ex h
  unfold sX3_convoysAt at h ⊢
  split at h
  · exact ⟨h, fun _ _ => rfl⟩
  · exact h.elim

theorem uX3_convoysAt : zMet ULM yX3_convoysAt cX3_convoysAt 4 (some .int) rX3_convoysAt sX3_convoysAt := zlift0 mX3_convoysAt frX3_convoysAt
theorem frX3_reachOf : zfr sX3_reachOf := by
  intro as F ok ex h
  unfold sX3_reachOf at h ⊢
  split at h
  · exact ⟨h, fun _ _ => rfl⟩
  · exact h.elim

theorem uX3_reachOf : zMet ULM yX3_reachOf cX3_reachOf 2 (some .int) rX3_reachOf sX3_reachOf := zlift0 mX3_reachOf frX3_reachOf
theorem frX3_shipsInConvoy : zfr sX3_shipsInConvoy := by
  intro as F ok ex h
  unfold sX3_shipsInConvoy at h ⊢
  split at h
  · exact ⟨h, fun _ _ => rfl⟩
  · exact h.elim

theorem uX3_shipsInConvoy : zMet ULM yX3_shipsInConvoy cX3_shipsInConvoy 4 (some .int) rX3_shipsInConvoy sX3_shipsInConvoy := zlift0 mX3_shipsInConvoy frX3_shipsInConvoy
theorem frX3_shipOfConvoy : zfr sX3_shipOfConvoy := by
  intro as F ok ex h
  unfold sX3_shipOfConvoy at h ⊢
  split at h
  · exact ⟨h, fun _ _ => rfl⟩
  · exact h.elim

theorem uX3_shipOfConvoy : zMet ULM yX3_shipOfConvoy cX3_shipOfConvoy 5 (some .int) rX3_shipOfConvoy sX3_shipOfConvoy := zlift0 mX3_shipOfConvoy frX3_shipOfConvoy
theorem frX3_shipsThatLeft : zfr sX3_shipsThatLeft := by
  intro as F ok ex h
  unfold sX3_shipsThatLeft at h ⊢
  split at h
  · exact ⟨h, fun _ _ => rfl⟩
  · exact h.elim

theorem uX3_shipsThatLeft : zMet ULM yX3_shipsThatLeft cX3_shipsThatLeft 1 (some .int) rX3_shipsThatLeft sX3_shipsThatLeft := zlift0 mX3_shipsThatLeft frX3_shipsThatLeft
theorem frX1_waitedBy : zfr sX1_waitedBy := by
  intro as F ok ex h
  unfold sX1_waitedBy at h ⊢
  split at h
  · exact ⟨h, fun _ _ => rfl⟩
  · exact h.elim

theorem uX1_waitedBy : zMet ULM yX1_waitedBy cX1_waitedBy 2 (some .int) rX1_waitedBy sX1_waitedBy := zlift0 mX1_waitedBy frX1_waitedBy
theorem frX1_priorityOf : zfr sX1_priorityOf := by
  intro as F ok ex h
  unfold sX1_priorityOf at h ⊢
  split at h
  · exact ⟨h, fun _ _ => rfl⟩
  · exact h.elim

theorem uX1_priorityOf : zMet ULM yX1_priorityOf cX1_priorityOf 3 (some .int) rX1_priorityOf sX1_priorityOf := zlift0 mX1_priorityOf frX1_priorityOf
theorem frX1_convoyInOrder : zfr sX1_convoyInOrder := by
  intro as F ok ex h
  unfold sX1_convoyInOrder at h ⊢
  split at h
  · exact ⟨h, fun _ _ => rfl⟩
  · exact h.elim

theorem uX1_convoyInOrder : zMet ULM yX1_convoyInOrder cX1_convoyInOrder 4 (some .int) rX1_convoyInOrder sX1_convoyInOrder := zlift0 mX1_convoyInOrder frX1_convoyInOrder
theorem frX1_waitingConvoys : zfr sX1_waitingConvoys := by
  intro as F ok ex h
  unfold sX1_waitingConvoys at h ⊢
  split at h
  · exact ⟨h, fun _ _ => rfl⟩
  · exact h.elim

theorem uX1_waitingConvoys : zMet ULM yX1_waitingConvoys cX1_waitingConvoys 3 (some .int) rX1_waitingConvoys sX1_waitingConvoys := zlift0 mX1_waitingConvoys frX1_waitingConvoys
theorem frX3_has : zfr sX3_has := by
  intro as F ok ex h
  unfold sX3_has at h ⊢
  split at h
  · exact ⟨fun c => ⟨h.1 c, fun _ _ => rfl⟩, fun c => ⟨h.2 c, fun _ _ => rfl⟩⟩
  · exact h.elim

theorem uX3_has : zMet ULM yX3_has cX3_has 2 (some .boolean) rX3_has sX3_has := zlift0 mX3_has frX3_has
theorem frX1_makeReach : zfr sX1_makeReach := by
  intro as F ok ex h
  unfold sX1_makeReach at h ⊢
  split at h
  · exact ⟨h, fun j hj => by rw [zup_ne _ _ _ (by omega), zwr_ne _ _ _ _ (by omega), zwr_ne _ _ _ _ (by omega), zwr_ne _ _ _ _ (by omega), zup_ne _ _ _ (by omega)]⟩
  · exact h.elim

theorem uX1_makeReach : zMet ULM yX1_makeReach cX1_makeReach 3 (some .int) rX1_makeReach sX1_makeReach := zlift0 mX1_makeReach frX1_makeReach
theorem frX1_makeShip : zfr sX1_makeShip := by
  intro as F ok ex h
  unfold sX1_makeShip at h ⊢
  split at h
  · exact ⟨h, fun j hj => by unfold qMkC; rw [zwr_ne _ _ _ _ (by omega), zwr_ne _ _ _ _ (by omega), qMkS_o _ _ _ _ _ hj]⟩
  · exact h.elim

theorem uX1_makeShip : zMet ULM yX1_makeShip cX1_makeShip 6 (some .int) rX1_makeShip sX1_makeShip := zlift0 mX1_makeShip frX1_makeShip
theorem frX1_change : zfr sX1_change := by
  intro as F ok ex h
  unfold sX1_change at h ⊢
  split at h
  · exact ⟨h, fun j hj => by split; exact zup_ne _ _ _ (by omega); split; exact zup_ne _ _ _ (by omega); exact zup_ne _ _ _ (by omega)⟩
  · exact h.elim

theorem uX1_change : zMet ULM yX1_change cX1_change 4 (some .int) rX1_change sX1_change := zlift0 mX1_change frX1_change
theorem frX1_hindranceOf : zfr sX1_hindranceOf := by
  intro as F ok ex h
  unfold sX1_hindranceOf at h ⊢
  split at h
  · exact ⟨h, fun j hj => qLook_o _ _ _ (by omega)⟩
  · exact h.elim

theorem uX1_hindranceOf : zMet ULM yX1_hindranceOf cX1_hindranceOf 5 (some .int) rX1_hindranceOf sX1_hindranceOf := zlift0 mX1_hindranceOf frX1_hindranceOf
theorem frX3_joinBehind : zfr sX3_joinBehind := by
  intro as F ok ex h
  unfold sX3_joinBehind at h ⊢
  split at h
  · exact ⟨h, fun j hj => qJn_o _ _ _ hj⟩
  · exact h.elim

theorem uX3_joinBehind : zMet ULM yX3_joinBehind cX3_joinBehind 3 (none) rX3_joinBehind sX3_joinBehind := zlift0 mX3_joinBehind frX3_joinBehind
theorem frX3_takeOut : zfr sX3_takeOut := by
  intro as F ok ex h
  unfold sX3_takeOut at h ⊢
  split at h
  · exact ⟨h, fun j hj => qTk_o _ _ hj⟩
  · exact h.elim

theorem uX3_takeOut : zMet ULM yX3_takeOut cX3_takeOut 4 (none) rX3_takeOut sX3_takeOut := zlift0 mX3_takeOut frX3_takeOut
theorem frX5_make : zfr sX5_make := by
  intro as F ok ex h
  unfold sX5_make at h ⊢
  split at h
  · exact ⟨h, fun j hj => qMkL_o _ _ _ _ hj⟩
  · exact h.elim

theorem uX5_make : zMet ULM yX5_make cX5_make 4 (none) rX5_make sX5_make := zlift0 mX5_make frX5_make
/-! the forecast's canal, the text, a canal's copy -/
def sF_goOneTick : zSp := fun as F ok _ => match as with
  | [.ref 0] => ok none (qOT F)
  | [.ref 45] => ok none (spl 45 45 F (qOT (vw 45 F)))
  | _ => False
def sF_hasLeft : zSp := fun as F ok _ => match as with
  | [.ref 25, .int s] => zbo (qWa F s = -1) F ok
  | [.ref 70, .int s] => zbo (qWa (vw 45 F) s = -1) F ok
  | _ => False
def sT_put : zSp := fun as F ok _ => match as with
  | [.ref 498, .int c] => ok none (spl 498 11 F (xPut (vw 498 F) c))
  | _ => False
def sT_read : zSp := fun as F ok _ => match as with
  | [.ref 498] => ok (some (.int (xRead (vw 498 F)).1)) (spl 498 11 F (xRead (vw 498 F)).2)
  | _ => False
def zcan (j : Nat) : Bool := Nat.beq (j % 45) 0 && Nat.blt j 495
/-- the canal at j becomes as the one at i -/
def zcp (F : zF) (j i : Nat) : zF := fun a => if j ≤ a ∧ a < j + 45 then qCpC (fun k => if k < 45 then F (j + k) else F (i + (k - 45))) (a - j) else F a
def sL_copyFrom : zSp := fun as F ok _ => match as with
  | [.ref j, .ref i] => match zcan j && (zcan i && !(Nat.beq j i)) with
    | true => ok none (zcp F j i)
    | false => False
  | _ => False
theorem uF_goOneTick : zMet ULM yX1_goOneTick cX1_goOneTick 2 none rX1_goOneTick sF_goOneTick := by
  intro l hfl D cA ad F sz av ok ex hsp
  have h := hsp
  unfold sF_goOneTick at h
  split at h
  · exact zlift0 (sp := sX1_goOneTick) mX1_goOneTick (fun as G ok' ex' h => by
      unfold sX1_goOneTick at h ⊢
      split at h
      · exact ⟨h, fun j hj => qOT_o _ hj⟩
      · exact h.elim) l hfl D cA ad F sz _ ok ex h
  · exact zlift (sp := fun as G ok' _ => as = [.ref 45] ∧ ok' none (spl 45 45 G (qOT (vw 45 G)))) mX1_goOneTick (fun as G ok' ex' h => ⟨fun k => 45 + k, [.ref 0], fun q G' => q = none ∧ G' = qOT (vw 45 G), fun _ _ => False, zemb_C 1 (by decide), h.1, ⟨rfl, rfl⟩, fun q G' e => ⟨spl 45 45 G G', zspl_sh 45 G G', by rw [e.1, e.2]; exact h.2⟩, fun _ _ e => e.elim⟩) l hfl D cA ad F sz _ ok ex ⟨rfl, h⟩
  · exact h.elim
theorem spl_vw (b n : Nat) (F : zF) : spl b n F (vw b F) = F := by
  funext j
  unfold spl vw
  split
  · congr 1
    omega
  · rfl
theorem uF_hasLeft : zMet ULM yX3_hasLeft cX3_hasLeft 2 (some .boolean) rX3_hasLeft sF_hasLeft := by
  intro l hfl D cA ad F sz av ok ex hsp
  have h := hsp
  unfold sF_hasLeft at h
  split at h
  · exact zlift0 (sp := sX3_hasLeft) mX3_hasLeft (fun as G ok' ex' h => by
      unfold sX3_hasLeft at h ⊢
      split at h
      · exact ⟨fun c => ⟨h.1 c, fun _ _ => rfl⟩, fun c => ⟨h.2 c, fun _ _ => rfl⟩⟩
      · exact h.elim) l hfl D cA ad F sz _ ok ex h
  · rename_i s
    exact zlift (sp := fun as G ok' _ => as = [.ref 70, .int s] ∧ zbo (qWa (vw 45 G) s = -1) G ok') mX3_hasLeft (fun as G ok' ex' h => ⟨fun k => 45 + k, [.ref 25, .int s], fun q G' => ok' q G ∧ (∃ v, q = some (.int v)) ∧ G' = vw 45 G, fun _ _ => False, zemb_C 1 (by decide), h.1, ⟨fun c => ⟨h.2.1 c, ⟨1, rfl⟩, rfl⟩, fun c => ⟨h.2.2 c, ⟨0, rfl⟩, rfl⟩⟩, fun q G' e => ⟨G, by rw [e.2.2]; exact zspl_rf, by obtain ⟨e1, ⟨v, e2⟩, -⟩ := e; rw [e2] at e1 ⊢; exact e1⟩, fun _ _ e => e.elim⟩) l hfl D cA ad F sz _ ok ex ⟨rfl, h⟩
  · exact h.elim
theorem uT_put : zMet ULM yX0_put cX0_put 2 none rX0_put sT_put := by
  intro l hfl D cA ad F sz av ok ex hsp
  have h := hsp
  unfold sT_put at h
  split at h
  · rename_i c
    exact zlift (sp := fun as G ok' _ => as = [.ref 498, .int c] ∧ ok' none (spl 498 11 G (xPut (vw 498 G) c))) mX0_put (fun as G ok' ex' h => ⟨fun k => 498 + k, [.ref 0, .int c], fun q G' => q = none ∧ G' = xPut (vw 498 G) c, fun _ _ => False, zemb_T, h.1, ⟨rfl, rfl⟩, fun q G' e => ⟨spl 498 11 G G', zspl_sh 498 G G', by rw [e.1, e.2]; exact h.2⟩, fun _ _ e => e.elim⟩) l hfl D cA ad F sz _ ok ex ⟨rfl, h⟩
  · exact h.elim
theorem uT_read : zMet ULM yX0_read cX0_read 3 (some .int) rX0_read sT_read := by
  intro l hfl D cA ad F sz av ok ex hsp
  have h := hsp
  unfold sT_read at h
  split at h
  · exact zlift (sp := fun as G ok' _ => as = [.ref 498] ∧ ok' (some (.int (xRead (vw 498 G)).1)) (spl 498 11 G (xRead (vw 498 G)).2)) mX0_read (fun as G ok' ex' h => ⟨fun k => 498 + k, [.ref 0], fun q G' => q = some (.int (xRead (vw 498 G)).1) ∧ G' = (xRead (vw 498 G)).2, fun _ _ => False, zemb_T, h.1, ⟨rfl, rfl⟩, fun q G' e => ⟨spl 498 11 G G', zspl_sh 498 G G', by rw [e.1, e.2]; exact h.2⟩, fun _ _ e => e.elim⟩) l hfl D cA ad F sz _ ok ex ⟨rfl, h⟩
  · exact h.elim
theorem qCpC_o (F : zF) {k : Nat} (h : 45 ≤ k) : qCpC F k = F k := by
  unfold qCpC
  simp only [zup_ne _ _ _ (show k ≠ 0 by omega)]
  rw [qCpF_o _ h, qCpL_o _ h, qCpR_o _ h]
theorem zcan_ok (j : Nat) (h : zcan j = true) : ∃ c, c < 11 ∧ j = 45 * c := by
  unfold zcan at h
  rw [Bool.and_eq_true] at h
  have h1 := Nat.eq_of_beq_eq_true h.1
  have h2 : j < 495 := by simpa using h.2
  exact ⟨j / 45, by omega, by omega⟩
theorem zspl_cp (c c' : Nat) (hcc : c ≠ c') (G : zF) : zspl UC2 (zem2 c c') G (qCpC fun k => G (zem2 c c' k)) (zcp G (45 * c) (45 * c')) := by
  have hf : (fun k => G (zem2 c c' k)) = fun k => if k < 45 then G (45 * c + k) else G (45 * c' + (k - 45)) := by
    funext k
    unfold zem2
    split <;> rfl
  refine ⟨fun k hk => ?_, fun k hk => ?_⟩
  · have hk : k < 90 := hk
    unfold zcp
    rw [hf]
    by_cases h45 : k < 45
    · have e1 : zem2 c c' k = 45 * c + k := by unfold zem2; exact if_pos h45
      rw [e1, if_pos (by omega), show 45 * c + k - 45 * c = k by omega]
    · have e1 : zem2 c c' k = 45 * c' + (k - 45) := by unfold zem2; exact if_neg h45
      rw [e1, if_neg (by omega), qCpC_o (k := k) _ (by omega), if_neg h45]
  · unfold zcp
    rw [if_neg ?_]
    intro hr
    exact hk (k - 45 * c) (show k - 45 * c < 90 by omega) (by unfold zem2; rw [if_pos (by omega)]; omega)
theorem uL_copyFrom : zMet ULM yX1_copyFrom cX1_copyFrom 2 none rX1_copyFrom sL_copyFrom := by
  intro l hfl D cA ad F sz av ok ex hsp
  have h := hsp
  unfold sL_copyFrom at h
  split at h
  · rename_i j i
    split at h
    · rename_i hb
      rw [Bool.and_eq_true, Bool.and_eq_true, Bool.not_eq_true'] at hb
      obtain ⟨hj1, hi1, hne⟩ := hb
      have hne : j ≠ i := fun e => by rw [e] at hne; simp at hne
      obtain ⟨c, hc, rfl⟩ := zcan_ok _ hj1
      obtain ⟨c', hc', rfl⟩ := zcan_ok _ hi1
      have hcc : c ≠ c' := fun e => hne (by rw [e])
      exact zlift (sp := fun as G ok' _ => as = [.ref (45 * c), .ref (45 * c')] ∧ ok' none (zcp G (45 * c) (45 * c'))) mX1_copyFrom (fun as G ok' ex' h => ⟨zem2 c c', [.ref 0, .ref 45], fun q G' => q = none ∧ G' = qCpC (fun k => G (zem2 c c' k)), fun _ _ => False, zemb_2 c hc c' hc' hcc, h.1, ⟨rfl, rfl⟩, fun q G' e => ⟨zcp G (45 * c) (45 * c'), by rw [e.2]; exact zspl_cp c c' hcc G, by rw [e.1]; exact h.2⟩, fun _ _ e => e.elim⟩) l hfl D cA ad F sz _ ok ex ⟨rfl, h⟩
    · exact h.elim
  · exact h.elim
end ZL0
