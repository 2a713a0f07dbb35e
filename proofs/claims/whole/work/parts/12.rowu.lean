/-! a row's copy; a row in any world -/
section ZRu
theorem zcpr_0 (F : zF) (j i : Nat) : zcpr F j i 0 = F := by
  funext a b
  simp only [zcpr, Nat.not_lt_zero, if_false]
  split
  · rename_i h; rw [h]
  · rfl
theorem zcpr_s (F : zF) {j i : Nat} (hji : i ≠ j) (k n : Nat) (hk : k < n) (hn : n < 2 ^ 31) : zup (zcpr F j i k) j (nI k).toNatClampNeg (zrd n (zcpr F j i k i) (nI k)) = zcpr F j i (k + 1) := by
  have hv : zrd n (zcpr F j i k i) (nI k) = F i k := by
    unfold zrd
    have h1 : nI k < Int32.ofNat n := (nI_ltI (Nat.lt_trans hk hn) hn).mpr hk
    rw [if_neg (nI_pos (Nat.lt_trans hk hn)), if_pos h1, nI_clamp (Nat.lt_trans hk hn)]
    simp [zcpr, hji]
  rw [hv, nI_clamp (by omega)]
  funext a b
  simp only [zup, zcpr]
  by_cases ha : a = j
  · simp only [ha, if_true]
    by_cases hb : b = k
    · simp [hb]
    · simp only [hb, if_false]
      by_cases hb2 : b < k
      · simp [hb2, Nat.lt_succ_of_lt hb2]
      · rw [if_neg hb2, if_neg (by omega)]
  · simp [ha]
def zrow (U : zU) (j : Nat) : Option Nat := match U.2 j with
  | (0, 7, [some t]) => match Nat.beq t (j + 1), U.2 (j + 1) with
    | true, (1, n, []) => match Nat.blt (j + 1) U.1 with
      | true => some n
      | false => none
    | _, _ => none
  | _ => none
theorem zrow_ok {U : zU} {j n : Nat} (h : zrow U j = some n) : j + 1 < U.1 ∧ U.2 j = (0, 7, [some (j + 1)]) ∧ U.2 (j + 1) = (1, n, []) := by
  unfold zrow at h
  split at h
  · rename_i t h1
    split at h
    · rename_i n' h2 h3
      have h2 := Nat.eq_of_beq_eq_true h2
      split at h
      · rename_i h4
        cases h
        subst h2
        exact ⟨by simpa using h4, h1, h3⟩
      · cases h
    · cases h
  · cases h
def zsmall (U : zU) : Prop := ∀ k, k < U.1 → (U.2 k).2.1 < 2 ^ 31
def sU_at (U : zU) : zSp := fun as F ok _ => match as with
  | [.ref j, .int i] => match zrow U j with
    | some n => ok (some (.int (zrd n (F (j + 1)) i))) F
    | none => False
  | _ => False
def sU_put (U : zU) : zSp := fun as F ok _ => match as with
  | [.ref j, .int i, .int v] => match zrow U j with
    | some n => ok none (zwr n F (j + 1) i v)
    | none => False
  | _ => False
def sU_add (U : zU) : zSp := fun as F ok _ => match as with
  | [.ref j, .int i, .int v] => match zrow U j with
    | some n => ok none (zwr n F (j + 1) i (zrd n (F (j + 1)) i + v))
    | none => False
  | _ => False
def sU_sum (U : zU) : zSp := fun as F ok _ => match as with
  | [.ref j] => match zrow U j with
    | some n => ok (some (.int (zsum (F (j + 1)) n))) F
    | none => False
  | _ => False
def sU_copy (U : zU) : zSp := fun as F ok _ => match as with
  | [.ref j, .ref i] => match zrow U j, zrow U i, Nat.beq i j with
    | some n, some n', false => match Nat.beq n n' with
      | true => ok none (zcpr F (j + 1) (i + 1) n)
      | false => False
    | _, _, _ => False
  | _ => False
theorem zemb_row {U : zU} {j n : Nat} (h : zrow U j = some n) : zemb (uR n) U (fun k => j + k) := by
  obtain ⟨h1, h2, h3⟩ := zrow_ok h
  refine ⟨fun k hk => ?_, fun a b _ _ hab => (by have hab : j + a = j + b := hab; omega), fun k hk => ?_⟩
  · have hk : k < 2 := hk
    show j + k < U.1
    omega
  · have hk : k < 2 := hk
    rcases (show k = 0 ∨ k = 1 by omega) with rfl | rfl
    · exact h2
    · exact h3
theorem zspl_rf {U' : zU} {em : Nat → Nat} {F : zF} : zspl U' em F (fun k => F (em k)) F := ⟨fun _ _ => rfl, fun _ _ => rfl⟩
theorem zspl_wr {n j : Nat} {F : zF} {i v : Int32} : zspl (uR n) (fun k => j + k) F (zwr n (fun k => F (j + k)) 1 i v) (zwr n F (j + 1) i v) := by
  refine ⟨fun k hk => ?_, fun k hk => ?_⟩
  · unfold zwr
    split
    · rfl
    · split
      · funext b
        simp only [zup]
        by_cases h : k = 1
        · subst h; simp
        · rw [if_neg (by omega), if_neg h]
      · rfl
  · have hk1 : k ≠ j + 1 := fun e => hk 1 (show 1 < 2 by omega) e.symm
    unfold zwr
    split
    · rfl
    · split
      · exact zup_ne F _ _ hk1
      · rfl
theorem mU_at (U : zU) (hU : zsmall U) : zMet U yX7_at cX7_at 2 (some .int) rX7_at (sU_at U) := by
  have hf : ∀ n, n < 2 ^ 31 → zMet (uR n) yX7_at cX7_at 2 (some .int) rX7_at (sR_at n) := mX7_at
  intro l hfl D cA ad F sz av ok ex hsp
  have h := hsp
  unfold sU_at at h
  split at h
  · rename_i j i
    split at h
    · rename_i n hn
      have hlt : n < 2 ^ 31 := by have := hU (j + 1) (zrow_ok hn).1; rw [(zrow_ok hn).2.2] at this; exact this
      exact zlift (sp := fun as G ok' _ => as = [.ref j, .int i] ∧ ok' (some (.int (zrd n (G (j + 1)) i))) G) (hf n hlt) (fun as G ok' ex' h => ⟨fun k => j + k, [.ref 0, .int i], fun q G' => q = some (.int (zrd n (G (j + 1)) i)) ∧ G' = fun k => G (j + k), fun _ _ => False, zemb_row hn, h.1, ⟨rfl, rfl⟩, fun q G' e => ⟨G, by rw [e.2]; exact zspl_rf, by rw [e.1]; exact h.2⟩, fun _ _ e => e.elim⟩) l hfl D cA ad F sz _ ok ex ⟨rfl, h⟩
    · exact h.elim
  · exact h.elim
theorem mU_put (U : zU) (hU : zsmall U) : zMet U yX7_put cX7_put 3 none rX7_put (sU_put U) := by
  intro l hfl D cA ad F sz av ok ex hsp
  have h := hsp
  unfold sU_put at h
  split at h
  · rename_i j i v
    split at h
    · rename_i n hn
      have hlt : n < 2 ^ 31 := by have := hU (j + 1) (zrow_ok hn).1; rw [(zrow_ok hn).2.2] at this; exact this
      exact zlift (sp := fun as G ok' _ => as = [.ref j, .int i, .int v] ∧ ok' none (zwr n G (j + 1) i v)) (mX7_put n hlt) (fun as G ok' ex' h => ⟨fun k => j + k, [.ref 0, .int i, .int v], fun q G' => q = none ∧ G' = zwr n (fun k => G (j + k)) 1 i v, fun _ _ => False, zemb_row hn, h.1, ⟨rfl, rfl⟩, fun q G' e => ⟨zwr n G (j + 1) i v, by rw [e.2]; exact zspl_wr, by rw [e.1]; exact h.2⟩, fun _ _ e => e.elim⟩) l hfl D cA ad F sz _ ok ex ⟨rfl, h⟩
    · exact h.elim
  · exact h.elim
theorem mU_add (U : zU) (hU : zsmall U) : zMet U yX7_add cX7_add 3 none rX7_add (sU_add U) := by
  intro l hfl D cA ad F sz av ok ex hsp
  have h := hsp
  unfold sU_add at h
  split at h
  · rename_i j i v
    split at h
    · rename_i n hn
      have hlt : n < 2 ^ 31 := by have := hU (j + 1) (zrow_ok hn).1; rw [(zrow_ok hn).2.2] at this; exact this
      exact zlift (sp := fun as G ok' _ => as = [.ref j, .int i, .int v] ∧ ok' none (zwr n G (j + 1) i (zrd n (G (j + 1)) i + v))) (mX7_add n hlt) (fun as G ok' ex' h => ⟨fun k => j + k, [.ref 0, .int i, .int v], fun q G' => q = none ∧ G' = zwr n (fun k => G (j + k)) 1 i (zrd n (G (j + 1)) i + v), fun _ _ => False, zemb_row hn, h.1, ⟨rfl, rfl⟩, fun q G' e => ⟨zwr n G (j + 1) i (zrd n (G (j + 1)) i + v), by rw [e.2]; exact zspl_wr, by rw [e.1]; exact h.2⟩, fun _ _ e => e.elim⟩) l hfl D cA ad F sz _ ok ex ⟨rfl, h⟩
    · exact h.elim
  · exact h.elim
theorem mU_sum (U : zU) (hU : zsmall U) : zMet U yX7_sum cX7_sum 3 (some .int) rX7_sum (sU_sum U) := by
  intro l hfl D cA ad F sz av ok ex hsp
  have h := hsp
  unfold sU_sum at h
  split at h
  · rename_i j
    split at h
    · rename_i n hn
      have hlt : n < 2 ^ 31 := by have := hU (j + 1) (zrow_ok hn).1; rw [(zrow_ok hn).2.2] at this; exact this
      exact zlift (sp := fun as G ok' _ => as = [.ref j] ∧ ok' (some (.int (zsum (G (j + 1)) n))) G) (mX7_sum n hlt) (fun as G ok' ex' h => ⟨fun k => j + k, [.ref 0], fun q G' => q = some (.int (zsum (G (j + 1)) n)) ∧ G' = fun k => G (j + k), fun _ _ => False, zemb_row hn, h.1, ⟨rfl, rfl⟩, fun q G' e => ⟨G, by rw [e.2]; exact zspl_rf, by rw [e.1]; exact h.2⟩, fun _ _ e => e.elim⟩) l hfl D cA ad F sz _ ok ex ⟨rfl, h⟩
    · exact h.elim
  · exact h.elim
theorem uR2_small (n : Nat) (hn : n < 2 ^ 31) : zsmall (uR2 n) := by
  intro k hk
  have hk : k < 4 := hk
  rcases (show k = 0 ∨ k = 1 ∨ k = 2 ∨ k = 3 by omega) with rfl | rfl | rfl | rfl
  · show 7 < 2 ^ 31; decide
  · exact hn
  · show 7 < 2 ^ 31; decide
  · exact hn

def kX7_copyFrom : List zI := [
  (0, 1, .iconst 0, [], 0),
  (1, 1, .istore_n 2, [], 0),
  (2, 1, .iload_n 2, [], 0),
  (3, 1, .aload_n 0, [], 0),
  (4, 3, .getfield 7, [], 0),
  (7, 1, .arraylength, [], 0),
  (8, 3, .if_icmp .ge 20, [28], 0),
  (11, 1, .aload_n 0, [], 0),
  (12, 3, .getfield 7, [], 0),
  (15, 1, .iload_n 2, [], 0),
  (16, 1, .aload_n 1, [], 0),
  (17, 1, .iload_n 2, [], 0),
  (18, 3, .invokevirtual 13, [], 0),
  (21, 1, .iastore, [], 0),
  (22, 3, .iinc 2 1, [], 1),
  (25, 3, .goto (-23), [2], 0),
  (28, 1, .return_, [], 0)]
theorem kX7_copyFrom_ok : kX7_copyFrom.all (zck cX7_copyFrom) = true := by decide +kernel

def rX7_copyFrom : Room := { frames := 1, cells := 0, slots := 0, locals := 21 }
abbrev YX7_copyFrom (n : Nat) : zM := (RX7, cX7_copyFrom, 3, none, rX7_copyFrom, uR2 n, zlk fX7, zcs [(13, 2, 0, 0, zvs (uR2 n) 7 (sU_at (uR2 n)))] [])
theorem YX7_copyFrom_ok (n : Nat) (hn : n < 2 ^ 31) : zYok (YX7_copyFrom n) := zYok_of fX7_ok (zall (zcal_mono (zcalV (Y := YX7_copyFrom n) (y := yX7_at) (cc := cX7_at) (nL := 2) (ret := some .int) (rm := rX7_at) (mU_at (uR2 n) (uR2_small n hn)) 13 1 7 (T := TX7) rfl wX7_13 ⟨by decide +kernel, by decide +kernel, by decide +kernel⟩ (by decide) ⟨Nat.le_of_ble_eq_true rfl, Nat.le_of_ble_eq_true rfl⟩) (fun _ _ _ _ h => zvs_P h)) znil) znil

theorem lX7_copyFrom (n : Nat) (hn : n < 2 ^ 31) (ok : zO) (ex : zX) (F : zF) (h : ok none (zcpr F 1 3 n)) : ∀ (d k : Nat), k + d = n → zWP (YX7_copyFrom n) ok ex 2 [some (.ref 0), some (.ref 2), some (.int (nI k))] [] 0 0 (zcpr F 1 3 k) := by
  intro d
  induction d with
  | zero =>
    intro k hk
    refine zat_ok (YX7_copyFrom_ok n hn) zno kX7_copyFrom (List.all_eq_true.mp kX7_copyFrom_ok) 2 _ _ _ _ _ ?_
    have hk : k = n := hk
    subst hk
    refine And.intro (fun _ => h) (fun h1 => absurd ?_ h1)
    exact nI_le (Nat.le_refl k) hn
  | succ d ih =>
    intro k hk
    have hlt : k < n := by omega
    refine zat_ok (YX7_copyFrom_ok n hn) (inv := zi1 2 (fun ls st kc ks G => zWP (YX7_copyFrom n) ok ex 2 ls st kc ks G)) (zone fun _ _ _ _ _ h => h) kX7_copyFrom (List.all_eq_true.mp kX7_copyFrom_ok) 2 _ _ _ _ _ ?_
    refine And.intro (fun h1 => absurd (show nI n ≤ nI k from h1) (nI_ge hlt hn)) (fun h1 => ?_)
    refine Exists.intro (vp_in_nI hlt hn) ?_
    have := ih (k + 1) (by omega)
    rw [← nI_1, ← zcpr_s F (by decide) k n hlt hn] at this
    exact this

theorem mX7_copyFrom (n : Nat) (hn : n < 2 ^ 31) : zMet (uR2 n) yX7_copyFrom cX7_copyFrom 3 (none) rX7_copyFrom (sR_copy n) := by
  refine zmet (Y := YX7_copyFrom n) rfl (by decide +kernel) ?_
  intro av F ok ex h
  unfold sR_copy at h
  split at h
  · refine zgo_ok (YX7_copyFrom_ok n hn) (inv := zi1 2 (fun ls st kc ks G => zWP (YX7_copyFrom n) ok ex 2 ls st kc ks G)) (zone fun _ _ _ _ _ h => h) kX7_copyFrom (List.all_eq_true.mp kX7_copyFrom_ok) 0 _ _ _ _ _ ?_
    have := lX7_copyFrom n hn ok ex F h n 0 (by omega)
    rw [zcpr_0] at this
    exact this
  · exact h.elim

theorem zemb_row2 {U : zU} {i j n : Nat} (h : zrow U j = some n) (h' : zrow U i = some n) (hij : i ≠ j) : zemb (uR2 n) U (fun k => if k < 2 then j + k else i + (k - 2)) := by
  obtain ⟨h1, h2, h3⟩ := zrow_ok h
  obtain ⟨h1', h2', h3'⟩ := zrow_ok h'
  have a1 : i + 1 ≠ j := fun e => by rw [e, h2] at h3'; cases h3'
  have a2 : j + 1 ≠ i := fun e => by rw [e, h2'] at h3; cases h3
  refine ⟨fun k hk => ?_, fun a b ha hb hab => ?_, fun k hk => ?_⟩
  · have hk : k < 4 := hk
    dsimp only
    split <;> omega
  · have ha : a < 4 := ha
    have hb : b < 4 := hb
    dsimp only at hab
    split at hab <;> split at hab <;> omega
  · have hk : k < 4 := hk
    rcases (show k = 0 ∨ k = 1 ∨ k = 2 ∨ k = 3 by omega) with rfl | rfl | rfl | rfl
    · exact h2
    · exact h3
    · exact h2'
    · exact h3'
theorem mU_copy (U : zU) (hU : zsmall U) : zMet U yX7_copyFrom cX7_copyFrom 3 none rX7_copyFrom (sU_copy U) := by
  intro l hfl D cA ad F sz av ok ex hsp
  have h := hsp
  unfold sU_copy at h
  split at h
  · rename_i j i
    split at h
    · rename_i n n' hn hn' hij
      split at h
      · rename_i hnn
        have hnn := Nat.eq_of_beq_eq_true hnn
        subst hnn
        have hij : i ≠ j := fun e => by rw [e] at hij; simp at hij
        have hlt : n < 2 ^ 31 := by have := hU (j + 1) (zrow_ok hn).1; rw [(zrow_ok hn).2.2] at this; exact this
        obtain ⟨-, q1, q2⟩ := zrow_ok hn
        obtain ⟨-, q3, q4⟩ := zrow_ok hn'
        have a1 : i + 1 ≠ j := fun e => by rw [e, q1] at q4; cases q4
        have a2 : j + 1 ≠ i := fun e => by rw [e, q3] at q2; cases q2
        refine zlift (sp := fun as G ok' _ => as = [.ref j, .ref i] ∧ ok' none (zcpr G (j + 1) (i + 1) n)) (mX7_copyFrom n hlt) (fun as G ok' ex' h => ⟨fun k => if k < 2 then j + k else i + (k - 2), [.ref 0, .ref 2], fun q G' => q = none ∧ G' = zcpr (fun k => G (if k < 2 then j + k else i + (k - 2))) 1 3 n, fun _ _ => False, zemb_row2 hn hn' hij, h.1, ⟨rfl, rfl⟩, fun q G' e => ⟨zcpr G (j + 1) (i + 1) n, ⟨fun k hk => ?_, fun k hk => ?_⟩, by rw [e.1]; exact h.2⟩, fun _ _ e => e.elim⟩) l hfl D cA ad F sz _ ok ex ⟨rfl, h⟩
        · have hk : k < 4 := hk
          rw [e.2]
          funext b
          rcases (show k = 0 ∨ k = 1 ∨ k = 2 ∨ k = 3 by omega) with rfl | rfl | rfl | rfl
          · simp [zcpr]
          · simp [zcpr]
          · simp [zcpr, a2.symm]
          · simp [zcpr, hij]
        · have hk1 : k ≠ j + 1 := fun e => hk 1 (show 1 < 4 by omega) e.symm
          funext b
          simp [zcpr, hk1]
      · exact h.elim
    · exact h.elim
  · exact h.elim
end ZRu
