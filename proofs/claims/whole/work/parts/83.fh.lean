/-! the law's cases: helps -/
section ZFh
set_option maxRecDepth 40000
def zAg2 (Fc Fm F : zF) : Prop := (∀ k, k < 509 → Fc k = F k) ∧ ∀ k, k < 10 → Fm k = F (509 + k)
theorem zag_c {Fc Fm F F' : zF} (h : zAg2 Fc Fm F) : zAg2 F' Fm (jC F F') := by
  refine ⟨fun k hk => (if_pos hk).symm, fun k hk => (h.2 k hk).trans ?_⟩
  unfold jC
  rw [if_neg (by omega)]
theorem zag_l {Fc Fm F F' : zF} (h : zAg2 Fc Fm F) (i : Nat) (v : Int32) : zAg2 F' Fm (zup (jC F F') 519 i v) := by
  have h1 := zag_c (F' := F') h
  exact ⟨fun k hk => by rw [zup_ne _ _ _ (by omega)]; exact h1.1 k hk, fun k hk => by rw [zup_ne _ _ _ (by omega)]; exact h1.2 k hk⟩
theorem zag_m {Fc Fm F F' : zF} (h : zAg2 Fc Fm F) : zAg2 Fc F' (jM F F') := by
  refine ⟨fun k hk => (h.1 k hk).trans (if_pos hk).symm, fun k hk => ?_⟩
  unfold jM
  rw [if_neg (by omega), if_pos (by omega), show 509 + k - 509 = k by omega]
theorem zrm {kc ks : Nat} (a b : Nat) (hr : kc + 20 ≤ 603072 ∧ ks + 200 ≤ 7198825) (ha : a ≤ 20) (hb : b ≤ 200) : kc + a ≤ 603072 ∧ ks + b ≤ 7198825 := ⟨by omega, by omega⟩
theorem zlg (x : Int64) : lg_cmp x x = 0 := by simp [lg_cmp]
def zAg (F : zF) : Prop := ∃ Fc Fm, eBoth Fc Fm ∧ zAg2 Fc Fm F
def zIn (x : Int32) (L : Nat) : Prop := vp_in (x + 1) L ∧ vp_in (x + 2) L ∧ vp_in (x + 3) L ∧ vp_in (x + 4) L ∧ vp_in (x + 5) L
abbrev zW (L : Nat) (xs : Nat → Int32) : Nat → zJ := zXW YL_law (zKw L xs) zQw zAw
abbrev zLs (x : Int32) (w6 w7 w8 : Option Value) : zL := [some (.ref 521), some (.ref 495), some (.ref 509), some (.ref 519), some (.ref 520), some (.int x), w6, w7, w8]
def zNxt (L : Nat) (xs : Nat → Int32) (x : Int32) (kc ks : Nat) : Prop := ∀ (w6 w7 w8 : Option Value) (kc' ks' : Nat) (F' : zF), kc' ≤ kc + 20 → ks' ≤ ks + 200 → zAg F' → zW L xs 1488 (zLs x w6 w7 w8) [] kc' ks' F'
abbrev zCase (L : Nat) (xs : Nat → Int32) (pc : Nat) : Prop := ∀ (x : Int32) (w6 w7 w8 : Option Value) (kc ks : Nat) (F : zF), zAg F → (kc + 20 ≤ 603072 ∧ ks + 200 ≤ 7198825) → zIn x L → zNxt L xs x kc ks → zW L xs pc (zLs x w6 w7 w8) [] kc ks F
theorem zfo_n {c : Prop} {E : String} {F : zF} {ex : zX} {A B : Prop} {names : List String} (h : zfo c E F ex A) (hE : E ∈ names) (hab : A → B) : zfo c E F (fun E F' => E ∈ names ∧ ex E F') B := ⟨fun q => hab (h.1 q), fun q => ⟨hE, h.2 q⟩⟩
theorem zrf_n {y : Int32} {F : zF} {ex : zX} {A B : Prop} {names : List String} (h : zrf y F ex A) (hE : xU ∈ names) (hab : A → B) : zrf y F (fun E F' => E ∈ names ∧ ex E F') B := ⟨fun q => hab (h.1 q), fun q => ⟨hE, h.2 q⟩⟩
theorem e_addReach {F : zF} {ok : zO} {ex : zX} {p0 p1 p2 p3 p4 : Int32} (h : sX8_addReach [.ref 495, .int p0, .int p1, .int p2, .int p3, .int p4] F ok ex) : sX8_addReach [.ref 495, .int p0, .int p1, .int p2, .int p3, .int p4] F ok (fun E F' => E ∈ [xA, xS] ∧ ex E F') := (fun h => zfo_n h (by simp) (fun h => zfo_n h (by simp) (fun h => zfo_n h (by simp) id))) h
theorem e_set {F : zF} {ok : zO} {ex : zX} {p0 p1 : Int32} (h : sX8_set [.ref 495, .int p0, .int p1] F ok ex) : sX8_set [.ref 495, .int p0, .int p1] F ok (fun E F' => E ∈ [xI, xA] ∧ ex E F') := (fun h => zfo_n h (by simp) (fun h => zfo_n h (by simp) id)) h
theorem e_reach {F : zF} {ok : zO} {ex : zX} {p0 p1 : Int32} (h : sX8_reach [.ref 495, .int p0, .int p1] F ok ex) : sX8_reach [.ref 495, .int p0, .int p1] F ok (fun E F' => E ∈ [xI, xA] ∧ ex E F') := (fun h => zfo_n h (by simp) (fun h => zfo_n h (by simp) id)) h
theorem e_lock {F : zF} {ok : zO} {ex : zX} {p0 p1 : Int32} (h : sX8_lock [.ref 495, .int p0, .int p1] F ok ex) : sX8_lock [.ref 495, .int p0, .int p1] F ok (fun E F' => E ∈ [xI, xA] ∧ ex E F') := (fun h => zfo_n h (by simp) (fun h => zfo_n h (by simp) id)) h
theorem e_addShip {F : zF} {ok : zO} {ex : zX} {p0 p1 p2 p3 : Int32} (h : sX8_addShip [.ref 495, .int p0, .int p1, .int p2, .int p3] F ok ex) : sX8_addShip [.ref 495, .int p0, .int p1, .int p2, .int p3] F ok (fun E F' => E ∈ [xA, xU] ∧ ex E F') := (fun h => zfo_n h (by simp) (fun h => zrf_n h (by simp) id)) h
theorem e_append {F : zF} {ok : zO} {ex : zX} {p0 : Int32} (h : sX8_append [.ref 495, .int p0] F ok ex) : sX8_append [.ref 495, .int p0] F ok (fun E F' => E ∈ [xS] ∧ ex E F') := (fun h => zfo_n h (by simp) id) h
theorem e_arrive {F : zF} {ok : zO} {ex : zX} (h : sX8_arrive [.ref 495] F ok ex) : sX8_arrive [.ref 495] F ok (fun E F' => E ∈ [xA, xU] ∧ ex E F') := (fun h => zfo_n h (by simp) (fun h => zrf_n h (by simp) id)) h
theorem e_join {F : zF} {ok : zO} {ex : zX} {p0 p1 : Int32} (h : sX8_join [.ref 495, .int p0, .int p1] F ok ex) : sX8_join [.ref 495, .int p0, .int p1] F ok (fun E F' => E ∈ [xU] ∧ ex E F') := (fun h => zrf_n h (by simp) id) h
theorem e_part {F : zF} {ok : zO} {ex : zX} {p0 : Int32} (h : sX8_part [.ref 495, .int p0] F ok ex) : sX8_part [.ref 495, .int p0] F ok (fun E F' => E ∈ [xU] ∧ ex E F') := (fun h => zrf_n h (by simp) id) h
theorem e_refusal {F : zF} {ok : zO} {ex : zX} (h : sX8_refusal [.ref 495] F ok ex) : sX8_refusal [.ref 495] F ok (fun E F' => E ∈ [xE] ∧ ex E F') := (fun h => zfo_n h (by simp) id) h
theorem e_ship {F : zF} {ok : zO} {ex : zX} {p0 p1 : Int32} (h : sX8_ship [.ref 495, .int p0, .int p1] F ok ex) : sX8_ship [.ref 495, .int p0, .int p1] F ok (fun E F' => E ∈ [xI, xA] ∧ ex E F') := (fun h => zfo_n h (by simp) (fun h => zfo_n h (by simp) id)) h
theorem e_convoy {F : zF} {ok : zO} {ex : zX} {p0 p1 : Int32} (h : sX8_convoy [.ref 495, .int p0, .int p1] F ok ex) : sX8_convoy [.ref 495, .int p0, .int p1] F ok (fun E F' => E ∈ [xI, xE] ∧ ex E F') := (fun h => zfo_n h (by simp) (fun h => zfo_n h (by simp) id)) h
theorem e_waiting {F : zF} {ok : zO} {ex : zX} {p0 p1 : Int32} (h : sX8_waiting [.ref 495, .int p0, .int p1] F ok ex) : sX8_waiting [.ref 495, .int p0, .int p1] F ok (fun E F' => E ∈ [xI, xE] ∧ ex E F') := (fun h => zfo_n h (by simp) (fun h => zfo_n h (by simp) id)) h
theorem e_priority {F : zF} {ok : zO} {ex : zX} {p0 : Int32} (h : sX8_priority [.ref 495, .int p0] F ok ex) : sX8_priority [.ref 495, .int p0] F ok (fun E F' => E ∈ [xI, xS] ∧ ex E F') := (fun h => zfo_n h (by simp) (fun h => zfo_n h (by simp) id)) h
theorem e_hindrance {F : zF} {ok : zO} {ex : zX} {p0 : Int32} (h : sX8_hindrance [.ref 495, .int p0] F ok ex) : sX8_hindrance [.ref 495, .int p0] F ok (fun E F' => E ∈ [xI, xS] ∧ ex E F') := (fun h => zfo_n h (by simp) (fun h => zfo_n h (by simp) id)) h
theorem e_pass {F : zF} {ok : zO} {ex : zX} {p0 : Int32} (h : sX8_pass [.ref 495, .int p0] F ok ex) : sX8_pass [.ref 495, .int p0] F ok (fun E F' => E ∈ [xA, xS] ∧ ex E F') := (fun h => zfo_n h (by simp) (fun h => zfo_n h (by simp) id)) h
theorem e_untilLeft {F : zF} {ok : zO} {ex : zX} {p0 p1 : Int32} (h : sX8_untilLeft [.ref 495, .int p0, .int p1] F ok ex) : sX8_untilLeft [.ref 495, .int p0, .int p1] F ok (fun E F' => E ∈ [xI, xA, xS, xE] ∧ ex E F') := (fun h => zfo_n h (by simp) (fun h => zfo_n h (by simp) (fun h => zfo_n h (by simp) (fun h => zfo_n h (by simp) id)))) h
theorem e_account {F : zF} {ok : zO} {ex : zX} {p0 : Int32} (h : sX8_account [.ref 495, .int p0] F ok ex) : sX8_account [.ref 495, .int p0] F ok (fun E F' => E ∈ [xA] ∧ ex E F') := (fun h => zfo_n h (by simp) id) h
theorem e_undo {F : zF} {ok : zO} {ex : zX} (h : sX8_undo [.ref 495] F ok ex) : sX8_undo [.ref 495] F ok (fun E F' => E ∈ [xS] ∧ ex E F') := (fun h => zfo_n h (by simp) id) h
theorem e_restore {F : zF} {ok : zO} {ex : zX} (h : sX8_restore [.ref 495] F ok ex) : sX8_restore [.ref 495] F ok (fun E F' => E ∈ [xS] ∧ ex E F') := (fun h => zfo_n h (by simp) id) h
theorem e_faultPosition {F : zF} {ok : zO} {ex : zX} (h : sX8_faultPosition [.ref 495] F ok ex) : sX8_faultPosition [.ref 495] F ok zX0 := h
theorem e_tick {F : zF} {ok : zO} {ex : zX} (h : sX8_tick [.ref 495] F ok ex) : sX8_tick [.ref 495] F ok zX0 := h
theorem e_save {F : zF} {ok : zO} {ex : zX} (h : sX8_save [.ref 495] F ok ex) : sX8_save [.ref 495] F ok zX0 := h
end ZFh
