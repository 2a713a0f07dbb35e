/-! CONSTRUCTORS: what a constructor says; a row of numbers -/
section ZGa
set_option maxRecDepth 20000
def zAn (h0 sz : Nat) : Nat → Prop := fun q => q = h0 ∨ sz ≤ q
/-- behind the constructor the object h0 is the root of a world of shape U with the contents F0, all else in it is new -/
def zNew (U : zU) (y : MethodName) (cc : ByteArray) (nL : Nat) (rm : Room) (ci : Nat) (fs0 av : List Value) (F0 : zF) : Prop :=
  ∀ (l : Launch), l.flags = flags0 → ∀ (D : va_G) (cA : zT) (h0 sz : Nat), h0 < sz →
    Met l y (Cond.code y cc nL none :: zts) rm (va_Pc (.ref h0 :: av) (fun S => S.heap.size = sz ∧ va_P D zcl [(h0, .inr (ci, fs0))] S.heap ∧ zK D cA S ∧ va_AO RX1 S))
      (va_Qv (fun ad : Nat → Nat => ad 0 = h0 ∧ zinj U ad ∧ ∀ k, k < U.1 → k ≠ 0 → sz ≤ ad k) (fun ad t => va_P D zcl (zWs cA U ad F0) t.heap) (zAn h0 sz)) rm.cells rm.slots (zAn h0 sz)
theorem va_P_app {D : va_G} {ws ws' : va_W} {H : Heap} (h : va_P D zcl ws H) (h' : va_P D zcl ws' H) : va_P D zcl (ws ++ ws') H := by
  intro k q hq
  by_cases hk : k < ws.length
  · rw [List.getElem?_append_left hk] at hq
    exact h k q hq
  · rw [List.getElem?_append_right (by omega)] at hq
    exact h' _ q hq
theorem zRA_eq {s : State} {a b : ClassId} {ty : FieldType} (hty : ∀ C, ty ≠ .object C) (h1 : va_RA s a ty) (h2 : va_RA s b ty) : a = b := by
  cases ty with
  | object C => exact absurd rfl (hty C)
  | _ => exact Option.some.inj (h1.symm.trans h2)
def rX7_init (n : Nat) : Room := { frames := 1, cells := 1, slots := n, locals := 12 }
set_option maxHeartbeats 4000000 in
theorem nX7 (n : Nat) (hn : n ≤ 1000) : zNew (uR n) yX7_init cX7_init 2 (rX7_init n) 7 [.null] [.int (nI n)] (fun _ _ => 0) := by
  intro l hfl D cA h0 sz hlt
  refine Met.ofW (cc := cX7_init) (maxL := 2) (ret := none) (by decide +kernel) rfl ?_
  intro p e s m args below meth c s₁ B hml hv
  obtain ⟨rfl, hsz, hP, hK0, -⟩ := hv
  have hx := B.exec
  have hb := B.bytes
  have hr := B.returns
  have hts : ∀ w ∈ zts, w.before _ s = true := fun w hw => atoms_spec (ws := Cond.code yX7_init cX7_init 2 none :: zts) B.pre w (List.mem_cons_of_mem _ hw)
  have hown : s.vm.findClass RX7 = some m.cls := findClass_of_methodNamed B.named
  have hlocks := B.notSynchronized
  have hin : meth.name = "<init>" := (name_of_methodNamed B.named B.method).1
  subst hsz
  have hK := hK0.1
  have hA : ∀ q : Nat, s.heap.size ≤ q → zAn h0 s.heap.size q := fun q h => Or.inr h
  have hD : va_D (zAn h0 s.heap.size) [(h0, .inr (7, [.null]))] := by
    refine ⟨fun i j p q hp hq _ => ?_, fun k q hq => ?_⟩
    · have h1 : i = 0 := by have := (List.getElem?_eq_some_iff.mp hp).1; simp at this; exact this
      have h2 : j = 0 := by have := (List.getElem?_eq_some_iff.mp hq).1; simp at this; exact this
      rw [h1, h2]
    · have h1 : k = 0 := by have := (List.getElem?_eq_some_iff.mp hq).1; simp at this; exact this
      subst h1
      cases hq
      exact Or.inl rfl
  have hS : va_S (zAn h0 s.heap.size) s.heap s.heap [] := va_S.rf
  have hl := lv_entry ([.ref h0, .int (nI n)]) (n := 2) (Nat.le_of_ble_eq_true rfl)
  rw [lg_entry_eq]
  generalize (lg_sl ([.ref h0, .int (nI n)]) ++ List.replicate (2 - (lg_sl ([.ref h0, .int (nI n)])).length) Slot.unset).toArray = ls at hl ⊢
  have hl : lv_has ls 2 [(0, .ref h0), (1, .int (nI n))] := hl
  have hnn : ¬ nI n < 0 := show ¬ nI n < nI 0 from nI_nlt (Nat.zero_le n) (by omega)
  refine lv_aload_n (k := 0) hx hb (by decide +kernel) rfl (lv_at hl 0 rfl) ?_
  refine W.objInit (idx := 1) hx hb hown (hts (.methodLink RX7 1 objectInit) (zmem_of (by decide +kernel))) (hts (.instanceMethod objectInit) (zmem_of (by decide +kernel))) (hts (.code objectInit ⟨#[0xb1]⟩ 1 none) (zmem_of (by decide +kernel))) rfl (by rw [hml]; exact hl.1) rfl (show decode cX7_init 1 = .ok (.invokespecial 1, 3) by decide +kernel) (Nat.le_of_ble_eq_true rfl) (Nat.le_of_ble_eq_true rfl) ?_
  refine W.eq (g2 := F0 m 4 ls []) rfl ?_
  refine lv_aload_n (k := 0) hx hb (by decide +kernel) rfl (lv_at hl 0 rfl) ?_
  refine lv_iload_n (k := 1) hx hb (by decide +kernel) rfl (lv_at hl 1 rfl) ?_
  refine lv_if_ge (off := 7) (tgt := 13) hx hb (by decide +kernel) (by decide) (fun _ => ?_) (fun h9 => absurd (Int32.not_lt.mp hnn) h9)
  refine lv_iload_n (k := 1) hx hb (by decide +kernel) rfl (lv_at hl 1 rfl) ?_
  refine va_newa (a0 := (n, .inl (fun _ => 0))) (ty := .int) (atype := .int) hx hb (hts (.arrayClass .int) (zmem_of (by decide +kernel))) rfl hK hP hD hS hA (fun cI => rfl) hnn (nI_clamp (by omega)) (by show n * 4 ≤ 536870912; omega) (Nat.le_refl 1) (by show 0 + n ≤ n; omega) (by decide +kernel) (fun q cI H1 hK1 hP1 hD1 hS1 => ?_)
  have hcI : cI = cA.1 := zRA_eq (ty := .int) (fun C h => by cases h) (hK1.2 5 (cI, .int) rfl).2 (hK.2 0 (cA.1, .int) rfl).2
  subst hcI
  refine va_putF (ci := 7) (v := .ref q) (ty := .array .int) (C := RX7) (T := TX7) (N := 1) (ref := "LockMaster$Row") hx hb hts (zcl_ok _ (List.mem_of_getElem? (i := 7) rfl)).1 tyX7 tyX7_ok nmX7 hown hK1 hP1 hD1 hS1 0 rfl rfl 0 (by decide) (hts (.fieldLink RX7 7 "LockMaster$Row" "numbers" "[I") (zmem_of (by decide +kernel))) (fun _ h9 => h9) rfl hin rfl (by decide +kernel) rfl rfl (Nat.le_of_ble_eq_true rfl) (by decide +kernel) (fun H2 locs2 hP2 hD2 hS2 => ?_)
  have hq : s.heap.size ≤ q := by
    rcases hD1.2 1 _ rfl with h | h
    · have := hD1.1 0 1 _ _ rfl rfl h.symm
      cases this
    · exact h
  refine W.widen (k := 1) (n := n) (Nat.le_refl 1) (by show 0 + n ≤ n; omega) ?_
  refine W.vret hx hb hr (fun t ht hW => ⟨⟨fun k => if k = 0 then h0 else q, rfl, ⟨rfl, ?_, ?_⟩, ?_⟩, hS2.F ht⟩) hS2.2.2 (by decide +kernel)
  · intro i j hi hj hij
    have hi : i < 2 := hi
    have hj : j < 2 := hj
    rcases (show i = 0 ∨ i = 1 by omega) with rfl | rfl <;> rcases (show j = 0 ∨ j = 1 by omega) with rfl | rfl
    · rfl
    · have : h0 = q := hij
      omega
    · have : q = h0 := hij
      omega
    · rfl
  · intro k hk h
    show s.heap.size ≤ if k = 0 then h0 else q
    rw [if_neg h]
    exact hq
  · show va_P D zcl _ t.heap
    rw [ht]
    exact hP2
end ZGa
