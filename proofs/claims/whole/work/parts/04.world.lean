/-! THE WORLDS: an object of the system is a NAME (a number); where it lies is a function ad; what its places hold is a function F; which of them are references, and whereto, a table of shapes says, for good -/
section ZA
abbrev zF : Type := Nat → Nat → Int32
/-- kind (0 an object, 1 int[], 2 boolean[], 3 Canal[], 4 long[], else double[]), class or length, the places: a name, or a number -/
abbrev zS : Type := Nat × Nat × List (Option Nat)
abbrev zU : Type := Nat × (Nat → zS)
abbrev zL : Type := List (Option Value)
abbrev zO : Type := Option Value → zF → Prop
abbrev zX : Type := String → zF → Prop
abbrev zSp : Type := List Value → zF → zO → zX → Prop
abbrev zT : Type := ClassId × ClassId × ClassId × ClassId × ClassId
def zup (F : zF) (j i : Nat) (v : Int32) : zF := fun a b => if a = j then (if b = i then v else F a b) else F a b
def zv (ad : Nat → Nat) : Value → Value
  | .int v => .int v
  | .long v => .long v
  | .float v => .float v
  | .double v => .double v
  | .null => .null
  | .ref k => .ref (ad k)
  | .retAddr k => .retAddr k
def znth {α : Type} : List α → Nat → Option α
  | [], _ => none
  | a :: _, 0 => some a
  | _ :: l, n + 1 => znth l n
def zFv (ad : Nat → Nat) (f : Nat → Int32) (i : Nat) : Option Nat → Value
  | none => .int (f i)
  | some t => .ref (ad t)
def zFs (ad : Nat → Nat) (f : Nat → Int32) : Nat → List (Option Nat) → List Value
  | _, [] => []
  | i, o :: r => zFv ad f i o :: zFs ad f (i + 1) r
def zE (cA : zT) (ad : Nat → Nat) (q : zS) (f : Nat → Int32) : va_E := match q.1 with
  | 0 => .inr (q.2.1, zFs ad f 0 q.2.2)
  | 1 => .inl (cA.1, q.2.1, .inl f)
  | 2 => .inl (cA.2.1, q.2.1, .inl f)
  | 3 => .inl (cA.2.2.1, q.2.1, .inr (.inr (.inr (.inr (fun j => ((znth q.2.2 j).getD none).map ad)))))
  | 4 => .inl (cA.2.2.2.1, q.2.1, .inr (.inl (fun j => (f j).toInt64)))
  | _ => .inl (cA.2.2.2.2, q.2.1, .inr (.inr (.inr (.inl (fun _ => FP.ddiv (FP.i2d (f 0)) (FP.i2d (f 1)))))))
def zWs (cA : zT) (U : zU) (ad : Nat → Nat) (F : zF) : va_W := (List.range U.1).map fun k => (ad k, zE cA ad (U.2 k) (F k))
def zinj (U : zU) (ad : Nat → Nat) : Prop := ∀ i j, i < U.1 → j < U.1 → ad i = ad j → i = j
def zA (U : zU) (ad : Nat → Nat) (sz : Nat) : Nat → Prop := fun q => (∃ k, k < U.1 ∧ q = ad k) ∨ sz ≤ q
theorem znth_eq {α : Type} (l : List α) (n : Nat) : znth l n = l[n]? := by
  induction l generalizing n with
  | nil => cases n <;> rfl
  | cons a l ih => cases n with
    | zero => rfl
    | succ n => exact (ih n).trans (by simp)
theorem zFs_len (ad : Nat → Nat) (f : Nat → Int32) (l : List (Option Nat)) : ∀ b, (zFs ad f b l).length = l.length := by
  induction l with
  | nil => intro b; rfl
  | cons o r ih => intro b; exact congrArg (· + 1) (ih (b + 1))
theorem zFs_at (ad : Nat → Nat) (f : Nat → Int32) (l : List (Option Nat)) : ∀ (b k : Nat), (zFs ad f b l)[k]? = (znth l k).map (zFv ad f (b + k)) := by
  induction l with
  | nil => intro b k; cases k <;> rfl
  | cons o r ih =>
    intro b k
    cases k with
    | zero => rfl
    | succ k =>
      have h := ih (b + 1) k
      rw [show b + 1 + k = b + (k + 1) by omega] at h
      exact h
theorem zFs_set (ad : Nat → Nat) (f : Nat → Int32) (v : Int32) (l : List (Option Nat)) {k : Nat} (hk : znth l k = some none) : (zFs ad f 0 l).set k (.int v) = zFs ad (upd f k v) 0 l := by
  apply List.ext_getElem?
  intro i
  have hlen : k < (zFs ad f 0 l).length := by
    rw [zFs_len]
    rw [znth_eq] at hk
    exact (List.getElem?_eq_some_iff.mp hk).1
  by_cases h : k = i
  · subst h
    rw [List.getElem?_set_self hlen, zFs_at, hk]
    simp [zFv, upd]
  · rw [List.getElem?_set_ne h, zFs_at, zFs_at]
    cases znth l i with
    | none => rfl
    | some o => cases o with
      | none => simp [zFv, upd, Ne.symm h]
      | some t => rfl
theorem zWs_at (cA : zT) (U : zU) (ad : Nat → Nat) (F : zF) {k : Nat} (h : k < U.1) : (zWs cA U ad F)[k]? = some (ad k, zE cA ad (U.2 k) (F k)) := by
  simp [zWs, List.getElem?_range, h]
theorem zWs_len (cA : zT) (U : zU) (ad : Nat → Nat) (F : zF) : (zWs cA U ad F).length = U.1 := by simp [zWs]
theorem zWs_in {cA : zT} {U : zU} {ad : Nat → Nat} {F : zF} {k : Nat} {q : Nat × va_E} (h : (zWs cA U ad F)[k]? = some q) : k < U.1 ∧ q = (ad k, zE cA ad (U.2 k) (F k)) := by
  have hk : k < U.1 := by
    have := (List.getElem?_eq_some_iff.mp h).1
    rwa [zWs_len] at this
  rw [zWs_at cA U ad F hk] at h
  exact ⟨hk, (Option.some.inj h).symm⟩
theorem zWs_set (cA : zT) (U : zU) (ad : Nat → Nat) (F F' : zF) {j : Nat} (hj : j < U.1) {e : va_E} (he : e = zE cA ad (U.2 j) (F' j)) (hF : ∀ k, k ≠ j → F' k = F k) : (zWs cA U ad F).set j (ad j, e) = zWs cA U ad F' := by
  apply List.ext_getElem?
  intro i
  by_cases h : j = i
  · subst h
    rw [List.getElem?_set_self (by rw [zWs_len]; exact hj), zWs_at _ _ _ _ hj, he]
  · rw [List.getElem?_set_ne h]
    by_cases hi : i < U.1
    · rw [zWs_at _ _ _ _ hi, zWs_at _ _ _ _ hi, hF i (Ne.symm h)]
    · rw [List.getElem?_eq_none (by rw [zWs_len]; omega), List.getElem?_eq_none (by rw [zWs_len]; omega)]
theorem zup_self (F : zF) (j i : Nat) (v : Int32) : zup F j i v j = upd (F j) i v := by
  funext b
  simp [zup, upd]
theorem zup_ne (F : zF) {j k : Nat} (i : Nat) (v : Int32) (h : k ≠ j) : zup F j i v k = F k := by
  funext b
  simp [zup, h]
theorem zWs_D {cA : zT} {U : zU} {ad : Nat → Nat} {F : zF} {A : Nat → Prop} (hi : zinj U ad) (hA : ∀ k, k < U.1 → A (ad k)) : va_D A (zWs cA U ad F) := by
  refine ⟨fun i j p q hp hq hpq => ?_, fun k q hq => ?_⟩
  · obtain ⟨h1, rfl⟩ := zWs_in hp
    obtain ⟨h2, rfl⟩ := zWs_in hq
    exact hi i j h1 h2 hpq
  · obtain ⟨h1, rfl⟩ := zWs_in hq
    exact hA k h1
theorem zWs_A {cA : zT} {U : zU} {ad : Nat → Nat} {F : zF} {sz q : Nat} : va_A (zWs cA U ad F) sz q ↔ zA U ad sz q := by
  constructor
  · rintro (⟨k, e, h⟩ | h)
    · obtain ⟨h1, h2⟩ := zWs_in h
      exact Or.inl ⟨k, h1, congrArg Prod.fst h2⟩
    · exact Or.inr h
  · rintro (⟨k, h, rfl⟩ | h)
    · exact Or.inl ⟨k, _, zWs_at cA U ad F h⟩
    · exact Or.inr h
/-! the classes, the words -/
def zcl : List vw_C := [(RX0, TX0, 7), (RX1, TX1, 11), (RX2, TX2, 3), (RX3, TX3, 10), (RX4, TX4, 4), (RX5, TX5, 10), (RX6, TX6, 4), (RX7, TX7, 1), (RX8, TX8, 8), (RX9, TX9, 19)]
def zisN : Cond → Bool
  | .fieldLinkNest .. => true
  | .methodLinkNest .. => true
  | .castable .. => true
  | .declares .. => true
  | _ => false
def zts : List Cond := lw_tbl.filter goodWord
def znw : List Cond := lw_tbl.filter zisN
def zstr : List (String × Nat × String) := [("LockMaster", 309, "an argument or the text is not allowed"), ("LockMaster", 314, "the state does not allow this call"), ("LockMaster", 304, "there is no such number"), ("LockMaster", 324, "refused; refusal() tells the reason"), ("LockMaster", 319, "there is no such element"), ("LockMaster", 290, "there was no locking")]
def ztys (cA : zT) : List (ClassId × FieldType) := [(cA.1, .int), (cA.2.1, .boolean), (cA.2.2.1, .object RX1), (cA.2.2.2.1, .long), (cA.2.2.2.2, .double)]
def zK (D : va_G) (cA : zT) (S : State) : Prop := va_K D zcl (ztys cA) S ∧ (∀ w ∈ znw, va_Nw w S) ∧ (∀ q ∈ zstr, ∃ a, vk_R q.1 q.2.1 q.2.2 a S)
theorem zK.warm {D : va_G} {cA : zT} {s U : State} (hW : s.WarmedH U.vm) (h : zK D cA s) : zK D cA U := by
  refine ⟨va_K.moved hW.alike h.1, fun w hw => ?_, fun q hq => ?_⟩
  · have h1 := h.2.1 w hw
    have h2 : zisN w = true := (List.mem_filter.mp hw).2
    cases w <;> first | exact va_Nw.warmF hW h1 | exact va_Nw.warmM hW h1 | exact va_Nw.warmC hW h1 | exact va_Nw.warmD hW h1 | cases h2
  · obtain ⟨a, ha⟩ := h.2.2 q hq
    exact ⟨a, vk_R.warm hW ha⟩
theorem zK.same {D : va_G} {cA : zT} {u U : State} (hv : u.vm = U.vm) (h : zK D cA u) : zK D cA U := by
  refine ⟨va_K.moved (by rw [hv]; exact Vm.Alike.refl _) h.1, fun w hw => ?_, fun q hq => ?_⟩
  · have h1 := h.2.1 w hw
    have h2 : zisN w = true := (List.mem_filter.mp hw).2
    cases w <;> first | exact va_Nw.same rfl hv h1 | cases h2
  · obtain ⟨a, ha⟩ := h.2.2 q hq
    exact ⟨a, vk_R.same hv.symm ha⟩
def zZ (A : Nat → Prop) (S : State) (H : Heap) : Prop := vx_Zq Bundle.tN "UNASSIGNED_STACK" Bundle.steD A S H ∧ vx_Zq Bundle.tN "SUPPRESSED_SENTINEL" Bundle.listD A S H
theorem zZ.moved {A : Nat → Prop} {u U : State} {H : Heap} (hvm : u.vm.Alike U.vm) (h : zZ A u H) : zZ A U H := ⟨h.1.moved hvm, h.2.moved hvm⟩
theorem zZ.kept {A : Nat → Prop} {U : State} {H H1 : Heap} (h : zZ A U H) (hq : ∀ a : Nat, a < H.size → ¬ A a → H1[a]? = H[a]?) : zZ A U H1 := ⟨h.1.kept hq, h.2.kept hq⟩
theorem zZ.narrow {A B : Nat → Prop} {U : State} {H : Heap} (h : zZ A U H) (hAB : ∀ q, B q → A q) : zZ B U H := ⟨h.1.narrow hAB, h.2.narrow hAB⟩
def zsm : Value → Bool
  | .int _ => true
  | .ref _ => true
  | .null => true
  | _ => false
def zB (D : va_G) (cA : zT) (U : zU) (ad : Nat → Nat) (F : zF) (sz : Nat) : State → Prop := fun S => S.heap.size = sz ∧ va_P D zcl (zWs cA U ad F) S.heap ∧ zK D cA S ∧ zZ (zA U ad sz) S S.heap
def zQ (D : va_G) (cA : zT) (U : zU) (ad : Nat → Nat) (ok : zO) (A : Nat → Prop) : Array Value → State → Outcome → State → Prop := fun _ st o t => (∃ (r : Option Value) (F : zF), o = .returned (r.map (zv ad)) ∧ ok r F ∧ va_P D zcl (zWs cA U ad F) t.heap) ∧ va_F A st t
def zQx (D : va_G) (cA : zT) (U : zU) (ad : Nat → Nat) (ex : zX) (A : Nat → Prop) : String → State → State → Prop := fun E st t => (∃ F : zF, ex E F ∧ va_P D zcl (zWs cA U ad F) t.heap) ∧ va_F A st t
/-- THE CONTRACT of a method in a world of shape U: what sp says of its arguments and of the places' numbers -/
def zMet (U : zU) (y : MethodName) (cc : ByteArray) (nL : Nat) (ret : Option FieldType) (rm : Room) (sp : zSp) : Prop :=
  ∀ (l : Launch), l.flags = flags0 → ∀ (D : va_G) (cA : zT) (ad : Nat → Nat) (F : zF) (sz : Nat) (av : List Value) (ok : zO) (ex : zX), sp av F ok ex → zinj U ad → av.all zsm = true → av.length ≤ nL →
    vx_Met l y (Cond.code y cc nL ret :: zts) rm (va_Pc (av.map (zv ad)) (zB D cA U ad F sz)) (zQ D cA U ad ok (zA U ad sz)) (zQx D cA U ad ex (zA U ad sz)) rm.cells rm.slots (zA U ad sz)
theorem zB.blind {D : va_G} {cA : zT} {U : zU} {ad : Nat → Nat} {F : zF} {sz : Nat} {av : List Value} : FrameBlind (va_Pc av (zB D cA U ad F sz)) := by
  intro a S g mk h
  obtain ⟨h1, h2, h3, h4, h5⟩ := h
  exact ⟨h1, h2, h3, zK.same (u := S) rfl h4, h5.moved (U := S.calling g mk a) (Vm.Alike.refl S.vm)⟩
end ZA
