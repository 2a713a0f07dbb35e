/-! one instruction, then all -/
section ZSb
theorem ztgt {tg : List Nat} {pc : Nat} {off : Int} {t : Nat} {r : List Nat} (ht : tg = t :: r) (h : decide (∃ t ∈ tg.head?, (pc : Int) + off = (t : Int)) = true) : (pc : Int) + off = (t : Int) := by
  obtain ⟨t', h1, h2⟩ := of_decide_eq_true h
  subst ht
  simp at h1
  subst h1
  exact h2
theorem zfl_int : ∀ ty : FieldType, parseFieldDescriptor "I" = some ty → ty = .int := by
  intro ty h
  have h1 : parseFieldDescriptor "I" = some .int := by decide +kernel
  exact Option.some.inj (h.symm.trans h1)
theorem znar01 {x : Int32} (h : x = 0 ∨ x = 1) : narrow .boolean (.int x) = .int x := by rcases h with rfl | rfl <;> rfl
theorem zfit01 {x : Int32} (h : x = 0 ∨ x = 1) : fits .boolean (.int x) = true := by rcases h with rfl | rfl <;> decide
theorem zck_ok {cc : ByteArray} {pc len : Nat} {i : Instr} {tg : List Nat} {v : Int32} (h : zck cc (pc, len, i, tg, v) = true) : decode cc pc = .ok (i, len) ∧ zck1 pc len i tg v = true := by
  unfold zck at h
  split at h
  · rename_i i' len' hd
    simp only [Bool.and_eq_true, beq_iff_eq] at h
    obtain ⟨h1, rfl, h3⟩ := h
    have h1 := of_decide_eq_true h1
    subst h1
    exact ⟨hd, h3⟩
  · cases h
theorem zcall_ok {Y : zM} {ok : zO} {ex : zX} {k : Nat → zJ} (hY : zYok Y) (hk : ∀ t ls st kc ks F, k t ls st kc ks F → zWP Y ok ex t ls st kc ks F) {b : Bool} {pc ix : Nat} (hd : decode (zMc Y) pc = .ok (zinv b ix, 3))
    {ls : zL} {st : List Value} {kc ks : Nat} {F : zF} (h : zcall Y ex k b pc ix ls st kc ks F) : zWP Y ok ex pc ls st kc ks F := by
  unfold zcall at h
  split at h
  · rename_i n mc ms sp hm
    obtain ⟨as, r, h1, h2, h3⟩ := zpop_ok h
    rw [List.append_nil] at h3
    split at h3
    · rename_i hb
      simp only [Bool.and_eq_true, Nat.ble_eq] at hb
      subst h2
      refine hY.2 b ix n mc ms sp hm pc hd ok ex ls as r kc ks F _ h1 hb.1 hb.2.1 hb.2.2.1 hb.2.2.2 h3 (fun q F' hq => ?_)
      cases q with
      | none => exact hk _ _ _ _ _ _ hq
      | some v => exact hk _ _ _ _ _ _ hq
    · exact h3.elim
  · exact h.elim
set_option maxHeartbeats 4000000 in
theorem zstep_ok {Y : zM} {ok : zO} {ex : zX} {inv : Nat → Option zJ} {k : Nat → zJ} (hY : zYok Y) (hk : ∀ t ls st kc ks F, k t ls st kc ks F → zWP Y ok ex t ls st kc ks F)
    (hi : ∀ t I, inv t = some I → ∀ ls st kc ks F, I ls st kc ks F → zWP Y ok ex t ls st kc ks F) {pc len : Nat} {i : Instr} {tg : List Nat} {v : Int32} (hd : decode (zMc Y) pc = .ok (i, len)) (hc : zck1 pc len i tg v = true)
    {ls : zL} {st : List Value} {kc ks : Nat} {F : zF} (h : zstep Y ok ex inv k pc len i tg v ls st kc ks F) : zWP Y ok ex pc ls st kc ks F := by
  have hj : ∀ t ls st kc ks F, zjmp inv k pc t ls st kc ks F → zWP Y ok ex t ls st kc ks F := by
    intro t ls st kc ks F h
    unfold zjmp at h
    split at h
    · exact hk _ _ _ _ _ _ h
    · split at h
      · rename_i I hI
        exact hi _ _ hI _ _ _ _ _ h
      · exact h.elim
  intro p l e s m args below meth c D cA ad hC H locs lsl hP hS hl hln hkc hks
  obtain ⟨hx, hb, hr, hml, hown, hts, hlocks, hout, hK, hZ, hinj, hfl⟩ := id hC
  have hA : ∀ q, s.heap.size ≤ q → zA (zMu Y) ad s.heap.size q := fun q h => Or.inr h
  have hD : ∀ F', va_D (zA (zMu Y) ad s.heap.size) (zWs cA (zMu Y) ad F') := fun F' => zWs_D hinj fun k hk => Or.inl ⟨k, hk, rfl⟩
  cases i
  case iconst n =>
    simp only [zck1, Bool.and_eq_true, beq_iff_eq] at hc
    obtain ⟨rfl, rfl⟩ := hc
    exact lv_iconst hx hb hd rfl (hk _ _ _ _ _ _ h p l e s m args below meth c D cA ad hC H locs lsl hP hS hl hln hkc hks)
  case bipush n =>
    simp only [zck1, Bool.and_eq_true, beq_iff_eq] at hc
    obtain ⟨rfl, rfl⟩ := hc
    exact lv_bipush hx hb hd rfl (hk _ _ _ _ _ _ h p l e s m args below meth c D cA ad hC H locs lsl hP hS hl hln hkc hks)
  case sipush n =>
    simp only [zck1, Bool.and_eq_true, beq_iff_eq] at hc
    obtain ⟨rfl, rfl⟩ := hc
    exact lv_sipush hx hb hd rfl (hk _ _ _ _ _ _ h p l e s m args below meth c D cA ad hC H locs lsl hP hS hl hln hkc hks)
  case iload n =>
    simp only [zck1, beq_iff_eq] at hc
    subst hc
    obtain ⟨w, h1, h2⟩ := zget_ok h
    split at h2
    · exact lv_iload hx hb hd (zll_load hl h1 rfl) (hk _ _ _ _ _ _ h2 p l e s m args below meth c D cA ad hC H locs lsl hP hS hl hln hkc hks)
    · exact h2.elim
  case iload_n n =>
    simp only [zck1, beq_iff_eq] at hc
    subst hc
    obtain ⟨w, h1, h2⟩ := zget_ok h
    split at h2
    · exact lv_iload_n hx hb hd rfl (zll_load hl h1 rfl) (hk _ _ _ _ _ _ h2 p l e s m args below meth c D cA ad hC H locs lsl hP hS hl hln hkc hks)
    · exact h2.elim
  case aload n =>
    simp only [zck1, beq_iff_eq] at hc
    subst hc
    obtain ⟨w, h1, h2⟩ := zget_ok h
    split at h2
    · exact lv_aload hx hb hd (zll_load hl h1 rfl) (hk _ _ _ _ _ _ h2 p l e s m args below meth c D cA ad hC H locs lsl hP hS hl hln hkc hks)
    · exact h2.elim
  case aload_n n =>
    simp only [zck1, beq_iff_eq] at hc
    subst hc
    obtain ⟨w, h1, h2⟩ := zget_ok h
    split at h2
    · exact lv_aload_n hx hb hd rfl (zll_load hl h1 rfl) (hk _ _ _ _ _ _ h2 p l e s m args below meth c D cA ad hC H locs lsl hP hS hl hln hkc hks)
    · exact h2.elim
  case istore n =>
    simp only [zck1, beq_iff_eq] at hc
    subst hc
    simp only [zstep] at h
    split at h
    · obtain ⟨h1, h2⟩ := zset_ok h
      exact lv_istore hx hb hd hl (by omega) rfl (fun lsl' hl' => hk _ _ _ _ _ _ h2 p l e s m args below meth c D cA ad hC H locs lsl' hP hS (zll_store h1 hl') (by simpa using hln) hkc hks)
    · exact h.elim
  case istore_n n =>
    simp only [zck1, beq_iff_eq] at hc
    subst hc
    simp only [zstep] at h
    split at h
    · obtain ⟨h1, h2⟩ := zset_ok h
      exact lv_istore_n hx hb hd rfl hl (by omega) rfl (fun lsl' hl' => hk _ _ _ _ _ _ h2 p l e s m args below meth c D cA ad hC H locs lsl' hP hS (zll_store h1 hl') (by simpa using hln) hkc hks)
    · exact h.elim
  case astore n =>
    simp only [zck1, beq_iff_eq] at hc
    subst hc
    simp only [zstep] at h
    split at h
    · obtain ⟨h1, h2⟩ := zset_ok h
      exact lv_astore hx hb hd hl (by omega) rfl (fun lsl' hl' => hk _ _ _ _ _ _ h2 p l e s m args below meth c D cA ad hC H locs lsl' hP hS (zll_store h1 hl') (by simpa using hln) hkc hks)
    · exact h.elim
  case astore_n n =>
    simp only [zck1, beq_iff_eq] at hc
    subst hc
    simp only [zstep] at h
    split at h
    · obtain ⟨h1, h2⟩ := zset_ok h
      exact lv_astore_n hx hb hd rfl hl (by omega) rfl (fun lsl' hl' => hk _ _ _ _ _ _ h2 p l e s m args below meth c D cA ad hC H locs lsl' hP hS (zll_store h1 hl') (by simpa using hln) hkc hks)
    · exact h.elim
  case iinc n w =>
    simp only [zck1, Bool.and_eq_true, beq_iff_eq] at hc
    obtain ⟨rfl, rfl⟩ := hc
    obtain ⟨x, h1, h2⟩ := zget_ok h
    split at h2
    · rename_i z
      obtain ⟨h3, h4⟩ := zset_ok h2
      obtain ⟨j, hj⟩ := List.getElem?_of_mem ((zll_mem (ad := ad) ls 0 _).mpr ⟨n, .int z, h1, rfl, rfl⟩)
      rw [Nat.zero_add] at hj
      exact lv_iinc hx hb hd hl hj rfl (by omega) rfl (fun lsl' hl' => hk _ _ _ _ _ _ h4 p l e s m args below meth c D cA ad hC H locs lsl' hP hS (zll_store h3 hl') (by simpa using hln) hkc hks)
    · exact h2.elim
  case iadd =>
    simp only [zck1, beq_iff_eq] at hc
    subst hc
    simp only [zstep] at h
    split at h
    · exact lv_iadd hx hb hd (hk _ _ _ _ _ _ h p l e s m args below meth c D cA ad hC H locs lsl hP hS hl hln hkc hks)
    · exact h.elim
  case isub =>
    simp only [zck1, beq_iff_eq] at hc
    subst hc
    simp only [zstep] at h
    split at h
    · exact lv_isub hx hb hd (hk _ _ _ _ _ _ h p l e s m args below meth c D cA ad hC H locs lsl hP hS hl hln hkc hks)
    · exact h.elim
  case imul =>
    simp only [zck1, beq_iff_eq] at hc
    subst hc
    simp only [zstep] at h
    split at h
    · exact lv_imul hx hb hd (hk _ _ _ _ _ _ h p l e s m args below meth c D cA ad hC H locs lsl hP hS hl hln hkc hks)
    · exact h.elim
  case idiv =>
    simp only [zck1, beq_iff_eq] at hc
    subst hc
    simp only [zstep] at h
    split at h
    · obtain ⟨h1, h2⟩ := h
      exact lv_idiv hx hb hd h1 (hk _ _ _ _ _ _ h2 p l e s m args below meth c D cA ad hC H locs lsl hP hS hl hln hkc hks)
    · exact h.elim
  case ineg =>
    simp only [zck1, beq_iff_eq] at hc
    subst hc
    simp only [zstep] at h
    split at h
    · exact lv_ineg hx hb hd (hk _ _ _ _ _ _ h p l e s m args below meth c D cA ad hC H locs lsl hP hS hl hln hkc hks)
    · exact h.elim
  case iand =>
    simp only [zck1, beq_iff_eq] at hc
    subst hc
    simp only [zstep] at h
    split at h
    · exact lv_iand hx hb hd (hk _ _ _ _ _ _ h p l e s m args below meth c D cA ad hC H locs lsl hP hS hl hln hkc hks)
    · exact h.elim
  case ior =>
    simp only [zck1, beq_iff_eq] at hc
    subst hc
    simp only [zstep] at h
    split at h
    · exact lv_ior hx hb hd (hk _ _ _ _ _ _ h p l e s m args below meth c D cA ad hC H locs lsl hP hS hl hln hkc hks)
    · exact h.elim
  case ixor =>
    simp only [zck1, beq_iff_eq] at hc
    subst hc
    simp only [zstep] at h
    split at h
    · exact lv_ixor hx hb hd (hk _ _ _ _ _ _ h p l e s m args below meth c D cA ad hC H locs lsl hP hS hl hln hkc hks)
    · exact h.elim
  case ishl =>
    simp only [zck1, beq_iff_eq] at hc
    subst hc
    simp only [zstep] at h
    split at h
    · exact lv_ishl hx hb hd (hk _ _ _ _ _ _ h p l e s m args below meth c D cA ad hC H locs lsl hP hS hl hln hkc hks)
    · exact h.elim
  case ishr =>
    simp only [zck1, beq_iff_eq] at hc
    subst hc
    simp only [zstep] at h
    split at h
    · exact lv_ishr hx hb hd (hk _ _ _ _ _ _ h p l e s m args below meth c D cA ad hC H locs lsl hP hS hl hln hkc hks)
    · exact h.elim
  case iushr =>
    simp only [zck1, beq_iff_eq] at hc
    subst hc
    simp only [zstep] at h
    split at h
    · exact lv_iushr hx hb hd rfl (hk _ _ _ _ _ _ h p l e s m args below meth c D cA ad hC H locs lsl hP hS hl hln hkc hks)
    · exact h.elim
  case dup =>
    simp only [zck1, beq_iff_eq] at hc
    subst hc
    simp only [zstep] at h
    split at h
    · exact lv_dup hx hb hd rfl (hk _ _ _ _ _ _ h p l e s m args below meth c D cA ad hC H locs lsl hP hS hl hln hkc hks)
    · exact lv_dup hx hb hd rfl (hk _ _ _ _ _ _ h p l e s m args below meth c D cA ad hC H locs lsl hP hS hl hln hkc hks)
    · exact h.elim
  case dup_x1 =>
    simp only [zck1, beq_iff_eq] at hc
    subst hc
    simp only [zstep] at h
    split at h
    · exact lv_dup_x1 hx hb hd rfl rfl (hk _ _ _ _ _ _ h p l e s m args below meth c D cA ad hC H locs lsl hP hS hl hln hkc hks)
    · exact h.elim
  case dup_x2 =>
    simp only [zck1, beq_iff_eq] at hc
    subst hc
    simp only [zstep] at h
    split at h
    · exact lv_dup_x2 hx hb hd rfl rfl rfl (hk _ _ _ _ _ _ h p l e s m args below meth c D cA ad hC H locs lsl hP hS hl hln hkc hks)
    · exact h.elim
  case dup2 =>
    simp only [zck1, beq_iff_eq] at hc
    subst hc
    simp only [zstep] at h
    split at h
    · exact lv_dup2_11 hx hb hd rfl rfl (hk _ _ _ _ _ _ h p l e s m args below meth c D cA ad hC H locs lsl hP hS hl hln hkc hks)
    · exact h.elim
  case pop =>
    simp only [zck1, beq_iff_eq] at hc
    subst hc
    simp only [zstep] at h
    split at h
    · exact lv_pop hx hb hd rfl (hk _ _ _ _ _ _ h p l e s m args below meth c D cA ad hC H locs lsl hP hS hl hln hkc hks)
    · exact lv_pop hx hb hd rfl (hk _ _ _ _ _ _ h p l e s m args below meth c D cA ad hC H locs lsl hP hS hl hln hkc hks)
    · exact h.elim
  case ifCond cd off =>
    simp only [zck1, Bool.and_eq_true, beq_iff_eq] at hc
    obtain ⟨rfl, hc⟩ := hc
    simp only [zstep] at h
    split at h
    · have ht := ztgt rfl hc
      cases cd
      · exact lv_if_eq hx hb hd ht (fun q => hj _ _ _ _ _ _ (h.1 q) p l e s m args below meth c D cA ad hC H locs lsl hP hS hl hln hkc hks) (fun q => hk _ _ _ _ _ _ (h.2 q) p l e s m args below meth c D cA ad hC H locs lsl hP hS hl hln hkc hks)
      · exact lv_if_ne hx hb hd ht (fun q => hj _ _ _ _ _ _ (h.1 q) p l e s m args below meth c D cA ad hC H locs lsl hP hS hl hln hkc hks) (fun q => hk _ _ _ _ _ _ (h.2 q) p l e s m args below meth c D cA ad hC H locs lsl hP hS hl hln hkc hks)
      · exact lv_if_lt hx hb hd ht (fun q => hj _ _ _ _ _ _ (h.1 q) p l e s m args below meth c D cA ad hC H locs lsl hP hS hl hln hkc hks) (fun q => hk _ _ _ _ _ _ (h.2 q) p l e s m args below meth c D cA ad hC H locs lsl hP hS hl hln hkc hks)
      · exact lv_if_ge hx hb hd ht (fun q => hj _ _ _ _ _ _ (h.1 q) p l e s m args below meth c D cA ad hC H locs lsl hP hS hl hln hkc hks) (fun q => hk _ _ _ _ _ _ (h.2 q) p l e s m args below meth c D cA ad hC H locs lsl hP hS hl hln hkc hks)
      · exact lv_if_gt hx hb hd ht (fun q => hj _ _ _ _ _ _ (h.1 q) p l e s m args below meth c D cA ad hC H locs lsl hP hS hl hln hkc hks) (fun q => hk _ _ _ _ _ _ (h.2 q) p l e s m args below meth c D cA ad hC H locs lsl hP hS hl hln hkc hks)
      · exact lv_if_le hx hb hd ht (fun q => hj _ _ _ _ _ _ (h.1 q) p l e s m args below meth c D cA ad hC H locs lsl hP hS hl hln hkc hks) (fun q => hk _ _ _ _ _ _ (h.2 q) p l e s m args below meth c D cA ad hC H locs lsl hP hS hl hln hkc hks)
    · exact h.elim
  case if_icmp cd off =>
    simp only [zck1, Bool.and_eq_true, beq_iff_eq] at hc
    obtain ⟨rfl, hc⟩ := hc
    simp only [zstep] at h
    split at h
    · have ht := ztgt rfl hc
      cases cd
      · exact lv_icmp_eq hx hb hd ht (fun q => hj _ _ _ _ _ _ (h.1 q) p l e s m args below meth c D cA ad hC H locs lsl hP hS hl hln hkc hks) (fun q => hk _ _ _ _ _ _ (h.2 q) p l e s m args below meth c D cA ad hC H locs lsl hP hS hl hln hkc hks)
      · exact lv_icmp_ne hx hb hd ht (fun q => hj _ _ _ _ _ _ (h.1 q) p l e s m args below meth c D cA ad hC H locs lsl hP hS hl hln hkc hks) (fun q => hk _ _ _ _ _ _ (h.2 q) p l e s m args below meth c D cA ad hC H locs lsl hP hS hl hln hkc hks)
      · exact lv_icmp_lt hx hb hd ht (fun q => hj _ _ _ _ _ _ (h.1 q) p l e s m args below meth c D cA ad hC H locs lsl hP hS hl hln hkc hks) (fun q => hk _ _ _ _ _ _ (h.2 q) p l e s m args below meth c D cA ad hC H locs lsl hP hS hl hln hkc hks)
      · exact lv_icmp_ge hx hb hd ht (fun q => hj _ _ _ _ _ _ (h.1 q) p l e s m args below meth c D cA ad hC H locs lsl hP hS hl hln hkc hks) (fun q => hk _ _ _ _ _ _ (h.2 q) p l e s m args below meth c D cA ad hC H locs lsl hP hS hl hln hkc hks)
      · exact lv_icmp_gt hx hb hd ht (fun q => hj _ _ _ _ _ _ (h.1 q) p l e s m args below meth c D cA ad hC H locs lsl hP hS hl hln hkc hks) (fun q => hk _ _ _ _ _ _ (h.2 q) p l e s m args below meth c D cA ad hC H locs lsl hP hS hl hln hkc hks)
      · exact lv_icmp_le hx hb hd ht (fun q => hj _ _ _ _ _ _ (h.1 q) p l e s m args below meth c D cA ad hC H locs lsl hP hS hl hln hkc hks) (fun q => hk _ _ _ _ _ _ (h.2 q) p l e s m args below meth c D cA ad hC H locs lsl hP hS hl hln hkc hks)
    · exact h.elim
  case goto off =>
    simp only [zck1, Bool.and_eq_true, beq_iff_eq] at hc
    obtain ⟨rfl, hc⟩ := hc
    simp only [zstep] at h
    split at h
    · exact lv_goto hx hb hd (ztgt rfl hc) (hj _ _ _ _ _ _ h p l e s m args below meth c D cA ad hC H locs lsl hP hS hl hln hkc hks)
    · exact h.elim
  case ifnull off =>
    simp only [zck1, Bool.and_eq_true, beq_iff_eq] at hc
    obtain ⟨rfl, hc⟩ := hc
    simp only [zstep] at h
    split at h
    · exact lv_ifnull hx hb hd (hk _ _ _ _ _ _ h p l e s m args below meth c D cA ad hC H locs lsl hP hS hl hln hkc hks)
    · exact lv_ifnullN hx hb hd (ztgt rfl hc) (hj _ _ _ _ _ _ h p l e s m args below meth c D cA ad hC H locs lsl hP hS hl hln hkc hks)
    · exact h.elim
  case aconst_null =>
    simp only [zck1, beq_iff_eq] at hc
    subst hc
    exact lv_null hx hb hd (hk _ _ _ _ _ _ h p l e s m args below meth c D cA ad hC H locs lsl hP hS hl hln hkc hks)
  case tableswitch dd lo hi offs =>
    simp only [zck1, Bool.and_eq_true] at hc
    obtain ⟨hc1, hc2, hc3⟩ := hc
    have hc2 := of_decide_eq_true hc2
    have hc3 := of_decide_eq_true hc3
    simp only [zstep] at h
    split at h
    · rename_i x r dt ts h9
      by_cases hin : x.toInt < lo ∨ hi < x.toInt
      · exact lv_tableOut hx hb hd hin (ztgt rfl hc1) (hj _ _ _ _ _ _ (h.2 hin) p l e s m args below meth c D cA ad hC H locs lsl hP hS hl hln hkc hks)
      · have h1 : ¬ x.toInt < lo := fun q => hin (Or.inl q)
        have h2 : ¬ hi < x.toInt := fun q => hin (Or.inr q)
        have hidx : (x.toInt - lo).toNat < offs.size := by omega
        have ho : offs[(x.toInt - lo).toNat]? = some offs[(x.toInt - lo).toNat] := Array.getElem?_eq_getElem hidx
        have hm : (offs.toList.map (fun o => (pc : Int) + o))[(x.toInt - lo).toNat]? = some ((pc : Int) + offs[(x.toInt - lo).toNat]) := by
          rw [List.getElem?_map, Array.getElem?_toList, ho]; rfl
        rw [hc2, List.getElem?_map] at hm
        cases hts' : ts[(x.toInt - lo).toNat]? with
        | none => simp [hts'] at hm
        | some t =>
          simp only [List.tail_cons, hts', Option.map_some, Option.some.injEq] at hm
          refine lv_tableIn hx hb hd h1 h2 ho hm.symm (hj _ _ _ _ _ _ (zsw_ok h.1 _ _ hts' ?_) p l e s m args below meth c D cA ad hC H locs lsl hP hS hl hln hkc hks)
          rw [show lo + ((x.toInt - lo).toNat : Int) = x.toInt by omega, Int32.ofInt_toInt]
    · exact h.elim
  case getfield ix =>
    simp only [zck1, beq_iff_eq] at hc
    subst hc
    simp only [zstep] at h
    split at h
    · rename_i j r
      obtain ⟨ci, sl, n, w, o, hjn, hsh, hf, ho, h⟩ := zfld_ok h
      obtain ⟨C, T, N, hcl, hn, hlk, -, -⟩ := hY.1 _ _ _ _ hf
      obtain ⟨hu, -⟩ := zcl_ok _ (List.mem_of_getElem? hcl)
      have hat := zWs_at cA (zMu Y) ad F hjn
      rw [hsh] at hat
      have hv : (zFs ad (F j) 0 sl)[n]? = some (zFv ad (F j) n o) := by rw [zFs_at, ho]; simp
      have kk : W p l e (zMr Y) s m args below meth c H locs kc ks (vx_MQ below (zQ D cA (zMu Y) ad ok (zA (zMu Y) ad s.heap.size)) (zQx D cA (zMu Y) ad ex (zA (zMu Y) ad s.heap.size)) args s (zMr Y).cells (zMr Y).slots (zA (zMu Y) ad s.heap.size)) (F0 m (pc + 3) lsl (zFv ad (F j) n o :: r.map (zv ad))) := by
        cases o with
        | none => exact hk _ _ _ _ _ _ h p l e s m args below meth c D cA ad hC H locs lsl hP hS hl hln hkc hks
        | some t => exact hk _ _ _ _ _ _ h p l e s m args below meth c D cA ad hC H locs lsl hP hS hl hln hkc hks
      rcases hlk with hlk | hlk
      · exact va_get (D := D) (ci := ci) hx hb hts hu hown hK.1 hP j hat hcl n hn (hts _ hlk) (fun _ z => z) hv hd kk
      · exact va_getN (D := D) (ci := ci) hx hb hts hu hown hK.1 hP j hat hcl n hn (va_Nw.use rfl (hK.2.1 _ hlk)) (fun _ z => z) hv hd kk
    · exact h.elim
  case putfield ix =>
    simp only [zck1, beq_iff_eq] at hc
    subst hc
    simp only [zstep] at h
    split at h
    · rename_i x j r
      obtain ⟨ci, sl, n, w, o, hjn, hsh, hf, ho, h⟩ := zfld_ok h
      obtain ⟨C, T, N, hcl, hn, hlk, hw1, hw2⟩ := hY.1 _ _ _ _ hf
      obtain ⟨hu, ty0, hty, hnm⟩ := zcl_ok _ (List.mem_of_getElem? hcl)
      have hat := zWs_at cA (zMu Y) ad F hjn
      rw [hsh] at hat
      have fin : ∀ ty : FieldType, (T n).2.2.2 = false → parseFieldDescriptor (T n).2.2.1 = some ty → narrow ty (.int x) = .int x → fits ty (.int x) = true → o = none → k (pc + 3) ls r kc ks (zup F j n x) → W p l e (zMr Y) s m args below meth c H locs kc ks (vx_MQ below (zQ D cA (zMu Y) ad ok (zA (zMu Y) ad s.heap.size)) (zQx D cA (zMu Y) ad ex (zA (zMu Y) ad s.heap.size)) args s (zMr Y).cells (zMr Y).slots (zA (zMu Y) ad s.heap.size)) (F0 m pc lsl (.int x :: .ref (ad j) :: r.map (zv ad))) := by
        intro ty hfin hpd hnr hft ho' hkk
        subst ho'
        have hset : ∀ e, e = Sum.inr (ci, (zFs ad (F j) 0 sl).set n (.int x)) → (zWs cA (zMu Y) ad F).set j (ad j, e) = zWs cA (zMu Y) ad (zup F j n x) := by
          intro e he
          refine zWs_set cA (zMu Y) ad F (zup F j n x) hjn ?_ (fun k hk => zup_ne F n x hk)
          rw [he, hsh, zup_self]
          show _ = Sum.inr (ci, zFs ad (upd (F j) n x) 0 sl)
          rw [zFs_set ad (F j) x sl ho]
        have hlen : n < (zFs ad (F j) 0 sl).length := by
          rw [zFs_len]
          rw [znth_eq] at ho
          exact (List.getElem?_eq_some_iff.mp ho).1
        have hkk' : ∀ (H1 : Heap) (locs1 : List Loc), va_P D zcl ((zWs cA (zMu Y) ad F).set j (ad j, .inr (ci, (zFs ad (F j) 0 sl).set n (.int x)))) H1 → va_D (zA (zMu Y) ad s.heap.size) ((zWs cA (zMu Y) ad F).set j (ad j, .inr (ci, (zFs ad (F j) 0 sl).set n (.int x)))) → va_S (zA (zMu Y) ad s.heap.size) s.heap H1 locs1 → W p l e (zMr Y) s m args below meth c H1 locs1 kc ks (vx_MQ below (zQ D cA (zMu Y) ad ok (zA (zMu Y) ad s.heap.size)) (zQx D cA (zMu Y) ad ex (zA (zMu Y) ad s.heap.size)) args s (zMr Y).cells (zMr Y).slots (zA (zMu Y) ad s.heap.size)) (F0 m (pc + 3) lsl (r.map (zv ad))) := by
          intro H1 locs1 hP1 _ hS1
          rw [hset _ rfl] at hP1
          exact hk _ _ _ _ _ _ hkk p l e s m args below meth c D cA ad hC H1 locs1 lsl hP1 hS1 hl hln hkc hks
        rcases hlk with hlk | hlk
        · exact va_put (D := D) (ci := ci) hx hb hts hu ty0 hty hnm hown hK.1 hP (hD F) hS j hat hcl n hn (hts _ hlk) (fun _ z => z) hfin hpd hnr hft hlen hd hkk'
        · exact va_putN (D := D) (ci := ci) hx hb hts hu ty0 hty hnm hown hK.1 hP (hD F) hS j hat hcl n hn (va_Nw.use rfl (hK.2.1 _ hlk)) (fun _ z => z) hfin hpd hnr hft hlen hd hkk'
      split at h
      · obtain ⟨q1, q2⟩ := hw1 rfl
        exact fin .int q1 (by rw [q2]; decide +kernel) rfl rfl rfl h
      · obtain ⟨q1, q2⟩ := hw2 rfl
        obtain ⟨h1, h2⟩ := h
        exact fin .boolean q1 (by rw [q2]; decide +kernel) (znar01 h1) (zfit01 h1) rfl h2
      · exact h.elim
    · exact h.elim
  case iaload =>
    simp only [zck1, beq_iff_eq] at hc
    subst hc
    simp only [zstep] at h
    split at h
    · obtain ⟨n, sl, hjn, hsh, hin, h⟩ := zarr_ok h
      have hat := zWs_at cA (zMu Y) ad F hjn
      rw [hsh] at hat
      exact va_iald hx hb hK.1 hP _ 0 hat rfl hin hd (hk _ _ _ _ _ _ h p l e s m args below meth c D cA ad hC H locs lsl hP hS hl hln hkc hks)
    · exact h.elim
  case iastore =>
    simp only [zck1, beq_iff_eq] at hc
    subst hc
    simp only [zstep] at h
    split at h
    · rename_i y x j r
      obtain ⟨n, sl, hjn, hsh, hin, h⟩ := zarr_ok h
      have hat := zWs_at cA (zMu Y) ad F hjn
      rw [hsh] at hat
      refine va_iast hx hb hK.1 hP (hD F) hS _ 0 hat rfl hin hd (fun H1 locs1 hP1 _ hS1 => ?_)
      rw [zWs_set cA (zMu Y) ad F (zup F j x.toNatClampNeg y) hjn (by rw [hsh, zup_self]; rfl) (fun k hk => zup_ne F _ _ hk)] at hP1
      exact hk _ _ _ _ _ _ h p l e s m args below meth c D cA ad hC H1 locs1 lsl hP1 hS1 hl hln hkc hks
    · exact h.elim
  case baload =>
    simp only [zck1, beq_iff_eq] at hc
    subst hc
    simp only [zstep] at h
    split at h
    · obtain ⟨n, sl, hjn, hsh, hin, h⟩ := zarr_ok h
      have hat := zWs_at cA (zMu Y) ad F hjn
      rw [hsh] at hat
      exact va_zald hx hb hK.1 hP _ 1 hat rfl hin hd (hk _ _ _ _ _ _ h p l e s m args below meth c D cA ad hC H locs lsl hP hS hl hln hkc hks)
    · exact h.elim
  case bastore =>
    simp only [zck1, beq_iff_eq] at hc
    subst hc
    simp only [zstep] at h
    split at h
    · rename_i y x j r
      obtain ⟨n, sl, hjn, hsh, hin, h⟩ := zarr_ok h
      have hat := zWs_at cA (zMu Y) ad F hjn
      rw [hsh] at hat
      refine va_zast hx hb hK.1 hP (hD F) hS _ 1 hat rfl hin hd (fun H1 locs1 hP1 _ hS1 => ?_)
      rw [zWs_set cA (zMu Y) ad F (zup F j x.toNatClampNeg (vp_nar .boolean y)) hjn (by rw [hsh, zup_self]; rfl) (fun k hk => zup_ne F _ _ hk)] at hP1
      exact hk _ _ _ _ _ _ h p l e s m args below meth c D cA ad hC H1 locs1 lsl hP1 hS1 hl hln hkc hks
    · exact h.elim
  case aaload =>
    simp only [zck1, beq_iff_eq] at hc
    subst hc
    simp only [zstep] at h
    split at h
    · rename_i x j r
      obtain ⟨n, sl, hjn, hsh, hin, t, ht, h⟩ := zarr_ok h
      have hat := zWs_at cA (zMu Y) ad F hjn
      rw [hsh] at hat
      rw [hsh] at ht
      have hv : va_rf (((znth sl x.toNatClampNeg).getD none).map ad) = .ref (ad t) := by rw [ht]; rfl
      have kk := hk _ _ _ _ _ _ h p l e s m args below meth c D cA ad hC H locs lsl hP hS hl hln hkc hks
      refine va_aldq hx hb hK.1 hP j 2 hat rfl hin hd ?_
      show W _ _ _ _ _ _ _ _ _ _ _ _ _ _ _ (F0 m (pc + 1) lsl (va_rf (((znth sl x.toNatClampNeg).getD none).map ad) :: r.map (zv ad)))
      rw [hv]
      exact kk
    · exact h.elim
  case arraylength =>
    simp only [zck1, beq_iff_eq] at hc
    subst hc
    simp only [zstep] at h
    split at h
    · rename_i j r
      split at h
      · rename_i hjn
        have hjn : j < (zMu Y).1 := by simpa using hjn
        have hat := zWs_at cA (zMu Y) ad F hjn
        obtain ⟨t', n, sl, hsh⟩ : ∃ t' n sl, (zMu Y).2 j = (t', n, sl) := ⟨_, _, _, rfl⟩
        rw [hsh] at hat h
        dsimp only at h
        split at h
        · have kk := hk _ _ _ _ _ _ h p l e s m args below meth c D cA ad hC H locs lsl hP hS hl hln hkc hks
          rcases t' with _ | _ | _ | _ | _ | t'
          · simp at *
          · exact va_alen hx hb hK.1 hP j 0 hat rfl rfl hd kk
          · exact va_alen hx hb hK.1 hP j 1 hat rfl rfl hd kk
          · exact va_alen hx hb hK.1 hP j 2 hat rfl rfl hd kk
          · exact va_alen hx hb hK.1 hP j 3 hat rfl rfl hd kk
          · exact va_alen hx hb hK.1 hP j 4 hat rfl rfl hd kk
        · exact h.elim
      · exact h.elim
    · exact h.elim
  case i2d =>
    simp only [zck1, beq_iff_eq] at hc
    subst hc
    simp only [zstep] at h
    split at h
    · exact lv_i2d hx hb hd (hk _ _ _ _ _ _ h p l e s m args below meth c D cA ad hC H locs lsl hP hS hl hln hkc hks)
    · exact h.elim
  case ddiv =>
    simp only [zck1, beq_iff_eq] at hc
    subst hc
    simp only [zstep] at h
    split at h
    · obtain ⟨h1, h2⟩ := h
      exact lv_ddiv hx hb hd h1 (hk _ _ _ _ _ _ h2 p l e s m args below meth c D cA ad hC H locs lsl hP hS hl hln hkc hks)
    · exact h.elim
  case ldc_w ix =>
    simp only [zck1, beq_iff_eq] at hc
    subst hc
    simp only [zstep] at h
    obtain ⟨h1, h2⟩ := h
    exact lv_ldcw hx hb hown (hts _ h1) hd (hk _ _ _ _ _ _ h2 p l e s m args below meth c D cA ad hC H locs lsl hP hS hl hln hkc hks)
  case invokevirtual ix =>
    simp only [zck1, beq_iff_eq] at hc
    subst hc
    simp only [zstep] at h
    exact zcall_ok hY hk hd h p l e s m args below meth c D cA ad hC H locs lsl hP hS hl hln hkc hks
  case invokestatic ix =>
    simp only [zck1, beq_iff_eq] at hc
    subst hc
    simp only [zstep] at h
    exact zcall_ok hY hk (b := false) hd h p l e s m args below meth c D cA ad hC H locs lsl hP hS hl hln hkc hks
  case ireturn =>
    simp only [zck1, beq_iff_eq] at hc
    subst hc
    simp only [zstep] at h
    split at h
    · rename_i x
      unfold zret at h
      split at h
      · rename_i ht
        exact vx_ret (W.widen hkc hks (W.iret hx hb (hr.trans ht) (fun t ht hW => ⟨⟨some (.int x), F, rfl, h, by rw [ht]; exact hP⟩, hS.F ht⟩) hS.2.2 hd))
      · rename_i ht
        obtain ⟨h1, h2⟩ := h
        exact vx_ret (W.widen hkc hks (W.zret hx hb (hr.trans ht) (znar01 h1) (fun t ht hW => ⟨⟨some (.int x), F, rfl, h2, by rw [ht]; exact hP⟩, hS.F ht⟩) hS.2.2 hd))
      · exact h.elim
    · exact h.elim
  case return_ =>
    simp only [zck1, beq_iff_eq] at hc
    subst hc
    simp only [zstep] at h
    split at h
    · rename_i ht
      exact vx_ret (W.widen hkc hks (W.vret hx hb (hr.trans ht) (fun t ht hW => ⟨⟨none, F, rfl, h, by rw [ht]; exact hP⟩, hS.F ht⟩) hS.2.2 hd))
    · exact h.elim
  case areturn =>
    simp only [zck1, beq_iff_eq] at hc
    subst hc
    simp only [zstep] at h
    split at h
    · rename_i x nm ht
      exact vx_ret (W.widen hkc hks (W.aret (v := .ref (ad x)) hx hb (hr.trans ht) (Or.inl ⟨_, rfl⟩) (Or.inr ⟨_, rfl⟩) (fun t ht hW => ⟨⟨some (.ref x), F, rfl, h, by rw [ht]; exact hP⟩, hS.F ht⟩) hS.2.2 hd))
    · rename_i nm ht
      exact vx_ret (W.widen hkc hks (W.aret (v := .null) hx hb (hr.trans ht) (Or.inl ⟨_, rfl⟩) (Or.inl rfl) (fun t ht hW => ⟨⟨some .null, F, rfl, h, by rw [ht]; exact hP⟩, hS.F ht⟩) hS.2.2 hd))
    · exact h.elim
  case dreturn =>
    simp only [zck1, beq_iff_eq] at hc
    subst hc
    simp only [zstep] at h
    split at h
    · rename_i x ht
      exact vx_ret (W.widen hkc hks (W.dret hx hb (hr.trans ht) (fun t ht hW => ⟨⟨some (.double x), F, rfl, h, by rw [ht]; exact hP⟩, hS.F ht⟩) hS.2.2 hd))
    · exact h.elim
  all_goals exact h.elim
theorem zgo_ok {Y : zM} {ok : zO} {ex : zX} {inv : Nat → Option zJ} (hY : zYok Y) (hi : ∀ t I, inv t = some I → ∀ ls st kc ks F, I ls st kc ks F → zWP Y ok ex t ls st kc ks F) :
    ∀ (code : List zI), (∀ q ∈ code, zck (zMc Y) q = true) → ∀ t ls st kc ks F, zgo Y ok ex inv code t ls st kc ks F → zWP Y ok ex t ls st kc ks F := by
  intro code
  induction code with
  | nil => intro _ t ls st kc ks F h; exact h.elim
  | cons q rest ih =>
    intro hq t ls st kc ks F h
    obtain ⟨pc, len, i, tg, v⟩ := q
    have hrest := ih (fun q h => hq q (List.mem_cons_of_mem _ h))
    simp only [zgo] at h
    split at h
    · rename_i he
      have := Nat.eq_of_beq_eq_true he
      subst this
      split at h
      · rename_i I hI
        exact hi _ _ hI _ _ _ _ _ h
      · obtain ⟨hd, hc⟩ := zck_ok (hq _ List.mem_cons_self)
        exact zstep_ok hY hrest hi hd hc h
    · exact hrest _ _ _ _ _ _ h
theorem zat_ok {Y : zM} {ok : zO} {ex : zX} {inv : Nat → Option zJ} (hY : zYok Y) (hi : ∀ t I, inv t = some I → ∀ ls st kc ks F, I ls st kc ks F → zWP Y ok ex t ls st kc ks F) :
    ∀ (code : List zI), (∀ q ∈ code, zck (zMc Y) q = true) → ∀ t ls st kc ks F, zat Y ok ex inv code t ls st kc ks F → zWP Y ok ex t ls st kc ks F := by
  intro code
  induction code with
  | nil => intro _ t ls st kc ks F h; exact h.elim
  | cons q rest ih =>
    intro hq t ls st kc ks F h
    obtain ⟨pc, len, i, tg, v⟩ := q
    have hrest := zgo_ok (ok := ok) (ex := ex) hY hi rest (fun q h => hq q (List.mem_cons_of_mem _ h))
    simp only [zat] at h
    split at h
    · rename_i he
      have := Nat.eq_of_beq_eq_true he
      subst this
      obtain ⟨hd, hc⟩ := zck_ok (hq _ List.mem_cons_self)
      exact zstep_ok hY hrest hi hd hc h
    · exact ih (fun q h => hq q (List.mem_cons_of_mem _ h)) _ _ _ _ _ _ h
end ZSb
