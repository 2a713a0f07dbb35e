/-! the law comes to its end with true, given that no quotient of ints is a NaN -/
section ZGt
theorem law_all (hfp : eNoNaN) {p : Program} {e : Env} {s : State} {m : MethodId} {below : List Frame} {meth : Method} {c : Code} (l : Launch) (hflags : l.flags = flags0) {b L : Nat} {xs : Nat → Int32} (hL : L ≤ 3072) (C0 : lw_At p s m meth c b L xs) : W p l e room_1 s m #[Value.ref b] below meth c s.heap [] 0 0 (lw_Z below #[Value.ref b] s) (entryFrame m ([Value.ref b] : List Value).toArray 9) := by
  obtain ⟨D, cA, hK⟩ := zK_of C0.2.2.2.2.2.1
  exact law_walk l hflags C0 hK (va_AO.of (C0.2.2.2.2.2.1 _ (List.mem_of_getElem? (i := 311) (by decide +kernel)))) fun kc ks h1 h2 => law_loop hL (cL_20 hfp L xs) 513 0 kc ks eL0 none none none zAg_0 (Nat.zero_le _) (by omega) (by omega) (by omega)
end ZGt
