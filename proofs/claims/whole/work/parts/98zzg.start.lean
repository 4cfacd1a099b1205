/-! the two layers together -/
theorem hp0_HH (xs : Nat → Int32) (L : Nat) : hp0 xs L = HH (bm xs) L [] [] := rfl
theorem SH_len : SH.length = 356 := by decide +kernel
theorem SH_sum : (SH.map Prod.snd).sum ≤ 100000 := by decide +kernel
theorem whole_start {p : Program} {e : Env} {s : State} {m : MethodId} {below : List Frame} {meth : Method} {c : Code} (l : Launch) (hflags : l.flags = flags0) {b L : Nat} {xs : Nat → Int32} (hL : L ≤ 3072) (C0 : lw_At p s m meth c b L xs) : W p l e room_1 s m #[Value.ref b] below meth c s.heap [] 0 0 (lw_Z below #[Value.ref b] s) (entryFrame m ([Value.ref b] : List Value).toArray 7) := by
  obtain ⟨h', hV, s1, s2⟩ := law_all (xs := xs) hL 0
  refine start_ok l hflags hL C0 (d := 200) ⟨by decide, by decide⟩ (h' := h') hV ⟨?_, ?_⟩
  · show h'.2.1.length + h'.2.2.2 ≤ 601024
    rw [s1, SH_len]; omega
  · show (h'.2.1.map Prod.snd).sum + h'.2.2.2 * EXS ≤ 7293033
    have := SH_sum
    rw [s1, show EXS = 16 from rfl]; omega
