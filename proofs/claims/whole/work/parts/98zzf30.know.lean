/-! what is known of the start stays known -/
theorem ao_moved {ty : FieldType} {u U : State} (hvm : u.vm.Alike U.vm) (h : (Cond.arrayOver ty).before #[] u = true) : (Cond.arrayOver ty).before #[] U = true := by
  have h2 : (Cond.arrayOver ty).before #[] (u.setVm U.vm) = true := by rw [Cond.arrayOver_setVmC hvm]; exact h
  unfold Cond.before Cond.holds at h2 ⊢
  simp only [Cond.value] at h2 ⊢
  exact h2
theorem KN_warm {g : GG} {s U : State} {H0 H : Heap} (h : KN g s H0) (hW : s.WarmedH U.vm) (hq : ∀ a : Nat, a < H0.size → ¬ gA g a → H[a]? = H0[a]?) : KN g U H := by
  obtain ⟨h1, h2, h3, h4, h5, h6, h7, h8, h9, h10⟩ := h
  refine ⟨h1.moved hW.alike, fun w hw hn => ?_, fun a k n ha hc hk => ?_, fun a k n ha hc hk => ?_, fun r hr => (va_Z.moved hW.alike (h5 r hr)).kept hq, fun i q hi => vk_R.warm hW (h6 i q hi), h7, fun k a b => ao_moved hW.alike (h8 k a b), (h9.moved hW.alike).kept hq, (h10.moved hW.alike).kept hq⟩
  · have := h2 w hw hn
    cases w <;> first | (exact va_Nw.warmF hW this) | (exact va_Nw.warmM hW this) | (cases hn)
  · obtain ⟨a1, a2⟩ := h3 a k n ha hc hk
    exact ⟨(va_O.moved hW.alike a1).kept hq, fun j hj => ⟨(va_OF.moved hW.alike (a2 j hj).1).kept hq, (a2 j hj).2⟩⟩
  · obtain ⟨a1, a2, a3⟩ := h4 a k n ha hc hk
    exact ⟨a1, (va_T.moved hW.alike a2).kept hq, a3⟩
theorem KN_same {g : GG} {s U : State} {H : Heap} (h : KN g s H) (hv : s.vm = U.vm) : KN g U H := by
  obtain ⟨h1, h2, h3, h4, h5, h6, h7, h8, h9, h10⟩ := h
  have hA : s.vm.Alike U.vm := by rw [hv]; exact Vm.Alike.refl _
  refine ⟨h1.moved hA, fun w hw hn => ?_, fun a k n ha hc hk => ?_, fun a k n ha hc hk => ?_, fun r hr => va_Z.moved hA (h5 r hr), fun i q hi => vk_R.same hv.symm (h6 i q hi), h7, fun k a b => ao_moved hA (h8 k a b), h9.moved hA, h10.moved hA⟩
  · have := h2 w hw hn
    cases w <;> first | (exact va_Nw.same rfl hv this) | (cases hn)
  · obtain ⟨a1, a2⟩ := h3 a k n ha hc hk
    exact ⟨va_O.moved hA a1, fun j hj => ⟨va_OF.moved hA (a2 j hj).1, (a2 j hj).2⟩⟩
  · obtain ⟨a1, a2, a3⟩ := h4 a k n ha hc hk
    exact ⟨a1, va_T.moved hA a2, a3⟩
