theorem va_X.lt {b L : Nat} {xs : Nat → Int32} {U : State} {H : Heap} (h : va_X b L xs U H) : b < H.size := by
  obtain ⟨scr, h1, -⟩ := h
  exact (Array.getElem?_eq_some_iff.mp h1).1
theorem xG {D : va_G} {ad : Nat → Nat} {cI : ClassId} {rk ks kv : Nat} : IG (xI D ad cI) (xN ad rk ks kv) (xA ad) := by
  refine ⟨fun u U V H hvm h => ⟨h.1, va_K.moved hvm h.2.1, h.2.2⟩, fun U V hW hk h => ?_, fun U V hv hh h => ?_⟩
  · obtain ⟨h1, h2, h3, h4, h5, h6, h7, h8⟩ := h
    exact ⟨fun q hq => va_Nw.warmF hW (h1 q hq), fun q hq => va_Nw.warmM hW (h2 q hq), vk_R.warm hW h3, (va_Z.moved hW.alike h4).kept hk, (va_T.moved hW.alike h5).kept hk, h6, (va_Z.moved hW.alike h7).kept hk, (vk_S.moved hW.alike h8).kept hk⟩
  · obtain ⟨h1, h2, h3, h4, h5, h6, h7, h8⟩ := h
    have hA : U.vm.Alike V.vm := by rw [hv]; exact Vm.Alike.refl _
    refine ⟨fun q hq => va_Nw.same rfl hv (h1 q hq), fun q hq => va_Nw.same rfl hv (h2 q hq), vk_R.same hv.symm h3, ?_⟩
    rw [← hh]
    exact ⟨va_Z.moved hA h4, va_T.moved hA h5, h6, va_Z.moved hA h7, vk_S.moved hA h8⟩
