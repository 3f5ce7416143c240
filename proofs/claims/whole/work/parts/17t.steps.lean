/-! steps that change something -/
theorem st_letter : St_letter Rel := by
  intro n u v a _ h
  obtain ⟨d, hd, hx, hm, hc, hb, hk, hi⟩ := h
  have same : Rel u v (n + 1) := rz hd hx hm hb hk hi (XEq.rf u) hc (MEq.rf v)
  have hL := hd.2.2.2.2.1.1
  have outs : a < 32 ∨ 126 < a → wX5_letter a v (fun r2 v1 => -102 = r2 ∧ Rel u v1 (n + 1)) := fun ho => p_rg (fun z1 z2 => absurd ho (fun q => q.elim z1 z2)) (fun _ => bn_t rfl ⟨rfl, same⟩)
  refine ⟨fun q => outs (Or.inl q), fun q1 => ⟨fun q2 => ?_, fun q2 => outs (Or.inr ?_)⟩⟩
  · have q3 : ¬ (126 : Int32) < a := le_nlt.mp q2
    have h0 : ¬ a < 0 := fun z => q1 (Int32.lt_trans z (by decide))
    obtain ⟨c, hcl, rfl⟩ := nI_of h0
    have c1 : 32 ≤ c := by
      apply Classical.byContradiction
      intro z
      exact q1 ((nI_ltI (b := 32) (by omega) (by omega)).mpr (by omega))
    have c2 : c ≤ 126 := by
      apply Classical.byContradiction
      intro z
      exact q3 ((nI_ltI (a := 126) (by omega) (by omega)).mpr (by omega))
    have eu : u.1 2 = nI d.L := hx.2.1.1
    have ev : v.1 5 = nI d.L := hm.2.1.1
    refine ⟨fun q4 => ?_, fun q4 => ?_⟩
    · rw [eu] at q4
      have hL2 : d.L < 26 := (nI_ltI (b := 26) (by omega) (by omega)).mp q4
      unfold wX2_append
      rw [eu, xput_nI (j := 0) (by show d.L < 26; exact hL2)]
      rw [show (sA u 0 d.L (nI c)).1 2 = nI d.L from eu, nI_1]
      refine p_rg (fun _ _ => bn_f (by decide) (bn_f ?_ ⟨?_, ?_⟩)) (fun z => absurd z (fun q => q.elim q1 q3))
      · rw [ev]
        intro z
        have := (nI_eq (b := 26) (by omega) (by omega)).mp z
        omega
      · rw [ev]
        exact vp_in_nI hL2 (by omega)
      · rw [ev, nI_clamp (by omega), pk_vb, ch_2 c (by omega), show (sA v 5 d.L (nI c)).1 5 = nI d.L from ev, nI_1, sI_at, sI_at]
        refine ⟨rfl, (d.κ, d.τ, d.f, d.g, d.h, upd d.ρ d.L (nI c), d.N, d.C, d.S, d.L + 1, d.ch, d.bd), ?_, ?_, ?_, hc, by show d.bd ≤ _; omega, hk, hi⟩
        · refine ⟨hd.1, hd.2.1, hd.2.2.1, hd.2.2.2.1, ⟨by show d.L + 1 ≤ 26; omega, fun k hk => ?_⟩, hd.2.2.2.2.2⟩
          by_cases e : k = d.L
          · subst e
            exact ⟨c, c1, c2, pk_us⟩
          · have := hd.2.2.2.2.1.2 k (by have : k < d.L + 1 := hk; omega)
            show ∃ x, _ ∧ _ ∧ upd d.ρ d.L (nI c) k = _
            rw [pk_un e]
            exact this
        · refine ⟨hx.1, ⟨sI_at _ _ _, fun k hk => ?_⟩, hx.2.2.1, hx.2.2.2.1, hx.2.2.2.2.1, hx.2.2.2.2.2⟩
          show (sA u 0 d.L (nI c)).2.2 0 k = upd d.ρ d.L (nI c) k
          rw [sA_at]
          by_cases e : k = d.L
          · subst e; rw [pk_us, pk_us]
          · rw [pk_un e, pk_un e]
            exact hx.2.1.2 k (by have : k < d.L + 1 := hk; omega)
        · refine ⟨hm.1, ⟨sI_at _ _ _, fun k hk => ?_⟩, hm.2.2.1, hm.2.2.2.1, hm.2.2.2.2.1, hm.2.2.2.2.2⟩
          show (sA v 5 d.L (nI c)).2.2 5 k = upd d.ρ d.L (nI c) k
          rw [sA_at]
          by_cases e : k = d.L
          · subst e; rw [pk_us, pk_us]
          · rw [pk_un e, pk_un e]
            exact hm.2.1.2 k (by have : k < d.L + 1 := hk; omega)
    · rw [eu] at q4
      have hL2 : d.L = 26 := by
        have : ¬ d.L < 26 := fun z => q4 ((nI_ltI (b := 26) (by omega) (by omega)).mpr z)
        omega
      refine p_rg (fun _ _ => bn_f (by decide) (bn_t ?_ ⟨rfl, same⟩)) (fun z => absurd z (fun q => q.elim q1 q3))
      rw [ev, hL2]
      rfl
  · apply Classical.byContradiction
    intro z
    exact q2 (le_nlt.mpr z)
theorem st_blank : St_blank Rel := by
  intro n u v _ h
  obtain ⟨d, hd, hx, hm, hc, hb, hk, hi⟩ := h
  refine ⟨hx.2.1.1.trans hm.2.1.1.symm, (d.κ, d.τ, d.f, d.g, d.h, d.ρ, d.N, d.C, d.S, 0, d.ch, d.bd), ?_, ?_, ?_, hc, by show d.bd ≤ _; omega, hk, hi⟩
  · exact ⟨hd.1, hd.2.1, hd.2.2.1, hd.2.2.2.1, ⟨by show 0 ≤ 26; omega, fun k hk => absurd hk (Nat.not_lt_zero _)⟩, hd.2.2.2.2.2⟩
  · exact ⟨hx.1, ⟨sI_at _ _ _, fun k hk => absurd hk (Nat.not_lt_zero _)⟩, hx.2.2.1, hx.2.2.2.1, hx.2.2.2.2.1, hx.2.2.2.2.2⟩
  · exact ⟨hm.1, ⟨sI_at _ _ _, fun k hk => absurd hk (Nat.not_lt_zero _)⟩, hm.2.2.1, hm.2.2.2.1, hm.2.2.2.2.1, hm.2.2.2.2.2⟩
theorem c_isKind {a : Int32} {u : SS} {post : Int32 → SS → Prop} (h1 : (∃ t : Nat, t ≤ 4 ∧ a = nI t) → post 1 u) (h0 : (∀ t : Nat, t ≤ 4 → ¬ a = nI t) → post 0 u) : wX4_isKind a u post := by
  refine ⟨fun z => h0 (fun t ht e => ?_), fun z => ⟨fun y => h0 (fun t ht e => ?_), fun y => h1 ?_⟩⟩
  · subst e
    exact nI_pos (by omega) z
  · subst e
    have := (nI_leI (a := 5) (by omega) (by omega)).mp y
    omega
  · refine rg_of (by omega) z (fun q => y ?_)
    obtain ⟨j, hj, rfl⟩ := nI_of z
    have := (nI_ltI (by omega) hj).mp q
    exact nI_le (a := 5) (by omega) hj
theorem st_as : St_as Rel := by
  intro n u v a b _ h
  obtain ⟨d, hd, hx, hm, hc, hb, hk, hi⟩ := h
  have hn := hd.n
  have same : Rel u v (n + 1) := rz hd hx hm hb hk hi (XEq.rf u) hc (MEq.rf v)
  by_cases ha : isNm a d.N
  · obtain ⟨m, h1, h2, rfl⟩ := ha
    refine c_hasN hx.1.1 hn.1 (fun _ => bn_f (by decide) ?_) (fun z => absurd ⟨m, h1, h2, rfl⟩ z)
    have ex : xat u 1 (nI m) = d.κ m := by rw [xat_nI (j := 1) (k := m) (by show m < 11; omega)]; exact hx.1.2.2.1 m h1 h2
    have ev : v.2.2 0 (nI m).toNatClampNeg = d.κ m := by rw [nI_clamp (by omega)]; exact hm.1.2.2.1 m h1 h2
    refine c_isKind (fun hbk => bn_f (by decide) ?_) (fun ho => bn_t rfl ?_)
    · obtain ⟨t, ht, rfl⟩ := hbk
      have hr := rg_in (M := 4) (by omega) ht
      have go : ∀ r : Int32, ((nI t = 0 → nI m = r) ∧ (¬ nI t = 0 → ((d.κ m = nI t → nI m = r) ∧ (¬ d.κ m = nI t → ((¬ nI t = (3 : Int32) → (-1 : Int32) = r) ∧ (nI t = (3 : Int32) → ((¬ d.κ m = (4 : Int32) → (-1 : Int32) = r) ∧ (d.κ m = (4 : Int32) → nI m = r)))))))) → wX5_as (nI m) (nI t) v (fun r2 v1 => r = r2 ∧ Rel u v1 (n + 1)) := fun r hrr => by
        refine p_isN hm.1.1 hn.1 (fun _ => bn_f (by decide) ?_) (fun z => absurd ⟨m, h1, h2, rfl⟩ z)
        refine p_rg (fun _ _ => bn_f (by decide) ⟨vp_in_nI (by omega) (by omega), ?_⟩) (fun z => absurd z (fun q => q.elim hr.1 hr.2))
        rw [ev]
        exact ⟨fun e => ⟨(hrr.1 e).symm, same⟩, fun e => ⟨fun e2 => ⟨((hrr.2 e).1 e2).symm, same⟩, fun e2 => ⟨fun e3 => ⟨(((hrr.2 e).2 e2).1 e3).symm, same⟩, fun e3 => ⟨fun e4 => ⟨((((hrr.2 e).2 e2).2 e3).1 e4).symm, same⟩, fun e4 => ⟨((((hrr.2 e).2 e2).2 e3).2 e4).symm, same⟩⟩⟩⟩⟩
      rw [ex]
      refine ⟨fun e => go _ ?_, fun e => ⟨fun e2 => go _ ?_, fun e2 => ⟨fun e3 => go _ ?_, fun e3 => ⟨fun e4 => go _ ?_, fun e4 => go _ ?_⟩⟩⟩⟩
      · exact br_t e rfl
      · exact br_f e (br_t e2.symm rfl)
      · exact br_f e (br_f (fun z => e2 z.symm) (bn_f e3 rfl))
      · exact br_f e (br_f (fun z => e2 z.symm) (bn_t e3 (bn_f e4 rfl)))
      · exact br_f e (br_f (fun z => e2 z.symm) (bn_t e3 (bn_t e4 rfl)))
    · have hr := rg_out (by omega) ho
      refine p_isN hm.1.1 hn.1 (fun _ => bn_f (by decide) ?_) (fun z => absurd ⟨m, h1, h2, rfl⟩ z)
      exact p_rg (fun z1 z2 => absurd hr (fun q => q.elim z1 z2)) (fun _ => bn_t rfl ⟨rfl, same⟩)
  · refine c_hasN hx.1.1 hn.1 (fun z => absurd z ha) (fun _ => bn_t rfl ?_)
    exact p_isN hm.1.1 hn.1 (fun z => absurd z ha) (fun _ => bn_t rfl ⟨rfl, same⟩)
theorem st_way : St_way Rel := by
  intro n u v a b _ h
  obtain ⟨d, hd, hx, hm, hc, hb, hk, hi⟩ := h
  have hn := hd.n
  have same : Rel u v (n + 1) := rz hd hx hm hb hk hi (XEq.rf u) hc (MEq.rf v)
  have hlen := wl_lt hd
  by_cases ha : a < 0
  · refine br_t ha ?_
    exact p_isN hm.1.1 hn.1 (fun _ => br_f (by decide) (br_t ha ⟨rfl, same⟩)) (fun _ => br_t rfl ⟨rfl, same⟩)
  · refine br_f ha ?_
    by_cases hbn : isNm b d.N
    · obtain ⟨m, h1, h2, rfl⟩ := hbn
      refine c_hasN hx.1.1 hn.1 (fun _ => bn_f (by decide) ?_) (fun z => absurd ⟨m, h1, h2, rfl⟩ z)
      refine q_ref hd hx hc (fun w hw hcw hkw => ?_)
      obtain ⟨i, hil, rfl⟩ := nI_of ha
      have h0 : ¬ d.N = 0 := by omega
      rw [hkw.1, show wl d.κ d.τ d.C d.N 1 d.τ = WL d from rfl]
      refine ⟨fun q => ?_, fun q => ?_⟩
      · have q2 : i < (WL d).length := (nI_ltI hil (by omega)).mp q
        refine c1_colourInWay (hx.eq hw).1 hd.2.1 hn.1 hn.2 q2 h1 h2 (fun z gz => ?_)
        refine p_isN hm.1.1 hn.1 (fun _ => br_f (by decide) (br_f ha ?_)) (fun z => absurd ⟨m, h1, h2, rfl⟩ z)
        refine r_lay hd hm h0 (nI i) (fun y hy hl _ hwt => br_t q ⟨vp_in_nI (by omega) (by omega), ?_⟩)
        rw [nI_clamp (by omega), hwt i rfl q2 m h1 h2]
        exact ⟨rfl, rz hd hx hm hb hk hi (hw.tr (gl_X gz)) (gl_C gz hcw) hy⟩
      · refine p_isN hm.1.1 hn.1 (fun _ => br_f (by decide) (br_f ha ?_)) (fun z => absurd ⟨m, h1, h2, rfl⟩ z)
        exact r_lay hd hm h0 (nI i) (fun y hy hl _ hwt => br_f q ⟨rfl, rz hd hx hm hb hk hi hw hcw hy⟩)
    · refine c_hasN hx.1.1 hn.1 (fun z => absurd z hbn) (fun _ => bn_t rfl ?_)
      exact p_isN hm.1.1 hn.1 (fun z => absurd z hbn) (fun _ => br_t rfl ⟨rfl, same⟩)
