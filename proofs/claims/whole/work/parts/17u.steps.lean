/-! painting, wiping, another kind; what is seen -/
theorem tv_upd {τ : Nat → Int32} {C N m : Nat} {x : Int32} (h : tv τ C N) (hx : x = -1 ∨ ∃ c : Nat, c < C ∧ x = nI c) : tv (upd τ m x) C N := fun k a b => by
  by_cases e : k = m
  · subst e; rw [pk_us]; exact hx
  · rw [pk_un e]; exact h k a b
theorem kv_upd {κ : Nat → Int32} {N m : Nat} {x : Int32} (h : kv5 κ N) (hx : ∃ t : Nat, t < 5 ∧ x = nI t) : kv5 (upd κ m x) N := fun k a b => by
  by_cases e : k = m
  · subst e; rw [pk_us]; exact hx
  · rw [pk_un e]; exact h k a b
theorem rl_paint {d : Dt} {u v : SS} {n m : Nat} {x : Int32} {F : Nat → Int32} (hd : DV d) (hx : XD d u) (hm : MD d v) (hb : d.bd ≤ n) (hk : KpR v d) (hi : ImR u v d.N d.C) (h1 : 1 ≤ m) (h2 : m ≤ d.N) (hv : x = -1 ∨ ∃ c : Nat, c < d.C ∧ x = nI c) (hch : d.ch < 999) :
    DV (d.κ, upd d.τ m x, d.f, d.g, d.h, d.ρ, d.N, d.C, d.S, d.L, d.ch + 1, d.bd) ∧ XD (d.κ, upd d.τ m x, d.f, d.g, d.h, d.ρ, d.N, d.C, d.S, d.L, d.ch + 1, d.bd) (sI (sI (sA u 2 m x) 5 (nI (d.ch + 1))) 11 1) ∧ MD (d.κ, upd d.τ m x, d.f, d.g, d.h, d.ρ, d.N, d.C, d.S, d.L, d.ch + 1, d.bd) (sI (sA v 1 m x) 3 (nI (d.ch + 1))) ∧ Rel (sI (sI (sA u 2 m x) 5 (nI (d.ch + 1))) 11 1) (sI (sA v 1 m x) 3 (nI (d.ch + 1))) (n + 1) := by
  have a1 : DV (d.κ, upd d.τ m x, d.f, d.g, d.h, d.ρ, d.N, d.C, d.S, d.L, d.ch + 1, d.bd) := ⟨hd.1, hd.2.1, tv_upd hd.2.2.1 hv, fun k a b => by
    show upd d.τ m x k = -1
    have a' : d.N < k := a
    rw [pk_un (by omega)]; exact hd.2.2.2.1 k a b, hd.2.2.2.2.1, hd.2.2.2.2.2.1, hd.2.2.2.2.2.2.1, by show d.ch + 1 ≤ 999; omega, hd.2.2.2.2.2.2.2.2⟩
  have a2 : XD (d.κ, upd d.τ m x, d.f, d.g, d.h, d.ρ, d.N, d.C, d.S, d.L, d.ch + 1, d.bd) (sI (sI (sA u 2 m x) 5 (nI (d.ch + 1))) 11 1) := by
    refine ⟨⟨hx.1.1, hx.1.2.1, hx.1.2.2.1, ?_⟩, hx.2.1, rfl, hx.2.2.2.1, hx.2.2.2.2.1, hx.2.2.2.2.2⟩
    show ag ((sA u 2 m x).2.2 2) (upd d.τ m x) d.N
    rw [sA_at]
    exact hx.1.2.2.2.upd rfl
  have a3 : MD (d.κ, upd d.τ m x, d.f, d.g, d.h, d.ρ, d.N, d.C, d.S, d.L, d.ch + 1, d.bd) (sI (sA v 1 m x) 3 (nI (d.ch + 1))) := by
    refine ⟨⟨hm.1.1, hm.1.2.1, hm.1.2.2.1, ?_⟩, hm.2.1, rfl, hm.2.2.2.1, hm.2.2.2.2.1, hm.2.2.2.2.2⟩
    show ag ((sA v 1 m x).2.2 1) (upd d.τ m x) d.N
    rw [sA_at]
    exact hm.1.2.2.2.upd rfl
  exact ⟨a1, a2, a3, _, a1, a2, a3, Or.inl (by show ¬ (1 : Int32) = 0; decide), by show d.bd ≤ _; omega, hk, hi⟩
theorem st_paint : St_paint Rel := by
  intro n u v a b _ h
  obtain ⟨d, hd, hx, hm, hc, hb, hk, hi⟩ := h
  have hn := hd.n
  have same : Rel u v (n + 1) := rz hd hx hm hb hk hi (XEq.rf u) hc (MEq.rf v)
  by_cases ha : isNm a d.N
  · obtain ⟨m, h1, h2, rfl⟩ := ha
    have hbd := hd.b (by omega)
    refine c_hasN hx.1.1 hn.1 (fun _ => bn_f (by decide) ?_) (fun z => absurd ⟨m, h1, h2, rfl⟩ z)
    by_cases hcl : isCl b d.C
    · obtain ⟨c, hcC, rfl⟩ := hcl
      refine c_hasC hx.1.2.1 hn.2 (fun _ => bn_f (by decide) ?_) (fun z => absurd ⟨c, hcC, rfl⟩ z)
      have hch := hd.2.2.2.2.2.2.2.1
      rw [hx.2.2.1]
      refine ⟨fun q => ?_, fun q => ?_⟩
      · have q2 : d.ch < 999 := (nI_ltI (b := 999) (by omega) (by omega)).mp q
        obtain ⟨a1, a2, a3, a4⟩ := rl_paint (F := d.τ) (x := nI c) hd hx hm hb hk hi h1 h2 (Or.inr ⟨c, hcC, rfl⟩) q2
        unfold wX4_changeColour
        rw [xput_nI (j := 2) (by show m < 11; omega), show (sA u 2 m (nI c)).1 5 = nI d.ch from hx.2.2.1, nI_1]
        refine c0_badThrees a2.1.1 a2.1.2.2.1 a2.1.2.2.2 a1.2.1 rfl a1.n.1 ?_
        refine p_isN hm.1.1 hn.1 (fun _ => bn_f (by decide) ?_) (fun z => absurd ⟨m, h1, h2, rfl⟩ z)
        refine p_isC hm.1.2.1 (by omega) hn.2 (fun _ => bn_f (by decide) (bn_f ?_ ⟨vp_in_nI (by omega) (by omega), ?_⟩)) (fun z => absurd ⟨c, hcC, rfl⟩ z)
        · rw [hm.2.2.1]
          intro z
          have := (nI_eq (b := 999) (by omega) (by omega)).mp z
          omega
        · rw [nI_clamp (by omega), show (sA v 1 m (nI c)).1 3 = nI d.ch from hm.2.2.1, nI_1]
          refine p5_badNow a3.1.1 a3.1.2.2.1 a3.1.2.2.2 a1.n.1 (fun F => ⟨rfl, ?_⟩)
          obtain ⟨e, e1, e2, e3, e4, e5, e6, e7⟩ := a4
          exact ⟨e, e1, e2, e3.eq (me_R6 _ F), e4, e5, e6.eq (me_R6 _ F), ImR_eq e7 (XEq.rf _) (me_R6 _ F)⟩
      · have q2 : d.ch = 999 := by
          have : ¬ d.ch < 999 := fun z => q ((nI_ltI (b := 999) (by omega) (by omega)).mpr z)
          omega
        refine p_isN hm.1.1 hn.1 (fun _ => bn_f (by decide) ?_) (fun z => absurd ⟨m, h1, h2, rfl⟩ z)
        refine p_isC hm.1.2.1 (by omega) hn.2 (fun _ => bn_f (by decide) (bn_t ?_ ⟨rfl, same⟩)) (fun z => absurd ⟨c, hcC, rfl⟩ z)
        rw [hm.2.2.1, q2]
        rfl
    · refine c_hasC hx.1.2.1 hn.2 (fun z => absurd z hcl) (fun _ => bn_t rfl ?_)
      refine p_isN hm.1.1 hn.1 (fun _ => bn_f (by decide) ?_) (fun z => absurd ⟨m, h1, h2, rfl⟩ z)
      exact p_isC hm.1.2.1 (by omega) hn.2 (fun z => absurd z hcl) (fun _ => bn_t rfl ⟨rfl, same⟩)
  · refine c_hasN hx.1.1 hn.1 (fun z => absurd z ha) (fun _ => bn_t rfl ?_)
    exact p_isN hm.1.1 hn.1 (fun z => absurd z ha) (fun _ => bn_t rfl ⟨rfl, same⟩)
theorem st_wipe : St_wipe Rel := by
  intro n u v a _ h
  obtain ⟨d, hd, hx, hm, hc, hb, hk, hi⟩ := h
  have hn := hd.n
  have same : Rel u v (n + 1) := rz hd hx hm hb hk hi (XEq.rf u) hc (MEq.rf v)
  by_cases ha : isNm a d.N
  · obtain ⟨m, h1, h2, rfl⟩ := ha
    have hch := hd.2.2.2.2.2.2.2.1
    have hin : vp_in (nI m) 11 := vp_in_nI (by omega) (by omega)
    refine c_hasN hx.1.1 hn.1 (fun _ => bn_f (by decide) ?_) (fun z => absurd ⟨m, h1, h2, rfl⟩ z)
    have ex : xat u 2 (nI m) = d.τ m := by rw [xat_nI (j := 2) (k := m) (by show m < 11; omega)]; exact hx.1.2.2.2 m h1 h2
    have ev : v.2.2 1 (nI m).toNatClampNeg = d.τ m := by rw [nI_clamp (by omega)]; exact hm.1.2.2.2 m h1 h2
    rw [ex, hx.2.2.1]
    refine ⟨fun q0 => ⟨fun q => ?_, fun q => ?_⟩, fun q0 => ?_⟩
    · have q2 : d.ch < 999 := (nI_ltI (b := 999) (by omega) (by omega)).mp q
      obtain ⟨a1, a2, a3, a4⟩ := rl_paint (F := d.τ) (x := -1) hd hx hm hb hk hi h1 h2 (Or.inl rfl) q2
      unfold wX4_changeColour
      rw [xput_nI (j := 2) (by show m < 11; omega), show (sA u 2 m (-1)).1 5 = nI d.ch from hx.2.2.1, nI_1]
      refine p_isN hm.1.1 hn.1 (fun _ => bn_f (by decide) ⟨hin, bn_f (by rw [ev]; exact q0) (bn_f ?_ ⟨hin, hin, ?_⟩)⟩) (fun z => absurd ⟨m, h1, h2, rfl⟩ z)
      · rw [hm.2.2.1]
        intro z
        have := (nI_eq (b := 999) (by omega) (by omega)).mp z
        omega
      · rw [ev, nI_clamp (by omega), show (sA v 1 m (-1)).1 3 = nI d.ch from hm.2.2.1, nI_1]
        exact ⟨rfl, a4⟩
    · have q2 : d.ch = 999 := by
        have : ¬ d.ch < 999 := fun z => q ((nI_ltI (b := 999) (by omega) (by omega)).mpr z)
        omega
      refine p_isN hm.1.1 hn.1 (fun _ => bn_f (by decide) ⟨hin, bn_f (by rw [ev]; exact q0) (bn_t ?_ ⟨rfl, same⟩)⟩) (fun z => absurd ⟨m, h1, h2, rfl⟩ z)
      rw [hm.2.2.1, q2]
      rfl
    · exact p_isN hm.1.1 hn.1 (fun _ => bn_f (by decide) ⟨hin, bn_t (by rw [ev]; exact q0) ⟨rfl, same⟩⟩) (fun z => absurd ⟨m, h1, h2, rfl⟩ z)
  · refine c_hasN hx.1.1 hn.1 (fun z => absurd z ha) (fun _ => bn_t rfl ?_)
    exact p_isN hm.1.1 hn.1 (fun z => absurd z ha) (fun _ => bn_t rfl ⟨rfl, same⟩)
theorem st_be : St_be Rel := by
  intro n u v a b _ h
  obtain ⟨d, hd, hx, hm, hc, hb, hk, hi⟩ := h
  have hn := hd.n
  have same : Rel u v (n + 1) := rz hd hx hm hb hk hi (XEq.rf u) hc (MEq.rf v)
  by_cases ha : isNm a d.N
  · obtain ⟨m, h1, h2, rfl⟩ := ha
    have hin : vp_in (nI m) 11 := vp_in_nI (by omega) (by omega)
    have ex : xat u 1 (nI m) = d.κ m := by rw [xat_nI (j := 1) (k := m) (by show m < 11; omega)]; exact hx.1.2.2.1 m h1 h2
    have ev : v.2.2 0 (nI m).toNatClampNeg = d.κ m := by rw [nI_clamp (by omega)]; exact hm.1.2.2.1 m h1 h2
    refine c_hasN hx.1.1 hn.1 (fun _ => bn_f (by decide) ?_) (fun z => absurd ⟨m, h1, h2, rfl⟩ z)
    refine c_isKind (fun hbk => bn_f (by decide) ?_) (fun ho => bn_t rfl ?_)
    · obtain ⟨t, ht, rfl⟩ := hbk
      have hr := rg_in (M := 4) (by omega) ht
      rw [ex, xput_nI (j := 1) (by show m < 11; omega)]
      refine p_isN hm.1.1 hn.1 (fun _ => bn_f (by decide) ?_) (fun z => absurd ⟨m, h1, h2, rfl⟩ z)
      refine p_rg (fun _ _ => bn_f (by decide) ⟨hin, hin, ?_⟩) (fun z => absurd z (fun q => q.elim hr.1 hr.2))
      rw [ev, nI_clamp (by omega)]
      refine ⟨rfl, (upd d.κ m (nI t), d.τ, d.f, d.g, d.h, d.ρ, d.N, d.C, d.S, d.L, d.ch, d.bd), ?_, ?_, ?_, Or.inl (by show ¬ (1 : Int32) = 0; decide), by show d.bd ≤ _; omega, hk, hi⟩
      · exact ⟨hd.1, kv_upd hd.2.1 ⟨t, by omega, rfl⟩, hd.2.2⟩
      · refine ⟨⟨hx.1.1, hx.1.2.1, ?_, hx.1.2.2.2⟩, hx.2.1, hx.2.2.1, hx.2.2.2.1, hx.2.2.2.2.1, hx.2.2.2.2.2⟩
        show ag ((sA u 1 m (nI t)).2.2 1) (upd d.κ m (nI t)) d.N
        rw [sA_at]
        exact hx.1.2.2.1.upd rfl
      · refine ⟨⟨hm.1.1, hm.1.2.1, ?_, hm.1.2.2.2⟩, hm.2.1, hm.2.2.1, hm.2.2.2.1, hm.2.2.2.2.1, hm.2.2.2.2.2⟩
        show ag ((sA v 0 m (nI t)).2.2 0) (upd d.κ m (nI t)) d.N
        rw [sA_at]
        exact hm.1.2.2.1.upd rfl
    · have hr := rg_out (by omega) ho
      refine p_isN hm.1.1 hn.1 (fun _ => bn_f (by decide) ?_) (fun z => absurd ⟨m, h1, h2, rfl⟩ z)
      exact p_rg (fun z1 z2 => absurd hr (fun q => q.elim z1 z2)) (fun _ => bn_t rfl ⟨rfl, same⟩)
  · refine c_hasN hx.1.1 hn.1 (fun z => absurd z ha) (fun _ => bn_t rfl ?_)
    exact p_isN hm.1.1 hn.1 (fun z => absurd z ha) (fun _ => bn_t rfl ⟨rfl, same⟩)
theorem st_forget : St_forget Rel := by
  intro n u v _ h
  obtain ⟨d, hd, hx, hm, hc, hb, hk, hi⟩ := h
  refine ⟨hx.2.2.2.1.trans hm.2.2.2.1.symm, (d.κ, d.τ, d.f, d.g, d.h, d.ρ, d.N, d.C, 0, d.L, d.ch, d.bd), ?_, ?_, ?_, hc, by show d.bd ≤ _; omega, hk, hi⟩
  · exact ⟨hd.1, hd.2.1, hd.2.2.1, hd.2.2.2.1, hd.2.2.2.2.1, by show 0 ≤ 6; omega, hd.2.2.2.2.2.2⟩
  · exact ⟨hx.1, hx.2.1, hx.2.2.1, rfl, hx.2.2.2.2.1, hx.2.2.2.2.2⟩
  · exact ⟨hm.1, hm.2.1, hm.2.2.1, rfl, hm.2.2.2.2.1, hm.2.2.2.2.2⟩
theorem up6 {f g : Nat → Int32} {S : Nat} {x : Int32} (h : ∀ k, k < 6 → f k = g k) : ∀ k, k < 6 → upd f S x k = upd g S x k := fun k hk => by
  by_cases e : k = S
  · subst e; rw [pk_us, pk_us]
  · rw [pk_un e, pk_un e]; exact h k hk
theorem rl_see {d : Dt} {u v : SS} {n m t : Nat} {c : Int32} (hd : DV d) (hx : XD d u) (hm : MD d v) (hc : CKd d u) (hb : d.bd ≤ n) (hk : KpR v d) (hi : ImR u v d.N d.C) (hS : d.S < 6) (ht : t ≤ 2) (hcc : c = 0 ∨ c = 1) :
    Rel (sI (sA (sA (sA u 3 d.S (nI m)) 4 d.S (nI t)) 5 d.S c) 6 (nI (d.S + 1))) (sI (sA (sA (sA v 2 d.S (nI m)) 3 d.S (nI t)) 4 d.S c) 4 (nI (d.S + 1))) (n + 1) := by
  refine ⟨(d.κ, d.τ, upd d.f d.S (nI m), upd d.g d.S (nI t), upd d.h d.S c, d.ρ, d.N, d.C, d.S + 1, d.L, d.ch, d.bd), ?_, ?_, ?_, hc, by show d.bd ≤ _; omega, hk, hi⟩
  · refine ⟨hd.1, hd.2.1, hd.2.2.1, hd.2.2.2.1, hd.2.2.2.2.1, by show d.S + 1 ≤ 6; omega, fun k hk6 => ?_, hd.2.2.2.2.2.2.2⟩
    show SnV (upd d.g d.S (nI t) k) (upd d.h d.S c k)
    by_cases e : k = d.S
    · subst e
      rw [pk_us, pk_us]
      exact ⟨⟨t, by omega, rfl⟩, hcc⟩
    · rw [pk_un e, pk_un e]
      exact hd.2.2.2.2.2.2.1 k hk6
  · refine ⟨hx.1, hx.2.1, hx.2.2.1, rfl, fun k hk6 => ⟨?_, ?_, ?_⟩, hx.2.2.2.2.2⟩
    · show (sA (sA (sA u 3 d.S (nI m)) 4 d.S (nI t)) 5 d.S c).2.2 3 k = upd d.f d.S (nI m) k
      rw [sA_ne _ _ _ (by decide), sA_ne _ _ _ (by decide), sA_at]
      exact up6 (fun k h => (hx.2.2.2.2.1 k h).1) k hk6
    · show (sA (sA (sA u 3 d.S (nI m)) 4 d.S (nI t)) 5 d.S c).2.2 4 k = upd d.g d.S (nI t) k
      rw [sA_ne _ _ _ (by decide), sA_at, sA_ne _ _ _ (by decide)]
      exact up6 (fun k h => (hx.2.2.2.2.1 k h).2.1) k hk6
    · show (sA (sA (sA u 3 d.S (nI m)) 4 d.S (nI t)) 5 d.S c).2.2 5 k = upd d.h d.S c k
      rw [sA_at, sA_ne _ _ _ (by decide), sA_ne _ _ _ (by decide)]
      exact up6 (fun k h => (hx.2.2.2.2.1 k h).2.2) k hk6
  · refine ⟨hm.1, hm.2.1, hm.2.2.1, rfl, fun k hk6 => ⟨?_, ?_, ?_⟩, hm.2.2.2.2.2⟩
    · show (sA (sA (sA v 2 d.S (nI m)) 3 d.S (nI t)) 4 d.S c).2.2 2 k = upd d.f d.S (nI m) k
      rw [sA_ne _ _ _ (by decide), sA_ne _ _ _ (by decide), sA_at]
      exact up6 (fun k h => (hm.2.2.2.2.1 k h).1) k hk6
    · show (sA (sA (sA v 2 d.S (nI m)) 3 d.S (nI t)) 4 d.S c).2.2 3 k = upd d.g d.S (nI t) k
      rw [sA_ne _ _ _ (by decide), sA_at, sA_ne _ _ _ (by decide)]
      exact up6 (fun k h => (hm.2.2.2.2.1 k h).2.1) k hk6
    · show (sA (sA (sA v 2 d.S (nI m)) 3 d.S (nI t)) 4 d.S c).2.2 4 k = upd d.h d.S c k
      rw [sA_at, sA_ne _ _ _ (by decide), sA_ne _ _ _ (by decide)]
      exact up6 (fun k h => (hm.2.2.2.2.1 k h).2.2) k hk6
theorem st_see : St_see Rel := by
  intro n u v a b c _ h hcc
  obtain ⟨d, hd, hx, hm, hc, hb, hk, hi⟩ := h
  have hn := hd.n
  have same : Rel u v (n + 1) := rz hd hx hm hb hk hi (XEq.rf u) hc (MEq.rf v)
  by_cases ha : isNm a d.N
  · obtain ⟨m, h1, h2, rfl⟩ := ha
    refine c_hasN hx.1.1 hn.1 (fun _ => bn_f (by decide) ?_) (fun z => absurd ⟨m, h1, h2, rfl⟩ z)
    rcases rg_dec b 2 with ⟨t, ht, rfl⟩ | ho
    · have hr := rg_in (M := 2) (by omega) ht
      refine br_f hr.1 (br_t ((nI_ltI (b := 3) (by omega) (by omega)).mpr (by omega)) ?_)
      have hS6 := hd.2.2.2.2.2.1
      have eu : u.1 6 = nI d.S := hx.2.2.2.1
      have ev : v.1 4 = nI d.S := hm.2.2.2.1
      rw [eu]
      refine ⟨fun q => ?_, fun q => ?_⟩
      · have hS : d.S < 6 := (nI_ltI (b := 6) (by omega) (by omega)).mp q
        have hin : vp_in (nI d.S) 6 := vp_in_nI hS (by omega)
        have hz : ¬ v.1 4 = 6 := by
          rw [ev]
          intro z
          have := (nI_eq (b := 6) (by omega) (by omega)).mp z
          omega
        have key : ∀ x : Int32, (x = 0 ∨ x = 1) → Rel (sI (sA (sA (sA u 3 d.S (nI m)) 4 d.S (nI t)) 5 d.S x) 6 (nI (d.S + 1))) (sI (sA (sA (sA v 2 d.S (nI m)) 3 d.S (nI t)) 4 d.S x) 4 (nI (d.S + 1))) (n + 1) := fun x hxx => rl_see (m := m) hd hx hm hc hb hk hi hS ht hxx
        have ex : ∀ x : Int32, xput (xput (xput u 3 (nI d.S) (nI m)) 4 (nI d.S) (nI t)) 5 (nI d.S) x = sA (sA (sA u 3 d.S (nI m)) 4 d.S (nI t)) 5 d.S x := fun x => by
          rw [xput_nI (j := 3) (by show d.S < 6; exact hS), xput_nI (j := 4) (by show d.S < 6; exact hS), xput_nI (j := 5) (by show d.S < 6; exact hS)]
        have e3 : (xput u 3 (nI d.S) (nI m)).1 6 = nI d.S := by rw [xput_nI (j := 3) (by show d.S < 6; exact hS)]; exact eu
        have e4 : (xput (xput u 3 (nI d.S) (nI m)) 4 (nI d.S) (nI t)).1 6 = nI d.S := by rw [xput_nI (j := 3) (by show d.S < 6; exact hS), xput_nI (j := 4) (by show d.S < 6; exact hS)]; exact eu
        have e5 : ∀ x : Int32, (sA (sA (sA u 3 d.S (nI m)) 4 d.S (nI t)) 5 d.S x).1 6 = nI d.S := fun x => eu
        have v2 : (sA v 2 d.S (nI m)).1 4 = nI d.S := ev
        have v3 : (sA (sA v 2 d.S (nI m)) 3 d.S (nI t)).1 4 = nI d.S := ev
        have v4 : ∀ x : Int32, (sA (sA (sA v 2 d.S (nI m)) 3 d.S (nI t)) 4 d.S x).1 4 = nI d.S := fun x => ev
        unfold wX3_append
        rw [eu, e3, e4, ex, ex, e5, e5, nI_1]
        have go : ∀ x : Int32, (c = 0 → x = 0) → (¬ c = 0 → x = 1) → wX5_see (nI m) (nI t) c v (fun r2 v1 => nI (d.S + 1) = r2 ∧ Rel (sI (sA (sA (sA u 3 d.S (nI m)) 4 d.S (nI t)) 5 d.S x) 6 (nI (d.S + 1))) v1 (n + 1)) := fun x x0 x1 => by
          refine p_isN hm.1.1 hn.1 (fun _ => bn_f (by decide) ?_) (fun z => absurd ⟨m, h1, h2, rfl⟩ z)
          refine p_rg (fun _ _ => bn_f (by decide) (bn_f hz ?_)) (fun z => absurd z (fun q => q.elim hr.1 hr.2))
          rw [ev, nI_clamp (by omega), v2, nI_clamp (by omega), v3, nI_clamp (by omega), v4, v4, nI_1]
          refine ⟨hin, hin, fun q0 => ⟨hin, ?_⟩, fun q0 => ⟨hin, ?_⟩⟩
          · rw [sI_at, x0 q0]
            exact ⟨rfl, key 0 (Or.inl rfl)⟩
          · rw [sI_at, x1 q0]
            exact ⟨rfl, key 1 (Or.inr rfl)⟩
        refine ⟨fun q0 => ?_, fun q0 => ?_⟩
        · dsimp only
          rw [sI_at]
          exact go 0 (fun _ => rfl) (fun z => absurd q0 z)
        · dsimp only
          rw [sI_at]
          exact go 1 (fun z => absurd z q0) (fun _ => rfl)
      · have hS : d.S = 6 := by
          have : ¬ d.S < 6 := fun z => q ((nI_ltI (b := 6) (by omega) (by omega)).mpr z)
          omega
        refine p_isN hm.1.1 hn.1 (fun _ => bn_f (by decide) ?_) (fun z => absurd ⟨m, h1, h2, rfl⟩ z)
        refine p_rg (fun _ _ => bn_f (by decide) (bn_t ?_ ⟨rfl, same⟩)) (fun z => absurd z (fun q => q.elim hr.1 hr.2))
        rw [ev, hS]
        rfl
    · have hr := rg_out (by omega) ho
      have fin : wX5_see (nI m) b c v (fun r2 v1 => -102 = r2 ∧ Rel u v1 (n + 1)) := by
        refine p_isN hm.1.1 hn.1 (fun _ => bn_f (by decide) ?_) (fun z => absurd ⟨m, h1, h2, rfl⟩ z)
        exact p_rg (fun z1 z2 => absurd hr (fun q => q.elim z1 z2)) (fun _ => bn_t rfl ⟨rfl, same⟩)
      refine ⟨fun _ => fin, fun z => ⟨fun y => ?_, fun _ => fin⟩⟩
      refine absurd hr (fun q => q.elim z (fun q2 => ?_))
      obtain ⟨j, hj, rfl⟩ := nI_of z
      have y2 := (nI_ltI (b := 3) hj (by omega)).mp y
      exact ho j (by omega) rfl
  · refine c_hasN hx.1.1 hn.1 (fun z => absurd z ha) (fun _ => bn_t rfl ?_)
    exact p_isN hm.1.1 hn.1 (fun z => absurd z ha) (fun _ => bn_t rfl ⟨rfl, same⟩)
