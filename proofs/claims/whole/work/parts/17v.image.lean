/-! paintings; the image and back -/
theorem st_paintings : St_paintings Rel := by
  intro n u v a b c _ h
  obtain ⟨d, hd, hx, hm, hc, hb, hk, hi⟩ := h
  have hn := hd.n
  have same : Rel u v (n + 1) := rz hd hx hm hb hk hi (XEq.rf u) hc (MEq.rf v)
  by_cases ha : a < 1 ∨ 40 < a
  · have fin : wX5_paintings a b c v (fun r2 v1 => -102 = r2 ∧ Rel u v1 (n + 1)) := p_rg (fun z1 z2 => absurd ha (fun q => q.elim z1 z2)) (fun _ => br_t rfl ⟨rfl, same⟩)
    exact ⟨fun _ => fin, fun z => ⟨fun _ => fin, fun y => absurd ha (fun q => q.elim z y)⟩⟩
  · have ha1 : ¬ a < 1 := fun z => ha (Or.inl z)
    have ha2 : ¬ 40 < a := fun z => ha (Or.inr z)
    refine br_f ha1 (br_f ha2 ?_)
    by_cases hb0 : b < 0
    · exact br_t hb0 (p_rg (fun _ _ => br_f (by decide) (br_t hb0 ⟨rfl, same⟩)) (fun z => absurd z ha))
    · refine br_f hb0 ?_
      rcases rg_dec c 2 with ⟨t, ht, rfl⟩ | ho
      · have hr := rg_in (M := 2) (by omega) ht
        refine br_f hr.1 (br_t ((nI_leI (b := 2) (by omega) (by omega)).mpr ht) ?_)
        refine q_there hd hx (fun h0 => bn_f (by decide) ?_) (fun e => bn_t rfl ?_)
        · have hbd := hd.b h0
          have a0 : ¬ a < 0 := fun z => ha1 (Int32.lt_trans z (by decide))
          obtain ⟨T, hT, rfl⟩ := nI_of a0
          have hT40 : T ≤ 40 := by
            apply Classical.byContradiction
            intro z
            exact ha2 ((nI_ltI (a := 40) (by omega) (by omega)).mpr (by omega))
          obtain ⟨s, hs, rfl⟩ := nI_of hb0
          refine ⟨T + 1, c4_paint_loop hd.2.1 hn.1 (by omega) hn.2 hT40 T 0 (s, 0, 0) u (by omega) hx.1 hs (fun w gw => ?_)⟩
          have R : ∀ z, Gp v z → Rel w z (n + 1) := fun z gz => rz hd hx hm hb hk hi (gm_X gw) (gm_C gw hc) (gp_M gz)
          have fin : ∀ r : Int32, ((¬ nI t = 0 → ((¬ nI t = (1 : Int32) → r = nI (pw d.κ d.τ d.N d.C T (s, 0, 0)).1) ∧ (nI t = (1 : Int32) → r = nI (pw d.κ d.τ d.N d.C T (s, 0, 0)).2.2))) ∧ (nI t = 0 → r = nI (pw d.κ d.τ d.N d.C T (s, 0, 0)).2.1)) → wX5_paintings (nI T) (nI s) (nI t) v (fun r2 v1 => r = r2 ∧ Rel w v1 (n + 1)) := fun r hrr => by
            refine p_rg (fun _ _ => br_f (by decide) (br_f hb0 ?_)) (fun z => absurd z ha)
            refine p_rg (fun _ _ => bn_f (by decide) (bn_f ?_ ⟨T + 1, ?_⟩)) (fun z => absurd z (fun q => q.elim hr.1 hr.2))
            · rw [hm.1.1]
              exact nI_ne0 (by omega) (by omega)
            · rw [nI_l (by omega)]
              refine p5_paint_loop (v := v) hm.1.1 hm.1.2.1 hm.1.2.2.1 hm.1.2.2.2 hn.1 (by omega) hn.2 hT40 T 0 (s, 0, 0) (sL v 0 (lN s)) (by omega) ⟨rfl, fun _ _ => rfl⟩ (sL_at _ _ _) hs (fun z gz hl => ?_)
              refine ⟨fun q => ⟨fun q2 => ?_, fun q2 => ⟨(hrr.1 q).2 q2, R z gz⟩⟩, fun q => ⟨hrr.2 q, R z gz⟩⟩
              rw [hl, lN_i]
              exact ⟨(hrr.1 q).1 q2, R z gz⟩
          refine ⟨fun q => ⟨fun q2 => fin _ ?_, fun q2 => fin _ ?_⟩, fun q => fin _ ?_⟩
          · exact bn_f q (bn_f q2 rfl)
          · exact bn_f q (bn_t q2 rfl)
          · exact bn_t q rfl
        · refine p_rg (fun _ _ => br_f (by decide) (br_f hb0 ?_)) (fun z => absurd z ha)
          refine p_rg (fun _ _ => bn_f (by decide) (bn_t ?_ ⟨rfl, same⟩)) (fun z => absurd z (fun q => q.elim hr.1 hr.2))
          rw [hm.1.1, e]
          rfl
      · have hr := rg_out (by omega) ho
        have fin : wX5_paintings a b c v (fun r2 v1 => -102 = r2 ∧ Rel u v1 (n + 1)) := by
          refine p_rg (fun _ _ => br_f (by decide) (br_f hb0 ?_)) (fun z => absurd z ha)
          exact p_rg (fun z1 z2 => absurd hr (fun q => q.elim z1 z2)) (fun _ => bn_t rfl ⟨rfl, same⟩)
        exact ⟨fun _ => fin, fun z => ⟨fun y => absurd hr (fun q => q.elim z (le_nlt.mp y)), fun _ => fin⟩⟩
theorem xcp {u : SS} {jf jt k : Nat} (h : k < xlen jf) : (xcpy u jf jt).2.2 jt k = u.2.2 jf k := by
  rw [show (xcpy u jf jt).2.2 jt = va_cpy (u.2.2 jf) (u.2.2 jt) 0 0 (xlen jf) from sR_at _ _ _, pk_cpy_in (Nat.zero_le _) (by rw [Nat.zero_add]; exact h), Nat.sub_zero, Nat.zero_add]
/-! the reference's copies -/
section COPY
variable {v0 : SS} {N : Nat} {post : Int32 → SS → Prop} {K : Int32 → SS → Prop}
def Cp (v0 w : SS) (a b c e s : Nat) : Prop := w.1 = v0.1 ∧ w.2.1 = v0.2.1 ∧ (∀ j : Nat, j ≠ a → j ≠ b → w.2.2 j = v0.2.2 j) ∧ ∀ k : Nat, 1 ≤ k → k < s → w.2.2 a k = v0.2.2 c k ∧ w.2.2 b k = v0.2.2 e k
theorem Cp.st {z : SS} {a b c e s : Nat} (hab : a ≠ b) (hca : c ≠ a) (hcb : c ≠ b) (hea : e ≠ a) (heb : e ≠ b) (h : Cp v0 z a b c e s) : Cp v0 (sA (sA z a s (z.2.2 c s)) b s ((sA z a s (z.2.2 c s)).2.2 e s)) a b c e (s + 1) := by
  obtain ⟨z1, z2, z3, z4⟩ := h
  refine ⟨z1, z2, fun j ja jb => by rw [sA_ne _ _ _ jb, sA_ne _ _ _ ja]; exact z3 j ja jb, fun k k1 k2 => ?_⟩
  rw [sA_ne _ _ _ hab, sA_at, sA_at, sA_ne _ _ _ hab.symm, sA_ne _ _ _ hea, z3 c hca hcb, z3 e hea heb]
  by_cases q : k = s
  · subst q
    rw [pk_us, pk_us]
    exact ⟨rfl, rfl⟩
  · rw [pk_un q, pk_un q]
    exact z4 k k1 (by omega)
theorem r_img1 (hN : v0.1 1 = nI N) (h10 : N ≤ 10) (h : ∀ w, Cp v0 w 13 14 0 1 (N + 1) → K (nI (N + 1)) w) : ∀ (i s : Nat) (z : SS), 1 ≤ s → s + i = N + 1 → Cp v0 z 13 14 0 1 s → wX5_image_41 post K (i + 1) (nI s) z := by
  intro i
  induction i with
  | zero =>
    intro s z h1 h2 hz
    have : s = N + 1 := by omega
    subst this
    refine br_t ?_ (h z hz)
    rw [hz.1, hN]
    exact (nI_ltI (by omega) (by omega)).mpr (by omega)
  | succ i ih =>
    intro s z h1 h2 hz
    have hin : vp_in (nI s) 11 := vp_in_nI (by omega) (by omega)
    rw [wX5_image_41, hz.1, hN, nI_clamp (by omega), nI_1]
    refine br_f (fun z => absurd ((nI_ltI (by omega) (by omega)).mp z) (by omega)) ⟨hin, hin, hin, hin, ?_⟩
    exact ih (s + 1) _ (by omega) (by omega) (hz.st (by decide) (by decide) (by decide) (by decide) (by decide))
theorem r_res1 (hN : v0.1 1 = nI N) (h10 : N ≤ 10) (h : ∀ w, Cp v0 w 0 1 13 14 (N + 1) → K (nI (N + 1)) w) : ∀ (i s : Nat) (z : SS), 1 ≤ s → s + i = N + 1 → Cp v0 z 0 1 13 14 s → wX5_restore_39 post K (i + 1) (nI s) z := by
  intro i
  induction i with
  | zero =>
    intro s z h1 h2 hz
    have : s = N + 1 := by omega
    subst this
    refine br_t ?_ (h z hz)
    rw [hz.1, hN]
    exact (nI_ltI (by omega) (by omega)).mpr (by omega)
  | succ i ih =>
    intro s z h1 h2 hz
    have hin : vp_in (nI s) 11 := vp_in_nI (by omega) (by omega)
    rw [wX5_restore_39, hz.1, hN, nI_clamp (by omega), nI_1]
    refine br_f (fun z => absurd ((nI_ltI (by omega) (by omega)).mp z) (by omega)) ⟨hin, hin, hin, hin, ?_⟩
    exact ih (s + 1) _ (by omega) (by omega) (hz.st (by decide) (by decide) (by decide) (by decide) (by decide))
def Cq (v0 w : SS) (t : Nat) (o s : Nat) : Prop := w.1 = v0.1 ∧ w.2.1 = v0.2.1 ∧ (∀ j : Nat, j ≠ t → j ≠ t + 1 → j ≠ t + 2 → w.2.2 j = v0.2.2 j) ∧ ∀ k : Nat, k < s → w.2.2 t k = v0.2.2 o k ∧ w.2.2 (t + 1) k = v0.2.2 (o + 1) k ∧ w.2.2 (t + 2) k = v0.2.2 (o + 2) k
theorem Cq.st {z : SS} {t o s : Nat} (hto : t + 3 ≤ o ∨ o + 3 ≤ t) (h : Cq v0 z t o s) : Cq v0 (sA (sA (sA z t s (z.2.2 o s)) (t + 1) s ((sA z t s (z.2.2 o s)).2.2 (o + 1) s)) (t + 2) s ((sA (sA z t s (z.2.2 o s)) (t + 1) s ((sA z t s (z.2.2 o s)).2.2 (o + 1) s)).2.2 (o + 2) s)) t o (s + 1) := by
  obtain ⟨z1, z2, z3, z4⟩ := h
  refine ⟨z1, z2, fun j ja jb jc => by rw [sA_ne _ _ _ jc, sA_ne _ _ _ jb, sA_ne _ _ _ ja]; exact z3 j ja jb jc, fun k k2 => ?_⟩
  have e1 : (sA z t s (z.2.2 o s)).2.2 (o + 1) = v0.2.2 (o + 1) := by rw [sA_ne _ _ _ (by omega)]; exact z3 _ (by omega) (by omega) (by omega)
  have e2 : (sA (sA z t s (z.2.2 o s)) (t + 1) s ((sA z t s (z.2.2 o s)).2.2 (o + 1) s)).2.2 (o + 2) = v0.2.2 (o + 2) := by rw [sA_ne _ _ _ (by omega), sA_ne _ _ _ (by omega)]; exact z3 _ (by omega) (by omega) (by omega)
  have e0 : z.2.2 o = v0.2.2 o := z3 _ (by omega) (by omega) (by omega)
  rw [e2, e1, e0]
  have f0 : (sA (sA (sA z t s (v0.2.2 o s)) (t + 1) s (v0.2.2 (o + 1) s)) (t + 2) s (v0.2.2 (o + 2) s)).2.2 t = upd (z.2.2 t) s (v0.2.2 o s) := by rw [sA_ne _ _ _ (by omega), sA_ne _ _ _ (by omega), sA_at]
  have f1 : (sA (sA (sA z t s (v0.2.2 o s)) (t + 1) s (v0.2.2 (o + 1) s)) (t + 2) s (v0.2.2 (o + 2) s)).2.2 (t + 1) = upd (z.2.2 (t + 1)) s (v0.2.2 (o + 1) s) := by rw [sA_ne _ _ _ (by omega), sA_at, sA_ne _ _ _ (by omega)]
  have f2 : (sA (sA (sA z t s (v0.2.2 o s)) (t + 1) s (v0.2.2 (o + 1) s)) (t + 2) s (v0.2.2 (o + 2) s)).2.2 (t + 2) = upd (z.2.2 (t + 2)) s (v0.2.2 (o + 2) s) := by rw [sA_at, sA_ne _ _ _ (by omega), sA_ne _ _ _ (by omega)]
  rw [f0, f1, f2]
  by_cases q : k = s
  · subst q
    rw [pk_us, pk_us, pk_us]
    exact ⟨rfl, rfl, rfl⟩
  · rw [pk_un q, pk_un q, pk_un q]
    exact z4 k (by omega)
theorem r_img2 (h : ∀ w, Cq v0 w 15 2 6 → K (nI 6) w) : ∀ (i s : Nat) (z : SS), s + i = 6 → Cq v0 z 15 2 s → wX5_image_81 post K (i + 1) (nI s) z := by
  intro i
  induction i with
  | zero =>
    intro s z h2 hz
    have : s = 6 := by omega
    subst this
    exact br_t (by decide) (h z hz)
  | succ i ih =>
    intro s z h2 hz
    have hin : vp_in (nI s) 6 := vp_in_nI (by omega) (by omega)
    rw [wX5_image_81, nI_clamp (by omega), nI_1]
    refine br_f (fun z => absurd ((nI_leI (a := 6) (by omega) (by omega)).mp z) (by omega)) ⟨hin, hin, hin, hin, hin, hin, ?_⟩
    exact ih (s + 1) _ (by omega) (hz.st (by omega))
theorem r_res2 (h : ∀ w, Cq v0 w 2 15 6 → K (nI 6) w) : ∀ (i s : Nat) (z : SS), s + i = 6 → Cq v0 z 2 15 s → wX5_restore_79 post K (i + 1) (nI s) z := by
  intro i
  induction i with
  | zero =>
    intro s z h2 hz
    have : s = 6 := by omega
    subst this
    exact br_t (by decide) (h z hz)
  | succ i ih =>
    intro s z h2 hz
    have hin : vp_in (nI s) 6 := vp_in_nI (by omega) (by omega)
    rw [wX5_restore_79, nI_clamp (by omega), nI_1]
    refine br_f (fun z => absurd ((nI_leI (a := 6) (by omega) (by omega)).mp z) (by omega)) ⟨hin, hin, hin, hin, hin, hin, ?_⟩
    exact ih (s + 1) _ (by omega) (hz.st (by omega))
end COPY
theorem kt_of {d : Dt} (hd : DV d) {k : Nat} (h1 : 1 ≤ k) (h2 : k ≤ d.N) : KT d.C (d.κ k) (d.τ k) := ⟨hd.2.1 k h1 h2, hd.2.2.1 k h1 h2⟩
theorem st_image : St_image Rel := by
  intro n u v _ h
  obtain ⟨d, hd, hx, hm, hc, hb, hk, hi⟩ := h
  have hn := hd.n
  have same : Rel u v (n + 1) := rz hd hx hm hb hk hi (XEq.rf u) hc (MEq.rf v)
  refine q_there hd hx (fun h0 => bn_f (by decide) ?_) (fun e => bn_t rfl (bn_t (by rw [hm.1.1, e]; rfl) ⟨rfl, same⟩))
  have hbd := hd.b h0
  unfold wX0_copyFrom_5_2 wX3_copyFrom_6_3
  dsimp only
  generalize hU : (sI (sI (xcpy (xcpy (xcpy (sI (sI (sI (xcpy (xcpy u 1 8) 2 9) 12 ((xcpy (xcpy u 1 8) 2 9).1 3)) 13 ((sI (xcpy (xcpy u 1 8) 2 9) 12 ((xcpy (xcpy u 1 8) 2 9).1 3)).1 4)) 14 ((sI (sI (xcpy (xcpy u 1 8) 2 9) 12 ((xcpy (xcpy u 1 8) 2 9).1 3)) 13 ((sI (xcpy (xcpy u 1 8) 2 9) 12 ((xcpy (xcpy u 1 8) 2 9).1 3)).1 4)).1 5)) 3 10) 4 11) 5 12) 15 ((xcpy (xcpy (xcpy (sI (sI (sI (xcpy (xcpy u 1 8) 2 9) 12 ((xcpy (xcpy u 1 8) 2 9).1 3)) 13 ((sI (xcpy (xcpy u 1 8) 2 9) 12 ((xcpy (xcpy u 1 8) 2 9).1 3)).1 4)) 14 ((sI (sI (xcpy (xcpy u 1 8) 2 9) 12 ((xcpy (xcpy u 1 8) 2 9).1 3)) 13 ((sI (xcpy (xcpy u 1 8) 2 9) 12 ((xcpy (xcpy u 1 8) 2 9).1 3)).1 4)).1 5)) 3 10) 4 11) 5 12).1 6)) 0 1) = U
  have i0 : U.1 0 = 1 := by rw [← hU]; rfl
  have iS : ∀ i : Nat, 1 ≤ i → i < 12 → U.1 i = u.1 i := fun i a b => by
    rw [← hU]
    rw [sI_ne _ _ (by omega), sI_ne _ _ (by omega)]
    show (sI (sI (sI (xcpy (xcpy u 1 8) 2 9) 12 _) 13 _) 14 _).1 i = _
    rw [sI_ne _ _ (by omega), sI_ne _ _ (by omega), sI_ne _ _ (by omega)]
    rfl
  have i12 : U.1 12 = u.1 3 := by rw [← hU]; rfl
  have i13 : U.1 13 = u.1 4 := by rw [← hU]; rfl
  have i14 : U.1 14 = u.1 5 := by rw [← hU]; rfl
  have i15 : U.1 15 = u.1 6 := by rw [← hU]; rfl
  have rS : ∀ j : Nat, j < 8 → U.2.2 j = u.2.2 j := fun j a => by
    rw [← hU]
    show (xcpy (xcpy (xcpy (sI (sI (sI (xcpy (xcpy u 1 8) 2 9) 12 _) 13 _) 14 _) 3 10) 4 11) 5 12).2.2 j = _
    unfold xcpy
    rw [sR_ne _ _ (by omega), sR_ne _ _ (by omega), sR_ne _ _ (by omega)]
    show (sR (sR u 8 _) 9 _).2.2 j = _
    rw [sR_ne _ _ (by omega), sR_ne _ _ (by omega)]
  have r8 : ∀ k, k < 11 → U.2.2 8 k = u.2.2 1 k := fun k a => by
    rw [← hU]
    show (xcpy u 1 8).2.2 8 k = _
    exact xcp (by show k < 11; exact a)
  have r9 : ∀ k, k < 11 → U.2.2 9 k = u.2.2 2 k := fun k a => by
    rw [← hU]
    show (xcpy (xcpy u 1 8) 2 9).2.2 9 k = _
    exact xcp (by show k < 11; exact a)
  have r10 : ∀ k, k < 6 → U.2.2 10 k = u.2.2 3 k := fun k a => by
    rw [← hU]
    show (xcpy (sI (sI (sI (xcpy (xcpy u 1 8) 2 9) 12 _) 13 _) 14 _) 3 10).2.2 10 k = _
    exact xcp (by show k < 6; exact a)
  have r11 : ∀ k, k < 6 → U.2.2 11 k = u.2.2 4 k := fun k a => by
    rw [← hU]
    show (xcpy (xcpy (sI (sI (sI (xcpy (xcpy u 1 8) 2 9) 12 _) 13 _) 14 _) 3 10) 4 11).2.2 11 k = _
    exact xcp (by show k < 6; exact a)
  have r12 : ∀ k, k < 6 → U.2.2 12 k = u.2.2 5 k := fun k a => by
    rw [← hU]
    show (xcpy (xcpy (xcpy (sI (sI (sI (xcpy (xcpy u 1 8) 2 9) 12 _) 13 _) 14 _) 3 10) 4 11) 5 12).2.2 12 k = _
    exact xcp (by show k < 6; exact a)
  clear hU
  refine bn_f (by rw [hm.1.1]; exact nI_ne0 (by omega) (by omega)) ⟨d.N + 1, ?_⟩
  refine r_img1 (v0 := sI (sI (sI (sI v 9 1) 10 (v.1 0)) 11 (v.1 3)) 12 (v.1 4)) hm.1.1 hn.1 (fun w hw => ⟨7, ?_⟩) d.N 1 _ (by omega) (by omega) ⟨rfl, rfl, fun _ _ _ => rfl, fun k a b => by omega⟩
  refine r_img2 (v0 := w) (fun y hy => ?_) 6 0 w (by omega) ⟨rfl, rfl, fun _ _ _ _ => rfl, fun k a => by omega⟩
  obtain ⟨w1, w2, w3, w4⟩ := hw
  obtain ⟨y1, y2, y3, y4⟩ := hy
  have yi : y.1 = (sI (sI (sI (sI v 9 1) 10 (v.1 0)) 11 (v.1 3)) 12 (v.1 4)).1 := y1.trans w1
  have yr : ∀ j : Nat, j < 13 → y.2.2 j = v.2.2 j := fun j a => by rw [y3 j (by omega) (by omega) (by omega), w3 j (by omega) (by omega)]; rfl
  have yS : ∀ i : Nat, i < 9 → y.1 i = v.1 i := fun i a => by
    rw [yi, sI_ne _ _ (by omega), sI_ne _ _ (by omega), sI_ne _ _ (by omega), sI_ne _ _ (by omega)]
  have hx2 : XD d U := by
    unfold XD xB pgX at hx ⊢
    rw [iS 1 (by omega) (by omega), iS 2 (by omega) (by omega), iS 3 (by omega) (by omega), iS 4 (by omega) (by omega), iS 5 (by omega) (by omega), iS 6 (by omega) (by omega), rS 0 (by omega), rS 1 (by omega), rS 2 (by omega), rS 3 (by omega), rS 4 (by omega), rS 5 (by omega)]
    exact hx
  have hm2 : MD d y := by
    unfold MD pgM at hm ⊢
    rw [yS 0 (by omega), yS 1 (by omega), yS 2 (by omega), yS 3 (by omega), yS 4 (by omega), yS 5 (by omega), yr 0 (by omega), yr 1 (by omega), yr 2 (by omega), yr 3 (by omega), yr 4 (by omega), yr 5 (by omega)]
    exact hm
  have hc2 : CKd d U := by
    unfold CKd Kep at hc ⊢
    rw [iS 11 (by omega) (by omega), iS 7 (by omega) (by omega), iS 8 (by omega) (by omega), rS 7 (by omega)]
    exact hc
  have y9 : y.1 9 = 1 := by rw [yi]; rfl
  have y10 : y.1 10 = v.1 0 := by rw [yi]; rfl
  have y11 : y.1 11 = v.1 3 := by rw [yi]; rfl
  have y12 : y.1 12 = v.1 4 := by rw [yi]; rfl
  refine ⟨by rw [iS 5 (by omega) (by omega), yS 3 (by omega)]; exact hx.2.2.1.trans hm.2.2.1.symm, d, hd, hx2, hm2, hc2, by omega, ⟨⟨d.bd, Nat.le_refl _, by rw [y10]; exact hm.2.2.2.2.2⟩, Or.inr y9⟩, Or.inl ⟨i0, y9, by rw [y10, yS 0 (by omega)], by rw [i12]; exact hx.1.1, by rw [i13]; exact hx.1.2.1, ⟨d.ch, hd.2.2.2.2.2.2.2.1, by rw [i14]; exact hx.2.2.1, by rw [y11]; exact hm.2.2.1⟩, ⟨d.S, hd.2.2.2.2.2.1, by rw [i15]; exact hx.2.2.2.1, by rw [y12]; exact hm.2.2.2.1⟩, fun k k1 k2 => ?_, fun k k6 => ?_⟩⟩
  · have wk := w4 k k1 (by omega)
    rw [r8 k (by omega), r9 k (by omega), y3 13 (by decide) (by decide) (by decide), y3 14 (by decide) (by decide) (by decide), wk.1, wk.2]
    have e1 : (sI (sI (sI (sI v 9 1) 10 (v.1 0)) 11 (v.1 3)) 12 (v.1 4)).2.2 0 k = d.κ k := hm.1.2.2.1 k k1 k2
    have e2 : (sI (sI (sI (sI v 9 1) 10 (v.1 0)) 11 (v.1 3)) 12 (v.1 4)).2.2 1 k = d.τ k := hm.1.2.2.2 k k1 k2
    rw [e1, e2, hx.1.2.2.1 k k1 k2, hx.1.2.2.2 k k1 k2]
    exact ⟨kt_of hd k1 k2, rfl, rfl⟩
  · have yk := y4 k k6
    have xk := hx.2.2.2.2.1 k k6
    have mk := hm.2.2.2.2.1 k k6
    have e2 : w.2.2 2 k = d.f k := by rw [w3 2 (by decide) (by decide)]; exact mk.1
    have e3 : w.2.2 (2 + 1) k = d.g k := by rw [w3 (2 + 1) (by decide) (by decide)]; exact mk.2.1
    have e4 : w.2.2 (2 + 2) k = d.h k := by rw [w3 (2 + 2) (by decide) (by decide)]; exact mk.2.2
    have f15 : y.2.2 15 k = d.f k := yk.1.trans e2
    have f16 : y.2.2 16 k = d.g k := yk.2.1.trans e3
    have f17 : y.2.2 17 k = d.h k := yk.2.2.trans e4
    rw [r10 k k6, r11 k k6, r12 k k6, f15, f16, f17, xk.1, xk.2.1, xk.2.2]
    exact ⟨rfl, rfl, rfl, hd.2.2.2.2.2.2.1 k k6⟩
