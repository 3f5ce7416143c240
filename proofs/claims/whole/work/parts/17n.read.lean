/-! the page, as the reference reads it; the boards -/
theorem sI_sI (u : SS) (i : Nat) (x y : Int32) : sI (sI u i x) i y = sI u i y := by
  show (upd (upd u.1 i x) i y, u.2) = _
  rw [upd_upd]
  rfl
theorem kb_cases {c : Int32} (h1 : ¬ c = 102) (h2 : ¬ c = 108) (h3 : ¬ c = 110) (h4 : ¬ c = 111) (h5 : ¬ c = 115) : kb c = -1 := by
  have b0 : ¬ (xby 0 == c) = true := by
    have : ¬ (110 : Int32) = c := fun z => h3 z.symm
    simpa [xby] using this
  have b1 : ¬ (xby 1 == c) = true := by
    have : ¬ (108 : Int32) = c := fun z => h2 z.symm
    simpa [xby] using this
  have b2 : ¬ (xby 2 == c) = true := by
    have : ¬ (102 : Int32) = c := fun z => h1 z.symm
    simpa [xby] using this
  have b3 : ¬ (xby 3 == c) = true := by
    have : ¬ (115 : Int32) = c := fun z => h5 z.symm
    simpa [xby] using this
  have b4 : ¬ (xby 4 == c) = true := by
    have : ¬ (111 : Int32) = c := fun z => h4 z.symm
    simpa [xby] using this
  unfold kb
  rw [fst1, if_neg b0, fst1, if_neg b1, fst1, if_neg b2, fst1, if_neg b3, fst1, if_neg b4, fst1]
theorem p5_kindBy {c : Int32} {v : SS} {post : Int32 → SS → Prop} (h : post (kb c) v) : wX5_kindBy c v post := by
  refine ⟨fun e => ?_, fun e => ?_, fun e => ?_, fun e => ?_, fun e => ?_, fun e1 e2 e3 e4 e5 => ?_⟩
  · rw [e, show kb 102 = 2 by decide] at h; exact h
  · rw [e, show kb 108 = 1 by decide] at h; exact h
  · rw [e, show kb 110 = 0 by decide] at h; exact h
  · rw [e, show kb 111 = 4 by decide] at h; exact h
  · rw [e, show kb 115 = 3 by decide] at h; exact h
  · rw [kb_cases e1 e2 e3 e4 e5] at h; exact h
section PPAGE
variable {L : Nat} {ρ : Nat → Int32} {v : SS} {post : Int32 → SS → Prop}
def pgM (L : Nat) (ρ : Nat → Int32) (v : SS) : Prop := v.1 5 = nI L ∧ ∀ k, k < L → v.2.2 5 k = ρ k
theorem p5_at (hv : pgV L ρ) (hu : pgM L ρ v) {k : Nat} (hk : k < 100) (h : post (ca L ρ k) v) : wX5_at (nI k) v post := by
  have hL := hv.1
  unfold ca at h
  refine ⟨fun q => ?_, fun q => ?_⟩
  · rw [hu.1] at q
    rw [if_neg (by have := (nI_leI (by omega) (by omega)).mp q; omega)] at h
    exact h
  · rw [hu.1] at q
    have hkL : k < L := by
      apply Classical.byContradiction
      intro z
      exact q (nI_le (by omega) (by omega))
    rw [if_pos hkL, ← hu.2 k hkL] at h
    rw [nI_clamp (by omega)]
    exact ⟨vp_in_nI (by omega) (by omega), h⟩
theorem p5_kinds_loop (hv : pgV L ρ) (hu : pgM L ρ v) {K : Int32 → SS → Prop} : ∀ (j m : Nat), m + j = 10 → K (nI (2 + ktF (fun k => !(kb (ca L ρ (2 + k)) == -1)) j m)) (sI v 7 (nI (ktF (fun k => !(kb (ca L ρ (2 + k)) == -1)) j m))) → wX5_readKinds_2 post K (j + 1) (nI (2 + m)) (sI v 7 (nI m)) := by
  intro j
  induction j with
  | zero =>
    intro m hm h
    have : m = 10 := by omega
    subst this
    rw [ktF] at h
    refine br_t ?_ h
    rw [sI_at]
    decide
  | succ j ih =>
    intro m hm h
    rw [ktF] at h
    have hu2 : pgM L ρ (sI v 7 (nI m)) := ⟨(sI_ne _ _ (by decide)).trans hu.1, hu.2⟩
    rw [wX5_readKinds_2, sI_at]
    refine br_f (fun z => absurd ((nI_leI (a := 10) (by omega) (by omega)).mp z) (by omega)) ?_
    refine p5_at hv hu2 (by omega) (p5_kindBy ?_)
    rw [sI_at, nI_1, nI_1, sI_sI]
    by_cases q : kb (ca L ρ (2 + m)) = -1
    · rw [if_neg (by simp [q])] at h
      exact br_t q h
    · rw [if_pos (by simpa using q)] at h
      exact br_f q (ih (m + 1) (by omega) h)
theorem wn_1 : ∀ y : Nat, y < 127 → ((nI y - 48 < 2 ∨ 3 < nI y - 48) ↔ ¬ (y = 50 ∨ y = 51)) := by decide +kernel
theorem wn_2 : ∀ x : Nat, x < 127 → ¬ x = 46 → ((nI x - 97 < 0 ∨ nI 2 - 1 < nI x - 97) ↔ sgB (nI 50) (nI x) = false) := by decide +kernel
theorem wn_3 : ∀ x : Nat, x < 127 → ¬ x = 46 → ((nI x - 97 < 0 ∨ nI 3 - 1 < nI x - 97) ↔ sgB (nI 51) (nI x) = false) := by decide +kernel
theorem wn_23 {C x : Nat} (hC : C = 2 ∨ C = 3) (hx : x < 127) (h : ¬ x = 46) : (nI x - 97 < 0 ∨ nI C - 1 < nI x - 97) ↔ sgB (nI (48 + C)) (nI x) = false := by
  rcases hC with rfl | rfl
  · exact wn_2 x hx h
  · exact wn_3 x hx h
theorem sg_46 (c0 : Int32) : sgB c0 46 = true := by simp [sgB]
theorem sg_0 (c0 : Int32) : sgB c0 0 = false := by simp [sgB]
theorem p5_signs_loop (hv : pgV L ρ) (hu : pgM L ρ v) {C Kn fr : Nat} (hC : C = 2 ∨ C = 3) (h0 : ca L ρ 0 = nI (48 + C)) (h7 : v.1 7 = nI Kn) (hb : fr + Kn < 50) {K : Int32 → SS → Prop} : ∀ (j k : Nat), k + j = fr + Kn → K (nI (ktF (fun i => sgB (ca L ρ 0) (ca L ρ i)) j k)) v → wX5_readSigns_2 post (nI fr) (nI C) K (j + 1) (nI k) v := by
  intro j
  induction j with
  | zero =>
    intro k hk h
    rw [wX5_readSigns_2, h7, nI_add]
    exact br_t (nI_le (by omega) (by omega)) h
  | succ j ih =>
    intro k hk h
    rw [ktF] at h
    obtain ⟨x, hx, ex⟩ := ca_v hv k
    rw [wX5_readSigns_2, h7, nI_add, nI_1]
    refine br_f (fun z => absurd ((nI_leI (by omega) (by omega)).mp z) (by omega)) ?_
    refine p5_at hv hu (by omega) ⟨fun q => ?_, fun q => p5_at hv hu (by omega) ?_⟩
    · rw [q, sg_46] at h
      exact ih (k + 1) (by omega) h
    · rw [ex] at h q ⊢
      have hx46 : ¬ x = 46 := fun z => q (by rw [z]; rfl)
      have hw := wn_23 hC hx hx46
      rw [h0] at h
      unfold wX5_within
      cases hs : sgB (nI (48 + C)) (nI x) with
      | true =>
        rw [hs] at h
        have i := ih (k + 1) (by omega) (by rw [h0]; exact h)
        have hn : ¬ (nI x - 97 < 0 ∨ nI C - 1 < nI x - 97) := fun z => by rw [hw.mp z] at hs; exact absurd hs (by decide)
        exact br_f (fun z => hn (Or.inl z)) (br_f (fun z => hn (Or.inr z)) (br_f (by decide) i))
      | false =>
        rw [hs] at h
        have hy := hw.mpr hs
        refine ⟨fun _ => br_t rfl h, fun z => ?_⟩
        rcases hy with hy | hy
        · exact absurd hy z
        · exact br_t hy (br_t rfl h)
def Rdv (v w : SS) : Prop := (∀ i : Nat, i ≠ 6 → i ≠ 7 → w.1 i = v.1 i) ∧ w.2 = v.2
theorem p5_read (hv : pgV L ρ) (hu : pgM L ρ v) (h : ∀ w, Rdv v w → (isB L ρ → w.1 6 = 1 ∧ w.1 7 = nI (kt (ca L ρ))) → (¬ isB L ρ → w.1 6 = 0) → post (nI (rd L ρ)) w) : wX5_read v post := by
  have hL := hv.1
  have hk10 := kt_le (ca L ρ)
  have g0 : Rdv v (sI (sI v 6 0) 7 0) := ⟨fun i a b => (sI_ne _ _ b).trans (sI_ne _ _ a), rfl⟩
  have hu0 : pgM L ρ (sI (sI v 6 0) 7 0) := ⟨(g0.1 5 (by decide) (by decide)).trans hu.1, hu.2⟩
  have z6 : (sI (sI v 6 0) 7 0).1 6 = 0 := (sI_ne _ _ (by decide)).trans (sI_at _ _ _)
  obtain ⟨y, hy, ey⟩ := ca_v hv 0
  refine p5_at hv hu0 (k := 0) (by omega) ?_
  rw [ey]
  have hw := wn_1 y hy
  unfold wX5_within
  by_cases hc : y = 50 ∨ y = 51
  · have hn : ¬ (nI y - 48 < 2 ∨ 3 < nI y - 48) := fun z => hw.mp z hc
    refine br_f (fun z => hn (Or.inl z)) (br_f (fun z => hn (Or.inr z)) (bn_f (by decide) ?_))
    have f0 : ∀ K, ftB (ca L ρ) K 0 = true := fun K => by
      unfold ftB
      rw [if_pos rfl, ey]
      rcases hc with rfl | rfl <;> decide
    have hL1 : 1 ≤ L := by
      apply Classical.byContradiction
      intro z
      rw [ca_out (by omega)] at ey
      have := (nI_eq (a := 0) (by omega) (by omega)).mp ey
      omega
    refine p5_at hv hu0 (k := 1) (by omega) ⟨fun h1 => ?_, fun h1 => ?_⟩
    · have hL2 : 2 ≤ L := by
        apply Classical.byContradiction
        intro z
        rw [ca_out (by omega)] at h1
        exact absurd h1 (by decide)
      refine ⟨11, p5_kinds_loop (v := sI v 6 0) hv ⟨(sI_ne _ _ (by decide)).trans hu.1, hu.2⟩ 10 0 (by omega) ?_⟩
      show ((_ → _) ∧ (_ → _))
      rw [show ktF (fun k => !(kb (ca L ρ (2 + k)) == -1)) 10 0 = kt (ca L ρ) from rfl]
      have g7 : Rdv v (sI (sI v 6 0) 7 (nI (kt (ca L ρ)))) := ⟨fun i a b => (sI_ne _ _ b).trans (sI_ne _ _ a), rfl⟩
      have hu7 : pgM L ρ (sI (sI v 6 0) 7 (nI (kt (ca L ρ)))) := ⟨(g7.1 5 (by decide) (by decide)).trans hu.1, hu.2⟩
      have z76 : (sI (sI v 6 0) 7 (nI (kt (ca L ρ)))).1 6 = 0 := (sI_ne _ _ (by decide)).trans (sI_at _ _ _)
      have hkL : 2 + kt (ca L ρ) ≤ L := by
        rcases Nat.eq_zero_or_pos (kt (ca L ρ)) with e | e
        · omega
        · have := kt_in (L := L) (ρ := ρ) (k := kt (ca L ρ) - 1) (by omega)
          omega
      have flow : ∀ i, i < 2 + kt (ca L ρ) → ftB (ca L ρ) (kt (ca L ρ)) i = true := fun i hi => by
        by_cases e0 : i = 0
        · subst e0; exact f0 _
        · by_cases e1 : i < 2
          · have : i = 1 := by omega
            subst this
            unfold ftB
            rw [if_neg e0, if_pos e1, h1]
            decide
          · unfold ftB
            rw [if_neg e0, if_neg e1, if_pos hi]
      have early : ftB (ca L ρ) (kt (ca L ρ)) (2 + kt (ca L ρ)) = false → post (nI (2 + kt (ca L ρ))) (sI (sI v 6 0) 7 (nI (kt (ca L ρ)))) := fun hf => by
        have er : rd L ρ = 2 + kt (ca L ρ) := ktF_of L 0 _ (Nat.zero_le _) (by omega) (fun i _ hi => flow i hi) (fun _ => hf)
        have := h _ g7 (fun hB => by have a := hB.1; have b := hB.2; omega) (fun _ => z76)
        rw [er] at this
        exact this
      have eF : ftB (ca L ρ) (kt (ca L ρ)) (2 + kt (ca L ρ)) = (ca L ρ (2 + kt (ca L ρ)) == 59 && decide (4 ≤ kt (ca L ρ))) := by
        unfold ftB
        rw [if_neg (by omega), if_neg (by omega), if_neg (by omega), if_pos rfl]
      rw [sI_at]
      by_cases q4 : kt (ca L ρ) < 4
      · exact br_t ((nI_ltI (b := 4) (by omega) (by omega)).mpr q4) (early (by rw [eF, decide_eq_false (by omega), Bool.and_false]))
      · refine br_f (fun z => q4 ((nI_ltI (b := 4) (by omega) (by omega)).mp z)) ?_
        refine p5_at hv hu7 (by omega) ⟨fun hs => ?_, fun hs => early (by rw [eF]; simp [hs])⟩
        obtain ⟨C, hC, eC⟩ : ∃ C : Nat, (C = 2 ∨ C = 3) ∧ y = 48 + C := by
          rcases hc with e | e
          · exact ⟨2, Or.inl rfl, e⟩
          · exact ⟨3, Or.inr rfl, e⟩
        have ec48 : nI y - (48 : Int32) = nI C := by rw [eC, show (48 : Int32) = nI 48 from rfl, pk_sub (by omega), Nat.add_sub_cancel_left]
        rw [ec48, nI_1]
        have sp := ktF_sp (fun i => sgB (ca L ρ 0) (ca L ρ i)) (kt (ca L ρ)) (2 + kt (ca L ρ) + 1)
        have h3L : 2 + kt (ca L ρ) < L := by
          apply Classical.byContradiction
          intro z
          rw [ca_out (by omega)] at hs
          exact absurd hs (by decide)
        refine ⟨kt (ca L ρ) + 1, p5_signs_loop hv hu7 hC (by rw [ey, eC]) (sI_at _ _ _) (by omega) (kt (ca L ρ)) (2 + kt (ca L ρ) + 1) (by omega) ?_⟩
        generalize hm : ktF (fun i => sgB (ca L ρ 0) (ca L ρ i)) (kt (ca L ρ)) (2 + kt (ca L ρ) + 1) = m at sp ⊢
        obtain ⟨s1, s2, s3, s4⟩ := sp
        have hmL : m ≤ L := by
          apply Classical.byContradiction
          intro z
          have := s3 L (by omega) (by omega)
          rw [show ca L ρ L = 0 from ca_out (Nat.le_refl _), sg_0] at this
          exact absurd this (by decide)
        have er : rd L ρ = m := ktF_of L 0 m (Nat.zero_le _) (by omega) (fun i _ hi => by
            by_cases e1 : i < 2 + kt (ca L ρ)
            · exact flow i e1
            · by_cases e2 : i = 2 + kt (ca L ρ)
              · rw [e2, eF, hs, decide_eq_true (by omega)]; rfl
              · unfold ftB
                rw [if_neg (by omega), if_neg (by omega), if_neg e1, if_neg e2, decide_eq_true (by omega), Bool.true_and]
                exact s3 i (by omega) hi) (fun hlt => by
            unfold ftB
            rw [if_neg (by omega), if_neg (by omega), if_neg (by omega), if_neg (by omega)]
            by_cases e : m ≤ 2 + kt (ca L ρ) + kt (ca L ρ)
            · rw [s4 (by omega), Bool.and_false]
            · rw [decide_eq_false e]; rfl)
        have g6 : ∀ b, Rdv v (sI (sI (sI v 6 0) 7 (nI (kt (ca L ρ)))) 6 b) := fun b => ⟨fun i a c => (sI_ne _ _ a).trans (g7.1 i a c), rfl⟩
        have e7 : ∀ b, (sI (sI (sI v 6 0) 7 (nI (kt (ca L ρ)))) 6 b).1 7 = nI (kt (ca L ρ)) := fun b => (sI_ne _ _ (by decide)).trans (sI_at _ _ _)
        rw [sI_at, nI_add, show (sI (sI v 6 0) 7 (nI (kt (ca L ρ)))).1 5 = nI L from hu7.1]
        have fn : ¬ isB L ρ → post (nI m) (sI (sI (sI v 6 0) 7 (nI (kt (ca L ρ)))) 6 0) := fun hn => by
          have := h _ (g6 0) (fun z => absurd z hn) (fun _ => sI_at _ _ _)
          rw [er] at this
          exact this
        refine ⟨fun a => fn (fun z => a ?_), fun a => ⟨fun b => fn (fun z => b ?_), fun b => ?_⟩⟩
        · have c1 := z.1
          have c2 := z.2
          congr 1
          omega
        · have c2 := z.2
          congr 1
          omega
        · have a2 := (nI_eq (by omega) (by omega)).mp a
          have b2 := (nI_eq (by omega) (by omega)).mp b
          have hB : isB L ρ := ⟨by omega, by omega⟩
          have := h _ (g6 1) (fun _ => ⟨sI_at _ _ _, e7 1⟩) (fun z => absurd hB z)
          rw [er] at this
          exact this
    · have er : rd L ρ = 1 := ktF_of L 0 1 (Nat.zero_le _) (by omega) (fun i _ hi => by
        have : i = 0 := by omega
        subst this
        exact f0 _) (fun _ => by
        unfold ftB
        rw [if_neg (by decide), if_pos (by decide)]
        simpa using h1)
      have := h _ g0 (fun hB => by have a := hB.1; have b := hB.2; omega) (fun _ => z6)
      rw [er] at this
      exact this
  · have f0 : ∀ K, ftB (ca L ρ) K 0 = false := fun K => by
      unfold ftB
      rw [if_pos rfl, ey]
      have a : ¬ nI y = 50 := fun z => hc (Or.inl ((nI_eq (b := 50) (by omega) (by omega)).mp z))
      have b : ¬ nI y = 51 := fun z => hc (Or.inr ((nI_eq (b := 51) (by omega) (by omega)).mp z))
      simp [a, b]
    have er : rd L ρ = 0 := ktF_of L 0 0 (Nat.zero_le _) (by omega) (fun i _ hi => by omega) (fun _ => f0 _)
    have hfin := h _ g0 (fun hB => by have a := hB.1; have b := hB.2; omega) (fun _ => z6)
    rw [er] at hfin
    refine ⟨fun _ => bn_t rfl hfin, fun z => ?_⟩
    rcases hw.mpr hc with q | q
    · exact absurd q z
    · exact br_t q (bn_t rfl hfin)
end PPAGE
