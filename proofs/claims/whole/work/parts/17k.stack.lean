/-! who wins, by the reference's stack -/
section STACK
variable {post : Int32 → SS → Prop} {x1 : Int32} {K : Int32 → SS → Prop}
def ovI (post : Int32 → SS → Prop) (x1 : Int32) (K : Int32 → SS → Prop) (m : Nat) (x2 : Int32) (w : SS) : Prop := (((x2 + (-1 : Int32)) < 0 → wX5_winNow_42 post x1 K m (x2 + (-1 : Int32)) w) ∧ (¬ (x2 + (-1 : Int32)) < 0 → (vp_in ((x2 + (-1 : Int32)) + (1 : Int32)) 11 ∧ ((¬ (w.2.2 12 ((x2 + (-1 : Int32)) + (1 : Int32)).toNatClampNeg) = (-1 : Int32) → wX5_winNow_42 post x1 K m (x2 + (-1 : Int32)) w) ∧ ((w.2.2 12 ((x2 + (-1 : Int32)) + (1 : Int32)).toNatClampNeg) = (-1 : Int32) → (vp_in (x2 + (-1 : Int32)) 11 ∧ (vp_in (x2 + (-1 : Int32)) 11 ∧ wX5_winNow_42 post x1 K m (x2 + (-1 : Int32)) (sA w 12 (x2 + (-1 : Int32)).toNatClampNeg ((w.2.2 11 (x2 + (-1 : Int32)).toNatClampNeg) - (1 : Int32))))))))))
def NxF (post : Int32 → SS → Prop) (x1 : Int32) (K : Int32 → SS → Prop) (m : Nat) : Nat → SS → Prop
  | 0, w => wX5_winNow_42 post x1 K m (-1) w
  | e + 1, w => (w.2.2 12 (e + 1) = -1 → wX5_winNow_42 post x1 K m (nI e) (sA w 12 e (w.2.2 11 e - 1))) ∧ (¬ w.2.2 12 (e + 1) = -1 → wX5_winNow_42 post x1 K m (nI e) w)
theorem ovI_of {m d : Nat} {w : SS} (hd : d ≤ 10) (h : NxF post x1 K m d w) : ovI post x1 K m (nI d) w := by
  unfold ovI
  cases d with
  | zero => exact br_t (by decide) h
  | succ e =>
    rw [pk_m1, nI_1, nI_clamp (by omega), nI_clamp (by omega)]
    exact br_f (nI_pos (by omega)) ⟨vp_in_nI (by omega) (by omega), h.2, fun q => ⟨vp_in_nI (by omega) (by omega), vp_in_nI (by omega) (by omega), h.1 q⟩⟩
def Zz (post : Int32 → SS → Prop) (x1 : Int32) (K : Int32 → SS → Prop) (d : Nat) (u : SS) : Prop := ∃ m : Nat, wX5_winNow_42 post x1 K m (nI d) u
def Nx (post : Int32 → SS → Prop) (x1 : Int32) (K : Int32 → SS → Prop) (d : Nat) (u : SS) : Prop := ∃ m : Nat, NxF post x1 K m d u
theorem zz_end {d : Nat} {u : SS} (hd : d ≤ 10) (h : Nx post (nI d) K d u) : Zz post (nI d) K d u := by
  obtain ⟨m, h⟩ := h
  refine ⟨m + 1, ?_⟩
  rw [wX5_winNow_42]
  exact br_f (nI_pos (by omega)) (br_t rfl (br_t (nI_le (Nat.le_refl _) (by omega)) (ovI_of hd h)))
theorem zz_mid {d M n : Nat} {u : SS} (hd : d < M) (hM : M ≤ 10) (hn : n ≤ 10) (h10 : u.2.2 10 d = nI n) (hc : u.2.2 11 d = u.1 2 ∨ ¬ u.2.2 12 d = -1) (h : Nx post (nI M) K d (sA u 6 n (-1))) : Zz post (nI M) K d u := by
  obtain ⟨m, h⟩ := h
  refine ⟨m + 1, ?_⟩
  have hin : vp_in (nI d) 11 := vp_in_nI (by omega) (by omega)
  have key := ovI_of (show d ≤ 10 by omega) h
  have hle : ¬ nI M ≤ nI d := fun z => absurd ((nI_leI (by omega) (by omega)).mp z) (by omega)
  have hinn : vp_in (u.2.2 10 (nI d).toNatClampNeg) 11 := by rw [nI_clamp (by omega), h10]; exact vp_in_nI (by omega) (by omega)
  have key2 : ovI post (nI M) K m (nI d) (sA u 6 (u.2.2 10 (nI d).toNatClampNeg).toNatClampNeg (-1)) := by rw [nI_clamp (n := d) (by omega), h10, nI_clamp (by omega)]; exact key
  rw [wX5_winNow_42]
  refine br_f (nI_pos (by omega)) (br_f (fun z => absurd ((nI_eq (by omega) (by omega)).mp z) (by omega)) ⟨hin, ?_⟩)
  by_cases q : u.2.2 11 d = u.1 2
  · exact br_t (by rw [nI_clamp (by omega)]; exact q) (br_f hle ⟨hin, hinn, key2⟩)
  · rcases hc with hc | hc
    · exact absurd hc q
    · exact br_f (by rw [nI_clamp (by omega)]; exact q) ⟨hin, br_f (by rw [nI_clamp (by omega)]; exact hc) (br_f hle ⟨hin, hinn, key2⟩)⟩
theorem zz_go {κ q : Nat → Int32} {N d M n c : Nat} {u : SS} (hd : d < M) (hM : M ≤ 10) (hn : n ≤ 10) (h10 : u.2.2 10 d = nI n) (hc : u.2.2 11 d = nI c) (hcC : ¬ u.2.2 11 d = u.1 2) (hw : u.2.2 12 d = -1) (hN : u.1 1 = nI N) (hN10 : N ≤ 10) (hk : ag (u.2.2 0) κ N) (hq : ag (upd (u.2.2 6) n (nI c)) q N)
    (hb1 : ¬ bad κ q N = 0 → Zz post (nI M) K d (sA (sA u 6 n (nI c)) 11 d (nI (c + 1)))) (hb0 : bad κ q N = 0 → Zz post (nI M) K (d + 1) (sA (sA (sA (sA u 6 n (nI c)) 11 d (nI (c + 1))) 11 (d + 1) 0) 12 (d + 1) (-1))) : Zz post (nI M) K d u := by
  have hin : vp_in (nI d) 11 := vp_in_nI (by omega) (by omega)
  have hin1 : vp_in (nI (d + 1)) 11 := vp_in_nI (by omega) (by omega)
  have hinn : vp_in (u.2.2 10 (nI d).toNatClampNeg) 11 := by rw [nI_clamp (by omega), h10]; exact vp_in_nI (by omega) (by omega)
  have e11 : (sA u 6 n (nI c)).2.2 11 d = nI c := by rw [show (sA u 6 n (nI c)).2.2 11 = u.2.2 11 from sR_ne _ _ (by decide)]; exact hc
  have hbl := bad_le κ q hN10
  have fin : ∀ m : Nat, (¬ bad κ q N = 0 → wX5_winNow_42 post (nI M) K m (nI d) (sA (sA u 6 n (nI c)) 11 d (nI (c + 1)))) → (bad κ q N = 0 → wX5_winNow_42 post (nI M) K m (nI (d + 1)) (sA (sA (sA (sA u 6 n (nI c)) 11 d (nI (c + 1))) 11 (d + 1) 0) 12 (d + 1) (-1))) → Zz post (nI M) K d u := fun m g1 g0 => by
    refine ⟨m + 1, ?_⟩
    rw [wX5_winNow_42]
    refine br_f (nI_pos (by omega)) (br_f (fun z => absurd ((nI_eq (by omega) (by omega)).mp z) (by omega)) ⟨hin, br_f (by rw [nI_clamp (by omega)]; exact hcC) ⟨hin, br_t (by rw [nI_clamp (by omega)]; exact hw) ⟨hin, hin, hinn, hin, hin, ?_⟩⟩⟩)
    rw [nI_clamp (n := d) (by omega), h10, hc, nI_clamp (n := n) (by omega), e11, nI_1 c, nI_1 d, nI_clamp (n := d + 1) (by omega)]
    rw [show (sA (sA u 6 n (nI c)) 11 d (nI (c + 1))).1 1 = nI N from hN]
    refine p5_badUpTo (κ := κ) (p := q) ?_ ?_ hN10 ?_
    · rw [show (sA (sA u 6 n (nI c)) 11 d (nI (c + 1))).2.2 0 = u.2.2 0 from (sR_ne _ _ (by decide)).trans (sR_ne _ _ (by decide))]
      exact hk
    · rw [show (sA (sA u 6 n (nI c)) 11 d (nI (c + 1))).2.2 6 = upd (u.2.2 6) n (nI c) from (sR_ne _ _ (by decide)).trans (sR_at _ _ _)]
      exact hq
    · by_cases h0 : bad κ q N = 0
      · rw [h0]
        exact bn_t rfl ⟨hin1, hin1, g0 h0⟩
      · exact bn_f (nI_ne0 (by omega) (by omega)) (g1 h0)
  by_cases h0 : bad κ q N = 0
  · obtain ⟨m, h⟩ := hb0 h0
    exact fin m (fun z => absurd h0 z) (fun _ => h)
  · obtain ⟨m, h⟩ := hb1 h0
    exact fin m (fun _ => h) (fun z => absurd z h0)
/-- what a turn leaves -/
def Rt (u w : SS) (d N : Nat) (p : Nat → Int32) (r : Int32) : Prop := w.1 = u.1 ∧ w.2.1 = u.2.1 ∧ (∀ j : Nat, j ≠ 6 → j ≠ 11 → j ≠ 12 → w.2.2 j = u.2.2 j) ∧ ag (w.2.2 6) p N ∧ (∀ k : Nat, k < d → w.2.2 11 k = u.2.2 11 k ∧ w.2.2 12 k = u.2.2 12 k) ∧ w.2.2 12 d = r
theorem sA_at (u : SS) (j k : Nat) (x : Int32) : (sA u j k x).2.2 j = upd (u.2.2 j) k x := sR_at _ _ _
theorem sA_ne (u : SS) {j i : Nat} (k : Nat) (x : Int32) (h : i ≠ j) : (sA u j k x).2.2 i = u.2.2 i := sR_ne _ _ h
theorem p5_turns {κ : Nat → Int32} {N C : Nat} (hN10 : N ≤ 10) (hC3 : C ≤ 3) {T : List Nat} (hM : T.length ≤ 10) : ∀ (ts A : List Nat) (p : Nat → Int32) (u : SS), T = A ++ ts → ts.Nodup → (∀ m, m ∈ ts → 1 ≤ m ∧ m ≤ N ∧ p m = -1) →
    u.1 1 = nI N → u.1 2 = nI C → ag (u.2.2 0) κ N → ag (u.2.2 6) p N → (∀ k, k < T.length → u.2.2 10 k = nI (T.getD k 0)) → u.2.2 11 A.length = nI 0 → u.2.2 12 A.length = -1 → (∀ w, Rt u w A.length N p (wt κ N C ts p) → Nx post (nI T.length) K A.length w) → Zz post (nI T.length) K A.length u := by
  intro ts
  induction ts with
  | nil =>
    intro A p u hT _ _ hN hC hk hp h10 h11 h12 h
    have hl : T.length = A.length := by rw [hT, List.append_nil]
    rw [hl] at h hM ⊢
    exact zz_end hM (h u ⟨rfl, rfl, fun _ _ _ _ => rfl, hp, fun _ _ => ⟨rfl, rfl⟩, h12⟩)
  | cons n ts ih =>
    intro A p u hT hnd hmem hN hC hk hp h10 h11 h12 h
    have hl : T.length = A.length + ts.length + 1 := by rw [hT, List.length_append, List.length_cons]; omega
    obtain ⟨hn1, hnN, hpn⟩ := hmem n (List.mem_cons_self)
    have hnt := List.nodup_cons.mp hnd
    have hTn : T.getD A.length 0 = n := by rw [hT, gD_r (Nat.le_refl _), Nat.sub_self]; rfl
    have key : ∀ (j c : Nat) (z : SS), c + j = C → z.1 = u.1 → z.2.1 = u.2.1 → (∀ j : Nat, j ≠ 6 → j ≠ 11 → j ≠ 12 → z.2.2 j = u.2.2 j) → ax (z.2.2 6) p n N → (∀ k : Nat, k < A.length → z.2.2 11 k = u.2.2 11 k ∧ z.2.2 12 k = u.2.2 12 k) → z.2.2 11 A.length = nI c → z.2.2 12 A.length = -1 → (∀ w, Rt u w A.length N p (fst1 (fun c => decide (bad κ (upd p n (nI c)) N = 0) && (wt κ N C ts (upd p n (nI c)) == -1)) c j) → Nx post (nI T.length) K A.length w) → Zz post (nI T.length) K A.length z := by
      intro j
      induction j with
      | zero =>
        intro c z hc z1 z2 z3 z6 zl z11 z12 h
        have : c = C := by omega
        subst this
        refine zz_mid (n := n) (by omega) hM (by omega) (by rw [z3 10 (by decide) (by decide) (by decide), h10 _ (by omega), hTn]) (Or.inl (by rw [z11, z1, hC])) ?_
        refine h _ ⟨z1, z2, fun j a b c => (sA_ne _ _ _ a).trans (z3 j a b c), ?_, fun k hk => ?_, ?_⟩
        · rw [sA_at]
          exact z6.bk hpn
        · rw [sA_ne _ _ _ (by decide), sA_ne _ _ _ (by decide)]
          exact zl k hk
        · rw [sA_ne _ _ _ (by decide), z12]
          rfl
      | succ j ihj =>
        intro c z hc z1 z2 z3 z6 zl z11 z12 h
        rw [fst1] at h
        have z10 : z.2.2 10 A.length = nI n := by rw [z3 10 (by decide) (by decide) (by decide), h10 _ (by omega), hTn]
        have r11 : (sA (sA z 6 n (nI c)) 11 A.length (nI (c + 1))).2.2 11 = upd (z.2.2 11) A.length (nI (c + 1)) := by rw [sA_at, sA_ne _ _ _ (by decide)]
        have r12 : (sA (sA z 6 n (nI c)) 11 A.length (nI (c + 1))).2.2 12 = z.2.2 12 := by rw [sA_ne _ _ _ (by decide), sA_ne _ _ _ (by decide)]
        have r6 : (sA (sA z 6 n (nI c)) 11 A.length (nI (c + 1))).2.2 6 = upd (z.2.2 6) n (nI c) := by rw [sA_ne _ _ _ (by decide), sA_at]
        have rj : ∀ j : Nat, j ≠ 6 → j ≠ 11 → j ≠ 12 → (sA (sA z 6 n (nI c)) 11 A.length (nI (c + 1))).2.2 j = u.2.2 j := fun j a b d => by rw [sA_ne _ _ _ b, sA_ne _ _ _ a]; exact z3 j a b d
        refine zz_go (κ := κ) (q := upd p n (nI c)) (N := N) (n := n) (c := c) (by omega) hM (by omega) z10 z11 ?_ z12 (by rw [z1]; exact hN) hN10 (by rw [z3 0 (by decide) (by decide) (by decide)]; exact hk) z6.up (fun hb => ?_) (fun hb => ?_)
        · rw [z11, z1, hC]
          intro e
          have := (nI_eq (by omega) (by omega)).mp e
          omega
        · rw [if_neg (by simp [hb])] at h
          refine ihj (c + 1) _ (by omega) z1 z2 rj ?_ (fun k hk => ?_) ?_ ?_ h
          · rw [r6]; exact ag_ax z6.up
          · rw [r11, r12, pk_un (by omega)]; exact zl k hk
          · rw [r11, pk_us]
          · rw [r12]; exact z12
        · have al : A.length + 1 = (A ++ [n]).length := by rw [List.length_append]; rfl
          have q11 : (sA (sA (sA (sA z 6 n (nI c)) 11 A.length (nI (c + 1))) 11 (A.length + 1) 0) 12 (A.length + 1) (-1)).2.2 11 = upd (upd (z.2.2 11) A.length (nI (c + 1))) (A.length + 1) 0 := by rw [sA_ne _ _ _ (by decide), sA_at, r11]
          have q12 : (sA (sA (sA (sA z 6 n (nI c)) 11 A.length (nI (c + 1))) 11 (A.length + 1) 0) 12 (A.length + 1) (-1)).2.2 12 = upd (z.2.2 12) (A.length + 1) (-1) := by rw [sA_at, sA_ne _ _ _ (by decide), r12]
          have q6 : (sA (sA (sA (sA z 6 n (nI c)) 11 A.length (nI (c + 1))) 11 (A.length + 1) 0) 12 (A.length + 1) (-1)).2.2 6 = upd (z.2.2 6) n (nI c) := by rw [sA_ne _ _ _ (by decide), sA_ne _ _ _ (by decide), r6]
          have qj : ∀ j : Nat, j ≠ 6 → j ≠ 11 → j ≠ 12 → (sA (sA (sA (sA z 6 n (nI c)) 11 A.length (nI (c + 1))) 11 (A.length + 1) 0) 12 (A.length + 1) (-1)).2.2 j = u.2.2 j := fun j a b d => by rw [sA_ne _ _ _ d, sA_ne _ _ _ b]; exact rj j a b d
          have hI := ih (A ++ [n]) (upd p n (nI c)) (sA (sA (sA (sA z 6 n (nI c)) 11 A.length (nI (c + 1))) 11 (A.length + 1) 0) 12 (A.length + 1) (-1)) (by rw [hT, List.append_assoc]; rfl) hnt.2 (fun m hm => by
              obtain ⟨a, b, d⟩ := hmem m (List.mem_cons_of_mem _ hm)
              have : m ≠ n := fun e => hnt.1 (by rw [← e]; exact hm)
              exact ⟨a, b, by rw [pk_un this]; exact d⟩) (by show z.1 1 = _; rw [z1]; exact hN) (by show z.1 2 = _; rw [z1]; exact hC) (by rw [qj 0 (by decide) (by decide) (by decide)]; exact hk) (by rw [q6]; exact z6.up) (fun k hk => by rw [qj 10 (by decide) (by decide) (by decide)]; exact h10 k hk) (by rw [q11, ← al, pk_us]; rfl) (by rw [q12, ← al, pk_us])
          rw [← al] at hI
          refine hI (fun w hw => ?_)
          obtain ⟨w1, w2, w3, w6, wlo, wr⟩ := hw
          have wA := wlo A.length (by omega)
          rw [q11, q12, pk_un (by omega), pk_us, pk_un (by omega)] at wA
          have w3' : ∀ j : Nat, j ≠ 6 → j ≠ 11 → j ≠ 12 → w.2.2 j = u.2.2 j := fun j a b d => (w3 j a b d).trans (qj j a b d)
          have wl' : ∀ k : Nat, k < A.length → w.2.2 11 k = u.2.2 11 k ∧ w.2.2 12 k = u.2.2 12 k := fun k hk => by
            have a := wlo k (by omega)
            rw [q11, q12, pk_un (by omega), pk_un (by omega), pk_un (by omega)] at a
            exact ⟨a.1.trans (zl k hk).1, a.2.trans (zl k hk).2⟩
          by_cases hr : wt κ N C ts (upd p n (nI c)) = -1
          · rw [if_pos (by simp [hb, hr])] at h
            have hZ : Zz post (nI T.length) K A.length (sA w 12 A.length (w.2.2 11 A.length - 1)) := by
              have ew : w.2.2 11 A.length - 1 = nI c := by rw [wA.1]; exact nI_pred c
              rw [ew]
              refine zz_mid (n := n) (by omega) hM (by omega) (by rw [sA_ne _ _ _ (by decide), w3' 10 (by decide) (by decide) (by decide), h10 _ (by omega), hTn]) (Or.inr (by rw [sA_at, pk_us]; exact nI_m1 (by omega))) ?_
              refine h _ ⟨(show _ = _ from w1).trans z1, (show _ = _ from w2).trans z2, fun j a b d => ?_, ?_, fun k hk => ?_, ?_⟩
              · rw [sA_ne _ _ _ a, sA_ne _ _ _ d]
                exact w3' j a b d
              · rw [sA_at, sA_ne _ _ _ (by decide)]
                exact (ag_ax w6).bk hpn
              · rw [sA_ne _ _ _ (by decide), sA_ne _ _ _ (by decide), sA_ne _ _ _ (by decide), sA_at, pk_un (by omega)]
                exact wl' k hk
              · rw [sA_ne _ _ _ (by decide), sA_at, pk_us]
            obtain ⟨m, hm⟩ := hZ
            exact ⟨m, fun _ => hm, fun z => absurd (wr.trans hr) z⟩
          · rw [if_neg (by simp [hr])] at h
            obtain ⟨m, hm⟩ := ihj (c + 1) w (by omega) ((show _ = _ from w1).trans z1) ((show _ = _ from w2).trans z2) w3' (ag_ax w6) wl' wA.1 (wA.2.trans z12) h
            exact ⟨m, fun z => absurd (wr.symm.trans z) hr, fun _ => hm⟩
    rw [wt] at h
    exact key C 0 u (by omega) rfl rfl (fun _ _ _ _ => rfl) (fun k a b _ => hp k a b) (fun _ _ => ⟨rfl, rfl⟩) h11 h12 h
end STACK
section PWIN
variable {κ τ : Nat → Int32} {N C : Nat}
theorem p5_lay_loop {v : SS} (hN : v.1 1 = nI N) (hτ : ag (v.2.2 1) τ N) (h10 : N ≤ 10) {post : Int32 → SS → Prop} {K : Int32 → Int32 → SS → Prop} : ∀ (i s : Nat) (A : List Nat) (f : Nat → Int32), 1 ≤ s → s + i = N + 1 → A.length ≤ s - 1 → (∀ k, k < A.length → f k = nI (A.getD k 0)) → (∀ g, (∀ k, k < (A ++ bares τ i s).length → g k = nI ((A ++ bares τ i s).getD k 0)) → K (nI (A ++ bares τ i s).length) (nI (N + 1)) (sR v 10 g)) → wX5_layTurns_4 post K (i + 1) (nI A.length) (nI s) (sR v 10 f) := by
  intro i
  induction i with
  | zero =>
    intro s A f h1 h2 hA hf h
    have : s = N + 1 := by omega
    subst this
    rw [bares, List.append_nil] at h
    refine br_t ?_ (h f hf)
    rw [show (sR v 10 f).1 1 = nI N from hN]
    exact (nI_ltI (by omega) (by omega)).mpr (by omega)
  | succ i ih =>
    intro s A f h1 h2 hA hf h
    rw [bares] at h
    rw [wX5_layTurns_4, show (sR v 10 f).1 1 = nI N from hN, nI_clamp (n := s) (by omega), nI_clamp (n := A.length) (by omega), show (sR v 10 f).2.2 1 = v.2.2 1 from sR_ne _ _ (by decide), hτ s h1 (by omega), nI_1 s]
    refine br_f (fun z => absurd ((nI_ltI (by omega) (by omega)).mp z) (by omega)) ⟨vp_in_nI (by omega) (by omega), ?_⟩
    by_cases ht : τ s = -1
    · rw [if_pos ht] at h
      refine bn_t ht ⟨vp_in_nI (by omega) (by omega), ?_⟩
      rw [sA_R, nI_1, show A.length + 1 = (A ++ [s]).length by rw [List.length_append]; rfl]
      refine ih (s + 1) (A ++ [s]) _ (by omega) (by omega) (by rw [List.length_append]; show A.length + 1 ≤ _; omega) (fun k hk => ?_) (fun g hg => ?_)
      · by_cases e : k = A.length
        · subst e
          rw [pk_us, gD_r (Nat.le_refl _), Nat.sub_self]
          rfl
        · have hk2 : k < A.length := by
            rw [List.length_append] at hk
            have : k < A.length + 1 := hk
            omega
          rw [pk_un e, hf k hk2, gD_l hk2]
      · have ea : A ++ [s] ++ bares τ i (s + 1) = A ++ s :: bares τ i (s + 1) := by rw [List.append_assoc]; rfl
        rw [ea] at hg ⊢
        exact h g hg
    · rw [if_neg ht] at h
      exact bn_f ht (ih (s + 1) A f (by omega) (by omega) (by omega) hf h)
theorem p5_wins {v : SS} (hN : v.1 1 = nI N) (hC : v.1 2 = nI C) (hk : ag (v.2.2 0) κ N) (hτ : ag (v.2.2 1) τ N) (h10 : N ≤ 10) (hC3 : C ≤ 3) {post : Int32 → SS → Prop} (h : ∀ w, MEq v w → w.2.1 = v.2.1 → post (wnv κ τ N C) w) : wX5_winNow v post := by
  obtain ⟨g, hg, hw⟩ := p5_layNow (v := v) hN h10
  have hg2 : ag g τ N := fun k a b => by
    rw [hg k a (by omega)]
    unfold tz
    rw [if_pos b]
    exact hτ k a b
  refine hw _ ⟨N + 1, ?_⟩
  have hlay := p5_lay_loop (v := sR v 6 g) (τ := τ) (N := N) hN (by rw [sR_ne _ _ (by decide)]; exact hτ) h10 (post := fun r3 u4 => ((r3 = 0 → post (-1 : Int32) u4) ∧ (¬ r3 = 0 → wX5_badUpTo (u4.1 1) u4 (fun r5 u6 => ((r5 ≤ 0 → (vp_in (0 : Int32) 11 ∧ (vp_in (0 : Int32) 11 ∧ (∃ n : Nat, wX5_winNow_42 post r3 (fun x2_10 u11 => (vp_in (0 : Int32) 11 ∧ post (u11.2.2 12 (0 : Int32).toNatClampNeg) u11)) n (0 : Int32) (sA (sA u6 11 (0 : Int32).toNatClampNeg (0 : Int32)) 12 (0 : Int32).toNatClampNeg (-1 : Int32)))))) ∧ (¬ r5 ≤ 0 → post (-1 : Int32) u6)))))) (K := fun x1_2 x2_3 u4 => ((x1_2 = 0 → post (-1 : Int32) u4) ∧ (¬ x1_2 = 0 → wX5_badUpTo (u4.1 1) u4 (fun r5 u6 => ((r5 ≤ 0 → (vp_in (0 : Int32) 11 ∧ (vp_in (0 : Int32) 11 ∧ (∃ n : Nat, wX5_winNow_42 post x1_2 (fun x2_10 u11 => (vp_in (0 : Int32) 11 ∧ post (u11.2.2 12 (0 : Int32).toNatClampNeg) u11)) n (0 : Int32) (sA (sA u6 11 (0 : Int32).toNatClampNeg (0 : Int32)) 12 (0 : Int32).toNatClampNeg (-1 : Int32)))))) ∧ (¬ r5 ≤ 0 → post (-1 : Int32) u6)))))) N 1 [] ((sR v 6 g).2.2 10) (by omega) (by omega) (by show 0 ≤ _; omega) (fun k hk => absurd hk (Nat.not_lt_zero _)) (fun t ht => ?_)
  · rw [sR_self] at hlay
    exact hlay
  · rw [List.nil_append] at ht ⊢
    have hbl := bares_len (τ := τ) N 1
    have em : MEq v (sR (sR v 6 g) 10 t) := ⟨fun _ _ => rfl, fun j hj => by rw [sR_ne _ _ (by omega), sR_ne _ _ (by omega)]⟩
    have hnone := h (sR (sR v 6 g) 10 t) em rfl
    have hbd := bad_le κ τ h10
    by_cases h0 : (bares τ N 1).length = 0
    · rw [h0]
      refine br_t rfl ?_
      have e0 : bares τ N 1 = [] := List.length_eq_zero_iff.mp h0
      unfold wnv at hnone
      rw [e0] at hnone
      have : (if bad κ τ N = 0 then wt κ N C [] τ else -1) = -1 := by split <;> rfl
      rw [this] at hnone
      exact hnone
    · refine br_f (nI_ne0 (by omega) (by omega)) ?_
      rw [show (sR (sR v 6 g) 10 t).1 1 = nI N from hN]
      refine p5_badUpTo (κ := κ) (p := τ) (v := sR (sR v 6 g) 10 t) ?_ ?_ h10 ?_
      · rw [sR_ne _ _ (by decide), sR_ne _ _ (by decide)]; exact hk
      · rw [sR_ne _ _ (by decide), sR_at]; exact hg2
      · by_cases hb : bad κ τ N = 0
        · rw [hb]
          refine br_t (by decide) ⟨vp_in_nI (n := 0) (by omega) (by omega), vp_in_nI (n := 0) (by omega) (by omega), ?_⟩
          rw [show ((0 : Int32).toNatClampNeg) = 0 from rfl]
          have q11 : (sA (sA (sR (sR v 6 g) 10 t) 11 0 0) 12 0 (-1)).2.2 11 = upd (v.2.2 11) 0 0 := by rw [sA_ne _ _ _ (by decide), sA_at, sR_ne _ _ (by decide), sR_ne _ _ (by decide)]
          have q12 : (sA (sA (sR (sR v 6 g) 10 t) 11 0 0) 12 0 (-1)).2.2 12 = upd (v.2.2 12) 0 (-1) := by rw [sA_at, sA_ne _ _ _ (by decide), sR_ne _ _ (by decide), sR_ne _ _ (by decide)]
          have qj : ∀ j : Nat, j ≠ 11 → j ≠ 12 → (sA (sA (sR (sR v 6 g) 10 t) 11 0 0) 12 0 (-1)).2.2 j = (sR (sR v 6 g) 10 t).2.2 j := fun j a b => by rw [sA_ne _ _ _ b, sA_ne _ _ _ a]
          refine p5_turns (κ := κ) (N := N) (C := C) (T := bares τ N 1) (K := (fun x2_10 u11 => (vp_in (0 : Int32) 11 ∧ post (u11.2.2 12 (0 : Int32).toNatClampNeg) u11))) h10 hC3 (by omega) (bares τ N 1) [] τ (sA (sA (sR (sR v 6 g) 10 t) 11 0 0) 12 0 (-1)) rfl (bares_nd N 1) (fun m hm => ?_) hN hC ?_ ?_ (fun k hk => ?_) ?_ ?_ (fun w hw => ?_)
          · have := bares_mem N 1 m hm
            exact ⟨this.1, by omega, this.2.2⟩
          · rw [qj 0 (by decide) (by decide), sR_ne _ _ (by decide), sR_ne _ _ (by decide)]; exact hk
          · rw [qj 6 (by decide) (by decide), sR_ne _ _ (by decide), sR_at]; exact hg2
          · rw [qj 10 (by decide) (by decide), sR_at]; exact ht k hk
          · rw [q11]; exact pk_us
          · rw [q12]; exact pk_us
          · obtain ⟨w1, w2, w3, w6, wlo, wr⟩ := hw
            have hfin := h w ⟨fun i _ => by rw [w1]; rfl, fun j hj => by rw [w3 j (by omega) (by omega) (by omega), qj j (by omega) (by omega), sR_ne _ _ (by omega), sR_ne _ _ (by omega)]⟩ w2
            unfold wnv at hfin
            rw [if_pos hb] at hfin
            refine ⟨1, br_t (by decide) ⟨vp_in_nI (n := 0) (by omega) (by omega), ?_⟩⟩
            rw [show w.2.2 12 (0 : Int32).toNatClampNeg = w.2.2 12 0 from rfl, show w.2.2 12 0 = wt κ N C (bares τ N 1) τ from wr]
            exact hfin
        · unfold wnv at hnone
          rw [if_neg hb] at hnone
          exact br_f (nI_nle (by omega) (by omega)) hnone
end PWIN
