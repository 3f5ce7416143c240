/-! the ways: all completions, in their order -/
def wl (κ τ : Nat → Int32) (C : Nat) : Nat → Nat → (Nat → Int32) → List (Nat → Int32)
  | 0, _, p => [p]
  | k + 1, n, p => (List.range C).flatMap (fun c => if (τ n = -1 ∨ τ n = nI c) ∧ bsum κ (upd p n (nI c)) n = 0 then wl κ τ C k (n + 1) (upd p n (nI c)) else [])
/-- the colours of a board: none, or one that there is -/
def tv (τ : Nat → Int32) (C N : Nat) : Prop := ∀ k : Nat, 1 ≤ k → k ≤ N → τ k = -1 ∨ ∃ c : Nat, c < C ∧ τ k = nI c
/-- the reference goes back -/
def tb (τ : Nat → Int32) (C : Nat) : Nat → (Nat → Int32) → Nat × (Nat → Int32)
  | 0, p => (0, p)
  | m + 1, p => if τ (m + 1) = -1 ∧ ¬ p (m + 1) = nI C - 1 then (m + 1, upd p (m + 1) (p (m + 1) + 1)) else tb τ C m (upd p (m + 1) (τ (m + 1)))
theorem nI_m1 {c : Nat} (h : c < 100) : ¬ nI c = -1 := fun e => by
  have h1 : (nI c).toInt = ((c : Nat) : Int) := nI_toInt (by omega)
  rw [e] at h1
  have : (-1 : Int32).toInt = -1 := by decide
  omega
theorem flat_one {α : Type} {F : Nat → List α} {c0 : Nat} : ∀ (C : Nat), c0 < C → (∀ c, c < C → c ≠ c0 → F c = []) → (List.range C).flatMap F = F c0 := by
  intro C
  induction C with
  | zero => intro h; exact absurd h (Nat.not_lt_zero _)
  | succ C ih =>
    intro h hF
    rw [List.range_succ, List.flatMap_append]
    by_cases hc : c0 = C
    · subst hc
      have : (List.range c0).flatMap F = [] := by
        rw [List.flatMap_eq_nil_iff]
        intro x hx
        have := List.mem_range.mp hx
        exact hF x (by omega) (by omega)
      rw [this]
      simp
    · rw [ih (by omega) (fun c h1 h2 => hF c (by omega) h2)]
      have := hF C (by omega) (by omega)
      simp [this]
theorem wl_painted {κ τ : Nat → Int32} {C k n : Nat} {p : Nat → Int32} {c0 : Nat} (hc : c0 < C) (hC : C ≤ 3) (ht : τ n = nI c0) (hp : p n = τ n) : wl κ τ C (k + 1) n p = if bsum κ p n = 0 then wl κ τ C k (n + 1) p else [] := by
  have hu : upd p n (nI c0) = p := upd_eq (by rw [hp, ht])
  rw [wl, flat_one (c0 := c0) C hc]
  · rw [hu]
    simp [ht]
  · intro c h1 h2
    have h3 : ¬ (τ n = -1 ∨ τ n = nI c) := by
      rintro (h | h)
      · rw [ht] at h; exact nI_m1 (by omega) h
      · rw [ht] at h; exact h2 ((nI_eq (by omega) (by omega)).mp h).symm
    rw [if_neg (fun z => h3 z.1)]
/-- the leaves with the colours from c on at the bare number n -/
def cs (κ τ : Nat → Int32) (C k n : Nat) (p : Nat → Int32) : Nat → Nat → List (Nat → Int32)
  | _, 0 => []
  | c, j + 1 => (if bsum κ (upd p n (nI c)) n = 0 then wl κ τ C k (n + 1) (upd p n (nI c)) else []) ++ cs κ τ C k n p (c + 1) j
theorem flat_from {α : Type} (F : Nat → List α) (G : Nat → Nat → List α) (h0 : ∀ c, G c 0 = []) (hs : ∀ c j, G c (j + 1) = F c ++ G (c + 1) j) : ∀ (j c : Nat), (List.range' c j).flatMap F = G c j := by
  intro j
  induction j with
  | zero => intro c; rw [h0]; rfl
  | succ j ih =>
    intro c
    rw [hs, List.range'_succ, List.flatMap_cons, ih (c + 1)]
theorem wl_bare {κ τ : Nat → Int32} {C k n : Nat} {p : Nat → Int32} (ht : τ n = -1) : wl κ τ C (k + 1) n p = cs κ τ C k n p 0 C := by
  rw [wl, List.range_eq_range']
  exact flat_from _ (cs κ τ C k n p) (fun _ => rfl) (fun c j => by rw [cs]; simp [ht]) C 0
/-- a search through all of it, whatever is done at the leaves -/
theorem dfs {κ τ : Nat → Int32} {C N : Nat} {α : Type} (hC : 1 ≤ C) (hC3 : C ≤ 3) (htv : tv τ C N) (E : Nat → Nat → (Nat → Int32) → α → Prop) (act : α → (Nat → Int32) → α)
    (h1 : ∀ (f n : Nat) (p : Nat → Int32) (a : α), 1 ≤ n → n ≤ N → ¬ p n = -1 → (bsum κ p n = 0 → E f (n + 1) p a) → (¬ bsum κ p n = 0 → E f (tb τ C n p).1 (tb τ C n p).2 a) → E f n p a)
    (h3 : ∀ (f n : Nat) (p : Nat → Int32) (a : α), 1 ≤ n → n ≤ N → p n = -1 → (bsum κ (upd p n (nI 0)) n = 0 → E f (n + 1) (upd p n (nI 0)) a) → (¬ bsum κ (upd p n (nI 0)) n = 0 → E f (tb τ C n (upd p n (nI 0))).1 (tb τ C n (upd p n (nI 0))).2 a) → E f n p a) :
    ∀ (k n : Nat) (p : Nat → Int32) (a : α) (f : Nat), n + k = N + 1 → 1 ≤ n → (∀ m, n ≤ m → m ≤ N → p m = τ m) →
      (∀ q, q ∈ wl κ τ C k n p → ∀ (f : Nat) (a : α), E f (tb τ C N q).1 (tb τ C N q).2 (act a q) → E (f + 1) (N + 1) q a) →
      E f (tb τ C (n - 1) p).1 (tb τ C (n - 1) p).2 ((wl κ τ C k n p).foldl act a) → E (f + (wl κ τ C k n p).length) n p a := by
  intro k
  induction k with
  | zero =>
    intro n p a f hn h1n hp h4 h
    have : n = N + 1 := by omega
    subst this
    exact h4 p (by simp [wl]) f a h
  | succ k ih =>
    intro n p a f hn h1n hp h4 h
    have hnN : n ≤ N := by omega
    obtain ⟨n', rfl⟩ : ∃ n', n = n' + 1 := ⟨n - 1, by omega⟩
    rw [Nat.add_sub_cancel] at h
    rcases htv (n' + 1) (by omega) hnN with ht | ⟨c0, hc0, ht⟩
    · -- a bare one
      have hpn : p (n' + 1) = -1 := by rw [hp (n' + 1) (Nat.le_refl _) hnN]; exact ht
      have hres : ∀ c : Nat, upd (upd p (n' + 1) (nI c)) (n' + 1) (τ (n' + 1)) = p := fun c => by rw [upd_upd]; exact upd_eq (by rw [hpn, ht])
      have key : ∀ (j c : Nat) (a : α), c + (j + 1) = C → (∀ q, q ∈ cs κ τ C k (n' + 1) p c (j + 1) → ∀ (f : Nat) (a : α), E f (tb τ C N q).1 (tb τ C N q).2 (act a q) → E (f + 1) (N + 1) q a) → E f (tb τ C n' p).1 (tb τ C n' p).2 ((cs κ τ C k (n' + 1) p c (j + 1)).foldl act a) →
          (bsum κ (upd p (n' + 1) (nI c)) (n' + 1) = 0 → E (f + (cs κ τ C k (n' + 1) p c (j + 1)).length) (n' + 1 + 1) (upd p (n' + 1) (nI c)) a) ∧ (¬ bsum κ (upd p (n' + 1) (nI c)) (n' + 1) = 0 → E (f + (cs κ τ C k (n' + 1) p c (j + 1)).length) (tb τ C (n' + 1) (upd p (n' + 1) (nI c))).1 (tb τ C (n' + 1) (upd p (n' + 1) (nI c))).2 a) := by
        intro j
        induction j with
        | zero =>
          intro c a hc h4 h
          have hcC : nI c = nI C - 1 := by
            rw [show (1 : Int32) = nI 1 from rfl, pk_sub (by omega)]
            congr 1
            omega
          have htb : tb τ C (n' + 1) (upd p (n' + 1) (nI c)) = tb τ C n' p := by
            rw [tb, if_neg (by rintro ⟨-, h⟩; exact h (by rw [pk_us]; exact hcC)), hres c]
          rw [htb]
          rw [cs, cs, List.append_nil] at h4 h ⊢
          refine ⟨fun hb => ?_, fun hb => ?_⟩
          · rw [if_pos hb] at h4 h ⊢
            exact ih (n' + 1 + 1) _ a f (by omega) (by omega) (fun m h1 h2 => by rw [pk_un (by omega)]; exact hp m (by omega) h2) h4 (by rw [Nat.add_sub_cancel, htb]; exact h)
          · rw [if_neg hb] at h4 h ⊢
            exact h
        | succ j ihj =>
          intro c a hc h4 h
          have hcC : ¬ nI c = nI C - 1 := by
            rw [show (1 : Int32) = nI 1 from rfl, pk_sub (by omega)]
            intro e
            have := (nI_eq (by omega) (by omega)).mp e
            omega
          have htb : tb τ C (n' + 1) (upd p (n' + 1) (nI c)) = (n' + 1, upd p (n' + 1) (nI (c + 1))) := by
            rw [tb, if_pos ⟨ht, by rw [pk_us]; exact hcC⟩, pk_us, nI_1, upd_upd]
          have hnext : ∀ a2 : α, E f (tb τ C n' p).1 (tb τ C n' p).2 ((cs κ τ C k (n' + 1) p (c + 1) (j + 1)).foldl act a2) → E (f + (cs κ τ C k (n' + 1) p (c + 1) (j + 1)).length) (n' + 1) (upd p (n' + 1) (nI (c + 1))) a2 := fun a2 h2 => by
            have hk := ihj (c + 1) a2 (by omega) (fun q hq => h4 q (by rw [cs]; exact List.mem_append_right _ hq)) h2
            exact h1 _ (n' + 1) _ a2 (by omega) hnN (by rw [pk_us]; exact nI_m1 (by omega)) hk.1 hk.2
          rw [htb]
          rw [cs] at h4 h ⊢
          refine ⟨fun hb => ?_, fun hb => ?_⟩
          · rw [if_pos hb] at h4 h ⊢
            rw [List.foldl_append] at h
            have := ih (n' + 1 + 1) (upd p (n' + 1) (nI c)) a (f + (cs κ τ C k (n' + 1) p (c + 1) (j + 1)).length) (by omega) (by omega) (fun m h1 h2 => by rw [pk_un (by omega)]; exact hp m (by omega) h2) (fun q hq => h4 q (List.mem_append_left _ hq)) (by rw [Nat.add_sub_cancel, htb]; exact hnext _ h)
            rw [List.length_append, Nat.add_comm (wl κ τ C k (n' + 1 + 1) (upd p (n' + 1) (nI c))).length, ← Nat.add_assoc]
            exact this
          · rw [if_neg hb] at h4 h ⊢
            exact hnext a h
      obtain ⟨C', rfl⟩ : ∃ C', C = C' + 1 := ⟨C - 1, by omega⟩
      rw [wl_bare ht] at h4 h ⊢
      have hk := key C' 0 a (by omega) h4 h
      exact h3 _ (n' + 1) p a (by omega) hnN hpn hk.1 hk.2
    · -- a painted one
      have hpn : p (n' + 1) = τ (n' + 1) := hp (n' + 1) (Nat.le_refl _) hnN
      have htb : tb τ C (n' + 1) p = tb τ C n' p := by
        rw [tb, if_neg (by rintro ⟨h, -⟩; rw [ht] at h; exact nI_m1 (by omega) h), upd_eq hpn]
      rw [wl_painted hc0 hC3 ht hpn] at h4 h ⊢
      refine h1 _ (n' + 1) p a (by omega) hnN (by rw [hpn, ht]; exact nI_m1 (by omega)) (fun hb => ?_) (fun hb => ?_)
      · rw [if_pos hb] at h4 h ⊢
        exact ih (n' + 1 + 1) p a f (by omega) (by omega) (fun m h1 h2 => hp m (by omega) h2) h4 (by rw [Nat.add_sub_cancel, htb]; exact h)
      · rw [if_neg hb] at h4 h ⊢
        rw [htb]
        exact h
theorem tb_0 (τ : Nat → Int32) (C : Nat) (p : Nat → Int32) : tb τ C 0 p = (0, p) := rfl
/-! the reference's search -/
def tz (τ : Nat → Int32) (N : Nat) (k : Nat) : Int32 := if k ≤ N then τ k else -1
theorem p5_layNow_loop {v : SS} {N : Nat} (hN : v.1 1 = nI N) (h10 : N ≤ 10) : ∀ (i s : Nat) (f : Nat → Int32), 1 ≤ s → s + i = 11 → (∀ k, 1 ≤ k → k < s → f k = tz (v.2.2 1) N k) → ∃ g, ag g (tz (v.2.2 1) N) 10 ∧ ∀ (post : SS → Prop) (K : Int32 → SS → Prop), K (nI 11) (sR v 6 g) → wX5_layNow_2 post K (i + 1) (nI s) (sR v 6 f) := by
  intro i
  induction i with
  | zero =>
    intro s f h1 h2 hf
    have : s = 11 := by omega
    subst this
    exact ⟨f, fun k a b => hf k a (by omega), fun post K h => br_t (by decide) h⟩
  | succ i ih =>
    intro s f h1 h2 hf
    have hin : vp_in (nI s) 11 := vp_in_nI (by omega) (by omega)
    have ec : (nI s).toNatClampNeg = s := nI_clamp (by omega)
    have h9 : ¬ (10 : Int32) < nI s := fun z => by
      have := (nI_ltI (a := 10) (b := s) (by omega) (by omega)).mp z
      omega
    by_cases z : N < s
    · obtain ⟨g, hg, hw⟩ := ih (s + 1) (upd f s (-1)) (by omega) (by omega) (fun k a b => by
        by_cases hk : k = s
        · subst hk; rw [pk_us, tz, if_neg (by omega)]
        · rw [pk_un hk]; exact hf k a (by omega))
      refine ⟨g, hg, fun post K h => ?_⟩
      rw [wX5_layNow_2]
      refine br_f h9 ?_
      rw [show (sR v 6 f).1 1 = nI N from hN, ec, nI_1]
      refine br_t ((nI_ltI (by omega) (by omega)).mpr z) ⟨hin, ?_⟩
      rw [sA_R]
      exact hw post K h
    · obtain ⟨g, hg, hw⟩ := ih (s + 1) (upd f s (v.2.2 1 s)) (by omega) (by omega) (fun k a b => by
        by_cases hk : k = s
        · subst hk; rw [pk_us, tz, if_pos (by omega)]
        · rw [pk_un hk]; exact hf k a (by omega))
      refine ⟨g, hg, fun post K h => ?_⟩
      rw [wX5_layNow_2]
      refine br_f h9 ?_
      rw [show (sR v 6 f).1 1 = nI N from hN, ec, nI_1]
      refine br_f (fun q => z ((nI_ltI (by omega) (by omega)).mp q)) ⟨hin, hin, ?_⟩
      rw [sA_R]
      exact hw post K h
theorem p5_layNow {v : SS} {N : Nat} (hN : v.1 1 = nI N) (h10 : N ≤ 10) : ∃ g, ag g (tz (v.2.2 1) N) 10 ∧ ∀ post : SS → Prop, post (sR v 6 g) → wX5_layNow v post := by
  obtain ⟨g, hg, hw⟩ := p5_layNow_loop hN h10 10 1 (v.2.2 6) (by omega) (by omega) (fun k a b => by omega)
  refine ⟨g, hg, fun post h => ⟨11, ?_⟩⟩
  have := hw post (fun _ u3 => post u3) h
  rw [sR_self] at this
  exact this
section SEARCH
variable {v : SS} {κ τ : Nat → Int32} {N C : Nat}
theorem p5_turnBack_loop (hC : v.1 2 = nI C) (hτ : ag (v.2.2 1) τ N) (h10 : N ≤ 10) : ∀ (m : Nat) (p f : Nat → Int32), m ≤ N → ag f p 10 → ∃ g, ag g (tb τ C m p).2 10 ∧ ∀ (post : Int32 → SS → Prop) (x1 : Int32), post (nI (tb τ C m p).1) (sR v 6 g) → wX5_turnBack_2 post x1 (fun x2_2 u3 => ((x2_2 ≤ 0 → post x2_2 u3) ∧ (¬ x2_2 ≤ 0 → (vp_in x2_2 11 ∧ (vp_in x2_2 11 ∧ post x2_2 (sA u3 6 x2_2.toNatClampNeg ((u3.2.2 6 x2_2.toNatClampNeg) + (1 : Int32)))))))) (m + 1) (nI m) (sR v 6 f) := by
  intro m
  induction m with
  | zero =>
    intro p f hm hf
    exact ⟨f, hf, fun post x1 h => br_t (by decide) (br_t (by decide) h)⟩
  | succ m ih =>
    intro p f hm hf
    have hin : vp_in (nI (m + 1)) 11 := vp_in_nI (by omega) (by omega)
    have ec : (nI (m + 1)).toNatClampNeg = m + 1 := nI_clamp (by omega)
    have hpos : ¬ nI (m + 1) ≤ 0 := nI_nle (by omega) (by omega)
    by_cases hq : τ (m + 1) = -1 ∧ ¬ p (m + 1) = nI C - 1
    · rw [tb, if_pos hq]
      refine ⟨upd f (m + 1) (p (m + 1) + 1), hf.upd rfl, fun post x1 h => ?_⟩
      rw [wX5_turnBack_2]
      rw [ec, show (sR v 6 f).2.2 1 = v.2.2 1 from rfl, show (sR v 6 f).1 2 = nI C from hC, sR_at, hτ (m + 1) (by omega) hm, hf (m + 1) (by omega) (by omega), pk_m1]
      refine br_f hpos ⟨hin, bn_t hq.1 ⟨hin, bn_f hq.2 (br_f hpos ⟨hin, hin, ?_⟩)⟩⟩
      rw [sA_R]
      exact h
    · rw [tb, if_neg hq]
      obtain ⟨g, hg, hw⟩ := ih (upd p (m + 1) (τ (m + 1))) (upd f (m + 1) (τ (m + 1))) (by omega) (hf.upd rfl)
      refine ⟨g, hg, fun post x1 h => ?_⟩
      have hw := hw post x1 h
      rw [wX5_turnBack_2]
      rw [ec, show (sR v 6 f).2.2 1 = v.2.2 1 from rfl, show (sR v 6 f).1 2 = nI C from hC, sR_at, hτ (m + 1) (by omega) hm, hf (m + 1) (by omega) (by omega), pk_m1]
      refine br_f hpos ⟨hin, ?_⟩
      have e : sA (sR v 6 f) 6 (m + 1) (τ (m + 1)) = sR v 6 (upd f (m + 1) (τ (m + 1))) := sA_R v 6 (m + 1) f _
      rw [e]
      exact ⟨fun h1 => ⟨hin, hin, hw⟩, fun h1 => ⟨hin, fun h2 => absurd ⟨h1, h2⟩ hq, fun h2 => ⟨hin, hin, hw⟩⟩⟩
theorem p5_turnBack (hC : v.1 2 = nI C) (hτ : ag (v.2.2 1) τ N) (h10 : N ≤ 10) {m : Nat} {p f : Nat → Int32} (hm : m ≤ N) (hf : ag f p 10) : ∃ g, ag g (tb τ C m p).2 10 ∧ ∀ post : Int32 → SS → Prop, post (nI (tb τ C m p).1) (sR v 6 g) → wX5_turnBack (nI m) (sR v 6 f) post := by
  obtain ⟨g, hg, hw⟩ := p5_turnBack_loop hC hτ h10 m p f hm hf
  exact ⟨g, hg, fun post h => ⟨m + 1, hw post (nI m) h⟩⟩
/-- the search at a number, whatever comes behind it -/
def gZ (post : Int32 → SS → Prop) (x1 : Int32) (last : Nat) (K : Int32 → SS → Prop) (v : SS) (n : Nat) (p : Nat → Int32) : Prop := ∀ f, ag f p 10 → ∃ g : Nat, wX5_goOn_2 post x1 (nI last) K g (nI n) (sR v 6 f)
theorem gZ_out {post : Int32 → SS → Prop} {x1 : Int32} {last : Nat} {K : Int32 → SS → Prop} {n : Nat} {p : Nat → Int32} (hl : last ≤ 10) (h : n = 0 ∨ n = last + 1) (hK : ∀ f, ag f p 10 → K (nI n) (sR v 6 f)) : gZ post x1 last K v n p := fun f hf => by
  refine ⟨1, ?_⟩
  rcases h with rfl | rfl
  · exact br_t (by decide) (hK f hf)
  · refine br_f (nI_nle (by omega) (by omega)) (br_t ((nI_ltI (by omega) (by omega)).mpr (by omega)) (hK f hf))
theorem gZ_1 {post : Int32 → SS → Prop} {x1 : Int32} {last : Nat} {K : Int32 → SS → Prop} (hC : v.1 2 = nI C) (hk : ag (v.2.2 0) κ N) (hτ : ag (v.2.2 1) τ N) (h10 : N ≤ 10) (hl : last ≤ N) {n : Nat} {p : Nat → Int32} (h1 : 1 ≤ n) (hn : n ≤ last) (hp : ¬ p n = -1) (ha : bsum κ p n = 0 → gZ post x1 last K v (n + 1) p) (hb : ¬ bsum κ p n = 0 → gZ post x1 last K v (tb τ C n p).1 (tb τ C n p).2) : gZ post x1 last K v n p := fun f hf => by
  have hin : vp_in (nI n) 11 := vp_in_nI (by omega) (by omega)
  have ec : (nI n).toNatClampNeg = n := nI_clamp (by omega)
  have hbl : bsum κ p n < 2 ^ 31 := by have := bsum_le κ p n; omega
  by_cases hz : bsum κ p n = 0
  · obtain ⟨g, hg⟩ := ha hz f hf
    refine ⟨g + 1, ?_⟩
    rw [wX5_goOn_2]
    refine br_f (nI_nle (by omega) (by omega)) (br_f (fun z => absurd ((nI_ltI (by omega) (by omega)).mp z) (by omega)) ⟨hin, ?_⟩)
    rw [ec, sR_at, hf n h1 (by omega)]
    refine bn_f hp ?_
    refine p5_badWith (v := sR v 6 f) (κ := κ) (p := p) (n := N) hk (by rw [sR_at]; exact hf.le h10) (by omega) h10 ?_
    rw [hz]
    refine br_t (by decide) ?_
    rw [nI_1]
    exact hg
  · obtain ⟨f2, hf2, hw⟩ := p5_turnBack hC hτ h10 (m := n) (by omega) hf
    obtain ⟨g, hg⟩ := hb hz f2 hf2
    refine ⟨g + 1, ?_⟩
    rw [wX5_goOn_2]
    refine br_f (nI_nle (by omega) (by omega)) (br_f (fun z => absurd ((nI_ltI (by omega) (by omega)).mp z) (by omega)) ⟨hin, ?_⟩)
    rw [ec, sR_at, hf n h1 (by omega)]
    refine bn_f hp ?_
    refine p5_badWith (v := sR v 6 f) (κ := κ) (p := p) (n := N) hk (by rw [sR_at]; exact hf.le h10) (by omega) h10 ?_
    refine br_f (nI_nle (by omega) hbl) ?_
    exact hw _ hg
theorem gZ_3 {post : Int32 → SS → Prop} {x1 : Int32} {last : Nat} {K : Int32 → SS → Prop} (hC : v.1 2 = nI C) (hk : ag (v.2.2 0) κ N) (hτ : ag (v.2.2 1) τ N) (h10 : N ≤ 10) (hl : last ≤ N) {n : Nat} {p : Nat → Int32} (h1 : 1 ≤ n) (hn : n ≤ last) (hp : p n = -1) (ha : bsum κ (upd p n (nI 0)) n = 0 → gZ post x1 last K v (n + 1) (upd p n (nI 0))) (hb : ¬ bsum κ (upd p n (nI 0)) n = 0 → gZ post x1 last K v (tb τ C n (upd p n (nI 0))).1 (tb τ C n (upd p n (nI 0))).2) : gZ post x1 last K v n p := fun f hf => by
  have hin : vp_in (nI n) 11 := vp_in_nI (by omega) (by omega)
  have ec : (nI n).toNatClampNeg = n := nI_clamp (by omega)
  have hbl : bsum κ (upd p n (nI 0)) n < 2 ^ 31 := by have := bsum_le κ (upd p n (nI 0)) n; omega
  have hf3 : ag (upd f n (nI 0)) (upd p n (nI 0)) 10 := hf.upd rfl
  by_cases hz : bsum κ (upd p n (nI 0)) n = 0
  · obtain ⟨g, hg⟩ := ha hz _ hf3
    refine ⟨g + 1, ?_⟩
    rw [wX5_goOn_2]
    refine br_f (nI_nle (by omega) (by omega)) (br_f (fun z => absurd ((nI_ltI (by omega) (by omega)).mp z) (by omega)) ⟨hin, ?_⟩)
    rw [ec, sR_at, hf n h1 (by omega)]
    refine bn_t hp ⟨hin, ?_⟩
    rw [sA_R]
    refine p5_badWith (v := sR v 6 (upd f n (nI 0))) (κ := κ) (p := upd p n (nI 0)) (n := N) hk (by rw [sR_at]; exact hf3.le h10) (by omega) h10 ?_
    rw [hz]
    refine br_t (by decide) ?_
    rw [nI_1]
    exact hg
  · obtain ⟨f2, hf2, hw⟩ := p5_turnBack hC hτ h10 (m := n) (by omega) hf3
    obtain ⟨g, hg⟩ := hb hz f2 hf2
    refine ⟨g + 1, ?_⟩
    rw [wX5_goOn_2]
    refine br_f (nI_nle (by omega) (by omega)) (br_f (fun z => absurd ((nI_ltI (by omega) (by omega)).mp z) (by omega)) ⟨hin, ?_⟩)
    rw [ec, sR_at, hf n h1 (by omega)]
    refine bn_t hp ⟨hin, ?_⟩
    rw [sA_R]
    refine p5_badWith (v := sR v 6 (upd f n (nI 0))) (κ := κ) (p := upd p n (nI 0)) (n := N) hk (by rw [sR_at]; exact hf3.le h10) (by omega) h10 ?_
    refine br_f (nI_nle (by omega) hbl) ?_
    exact hw _ hg
end SEARCH
