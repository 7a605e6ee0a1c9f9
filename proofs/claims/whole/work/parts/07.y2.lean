/-! The reference: its public scans. -/
section
theorem sy_E0 {ln co st : Nat → Nat} {se : Nat → Int32} {p t : Nat} : sw_i (∃ i, i ≤ t ∧ sw_F (sw_S se st p) (sw_c co p) i (ln p) (t + 1)) = 0 ↔ sw_E ln co st se p t = false := sw_i_0.trans sw_b_f.symm
theorem sy_pt {post : Int32 → Prop} {m : Int32} {la se ca ys fi mo : Nat → Int32} {p : Nat} (hp : p < 4) (h : post 1) : wpY_pattern post (m, la, se, ca, ys, fi, mo) (nI p) :=
  br_f (nI_pos (by omega)) (br_f (nI_nlt (a := 3) (by omega) (by decide)) h)
theorem sy_pf {post : Int32 → Prop} {m : Int32} {la se ca ys fi mo : Nat → Int32} {x : Int32} (hx : x < 0 ∨ nI 4 ≤ x) (h : post 0) : wpY_pattern post (m, la, se, ca, ys, fi, mo) x := by
  by_cases h0 : x < 0
  · exact br_t h0 h
  · have h4 := hx.resolve_left h0
    obtain ⟨j, hj, rfl⟩ := nI_of h0
    have h5 := (nI_leI (by decide) hj).mp h4
    exact br_f h0 (br_t (nI_lt (a := 3) (by omega) hj) h)
theorem sy_pe {post : Int32 → SY → Prop} {la se ca ys fi mo : Nat → Int32} {ln co st : Nat → Nat} {n t : Nat} (h : sw_H n ln co st ca la ys) (ht : t < n) (hn : n ≤ 60) (hpost : ∀ fi' mo', post (sw_or (fun p => sw_E ln co st se p t) 4) (nI n, la, se, ca, ys, fi', mo')) : wpY_endingAt post (nI n, la, se, ca, ys, fi, mo) (nI t) := by
  have key : ∀ d p m fi mo, p + d = 4 → d < m → wY_endingAt_4 post (nI t) m (sw_or (fun p => sw_E ln co st se p t) p) (nI p) (nI n) la se ca ys fi mo := by
    intro d
    induction d with
    | zero =>
      intro p m fi mo hpd hm
      obtain ⟨m, rfl⟩ : ∃ k, m = k + 1 := ⟨m - 1, by omega⟩
      have e : p = 4 := by omega
      subst e
      exact br_t (by decide) (hpost fi mo)
    | succ d ih =>
      intro p m fi mo hpd hm
      obtain ⟨m, rfl⟩ : ∃ k, m = k + 1 := ⟨m - 1, by omega⟩
      refine br_f (nI_ge (b := 4) (by omega) (by decide)) (br_f (nI_pos (by omega)) (br_f (nI_ge ht (by omega)) ?_))
      rw [nI_1 t]
      refine sy_ea (sw_H_m h (by omega)) (by omega) (by omega) (fun fi' mo' => ?_)
      have hs := sw_or_s (fun p => sw_E ln co st se p t) p
      by_cases hb : sw_E ln co st se p t = true
      · rw [if_pos hb] at hs
        refine br_f (fun z => sx_tf hb (sy_E0.mp z)) (fun y ey z ez => ?_)
        rw [ez, nI_1, ey, ← hs]
        exact ih (p + 1) m fi' mo' (by omega) (by omega)
      · rw [if_neg hb] at hs
        refine br_t (sy_E0.mpr (sx_nf hb)) (fun z ez => ?_)
        rw [ez, nI_1, ← hs]
        exact ih (p + 1) m fi' mo' (by omega) (by omega)
  exact ⟨5, key 4 0 5 fi mo rfl (by omega)⟩
theorem sy_pe0 {post : Int32 → SY → Prop} {la se ca ys fi mo : Nat → Int32} {n : Nat} {x : Int32} (hx : x < 0 ∨ nI n ≤ x) (h : post 0 (nI n, la, se, ca, ys, fi, mo)) : wpY_endingAt post (nI n, la, se, ca, ys, fi, mo) x := by
  refine ⟨1, br_f (by decide) ?_⟩
  by_cases h0 : x < 0
  · exact br_t h0 h
  · exact br_f h0 (br_t (hx.resolve_left h0) h)
theorem sy_en {post : Int32 → SY → Prop} {la se ca ys fi mo : Nat → Int32} {ln co st : Nat → Nat} {n p : Nat} (h : sw_H n ln co st ca la ys) (hp : p < 4) (hn : n ≤ 60) (hpost : ∀ fi' mo', post (nI (sw_cnt (fun t => sw_E ln co st se p t) n)) (nI n, la, se, ca, ys, fi', mo')) : wpY_ends post (nI n, la, se, ca, ys, fi, mo) (nI p) := by
  have key : ∀ d t m fi mo, t + d = n → d < m → wY_ends_4 post (nI p) m (nI (sw_cnt (fun t => sw_E ln co st se p t) t)) (nI t) (nI n) la se ca ys fi mo := by
    intro d
    induction d with
    | zero =>
      intro t m fi mo htd hm
      obtain ⟨m, rfl⟩ : ∃ k, m = k + 1 := ⟨m - 1, by omega⟩
      have e : t = n := by omega
      subst e
      exact br_t (nI_le (Nat.le_refl _) (by omega)) (hpost fi mo)
    | succ d ih =>
      intro t m fi mo htd hm
      obtain ⟨m, rfl⟩ : ∃ k, m = k + 1 := ⟨m - 1, by omega⟩
      refine br_f (nI_ge (by omega) (by omega)) (sy_pt hp (br_f (by decide) ?_))
      have key2 : ∀ post2 : Int32 → SY → Prop, (∀ fi' mo', post2 (sw_i (∃ i, i ≤ t ∧ sw_F (sw_S se st p) (sw_c co p) i (ln p) (t + 1))) (nI n, la, se, ca, ys, fi', mo')) → wpY_endsAt post2 (nI n, la, se, ca, ys, fi, mo) (nI p) (nI t) (nI t + 1) := by
        intro post2 hp2
        rw [nI_1 t]
        exact sy_ea (sw_H_m h (by omega)) hp (by omega) hp2
      refine key2 _ (fun fi' mo' => ?_)
      have hs := sw_cnt_s (fun t => sw_E ln co st se p t) t
      by_cases hb : sw_E ln co st se p t = true
      · rw [if_pos hb] at hs
        refine br_f (fun z => sx_tf hb (sy_E0.mp z)) (fun y ey z ez => ?_)
        rw [ez, nI_1 t, ey, nI_1, ← hs]
        exact ih (t + 1) m fi' mo' (by omega) (by omega)
      · rw [if_neg hb] at hs
        refine br_t (sy_E0.mpr (sx_nf hb)) (fun z ez => ?_)
        rw [ez, nI_1, ← hs]
        exact ih (t + 1) m fi' mo' (by omega) (by omega)
  exact ⟨n + 1, key n 0 (n + 1) fi mo (by omega) (by omega)⟩
theorem sy_en0 {post : Int32 → SY → Prop} {la se ca ys fi mo : Nat → Int32} {n : Nat} {x : Int32} (hx : x < 0 ∨ nI 4 ≤ x) (h : post 0 (nI n, la, se, ca, ys, fi, mo)) : wpY_ends post (nI n, la, se, ca, ys, fi, mo) x :=
  ⟨1, br_c (fun _ => h) (fun _ => sy_pf hx (br_t rfl h))⟩
theorem sy_fe {post : Int32 → SY → Prop} {la se ca ys fi mo : Nat → Int32} {ln co st : Nat → Nat} {n p : Nat} (h : sw_H n ln co st ca la ys) (hp : p < 4) (hn : n ≤ 60) (hpost : ∀ fi' mo', post (sw_fst (fun t => sw_E ln co st se p t) n 0) (nI n, la, se, ca, ys, fi', mo')) : wpY_firstEnd post (nI n, la, se, ca, ys, fi, mo) (nI p) := by
  have key : ∀ d t m fi mo, t + d = n → d < m → (∀ fi' mo', post (sw_fst (fun t => sw_E ln co st se p t) d t) (nI n, la, se, ca, ys, fi', mo')) → wY_firstEnd_2 post (nI p) m (nI t) (nI n) la se ca ys fi mo := by
    intro d
    induction d with
    | zero =>
      intro t m fi mo htd hm hpo
      obtain ⟨m, rfl⟩ : ∃ k, m = k + 1 := ⟨m - 1, by omega⟩
      exact br_t (nI_le (by omega) (by omega)) (hpo fi mo)
    | succ d ih =>
      intro t m fi mo htd hm hpo
      obtain ⟨m, rfl⟩ : ∃ k, m = k + 1 := ⟨m - 1, by omega⟩
      refine br_f (nI_ge (by omega) (by omega)) (sy_pt hp (br_f (by decide) ?_))
      have key2 : ∀ post2 : Int32 → SY → Prop, (∀ fi' mo', post2 (sw_i (∃ i, i ≤ t ∧ sw_F (sw_S se st p) (sw_c co p) i (ln p) (t + 1))) (nI n, la, se, ca, ys, fi', mo')) → wpY_endsAt post2 (nI n, la, se, ca, ys, fi, mo) (nI p) (nI t) (nI t + 1) := by
        intro post2 hp2
        rw [nI_1 t]
        exact sy_ea (sw_H_m h (by omega)) hp (by omega) hp2
      refine key2 _ (fun fi' mo' => ?_)
      rw [sw_fst_s] at hpo
      by_cases hb : sw_E ln co st se p t = true
      · rw [if_pos hb] at hpo
        exact br_f (fun z => sx_tf hb (sy_E0.mp z)) (hpo fi' mo')
      · rw [if_neg hb] at hpo
        refine br_t (sy_E0.mpr (sx_nf hb)) (fun z ez => ?_)
        rw [ez, nI_1]
        exact ih (t + 1) m fi' mo' (by omega) (by omega) hpo
  exact ⟨n + 1, key n 0 (n + 1) fi mo (by omega) (by omega) hpost⟩
theorem sy_fe0 {post : Int32 → SY → Prop} {la se ca ys fi mo : Nat → Int32} {n : Nat} {x : Int32} (hx : x < 0 ∨ nI 4 ≤ x) (h : post (-1) (nI n, la, se, ca, ys, fi, mo)) : wpY_firstEnd post (nI n, la, se, ca, ys, fi, mo) x :=
  ⟨1, br_c (fun _ => h) (fun _ => sy_pf hx (br_t rfl h))⟩
theorem sy_er {post : Int32 → SY → Prop} {la se ca ys fi mo : Nat → Int32} {ln co st : Nat → Nat} {n p t : Nat} (h : sw_H n ln co st ca la ys) (hp : p < 4) (ht : t < n) (hn : n ≤ 60) (hpost : ∀ fi' mo', post (sw_fst (fun f => sw_b (sw_F (sw_S se st p) (sw_c co p) f (ln p) (t + 1))) (t + 1) 0) (nI n, la, se, ca, ys, fi', mo')) : wpY_earliest post (nI n, la, se, ca, ys, fi, mo) (nI p) (nI t) := by
  have key : ∀ d f m fi mo, f + d = t + 1 → d < m → (∀ fi' mo', post (sw_fst (fun f => sw_b (sw_F (sw_S se st p) (sw_c co p) f (ln p) (t + 1))) d f) (nI n, la, se, ca, ys, fi', mo')) → wY_earliest_2 post (nI p) (nI t) m (nI f) (nI n) la se ca ys fi mo := by
    intro d
    induction d with
    | zero =>
      intro f m fi mo hfd hm hpo
      obtain ⟨m, rfl⟩ : ∃ k, m = k + 1 := ⟨m - 1, by omega⟩
      exact br_t (nI_lt (by omega) (by omega)) (hpo fi mo)
    | succ d ih =>
      intro f m fi mo hfd hm hpo
      obtain ⟨m, rfl⟩ : ∃ k, m = k + 1 := ⟨m - 1, by omega⟩
      refine br_f (nI_nlt (by omega) (by omega)) (sy_pt hp (br_f (by decide) (br_f (nI_ge ht (by omega)) ?_)))
      have e1 : (nI t + 1).toNatClampNeg = t + 1 := by rw [nI_1]; exact nI_clamp (by omega)
      have e2 : vp_in (nI t + 1) 62 := by rw [nI_1]; exact vp_in_nI (by omega) (by omega)
      have key2 : ∀ post2 : SY → Prop, (∀ fi' mo', (∀ j, f ≤ j → j ≤ t + 1 → fi' j = sw_i (sw_F (sw_S se st p) (sw_c co p) f (ln p) j)) → post2 (nI n, la, se, ca, ys, fi', mo')) → wpY_work post2 (nI n, la, se, ca, ys, fi, mo) (nI p) (nI f) (nI t + 1) := by
        intro post2 hp2
        rw [nI_1 t]
        exact sy_wk (sw_H_m h (by omega)) hp (by omega) (by omega) hp2
      refine key2 _ (fun fi' mo' hfi => ⟨e2, ?_⟩)
      have e3 := hfi (t + 1) (by omega) (Nat.le_refl _)
      rw [sw_fst_s] at hpo
      by_cases hb : sw_F (sw_S se st p) (sw_c co p) f (ln p) (t + 1)
      · rw [if_pos (sw_b_t.mpr hb)] at hpo
        rw [sw_i_t hb] at e3
        exact br_f (by rw [e1, e3]; decide) (hpo fi' mo')
      · rw [if_neg (fun z => hb (sw_b_t.mp z))] at hpo
        rw [sw_i_f hb] at e3
        refine br_t (by rw [e1, e3]) (fun z ez => ?_)
        rw [ez, nI_1]
        exact ih (f + 1) m fi' mo' (by omega) (by omega) hpo
  exact ⟨t + 2, key (t + 1) 0 (t + 2) fi mo (by omega) (by omega) hpost⟩
theorem sy_er0 {post : Int32 → SY → Prop} {la se ca ys fi mo : Nat → Int32} {n : Nat} {x y : Int32} (hx : (x < 0 ∨ nI 4 ≤ x) ∨ (y < 0 ∨ nI n ≤ y)) (h : post (-1) (nI n, la, se, ca, ys, fi, mo)) : wpY_earliest post (nI n, la, se, ca, ys, fi, mo) x y := by
  refine ⟨1, ?_⟩
  by_cases h0 : y < 0
  · exact br_t h0 h
  · refine br_f h0 ?_
    rcases pk_ix x (n := 4) (by decide) with h1 | h1 | ⟨p, hp, rfl⟩
    · exact sy_pf (Or.inl h1) (br_t rfl h)
    · exact sy_pf (Or.inr h1) (br_t rfl h)
    · refine sy_pt hp (br_f (by decide) (br_t ?_ h))
      rcases hx with (h1 | h1) | (h1 | h1)
      · exact absurd h1 (nI_pos (by omega))
      · exact absurd h1 (nI_ge hp (by decide))
      · exact absurd h1 h0
      · exact h1
theorem sw_lst_s (E : Nat → Bool) (i : Nat) : sw_lst E (i + 1) = if E i = true then nI i else sw_lst E i := rfl
theorem sy_la {post : Int32 → SY → Prop} {la se ca ys fi mo : Nat → Int32} {ln co st : Nat → Nat} {n p t : Nat} (h : sw_H n ln co st ca la ys) (hp : p < 4) (ht : t < n) (hn : n ≤ 60) (hpost : ∀ fi' mo', post (sw_lst (fun f => sw_b (sw_F (sw_S se st p) (sw_c co p) f (ln p) (t + 1))) (t + 1)) (nI n, la, se, ca, ys, fi', mo')) : wpY_latest post (nI n, la, se, ca, ys, fi, mo) (nI p) (nI t) := by
  have key : ∀ i m y fi mo, y = nI i - 1 → i ≤ t + 1 → i < m → (∀ fi' mo', post (sw_lst (fun f => sw_b (sw_F (sw_S se st p) (sw_c co p) f (ln p) (t + 1))) i) (nI n, la, se, ca, ys, fi', mo')) → wY_latest_14 post (nI p) (nI t) m y (nI n) la se ca ys fi mo := by
    intro i
    induction i with
    | zero =>
      intro m y fi mo ey hi hm hpo
      obtain ⟨m, rfl⟩ : ∃ k, m = k + 1 := ⟨m - 1, by omega⟩
      subst ey
      exact br_t (by decide) (hpo fi mo)
    | succ i ih =>
      intro m y fi mo ey hi hm hpo
      obtain ⟨m, rfl⟩ : ∃ k, m = k + 1 := ⟨m - 1, by omega⟩
      rw [nI_pred] at ey
      subst ey
      refine br_f (nI_pos (by omega)) (sy_pt hp (br_f (by decide) ?_))
      have e1 : (nI t + 1).toNatClampNeg = t + 1 := by rw [nI_1]; exact nI_clamp (by omega)
      have e2 : vp_in (nI t + 1) 62 := by rw [nI_1]; exact vp_in_nI (by omega) (by omega)
      have key2 : ∀ post2 : SY → Prop, (∀ fi' mo', (∀ j, i ≤ j → j ≤ t + 1 → fi' j = sw_i (sw_F (sw_S se st p) (sw_c co p) i (ln p) j)) → post2 (nI n, la, se, ca, ys, fi', mo')) → wpY_work post2 (nI n, la, se, ca, ys, fi, mo) (nI p) (nI i) (nI t + 1) := by
        intro post2 hp2
        rw [nI_1 t]
        exact sy_wk (sw_H_m h (by omega)) hp (by omega) (by omega) hp2
      refine key2 _ (fun fi' mo' hfi => ⟨e2, ?_⟩)
      have e3 := hfi (t + 1) (by omega) (Nat.le_refl _)
      rw [sw_lst_s] at hpo
      by_cases hb : sw_F (sw_S se st p) (sw_c co p) i (ln p) (t + 1)
      · rw [if_pos (sw_b_t.mpr hb)] at hpo
        rw [sw_i_t hb] at e3
        exact br_f (by rw [e1, e3]; decide) (hpo fi' mo')
      · rw [if_neg (fun z => hb (sw_b_t.mp z))] at hpo
        rw [sw_i_f hb] at e3
        refine br_t (by rw [e1, e3]) (fun z ez => ?_)
        exact ih m z fi' mo' (by rw [ez]; exact sx_m1 i) (by omega) (by omega) hpo
  exact br_f (nI_ge ht (by omega)) ⟨t + 2, key (t + 1) (t + 2) (nI t) fi mo (nI_pred t).symm (Nat.le_refl _) (by omega) hpost⟩
theorem sy_la0 {post : Int32 → SY → Prop} {la se ca ys fi mo : Nat → Int32} {n : Nat} {x y : Int32} (hx : (x < 0 ∨ nI 4 ≤ x) ∨ (y < 0 ∨ nI n ≤ y)) (h : post (-1) (nI n, la, se, ca, ys, fi, mo)) : wpY_latest post (nI n, la, se, ca, ys, fi, mo) x y := by
  by_cases hy : nI n ≤ y
  · exact br_t hy ⟨1, br_t (by decide) h⟩
  · refine br_f hy ⟨1, ?_⟩
    by_cases h0 : y < 0
    · exact br_t h0 h
    · refine br_f h0 (sy_pf ?_ (br_t rfl h))
      rcases hx with h1 | (h1 | h1)
      · exact h1
      · exact absurd h1 h0
      · exact absurd h1 hy
/-! longest -/
def sw_X (M : Nat → Nat → Prop) (n a b v : Nat) : Prop := (∀ f q, f < q → q ≤ n → M f q → (f < a ∨ (f = a ∧ q < b)) → q - f ≤ v) ∧ (v = 0 ∨ ∃ f q, f < q ∧ q ≤ n ∧ M f q ∧ v = q - f)
theorem sw_X_0 {M : Nat → Nat → Prop} {n : Nat} : sw_X M n 0 1 0 := ⟨fun f q h1 _ _ h4 => by omega, Or.inl rfl⟩
theorem sw_X_no {M : Nat → Nat → Prop} {n a q v : Nat} (h : sw_X M n a q v) (hn : M a q → q - a ≤ v) : sw_X M n a (q + 1) v := by
  refine ⟨fun f q' h1 h2 h3 h4 => ?_, h.2⟩
  by_cases e : f = a ∧ q' = q
  · obtain ⟨e1, e2⟩ := e
    rw [e1, e2] at h3 ⊢
    exact hn h3
  · exact h.1 f q' h1 h2 h3 (by omega)
theorem sw_X_yes {M : Nat → Nat → Prop} {n a q v : Nat} (h : sw_X M n a q v) (haq : a < q) (hq : q ≤ n) (hM : M a q) (hv : v < q - a) : sw_X M n a (q + 1) (q - a) := by
  refine ⟨fun f q' h1 h2 h3 h4 => ?_, Or.inr ⟨a, q, haq, hq, hM, rfl⟩⟩
  by_cases e : f = a ∧ q' = q
  · omega
  · have := h.1 f q' h1 h2 h3 (by omega)
    omega
theorem sw_X_nx {M : Nat → Nat → Prop} {n a v : Nat} (h : sw_X M n a (n + 1) v) : sw_X M n (a + 1) (a + 2) v :=
  ⟨fun f q h1 h2 h3 h4 => h.1 f q h1 h2 h3 (by omega), h.2⟩
theorem sw_X_e {M : Nat → Nat → Prop} {n v : Nat} (h : sw_X M n n (n + 1) v) : sw_Max M n v :=
  ⟨fun f q h1 h2 h3 => h.1 f q h1 h2 h3 (by omega), h.2⟩
theorem sw_X_le {M : Nat → Nat → Prop} {n a b v : Nat} (h : sw_X M n a b v) : v ≤ n := by
  rcases h.2 with z | ⟨f, q, h1, h2, _, h4⟩ <;> omega
theorem sy_35 {post : Int32 → SY → Prop} {J4 : Int32 → Int32 → Int32 → (Nat → Int32) → (Nat → Int32) → (Nat → Int32) → (Nat → Int32) → (Nat → Int32) → (Nat → Int32) → Prop} {x1 : Int32} {la se ca ys fi mo : Nat → Int32} {M : Nat → Nat → Prop} {n a : Nat} (hn : n ≤ 60) (ha : a < n) (hfi : ∀ j, a ≤ j → j ≤ n → fi j = sw_i (M a j)) (hJ : ∀ v, sw_X M n (a + 1) (a + 2) v → J4 (nI v) (nI (a + 1)) (nI n) la se ca ys fi mo) : ∀ d q m v, q + d = n + 1 → d < m → a < q → sw_X M n a q v → wY_longest_35 post J4 x1 (nI a) (nI n) la se ca ys fi mo m (nI v) (nI q) := by
  intro d
  induction d with
  | zero =>
    intro q m v hqd hm haq hX
    obtain ⟨m, rfl⟩ : ∃ k, m = k + 1 := ⟨m - 1, by omega⟩
    have e : q = n + 1 := by omega
    subst e
    refine br_t (nI_lt (by omega) (by omega)) (fun y ey => ?_)
    rw [ey, nI_1]
    exact hJ v (sw_X_nx hX)
  | succ d ih =>
    intro q m v hqd hm haq hX
    obtain ⟨m, rfl⟩ : ∃ k, m = k + 1 := ⟨m - 1, by omega⟩
    refine br_f (nI_nlt (by omega) (by omega)) ⟨vp_in_nI (by omega) (by omega), ?_⟩
    have e3 := hfi q (by omega) (by omega)
    have hv := sw_X_le hX
    rw [nI_clamp (by omega), e3]
    by_cases hb : M a q
    · refine br_f (by rw [sw_i_t hb]; decide) ?_
      rw [pk_sub (by omega)]
      by_cases hle : q - a ≤ v
      · refine br_t (nI_le hle (by omega)) (fun z ez => ?_)
        rw [ez, nI_1]
        exact ih (q + 1) m v (by omega) (by omega) (by omega) (sw_X_no hX (fun _ => hle))
      · refine br_f (nI_ge (by omega) (by omega)) (fun y ey z ez => ?_)
        rw [ez, nI_1, ey]
        exact ih (q + 1) m _ (by omega) (by omega) (by omega) (sw_X_yes hX haq (by omega) hb (by omega))
    · refine br_t (sw_i_f hb) (fun z ez => ?_)
      rw [ez, nI_1]
      exact ih (q + 1) m v (by omega) (by omega) (by omega) (sw_X_no hX (fun z => absurd z hb))
theorem sy_lo {post : Int32 → SY → Prop} {la se ca ys fi mo : Nat → Int32} {ln co st : Nat → Nat} {n p : Nat} (h : sw_H n ln co st ca la ys) (hp : p < 4) (hn : n ≤ 60) (hpost : ∀ v fi' mo', sw_Max (fun f q => sw_F (sw_S se st p) (sw_c co p) f (ln p) q) n v → post (nI v) (nI n, la, se, ca, ys, fi', mo')) : wpY_longest post (nI n, la, se, ca, ys, fi, mo) (nI p) := by
  have key : ∀ d a m v fi mo, a + d = n → d < m → sw_X (fun f q => sw_F (sw_S se st p) (sw_c co p) f (ln p) q) n a (a + 1) v → wY_longest_4 post (nI p) m (nI v) (nI a) (nI n) la se ca ys fi mo := by
    intro d
    induction d with
    | zero =>
      intro a m v fi mo had hm hX
      obtain ⟨m, rfl⟩ : ∃ k, m = k + 1 := ⟨m - 1, by omega⟩
      have e : a = n := by omega
      subst e
      exact br_t (nI_le (Nat.le_refl _) (by omega)) (hpost v fi mo (sw_X_e hX))
    | succ d ih =>
      intro a m v fi mo had hm hX
      obtain ⟨m, rfl⟩ : ∃ k, m = k + 1 := ⟨m - 1, by omega⟩
      refine br_f (nI_ge (by omega) (by omega)) (sy_pt hp (br_f (by decide) ?_))
      refine sy_wk h hp (by omega) (by omega) (fun fi' mo' hfi y ey => ⟨n + 2, ?_⟩)
      rw [ey, nI_1]
      exact sy_35 hn (by omega) hfi (fun v hX => ih (a + 1) m v fi' mo' (by omega) (by omega) hX) (n - a) (a + 1) (n + 2) v (by omega) (by omega) (by omega) hX
  exact ⟨n + 1, key n 0 (n + 1) 0 fi mo (by omega) (by omega) sw_X_0⟩
theorem sy_lo0 {post : Int32 → SY → Prop} {la se ca ys fi mo : Nat → Int32} {n : Nat} {x : Int32} (hx : x < 0 ∨ nI 4 ≤ x) (h : post 0 (nI n, la, se, ca, ys, fi, mo)) : wpY_longest post (nI n, la, se, ca, ys, fi, mo) x :=
  ⟨1, br_c (fun _ => h) (fun _ => sy_pf hx (br_t rfl h))⟩
/-! completing, emptyFits -/
theorem sw_H_p {n s : Nat} {ln co st : Nat → Nat} {ca la xs : Nat → Int32} (h : sw_H n ln co st ca la xs) (hs : s < 4) : sw_H (n + 1) ln co (sw_u st n s) ca la (upd xs n (nI s)) := by
  have h2 := sw_H_u h hs
  refine ⟨h.1, h.2.1, h.2.2.1, h.2.2.2.1, fun j hj => ?_, h2.2.2.2.2.2⟩
  by_cases e : j = n
  · rw [e, sw_u_s]
    exact pk_us
  · rw [pk_un e]
    exact h2.2.2.2.2.1 j (by omega)
theorem sw_H_k {n s : Nat} {x : Int32} {ln co st : Nat → Nat} {ca la xs : Nat → Int32} (h : sw_H n ln co st ca la xs) (hs : n ≤ s) : sw_H n ln co st ca la (upd xs s x) := by
  refine ⟨h.1, h.2.1, h.2.2.1, h.2.2.2.1, fun j hj => ?_, h.2.2.2.2.2⟩
  rw [pk_un (by omega)]
  exact h.2.2.2.2.1 j hj
theorem sy_co {post : Int32 → SY → Prop} {la se ca ys fi mo : Nat → Int32} {ln co st : Nat → Nat} {n p : Nat} (h : sw_H n ln co st ca la ys) (hp : p < 4) (hn : n ≤ 60) (hpost : ∀ ys' fi' mo', sw_H n ln co st ca la ys' → post (sw_or (fun s => sw_E ln co (sw_u st n s) se p n) 4) (nI n, la, se, ca, ys', fi', mo')) : wpY_completing post (nI n, la, se, ca, ys, fi, mo) (nI p) := by
  have key : ∀ d s m ys fi mo, s + d = 4 → d < m → sw_H n ln co st ca la ys → wY_completing_4 post (nI p) m (sw_or (fun s => sw_E ln co (sw_u st n s) se p n) s) (nI s) (nI n) la se ca ys fi mo := by
    intro d
    induction d with
    | zero =>
      intro s m ys fi mo hsd hm h
      obtain ⟨m, rfl⟩ : ∃ k, m = k + 1 := ⟨m - 1, by omega⟩
      have e : s = 4 := by omega
      subst e
      exact br_t (by decide) (hpost ys fi mo h)
    | succ d ih =>
      intro s m ys fi mo hsd hm h
      obtain ⟨m, rfl⟩ : ∃ k, m = k + 1 := ⟨m - 1, by omega⟩
      refine br_f (nI_ge (b := 4) (by omega) (by decide)) (sy_pt hp (br_f (by decide) ⟨vp_in_nI (by omega) (by omega), fun ys' eys => ?_⟩))
      rw [nI_clamp (by omega)] at eys
      subst eys
      have key2 : ∀ post2 : Int32 → SY → Prop, (∀ fi' mo', post2 (sw_i (∃ i, i ≤ n ∧ sw_F (sw_S se (sw_u st n s) p) (sw_c co p) i (ln p) (n + 1))) (nI n, la, se, ca, upd ys n (nI s), fi', mo')) → wpY_endsAt post2 (nI n, la, se, ca, upd ys n (nI s), fi, mo) (nI p) (nI n) (nI n + 1) := by
        intro post2 hp2
        rw [nI_1 n]
        exact sy_ea (sw_H_p h (by omega)) hp hn hp2
      refine key2 _ (fun fi' mo' => ?_)
      have hs := sw_or_s (fun s => sw_E ln co (sw_u st n s) se p n) s
      by_cases hb : sw_E ln co (sw_u st n s) se p n = true
      · rw [if_pos hb] at hs
        refine br_f (fun z => sx_tf hb (sy_E0.mp z)) (fun y ey z ez => ?_)
        rw [ez, nI_1, ey, ← hs]
        exact ih (s + 1) m _ fi' mo' (by omega) (by omega) (sw_H_k h (Nat.le_refl _))
      · rw [if_neg hb] at hs
        refine br_t (sy_E0.mpr (sx_nf hb)) (fun z ez => ?_)
        rw [ez, nI_1, ← hs]
        exact ih (s + 1) m _ fi' mo' (by omega) (by omega) (sw_H_k h (Nat.le_refl _))
  exact ⟨5, key 4 0 5 ys fi mo rfl (by omega) h⟩
theorem sy_co0 {post : Int32 → SY → Prop} {la se ca ys fi mo : Nat → Int32} {n : Nat} {x : Int32} (hx : x < 0 ∨ nI 4 ≤ x) (h : post 0 (nI n, la, se, ca, ys, fi, mo)) : wpY_completing post (nI n, la, se, ca, ys, fi, mo) x :=
  ⟨1, br_c (fun _ => h) (fun _ => sy_pf hx (br_t rfl h))⟩
theorem sy_ef {post : Int32 → SY → Prop} {la se ca ys fi mo : Nat → Int32} {ln co st : Nat → Nat} {n : Nat} (h : sw_H n ln co st ca la ys) (hpost : ∀ fi' mo', post (sw_or (fun p => sw_Z ln co st se p) 4) (nI n, la, se, ca, ys, fi', mo')) : wpY_emptyFits post (nI n, la, se, ca, ys, fi, mo) := by
  have key : ∀ d p m fi mo, p + d = 4 → d < m → wY_emptyFits_4 post m (sw_or (fun p => sw_Z ln co st se p) p) (nI p) (nI n) la se ca ys fi mo := by
    intro d
    induction d with
    | zero =>
      intro p m fi mo hpd hm
      obtain ⟨m, rfl⟩ : ∃ k, m = k + 1 := ⟨m - 1, by omega⟩
      have e : p = 4 := by omega
      subst e
      exact br_t (by decide) (hpost fi mo)
    | succ d ih =>
      intro p m fi mo hpd hm
      obtain ⟨m, rfl⟩ : ∃ k, m = k + 1 := ⟨m - 1, by omega⟩
      refine br_f (nI_ge (b := 4) (by omega) (by decide)) ?_
      refine sy_wk (f := 0) (nn := 0) (sw_H_m h (by omega)) (by omega) (by omega) (by omega) (fun fi' mo' hfi => ?_)
      have e3 := hfi 0 (by omega) (by omega)
      have hs := sw_or_s (fun p => sw_Z ln co st se p) p
      by_cases hb : sw_Z ln co st se p = true
      · rw [if_pos hb] at hs
        refine br_f (by rw [e3, sw_i_t (sw_b_t.mp hb)]; decide) (fun y ey z ez => ?_)
        rw [ez, nI_1, ey, ← hs]
        exact ih (p + 1) m fi' mo' (by omega) (by omega)
      · rw [if_neg hb] at hs
        refine br_t (e3.trans (sw_i_f (fun z => hb (sw_b_t.mpr z)))) (fun z ez => ?_)
        rw [ez, nI_1, ← hs]
        exact ih (p + 1) m fi' mo' (by omega) (by omega)
  exact ⟨5, key 4 0 5 fi mo rfl (by omega)⟩
end
