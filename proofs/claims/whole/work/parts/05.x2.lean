/-! The class: beginnings, and the scans over its places. -/
section
theorem sx_m1 (m : Nat) : nI m + (-1) = nI m - 1 := by rw [Int32.sub_eq_add_neg]
def sx_B (S : Nat → Nat → Prop) (c : Nat → Nat) (L t : Nat) (R : Int64) : Prop := ∀ i, i < 64 → (sl_b R i = true ↔ i ≤ t ∧ sw_F S c i L (t + 1))
theorem sx_bg_loop {post : Int64 → Prop} {sz : Int32} {se ca la xs : Nat → Int32} {co st : Nat → Nat} {p L t : Nat} (hca : ∀ j, ca j = nI (co j)) (hc3 : ∀ j, co j ≤ 3) (hla : la p = nI L) (hp : p < 4) (hL : L ≤ 6) (hst : ∀ j, st j < 4) (hxs : ∀ j, j < t → xs j = nI (st j)) (ht : t ≤ 60) (hpost : ∀ R, sx_B (sw_S se st p) (sw_c co p) L t R → post R) : ∀ m n x R y, m ≤ t → m < n → y = nI m - 1 → sw_Inv (sw_S se st p) (sw_c co p) L (t + 1) m (fun j => bt x j = true) → sw_K (sw_c co p) L (fun j => bt x j = true) → (∀ i, i < 64 → (sl_b R i = true ↔ m ≤ i ∧ i ≤ t ∧ sw_F (sw_S se st p) (sw_c co p) i L (t + 1))) → wX_beginnings_38 post (nI p) sz se ca la xs n x R y := by
  intro m
  induction m with
  | zero =>
    intro n x R y _ hn ey hI hK hR
    obtain ⟨n, rfl⟩ : ∃ m, n = m + 1 := ⟨n - 1, by omega⟩
    subst ey
    exact br_t (by decide) (hpost R (fun i hi => (hR i hi).trans ⟨fun z => z.2, fun z => ⟨Nat.zero_le _, z⟩⟩))
  | succ m ih =>
    intro n x R y hm hn ey hI hK hR
    obtain ⟨n, rfl⟩ : ∃ m, n = m + 1 := ⟨n - 1, by omega⟩
    rw [nI_pred] at ey
    subst ey
    refine br_f (nI_pos (by omega)) ?_
    by_cases hx : x = 0
    · refine br_t hx (hpost R (fun i hi => (hR i hi).trans ⟨fun z => z.2, fun z => ⟨?_, z⟩⟩))
      rcases Nat.lt_or_ge m i with h | h
      · exact h
      · exact absurd z.2 (sw_dead hI (fun k _ => by rw [hx, b_0]; decide) (by omega))
    · refine br_f hx ⟨vp_in_nI (by omega) (by omega), ?_⟩
      rw [nI_clamp (by omega), hxs m (by omega)]
      refine sx_sb hca hc3 hla hp hL (hst m) hK (fun w hw hKw => ?_)
      have hIw := hw _ hI
      have hf : bt w 0 = true ↔ sw_F (sw_S se st p) (sw_c co p) m L (t + 1) := sw_fin hIw hKw
      by_cases hb : bt w 0 = true
      · refine br_f (fun z => absurd (hb.symm.trans ((sw_a0 w).mp z)) (by decide)) (fun R' eR z ez => ?_)
        refine ih n w R' z (by omega) (by omega) (by rw [ez]; exact sx_m1 m) hIw hKw (fun i hi => ?_)
        rw [eR, sl_set R m (by omega) hi]
        simp only [Bool.or_eq_true, decide_eq_true_eq]
        rw [hR i hi]
        constructor
        · rintro (⟨h1, h2⟩ | e)
          · exact ⟨by omega, h2⟩
          · rw [e]
            exact ⟨Nat.le_refl _, by omega, hf.mp hb⟩
        · rintro ⟨h1, h2, h3⟩
          by_cases e : i = m
          · exact Or.inr e
          · exact Or.inl ⟨by omega, h2, h3⟩
      · refine br_t ((sw_a0 w).mpr (by simpa using hb)) (fun z ez => ?_)
        refine ih n w R z (by omega) (by omega) (by rw [ez]; exact sx_m1 m) hIw hKw (fun i hi => (hR i hi).trans ?_)
        constructor
        · rintro ⟨h1, h2⟩
          exact ⟨by omega, h2⟩
        · rintro ⟨h1, h2, h3⟩
          by_cases e : i = m
          · rw [e] at h3
            exact absurd (hf.mpr h3) hb
          · exact ⟨by omega, h2, h3⟩
theorem sx_bg {post : Int64 → Prop} {sz : Int32} {se ca la xs : Nat → Int32} {ln co st : Nat → Nat} {p t : Nat} (h : sw_H t ln co st ca la xs) (hp : p < 4) (ht : t ≤ 60) (hpost : ∀ R, sx_B (sw_S se st p) (sw_c co p) (ln p) t R → post R) : wpX_beginnings post (sz, se, ca, la, xs) (nI p) (nI t) (nI (st t)) := by
  obtain ⟨hla, hL, hca, hc3, hxs, hst⟩ := h
  unfold wpX_beginnings
  refine sx_un hca hc3 (hla p) hp (hL p) (fun y hy hKy => ?_)
  refine sx_sb hca hc3 (hla p) hp (hL p) (hst t) hKy (fun w hw hKw => ?_)
  have hI := hw (t + 1) (hy _ (t + 1))
  have hf : bt w 0 = true ↔ sw_F (sw_S se st p) (sw_c co p) t (ln p) (t + 1) := sw_fin hI hKw
  by_cases hb : bt w 0 = true
  · refine br_f (fun z => absurd (hb.symm.trans ((sw_a0 w).mp z)) (by decide)) (fun R eR y ey => ⟨t + 1, ?_⟩)
    refine sx_bg_loop hca hc3 (hla p) hp (hL p) hst hxs ht hpost t (t + 1) w R y (Nat.le_refl _) (by omega) ey hI hKw (fun i hi => ?_)
    rw [eR, sl_one t (by omega) hi, decide_eq_true_iff]
    constructor
    · intro e
      rw [e]
      exact ⟨Nat.le_refl _, Nat.le_refl _, hf.mp hb⟩
    · rintro ⟨h1, h2, _⟩
      omega
  · refine br_t ((sw_a0 w).mpr (by simpa using hb)) (fun y ey => ⟨t + 1, ?_⟩)
    refine sx_bg_loop hca hc3 (hla p) hp (hL p) hst hxs ht hpost t (t + 1) w 0 y (Nat.le_refl _) (by omega) ey hI hKw (fun i hi => ?_)
    rw [sl_0]
    constructor
    · intro z
      exact absurd z (by decide)
    · rintro ⟨h1, h2, h3⟩
      have e : i = t := by omega
      rw [e] at h3
      exact absurd (hf.mpr h3) hb
/-- does a match of pattern p end at place t -/
noncomputable def sw_E (ln co st : Nat → Nat) (se : Nat → Int32) (p t : Nat) : Bool := sw_b (∃ i, i ≤ t ∧ sw_F (sw_S se st p) (sw_c co p) i (ln p) (t + 1))
theorem sx_B0 {ln co st : Nat → Nat} {se : Nat → Int32} {p t : Nat} {R : Int64} (ht : t ≤ 60) (hB : sx_B (sw_S se st p) (sw_c co p) (ln p) t R) : R = 0 ↔ sw_E ln co st se p t = false := by
  constructor
  · intro h
    refine sw_b_f.mpr ?_
    rintro ⟨i, h1, h2⟩
    have h3 := (hB i (by omega)).mpr ⟨h1, h2⟩
    rw [(sl_z R).mp h i (by omega)] at h3
    exact absurd h3 (by decide)
  · intro h
    rw [sl_z]
    intro i hi
    cases e : sl_b R i with
    | false => rfl
    | true => exact absurd ⟨i, (hB i hi).mp e⟩ (sw_b_f.mp h)
theorem sx_lp {post : Int32 → Prop} {sz : Int32} {se ca la xs : Nat → Int32} (R : Int64) : ∀ d i n, i + d = 60 → d < n → post (sw_fst (sl_b R) d i) → wX_leastPlace_2 post R sz se ca la xs n (nI i) := by
  intro d
  induction d with
  | zero =>
    intro i n hi hn hpost
    obtain ⟨n, rfl⟩ : ∃ m, n = m + 1 := ⟨n - 1, by omega⟩
    exact br_t (nI_le (a := 60) (by omega) (by omega)) hpost
  | succ d ih =>
    intro i n hi hn hpost
    obtain ⟨n, rfl⟩ : ∃ m, n = m + 1 := ⟨n - 1, by omega⟩
    refine br_f (nI_ge (b := 60) (by omega) (by decide)) ?_
    rw [show sw_fst (sl_b R) (d + 1) i = if sl_b R i = true then nI i else sw_fst (sl_b R) d (i + 1) from rfl] at hpost
    by_cases hb : sl_b R i = true
    · rw [if_pos hb] at hpost
      exact br_f (fun z => absurd (hb.symm.trans ((sl_t0 R i (by omega)).mp z)) (by decide)) hpost
    · rw [if_neg hb] at hpost
      refine br_t ((sl_t0 R i (by omega)).mpr (by simpa using hb)) (fun y ey => ?_)
      rw [ey, nI_1]
      exact ih (i + 1) n (by omega) (by omega) hpost
theorem sx_gp {post : Int32 → Prop} {sz : Int32} {se ca la xs : Nat → Int32} (R : Int64) : ∀ i n y, y = nI i - 1 → i ≤ 60 → i < n → post (sw_lst (sl_b R) i) → wX_greatestPlace_3 post R sz se ca la xs n y := by
  intro i
  induction i with
  | zero =>
    intro n y ey hi hn hpost
    obtain ⟨n, rfl⟩ : ∃ m, n = m + 1 := ⟨n - 1, by omega⟩
    subst ey
    exact br_t (by decide) hpost
  | succ i ih =>
    intro n y ey hi hn hpost
    obtain ⟨n, rfl⟩ : ∃ m, n = m + 1 := ⟨n - 1, by omega⟩
    rw [nI_pred] at ey
    subst ey
    refine br_f (nI_pos (by omega)) ?_
    rw [show sw_lst (sl_b R) (i + 1) = if sl_b R i = true then nI i else sw_lst (sl_b R) i from rfl] at hpost
    by_cases hb : sl_b R i = true
    · rw [if_pos hb] at hpost
      exact br_f (fun z => absurd (hb.symm.trans ((sl_t0 R i (by omega)).mp z)) (by decide)) hpost
    · rw [if_neg hb] at hpost
      refine br_t ((sl_t0 R i (by omega)).mpr (by simpa using hb)) (fun z ez => ?_)
      exact ih n z (by rw [ez]; exact sx_m1 i) (by omega) (by omega) hpost
/-! the scans over patterns, places, symbols -/
theorem sw_or_s (E : Nat → Bool) (n : Nat) : sw_or E (n + 1) = if E n = true then sw_or E n ||| ((1 : Int32) <<< (nI n &&& 31)) else sw_or E n := rfl
theorem sw_cnt_s (E : Nat → Bool) (n : Nat) : sw_cnt E (n + 1) = if E n = true then sw_cnt E n + 1 else sw_cnt E n := rfl
theorem sw_fst_s (E : Nat → Bool) (d i : Nat) : sw_fst E (d + 1) i = if E i = true then nI i else sw_fst E d (i + 1) := rfl
theorem sx_nf {b : Bool} (h : ¬ b = true) : b = false := by cases b <;> first | rfl | exact absurd rfl h
theorem sx_tf {b : Bool} (h : b = true) (h2 : b = false) : False := by rw [h] at h2; exact absurd h2 (by decide)
theorem sx_pe {post : Int32 → Prop} {sz : Int32} {se ca la xs : Nat → Int32} {ln co st : Nat → Nat} {t : Nat} (h : sw_H (t + 1) ln co st ca la xs) (ht : t < 60) (hpost : post (sw_or (fun p => sw_E ln co st se p t) 4)) : wpX_patternsEndingAt post (sz, se, ca, la, xs) (nI t) := by
  have key : ∀ d p n, p + d = 4 → d < n → wX_patternsEndingAt_4 post (nI t) sz se ca la xs n (sw_or (fun p => sw_E ln co st se p t) p) (nI p) := by
    intro d
    induction d with
    | zero =>
      intro p n hpd hn
      obtain ⟨n, rfl⟩ : ∃ m, n = m + 1 := ⟨n - 1, by omega⟩
      have e : p = 4 := by omega
      subst e
      exact br_t (by decide) hpost
    | succ d ih =>
      intro p n hpd hn
      obtain ⟨n, rfl⟩ : ∃ m, n = m + 1 := ⟨n - 1, by omega⟩
      refine br_f (nI_ge (b := 4) (by omega) (by decide)) ⟨vp_in_nI ht (by omega), ?_⟩
      rw [nI_clamp (by omega), h.2.2.2.2.1 t (by omega)]
      refine sx_bg (sw_H_m h (by omega)) (by omega) (by omega) (fun R hR => ?_)
      have h0 := sx_B0 (by omega) hR
      have hs := sw_or_s (fun p => sw_E ln co st se p t) p
      by_cases hb : sw_E ln co st se p t = true
      · rw [if_pos hb] at hs
        refine br_f (fun z => sx_tf hb (h0.mp z)) (fun y ey z ez => ?_)
        rw [ez, nI_1, ey, ← hs]
        exact ih (p + 1) n (by omega) (by omega)
      · rw [if_neg hb] at hs
        refine br_t (h0.mpr (sx_nf hb)) (fun z ez => ?_)
        rw [ez, nI_1, ← hs]
        exact ih (p + 1) n (by omega) (by omega)
  exact ⟨5, key 4 0 5 rfl (by omega)⟩
theorem sx_en {post : Int32 → Prop} {se ca la xs : Nat → Int32} {ln co st : Nat → Nat} {n p : Nat} (h : sw_H n ln co st ca la xs) (hn : n ≤ 60) (hp : p < 4) (hpost : post (nI (sw_cnt (fun t => sw_E ln co st se p t) n))) : ∀ d t m, t + d = n → d < m → wX_ends_14 post (nI p) (nI n) se ca la xs m (nI (sw_cnt (fun t => sw_E ln co st se p t) t)) (nI t) := by
  intro d
  induction d with
  | zero =>
    intro t m htd hm
    obtain ⟨m, rfl⟩ : ∃ k, m = k + 1 := ⟨m - 1, by omega⟩
    have e : t = n := by omega
    subst e
    exact br_t (nI_le (Nat.le_refl _) (by omega)) hpost
  | succ d ih =>
    intro t m htd hm
    obtain ⟨m, rfl⟩ : ∃ k, m = k + 1 := ⟨m - 1, by omega⟩
    refine br_f (nI_ge (by omega) (by omega)) ⟨vp_in_nI (by omega) (by omega), ?_⟩
    rw [nI_clamp (by omega), h.2.2.2.2.1 t (by omega)]
    refine sx_bg (sw_H_m h (by omega)) hp (by omega) (fun R hR => ?_)
    have h0 := sx_B0 (by omega) hR
    have hs := sw_cnt_s (fun t => sw_E ln co st se p t) t
    by_cases hb : sw_E ln co st se p t = true
    · rw [if_pos hb] at hs
      refine br_f (fun z => sx_tf hb (h0.mp z)) (fun y ey z ez => ?_)
      rw [ez, nI_1 t, ey, nI_1, ← hs]
      exact ih (t + 1) m (by omega) (by omega)
    · rw [if_neg hb] at hs
      refine br_t (h0.mpr (sx_nf hb)) (fun z ez => ?_)
      rw [ez, nI_1, ← hs]
      exact ih (t + 1) m (by omega) (by omega)
theorem sx_fe {post : Int32 → Prop} {se ca la xs : Nat → Int32} {ln co st : Nat → Nat} {n p : Nat} (h : sw_H n ln co st ca la xs) (hn : n ≤ 60) (hp : p < 4) : ∀ d t m, t + d = n → d < m → post (sw_fst (fun t => sw_E ln co st se p t) d t) → wX_firstEnd_12 post (nI p) (nI n) se ca la xs m (nI t) := by
  intro d
  induction d with
  | zero =>
    intro t m htd hm hpost
    obtain ⟨m, rfl⟩ : ∃ k, m = k + 1 := ⟨m - 1, by omega⟩
    exact br_t (nI_le (by omega) (by omega)) hpost
  | succ d ih =>
    intro t m htd hm hpost
    obtain ⟨m, rfl⟩ : ∃ k, m = k + 1 := ⟨m - 1, by omega⟩
    refine br_f (nI_ge (by omega) (by omega)) ⟨vp_in_nI (by omega) (by omega), ?_⟩
    rw [nI_clamp (by omega), h.2.2.2.2.1 t (by omega)]
    refine sx_bg (sw_H_m h (by omega)) hp (by omega) (fun R hR => ?_)
    have h0 := sx_B0 (by omega) hR
    rw [sw_fst_s] at hpost
    by_cases hb : sw_E ln co st se p t = true
    · rw [if_pos hb] at hpost
      exact br_f (fun z => sx_tf hb (h0.mp z)) hpost
    · rw [if_neg hb] at hpost
      refine br_t (h0.mpr (sx_nf hb)) (fun z ez => ?_)
      rw [ez, nI_1]
      exact ih (t + 1) m (by omega) (by omega) hpost
theorem sw_Max_n {M : Nat → Nat → Prop} {t v : Nat} (h : sw_Max M t v) (hn : ∀ f, f ≤ t → M f (t + 1) → t + 1 - f ≤ v) : sw_Max M (t + 1) v := by
  refine ⟨fun f q h1 h2 h3 => ?_, ?_⟩
  · by_cases e : q = t + 1
    · rw [e] at h3 ⊢
      exact hn f (by omega) h3
    · exact h.1 f q h1 (by omega) h3
  · rcases h.2 with z | ⟨f, q, h1, h2, h3⟩
    · exact Or.inl z
    · exact Or.inr ⟨f, q, h1, by omega, h3⟩
theorem sw_Max_y {M : Nat → Nat → Prop} {t v j : Nat} (h : sw_Max M t v) (hj : j ≤ t) (hM : M j (t + 1)) (hmin : ∀ f, f ≤ t → M f (t + 1) → j ≤ f) (hv : v < t + 1 - j) : sw_Max M (t + 1) (t + 1 - j) := by
  refine ⟨fun f q h1 h2 h3 => ?_, Or.inr ⟨j, t + 1, by omega, Nat.le_refl _, hM, rfl⟩⟩
  by_cases e : q = t + 1
  · rw [e] at h3 ⊢
    have := hmin f (by omega) h3
    omega
  · have := h.1 f q h1 (by omega) h3
    omega
theorem sw_Max_le {M : Nat → Nat → Prop} {t v : Nat} (h : sw_Max M t v) : v ≤ t := by
  rcases h.2 with z | ⟨f, q, h1, h2, _, h4⟩ <;> omega
theorem sw_Max_0 {M : Nat → Nat → Prop} : sw_Max M 0 0 := ⟨fun f q h1 h2 _ => by omega, Or.inl rfl⟩
theorem sx_lo {post : Int32 → Prop} {se ca la xs : Nat → Int32} {ln co st : Nat → Nat} {n p : Nat} (h : sw_H n ln co st ca la xs) (hn : n ≤ 60) (hp : p < 4) (hpost : ∀ v, sw_Max (fun f q => sw_F (sw_S se st p) (sw_c co p) f (ln p) q) n v → post (nI v)) : ∀ d t m v, t + d = n → d < m → sw_Max (fun f q => sw_F (sw_S se st p) (sw_c co p) f (ln p) q) t v → wX_longest_14 post (nI p) (nI n) se ca la xs m (nI v) (nI t) := by
  intro d
  induction d with
  | zero =>
    intro t m v htd hm hv
    obtain ⟨m, rfl⟩ : ∃ k, m = k + 1 := ⟨m - 1, by omega⟩
    have e : t = n := by omega
    subst e
    exact br_t (nI_le (Nat.le_refl _) (by omega)) (hpost v hv)
  | succ d ih =>
    intro t m v htd hm hv
    obtain ⟨m, rfl⟩ : ∃ k, m = k + 1 := ⟨m - 1, by omega⟩
    refine br_f (nI_ge (by omega) (by omega)) ⟨vp_in_nI (by omega) (by omega), ?_⟩
    rw [nI_clamp (by omega), h.2.2.2.2.1 t (by omega)]
    refine sx_bg (sw_H_m h (by omega)) hp (by omega) (fun R hR => ⟨61, ?_⟩)
    refine sx_lp R 60 0 61 rfl (by omega) ?_
    have hvt := sw_Max_le hv
    rcases sw_fst_spec (E := sl_b R) 60 0 with ⟨j, h1, h2, h3, h4, h5⟩ | ⟨h1, h2⟩
    · rw [h5]
      obtain ⟨hj, hM⟩ := (hR j (by omega)).mp h3
      have hmin : ∀ f, f ≤ t → sw_F (sw_S se st p) (sw_c co p) f (ln p) (t + 1) → j ≤ f := by
        intro f hf hM2
        rcases Nat.lt_or_ge f j with z | z
        · exact absurd (h4 f (by omega) z) (by rw [(hR f (by omega)).mpr ⟨hf, hM2⟩]; decide)
        · exact z
      have e1 : (nI t - nI j) + 1 = nI (t + 1 - j) := by
        rw [pk_sub hj, nI_1]
        exact congrArg nI (by omega)
      have ne : ¬ nI j = -1 := fun z => absurd (z ▸ nI_pos' (n := j) (by omega) : (0 : Int32) ≤ -1) (by decide)
      refine br_f ne ?_
      rw [e1]
      by_cases hle : t + 1 - j ≤ v
      · refine br_t (nI_le hle (by omega)) (fun z ez => ?_)
        rw [ez, nI_1]
        exact ih (t + 1) m v (by omega) (by omega) (sw_Max_n hv (fun f hf hM2 => by have := hmin f hf hM2; omega))
      · refine br_f (nI_ge (by omega) (by omega)) (fun y ey z ez => ?_)
        rw [ez, nI_1 t, ey]
        exact ih (t + 1) m _ (by omega) (by omega) (sw_Max_y hv hj hM hmin (by omega))
    · rw [h2]
      refine br_t rfl (fun z ez => ?_)
      rw [ez, nI_1]
      refine ih (t + 1) m v (by omega) (by omega) (sw_Max_n hv (fun f hf hM2 => ?_))
      have h3 := h1 f (by omega) (by omega)
      rw [(hR f (by omega)).mpr ⟨hf, hM2⟩] at h3
      exact absurd h3 (by decide)
def sw_u (st : Nat → Nat) (n s : Nat) : Nat → Nat := fun j => if j = n then s else st j
theorem sw_u_s (st : Nat → Nat) (n s : Nat) : sw_u st n s n = s := if_pos rfl
theorem sw_u_n (st : Nat → Nat) {n j : Nat} (s : Nat) (h : j ≠ n) : sw_u st n s j = st j := if_neg h
theorem sw_H_u {n s : Nat} {ln co st : Nat → Nat} {ca la xs : Nat → Int32} (h : sw_H n ln co st ca la xs) (hs : s < 4) : sw_H n ln co (sw_u st n s) ca la xs := by
  refine ⟨h.1, h.2.1, h.2.2.1, h.2.2.2.1, fun j hj => ?_, fun j => ?_⟩
  · rw [sw_u_n st s (by omega)]
    exact h.2.2.2.2.1 j hj
  · unfold sw_u
    split
    · exact hs
    · exact h.2.2.2.2.2 j
theorem sx_co {post : Int32 → Prop} {se ca la xs : Nat → Int32} {ln co st : Nat → Nat} {n p : Nat} (h : sw_H n ln co st ca la xs) (hn : n ≤ 60) (hp : p < 4) (hpost : post (sw_or (fun s => sw_E ln co (sw_u st n s) se p n) 4)) : ∀ d s m, s + d = 4 → d < m → wX_completing_14 post (nI p) (nI n) se ca la xs m (sw_or (fun s => sw_E ln co (sw_u st n s) se p n) s) (nI s) := by
  intro d
  induction d with
  | zero =>
    intro s m hsd hm
    obtain ⟨m, rfl⟩ : ∃ k, m = k + 1 := ⟨m - 1, by omega⟩
    have e : s = 4 := by omega
    subst e
    exact br_t (by decide) hpost
  | succ d ih =>
    intro s m hsd hm
    obtain ⟨m, rfl⟩ : ∃ k, m = k + 1 := ⟨m - 1, by omega⟩
    refine br_f (nI_ge (b := 4) (by omega) (by decide)) ?_
    have key : ∀ post2 : Int64 → Prop, (∀ R, sx_B (sw_S se (sw_u st n s) p) (sw_c co p) (ln p) n R → post2 R) → wpX_beginnings post2 (nI n, se, ca, la, xs) (nI p) (nI n) (nI s) := by
      intro post2 hp2
      have := sx_bg (sz := nI n) (post := post2) (sw_H_u h (s := s) (by omega)) hp hn hp2
      rw [sw_u_s] at this
      exact this
    refine key _ (fun R hR => ?_)
    have h0 := sx_B0 (by omega) hR
    have hs := sw_or_s (fun s => sw_E ln co (sw_u st n s) se p n) s
    by_cases hb : sw_E ln co (sw_u st n s) se p n = true
    · rw [if_pos hb] at hs
      refine br_f (fun z => sx_tf hb (h0.mp z)) (fun y ey z ez => ?_)
      rw [ez, nI_1, ey, ← hs]
      exact ih (s + 1) m (by omega) (by omega)
    · rw [if_neg hb] at hs
      refine br_t (h0.mpr (sx_nf hb)) (fun z ez => ?_)
      rw [ez, nI_1, ← hs]
      exact ih (s + 1) m (by omega) (by omega)
noncomputable def sw_Z (ln co st : Nat → Nat) (se : Nat → Int32) (p : Nat) : Bool := sw_b (sw_F (sw_S se st p) (sw_c co p) 0 (ln p) 0)
theorem sx_ef {post : Int32 → Prop} {sz : Int32} {se ca la xs : Nat → Int32} {ln co st : Nat → Nat} {n : Nat} (h : sw_H n ln co st ca la xs) (hpost : post (sw_or (fun p => sw_Z ln co st se p) 4)) : ∀ d p m, p + d = 4 → d < m → wX_emptyFits_4 post sz se ca la xs m (sw_or (fun p => sw_Z ln co st se p) p) (nI p) := by
  intro d
  induction d with
  | zero =>
    intro p m hpd hm
    obtain ⟨m, rfl⟩ : ∃ k, m = k + 1 := ⟨m - 1, by omega⟩
    have e : p = 4 := by omega
    subst e
    exact br_t (by decide) hpost
  | succ d ih =>
    intro p m hpd hm
    obtain ⟨m, rfl⟩ : ∃ k, m = k + 1 := ⟨m - 1, by omega⟩
    obtain ⟨hla, hL, hca, hc3, hxs, hst⟩ := h
    refine br_f (nI_ge (b := 4) (by omega) (by decide)) ?_
    refine sx_un hca hc3 (hla p) (by omega) (hL p) (fun y hy hKy => ?_)
    have hf : bt y 0 = true ↔ sw_F (sw_S se st p) (sw_c co p) 0 (ln p) 0 := sw_fin (hy _ 0) hKy
    have hs := sw_or_s (fun p => sw_Z ln co st se p) p
    by_cases hb : sw_Z ln co st se p = true
    · rw [if_pos hb] at hs
      refine br_f (fun z => sx_tf (hf.mpr (sw_b_t.mp hb)) ((sw_a0 y).mp z)) (fun y ey z ez => ?_)
      rw [ez, nI_1, ey, ← hs]
      exact ih (p + 1) m (by omega) (by omega)
    · rw [if_neg hb] at hs
      refine br_t ((sw_a0 y).mpr (sx_nf (fun z => hb (sw_b_t.mpr (hf.mp z))))) (fun z ez => ?_)
      rw [ez, nI_1, ← hs]
      exact ih (p + 1) m (by omega) (by omega)
theorem pk_ix (x : Int32) {n : Nat} (hn : n < 2 ^ 31) : x < 0 ∨ nI n ≤ x ∨ ∃ j : Nat, j < n ∧ x = nI j := by
  by_cases h : x < 0
  · exact Or.inl h
  · obtain ⟨j, hj, rfl⟩ := nI_of h
    by_cases h2 : j < n
    · exact Or.inr (Or.inr ⟨j, h2, rfl⟩)
    · exact Or.inr (Or.inl (nI_le (by omega) hj))
theorem sx_pt {post : Int32 → Prop} {sz : Int32} {se ca la xs : Nat → Int32} {p : Nat} (hp : p < 4) (h : post 1) : wpX_isPattern post (sz, se, ca, la, xs) (nI p) :=
  br_f (nI_pos (by omega)) (br_f (nI_ge (b := 4) hp (by decide)) h)
theorem sx_pf {post : Int32 → Prop} {sz : Int32} {se ca la xs : Nat → Int32} {x : Int32} (hx : x < 0 ∨ nI 4 ≤ x) (h : post 0) : wpX_isPattern post (sz, se, ca, la, xs) x := by
  by_cases h0 : x < 0
  · exact br_t h0 h
  · exact br_f h0 (br_t (hx.resolve_left h0) h)
theorem sx_lt {post : Int32 → Prop} {se ca la xs : Nat → Int32} {n t : Nat} (ht : t < n) (hn : n ≤ 60) (h : post 1) : wpX_isPlace post (nI n, se, ca, la, xs) (nI t) :=
  br_f (nI_pos (by omega)) (br_f (nI_ge ht (by omega)) h)
theorem sx_lf {post : Int32 → Prop} {se ca la xs : Nat → Int32} {n : Nat} {x : Int32} (hx : x < 0 ∨ nI n ≤ x) (h : post 0) : wpX_isPlace post (nI n, se, ca, la, xs) x := by
  by_cases h0 : x < 0
  · exact br_t h0 h
  · exact br_f h0 (br_t (hx.resolve_left h0) h)
end
