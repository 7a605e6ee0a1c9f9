/-! The reference: allows, extend, work, endsAt against the pure picture. -/
section
theorem sy_nar {P : Prop} : vp_nar .boolean (sw_i P) = sw_i P := by
  by_cases h : P
  · rw [sw_i_t h]; rfl
  · rw [sw_i_f h]; rfl
theorem sy_nrw {P : Prop} : narrow .boolean (.int (sw_i P)) = .int (sw_i P) := by
  by_cases h : P
  · rw [sw_i_t h]; rfl
  · rw [sw_i_f h]; rfl
theorem sy_ix (p k : Nat) : (6 * nI p) + nI k = nI (p * 6 + k) := by
  rw [show (6 : Int32) = nI 6 from by decide, pk_mul, nI_add, Nat.mul_comm 6 p]
theorem sy_al {post : Int32 → Prop} {m : Int32} {la se ca ys fi mo : Nat → Int32} {c d : Nat} (hc : c ≤ 3) (hd : d < 2 ^ 31) (h : post (sw_i (sw_AL c d))) : wpY_allows post (m, la, se, ca, ys, fi, mo) (nI c) (nI d) := by
  have hcs : c = 0 ∨ c = 1 ∨ c = 2 ∨ c = 3 := by omega
  rcases hcs with e | e | e | e
  · subst e
    refine br_t (by decide) ?_
    by_cases e : d = 1
    · rw [sw_i_t (by unfold sw_AL; omega)] at h
      exact br_t (by rw [e]; decide) h
    · rw [sw_i_f (by unfold sw_AL; omega)] at h
      exact br_f (fun z => e ((nI_eq (b := 1) hd (by decide)).mp z)) h
  · subst e
    refine br_f (by decide) (br_t (by decide) ?_)
    by_cases e : d ≤ 1
    · rw [sw_i_t (by unfold sw_AL; omega)] at h
      exact br_f (nI_nlt (a := 1) e (by decide)) h
    · rw [sw_i_f (by unfold sw_AL; omega)] at h
      exact br_t (nI_lt (a := 1) (by omega) hd) h
  · subst e
    rw [sw_i_t (by unfold sw_AL; omega)] at h
    exact br_f (by decide) (br_f (by decide) (br_t (by decide) h))
  · subst e
    refine br_f (by decide) (br_f (by decide) (br_f (by decide) ?_))
    by_cases e : 1 ≤ d
    · rw [sw_i_t (by unfold sw_AL; omega)] at h
      exact br_f (nI_nlt (b := 1) e hd) h
    · rw [sw_i_f (by unfold sw_AL; omega)] at h
      exact br_t (nI_lt (b := 1) (by omega) (by decide)) h
theorem sy_144 {post : SY → Prop} {m : Int32} {la se ca ys mo : Nat → Int32} {Q : Nat → Prop} {f nn : Nat} (hnn : nn ≤ 61) (hmo : ∀ j, f ≤ j → j ≤ nn → mo j = sw_i (Q j)) (hpost : ∀ fi', (∀ j, f ≤ j → j ≤ nn → fi' j = sw_i (Q j)) → post (m, la, se, ca, ys, fi', mo)) : ∀ d q n fi, q + d = nn + 1 → d < n → f ≤ q → (∀ j, f ≤ j → j < q → fi j = sw_i (Q j)) → wY_extend_144 post (nI nn) m n (nI q) la se ca ys fi mo := by
  intro d
  induction d with
  | zero =>
    intro q n fi hq hn hf hfi
    obtain ⟨n, rfl⟩ : ∃ k, n = k + 1 := ⟨n - 1, by omega⟩
    exact br_t (nI_lt (by omega) (by omega)) (hpost fi (fun j h1 h2 => hfi j h1 (by omega)))
  | succ d ih =>
    intro q n fi hq hn hf hfi
    obtain ⟨n, rfl⟩ : ∃ k, n = k + 1 := ⟨n - 1, by omega⟩
    have hin : vp_in (nI q) 62 := vp_in_nI (by omega) (by omega)
    refine br_f (nI_nlt (by omega) (by omega)) ⟨hin, hin, fun a ea y ey => ?_⟩
    rw [nI_clamp (by omega), hmo q hf (by omega), sy_nar] at ea
    rw [ey, nI_1, ea]
    refine ih (q + 1) n _ (by omega) (by omega) (by omega) (fun j h1 h2 => ?_)
    by_cases e : j = q
    · rw [e]
      exact pk_us
    · rw [pk_un e]
      exact hfi j h1 (by omega)
theorem sy_45 {post : SY → Prop} {J26 : Int32 → (Nat → Int32) → (Nat → Int32) → (Nat → Int32) → (Nat → Int32) → (Nat → Int32) → (Nat → Int32) → Prop} {m : Int32} {la se ca ys fi : Nat → Int32} {P : Nat → Prop} {st : Nat → Nat} {c cell f r nn : Nat} (hcell : cell < 24) (hca : ca cell = nI c) (hc : c ≤ 3) (hys : ∀ j, j < nn → ys j = nI (st j)) (hst : ∀ j, st j < 4) (hnn : nn ≤ 61) (hr : r ≤ nn) (hfr : f ≤ r) (hJ : ∀ mo', (∀ j, f ≤ j → j ≤ nn → mo' j = sw_i (sw_O P (fun j => bt (se cell) (st j) = true) c (r + 1) j)) → J26 (nI (r + 1)) la se ca ys fi mo') : ∀ d q n b mo, q + d = nn + 1 → d < n → r ≤ q → (q ≤ nn → b = sw_i (P r ∧ ∀ j, r ≤ j → j < q → bt (se cell) (st j) = true)) → (∀ j, f ≤ j → j ≤ nn → mo j = sw_i (sw_N P (fun j => bt (se cell) (st j) = true) c r q j)) → wY_extend_45 post J26 (nI cell) (nI f) (nI nn) (nI r) m n b (nI q) la se ca ys fi mo := by
  intro d
  induction d with
  | zero =>
    intro q n b mo hq hn hrq hb hmo
    obtain ⟨n, rfl⟩ : ∃ k, n = k + 1 := ⟨n - 1, by omega⟩
    have e : q = nn + 1 := by omega
    subst e
    refine br_t (nI_lt (by omega) (by omega)) (fun y ey => ?_)
    rw [ey, nI_1]
    exact hJ mo (fun j h1 h2 => (hmo j h1 h2).trans (sw_i_c (sw_N_n h2)))
  | succ d ih =>
    intro q n b mo hqd hn hrq hb hmo
    obtain ⟨n, rfl⟩ : ∃ k, n = k + 1 := ⟨n - 1, by omega⟩
    have hq : q ≤ nn := by omega
    have eb := hb hq
    refine br_f (nI_nlt hq (by omega)) ?_
    by_cases hx : P r ∧ ∀ j, r ≤ j → j < q → bt (se cell) (st j) = true
    · rw [sw_i_t hx] at eb
      have hin : vp_in (nI q) 62 := vp_in_nI (by omega) (by omega)
      have hN := sw_N_eq (c := c) (T := fun j => bt (se cell) (st j) = true) hrq hx.1 hx.2
      have go : ∀ z, z = sw_i (sw_N P (fun j => bt (se cell) (st j) = true) c r (q + 1) q) → wY_extend_95 post J26 (wY_extend_45 post J26 (nI cell) (nI f) (nI nn) (nI r) m n) (nI cell) (nI f) (nI nn) (nI r) (nI q) z (nI q) m la se ca ys fi mo := by
        intro z ez
        refine ⟨hin, fun a ea => ?_⟩
        rw [nI_clamp (by omega), ez, sy_nar] at ea
        have hmo' : ∀ j, f ≤ j → j ≤ nn → a j = sw_i (sw_N P (fun j => bt (se cell) (st j) = true) c r (q + 1) j) := by
          intro j h1 h2
          rw [ea]
          by_cases e : j = q
          · rw [e]
            exact pk_us
          · rw [pk_un e, hmo j h1 h2]
            exact sw_i_c (sw_N_ne e).symm
        by_cases hqn : q = nn
        · refine br_t (nI_le (by omega) (by omega)) (fun y ey => ?_)
          rw [ey, nI_1]
          exact ih (q + 1) n 0 a (by omega) (by omega) (by omega) (fun z => by omega) hmo'
        · refine br_f (nI_ge (by omega) (by omega)) ⟨vp_in_nI hcell (by omega), vp_in_nI (by omega) (by omega), ?_⟩
          rw [nI_clamp (show cell < 2 ^ 31 by omega), nI_clamp (show q < 2 ^ 31 by omega), hys q (by omega)]
          have hs4 := hst q
          by_cases ht : bt (se cell) (st q) = true
          · refine br_t ((sw_t1 _ _ (by omega)).mpr ht) (fun y ey => ?_)
            rw [ey, nI_1]
            refine ih (q + 1) n 1 a (by omega) (by omega) (by omega) (fun _ => (sw_i_t ⟨hx.1, fun j h1 h2 => ?_⟩).symm) hmo'
            by_cases e : j = q
            · rw [e]
              exact ht
            · exact hx.2 j h1 (by omega)
          · refine br_f (fun z => ht ((sw_t1 _ _ (by omega)).mp z)) (fun y ey => ?_)
            rw [ey, nI_1]
            exact ih (q + 1) n 0 a (by omega) (by omega) (by omega) (fun _ => (sw_i_f (fun z => ht (z.2 q hrq (by omega)))).symm) hmo'
      refine br_f (by rw [eb]; decide) ⟨hin, ?_⟩
      rw [nI_clamp (show q < 2 ^ 31 by omega)]
      by_cases hz : sw_N P (fun j => bt (se cell) (st j) = true) c r q q
      · refine br_f (by rw [hmo q (by omega) hq]; exact fun z => sw_i_0.mp z hz) ?_
        exact go 1 (sw_i_t (hN.mpr (Or.inl hz))).symm
      · refine br_t (by rw [hmo q (by omega) hq]; exact sw_i_f hz) ⟨vp_in_nI hcell (by omega), ?_⟩
        rw [nI_clamp (show cell < 2 ^ 31 by omega), hca, pk_sub hrq]
        refine sy_al hc (by omega) ?_
        by_cases ha : sw_AL c (q - r)
        · rw [sw_i_t ha]
          exact br_f (by decide) (go 1 (sw_i_t (hN.mpr (Or.inr ha))).symm)
        · rw [sw_i_f ha]
          exact br_t rfl (go 0 (sw_i_f (fun z => (hN.mp z).elim hz ha)).symm)
    · rw [sw_i_f hx] at eb
      refine br_t eb (fun y ey => ?_)
      rw [ey, nI_1]
      exact hJ mo (fun j h1 h2 => (hmo j h1 h2).trans (sw_i_c (sw_N_x hx)))
theorem sy_26 {post : SY → Prop} {m : Int32} {la se ca ys fi : Nat → Int32} {P : Nat → Prop} {st : Nat → Nat} {c cell f nn : Nat} (hcell : cell < 24) (hca : ca cell = nI c) (hc : c ≤ 3) (hys : ∀ j, j < nn → ys j = nI (st j)) (hst : ∀ j, st j < 4) (hnn : nn ≤ 61) (hf : f ≤ nn) (hfi : ∀ j, f ≤ j → j ≤ nn → fi j = sw_i (P j)) (hpost : ∀ fi' mo', (∀ j, f ≤ j → j ≤ nn → fi' j = sw_i (∃ r, r ≤ j ∧ P r ∧ sw_AL c (j - r) ∧ ∀ i, r ≤ i → i < j → bt (se cell) (st i) = true)) → post (m, la, se, ca, ys, fi', mo')) : ∀ d r n mo, r + d = nn + 1 → d < n → f ≤ r → (∀ j, f ≤ j → j ≤ nn → mo j = sw_i (sw_O P (fun j => bt (se cell) (st j) = true) c r j)) → wY_extend_26 post (nI cell) (nI f) (nI nn) m n (nI r) la se ca ys fi mo := by
  intro d
  induction d with
  | zero =>
    intro r n mo hr hn hfr hmo
    obtain ⟨n, rfl⟩ : ∃ k, n = k + 1 := ⟨n - 1, by omega⟩
    have e : r = nn + 1 := by omega
    subst e
    refine br_t (nI_lt (by omega) (by omega)) ⟨nn + 2, ?_⟩
    exact sy_144 hnn (fun j h1 h2 => (hmo j h1 h2).trans (sw_i_c (sw_O_e h2))) (fun fi' h => hpost fi' mo h) (nn + 1 - f) f (nn + 2) fi (by omega) (by omega) (Nat.le_refl _) (fun j h1 h2 => by omega)
  | succ d ih =>
    intro r n mo hr hn hfr hmo
    obtain ⟨n, rfl⟩ : ∃ k, n = k + 1 := ⟨n - 1, by omega⟩
    refine br_f (nI_nlt (by omega) (by omega)) ⟨vp_in_nI (by omega) (by omega), fun b eb => ⟨nn + 2, ?_⟩⟩
    rw [nI_clamp (by omega), hfi r hfr (by omega)] at eb
    refine sy_45 hcell hca hc hys hst hnn (by omega) hfr (fun mo' h => ih (r + 1) n mo' (by omega) (by omega) (by omega) h) (nn + 1 - r) r (nn + 2) b mo (by omega) (by omega) (Nat.le_refl _) (fun _ => ?_) (fun j h1 h2 => (hmo j h1 h2).trans (sw_i_c sw_N_b.symm))
    rw [eb]
    exact sw_i_c ⟨fun z => ⟨z, fun j a b => by omega⟩, And.left⟩
theorem sy_ex {post : SY → Prop} {m : Int32} {la se ca ys fi mo : Nat → Int32} {P : Nat → Prop} {st : Nat → Nat} {c cell f nn : Nat} (hcell : cell < 24) (hca : ca cell = nI c) (hc : c ≤ 3) (hys : ∀ j, j < nn → ys j = nI (st j)) (hst : ∀ j, st j < 4) (hnn : nn ≤ 61) (hf : f ≤ nn) (hP : ∀ r, P r → f ≤ r) (hfi : ∀ j, f ≤ j → j ≤ nn → fi j = sw_i (P j)) (hpost : ∀ fi' mo', (∀ j, f ≤ j → j ≤ nn → fi' j = sw_i (∃ r, r ≤ j ∧ P r ∧ sw_AL c (j - r) ∧ ∀ i, r ≤ i → i < j → bt (se cell) (st i) = true)) → post (m, la, se, ca, ys, fi', mo')) : wpY_extend post (m, la, se, ca, ys, fi, mo) (nI cell) (nI f) (nI nn) := by
  have key : ∀ d q n mo, q + d = nn + 1 → d < n → f ≤ q → (∀ j, f ≤ j → j < q → mo j = 0) → wY_extend_3 post (nI cell) (nI f) (nI nn) m n (nI q) la se ca ys fi mo := by
    intro d
    induction d with
    | zero =>
      intro q n mo hq hn hfq hmo
      obtain ⟨n, rfl⟩ : ∃ k, n = k + 1 := ⟨n - 1, by omega⟩
      refine br_t (nI_lt (by omega) (by omega)) ⟨nn + 2, ?_⟩
      exact sy_26 hcell hca hc hys hst hnn hf hfi hpost (nn + 1 - f) f (nn + 2) mo (by omega) (by omega) (Nat.le_refl _) (fun j h1 h2 => (hmo j h1 (by omega)).trans (sw_i_f (sw_O_0 hP)).symm)
    | succ d ih =>
      intro q n mo hq hn hfq hmo
      obtain ⟨n, rfl⟩ : ∃ k, n = k + 1 := ⟨n - 1, by omega⟩
      refine br_f (nI_nlt (by omega) (by omega)) ⟨vp_in_nI (by omega) (by omega), fun a ea y ey => ?_⟩
      rw [nI_clamp (by omega)] at ea
      rw [ey, nI_1, ea]
      refine ih (q + 1) n _ (by omega) (by omega) (by omega) (fun j h1 h2 => ?_)
      by_cases e : j = q
      · rw [e]
        exact pk_us
      · rw [pk_un e]
        exact hmo j h1 (by omega)
  exact ⟨nn + 2, key (nn + 1 - f) f (nn + 2) mo (by omega) (by omega) (Nat.le_refl _) (fun j h1 h2 => by omega)⟩
theorem sy_36 {post : SY → Prop} {m : Int32} {la se ca ys : Nat → Int32} {ln co st : Nat → Nat} {p f nn : Nat} (h : sw_H nn ln co st ca la ys) (hp : p < 4) (hnn : nn ≤ 61) (hf : f ≤ nn) (hpost : ∀ fi' mo', (∀ j, f ≤ j → j ≤ nn → fi' j = sw_i (sw_F (sw_S se st p) (sw_c co p) f (ln p) j)) → post (m, la, se, ca, ys, fi', mo')) : ∀ d k n fi mo, k + d = ln p → d < n → (∀ j, f ≤ j → j ≤ nn → fi j = sw_i (sw_F (sw_S se st p) (sw_c co p) f k j)) → wY_work_36 post (nI p) (nI f) (nI nn) n (nI k) m la se ca ys fi mo := by
  obtain ⟨hla, hL, hca, hc3, hys, hst⟩ := h
  have hLp := hL p
  intro d
  induction d with
  | zero =>
    intro k n fi mo hk hn hfi
    obtain ⟨n, rfl⟩ : ∃ k, n = k + 1 := ⟨n - 1, by omega⟩
    have e : k = ln p := by omega
    subst e
    refine ⟨vp_in_nI hp (by omega), ?_⟩
    rw [nI_clamp (by omega), hla p]
    exact br_t (nI_le (Nat.le_refl _) (by omega)) (hpost fi mo hfi)
  | succ d ih =>
    intro k n fi mo hk hn hfi
    obtain ⟨n, rfl⟩ : ∃ k, n = k + 1 := ⟨n - 1, by omega⟩
    refine ⟨vp_in_nI hp (by omega), ?_⟩
    rw [nI_clamp (by omega), hla p]
    refine br_f (nI_ge (by omega) (by omega)) ?_
    rw [sy_ix]
    refine sy_ex (P := fun j => sw_F (sw_S se st p) (sw_c co p) f k j) (by omega) (hca _) (hc3 _) hys hst hnn hf (fun r => sw_F_ge k r) hfi (fun fi' mo' hfi' => ?_)
    intro y ey
    rw [ey, nI_1]
    exact ih (k + 1) n fi' mo' (by omega) (by omega) hfi'
theorem sy_wk {post : SY → Prop} {m : Int32} {la se ca ys fi mo : Nat → Int32} {ln co st : Nat → Nat} {p f nn : Nat} (h : sw_H nn ln co st ca la ys) (hp : p < 4) (hnn : nn ≤ 61) (hf : f ≤ nn) (hpost : ∀ fi' mo', (∀ j, f ≤ j → j ≤ nn → fi' j = sw_i (sw_F (sw_S se st p) (sw_c co p) f (ln p) j)) → post (m, la, se, ca, ys, fi', mo')) : wpY_work post (m, la, se, ca, ys, fi, mo) (nI p) (nI f) (nI nn) := by
  have key : ∀ d q n fi, q + d = nn + 1 → d < n → f ≤ q → (∀ j, f ≤ j → j < q → fi j = sw_i (j = f)) → wY_work_3 post (nI p) (nI f) (nI nn) m n (nI q) la se ca ys fi mo := by
    intro d
    induction d with
    | zero =>
      intro q n fi hq hn hfq hfi
      obtain ⟨n, rfl⟩ : ∃ k, n = k + 1 := ⟨n - 1, by omega⟩
      refine br_t (nI_lt (by omega) (by omega)) ⟨ln p + 1, ?_⟩
      exact sy_36 h hp hnn hf hpost (ln p) 0 (ln p + 1) fi mo (by omega) (by omega) (fun j h1 h2 => hfi j h1 (by omega))
    | succ d ih =>
      intro q n fi hq hn hfq hfi
      obtain ⟨n, rfl⟩ : ∃ k, n = k + 1 := ⟨n - 1, by omega⟩
      refine br_f (nI_nlt (by omega) (by omega)) ?_
      by_cases e : q = f
      · refine br_t (by rw [e]) ⟨vp_in_nI (by omega) (by omega), fun a ea y ey => ?_⟩
        rw [nI_clamp (by omega)] at ea
        rw [ey, nI_1, ea]
        refine ih (q + 1) n _ (by omega) (by omega) (by omega) (fun j h1 h2 => ?_)
        have e2 : j = q := by omega
        rw [e2]
        exact pk_us.trans (sw_i_t e).symm
      · refine br_f (fun z => e ((nI_eq (by omega) (by omega)).mp z)) ⟨vp_in_nI (by omega) (by omega), fun a ea y ey => ?_⟩
        rw [nI_clamp (by omega)] at ea
        rw [ey, nI_1, ea]
        refine ih (q + 1) n _ (by omega) (by omega) (by omega) (fun j h1 h2 => ?_)
        by_cases e2 : j = q
        · rw [e2]
          exact pk_us.trans (sw_i_f e).symm
        · rw [pk_un e2]
          exact hfi j h1 (by omega)
  exact ⟨nn + 2, key (nn + 1 - f) f (nn + 2) fi (by omega) (by omega) (Nat.le_refl _) (fun j h1 h2 => by omega)⟩
theorem sy_ea {post : Int32 → SY → Prop} {m : Int32} {la se ca ys fi mo : Nat → Int32} {ln co st : Nat → Nat} {p t : Nat} (h : sw_H (t + 1) ln co st ca la ys) (hp : p < 4) (ht : t ≤ 60) (hpost : ∀ fi' mo', post (sw_i (∃ i, i ≤ t ∧ sw_F (sw_S se st p) (sw_c co p) i (ln p) (t + 1))) (m, la, se, ca, ys, fi', mo')) : wpY_endsAt post (m, la, se, ca, ys, fi, mo) (nI p) (nI t) (nI (t + 1)) := by
  have key : ∀ d f n x fi mo, f + d = t + 1 → d < n → x = sw_i (∃ i, i < f ∧ sw_F (sw_S se st p) (sw_c co p) i (ln p) (t + 1)) → wY_endsAt_6 post (nI p) (nI t) (nI (t + 1)) n x (nI f) m la se ca ys fi mo := by
    intro d
    induction d with
    | zero =>
      intro f n x fi mo hf hn hx
      obtain ⟨n, rfl⟩ : ∃ k, n = k + 1 := ⟨n - 1, by omega⟩
      have e : f = t + 1 := by omega
      subst e
      have hx2 : x = sw_i (∃ i, i ≤ t ∧ sw_F (sw_S se st p) (sw_c co p) i (ln p) (t + 1)) := hx.trans (sw_i_c ⟨fun ⟨i, a, b⟩ => ⟨i, by omega, b⟩, fun ⟨i, a, b⟩ => ⟨i, by omega, b⟩⟩)
      refine br_t (nI_lt (by omega) (by omega)) ?_
      rw [hx2]
      exact ⟨sy_nrw, hpost fi mo⟩
    | succ d ih =>
      intro f n x fi mo hf hn hx
      obtain ⟨n, rfl⟩ : ∃ k, n = k + 1 := ⟨n - 1, by omega⟩
      refine br_f (nI_nlt (by omega) (by omega)) ?_
      refine sy_wk h hp (by omega) (by omega) (fun fi' mo' hfi => ?_)
      have e1 : (nI t + 1).toNatClampNeg = t + 1 := by rw [nI_1]; exact nI_clamp (by omega)
      have e2 : vp_in (nI t + 1) 62 := by rw [nI_1]; exact vp_in_nI (by omega) (by omega)
      have e3 := hfi (t + 1) (by omega) (Nat.le_refl _)
      by_cases hz : ∃ i, i < f ∧ sw_F (sw_S se st p) (sw_c co p) i (ln p) (t + 1)
      · rw [sw_i_t hz] at hx
        refine br_f (by rw [hx]; decide) (fun y ey => ?_)
        rw [ey, nI_1 f]
        exact ih (f + 1) n 1 fi' mo' (by omega) (by omega) (sw_i_t (hz.elim (fun i z => ⟨i, by omega, z.2⟩))).symm
      · rw [sw_i_f hz] at hx
        refine br_t hx ⟨e2, ?_⟩
        rw [e1, e3]
        by_cases hm : sw_F (sw_S se st p) (sw_c co p) f (ln p) (t + 1)
        · refine br_f (by rw [sw_i_t hm]; decide) (fun y ey => ?_)
          rw [ey, nI_1 f]
          exact ih (f + 1) n 1 fi' mo' (by omega) (by omega) (sw_i_t ⟨f, by omega, hm⟩).symm
        · refine br_t (sw_i_f hm) (fun y ey => ?_)
          rw [ey, nI_1 f]
          refine ih (f + 1) n 0 fi' mo' (by omega) (by omega) (sw_i_f (fun ⟨i, a, b⟩ => ?_)).symm
          by_cases e : i = f
          · rw [e] at b
            exact hm b
          · exact hz ⟨i, by omega, b⟩
  exact ⟨t + 2, key (t + 1) 0 (t + 2) 0 fi mo (by omega) (by omega) (sw_i_f (fun ⟨i, a, _⟩ => by omega)).symm⟩
end
