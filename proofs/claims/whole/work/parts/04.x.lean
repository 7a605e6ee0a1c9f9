/-! The class: its private methods against the pure picture. -/
section
def sw_S (se : Nat → Int32) (st : Nat → Nat) (p : Nat) : Nat → Nat → Prop := fun k j => bt (se (p * 6 + k)) (st j) = true
def sw_c (co : Nat → Nat) (p : Nat) : Nat → Nat := fun k => co (p * 6 + k)
/-- the patterns, and the first n symbols, as numbers -/
def sw_H (n : Nat) (ln co st : Nat → Nat) (ca la xs : Nat → Int32) : Prop := (∀ j, la j = nI (ln j)) ∧ (∀ j, ln j ≤ 6) ∧ (∀ j, ca j = nI (co j)) ∧ (∀ j, co j ≤ 3) ∧ (∀ j, j < n → xs j = nI (st j)) ∧ (∀ j, st j < 4)
theorem sw_H_m {n m : Nat} {ln co st : Nat → Nat} {ca la xs : Nat → Int32} (h : sw_H n ln co st ca la xs) (hm : m ≤ n) : sw_H m ln co st ca la xs :=
  ⟨h.1, h.2.1, h.2.2.1, h.2.2.2.1, fun j hj => h.2.2.2.2.1 j (by omega), h.2.2.2.2.2⟩
theorem sx_ne {a b : Nat} (h : a ≠ b) (ha : a < 4) (hb : b < 4) : ¬ nI a = nI b := fun z => h ((nI_eq (by omega) (by omega)).mp z)
theorem sx_ix (p k : Nat) : ((nI p * 6) + nI (k + 1)) - 1 = nI (p * 6 + k) := by
  rw [show (6 : Int32) = nI 6 from by decide, pk_mul, nI_add, show p * 6 + (k + 1) = (p * 6 + k) + 1 by omega, nI_pred]
def sx_I (c : Nat → Nat) (L : Nat) (B : Nat → Prop) (k : Nat) (x : Int32) : Prop := ∀ j, j ≤ L → (bt x j = true ↔ B j ∨ (k ≤ j ∧ j < L ∧ bt x (j + 1) = true ∧ sw_SK (c j)))
theorem sx_I_s {c : Nat → Nat} {L k : Nat} {B : Nat → Prop} {x x' : Int32} (hk : k < L) (hI : sx_I c L B (k + 1) x) (hx : ∀ j, j ≤ L → (bt x' j = true ↔ bt x j = true ∨ (j = k ∧ bt x (k + 1) = true ∧ sw_SK (c k)))) : sx_I c L B k x' := by
  intro j hj
  rw [hx j hj, hI j hj]
  constructor
  · rintro ((h | ⟨h1, h2, h3, h4⟩) | ⟨e, h2, h3⟩)
    · exact Or.inl h
    · exact Or.inr ⟨by omega, h2, (hx (j + 1) (by omega)).mpr (Or.inl h3), h4⟩
    · subst e
      exact Or.inr ⟨Nat.le_refl _, hk, (hx _ (by omega)).mpr (Or.inl h2), h3⟩
  · rintro (h | ⟨h1, h2, h3, h4⟩)
    · exact Or.inl (Or.inl h)
    · rcases (hx (j + 1) (by omega)).mp h3 with h5 | ⟨h5, _⟩
      · by_cases e : j = k
        · exact Or.inr ⟨e, by rw [← e]; exact h5, by rw [← e]; exact h4⟩
        · exact Or.inl (Or.inr ⟨by omega, h2, h5, h4⟩)
      · omega
theorem sx_ws_loop {post : Int32 → Prop} {sz : Int32} {se ca la xs : Nat → Int32} {co : Nat → Nat} {p L : Nat} {B : Nat → Prop} (hca : ∀ j, ca j = nI (co j)) (hc3 : ∀ j, co j ≤ 3) (hp : p < 4) (hL : L ≤ 6) (hpost : ∀ y, sw_Cl (sw_c co p) L B (fun j => bt y j = true) → post y) : ∀ k x n, k ≤ L → k < n → sx_I (sw_c co p) L B k x → wX_withSkips_10 post (nI p) sz se ca la xs n x (nI k) := by
  intro k
  induction k with
  | zero =>
    intro x n _ hn hI
    obtain ⟨n, rfl⟩ : ∃ m, n = m + 1 := ⟨n - 1, by omega⟩
    refine br_t (by decide) (hpost x ?_)
    intro j hj
    exact ⟨fun h => ((hI j hj).mp h).elim Or.inl (fun z => Or.inr z.2), fun h => (hI j hj).mpr (h.elim Or.inl (fun z => Or.inr ⟨Nat.zero_le _, z⟩))⟩
  | succ k ih =>
    intro x n hk hn hI
    obtain ⟨n, rfl⟩ : ∃ m, n = m + 1 := ⟨n - 1, by omega⟩
    have hin : vp_in (((nI p * 6) + nI (k + 1)) - 1) 24 := by rw [sx_ix]; exact vp_in_nI (by omega) (by omega)
    have hcl : (((nI p * 6) + nI (k + 1)) - 1).toNatClampNeg = p * 6 + k := by rw [sx_ix]; exact nI_clamp (by omega)
    have h1 : ¬ nI (k + 1) < 1 := nI_nlt (b := 1) (by omega) (by omega)
    have no : ¬ (bt x (k + 1) = true ∧ sw_SK (sw_c co p k)) → ∀ y, y = nI (k + 1) + (-1) → wX_withSkips_10 post (nI p) sz se ca la xs n x y := by
      intro h y ey
      rw [ey, pk_m1]
      exact ih x n (by omega) (by omega) (sx_I_s hk hI (fun j hj => ⟨Or.inl, fun z => z.elim id (fun z => absurd z.2 h)⟩))
    have yes : bt x (k + 1) = true → sw_SK (sw_c co p k) → wX_withSkips_53 post (wX_withSkips_10 post (nI p) sz se ca la xs n) (nI p) x (nI (k + 1)) sz se ca la xs := by
      intro hb hs y ey z ez
      rw [ez, pk_m1, ey, nI_pred]
      exact ih _ n (by omega) (by omega) (sx_I_s hk hI (fun j hj => by rw [sw_set x k (by omega) (by omega)]; simp [hb, hs]))
    refine br_f h1 ⟨hin, fun w ew => ?_⟩
    have ew : w = nI (co (p * 6 + k)) := by rw [ew, hcl, hca]
    have h4 := hc3 (p * 6 + k)
    by_cases hb : bt x (k + 1) = true
    · refine br_f (fun z => absurd (hb.symm.trans ((sw_t0 x (k + 1) (by omega)).mp z)) (by decide)) ?_
      by_cases h2 : co (p * 6 + k) = 1
      · exact br_t (by rw [ew, h2]; decide) (yes hb (Or.inl h2))
      · refine br_f (by rw [ew]; exact sx_ne (b := 1) h2 (by omega) (by omega)) ?_
        by_cases h3 : co (p * 6 + k) = 2
        · exact br_t (by rw [ew, h3]; decide) (yes hb (Or.inr h3))
        · exact br_f (by rw [ew]; exact sx_ne (b := 2) h3 (by omega) (by omega)) (no (fun z => z.2.elim h2 h3))
    · exact br_t ((sw_t0 x (k + 1) (by omega)).mpr (by simpa using hb)) (no (fun z => hb z.1))
theorem sx_ws {post : Int32 → Prop} {sz : Int32} {se ca la xs : Nat → Int32} {co : Nat → Nat} {p L : Nat} (hca : ∀ j, ca j = nI (co j)) (hc3 : ∀ j, co j ≤ 3) (hla : la p = nI L) (hp : p < 4) (hL : L ≤ 6) (x : Int32) (hpost : ∀ y, sw_Cl (sw_c co p) L (fun j => bt x j = true) (fun j => bt y j = true) → post y) : wpX_withSkips post (sz, se, ca, la, xs) (nI p) x := by
  refine ⟨vp_in_nI hp (by omega), fun y ey => ⟨L + 1, ?_⟩⟩
  rw [ey, nI_clamp (by omega), hla]
  refine sx_ws_loop hca hc3 hp hL hpost L x (L + 1) (Nat.le_refl _) (by omega) (fun j hj => ⟨Or.inl, fun z => z.elim id (fun z => ?_)⟩)
  omega
theorem sx_un {post : Int32 → Prop} {sz : Int32} {se ca la xs : Nat → Int32} {co : Nat → Nat} {p L : Nat} (hca : ∀ j, ca j = nI (co j)) (hc3 : ∀ j, co j ≤ 3) (hla : la p = nI L) (hp : p < 4) (hL : L ≤ 6) (hpost : ∀ y, (∀ S e, sw_Inv S (sw_c co p) L e e (fun j => bt y j = true)) → sw_K (sw_c co p) L (fun j => bt y j = true) → post y) : wpX_unreadStates post (sz, se, ca, la, xs) (nI p) := by
  refine ⟨vp_in_nI hp (by omega), ?_⟩
  rw [nI_clamp (by omega), hla]
  refine sx_ws hca hc3 hla hp hL _ (fun y hy => hpost y (fun S e => sw_inv0 (fun j hj => ?_) hy) (sw_Cl_K hy))
  rw [sw_one L (by omega) (by omega), decide_eq_true_iff]
/-! statesBefore -/
def sx_J (C T lp : Nat → Prop) (L k : Nat) (b : Int32) : Prop := ∀ j, j ≤ L → (bt b j = true ↔ (k ≤ j ∧ j < L ∧ C (j + 1) ∧ T j) ∨ (∃ m, j = m + 1 ∧ k ≤ m ∧ C j ∧ T m ∧ lp m))
theorem sx_J_s {C T lp : Nat → Prop} {L k : Nat} {b b' : Int32} (hk : k < L) (hJ : sx_J C T lp L (k + 1) b) (hb : ∀ j, j ≤ L → (bt b' j = true ↔ bt b j = true ∨ (j = k ∧ C (k + 1) ∧ T k) ∨ (j = k + 1 ∧ C (k + 1) ∧ T k ∧ lp k))) : sx_J C T lp L k b' := by
  intro j hj
  rw [hb j hj, hJ j hj]
  constructor
  · rintro ((⟨h1, h2, h3, h4⟩ | ⟨m, e, h1, h2, h3⟩) | ⟨e, h1, h2⟩ | ⟨e, h1, h2, h3⟩)
    · exact Or.inl ⟨by omega, h2, h3, h4⟩
    · exact Or.inr ⟨m, e, by omega, h2, h3⟩
    · subst e
      exact Or.inl ⟨Nat.le_refl _, hk, h1, h2⟩
    · subst e
      exact Or.inr ⟨k, rfl, Nat.le_refl _, h1, h2, h3⟩
  · rintro (⟨h1, h2, h3, h4⟩ | ⟨m, e, h1, h2, h3, h4⟩)
    · by_cases e : j = k
      · subst e
        exact Or.inr (Or.inl ⟨rfl, h3, h4⟩)
      · exact Or.inl (Or.inl ⟨by omega, h2, h3, h4⟩)
    · by_cases e2 : m = k
      · subst e2
        subst e
        exact Or.inr (Or.inr ⟨rfl, h2, h3, h4⟩)
      · exact Or.inl (Or.inr ⟨m, e, by omega, h2, h3, h4⟩)
theorem sx_sb_loop {post : Int32 → Prop} {sz : Int32} {se ca la xs : Nat → Int32} {co : Nat → Nat} {p L s : Nat} {x : Int32} (hca : ∀ j, ca j = nI (co j)) (hc3 : ∀ j, co j ≤ 3) (hla : la p = nI L) (hp : p < 4) (hL : L ≤ 6) (hs : s < 4) (hpost : ∀ D : Nat → Prop, ∀ y, (∀ j, j ≤ L → (D j ↔ (j < L ∧ bt x (j + 1) = true ∧ bt (se (p * 6 + j)) s = true) ∨ (∃ m, j = m + 1 ∧ bt x j = true ∧ bt (se (p * 6 + m)) s = true ∧ sw_LP (sw_c co p m)))) → sw_Cl (sw_c co p) L D (fun j => bt y j = true) → post y) : ∀ k b n, k ≤ L → k < n → sx_J (fun j => bt x j = true) (fun j => bt (se (p * 6 + j)) s = true) (fun j => sw_LP (sw_c co p j)) L k b → wX_statesBefore_11 post (nI p) x (nI s) sz se ca la xs n b (nI k) := by
  intro k
  induction k with
  | zero =>
    intro b n _ hn hJ
    obtain ⟨n, rfl⟩ : ∃ m, n = m + 1 := ⟨n - 1, by omega⟩
    refine br_t (by decide) (sx_ws hca hc3 hla hp hL b (fun y hy => hpost (fun j => bt b j = true) y (fun j hj => ?_) hy))
    refine (hJ j hj).trans ?_
    exact ⟨fun h => h.elim (fun z => Or.inl z.2) (fun ⟨m, e, _, z⟩ => Or.inr ⟨m, e, z⟩), fun h => h.elim (fun z => Or.inl ⟨Nat.zero_le _, z⟩) (fun ⟨m, e, z⟩ => Or.inr ⟨m, e, Nat.zero_le _, z⟩)⟩
  | succ k ih =>
    intro b n hk hn hJ
    obtain ⟨n, rfl⟩ : ∃ m, n = m + 1 := ⟨n - 1, by omega⟩
    have h1 : ¬ nI (k + 1) < 1 := nI_nlt (b := 1) (by omega) (by omega)
    have h4 := hc3 (p * 6 + k)
    have no : ¬ (bt x (k + 1) = true ∧ bt (se (p * 6 + k)) s = true) → ∀ y, y = nI (k + 1) + (-1) → wX_statesBefore_11 post (nI p) x (nI s) sz se ca la xs n b y := by
      intro h y ey
      rw [ey, pk_m1]
      exact ih b n (by omega) (by omega) (sx_J_s hk hJ (fun j hj => ⟨Or.inl, fun z => z.elim id (fun z => z.elim (fun w => absurd w.2 h) (fun w => absurd ⟨w.2.1, w.2.2.1⟩ h))⟩))
    refine br_f h1 (nm_r (sx_ix p k) ?_)
    have hin : vp_in (nI (p * 6 + k)) 24 := vp_in_nI (by omega) (by omega)
    have hcl : (nI (p * 6 + k)).toNatClampNeg = p * 6 + k := nI_clamp (by omega)
    by_cases hb : bt x (k + 1) = true
    · refine br_f (fun z => absurd (hb.symm.trans ((sw_t0 x (k + 1) (by omega)).mp z)) (by decide)) ⟨hin, ?_⟩
      rw [hcl]
      by_cases ht : bt (se (p * 6 + k)) s = true
      · refine br_f (fun z => absurd (ht.symm.trans ((sw_t0 _ s (by omega)).mp z)) (by decide)) (fun w ew => ⟨hin, ?_⟩)
        rw [nI_pred] at ew
        have lp : sw_LP (sw_c co p k) → wX_statesBefore_84 post (wX_statesBefore_11 post (nI p) x (nI s) sz se ca la xs n) (nI p) x (nI s) w (nI (k + 1)) sz se ca la xs := by
          intro hlp y ey z ez
          rw [ez, pk_m1, ey, ew]
          refine ih _ n (by omega) (by omega) (sx_J_s hk hJ (fun j hj => ?_))
          rw [sw_set _ (k + 1) (by omega) (by omega), sw_set b k (by omega) (by omega)]
          simp only [Bool.or_eq_true, decide_eq_true_eq]
          exact ⟨fun h => h.elim (fun h => h.elim Or.inl (fun h => Or.inr (Or.inl ⟨h, hb, ht⟩))) (fun h => Or.inr (Or.inr ⟨h, hb, ht, hlp⟩)), fun h => h.elim (fun h => Or.inl (Or.inl h)) (fun h => h.elim (fun h => Or.inl (Or.inr h.1)) (fun h => Or.inr h.1))⟩
        by_cases h2 : co (p * 6 + k) = 2
        · exact br_t (by rw [hca, h2]; decide) (lp (Or.inl h2))
        · refine br_f (by rw [hca]; exact sx_ne (b := 2) h2 (by omega) (by omega)) ⟨hin, ?_⟩
          by_cases h3 : co (p * 6 + k) = 3
          · exact br_t (by rw [hca, h3]; decide) (lp (Or.inr h3))
          · refine br_f (by rw [hca]; exact sx_ne (b := 3) h3 (by omega) (by omega)) (fun z ez => ?_)
            rw [ez, pk_m1, ew]
            refine ih _ n (by omega) (by omega) (sx_J_s hk hJ (fun j hj => ?_))
            rw [sw_set b k (by omega) (by omega)]
            simp only [Bool.or_eq_true, decide_eq_true_eq]
            exact ⟨fun h => h.elim Or.inl (fun h => Or.inr (Or.inl ⟨h, hb, ht⟩)), fun h => h.elim Or.inl (fun h => h.elim (fun h => Or.inr h.1) (fun h => absurd h.2.2.2 (fun z => z.elim h2 h3)))⟩
      · exact br_t ((sw_t0 _ s (by omega)).mpr (by simpa using ht)) (no (fun z => ht z.2))
    · exact br_t ((sw_t0 x (k + 1) (by omega)).mpr (by simpa using hb)) (no (fun z => hb z.1))
/-- one symbol, the one at place i, read -/
theorem sx_sb {post : Int32 → Prop} {sz : Int32} {se ca la xs : Nat → Int32} {co st : Nat → Nat} {p L i : Nat} {x : Int32} (hca : ∀ j, ca j = nI (co j)) (hc3 : ∀ j, co j ≤ 3) (hla : la p = nI L) (hp : p < 4) (hL : L ≤ 6) (hs : st i < 4) (hK : sw_K (sw_c co p) L (fun j => bt x j = true)) (hpost : ∀ y, (∀ e, sw_Inv (sw_S se st p) (sw_c co p) L e (i + 1) (fun j => bt x j = true) → sw_Inv (sw_S se st p) (sw_c co p) L e i (fun j => bt y j = true)) → sw_K (sw_c co p) L (fun j => bt y j = true) → post y) : wpX_statesBefore post (sz, se, ca, la, xs) (nI p) x (nI (st i)) := by
  refine ⟨vp_in_nI hp (by omega), fun y ey => ⟨L + 1, ?_⟩⟩
  rw [ey, nI_clamp (by omega), hla]
  refine sx_sb_loop hca hc3 hla hp hL hs (fun D y hD hy => hpost y (fun e hI => sw_step (fun k _ => hc3 _) hI hK hD hy) (sw_Cl_K hy)) L 0 (L + 1) (Nat.le_refl _) (by omega) (fun j hj => ?_)
  rw [b_0]
  refine ⟨fun z => absurd z (by decide), fun z => ?_⟩
  rcases z with ⟨h1, h2, _⟩ | ⟨m, h1, h2, _⟩
  · omega
  · omega
end
