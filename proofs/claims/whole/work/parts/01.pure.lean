/-! The mathematics: which rows of the stream fit the first k items, and the pass from the end to the beginning. -/
section
def sw_AL (c d : Nat) : Prop := (c = 0 ∧ d = 1) ∨ (c = 1 ∧ d ≤ 1) ∨ c = 2 ∨ (c = 3 ∧ 1 ≤ d)
def sw_SK (c : Nat) : Prop := c = 1 ∨ c = 2
def sw_LP (c : Nat) : Prop := c = 2 ∨ c = 3
theorem sw_AL_0 {c d : Nat} (hd : d = 0) : sw_AL c d ↔ sw_SK c := by
  subst hd
  unfold sw_AL sw_SK
  omega
theorem sw_AL_1 {c : Nat} (h : c ≤ 3) : sw_AL c 1 := by
  unfold sw_AL
  omega
theorem sw_AL_up {c d : Nat} (h : sw_LP c) (h1 : sw_AL c d) : sw_AL c (d + 1) := by
  unfold sw_AL at h1 ⊢
  unfold sw_LP at h
  omega
theorem sw_AL_dn {c d : Nat} (h : sw_AL c (d + 2)) : sw_LP c ∧ sw_AL c (d + 1) := by
  unfold sw_AL at h ⊢
  unfold sw_LP
  omega
/-- the row f .. q-1 fits the first k items; S k j: the symbol at place j is in the set of item k -/
def sw_F (S : Nat → Nat → Prop) (c : Nat → Nat) (f : Nat) : Nat → Nat → Prop
  | 0 => fun q => q = f
  | k + 1 => fun q => ∃ r, r ≤ q ∧ sw_F S c f k r ∧ sw_AL (c k) (q - r) ∧ ∀ j, r ≤ j → j < q → S k j
theorem sw_F_ge {S : Nat → Nat → Prop} {c : Nat → Nat} {f : Nat} : ∀ k q, sw_F S c f k q → f ≤ q := by
  intro k
  induction k with
  | zero =>
    intro q h
    have h : q = f := h
    omega
  | succ k ih =>
    intro q h
    obtain ⟨r, hr, h1, _, _⟩ := h
    have := ih r h1
    omega
theorem sw_F_skip {S : Nat → Nat → Prop} {c : Nat → Nat} {f k q : Nat} (h : sw_F S c f k q) (hs : sw_SK (c k)) : sw_F S c f (k + 1) q :=
  ⟨q, Nat.le_refl q, h, (sw_AL_0 (Nat.sub_self q)).mpr hs, fun _ a b => absurd a (Nat.not_le.mpr b)⟩
/-- only the symbols of the row count -/
theorem sw_F_ext {S T : Nat → Nat → Prop} {c : Nat → Nat} {f e : Nat} (hST : ∀ k j, j < e → (S k j ↔ T k j)) : ∀ k q, q ≤ e → (sw_F S c f k q ↔ sw_F T c f k q) := by
  intro k
  induction k with
  | zero => intro q _; exact Iff.rfl
  | succ k ih =>
    intro q hq
    constructor
    · rintro ⟨r, hr, h1, h2, h3⟩
      exact ⟨r, hr, (ih r (by omega)).mp h1, h2, fun j a b => (hST k j (by omega)).mp (h3 j a b)⟩
    · rintro ⟨r, hr, h1, h2, h3⟩
      exact ⟨r, hr, (ih r (by omega)).mpr h1, h2, fun j a b => (hST k j (by omega)).mpr (h3 j a b)⟩
/-- C is B with the skips added -/
def sw_Cl (c : Nat → Nat) (L : Nat) (B C : Nat → Prop) : Prop := ∀ j, j ≤ L → (C j ↔ B j ∨ (j < L ∧ C (j + 1) ∧ sw_SK (c j)))
def sw_D (S : Nat → Nat → Prop) (c : Nat → Nat) (L i : Nat) (C : Nat → Prop) (j : Nat) : Prop := (j < L ∧ C (j + 1) ∧ S j i) ∨ (∃ m, j = m + 1 ∧ C j ∧ S m i ∧ sw_LP (c m))
/-- what the states C mean when the places i .. e-1 are read -/
def sw_Inv (S : Nat → Nat → Prop) (c : Nat → Nat) (L e i : Nat) (C : Nat → Prop) : Prop := ∀ f, f ≤ i → (sw_F S c f L e ↔ ∃ k, k ≤ L ∧ sw_F S c f k i ∧ C k)
def sw_K (c : Nat → Nat) (L : Nat) (C : Nat → Prop) : Prop := ∀ j, j < L → C (j + 1) → sw_SK (c j) → C j
theorem sw_Cl_K {c : Nat → Nat} {L : Nat} {B C : Nat → Prop} (h : sw_Cl c L B C) : sw_K c L C :=
  fun j hj h1 h2 => (h j (Nat.le_of_lt hj)).mpr (Or.inr ⟨hj, h1, h2⟩)
theorem sw_inv0 {S : Nat → Nat → Prop} {c : Nat → Nat} {L e : Nat} {B C : Nat → Prop} (hB : ∀ j, j ≤ L → (B j ↔ j = L)) (h : sw_Cl c L B C) : sw_Inv S c L e e C := by
  intro f hf
  constructor
  · intro h1
    exact ⟨L, Nat.le_refl L, h1, (h L (Nat.le_refl L)).mpr (Or.inl ((hB L (Nat.le_refl L)).mpr rfl))⟩
  · rintro ⟨k, hk, h1, h2⟩
    have key : ∀ d k, k + d = L → sw_F S c f k e → C k → sw_F S c f L e := by
      intro d
      induction d with
      | zero =>
        intro k hk h1 _
        have e1 : k = L := by omega
        rw [← e1]
        exact h1
      | succ d ih =>
        intro k hk h1 h2
        rcases (h k (by omega)).mp h2 with hb | ⟨_, hc, hs⟩
        · have := (hB k (by omega)).mp hb
          omega
        · exact ih (k + 1) (by omega) (sw_F_skip h1 hs) hc
    exact key (L - k) k (by omega) h1 h2
theorem sw_step {S : Nat → Nat → Prop} {c : Nat → Nat} {L e i : Nat} {C D C' : Nat → Prop} (hc3 : ∀ k, k < L → c k ≤ 3) (hI : sw_Inv S c L e (i + 1) C) (hK : sw_K c L C) (hD : ∀ j, j ≤ L → (D j ↔ sw_D S c L i C j)) (h : sw_Cl c L D C') : sw_Inv S c L e i C' := by
  intro f hf
  rw [hI f (by omega)]
  have fin : ∀ k, k ≤ L → sw_F S c f k i → D k → ∃ k', k' ≤ L ∧ sw_F S c f k' (i + 1) ∧ C k' := by
    intro k hk h1 h2
    rcases (hD k hk).mp h2 with ⟨hl, h3, h4⟩ | ⟨m, rfl, h3, h4, h5⟩
    · refine ⟨k + 1, hl, ⟨i, by omega, h1, ?_, fun j a b => ?_⟩, h3⟩
      · have e2 : i + 1 - i = 1 := by omega
        rw [e2]
        exact sw_AL_1 (hc3 k hl)
      · have e2 : j = i := by omega
        rw [e2]
        exact h4
    · obtain ⟨r, hr, h6, h7, h8⟩ := h1
      refine ⟨m + 1, hk, ⟨r, by omega, h6, ?_, fun j a b => ?_⟩, h3⟩
      · have e2 : i + 1 - r = (i - r) + 1 := by omega
        rw [e2]
        exact sw_AL_up h5 h7
      · rcases Nat.lt_or_ge j i with hj | hj
        · exact h8 j a hj
        · have e2 : j = i := by omega
          rw [e2]
          exact h4
  have key1 : ∀ k, k ≤ L → sw_F S c f k (i + 1) → C k → ∃ k', k' ≤ L ∧ sw_F S c f k' i ∧ C' k' := by
    intro k
    induction k with
    | zero =>
      intro _ h1 _
      have h1 : i + 1 = f := h1
      omega
    | succ k ih =>
      intro hk h1 h2
      obtain ⟨r, hr, h3, h4, h5⟩ := h1
      rcases Nat.lt_or_ge i r with hlt | hge
      · have e1 : r = i + 1 := by omega
        subst e1
        exact ih (by omega) h3 (hK k (by omega) h2 ((sw_AL_0 (by omega)).mp h4))
      · have hs : S k i := h5 i hge (by omega)
        rcases Nat.lt_or_ge r i with hlt | hge2
        · obtain ⟨d, hd⟩ : ∃ d, i + 1 - r = d + 2 := ⟨i - r - 1, by omega⟩
          rw [hd] at h4
          obtain ⟨h6, h7⟩ := sw_AL_dn h4
          refine ⟨k + 1, hk, ⟨r, by omega, h3, ?_, fun j a b => h5 j a (by omega)⟩, ?_⟩
          · have e2 : i - r = d + 1 := by omega
            rw [e2]
            exact h7
          · exact (h (k + 1) hk).mpr (Or.inl ((hD (k + 1) hk).mpr (Or.inr ⟨k, rfl, h2, hs, h6⟩)))
        · have e1 : r = i := by omega
          rw [e1] at h3
          exact ⟨k, by omega, h3, (h k (by omega)).mpr (Or.inl ((hD k (by omega)).mpr (Or.inl ⟨by omega, h2, hs⟩)))⟩
  have key2 : ∀ d k, k + d = L → sw_F S c f k i → C' k → ∃ k', k' ≤ L ∧ sw_F S c f k' (i + 1) ∧ C k' := by
    intro d
    induction d with
    | zero =>
      intro k hk h1 h2
      rcases (h k (by omega)).mp h2 with hd | ⟨hl, _, _⟩
      · exact fin k (by omega) h1 hd
      · omega
    | succ d ih =>
      intro k hk h1 h2
      rcases (h k (by omega)).mp h2 with hd | ⟨hl, h3, h4⟩
      · exact fin k (by omega) h1 hd
      · exact ih (k + 1) (by omega) (sw_F_skip h1 h4) h3
  constructor
  · rintro ⟨k, hk, h1, h2⟩
    exact key1 k hk h1 h2
  · rintro ⟨k, hk, h1, h2⟩
    exact key2 (L - k) k (by omega) h1 h2
theorem sw_fin {S : Nat → Nat → Prop} {c : Nat → Nat} {L e i : Nat} {C : Nat → Prop} (hI : sw_Inv S c L e i C) (hK : sw_K c L C) : C 0 ↔ sw_F S c i L e := by
  rw [hI i (Nat.le_refl i)]
  constructor
  · intro h
    exact ⟨0, Nat.zero_le _, rfl, h⟩
  · rintro ⟨k, hk, h1, h2⟩
    have key : ∀ k, k ≤ L → sw_F S c i k i → C k → C 0 := by
      intro k
      induction k with
      | zero => intro _ _ h; exact h
      | succ k ih =>
        intro hk h1 h2
        obtain ⟨r, hr, h3, h4, _⟩ := h1
        have h6 := sw_F_ge k r h3
        have e1 : r = i := by omega
        rw [e1] at h3
        exact ih (by omega) h3 (hK k (by omega) h2 ((sw_AL_0 (by omega)).mp h4))
    exact key k hk h1 h2
theorem sw_dead {S : Nat → Nat → Prop} {c : Nat → Nat} {L e i : Nat} {C : Nat → Prop} (hI : sw_Inv S c L e i C) (h0 : ∀ k, k ≤ L → ¬ C k) {f : Nat} (hf : f ≤ i) : ¬ sw_F S c f L e := by
  intro h
  obtain ⟨k, hk, _, h2⟩ := (hI f hf).mp h
  exact h0 k hk h2
/-! a truth value of a proposition, and the scans that both sides make of such values -/
noncomputable def sw_b (P : Prop) : Bool := @decide P (Classical.propDecidable P)
theorem sw_b_t {P : Prop} : sw_b P = true ↔ P := by
  unfold sw_b
  exact @decide_eq_true_iff P (Classical.propDecidable P)
theorem sw_b_f {P : Prop} : sw_b P = false ↔ ¬ P := by
  constructor
  · intro h p
    rw [sw_b_t.mpr p] at h
    exact absurd h (by decide)
  · intro h
    cases e : sw_b P with
    | false => rfl
    | true => exact absurd (sw_b_t.mp e) h
theorem sw_b_c {P Q : Prop} (h : P ↔ Q) : sw_b P = sw_b Q := by rw [propext h]
def sw_or (E : Nat → Bool) : Nat → Int32
  | 0 => 0
  | n + 1 => if E n = true then sw_or E n ||| ((1 : Int32) <<< (nI n &&& 31)) else sw_or E n
def sw_cnt (E : Nat → Bool) : Nat → Nat
  | 0 => 0
  | n + 1 => if E n = true then sw_cnt E n + 1 else sw_cnt E n
theorem sw_cnt_le (E : Nat → Bool) : ∀ n, sw_cnt E n ≤ n := by
  intro n
  induction n with
  | zero => exact Nat.le_refl 0
  | succ n ih =>
    show (if E n = true then sw_cnt E n + 1 else sw_cnt E n) ≤ n + 1
    split <;> omega
def sw_fst (E : Nat → Bool) : Nat → Nat → Int32
  | 0 => fun _ => -1
  | d + 1 => fun i => if E i = true then nI i else sw_fst E d (i + 1)
def sw_lst (E : Nat → Bool) : Nat → Int32
  | 0 => -1
  | i + 1 => if E i = true then nI i else sw_lst E i
theorem sw_fst_none {E : Nat → Bool} : ∀ d i, (∀ j, i ≤ j → j < i + d → E j = false) → sw_fst E d i = -1 := by
  intro d
  induction d with
  | zero => intro i _; rfl
  | succ d ih =>
    intro i h
    show (if E i = true then nI i else sw_fst E d (i + 1)) = -1
    rw [if_neg (by rw [h i (by omega) (by omega)]; decide)]
    exact ih (i + 1) (fun j a b => h j (by omega) (by omega))
theorem sw_fst_cut {E G : Nat → Bool} : ∀ a b i, (∀ j, i ≤ j → j < i + a → E j = G j) → (∀ j, i + a ≤ j → j < i + (a + b) → E j = false) → sw_fst E (a + b) i = sw_fst G a i := by
  intro a
  induction a with
  | zero =>
    intro b i _ h
    rw [Nat.zero_add]
    exact sw_fst_none b i (fun j p q => h j (by omega) (by omega))
  | succ a ih =>
    intro b i h1 h2
    rw [show a + 1 + b = (a + b) + 1 by omega]
    show (if E i = true then nI i else sw_fst E (a + b) (i + 1)) = (if G i = true then nI i else sw_fst G a (i + 1))
    rw [h1 i (by omega) (by omega), ih b (i + 1) (fun j p q => h1 j (by omega) (by omega)) (fun j p q => h2 j (by omega) (by omega))]
theorem sw_lst_same {E G : Nat → Bool} : ∀ a, (∀ j, j < a → E j = G j) → sw_lst E a = sw_lst G a := by
  intro a
  induction a with
  | zero => intro _; rfl
  | succ a ih =>
    intro h
    show (if E a = true then nI a else sw_lst E a) = (if G a = true then nI a else sw_lst G a)
    rw [h a (by omega), ih (fun j p => h j (by omega))]
theorem sw_lst_cut {E G : Nat → Bool} {a : Nat} (h : ∀ j, j < a → E j = G j) : ∀ b, (∀ j, a ≤ j → j < a + b → E j = false) → sw_lst E (a + b) = sw_lst G a := by
  intro b
  induction b with
  | zero =>
    intro _
    exact sw_lst_same a h
  | succ b ih =>
    intro h2
    rw [← Nat.add_assoc]
    rw [show sw_lst E (a + b + 1) = if E (a + b) = true then nI (a + b) else sw_lst E (a + b) from rfl, if_neg (by rw [h2 (a + b) (by omega) (by omega)]; decide)]
    exact ih (fun j p q => h2 j (by omega) (by omega))
/-- the least of the places that E names, or none -/
theorem sw_fst_spec {E : Nat → Bool} : ∀ d i, (∃ j, i ≤ j ∧ j < i + d ∧ E j = true ∧ (∀ l, i ≤ l → l < j → E l = false) ∧ sw_fst E d i = nI j) ∨ ((∀ j, i ≤ j → j < i + d → E j = false) ∧ sw_fst E d i = -1) := by
  intro d
  induction d with
  | zero =>
    intro i
    exact Or.inr ⟨fun j a b => by omega, rfl⟩
  | succ d ih =>
    intro i
    cases h : E i with
    | true => exact Or.inl ⟨i, Nat.le_refl i, by omega, h, fun l a b => by omega, by show (if E i = true then nI i else sw_fst E d (i + 1)) = nI i; rw [if_pos h]⟩
    | false =>
      have e1 : sw_fst E (d + 1) i = sw_fst E d (i + 1) := by
        rw [show sw_fst E (d + 1) i = if E i = true then nI i else sw_fst E d (i + 1) from rfl, h]
        rfl
      rw [e1]
      rcases ih (i + 1) with ⟨j, h1, h2, h3, h4, h5⟩ | ⟨h1, h2⟩
      · refine Or.inl ⟨j, by omega, by omega, h3, fun l a b => ?_, h5⟩
        rcases Nat.lt_or_ge i l with hl | hl
        · exact h4 l hl b
        · rw [show l = i by omega]
          exact h
      · refine Or.inr ⟨fun j a b => ?_, h2⟩
        rcases Nat.lt_or_ge i j with hl | hl
        · exact h1 j hl (by omega)
        · rw [show j = i by omega]
          exact h
/-- v is the length of the longest of the spans M f q, f < q ≤ n; 0 if there is none -/
def sw_Max (M : Nat → Nat → Prop) (n v : Nat) : Prop := (∀ f q, f < q → q ≤ n → M f q → q - f ≤ v) ∧ (v = 0 ∨ ∃ f q, f < q ∧ q ≤ n ∧ M f q ∧ v = q - f)
theorem sw_Max_one {M : Nat → Nat → Prop} {n v w : Nat} (h : sw_Max M n v) (g : sw_Max M n w) : v = w := by
  obtain ⟨h1, h2⟩ := h
  obtain ⟨g1, g2⟩ := g
  have a : v ≤ w := by
    rcases h2 with z | ⟨f, q, a1, a2, a3, a4⟩
    · omega
    · have := g1 f q a1 a2 a3
      omega
  have b : w ≤ v := by
    rcases g2 with z | ⟨f, q, a1, a2, a3, a4⟩
    · omega
    · have := h1 f q a1 a2 a3
      omega
  omega
end
