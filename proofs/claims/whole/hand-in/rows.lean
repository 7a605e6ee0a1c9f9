section
/-! The mathematics: which rows of the stream fit the first k items, and the pass from the end to the beginning. -/
section
def sw_AL (c d : Nat) : Prop := (c = 0 ∧ d = 1) ∨ (c = 1 ∧ d ≤ 1) ∨ c = 2 ∨ (c = 3 ∧ 1 ≤ d)
def sw_SK (c : Nat) : Prop := c = 1 ∨ c = 2
def sw_LP (c : Nat) : Prop := c = 2 ∨ c = 3
theorem sw_AL_0 {c d : Nat} (hd : d = 0) : sw_AL c d ↔ sw_SK c := by
  subst hd
  unfold sw_AL sw_SK
  omega
theorem sw_AL_1 {c : Nat} (h : c ≤ 3) : sw_AL c 1 := by
  unfold sw_AL
  omega
theorem sw_AL_up {c d : Nat} (h : sw_LP c) (h1 : sw_AL c d) : sw_AL c (d + 1) := by
  unfold sw_AL at h1 ⊢
  unfold sw_LP at h
  omega
theorem sw_AL_dn {c d : Nat} (h : sw_AL c (d + 2)) : sw_LP c ∧ sw_AL c (d + 1) := by
  unfold sw_AL at h ⊢
  unfold sw_LP
  omega
/-- the row f .. q-1 fits the first k items; S k j: the symbol at place j is in the set of item k -/
def sw_F (S : Nat → Nat → Prop) (c : Nat → Nat) (f : Nat) : Nat → Nat → Prop
  | 0 => fun q => q = f
  | k + 1 => fun q => ∃ r, r ≤ q ∧ sw_F S c f k r ∧ sw_AL (c k) (q - r) ∧ ∀ j, r ≤ j → j < q → S k j
theorem sw_F_ge {S : Nat → Nat → Prop} {c : Nat → Nat} {f : Nat} : ∀ k q, sw_F S c f k q → f ≤ q := by
  intro k
  induction k with
  | zero =>
    intro q h
    have h : q = f := h
    omega
  | succ k ih =>
    intro q h
    obtain ⟨r, hr, h1, _, _⟩ := h
    have := ih r h1
    omega
theorem sw_F_skip {S : Nat → Nat → Prop} {c : Nat → Nat} {f k q : Nat} (h : sw_F S c f k q) (hs : sw_SK (c k)) : sw_F S c f (k + 1) q :=
  ⟨q, Nat.le_refl q, h, (sw_AL_0 (Nat.sub_self q)).mpr hs, fun _ a b => absurd a (Nat.not_le.mpr b)⟩
/-- only the symbols of the row count -/
theorem sw_F_ext {S T : Nat → Nat → Prop} {c : Nat → Nat} {f e : Nat} (hST : ∀ k j, j < e → (S k j ↔ T k j)) : ∀ k q, q ≤ e → (sw_F S c f k q ↔ sw_F T c f k q) := by
  intro k
  induction k with
  | zero => intro q _; exact Iff.rfl
  | succ k ih =>
    intro q hq
    constructor
    · rintro ⟨r, hr, h1, h2, h3⟩
      exact ⟨r, hr, (ih r (by omega)).mp h1, h2, fun j a b => (hST k j (by omega)).mp (h3 j a b)⟩
    · rintro ⟨r, hr, h1, h2, h3⟩
      exact ⟨r, hr, (ih r (by omega)).mpr h1, h2, fun j a b => (hST k j (by omega)).mpr (h3 j a b)⟩
/-- C is B with the skips added -/
def sw_Cl (c : Nat → Nat) (L : Nat) (B C : Nat → Prop) : Prop := ∀ j, j ≤ L → (C j ↔ B j ∨ (j < L ∧ C (j + 1) ∧ sw_SK (c j)))
def sw_D (S : Nat → Nat → Prop) (c : Nat → Nat) (L i : Nat) (C : Nat → Prop) (j : Nat) : Prop := (j < L ∧ C (j + 1) ∧ S j i) ∨ (∃ m, j = m + 1 ∧ C j ∧ S m i ∧ sw_LP (c m))
/-- what the states C mean when the places i .. e-1 are read -/
def sw_Inv (S : Nat → Nat → Prop) (c : Nat → Nat) (L e i : Nat) (C : Nat → Prop) : Prop := ∀ f, f ≤ i → (sw_F S c f L e ↔ ∃ k, k ≤ L ∧ sw_F S c f k i ∧ C k)
def sw_K (c : Nat → Nat) (L : Nat) (C : Nat → Prop) : Prop := ∀ j, j < L → C (j + 1) → sw_SK (c j) → C j
theorem sw_Cl_K {c : Nat → Nat} {L : Nat} {B C : Nat → Prop} (h : sw_Cl c L B C) : sw_K c L C :=
  fun j hj h1 h2 => (h j (Nat.le_of_lt hj)).mpr (Or.inr ⟨hj, h1, h2⟩)
theorem sw_inv0 {S : Nat → Nat → Prop} {c : Nat → Nat} {L e : Nat} {B C : Nat → Prop} (hB : ∀ j, j ≤ L → (B j ↔ j = L)) (h : sw_Cl c L B C) : sw_Inv S c L e e C := by
  intro f hf
  constructor
  · intro h1
    exact ⟨L, Nat.le_refl L, h1, (h L (Nat.le_refl L)).mpr (Or.inl ((hB L (Nat.le_refl L)).mpr rfl))⟩
  · rintro ⟨k, hk, h1, h2⟩
    have key : ∀ d k, k + d = L → sw_F S c f k e → C k → sw_F S c f L e := by
      intro d
      induction d with
      | zero =>
        intro k hk h1 _
        have e1 : k = L := by omega
        rw [← e1]
        exact h1
      | succ d ih =>
        intro k hk h1 h2
        rcases (h k (by omega)).mp h2 with hb | ⟨_, hc, hs⟩
        · have := (hB k (by omega)).mp hb
          omega
        · exact ih (k + 1) (by omega) (sw_F_skip h1 hs) hc
    exact key (L - k) k (by omega) h1 h2
theorem sw_step {S : Nat → Nat → Prop} {c : Nat → Nat} {L e i : Nat} {C D C' : Nat → Prop} (hc3 : ∀ k, k < L → c k ≤ 3) (hI : sw_Inv S c L e (i + 1) C) (hK : sw_K c L C) (hD : ∀ j, j ≤ L → (D j ↔ sw_D S c L i C j)) (h : sw_Cl c L D C') : sw_Inv S c L e i C' := by
  intro f hf
  rw [hI f (by omega)]
  have fin : ∀ k, k ≤ L → sw_F S c f k i → D k → ∃ k', k' ≤ L ∧ sw_F S c f k' (i + 1) ∧ C k' := by
    intro k hk h1 h2
    rcases (hD k hk).mp h2 with ⟨hl, h3, h4⟩ | ⟨m, rfl, h3, h4, h5⟩
    · refine ⟨k + 1, hl, ⟨i, by omega, h1, ?_, fun j a b => ?_⟩, h3⟩
      · have e2 : i + 1 - i = 1 := by omega
        rw [e2]
        exact sw_AL_1 (hc3 k hl)
      · have e2 : j = i := by omega
        rw [e2]
        exact h4
    · obtain ⟨r, hr, h6, h7, h8⟩ := h1
      refine ⟨m + 1, hk, ⟨r, by omega, h6, ?_, fun j a b => ?_⟩, h3⟩
      · have e2 : i + 1 - r = (i - r) + 1 := by omega
        rw [e2]
        exact sw_AL_up h5 h7
      · rcases Nat.lt_or_ge j i with hj | hj
        · exact h8 j a hj
        · have e2 : j = i := by omega
          rw [e2]
          exact h4
  have key1 : ∀ k, k ≤ L → sw_F S c f k (i + 1) → C k → ∃ k', k' ≤ L ∧ sw_F S c f k' i ∧ C' k' := by
    intro k
    induction k with
    | zero =>
      intro _ h1 _
      have h1 : i + 1 = f := h1
      omega
    | succ k ih =>
      intro hk h1 h2
      obtain ⟨r, hr, h3, h4, h5⟩ := h1
      rcases Nat.lt_or_ge i r with hlt | hge
      · have e1 : r = i + 1 := by omega
        subst e1
        exact ih (by omega) h3 (hK k (by omega) h2 ((sw_AL_0 (by omega)).mp h4))
      · have hs : S k i := h5 i hge (by omega)
        rcases Nat.lt_or_ge r i with hlt | hge2
        · obtain ⟨d, hd⟩ : ∃ d, i + 1 - r = d + 2 := ⟨i - r - 1, by omega⟩
          rw [hd] at h4
          obtain ⟨h6, h7⟩ := sw_AL_dn h4
          refine ⟨k + 1, hk, ⟨r, by omega, h3, ?_, fun j a b => h5 j a (by omega)⟩, ?_⟩
          · have e2 : i - r = d + 1 := by omega
            rw [e2]
            exact h7
          · exact (h (k + 1) hk).mpr (Or.inl ((hD (k + 1) hk).mpr (Or.inr ⟨k, rfl, h2, hs, h6⟩)))
        · have e1 : r = i := by omega
          rw [e1] at h3
          exact ⟨k, by omega, h3, (h k (by omega)).mpr (Or.inl ((hD k (by omega)).mpr (Or.inl ⟨by omega, h2, hs⟩)))⟩
  have key2 : ∀ d k, k + d = L → sw_F S c f k i → C' k → ∃ k', k' ≤ L ∧ sw_F S c f k' (i + 1) ∧ C k' := by
    intro d
    induction d with
    | zero =>
      intro k hk h1 h2
      rcases (h k (by omega)).mp h2 with hd | ⟨hl, _, _⟩
      · exact fin k (by omega) h1 hd
      · omega
    | succ d ih =>
      intro k hk h1 h2
      rcases (h k (by omega)).mp h2 with hd | ⟨hl, h3, h4⟩
      · exact fin k (by omega) h1 hd
      · exact ih (k + 1) (by omega) (sw_F_skip h1 h4) h3
  constructor
  · rintro ⟨k, hk, h1, h2⟩
    exact key1 k hk h1 h2
  · rintro ⟨k, hk, h1, h2⟩
    exact key2 (L - k) k (by omega) h1 h2
theorem sw_fin {S : Nat → Nat → Prop} {c : Nat → Nat} {L e i : Nat} {C : Nat → Prop} (hI : sw_Inv S c L e i C) (hK : sw_K c L C) : C 0 ↔ sw_F S c i L e := by
  rw [hI i (Nat.le_refl i)]
  constructor
  · intro h
    exact ⟨0, Nat.zero_le _, rfl, h⟩
  · rintro ⟨k, hk, h1, h2⟩
    have key : ∀ k, k ≤ L → sw_F S c i k i → C k → C 0 := by
      intro k
      induction k with
      | zero => intro _ _ h; exact h
      | succ k ih =>
        intro hk h1 h2
        obtain ⟨r, hr, h3, h4, _⟩ := h1
        have h6 := sw_F_ge k r h3
        have e1 : r = i := by omega
        rw [e1] at h3
        exact ih (by omega) h3 (hK k (by omega) h2 ((sw_AL_0 (by omega)).mp h4))
    exact key k hk h1 h2
theorem sw_dead {S : Nat → Nat → Prop} {c : Nat → Nat} {L e i : Nat} {C : Nat → Prop} (hI : sw_Inv S c L e i C) (h0 : ∀ k, k ≤ L → ¬ C k) {f : Nat} (hf : f ≤ i) : ¬ sw_F S c f L e := by
  intro h
  obtain ⟨k, hk, _, h2⟩ := (hI f hf).mp h
  exact h0 k hk h2
/-! a truth value of a proposition, and the scans that both sides make of such values -/
noncomputable def sw_b (P : Prop) : Bool := @decide P (Classical.propDecidable P)
theorem sw_b_t {P : Prop} : sw_b P = true ↔ P := by
  unfold sw_b
  exact @decide_eq_true_iff P (Classical.propDecidable P)
theorem sw_b_f {P : Prop} : sw_b P = false ↔ ¬ P := by
  constructor
  · intro h p
    rw [sw_b_t.mpr p] at h
    exact absurd h (by decide)
  · intro h
    cases e : sw_b P with
    | false => rfl
    | true => exact absurd (sw_b_t.mp e) h
theorem sw_b_c {P Q : Prop} (h : P ↔ Q) : sw_b P = sw_b Q := by rw [propext h]
def sw_or (E : Nat → Bool) : Nat → Int32
  | 0 => 0
  | n + 1 => if E n = true then sw_or E n ||| ((1 : Int32) <<< (nI n &&& 31)) else sw_or E n
def sw_cnt (E : Nat → Bool) : Nat → Nat
  | 0 => 0
  | n + 1 => if E n = true then sw_cnt E n + 1 else sw_cnt E n
theorem sw_cnt_le (E : Nat → Bool) : ∀ n, sw_cnt E n ≤ n := by
  intro n
  induction n with
  | zero => exact Nat.le_refl 0
  | succ n ih =>
    show (if E n = true then sw_cnt E n + 1 else sw_cnt E n) ≤ n + 1
    split <;> omega
def sw_fst (E : Nat → Bool) : Nat → Nat → Int32
  | 0 => fun _ => -1
  | d + 1 => fun i => if E i = true then nI i else sw_fst E d (i + 1)
def sw_lst (E : Nat → Bool) : Nat → Int32
  | 0 => -1
  | i + 1 => if E i = true then nI i else sw_lst E i
theorem sw_fst_none {E : Nat → Bool} : ∀ d i, (∀ j, i ≤ j → j < i + d → E j = false) → sw_fst E d i = -1 := by
  intro d
  induction d with
  | zero => intro i _; rfl
  | succ d ih =>
    intro i h
    show (if E i = true then nI i else sw_fst E d (i + 1)) = -1
    rw [if_neg (by rw [h i (by omega) (by omega)]; decide)]
    exact ih (i + 1) (fun j a b => h j (by omega) (by omega))
theorem sw_fst_cut {E G : Nat → Bool} : ∀ a b i, (∀ j, i ≤ j → j < i + a → E j = G j) → (∀ j, i + a ≤ j → j < i + (a + b) → E j = false) → sw_fst E (a + b) i = sw_fst G a i := by
  intro a
  induction a with
  | zero =>
    intro b i _ h
    rw [Nat.zero_add]
    exact sw_fst_none b i (fun j p q => h j (by omega) (by omega))
  | succ a ih =>
    intro b i h1 h2
    rw [show a + 1 + b = (a + b) + 1 by omega]
    show (if E i = true then nI i else sw_fst E (a + b) (i + 1)) = (if G i = true then nI i else sw_fst G a (i + 1))
    rw [h1 i (by omega) (by omega), ih b (i + 1) (fun j p q => h1 j (by omega) (by omega)) (fun j p q => h2 j (by omega) (by omega))]
theorem sw_lst_same {E G : Nat → Bool} : ∀ a, (∀ j, j < a → E j = G j) → sw_lst E a = sw_lst G a := by
  intro a
  induction a with
  | zero => intro _; rfl
  | succ a ih =>
    intro h
    show (if E a = true then nI a else sw_lst E a) = (if G a = true then nI a else sw_lst G a)
    rw [h a (by omega), ih (fun j p => h j (by omega))]
theorem sw_lst_cut {E G : Nat → Bool} {a : Nat} (h : ∀ j, j < a → E j = G j) : ∀ b, (∀ j, a ≤ j → j < a + b → E j = false) → sw_lst E (a + b) = sw_lst G a := by
  intro b
  induction b with
  | zero =>
    intro _
    exact sw_lst_same a h
  | succ b ih =>
    intro h2
    rw [← Nat.add_assoc]
    rw [show sw_lst E (a + b + 1) = if E (a + b) = true then nI (a + b) else sw_lst E (a + b) from rfl, if_neg (by rw [h2 (a + b) (by omega) (by omega)]; decide)]
    exact ih (fun j p q => h2 j (by omega) (by omega))
/-- the least of the places that E names, or none -/
theorem sw_fst_spec {E : Nat → Bool} : ∀ d i, (∃ j, i ≤ j ∧ j < i + d ∧ E j = true ∧ (∀ l, i ≤ l → l < j → E l = false) ∧ sw_fst E d i = nI j) ∨ ((∀ j, i ≤ j → j < i + d → E j = false) ∧ sw_fst E d i = -1) := by
  intro d
  induction d with
  | zero =>
    intro i
    exact Or.inr ⟨fun j a b => by omega, rfl⟩
  | succ d ih =>
    intro i
    cases h : E i with
    | true => exact Or.inl ⟨i, Nat.le_refl i, by omega, h, fun l a b => by omega, by show (if E i = true then nI i else sw_fst E d (i + 1)) = nI i; rw [if_pos h]⟩
    | false =>
      have e1 : sw_fst E (d + 1) i = sw_fst E d (i + 1) := by
        rw [show sw_fst E (d + 1) i = if E i = true then nI i else sw_fst E d (i + 1) from rfl, h]
        rfl
      rw [e1]
      rcases ih (i + 1) with ⟨j, h1, h2, h3, h4, h5⟩ | ⟨h1, h2⟩
      · refine Or.inl ⟨j, by omega, by omega, h3, fun l a b => ?_, h5⟩
        rcases Nat.lt_or_ge i l with hl | hl
        · exact h4 l hl b
        · rw [show l = i by omega]
          exact h
      · refine Or.inr ⟨fun j a b => ?_, h2⟩
        rcases Nat.lt_or_ge i j with hl | hl
        · exact h1 j hl (by omega)
        · rw [show j = i by omega]
          exact h
/-- v is the length of the longest of the spans M f q, f < q ≤ n; 0 if there is none -/
def sw_Max (M : Nat → Nat → Prop) (n v : Nat) : Prop := (∀ f q, f < q → q ≤ n → M f q → q - f ≤ v) ∧ (v = 0 ∨ ∃ f q, f < q ∧ q ≤ n ∧ M f q ∧ v = q - f)
theorem sw_Max_one {M : Nat → Nat → Prop} {n v w : Nat} (h : sw_Max M n v) (g : sw_Max M n w) : v = w := by
  obtain ⟨h1, h2⟩ := h
  obtain ⟨g1, g2⟩ := g
  have a : v ≤ w := by
    rcases h2 with z | ⟨f, q, a1, a2, a3, a4⟩
    · omega
    · have := g1 f q a1 a2 a3
      omega
  have b : w ≤ v := by
    rcases g2 with z | ⟨f, q, a1, a2, a3, a4⟩
    · omega
    · have := h1 f q a1 a2 a3
      omega
  omega
end
end
section
/-! Bits of an int and of a long. The first rows (bt, b_ .., s_l) are the kit's rows to paste (BITS, 'Int32 by its bits'). -/
section
def bt (x : Int32) (i : Nat) : Bool := x.toBitVec.getLsbD i
theorem b_ext {x y : Int32} (h : ∀ i, i < 32 → bt x i = bt y i) : x = y := Int32.toBitVec_inj.mp (BitVec.eq_of_getLsbD_eq (fun i hi => h i hi))
theorem b_or (x y : Int32) (i : Nat) : bt (x ||| y) i = (bt x i || bt y i) := by unfold bt; rw [Int32.toBitVec_or, BitVec.getLsbD_or]
theorem b_and (x y : Int32) (i : Nat) : bt (x &&& y) i = (bt x i && bt y i) := by unfold bt; rw [Int32.toBitVec_and, BitVec.getLsbD_and]
theorem b_0 (i : Nat) : bt 0 i = false := BitVec.getLsbD_zero
theorem s_l : ∀ n, n < 32 → ((nI n &&& 31).toBitVec.smod 32).toNat = n := by decide +kernel
theorem b_shl (n : Nat) (hn : n < 32) (x : Int32) {i : Nat} (hi : i < 32) : bt (x <<< (nI n &&& 31)) i = (decide (n ≤ i) && bt x (i - n)) := by
  unfold bt
  rw [Int32.toBitVec_shiftLeft]
  show (x.toBitVec <<< ((nI n &&& 31).toBitVec.smod 32).toNat).getLsbD i = _
  rw [s_l n hn, BitVec.getLsbD_shiftLeft]
  rcases Nat.lt_or_ge i n with h | h
  · simp [h, Nat.not_le.mpr h]
  · simp [hi, h, Nat.not_lt.mpr h]
theorem b_sshr (n : Nat) (hn : n < 32) (x : Int32) {i : Nat} (hi : i < 32) : bt (x >>> (nI n &&& 31)) i = if n + i < 32 then bt x (n + i) else bt x 31 := by
  unfold bt
  rw [Int32.toBitVec_shiftRight]
  show (x.toBitVec.sshiftRight ((nI n &&& 31).toBitVec.smod 32).toNat).getLsbD i = _
  rw [s_l n hn, BitVec.getLsbD_sshiftRight, BitVec.msb_eq_getLsbD_last]
  simp [hi]
theorem sw_bt1 : ∀ i, i < 32 → bt 1 i = decide (i = 0) := by decide +kernel
theorem sw_and1 (x : Int32) : x &&& 1 = if bt x 0 = true then 1 else 0 := by
  apply b_ext
  intro i hi
  rw [b_and, sw_bt1 i hi]
  rcases Nat.eq_zero_or_pos i with z | z
  · subst z
    cases bt x 0 <;> decide
  · rw [decide_eq_false (show ¬ i = 0 by omega), Bool.and_false]
    cases bt x 0
    · exact (b_0 i).symm
    · show false = bt 1 i
      rw [sw_bt1 i hi, decide_eq_false (show ¬ i = 0 by omega)]
theorem sw_a0 (x : Int32) : x &&& 1 = 0 ↔ bt x 0 = false := by
  rw [sw_and1]
  cases bt x 0 <;> decide
theorem sw_shr0 (x : Int32) (n : Nat) (hn : n < 32) : bt (x >>> (nI n &&& 31)) 0 = bt x n := by
  rw [b_sshr n hn x (by decide), if_pos (show n + 0 < 32 by omega), Nat.add_zero]
theorem sw_t0 (x : Int32) (n : Nat) (hn : n < 32) : (x >>> (nI n &&& 31)) &&& 1 = 0 ↔ bt x n = false := by
  rw [sw_a0, sw_shr0 x n hn]
theorem sw_t1 (x : Int32) (n : Nat) (hn : n < 32) : (x >>> (nI n &&& 31)) &&& 1 = 1 ↔ bt x n = true := by
  rw [sw_and1, sw_shr0 x n hn]
  cases bt x n <;> decide
theorem sw_one (n : Nat) (hn : n < 32) {i : Nat} (hi : i < 32) : bt ((1 : Int32) <<< (nI n &&& 31)) i = decide (i = n) := by
  rw [b_shl n hn 1 hi, sw_bt1 (i - n) (by omega), Bool.eq_iff_iff]
  simp only [Bool.and_eq_true, decide_eq_true_eq]
  omega
theorem sw_set (x : Int32) (n : Nat) (hn : n < 32) {i : Nat} (hi : i < 32) : bt (x ||| ((1 : Int32) <<< (nI n &&& 31))) i = (bt x i || decide (i = n)) := by
  rw [b_or, sw_one n hn hi]
/-! a long -/
def sl_b (x : Int64) (i : Nat) : Bool := x.toBitVec.getLsbD i
theorem sl_ext {x y : Int64} (h : ∀ i, i < 64 → sl_b x i = sl_b y i) : x = y := Int64.toBitVec_inj.mp (BitVec.eq_of_getLsbD_eq (fun i hi => h i hi))
theorem sl_0 (i : Nat) : sl_b 0 i = false := BitVec.getLsbD_zero
theorem sl_or (x y : Int64) (i : Nat) : sl_b (x ||| y) i = (sl_b x i || sl_b y i) := by unfold sl_b; rw [Int64.toBitVec_or, BitVec.getLsbD_or]
theorem sl_and (x y : Int64) (i : Nat) : sl_b (x &&& y) i = (sl_b x i && sl_b y i) := by unfold sl_b; rw [Int64.toBitVec_and, BitVec.getLsbD_and]
theorem sl_sh : ∀ l, l < 64 → ((1 : Int64) <<< ((nI l).toInt64 &&& 63)).toBitVec = BitVec.twoPow 64 l := by decide +kernel
theorem sl_one (n : Nat) (hn : n < 64) {i : Nat} (hi : i < 64) : sl_b ((1 : Int64) <<< ((nI n).toInt64 &&& 63)) i = decide (i = n) := by
  unfold sl_b
  rw [sl_sh n hn, BitVec.getLsbD_twoPow, Bool.eq_iff_iff]
  simp only [Bool.and_eq_true, decide_eq_true_eq]
  omega
theorem sl_set (x : Int64) (n : Nat) (hn : n < 64) {i : Nat} (hi : i < 64) : sl_b (x ||| ((1 : Int64) <<< ((nI n).toInt64 &&& 63))) i = (sl_b x i || decide (i = n)) := by
  rw [sl_or, sl_one n hn hi]
theorem sl_sl : ∀ n, n < 64 → (((nI n).toInt64 &&& 63).toBitVec.smod 64).toNat = n := by decide +kernel
theorem sl_shr0 (x : Int64) (n : Nat) (hn : n < 64) : sl_b (x >>> ((nI n).toInt64 &&& 63)) 0 = sl_b x n := by
  unfold sl_b
  rw [Int64.toBitVec_shiftRight]
  show (x.toBitVec.sshiftRight (((nI n).toInt64 &&& 63).toBitVec.smod 64).toNat).getLsbD 0 = _
  rw [sl_sl n hn, BitVec.getLsbD_sshiftRight]
  simp [hn]
theorem sl_bt1 : ∀ i, i < 64 → sl_b 1 i = decide (i = 0) := by decide +kernel
theorem sl_and1 (x : Int64) : x &&& 1 = if sl_b x 0 = true then 1 else 0 := by
  apply sl_ext
  intro i hi
  rw [sl_and, sl_bt1 i hi]
  rcases Nat.eq_zero_or_pos i with z | z
  · subst z
    cases sl_b x 0 <;> decide
  · rw [decide_eq_false (show ¬ i = 0 by omega), Bool.and_false]
    cases sl_b x 0
    · exact (sl_0 i).symm
    · show false = sl_b 1 i
      rw [sl_bt1 i hi, decide_eq_false (show ¬ i = 0 by omega)]
theorem sl_t0 (x : Int64) (n : Nat) (hn : n < 64) : (x >>> ((nI n).toInt64 &&& 63)) &&& 1 = 0 ↔ sl_b x n = false := by
  rw [sl_and1, sl_shr0 x n hn]
  cases sl_b x n <;> decide
theorem sl_z (x : Int64) : x = 0 ↔ ∀ i, i < 64 → sl_b x i = false := by
  constructor
  · intro h i _
    rw [h]
    exact sl_0 i
  · intro h
    exact sl_ext (fun i hi => (h i hi).trans (sl_0 i).symm)
/-! a few numbers (the kit's rows to paste) -/
theorem pk_us {f : Nat → Int32} {k : Nat} {x : Int32} : upd f k x k = x := if_pos rfl
theorem pk_un {f : Nat → Int32} {k j : Nat} {x : Int32} (h : j ≠ k) : upd f k x j = f j := if_neg h
theorem pk_sub {a b : Nat} (h : b ≤ a) : nI a - nI b = nI (a - b) := by
  obtain ⟨c, rfl⟩ : ∃ c, a = c + b := ⟨a - b, by omega⟩
  rw [← nI_add, Int32.add_sub_cancel, Nat.add_sub_cancel]
theorem pk_m1 (n : Nat) : nI (n + 1) + (-1) = nI n := by
  rw [← nI_1, Int32.add_assoc, show (1 : Int32) + (-1) = 0 from rfl, Int32.add_zero]
theorem pk_mul (a b : Nat) : nI a * nI b = nI (a * b) := (Int32.ofNat_mul a b).symm
end
end
section
/-! What the reference's extend gathers: r done (sw_O), and r in hand up to q0 (sw_N). -/
section
noncomputable def sw_i (P : Prop) : Int32 := if sw_b P = true then 1 else 0
theorem sw_i_t {P : Prop} (h : P) : sw_i P = 1 := if_pos (sw_b_t.mpr h)
theorem sw_i_f {P : Prop} (h : ¬ P) : sw_i P = 0 := if_neg (fun z => h (sw_b_t.mp z))
theorem sw_i_c {P Q : Prop} (h : P ↔ Q) : sw_i P = sw_i Q := by rw [propext h]
theorem sw_i_0 {P : Prop} : sw_i P = 0 ↔ ¬ P := by
  constructor
  · intro h p
    rw [sw_i_t p] at h
    exact absurd h (by decide)
  · exact sw_i_f
def sw_O (P T : Nat → Prop) (c r q : Nat) : Prop := ∃ r', r' < r ∧ r' ≤ q ∧ P r' ∧ sw_AL c (q - r') ∧ ∀ j, r' ≤ j → j < q → T j
def sw_N (P T : Nat → Prop) (c r q0 q : Nat) : Prop := sw_O P T c r q ∨ (r ≤ q ∧ q < q0 ∧ P r ∧ sw_AL c (q - r) ∧ ∀ j, r ≤ j → j < q → T j)
theorem sw_O_0 {P T : Nat → Prop} {c f q : Nat} (hP : ∀ r, P r → f ≤ r) : ¬ sw_O P T c f q := by
  rintro ⟨r, h1, _, h3, _⟩
  have := hP r h3
  omega
theorem sw_O_e {P T : Nat → Prop} {c n q : Nat} (hq : q ≤ n) : sw_O P T c (n + 1) q ↔ ∃ r, r ≤ q ∧ P r ∧ sw_AL c (q - r) ∧ ∀ j, r ≤ j → j < q → T j := by
  constructor
  · rintro ⟨r, _, h2, h3⟩
    exact ⟨r, h2, h3⟩
  · rintro ⟨r, h2, h3⟩
    exact ⟨r, by omega, h2, h3⟩
theorem sw_O_s {P T : Nat → Prop} {c r q : Nat} : sw_O P T c (r + 1) q ↔ sw_O P T c r q ∨ (r ≤ q ∧ P r ∧ sw_AL c (q - r) ∧ ∀ j, r ≤ j → j < q → T j) := by
  constructor
  · rintro ⟨r', h1, h2, h3⟩
    rcases Nat.lt_or_ge r' r with h | h
    · exact Or.inl ⟨r', h, h2, h3⟩
    · have e1 : r' = r := by omega
      rw [e1] at h2 h3
      exact Or.inr ⟨h2, h3⟩
  · rintro (⟨r', h1, h2, h3⟩ | ⟨h2, h3⟩)
    · exact ⟨r', by omega, h2, h3⟩
    · exact ⟨r, by omega, h2, h3⟩
theorem sw_N_b {P T : Nat → Prop} {c r q : Nat} : sw_N P T c r r q ↔ sw_O P T c r q := by
  constructor
  · rintro (h | ⟨h1, h2, _⟩)
    · exact h
    · omega
  · exact Or.inl
theorem sw_N_n {P T : Nat → Prop} {c r n q : Nat} (hq : q ≤ n) : sw_N P T c r (n + 1) q ↔ sw_O P T c (r + 1) q := by
  rw [sw_O_s]
  constructor
  · rintro (h | ⟨h1, _, h3⟩)
    · exact Or.inl h
    · exact Or.inr ⟨h1, h3⟩
  · rintro (h | ⟨h1, h3⟩)
    · exact Or.inl h
    · exact Or.inr ⟨h1, by omega, h3⟩
theorem sw_N_x {P T : Nat → Prop} {c r q0 q : Nat} (hx : ¬ (P r ∧ ∀ j, r ≤ j → j < q0 → T j)) : sw_N P T c r q0 q ↔ sw_O P T c (r + 1) q := by
  rw [sw_O_s]
  constructor
  · rintro (h | ⟨h1, _, h3⟩)
    · exact Or.inl h
    · exact Or.inr ⟨h1, h3⟩
  · rintro (h | ⟨h1, h3, h4, h5⟩)
    · exact Or.inl h
    · refine Or.inr ⟨h1, ?_, h3, h4, h5⟩
      rcases Nat.lt_or_ge q q0 with h | h
      · exact h
      · exact absurd ⟨h3, fun j a b => h5 j a (by omega)⟩ hx
theorem sw_N_ne {P T : Nat → Prop} {c r q0 q : Nat} (hq : q ≠ q0) : sw_N P T c r (q0 + 1) q ↔ sw_N P T c r q0 q := by
  constructor
  · rintro (h | ⟨h1, h2, h3⟩)
    · exact Or.inl h
    · exact Or.inr ⟨h1, by omega, h3⟩
  · rintro (h | ⟨h1, h2, h3⟩)
    · exact Or.inl h
    · exact Or.inr ⟨h1, by omega, h3⟩
theorem sw_N_eq {P T : Nat → Prop} {c r q0 : Nat} (hr : r ≤ q0) (hP : P r) (hT : ∀ j, r ≤ j → j < q0 → T j) : sw_N P T c r (q0 + 1) q0 ↔ sw_N P T c r q0 q0 ∨ sw_AL c (q0 - r) := by
  constructor
  · rintro (h | ⟨h1, h2, h3, h4, _⟩)
    · exact Or.inl (Or.inl h)
    · exact Or.inr h4
  · rintro ((h | ⟨_, h2, _⟩) | h)
    · exact Or.inl h
    · omega
    · exact Or.inr ⟨hr, by omega, hP, h, hT⟩
end
end
section
/-! The class: its private methods against the pure picture. -/
section
def sw_S (se : Nat → Int32) (st : Nat → Nat) (p : Nat) : Nat → Nat → Prop := fun k j => bt (se (p * 6 + k)) (st j) = true
def sw_c (co : Nat → Nat) (p : Nat) : Nat → Nat := fun k => co (p * 6 + k)
/-- the patterns, and the first n symbols, as numbers -/
def sw_H (n : Nat) (ln co st : Nat → Nat) (ca la xs : Nat → Int32) : Prop := (∀ j, la j = nI (ln j)) ∧ (∀ j, ln j ≤ 6) ∧ (∀ j, ca j = nI (co j)) ∧ (∀ j, co j ≤ 3) ∧ (∀ j, j < n → xs j = nI (st j)) ∧ (∀ j, st j < 4)
theorem sw_H_m {n m : Nat} {ln co st : Nat → Nat} {ca la xs : Nat → Int32} (h : sw_H n ln co st ca la xs) (hm : m ≤ n) : sw_H m ln co st ca la xs :=
  ⟨h.1, h.2.1, h.2.2.1, h.2.2.2.1, fun j hj => h.2.2.2.2.1 j (by omega), h.2.2.2.2.2⟩
theorem sx_ne {a b : Nat} (h : a ≠ b) (ha : a < 4) (hb : b < 4) : ¬ nI a = nI b := fun z => h ((nI_eq (by omega) (by omega)).mp z)
theorem sx_ix (p k : Nat) : ((nI p * 6) + nI (k + 1)) - 1 = nI (p * 6 + k) := by
  rw [show (6 : Int32) = nI 6 from by decide, pk_mul, nI_add, show p * 6 + (k + 1) = (p * 6 + k) + 1 by omega, nI_pred]
def sx_I (c : Nat → Nat) (L : Nat) (B : Nat → Prop) (k : Nat) (x : Int32) : Prop := ∀ j, j ≤ L → (bt x j = true ↔ B j ∨ (k ≤ j ∧ j < L ∧ bt x (j + 1) = true ∧ sw_SK (c j)))
theorem sx_I_s {c : Nat → Nat} {L k : Nat} {B : Nat → Prop} {x x' : Int32} (hk : k < L) (hI : sx_I c L B (k + 1) x) (hx : ∀ j, j ≤ L → (bt x' j = true ↔ bt x j = true ∨ (j = k ∧ bt x (k + 1) = true ∧ sw_SK (c k)))) : sx_I c L B k x' := by
  intro j hj
  rw [hx j hj, hI j hj]
  constructor
  · rintro ((h | ⟨h1, h2, h3, h4⟩) | ⟨e, h2, h3⟩)
    · exact Or.inl h
    · exact Or.inr ⟨by omega, h2, (hx (j + 1) (by omega)).mpr (Or.inl h3), h4⟩
    · subst e
      exact Or.inr ⟨Nat.le_refl _, hk, (hx _ (by omega)).mpr (Or.inl h2), h3⟩
  · rintro (h | ⟨h1, h2, h3, h4⟩)
    · exact Or.inl (Or.inl h)
    · rcases (hx (j + 1) (by omega)).mp h3 with h5 | ⟨h5, _⟩
      · by_cases e : j = k
        · exact Or.inr ⟨e, by rw [← e]; exact h5, by rw [← e]; exact h4⟩
        · exact Or.inl (Or.inr ⟨by omega, h2, h5, h4⟩)
      · omega
theorem sx_ws_loop {post : Int32 → Prop} {sz : Int32} {se ca la xs : Nat → Int32} {co : Nat → Nat} {p L : Nat} {B : Nat → Prop} (hca : ∀ j, ca j = nI (co j)) (hc3 : ∀ j, co j ≤ 3) (hp : p < 4) (hL : L ≤ 6) (hpost : ∀ y, sw_Cl (sw_c co p) L B (fun j => bt y j = true) → post y) : ∀ k x n, k ≤ L → k < n → sx_I (sw_c co p) L B k x → wX_withSkips_10 post (nI p) sz se ca la xs n x (nI k) := by
  intro k
  induction k with
  | zero =>
    intro x n _ hn hI
    obtain ⟨n, rfl⟩ : ∃ m, n = m + 1 := ⟨n - 1, by omega⟩
    refine br_t (by decide) (hpost x ?_)
    intro j hj
    exact ⟨fun h => ((hI j hj).mp h).elim Or.inl (fun z => Or.inr z.2), fun h => (hI j hj).mpr (h.elim Or.inl (fun z => Or.inr ⟨Nat.zero_le _, z⟩))⟩
  | succ k ih =>
    intro x n hk hn hI
    obtain ⟨n, rfl⟩ : ∃ m, n = m + 1 := ⟨n - 1, by omega⟩
    have hin : vp_in (((nI p * 6) + nI (k + 1)) - 1) 24 := by rw [sx_ix]; exact vp_in_nI (by omega) (by omega)
    have hcl : (((nI p * 6) + nI (k + 1)) - 1).toNatClampNeg = p * 6 + k := by rw [sx_ix]; exact nI_clamp (by omega)
    have h1 : ¬ nI (k + 1) < 1 := nI_nlt (b := 1) (by omega) (by omega)
    have no : ¬ (bt x (k + 1) = true ∧ sw_SK (sw_c co p k)) → ∀ y, y = nI (k + 1) + (-1) → wX_withSkips_10 post (nI p) sz se ca la xs n x y := by
      intro h y ey
      rw [ey, pk_m1]
      exact ih x n (by omega) (by omega) (sx_I_s hk hI (fun j hj => ⟨Or.inl, fun z => z.elim id (fun z => absurd z.2 h)⟩))
    have yes : bt x (k + 1) = true → sw_SK (sw_c co p k) → wX_withSkips_53 post (wX_withSkips_10 post (nI p) sz se ca la xs n) (nI p) x (nI (k + 1)) sz se ca la xs := by
      intro hb hs y ey z ez
      rw [ez, pk_m1, ey, nI_pred]
      exact ih _ n (by omega) (by omega) (sx_I_s hk hI (fun j hj => by rw [sw_set x k (by omega) (by omega)]; simp [hb, hs]))
    refine br_f h1 ⟨hin, fun w ew => ?_⟩
    have ew : w = nI (co (p * 6 + k)) := by rw [ew, hcl, hca]
    have h4 := hc3 (p * 6 + k)
    by_cases hb : bt x (k + 1) = true
    · refine br_f (fun z => absurd (hb.symm.trans ((sw_t0 x (k + 1) (by omega)).mp z)) (by decide)) ?_
      by_cases h2 : co (p * 6 + k) = 1
      · exact br_t (by rw [ew, h2]; decide) (yes hb (Or.inl h2))
      · refine br_f (by rw [ew]; exact sx_ne (b := 1) h2 (by omega) (by omega)) ?_
        by_cases h3 : co (p * 6 + k) = 2
        · exact br_t (by rw [ew, h3]; decide) (yes hb (Or.inr h3))
        · exact br_f (by rw [ew]; exact sx_ne (b := 2) h3 (by omega) (by omega)) (no (fun z => z.2.elim h2 h3))
    · exact br_t ((sw_t0 x (k + 1) (by omega)).mpr (by simpa using hb)) (no (fun z => hb z.1))
theorem sx_ws {post : Int32 → Prop} {sz : Int32} {se ca la xs : Nat → Int32} {co : Nat → Nat} {p L : Nat} (hca : ∀ j, ca j = nI (co j)) (hc3 : ∀ j, co j ≤ 3) (hla : la p = nI L) (hp : p < 4) (hL : L ≤ 6) (x : Int32) (hpost : ∀ y, sw_Cl (sw_c co p) L (fun j => bt x j = true) (fun j => bt y j = true) → post y) : wpX_withSkips post (sz, se, ca, la, xs) (nI p) x := by
  refine ⟨vp_in_nI hp (by omega), fun y ey => ⟨L + 1, ?_⟩⟩
  rw [ey, nI_clamp (by omega), hla]
  refine sx_ws_loop hca hc3 hp hL hpost L x (L + 1) (Nat.le_refl _) (by omega) (fun j hj => ⟨Or.inl, fun z => z.elim id (fun z => ?_)⟩)
  omega
theorem sx_un {post : Int32 → Prop} {sz : Int32} {se ca la xs : Nat → Int32} {co : Nat → Nat} {p L : Nat} (hca : ∀ j, ca j = nI (co j)) (hc3 : ∀ j, co j ≤ 3) (hla : la p = nI L) (hp : p < 4) (hL : L ≤ 6) (hpost : ∀ y, (∀ S e, sw_Inv S (sw_c co p) L e e (fun j => bt y j = true)) → sw_K (sw_c co p) L (fun j => bt y j = true) → post y) : wpX_unreadStates post (sz, se, ca, la, xs) (nI p) := by
  refine ⟨vp_in_nI hp (by omega), ?_⟩
  rw [nI_clamp (by omega), hla]
  refine sx_ws hca hc3 hla hp hL _ (fun y hy => hpost y (fun S e => sw_inv0 (fun j hj => ?_) hy) (sw_Cl_K hy))
  rw [sw_one L (by omega) (by omega), decide_eq_true_iff]
/-! statesBefore -/
def sx_J (C T lp : Nat → Prop) (L k : Nat) (b : Int32) : Prop := ∀ j, j ≤ L → (bt b j = true ↔ (k ≤ j ∧ j < L ∧ C (j + 1) ∧ T j) ∨ (∃ m, j = m + 1 ∧ k ≤ m ∧ C j ∧ T m ∧ lp m))
theorem sx_J_s {C T lp : Nat → Prop} {L k : Nat} {b b' : Int32} (hk : k < L) (hJ : sx_J C T lp L (k + 1) b) (hb : ∀ j, j ≤ L → (bt b' j = true ↔ bt b j = true ∨ (j = k ∧ C (k + 1) ∧ T k) ∨ (j = k + 1 ∧ C (k + 1) ∧ T k ∧ lp k))) : sx_J C T lp L k b' := by
  intro j hj
  rw [hb j hj, hJ j hj]
  constructor
  · rintro ((⟨h1, h2, h3, h4⟩ | ⟨m, e, h1, h2, h3⟩) | ⟨e, h1, h2⟩ | ⟨e, h1, h2, h3⟩)
    · exact Or.inl ⟨by omega, h2, h3, h4⟩
    · exact Or.inr ⟨m, e, by omega, h2, h3⟩
    · subst e
      exact Or.inl ⟨Nat.le_refl _, hk, h1, h2⟩
    · subst e
      exact Or.inr ⟨k, rfl, Nat.le_refl _, h1, h2, h3⟩
  · rintro (⟨h1, h2, h3, h4⟩ | ⟨m, e, h1, h2, h3, h4⟩)
    · by_cases e : j = k
      · subst e
        exact Or.inr (Or.inl ⟨rfl, h3, h4⟩)
      · exact Or.inl (Or.inl ⟨by omega, h2, h3, h4⟩)
    · by_cases e2 : m = k
      · subst e2
        subst e
        exact Or.inr (Or.inr ⟨rfl, h2, h3, h4⟩)
      · exact Or.inl (Or.inr ⟨m, e, by omega, h2, h3, h4⟩)
theorem sx_sb_loop {post : Int32 → Prop} {sz : Int32} {se ca la xs : Nat → Int32} {co : Nat → Nat} {p L s : Nat} {x : Int32} (hca : ∀ j, ca j = nI (co j)) (hc3 : ∀ j, co j ≤ 3) (hla : la p = nI L) (hp : p < 4) (hL : L ≤ 6) (hs : s < 4) (hpost : ∀ D : Nat → Prop, ∀ y, (∀ j, j ≤ L → (D j ↔ (j < L ∧ bt x (j + 1) = true ∧ bt (se (p * 6 + j)) s = true) ∨ (∃ m, j = m + 1 ∧ bt x j = true ∧ bt (se (p * 6 + m)) s = true ∧ sw_LP (sw_c co p m)))) → sw_Cl (sw_c co p) L D (fun j => bt y j = true) → post y) : ∀ k b n, k ≤ L → k < n → sx_J (fun j => bt x j = true) (fun j => bt (se (p * 6 + j)) s = true) (fun j => sw_LP (sw_c co p j)) L k b → wX_statesBefore_11 post (nI p) x (nI s) sz se ca la xs n b (nI k) := by
  intro k
  induction k with
  | zero =>
    intro b n _ hn hJ
    obtain ⟨n, rfl⟩ : ∃ m, n = m + 1 := ⟨n - 1, by omega⟩
    refine br_t (by decide) (sx_ws hca hc3 hla hp hL b (fun y hy => hpost (fun j => bt b j = true) y (fun j hj => ?_) hy))
    refine (hJ j hj).trans ?_
    exact ⟨fun h => h.elim (fun z => Or.inl z.2) (fun ⟨m, e, _, z⟩ => Or.inr ⟨m, e, z⟩), fun h => h.elim (fun z => Or.inl ⟨Nat.zero_le _, z⟩) (fun ⟨m, e, z⟩ => Or.inr ⟨m, e, Nat.zero_le _, z⟩)⟩
  | succ k ih =>
    intro b n hk hn hJ
    obtain ⟨n, rfl⟩ : ∃ m, n = m + 1 := ⟨n - 1, by omega⟩
    have h1 : ¬ nI (k + 1) < 1 := nI_nlt (b := 1) (by omega) (by omega)
    have h4 := hc3 (p * 6 + k)
    have no : ¬ (bt x (k + 1) = true ∧ bt (se (p * 6 + k)) s = true) → ∀ y, y = nI (k + 1) + (-1) → wX_statesBefore_11 post (nI p) x (nI s) sz se ca la xs n b y := by
      intro h y ey
      rw [ey, pk_m1]
      exact ih b n (by omega) (by omega) (sx_J_s hk hJ (fun j hj => ⟨Or.inl, fun z => z.elim id (fun z => z.elim (fun w => absurd w.2 h) (fun w => absurd ⟨w.2.1, w.2.2.1⟩ h))⟩))
    refine br_f h1 (nm_r (sx_ix p k) ?_)
    have hin : vp_in (nI (p * 6 + k)) 24 := vp_in_nI (by omega) (by omega)
    have hcl : (nI (p * 6 + k)).toNatClampNeg = p * 6 + k := nI_clamp (by omega)
    by_cases hb : bt x (k + 1) = true
    · refine br_f (fun z => absurd (hb.symm.trans ((sw_t0 x (k + 1) (by omega)).mp z)) (by decide)) ⟨hin, ?_⟩
      rw [hcl]
      by_cases ht : bt (se (p * 6 + k)) s = true
      · refine br_f (fun z => absurd (ht.symm.trans ((sw_t0 _ s (by omega)).mp z)) (by decide)) (fun w ew => ⟨hin, ?_⟩)
        rw [nI_pred] at ew
        have lp : sw_LP (sw_c co p k) → wX_statesBefore_84 post (wX_statesBefore_11 post (nI p) x (nI s) sz se ca la xs n) (nI p) x (nI s) w (nI (k + 1)) sz se ca la xs := by
          intro hlp y ey z ez
          rw [ez, pk_m1, ey, ew]
          refine ih _ n (by omega) (by omega) (sx_J_s hk hJ (fun j hj => ?_))
          rw [sw_set _ (k + 1) (by omega) (by omega), sw_set b k (by omega) (by omega)]
          simp only [Bool.or_eq_true, decide_eq_true_eq]
          exact ⟨fun h => h.elim (fun h => h.elim Or.inl (fun h => Or.inr (Or.inl ⟨h, hb, ht⟩))) (fun h => Or.inr (Or.inr ⟨h, hb, ht, hlp⟩)), fun h => h.elim (fun h => Or.inl (Or.inl h)) (fun h => h.elim (fun h => Or.inl (Or.inr h.1)) (fun h => Or.inr h.1))⟩
        by_cases h2 : co (p * 6 + k) = 2
        · exact br_t (by rw [hca, h2]; decide) (lp (Or.inl h2))
        · refine br_f (by rw [hca]; exact sx_ne (b := 2) h2 (by omega) (by omega)) ⟨hin, ?_⟩
          by_cases h3 : co (p * 6 + k) = 3
          · exact br_t (by rw [hca, h3]; decide) (lp (Or.inr h3))
          · refine br_f (by rw [hca]; exact sx_ne (b := 3) h3 (by omega) (by omega)) (fun z ez => ?_)
            rw [ez, pk_m1, ew]
            refine ih _ n (by omega) (by omega) (sx_J_s hk hJ (fun j hj => ?_))
            rw [sw_set b k (by omega) (by omega)]
            simp only [Bool.or_eq_true, decide_eq_true_eq]
            exact ⟨fun h => h.elim Or.inl (fun h => Or.inr (Or.inl ⟨h, hb, ht⟩)), fun h => h.elim Or.inl (fun h => h.elim (fun h => Or.inr h.1) (fun h => absurd h.2.2.2 (fun z => z.elim h2 h3)))⟩
      · exact br_t ((sw_t0 _ s (by omega)).mpr (by simpa using ht)) (no (fun z => ht z.2))
    · exact br_t ((sw_t0 x (k + 1) (by omega)).mpr (by simpa using hb)) (no (fun z => hb z.1))
/-- one symbol, the one at place i, read -/
theorem sx_sb {post : Int32 → Prop} {sz : Int32} {se ca la xs : Nat → Int32} {co st : Nat → Nat} {p L i : Nat} {x : Int32} (hca : ∀ j, ca j = nI (co j)) (hc3 : ∀ j, co j ≤ 3) (hla : la p = nI L) (hp : p < 4) (hL : L ≤ 6) (hs : st i < 4) (hK : sw_K (sw_c co p) L (fun j => bt x j = true)) (hpost : ∀ y, (∀ e, sw_Inv (sw_S se st p) (sw_c co p) L e (i + 1) (fun j => bt x j = true) → sw_Inv (sw_S se st p) (sw_c co p) L e i (fun j => bt y j = true)) → sw_K (sw_c co p) L (fun j => bt y j = true) → post y) : wpX_statesBefore post (sz, se, ca, la, xs) (nI p) x (nI (st i)) := by
  refine ⟨vp_in_nI hp (by omega), fun y ey => ⟨L + 1, ?_⟩⟩
  rw [ey, nI_clamp (by omega), hla]
  refine sx_sb_loop hca hc3 hla hp hL hs (fun D y hD hy => hpost y (fun e hI => sw_step (fun k _ => hc3 _) hI hK hD hy) (sw_Cl_K hy)) L 0 (L + 1) (Nat.le_refl _) (by omega) (fun j hj => ?_)
  rw [b_0]
  refine ⟨fun z => absurd z (by decide), fun z => ?_⟩
  rcases z with ⟨h1, h2, _⟩ | ⟨m, h1, h2, _⟩
  · omega
  · omega
end
end
section
/-! The class: beginnings, and the scans over its places. -/
section
theorem sx_m1 (m : Nat) : nI m + (-1) = nI m - 1 := by rw [Int32.sub_eq_add_neg]
def sx_B (S : Nat → Nat → Prop) (c : Nat → Nat) (L t : Nat) (R : Int64) : Prop := ∀ i, i < 64 → (sl_b R i = true ↔ i ≤ t ∧ sw_F S c i L (t + 1))
theorem sx_bg_loop {post : Int64 → Prop} {sz : Int32} {se ca la xs : Nat → Int32} {co st : Nat → Nat} {p L t : Nat} (hca : ∀ j, ca j = nI (co j)) (hc3 : ∀ j, co j ≤ 3) (hla : la p = nI L) (hp : p < 4) (hL : L ≤ 6) (hst : ∀ j, st j < 4) (hxs : ∀ j, j < t → xs j = nI (st j)) (ht : t ≤ 60) (hpost : ∀ R, sx_B (sw_S se st p) (sw_c co p) L t R → post R) : ∀ m n x R y, m ≤ t → m < n → y = nI m - 1 → sw_Inv (sw_S se st p) (sw_c co p) L (t + 1) m (fun j => bt x j = true) → sw_K (sw_c co p) L (fun j => bt x j = true) → (∀ i, i < 64 → (sl_b R i = true ↔ m ≤ i ∧ i ≤ t ∧ sw_F (sw_S se st p) (sw_c co p) i L (t + 1))) → wX_beginnings_38 post (nI p) sz se ca la xs n x R y := by
  intro m
  induction m with
  | zero =>
    intro n x R y _ hn ey hI hK hR
    obtain ⟨n, rfl⟩ : ∃ m, n = m + 1 := ⟨n - 1, by omega⟩
    subst ey
    exact br_t (by decide) (hpost R (fun i hi => (hR i hi).trans ⟨fun z => z.2, fun z => ⟨Nat.zero_le _, z⟩⟩))
  | succ m ih =>
    intro n x R y hm hn ey hI hK hR
    obtain ⟨n, rfl⟩ : ∃ m, n = m + 1 := ⟨n - 1, by omega⟩
    rw [nI_pred] at ey
    subst ey
    refine br_f (nI_pos (by omega)) ?_
    by_cases hx : x = 0
    · refine br_t hx (hpost R (fun i hi => (hR i hi).trans ⟨fun z => z.2, fun z => ⟨?_, z⟩⟩))
      rcases Nat.lt_or_ge m i with h | h
      · exact h
      · exact absurd z.2 (sw_dead hI (fun k _ => by rw [hx, b_0]; decide) (by omega))
    · refine br_f hx ⟨vp_in_nI (by omega) (by omega), ?_⟩
      rw [nI_clamp (by omega), hxs m (by omega)]
      refine sx_sb hca hc3 hla hp hL (hst m) hK (fun w hw hKw => ?_)
      have hIw := hw _ hI
      have hf : bt w 0 = true ↔ sw_F (sw_S se st p) (sw_c co p) m L (t + 1) := sw_fin hIw hKw
      by_cases hb : bt w 0 = true
      · refine br_f (fun z => absurd (hb.symm.trans ((sw_a0 w).mp z)) (by decide)) (fun R' eR z ez => ?_)
        refine ih n w R' z (by omega) (by omega) (by rw [ez]; exact sx_m1 m) hIw hKw (fun i hi => ?_)
        rw [eR, sl_set R m (by omega) hi]
        simp only [Bool.or_eq_true, decide_eq_true_eq]
        rw [hR i hi]
        constructor
        · rintro (⟨h1, h2⟩ | e)
          · exact ⟨by omega, h2⟩
          · rw [e]
            exact ⟨Nat.le_refl _, by omega, hf.mp hb⟩
        · rintro ⟨h1, h2, h3⟩
          by_cases e : i = m
          · exact Or.inr e
          · exact Or.inl ⟨by omega, h2, h3⟩
      · refine br_t ((sw_a0 w).mpr (by simpa using hb)) (fun z ez => ?_)
        refine ih n w R z (by omega) (by omega) (by rw [ez]; exact sx_m1 m) hIw hKw (fun i hi => (hR i hi).trans ?_)
        constructor
        · rintro ⟨h1, h2⟩
          exact ⟨by omega, h2⟩
        · rintro ⟨h1, h2, h3⟩
          by_cases e : i = m
          · rw [e] at h3
            exact absurd (hf.mpr h3) hb
          · exact ⟨by omega, h2, h3⟩
theorem sx_bg {post : Int64 → Prop} {sz : Int32} {se ca la xs : Nat → Int32} {ln co st : Nat → Nat} {p t : Nat} (h : sw_H t ln co st ca la xs) (hp : p < 4) (ht : t ≤ 60) (hpost : ∀ R, sx_B (sw_S se st p) (sw_c co p) (ln p) t R → post R) : wpX_beginnings post (sz, se, ca, la, xs) (nI p) (nI t) (nI (st t)) := by
  obtain ⟨hla, hL, hca, hc3, hxs, hst⟩ := h
  unfold wpX_beginnings
  refine sx_un hca hc3 (hla p) hp (hL p) (fun y hy hKy => ?_)
  refine sx_sb hca hc3 (hla p) hp (hL p) (hst t) hKy (fun w hw hKw => ?_)
  have hI := hw (t + 1) (hy _ (t + 1))
  have hf : bt w 0 = true ↔ sw_F (sw_S se st p) (sw_c co p) t (ln p) (t + 1) := sw_fin hI hKw
  by_cases hb : bt w 0 = true
  · refine br_f (fun z => absurd (hb.symm.trans ((sw_a0 w).mp z)) (by decide)) (fun R eR y ey => ⟨t + 1, ?_⟩)
    refine sx_bg_loop hca hc3 (hla p) hp (hL p) hst hxs ht hpost t (t + 1) w R y (Nat.le_refl _) (by omega) ey hI hKw (fun i hi => ?_)
    rw [eR, sl_one t (by omega) hi, decide_eq_true_iff]
    constructor
    · intro e
      rw [e]
      exact ⟨Nat.le_refl _, Nat.le_refl _, hf.mp hb⟩
    · rintro ⟨h1, h2, _⟩
      omega
  · refine br_t ((sw_a0 w).mpr (by simpa using hb)) (fun y ey => ⟨t + 1, ?_⟩)
    refine sx_bg_loop hca hc3 (hla p) hp (hL p) hst hxs ht hpost t (t + 1) w 0 y (Nat.le_refl _) (by omega) ey hI hKw (fun i hi => ?_)
    rw [sl_0]
    constructor
    · intro z
      exact absurd z (by decide)
    · rintro ⟨h1, h2, h3⟩
      have e : i = t := by omega
      rw [e] at h3
      exact absurd (hf.mpr h3) hb
/-- does a match of pattern p end at place t -/
noncomputable def sw_E (ln co st : Nat → Nat) (se : Nat → Int32) (p t : Nat) : Bool := sw_b (∃ i, i ≤ t ∧ sw_F (sw_S se st p) (sw_c co p) i (ln p) (t + 1))
theorem sx_B0 {ln co st : Nat → Nat} {se : Nat → Int32} {p t : Nat} {R : Int64} (ht : t ≤ 60) (hB : sx_B (sw_S se st p) (sw_c co p) (ln p) t R) : R = 0 ↔ sw_E ln co st se p t = false := by
  constructor
  · intro h
    refine sw_b_f.mpr ?_
    rintro ⟨i, h1, h2⟩
    have h3 := (hB i (by omega)).mpr ⟨h1, h2⟩
    rw [(sl_z R).mp h i (by omega)] at h3
    exact absurd h3 (by decide)
  · intro h
    rw [sl_z]
    intro i hi
    cases e : sl_b R i with
    | false => rfl
    | true => exact absurd ⟨i, (hB i hi).mp e⟩ (sw_b_f.mp h)
theorem sx_lp {post : Int32 → Prop} {sz : Int32} {se ca la xs : Nat → Int32} (R : Int64) : ∀ d i n, i + d = 60 → d < n → post (sw_fst (sl_b R) d i) → wX_leastPlace_2 post R sz se ca la xs n (nI i) := by
  intro d
  induction d with
  | zero =>
    intro i n hi hn hpost
    obtain ⟨n, rfl⟩ : ∃ m, n = m + 1 := ⟨n - 1, by omega⟩
    exact br_t (nI_le (a := 60) (by omega) (by omega)) hpost
  | succ d ih =>
    intro i n hi hn hpost
    obtain ⟨n, rfl⟩ : ∃ m, n = m + 1 := ⟨n - 1, by omega⟩
    refine br_f (nI_ge (b := 60) (by omega) (by decide)) ?_
    rw [show sw_fst (sl_b R) (d + 1) i = if sl_b R i = true then nI i else sw_fst (sl_b R) d (i + 1) from rfl] at hpost
    by_cases hb : sl_b R i = true
    · rw [if_pos hb] at hpost
      exact br_f (fun z => absurd (hb.symm.trans ((sl_t0 R i (by omega)).mp z)) (by decide)) hpost
    · rw [if_neg hb] at hpost
      refine br_t ((sl_t0 R i (by omega)).mpr (by simpa using hb)) (fun y ey => ?_)
      rw [ey, nI_1]
      exact ih (i + 1) n (by omega) (by omega) hpost
theorem sx_gp {post : Int32 → Prop} {sz : Int32} {se ca la xs : Nat → Int32} (R : Int64) : ∀ i n y, y = nI i - 1 → i ≤ 60 → i < n → post (sw_lst (sl_b R) i) → wX_greatestPlace_3 post R sz se ca la xs n y := by
  intro i
  induction i with
  | zero =>
    intro n y ey hi hn hpost
    obtain ⟨n, rfl⟩ : ∃ m, n = m + 1 := ⟨n - 1, by omega⟩
    subst ey
    exact br_t (by decide) hpost
  | succ i ih =>
    intro n y ey hi hn hpost
    obtain ⟨n, rfl⟩ : ∃ m, n = m + 1 := ⟨n - 1, by omega⟩
    rw [nI_pred] at ey
    subst ey
    refine br_f (nI_pos (by omega)) ?_
    rw [show sw_lst (sl_b R) (i + 1) = if sl_b R i = true then nI i else sw_lst (sl_b R) i from rfl] at hpost
    by_cases hb : sl_b R i = true
    · rw [if_pos hb] at hpost
      exact br_f (fun z => absurd (hb.symm.trans ((sl_t0 R i (by omega)).mp z)) (by decide)) hpost
    · rw [if_neg hb] at hpost
      refine br_t ((sl_t0 R i (by omega)).mpr (by simpa using hb)) (fun z ez => ?_)
      exact ih n z (by rw [ez]; exact sx_m1 i) (by omega) (by omega) hpost
/-! the scans over patterns, places, symbols -/
theorem sw_or_s (E : Nat → Bool) (n : Nat) : sw_or E (n + 1) = if E n = true then sw_or E n ||| ((1 : Int32) <<< (nI n &&& 31)) else sw_or E n := rfl
theorem sw_cnt_s (E : Nat → Bool) (n : Nat) : sw_cnt E (n + 1) = if E n = true then sw_cnt E n + 1 else sw_cnt E n := rfl
theorem sw_fst_s (E : Nat → Bool) (d i : Nat) : sw_fst E (d + 1) i = if E i = true then nI i else sw_fst E d (i + 1) := rfl
theorem sx_nf {b : Bool} (h : ¬ b = true) : b = false := by cases b <;> first | rfl | exact absurd rfl h
theorem sx_tf {b : Bool} (h : b = true) (h2 : b = false) : False := by rw [h] at h2; exact absurd h2 (by decide)
theorem sx_pe {post : Int32 → Prop} {sz : Int32} {se ca la xs : Nat → Int32} {ln co st : Nat → Nat} {t : Nat} (h : sw_H (t + 1) ln co st ca la xs) (ht : t < 60) (hpost : post (sw_or (fun p => sw_E ln co st se p t) 4)) : wpX_patternsEndingAt post (sz, se, ca, la, xs) (nI t) := by
  have key : ∀ d p n, p + d = 4 → d < n → wX_patternsEndingAt_4 post (nI t) sz se ca la xs n (sw_or (fun p => sw_E ln co st se p t) p) (nI p) := by
    intro d
    induction d with
    | zero =>
      intro p n hpd hn
      obtain ⟨n, rfl⟩ : ∃ m, n = m + 1 := ⟨n - 1, by omega⟩
      have e : p = 4 := by omega
      subst e
      exact br_t (by decide) hpost
    | succ d ih =>
      intro p n hpd hn
      obtain ⟨n, rfl⟩ : ∃ m, n = m + 1 := ⟨n - 1, by omega⟩
      refine br_f (nI_ge (b := 4) (by omega) (by decide)) ⟨vp_in_nI ht (by omega), ?_⟩
      rw [nI_clamp (by omega), h.2.2.2.2.1 t (by omega)]
      refine sx_bg (sw_H_m h (by omega)) (by omega) (by omega) (fun R hR => ?_)
      have h0 := sx_B0 (by omega) hR
      have hs := sw_or_s (fun p => sw_E ln co st se p t) p
      by_cases hb : sw_E ln co st se p t = true
      · rw [if_pos hb] at hs
        refine br_f (fun z => sx_tf hb (h0.mp z)) (fun y ey z ez => ?_)
        rw [ez, nI_1, ey, ← hs]
        exact ih (p + 1) n (by omega) (by omega)
      · rw [if_neg hb] at hs
        refine br_t (h0.mpr (sx_nf hb)) (fun z ez => ?_)
        rw [ez, nI_1, ← hs]
        exact ih (p + 1) n (by omega) (by omega)
  exact ⟨5, key 4 0 5 rfl (by omega)⟩
theorem sx_en {post : Int32 → Prop} {se ca la xs : Nat → Int32} {ln co st : Nat → Nat} {n p : Nat} (h : sw_H n ln co st ca la xs) (hn : n ≤ 60) (hp : p < 4) (hpost : post (nI (sw_cnt (fun t => sw_E ln co st se p t) n))) : ∀ d t m, t + d = n → d < m → wX_ends_14 post (nI p) (nI n) se ca la xs m (nI (sw_cnt (fun t => sw_E ln co st se p t) t)) (nI t) := by
  intro d
  induction d with
  | zero =>
    intro t m htd hm
    obtain ⟨m, rfl⟩ : ∃ k, m = k + 1 := ⟨m - 1, by omega⟩
    have e : t = n := by omega
    subst e
    exact br_t (nI_le (Nat.le_refl _) (by omega)) hpost
  | succ d ih =>
    intro t m htd hm
    obtain ⟨m, rfl⟩ : ∃ k, m = k + 1 := ⟨m - 1, by omega⟩
    refine br_f (nI_ge (by omega) (by omega)) ⟨vp_in_nI (by omega) (by omega), ?_⟩
    rw [nI_clamp (by omega), h.2.2.2.2.1 t (by omega)]
    refine sx_bg (sw_H_m h (by omega)) hp (by omega) (fun R hR => ?_)
    have h0 := sx_B0 (by omega) hR
    have hs := sw_cnt_s (fun t => sw_E ln co st se p t) t
    by_cases hb : sw_E ln co st se p t = true
    · rw [if_pos hb] at hs
      refine br_f (fun z => sx_tf hb (h0.mp z)) (fun y ey z ez => ?_)
      rw [ez, nI_1 t, ey, nI_1, ← hs]
      exact ih (t + 1) m (by omega) (by omega)
    · rw [if_neg hb] at hs
      refine br_t (h0.mpr (sx_nf hb)) (fun z ez => ?_)
      rw [ez, nI_1, ← hs]
      exact ih (t + 1) m (by omega) (by omega)
theorem sx_fe {post : Int32 → Prop} {se ca la xs : Nat → Int32} {ln co st : Nat → Nat} {n p : Nat} (h : sw_H n ln co st ca la xs) (hn : n ≤ 60) (hp : p < 4) : ∀ d t m, t + d = n → d < m → post (sw_fst (fun t => sw_E ln co st se p t) d t) → wX_firstEnd_12 post (nI p) (nI n) se ca la xs m (nI t) := by
  intro d
  induction d with
  | zero =>
    intro t m htd hm hpost
    obtain ⟨m, rfl⟩ : ∃ k, m = k + 1 := ⟨m - 1, by omega⟩
    exact br_t (nI_le (by omega) (by omega)) hpost
  | succ d ih =>
    intro t m htd hm hpost
    obtain ⟨m, rfl⟩ : ∃ k, m = k + 1 := ⟨m - 1, by omega⟩
    refine br_f (nI_ge (by omega) (by omega)) ⟨vp_in_nI (by omega) (by omega), ?_⟩
    rw [nI_clamp (by omega), h.2.2.2.2.1 t (by omega)]
    refine sx_bg (sw_H_m h (by omega)) hp (by omega) (fun R hR => ?_)
    have h0 := sx_B0 (by omega) hR
    rw [sw_fst_s] at hpost
    by_cases hb : sw_E ln co st se p t = true
    · rw [if_pos hb] at hpost
      exact br_f (fun z => sx_tf hb (h0.mp z)) hpost
    · rw [if_neg hb] at hpost
      refine br_t (h0.mpr (sx_nf hb)) (fun z ez => ?_)
      rw [ez, nI_1]
      exact ih (t + 1) m (by omega) (by omega) hpost
theorem sw_Max_n {M : Nat → Nat → Prop} {t v : Nat} (h : sw_Max M t v) (hn : ∀ f, f ≤ t → M f (t + 1) → t + 1 - f ≤ v) : sw_Max M (t + 1) v := by
  refine ⟨fun f q h1 h2 h3 => ?_, ?_⟩
  · by_cases e : q = t + 1
    · rw [e] at h3 ⊢
      exact hn f (by omega) h3
    · exact h.1 f q h1 (by omega) h3
  · rcases h.2 with z | ⟨f, q, h1, h2, h3⟩
    · exact Or.inl z
    · exact Or.inr ⟨f, q, h1, by omega, h3⟩
theorem sw_Max_y {M : Nat → Nat → Prop} {t v j : Nat} (h : sw_Max M t v) (hj : j ≤ t) (hM : M j (t + 1)) (hmin : ∀ f, f ≤ t → M f (t + 1) → j ≤ f) (hv : v < t + 1 - j) : sw_Max M (t + 1) (t + 1 - j) := by
  refine ⟨fun f q h1 h2 h3 => ?_, Or.inr ⟨j, t + 1, by omega, Nat.le_refl _, hM, rfl⟩⟩
  by_cases e : q = t + 1
  · rw [e] at h3 ⊢
    have := hmin f (by omega) h3
    omega
  · have := h.1 f q h1 (by omega) h3
    omega
theorem sw_Max_le {M : Nat → Nat → Prop} {t v : Nat} (h : sw_Max M t v) : v ≤ t := by
  rcases h.2 with z | ⟨f, q, h1, h2, _, h4⟩ <;> omega
theorem sw_Max_0 {M : Nat → Nat → Prop} : sw_Max M 0 0 := ⟨fun f q h1 h2 _ => by omega, Or.inl rfl⟩
theorem sx_lo {post : Int32 → Prop} {se ca la xs : Nat → Int32} {ln co st : Nat → Nat} {n p : Nat} (h : sw_H n ln co st ca la xs) (hn : n ≤ 60) (hp : p < 4) (hpost : ∀ v, sw_Max (fun f q => sw_F (sw_S se st p) (sw_c co p) f (ln p) q) n v → post (nI v)) : ∀ d t m v, t + d = n → d < m → sw_Max (fun f q => sw_F (sw_S se st p) (sw_c co p) f (ln p) q) t v → wX_longest_14 post (nI p) (nI n) se ca la xs m (nI v) (nI t) := by
  intro d
  induction d with
  | zero =>
    intro t m v htd hm hv
    obtain ⟨m, rfl⟩ : ∃ k, m = k + 1 := ⟨m - 1, by omega⟩
    have e : t = n := by omega
    subst e
    exact br_t (nI_le (Nat.le_refl _) (by omega)) (hpost v hv)
  | succ d ih =>
    intro t m v htd hm hv
    obtain ⟨m, rfl⟩ : ∃ k, m = k + 1 := ⟨m - 1, by omega⟩
    refine br_f (nI_ge (by omega) (by omega)) ⟨vp_in_nI (by omega) (by omega), ?_⟩
    rw [nI_clamp (by omega), h.2.2.2.2.1 t (by omega)]
    refine sx_bg (sw_H_m h (by omega)) hp (by omega) (fun R hR => ⟨61, ?_⟩)
    refine sx_lp R 60 0 61 rfl (by omega) ?_
    have hvt := sw_Max_le hv
    rcases sw_fst_spec (E := sl_b R) 60 0 with ⟨j, h1, h2, h3, h4, h5⟩ | ⟨h1, h2⟩
    · rw [h5]
      obtain ⟨hj, hM⟩ := (hR j (by omega)).mp h3
      have hmin : ∀ f, f ≤ t → sw_F (sw_S se st p) (sw_c co p) f (ln p) (t + 1) → j ≤ f := by
        intro f hf hM2
        rcases Nat.lt_or_ge f j with z | z
        · exact absurd (h4 f (by omega) z) (by rw [(hR f (by omega)).mpr ⟨hf, hM2⟩]; decide)
        · exact z
      have e1 : (nI t - nI j) + 1 = nI (t + 1 - j) := by
        rw [pk_sub hj, nI_1]
        exact congrArg nI (by omega)
      have ne : ¬ nI j = -1 := fun z => absurd (z ▸ nI_pos' (n := j) (by omega) : (0 : Int32) ≤ -1) (by decide)
      refine br_f ne ?_
      rw [e1]
      by_cases hle : t + 1 - j ≤ v
      · refine br_t (nI_le hle (by omega)) (fun z ez => ?_)
        rw [ez, nI_1]
        exact ih (t + 1) m v (by omega) (by omega) (sw_Max_n hv (fun f hf hM2 => by have := hmin f hf hM2; omega))
      · refine br_f (nI_ge (by omega) (by omega)) (fun y ey z ez => ?_)
        rw [ez, nI_1 t, ey]
        exact ih (t + 1) m _ (by omega) (by omega) (sw_Max_y hv hj hM hmin (by omega))
    · rw [h2]
      refine br_t rfl (fun z ez => ?_)
      rw [ez, nI_1]
      refine ih (t + 1) m v (by omega) (by omega) (sw_Max_n hv (fun f hf hM2 => ?_))
      have h3 := h1 f (by omega) (by omega)
      rw [(hR f (by omega)).mpr ⟨hf, hM2⟩] at h3
      exact absurd h3 (by decide)
def sw_u (st : Nat → Nat) (n s : Nat) : Nat → Nat := fun j => if j = n then s else st j
theorem sw_u_s (st : Nat → Nat) (n s : Nat) : sw_u st n s n = s := if_pos rfl
theorem sw_u_n (st : Nat → Nat) {n j : Nat} (s : Nat) (h : j ≠ n) : sw_u st n s j = st j := if_neg h
theorem sw_H_u {n s : Nat} {ln co st : Nat → Nat} {ca la xs : Nat → Int32} (h : sw_H n ln co st ca la xs) (hs : s < 4) : sw_H n ln co (sw_u st n s) ca la xs := by
  refine ⟨h.1, h.2.1, h.2.2.1, h.2.2.2.1, fun j hj => ?_, fun j => ?_⟩
  · rw [sw_u_n st s (by omega)]
    exact h.2.2.2.2.1 j hj
  · unfold sw_u
    split
    · exact hs
    · exact h.2.2.2.2.2 j
theorem sx_co {post : Int32 → Prop} {se ca la xs : Nat → Int32} {ln co st : Nat → Nat} {n p : Nat} (h : sw_H n ln co st ca la xs) (hn : n ≤ 60) (hp : p < 4) (hpost : post (sw_or (fun s => sw_E ln co (sw_u st n s) se p n) 4)) : ∀ d s m, s + d = 4 → d < m → wX_completing_14 post (nI p) (nI n) se ca la xs m (sw_or (fun s => sw_E ln co (sw_u st n s) se p n) s) (nI s) := by
  intro d
  induction d with
  | zero =>
    intro s m hsd hm
    obtain ⟨m, rfl⟩ : ∃ k, m = k + 1 := ⟨m - 1, by omega⟩
    have e : s = 4 := by omega
    subst e
    exact br_t (by decide) hpost
  | succ d ih =>
    intro s m hsd hm
    obtain ⟨m, rfl⟩ : ∃ k, m = k + 1 := ⟨m - 1, by omega⟩
    refine br_f (nI_ge (b := 4) (by omega) (by decide)) ?_
    have key : ∀ post2 : Int64 → Prop, (∀ R, sx_B (sw_S se (sw_u st n s) p) (sw_c co p) (ln p) n R → post2 R) → wpX_beginnings post2 (nI n, se, ca, la, xs) (nI p) (nI n) (nI s) := by
      intro post2 hp2
      have := sx_bg (sz := nI n) (post := post2) (sw_H_u h (s := s) (by omega)) hp hn hp2
      rw [sw_u_s] at this
      exact this
    refine key _ (fun R hR => ?_)
    have h0 := sx_B0 (by omega) hR
    have hs := sw_or_s (fun s => sw_E ln co (sw_u st n s) se p n) s
    by_cases hb : sw_E ln co (sw_u st n s) se p n = true
    · rw [if_pos hb] at hs
      refine br_f (fun z => sx_tf hb (h0.mp z)) (fun y ey z ez => ?_)
      rw [ez, nI_1, ey, ← hs]
      exact ih (s + 1) m (by omega) (by omega)
    · rw [if_neg hb] at hs
      refine br_t (h0.mpr (sx_nf hb)) (fun z ez => ?_)
      rw [ez, nI_1, ← hs]
      exact ih (s + 1) m (by omega) (by omega)
noncomputable def sw_Z (ln co st : Nat → Nat) (se : Nat → Int32) (p : Nat) : Bool := sw_b (sw_F (sw_S se st p) (sw_c co p) 0 (ln p) 0)
theorem sx_ef {post : Int32 → Prop} {sz : Int32} {se ca la xs : Nat → Int32} {ln co st : Nat → Nat} {n : Nat} (h : sw_H n ln co st ca la xs) (hpost : post (sw_or (fun p => sw_Z ln co st se p) 4)) : ∀ d p m, p + d = 4 → d < m → wX_emptyFits_4 post sz se ca la xs m (sw_or (fun p => sw_Z ln co st se p) p) (nI p) := by
  intro d
  induction d with
  | zero =>
    intro p m hpd hm
    obtain ⟨m, rfl⟩ : ∃ k, m = k + 1 := ⟨m - 1, by omega⟩
    have e : p = 4 := by omega
    subst e
    exact br_t (by decide) hpost
  | succ d ih =>
    intro p m hpd hm
    obtain ⟨m, rfl⟩ : ∃ k, m = k + 1 := ⟨m - 1, by omega⟩
    obtain ⟨hla, hL, hca, hc3, hxs, hst⟩ := h
    refine br_f (nI_ge (b := 4) (by omega) (by decide)) ?_
    refine sx_un hca hc3 (hla p) (by omega) (hL p) (fun y hy hKy => ?_)
    have hf : bt y 0 = true ↔ sw_F (sw_S se st p) (sw_c co p) 0 (ln p) 0 := sw_fin (hy _ 0) hKy
    have hs := sw_or_s (fun p => sw_Z ln co st se p) p
    by_cases hb : sw_Z ln co st se p = true
    · rw [if_pos hb] at hs
      refine br_f (fun z => sx_tf (hf.mpr (sw_b_t.mp hb)) ((sw_a0 y).mp z)) (fun y ey z ez => ?_)
      rw [ez, nI_1, ey, ← hs]
      exact ih (p + 1) m (by omega) (by omega)
    · rw [if_neg hb] at hs
      refine br_t ((sw_a0 y).mpr (sx_nf (fun z => hb (sw_b_t.mpr (hf.mp z))))) (fun z ez => ?_)
      rw [ez, nI_1, ← hs]
      exact ih (p + 1) m (by omega) (by omega)
theorem pk_ix (x : Int32) {n : Nat} (hn : n < 2 ^ 31) : x < 0 ∨ nI n ≤ x ∨ ∃ j : Nat, j < n ∧ x = nI j := by
  by_cases h : x < 0
  · exact Or.inl h
  · obtain ⟨j, hj, rfl⟩ := nI_of h
    by_cases h2 : j < n
    · exact Or.inr (Or.inr ⟨j, h2, rfl⟩)
    · exact Or.inr (Or.inl (nI_le (by omega) hj))
theorem sx_pt {post : Int32 → Prop} {sz : Int32} {se ca la xs : Nat → Int32} {p : Nat} (hp : p < 4) (h : post 1) : wpX_isPattern post (sz, se, ca, la, xs) (nI p) :=
  br_f (nI_pos (by omega)) (br_f (nI_ge (b := 4) hp (by decide)) h)
theorem sx_pf {post : Int32 → Prop} {sz : Int32} {se ca la xs : Nat → Int32} {x : Int32} (hx : x < 0 ∨ nI 4 ≤ x) (h : post 0) : wpX_isPattern post (sz, se, ca, la, xs) x := by
  by_cases h0 : x < 0
  · exact br_t h0 h
  · exact br_f h0 (br_t (hx.resolve_left h0) h)
theorem sx_lt {post : Int32 → Prop} {se ca la xs : Nat → Int32} {n t : Nat} (ht : t < n) (hn : n ≤ 60) (h : post 1) : wpX_isPlace post (nI n, se, ca, la, xs) (nI t) :=
  br_f (nI_pos (by omega)) (br_f (nI_ge ht (by omega)) h)
theorem sx_lf {post : Int32 → Prop} {se ca la xs : Nat → Int32} {n : Nat} {x : Int32} (hx : x < 0 ∨ nI n ≤ x) (h : post 0) : wpX_isPlace post (nI n, se, ca, la, xs) x := by
  by_cases h0 : x < 0
  · exact br_t h0 h
  · exact br_f h0 (br_t (hx.resolve_left h0) h)
end
end
section
/-! The reference: allows, extend, work, endsAt against the pure picture. -/
section
theorem sy_nar {P : Prop} : vp_nar .boolean (sw_i P) = sw_i P := by
  by_cases h : P
  · rw [sw_i_t h]; rfl
  · rw [sw_i_f h]; rfl
theorem sy_nrw {P : Prop} : narrow .boolean (.int (sw_i P)) = .int (sw_i P) := by
  by_cases h : P
  · rw [sw_i_t h]; rfl
  · rw [sw_i_f h]; rfl
theorem sy_ix (p k : Nat) : (6 * nI p) + nI k = nI (p * 6 + k) := by
  rw [show (6 : Int32) = nI 6 from by decide, pk_mul, nI_add, Nat.mul_comm 6 p]
theorem sy_al {post : Int32 → Prop} {m : Int32} {la se ca ys fi mo : Nat → Int32} {c d : Nat} (hc : c ≤ 3) (hd : d < 2 ^ 31) (h : post (sw_i (sw_AL c d))) : wpY_allows post (m, la, se, ca, ys, fi, mo) (nI c) (nI d) := by
  have hcs : c = 0 ∨ c = 1 ∨ c = 2 ∨ c = 3 := by omega
  rcases hcs with e | e | e | e
  · subst e
    refine br_t (by decide) ?_
    by_cases e : d = 1
    · rw [sw_i_t (by unfold sw_AL; omega)] at h
      exact br_t (by rw [e]; decide) h
    · rw [sw_i_f (by unfold sw_AL; omega)] at h
      exact br_f (fun z => e ((nI_eq (b := 1) hd (by decide)).mp z)) h
  · subst e
    refine br_f (by decide) (br_t (by decide) ?_)
    by_cases e : d ≤ 1
    · rw [sw_i_t (by unfold sw_AL; omega)] at h
      exact br_f (nI_nlt (a := 1) e (by decide)) h
    · rw [sw_i_f (by unfold sw_AL; omega)] at h
      exact br_t (nI_lt (a := 1) (by omega) hd) h
  · subst e
    rw [sw_i_t (by unfold sw_AL; omega)] at h
    exact br_f (by decide) (br_f (by decide) (br_t (by decide) h))
  · subst e
    refine br_f (by decide) (br_f (by decide) (br_f (by decide) ?_))
    by_cases e : 1 ≤ d
    · rw [sw_i_t (by unfold sw_AL; omega)] at h
      exact br_f (nI_nlt (b := 1) e hd) h
    · rw [sw_i_f (by unfold sw_AL; omega)] at h
      exact br_t (nI_lt (b := 1) (by omega) (by decide)) h
theorem sy_144 {post : SY → Prop} {m : Int32} {la se ca ys mo : Nat → Int32} {Q : Nat → Prop} {f nn : Nat} (hnn : nn ≤ 61) (hmo : ∀ j, f ≤ j → j ≤ nn → mo j = sw_i (Q j)) (hpost : ∀ fi', (∀ j, f ≤ j → j ≤ nn → fi' j = sw_i (Q j)) → post (m, la, se, ca, ys, fi', mo)) : ∀ d q n fi, q + d = nn + 1 → d < n → f ≤ q → (∀ j, f ≤ j → j < q → fi j = sw_i (Q j)) → wY_extend_144 post (nI nn) m n (nI q) la se ca ys fi mo := by
  intro d
  induction d with
  | zero =>
    intro q n fi hq hn hf hfi
    obtain ⟨n, rfl⟩ : ∃ k, n = k + 1 := ⟨n - 1, by omega⟩
    exact br_t (nI_lt (by omega) (by omega)) (hpost fi (fun j h1 h2 => hfi j h1 (by omega)))
  | succ d ih =>
    intro q n fi hq hn hf hfi
    obtain ⟨n, rfl⟩ : ∃ k, n = k + 1 := ⟨n - 1, by omega⟩
    have hin : vp_in (nI q) 62 := vp_in_nI (by omega) (by omega)
    refine br_f (nI_nlt (by omega) (by omega)) ⟨hin, hin, fun a ea y ey => ?_⟩
    rw [nI_clamp (by omega), hmo q hf (by omega), sy_nar] at ea
    rw [ey, nI_1, ea]
    refine ih (q + 1) n _ (by omega) (by omega) (by omega) (fun j h1 h2 => ?_)
    by_cases e : j = q
    · rw [e]
      exact pk_us
    · rw [pk_un e]
      exact hfi j h1 (by omega)
theorem sy_45 {post : SY → Prop} {J26 : Int32 → (Nat → Int32) → (Nat → Int32) → (Nat → Int32) → (Nat → Int32) → (Nat → Int32) → (Nat → Int32) → Prop} {m : Int32} {la se ca ys fi : Nat → Int32} {P : Nat → Prop} {st : Nat → Nat} {c cell f r nn : Nat} (hcell : cell < 24) (hca : ca cell = nI c) (hc : c ≤ 3) (hys : ∀ j, j < nn → ys j = nI (st j)) (hst : ∀ j, st j < 4) (hnn : nn ≤ 61) (hr : r ≤ nn) (hfr : f ≤ r) (hJ : ∀ mo', (∀ j, f ≤ j → j ≤ nn → mo' j = sw_i (sw_O P (fun j => bt (se cell) (st j) = true) c (r + 1) j)) → J26 (nI (r + 1)) la se ca ys fi mo') : ∀ d q n b mo, q + d = nn + 1 → d < n → r ≤ q → (q ≤ nn → b = sw_i (P r ∧ ∀ j, r ≤ j → j < q → bt (se cell) (st j) = true)) → (∀ j, f ≤ j → j ≤ nn → mo j = sw_i (sw_N P (fun j => bt (se cell) (st j) = true) c r q j)) → wY_extend_45 post J26 (nI cell) (nI f) (nI nn) (nI r) m n b (nI q) la se ca ys fi mo := by
  intro d
  induction d with
  | zero =>
    intro q n b mo hq hn hrq hb hmo
    obtain ⟨n, rfl⟩ : ∃ k, n = k + 1 := ⟨n - 1, by omega⟩
    have e : q = nn + 1 := by omega
    subst e
    refine br_t (nI_lt (by omega) (by omega)) (fun y ey => ?_)
    rw [ey, nI_1]
    exact hJ mo (fun j h1 h2 => (hmo j h1 h2).trans (sw_i_c (sw_N_n h2)))
  | succ d ih =>
    intro q n b mo hqd hn hrq hb hmo
    obtain ⟨n, rfl⟩ : ∃ k, n = k + 1 := ⟨n - 1, by omega⟩
    have hq : q ≤ nn := by omega
    have eb := hb hq
    refine br_f (nI_nlt hq (by omega)) ?_
    by_cases hx : P r ∧ ∀ j, r ≤ j → j < q → bt (se cell) (st j) = true
    · rw [sw_i_t hx] at eb
      have hin : vp_in (nI q) 62 := vp_in_nI (by omega) (by omega)
      have hN := sw_N_eq (c := c) (T := fun j => bt (se cell) (st j) = true) hrq hx.1 hx.2
      have go : ∀ z, z = sw_i (sw_N P (fun j => bt (se cell) (st j) = true) c r (q + 1) q) → wY_extend_95 post J26 (wY_extend_45 post J26 (nI cell) (nI f) (nI nn) (nI r) m n) (nI cell) (nI f) (nI nn) (nI r) (nI q) z (nI q) m la se ca ys fi mo := by
        intro z ez
        refine ⟨hin, fun a ea => ?_⟩
        rw [nI_clamp (by omega), ez, sy_nar] at ea
        have hmo' : ∀ j, f ≤ j → j ≤ nn → a j = sw_i (sw_N P (fun j => bt (se cell) (st j) = true) c r (q + 1) j) := by
          intro j h1 h2
          rw [ea]
          by_cases e : j = q
          · rw [e]
            exact pk_us
          · rw [pk_un e, hmo j h1 h2]
            exact sw_i_c (sw_N_ne e).symm
        by_cases hqn : q = nn
        · refine br_t (nI_le (by omega) (by omega)) (fun y ey => ?_)
          rw [ey, nI_1]
          exact ih (q + 1) n 0 a (by omega) (by omega) (by omega) (fun z => by omega) hmo'
        · refine br_f (nI_ge (by omega) (by omega)) ⟨vp_in_nI hcell (by omega), vp_in_nI (by omega) (by omega), ?_⟩
          rw [nI_clamp (show cell < 2 ^ 31 by omega), nI_clamp (show q < 2 ^ 31 by omega), hys q (by omega)]
          have hs4 := hst q
          by_cases ht : bt (se cell) (st q) = true
          · refine br_t ((sw_t1 _ _ (by omega)).mpr ht) (fun y ey => ?_)
            rw [ey, nI_1]
            refine ih (q + 1) n 1 a (by omega) (by omega) (by omega) (fun _ => (sw_i_t ⟨hx.1, fun j h1 h2 => ?_⟩).symm) hmo'
            by_cases e : j = q
            · rw [e]
              exact ht
            · exact hx.2 j h1 (by omega)
          · refine br_f (fun z => ht ((sw_t1 _ _ (by omega)).mp z)) (fun y ey => ?_)
            rw [ey, nI_1]
            exact ih (q + 1) n 0 a (by omega) (by omega) (by omega) (fun _ => (sw_i_f (fun z => ht (z.2 q hrq (by omega)))).symm) hmo'
      refine br_f (by rw [eb]; decide) ⟨hin, ?_⟩
      rw [nI_clamp (show q < 2 ^ 31 by omega)]
      by_cases hz : sw_N P (fun j => bt (se cell) (st j) = true) c r q q
      · refine br_f (by rw [hmo q (by omega) hq]; exact fun z => sw_i_0.mp z hz) ?_
        exact go 1 (sw_i_t (hN.mpr (Or.inl hz))).symm
      · refine br_t (by rw [hmo q (by omega) hq]; exact sw_i_f hz) ⟨vp_in_nI hcell (by omega), ?_⟩
        rw [nI_clamp (show cell < 2 ^ 31 by omega), hca, pk_sub hrq]
        refine sy_al hc (by omega) ?_
        by_cases ha : sw_AL c (q - r)
        · rw [sw_i_t ha]
          exact br_f (by decide) (go 1 (sw_i_t (hN.mpr (Or.inr ha))).symm)
        · rw [sw_i_f ha]
          exact br_t rfl (go 0 (sw_i_f (fun z => (hN.mp z).elim hz ha)).symm)
    · rw [sw_i_f hx] at eb
      refine br_t eb (fun y ey => ?_)
      rw [ey, nI_1]
      exact hJ mo (fun j h1 h2 => (hmo j h1 h2).trans (sw_i_c (sw_N_x hx)))
theorem sy_26 {post : SY → Prop} {m : Int32} {la se ca ys fi : Nat → Int32} {P : Nat → Prop} {st : Nat → Nat} {c cell f nn : Nat} (hcell : cell < 24) (hca : ca cell = nI c) (hc : c ≤ 3) (hys : ∀ j, j < nn → ys j = nI (st j)) (hst : ∀ j, st j < 4) (hnn : nn ≤ 61) (hf : f ≤ nn) (hfi : ∀ j, f ≤ j → j ≤ nn → fi j = sw_i (P j)) (hpost : ∀ fi' mo', (∀ j, f ≤ j → j ≤ nn → fi' j = sw_i (∃ r, r ≤ j ∧ P r ∧ sw_AL c (j - r) ∧ ∀ i, r ≤ i → i < j → bt (se cell) (st i) = true)) → post (m, la, se, ca, ys, fi', mo')) : ∀ d r n mo, r + d = nn + 1 → d < n → f ≤ r → (∀ j, f ≤ j → j ≤ nn → mo j = sw_i (sw_O P (fun j => bt (se cell) (st j) = true) c r j)) → wY_extend_26 post (nI cell) (nI f) (nI nn) m n (nI r) la se ca ys fi mo := by
  intro d
  induction d with
  | zero =>
    intro r n mo hr hn hfr hmo
    obtain ⟨n, rfl⟩ : ∃ k, n = k + 1 := ⟨n - 1, by omega⟩
    have e : r = nn + 1 := by omega
    subst e
    refine br_t (nI_lt (by omega) (by omega)) ⟨nn + 2, ?_⟩
    exact sy_144 hnn (fun j h1 h2 => (hmo j h1 h2).trans (sw_i_c (sw_O_e h2))) (fun fi' h => hpost fi' mo h) (nn + 1 - f) f (nn + 2) fi (by omega) (by omega) (Nat.le_refl _) (fun j h1 h2 => by omega)
  | succ d ih =>
    intro r n mo hr hn hfr hmo
    obtain ⟨n, rfl⟩ : ∃ k, n = k + 1 := ⟨n - 1, by omega⟩
    refine br_f (nI_nlt (by omega) (by omega)) ⟨vp_in_nI (by omega) (by omega), fun b eb => ⟨nn + 2, ?_⟩⟩
    rw [nI_clamp (by omega), hfi r hfr (by omega)] at eb
    refine sy_45 hcell hca hc hys hst hnn (by omega) hfr (fun mo' h => ih (r + 1) n mo' (by omega) (by omega) (by omega) h) (nn + 1 - r) r (nn + 2) b mo (by omega) (by omega) (Nat.le_refl _) (fun _ => ?_) (fun j h1 h2 => (hmo j h1 h2).trans (sw_i_c sw_N_b.symm))
    rw [eb]
    exact sw_i_c ⟨fun z => ⟨z, fun j a b => by omega⟩, And.left⟩
theorem sy_ex {post : SY → Prop} {m : Int32} {la se ca ys fi mo : Nat → Int32} {P : Nat → Prop} {st : Nat → Nat} {c cell f nn : Nat} (hcell : cell < 24) (hca : ca cell = nI c) (hc : c ≤ 3) (hys : ∀ j, j < nn → ys j = nI (st j)) (hst : ∀ j, st j < 4) (hnn : nn ≤ 61) (hf : f ≤ nn) (hP : ∀ r, P r → f ≤ r) (hfi : ∀ j, f ≤ j → j ≤ nn → fi j = sw_i (P j)) (hpost : ∀ fi' mo', (∀ j, f ≤ j → j ≤ nn → fi' j = sw_i (∃ r, r ≤ j ∧ P r ∧ sw_AL c (j - r) ∧ ∀ i, r ≤ i → i < j → bt (se cell) (st i) = true)) → post (m, la, se, ca, ys, fi', mo')) : wpY_extend post (m, la, se, ca, ys, fi, mo) (nI cell) (nI f) (nI nn) := by
  have key : ∀ d q n mo, q + d = nn + 1 → d < n → f ≤ q → (∀ j, f ≤ j → j < q → mo j = 0) → wY_extend_3 post (nI cell) (nI f) (nI nn) m n (nI q) la se ca ys fi mo := by
    intro d
    induction d with
    | zero =>
      intro q n mo hq hn hfq hmo
      obtain ⟨n, rfl⟩ : ∃ k, n = k + 1 := ⟨n - 1, by omega⟩
      refine br_t (nI_lt (by omega) (by omega)) ⟨nn + 2, ?_⟩
      exact sy_26 hcell hca hc hys hst hnn hf hfi hpost (nn + 1 - f) f (nn + 2) mo (by omega) (by omega) (Nat.le_refl _) (fun j h1 h2 => (hmo j h1 (by omega)).trans (sw_i_f (sw_O_0 hP)).symm)
    | succ d ih =>
      intro q n mo hq hn hfq hmo
      obtain ⟨n, rfl⟩ : ∃ k, n = k + 1 := ⟨n - 1, by omega⟩
      refine br_f (nI_nlt (by omega) (by omega)) ⟨vp_in_nI (by omega) (by omega), fun a ea y ey => ?_⟩
      rw [nI_clamp (by omega)] at ea
      rw [ey, nI_1, ea]
      refine ih (q + 1) n _ (by omega) (by omega) (by omega) (fun j h1 h2 => ?_)
      by_cases e : j = q
      · rw [e]
        exact pk_us
      · rw [pk_un e]
        exact hmo j h1 (by omega)
  exact ⟨nn + 2, key (nn + 1 - f) f (nn + 2) mo (by omega) (by omega) (Nat.le_refl _) (fun j h1 h2 => by omega)⟩
theorem sy_36 {post : SY → Prop} {m : Int32} {la se ca ys : Nat → Int32} {ln co st : Nat → Nat} {p f nn : Nat} (h : sw_H nn ln co st ca la ys) (hp : p < 4) (hnn : nn ≤ 61) (hf : f ≤ nn) (hpost : ∀ fi' mo', (∀ j, f ≤ j → j ≤ nn → fi' j = sw_i (sw_F (sw_S se st p) (sw_c co p) f (ln p) j)) → post (m, la, se, ca, ys, fi', mo')) : ∀ d k n fi mo, k + d = ln p → d < n → (∀ j, f ≤ j → j ≤ nn → fi j = sw_i (sw_F (sw_S se st p) (sw_c co p) f k j)) → wY_work_36 post (nI p) (nI f) (nI nn) n (nI k) m la se ca ys fi mo := by
  obtain ⟨hla, hL, hca, hc3, hys, hst⟩ := h
  have hLp := hL p
  intro d
  induction d with
  | zero =>
    intro k n fi mo hk hn hfi
    obtain ⟨n, rfl⟩ : ∃ k, n = k + 1 := ⟨n - 1, by omega⟩
    have e : k = ln p := by omega
    subst e
    refine ⟨vp_in_nI hp (by omega), ?_⟩
    rw [nI_clamp (by omega), hla p]
    exact br_t (nI_le (Nat.le_refl _) (by omega)) (hpost fi mo hfi)
  | succ d ih =>
    intro k n fi mo hk hn hfi
    obtain ⟨n, rfl⟩ : ∃ k, n = k + 1 := ⟨n - 1, by omega⟩
    refine ⟨vp_in_nI hp (by omega), ?_⟩
    rw [nI_clamp (by omega), hla p]
    refine br_f (nI_ge (by omega) (by omega)) ?_
    rw [sy_ix]
    refine sy_ex (P := fun j => sw_F (sw_S se st p) (sw_c co p) f k j) (by omega) (hca _) (hc3 _) hys hst hnn hf (fun r => sw_F_ge k r) hfi (fun fi' mo' hfi' => ?_)
    intro y ey
    rw [ey, nI_1]
    exact ih (k + 1) n fi' mo' (by omega) (by omega) hfi'
theorem sy_wk {post : SY → Prop} {m : Int32} {la se ca ys fi mo : Nat → Int32} {ln co st : Nat → Nat} {p f nn : Nat} (h : sw_H nn ln co st ca la ys) (hp : p < 4) (hnn : nn ≤ 61) (hf : f ≤ nn) (hpost : ∀ fi' mo', (∀ j, f ≤ j → j ≤ nn → fi' j = sw_i (sw_F (sw_S se st p) (sw_c co p) f (ln p) j)) → post (m, la, se, ca, ys, fi', mo')) : wpY_work post (m, la, se, ca, ys, fi, mo) (nI p) (nI f) (nI nn) := by
  have key : ∀ d q n fi, q + d = nn + 1 → d < n → f ≤ q → (∀ j, f ≤ j → j < q → fi j = sw_i (j = f)) → wY_work_3 post (nI p) (nI f) (nI nn) m n (nI q) la se ca ys fi mo := by
    intro d
    induction d with
    | zero =>
      intro q n fi hq hn hfq hfi
      obtain ⟨n, rfl⟩ : ∃ k, n = k + 1 := ⟨n - 1, by omega⟩
      refine br_t (nI_lt (by omega) (by omega)) ⟨ln p + 1, ?_⟩
      exact sy_36 h hp hnn hf hpost (ln p) 0 (ln p + 1) fi mo (by omega) (by omega) (fun j h1 h2 => hfi j h1 (by omega))
    | succ d ih =>
      intro q n fi hq hn hfq hfi
      obtain ⟨n, rfl⟩ : ∃ k, n = k + 1 := ⟨n - 1, by omega⟩
      refine br_f (nI_nlt (by omega) (by omega)) ?_
      by_cases e : q = f
      · refine br_t (by rw [e]) ⟨vp_in_nI (by omega) (by omega), fun a ea y ey => ?_⟩
        rw [nI_clamp (by omega)] at ea
        rw [ey, nI_1, ea]
        refine ih (q + 1) n _ (by omega) (by omega) (by omega) (fun j h1 h2 => ?_)
        have e2 : j = q := by omega
        rw [e2]
        exact pk_us.trans (sw_i_t e).symm
      · refine br_f (fun z => e ((nI_eq (by omega) (by omega)).mp z)) ⟨vp_in_nI (by omega) (by omega), fun a ea y ey => ?_⟩
        rw [nI_clamp (by omega)] at ea
        rw [ey, nI_1, ea]
        refine ih (q + 1) n _ (by omega) (by omega) (by omega) (fun j h1 h2 => ?_)
        by_cases e2 : j = q
        · rw [e2]
          exact pk_us.trans (sw_i_f e).symm
        · rw [pk_un e2]
          exact hfi j h1 (by omega)
  exact ⟨nn + 2, key (nn + 1 - f) f (nn + 2) fi (by omega) (by omega) (Nat.le_refl _) (fun j h1 h2 => by omega)⟩
theorem sy_ea {post : Int32 → SY → Prop} {m : Int32} {la se ca ys fi mo : Nat → Int32} {ln co st : Nat → Nat} {p t : Nat} (h : sw_H (t + 1) ln co st ca la ys) (hp : p < 4) (ht : t ≤ 60) (hpost : ∀ fi' mo', post (sw_i (∃ i, i ≤ t ∧ sw_F (sw_S se st p) (sw_c co p) i (ln p) (t + 1))) (m, la, se, ca, ys, fi', mo')) : wpY_endsAt post (m, la, se, ca, ys, fi, mo) (nI p) (nI t) (nI (t + 1)) := by
  have key : ∀ d f n x fi mo, f + d = t + 1 → d < n → x = sw_i (∃ i, i < f ∧ sw_F (sw_S se st p) (sw_c co p) i (ln p) (t + 1)) → wY_endsAt_6 post (nI p) (nI t) (nI (t + 1)) n x (nI f) m la se ca ys fi mo := by
    intro d
    induction d with
    | zero =>
      intro f n x fi mo hf hn hx
      obtain ⟨n, rfl⟩ : ∃ k, n = k + 1 := ⟨n - 1, by omega⟩
      have e : f = t + 1 := by omega
      subst e
      have hx2 : x = sw_i (∃ i, i ≤ t ∧ sw_F (sw_S se st p) (sw_c co p) i (ln p) (t + 1)) := hx.trans (sw_i_c ⟨fun ⟨i, a, b⟩ => ⟨i, by omega, b⟩, fun ⟨i, a, b⟩ => ⟨i, by omega, b⟩⟩)
      refine br_t (nI_lt (by omega) (by omega)) ?_
      rw [hx2]
      exact ⟨sy_nrw, hpost fi mo⟩
    | succ d ih =>
      intro f n x fi mo hf hn hx
      obtain ⟨n, rfl⟩ : ∃ k, n = k + 1 := ⟨n - 1, by omega⟩
      refine br_f (nI_nlt (by omega) (by omega)) ?_
      refine sy_wk h hp (by omega) (by omega) (fun fi' mo' hfi => ?_)
      have e1 : (nI t + 1).toNatClampNeg = t + 1 := by rw [nI_1]; exact nI_clamp (by omega)
      have e2 : vp_in (nI t + 1) 62 := by rw [nI_1]; exact vp_in_nI (by omega) (by omega)
      have e3 := hfi (t + 1) (by omega) (Nat.le_refl _)
      by_cases hz : ∃ i, i < f ∧ sw_F (sw_S se st p) (sw_c co p) i (ln p) (t + 1)
      · rw [sw_i_t hz] at hx
        refine br_f (by rw [hx]; decide) (fun y ey => ?_)
        rw [ey, nI_1 f]
        exact ih (f + 1) n 1 fi' mo' (by omega) (by omega) (sw_i_t (hz.elim (fun i z => ⟨i, by omega, z.2⟩))).symm
      · rw [sw_i_f hz] at hx
        refine br_t hx ⟨e2, ?_⟩
        rw [e1, e3]
        by_cases hm : sw_F (sw_S se st p) (sw_c co p) f (ln p) (t + 1)
        · refine br_f (by rw [sw_i_t hm]; decide) (fun y ey => ?_)
          rw [ey, nI_1 f]
          exact ih (f + 1) n 1 fi' mo' (by omega) (by omega) (sw_i_t ⟨f, by omega, hm⟩).symm
        · refine br_t (sw_i_f hm) (fun y ey => ?_)
          rw [ey, nI_1 f]
          refine ih (f + 1) n 0 fi' mo' (by omega) (by omega) (sw_i_f (fun ⟨i, a, b⟩ => ?_)).symm
          by_cases e : i = f
          · rw [e] at b
            exact hm b
          · exact hz ⟨i, by omega, b⟩
  exact ⟨t + 2, key (t + 1) 0 (t + 2) 0 fi mo (by omega) (by omega) (sw_i_f (fun ⟨i, a, _⟩ => by omega)).symm⟩
end
end
section
/-! The reference: its public scans. -/
section
theorem sy_E0 {ln co st : Nat → Nat} {se : Nat → Int32} {p t : Nat} : sw_i (∃ i, i ≤ t ∧ sw_F (sw_S se st p) (sw_c co p) i (ln p) (t + 1)) = 0 ↔ sw_E ln co st se p t = false := sw_i_0.trans sw_b_f.symm
theorem sy_pt {post : Int32 → Prop} {m : Int32} {la se ca ys fi mo : Nat → Int32} {p : Nat} (hp : p < 4) (h : post 1) : wpY_pattern post (m, la, se, ca, ys, fi, mo) (nI p) :=
  br_f (nI_pos (by omega)) (br_f (nI_nlt (a := 3) (by omega) (by decide)) h)
theorem sy_pf {post : Int32 → Prop} {m : Int32} {la se ca ys fi mo : Nat → Int32} {x : Int32} (hx : x < 0 ∨ nI 4 ≤ x) (h : post 0) : wpY_pattern post (m, la, se, ca, ys, fi, mo) x := by
  by_cases h0 : x < 0
  · exact br_t h0 h
  · have h4 := hx.resolve_left h0
    obtain ⟨j, hj, rfl⟩ := nI_of h0
    have h5 := (nI_leI (by decide) hj).mp h4
    exact br_f h0 (br_t (nI_lt (a := 3) (by omega) hj) h)
theorem sy_pe {post : Int32 → SY → Prop} {la se ca ys fi mo : Nat → Int32} {ln co st : Nat → Nat} {n t : Nat} (h : sw_H n ln co st ca la ys) (ht : t < n) (hn : n ≤ 60) (hpost : ∀ fi' mo', post (sw_or (fun p => sw_E ln co st se p t) 4) (nI n, la, se, ca, ys, fi', mo')) : wpY_endingAt post (nI n, la, se, ca, ys, fi, mo) (nI t) := by
  have key : ∀ d p m fi mo, p + d = 4 → d < m → wY_endingAt_4 post (nI t) m (sw_or (fun p => sw_E ln co st se p t) p) (nI p) (nI n) la se ca ys fi mo := by
    intro d
    induction d with
    | zero =>
      intro p m fi mo hpd hm
      obtain ⟨m, rfl⟩ : ∃ k, m = k + 1 := ⟨m - 1, by omega⟩
      have e : p = 4 := by omega
      subst e
      exact br_t (by decide) (hpost fi mo)
    | succ d ih =>
      intro p m fi mo hpd hm
      obtain ⟨m, rfl⟩ : ∃ k, m = k + 1 := ⟨m - 1, by omega⟩
      refine br_f (nI_ge (b := 4) (by omega) (by decide)) (br_f (nI_pos (by omega)) (br_f (nI_ge ht (by omega)) ?_))
      rw [nI_1 t]
      refine sy_ea (sw_H_m h (by omega)) (by omega) (by omega) (fun fi' mo' => ?_)
      have hs := sw_or_s (fun p => sw_E ln co st se p t) p
      by_cases hb : sw_E ln co st se p t = true
      · rw [if_pos hb] at hs
        refine br_f (fun z => sx_tf hb (sy_E0.mp z)) (fun y ey z ez => ?_)
        rw [ez, nI_1, ey, ← hs]
        exact ih (p + 1) m fi' mo' (by omega) (by omega)
      · rw [if_neg hb] at hs
        refine br_t (sy_E0.mpr (sx_nf hb)) (fun z ez => ?_)
        rw [ez, nI_1, ← hs]
        exact ih (p + 1) m fi' mo' (by omega) (by omega)
  exact ⟨5, key 4 0 5 fi mo rfl (by omega)⟩
theorem sy_pe0 {post : Int32 → SY → Prop} {la se ca ys fi mo : Nat → Int32} {n : Nat} {x : Int32} (hx : x < 0 ∨ nI n ≤ x) (h : post 0 (nI n, la, se, ca, ys, fi, mo)) : wpY_endingAt post (nI n, la, se, ca, ys, fi, mo) x := by
  refine ⟨1, br_f (by decide) ?_⟩
  by_cases h0 : x < 0
  · exact br_t h0 h
  · exact br_f h0 (br_t (hx.resolve_left h0) h)
theorem sy_en {post : Int32 → SY → Prop} {la se ca ys fi mo : Nat → Int32} {ln co st : Nat → Nat} {n p : Nat} (h : sw_H n ln co st ca la ys) (hp : p < 4) (hn : n ≤ 60) (hpost : ∀ fi' mo', post (nI (sw_cnt (fun t => sw_E ln co st se p t) n)) (nI n, la, se, ca, ys, fi', mo')) : wpY_ends post (nI n, la, se, ca, ys, fi, mo) (nI p) := by
  have key : ∀ d t m fi mo, t + d = n → d < m → wY_ends_4 post (nI p) m (nI (sw_cnt (fun t => sw_E ln co st se p t) t)) (nI t) (nI n) la se ca ys fi mo := by
    intro d
    induction d with
    | zero =>
      intro t m fi mo htd hm
      obtain ⟨m, rfl⟩ : ∃ k, m = k + 1 := ⟨m - 1, by omega⟩
      have e : t = n := by omega
      subst e
      exact br_t (nI_le (Nat.le_refl _) (by omega)) (hpost fi mo)
    | succ d ih =>
      intro t m fi mo htd hm
      obtain ⟨m, rfl⟩ : ∃ k, m = k + 1 := ⟨m - 1, by omega⟩
      refine br_f (nI_ge (by omega) (by omega)) (sy_pt hp (br_f (by decide) ?_))
      have key2 : ∀ post2 : Int32 → SY → Prop, (∀ fi' mo', post2 (sw_i (∃ i, i ≤ t ∧ sw_F (sw_S se st p) (sw_c co p) i (ln p) (t + 1))) (nI n, la, se, ca, ys, fi', mo')) → wpY_endsAt post2 (nI n, la, se, ca, ys, fi, mo) (nI p) (nI t) (nI t + 1) := by
        intro post2 hp2
        rw [nI_1 t]
        exact sy_ea (sw_H_m h (by omega)) hp (by omega) hp2
      refine key2 _ (fun fi' mo' => ?_)
      have hs := sw_cnt_s (fun t => sw_E ln co st se p t) t
      by_cases hb : sw_E ln co st se p t = true
      · rw [if_pos hb] at hs
        refine br_f (fun z => sx_tf hb (sy_E0.mp z)) (fun y ey z ez => ?_)
        rw [ez, nI_1 t, ey, nI_1, ← hs]
        exact ih (t + 1) m fi' mo' (by omega) (by omega)
      · rw [if_neg hb] at hs
        refine br_t (sy_E0.mpr (sx_nf hb)) (fun z ez => ?_)
        rw [ez, nI_1, ← hs]
        exact ih (t + 1) m fi' mo' (by omega) (by omega)
  exact ⟨n + 1, key n 0 (n + 1) fi mo (by omega) (by omega)⟩
theorem sy_en0 {post : Int32 → SY → Prop} {la se ca ys fi mo : Nat → Int32} {n : Nat} {x : Int32} (hx : x < 0 ∨ nI 4 ≤ x) (h : post 0 (nI n, la, se, ca, ys, fi, mo)) : wpY_ends post (nI n, la, se, ca, ys, fi, mo) x :=
  ⟨1, br_c (fun _ => h) (fun _ => sy_pf hx (br_t rfl h))⟩
theorem sy_fe {post : Int32 → SY → Prop} {la se ca ys fi mo : Nat → Int32} {ln co st : Nat → Nat} {n p : Nat} (h : sw_H n ln co st ca la ys) (hp : p < 4) (hn : n ≤ 60) (hpost : ∀ fi' mo', post (sw_fst (fun t => sw_E ln co st se p t) n 0) (nI n, la, se, ca, ys, fi', mo')) : wpY_firstEnd post (nI n, la, se, ca, ys, fi, mo) (nI p) := by
  have key : ∀ d t m fi mo, t + d = n → d < m → (∀ fi' mo', post (sw_fst (fun t => sw_E ln co st se p t) d t) (nI n, la, se, ca, ys, fi', mo')) → wY_firstEnd_2 post (nI p) m (nI t) (nI n) la se ca ys fi mo := by
    intro d
    induction d with
    | zero =>
      intro t m fi mo htd hm hpo
      obtain ⟨m, rfl⟩ : ∃ k, m = k + 1 := ⟨m - 1, by omega⟩
      exact br_t (nI_le (by omega) (by omega)) (hpo fi mo)
    | succ d ih =>
      intro t m fi mo htd hm hpo
      obtain ⟨m, rfl⟩ : ∃ k, m = k + 1 := ⟨m - 1, by omega⟩
      refine br_f (nI_ge (by omega) (by omega)) (sy_pt hp (br_f (by decide) ?_))
      have key2 : ∀ post2 : Int32 → SY → Prop, (∀ fi' mo', post2 (sw_i (∃ i, i ≤ t ∧ sw_F (sw_S se st p) (sw_c co p) i (ln p) (t + 1))) (nI n, la, se, ca, ys, fi', mo')) → wpY_endsAt post2 (nI n, la, se, ca, ys, fi, mo) (nI p) (nI t) (nI t + 1) := by
        intro post2 hp2
        rw [nI_1 t]
        exact sy_ea (sw_H_m h (by omega)) hp (by omega) hp2
      refine key2 _ (fun fi' mo' => ?_)
      rw [sw_fst_s] at hpo
      by_cases hb : sw_E ln co st se p t = true
      · rw [if_pos hb] at hpo
        exact br_f (fun z => sx_tf hb (sy_E0.mp z)) (hpo fi' mo')
      · rw [if_neg hb] at hpo
        refine br_t (sy_E0.mpr (sx_nf hb)) (fun z ez => ?_)
        rw [ez, nI_1]
        exact ih (t + 1) m fi' mo' (by omega) (by omega) hpo
  exact ⟨n + 1, key n 0 (n + 1) fi mo (by omega) (by omega) hpost⟩
theorem sy_fe0 {post : Int32 → SY → Prop} {la se ca ys fi mo : Nat → Int32} {n : Nat} {x : Int32} (hx : x < 0 ∨ nI 4 ≤ x) (h : post (-1) (nI n, la, se, ca, ys, fi, mo)) : wpY_firstEnd post (nI n, la, se, ca, ys, fi, mo) x :=
  ⟨1, br_c (fun _ => h) (fun _ => sy_pf hx (br_t rfl h))⟩
theorem sy_er {post : Int32 → SY → Prop} {la se ca ys fi mo : Nat → Int32} {ln co st : Nat → Nat} {n p t : Nat} (h : sw_H n ln co st ca la ys) (hp : p < 4) (ht : t < n) (hn : n ≤ 60) (hpost : ∀ fi' mo', post (sw_fst (fun f => sw_b (sw_F (sw_S se st p) (sw_c co p) f (ln p) (t + 1))) (t + 1) 0) (nI n, la, se, ca, ys, fi', mo')) : wpY_earliest post (nI n, la, se, ca, ys, fi, mo) (nI p) (nI t) := by
  have key : ∀ d f m fi mo, f + d = t + 1 → d < m → (∀ fi' mo', post (sw_fst (fun f => sw_b (sw_F (sw_S se st p) (sw_c co p) f (ln p) (t + 1))) d f) (nI n, la, se, ca, ys, fi', mo')) → wY_earliest_2 post (nI p) (nI t) m (nI f) (nI n) la se ca ys fi mo := by
    intro d
    induction d with
    | zero =>
      intro f m fi mo hfd hm hpo
      obtain ⟨m, rfl⟩ : ∃ k, m = k + 1 := ⟨m - 1, by omega⟩
      exact br_t (nI_lt (by omega) (by omega)) (hpo fi mo)
    | succ d ih =>
      intro f m fi mo hfd hm hpo
      obtain ⟨m, rfl⟩ : ∃ k, m = k + 1 := ⟨m - 1, by omega⟩
      refine br_f (nI_nlt (by omega) (by omega)) (sy_pt hp (br_f (by decide) (br_f (nI_ge ht (by omega)) ?_)))
      have e1 : (nI t + 1).toNatClampNeg = t + 1 := by rw [nI_1]; exact nI_clamp (by omega)
      have e2 : vp_in (nI t + 1) 62 := by rw [nI_1]; exact vp_in_nI (by omega) (by omega)
      have key2 : ∀ post2 : SY → Prop, (∀ fi' mo', (∀ j, f ≤ j → j ≤ t + 1 → fi' j = sw_i (sw_F (sw_S se st p) (sw_c co p) f (ln p) j)) → post2 (nI n, la, se, ca, ys, fi', mo')) → wpY_work post2 (nI n, la, se, ca, ys, fi, mo) (nI p) (nI f) (nI t + 1) := by
        intro post2 hp2
        rw [nI_1 t]
        exact sy_wk (sw_H_m h (by omega)) hp (by omega) (by omega) hp2
      refine key2 _ (fun fi' mo' hfi => ⟨e2, ?_⟩)
      have e3 := hfi (t + 1) (by omega) (Nat.le_refl _)
      rw [sw_fst_s] at hpo
      by_cases hb : sw_F (sw_S se st p) (sw_c co p) f (ln p) (t + 1)
      · rw [if_pos (sw_b_t.mpr hb)] at hpo
        rw [sw_i_t hb] at e3
        exact br_f (by rw [e1, e3]; decide) (hpo fi' mo')
      · rw [if_neg (fun z => hb (sw_b_t.mp z))] at hpo
        rw [sw_i_f hb] at e3
        refine br_t (by rw [e1, e3]) (fun z ez => ?_)
        rw [ez, nI_1]
        exact ih (f + 1) m fi' mo' (by omega) (by omega) hpo
  exact ⟨t + 2, key (t + 1) 0 (t + 2) fi mo (by omega) (by omega) hpost⟩
theorem sy_er0 {post : Int32 → SY → Prop} {la se ca ys fi mo : Nat → Int32} {n : Nat} {x y : Int32} (hx : (x < 0 ∨ nI 4 ≤ x) ∨ (y < 0 ∨ nI n ≤ y)) (h : post (-1) (nI n, la, se, ca, ys, fi, mo)) : wpY_earliest post (nI n, la, se, ca, ys, fi, mo) x y := by
  refine ⟨1, ?_⟩
  by_cases h0 : y < 0
  · exact br_t h0 h
  · refine br_f h0 ?_
    rcases pk_ix x (n := 4) (by decide) with h1 | h1 | ⟨p, hp, rfl⟩
    · exact sy_pf (Or.inl h1) (br_t rfl h)
    · exact sy_pf (Or.inr h1) (br_t rfl h)
    · refine sy_pt hp (br_f (by decide) (br_t ?_ h))
      rcases hx with (h1 | h1) | (h1 | h1)
      · exact absurd h1 (nI_pos (by omega))
      · exact absurd h1 (nI_ge hp (by decide))
      · exact absurd h1 h0
      · exact h1
theorem sw_lst_s (E : Nat → Bool) (i : Nat) : sw_lst E (i + 1) = if E i = true then nI i else sw_lst E i := rfl
theorem sy_la {post : Int32 → SY → Prop} {la se ca ys fi mo : Nat → Int32} {ln co st : Nat → Nat} {n p t : Nat} (h : sw_H n ln co st ca la ys) (hp : p < 4) (ht : t < n) (hn : n ≤ 60) (hpost : ∀ fi' mo', post (sw_lst (fun f => sw_b (sw_F (sw_S se st p) (sw_c co p) f (ln p) (t + 1))) (t + 1)) (nI n, la, se, ca, ys, fi', mo')) : wpY_latest post (nI n, la, se, ca, ys, fi, mo) (nI p) (nI t) := by
  have key : ∀ i m y fi mo, y = nI i - 1 → i ≤ t + 1 → i < m → (∀ fi' mo', post (sw_lst (fun f => sw_b (sw_F (sw_S se st p) (sw_c co p) f (ln p) (t + 1))) i) (nI n, la, se, ca, ys, fi', mo')) → wY_latest_14 post (nI p) (nI t) m y (nI n) la se ca ys fi mo := by
    intro i
    induction i with
    | zero =>
      intro m y fi mo ey hi hm hpo
      obtain ⟨m, rfl⟩ : ∃ k, m = k + 1 := ⟨m - 1, by omega⟩
      subst ey
      exact br_t (by decide) (hpo fi mo)
    | succ i ih =>
      intro m y fi mo ey hi hm hpo
      obtain ⟨m, rfl⟩ : ∃ k, m = k + 1 := ⟨m - 1, by omega⟩
      rw [nI_pred] at ey
      subst ey
      refine br_f (nI_pos (by omega)) (sy_pt hp (br_f (by decide) ?_))
      have e1 : (nI t + 1).toNatClampNeg = t + 1 := by rw [nI_1]; exact nI_clamp (by omega)
      have e2 : vp_in (nI t + 1) 62 := by rw [nI_1]; exact vp_in_nI (by omega) (by omega)
      have key2 : ∀ post2 : SY → Prop, (∀ fi' mo', (∀ j, i ≤ j → j ≤ t + 1 → fi' j = sw_i (sw_F (sw_S se st p) (sw_c co p) i (ln p) j)) → post2 (nI n, la, se, ca, ys, fi', mo')) → wpY_work post2 (nI n, la, se, ca, ys, fi, mo) (nI p) (nI i) (nI t + 1) := by
        intro post2 hp2
        rw [nI_1 t]
        exact sy_wk (sw_H_m h (by omega)) hp (by omega) (by omega) hp2
      refine key2 _ (fun fi' mo' hfi => ⟨e2, ?_⟩)
      have e3 := hfi (t + 1) (by omega) (Nat.le_refl _)
      rw [sw_lst_s] at hpo
      by_cases hb : sw_F (sw_S se st p) (sw_c co p) i (ln p) (t + 1)
      · rw [if_pos (sw_b_t.mpr hb)] at hpo
        rw [sw_i_t hb] at e3
        exact br_f (by rw [e1, e3]; decide) (hpo fi' mo')
      · rw [if_neg (fun z => hb (sw_b_t.mp z))] at hpo
        rw [sw_i_f hb] at e3
        refine br_t (by rw [e1, e3]) (fun z ez => ?_)
        exact ih m z fi' mo' (by rw [ez]; exact sx_m1 i) (by omega) (by omega) hpo
  exact br_f (nI_ge ht (by omega)) ⟨t + 2, key (t + 1) (t + 2) (nI t) fi mo (nI_pred t).symm (Nat.le_refl _) (by omega) hpost⟩
theorem sy_la0 {post : Int32 → SY → Prop} {la se ca ys fi mo : Nat → Int32} {n : Nat} {x y : Int32} (hx : (x < 0 ∨ nI 4 ≤ x) ∨ (y < 0 ∨ nI n ≤ y)) (h : post (-1) (nI n, la, se, ca, ys, fi, mo)) : wpY_latest post (nI n, la, se, ca, ys, fi, mo) x y := by
  by_cases hy : nI n ≤ y
  · exact br_t hy ⟨1, br_t (by decide) h⟩
  · refine br_f hy ⟨1, ?_⟩
    by_cases h0 : y < 0
    · exact br_t h0 h
    · refine br_f h0 (sy_pf ?_ (br_t rfl h))
      rcases hx with h1 | (h1 | h1)
      · exact h1
      · exact absurd h1 h0
      · exact absurd h1 hy
/-! longest -/
def sw_X (M : Nat → Nat → Prop) (n a b v : Nat) : Prop := (∀ f q, f < q → q ≤ n → M f q → (f < a ∨ (f = a ∧ q < b)) → q - f ≤ v) ∧ (v = 0 ∨ ∃ f q, f < q ∧ q ≤ n ∧ M f q ∧ v = q - f)
theorem sw_X_0 {M : Nat → Nat → Prop} {n : Nat} : sw_X M n 0 1 0 := ⟨fun f q h1 _ _ h4 => by omega, Or.inl rfl⟩
theorem sw_X_no {M : Nat → Nat → Prop} {n a q v : Nat} (h : sw_X M n a q v) (hn : M a q → q - a ≤ v) : sw_X M n a (q + 1) v := by
  refine ⟨fun f q' h1 h2 h3 h4 => ?_, h.2⟩
  by_cases e : f = a ∧ q' = q
  · obtain ⟨e1, e2⟩ := e
    rw [e1, e2] at h3 ⊢
    exact hn h3
  · exact h.1 f q' h1 h2 h3 (by omega)
theorem sw_X_yes {M : Nat → Nat → Prop} {n a q v : Nat} (h : sw_X M n a q v) (haq : a < q) (hq : q ≤ n) (hM : M a q) (hv : v < q - a) : sw_X M n a (q + 1) (q - a) := by
  refine ⟨fun f q' h1 h2 h3 h4 => ?_, Or.inr ⟨a, q, haq, hq, hM, rfl⟩⟩
  by_cases e : f = a ∧ q' = q
  · omega
  · have := h.1 f q' h1 h2 h3 (by omega)
    omega
theorem sw_X_nx {M : Nat → Nat → Prop} {n a v : Nat} (h : sw_X M n a (n + 1) v) : sw_X M n (a + 1) (a + 2) v :=
  ⟨fun f q h1 h2 h3 h4 => h.1 f q h1 h2 h3 (by omega), h.2⟩
theorem sw_X_e {M : Nat → Nat → Prop} {n v : Nat} (h : sw_X M n n (n + 1) v) : sw_Max M n v :=
  ⟨fun f q h1 h2 h3 => h.1 f q h1 h2 h3 (by omega), h.2⟩
theorem sw_X_le {M : Nat → Nat → Prop} {n a b v : Nat} (h : sw_X M n a b v) : v ≤ n := by
  rcases h.2 with z | ⟨f, q, h1, h2, _, h4⟩ <;> omega
theorem sy_35 {post : Int32 → SY → Prop} {J4 : Int32 → Int32 → Int32 → (Nat → Int32) → (Nat → Int32) → (Nat → Int32) → (Nat → Int32) → (Nat → Int32) → (Nat → Int32) → Prop} {x1 : Int32} {la se ca ys fi mo : Nat → Int32} {M : Nat → Nat → Prop} {n a : Nat} (hn : n ≤ 60) (ha : a < n) (hfi : ∀ j, a ≤ j → j ≤ n → fi j = sw_i (M a j)) (hJ : ∀ v, sw_X M n (a + 1) (a + 2) v → J4 (nI v) (nI (a + 1)) (nI n) la se ca ys fi mo) : ∀ d q m v, q + d = n + 1 → d < m → a < q → sw_X M n a q v → wY_longest_35 post J4 x1 (nI a) (nI n) la se ca ys fi mo m (nI v) (nI q) := by
  intro d
  induction d with
  | zero =>
    intro q m v hqd hm haq hX
    obtain ⟨m, rfl⟩ : ∃ k, m = k + 1 := ⟨m - 1, by omega⟩
    have e : q = n + 1 := by omega
    subst e
    refine br_t (nI_lt (by omega) (by omega)) (fun y ey => ?_)
    rw [ey, nI_1]
    exact hJ v (sw_X_nx hX)
  | succ d ih =>
    intro q m v hqd hm haq hX
    obtain ⟨m, rfl⟩ : ∃ k, m = k + 1 := ⟨m - 1, by omega⟩
    refine br_f (nI_nlt (by omega) (by omega)) ⟨vp_in_nI (by omega) (by omega), ?_⟩
    have e3 := hfi q (by omega) (by omega)
    have hv := sw_X_le hX
    rw [nI_clamp (by omega), e3]
    by_cases hb : M a q
    · refine br_f (by rw [sw_i_t hb]; decide) ?_
      rw [pk_sub (by omega)]
      by_cases hle : q - a ≤ v
      · refine br_t (nI_le hle (by omega)) (fun z ez => ?_)
        rw [ez, nI_1]
        exact ih (q + 1) m v (by omega) (by omega) (by omega) (sw_X_no hX (fun _ => hle))
      · refine br_f (nI_ge (by omega) (by omega)) (fun y ey z ez => ?_)
        rw [ez, nI_1, ey]
        exact ih (q + 1) m _ (by omega) (by omega) (by omega) (sw_X_yes hX haq (by omega) hb (by omega))
    · refine br_t (sw_i_f hb) (fun z ez => ?_)
      rw [ez, nI_1]
      exact ih (q + 1) m v (by omega) (by omega) (by omega) (sw_X_no hX (fun z => absurd z hb))
theorem sy_lo {post : Int32 → SY → Prop} {la se ca ys fi mo : Nat → Int32} {ln co st : Nat → Nat} {n p : Nat} (h : sw_H n ln co st ca la ys) (hp : p < 4) (hn : n ≤ 60) (hpost : ∀ v fi' mo', sw_Max (fun f q => sw_F (sw_S se st p) (sw_c co p) f (ln p) q) n v → post (nI v) (nI n, la, se, ca, ys, fi', mo')) : wpY_longest post (nI n, la, se, ca, ys, fi, mo) (nI p) := by
  have key : ∀ d a m v fi mo, a + d = n → d < m → sw_X (fun f q => sw_F (sw_S se st p) (sw_c co p) f (ln p) q) n a (a + 1) v → wY_longest_4 post (nI p) m (nI v) (nI a) (nI n) la se ca ys fi mo := by
    intro d
    induction d with
    | zero =>
      intro a m v fi mo had hm hX
      obtain ⟨m, rfl⟩ : ∃ k, m = k + 1 := ⟨m - 1, by omega⟩
      have e : a = n := by omega
      subst e
      exact br_t (nI_le (Nat.le_refl _) (by omega)) (hpost v fi mo (sw_X_e hX))
    | succ d ih =>
      intro a m v fi mo had hm hX
      obtain ⟨m, rfl⟩ : ∃ k, m = k + 1 := ⟨m - 1, by omega⟩
      refine br_f (nI_ge (by omega) (by omega)) (sy_pt hp (br_f (by decide) ?_))
      refine sy_wk h hp (by omega) (by omega) (fun fi' mo' hfi y ey => ⟨n + 2, ?_⟩)
      rw [ey, nI_1]
      exact sy_35 hn (by omega) hfi (fun v hX => ih (a + 1) m v fi' mo' (by omega) (by omega) hX) (n - a) (a + 1) (n + 2) v (by omega) (by omega) (by omega) hX
  exact ⟨n + 1, key n 0 (n + 1) 0 fi mo (by omega) (by omega) sw_X_0⟩
theorem sy_lo0 {post : Int32 → SY → Prop} {la se ca ys fi mo : Nat → Int32} {n : Nat} {x : Int32} (hx : x < 0 ∨ nI 4 ≤ x) (h : post 0 (nI n, la, se, ca, ys, fi, mo)) : wpY_longest post (nI n, la, se, ca, ys, fi, mo) x :=
  ⟨1, br_c (fun _ => h) (fun _ => sy_pf hx (br_t rfl h))⟩
/-! completing, emptyFits -/
theorem sw_H_p {n s : Nat} {ln co st : Nat → Nat} {ca la xs : Nat → Int32} (h : sw_H n ln co st ca la xs) (hs : s < 4) : sw_H (n + 1) ln co (sw_u st n s) ca la (upd xs n (nI s)) := by
  have h2 := sw_H_u h hs
  refine ⟨h.1, h.2.1, h.2.2.1, h.2.2.2.1, fun j hj => ?_, h2.2.2.2.2.2⟩
  by_cases e : j = n
  · rw [e, sw_u_s]
    exact pk_us
  · rw [pk_un e]
    exact h2.2.2.2.2.1 j (by omega)
theorem sw_H_k {n s : Nat} {x : Int32} {ln co st : Nat → Nat} {ca la xs : Nat → Int32} (h : sw_H n ln co st ca la xs) (hs : n ≤ s) : sw_H n ln co st ca la (upd xs s x) := by
  refine ⟨h.1, h.2.1, h.2.2.1, h.2.2.2.1, fun j hj => ?_, h.2.2.2.2.2⟩
  rw [pk_un (by omega)]
  exact h.2.2.2.2.1 j hj
theorem sy_co {post : Int32 → SY → Prop} {la se ca ys fi mo : Nat → Int32} {ln co st : Nat → Nat} {n p : Nat} (h : sw_H n ln co st ca la ys) (hp : p < 4) (hn : n ≤ 60) (hpost : ∀ ys' fi' mo', sw_H n ln co st ca la ys' → post (sw_or (fun s => sw_E ln co (sw_u st n s) se p n) 4) (nI n, la, se, ca, ys', fi', mo')) : wpY_completing post (nI n, la, se, ca, ys, fi, mo) (nI p) := by
  have key : ∀ d s m ys fi mo, s + d = 4 → d < m → sw_H n ln co st ca la ys → wY_completing_4 post (nI p) m (sw_or (fun s => sw_E ln co (sw_u st n s) se p n) s) (nI s) (nI n) la se ca ys fi mo := by
    intro d
    induction d with
    | zero =>
      intro s m ys fi mo hsd hm h
      obtain ⟨m, rfl⟩ : ∃ k, m = k + 1 := ⟨m - 1, by omega⟩
      have e : s = 4 := by omega
      subst e
      exact br_t (by decide) (hpost ys fi mo h)
    | succ d ih =>
      intro s m ys fi mo hsd hm h
      obtain ⟨m, rfl⟩ : ∃ k, m = k + 1 := ⟨m - 1, by omega⟩
      refine br_f (nI_ge (b := 4) (by omega) (by decide)) (sy_pt hp (br_f (by decide) ⟨vp_in_nI (by omega) (by omega), fun ys' eys => ?_⟩))
      rw [nI_clamp (by omega)] at eys
      subst eys
      have key2 : ∀ post2 : Int32 → SY → Prop, (∀ fi' mo', post2 (sw_i (∃ i, i ≤ n ∧ sw_F (sw_S se (sw_u st n s) p) (sw_c co p) i (ln p) (n + 1))) (nI n, la, se, ca, upd ys n (nI s), fi', mo')) → wpY_endsAt post2 (nI n, la, se, ca, upd ys n (nI s), fi, mo) (nI p) (nI n) (nI n + 1) := by
        intro post2 hp2
        rw [nI_1 n]
        exact sy_ea (sw_H_p h (by omega)) hp hn hp2
      refine key2 _ (fun fi' mo' => ?_)
      have hs := sw_or_s (fun s => sw_E ln co (sw_u st n s) se p n) s
      by_cases hb : sw_E ln co (sw_u st n s) se p n = true
      · rw [if_pos hb] at hs
        refine br_f (fun z => sx_tf hb (sy_E0.mp z)) (fun y ey z ez => ?_)
        rw [ez, nI_1, ey, ← hs]
        exact ih (s + 1) m _ fi' mo' (by omega) (by omega) (sw_H_k h (Nat.le_refl _))
      · rw [if_neg hb] at hs
        refine br_t (sy_E0.mpr (sx_nf hb)) (fun z ez => ?_)
        rw [ez, nI_1, ← hs]
        exact ih (s + 1) m _ fi' mo' (by omega) (by omega) (sw_H_k h (Nat.le_refl _))
  exact ⟨5, key 4 0 5 ys fi mo rfl (by omega) h⟩
theorem sy_co0 {post : Int32 → SY → Prop} {la se ca ys fi mo : Nat → Int32} {n : Nat} {x : Int32} (hx : x < 0 ∨ nI 4 ≤ x) (h : post 0 (nI n, la, se, ca, ys, fi, mo)) : wpY_completing post (nI n, la, se, ca, ys, fi, mo) x :=
  ⟨1, br_c (fun _ => h) (fun _ => sy_pf hx (br_t rfl h))⟩
theorem sy_ef {post : Int32 → SY → Prop} {la se ca ys fi mo : Nat → Int32} {ln co st : Nat → Nat} {n : Nat} (h : sw_H n ln co st ca la ys) (hpost : ∀ fi' mo', post (sw_or (fun p => sw_Z ln co st se p) 4) (nI n, la, se, ca, ys, fi', mo')) : wpY_emptyFits post (nI n, la, se, ca, ys, fi, mo) := by
  have key : ∀ d p m fi mo, p + d = 4 → d < m → wY_emptyFits_4 post m (sw_or (fun p => sw_Z ln co st se p) p) (nI p) (nI n) la se ca ys fi mo := by
    intro d
    induction d with
    | zero =>
      intro p m fi mo hpd hm
      obtain ⟨m, rfl⟩ : ∃ k, m = k + 1 := ⟨m - 1, by omega⟩
      have e : p = 4 := by omega
      subst e
      exact br_t (by decide) (hpost fi mo)
    | succ d ih =>
      intro p m fi mo hpd hm
      obtain ⟨m, rfl⟩ : ∃ k, m = k + 1 := ⟨m - 1, by omega⟩
      refine br_f (nI_ge (b := 4) (by omega) (by decide)) ?_
      refine sy_wk (f := 0) (nn := 0) (sw_H_m h (by omega)) (by omega) (by omega) (by omega) (fun fi' mo' hfi => ?_)
      have e3 := hfi 0 (by omega) (by omega)
      have hs := sw_or_s (fun p => sw_Z ln co st se p) p
      by_cases hb : sw_Z ln co st se p = true
      · rw [if_pos hb] at hs
        refine br_f (by rw [e3, sw_i_t (sw_b_t.mp hb)]; decide) (fun y ey z ez => ?_)
        rw [ez, nI_1, ey, ← hs]
        exact ih (p + 1) m fi' mo' (by omega) (by omega)
      · rw [if_neg hb] at hs
        refine br_t (e3.trans (sw_i_f (fun z => hb (sw_b_t.mpr z)))) (fun z ez => ?_)
        rw [ez, nI_1, ← hs]
        exact ih (p + 1) m fi' mo' (by omega) (by omega)
  exact ⟨5, key 4 0 5 fi mo rfl (by omega)⟩
end
end
section
/-! What is owed: the relation, and a statement a method. -/
/-- the same patterns, the same number of symbols taken, the same symbols below it; the reference's tables are free -/
def i_Rel (_ : Nat) (u : SX) (v : SY) : Prop := ∃ (n : Nat) (ln co st : Nat → Nat) (se ca la xs ys fi mo : Nat → Int32), u = (nI n, se, ca, la, xs) ∧ v = (nI n, la, se, ca, ys, fi, mo) ∧ n ≤ 60 ∧ sw_H n ln co st ca la xs ∧ sw_H n ln co st ca la ys
theorem so_mk {k n : Nat} {ln co st : Nat → Nat} {se ca la xs ys fi mo : Nat → Int32} (hn : n ≤ 60) (hx : sw_H n ln co st ca la xs) (hy : sw_H n ln co st ca la ys) : i_Rel k (nI n, se, ca, la, xs) (nI n, la, se, ca, ys, fi, mo) :=
  ⟨n, ln, co, st, se, ca, la, xs, ys, fi, mo, rfl, rfl, hn, hx, hy⟩
theorem so_drop {n p : Nat} {ln co st : Nat → Nat} {ca la xs : Nat → Int32} (h : sw_H n ln co st ca la xs) : sw_H n (sw_u ln p (ln p - 1)) co st ca (upd la p (nI (ln p - 1))) xs := by
  refine ⟨fun j => ?_, fun j => ?_, h.2.2.1, h.2.2.2.1, h.2.2.2.2.1, h.2.2.2.2.2⟩
  · by_cases e : j = p
    · rw [e, sw_u_s]
      exact pk_us
    · rw [pk_un e, sw_u_n ln _ e]
      exact h.1 j
  · have h1 := h.2.1 p
    by_cases e : j = p
    · rw [e, sw_u_s]
      omega
    · rw [sw_u_n ln _ e]
      exact h.2.1 j
theorem so_item {n p a c : Nat} {ln co st : Nat → Nat} {ca la xs : Nat → Int32} (h : sw_H n ln co st ca la xs) (hl : ln p < 6) (hc : c ≤ 3) : sw_H n (sw_u ln p (ln p + 1)) (sw_u co a c) st (upd ca a (nI c)) (upd la p (nI (ln p + 1))) xs := by
  refine ⟨fun j => ?_, fun j => ?_, fun j => ?_, fun j => ?_, h.2.2.2.2.1, h.2.2.2.2.2⟩
  · by_cases e : j = p
    · rw [e, sw_u_s]
      exact pk_us
    · rw [pk_un e, sw_u_n ln _ e]
      exact h.1 j
  · by_cases e : j = p
    · rw [e, sw_u_s]
      omega
    · rw [sw_u_n ln _ e]
      exact h.2.1 j
  · by_cases e : j = a
    · rw [e, sw_u_s]
      exact pk_us
    · rw [pk_un e, sw_u_n co _ e]
      exact h.2.2.1 j
  · by_cases e : j = a
    · rw [e, sw_u_s]
      exact hc
    · rw [sw_u_n co _ e]
      exact h.2.2.2.1 j
theorem so_bit {S : Nat → Nat → Prop} {c : Nat → Nat} {L t j : Nat} {R : Int64} (hR : sx_B S c L t R) (hj : j ≤ t) (h64 : j < 64) : sl_b R j = sw_b (sw_F S c j L (t + 1)) := by
  rw [Bool.eq_iff_iff, hR j h64, sw_b_t]
  exact ⟨And.right, fun z => ⟨hj, z⟩⟩
theorem so_bit0 {S : Nat → Nat → Prop} {c : Nat → Nat} {L t j : Nat} {R : Int64} (hR : sx_B S c L t R) (hj : t < j) (h64 : j < 64) : sl_b R j = false := by
  cases e : sl_b R j with
  | false => rfl
  | true =>
    have := ((hR j h64).mp e).1
    omega
theorem i_up {k : Nat} {u : SX} {v : SY} (h : i_Rel k u v) : i_Rel (k + 4) u v := by
  exact h
theorem i_vc0 : wpX_init (fun u => wpY_init (fun v => i_Rel 0 u v)) := by
  refine ⟨0, fun _ => 0, fun _ => 0, fun _ => 0, fun _ => 0, fun _ => 0, fun _ => 0, fun _ => 0, fun _ => 0, fun _ => 0, fun _ => 0, rfl, rfl, by omega, ?_, ?_⟩
  · exact ⟨fun _ => rfl, fun _ => Nat.zero_le _, fun _ => rfl, fun _ => Nat.zero_le _, fun j hj => rfl, fun _ => (by decide : (0 : Nat) < 4)⟩
  · exact ⟨fun _ => rfl, fun _ => Nat.zero_le _, fun _ => rfl, fun _ => Nat.zero_le _, fun j hj => rfl, fun _ => (by decide : (0 : Nat) < 4)⟩
theorem i_vc_item {k : Nat} {u : SX} {v : SY} (I : i_Rel k u v) (hk : k + 4 ≤ 2048) (v1 : Int32) (v2 : Int32) (v3 : Int32) : wpX_item (fun r u' => wpY_item (fun r' v' => r' = r ∧ i_Rel (k + 4) u' v') v v1 v2 v3) u v1 v2 v3 := by
  obtain ⟨n, ln, co, st, se, ca, la, xs, ys, fi, mo, rfl, rfl, hn, hx, hy⟩ := I
  rcases pk_ix v1 (n := 4) (by decide) with h | h | ⟨p, hp, rfl⟩
  · unfold wpX_item wpY_item
    exact sx_pf (Or.inl h) (br_t rfl (sy_pf (Or.inl h) (br_t rfl ⟨rfl, so_mk hn hx hy⟩)))
  · unfold wpX_item wpY_item
    exact sx_pf (Or.inr h) (br_t rfl (sy_pf (Or.inr h) (br_t rfl ⟨rfl, so_mk hn hx hy⟩)))
  · unfold wpX_item wpY_item
    have hin : vp_in (nI p) 4 := vp_in_nI hp (by omega)
    have hcl : (nI p).toNatClampNeg = p := nI_clamp (by omega)
    have hL := hx.2.1 p
    have el := hx.1 p
    have R : i_Rel (k + 4) (nI n, se, ca, la, xs) (nI n, la, se, ca, ys, fi, mo) := so_mk hn hx hy
    refine sx_pt hp (br_f (by decide) ?_)
    by_cases h1 : v2 < 1
    · exact br_t h1 (sy_pt hp (br_f (by decide) (br_t h1 ⟨rfl, R⟩)))
    refine br_f h1 ?_
    by_cases h2 : 15 < v2
    · exact br_t h2 (sy_pt hp (br_f (by decide) (br_f h1 (br_t h2 ⟨rfl, R⟩))))
    refine br_f h2 ?_
    by_cases h3 : v3 < 0
    · exact br_t h3 (sy_pt hp (br_f (by decide) (br_f h1 (br_f h2 (br_t h3 ⟨rfl, R⟩)))))
    refine br_f h3 ?_
    by_cases h4 : v3 ≤ 3
    · refine br_t h4 ⟨hin, ?_⟩
      obtain ⟨c, hc, rfl⟩ := nI_of2 (n := 3) (by decide) h3 h4
      by_cases h5 : ln p < 6
      · have e5 : la (nI p).toNatClampNeg < 6 := by rw [hcl, el]; exact nI_lt (b := 6) h5 (by decide)
        have e6 : (nI p * 6) + la (nI p).toNatClampNeg = nI (p * 6 + ln p) := by
          rw [hcl, el, show (6 : Int32) = nI 6 from by decide, pk_mul, nI_add]
        have e7 : (6 * nI p) + la (nI p).toNatClampNeg = nI (p * 6 + ln p) := by
          rw [hcl, el]
          exact sy_ix p (ln p)
        have hat : vp_in (nI (p * 6 + ln p)) 24 := vp_in_nI (by omega) (by omega)
        have hac : (nI (p * 6 + ln p)).toNatClampNeg = p * 6 + ln p := nI_clamp (by omega)
        have e8 : la (nI p).toNatClampNeg + 1 = nI (ln p + 1) := by rw [hcl, el, nI_1]
        refine br_t e5 ⟨hin, nm_r e6 ⟨hat, fun s1 es1 => ⟨hat, fun c1 ec1 => ⟨hin, hin, fun l1 el1 => ⟨hin, ?_⟩⟩⟩⟩⟩
        refine sy_pt hp (br_f (by decide) (br_f h1 (br_f h2 (br_f h3 (br_t h4 ⟨hin, br_t e5 ⟨hin, ?_⟩⟩)))))
        rw [e7]
        refine ⟨hat, fun s2 es2 => ⟨hin, hat, fun c2 ec2 => ⟨hin, hin, fun l2 el2 => ⟨hin, ?_⟩⟩⟩⟩
        have q1 : s2 = s1 := es2.trans es1.symm
        have q2 : c2 = c1 := ec2.trans ec1.symm
        have q3 : l2 = l1 := el2.trans el1.symm
        subst q1 q2 q3
        refine ⟨rfl, ?_⟩
        rw [hac] at es1 ec1
        rw [e8, hcl] at el1
        subst es1 ec1 el1
        exact so_mk hn (so_item hx h5 hc) (so_item hy h5 hc)
      · have e5 : ¬ la (nI p).toNatClampNeg < 6 := by rw [hcl, el]; exact nI_nlt (b := 6) (by omega) (by omega)
        exact br_f e5 (sy_pt hp (br_f (by decide) (br_f h1 (br_f h2 (br_f h3 (br_t h4 ⟨hin, br_f e5 ⟨rfl, R⟩⟩))))))
    · exact br_f h4 (sy_pt hp (br_f (by decide) (br_f h1 (br_f h2 (br_f h3 (br_f h4 ⟨rfl, R⟩))))))
theorem i_vc_drop {k : Nat} {u : SX} {v : SY} (I : i_Rel k u v) (hk : k + 4 ≤ 2048) (v1 : Int32) : wpX_drop (fun r u' => wpY_drop (fun r' v' => r' = r ∧ i_Rel (k + 4) u' v') v v1) u v1 := by
  obtain ⟨n, ln, co, st, se, ca, la, xs, ys, fi, mo, rfl, rfl, hn, hx, hy⟩ := I
  rcases pk_ix v1 (n := 4) (by decide) with h | h | ⟨p, hp, rfl⟩
  · unfold wpX_drop wpY_drop
    exact sx_pf (Or.inl h) (br_t rfl (sy_pf (Or.inl h) (br_t rfl ⟨rfl, so_mk hn hx hy⟩)))
  · unfold wpX_drop wpY_drop
    exact sx_pf (Or.inr h) (br_t rfl (sy_pf (Or.inr h) (br_t rfl ⟨rfl, so_mk hn hx hy⟩)))
  · unfold wpX_drop wpY_drop
    have hin : vp_in (nI p) 4 := vp_in_nI hp (by omega)
    have hcl : (nI p).toNatClampNeg = p := nI_clamp (by omega)
    have hL := hx.2.1 p
    have el := hx.1 p
    refine sx_pt hp (br_f (by decide) ⟨hin, ?_⟩)
    by_cases hz : ln p = 0
    · have e0 : la (nI p).toNatClampNeg = 0 := by rw [hcl, el, hz]; decide
      exact br_t e0 (sy_pt hp (br_f (by decide) ⟨hin, br_t e0 ⟨rfl, so_mk hn hx hy⟩⟩))
    · have e0 : ¬ la (nI p).toNatClampNeg = 0 := by rw [hcl, el]; exact nI_ne0 (by omega) (by omega)
      have e1 : la (nI p).toNatClampNeg - 1 = nI (ln p - 1) := by
        rw [hcl, el]
        exact pk_sub (b := 1) (by omega)
      refine br_f e0 ⟨hin, hin, fun a ea => ⟨hin, ?_⟩⟩
      refine sy_pt hp (br_f (by decide) ⟨hin, br_f e0 ⟨hin, hin, fun b eb => ⟨hin, ?_⟩⟩⟩)
      have eab : b = a := eb.trans ea.symm
      subst eab
      refine ⟨rfl, ?_⟩
      rw [hcl] at e1
      rw [hcl, e1] at ea
      subst ea
      exact so_mk hn (so_drop hx) (so_drop hy)
theorem i_vc_items {k : Nat} {u : SX} {v : SY} (I : i_Rel k u v) (hk : k + 4 ≤ 2048) (v1 : Int32) : wpX_items (fun r => wpY_items (fun r' => r' = r ∧ i_Rel (k + 4) u v) v v1) u v1 := by
  obtain ⟨n, ln, co, st, se, ca, la, xs, ys, fi, mo, rfl, rfl, hn, hx, hy⟩ := I
  rcases pk_ix v1 (n := 4) (by decide) with h | h | ⟨p, hp, rfl⟩
  · unfold wpX_items wpY_items
    exact sx_pf (Or.inl h) (br_t rfl (sy_pf (Or.inl h) (br_t rfl ⟨rfl, so_mk hn hx hy⟩)))
  · unfold wpX_items wpY_items
    exact sx_pf (Or.inr h) (br_t rfl (sy_pf (Or.inr h) (br_t rfl ⟨rfl, so_mk hn hx hy⟩)))
  · unfold wpX_items wpY_items
    have hin : vp_in (nI p) 4 := vp_in_nI hp (by omega)
    exact sx_pt hp (br_f (by decide) ⟨hin, sy_pt hp (br_f (by decide) ⟨hin, rfl, so_mk hn hx hy⟩)⟩)
theorem i_vc_push {k : Nat} {u : SX} {v : SY} (I : i_Rel k u v) (hk : k + 4 ≤ 2048) (v1 : Int32) : wpX_push (fun r u' => wpY_push (fun r' v' => r' = r ∧ i_Rel (k + 4) u' v') v v1) u v1 := by
  obtain ⟨n, ln, co, st, se, ca, la, xs, ys, fi, mo, rfl, rfl, hn, hx, hy⟩ := I
  have R : i_Rel (k + 4) (nI n, se, ca, la, xs) (nI n, la, se, ca, ys, fi, mo) := so_mk hn hx hy
  by_cases h0 : v1 < 0
  · exact br_t h0 (br_t h0 ⟨rfl, R⟩)
  obtain ⟨s, hs, rfl⟩ := nI_of h0
  by_cases h4 : s < 4
  · have a4 : nI s < 4 := nI_lt (b := 4) h4 (by decide)
    have a3 : nI s ≤ 3 := nI_le (b := 3) (by omega) (by decide)
    by_cases h6 : n < 60
    · have a6 : nI n < 60 := nI_lt (b := 60) h6 (by decide)
      have hcl : (nI n).toNatClampNeg = n := nI_clamp (by omega)
      refine br_f h0 (br_t a4 (br_t a6 ⟨vp_in_nI (by omega) (by omega), fun x1 ex1 => nm_r (nI_1 n) ?_⟩))
      rw [hcl] at ex1
      subst ex1
      rw [nI_pred]
      refine sx_pe (sw_H_p hx h4) h6 ?_
      refine br_f h0 (br_t a3 (br_t a6 ⟨vp_in_nI (by omega) (by omega), fun y1 ey1 => nm_r (nI_1 n) ?_⟩))
      rw [hcl] at ey1
      subst ey1
      rw [nI_pred]
      exact sy_pe (sw_H_p hy h4) (by omega) (by omega) (fun fi' mo' => ⟨rfl, so_mk (by omega) (sw_H_p hx h4) (sw_H_p hy h4)⟩)
    · have a6 : ¬ nI n < 60 := nI_nlt (b := 60) (by omega) (by omega)
      exact br_f h0 (br_t a4 (br_f a6 (br_f h0 (br_t a3 (br_f a6 ⟨rfl, R⟩)))))
  · have a4 : ¬ nI s < 4 := nI_nlt (b := 4) (by omega) hs
    have a3 : ¬ nI s ≤ 3 := nI_ge (a := 3) (by omega) hs
    exact br_f h0 (br_f a4 (br_f h0 (br_f a3 ⟨rfl, R⟩)))
theorem i_vc_reset {k : Nat} {u : SX} {v : SY} (I : i_Rel k u v) (hk : k + 4 ≤ 2048) : wpX_reset (fun u' => wpY_reset (fun v' => i_Rel (k + 4) u' v') v) u := by
  obtain ⟨n, ln, co, st, se, ca, la, xs, ys, fi, mo, rfl, rfl, hn, hx, hy⟩ := I
  exact ⟨0, ln, co, st, se, ca, la, xs, ys, fi, mo, rfl, rfl, by omega, sw_H_m hx (by omega), sw_H_m hy (by omega)⟩
theorem i_vc_taken {k : Nat} {u : SX} {v : SY} (I : i_Rel k u v) (hk : k + 4 ≤ 2048) : wpX_taken (fun r => wpY_taken (fun r' => r' = r ∧ i_Rel (k + 4) u v) v) u := by
  obtain ⟨n, ln, co, st, se, ca, la, xs, ys, fi, mo, rfl, rfl, hn, hx, hy⟩ := I
  exact ⟨rfl, so_mk hn hx hy⟩
theorem i_vc_endingAt {k : Nat} {u : SX} {v : SY} (I : i_Rel k u v) (hk : k + 4 ≤ 2048) (v1 : Int32) : wpX_endingAt (fun r => wpY_endingAt (fun r' v' => r' = r ∧ i_Rel (k + 4) u v') v v1) u v1 := by
  obtain ⟨n, ln, co, st, se, ca, la, xs, ys, fi, mo, rfl, rfl, hn, hx, hy⟩ := I
  rcases pk_ix v1 (n := n) (by omega) with h | h | ⟨t, ht, rfl⟩
  · unfold wpX_endingAt
    exact sx_lf (Or.inl h) (br_t rfl (sy_pe0 (Or.inl h) ⟨rfl, so_mk hn hx hy⟩))
  · unfold wpX_endingAt
    exact sx_lf (Or.inr h) (br_t rfl (sy_pe0 (Or.inr h) ⟨rfl, so_mk hn hx hy⟩))
  · unfold wpX_endingAt
    refine sx_lt ht hn (br_f (by decide) ?_)
    exact sx_pe (sw_H_m hx (by omega)) (by omega) (sy_pe hy ht hn (fun fi' mo' => ⟨rfl, so_mk hn hx hy⟩))
theorem i_vc_ends {k : Nat} {u : SX} {v : SY} (I : i_Rel k u v) (hk : k + 4 ≤ 2048) (v1 : Int32) : wpX_ends (fun r => wpY_ends (fun r' v' => r' = r ∧ i_Rel (k + 4) u v') v v1) u v1 := by
  obtain ⟨n, ln, co, st, se, ca, la, xs, ys, fi, mo, rfl, rfl, hn, hx, hy⟩ := I
  rcases pk_ix v1 (n := 4) (by decide) with h | h | ⟨p, hp, rfl⟩
  · unfold wpX_ends
    exact sx_pf (Or.inl h) (br_t rfl (sy_en0 (Or.inl h) ⟨rfl, so_mk hn hx hy⟩))
  · unfold wpX_ends
    exact sx_pf (Or.inr h) (br_t rfl (sy_en0 (Or.inr h) ⟨rfl, so_mk hn hx hy⟩))
  · unfold wpX_ends
    refine sx_pt hp (br_f (by decide) ?_)
    refine ⟨n + 1, sx_en hx hn hp ?_ n 0 (n + 1) (by omega) (by omega)⟩
    exact sy_en hy hp hn (fun fi' mo' => ⟨rfl, so_mk hn hx hy⟩)
theorem i_vc_firstEnd {k : Nat} {u : SX} {v : SY} (I : i_Rel k u v) (hk : k + 4 ≤ 2048) (v1 : Int32) : wpX_firstEnd (fun r => wpY_firstEnd (fun r' v' => r' = r ∧ i_Rel (k + 4) u v') v v1) u v1 := by
  obtain ⟨n, ln, co, st, se, ca, la, xs, ys, fi, mo, rfl, rfl, hn, hx, hy⟩ := I
  rcases pk_ix v1 (n := 4) (by decide) with h | h | ⟨p, hp, rfl⟩
  · unfold wpX_firstEnd
    exact sx_pf (Or.inl h) (br_t rfl (sy_fe0 (Or.inl h) ⟨rfl, so_mk hn hx hy⟩))
  · unfold wpX_firstEnd
    exact sx_pf (Or.inr h) (br_t rfl (sy_fe0 (Or.inr h) ⟨rfl, so_mk hn hx hy⟩))
  · unfold wpX_firstEnd
    refine sx_pt hp (br_f (by decide) ?_)
    exact ⟨n + 1, sx_fe hx hn hp n 0 (n + 1) (by omega) (by omega) (sy_fe hy hp hn (fun fi' mo' => ⟨rfl, so_mk hn hx hy⟩))⟩
theorem i_vc_earliest {k : Nat} {u : SX} {v : SY} (I : i_Rel k u v) (hk : k + 4 ≤ 2048) (v1 : Int32) (v2 : Int32) : wpX_earliest (fun r => wpY_earliest (fun r' v' => r' = r ∧ i_Rel (k + 4) u v') v v1 v2) u v1 v2 := by
  obtain ⟨n, ln, co, st, se, ca, la, xs, ys, fi, mo, rfl, rfl, hn, hx, hy⟩ := I
  rcases pk_ix v1 (n := 4) (by decide) with h | h | ⟨p, hp, rfl⟩
  · unfold wpX_earliest
    exact sx_pf (Or.inl h) (br_t rfl (sy_er0 (Or.inl (Or.inl h)) ⟨rfl, so_mk hn hx hy⟩))
  · unfold wpX_earliest
    exact sx_pf (Or.inr h) (br_t rfl (sy_er0 (Or.inl (Or.inr h)) ⟨rfl, so_mk hn hx hy⟩))
  · unfold wpX_earliest
    refine sx_pt hp (br_f (by decide) ?_)
    rcases pk_ix v2 (n := n) (by omega) with h | h | ⟨t, ht, rfl⟩
    · exact sx_lf (Or.inl h) (br_t rfl (sy_er0 (Or.inr (Or.inl h)) ⟨rfl, so_mk hn hx hy⟩))
    · exact sx_lf (Or.inr h) (br_t rfl (sy_er0 (Or.inr (Or.inr h)) ⟨rfl, so_mk hn hx hy⟩))
    · refine sx_lt ht hn (br_f (by decide) ⟨vp_in_nI (by omega) (by omega), ?_⟩)
      rw [nI_clamp (by omega), hx.2.2.2.2.1 t ht]
      refine sx_bg (sw_H_m hx (by omega)) hp (by omega) (fun R hR => ?_)
      refine ⟨61, sx_lp R 60 0 61 rfl (by omega) ?_⟩
      refine sy_er hy hp ht hn (fun fi' mo' => ⟨?_, so_mk hn hx hy⟩)
      have e := sw_fst_cut (E := sl_b R) (G := fun f => sw_b (sw_F (sw_S se st p) (sw_c co p) f (ln p) (t + 1))) (t + 1) (59 - t) 0 (fun j _ h2 => so_bit hR (by omega) (by omega)) (fun j h1 h2 => so_bit0 hR (by omega) (by omega))
      rw [show t + 1 + (59 - t) = 60 by omega] at e
      exact e.symm
theorem i_vc_latest {k : Nat} {u : SX} {v : SY} (I : i_Rel k u v) (hk : k + 4 ≤ 2048) (v1 : Int32) (v2 : Int32) : wpX_latest (fun r => wpY_latest (fun r' v' => r' = r ∧ i_Rel (k + 4) u v') v v1 v2) u v1 v2 := by
  obtain ⟨n, ln, co, st, se, ca, la, xs, ys, fi, mo, rfl, rfl, hn, hx, hy⟩ := I
  rcases pk_ix v1 (n := 4) (by decide) with h | h | ⟨p, hp, rfl⟩
  · unfold wpX_latest
    exact sx_pf (Or.inl h) (br_t rfl (sy_la0 (Or.inl (Or.inl h)) ⟨rfl, so_mk hn hx hy⟩))
  · unfold wpX_latest
    exact sx_pf (Or.inr h) (br_t rfl (sy_la0 (Or.inl (Or.inr h)) ⟨rfl, so_mk hn hx hy⟩))
  · unfold wpX_latest
    refine sx_pt hp (br_f (by decide) ?_)
    rcases pk_ix v2 (n := n) (by omega) with h | h | ⟨t, ht, rfl⟩
    · exact sx_lf (Or.inl h) (br_t rfl (sy_la0 (Or.inr (Or.inl h)) ⟨rfl, so_mk hn hx hy⟩))
    · exact sx_lf (Or.inr h) (br_t rfl (sy_la0 (Or.inr (Or.inr h)) ⟨rfl, so_mk hn hx hy⟩))
    · refine sx_lt ht hn (br_f (by decide) ⟨vp_in_nI (by omega) (by omega), ?_⟩)
      rw [nI_clamp (by omega), hx.2.2.2.2.1 t ht]
      refine sx_bg (sw_H_m hx (by omega)) hp (by omega) (fun R hR => ?_)
      refine ⟨61, sx_gp R 60 61 59 (by decide) (by omega) (by omega) ?_⟩
      refine sy_la hy hp ht hn (fun fi' mo' => ⟨?_, so_mk hn hx hy⟩)
      have e := sw_lst_cut (E := sl_b R) (G := fun f => sw_b (sw_F (sw_S se st p) (sw_c co p) f (ln p) (t + 1))) (a := t + 1) (fun j h2 => so_bit hR (by omega) (by omega)) (59 - t) (fun j h1 h2 => so_bit0 hR (by omega) (by omega))
      rw [show t + 1 + (59 - t) = 60 by omega] at e
      exact e.symm
theorem i_vc_longest {k : Nat} {u : SX} {v : SY} (I : i_Rel k u v) (hk : k + 4 ≤ 2048) (v1 : Int32) : wpX_longest (fun r => wpY_longest (fun r' v' => r' = r ∧ i_Rel (k + 4) u v') v v1) u v1 := by
  obtain ⟨n, ln, co, st, se, ca, la, xs, ys, fi, mo, rfl, rfl, hn, hx, hy⟩ := I
  rcases pk_ix v1 (n := 4) (by decide) with h | h | ⟨p, hp, rfl⟩
  · unfold wpX_longest
    exact sx_pf (Or.inl h) (br_t rfl (sy_lo0 (Or.inl h) ⟨rfl, so_mk hn hx hy⟩))
  · unfold wpX_longest
    exact sx_pf (Or.inr h) (br_t rfl (sy_lo0 (Or.inr h) ⟨rfl, so_mk hn hx hy⟩))
  · unfold wpX_longest
    refine sx_pt hp (br_f (by decide) ?_)
    refine ⟨n + 1, sx_lo hx hn hp (fun v hv => ?_) n 0 (n + 1) 0 (by omega) (by omega) sw_Max_0⟩
    exact sy_lo hy hp hn (fun w fi' mo' hw => ⟨by rw [sw_Max_one hv hw], so_mk hn hx hy⟩)
theorem i_vc_completing {k : Nat} {u : SX} {v : SY} (I : i_Rel k u v) (hk : k + 4 ≤ 2048) (v1 : Int32) : wpX_completing (fun r => wpY_completing (fun r' v' => r' = r ∧ i_Rel (k + 4) u v') v v1) u v1 := by
  obtain ⟨n, ln, co, st, se, ca, la, xs, ys, fi, mo, rfl, rfl, hn, hx, hy⟩ := I
  rcases pk_ix v1 (n := 4) (by decide) with h | h | ⟨p, hp, rfl⟩
  · unfold wpX_completing
    exact sx_pf (Or.inl h) (br_t rfl (sy_co0 (Or.inl h) ⟨rfl, so_mk hn hx hy⟩))
  · unfold wpX_completing
    exact sx_pf (Or.inr h) (br_t rfl (sy_co0 (Or.inr h) ⟨rfl, so_mk hn hx hy⟩))
  · unfold wpX_completing
    refine sx_pt hp (br_f (by decide) ?_)
    exact ⟨5, sx_co hx hn hp (sy_co hy hp hn (fun ys' fi' mo' hy' => ⟨rfl, so_mk hn hx hy'⟩)) 4 0 5 rfl (by omega)⟩
theorem i_vc_emptyFits {k : Nat} {u : SX} {v : SY} (I : i_Rel k u v) (hk : k + 4 ≤ 2048) : wpX_emptyFits (fun r => wpY_emptyFits (fun r' v' => r' = r ∧ i_Rel (k + 4) u v') v) u := by
  obtain ⟨n, ln, co, st, se, ca, la, xs, ys, fi, mo, rfl, rfl, hn, hx, hy⟩ := I
  exact ⟨5, sx_ef hx (sy_ef hy (fun fi' mo' => ⟨rfl, so_mk hn hx hy⟩)) 4 0 5 rfl (by omega)⟩
end
