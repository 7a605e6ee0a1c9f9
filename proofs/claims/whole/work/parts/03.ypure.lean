/-! What the reference's extend gathers: r done (sw_O), and r in hand up to q0 (sw_N). -/
section
noncomputable def sw_i (P : Prop) : Int32 := if sw_b P = true then 1 else 0
theorem sw_i_t {P : Prop} (h : P) : sw_i P = 1 := if_pos (sw_b_t.mpr h)
theorem sw_i_f {P : Prop} (h : ¬ P) : sw_i P = 0 := if_neg (fun z => h (sw_b_t.mp z))
theorem sw_i_c {P Q : Prop} (h : P ↔ Q) : sw_i P = sw_i Q := by rw [propext h]
theorem sw_i_0 {P : Prop} : sw_i P = 0 ↔ ¬ P := by
  constructor
  · intro h p
    rw [sw_i_t p] at h
    exact absurd h (by decide)
  · exact sw_i_f
def sw_O (P T : Nat → Prop) (c r q : Nat) : Prop := ∃ r', r' < r ∧ r' ≤ q ∧ P r' ∧ sw_AL c (q - r') ∧ ∀ j, r' ≤ j → j < q → T j
def sw_N (P T : Nat → Prop) (c r q0 q : Nat) : Prop := sw_O P T c r q ∨ (r ≤ q ∧ q < q0 ∧ P r ∧ sw_AL c (q - r) ∧ ∀ j, r ≤ j → j < q → T j)
theorem sw_O_0 {P T : Nat → Prop} {c f q : Nat} (hP : ∀ r, P r → f ≤ r) : ¬ sw_O P T c f q := by
  rintro ⟨r, h1, _, h3, _⟩
  have := hP r h3
  omega
theorem sw_O_e {P T : Nat → Prop} {c n q : Nat} (hq : q ≤ n) : sw_O P T c (n + 1) q ↔ ∃ r, r ≤ q ∧ P r ∧ sw_AL c (q - r) ∧ ∀ j, r ≤ j → j < q → T j := by
  constructor
  · rintro ⟨r, _, h2, h3⟩
    exact ⟨r, h2, h3⟩
  · rintro ⟨r, h2, h3⟩
    exact ⟨r, by omega, h2, h3⟩
theorem sw_O_s {P T : Nat → Prop} {c r q : Nat} : sw_O P T c (r + 1) q ↔ sw_O P T c r q ∨ (r ≤ q ∧ P r ∧ sw_AL c (q - r) ∧ ∀ j, r ≤ j → j < q → T j) := by
  constructor
  · rintro ⟨r', h1, h2, h3⟩
    rcases Nat.lt_or_ge r' r with h | h
    · exact Or.inl ⟨r', h, h2, h3⟩
    · have e1 : r' = r := by omega
      rw [e1] at h2 h3
      exact Or.inr ⟨h2, h3⟩
  · rintro (⟨r', h1, h2, h3⟩ | ⟨h2, h3⟩)
    · exact ⟨r', by omega, h2, h3⟩
    · exact ⟨r, by omega, h2, h3⟩
theorem sw_N_b {P T : Nat → Prop} {c r q : Nat} : sw_N P T c r r q ↔ sw_O P T c r q := by
  constructor
  · rintro (h | ⟨h1, h2, _⟩)
    · exact h
    · omega
  · exact Or.inl
theorem sw_N_n {P T : Nat → Prop} {c r n q : Nat} (hq : q ≤ n) : sw_N P T c r (n + 1) q ↔ sw_O P T c (r + 1) q := by
  rw [sw_O_s]
  constructor
  · rintro (h | ⟨h1, _, h3⟩)
    · exact Or.inl h
    · exact Or.inr ⟨h1, h3⟩
  · rintro (h | ⟨h1, h3⟩)
    · exact Or.inl h
    · exact Or.inr ⟨h1, by omega, h3⟩
theorem sw_N_x {P T : Nat → Prop} {c r q0 q : Nat} (hx : ¬ (P r ∧ ∀ j, r ≤ j → j < q0 → T j)) : sw_N P T c r q0 q ↔ sw_O P T c (r + 1) q := by
  rw [sw_O_s]
  constructor
  · rintro (h | ⟨h1, _, h3⟩)
    · exact Or.inl h
    · exact Or.inr ⟨h1, h3⟩
  · rintro (h | ⟨h1, h3, h4, h5⟩)
    · exact Or.inl h
    · refine Or.inr ⟨h1, ?_, h3, h4, h5⟩
      rcases Nat.lt_or_ge q q0 with h | h
      · exact h
      · exact absurd ⟨h3, fun j a b => h5 j a (by omega)⟩ hx
theorem sw_N_ne {P T : Nat → Prop} {c r q0 q : Nat} (hq : q ≠ q0) : sw_N P T c r (q0 + 1) q ↔ sw_N P T c r q0 q := by
  constructor
  · rintro (h | ⟨h1, h2, h3⟩)
    · exact Or.inl h
    · exact Or.inr ⟨h1, by omega, h3⟩
  · rintro (h | ⟨h1, h2, h3⟩)
    · exact Or.inl h
    · exact Or.inr ⟨h1, by omega, h3⟩
theorem sw_N_eq {P T : Nat → Prop} {c r q0 : Nat} (hr : r ≤ q0) (hP : P r) (hT : ∀ j, r ≤ j → j < q0 → T j) : sw_N P T c r (q0 + 1) q0 ↔ sw_N P T c r q0 q0 ∨ sw_AL c (q0 - r) := by
  constructor
  · rintro (h | ⟨h1, h2, h3, h4, _⟩)
    · exact Or.inl (Or.inl h)
    · exact Or.inr h4
  · rintro ((h | ⟨_, h2, _⟩) | h)
    · exact Or.inl h
    · omega
    · exact Or.inr ⟨hr, by omega, hP, h, hT⟩
end
