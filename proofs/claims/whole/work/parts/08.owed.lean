/-! What is owed: the relation, and a statement a method. -/
/-- the same patterns, the same number of symbols taken, the same symbols below it; the reference's tables are free -/
def i_Rel (_ : Nat) (u : SX) (v : SY) : Prop := ∃ (n : Nat) (ln co st : Nat → Nat) (se ca la xs ys fi mo : Nat → Int32), u = (nI n, se, ca, la, xs) ∧ v = (nI n, la, se, ca, ys, fi, mo) ∧ n ≤ 60 ∧ sw_H n ln co st ca la xs ∧ sw_H n ln co st ca la ys
theorem so_mk {k n : Nat} {ln co st : Nat → Nat} {se ca la xs ys fi mo : Nat → Int32} (hn : n ≤ 60) (hx : sw_H n ln co st ca la xs) (hy : sw_H n ln co st ca la ys) : i_Rel k (nI n, se, ca, la, xs) (nI n, la, se, ca, ys, fi, mo) :=
  ⟨n, ln, co, st, se, ca, la, xs, ys, fi, mo, rfl, rfl, hn, hx, hy⟩
theorem so_drop {n p : Nat} {ln co st : Nat → Nat} {ca la xs : Nat → Int32} (h : sw_H n ln co st ca la xs) : sw_H n (sw_u ln p (ln p - 1)) co st ca (upd la p (nI (ln p - 1))) xs := by
  refine ⟨fun j => ?_, fun j => ?_, h.2.2.1, h.2.2.2.1, h.2.2.2.2.1, h.2.2.2.2.2⟩
  · by_cases e : j = p
    · rw [e, sw_u_s]
      exact pk_us
    · rw [pk_un e, sw_u_n ln _ e]
      exact h.1 j
  · have h1 := h.2.1 p
    by_cases e : j = p
    · rw [e, sw_u_s]
      omega
    · rw [sw_u_n ln _ e]
      exact h.2.1 j
theorem so_item {n p a c : Nat} {ln co st : Nat → Nat} {ca la xs : Nat → Int32} (h : sw_H n ln co st ca la xs) (hl : ln p < 6) (hc : c ≤ 3) : sw_H n (sw_u ln p (ln p + 1)) (sw_u co a c) st (upd ca a (nI c)) (upd la p (nI (ln p + 1))) xs := by
  refine ⟨fun j => ?_, fun j => ?_, fun j => ?_, fun j => ?_, h.2.2.2.2.1, h.2.2.2.2.2⟩
  · by_cases e : j = p
    · rw [e, sw_u_s]
      exact pk_us
    · rw [pk_un e, sw_u_n ln _ e]
      exact h.1 j
  · by_cases e : j = p
    · rw [e, sw_u_s]
      omega
    · rw [sw_u_n ln _ e]
      exact h.2.1 j
  · by_cases e : j = a
    · rw [e, sw_u_s]
      exact pk_us
    · rw [pk_un e, sw_u_n co _ e]
      exact h.2.2.1 j
  · by_cases e : j = a
    · rw [e, sw_u_s]
      exact hc
    · rw [sw_u_n co _ e]
      exact h.2.2.2.1 j
theorem so_bit {S : Nat → Nat → Prop} {c : Nat → Nat} {L t j : Nat} {R : Int64} (hR : sx_B S c L t R) (hj : j ≤ t) (h64 : j < 64) : sl_b R j = sw_b (sw_F S c j L (t + 1)) := by
  rw [Bool.eq_iff_iff, hR j h64, sw_b_t]
  exact ⟨And.right, fun z => ⟨hj, z⟩⟩
theorem so_bit0 {S : Nat → Nat → Prop} {c : Nat → Nat} {L t j : Nat} {R : Int64} (hR : sx_B S c L t R) (hj : t < j) (h64 : j < 64) : sl_b R j = false := by
  cases e : sl_b R j with
  | false => rfl
  | true =>
    have := ((hR j h64).mp e).1
    omega
theorem i_up {k : Nat} {u : SX} {v : SY} (h : i_Rel k u v) : i_Rel (k + 4) u v := by
  exact h
theorem i_vc0 : wpX_init (fun u => wpY_init (fun v => i_Rel 0 u v)) := by
  refine ⟨0, fun _ => 0, fun _ => 0, fun _ => 0, fun _ => 0, fun _ => 0, fun _ => 0, fun _ => 0, fun _ => 0, fun _ => 0, fun _ => 0, rfl, rfl, by omega, ?_, ?_⟩
  · exact ⟨fun _ => rfl, fun _ => Nat.zero_le _, fun _ => rfl, fun _ => Nat.zero_le _, fun j hj => rfl, fun _ => (by decide : (0 : Nat) < 4)⟩
  · exact ⟨fun _ => rfl, fun _ => Nat.zero_le _, fun _ => rfl, fun _ => Nat.zero_le _, fun j hj => rfl, fun _ => (by decide : (0 : Nat) < 4)⟩
theorem i_vc_item {k : Nat} {u : SX} {v : SY} (I : i_Rel k u v) (hk : k + 4 ≤ 2048) (v1 : Int32) (v2 : Int32) (v3 : Int32) : wpX_item (fun r u' => wpY_item (fun r' v' => r' = r ∧ i_Rel (k + 4) u' v') v v1 v2 v3) u v1 v2 v3 := by
  obtain ⟨n, ln, co, st, se, ca, la, xs, ys, fi, mo, rfl, rfl, hn, hx, hy⟩ := I
  rcases pk_ix v1 (n := 4) (by decide) with h | h | ⟨p, hp, rfl⟩
  · unfold wpX_item wpY_item
    exact sx_pf (Or.inl h) (br_t rfl (sy_pf (Or.inl h) (br_t rfl ⟨rfl, so_mk hn hx hy⟩)))
  · unfold wpX_item wpY_item
    exact sx_pf (Or.inr h) (br_t rfl (sy_pf (Or.inr h) (br_t rfl ⟨rfl, so_mk hn hx hy⟩)))
  · unfold wpX_item wpY_item
    have hin : vp_in (nI p) 4 := vp_in_nI hp (by omega)
    have hcl : (nI p).toNatClampNeg = p := nI_clamp (by omega)
    have hL := hx.2.1 p
    have el := hx.1 p
    have R : i_Rel (k + 4) (nI n, se, ca, la, xs) (nI n, la, se, ca, ys, fi, mo) := so_mk hn hx hy
    refine sx_pt hp (br_f (by decide) ?_)
    by_cases h1 : v2 < 1
    · exact br_t h1 (sy_pt hp (br_f (by decide) (br_t h1 ⟨rfl, R⟩)))
    refine br_f h1 ?_
    by_cases h2 : 15 < v2
    · exact br_t h2 (sy_pt hp (br_f (by decide) (br_f h1 (br_t h2 ⟨rfl, R⟩))))
    refine br_f h2 ?_
    by_cases h3 : v3 < 0
    · exact br_t h3 (sy_pt hp (br_f (by decide) (br_f h1 (br_f h2 (br_t h3 ⟨rfl, R⟩)))))
    refine br_f h3 ?_
    by_cases h4 : v3 ≤ 3
    · refine br_t h4 ⟨hin, ?_⟩
      obtain ⟨c, hc, rfl⟩ := nI_of2 (n := 3) (by decide) h3 h4
      by_cases h5 : ln p < 6
      · have e5 : la (nI p).toNatClampNeg < 6 := by rw [hcl, el]; exact nI_lt (b := 6) h5 (by decide)
        have e6 : (nI p * 6) + la (nI p).toNatClampNeg = nI (p * 6 + ln p) := by
          rw [hcl, el, show (6 : Int32) = nI 6 from by decide, pk_mul, nI_add]
        have e7 : (6 * nI p) + la (nI p).toNatClampNeg = nI (p * 6 + ln p) := by
          rw [hcl, el]
          exact sy_ix p (ln p)
        have hat : vp_in (nI (p * 6 + ln p)) 24 := vp_in_nI (by omega) (by omega)
        have hac : (nI (p * 6 + ln p)).toNatClampNeg = p * 6 + ln p := nI_clamp (by omega)
        have e8 : la (nI p).toNatClampNeg + 1 = nI (ln p + 1) := by rw [hcl, el, nI_1]
        refine br_t e5 ⟨hin, nm_r e6 ⟨hat, fun s1 es1 => ⟨hat, fun c1 ec1 => ⟨hin, hin, fun l1 el1 => ⟨hin, ?_⟩⟩⟩⟩⟩
        refine sy_pt hp (br_f (by decide) (br_f h1 (br_f h2 (br_f h3 (br_t h4 ⟨hin, br_t e5 ⟨hin, ?_⟩⟩)))))
        rw [e7]
        refine ⟨hat, fun s2 es2 => ⟨hin, hat, fun c2 ec2 => ⟨hin, hin, fun l2 el2 => ⟨hin, ?_⟩⟩⟩⟩
        have q1 : s2 = s1 := es2.trans es1.symm
        have q2 : c2 = c1 := ec2.trans ec1.symm
        have q3 : l2 = l1 := el2.trans el1.symm
        subst q1 q2 q3
        refine ⟨rfl, ?_⟩
        rw [hac] at es1 ec1
        rw [e8, hcl] at el1
        subst es1 ec1 el1
        exact so_mk hn (so_item hx h5 hc) (so_item hy h5 hc)
      · have e5 : ¬ la (nI p).toNatClampNeg < 6 := by rw [hcl, el]; exact nI_nlt (b := 6) (by omega) (by omega)
        exact br_f e5 (sy_pt hp (br_f (by decide) (br_f h1 (br_f h2 (br_f h3 (br_t h4 ⟨hin, br_f e5 ⟨rfl, R⟩⟩))))))
    · exact br_f h4 (sy_pt hp (br_f (by decide) (br_f h1 (br_f h2 (br_f h3 (br_f h4 ⟨rfl, R⟩))))))
theorem i_vc_drop {k : Nat} {u : SX} {v : SY} (I : i_Rel k u v) (hk : k + 4 ≤ 2048) (v1 : Int32) : wpX_drop (fun r u' => wpY_drop (fun r' v' => r' = r ∧ i_Rel (k + 4) u' v') v v1) u v1 := by
  obtain ⟨n, ln, co, st, se, ca, la, xs, ys, fi, mo, rfl, rfl, hn, hx, hy⟩ := I
  rcases pk_ix v1 (n := 4) (by decide) with h | h | ⟨p, hp, rfl⟩
  · unfold wpX_drop wpY_drop
    exact sx_pf (Or.inl h) (br_t rfl (sy_pf (Or.inl h) (br_t rfl ⟨rfl, so_mk hn hx hy⟩)))
  · unfold wpX_drop wpY_drop
    exact sx_pf (Or.inr h) (br_t rfl (sy_pf (Or.inr h) (br_t rfl ⟨rfl, so_mk hn hx hy⟩)))
  · unfold wpX_drop wpY_drop
    have hin : vp_in (nI p) 4 := vp_in_nI hp (by omega)
    have hcl : (nI p).toNatClampNeg = p := nI_clamp (by omega)
    have hL := hx.2.1 p
    have el := hx.1 p
    refine sx_pt hp (br_f (by decide) ⟨hin, ?_⟩)
    by_cases hz : ln p = 0
    · have e0 : la (nI p).toNatClampNeg = 0 := by rw [hcl, el, hz]; decide
      exact br_t e0 (sy_pt hp (br_f (by decide) ⟨hin, br_t e0 ⟨rfl, so_mk hn hx hy⟩⟩))
    · have e0 : ¬ la (nI p).toNatClampNeg = 0 := by rw [hcl, el]; exact nI_ne0 (by omega) (by omega)
      have e1 : la (nI p).toNatClampNeg - 1 = nI (ln p - 1) := by
        rw [hcl, el]
        exact pk_sub (b := 1) (by omega)
      refine br_f e0 ⟨hin, hin, fun a ea => ⟨hin, ?_⟩⟩
      refine sy_pt hp (br_f (by decide) ⟨hin, br_f e0 ⟨hin, hin, fun b eb => ⟨hin, ?_⟩⟩⟩)
      have eab : b = a := eb.trans ea.symm
      subst eab
      refine ⟨rfl, ?_⟩
      rw [hcl] at e1
      rw [hcl, e1] at ea
      subst ea
      exact so_mk hn (so_drop hx) (so_drop hy)
theorem i_vc_items {k : Nat} {u : SX} {v : SY} (I : i_Rel k u v) (hk : k + 4 ≤ 2048) (v1 : Int32) : wpX_items (fun r => wpY_items (fun r' => r' = r ∧ i_Rel (k + 4) u v) v v1) u v1 := by
  obtain ⟨n, ln, co, st, se, ca, la, xs, ys, fi, mo, rfl, rfl, hn, hx, hy⟩ := I
  rcases pk_ix v1 (n := 4) (by decide) with h | h | ⟨p, hp, rfl⟩
  · unfold wpX_items wpY_items
    exact sx_pf (Or.inl h) (br_t rfl (sy_pf (Or.inl h) (br_t rfl ⟨rfl, so_mk hn hx hy⟩)))
  · unfold wpX_items wpY_items
    exact sx_pf (Or.inr h) (br_t rfl (sy_pf (Or.inr h) (br_t rfl ⟨rfl, so_mk hn hx hy⟩)))
  · unfold wpX_items wpY_items
    have hin : vp_in (nI p) 4 := vp_in_nI hp (by omega)
    exact sx_pt hp (br_f (by decide) ⟨hin, sy_pt hp (br_f (by decide) ⟨hin, rfl, so_mk hn hx hy⟩)⟩)
theorem i_vc_push {k : Nat} {u : SX} {v : SY} (I : i_Rel k u v) (hk : k + 4 ≤ 2048) (v1 : Int32) : wpX_push (fun r u' => wpY_push (fun r' v' => r' = r ∧ i_Rel (k + 4) u' v') v v1) u v1 := by
  obtain ⟨n, ln, co, st, se, ca, la, xs, ys, fi, mo, rfl, rfl, hn, hx, hy⟩ := I
  have R : i_Rel (k + 4) (nI n, se, ca, la, xs) (nI n, la, se, ca, ys, fi, mo) := so_mk hn hx hy
  by_cases h0 : v1 < 0
  · exact br_t h0 (br_t h0 ⟨rfl, R⟩)
  obtain ⟨s, hs, rfl⟩ := nI_of h0
  by_cases h4 : s < 4
  · have a4 : nI s < 4 := nI_lt (b := 4) h4 (by decide)
    have a3 : nI s ≤ 3 := nI_le (b := 3) (by omega) (by decide)
    by_cases h6 : n < 60
    · have a6 : nI n < 60 := nI_lt (b := 60) h6 (by decide)
      have hcl : (nI n).toNatClampNeg = n := nI_clamp (by omega)
      refine br_f h0 (br_t a4 (br_t a6 ⟨vp_in_nI (by omega) (by omega), fun x1 ex1 => nm_r (nI_1 n) ?_⟩))
      rw [hcl] at ex1
      subst ex1
      rw [nI_pred]
      refine sx_pe (sw_H_p hx h4) h6 ?_
      refine br_f h0 (br_t a3 (br_t a6 ⟨vp_in_nI (by omega) (by omega), fun y1 ey1 => nm_r (nI_1 n) ?_⟩))
      rw [hcl] at ey1
      subst ey1
      rw [nI_pred]
      exact sy_pe (sw_H_p hy h4) (by omega) (by omega) (fun fi' mo' => ⟨rfl, so_mk (by omega) (sw_H_p hx h4) (sw_H_p hy h4)⟩)
    · have a6 : ¬ nI n < 60 := nI_nlt (b := 60) (by omega) (by omega)
      exact br_f h0 (br_t a4 (br_f a6 (br_f h0 (br_t a3 (br_f a6 ⟨rfl, R⟩)))))
  · have a4 : ¬ nI s < 4 := nI_nlt (b := 4) (by omega) hs
    have a3 : ¬ nI s ≤ 3 := nI_ge (a := 3) (by omega) hs
    exact br_f h0 (br_f a4 (br_f h0 (br_f a3 ⟨rfl, R⟩)))
theorem i_vc_reset {k : Nat} {u : SX} {v : SY} (I : i_Rel k u v) (hk : k + 4 ≤ 2048) : wpX_reset (fun u' => wpY_reset (fun v' => i_Rel (k + 4) u' v') v) u := by
  obtain ⟨n, ln, co, st, se, ca, la, xs, ys, fi, mo, rfl, rfl, hn, hx, hy⟩ := I
  exact ⟨0, ln, co, st, se, ca, la, xs, ys, fi, mo, rfl, rfl, by omega, sw_H_m hx (by omega), sw_H_m hy (by omega)⟩
theorem i_vc_taken {k : Nat} {u : SX} {v : SY} (I : i_Rel k u v) (hk : k + 4 ≤ 2048) : wpX_taken (fun r => wpY_taken (fun r' => r' = r ∧ i_Rel (k + 4) u v) v) u := by
  obtain ⟨n, ln, co, st, se, ca, la, xs, ys, fi, mo, rfl, rfl, hn, hx, hy⟩ := I
  exact ⟨rfl, so_mk hn hx hy⟩
theorem i_vc_endingAt {k : Nat} {u : SX} {v : SY} (I : i_Rel k u v) (hk : k + 4 ≤ 2048) (v1 : Int32) : wpX_endingAt (fun r => wpY_endingAt (fun r' v' => r' = r ∧ i_Rel (k + 4) u v') v v1) u v1 := by
  obtain ⟨n, ln, co, st, se, ca, la, xs, ys, fi, mo, rfl, rfl, hn, hx, hy⟩ := I
  rcases pk_ix v1 (n := n) (by omega) with h | h | ⟨t, ht, rfl⟩
  · unfold wpX_endingAt
    exact sx_lf (Or.inl h) (br_t rfl (sy_pe0 (Or.inl h) ⟨rfl, so_mk hn hx hy⟩))
  · unfold wpX_endingAt
    exact sx_lf (Or.inr h) (br_t rfl (sy_pe0 (Or.inr h) ⟨rfl, so_mk hn hx hy⟩))
  · unfold wpX_endingAt
    refine sx_lt ht hn (br_f (by decide) ?_)
    exact sx_pe (sw_H_m hx (by omega)) (by omega) (sy_pe hy ht hn (fun fi' mo' => ⟨rfl, so_mk hn hx hy⟩))
theorem i_vc_ends {k : Nat} {u : SX} {v : SY} (I : i_Rel k u v) (hk : k + 4 ≤ 2048) (v1 : Int32) : wpX_ends (fun r => wpY_ends (fun r' v' => r' = r ∧ i_Rel (k + 4) u v') v v1) u v1 := by
  obtain ⟨n, ln, co, st, se, ca, la, xs, ys, fi, mo, rfl, rfl, hn, hx, hy⟩ := I
  rcases pk_ix v1 (n := 4) (by decide) with h | h | ⟨p, hp, rfl⟩
  · unfold wpX_ends
    exact sx_pf (Or.inl h) (br_t rfl (sy_en0 (Or.inl h) ⟨rfl, so_mk hn hx hy⟩))
  · unfold wpX_ends
    exact sx_pf (Or.inr h) (br_t rfl (sy_en0 (Or.inr h) ⟨rfl, so_mk hn hx hy⟩))
  · unfold wpX_ends
    refine sx_pt hp (br_f (by decide) ?_)
    refine ⟨n + 1, sx_en hx hn hp ?_ n 0 (n + 1) (by omega) (by omega)⟩
    exact sy_en hy hp hn (fun fi' mo' => ⟨rfl, so_mk hn hx hy⟩)
theorem i_vc_firstEnd {k : Nat} {u : SX} {v : SY} (I : i_Rel k u v) (hk : k + 4 ≤ 2048) (v1 : Int32) : wpX_firstEnd (fun r => wpY_firstEnd (fun r' v' => r' = r ∧ i_Rel (k + 4) u v') v v1) u v1 := by
  obtain ⟨n, ln, co, st, se, ca, la, xs, ys, fi, mo, rfl, rfl, hn, hx, hy⟩ := I
  rcases pk_ix v1 (n := 4) (by decide) with h | h | ⟨p, hp, rfl⟩
  · unfold wpX_firstEnd
    exact sx_pf (Or.inl h) (br_t rfl (sy_fe0 (Or.inl h) ⟨rfl, so_mk hn hx hy⟩))
  · unfold wpX_firstEnd
    exact sx_pf (Or.inr h) (br_t rfl (sy_fe0 (Or.inr h) ⟨rfl, so_mk hn hx hy⟩))
  · unfold wpX_firstEnd
    refine sx_pt hp (br_f (by decide) ?_)
    exact ⟨n + 1, sx_fe hx hn hp n 0 (n + 1) (by omega) (by omega) (sy_fe hy hp hn (fun fi' mo' => ⟨rfl, so_mk hn hx hy⟩))⟩
theorem i_vc_earliest {k : Nat} {u : SX} {v : SY} (I : i_Rel k u v) (hk : k + 4 ≤ 2048) (v1 : Int32) (v2 : Int32) : wpX_earliest (fun r => wpY_earliest (fun r' v' => r' = r ∧ i_Rel (k + 4) u v') v v1 v2) u v1 v2 := by
  obtain ⟨n, ln, co, st, se, ca, la, xs, ys, fi, mo, rfl, rfl, hn, hx, hy⟩ := I
  rcases pk_ix v1 (n := 4) (by decide) with h | h | ⟨p, hp, rfl⟩
  · unfold wpX_earliest
    exact sx_pf (Or.inl h) (br_t rfl (sy_er0 (Or.inl (Or.inl h)) ⟨rfl, so_mk hn hx hy⟩))
  · unfold wpX_earliest
    exact sx_pf (Or.inr h) (br_t rfl (sy_er0 (Or.inl (Or.inr h)) ⟨rfl, so_mk hn hx hy⟩))
  · unfold wpX_earliest
    refine sx_pt hp (br_f (by decide) ?_)
    rcases pk_ix v2 (n := n) (by omega) with h | h | ⟨t, ht, rfl⟩
    · exact sx_lf (Or.inl h) (br_t rfl (sy_er0 (Or.inr (Or.inl h)) ⟨rfl, so_mk hn hx hy⟩))
    · exact sx_lf (Or.inr h) (br_t rfl (sy_er0 (Or.inr (Or.inr h)) ⟨rfl, so_mk hn hx hy⟩))
    · refine sx_lt ht hn (br_f (by decide) ⟨vp_in_nI (by omega) (by omega), ?_⟩)
      rw [nI_clamp (by omega), hx.2.2.2.2.1 t ht]
      refine sx_bg (sw_H_m hx (by omega)) hp (by omega) (fun R hR => ?_)
      refine ⟨61, sx_lp R 60 0 61 rfl (by omega) ?_⟩
      refine sy_er hy hp ht hn (fun fi' mo' => ⟨?_, so_mk hn hx hy⟩)
      have e := sw_fst_cut (E := sl_b R) (G := fun f => sw_b (sw_F (sw_S se st p) (sw_c co p) f (ln p) (t + 1))) (t + 1) (59 - t) 0 (fun j _ h2 => so_bit hR (by omega) (by omega)) (fun j h1 h2 => so_bit0 hR (by omega) (by omega))
      rw [show t + 1 + (59 - t) = 60 by omega] at e
      exact e.symm
theorem i_vc_latest {k : Nat} {u : SX} {v : SY} (I : i_Rel k u v) (hk : k + 4 ≤ 2048) (v1 : Int32) (v2 : Int32) : wpX_latest (fun r => wpY_latest (fun r' v' => r' = r ∧ i_Rel (k + 4) u v') v v1 v2) u v1 v2 := by
  obtain ⟨n, ln, co, st, se, ca, la, xs, ys, fi, mo, rfl, rfl, hn, hx, hy⟩ := I
  rcases pk_ix v1 (n := 4) (by decide) with h | h | ⟨p, hp, rfl⟩
  · unfold wpX_latest
    exact sx_pf (Or.inl h) (br_t rfl (sy_la0 (Or.inl (Or.inl h)) ⟨rfl, so_mk hn hx hy⟩))
  · unfold wpX_latest
    exact sx_pf (Or.inr h) (br_t rfl (sy_la0 (Or.inl (Or.inr h)) ⟨rfl, so_mk hn hx hy⟩))
  · unfold wpX_latest
    refine sx_pt hp (br_f (by decide) ?_)
    rcases pk_ix v2 (n := n) (by omega) with h | h | ⟨t, ht, rfl⟩
    · exact sx_lf (Or.inl h) (br_t rfl (sy_la0 (Or.inr (Or.inl h)) ⟨rfl, so_mk hn hx hy⟩))
    · exact sx_lf (Or.inr h) (br_t rfl (sy_la0 (Or.inr (Or.inr h)) ⟨rfl, so_mk hn hx hy⟩))
    · refine sx_lt ht hn (br_f (by decide) ⟨vp_in_nI (by omega) (by omega), ?_⟩)
      rw [nI_clamp (by omega), hx.2.2.2.2.1 t ht]
      refine sx_bg (sw_H_m hx (by omega)) hp (by omega) (fun R hR => ?_)
      refine ⟨61, sx_gp R 60 61 59 (by decide) (by omega) (by omega) ?_⟩
      refine sy_la hy hp ht hn (fun fi' mo' => ⟨?_, so_mk hn hx hy⟩)
      have e := sw_lst_cut (E := sl_b R) (G := fun f => sw_b (sw_F (sw_S se st p) (sw_c co p) f (ln p) (t + 1))) (a := t + 1) (fun j h2 => so_bit hR (by omega) (by omega)) (59 - t) (fun j h1 h2 => so_bit0 hR (by omega) (by omega))
      rw [show t + 1 + (59 - t) = 60 by omega] at e
      exact e.symm
theorem i_vc_longest {k : Nat} {u : SX} {v : SY} (I : i_Rel k u v) (hk : k + 4 ≤ 2048) (v1 : Int32) : wpX_longest (fun r => wpY_longest (fun r' v' => r' = r ∧ i_Rel (k + 4) u v') v v1) u v1 := by
  obtain ⟨n, ln, co, st, se, ca, la, xs, ys, fi, mo, rfl, rfl, hn, hx, hy⟩ := I
  rcases pk_ix v1 (n := 4) (by decide) with h | h | ⟨p, hp, rfl⟩
  · unfold wpX_longest
    exact sx_pf (Or.inl h) (br_t rfl (sy_lo0 (Or.inl h) ⟨rfl, so_mk hn hx hy⟩))
  · unfold wpX_longest
    exact sx_pf (Or.inr h) (br_t rfl (sy_lo0 (Or.inr h) ⟨rfl, so_mk hn hx hy⟩))
  · unfold wpX_longest
    refine sx_pt hp (br_f (by decide) ?_)
    refine ⟨n + 1, sx_lo hx hn hp (fun v hv => ?_) n 0 (n + 1) 0 (by omega) (by omega) sw_Max_0⟩
    exact sy_lo hy hp hn (fun w fi' mo' hw => ⟨by rw [sw_Max_one hv hw], so_mk hn hx hy⟩)
theorem i_vc_completing {k : Nat} {u : SX} {v : SY} (I : i_Rel k u v) (hk : k + 4 ≤ 2048) (v1 : Int32) : wpX_completing (fun r => wpY_completing (fun r' v' => r' = r ∧ i_Rel (k + 4) u v') v v1) u v1 := by
  obtain ⟨n, ln, co, st, se, ca, la, xs, ys, fi, mo, rfl, rfl, hn, hx, hy⟩ := I
  rcases pk_ix v1 (n := 4) (by decide) with h | h | ⟨p, hp, rfl⟩
  · unfold wpX_completing
    exact sx_pf (Or.inl h) (br_t rfl (sy_co0 (Or.inl h) ⟨rfl, so_mk hn hx hy⟩))
  · unfold wpX_completing
    exact sx_pf (Or.inr h) (br_t rfl (sy_co0 (Or.inr h) ⟨rfl, so_mk hn hx hy⟩))
  · unfold wpX_completing
    refine sx_pt hp (br_f (by decide) ?_)
    exact ⟨5, sx_co hx hn hp (sy_co hy hp hn (fun ys' fi' mo' hy' => ⟨rfl, so_mk hn hx hy'⟩)) 4 0 5 rfl (by omega)⟩
theorem i_vc_emptyFits {k : Nat} {u : SX} {v : SY} (I : i_Rel k u v) (hk : k + 4 ≤ 2048) : wpX_emptyFits (fun r => wpY_emptyFits (fun r' v' => r' = r ∧ i_Rel (k + 4) u v') v) u := by
  obtain ⟨n, ln, co, st, se, ca, la, xs, ys, fi, mo, rfl, rfl, hn, hx, hy⟩ := I
  exact ⟨5, sx_ef hx (sy_ef hy (fun fi' mo' => ⟨rfl, so_mk hn hx hy⟩)) 4 0 5 rfl (by omega)⟩
