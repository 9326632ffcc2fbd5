theorem rg_rep (x : Int32) : (x < 0 ∨ nI 3 ≤ x) ∨ ∃ r : Nat, r < 3 ∧ x = nI r := by
  rcases rg_ix x (n := 3) (by omega) with h | h | h
  · exact Or.inl (Or.inl h)
  · exact Or.inl (Or.inr h)
  · exact Or.inr h
section RGA5
variable {CH ST OR ORD K D CK P AB YO : Nat → Int32} {fo : Int32} {n : Nat} {s o ord pos c : Nat → Nat} {par : Nat → Option Nat}
theorem rg_R_S (R : rg_R n s o ord pos c par CH ST OR ORD K D CK P AB) : ∀ e, e < n → ST e = nI (s e) ∧ OR e = nI (o e) ∧ s e ≤ 40 ∧ o e < 3 := by
  obtain ⟨hn, G, h1, h2, h3, h4, h5, h6, h7, h8⟩ := R
  intro e he
  obtain ⟨a, b, c', d, f⟩ := h1 e he
  exact ⟨a, b, by omega, d⟩
theorem rg_R_o (R : rg_R n s o ord pos c par CH ST OR ORD K D CK P AB) : ∀ i, i < n → ORD i = nI (ord i) ∧ ord i < n := by
  obtain ⟨hn, G, h1, h2, h3, h4, h5, h6, h7, h8⟩ := R
  intro i hi
  exact ⟨h3 i hi, (G.2.1 i hi).1⟩
theorem rg_R_P (R : rg_R n s o ord pos c par CH ST OR ORD K D CK P AB) : ∀ e, e < n → P e = rg_pc (par e) := by
  obtain ⟨hn, G, h1, h2, h3, h4, h5, h6, h7, h8⟩ := R
  exact h4
theorem rg_R_K (R : rg_R n s o ord pos c par CH ST OR ORD K D CK P AB) : ∀ j, K j = 0 ∨ K j = 1 := by
  obtain ⟨hn, G, h1, h2, h3, h4, h5, h6, h7, h8⟩ := R
  exact fun j => (h5 j).1
theorem rg_R_D (R : rg_R n s o ord pos c par CH ST OR ORD K D CK P AB) : ∀ j, D j = 0 ∨ D j = 1 := by
  obtain ⟨hn, G, h1, h2, h3, h4, h5, h6, h7, h8⟩ := R
  exact fun j => (h5 j).2
theorem rg_R_i (R : rg_R n s o ord pos c par CH ST OR ORD K D CK P AB) {k : Nat} (fo : Int32) (YO : Nat → Int32) : i_Rel k (nI n, CH, ST, OR, ORD, K, D, CK) (nI n, fo, CH, ST, OR, P, AB, K, D, CK, YO) :=
  ⟨n, s, o, ord, pos, c, par, CH, ST, OR, ORD, K, D, CK, P, AB, YO, fo, rfl, rfl, R⟩
theorem rg_us1 {f : Nat → Int32} {k : Nat} (h : ∀ j, f j = 0 ∨ f j = 1) : ∀ j, upd f k 1 j = 0 ∨ upd f k 1 j = 1 := by
  intro j
  by_cases z : j = k
  · rw [z]
    exact Or.inr rg_us
  · rw [rg_un z]
    exact h j
theorem rg_R_uD (R : rg_R n s o ord pos c par CH ST OR ORD K D CK P AB) (x : Nat) : rg_R n s o ord pos c par CH ST OR ORD K (upd D x 1) CK P AB := by
  obtain ⟨hn, G, h1, h2, h3, h4, h5, h6, h7, h8⟩ := R
  exact ⟨hn, G, h1, h2, h3, h4, fun j => ⟨(h5 j).1, rg_us1 (fun i => (h5 i).2) j⟩, h6, h7, h8⟩
theorem ry_ea_bad {post : Int32 → SY → Prop} {u : SY} {r t : Int32} (h : r < 0 ∨ nI 3 ≤ r) (hp : post (-1) u) : wpY_elementAt post u r t := by
  obtain ⟨a, b, c, d, e, f, g, i, j, k, l⟩ := u
  unfold wpY_elementAt
  dsimp only
  exact ry_bad h (br_t rfl hp)
end RGA5
theorem i_up {k : Nat} {u : SX} {v : SY} (h : i_Rel k u v) : i_Rel (k + 4) u v := h
theorem i_vc0 : wpX_init (fun u => wpY_init (fun v => i_Rel 0 u v)) :=
  ⟨0, fun _ => 0, fun _ => 0, fun _ => 0, fun _ => 0, fun _ => 0, fun _ => none, fun _ => 0, fun _ => 0, fun _ => 0, fun _ => 0, fun _ => 0, fun _ => 0, fun _ => 0, fun _ => 0, fun _ => 0, fun _ => 0, 0, rfl, rfl,
    Nat.zero_le _, rg_G_0, fun _ h => absurd h (Nat.not_lt_zero _), fun _ _ => ⟨rfl, Nat.le_refl _⟩, fun _ h => absurd h (Nat.not_lt_zero _), fun _ h => absurd h (Nat.not_lt_zero _), fun _ => ⟨Or.inl rfl, Or.inl rfl⟩, fun _ _ _ h => absurd h (Nat.not_lt_zero _), fun _ _ _ _ _ => rfl, fun _ h => absurd h (Nat.not_lt_zero _)⟩
theorem i_vc_length {k : Nat} {u : SX} {v : SY} (I : i_Rel k u v) (hk : k + 4 ≤ 2048) (v1 : Int32) : wpX_length (fun r => wpY_length (fun r' => r' = r ∧ i_Rel (k + 4) u v) v v1) u v1 := by
  obtain ⟨n, s, o, ord, pos, c, par, CH, ST, OR, ORD, K, D, CK, P, AB, YO, fo, rfl, rfl, R⟩ := I
  have J := rg_R_i R (k := k + 4) fo YO
  unfold wpX_length
  dsimp only
  rcases rg_rep v1 with h | ⟨r, hr, rfl⟩
  · refine rx_bad h (br_t rfl ?_)
    unfold wpY_length
    dsimp only
    exact ry_bad h (br_t rfl ⟨rfl, J⟩)
  · exact rx_ok hr (br_f rg_10 (rx_textLength R.1 hr (ry_length R.1 hr ⟨rfl, J⟩)))
theorem i_vc_known {k : Nat} {u : SX} {v : SY} (I : i_Rel k u v) (hk : k + 4 ≤ 2048) (v1 : Int32) : wpX_known (fun r => wpY_known (fun r' => r' = r ∧ i_Rel (k + 4) u v) v v1) u v1 := by
  obtain ⟨n, s, o, ord, pos, c, par, CH, ST, OR, ORD, K, D, CK, P, AB, YO, fo, rfl, rfl, R⟩ := I
  have J := rg_R_i R (k := k + 4) fo YO
  unfold wpX_known
  dsimp only
  rcases rg_rep v1 with h | ⟨r, hr, rfl⟩
  · refine rx_bad h (br_t rfl ?_)
    unfold wpY_known
    dsimp only
    exact ry_bad h (br_t rfl ⟨rfl, J⟩)
  · refine rx_ok hr (br_f rg_10 ⟨n + 1, rx_knl R.1 hr (rg_R_K R) ?_ (n + 1) n 0 (by omega) (by omega)⟩)
    unfold wpY_known
    dsimp only
    exact ry_ok hr (br_f rg_10 ⟨n + 1, ry_knl R.1 hr ⟨rfl, J⟩ (n + 1) n 0 (by omega) (by omega)⟩)
theorem i_vc_elementAt {k : Nat} {u : SX} {v : SY} (I : i_Rel k u v) (hk : k + 4 ≤ 2048) (v1 : Int32) (v2 : Int32) : wpX_elementAt (fun r => wpY_elementAt (fun r' v' => r' = r ∧ i_Rel (k + 4) u v') v v1 v2) u v1 v2 := by
  obtain ⟨n, s, o, ord, pos, c, par, CH, ST, OR, ORD, K, D, CK, P, AB, YO, fo, rfl, rfl, R⟩ := I
  unfold wpX_elementAt
  dsimp only
  rcases rg_rep v1 with h | ⟨r, hr, rfl⟩
  · exact rx_bad h (br_t rfl (ry_ea_bad h ⟨rfl, rg_R_i R fo YO⟩))
  · exact rx_ok hr (br_f rg_10 (rx_textElement R.1 hr (rg_R_o R) (ry_elementAt R.1 R.2.1 (rg_R_P R) (rg_R_S R) hr (fun fo' YO' => ⟨rfl, rg_R_i R fo' YO'⟩))))
theorem i_vc_charAt {k : Nat} {u : SX} {v : SY} (I : i_Rel k u v) (hk : k + 4 ≤ 2048) (v1 : Int32) (v2 : Int32) : wpX_charAt (fun r => wpY_charAt (fun r' v' => r' = r ∧ i_Rel (k + 4) u v') v v1 v2) u v1 v2 := by
  obtain ⟨n, s, o, ord, pos, c, par, CH, ST, OR, ORD, K, D, CK, P, AB, YO, fo, rfl, rfl, R⟩ := I
  unfold wpX_charAt
  dsimp only
  rcases rg_rep v1 with h | ⟨r, hr, rfl⟩
  · refine rx_bad h (br_t rfl ?_)
    unfold wpY_charAt
    dsimp only
    exact ry_ea_bad h (br_f (show ¬ (0 : Int32) ≤ -1 by decide) ⟨rfl, rg_R_i R fo YO⟩)
  · exact rx_ok hr (br_f rg_10 (rx_textCharacter R.1 hr (rg_R_o R) (ry_charAt R.1 R.2.1 (rg_R_P R) (rg_R_S R) hr (fun fo' YO' => ⟨rfl, rg_R_i R fo' YO'⟩))))
theorem i_vc_placeOf {k : Nat} {u : SX} {v : SY} (I : i_Rel k u v) (hk : k + 4 ≤ 2048) (v1 : Int32) (v2 : Int32) : wpX_placeOf (fun r => wpY_placeOf (fun r' => r' = r ∧ i_Rel (k + 4) u v) v v1 v2) u v1 v2 := by
  obtain ⟨n, s, o, ord, pos, c, par, CH, ST, OR, ORD, K, D, CK, P, AB, YO, fo, rfl, rfl, R⟩ := I
  have J := rg_R_i R (k := k + 4) fo YO
  have hn := R.1
  have G := R.2.1
  unfold wpX_placeOf
  dsimp only
  rcases rg_rep v1 with h | ⟨r, hr, rfl⟩
  · refine rx_bad h (br_t rfl ?_)
    unfold wpY_placeOf
    dsimp only
    exact ry_bad h (br_t rfl ⟨rfl, J⟩)
  · rcases rg_ix v2 (n := n) (by omega) with h | h | ⟨e, he, rfl⟩
    · refine rx_ok hr (br_f rg_10 ⟨n + 1, rx_po0 hn hr (rg_R_o R) ?_ ?_ (n + 1) n 0 0 (by omega) (by omega)⟩)
      · intro i hi _ w
        rw [← w] at h
        have := (G.2.1 i hi).1
        exact nI_pos (by omega) h
      · unfold wpY_placeOf
        dsimp only
        exact ry_ok hr (br_f rg_10 (ry_sh0 (Or.inl h) (br_t rfl ⟨rfl, J⟩)))
    · refine rx_ok hr (br_f rg_10 ⟨n + 1, rx_po0 hn hr (rg_R_o R) ?_ ?_ (n + 1) n 0 0 (by omega) (by omega)⟩)
      · intro i hi _ w
        rw [← w] at h
        have := (G.2.1 i hi).1
        exact nI_ge this (by omega) h
      · unfold wpY_placeOf
        dsimp only
        exact ry_ok hr (br_f rg_10 (ry_sh0 (Or.inr h) (br_t rfl ⟨rfl, J⟩)))
    · by_cases z : rg_h K D r e = true
      · have hpe := (G.1 e he).1
        refine rx_ok hr (br_f rg_10 ⟨n + 1, rx_po1 (q := pos e) hn hr (rg_R_o R) hpe (G.1 e he).2 z ?_ ?_ (n + 1) (pos e) 0 (by omega) (by omega)⟩)
        · intro i hi w
          rw [← w]
          exact (G.2.1 i hi).2.symm
        · unfold wpY_placeOf
          dsimp only
          refine ry_ok hr (br_f rg_10 (ry_sh hn hr he (fun _ => br_f rg_10 ⟨n + 1, ry_po hn G (rg_R_P R) (rg_R_S R) hr he ?_ (n + 1) n 0 (by omega) (by omega)⟩) (fun w => (w z).elim)))
          rw [rg_cnt G (rg_h K D r) (P := pos e) (by omega)]
          exact ⟨rfl, J⟩
      · refine rx_ok hr (br_f rg_10 ⟨n + 1, rx_po0 hn hr (rg_R_o R) ?_ ?_ (n + 1) n 0 0 (by omega) (by omega)⟩)
        · intro i hi w1 w
          have := (G.2.1 i hi).1
          have e1 : ord i = e := (nI_eq (by omega) (by omega)).mp w
          rw [e1] at w1
          exact z w1
        · unfold wpY_placeOf
          dsimp only
          exact ry_ok hr (br_f rg_10 (ry_sh hn hr he (fun w => (z w).elim) (fun _ => br_t rfl ⟨rfl, J⟩)))
theorem i_vc_rank {k : Nat} {u : SX} {v : SY} (I : i_Rel k u v) (hk : k + 4 ≤ 2048) (v1 : Int32) (v2 : Int32) : wpX_rank (fun r => wpY_rank (fun r' => r' = r ∧ i_Rel (k + 4) u v) v v1 v2) u v1 v2 := by
  obtain ⟨n, s, o, ord, pos, c, par, CH, ST, OR, ORD, K, D, CK, P, AB, YO, fo, rfl, rfl, R⟩ := I
  have J := rg_R_i R (k := k + 4) fo YO
  have hn := R.1
  have G := R.2.1
  unfold wpX_rank
  dsimp only
  rcases rg_rep v1 with h | ⟨r, hr, rfl⟩
  · refine rx_bad h (br_t rfl ?_)
    unfold wpY_rank
    dsimp only
    exact ry_bad h (br_t rfl ⟨rfl, J⟩)
  · rcases rg_ix v2 (n := n) (by omega) with h | h | ⟨e, he, rfl⟩
    · refine rx_ok hr (br_f rg_10 ⟨n + 1, rx_rk0 hn hr (rg_R_K R) (rg_R_o R) ?_ ?_ (n + 1) n 0 0 (by omega) (by omega)⟩)
      · intro i hi _ w
        rw [← w] at h
        have := (G.2.1 i hi).1
        exact nI_pos (by omega) h
      · unfold wpY_rank
        dsimp only
        exact ry_ok hr (br_f rg_10 (ry_kn0 (Or.inl h) (br_t rfl ⟨rfl, J⟩)))
    · refine rx_ok hr (br_f rg_10 ⟨n + 1, rx_rk0 hn hr (rg_R_K R) (rg_R_o R) ?_ ?_ (n + 1) n 0 0 (by omega) (by omega)⟩)
      · intro i hi _ w
        rw [← w] at h
        have := (G.2.1 i hi).1
        exact nI_ge this (by omega) h
      · unfold wpY_rank
        dsimp only
        exact ry_ok hr (br_f rg_10 (ry_kn0 (Or.inr h) (br_t rfl ⟨rfl, J⟩)))
    · by_cases z : rg_k K r e = true
      · have hpe := (G.1 e he).1
        refine rx_ok hr (br_f rg_10 ⟨n + 1, rx_rk1 (q := pos e) hn hr (rg_R_K R) (rg_R_o R) hpe (G.1 e he).2 z ?_ ?_ (n + 1) (pos e) 0 (by omega) (by omega)⟩)
        · intro i hi w
          rw [← w]
          exact (G.2.1 i hi).2.symm
        · unfold wpY_rank
          dsimp only
          exact ry_ok hr (br_f rg_10 (ry_kn hn hr he (fun _ => br_f rg_10 (ry_rankOf hn G (rg_R_P R) (rg_R_S R) hr he ⟨rfl, J⟩)) (fun w => (w z).elim)))
      · refine rx_ok hr (br_f rg_10 ⟨n + 1, rx_rk0 hn hr (rg_R_K R) (rg_R_o R) ?_ ?_ (n + 1) n 0 0 (by omega) (by omega)⟩)
        · intro i hi w1 w
          have := (G.2.1 i hi).1
          have e1 : ord i = e := (nI_eq (by omega) (by omega)).mp w
          rw [e1] at w1
          exact z w1
        · unfold wpY_rank
          dsimp only
          exact ry_ok hr (br_f rg_10 (ry_kn hn hr he (fun w => (z w).elim) (fun _ => br_t rfl ⟨rfl, J⟩)))
theorem i_vc_delete {k : Nat} {u : SX} {v : SY} (I : i_Rel k u v) (hk : k + 4 ≤ 2048) (v1 : Int32) (v2 : Int32) : wpX_delete (fun r u' => wpY_delete (fun r' v' => r' = r ∧ i_Rel (k + 4) u' v') v v1 v2) u v1 v2 := by
  obtain ⟨n, s, o, ord, pos, c, par, CH, ST, OR, ORD, K, D, CK, P, AB, YO, fo, rfl, rfl, R⟩ := I
  have hn := R.1
  have G := R.2.1
  unfold wpX_delete
  dsimp only
  rcases rg_rep v1 with h | ⟨r, hr, rfl⟩
  · refine rx_bad h (br_t rfl ?_)
    unfold wpY_delete
    dsimp only
    exact ry_bad h (br_t rfl ⟨rfl, rg_R_i R fo YO⟩)
  · refine rx_ok hr (br_f rg_10 (rx_textElement hn hr (rg_R_o R) ?_))
    unfold wpY_delete
    dsimp only
    cases h : rg_at K D ord r n v2 with
    | none =>
      refine br_t rfl (ry_ok hr (br_f rg_10 (ry_elementAt hn G (rg_R_P R) (rg_R_S R) hr (fun fo' YO' => ?_))))
      rw [h]
      exact br_f (show ¬ (0 : Int32) ≤ -5 by decide) ⟨rfl, rg_R_i R fo' YO'⟩
    | some i =>
      have hi := (rg_at_lt h).1
      have hoi := (G.2.1 i hi).1
      refine br_f (rg_ne5 (n := ord i) (by omega)) (rx_cell (e := ord i) ⟨vp_in_nI (by omega) (by omega), nm_r (e' := upd D (r * 40 + ord i) 1) (by rw [nI_clamp (by omega), rg_nb1]) ?_⟩)
      refine ry_ok hr (br_f rg_10 (ry_elementAt hn G (rg_R_P R) (rg_R_S R) hr (fun fo' YO' => ?_)))
      rw [h]
      show (0 ≤ nI (ord i) → (vp_in (nI r * 40 + nI (ord i)) 120 ∧ ∀ y, y = upd D (nI r * 40 + nI (ord i)).toNatClampNeg (vp_nar .boolean 1) → _)) ∧ _
      rw [rg_cell, nI_clamp (n := r * 40 + ord i) (by omega), rg_nb1]
      exact br_t (nI_pos' (by omega)) ⟨vp_in_nI (by omega) (by omega), nm_e ⟨rfl, rg_R_i (rg_R_uD R (r * 40 + ord i)) fo' YO'⟩⟩
