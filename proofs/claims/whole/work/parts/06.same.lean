section RGA6
variable {CH ST OR ORD K D CK P AB YO : Nat → Int32} {fo : Int32} {n : Nat} {s o ord pos c : Nat → Nat} {par : Nat → Option Nat}
/-- a text's character at a place -/
def rg_tc (CH K D : Nat → Int32) (ord : Nat → Nat) (n r p : Nat) : Int32 := rg_ch CH ((rg_at K D ord r n (nI p)).map ord)
theorem rg_tc_in (R : rg_R n s o ord pos c par CH ST OR ORD K D CK P AB) {r p : Nat} (hp : p < rg_C (rg_h K D r) n) : ∃ m : Nat, m < 256 ∧ rg_tc CH K D ord n r p = nI m := by
  obtain ⟨hn, G, h1, h2, h3, h4, h5, h6, h7, h8⟩ := R
  have ec : rg_C (rg_h K D r) n = rg_C (fun i => rg_h K D r (ord i)) n := G.2.2.2.2.2.2 (rg_h K D r)
  have hle := rg_C_le (rg_h K D r) n
  rw [ec] at hp
  have hi := (rg_fd_iff (f := fun i => rg_h K D r (ord i)) (p := p) (by omega) n 0 0 (by omega) (by omega) rfl).mpr (by rw [Nat.zero_add]; exact hp)
  obtain ⟨j, hj⟩ := hi
  have hj' : rg_at K D ord r n (nI p) = some j := hj
  obtain ⟨m, hm, e⟩ := h8 (ord j) (G.2.1 j (rg_at_lt hj').1).1
  refine ⟨m, hm, ?_⟩
  unfold rg_tc
  rw [hj']
  exact e
theorem rg_tc_out (R : rg_R n s o ord pos c par CH ST OR ORD K D CK P AB) {r p : Nat} (hpn : p < n) (hp : ¬ p < rg_C (rg_h K D r) n) : rg_tc CH K D ord n r p = -5 := by
  obtain ⟨hn, G, h1, h2, h3, h4, h5, h6, h7, h8⟩ := R
  have ec : rg_C (rg_h K D r) n = rg_C (fun i => rg_h K D r (ord i)) n := G.2.2.2.2.2.2 (rg_h K D r)
  rw [ec] at hp
  unfold rg_tc
  cases h : rg_at K D ord r n (nI p) with
  | none => rfl
  | some j =>
    exfalso
    apply hp
    have := (rg_fd_iff (f := fun i => rg_h K D r (ord i)) (p := p) (by omega) n 0 0 (by omega) (by omega) rfl).mp ⟨j, h⟩
    rw [Nat.zero_add] at this
    exact this
theorem rx_st1 {post : Int32 → Prop} (R : rg_R n s o ord pos c par CH ST OR ORD K D CK P AB) {a b : Nat} (ha : a < 3) (hb : b < 3) (hx : ∀ p, p < n → rg_tc CH K D ord n a p = rg_tc CH K D ord n b p) (hp : post 1) : ∀ m d p : Nat, p + d = n → d < m →
    wX_sameText_20 post (nI a) (nI b) (nI n) CH ST OR ORD K D CK m (nI p) := by
  have hn := R.1
  intro m
  induction m with
  | zero => intro d p _ h; omega
  | succ m ih =>
    intro d p hd hm
    refine rg_le n p (fun z => hp) (fun z => ?_)
    refine rx_textCharacter hn ha (rg_R_o R) (rx_textCharacter hn hb (rg_R_o R) ?_)
    exact br_t (hx p z) (nm_r (nI_1 _) (ih (d - 1) (p + 1) (by omega) (by omega)))
theorem rx_st0 {post : Int32 → Prop} (R : rg_R n s o ord pos c par CH ST OR ORD K D CK P AB) {a b q : Nat} (ha : a < 3) (hb : b < 3) (hq : q < n) (hx : ¬ rg_tc CH K D ord n a q = rg_tc CH K D ord n b q) (hp : post 0) : ∀ m d p : Nat, p + d = q → d < m →
    wX_sameText_20 post (nI a) (nI b) (nI n) CH ST OR ORD K D CK m (nI p) := by
  have hn := R.1
  intro m
  induction m with
  | zero => intro d p _ h; omega
  | succ m ih =>
    intro d p hd hm
    refine rg_le n p (fun z => ?_) (fun z => ?_)
    · omega
    · refine rx_textCharacter hn ha (rg_R_o R) (rx_textCharacter hn hb (rg_R_o R) ?_)
      refine br_c (fun w => ?_) (fun _ => hp)
      have hne : p ≠ q := fun w2 => hx (by rw [← w2]; exact w)
      exact nm_r (nI_1 _) (ih (d - 1) (p + 1) (by omega) (by omega))
theorem ry_st1 {post : Int32 → SY → Prop} (R : rg_R n s o ord pos c par CH ST OR ORD K D CK P AB) {a b : Nat} (ha : a < 3) (hb : b < 3) (hx : ∀ p, p < rg_C (rg_h K D a) n → rg_tc CH K D ord n a p = rg_tc CH K D ord n b p) (hp : ∀ (fo' : Int32) (YO' : Nat → Int32), post 1 (nI n, fo', CH, ST, OR, P, AB, K, D, CK, YO')) : ∀ (m d p : Nat) (fo : Int32) (YO : Nat → Int32), p + d = rg_C (rg_h K D a) n → d < m →
    wY_sameText_33 post (nI a) (nI b) m (nI p) (nI n) fo CH ST OR P AB K D CK YO := by
  have hn := R.1
  have hle := rg_C_le (rg_h K D a) n
  intro m
  induction m with
  | zero => intro d p fo YO _ h; omega
  | succ m ih =>
    intro d p fo YO hd hm
    rw [wY_sameText_33]
    refine ry_length hn ha (rg_le (rg_C (rg_h K D a) n) p (fun z => hp _ _) (fun z => ?_))
    refine ry_charAt hn R.2.1 (rg_R_P R) (rg_R_S R) ha (fun fo1 YO1 => ry_charAt hn R.2.1 (rg_R_P R) (rg_R_S R) hb (fun fo2 YO2 => ?_))
    exact br_t (hx p z) (nm_r (nI_1 _) (ih (d - 1) (p + 1) fo2 YO2 (by omega) (by omega)))
theorem ry_st0 {post : Int32 → SY → Prop} (R : rg_R n s o ord pos c par CH ST OR ORD K D CK P AB) {a b q : Nat} (ha : a < 3) (hb : b < 3) (hq : q < rg_C (rg_h K D a) n) (hx : ¬ rg_tc CH K D ord n a q = rg_tc CH K D ord n b q) (hp : ∀ (fo' : Int32) (YO' : Nat → Int32), post 0 (nI n, fo', CH, ST, OR, P, AB, K, D, CK, YO')) : ∀ (m d p : Nat) (fo : Int32) (YO : Nat → Int32), p + d = q → d < m →
    wY_sameText_33 post (nI a) (nI b) m (nI p) (nI n) fo CH ST OR P AB K D CK YO := by
  have hn := R.1
  have hle := rg_C_le (rg_h K D a) n
  intro m
  induction m with
  | zero => intro d p fo YO _ h; omega
  | succ m ih =>
    intro d p fo YO hd hm
    rw [wY_sameText_33]
    refine ry_length hn ha (rg_le (rg_C (rg_h K D a) n) p (fun z => ?_) (fun z => ?_))
    · omega
    · refine ry_charAt hn R.2.1 (rg_R_P R) (rg_R_S R) ha (fun fo1 YO1 => ry_charAt hn R.2.1 (rg_R_P R) (rg_R_S R) hb (fun fo2 YO2 => ?_))
      refine br_c (fun w => ?_) (fun _ => hp _ _)
      have hne : p ≠ q := fun w2 => hx (by rw [← w2]; exact w)
      exact nm_r (nI_1 _) (ih (d - 1) (p + 1) fo2 YO2 (by omega) (by omega))
end RGA6
theorem rg_n5 {m : Nat} (h : m < 256) : ¬ nI m = -5 := rg_ne5 (by omega)
theorem i_vc_sameText {k : Nat} {u : SX} {v : SY} (I : i_Rel k u v) (hk : k + 4 ≤ 2048) (v1 : Int32) (v2 : Int32) : wpX_sameText (fun r => wpY_sameText (fun r' v' => r' = r ∧ i_Rel (k + 4) u v') v v1 v2) u v1 v2 := by
  obtain ⟨n, s, o, ord, pos, c, par, CH, ST, OR, ORD, K, D, CK, P, AB, YO, fo, rfl, rfl, R⟩ := I
  have hn := R.1
  unfold wpX_sameText
  dsimp only
  rcases rg_rep v1 with h | ⟨a, ha, rfl⟩
  · refine rx_bad h (br_t rfl ?_)
    unfold wpY_sameText
    dsimp only
    exact ry_bad h (br_t rfl ⟨rfl, rg_R_i R fo YO⟩)
  · refine rx_ok ha (br_f rg_10 ?_)
    rcases rg_rep v2 with h | ⟨b, hb, rfl⟩
    · refine rx_bad h (br_t rfl ?_)
      unfold wpY_sameText
      dsimp only
      exact ry_ok ha (br_f rg_10 (ry_bad h (br_t rfl ⟨rfl, rg_R_i R fo YO⟩)))
    · refine rx_ok hb (br_f rg_10 ?_)
      have la := rg_C_le (rg_h K D a) n
      have lb := rg_C_le (rg_h K D b) n
      by_cases H : ∀ p, p < n → rg_tc CH K D ord n a p = rg_tc CH K D ord n b p
      · refine ⟨n + 1, rx_st1 R ha hb H ?_ (n + 1) n 0 (by omega) (by omega)⟩
        have hl : rg_C (rg_h K D a) n = rg_C (rg_h K D b) n := by
          by_cases z1 : rg_C (rg_h K D a) n < rg_C (rg_h K D b) n
          · exfalso
            obtain ⟨m, hm, e⟩ := rg_tc_in R z1
            have e2 := rg_tc_out R (r := a) (p := rg_C (rg_h K D a) n) (by omega) (by omega)
            have e3 := H (rg_C (rg_h K D a) n) (by omega)
            rw [e, e2] at e3
            exact rg_n5 hm e3.symm
          · by_cases z2 : rg_C (rg_h K D b) n < rg_C (rg_h K D a) n
            · exfalso
              obtain ⟨m, hm, e⟩ := rg_tc_in R z2
              have e2 := rg_tc_out R (r := b) (p := rg_C (rg_h K D b) n) (by omega) (by omega)
              have e3 := H (rg_C (rg_h K D b) n) (by omega)
              rw [e, e2] at e3
              exact rg_n5 hm e3
            · omega
        unfold wpY_sameText
        dsimp only
        refine ry_ok ha (br_f rg_10 (ry_ok hb (br_f rg_10 (ry_length hn ha (ry_length hn hb (br_t (by rw [hl]) ?_))))))
        exact ⟨n + 1, ry_st1 R ha hb (fun p hp => H p (by omega)) (fun fo' YO' => ⟨rfl, rg_R_i R fo' YO'⟩) (n + 1) (rg_C (rg_h K D a) n) 0 fo YO (by omega) (by omega)⟩
      · obtain ⟨q, hq, hx⟩ : ∃ q, q < n ∧ ¬ rg_tc CH K D ord n a q = rg_tc CH K D ord n b q := by
          apply Classical.byContradiction
          intro w
          apply H
          intro p hp
          apply Classical.byContradiction
          intro w2
          exact w ⟨p, hp, w2⟩
        refine ⟨n + 1, rx_st0 R ha hb hq hx ?_ (n + 1) q 0 (by omega) (by omega)⟩
        unfold wpY_sameText
        dsimp only
        refine ry_ok ha (br_f rg_10 (ry_ok hb (br_f rg_10 (ry_length hn ha (ry_length hn hb (rg_eq (rg_C (rg_h K D a) n) (rg_C (rg_h K D b) n) (fun hl => ?_) (fun _ => ⟨rfl, rg_R_i R fo YO⟩)))))))
        have hqa : q < rg_C (rg_h K D a) n := by
          by_cases z : q < rg_C (rg_h K D a) n
          · exact z
          · exfalso
            apply hx
            rw [rg_tc_out R hq z, rg_tc_out R (r := b) hq (by omega)]
        exact ⟨n + 1, ry_st0 R ha hb hqa hx (fun fo' YO' => ⟨rfl, rg_R_i R fo' YO'⟩) (n + 1) q 0 fo YO (by omega) (by omega)⟩
