-- define
def rq_dg (c i : Nat) : Fin 101 := ⟨c / 101 ^ i % 101, Nat.mod_lt _ (by decide)⟩
def rq_us (x : Int32) : Nat := x.toBitVec.toNat % 2 ^ 31
theorem rq_us_lt (x : Int32) : rq_us x < 2 ^ 31 := Nat.mod_lt _ (by decide)
theorem rq_us_e (x : Int32) : x &&& 2147483647 = nI (rq_us x / 101 ^ 0) := by
  rw [Nat.pow_zero, Nat.div_one]
  exact pk_and x 31 (by decide)
theorem rq_dv_lt {c : Nat} (hc : c < 2 ^ 31) (i : Nat) : c / 101 ^ i < 2 ^ 31 := Nat.lt_of_le_of_lt (Nat.div_le_self _ _) hc
theorem rq_dgR {c : Nat} (hc : c < 2 ^ 31) (i : Nat) : nI (c / 101 ^ i) - nI (c / 101 ^ i) / 101 * 101 = rq_i (rq_dg c i) :=
  pk_rem (a := c / 101 ^ i) (d := 101) (rq_dv_lt hc i) (by decide) (by decide)
theorem rq_dgD {c : Nat} (hc : c < 2 ^ 31) (i : Nat) : nI (c / 101 ^ i) / 101 = nI (c / 101 ^ (i + 1)) := by
  have h := pk_div (a := c / 101 ^ i) (d := 101) (rq_dv_lt hc i) (by decide) (by decide)
  rw [Nat.div_div_eq_div_mul, ← Nat.pow_succ] at h
  exact h
/-- the recurrence that define is given -/
def rq_df2 (c : Nat) : Nat → Fin 101 := fun j => if j = 0 then 1 else - rq_dg c (j - 1)
theorem rq_df2s (c j : Nat) : rq_df2 c (j + 1) = - rq_dg c j := by
  unfold rq_df2
  rw [if_neg (by omega), Nat.add_sub_cancel]
def rq_B (k c b : Nat) : Nat → Fin 101 := rq_mk k (rq_df2 c) (rq_dg b)
theorem rq_BG (k c b : Nat) : rq_G (rq_B k c b) (rq_df2 c) k := rq_mkG rfl
theorem rq_Bsum {k c b n : Nat} (h : k ≤ n) : rq_sm (fun j => rq_dg c j * rq_B k c b (n - (j + 1))) k = rq_B k c b n := by
  have e : rq_B k c b n = - rq_sm (fun j => rq_df2 c (j + 1) * rq_B k c b (n - (j + 1))) k := rq_mkR h
  have e2 : rq_sm (fun j => rq_df2 c (j + 1) * rq_B k c b (n - (j + 1))) k = (-1) * rq_sm (fun j => rq_dg c j * rq_B k c b (n - (j + 1))) k := by
    rw [← rq_sm_mul]
    refine rq_sm_congr k (fun j _ => ?_)
    rw [rq_df2s]; grind
  rw [e, e2]
  generalize rq_sm (fun j => rq_dg c j * rq_B k c b (n - (j + 1))) k = x
  grind
section
variable {te od ol sv : Nat → Int32}
theorem rx_d97 {post : Int32 → SX → Prop} {fa : Nat → Int32} {s k c b : Nat} (hs : s < 4) (hk : k ≤ 4) (hf : ∀ j, j < k → fa (j + 1) = rq_i (rq_df2 c (j + 1))) (h : ∀ L, rq_O (rq_B k c b) L → L ≤ 8 → ∀ pr fa ol sv : Nat → Int32, post 0 (rq_w te (s * 401) (s * 401 + 401) (fun j => rq_i (rq_B k c b (j - s * 401))), upd od s (nI L), pr, fa, ol, sv)) : ∀ (d n : Nat) (pr : Nat → Int32), n + d = 32 → k ≤ n → (∀ j, j < n → pr j = rq_i (rq_B k c b j)) → wX_define_97 post (nI s) (nI k) (d + 1) (nI n) te od pr fa ol sv := by
  intro d
  induction d with
  | zero =>
    intro n pr hn hkn hj
    obtain rfl : n = 32 := by omega
    refine br_t (nI_le (a := 32) (by omega) (by omega)) (rx_take hs hj (rq_BG k c b) (by omega) (fun L hO hL fa ol sv => ?_) (fun L hO hL fa ol sv => h L hO hL pr fa ol sv))
    have := hO.2 _ _ (rq_BG k c b)
    omega
  | succ d ih =>
    intro n pr hn hkn hj
    have e : rq_B k c b n = - rq_sm (fun j => rq_df2 c (j + 1) * rq_B k c b (n - (j + 1))) k := rq_mkR hkn
    refine br_f (nI_ge (b := 32) (by omega) (by decide)) ?_
    refine rx_fp (c := rq_df2 c) (g := fun j => rq_B k c b (n - (j + 1))) hkn (by omega) hf (fun j hj2 => hj _ (by omega)) ⟨vp_in_nI (by omega) (by omega), nm_r (rq_up n rfl (by omega) rfl) (nm_r (nI_1 n) (ih (n + 1) _ (by omega) (by omega) (fun j hj2 => ?_)))⟩
    by_cases e2 : j = n
    · rw [e2, pk_us, e]
    · rw [pk_un e2]; exact hj j (by omega)
theorem rx_d38 {post : Int32 → SX → Prop} {s k c b : Nat} (hs : s < 4) (hk : k ≤ 4) (hc : c < 2 ^ 31) (hb : b < 2 ^ 31) (h : ∀ L, rq_O (rq_B k c b) L → L ≤ 8 → ∀ pr fa ol sv : Nat → Int32, post 0 (rq_w te (s * 401) (s * 401 + 401) (fun j => rq_i (rq_B k c b (j - s * 401))), upd od s (nI L), pr, fa, ol, sv)) : ∀ (d i : Nat) (pr fa : Nat → Int32), i + d = k → (∀ j, j < i → fa (j + 1) = rq_i (rq_df2 c (j + 1))) → (∀ j, j < i → pr j = rq_i (rq_B k c b j)) → wX_define_38 post (nI s) (nI k) (d + 1) (nI (c / 101 ^ i)) (nI (b / 101 ^ i)) (nI i) te od pr fa ol sv := by
  intro d
  induction d with
  | zero =>
    intro i pr fa hi hf hj
    obtain rfl : i = k := by omega
    exact br_t (nI_le (Nat.le_refl _) (by omega)) ⟨32 - i + 1, rx_d97 hs hk hf h (32 - i) i pr (by omega) (Nat.le_refl _) hj⟩
  | succ d ih =>
    intro i pr fa hi hf hj
    refine br_f (nI_ge (by omega) (by omega)) ⟨rq_ne, ?_⟩
    refine rq_redB (z := - rq_dg c i) (M := 100) (by rw [rq_dgR hc]; exact rq_b_neg (rq_b_i _) (by decide)) ?_
    refine ⟨pk_in (i + 1) 33 (by omega) (nI_1 i), nm_r (rq_up (i + 1) (nI_1 i) (by omega) rfl) ⟨rq_ne, vp_in_nI (by omega) (by omega), nm_r (rq_up i rfl (by omega) (rq_dgR hb i)) ⟨rq_ne, nm_r (rq_dgD hc i) ⟨rq_ne, nm_r (rq_dgD hb i) (nm_r (nI_1 i) (ih (i + 1) _ _ (by omega) (fun j hj2 => ?_) (fun j hj2 => ?_)))⟩⟩⟩⟩
    · by_cases e : j = i
      · rw [e, pk_us, rq_df2s]
      · rw [pk_un (by omega)]; exact hf j (by omega)
    · by_cases e : j = i
      · have e2 : rq_B k c b i = rq_dg b i := rq_mkB (by omega)
        rw [e, pk_us, e2]
      · rw [pk_un e]; exact hj j (by omega)
end
section
variable {ye wk tb yf : Nat → Int32}
theorem ry_dig8 {post : Int32 → Prop} {c p : Nat} (hc : c < 2 ^ 31) (hp : p ≤ 32) (h : post (rq_i (rq_dg c p))) : ∀ d i : Nat, i + d = p → wY_digit_8 post (nI p) ye wk tb yf (d + 1) (nI (c / 101 ^ i)) (nI i) := by
  intro d
  induction d with
  | zero =>
    intro i hi
    obtain rfl : i = p := by omega
    refine br_t (nI_le (Nat.le_refl _) (by omega)) ⟨rq_ne, ?_⟩
    rw [rq_dgR hc]; exact h
  | succ d ih =>
    intro i hi
    exact br_f (nI_ge (by omega) (by omega)) ⟨rq_ne, nm_r (rq_dgD hc i) (nm_r (nI_1 i) (ih (i + 1) (by omega)))⟩
theorem ry_dig {post : Int32 → Prop} {x y : Int32} (p : Nat) (hp : p ≤ 32) (hy : y = nI p) (h : post (rq_i (rq_dg (rq_us x) p))) : wpY_digit post (ye, wk, tb, yf) x y := by
  subst hy
  exact nm_r (rq_us_e x) ⟨p + 1, ry_dig8 (rq_us_lt x) hp h p 0 (Nat.zero_add p)⟩
theorem ry_d56a {post : Int32 → SY → Prop} {J : Int32 → (Nat → Int32) → (Nat → Int32) → (Nat → Int32) → (Nat → Int32) → Prop} {x1 x3 x4 : Int32} {k n : Nat} {z : Fin 101} (hk : k ≤ 4) (hn : n < k) (h : J (nI (n + 1)) ye (upd wk n (rq_i z)) tb yf) : ∀ d i : Nat, i + d = k + 1 → wY_define_56 post J x1 (nI k) x3 x4 (nI n) ye wk tb yf (d + 1) (rq_i z) (nI i) := by
  intro d
  induction d with
  | zero =>
    intro i hi
    exact br_t (nI_lt (by omega) (by omega)) ⟨rq_ne, vp_in_nI (by omega) (by omega), nm_r (rq_up n rfl (by omega) (rq_rem (rq_n_i z))) (nm_r (nI_1 n) h)⟩
  | succ d ih =>
    intro i hi
    exact br_f (nI_nlt (by omega) (by omega)) (br_t (nI_lt hn (by omega)) (nm_r (nI_1 i) (ih (i + 1) (by omega))))
theorem ry_d56b {post : Int32 → SY → Prop} {J : Int32 → (Nat → Int32) → (Nat → Int32) → (Nat → Int32) → (Nat → Int32) → Prop} {x1 x3 x4 : Int32} {k n : Nat} {B : Nat → Fin 101} (hk : k ≤ 4) (hkn : k ≤ n) (hn : n < 32) (hw : ∀ j, j < n → wk j = rq_i (B j)) (h : J (nI (n + 1)) ye (upd wk n (rq_i (rq_sm (fun j => rq_dg (rq_us x3) j * B (n - (j + 1))) k))) tb yf) : ∀ (d m : Nat) (x6 : Int32), m + d = k → rq_n x6 (rq_sm (fun j => rq_dg (rq_us x3) j * B (n - (j + 1))) m) (10000 * m) → wY_define_56 post J x1 (nI k) x3 x4 (nI n) ye wk tb yf (d + 1) x6 (nI (m + 1)) := by
  intro d
  induction d with
  | zero =>
    intro m x6 hm hx
    obtain rfl : m = k := by omega
    exact br_t (nI_lt (by omega) (by omega)) ⟨rq_ne, vp_in_nI (by omega) (by omega), nm_r (rq_up n rfl (by omega) (rq_rem hx)) (nm_r (nI_1 n) h)⟩
  | succ d ih =>
    intro m x6 hm hx
    have xa : nI n - nI (m + 1) = nI (n - (m + 1)) := pk_sub (by omega)
    refine br_f (nI_nlt (by omega) (by omega)) (br_f (nI_nlt hkn (by omega)) (ry_dig m (by omega) (nI_pred m) ⟨pk_in (n - (m + 1)) 402 (by omega) xa, fun y ey => nm_r (nI_1 (m + 1)) (ih (m + 1) y (by omega) ?_)⟩))
    rw [ey, rq_rd (a := wk) (n - (m + 1)) xa (by omega) (hw _ (by omega))]
    exact rq_n_le (rq_n_add hx (rq_n_mul (rq_n_i _) (rq_n_i _) (by decide)) (by omega)) (by omega)
theorem ry_d26 {post : Int32 → SY → Prop} {x3 x4 : Int32} {s k : Nat} (hs : s < 4) (hk : k ≤ 4) (h : ∀ wk : Nat → Int32, post 0 (rq_w ye (s * 32) (s * 32 + 32) (fun j => rq_i (rq_B k (rq_us x3) (rq_us x4) (j - s * 32))), wk, tb, yf)) : ∀ (d n : Nat) (wk : Nat → Int32), n + d = 32 → (∀ j, j < n → wk j = rq_i (rq_B k (rq_us x3) (rq_us x4) j)) → wY_define_26 post (nI s) (nI k) x3 x4 (d + 1) (nI n) ye wk tb yf := by
  intro d
  induction d with
  | zero =>
    intro n wk hn hw
    obtain rfl : n = 32 := by omega
    exact br_t (nI_le (a := 32) (by omega) (by omega)) (ry_store hs hw (h wk))
  | succ d ih =>
    intro n wk hn hw
    refine br_f (nI_ge (b := 32) (by omega) (by decide)) (pk_le k n (fun hkn => ?_) (fun hkn => ?_))
    · refine ⟨k + 1, ry_d56b (B := rq_B k (rq_us x3) (rq_us x4)) hk hkn (by omega) hw (ih (n + 1) _ (by omega) (fun j hj => ?_)) k 0 0 (Nat.zero_add k) (rq_n_0 _)⟩
      by_cases e : j = n
      · rw [e, pk_us, rq_Bsum hkn]
      · rw [pk_un e]; exact hw j (by omega)
    · refine ry_dig n (by omega) rfl ⟨k + 1, ry_d56a hk hkn (ih (n + 1) _ (by omega) (fun j hj => ?_)) k 1 (Nat.add_comm 1 k)⟩
      by_cases e : j = n
      · have e2 : rq_B k (rq_us x3) (rq_us x4) n = rq_dg (rq_us x4) n := rq_mkB (by omega)
        rw [e, pk_us, e2]
      · rw [pk_un e]; exact hw j (by omega)
end
theorem rq_ord (x : Int32) : x < 1 ∨ (¬ x < 1 ∧ ¬ x ≤ 4) ∨ ∃ k : Nat, 1 ≤ k ∧ k ≤ 4 ∧ x = nI k := by
  by_cases h : x < 1
  · exact Or.inl h
  · by_cases h2 : x ≤ 4
    · have h0 : ¬ x < 0 := by
        rw [Int32.lt_iff_toInt_lt] at h ⊢
        have e1 : (1 : Int32).toInt = 1 := by decide
        have e0 : (0 : Int32).toInt = 0 := by decide
        omega
      obtain ⟨j, hj, rfl⟩ := nI_of2 (M := 4) (n := 4) (by decide) h0 h2
      refine Or.inr (Or.inr ⟨j, Nat.le_of_not_lt (fun hlt => h ?_), hj, rfl⟩)
      exact nI_lt (b := 1) hlt (by decide)
    · exact Or.inr (Or.inl ⟨h, h2⟩)
theorem i_vc_define {k : Nat} {u : SX} {v : SY} (I : i_Rel k u v) (hk : k + 5 ≤ 2560) (v1 : Int32) (v2 : Int32) (v3 : Int32) (v4 : Int32) : wpX_define (fun r u' => wpY_define (fun r' v' => r' = r ∧ i_Rel (k + 5) u' v') v v1 v2 v3 v4) u v1 v2 v3 v4 := by
  obtain ⟨te, od, pr, fa, ol, sv⟩ := u
  obtain ⟨ye, wk, tb, yf⟩ := v
  obtain ⟨A, hA⟩ := I
  replace hA : rq_R A te od ye := hA
  unfold wpX_define wpY_define
  dsimp only
  rcases rq_seq v1 with ⟨bx, bad⟩ | ⟨s, hs, rfl, gx, gy⟩
  · exact bx _ (br_t rfl (bad _ _ (br_f (by decide) ⟨rfl, A, hA⟩)))
  rcases rq_ord v2 with h1 | ⟨h1, h2⟩ | ⟨n, hn1, hn4, rfl⟩
  · exact gx _ (br_f (by decide) (br_t h1 (gy _ _ (br_t rfl (br_t h1 ⟨rfl, A, hA⟩)))))
  · exact gx _ (br_f (by decide) (br_f h1 (br_f h2 (gy _ _ (br_t rfl (br_f h1 (br_f h2 ⟨rfl, A, hA⟩)))))))
  have h1 : ¬ nI n < 1 := nI_nlt (b := 1) hn1 (by omega)
  have h4 : nI n ≤ 4 := nI_le (b := 4) hn4 (by decide)
  refine gx _ (br_f (by decide) (br_f h1 (br_t h4 (nm_r (rq_us_e v3) (nm_r (rq_us_e v4) ⟨n + 1, rx_d38 hs hn4 (rq_us_lt v3) (rq_us_lt v4) (fun L hO hL pr2 fa2 ol2 sv2 => ?_) n 0 pr fa (Nat.zero_add n) (fun j hj => absurd hj (Nat.not_lt_zero j)) (fun j hj => absurd hj (Nat.not_lt_zero j))⟩)))))
  have key := rq_put (s := s) hA hO hL
  exact gy _ _ (br_t rfl (br_f h1 (br_t h4 ⟨33, ry_d26 hs hn4 (fun wk2 => ⟨rfl, _, key⟩) 32 0 wk rfl (fun j hj => absurd hj (Nat.not_lt_zero j))⟩)))
