-- The relation, and the calls that change nothing, and copy
def rq_R (A : Nat → Nat → Fin 101) (te od ye : Nat → Int32) : Prop := ∀ s, s < 4 → (∃ L, L ≤ 8 ∧ rq_O (A s) L ∧ od s = nI L) ∧ (∀ n, n < 401 → te (s * 401 + n) = rq_i (A s n)) ∧ (∀ n, n < 32 → ye (s * 32 + n) = rq_i (A s n))
/-- both states show the same four sequences, each of order 8 at most -/
def i_Rel (k : Nat) (u : SX) (v : SY) : Prop := ∃ A : Nat → Nat → Fin 101, rq_R A u.1 u.2.1 v.1
theorem i_up {k : Nat} {u : SX} {v : SY} (h : i_Rel k u v) : i_Rel (k + 5) u v := h
theorem rq_O0 : rq_O (fun _ => 0) 0 := ⟨⟨_, rq_G0⟩, fun _ _ _ => Nat.zero_le _⟩
theorem i_vc0 : wpX_init (fun u => wpY_init (fun v => i_Rel 0 u v)) :=
  ⟨fun _ _ => 0, fun _ _ => ⟨⟨0, Nat.zero_le _, rq_O0, nI_0.symm⟩, fun _ _ => rq_i_0.symm, fun _ _ => rq_i_0.symm⟩⟩
theorem rq_put {A : Nat → Nat → Fin 101} {te od ye : Nat → Int32} {B : Nat → Fin 101} {s L : Nat} (h : rq_R A te od ye) (hO : rq_O B L) (hL : L ≤ 8) : rq_R (fun t => if t = s then B else A t) (rq_w te (s * 401) (s * 401 + 401) (fun j => rq_i (B (j - s * 401)))) (upd od s (nI L)) (rq_w ye (s * 32) (s * 32 + 32) (fun j => rq_i (B (j - s * 32)))) := by
  intro t ht
  obtain ⟨⟨L2, h1, h2, h3⟩, h4, h5⟩ := h t ht
  by_cases e : t = s
  · subst e
    refine ⟨⟨L, hL, ?_, pk_us⟩, fun n hn => ?_, fun n hn => ?_⟩
    · dsimp only
      rw [if_pos rfl]; exact hO
    · dsimp only
      rw [rq_w_in (by omega) (by omega), if_pos rfl, Nat.add_sub_cancel_left]
    · dsimp only
      rw [rq_w_in (by omega) (by omega), if_pos rfl, Nat.add_sub_cancel_left]
  · refine ⟨⟨L2, h1, ?_, (pk_un e).trans h3⟩, fun n hn => ?_, fun n hn => ?_⟩
    · dsimp only
      rw [if_neg e]; exact h2
    · dsimp only
      rw [rq_w_out (by omega), if_neg e]; exact h4 n hn
    · dsimp only
      rw [rq_w_out (by omega), if_neg e]; exact h5 n hn
/-- what a changing call of the component owes its post, and one of the reference -/
def rq_XF (post : Int32 → SX → Prop) (te od : Nat → Int32) (B : Nat → Fin 101) (s : Nat) : Prop := (∀ L, rq_O B L → 8 < L → ∀ pr fa ol sv : Nat → Int32, post (-3) (te, od, pr, fa, ol, sv)) ∧ (∀ L, rq_O B L → L ≤ 8 → ∀ pr fa ol sv : Nat → Int32, post (nI L) (rq_w te (s * 401) (s * 401 + 401) (fun j => rq_i (B (j - s * 401))), upd od s (nI L), pr, fa, ol, sv))
def rq_YF (post : Int32 → SY → Prop) (ye : Nat → Int32) (B : Nat → Fin 101) (s L : Nat) : Prop := (L ≤ 8 → ∀ wk tb yf : Nat → Int32, post (nI L) (rq_w ye (s * 32) (s * 32 + 32) (fun j => rq_i (B (j - s * 32))), wk, tb, yf)) ∧ (8 < L → ∀ wk tb yf : Nat → Int32, post (-3) (ye, wk, tb, yf))
theorem rq_join {k : Nat} {A : Nat → Nat → Fin 101} {te od ye : Nat → Int32} {B c' : Nat → Fin 101} {s L' : Nat} (hA : rq_R A te od ye) (hG : rq_G B c' L') (hL' : L' ≤ 16) (PX : (Int32 → SX → Prop) → Prop) (PY : (Int32 → SY → Prop) → Prop) (hX : ∀ post, rq_XF post te od B s → PX post) (hY : ∀ post L, rq_O B L → L ≤ 16 → rq_YF post ye B s L → PY post) : PX (fun r u' => PY (fun r' v' => r' = r ∧ i_Rel (k + 5) u' v')) := by
  refine hX _ ⟨fun L hO hL pr fa ol sv => ?_, fun L hO hL pr fa ol sv => ?_⟩
  · exact hY _ L hO (Nat.le_trans (hO.2 _ _ hG) hL') ⟨fun h => absurd h (by omega), fun _ wk tb yf => ⟨rfl, A, hA⟩⟩
  · exact hY _ L hO (by omega) ⟨fun _ wk tb yf => ⟨rfl, _, rq_put hA hO hL⟩, fun h => absurd h (by omega)⟩
theorem i_vc_term {k : Nat} {u : SX} {v : SY} (I : i_Rel k u v) (hk : k + 5 ≤ 2560) (v1 : Int32) (v2 : Int32) : wpX_term (fun r => wpY_term (fun r' v' => r' = r ∧ i_Rel (k + 5) u v') v v1 v2) u v1 v2 := by
  obtain ⟨te, od, pr, fa, ol, sv⟩ := u
  obtain ⟨ye, wk, tb, yf⟩ := v
  obtain ⟨A, hA⟩ := I
  replace hA : rq_R A te od ye := hA
  unfold wpX_term wpY_term
  dsimp only
  rcases rq_seq v1 with ⟨bx, bad⟩ | ⟨s, hs, rfl, gx, gy⟩
  · exact bx _ (br_t rfl (bad _ _ (br_f (by decide) ⟨rfl, A, hA⟩)))
  · refine gx _ (br_f (by decide) ?_)
    rcases rq_idx v2 with ⟨bx, bad⟩ | ⟨n, hn, rfl, hx, hy⟩
    · exact bx _ (br_t rfl (gy _ _ (br_t rfl (bad _ _ (br_f (by decide) ⟨rfl, A, hA⟩)))))
    · obtain ⟨⟨L, hL, hO, ho⟩, h1, h2⟩ := hA s hs
      refine hx _ (br_f (by decide) ⟨pk_in (s * 401 + n) 1604 (by omega) (rq_ix s 401 n), ?_⟩)
      refine gy _ _ (br_t rfl (hy _ _ (br_t rfl (ry_load hs h2 (fun wk hw => ry_ext hL (by omega) hO hw (fun wk tb fa hh => ⟨vp_in_nI (by omega) (by omega), ?_, A, hA⟩))))))
      exact (rq_rd n rfl (by omega) (hh n (Or.inr (Nat.le_refl n)))).trans (rq_rd (s * 401 + n) (rq_ix s 401 n) (by omega) (h1 n hn)).symm
theorem i_vc_order {k : Nat} {u : SX} {v : SY} (I : i_Rel k u v) (hk : k + 5 ≤ 2560) (v1 : Int32) : wpX_order (fun r => wpY_order (fun r' v' => r' = r ∧ i_Rel (k + 5) u v') v v1) u v1 := by
  obtain ⟨te, od, pr, fa, ol, sv⟩ := u
  obtain ⟨ye, wk, tb, yf⟩ := v
  obtain ⟨A, hA⟩ := I
  replace hA : rq_R A te od ye := hA
  unfold wpX_order wpY_order
  dsimp only
  rcases rq_seq v1 with ⟨bx, bad⟩ | ⟨s, hs, rfl, gx, gy⟩
  · exact bx _ (br_t rfl (bad _ _ (br_f (by decide) ⟨rfl, A, hA⟩)))
  · obtain ⟨⟨L, hL, hO, ho⟩, h1, h2⟩ := hA s hs
    refine gx _ (br_f (by decide) ⟨vp_in_nI hs (by omega), ?_⟩)
    refine gy _ _ (br_t rfl (ry_load hs h2 (fun wk hw => ry_rank hO (by omega) hw (fun tb T hT => ⟨?_, A, hA⟩))))
    exact (rq_rd s rfl (by omega) ho).symm
theorem rx_eq18 {post : Int32 → Prop} {te od pr fa ol sv : Nat → Int32} {a b : Nat → Fin 101} {s t : Nat} (hs : s < 4) (ht : t < 4) (ha : ∀ n, n < 401 → te (s * 401 + n) = rq_i (a n)) (hb : ∀ n, n < 401 → te (t * 401 + n) = rq_i (b n)) (h1 : (∀ n, n < 401 → a n = b n) → post 1) (h0 : ∀ n, n < 401 → a n ≠ b n → post 0) : ∀ d i : Nat, i + d = 401 → (∀ j, j < i → a j = b j) → wX_equal_18 post (nI s) (nI t) te od pr fa ol sv (d + 1) (nI i) := by
  intro d
  induction d with
  | zero =>
    intro i hi hj
    obtain rfl : i = 401 := by omega
    exact br_t (nI_le (a := 401) (by omega) (by omega)) (h1 hj)
  | succ d ih =>
    intro i hi hj
    have xa : nI s * 401 + nI i = nI (s * 401 + i) := rq_ix s 401 i
    have xb : nI t * 401 + nI i = nI (t * 401 + i) := rq_ix t 401 i
    have ea := rq_rd (a := te) (s * 401 + i) xa (by omega) (ha i (by omega))
    have eb := rq_rd (a := te) (t * 401 + i) xb (by omega) (hb i (by omega))
    refine br_f (nI_ge (b := 401) (by omega) (by decide)) ⟨pk_in (s * 401 + i) 1604 (by omega) xa, pk_in (t * 401 + i) 1604 (by omega) xb, ?_⟩
    by_cases e : a i = b i
    · refine br_t (by rw [ea, eb, e]) (nm_r (nI_1 i) (ih (i + 1) (by omega) (fun j h2 => ?_)))
      by_cases e2 : j = i
      · rw [e2]; exact e
      · exact hj j (by omega)
    · exact br_f (fun z => e (rq_i_inj (ea.symm.trans (z.trans eb)))) (h0 i (by omega) e)
theorem ry_eq20 {post : Int32 → Prop} {ye wk tb yf : Nat → Int32} {a b : Nat → Fin 101} {s t : Nat} (hs : s < 4) (ht : t < 4) (ha : ∀ n, n < 32 → ye (s * 32 + n) = rq_i (a n)) (hb : ∀ n, n < 32 → ye (t * 32 + n) = rq_i (b n)) (h1 : (∀ n, n < 32 → a n = b n) → post 1) (h0 : ∀ n, n < 32 → a n ≠ b n → post 0) : ∀ d i : Nat, i + d = 32 → (∀ j, j < i → a j = b j) → wY_equal_20 post (nI s) (nI t) ye wk tb yf (d + 1) (nI i) := by
  intro d
  induction d with
  | zero =>
    intro i hi hj
    obtain rfl : i = 32 := by omega
    exact br_t (nI_le (a := 32) (by omega) (by omega)) (h1 hj)
  | succ d ih =>
    intro i hi hj
    have xa : nI s * 32 + nI i = nI (s * 32 + i) := rq_ix s 32 i
    have xb : nI t * 32 + nI i = nI (t * 32 + i) := rq_ix t 32 i
    have ea := rq_rd (a := ye) (s * 32 + i) xa (by omega) (ha i (by omega))
    have eb := rq_rd (a := ye) (t * 32 + i) xb (by omega) (hb i (by omega))
    refine br_f (nI_ge (b := 32) (by omega) (by decide)) ⟨pk_in (s * 32 + i) 128 (by omega) xa, pk_in (t * 32 + i) 128 (by omega) xb, ?_⟩
    by_cases e : a i = b i
    · refine br_t (by rw [ea, eb, e]) (nm_r (nI_1 i) (ih (i + 1) (by omega) (fun j h2 => ?_)))
      by_cases e2 : j = i
      · rw [e2]; exact e
      · exact hj j (by omega)
    · exact br_f (fun z => e (rq_i_inj (ea.symm.trans (z.trans eb)))) (h0 i (by omega) e)
theorem i_vc_equal {k : Nat} {u : SX} {v : SY} (I : i_Rel k u v) (hk : k + 5 ≤ 2560) (v1 : Int32) (v2 : Int32) : wpX_equal (fun r => wpY_equal (fun r' => r' = r ∧ i_Rel (k + 5) u v) v v1 v2) u v1 v2 := by
  obtain ⟨te, od, pr, fa, ol, sv⟩ := u
  obtain ⟨ye, wk, tb, yf⟩ := v
  obtain ⟨A, hA⟩ := I
  replace hA : rq_R A te od ye := hA
  unfold wpX_equal wpY_equal
  dsimp only
  rcases rq_seq v1 with ⟨bx, bad⟩ | ⟨s, hs, rfl, gx, gy⟩
  · exact bx _ (br_t rfl (bad _ _ (br_f (by decide) ⟨rfl, A, hA⟩)))
  · refine gx _ (br_f (by decide) ?_)
    rcases rq_seq v2 with ⟨bx, bad⟩ | ⟨t, ht, rfl, hx, hy⟩
    · exact bx _ (br_t rfl (gy _ _ (br_t rfl (bad _ _ (br_f (by decide) ⟨rfl, A, hA⟩)))))
    · obtain ⟨⟨L, hL, hO, ho⟩, h1, h2⟩ := hA s hs
      obtain ⟨⟨K, hK, hO', ho'⟩, h1', h2'⟩ := hA t ht
      obtain ⟨c, hG⟩ := hO.1
      obtain ⟨c', hG'⟩ := hO'.1
      refine hx _ (br_f (by decide) ⟨402, rx_eq18 hs ht h1 h1' (fun he => ?_) (fun n hn hne => ?_) 401 0 rfl (fun j hj => absurd hj (Nat.not_lt_zero j))⟩)
      · refine gy _ _ (br_t rfl (hy _ _ (br_t rfl ⟨33, ry_eq20 hs ht h2 h2' (fun _ => ⟨rfl, A, hA⟩) (fun n hn hne => absurd (he n (by omega)) hne) 32 0 rfl (fun j hj => absurd hj (Nat.not_lt_zero j))⟩)))
      · refine gy _ _ (br_t rfl (hy _ _ (br_t rfl ⟨33, ry_eq20 hs ht h2 h2' (fun he => ?_) (fun n hn hne => ⟨rfl, A, hA⟩) 32 0 rfl (fun j hj => absurd hj (Nat.not_lt_zero j))⟩)))
        exact absurd (congrFun (rq_same hG hG' (fun i hi => he i (by omega))) n) hne
theorem rx_sum37 {post : Int32 → Prop} {te od pr fa ol sv : Nat → Int32} {a : Nat → Fin 101} {s p q : Nat} (hs : s < 4) (hq : q < 401) (ha : ∀ n, n < 401 → te (s * 401 + n) = rq_i (a n)) (h : post (rq_i (rq_sm (fun j => a (p + j)) (q + 1 - p)))) : ∀ (d m : Nat) (x4 : Int32), p + m + d = q + 1 → rq_n x4 (rq_sm (fun j => a (p + j)) m) (100 * m) → wX_sum_37 post (nI s) (nI q) te od pr fa ol sv (d + 1) x4 (nI (p + m)) := by
  intro d
  induction d with
  | zero =>
    intro m x4 hm hx
    refine br_t (nI_lt (by omega) (by omega)) (rq_redB (post := fun r => post r) (rq_n_b hx) ?_)
    rw [show m = q + 1 - p by omega]; exact h
  | succ d ih =>
    intro m x4 hm hx
    have xa : nI s * 401 + nI (p + m) = nI (s * 401 + (p + m)) := rq_ix s 401 (p + m)
    have ea := rq_rd (a := te) (s * 401 + (p + m)) xa (by omega) (ha (p + m) (by omega))
    refine br_f (nI_nlt (by omega) (by omega)) ⟨pk_in (s * 401 + (p + m)) 1604 (by omega) xa, fun y ey => nm_r (nI_1 (p + m)) (ih (m + 1) y (by omega) ?_)⟩
    rw [ey, ea]
    exact rq_n_le (rq_n_add hx (rq_n_i _) (by omega)) (by omega)
theorem ry_sum50 {post : Int32 → SY → Prop} {ye wk tb yf : Nat → Int32} {a : Nat → Fin 101} {p q : Nat} (hq : q < 401) (ha : ∀ n, n < 32 ∨ n ≤ q → wk n = rq_i (a n)) (h : post (rq_i (rq_sm (fun j => a (p + j)) (q + 1 - p))) (ye, wk, tb, yf)) : ∀ (d m : Nat), p + m + d = q + 1 → wY_sum_50 post (nI q) ye wk tb yf (d + 1) (rq_i (rq_sm (fun j => a (p + j)) m)) (nI (p + m)) := by
  intro d
  induction d with
  | zero =>
    intro m hm
    refine br_t (nI_lt (by omega) (by omega)) ?_
    rw [show m = q + 1 - p by omega]; exact h
  | succ d ih =>
    intro m hm
    have ea := rq_rd (a := wk) (p + m) rfl (by omega) (ha (p + m) (by omega))
    refine br_f (nI_nlt (by omega) (by omega)) ⟨vp_in_nI (by omega) (by omega), rq_ne, nm_r (e' := rq_i (rq_sm (fun j => a (p + j)) (m + 1))) ?_ (nm_r (nI_1 (p + m)) (ih (m + 1) (by omega)))⟩
    rw [ea]
    exact rq_rem (rq_n_add (rq_n_i _) (rq_n_i _) (by decide))
theorem i_vc_sum {k : Nat} {u : SX} {v : SY} (I : i_Rel k u v) (hk : k + 5 ≤ 2560) (v1 : Int32) (v2 : Int32) (v3 : Int32) : wpX_sum (fun r => wpY_sum (fun r' v' => r' = r ∧ i_Rel (k + 5) u v') v v1 v2 v3) u v1 v2 v3 := by
  obtain ⟨te, od, pr, fa, ol, sv⟩ := u
  obtain ⟨ye, wk, tb, yf⟩ := v
  obtain ⟨A, hA⟩ := I
  replace hA : rq_R A te od ye := hA
  unfold wpX_sum wpY_sum
  dsimp only
  rcases rq_seq v1 with ⟨bx, bad⟩ | ⟨s, hs, rfl, gx, gy⟩
  · exact bx _ (br_t rfl (bad _ _ (br_f (by decide) ⟨rfl, A, hA⟩)))
  · refine gx _ (br_f (by decide) ?_)
    rcases rq_idx v2 with ⟨bx, bad⟩ | ⟨p, hp, rfl, hx, hy⟩
    · exact bx _ (br_t rfl (gy _ _ (br_t rfl (bad _ _ (br_f (by decide) ⟨rfl, A, hA⟩)))))
    · refine hx _ (br_f (by decide) ?_)
      rcases rq_idx v3 with ⟨bx, bad⟩ | ⟨q, hq, rfl, ix, iy⟩
      · exact bx _ (br_t rfl (gy _ _ (br_t rfl (hy _ _ (br_t rfl (bad _ _ (br_f (by decide) ⟨rfl, A, hA⟩)))))))
      · obtain ⟨⟨L, hL, hO, ho⟩, h1, h2⟩ := hA s hs
        refine ix _ (br_f (by decide) (pk_le p q (fun hpq => ?_) (fun hpq => ?_)))
        · refine ⟨q + 1 - p + 1, rx_sum37 hs hq h1 ?_ (q + 1 - p) 0 0 (by omega) (rq_n_0 _)⟩
          refine gy _ _ (br_t rfl (hy _ _ (br_t rfl (iy _ _ (br_t rfl (br_t (nI_le hpq (by omega)) (ry_load hs h2 (fun wk2 hw => ry_ext hL (by omega) hO hw (fun wk3 tb3 yf3 hh => ⟨q + 1 - p + 1, ?_⟩)))))))))
          exact ry_sum50 (post := fun r' v' => r' = rq_i (rq_sm (fun j => A s (p + j)) (q + 1 - p)) ∧ i_Rel (k + 5) (te, od, pr, fa, ol, sv) v') hq hh ⟨rfl, A, hA⟩ (q + 1 - p) 0 (by omega)
        · exact gy _ _ (br_t rfl (hy _ _ (br_t rfl (iy _ _ (br_t rfl (br_f (nI_ge hpq (by omega)) ⟨rfl, A, hA⟩))))))
