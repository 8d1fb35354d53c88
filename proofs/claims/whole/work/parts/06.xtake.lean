-- The component's Berlekamp-Massey, and takeProbe
section
variable {te od pr : Nat → Int32}
theorem rq_d_front {a c : Nat → Fin 101} {L n : Nat} (h : c 0 = 1) : rq_d a c L n = a n - - rq_sm (fun j => c (j + 1) * a (n - (j + 1))) L := by
  unfold rq_d
  rw [rq_sm_front, h, Nat.sub_zero]; grind
theorem rx_sr13 {post : Int32 → SX → Prop} {a : Nat → Fin 101} (hp : ∀ j, j < 32 → pr j = rq_i (a j)) (hpost : ∀ (c b : Nat → Fin 101) (L s : Nat) (q : Fin 101) (fa ol sv : Nat → Int32), rq_bm a c b L s 32 q → (∀ j, j < 33 → fa j = rq_i (c j)) → post (nI L) (te, od, pr, fa, ol, sv)) : ∀ (d n : Nat) (c b : Nat → Fin 101) (L s : Nat) (q : Fin 101) (fa ol sv : Nat → Int32), n + d = 32 → rq_bm a c b L s n q → (∀ j, j < 33 → fa j = rq_i (c j)) → (∀ j, j < 33 → ol j = rq_i (b j)) → wX_shortestRecurrence_13 post (d + 1) (nI L) (nI s) (rq_i q) (nI n) te od pr fa ol sv := by
  intro d
  induction d with
  | zero =>
    intro n c b L s q fa ol sv hn hbm hf ho
    obtain rfl : n = 32 := by omega
    exact br_t (nI_le (a := 32) (by omega) (by omega)) (hpost c b L s q fa ol sv hbm hf)
  | succ d ih =>
    intro n c b L s q fa ol sv hn hbm hf ho
    have hLn : L ≤ n := hbm.2.1
    have hsn : s ≤ n + 1 := by
      rcases hbm.2.2.2.2.2.2 with ⟨h1, _⟩ | ⟨m, lb, h1, _⟩
      · omega
      · omega
    have e1 : pr (nI n).toNatClampNeg = rq_i (a n) := rq_rd n rfl (by omega) (hp n (by omega))
    refine br_f (nI_ge (b := 32) (by omega) (by decide)) ?_
    refine rx_fp (c := c) (g := fun j => a (n - (j + 1))) hLn (by omega) (fun j hj => hf _ (by omega)) (fun j hj => hp _ (by omega)) ⟨vp_in_nI (by omega) (by omega), ?_⟩
    refine rq_redB (z := rq_d a c L n) (M := 200) ?_ ?_
    · rw [e1, rq_d_front hbm.1.1]
      exact rq_b_sub (rq_b_i _) (rq_b_i _) (by decide)
    · by_cases hd : rq_d a c L n = 0
      · exact br_t (rq_i_eq0.mpr hd) (nm_r (nI_1 s) (nm_r (nI_1 n) (ih (n + 1) c b L (s + 1) q fa ol sv (by omega) (rq_bmZ hbm hd) hf ho)))
      · refine br_f (fun z => hd (rq_i_eq0.mp z)) ?_
        refine rx_inv ⟨rq_ne, nm_r (rq_rem (rq_n_mul (rq_n_i _) (rq_n_i _) (by decide))) ?_⟩
        have ht : rq_d a c L n * rq_pow q 99 * q = rq_d a c L n := by
          have := rq_inv q hbm.2.2.2.2.1
          grind
        refine rx_cfs (fun sv' hsv => ?_)
        refine rx_sub (c := c) (b := b) (by omega) ho hf (fun fa' hf' => ?_)
        refine pk_lt n (2 * L) (fun hlt => ?_) (fun hge => ?_) rfl (pk_mul 2 L)
        · exact nm_r (nI_1 s) (nm_r (nI_1 n) (ih (n + 1) _ b L (s + 1) q fa' ol sv' (by omega) (rq_bmB hbm hd ht (by omega)) hf' ho))
        · refine rx_cso (fun ol' hol => ?_)
          refine nm_r (e' := nI (n + 1 - L)) (by rw [nI_1, pk_sub (by omega)]) (nm_r (e' := nI 1) (by decide) (nm_r (nI_1 n) ?_))
          exact ih (n + 1) _ c (n + 1 - L) 1 (rq_d a c L n) fa' ol' sv' (by omega) (rq_bmA hbm hd ht hge) hf' (fun j hj => by rw [hol j hj, hsv j hj, hf j hj])
theorem rx_sr {post : Int32 → SX → Prop} {fa ol sv : Nat → Int32} {a : Nat → Fin 101} (hp : ∀ j, j < 32 → pr j = rq_i (a j)) (hpost : ∀ (c b : Nat → Fin 101) (L s : Nat) (q : Fin 101) (fa ol sv : Nat → Int32), rq_bm a c b L s 32 q → (∀ j, j < 33 → fa j = rq_i (c j)) → post (nI L) (te, od, pr, fa, ol, sv)) : wpX_shortestRecurrence post (te, od, pr, fa, ol, sv) := by
  refine rx_clear (fun fa' ol' h1 h2 h3 h4 => ⟨33, ?_⟩)
  have key := rx_sr13 (te := te) (od := od) hp hpost 32 0 (fun j => if j = 0 then 1 else 0) (fun j => if j = 0 then 1 else 0) 0 1 1 fa' ol' sv rfl (rq_bm0 a _ _ ⟨rfl, fun j hj => if_neg (by omega)⟩ ⟨rfl, fun j hj => if_neg (by omega)⟩) ?_ ?_
  · rw [rq_i_1] at key; exact key
  · intro j hj
    by_cases e : j = 0
    · rw [e, h1, if_pos rfl, rq_i_1]
    · rw [if_neg e, rq_i_0]; exact h3 j (by omega) hj
  · intro j hj
    by_cases e : j = 0
    · rw [e, h2, if_pos rfl, rq_i_1]
    · rw [if_neg e, rq_i_0]; exact h4 j (by omega) hj
theorem rx_t49 {post : Int32 → SX → Prop} {fa ol sv : Nat → Int32} {B c : Nat → Fin 101} {s L : Nat} (hs : s < 4) (hG : rq_G B c L) (hL : L ≤ 8) (hf : ∀ j, j < 33 → fa j = rq_i (c j)) : ∀ (d i : Nat) (te : Nat → Int32), i + d = 401 → 32 ≤ i → (∀ j, j < i → te (s * 401 + j) = rq_i (B j)) → post (nI L) (rq_w te (s * 401 + i) (s * 401 + 401) (fun j => rq_i (B (j - s * 401))), upd od s (nI L), pr, fa, ol, sv) → wX_takeProbe_49 post (nI s) (nI L) (d + 1) (nI i) te od pr fa ol sv := by
  intro d
  induction d with
  | zero =>
    intro i te hi h32 ht hp
    obtain rfl : i = 401 := by omega
    rw [rq_w_end] at hp
    exact br_t (nI_le (a := 401) (by omega) (by omega)) ⟨vp_in_nI hs (by omega), nm_r (rq_up s rfl (by omega) rfl) hp⟩
  | succ d ih =>
    intro i te hi h32 ht hp
    refine br_f (nI_ge (b := 401) (by omega) (by decide)) ?_
    have ex : nI s * 401 + nI i = nI (s * 401 + i) := rq_ix s 401 i
    rw [ex]
    have en := rq_next hG (n := i) (by omega)
    refine rx_ft (c := c) (g := fun j => B (i - (j + 1))) (by omega) (by omega) (by omega) (fun j hj => hf _ (by omega)) (fun j hj => ?_) ⟨vp_in_nI (by omega) (by omega), nm_r (rq_up (s * 401 + i) rfl (by omega) rfl) (nm_r (nI_1 i) (ih (i + 1) _ (by omega) (by omega) (fun j hj => ?_) ?_))⟩
    · rw [show s * 401 + i - (j + 1) = s * 401 + (i - (j + 1)) by omega]; exact ht _ (by omega)
    · by_cases e : j = i
      · rw [e, pk_us, en]
      · rw [pk_un (by omega)]; exact ht j (by omega)
    · rw [← Nat.add_assoc, rq_w_step (by omega) (by rw [← en, Nat.add_sub_cancel_left])]; exact hp
theorem rx_t16 {post : Int32 → SX → Prop} {fa ol sv : Nat → Int32} {B c : Nat → Fin 101} {s L : Nat} (hs : s < 4) (hG : rq_G B c L) (hL : L ≤ 8) (hf : ∀ j, j < 33 → fa j = rq_i (c j)) (hpr : ∀ j, j < 32 → pr j = rq_i (B j)) : ∀ (d i : Nat) (te : Nat → Int32), i + d = 32 → (∀ j, j < i → te (s * 401 + j) = rq_i (B j)) → post (nI L) (rq_w te (s * 401 + i) (s * 401 + 401) (fun j => rq_i (B (j - s * 401))), upd od s (nI L), pr, fa, ol, sv) → wX_takeProbe_16 post (nI s) (nI L) (d + 1) (nI i) te od pr fa ol sv := by
  intro d
  induction d with
  | zero =>
    intro i te hi ht hp
    obtain rfl : i = 32 := by omega
    exact br_t (nI_le (a := 32) (by omega) (by omega)) ⟨370, rx_t49 hs hG hL hf 369 32 te rfl (by omega) ht hp⟩
  | succ d ih =>
    intro i te hi ht hp
    have ex : nI s * 401 + nI i = nI (s * 401 + i) := rq_ix s 401 i
    refine br_f (nI_ge (b := 32) (by omega) (by decide)) ⟨vp_in_nI (by omega) (by omega), pk_in (s * 401 + i) 1604 (by omega) ex, nm_r (rq_up (s * 401 + i) ex (by omega) (rq_rd i rfl (by omega) (hpr i (by omega)))) (nm_r (nI_1 i) (ih (i + 1) _ (by omega) (fun j hj => ?_) ?_))⟩
    · by_cases e : j = i
      · rw [e, pk_us]
      · rw [pk_un (by omega)]; exact ht j (by omega)
    · rw [← Nat.add_assoc, rq_w_step (by omega) (by rw [Nat.add_sub_cancel_left])]; exact hp
theorem rx_take {post : Int32 → SX → Prop} {fa ol sv : Nat → Int32} {B c' : Nat → Fin 101} {s L' : Nat} (hs : s < 4) (hpr : ∀ j, j < 32 → pr j = rq_i (B j)) (hG : rq_G B c' L') (hL' : L' ≤ 16)
    (hF : ∀ L, rq_O B L → 8 < L → ∀ fa ol sv : Nat → Int32, post (-3) (te, od, pr, fa, ol, sv))
    (hS : ∀ L, rq_O B L → L ≤ 8 → ∀ fa ol sv : Nat → Int32, post (nI L) (rq_w te (s * 401) (s * 401 + 401) (fun j => rq_i (B (j - s * 401))), upd od s (nI L), pr, fa, ol, sv)) : wpX_takeProbe post (te, od, pr, fa, ol, sv) (nI s) := by
  refine rx_sr hpr (fun c b L sh q fa ol sv hbm hf => ?_)
  obtain ⟨h1, h2⟩ := rq_end hbm hG hL'
  have h3 : L ≤ 32 := hbm.2.1
  refine pk_le L 8 (fun h8 => ?_) (fun h8 => ?_)
  · exact ⟨33, rx_t16 hs h1 h8 hf hpr 32 0 te rfl (fun j hj => absurd hj (Nat.not_lt_zero j)) (hS L h2 h8 fa ol sv)⟩
  · exact hF L h2 h8 fa ol sv
end
