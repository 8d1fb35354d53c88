-- The loops of the calls that change a sequence
section
variable {te od fa ol sv : Nat → Int32}
theorem rx_end {post : Int32 → SX → Prop} {pr : Nat → Int32} {B c' : Nat → Fin 101} {s L' : Nat} (hs : s < 4) (hpr : ∀ j, j < 32 → pr j = rq_i (B j)) (hG : rq_G B c' L') (hL' : L' ≤ 16) (h : rq_XF post te od B s) : wpX_takeProbe post (te, od, pr, fa, ol, sv) (nI s) :=
  rx_take hs hpr hG hL' (fun L hO hL fa ol sv => h.1 L hO hL pr fa ol sv) (fun L hO hL fa ol sv => h.2 L hO hL pr fa ol sv)
theorem rx_add26 {post : Int32 → SX → Prop} {a b c' : Nat → Fin 101} {to s t L' : Nat} (hto : to < 4) (hs : s < 4) (ht : t < 4) (ha : ∀ n, n < 401 → te (s * 401 + n) = rq_i (a n)) (hb : ∀ n, n < 401 → te (t * 401 + n) = rq_i (b n)) (hG : rq_G (fun n => a n + b n) c' L') (hL' : L' ≤ 16) (h : rq_XF post te od (fun n => a n + b n) to) : ∀ (d i : Nat) (pr : Nat → Int32), i + d = 32 → (∀ j, j < i → pr j = rq_i (a j + b j)) → wX_add_26 post (nI to) (nI s) (nI t) (d + 1) (nI i) te od pr fa ol sv := by
  intro d
  induction d with
  | zero =>
    intro i pr hi hj
    obtain rfl : i = 32 := by omega
    exact br_t (nI_le (a := 32) (by omega) (by omega)) (rx_end hto hj hG hL' h)
  | succ d ih =>
    intro i pr hi hj
    have xa : nI s * 401 + nI i = nI (s * 401 + i) := rq_ix s 401 i
    have xb : nI t * 401 + nI i = nI (t * 401 + i) := rq_ix t 401 i
    refine br_f (nI_ge (b := 32) (by omega) (by decide)) ⟨pk_in (s * 401 + i) 1604 (by omega) xa, pk_in (t * 401 + i) 1604 (by omega) xb, ?_⟩
    refine rq_redB (z := a i + b i) (M := 200) ?_ ⟨vp_in_nI (by omega) (by omega), nm_r (rq_up i rfl (by omega) rfl) (nm_r (nI_1 i) (ih (i + 1) _ (by omega) (fun j hj2 => ?_)))⟩
    · rw [rq_rd (a := te) (s * 401 + i) xa (by omega) (ha i (by omega)), rq_rd (a := te) (t * 401 + i) xb (by omega) (hb i (by omega))]
      exact rq_b_add (rq_b_i _) (rq_b_i _) (by decide)
    · by_cases e : j = i
      · rw [e, pk_us]
      · rw [pk_un e]; exact hj j (by omega)
theorem rx_scale17 {post : Int32 → SX → Prop} {a c' : Nat → Fin 101} {m : Fin 101} {s L' : Nat} (hs : s < 4) (ha : ∀ n, n < 401 → te (s * 401 + n) = rq_i (a n)) (hG : rq_G (fun n => m * a n) c' L') (hL' : L' ≤ 16) (h : rq_XF post te od (fun n => m * a n) s) : ∀ (d i : Nat) (pr : Nat → Int32), i + d = 32 → (∀ j, j < i → pr j = rq_i (m * a j)) → wX_scale_17 post (nI s) (rq_i m) (d + 1) (nI i) te od pr fa ol sv := by
  intro d
  induction d with
  | zero =>
    intro i pr hi hj
    obtain rfl : i = 32 := by omega
    exact br_t (nI_le (a := 32) (by omega) (by omega)) (rx_end hs hj hG hL' h)
  | succ d ih =>
    intro i pr hi hj
    have xa : nI s * 401 + nI i = nI (s * 401 + i) := rq_ix s 401 i
    refine br_f (nI_ge (b := 32) (by omega) (by decide)) ⟨pk_in (s * 401 + i) 1604 (by omega) xa, ?_⟩
    refine rq_redB (z := m * a i) (M := 10000) ?_ ⟨vp_in_nI (by omega) (by omega), nm_r (rq_up i rfl (by omega) rfl) (nm_r (nI_1 i) (ih (i + 1) _ (by omega) (fun j hj2 => ?_)))⟩
    · rw [rq_rd (a := te) (s * 401 + i) xa (by omega) (ha i (by omega))]
      exact rq_n_b (rq_n_mul (rq_n_i _) (rq_n_i _) (by decide))
    · by_cases e : j = i
      · rw [e, pk_us]
      · rw [pk_un e]; exact hj j (by omega)
theorem rx_adv11 {post : Int32 → SX → Prop} {a c' : Nat → Fin 101} {s L' : Nat} (hs : s < 4) (ha : ∀ n, n < 401 → te (s * 401 + n) = rq_i (a n)) (hG : rq_G (fun n => a (n + 1)) c' L') (hL' : L' ≤ 16) (h : rq_XF post te od (fun n => a (n + 1)) s) : ∀ (d i : Nat) (pr : Nat → Int32), i + d = 32 → (∀ j, j < i → pr j = rq_i (a (j + 1))) → wX_advance_11 post (nI s) (d + 1) (nI i) te od pr fa ol sv := by
  intro d
  induction d with
  | zero =>
    intro i pr hi hj
    obtain rfl : i = 32 := by omega
    exact br_t (nI_le (a := 32) (by omega) (by omega)) (rx_end (B := fun n => a (n + 1)) hs hj hG hL' h)
  | succ d ih =>
    intro i pr hi hj
    have xa : nI s * 401 + nI i + 1 = nI (s * 401 + (i + 1)) := by
      have := rq_ix s 401 i
      rw [show (nI s * 401 + nI i) = nI (s * 401 + i) from this, nI_1]; rfl
    refine br_f (nI_ge (b := 32) (by omega) (by decide)) ⟨pk_in (s * 401 + (i + 1)) 1604 (by omega) xa, vp_in_nI (by omega) (by omega), nm_r (rq_up i rfl (by omega) (rq_rd (s * 401 + (i + 1)) xa (by omega) (ha (i + 1) (by omega)))) (nm_r (nI_1 i) (ih (i + 1) _ (by omega) (fun j hj2 => ?_)))⟩
    by_cases e : j = i
    · rw [e, pk_us]
    · rw [pk_un e]; exact hj j (by omega)
theorem rx_pre21 {post : Int32 → SX → Prop} {a c' : Nat → Fin 101} {x : Fin 101} {s L' : Nat} (hs : s < 4) (ha : ∀ n, n < 401 → te (s * 401 + n) = rq_i (a n)) (hG : rq_G (fun n => if n = 0 then x else a (n - 1)) c' L') (hL' : L' ≤ 16) (h : rq_XF post te od (fun n => if n = 0 then x else a (n - 1)) s) : ∀ (d i : Nat) (pr : Nat → Int32), i + d = 32 → 1 ≤ i → (∀ j, j < i → pr j = rq_i (if j = 0 then x else a (j - 1))) → wX_prepend_21 post (nI s) (d + 1) (nI i) te od pr fa ol sv := by
  intro d
  induction d with
  | zero =>
    intro i pr hi h1 hj
    obtain rfl : i = 32 := by omega
    exact br_t (nI_le (a := 32) (by omega) (by omega)) (rx_end (B := fun n => if n = 0 then x else a (n - 1)) hs hj hG hL' h)
  | succ d ih =>
    intro i pr hi h1 hj
    have xa : nI s * 401 + nI i - 1 = nI (s * 401 + (i - 1)) := by
      have := rq_ix s 401 i
      rw [show (nI s * 401 + nI i) = nI (s * 401 + i) from this, show s * 401 + i = s * 401 + (i - 1) + 1 by omega, nI_pred]
    refine br_f (nI_ge (b := 32) (by omega) (by decide)) ⟨pk_in (s * 401 + (i - 1)) 1604 (by omega) xa, vp_in_nI (by omega) (by omega), nm_r (rq_up i rfl (by omega) (rq_rd (s * 401 + (i - 1)) xa (by omega) (ha (i - 1) (by omega)))) (nm_r (nI_1 i) (ih (i + 1) _ (by omega) (by omega) (fun j hj2 => ?_)))⟩
    by_cases e : j = i
    · rw [e, pk_us, if_neg (by omega)]
    · rw [pk_un e]; exact hj j (by omega)
theorem rx_acc13 {post : Int32 → SX → Prop} {a c' : Nat → Fin 101} {s L' : Nat} (hs : s < 4) (ha : ∀ n, n < 401 → te (s * 401 + n) = rq_i (a n)) (hG : rq_G (rq_ac a) c' L') (hL' : L' ≤ 16) (h : rq_XF post te od (rq_ac a) s) : ∀ (d i : Nat) (pr : Nat → Int32), i + d = 32 → (∀ j, j < i → pr j = rq_i (rq_ac a j)) → wX_accumulate_13 post (nI s) (d + 1) (rq_i (rq_sm a i)) (nI i) te od pr fa ol sv := by
  intro d
  induction d with
  | zero =>
    intro i pr hi hj
    obtain rfl : i = 32 := by omega
    exact br_t (nI_le (a := 32) (by omega) (by omega)) (rx_end hs hj hG hL' h)
  | succ d ih =>
    intro i pr hi hj
    have xa : nI s * 401 + nI i = nI (s * 401 + i) := rq_ix s 401 i
    refine br_f (nI_ge (b := 32) (by omega) (by decide)) ⟨pk_in (s * 401 + i) 1604 (by omega) xa, ?_⟩
    refine rq_redB (z := rq_sm a (i + 1)) (M := 200) ?_ ⟨vp_in_nI (by omega) (by omega), nm_r (rq_up i rfl (by omega) rfl) (nm_r (nI_1 i) (ih (i + 1) _ (by omega) (fun j hj2 => ?_)))⟩
    · rw [rq_rd (a := te) (s * 401 + i) xa (by omega) (ha i (by omega))]
      exact rq_b_add (rq_b_i _) (rq_b_i _) (by decide)
    · by_cases e : j = i
      · rw [e, pk_us, rq_ac]
      · rw [pk_un e]; exact hj j (by omega)
theorem rx_dif13 {post : Int32 → SX → Prop} {a c' : Nat → Fin 101} {s L' : Nat} (hs : s < 4) (ha : ∀ n, n < 401 → te (s * 401 + n) = rq_i (a n)) (hG : rq_G (rq_df a) c' L') (hL' : L' ≤ 16) (h : rq_XF post te od (rq_df a) s) : ∀ (d i : Nat) (pr : Nat → Int32), i + d = 32 → (∀ j, j < i → pr j = rq_i (rq_df a j)) → wX_difference_13 post (nI s) (d + 1) (rq_i (if i = 0 then 0 else a (i - 1))) (nI i) te od pr fa ol sv := by
  intro d
  induction d with
  | zero =>
    intro i pr hi hj
    obtain rfl : i = 32 := by omega
    exact br_t (nI_le (a := 32) (by omega) (by omega)) (rx_end hs hj hG hL' h)
  | succ d ih =>
    intro i pr hi hj
    have xa : nI s * 401 + nI i = nI (s * 401 + i) := rq_ix s 401 i
    have key := ih (i + 1) (upd pr i (rq_i (rq_df a i))) (by omega) (fun j hj2 => by
      by_cases e : j = i
      · rw [e, pk_us]
      · rw [pk_un e]; exact hj j (by omega))
    rw [if_neg (by omega : ¬ i + 1 = 0), Nat.add_sub_cancel] at key
    refine br_f (nI_ge (b := 32) (by omega) (by decide)) ⟨pk_in (s * 401 + i) 1604 (by omega) xa, nm_r (rq_rd (a := te) (s * 401 + i) xa (by omega) (ha i (by omega))) ?_⟩
    refine rq_redB (z := rq_df a i) (M := 200) ?_ ⟨vp_in_nI (by omega) (by omega), nm_r (rq_up i rfl (by omega) rfl) (nm_r (nI_1 i) key)⟩
    have e2 : rq_df a i = a i - (if i = 0 then 0 else a (i - 1)) := by
      unfold rq_df
      by_cases e : i = 0
      · rw [if_pos e, if_pos e, e]; grind
      · rw [if_neg e, if_neg e]
    rw [e2]
    exact rq_b_sub (rq_b_i _) (rq_b_i _) (by decide)
end
