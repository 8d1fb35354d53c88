-- The reference's loops of the calls that change a sequence
section
variable {ye tb yf : Nat → Int32}
theorem ry_end {post : Int32 → SY → Prop} {wk : Nat → Int32} {B : Nat → Fin 101} {s L : Nat} (hs : s < 4) (hw : ∀ j, j < 32 → wk j = rq_i (B j)) (hO : rq_O B L) (hL : L ≤ 16) (h : rq_YF post ye B s L) : wpY_settle post (ye, wk, tb, yf) (nI s) :=
  ry_settle hs hO hL hw (fun h8 tb => h.1 h8 wk tb yf) (fun h8 tb => h.2 h8 wk tb yf)
theorem ry_add29 {post : Int32 → SY → Prop} {a b : Nat → Fin 101} {to s t L : Nat} (hto : to < 4) (hs : s < 4) (ht : t < 4) (ha : ∀ n, n < 32 → ye (s * 32 + n) = rq_i (a n)) (hb : ∀ n, n < 32 → ye (t * 32 + n) = rq_i (b n)) (hO : rq_O (fun n => a n + b n) L) (hL : L ≤ 16) (h : rq_YF post ye (fun n => a n + b n) to L) : ∀ (d i : Nat) (wk : Nat → Int32), i + d = 32 → (∀ j, j < i → wk j = rq_i (a j + b j)) → wY_add_29 post (nI to) (nI s) (nI t) (d + 1) (nI i) ye wk tb yf := by
  intro d
  induction d with
  | zero =>
    intro i wk hi hj
    obtain rfl : i = 32 := by omega
    exact br_t (nI_le (a := 32) (by omega) (by omega)) (ry_end hto hj hO hL h)
  | succ d ih =>
    intro i wk hi hj
    have xa : nI s * 32 + nI i = nI (s * 32 + i) := rq_ix s 32 i
    have xb : nI t * 32 + nI i = nI (t * 32 + i) := rq_ix t 32 i
    refine br_f (nI_ge (b := 32) (by omega) (by decide)) ⟨pk_in (s * 32 + i) 128 (by omega) xa, pk_in (t * 32 + i) 128 (by omega) xb, rq_ne, vp_in_nI (by omega) (by omega), nm_r (rq_up (w := rq_i (a i + b i)) i rfl (by omega) ?_) (nm_r (nI_1 i) (ih (i + 1) _ (by omega) (fun j hj2 => ?_)))⟩
    · rw [rq_rd (a := ye) (s * 32 + i) xa (by omega) (ha i (by omega)), rq_rd (a := ye) (t * 32 + i) xb (by omega) (hb i (by omega))]
      exact rq_rem (rq_n_add (rq_n_i _) (rq_n_i _) (by decide))
    · by_cases e : j = i
      · rw [e, pk_us]
      · rw [pk_un e]; exact hj j (by omega)
theorem ry_scale19 {post : Int32 → SY → Prop} {a : Nat → Fin 101} {m : Fin 101} {s L : Nat} (hs : s < 4) (ha : ∀ n, n < 32 → ye (s * 32 + n) = rq_i (a n)) (hO : rq_O (fun n => m * a n) L) (hL : L ≤ 16) (h : rq_YF post ye (fun n => m * a n) s L) : ∀ (d i : Nat) (wk : Nat → Int32), i + d = 32 → (∀ j, j < i → wk j = rq_i (m * a j)) → wY_scale_19 post (nI s) (rq_i m) (d + 1) (nI i) ye wk tb yf := by
  intro d
  induction d with
  | zero =>
    intro i wk hi hj
    obtain rfl : i = 32 := by omega
    exact br_t (nI_le (a := 32) (by omega) (by omega)) (ry_end hs hj hO hL h)
  | succ d ih =>
    intro i wk hi hj
    have xa : nI s * 32 + nI i = nI (s * 32 + i) := rq_ix s 32 i
    refine br_f (nI_ge (b := 32) (by omega) (by decide)) ⟨pk_in (s * 32 + i) 128 (by omega) xa, rq_ne, vp_in_nI (by omega) (by omega), nm_r (rq_up (w := rq_i (a i * m)) i rfl (by omega) ?_) (nm_r (nI_1 i) (ih (i + 1) _ (by omega) (fun j hj2 => ?_)))⟩
    · rw [rq_rd (a := ye) (s * 32 + i) xa (by omega) (ha i (by omega))]
      exact rq_rem (rq_n_mul (rq_n_i _) (rq_n_i _) (by decide))
    · by_cases e : j = i
      · rw [e, pk_us]
        exact congrArg rq_i (by grind)
      · rw [pk_un e]; exact hj j (by omega)
theorem ry_adv23 {post : Int32 → SY → Prop} {a : Nat → Fin 101} {s L : Nat} (hs : s < 4) (hO : rq_O (fun n => a (n + 1)) L) (hL : L ≤ 16) (h : rq_YF post ye (fun n => a (n + 1)) s L) : ∀ (d i : Nat) (wk : Nat → Int32), i + d = 32 → (∀ j, j < i → wk j = rq_i (a (j + 1))) → (∀ j, i ≤ j → j ≤ 32 → wk j = rq_i (a j)) → wY_advance_23 post (nI s) (d + 1) (nI i) ye wk tb yf := by
  intro d
  induction d with
  | zero =>
    intro i wk hi hj hk
    obtain rfl : i = 32 := by omega
    exact br_t (nI_le (a := 32) (by omega) (by omega)) (ry_end (B := fun n => a (n + 1)) hs hj hO hL h)
  | succ d ih =>
    intro i wk hi hj hk
    refine br_f (nI_ge (b := 32) (by omega) (by decide)) ⟨pk_in (i + 1) 402 (by omega) (nI_1 i), vp_in_nI (by omega) (by omega), nm_r (rq_up i rfl (by omega) (rq_rd (i + 1) (nI_1 i) (by omega) (hk (i + 1) (by omega) (by omega)))) (nm_r (nI_1 i) (ih (i + 1) _ (by omega) (fun j hj2 => ?_) (fun j h1 h2 => ?_)))⟩
    · by_cases e : j = i
      · rw [e, pk_us]
      · rw [pk_un e]; exact hj j (by omega)
    · rw [pk_un (by omega)]; exact hk j (by omega) h2
theorem ry_pre23 {post : Int32 → SY → Prop} {a : Nat → Fin 101} {x : Fin 101} {s L : Nat} (hs : s < 4) (ha : ∀ n, n < 32 → ye (s * 32 + n) = rq_i (a n)) (hO : rq_O (fun n => if n = 0 then x else a (n - 1)) L) (hL : L ≤ 16) (h : rq_YF post ye (fun n => if n = 0 then x else a (n - 1)) s L) : ∀ (d i : Nat) (wk : Nat → Int32), i + d = 32 → 1 ≤ i → (∀ j, j < i → wk j = rq_i (if j = 0 then x else a (j - 1))) → wY_prepend_23 post (nI s) (d + 1) (nI i) ye wk tb yf := by
  intro d
  induction d with
  | zero =>
    intro i wk hi h1 hj
    obtain rfl : i = 32 := by omega
    exact br_t (nI_le (a := 32) (by omega) (by omega)) (ry_end (B := fun n => if n = 0 then x else a (n - 1)) hs hj hO hL h)
  | succ d ih =>
    intro i wk hi h1 hj
    have xa : nI s * 32 + nI i - 1 = nI (s * 32 + (i - 1)) := by
      have := rq_ix s 32 i
      rw [show (nI s * 32 + nI i) = nI (s * 32 + i) from this, show s * 32 + i = s * 32 + (i - 1) + 1 by omega, nI_pred]
    refine br_f (nI_ge (b := 32) (by omega) (by decide)) ⟨pk_in (s * 32 + (i - 1)) 128 (by omega) xa, vp_in_nI (by omega) (by omega), nm_r (rq_up i rfl (by omega) (rq_rd (s * 32 + (i - 1)) xa (by omega) (ha (i - 1) (by omega)))) (nm_r (nI_1 i) (ih (i + 1) _ (by omega) (by omega) (fun j hj2 => ?_)))⟩
    by_cases e : j = i
    · rw [e, pk_us, if_neg (by omega)]
    · rw [pk_un e]; exact hj j (by omega)
theorem ry_acc14 {post : Int32 → SY → Prop} {a : Nat → Fin 101} {s L : Nat} (hs : s < 4) (ha : ∀ n, n < 32 → ye (s * 32 + n) = rq_i (a n)) (hO : rq_O (rq_ac a) L) (hL : L ≤ 16) (h : rq_YF post ye (rq_ac a) s L) : ∀ (d i : Nat) (wk : Nat → Int32), i + d = 32 → (∀ j, j < i → wk j = rq_i (rq_ac a j)) → wY_accumulate_14 post (nI s) (d + 1) (rq_i (rq_sm a i)) (nI i) ye wk tb yf := by
  intro d
  induction d with
  | zero =>
    intro i wk hi hj
    obtain rfl : i = 32 := by omega
    exact br_t (nI_le (a := 32) (by omega) (by omega)) (ry_end hs hj hO hL h)
  | succ d ih =>
    intro i wk hi hj
    have xa : nI s * 32 + nI i = nI (s * 32 + i) := rq_ix s 32 i
    refine br_f (nI_ge (b := 32) (by omega) (by decide)) ⟨pk_in (s * 32 + i) 128 (by omega) xa, rq_ne, nm_r (e' := rq_i (rq_sm a (i + 1))) ?_ ⟨vp_in_nI (by omega) (by omega), nm_r (rq_up i rfl (by omega) rfl) (nm_r (nI_1 i) (ih (i + 1) _ (by omega) (fun j hj2 => ?_)))⟩⟩
    · rw [rq_rd (a := ye) (s * 32 + i) xa (by omega) (ha i (by omega))]
      exact rq_rem (rq_n_add (rq_n_i _) (rq_n_i _) (by decide))
    · by_cases e : j = i
      · rw [e, pk_us, rq_ac]
      · rw [pk_un e]; exact hj j (by omega)
theorem ry_dif14 {post : Int32 → SY → Prop} {a : Nat → Fin 101} {s L : Nat} (hs : s < 4) (ha : ∀ n, n < 32 → ye (s * 32 + n) = rq_i (a n)) (hO : rq_O (rq_df a) L) (hL : L ≤ 16) (h : rq_YF post ye (rq_df a) s L) : ∀ (d i : Nat) (wk : Nat → Int32), i + d = 32 → (∀ j, j < i → wk j = rq_i (rq_df a j)) → wY_difference_14 post (nI s) (d + 1) (rq_i (if i = 0 then 0 else a (i - 1))) (nI i) ye wk tb yf := by
  intro d
  induction d with
  | zero =>
    intro i wk hi hj
    obtain rfl : i = 32 := by omega
    exact br_t (nI_le (a := 32) (by omega) (by omega)) (ry_end hs hj hO hL h)
  | succ d ih =>
    intro i wk hi hj
    have xa : nI s * 32 + nI i = nI (s * 32 + i) := rq_ix s 32 i
    have ea := rq_rd (a := ye) (s * 32 + i) xa (by omega) (ha i (by omega))
    have key := ih (i + 1) (upd wk i (rq_i (rq_df a i))) (by omega) (fun j hj2 => by
      by_cases e : j = i
      · rw [e, pk_us]
      · rw [pk_un e]; exact hj j (by omega))
    rw [if_neg (by omega : ¬ i + 1 = 0), Nat.add_sub_cancel] at key
    refine br_f (nI_ge (b := 32) (by omega) (by decide)) ⟨pk_in (s * 32 + i) 128 (by omega) xa, ?_⟩
    refine rq_modB (z := rq_df a i) (M := 200) ?_ ⟨vp_in_nI (by omega) (by omega), nm_r (rq_up i rfl (by omega) rfl) ⟨pk_in (s * 32 + i) 128 (by omega) xa, nm_r ea (nm_r (nI_1 i) key)⟩⟩
    have e2 : rq_df a i = a i - (if i = 0 then 0 else a (i - 1)) := by
      unfold rq_df
      by_cases e : i = 0
      · rw [if_pos e, if_pos e, e]; grind
      · rw [if_neg e, if_neg e]
    rw [e2, ea]
    exact rq_b_sub (rq_b_i _) (rq_b_i _) (by decide)
end
