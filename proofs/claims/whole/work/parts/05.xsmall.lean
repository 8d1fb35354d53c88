-- The component's private methods
section
variable {te od pr fa ol sv : Nat → Int32}
theorem rx_clear2 {post : SX → Prop} : ∀ (d i : Nat) (fa ol : Nat → Int32), i + d = 33 → post (te, od, pr, upd (rq_w fa i 33 (fun _ => 0)) 0 1, upd (rq_w ol i 33 (fun _ => 0)) 0 1, sv) → wX_clearFactors_2 post (d + 1) (nI i) te od pr fa ol sv := by
  intro d
  induction d with
  | zero =>
    intro i fa ol hi hp
    obtain rfl : i = 33 := by omega
    rw [rq_w_end, rq_w_end] at hp
    exact br_t (nI_le (a := 33) (by omega) (by omega)) (nm_e (nm_e hp))
  | succ d ih =>
    intro i fa ol hi hp
    refine br_f (nI_ge (b := 33) (by omega) (by decide)) ⟨vp_in_nI (by omega) (by omega), nm_r (rq_up i rfl (by omega) rfl) ⟨vp_in_nI (by omega) (by omega), nm_r (rq_up i rfl (by omega) rfl) (nm_r (nI_1 i) (ih (i + 1) _ _ (by omega) ?_))⟩⟩
    rw [rq_w_step (g := fun _ => 0) (by omega) rfl, rq_w_step (g := fun _ => 0) (by omega) rfl]; exact hp
theorem rx_clear {post : SX → Prop} (h : ∀ fa ol : Nat → Int32, fa 0 = 1 → ol 0 = 1 → (∀ j, 0 < j → j < 33 → fa j = 0) → (∀ j, 0 < j → j < 33 → ol j = 0) → post (te, od, pr, fa, ol, sv)) : wpX_clearFactors post (te, od, pr, fa, ol, sv) := by
  refine ⟨34, rx_clear2 33 0 fa ol rfl (h _ _ pk_us pk_us (fun j h1 h2 => ?_) (fun j h1 h2 => ?_))⟩
  · rw [pk_un (by omega), rq_w_in (by omega) h2]
  · rw [pk_un (by omega), rq_w_in (by omega) h2]
theorem rx_inv4 {post : Int32 → Prop} {x : Fin 101} : ∀ d i : Nat, i + d = 99 → post (rq_i (rq_pow x 99)) → wX_inverse_4 post (rq_i x) (d + 1) (rq_i (rq_pow x i)) (nI i) := by
  intro d
  induction d with
  | zero =>
    intro i hi hp
    obtain rfl : i = 99 := by omega
    exact br_t (nI_le (a := 99) (by omega) (by omega)) hp
  | succ d ih =>
    intro i hi hp
    exact br_f (nI_ge (b := 99) (by omega) (by decide)) ⟨rq_ne, nm_r (rq_rem (rq_n_mul (rq_n_i _) (rq_n_i _) (by decide))) (nm_r (nI_1 i) (ih (i + 1) (by omega) hp))⟩
theorem rx_inv {post : Int32 → Prop} {x : Fin 101} (h : post (rq_i (rq_pow x 99))) : wpX_inverse post (rq_i x) := by
  have := rx_inv4 (post := post) (x := x) 99 0 rfl h
  rw [rq_pow, rq_i_1, nI_0] at this
  exact ⟨_, this⟩
theorem rx_sub2 {post : SX → Prop} {t : Fin 101} {s : Nat} {c b : Nat → Fin 101} (hb : ∀ j, j < 33 → ol j = rq_i (b j)) : ∀ (d i : Nat) (fa : Nat → Int32), s ≤ i → i + d = 33 → (∀ j, i ≤ j → j < 33 → fa j = rq_i (c j)) → post (te, od, pr, rq_w fa i 33 (fun j => rq_i (rq_sub c b t s j)), ol, sv) → wX_subtractOlder_2 post (rq_i t) (nI s) (d + 1) (nI i) te od pr fa ol sv := by
  intro d
  induction d with
  | zero =>
    intro i fa hs hi hf hp
    obtain rfl : i = 33 := by omega
    rw [rq_w_end] at hp
    exact br_t (nI_le (a := 33) (by omega) (by omega)) hp
  | succ d ih =>
    intro i fa hs hi hf hp
    have e1 : fa (nI i).toNatClampNeg = rq_i (c i) := rq_rd i rfl (by omega) (hf i (by omega) (by omega))
    have e2 : ol (nI i - nI s).toNatClampNeg = rq_i (b (i - s)) := rq_rd (i - s) (pk_sub hs) (by omega) (hb _ (by omega))
    refine br_f (nI_ge (b := 33) (by omega) (by decide)) ⟨vp_in_nI (by omega) (by omega), pk_in (i - s) 33 (by omega) (pk_sub hs), ?_⟩
    refine rq_redB (z := c i - t * b (i - s)) (M := 10100) ?_ ?_
    · rw [e1, e2]; exact rq_b_sub (rq_b_i _) (rq_n_b (rq_n_mul (rq_n_i _) (rq_n_i _) (by decide))) (by decide)
    · refine ⟨vp_in_nI (by omega) (by omega), nm_r (rq_up i rfl (by omega) rfl) (nm_r (nI_1 i) (ih (i + 1) _ (by omega) (by omega) (fun j h1 h2 => ?_) ?_))⟩
      · rw [pk_un (by omega)]; exact hf j (by omega) h2
      · rw [rq_w_step (by omega) (by rw [rq_sub, if_pos hs])]; exact hp
theorem rx_sub {post : SX → Prop} {t : Fin 101} {s : Nat} {c b : Nat → Fin 101} (hs : s ≤ 33) (hb : ∀ j, j < 33 → ol j = rq_i (b j)) (hf : ∀ j, j < 33 → fa j = rq_i (c j)) (h : ∀ fa : Nat → Int32, (∀ j, j < 33 → fa j = rq_i (rq_sub c b t s j)) → post (te, od, pr, fa, ol, sv)) : wpX_subtractOlder post (te, od, pr, fa, ol, sv) (rq_i t) (nI s) := by
  refine ⟨33 - s + 1, rx_sub2 (c := c) (b := b) hb (33 - s) s fa (Nat.le_refl s) (by omega) (fun j _ h2 => hf j h2) (h _ (fun j hj => ?_))⟩
  by_cases e : s ≤ j
  · rw [rq_w_in e hj]
  · rw [rq_w_out (by omega), rq_sub, if_neg e]; exact hf j hj
theorem rx_cfs2 {post : SX → Prop} : ∀ (d i : Nat) (sv : Nat → Int32), i + d = 33 → post (te, od, pr, fa, ol, rq_w sv i 33 fa) → wX_copyFactors__factors_savedFactors_2 post (d + 1) (nI i) te od pr fa ol sv := by
  intro d
  induction d with
  | zero =>
    intro i sv hi hp
    obtain rfl : i = 33 := by omega
    rw [rq_w_end] at hp
    exact br_t (nI_le (a := 33) (by omega) (by omega)) hp
  | succ d ih =>
    intro i sv hi hp
    refine br_f (nI_ge (b := 33) (by omega) (by decide)) ⟨vp_in_nI (by omega) (by omega), vp_in_nI (by omega) (by omega), nm_r (rq_up i rfl (by omega) (rq_rd i rfl (by omega) rfl)) (nm_r (nI_1 i) (ih (i + 1) _ (by omega) ?_))⟩
    rw [rq_w_step (by omega) rfl]; exact hp
theorem rx_cfs {post : SX → Prop} (h : ∀ sv : Nat → Int32, (∀ j, j < 33 → sv j = fa j) → post (te, od, pr, fa, ol, sv)) : wpX_copyFactors__factors_savedFactors post (te, od, pr, fa, ol, sv) :=
  ⟨34, rx_cfs2 33 0 sv rfl (h _ (fun _ hj => rq_w_in (Nat.zero_le _) hj))⟩
theorem rx_cso2 {post : SX → Prop} : ∀ (d i : Nat) (ol : Nat → Int32), i + d = 33 → post (te, od, pr, fa, rq_w ol i 33 sv, sv) → wX_copyFactors__savedFactors_olderFactors_2 post (d + 1) (nI i) te od pr fa ol sv := by
  intro d
  induction d with
  | zero =>
    intro i ol hi hp
    obtain rfl : i = 33 := by omega
    rw [rq_w_end] at hp
    exact br_t (nI_le (a := 33) (by omega) (by omega)) hp
  | succ d ih =>
    intro i ol hi hp
    refine br_f (nI_ge (b := 33) (by omega) (by decide)) ⟨vp_in_nI (by omega) (by omega), vp_in_nI (by omega) (by omega), nm_r (rq_up i rfl (by omega) (rq_rd i rfl (by omega) rfl)) (nm_r (nI_1 i) (ih (i + 1) _ (by omega) ?_))⟩
    rw [rq_w_step (by omega) rfl]; exact hp
theorem rx_cso {post : SX → Prop} (h : ∀ ol : Nat → Int32, (∀ j, j < 33 → ol j = sv j) → post (te, od, pr, fa, ol, sv)) : wpX_copyFactors__savedFactors_olderFactors post (te, od, pr, fa, ol, sv) :=
  ⟨34, rx_cso2 33 0 ol rfl (h _ (fun _ hj => rq_w_in (Nat.zero_le _) hj))⟩
theorem rx_fp6 {post : Int32 → Prop} {c g : Nat → Fin 101} {p L : Nat} (hL : L ≤ p) (hp : p ≤ 32) (hc : ∀ j, j < L → fa (j + 1) = rq_i (c (j + 1))) (hl : ∀ j, j < L → pr (p - (j + 1)) = rq_i (g j)) (h : post (rq_i (- rq_sm (fun j => c (j + 1) * g j) L))) : ∀ (d m : Nat) (x4 : Int32), m + d = L → rq_n x4 (rq_sm (fun j => c (j + 1) * g j) m) (10000 * m) → wX_follow__probe_6 post (nI p) (nI L) te od pr fa ol sv (d + 1) x4 (nI (m + 1)) := by
  intro d
  induction d with
  | zero =>
    intro m x4 hm hx
    obtain rfl : m = L := by omega
    exact br_t (nI_lt (by omega) (by omega)) (rq_redB (post := fun r => post r) (rq_b_neg (rq_n_b hx) (by omega)) h)
  | succ d ih =>
    intro m x4 hm hx
    have e1 : fa (nI (m + 1)).toNatClampNeg = rq_i (c (m + 1)) := rq_rd (m + 1) rfl (by omega) (hc m (by omega))
    have e2 : pr (nI p - nI (m + 1)).toNatClampNeg = rq_i (g m) := rq_rd (p - (m + 1)) (pk_sub (by omega)) (by omega) (hl m (by omega))
    refine br_f (nI_nlt (by omega) (by omega)) (br_f (nI_nlt (by omega) (by omega)) ⟨vp_in_nI (by omega) (by omega), pk_in (p - (m + 1)) 32 (by omega) (pk_sub (by omega)), fun y ey => nm_r (nI_1 (m + 1)) (ih (m + 1) y (by omega) ?_)⟩)
    rw [ey, e1, e2]
    exact rq_n_le (rq_n_add hx (rq_n_mul (rq_n_i _) (rq_n_i _) (by decide)) (by omega)) (by omega)
theorem rx_fp {post : Int32 → Prop} {c g : Nat → Fin 101} {p L : Nat} (hL : L ≤ p) (hp : p ≤ 32) (hc : ∀ j, j < L → fa (j + 1) = rq_i (c (j + 1))) (hl : ∀ j, j < L → pr (p - (j + 1)) = rq_i (g j)) (h : post (rq_i (- rq_sm (fun j => c (j + 1) * g j) L))) : wpX_follow__probe post (te, od, pr, fa, ol, sv) (nI p) (nI L) :=
  ⟨L + 1, rx_fp6 hL hp hc hl h L 0 0 (Nat.zero_add L) (rq_n_0 _)⟩
theorem rx_ft6 {post : Int32 → Prop} {c g : Nat → Fin 101} {p L : Nat} (hL : L ≤ p) (hL2 : L ≤ 32) (hp : p ≤ 1604) (hc : ∀ j, j < L → fa (j + 1) = rq_i (c (j + 1))) (hl : ∀ j, j < L → te (p - (j + 1)) = rq_i (g j)) (h : post (rq_i (- rq_sm (fun j => c (j + 1) * g j) L))) : ∀ (d m : Nat) (x4 : Int32), m + d = L → rq_n x4 (rq_sm (fun j => c (j + 1) * g j) m) (10000 * m) → wX_follow__terms_6 post (nI p) (nI L) te od pr fa ol sv (d + 1) x4 (nI (m + 1)) := by
  intro d
  induction d with
  | zero =>
    intro m x4 hm hx
    obtain rfl : m = L := by omega
    exact br_t (nI_lt (by omega) (by omega)) (rq_redB (post := fun r => post r) (rq_b_neg (rq_n_b hx) (by omega)) h)
  | succ d ih =>
    intro m x4 hm hx
    have e1 : fa (nI (m + 1)).toNatClampNeg = rq_i (c (m + 1)) := rq_rd (m + 1) rfl (by omega) (hc m (by omega))
    have e2 : te (nI p - nI (m + 1)).toNatClampNeg = rq_i (g m) := rq_rd (p - (m + 1)) (pk_sub (by omega)) (by omega) (hl m (by omega))
    refine br_f (nI_nlt (by omega) (by omega)) (br_f (nI_nlt (by omega) (by omega)) ⟨vp_in_nI (by omega) (by omega), pk_in (p - (m + 1)) 1604 (by omega) (pk_sub (by omega)), fun y ey => nm_r (nI_1 (m + 1)) (ih (m + 1) y (by omega) ?_)⟩)
    rw [ey, e1, e2]
    exact rq_n_le (rq_n_add hx (rq_n_mul (rq_n_i _) (rq_n_i _) (by decide)) (by omega)) (by omega)
theorem rx_ft {post : Int32 → Prop} {c g : Nat → Fin 101} {p L : Nat} (hL : L ≤ p) (hL2 : L ≤ 32) (hp : p ≤ 1604) (hc : ∀ j, j < L → fa (j + 1) = rq_i (c (j + 1))) (hl : ∀ j, j < L → te (p - (j + 1)) = rq_i (g j)) (h : post (rq_i (- rq_sm (fun j => c (j + 1) * g j) L))) : wpX_follow__terms post (te, od, pr, fa, ol, sv) (nI p) (nI L) :=
  ⟨L + 1, rx_ft6 hL hL2 hp hc hl h L 0 0 (Nat.zero_add L) (rq_n_0 _)⟩
end
