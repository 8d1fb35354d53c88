-- The reference's extend
section
variable {te wk tb fa : Nat → Int32}
theorem rq_nextR {A e : Nat → Fin 101} {L n : Nat} (hG : rq_G A e L) (hn : L ≤ n) : rq_sm (fun i => (- e (L - i)) * A (n - L + i)) L = A n := by
  have h := rq_next hG hn
  cases L with
  | zero => rw [h, rq_sm, rq_sm]; grind
  | succ k =>
    rw [h, ← rq_sm_rev (fun j => e (j + 1) * A (n - (j + 1))) k]
    have e1 : ∀ i, i < k + 1 → (- e (k + 1 - i)) * A (n - (k + 1) + i) = (-1) * (e (k - i + 1) * A (n - (k - i + 1))) := by
      intro i hi
      rw [show k + 1 - i = k - i + 1 by omega, show n - (k + 1) + i = n - (k - i + 1) by omega]; grind
    rw [rq_sm_congr (k + 1) e1, rq_sm_mul]; grind
theorem ry_e15 {post : SY → Prop} {J : Int32 → (Nat → Int32) → (Nat → Int32) → (Nat → Int32) → (Nat → Int32) → Prop} {A : Nat → Fin 101} {U : Nat → Nat → Fin 101} {x1 : Int32} {L i : Nat} (hL : L ≤ 8) (hi : i < L) (hw : ∀ j, j < 32 → wk j = rq_i (A j)) (h : ∀ tb : Nat → Int32, rq_tb tb (fun r c => if r = i then (if c < L then A (r + c) else if c = 16 then A (r + L) else 0) else U r c) → J (nI (i + 1)) te wk tb fa) : ∀ (d j : Nat) (tb : Nat → Int32), j + d = 17 → rq_tb tb (fun r c => if r = i ∧ c < j then (if c < L then A (r + c) else 0) else U r c) → wY_extend_15 post J x1 (nI L) (nI i) (d + 1) (nI j) te wk tb fa := by
  intro d
  induction d with
  | zero =>
    intro j tb hj hT
    obtain rfl : j = 17 := by omega
    have xa : nI i * 17 + 16 = nI (i * 17 + 16) := rq_ix i 17 16
    have xb : nI i + nI L = nI (i + L) := nI_add i L
    refine br_t (nI_le (a := 17) (by omega) (by omega)) ⟨pk_in (i + L) 402 (by omega) xb, pk_in (i * 17 + 16) 272 (by omega) xa, nm_r (rq_up (i * 17 + 16) xa (by omega) (rq_rd (i + L) xb (by omega) (hw _ (by omega)))) (nm_r (nI_1 i) (h _ (rq_tbC (rq_tbU hT (by omega)) (fun r c r1 r2 => ?_))))⟩
    by_cases e : r = i
    · rw [if_pos e]
      by_cases e2 : c = 16
      · rw [if_pos ⟨e, e2⟩, if_neg (by omega), if_pos e2, e]
      · rw [if_neg (fun z => e2 z.2), if_pos ⟨e, r2⟩, if_neg e2]
    · rw [if_neg (fun z => e z.1), if_neg (fun z => e z.1), if_neg e]
  | succ d ih =>
    intro j tb hj hT
    have xa : nI i * 17 + nI j = nI (i * 17 + j) := rq_ix i 17 j
    have xb : nI i + nI j = nI (i + j) := nI_add i j
    refine br_f (nI_ge (b := 17) (by omega) (by decide)) ?_
    refine pk_le L j (fun hlj => ?_) (fun hlj => ?_)
    · refine ⟨pk_in (i * 17 + j) 272 (by omega) xa, nm_r (rq_up (i * 17 + j) xa (by omega) rq_i_0.symm) (nm_r (nI_1 j) (ih (j + 1) _ (by omega) (rq_tbC (rq_tbU hT (by omega)) (fun r c r1 r2 => ?_))))⟩
      by_cases e : r = i ∧ c = j
      · rw [if_pos e, if_pos (by omega), if_neg (by omega)]
      · rw [if_neg e]
        by_cases e2 : r = i ∧ c < j
        · rw [if_pos e2, if_pos (by omega : r = i ∧ c < j + 1)]
        · rw [if_neg e2, if_neg (by omega)]
    · refine ⟨pk_in (i + j) 402 (by omega) xb, pk_in (i * 17 + j) 272 (by omega) xa, nm_r (rq_up (i * 17 + j) xa (by omega) (rq_rd (i + j) xb (by omega) (hw _ (by omega)))) (nm_r (nI_1 j) (ih (j + 1) _ (by omega) (rq_tbC (rq_tbU hT (by omega)) (fun r c r1 r2 => ?_))))⟩
      by_cases e : r = i ∧ c = j
      · rw [if_pos e, if_pos (by omega), if_pos (by omega), e.1, e.2]
      · rw [if_neg e]
        by_cases e2 : r = i ∧ c < j
        · rw [if_pos e2, if_pos (by omega : r = i ∧ c < j + 1)]
        · rw [if_neg e2, if_neg (by omega)]
theorem ry_e136 {post : SY → Prop} {J : Int32 → (Nat → Int32) → (Nat → Int32) → (Nat → Int32) → (Nat → Int32) → Prop} {A f : Nat → Fin 101} {x1 : Int32} {L n : Nat} (hL : L ≤ 8) (hn : n < 402) (hLn : L ≤ n) (hf : ∀ j, j < L → fa j = rq_i (f j)) (hw : ∀ j, j < n → wk j = rq_i (A j)) (h : J (nI (n + 1)) te (upd wk n (rq_i (rq_sm (fun i => f i * A (n - L + i)) L))) tb fa) : ∀ (d i : Nat) (x4 : Int32), i + d = L → rq_n x4 (rq_sm (fun i => f i * A (n - L + i)) i) (10000 * i) → wY_extend_136 post J x1 (nI L) (nI n) te wk tb fa (d + 1) x4 (nI i) := by
  intro d
  induction d with
  | zero =>
    intro i x4 hi hx
    obtain rfl : i = L := by omega
    exact br_t (nI_le (Nat.le_refl _) (by omega)) ⟨rq_ne, vp_in_nI (by omega) (by omega), nm_r (rq_up n rfl (by omega) (rq_rem hx)) (nm_r (nI_1 n) h)⟩
  | succ d ih =>
    intro i x4 hi hx
    have xa : nI n - nI L + nI i = nI (n - L + i) := by rw [pk_sub hLn, nI_add]
    have e1 : fa (nI i).toNatClampNeg = rq_i (f i) := rq_rd i rfl (by omega) (hf i (by omega))
    have e2 : wk (nI n - nI L + nI i).toNatClampNeg = rq_i (A (n - L + i)) := rq_rd (n - L + i) xa (by omega) (hw _ (by omega))
    refine br_f (nI_ge (by omega) (by omega)) ⟨vp_in_nI (by omega) (by omega), pk_in (n - L + i) 402 (by omega) xa, fun y ey => nm_r (nI_1 i) (ih (i + 1) y (by omega) ?_)⟩
    rw [ey, e1, e2]
    exact rq_n_le (rq_n_add hx (rq_n_mul (rq_n_i _) (rq_n_i _) (by decide)) (by omega)) (by omega)
theorem ry_e125 {post : SY → Prop} {A e : Nat → Fin 101} {L last : Nat} (hL : L ≤ 8) (hlast : last ≤ 400) (hG : rq_G A e L) (hf : ∀ j, j < L → fa j = rq_i (- e (L - j))) (h : ∀ wk : Nat → Int32, (∀ j, j < 32 ∨ j ≤ last → wk j = rq_i (A j)) → post (te, wk, tb, fa)) : ∀ (d n : Nat) (wk : Nat → Int32), last < n + d → 32 ≤ n → n < 402 → (∀ j, j < n → wk j = rq_i (A j)) → wY_extend_125 post (nI last) (nI L) (d + 1) (nI n) te wk tb fa := by
  intro d
  induction d with
  | zero =>
    intro n wk hd hn hn2 hw
    exact br_t (nI_lt (by omega) (by omega)) (h wk (fun j hj => hw j (by omega)))
  | succ d ih =>
    intro n wk hd hn hn2 hw
    by_cases e1 : last < n
    · exact br_t (nI_lt e1 (by omega)) (h wk (fun j hj => hw j (by omega)))
    · refine br_f (nI_nlt (by omega) (by omega)) ⟨L + 1, ?_⟩
      refine ry_e136 (A := A) (f := fun i => - e (L - i)) hL (by omega) (by omega) hf hw (ih (n + 1) _ (by omega) (by omega) (by omega) (fun j hj => ?_)) L 0 0 (Nat.zero_add L) (rq_n_0 _)
      by_cases e2 : j = n
      · rw [e2, pk_us, rq_nextR hG (by omega)]
      · rw [pk_un e2]; exact hw j (by omega)
theorem ry_e93 {post : SY → Prop} {A e : Nat → Fin 101} {T : Nat → Nat → Fin 101} {L last : Nat} (hL : L ≤ 8) (hlast : last ≤ 400) (hG : rq_G A e L) (hT : rq_tb tb T) (hT2 : ∀ i, i < L → T i 16 = - e (L - i)) (hw : ∀ j, j < 32 → wk j = rq_i (A j)) (h : ∀ (wk fa : Nat → Int32), (∀ j, j < 32 ∨ j ≤ last → wk j = rq_i (A j)) → post (te, wk, tb, fa)) : ∀ (d i : Nat) (fa : Nat → Int32), i + d = L → (∀ j, j < i → fa j = rq_i (- e (L - j))) → wY_extend_93 post (nI last) (nI L) (d + 1) (nI i) te wk tb fa := by
  intro d
  induction d with
  | zero =>
    intro i fa hi hf
    obtain rfl : i = L := by omega
    exact br_t (nI_le (Nat.le_refl _) (by omega)) ⟨370, ry_e125 hL hlast hG hf (fun wk hw => h wk fa hw) 369 32 wk (by omega) (by omega) (by omega) hw⟩
  | succ d ih =>
    intro i fa hi hf
    have xa : nI i * 17 + 16 = nI (i * 17 + 16) := rq_ix i 17 16
    refine br_f (nI_ge (by omega) (by omega)) ⟨pk_in (i * 17 + 16) 272 (by omega) xa, vp_in_nI (by omega) (by omega), nm_r (rq_up i rfl (by omega) (rq_rd (i * 17 + 16) xa (by omega) (rq_tbG hT (by omega) (by omega) (hT2 i (by omega))))) (nm_r (nI_1 i) (ih (i + 1) _ (by omega) (fun j hj => ?_)))⟩
    by_cases e2 : j = i
    · rw [e2, pk_us]
    · rw [pk_un e2]; exact hf j (by omega)
theorem ry_e7 {post : SY → Prop} {A : Nat → Fin 101} {U : Nat → Nat → Fin 101} {L last : Nat} (hL : L ≤ 8) (hlast : last ≤ 400) (hO : rq_O A L) (hw : ∀ j, j < 32 → wk j = rq_i (A j)) (h : ∀ (wk tb fa : Nat → Int32), (∀ j, j < 32 ∨ j ≤ last → wk j = rq_i (A j)) → post (te, wk, tb, fa)) : ∀ (d i : Nat) (tb : Nat → Int32), i + d = L → rq_tb tb (fun r c => if r < i then (if c < L then A (r + c) else if c = 16 then A (r + L) else 0) else U r c) → wY_extend_7 post (nI last) (nI L) (d + 1) (nI i) te wk tb fa := by
  intro d
  induction d with
  | zero =>
    intro i tb hi hT
    obtain rfl : i = L := by omega
    obtain ⟨e, hG⟩ := hO.1
    refine br_t (nI_le (Nat.le_refl _) (by omega)) ?_
    have h1 : ∀ r j, r < i → j < i → (fun r c => if r < i then (if c < i then A (r + c) else if c = 16 then A (r + i) else 0) else U r c) r j = A (r + j) := by
      intro r j hr hj
      dsimp only
      rw [if_pos hr, if_pos hj]
    have h2 : ∀ r, r < i → (fun r c => if r < i then (if c < i then A (r + c) else if c = 16 then A (r + i) else 0) else U r c) r 16 = A (r + i) := by
      intro r hr
      dsimp only
      rw [if_pos hr, if_neg (by omega), if_pos rfl]
    refine ry_elim (rq_HL hO (by omega) h1) hT (fun tb2 T hE hT2 => ⟨i + 1, ?_⟩)
    exact ry_e93 hL hlast hG hT2 (rq_fin hG (by omega) h1 h2 hE) hw (fun wk fa hh => h wk tb2 fa hh) i 0 fa (Nat.zero_add i) (fun j hj => absurd hj (Nat.not_lt_zero j))
  | succ d ih =>
    intro i tb hi hT
    refine br_f (nI_ge (by omega) (by omega)) ⟨18, ?_⟩
    refine ry_e15 (U := fun r c => if r < i then (if c < L then A (r + c) else if c = 16 then A (r + L) else 0) else U r c) hL (by omega) hw (fun tb2 hT2 => ih (i + 1) tb2 (by omega) (rq_tbC hT2 (fun r c _ _ => ?_))) 17 0 tb rfl (rq_tbC hT (fun r c _ _ => (if_neg (fun z => Nat.not_lt_zero _ z.2)).symm))
    by_cases e1 : r = i
    · rw [if_pos e1, if_pos (by omega : r < i + 1)]
    · rw [if_neg e1]
      by_cases e2 : r < i
      · rw [if_pos e2, if_pos (by omega : r < i + 1)]
      · rw [if_neg e2, if_neg (by omega)]
theorem ry_ext {post : SY → Prop} {A : Nat → Fin 101} {L last : Nat} (hL : L ≤ 8) (hlast : last ≤ 400) (hO : rq_O A L) (hw : ∀ j, j < 32 → wk j = rq_i (A j)) (h : ∀ (wk tb fa : Nat → Int32), (∀ j, j < 32 ∨ j ≤ last → wk j = rq_i (A j)) → post (te, wk, tb, fa)) : wpY_extend post (te, wk, tb, fa) (nI last) := by
  refine ry_rank hO (by omega) hw (fun tb2 T hT => ⟨L + 1, ?_⟩)
  exact ry_e7 (U := T) hL hlast hO hw h L 0 tb2 (Nat.zero_add L) (rq_tbC hT (fun r c _ _ => (if_neg (Nat.not_lt_zero _)).symm))
end
