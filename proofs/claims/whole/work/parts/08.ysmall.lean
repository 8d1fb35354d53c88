-- The reference's private methods: inverse, load, store, the table
section
variable {te wk tb fa : Nat → Int32}
theorem ry_inv2 {post : Int32 → Prop} {x : Fin 101} (hx : x ≠ 0) (h : ∀ y : Fin 101, x * y = 1 → post (rq_i y)) : ∀ d i : Nat, i + d = 101 → (∀ j : Fin 101, j.val < i → x * j ≠ 1) → wY_inverse_2 post (rq_i x) te wk tb fa (d + 1) (nI i) := by
  intro d
  induction d with
  | zero =>
    intro i hi hj
    exfalso
    refine hj (rq_pow x 99) (by have := (rq_pow x 99).isLt; omega) ?_
    have := rq_inv x hx
    grind
  | succ d ih =>
    intro i hi hj
    have e : rq_i x * nI i - rq_i x * nI i / 101 * 101 = rq_i (x * ⟨i, by omega⟩) := rq_rem (rq_n_mul (rq_n_i x) (rq_n_i ⟨i, by omega⟩) (by decide))
    refine br_f (nI_ge (b := 101) (by omega) (by decide)) ⟨rq_ne, ?_⟩
    by_cases hy : x * ⟨i, by omega⟩ = 1
    · exact br_t (by rw [e, hy, rq_i_1]) (h ⟨i, by omega⟩ hy)
    · refine br_f (fun z => hy (rq_i_inj (e.symm.trans (z.trans rq_i_1.symm)))) (nm_r (nI_1 i) (ih (i + 1) (by omega) (fun j h2 => ?_)))
      by_cases e2 : j.val = i
      · intro z
        exact hy (by rw [← z]; exact congrArg (x * ·) (Fin.ext e2.symm))
      · exact hj j (by omega)
theorem ry_inv {post : Int32 → Prop} {x : Fin 101} (hx : x ≠ 0) (h : ∀ y : Fin 101, x * y = 1 → post (rq_i y)) : wpY_inverse post (te, wk, tb, fa) (rq_i x) := by
  refine ⟨101, ry_inv2 hx h 100 1 rfl (fun j hj => ?_)⟩
  have : j = 0 := Fin.ext (by omega)
  rw [this]
  intro z
  have h2 : (0 : Fin 101) = 1 := by rw [← z]; grind
  exact absurd h2 (by decide)
theorem ry_load2 {post : SY → Prop} {s : Nat} (hs : s < 4) : ∀ (d i : Nat) (wk : Nat → Int32), i + d = 32 → post (te, rq_w wk i 32 (fun j => te (s * 32 + j)), tb, fa) → wY_load_2 post (nI s) (d + 1) (nI i) te wk tb fa := by
  intro d
  induction d with
  | zero =>
    intro i wk hi hp
    obtain rfl : i = 32 := by omega
    rw [rq_w_end] at hp
    exact br_t (nI_le (a := 32) (by omega) (by omega)) hp
  | succ d ih =>
    intro i wk hi hp
    have ex : nI s * 32 + nI i = nI (s * 32 + i) := rq_ix s 32 i
    refine br_f (nI_ge (b := 32) (by omega) (by decide)) ⟨pk_in (s * 32 + i) 128 (by omega) ex, vp_in_nI (by omega) (by omega), nm_r (rq_up i rfl (by omega) (rq_rd (s * 32 + i) ex (by omega) rfl)) (nm_r (nI_1 i) (ih (i + 1) _ (by omega) ?_))⟩
    rw [rq_w_step (g := fun j => te (s * 32 + j)) (by omega) rfl]; exact hp
theorem ry_load {post : SY → Prop} {s : Nat} {A : Nat → Fin 101} (hs : s < 4) (ht : ∀ j, j < 32 → te (s * 32 + j) = rq_i (A j)) (h : ∀ wk : Nat → Int32, (∀ j, j < 32 → wk j = rq_i (A j)) → post (te, wk, tb, fa)) : wpY_load post (te, wk, tb, fa) (nI s) :=
  ⟨33, ry_load2 hs 32 0 wk rfl (h _ (fun j hj => by rw [rq_w_in (Nat.zero_le _) hj]; exact ht j hj))⟩
theorem ry_store2 {post : SY → Prop} {s : Nat} {B : Nat → Fin 101} (hs : s < 4) (hw : ∀ j, j < 32 → wk j = rq_i (B j)) : ∀ (d i : Nat) (te : Nat → Int32), i + d = 32 → post (rq_w te (s * 32 + i) (s * 32 + 32) (fun j => rq_i (B (j - s * 32))), wk, tb, fa) → wY_store_2 post (nI s) (d + 1) (nI i) te wk tb fa := by
  intro d
  induction d with
  | zero =>
    intro i te hi hp
    obtain rfl : i = 32 := by omega
    rw [rq_w_end] at hp
    exact br_t (nI_le (a := 32) (by omega) (by omega)) hp
  | succ d ih =>
    intro i te hi hp
    have ex : nI s * 32 + nI i = nI (s * 32 + i) := rq_ix s 32 i
    refine br_f (nI_ge (b := 32) (by omega) (by decide)) ⟨vp_in_nI (by omega) (by omega), pk_in (s * 32 + i) 128 (by omega) ex, nm_r (rq_up (s * 32 + i) ex (by omega) (rq_rd i rfl (by omega) (hw i (by omega)))) (nm_r (nI_1 i) (ih (i + 1) _ (by omega) ?_))⟩
    rw [← Nat.add_assoc, rq_w_step (by omega) (by rw [Nat.add_sub_cancel_left])]; exact hp
theorem ry_store {post : SY → Prop} {s : Nat} {B : Nat → Fin 101} (hs : s < 4) (hw : ∀ j, j < 32 → wk j = rq_i (B j)) (h : post (rq_w te (s * 32) (s * 32 + 32) (fun j => rq_i (B (j - s * 32))), wk, tb, fa)) : wpY_store post (te, wk, tb, fa) (nI s) :=
  ⟨33, ry_store2 hs hw 32 0 te rfl h⟩
/-- tb shows the table T -/
def rq_tb (tb : Nat → Int32) (T : Nat → Nat → Fin 101) : Prop := ∀ r c, r < 16 → c < 17 → tb (r * 17 + c) = rq_i (T r c)
theorem rq_tbU {T : Nat → Nat → Fin 101} {r c : Nat} {x : Fin 101} (h : rq_tb tb T) (hc : c < 17) : rq_tb (upd tb (r * 17 + c) (rq_i x)) (fun r' c' => if r' = r ∧ c' = c then x else T r' c') := by
  intro r' c' h1 h2
  show _ = rq_i (if r' = r ∧ c' = c then x else T r' c')
  by_cases e : r' = r ∧ c' = c
  · rw [if_pos e, e.1, e.2, pk_us]
  · rw [if_neg e, pk_un (by omega)]; exact h r' c' h1 h2
theorem rq_tbC {T T' : Nat → Nat → Fin 101} (h : rq_tb tb T) (e : ∀ r c, r < 16 → c < 17 → T r c = T' r c) : rq_tb tb T' := fun r c h1 h2 => by rw [← e r c h1 h2]; exact h r c h1 h2
theorem rq_tbG {T : Nat → Nat → Fin 101} {r c : Nat} {x : Fin 101} (h : rq_tb tb T) (h1 : r < 16) (h2 : c < 17) (e : T r c = x) : tb (r * 17 + c) = rq_i x := by rw [← e]; exact h r c h1 h2
theorem ry_piv3 {post : Int32 → Prop} {T : Nat → Nat → Fin 101} {m c r : Nat} (hT : rq_tb tb T) (hm : m ≤ 16) (hc : c < 17) (h1 : ∀ p, r ≤ p → p < m → T p c ≠ 0 → post (nI p)) (h2 : (∀ i, r ≤ i → i < m → T i c = 0) → post (-1)) : ∀ d i : Nat, i + d = m → r ≤ i → (∀ j, r ≤ j → j < i → T j c = 0) → wY_pivot_3 post (nI m) (nI c) te wk tb fa (d + 1) (nI i) := by
  intro d
  induction d with
  | zero =>
    intro i hi hr hz
    obtain rfl : i = m := by omega
    exact br_t (nI_le (Nat.le_refl _) (by omega)) (h2 hz)
  | succ d ih =>
    intro i hi hr hz
    have ex : nI i * 17 + nI c = nI (i * 17 + c) := rq_ix i 17 c
    have e : tb (nI i * 17 + nI c).toNatClampNeg = rq_i (T i c) := rq_rd (i * 17 + c) ex (by omega) (hT i c (by omega) hc)
    refine br_f (nI_ge (by omega) (by omega)) ⟨pk_in (i * 17 + c) 272 (by omega) ex, ?_⟩
    by_cases hy : T i c = 0
    · refine br_t (by rw [e, hy, rq_i_0]) (nm_r (nI_1 i) (ih (i + 1) (by omega) (by omega) (fun j j1 j2 => ?_)))
      by_cases e2 : j = i
      · rw [e2]; exact hy
      · exact hz j j1 (by omega)
    · exact br_f (fun z => hy (rq_i_eq0.mp (e.symm.trans z))) (h1 i hr (by omega) hy)
theorem ry_piv {post : Int32 → Prop} {T : Nat → Nat → Fin 101} {m c r : Nat} (hT : rq_tb tb T) (hm : m ≤ 16) (hc : c < 17) (hr : r ≤ m) (h1 : ∀ p, r ≤ p → p < m → T p c ≠ 0 → post (nI p)) (h2 : (∀ i, r ≤ i → i < m → T i c = 0) → post (-1)) : wpY_pivot post (te, wk, tb, fa) (nI r) (nI m) (nI c) :=
  ⟨m - r + 1, ry_piv3 hT hm hc h1 h2 (m - r) r (by omega) (Nat.le_refl _) (fun j j1 j2 => by omega)⟩
theorem ry_ex2 {post : SY → Prop} {T : Nat → Nat → Fin 101} {a b : Nat} (ha : a < 16) (hb : b < 16) (h : ∀ tb : Nat → Int32, rq_tb tb (rq_swap T a b) → post (te, wk, tb, fa)) : ∀ (d i : Nat) (tb : Nat → Int32), i + d = 17 → rq_tb tb (fun r c => if c < i then rq_swap T a b r c else T r c) → wY_exchange_2 post (nI a) (nI b) (d + 1) (nI i) te wk tb fa := by
  intro d
  induction d with
  | zero =>
    intro i tb hi hT
    obtain rfl : i = 17 := by omega
    exact br_t (nI_le (a := 17) (by omega) (by omega)) (h tb (rq_tbC hT (fun r c _ h2 => if_pos h2)))
  | succ d ih =>
    intro i tb hi hT
    have xa : nI a * 17 + nI i = nI (a * 17 + i) := rq_ix a 17 i
    have xb : nI b * 17 + nI i = nI (b * 17 + i) := rq_ix b 17 i
    have ea : tb (nI a * 17 + nI i).toNatClampNeg = rq_i (T a i) := rq_rd (a * 17 + i) xa (by omega) (rq_tbG hT ha (by omega) (if_neg (by omega)))
    have eb : tb (nI b * 17 + nI i).toNatClampNeg = rq_i (T b i) := rq_rd (b * 17 + i) xb (by omega) (rq_tbG hT hb (by omega) (if_neg (by omega)))
    refine br_f (nI_ge (b := 17) (by omega) (by decide)) ⟨pk_in (a * 17 + i) 272 (by omega) xa, nm_r ea ⟨pk_in (b * 17 + i) 272 (by omega) xb, pk_in (a * 17 + i) 272 (by omega) xa, nm_r (rq_up (a * 17 + i) xa (by omega) eb) ⟨pk_in (b * 17 + i) 272 (by omega) xb, nm_r (rq_up (b * 17 + i) xb (by omega) rfl) (nm_r (nI_1 i) (ih (i + 1) _ (by omega) ?_))⟩⟩⟩
    refine rq_tbC (rq_tbU (rq_tbU hT (by omega)) (by omega)) (fun r c h1 h2 => ?_)
    by_cases e : c = i
    · subst e
      rw [if_pos (by omega : c < c + 1), rq_swap]
      by_cases e1 : r = b
      · rw [if_pos ⟨e1, rfl⟩]
        by_cases e2 : r = a
        · rw [if_pos e2, ← e1, ← e2]
        · rw [if_neg e2, if_pos e1]
      · rw [if_neg (by omega)]
        by_cases e2 : r = a
        · rw [if_pos ⟨e2, rfl⟩, if_pos e2]
        · rw [if_neg (by omega), if_neg (by omega), if_neg e2, if_neg e1]
    · rw [if_neg (by omega), if_neg (by omega)]
      by_cases e2 : c < i
      · rw [if_pos e2, if_pos (by omega)]
      · rw [if_neg e2, if_neg (by omega)]
theorem ry_ex {post : SY → Prop} {T : Nat → Nat → Fin 101} {a b : Nat} (hT : rq_tb tb T) (ha : a < 16) (hb : b < 16) (h : ∀ tb : Nat → Int32, rq_tb tb (rq_swap T a b) → post (te, wk, tb, fa)) : wpY_exchange post (te, wk, tb, fa) (nI a) (nI b) :=
  ⟨18, ry_ex2 ha hb h 17 0 tb rfl hT⟩
end
