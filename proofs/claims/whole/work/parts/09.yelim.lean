-- The reference's elimination, rank and settle
section
variable {te wk tb fa : Nat → Int32}
theorem ry_c89 {post : SY → Prop} {J : Int32 → (Nat → Int32) → (Nat → Int32) → (Nat → Int32) → (Nat → Int32) → Prop} {U : Nat → Nat → Fin 101} {row m col o : Nat} {t : Fin 101} (hrow : row < 16) (ho : o < 16) (h : ∀ tb : Nat → Int32, rq_tb tb (fun r c => if r = o ∧ r ≠ row then U r c - t * U row c else U r c) → J (nI (o + 1)) te wk tb fa) : ∀ (d i : Nat) (tb : Nat → Int32), i + d = 17 → rq_tb tb (fun r c => if (r = o ∧ r ≠ row) ∧ c < i then U r c - t * U row c else U r c) → wY_clearColumn_89 post J (nI row) (nI m) (nI col) (nI o) (rq_i t) (d + 1) (nI i) te wk tb fa := by
  intro d
  induction d with
  | zero =>
    intro i tb hi hT
    obtain rfl : i = 17 := by omega
    refine br_t (nI_le (a := 17) (by omega) (by omega)) (nm_r (nI_1 o) (h tb (rq_tbC hT (fun r c _ h2 => ?_))))
    by_cases e : r = o ∧ r ≠ row
    · rw [if_pos ⟨e, h2⟩, if_pos e]
    · rw [if_neg (fun z => e z.1), if_neg e]
  | succ d ih =>
    intro i tb hi hT
    refine br_f (nI_ge (b := 17) (by omega) (by decide)) ?_
    by_cases eo : o = row
    · refine br_t (by rw [eo]) (nm_r (nI_1 i) (ih (i + 1) tb (by omega) (rq_tbC hT (fun r c _ _ => ?_))))
      rw [if_neg (fun z => z.1.2 (z.1.1.trans eo)), if_neg (fun z => z.1.2 (z.1.1.trans eo))]
    · have xa : nI o * 17 + nI i = nI (o * 17 + i) := rq_ix o 17 i
      have xb : nI row * 17 + nI i = nI (row * 17 + i) := rq_ix row 17 i
      have ea : tb (nI o * 17 + nI i).toNatClampNeg = rq_i (U o i) := rq_rd (o * 17 + i) xa (by omega) (rq_tbG hT ho (by omega) (if_neg (by omega)))
      have eb : tb (nI row * 17 + nI i).toNatClampNeg = rq_i (U row i) := rq_rd (row * 17 + i) xb (by omega) (rq_tbG hT hrow (by omega) (if_neg (by omega)))
      refine br_f (fun z => eo ((nI_eq (by omega) (by omega)).mp z)) ⟨pk_in (o * 17 + i) 272 (by omega) xa, pk_in (row * 17 + i) 272 (by omega) xb, ?_⟩
      refine rq_modB (z := U o i - t * U row i) (M := 10100) ?_ ⟨pk_in (o * 17 + i) 272 (by omega) xa, nm_r (rq_up (o * 17 + i) xa (by omega) rfl) (nm_r (nI_1 i) (ih (i + 1) _ (by omega) (rq_tbC (rq_tbU hT (by omega)) (fun r c _ _ => ?_))))⟩
      · rw [ea, eb]; exact rq_b_sub (rq_b_i _) (rq_n_b (rq_n_mul (rq_n_i _) (rq_n_i _) (by decide))) (by decide)
      · by_cases e : r = o ∧ c = i
        · rw [if_pos e, if_pos (by omega), e.1, e.2]
        · rw [if_neg e]
          by_cases e2 : (r = o ∧ r ≠ row) ∧ c < i
          · rw [if_pos e2, if_pos (by omega)]
          · rw [if_neg e2, if_neg (by omega)]
theorem ry_c66 {post : SY → Prop} {T : Nat → Nat → Fin 101} {row m col : Nat} (hrow : row < m) (hm : m ≤ 16) (hcol : col < 17) (h : ∀ tb : Nat → Int32, rq_tb tb (fun r c => if r ≠ row ∧ r < m then T r c - T r col * T row c else T r c) → post (te, wk, tb, fa)) : ∀ (d o : Nat) (tb : Nat → Int32), o + d = m → rq_tb tb (fun r c => if r ≠ row ∧ r < o then T r c - T r col * T row c else T r c) → wY_clearColumn_66 post (nI row) (nI m) (nI col) (d + 1) (nI o) te wk tb fa := by
  intro d
  induction d with
  | zero =>
    intro o tb hi hT
    obtain rfl : o = m := by omega
    exact br_t (nI_le (Nat.le_refl _) (by omega)) (h tb hT)
  | succ d ih =>
    intro o tb hi hT
    have xa : nI o * 17 + nI col = nI (o * 17 + col) := rq_ix o 17 col
    have ea : tb (nI o * 17 + nI col).toNatClampNeg = rq_i (T o col) := rq_rd (o * 17 + col) xa (by omega) (rq_tbG hT (by omega) hcol (if_neg (by omega)))
    refine br_f (nI_ge (by omega) (by omega)) ⟨pk_in (o * 17 + col) 272 (by omega) xa, nm_r ea ⟨18, ?_⟩⟩
    refine ry_c89 (U := fun r c => if r ≠ row ∧ r < o then T r c - T r col * T row c else T r c) (t := T o col) (by omega) (by omega) (fun tb2 hT2 => ih (o + 1) tb2 (by omega) (rq_tbC hT2 (fun r c _ _ => ?_))) 17 0 tb rfl (rq_tbC hT (fun r c _ _ => (if_neg (fun z => Nat.not_lt_zero _ z.2)).symm))
    (try dsimp only)
    rw [if_neg (fun z => z.1 rfl : ¬ (row ≠ row ∧ row < o))]
    by_cases e : r = o ∧ r ≠ row
    · rw [if_pos e, if_neg (by omega), if_pos (by omega), e.1]
    · rw [if_neg e]
      by_cases e2 : r ≠ row ∧ r < o
      · rw [if_pos e2, if_pos (by omega)]
      · rw [if_neg e2, if_neg (by omega)]
theorem ry_c20 {post : SY → Prop} {T : Nat → Nat → Fin 101} {row m col : Nat} {y : Fin 101} (hrow : row < m) (hm : m ≤ 16) (hcol : col < 17) (h : ∀ tb : Nat → Int32, rq_tb tb (rq_clr T m row col y) → post (te, wk, tb, fa)) : ∀ (d i : Nat) (tb : Nat → Int32), i + d = 17 → rq_tb tb (fun r c => if r = row ∧ c < i then T r c * y else T r c) → wY_clearColumn_20 post (nI row) (nI m) (nI col) (rq_i y) (d + 1) (nI i) te wk tb fa := by
  intro d
  induction d with
  | zero =>
    intro i tb hi hT
    obtain rfl : i = 17 := by omega
    refine br_t (nI_le (a := 17) (by omega) (by omega)) ⟨m + 1, ?_⟩
    refine ry_c66 (T := fun r c => if r = row then T r c * y else T r c) hrow hm hcol (fun tb2 hT2 => h tb2 (rq_tbC hT2 (fun r c _ _ => ?_))) m 0 tb (Nat.zero_add m) (rq_tbC hT (fun r c _ h2 => ?_))
    · (try dsimp only)
      unfold rq_clr
      rw [if_pos rfl]
      by_cases e : r = row
      · rw [if_neg (fun z => z.1 e), if_pos e, if_pos e]
      · rw [if_neg e, if_neg e, if_neg e]
        by_cases e2 : r < m
        · rw [if_pos ⟨e, e2⟩, if_pos e2]
        · rw [if_neg (fun z => e2 z.2), if_neg e2]
    · (try dsimp only)
      rw [if_neg (fun z => Nat.not_lt_zero _ z.2 : ¬ (r ≠ row ∧ r < 0))]
      by_cases e : r = row
      · rw [if_pos ⟨e, h2⟩, if_pos e]
      · rw [if_neg (fun z => e z.1), if_neg e]
  | succ d ih =>
    intro i tb hi hT
    have xa : nI row * 17 + nI i = nI (row * 17 + i) := rq_ix row 17 i
    have ea : tb (nI row * 17 + nI i).toNatClampNeg = rq_i (T row i) := rq_rd (row * 17 + i) xa (by omega) (rq_tbG hT (by omega) (by omega) (if_neg (by omega)))
    refine br_f (nI_ge (b := 17) (by omega) (by decide)) ⟨pk_in (row * 17 + i) 272 (by omega) xa, rq_ne, pk_in (row * 17 + i) 272 (by omega) xa, nm_r (rq_up (w := rq_i (T row i * y)) (row * 17 + i) xa (by omega) ?_) (nm_r (nI_1 i) (ih (i + 1) _ (by omega) (rq_tbC (rq_tbU hT (by omega)) (fun r c _ _ => ?_))))⟩
    · rw [ea]; exact rq_rem (rq_n_mul (rq_n_i _) (rq_n_i _) (by decide))
    · by_cases e : r = row ∧ c = i
      · rw [if_pos e, if_pos (by omega), e.1, e.2]
      · rw [if_neg e]
        by_cases e2 : r = row ∧ c < i
        · rw [if_pos e2, if_pos (by omega)]
        · rw [if_neg e2, if_neg (by omega)]
theorem ry_clr {post : SY → Prop} {T : Nat → Nat → Fin 101} {row m col : Nat} (hT : rq_tb tb T) (hrow : row < m) (hm : m ≤ 16) (hcol : col < 17) (hne : T row col ≠ 0) (h : ∀ (tb : Nat → Int32) (y : Fin 101), T row col * y = 1 → rq_tb tb (rq_clr T m row col y) → post (te, wk, tb, fa)) : wpY_clearColumn post (te, wk, tb, fa) (nI row) (nI m) (nI col) := by
  have xa : nI row * 17 + nI col = nI (row * 17 + col) := rq_ix row 17 col
  have ea : tb (nI row * 17 + nI col).toNatClampNeg = rq_i (T row col) := rq_rd (row * 17 + col) xa (by omega) (hT row col (by omega) hcol)
  refine ⟨pk_in (row * 17 + col) 272 (by omega) xa, ?_⟩
  rw [ea]
  exact ry_inv hne (fun y hy => ⟨18, ry_c20 hrow hm hcol (fun tb2 h2 => h tb2 y hy h2) 17 0 tb rfl (rq_tbC hT (fun r c _ _ => (if_neg (fun z => Nat.not_lt_zero _ z.2)).symm))⟩)
theorem ry_el4 {post : Int32 → SY → Prop} {T0 : Nat → Nat → Fin 101} {m R : Nat} (hH : rq_H T0 m R) (h : ∀ (tb : Nat → Int32) (T : Nat → Nat → Fin 101), rq_E T0 T m R m R → rq_tb tb T → post (nI R) (te, wk, tb, fa)) : ∀ (d c r : Nat) (tb : Nat → Int32) (T : Nat → Nat → Fin 101), c + d = m → rq_E T0 T m R c r → rq_tb tb T → wY_eliminate_4 post (nI m) (d + 1) (nI r) (nI c) te wk tb fa := by
  intro d
  have hm : m ≤ 16 := hH.2.1
  have hR : R ≤ m := hH.1
  induction d with
  | zero =>
    intro c r tb T hi hE hT
    obtain rfl : c = m := by omega
    obtain rfl : r = R := by have := hE.1; omega
    exact br_t (nI_le (Nat.le_refl _) (by omega)) (h tb T hE hT)
  | succ d ih =>
    intro c r tb T hi hE hT
    have hrc : r ≤ c := by have := hE.1; omega
    refine br_f (nI_ge (by omega) (by omega)) ?_
    refine ry_piv hT hm (by omega) (by omega) (fun p h1 h2 h3 => ?_) (fun hz => ?_)
    · refine br_f (nI_pos (by omega)) (ry_ex hT (by omega) (by omega) (fun tb2 hT2 => ?_))
      refine ry_clr hT2 (by omega) hm (by omega) ?_ (fun tb3 y hy hT3 => ?_)
      · rw [rq_swap, if_pos rfl]; exact h3
      · exact nm_r (nI_1 r) (nm_r (nI_1 c) (ih (c + 1) (r + 1) tb3 _ (by omega) (rq_Estep hE hH (by omega) h1 h2 h3 hy) hT3))
    · exact br_t (by decide) (nm_r (nI_1 c) (ih (c + 1) r tb T (by omega) (rq_Epiv hE hH (by omega) hz) hT))
theorem ry_elim {post : Int32 → SY → Prop} {T0 : Nat → Nat → Fin 101} {m R : Nat} (hH : rq_H T0 m R) (hT : rq_tb tb T0) (h : ∀ (tb : Nat → Int32) (T : Nat → Nat → Fin 101), rq_E T0 T m R m R → rq_tb tb T → post (nI R) (te, wk, tb, fa)) : wpY_eliminate post (te, wk, tb, fa) (nI m) :=
  ⟨m + 1, ry_el4 hH h m 0 0 tb T0 (Nat.zero_add m) (rq_E0 T0 m R) hT⟩
theorem ry_r10 {post : Int32 → SY → Prop} {J : Int32 → (Nat → Int32) → (Nat → Int32) → (Nat → Int32) → (Nat → Int32) → Prop} {A : Nat → Fin 101} {T0 : Nat → Nat → Fin 101} {i : Nat} (hi : i < 16) (hw : ∀ j, j < 32 → wk j = rq_i (A j)) (h0 : ∀ r c, c < 16 → T0 r c = A (r + c)) (h1 : ∀ r, T0 r 16 = 0) (h : ∀ tb : Nat → Int32, (∀ r c, r < 16 → c < 17 → r < i + 1 → tb (r * 17 + c) = rq_i (T0 r c)) → J (nI (i + 1)) te wk tb fa) : ∀ (d j : Nat) (tb : Nat → Int32), j + d = 16 → (∀ r c, r < 16 → c < 17 → (r < i ∨ (r = i ∧ c < j)) → tb (r * 17 + c) = rq_i (T0 r c)) → wY_rank_10 post J (nI i) (d + 1) (nI j) te wk tb fa := by
  intro d
  induction d with
  | zero =>
    intro j tb hj hT
    obtain rfl : j = 16 := by omega
    have xa : nI i * 17 + 16 = nI (i * 17 + 16) := rq_ix i 17 16
    refine br_t (nI_le (a := 16) (by omega) (by omega)) ⟨pk_in (i * 17 + 16) 272 (by omega) xa, nm_r (rq_up (i * 17 + 16) xa (by omega) rfl) (nm_r (nI_1 i) (h _ (fun r c r1 r2 r3 => ?_)))⟩
    by_cases e : r = i ∧ c = 16
    · rw [e.1, e.2, pk_us, h1, rq_i_0]
    · rw [pk_un (by omega)]; exact hT r c r1 r2 (by omega)
  | succ d ih =>
    intro j tb hj hT
    have xa : nI i * 17 + nI j = nI (i * 17 + j) := rq_ix i 17 j
    have xb : nI i + nI j = nI (i + j) := nI_add i j
    refine br_f (nI_ge (b := 16) (by omega) (by decide)) ⟨pk_in (i + j) 402 (by omega) xb, pk_in (i * 17 + j) 272 (by omega) xa, nm_r (rq_up (i * 17 + j) xa (by omega) (rq_rd (i + j) xb (by omega) (hw _ (by omega)))) (nm_r (nI_1 j) (ih (j + 1) _ (by omega) (fun r c r1 r2 r3 => ?_)))⟩
    by_cases e : r = i ∧ c = j
    · rw [e.1, e.2, pk_us, h0 i j (by omega)]
    · rw [pk_un (by omega)]; exact hT r c r1 r2 (by omega)
theorem ry_r2 {post : Int32 → SY → Prop} {A : Nat → Fin 101} {L : Nat} (hO : rq_O A L) (hL : L ≤ 16) (hw : ∀ j, j < 32 → wk j = rq_i (A j)) (h : ∀ (tb : Nat → Int32) (T : Nat → Nat → Fin 101), rq_tb tb T → post (nI L) (te, wk, tb, fa)) : ∀ (d i : Nat) (tb : Nat → Int32), i + d = 16 → (∀ r c, r < 16 → c < 17 → r < i → tb (r * 17 + c) = rq_i (if c < 16 then A (r + c) else 0)) → wY_rank_2 post (d + 1) (nI i) te wk tb fa := by
  intro d
  induction d with
  | zero =>
    intro i tb hi hT
    obtain rfl : i = 16 := by omega
    refine br_t (nI_le (a := 16) (by omega) (by omega)) ?_
    exact ry_elim (T0 := fun r c => if c < 16 then A (r + c) else 0) (m := 16) (R := L) (rq_H16 hO hL (fun i j _ hj => if_pos hj)) (fun r c r1 r2 => hT r c r1 r2 r1) (fun tb2 T _ hT2 => h tb2 T hT2)
  | succ d ih =>
    intro i tb hi hT
    refine br_f (nI_ge (b := 16) (by omega) (by decide)) ⟨17, ?_⟩
    exact ry_r10 (T0 := fun r c => if c < 16 then A (r + c) else 0) (by omega) hw (fun r c hc => if_pos hc) (fun r => rfl) (fun tb2 hT2 => ih (i + 1) tb2 (by omega) hT2) 16 0 tb rfl (fun r c r1 r2 r3 => hT r c r1 r2 (by omega))
theorem ry_rank {post : Int32 → SY → Prop} {A : Nat → Fin 101} {L : Nat} (hO : rq_O A L) (hL : L ≤ 16) (hw : ∀ j, j < 32 → wk j = rq_i (A j)) (h : ∀ (tb : Nat → Int32) (T : Nat → Nat → Fin 101), rq_tb tb T → post (nI L) (te, wk, tb, fa)) : wpY_rank post (te, wk, tb, fa) :=
  ⟨17, ry_r2 hO hL hw h 16 0 tb rfl (fun r c _ _ h3 => absurd h3 (Nat.not_lt_zero r))⟩
theorem ry_settle {post : Int32 → SY → Prop} {B : Nat → Fin 101} {L s : Nat} (hs : s < 4) (hO : rq_O B L) (hL : L ≤ 16) (hw : ∀ j, j < 32 → wk j = rq_i (B j)) (h1 : L ≤ 8 → ∀ tb : Nat → Int32, post (nI L) (rq_w te (s * 32) (s * 32 + 32) (fun j => rq_i (B (j - s * 32))), wk, tb, fa)) (h2 : 8 < L → ∀ tb : Nat → Int32, post (-3) (te, wk, tb, fa)) : wpY_settle post (te, wk, tb, fa) (nI s) := by
  refine ry_rank hO hL hw (fun tb2 T hT => ?_)
  refine pk_le L 8 (fun h8 => ?_) (fun h8 => h2 h8 tb2)
  exact ry_store hs hw (h1 h8 tb2)
end
