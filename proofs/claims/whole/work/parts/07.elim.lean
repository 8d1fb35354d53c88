-- Pure part: elimination keeps the kernel; Hankel tables
theorem rq_sm_one {f : Nat → Fin 101} {n i : Nat} (hi : i < n) (hz : ∀ j, j < n → j ≠ i → f j = 0) : rq_sm f n = f i := by
  have h1 : rq_sm f n = rq_sm f (i + 1) := rq_sm_ext (by omega) (fun j h1 h2 => hz j h2 (by omega))
  rw [h1, rq_sm, rq_sm_zero i (fun j hj => hz j (by omega) (by omega))]; grind
theorem rq_sm_rev (f : Nat → Fin 101) : ∀ n : Nat, rq_sm (fun j => f (n - j)) (n + 1) = rq_sm f (n + 1) := by
  intro n
  induction n with
  | zero => rfl
  | succ n ih =>
    rw [rq_sm_front, rq_sm_congr (g := fun j => f (n - j)) (n + 1) (fun j _ => by rw [Nat.add_sub_add_right]), ih, Nat.sub_zero, rq_sm.eq_2 f (n + 1)]; grind
/-- the first m rows of T send v to zero -/
def rq_K (T : Nat → Nat → Fin 101) (m : Nat) (v : Nat → Fin 101) : Prop := ∀ r, r < m → rq_sm (fun c => T r c * v c) 17 = 0
def rq_swap (T : Nat → Nat → Fin 101) (a b : Nat) : Nat → Nat → Fin 101 := fun r c => if r = a then T b c else if r = b then T a c else T r c
def rq_sg (a b r : Nat) : Nat := if r = a then b else if r = b then a else r
theorem rq_swapE (T : Nat → Nat → Fin 101) (a b r c : Nat) : rq_swap T a b r c = T (rq_sg a b r) c := by
  unfold rq_swap rq_sg
  split
  · rfl
  · split
    · rfl
    · rfl
theorem rq_sgsg (a b r : Nat) : rq_sg a b (rq_sg a b r) = r := by
  unfold rq_sg
  by_cases h1 : r = a
  · rw [if_pos h1]
    by_cases h2 : b = a
    · rw [if_pos h2]; omega
    · rw [if_neg h2, if_pos rfl]; omega
  · rw [if_neg h1]
    by_cases h2 : r = b
    · rw [if_pos h2, if_pos rfl]; omega
    · rw [if_neg h2, if_neg h1, if_neg h2]
theorem rq_sglt {a b r m : Nat} (ha : a < m) (hb : b < m) (hr : r < m) : rq_sg a b r < m := by
  unfold rq_sg
  split
  · exact hb
  · split
    · exact ha
    · exact hr
theorem rq_Kswap {T : Nat → Nat → Fin 101} {a b m : Nat} (ha : a < m) (hb : b < m) (v : Nat → Fin 101) : rq_K (rq_swap T a b) m v ↔ rq_K T m v := by
  have key : ∀ r, rq_sm (fun c => rq_swap T a b r c * v c) 17 = rq_sm (fun c => T (rq_sg a b r) c * v c) 17 := fun r => rq_sm_congr _ (fun c _ => by rw [rq_swapE])
  constructor
  · intro h r hr
    have := h (rq_sg a b r) (rq_sglt ha hb hr)
    rw [key, rq_sgsg] at this
    exact this
  · intro h r hr
    rw [key]
    exact h _ (rq_sglt ha hb hr)
def rq_clr (T : Nat → Nat → Fin 101) (m row col : Nat) (y : Fin 101) : Nat → Nat → Fin 101 := fun r c => if r = row then T r c * y else if r < m then T r c - T r col * (T row c * y) else T r c
theorem rq_Kclr {T : Nat → Nat → Fin 101} {m row col : Nat} {y : Fin 101} (hrow : row < m) (hy : T row col * y = 1) (v : Nat → Fin 101) : rq_K (rq_clr T m row col y) m v ↔ rq_K T m v := by
  have k1 : rq_sm (fun c => rq_clr T m row col y row c * v c) 17 = y * rq_sm (fun c => T row c * v c) 17 := by
    rw [← rq_sm_mul]
    refine rq_sm_congr _ (fun c _ => ?_)
    rw [rq_clr, if_pos rfl]; grind
  have k2 : ∀ r, r < m → r ≠ row → rq_sm (fun c => rq_clr T m row col y r c * v c) 17 = rq_sm (fun c => T r c * v c) 17 + (- (T r col * y)) * rq_sm (fun c => T row c * v c) 17 := by
    intro r hr hne
    rw [← rq_sm_mul, ← rq_sm_add]
    refine rq_sm_congr _ (fun c _ => ?_)
    rw [rq_clr, if_neg hne, if_pos hr]; grind
  constructor
  · intro h
    have h0 : rq_sm (fun c => T row c * v c) 17 = 0 := by
      have := h row hrow
      rw [k1] at this
      grind
    intro r hr
    by_cases e : r = row
    · rw [e]; exact h0
    · have := h r hr
      rw [k2 r hr e, h0] at this
      grind
  · intro h r hr
    by_cases e : r = row
    · rw [e, k1, h row hrow]; grind
    · rw [k2 r hr e, h row hrow, h r hr]; grind
/-- what a table must keep so that its elimination ends at rank R -/
def rq_H (T0 : Nat → Nat → Fin 101) (m R : Nat) : Prop := R ≤ m ∧ m ≤ 16 ∧ (∀ (c : Nat) (v : Nat → Fin 101), c < R → v c = 1 → (∀ j, c < j → v j = 0) → ¬ rq_K T0 m v) ∧ (∀ c : Nat, R ≤ c → c < m → ∃ v : Nat → Fin 101, v c = 1 ∧ (∀ j, c < j → v j = 0) ∧ rq_K T0 m v)
def rq_E (T0 T : Nat → Nat → Fin 101) (m R c r : Nat) : Prop := ((c ≤ R ∧ r = c) ∨ (R ≤ c ∧ r = R)) ∧ (∀ i j, i < m → j < r → T i j = if i = j then 1 else 0) ∧ (∀ i j, r ≤ i → i < m → j < c → T i j = 0) ∧ (∀ v, rq_K T m v ↔ rq_K T0 m v)
theorem rq_E0 (T0 : Nat → Nat → Fin 101) (m R : Nat) : rq_E T0 T0 m R 0 0 := ⟨Or.inl ⟨Nat.zero_le _, rfl⟩, fun _ j _ h => absurd h (Nat.not_lt_zero j), fun _ j _ _ h => absurd h (Nat.not_lt_zero j), fun _ => Iff.rfl⟩
theorem rq_Epiv {T0 T : Nat → Nat → Fin 101} {m R c r : Nat} (hE : rq_E T0 T m R c r) (hH : rq_H T0 m R) (hc : c < m) (hz : ∀ i, r ≤ i → i < m → T i c = 0) : rq_E T0 T m R (c + 1) r := by
  obtain ⟨E1, E2, E3, E4⟩ := hE
  obtain ⟨H0, H1, H2, H3⟩ := hH
  have hR : R ≤ c := by
    refine Nat.le_of_not_lt (fun hlt => ?_)
    have hr : r = c := by omega
    subst hr
    refine H2 r (fun j => if j = r then 1 else if j < r then - T j r else 0) hlt (if_pos rfl) (fun j hj => by rw [if_neg (by omega), if_neg (by omega)]) ((E4 _).mp (fun i hi => ?_))
    rw [rq_sm_ext (m := r + 1) (by omega) (fun j h1 h2 => by (try dsimp only); rw [if_neg (by omega), if_neg (by omega)]; grind), rq_sm]
    (try dsimp only)
    rw [if_pos rfl]
    by_cases e : i < r
    · rw [rq_sm_one (i := i) e (fun j hj hne => by (try dsimp only); rw [E2 i j hi hj, if_neg (fun z => hne z.symm)]; grind)]
      (try dsimp only)
      rw [if_neg (by omega), if_pos e, E2 i i hi e, if_pos rfl]; grind
    · rw [rq_sm_zero r (fun j hj => by rw [E3 i j (by omega) hi hj]; grind), hz i (by omega) hi]; grind
  refine ⟨Or.inr ⟨by omega, by omega⟩, E2, fun i j h1 h2 h3 => ?_, E4⟩
  by_cases e : j = c
  · rw [e]; exact hz i h1 h2
  · exact E3 i j h1 h2 (by omega)
theorem rq_Enop {T0 T : Nat → Nat → Fin 101} {m R c r : Nat} (hE : rq_E T0 T m R c r) (hH : rq_H T0 m R) (hc : c < m) (hR : R ≤ c) : ∀ i, r ≤ i → i < m → T i c = 0 := by
  obtain ⟨E1, E2, E3, E4⟩ := hE
  obtain ⟨H0, H1, H2, H3⟩ := hH
  intro i h1 h2
  obtain ⟨v, v1, v2, v3⟩ := H3 c hR hc
  have := (E4 v).mpr v3 i h2
  rw [rq_sm_one (i := c) (by omega) (fun j hj hne => by
    by_cases e : j < c
    · rw [E3 i j h1 h2 e]; grind
    · rw [v2 j (by omega)]; grind), v1] at this
  grind
theorem rq_Estep {T0 T : Nat → Nat → Fin 101} {m R c r p : Nat} {y : Fin 101} (hE : rq_E T0 T m R c r) (hH : rq_H T0 m R) (hc : c < m) (hp : r ≤ p) (hpm : p < m) (hne : T p c ≠ 0) (hy : rq_swap T r p r c * y = 1) : rq_E T0 (rq_clr (rq_swap T r p) m r c y) m R (c + 1) (r + 1) := by
  have hcR : c < R := by
    refine Nat.lt_of_not_le (fun hR => hne (rq_Enop hE hH hc hR p hp hpm))
  obtain ⟨E1, E2, E3, E4⟩ := hE
  obtain ⟨H0, H1, H2, H3⟩ := hH
  have hr : r = c := by omega
  subst hr
  have hS : ∀ i j, i < m → j < r → rq_swap T r p i j = if i = j then 1 else 0 := by
    intro i j hi hj
    unfold rq_swap
    by_cases e1 : i = r
    · rw [if_pos e1, if_neg (by omega), E3 p j hp hpm hj]
    · rw [if_neg e1]
      by_cases e2 : i = p
      · rw [if_pos e2, if_neg (by omega), E3 r j (Nat.le_refl _) (by omega) hj]
      · rw [if_neg e2]; exact E2 i j hi hj
  have key : ∀ i j, i < m → j < r + 1 → rq_clr (rq_swap T r p) m r r y i j = if i = j then 1 else 0 := by
    intro i j hi hj
    unfold rq_clr
    by_cases e1 : i = r
    · rw [if_pos e1]
      by_cases e2 : j = r
      · rw [e1, e2, if_pos rfl]; exact hy
      · rw [hS i j hi (by omega), if_neg (by omega)]; grind
    · rw [if_neg e1, if_pos hi]
      by_cases e2 : j = r
      · rw [e2, hy, if_neg e1]; grind
      · rw [hS r j (by omega) (by omega), if_neg (by omega : ¬ r = j), hS i j hi (by omega)]; grind
  refine ⟨Or.inl ⟨by omega, rfl⟩, key, fun i j h1 h2 h3 => ?_, fun v => ?_⟩
  · rw [key i j h2 h3, if_neg (by omega)]
  · exact (rq_Kclr (by omega) hy v).trans ((rq_Kswap (by omega) hpm v).trans (E4 v))
theorem rq_Hk {A : Nat → Fin 101} {T0 : Nat → Nat → Fin 101} {L m : Nat} (hO : rq_O A L) (hm : L ≤ m) (hL : L ≤ 16) (hT : ∀ i j, i < m → j < L → T0 i j = A (i + j)) : ∀ (c : Nat) (v : Nat → Fin 101), c < L → v c = 1 → (∀ j, c < j → v j = 0) → ¬ rq_K T0 m v := by
  intro c v hc hv hz hK
  obtain ⟨⟨e, he⟩, hmin⟩ := hO
  have hg : rq_g A (fun j => v (c - j)) c (m + c) := by
    refine ⟨hv, fun i h1 h2 => ?_⟩
    have hk := hK (i - c) (by omega)
    rw [rq_sm_ext (m := c + 1) (by omega) (fun j j1 j2 => by (try dsimp only); rw [hz j (by omega)]; grind)] at hk
    rw [← hk, ← rq_sm_rev]
    unfold rq_d
    refine rq_sm_congr _ (fun j hj => ?_)
    dsimp only
    rw [hT (i - c) (c - j) (by omega) (by omega), show i - c + (c - j) = i - j by omega]; grind
  have := hmin _ c (rq_all hg he (by omega))
  omega
theorem rq_H16 {A : Nat → Fin 101} {T0 : Nat → Nat → Fin 101} {L : Nat} (hO : rq_O A L) (hL : L ≤ 16) (hT : ∀ i j, i < 16 → j < 16 → T0 i j = A (i + j)) : rq_H T0 16 L := by
  refine ⟨hL, Nat.le_refl _, rq_Hk hO hL hL (fun i j hi hj => hT i j hi (by omega)), fun c hc1 hc2 => ?_⟩
  obtain ⟨⟨e0, he0⟩, _⟩ := hO
  obtain ⟨e, he, hz⟩ := rq_Gz he0
  refine ⟨fun k => if k ≤ c then e (c - k) else 0, ?_, fun j hj => if_neg (by omega), fun i hi => ?_⟩
  · dsimp only
    rw [if_pos (Nat.le_refl c), Nat.sub_self]; exact he.1
  · rw [rq_sm_ext (m := c + 1) (by omega) (fun j j1 j2 => by (try dsimp only); rw [if_neg (by omega)]; grind), ← rq_sm_rev]
    have h := he.2 (i + c) (by omega)
    rw [← rq_d_ext hc1 hz] at h
    rw [← h]
    unfold rq_d
    refine rq_sm_congr _ (fun j hj => ?_)
    dsimp only
    rw [hT i (c - j) hi (by omega), if_pos (by omega), show c - (c - j) = j by omega, show i + (c - j) = i + c - j by omega]; grind
theorem rq_HL {A : Nat → Fin 101} {T0 : Nat → Nat → Fin 101} {L : Nat} (hO : rq_O A L) (hL : L ≤ 16) (hT : ∀ i j, i < L → j < L → T0 i j = A (i + j)) : rq_H T0 L L :=
  ⟨Nat.le_refl _, hL, rq_Hk hO (Nat.le_refl _) hL hT, fun c h1 h2 => by omega⟩
/-- what stands in the last column when the table of order L is eliminated -/
theorem rq_fin {A e : Nat → Fin 101} {T0 T : Nat → Nat → Fin 101} {L : Nat} (hG : rq_G A e L) (hL : L ≤ 16) (hT : ∀ i j, i < L → j < L → T0 i j = A (i + j)) (hT2 : ∀ i, i < L → T0 i 16 = A (i + L)) (hE : rq_E T0 T L L L L) : ∀ i, i < L → T i 16 = - e (L - i) := by
  obtain ⟨E1, E2, E3, E4⟩ := hE
  intro i hi
  have hK : rq_K T0 L (fun j => if j < L then e (L - j) else if j = 16 then 1 else 0) := by
    intro r hr
    rw [rq_sm, rq_sm_ext (m := L) hL (fun j j1 j2 => by (try dsimp only); rw [if_neg (by omega), if_neg (by omega)]; grind)]
    dsimp only
    rw [if_neg (by omega), if_pos rfl, hT2 r hr]
    have h := hG.2 (r + L) (by omega)
    unfold rq_d at h
    rw [rq_sm_congr (g := fun j => (fun k => e (L - k) * A (r + k)) (L - j)) (L + 1) (fun j hj => by (try dsimp only); rw [show L - (L - j) = j by omega, show r + (L - j) = r + L - j by omega]), rq_sm_rev (fun k => e (L - k) * A (r + k)) L, rq_sm, Nat.sub_self, hG.1] at h
    rw [rq_sm_congr (g := fun k => e (L - k) * A (r + k)) L (fun j hj => by (try dsimp only); rw [if_pos hj, hT r j hr hj]; grind)]
    grind
  have h := (E4 _).mpr hK i hi
  rw [rq_sm, rq_sm_ext (m := L) hL (fun j j1 j2 => by (try dsimp only); rw [if_neg (by omega), if_neg (by omega)]; grind), rq_sm_one (i := i) hi (fun j hj hne => by (try dsimp only); rw [E2 i j hi hj, if_neg (fun z => hne z.symm)]; grind)] at h
  (try dsimp only at h)
  rw [if_pos hi, if_neg (by omega), if_pos rfl, E2 i i hi hi, if_pos rfl] at h
  grind
