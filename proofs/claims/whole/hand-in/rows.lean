section
theorem pk_us {f : Nat → Int32} {k : Nat} {x : Int32} : upd f k x k = x := if_pos rfl
theorem pk_un {f : Nat → Int32} {k j : Nat} {x : Int32} (h : j ≠ k) : upd f k x j = f j := if_neg h
theorem pk_sub {a b : Nat} (h : b ≤ a) : nI a - nI b = nI (a - b) := by
  obtain ⟨c, rfl⟩ : ∃ c, a = c + b := ⟨a - b, by omega⟩
  rw [← nI_add, Int32.add_sub_cancel, Nat.add_sub_cancel]
theorem pk_mul (a b : Nat) : nI a * nI b = nI (a * b) := (Int32.ofNat_mul a b).symm
theorem pk_div {a d : Nat} (ha : a < 2 ^ 31) (h0 : 0 < d) (hd : d < 2 ^ 31) : nI a / nI d = nI (a / d) := by
  apply Int32.toInt_inj.mp
  rw [lg_idiv_nonneg (by rw [nI_toInt ha]; omega) (by rw [nI_toInt hd]; omega), nI_toInt ha, nI_toInt hd, nI_toInt (Nat.lt_of_le_of_lt (Nat.div_le_self a d) ha)]
  first | rfl | exact (Int.natCast_ediv _ _).symm
theorem pk_rem {a d : Nat} (ha : a < 2 ^ 31) (h0 : 0 < d) (hd : d < 2 ^ 31) : nI a - nI a / nI d * nI d = nI (a % d) := by
  rw [pk_div ha h0 hd, pk_mul, pk_sub (Nat.div_mul_le_self a d)]
  exact congrArg nI (by have := Nat.div_add_mod' a d; omega)
theorem pk_ix (x : Int32) {n : Nat} (hn : n < 2 ^ 31) : x < 0 ∨ nI n ≤ x ∨ ∃ j : Nat, j < n ∧ x = nI j := by
  by_cases h : x < 0
  · exact Or.inl h
  · obtain ⟨j, hj, rfl⟩ := nI_of h
    by_cases h2 : j < n
    · exact Or.inr (Or.inr ⟨j, h2, rfl⟩)
    · exact Or.inr (Or.inl (nI_le (by omega) hj))
theorem pk_le {x y : Int32} {A B : Prop} (a b : Nat) (f : a ≤ b → A) (g : b < a → B) (hx : x = nI a := by rfl) (hy : y = nI b := by rfl) (ha : a < 2 ^ 31 := by omega) (hb : b < 2 ^ 31 := by omega) : (x ≤ y → A) ∧ (¬ x ≤ y → B) := by
  subst hx hy
  rw [nI_leI ha hb]
  exact ⟨f, fun z => g (by omega)⟩
theorem pk_lt {x y : Int32} {A B : Prop} (a b : Nat) (f : a < b → A) (g : b ≤ a → B) (hx : x = nI a := by rfl) (hy : y = nI b := by rfl) (ha : a < 2 ^ 31 := by omega) (hb : b < 2 ^ 31 := by omega) : (x < y → A) ∧ (¬ x < y → B) := by
  subst hx hy
  rw [nI_ltI ha hb]
  exact ⟨f, fun z => g (by omega)⟩
theorem pk_eq {x y : Int32} {A B : Prop} (a b : Nat) (f : a = b → A) (g : a ≠ b → B) (hx : x = nI a := by rfl) (hy : y = nI b := by rfl) (ha : a < 2 ^ 31 := by omega) (hb : b < 2 ^ 31 := by omega) : (x = y → A) ∧ (¬ x = y → B) := by
  subst hx hy
  rw [nI_eq ha hb]
  exact ⟨f, g⟩
theorem pk_in {x : Int32} (n N : Nat) (h : n < N) (hx : x = nI n := by rfl) (hN : N < 2 ^ 31 := by omega) : vp_in x N := by
  subst hx
  exact vp_in_nI h hN
theorem pk_cl {x : Int32} (n : Nat) (hx : x = nI n := by rfl) (h : n < 2 ^ 31 := by omega) : x.toNatClampNeg = n := by
  subst hx
  exact nI_clamp h
theorem pk_tn {n : Nat} (h : n < 2 ^ 32) : (nI n).toBitVec.toNat = n := Nat.mod_eq_of_lt h
theorem pk_and (x : Int32) {m : Int32} (k : Nat) (hm : m.toBitVec.toNat = 2 ^ k - 1) : x &&& m = nI (x.toBitVec.toNat % 2 ^ k) := by
  apply Int32.toBitVec_inj.mp
  apply BitVec.eq_of_toNat_eq
  rw [Int32.toBitVec_and, BitVec.toNat_and, hm, Nat.and_two_pow_sub_one_eq_mod]
  show _ = (BitVec.ofNat 32 _).toNat
  rw [BitVec.toNat_ofNat]
  exact (Nat.mod_eq_of_lt (Nat.lt_of_le_of_lt (Nat.mod_le _ _) x.toBitVec.isLt)).symm
theorem pk_andE (x : Int32) {m : Int32} (k : Nat) (hm : m.toBitVec.toNat = 2 ^ k - 1) : ∃ j : Nat, j < 2 ^ k ∧ x &&& m = nI j := ⟨_, Nat.mod_lt _ (Nat.two_pow_pos k), pk_and x k hm⟩
end
section
-- Pure part: sums over Fin 101, Massey's lemma, the step of Berlekamp-Massey.
def rq_sm (f : Nat → Fin 101) : Nat → Fin 101
  | 0 => 0
  | n + 1 => rq_sm f n + f n
theorem rq_sm_congr {f g : Nat → Fin 101} : ∀ n : Nat, (∀ i, i < n → f i = g i) → rq_sm f n = rq_sm g n := by
  intro n
  induction n with
  | zero => intro _; rfl
  | succ n ih =>
    intro h
    rw [rq_sm, rq_sm, ih (fun i hi => h i (by omega)), h n (by omega)]
theorem rq_sm_zero {f : Nat → Fin 101} : ∀ n : Nat, (∀ i, i < n → f i = 0) → rq_sm f n = 0 := by
  intro n
  induction n with
  | zero => intro _; rfl
  | succ n ih =>
    intro h
    rw [rq_sm, ih (fun i hi => h i (by omega)), h n (by omega)]
    decide
theorem rq_sm_add (f g : Nat → Fin 101) (n : Nat) : rq_sm (fun i => f i + g i) n = rq_sm f n + rq_sm g n := by
  induction n with
  | zero => rw [rq_sm, rq_sm, rq_sm]; decide
  | succ n ih => rw [rq_sm, rq_sm, rq_sm, ih]; grind
theorem rq_sm_mul (c : Fin 101) (f : Nat → Fin 101) (n : Nat) : rq_sm (fun i => c * f i) n = c * rq_sm f n := by
  induction n with
  | zero => rw [rq_sm, rq_sm]; grind
  | succ n ih => rw [rq_sm, rq_sm, ih]; grind
theorem rq_sm_swap (f : Nat → Nat → Fin 101) (m n : Nat) : rq_sm (fun i => rq_sm (fun j => f i j) n) m = rq_sm (fun j => rq_sm (fun i => f i j) m) n := by
  induction m with
  | zero => rw [rq_sm]; exact (rq_sm_zero n (fun _ _ => rfl)).symm
  | succ m ih =>
    rw [rq_sm, ih, ← rq_sm_add]
    exact rq_sm_congr n (fun _ _ => rfl)
theorem rq_sm_front (f : Nat → Fin 101) (n : Nat) : rq_sm f (n + 1) = f 0 + rq_sm (fun i => f (i + 1)) n := by
  induction n with
  | zero => rw [rq_sm, rq_sm, rq_sm]; grind
  | succ n ih => rw [rq_sm, ih, rq_sm]; grind
theorem rq_sm_split (f : Nat → Fin 101) (m n : Nat) : rq_sm f (m + n) = rq_sm f m + rq_sm (fun i => f (m + i)) n := by
  induction n with
  | zero => rw [Nat.add_zero, rq_sm.eq_1 (fun i => f (m + i))]; grind
  | succ n ih => rw [← Nat.add_assoc, rq_sm, ih, rq_sm]; grind
theorem rq_sm_ext {f : Nat → Fin 101} {m n : Nat} (h : m ≤ n) (hz : ∀ i, m ≤ i → i < n → f i = 0) : rq_sm f n = rq_sm f m := by
  obtain ⟨d, rfl⟩ := Nat.le.dest h
  rw [rq_sm_split, rq_sm_zero d (fun i hi => hz (m + i) (by omega) (by omega))]; grind
/-- what the recurrence c of length L leaves at place i -/
def rq_d (a c : Nat → Fin 101) (L i : Nat) : Fin 101 := rq_sm (fun j => c j * a (i - j)) (L + 1)
/-- the recurrence c of length L makes the terms below n -/
def rq_g (a c : Nat → Fin 101) (L n : Nat) : Prop := c 0 = 1 ∧ ∀ i, L ≤ i → i < n → rq_d a c L i = 0
theorem rq_massey {a c c' : Nat → Fin 101} {L L' n : Nat} (hL : L + L' ≤ n) (hg : rq_g a c L n) (hg' : rq_g a c' L' (n + 1)) : rq_d a c L n = 0 := by
  have e := rq_sm_swap (fun j k => c j * (c' k * a (n - j - k))) (L + 1) (L' + 1)
  have e1 : rq_sm (fun j => rq_sm (fun k => c j * (c' k * a (n - j - k))) (L' + 1)) (L + 1) = 0 := by
    refine rq_sm_zero _ (fun j hj => ?_)
    have h := hg'.2 (n - j) (by omega) (by omega)
    unfold rq_d at h
    rw [rq_sm_mul, h]; grind
  have e2 : ∀ k, k < L' + 1 → rq_sm (fun j => c j * (c' k * a (n - j - k))) (L + 1) = c' k * rq_d a c L (n - k) := by
    intro k hk
    unfold rq_d
    rw [← rq_sm_mul]
    refine rq_sm_congr _ (fun j hj => ?_)
    rw [show n - j - k = n - k - j by omega]; grind
  rw [e1, rq_sm_congr _ e2, rq_sm_front] at e
  rw [rq_sm_zero L' (fun k hk => by rw [hg.2 (n - (k + 1)) (by omega) (by omega)]; grind), hg'.1] at e
  simp only [Nat.sub_zero] at e
  grind
/-- the state of Berlekamp-Massey when n terms are behind it -/
def rq_bm (a c b : Nat → Fin 101) (L s n : Nat) (q : Fin 101) : Prop :=
  rq_g a c L n ∧ L ≤ n ∧ 1 ≤ s ∧ (∀ j, L < j → c j = 0) ∧ q ≠ 0 ∧
  (∀ c' L', rq_g a c' L' n → L ≤ L') ∧
  ((s = n + 1 ∧ L = 0 ∧ b 0 = 1 ∧ ∀ j, 0 < j → b j = 0) ∨
   ∃ m lb, m + s = n ∧ L + lb = m + 1 ∧ lb ≤ m ∧ (∀ j, lb < j → b j = 0) ∧ (∀ i, lb ≤ i → i < m → rq_d a b lb i = 0) ∧ rq_d a b lb m = q)
theorem rq_bm0 (a c b : Nat → Fin 101) (hc : c 0 = 1 ∧ ∀ j, 0 < j → c j = 0) (hb : b 0 = 1 ∧ ∀ j, 0 < j → b j = 0) : rq_bm a c b 0 1 0 1 :=
  ⟨⟨hc.1, fun i _ h => absurd h (Nat.not_lt_zero i)⟩, Nat.le_refl 0, Nat.le_refl 1, hc.2, by decide, fun _ _ _ => Nat.zero_le _, Or.inl ⟨rfl, rfl, hb.1, hb.2⟩⟩
theorem rq_bmZ {a c b : Nat → Fin 101} {L s n : Nat} {q : Fin 101} (h : rq_bm a c b L s n q) (hd : rq_d a c L n = 0) : rq_bm a c b L (s + 1) (n + 1) q := by
  obtain ⟨hg, hL, hs, hc, hq, hm, ho⟩ := h
  refine ⟨⟨hg.1, fun i h1 h2 => ?_⟩, by omega, by omega, hc, hq, fun c' L' h' => hm c' L' ⟨h'.1, fun i h1 h2 => h'.2 i h1 (by omega)⟩, ?_⟩
  · by_cases e : i = n
    · rw [e]; exact hd
    · exact hg.2 i h1 (by omega)
  · rcases ho with ⟨h1, h2, h3, h4⟩ | ⟨m, lb, h1, h2, h3, h4, h5, h6⟩
    · refine Or.inl ⟨by omega, h2, h3, h4⟩
    · exact Or.inr ⟨m, lb, by omega, h2, h3, h4, h5, h6⟩
/-- c less t times b moved up by s -/
def rq_sub (c b : Nat → Fin 101) (t : Fin 101) (s : Nat) : Nat → Fin 101 := fun j => if s ≤ j then c j - t * b (j - s) else c j
theorem rq_d_ext {a c : Nat → Fin 101} {L L' i : Nat} (h : L ≤ L') (hc : ∀ j, L < j → c j = 0) : rq_d a c L' i = rq_d a c L i := by
  unfold rq_d
  refine rq_sm_ext (by omega) (fun j h1 _ => ?_)
  rw [hc j (by omega)]; grind
theorem rq_d_sub {a c b : Nat → Fin 101} {t : Fin 101} {s L lb i : Nat} (h : lb + s ≤ L) (hb : ∀ j, lb < j → b j = 0) : rq_d a (rq_sub c b t s) L i = rq_d a c L i - t * rq_d a b lb (i - s) := by
  have e1 : rq_d a (rq_sub c b t s) L i = rq_sm (fun j => c j * a (i - j) + (-t) * (if s ≤ j then b (j - s) * a (i - j) else 0)) (L + 1) := by
    unfold rq_d
    refine rq_sm_congr _ (fun j _ => ?_)
    unfold rq_sub
    split
    · grind
    · grind
  have e2 : rq_sm (fun j => if s ≤ j then b (j - s) * a (i - j) else 0) (L + 1) = rq_d a b lb (i - s) := by
    obtain ⟨p, hp⟩ := Nat.le.dest h
    rw [show L + 1 = s + (lb + p + 1) by omega, rq_sm_split]
    rw [rq_sm_zero s (fun j hj => if_neg (by omega))]
    have e3 : rq_sm (fun j => if s ≤ s + j then b (s + j - s) * a (i - (s + j)) else 0) (lb + p + 1) = rq_d a b (lb + p) (i - s) := by
      unfold rq_d
      refine rq_sm_congr _ (fun j _ => ?_)
      rw [if_pos (by omega), show s + j - s = j by omega, show i - (s + j) = i - s - j by omega]
    rw [e3, rq_d_ext (by omega) hb]; grind
  rw [e1, rq_sm_add, rq_sm_mul, e2]
  unfold rq_d
  grind
theorem rq_bmL {a c b : Nat → Fin 101} {L s n : Nat} {q : Fin 101} (h : rq_bm a c b L s n q) (hd : rq_d a c L n ≠ 0) {c' : Nat → Fin 101} {L' : Nat} (h' : rq_g a c' L' (n + 1)) : L ≤ L' ∧ n + 1 ≤ L + L' := by
  refine ⟨h.2.2.2.2.2.1 c' L' ⟨h'.1, fun i h1 h2 => h'.2 i h1 (by omega)⟩, ?_⟩
  by_cases e : L + L' ≤ n
  · exact absurd (rq_massey e h.1 h') hd
  · omega
/-- the new recurrence makes one term more -/
theorem rq_bmN {a c b : Nat → Fin 101} {L s n : Nat} {q t : Fin 101} (h : rq_bm a c b L s n q) (ht : t * q = rq_d a c L n) {N : Nat} (h1 : L ≤ N) (h2 : n + 1 ≤ L + N) : rq_g a (rq_sub c b t s) N (n + 1) ∧ (∀ j, N < j → rq_sub c b t s j = 0) := by
  obtain ⟨hg, hL, hs, hc, hq, hm, ho⟩ := h
  have h0 : rq_sub c b t s 0 = 1 := by unfold rq_sub; rw [if_neg (by omega)]; exact hg.1
  rcases ho with ⟨o1, o2, o3, o4⟩ | ⟨m, lb, o1, o2, o3, o4, o5, o6⟩
  · refine ⟨⟨h0, fun i i1 i2 => absurd i1 (by omega)⟩, fun j hj => ?_⟩
    unfold rq_sub
    rw [if_pos (by omega), hc j (by omega), o4 (j - s) (by omega)]; grind
  · refine ⟨⟨h0, fun i i1 i2 => ?_⟩, fun j hj => ?_⟩
    · rw [rq_d_sub (lb := lb) (by omega) o4, rq_d_ext h1 hc]
      by_cases e : i = n
      · rw [e, show n - s = m by omega, o6, ht]; grind
      · rw [hg.2 i (by omega) (by omega), o5 (i - s) (by omega) (by omega)]; grind
    · unfold rq_sub
      rw [if_pos (by omega), hc j (by omega), o4 (j - s) (by omega)]; grind
theorem rq_bmA {a c b : Nat → Fin 101} {L s n : Nat} {q t : Fin 101} (h : rq_bm a c b L s n q) (hd : rq_d a c L n ≠ 0) (ht : t * q = rq_d a c L n) (h2 : 2 * L ≤ n) : rq_bm a (rq_sub c b t s) c (n + 1 - L) 1 (n + 1) (rq_d a c L n) := by
  have hN := rq_bmN h ht (N := n + 1 - L) (by omega) (by omega)
  refine ⟨hN.1, by omega, by omega, hN.2, hd, fun c' L' h' => ?_, Or.inr ⟨n, L, rfl, by omega, by omega, h.2.2.2.1, h.1.2, rfl⟩⟩
  have := rq_bmL h hd h'
  omega
theorem rq_bmB {a c b : Nat → Fin 101} {L s n : Nat} {q t : Fin 101} (h : rq_bm a c b L s n q) (hd : rq_d a c L n ≠ 0) (ht : t * q = rq_d a c L n) (h2 : ¬ 2 * L ≤ n) : rq_bm a (rq_sub c b t s) b L (s + 1) (n + 1) q := by
  have hN := rq_bmN h ht (N := L) (by omega) (by omega)
  obtain ⟨hg, hL, hs, hc, hq, hm, ho⟩ := h
  refine ⟨hN.1, by omega, by omega, hN.2, hq, fun c' L' h' => hm c' L' ⟨h'.1, fun i h1 h2 => h'.2 i h1 (by omega)⟩, ?_⟩
  rcases ho with ⟨o1, o2, o3, o4⟩ | ⟨m, lb, o1, o2, o3, o4, o5, o6⟩
  · omega
  · exact Or.inr ⟨m, lb, by omega, o2, o3, o4, o5, o6⟩
/-- c of length L makes all of a -/
def rq_G (a c : Nat → Fin 101) (L : Nat) : Prop := c 0 = 1 ∧ ∀ i, L ≤ i → rq_d a c L i = 0
theorem rq_all {a c c' : Nat → Fin 101} {L L' N : Nat} (hg : rq_g a c L N) (hG : rq_G a c' L') (hN : L + L' ≤ N) : rq_G a c L := by
  have key : ∀ n, rq_g a c L (N + n) := by
    intro n
    induction n with
    | zero => exact hg
    | succ n ih =>
      refine ⟨hg.1, fun i h1 h2 => ?_⟩
      by_cases e : i = N + n
      · rw [e]; exact rq_massey (by omega) ih ⟨hG.1, fun j j1 _ => hG.2 j j1⟩
      · exact ih.2 i h1 (by omega)
  exact ⟨hg.1, fun i h1 => (key (i + 1)).2 i h1 (by omega)⟩
/-- L is the order of a -/
def rq_O (a : Nat → Fin 101) (L : Nat) : Prop := (∃ c, rq_G a c L) ∧ ∀ c' L', rq_G a c' L' → L ≤ L'
theorem rq_O1 {a : Nat → Fin 101} {L L' : Nat} (h : rq_O a L) (h' : rq_O a L') : L = L' := by
  obtain ⟨⟨c, hc⟩, hm⟩ := h
  obtain ⟨⟨c', hc'⟩, hm'⟩ := h'
  have h1 := hm c' L' hc'
  have h2 := hm' c L hc
  omega
/-- Berlekamp-Massey's end: over 32 terms of a sequence of order at most 16 it has found the order -/
theorem rq_end {a c b c' : Nat → Fin 101} {L s L' : Nat} {q : Fin 101} (h : rq_bm a c b L s 32 q) (hG : rq_G a c' L') (hL : L' ≤ 16) : rq_G a c L ∧ rq_O a L := by
  have h1 : L ≤ L' := h.2.2.2.2.2.1 c' L' ⟨hG.1, fun i i1 _ => hG.2 i i1⟩
  have h2 : rq_G a c L := rq_all h.1 hG (by omega)
  exact ⟨h2, ⟨c, h2⟩, fun c'' L'' h'' => h.2.2.2.2.2.1 c'' L'' ⟨h''.1, fun i i1 _ => h''.2 i i1⟩⟩
end
section
-- Pure part: what each call makes of a sequence follows a recurrence again.
/-- c cut off behind L -/
def rq_cut (c : Nat → Fin 101) (L : Nat) : Nat → Fin 101 := fun j => if j ≤ L then c j else 0
theorem rq_cutZ (c : Nat → Fin 101) (L j : Nat) (h : L < j) : rq_cut c L j = 0 := if_neg (by omega)
theorem rq_cutD (a c : Nat → Fin 101) (L i : Nat) : rq_d a (rq_cut c L) L i = rq_d a c L i := by
  unfold rq_d
  refine rq_sm_congr _ (fun j hj => ?_)
  unfold rq_cut
  rw [if_pos (by omega)]
theorem rq_cutG {a c : Nat → Fin 101} {L : Nat} (h : rq_G a c L) : rq_G a (rq_cut c L) L :=
  ⟨(if_pos (Nat.zero_le L)).trans h.1, fun i hi => (rq_cutD a c L i).trans (h.2 i hi)⟩
/-- every recurrence may be taken with nothing behind its length -/
theorem rq_Gz {a c : Nat → Fin 101} {L : Nat} (h : rq_G a c L) : ∃ c', rq_G a c' L ∧ ∀ j, L < j → c' j = 0 :=
  ⟨rq_cut c L, rq_cutG h, rq_cutZ c L⟩
theorem rq_G0 : rq_G (fun _ => 0) (fun j => if j = 0 then 1 else 0) 0 := by
  refine ⟨rfl, fun i _ => ?_⟩
  unfold rq_d
  exact rq_sm_zero _ (fun j _ => by grind)
theorem rq_d_add (a b c : Nat → Fin 101) (L i : Nat) : rq_d (fun n => a n + b n) c L i = rq_d a c L i + rq_d b c L i := by
  unfold rq_d
  rw [← rq_sm_add]
  exact rq_sm_congr _ (fun j _ => by grind)
theorem rq_d_mul (a c : Nat → Fin 101) (x : Fin 101) (L i : Nat) : rq_d (fun n => x * a n) c L i = x * rq_d a c L i := by
  unfold rq_d
  rw [← rq_sm_mul]
  exact rq_sm_congr _ (fun j _ => by grind)
theorem rq_d_sh {a b : Nat → Fin 101} {s L lb i : Nat} (h : lb + s ≤ L) (hb : ∀ j, lb < j → b j = 0) : rq_sm (fun j => if s ≤ j then b (j - s) * a (i - j) else 0) (L + 1) = rq_d a b lb (i - s) := by
  obtain ⟨p, hp⟩ := Nat.le.dest h
  rw [show L + 1 = s + (lb + p + 1) by omega, rq_sm_split]
  rw [rq_sm_zero s (fun j hj => if_neg (by omega))]
  have e3 : rq_sm (fun j => if s ≤ s + j then b (s + j - s) * a (i - (s + j)) else 0) (lb + p + 1) = rq_d a b (lb + p) (i - s) := by
    unfold rq_d
    refine rq_sm_congr _ (fun j _ => ?_)
    rw [if_pos (by omega), show s + j - s = j by omega, show i - (s + j) = i - s - j by omega]
  rw [e3, rq_d_ext (by omega) hb]; grind
/-- the product of two recurrences -/
def rq_conv (c c' : Nat → Fin 101) (L' : Nat) : Nat → Fin 101 := fun j => rq_sm (fun k => c' k * (if k ≤ j then c (j - k) else 0)) (L' + 1)
theorem rq_d_conv {a c c' : Nat → Fin 101} {L L' i : Nat} (hc : ∀ j, L < j → c j = 0) : rq_d a (rq_conv c c' L') (L + L') i = rq_sm (fun k => c' k * rq_d a c L (i - k)) (L' + 1) := by
  have e1 : rq_d a (rq_conv c c' L') (L + L') i = rq_sm (fun j => rq_sm (fun k => c' k * (if k ≤ j then c (j - k) * a (i - j) else 0)) (L' + 1)) (L + L' + 1) := by
    unfold rq_d
    refine rq_sm_congr _ (fun j _ => ?_)
    unfold rq_conv
    rw [show ∀ x y : Fin 101, x * y = y * x by grind, ← rq_sm_mul]
    refine rq_sm_congr _ (fun k _ => ?_)
    split
    · grind
    · grind
  rw [e1, rq_sm_swap]
  refine rq_sm_congr _ (fun k hk => ?_)
  rw [rq_sm_mul, rq_d_sh (by omega) hc]
theorem rq_Gadd {a b c c' : Nat → Fin 101} {L L' : Nat} (h : rq_G a c L) (h' : rq_G b c' L') : ∃ e, rq_G (fun n => a n + b n) e (L + L') := by
  obtain ⟨c, h, hz⟩ := rq_Gz h
  refine ⟨rq_conv c c' L', ?_, fun i hi => ?_⟩
  · unfold rq_conv
    rw [rq_sm_front, rq_sm_zero L' (fun k _ => by rw [if_neg (by omega)]; grind), if_pos (Nat.le_refl 0), h'.1, Nat.sub_zero, h.1]
    decide
  · rw [rq_d_add, rq_d_conv hz, rq_d_conv hz]
    rw [rq_sm_zero (f := fun k => c' k * rq_d a c L (i - k)) (L' + 1) (fun k hk => by rw [h.2 (i - k) (by omega)]; grind)]
    have e : rq_sm (fun k => c' k * rq_d b c L (i - k)) (L' + 1) = rq_sm (fun k => rq_sm (fun j => c j * (c' k * b (i - j - k))) (L + 1)) (L' + 1) := by
      refine rq_sm_congr _ (fun k _ => ?_)
      unfold rq_d
      rw [← rq_sm_mul]
      refine rq_sm_congr _ (fun j _ => ?_)
      rw [show i - j - k = i - k - j by omega]; grind
    rw [e, rq_sm_swap (fun k j => c j * (c' k * b (i - j - k)))]
    rw [rq_sm_zero (L + 1) (fun j hj => by
      rw [rq_sm_mul]
      have hh := h'.2 (i - j) (by omega)
      unfold rq_d at hh
      rw [hh]; grind)]
    decide
theorem rq_Gmul {a c : Nat → Fin 101} {L : Nat} (x : Fin 101) (h : rq_G a c L) : rq_G (fun n => x * a n) c L :=
  ⟨h.1, fun i hi => by rw [rq_d_mul, h.2 i hi]; grind⟩
theorem rq_Gadv {a c : Nat → Fin 101} {L : Nat} (h : rq_G a c L) : rq_G (fun n => a (n + 1)) c L := by
  refine ⟨h.1, fun i hi => ?_⟩
  have hh := h.2 (i + 1) (by omega)
  unfold rq_d at hh ⊢
  rw [← hh]
  refine rq_sm_congr _ (fun j hj => ?_)
  dsimp only
  rw [show i - j + 1 = i + 1 - j by omega]
theorem rq_Gpre {a c : Nat → Fin 101} {L : Nat} (x : Fin 101) (h : rq_G a c L) : ∃ e, rq_G (fun n => if n = 0 then x else a (n - 1)) e (L + 1) := by
  obtain ⟨c, h, hz⟩ := rq_Gz h
  refine ⟨c, h.1, fun i hi => ?_⟩
  rw [rq_d_ext (Nat.le_succ L) hz]
  have hh := h.2 (i - 1) (by omega)
  unfold rq_d at hh ⊢
  rw [← hh]
  refine rq_sm_congr _ (fun j hj => ?_)
  dsimp only
  rw [if_neg (by omega), show i - j - 1 = i - 1 - j by omega]
/-- a term less the one ahead of it -/
def rq_df (a : Nat → Fin 101) : Nat → Fin 101 := fun n => if n = 0 then a 0 else a n - a (n - 1)
theorem rq_d_df {a c : Nat → Fin 101} {L i : Nat} (hi : L + 1 ≤ i) : rq_d (rq_df a) c L i = rq_d a c L i - rq_d a c L (i - 1) := by
  have e : rq_d (rq_df a) c L i = rq_sm (fun j => c j * a (i - j) + (-1) * (c j * a (i - 1 - j))) (L + 1) := by
    unfold rq_d
    refine rq_sm_congr _ (fun j hj => ?_)
    unfold rq_df
    rw [if_neg (by omega), show i - j - 1 = i - 1 - j by omega]; grind
  rw [e, rq_sm_add, rq_sm_mul]
  unfold rq_d
  grind
theorem rq_Gdif {a c : Nat → Fin 101} {L : Nat} (h : rq_G a c L) : ∃ e, rq_G (rq_df a) e (L + 1) := by
  obtain ⟨c, h, hz⟩ := rq_Gz h
  refine ⟨c, h.1, fun i hi => ?_⟩
  rw [rq_d_ext (Nat.le_succ L) hz, rq_d_df hi, h.2 i (by omega), h.2 (i - 1) (by omega)]; grind
/-- the sums up to and with n -/
def rq_ac (a : Nat → Fin 101) : Nat → Fin 101 := fun n => rq_sm a (n + 1)
theorem rq_acdf (a : Nat → Fin 101) : rq_df (rq_ac a) = a := by
  funext n
  unfold rq_df rq_ac
  cases n with
  | zero => rw [if_pos rfl, rq_sm, rq_sm]; grind
  | succ n => rw [if_neg (by omega), Nat.add_sub_cancel, rq_sm]; grind
theorem rq_Gacc {a c : Nat → Fin 101} {L : Nat} (h : rq_G a c L) : ∃ e, rq_G (rq_ac a) e (L + 1) := by
  obtain ⟨c, h, hz⟩ := rq_Gz h
  refine ⟨rq_sub c c 1 1, ?_, fun i hi => ?_⟩
  · unfold rq_sub
    rw [if_neg (by omega)]; exact h.1
  · rw [rq_d_sub (lb := L) (by omega) hz, rq_d_ext (Nat.le_succ L) hz]
    have e := rq_d_df (a := rq_ac a) (c := c) hi
    rw [rq_acdf, h.2 i (by omega)] at e
    grind
/-- what begins with zeros and follows a recurrence is all zeros -/
theorem rq_zeros {a c : Nat → Fin 101} {L : Nat} (h : rq_G a c L) (hz : ∀ i, i < L → a i = 0) : ∀ n i, i < n → a i = 0 := by
  intro n
  induction n with
  | zero => intro i hi; omega
  | succ n ih =>
    intro i hi
    by_cases e : i < L
    · exact hz i e
    · have hh := h.2 i (by omega)
      unfold rq_d at hh
      rw [rq_sm_front, rq_sm_zero L (fun j hj => by rw [ih (i - (j + 1)) (by omega)]; grind), h.1, Nat.sub_zero] at hh
      grind
theorem rq_same {a b c c' : Nat → Fin 101} {L L' : Nat} (h : rq_G a c L) (h' : rq_G b c' L') (he : ∀ i, i < L + L' → a i = b i) : a = b := by
  obtain ⟨e, hG⟩ := rq_Gadd h (rq_Gmul (-1) h')
  funext n
  have hh := rq_zeros hG (fun i hi => by rw [he i hi]; grind) (n + 1) n (by omega)
  grind
/-- a recurrence makes a sequence out of any beginning: the table of its terms below n -/
def rq_tab (k : Nat) (f b : Nat → Fin 101) : Nat → Nat → Fin 101
  | 0 => fun _ => 0
  | n + 1 => fun i => if i < n then rq_tab k f b n i else if n < k then b n else - rq_sm (fun j => f (j + 1) * rq_tab k f b n (n - (j + 1))) k
def rq_mk (k : Nat) (f b : Nat → Fin 101) (n : Nat) : Fin 101 := rq_tab k f b (n + 1) n
theorem rq_tabE (k : Nat) (f b : Nat → Fin 101) : ∀ n i, i < n → rq_tab k f b n i = rq_mk k f b i := by
  intro n
  induction n with
  | zero => intro i hi; omega
  | succ n ih =>
    intro i hi
    by_cases e : i = n
    · rw [e]; rfl
    · rw [rq_tab]; dsimp only; rw [if_pos (by omega : i < n)]; exact ih i (by omega)
theorem rq_mkB {k : Nat} {f b : Nat → Fin 101} {n : Nat} (h : n < k) : rq_mk k f b n = b n := by
  unfold rq_mk
  rw [rq_tab]; dsimp only; rw [if_neg (by omega : ¬ n < n), if_pos h]
theorem rq_mkR {k : Nat} {f b : Nat → Fin 101} {n : Nat} (h : k ≤ n) : rq_mk k f b n = - rq_sm (fun j => f (j + 1) * rq_mk k f b (n - (j + 1))) k := by
  rw [show rq_mk k f b n = rq_tab k f b (n + 1) n from rfl, rq_tab]
  dsimp only
  rw [if_neg (by omega : ¬ n < n), if_neg (by omega : ¬ n < k)]
  rw [rq_sm_congr k (fun j hj => by rw [rq_tabE k f b n (n - (j + 1)) (by omega)])]
theorem rq_mkG {k : Nat} {f b : Nat → Fin 101} (hf : f 0 = 1) : rq_G (rq_mk k f b) f k := by
  refine ⟨hf, fun i hi => ?_⟩
  unfold rq_d
  rw [rq_sm_front, hf, Nat.sub_zero, rq_mkR hi]; grind
/-- what a recurrence says of the next term -/
theorem rq_next {a c : Nat → Fin 101} {L n : Nat} (h : rq_G a c L) (hn : L ≤ n) : a n = - rq_sm (fun j => c (j + 1) * a (n - (j + 1))) L := by
  have hh := h.2 n hn
  unfold rq_d at hh
  rw [rq_sm_front, h.1, Nat.sub_zero] at hh
  grind
end
section
-- Numbers: Int and Int32 against Fin 101.
def rq_p (z : Int) : Fin 101 := ⟨(z % 101).toNat, by omega⟩
theorem rq_p_add (x y : Int) : rq_p (x + y) = rq_p x + rq_p y := by
  apply Fin.ext
  show ((x + y) % 101).toNat = ((x % 101).toNat + (y % 101).toNat) % 101
  omega
theorem rq_p_mul (x y : Int) : rq_p (x * y) = rq_p x * rq_p y := by
  apply Fin.ext
  show ((x * y) % 101).toNat = ((x % 101).toNat * (y % 101).toNat) % 101
  rw [Int.mul_emod]
  obtain ⟨a, ha⟩ := Int.eq_ofNat_of_zero_le (Int.emod_nonneg x (by decide : (101 : Int) ≠ 0))
  obtain ⟨b, hb⟩ := Int.eq_ofNat_of_zero_le (Int.emod_nonneg y (by decide : (101 : Int) ≠ 0))
  rw [ha, hb]
  have : ((a : Int) * (b : Int)) % 101 = (((a * b) % 101 : Nat) : Int) := by
    rw [← Int.natCast_mul]; omega
  rw [this]
  simp only [Int.toNat_natCast]
theorem rq_p_neg (x : Int) : rq_p (-x) = - rq_p x := by
  have h := rq_p_add (-x) x
  rw [Int.add_left_neg] at h
  have z : rq_p 0 = 0 := by decide
  rw [z] at h
  grind
theorem rq_p_sub (x y : Int) : rq_p (x - y) = rq_p x - rq_p y := by
  rw [Int.sub_eq_add_neg, rq_p_add, rq_p_neg]; grind
theorem rq_p_val (x : Fin 101) : rq_p (x.val : Int) = x := by
  apply Fin.ext
  show (((x.val : Int)) % 101).toNat = x.val
  have := x.isLt
  omega
/-- a number from 0 to 100 as the class keeps it -/
def rq_i (x : Fin 101) : Int32 := nI x.val
theorem rq_i_toInt (x : Fin 101) : (rq_i x).toInt = (x.val : Int) := nI_toInt (by have := x.isLt; omega)
theorem rq_i_inj {x y : Fin 101} (h : rq_i x = rq_i y) : x = y := by
  have hh := congrArg Int32.toInt h
  rw [rq_i_toInt, rq_i_toInt] at hh
  apply Fin.ext
  omega
/-- every number but 0 has an inverse: its power 99 -/
def rq_pow (x : Fin 101) : Nat → Fin 101
  | 0 => 1
  | n + 1 => rq_pow x n * x
theorem rq_inv : ∀ x : Fin 101, x ≠ 0 → rq_pow x 99 * x = 1 := by decide +kernel
theorem rq_i_0 : rq_i 0 = 0 := by decide +kernel
theorem rq_i_1 : rq_i 1 = 1 := by decide +kernel
theorem rq_i_eq0 {x : Fin 101} : rq_i x = 0 ↔ x = 0 := ⟨fun h => rq_i_inj (h.trans rq_i_0.symm), fun h => by rw [h, rq_i_0]⟩
theorem rq_i_eq {x y : Fin 101} : rq_i x = rq_i y ↔ x = y := ⟨rq_i_inj, fun h => by rw [h]⟩
/-- an int of at most M that is z modulo 101 -/
def rq_b (x : Int32) (z : Fin 101) (M : Nat) : Prop := -(M : Int) ≤ x.toInt ∧ x.toInt ≤ (M : Int) ∧ rq_p x.toInt = z
def rq_n (x : Int32) (z : Fin 101) (M : Nat) : Prop := 0 ≤ x.toInt ∧ x.toInt ≤ (M : Int) ∧ rq_p x.toInt = z
theorem rq_n_i (x : Fin 101) : rq_n (rq_i x) x 100 := by
  have h := x.isLt
  refine ⟨?_, ?_, ?_⟩
  · rw [rq_i_toInt]; omega
  · rw [rq_i_toInt]; omega
  · rw [rq_i_toInt]; exact rq_p_val x
theorem rq_n_b {x : Int32} {z : Fin 101} {M : Nat} (h : rq_n x z M) : rq_b x z M := ⟨by have := h.1; omega, h.2.1, h.2.2⟩
theorem rq_b_i (x : Fin 101) : rq_b (rq_i x) x 100 := rq_n_b (rq_n_i x)
theorem rq_b_le {x : Int32} {z : Fin 101} {M K : Nat} (h : rq_b x z M) (hk : M ≤ K) : rq_b x z K := ⟨by have := h.1; omega, by have := h.2.1; omega, h.2.2⟩
theorem rq_n_le {x : Int32} {z : Fin 101} {M K : Nat} (h : rq_n x z M) (hk : M ≤ K) : rq_n x z K := ⟨h.1, by have := h.2.1; omega, h.2.2⟩
theorem rq_bm_add {a b : Int} (h1 : -2147483648 ≤ a + b) (h2 : a + b < 2147483648) : (a + b).bmod (2 ^ 32) = a + b := Int.bmod_eq_of_le (by omega) (by omega)
theorem rq_b_add {x y : Int32} {z w : Fin 101} {M K : Nat} (h : rq_b x z M) (h' : rq_b y w K) (hm : M + K < 2147483648) : rq_b (x + y) (z + w) (M + K) := by
  obtain ⟨a1, a2, a3⟩ := h
  obtain ⟨b1, b2, b3⟩ := h'
  have e : (x + y).toInt = x.toInt + y.toInt := by
    rw [Int32.toInt_add]; exact Int.bmod_eq_of_le (by omega) (by omega)
  refine ⟨by omega, by omega, ?_⟩
  rw [e, rq_p_add, a3, b3]
theorem rq_n_add {x y : Int32} {z w : Fin 101} {M K : Nat} (h : rq_n x z M) (h' : rq_n y w K) (hm : M + K < 2147483648) : rq_n (x + y) (z + w) (M + K) := by
  obtain ⟨a1, a2, a3⟩ := h
  obtain ⟨b1, b2, b3⟩ := h'
  have e : (x + y).toInt = x.toInt + y.toInt := by
    rw [Int32.toInt_add]; exact Int.bmod_eq_of_le (by omega) (by omega)
  refine ⟨by omega, by omega, ?_⟩
  rw [e, rq_p_add, a3, b3]
theorem rq_b_neg {x : Int32} {z : Fin 101} {M : Nat} (h : rq_b x z M) (hm : M < 2147483648) : rq_b (-x) (-z) M := by
  obtain ⟨a1, a2, a3⟩ := h
  have e : (-x).toInt = -x.toInt := by
    rw [Int32.toInt_neg]; exact Int.bmod_eq_of_le (by omega) (by omega)
  refine ⟨by omega, by omega, ?_⟩
  rw [e, rq_p_neg, a3]
theorem rq_b_sub {x y : Int32} {z w : Fin 101} {M K : Nat} (h : rq_b x z M) (h' : rq_b y w K) (hm : M + K < 2147483648) : rq_b (x - y) (z - w) (M + K) := by
  obtain ⟨a1, a2, a3⟩ := h
  obtain ⟨b1, b2, b3⟩ := h'
  have e : (x - y).toInt = x.toInt - y.toInt := by
    rw [Int32.toInt_sub]; exact Int.bmod_eq_of_le (by omega) (by omega)
  refine ⟨by omega, by omega, ?_⟩
  rw [e, rq_p_sub, a3, b3]
theorem rq_n_mul {x y : Int32} {z w : Fin 101} {M K : Nat} (h : rq_n x z M) (h' : rq_n y w K) (hm : M * K < 2147483648) : rq_n (x * y) (z * w) (M * K) := by
  obtain ⟨a1, a2, a3⟩ := h
  obtain ⟨b1, b2, b3⟩ := h'
  have p0 : 0 ≤ x.toInt * y.toInt := Int.mul_nonneg a1 b1
  have p1 : x.toInt * y.toInt ≤ (M : Int) * (K : Int) := Int.mul_le_mul a2 b2 b1 (by omega)
  have p2 : (M : Int) * (K : Int) = ((M * K : Nat) : Int) := (Int.natCast_mul M K).symm
  have e : (x * y).toInt = x.toInt * y.toInt := by
    rw [Int32.toInt_mul]; exact Int.bmod_eq_of_le (by omega) (by omega)
  refine ⟨by omega, by omega, ?_⟩
  rw [e, rq_p_mul, a3, b3]
theorem rq_101 : (101 : Int32).toInt = 101 := by decide
theorem rq_ne : ¬ (101 : Int32) = 0 := by decide
theorem rq_p_mod (z w : Int) (h : ∃ k : Int, z = w + 101 * k) : rq_p z = rq_p w := by
  obtain ⟨k, rfl⟩ := h
  apply Fin.ext
  show ((w + 101 * k) % 101).toNat = (w % 101).toNat
  omega
theorem rq_p_i {x : Int32} {z : Int} (h0 : 0 ≤ x.toInt) (h1 : x.toInt < 101) (h : rq_p x.toInt = rq_p z) : x = rq_i (rq_p z) := by
  apply Int32.toInt_inj.mp
  rw [rq_i_toInt, ← h]
  show x.toInt = (((x.toInt % 101).toNat : Nat) : Int)
  omega
theorem rq_tm (z : Int) : ∃ k : Int, z.tmod 101 = z + 101 * k := ⟨-(z.tdiv 101), by have := Int.tmod_add_mul_tdiv z 101; omega⟩
/-- the remainder of a number that isn't negative -/
theorem rq_rem {x : Int32} {z : Fin 101} {M : Nat} (h : rq_n x z M) : x - x / 101 * 101 = rq_i z := by
  obtain ⟨a1, a2, rfl⟩ := h
  have e := rem_toInt x 101
  rw [rq_101] at e
  have t := tmod_bounds (a := x.toInt) (M := 101) (by decide)
  have n := Int.tmod_nonneg 101 a1
  exact rq_p_i (by rw [e]; exact n) (by rw [e]; exact t.2) (rq_p_mod _ _ (by rw [e]; exact rq_tm x.toInt))
theorem rq_n_0 (M : Nat) : rq_n 0 0 M := ⟨by decide, by rw [Int32.toInt_zero]; omega, by decide⟩
end
section
-- The small methods of both sides
theorem rq_red {post : Int32 → Prop} (x : Int32) (h : post (rq_i (rq_p x.toInt))) : wpX_reduce post x := by
  have e := rem_toInt x 101
  rw [rq_101] at e
  have t := tmod_bounds (a := x.toInt) (M := 101) (by decide)
  obtain ⟨k, hk⟩ := rq_tm x.toInt
  refine ⟨rq_ne, fun y ey => ⟨fun h0 => ?_, fun h0 => ?_⟩⟩
  · rw [Int32.le_iff_toInt_le, Int32.toInt_zero] at h0
    rw [ey] at h0
    rw [ey, rq_p_i (z := x.toInt) h0 (by rw [e]; exact t.2) (rq_p_mod _ _ ⟨k, by rw [e]; exact hk⟩)]
    exact h
  · rw [Int32.le_iff_toInt_le, Int32.toInt_zero] at h0
    rw [ey] at h0
    have e2 : (y + 101).toInt = (x - x / 101 * 101).toInt + 101 := by
      rw [ey, Int32.toInt_add, rq_101]; exact Int.bmod_eq_of_le (by omega) (by omega)
    rw [rq_p_i (x := y + 101) (z := x.toInt) (by omega) (by omega) (rq_p_mod _ _ ⟨k + 1, by omega⟩)]
    exact h
theorem rq_redB {post : Int32 → Prop} {x : Int32} {z : Fin 101} {M : Nat} (hb : rq_b x z M) (h : post (rq_i z)) : wpX_reduce post x := by
  refine rq_red x ?_
  rw [hb.2.2]; exact h
theorem rq_mod {post : Int32 → Prop} {u : SY} (x : Int32) (h : post (rq_i (rq_p x.toInt))) : wpY_mod post u x := rq_red x h
theorem rq_modB {post : Int32 → Prop} {u : SY} {x : Int32} {z : Fin 101} {M : Nat} (hb : rq_b x z M) (h : post (rq_i z)) : wpY_mod post u x := rq_redB hb h
theorem rq_ix (s w n : Nat) : nI s * nI w + nI n = nI (s * w + n) := by rw [pk_mul, nI_add]
/-- a s seen at an index that is nI of a number -/
theorem rq_rd {a : Nat → Int32} {x : Int32} {v : Int32} (k : Nat) (hx : x = nI k) (hk : k < 2 ^ 31) (hv : a k = v) : a x.toNatClampNeg = v := by
  rw [hx, nI_clamp hk]; exact hv
theorem rq_up {a : Nat → Int32} {x v w : Int32} (k : Nat) (hx : x = nI k) (hk : k < 2 ^ 31) (hv : v = w) : upd a x.toNatClampNeg v = upd a k w := by
  rw [hx, nI_clamp hk, hv]
/-- a with g written from lo on, below hi -/
def rq_w (a : Nat → Int32) (lo hi : Nat) (g : Nat → Int32) : Nat → Int32 := fun j => if lo ≤ j ∧ j < hi then g j else a j
theorem rq_w_end (a : Nat → Int32) (hi : Nat) (g : Nat → Int32) : rq_w a hi hi g = a := by
  funext j
  exact if_neg (by omega)
theorem rq_w_step {a : Nat → Int32} {lo hi : Nat} {g : Nat → Int32} {v : Int32} (h : lo < hi) (hv : v = g lo) : rq_w (upd a lo v) (lo + 1) hi g = rq_w a lo hi g := by
  funext j
  unfold rq_w upd
  by_cases e : j = lo
  · subst e
    rw [if_neg (by omega), if_pos rfl, if_pos (by omega)]; exact hv
  · rw [if_neg e]
    by_cases q : lo ≤ j ∧ j < hi
    · rw [if_pos (by omega), if_pos q]
    · rw [if_neg (by omega), if_neg q]
theorem rq_w_in {a : Nat → Int32} {lo hi : Nat} {g : Nat → Int32} {j : Nat} (h : lo ≤ j) (h2 : j < hi) : rq_w a lo hi g j = g j := if_pos ⟨h, h2⟩
theorem rq_w_out {a : Nat → Int32} {lo hi : Nat} {g : Nat → Int32} {j : Nat} (h : j < lo ∨ hi ≤ j) : rq_w a lo hi g j = a j := if_neg (by omega)
/-- a number is a sequence, or isn't, for both sides -/
theorem rq_seq (x : Int32) : ((∀ post : Int32 → Prop, post 0 → wpX_isSequence post x) ∧ (∀ (post : Int32 → Prop) (u : SY), post 1 → wpY_bad post u x)) ∨ (∃ s : Nat, s < 4 ∧ x = nI s ∧ (∀ post : Int32 → Prop, post 1 → wpX_isSequence post x) ∧ (∀ (post : Int32 → Prop) (u : SY), post 0 → wpY_bad post u x)) := by
  rcases pk_ix x (n := 4) (by decide) with h | h | ⟨s, hs, rfl⟩
  · exact Or.inl ⟨fun post hp => br_t h hp, fun post u hp => br_t h hp⟩
  · have h0 : ¬ x < 0 := by
      rw [Int32.le_iff_toInt_le] at h
      rw [Int32.lt_iff_toInt_lt, Int32.toInt_zero]
      have : (nI 4).toInt = 4 := by decide
      omega
    have h3 : ¬ x ≤ 3 := by
      rw [Int32.le_iff_toInt_le] at h ⊢
      have e4 : (nI 4).toInt = 4 := by decide
      have e3 : (3 : Int32).toInt = 3 := by decide
      omega
    exact Or.inl ⟨fun post hp => br_f h0 (br_t h hp), fun post u hp => br_f h0 (br_f h3 hp)⟩
  · have h0 : ¬ nI s < 0 := nI_pos (by omega)
    exact Or.inr ⟨s, hs, rfl, fun post hp => br_f h0 (br_f (nI_ge (b := 4) hs (by decide)) hp), fun post u hp => br_f h0 (br_t (nI_le (b := 3) (by omega) (by decide)) hp)⟩
theorem rq_idx (x : Int32) : ((∀ post : Int32 → Prop, post 0 → wpX_isIndex post x) ∧ (∀ (post : Int32 → Prop) (u : SY), post 1 → wpY_badIndex post u x)) ∨ (∃ s : Nat, s < 401 ∧ x = nI s ∧ (∀ post : Int32 → Prop, post 1 → wpX_isIndex post x) ∧ (∀ (post : Int32 → Prop) (u : SY), post 0 → wpY_badIndex post u x)) := by
  rcases pk_ix x (n := 401) (by decide) with h | h | ⟨s, hs, rfl⟩
  · exact Or.inl ⟨fun post hp => br_t h hp, fun post u hp => br_t h hp⟩
  · have h0 : ¬ x < 0 := by
      rw [Int32.le_iff_toInt_le] at h
      rw [Int32.lt_iff_toInt_lt, Int32.toInt_zero]
      have : (nI 401).toInt = 401 := by decide
      omega
    have h3 : ¬ x ≤ 400 := by
      rw [Int32.le_iff_toInt_le] at h ⊢
      have e4 : (nI 401).toInt = 401 := by decide
      have e3 : (400 : Int32).toInt = 400 := by decide
      omega
    exact Or.inl ⟨fun post hp => br_f h0 (br_t h hp), fun post u hp => br_f h0 (br_f h3 hp)⟩
  · have h0 : ¬ nI s < 0 := nI_pos (by omega)
    exact Or.inr ⟨s, hs, rfl, fun post hp => br_f h0 (br_f (nI_ge (b := 401) hs (by decide)) hp), fun post u hp => br_f h0 (br_t (nI_le (b := 400) (by omega) (by decide)) hp)⟩
end
section
-- The component's private methods
section
variable {te od pr fa ol sv : Nat → Int32}
theorem rx_clear2 {post : SX → Prop} : ∀ (d i : Nat) (fa ol : Nat → Int32), i + d = 33 → post (te, od, pr, upd (rq_w fa i 33 (fun _ => 0)) 0 1, upd (rq_w ol i 33 (fun _ => 0)) 0 1, sv) → wX_clearFactors_2 post (d + 1) (nI i) te od pr fa ol sv := by
  intro d
  induction d with
  | zero =>
    intro i fa ol hi hp
    obtain rfl : i = 33 := by omega
    rw [rq_w_end, rq_w_end] at hp
    exact br_t (nI_le (a := 33) (by omega) (by omega)) (nm_e (nm_e hp))
  | succ d ih =>
    intro i fa ol hi hp
    refine br_f (nI_ge (b := 33) (by omega) (by decide)) ⟨vp_in_nI (by omega) (by omega), nm_r (rq_up i rfl (by omega) rfl) ⟨vp_in_nI (by omega) (by omega), nm_r (rq_up i rfl (by omega) rfl) (nm_r (nI_1 i) (ih (i + 1) _ _ (by omega) ?_))⟩⟩
    rw [rq_w_step (g := fun _ => 0) (by omega) rfl, rq_w_step (g := fun _ => 0) (by omega) rfl]; exact hp
theorem rx_clear {post : SX → Prop} (h : ∀ fa ol : Nat → Int32, fa 0 = 1 → ol 0 = 1 → (∀ j, 0 < j → j < 33 → fa j = 0) → (∀ j, 0 < j → j < 33 → ol j = 0) → post (te, od, pr, fa, ol, sv)) : wpX_clearFactors post (te, od, pr, fa, ol, sv) := by
  refine ⟨34, rx_clear2 33 0 fa ol rfl (h _ _ pk_us pk_us (fun j h1 h2 => ?_) (fun j h1 h2 => ?_))⟩
  · rw [pk_un (by omega), rq_w_in (by omega) h2]
  · rw [pk_un (by omega), rq_w_in (by omega) h2]
theorem rx_inv4 {post : Int32 → Prop} {x : Fin 101} : ∀ d i : Nat, i + d = 99 → post (rq_i (rq_pow x 99)) → wX_inverse_4 post (rq_i x) (d + 1) (rq_i (rq_pow x i)) (nI i) := by
  intro d
  induction d with
  | zero =>
    intro i hi hp
    obtain rfl : i = 99 := by omega
    exact br_t (nI_le (a := 99) (by omega) (by omega)) hp
  | succ d ih =>
    intro i hi hp
    exact br_f (nI_ge (b := 99) (by omega) (by decide)) ⟨rq_ne, nm_r (rq_rem (rq_n_mul (rq_n_i _) (rq_n_i _) (by decide))) (nm_r (nI_1 i) (ih (i + 1) (by omega) hp))⟩
theorem rx_inv {post : Int32 → Prop} {x : Fin 101} (h : post (rq_i (rq_pow x 99))) : wpX_inverse post (rq_i x) := by
  have := rx_inv4 (post := post) (x := x) 99 0 rfl h
  rw [rq_pow, rq_i_1, nI_0] at this
  exact ⟨_, this⟩
theorem rx_sub2 {post : SX → Prop} {t : Fin 101} {s : Nat} {c b : Nat → Fin 101} (hb : ∀ j, j < 33 → ol j = rq_i (b j)) : ∀ (d i : Nat) (fa : Nat → Int32), s ≤ i → i + d = 33 → (∀ j, i ≤ j → j < 33 → fa j = rq_i (c j)) → post (te, od, pr, rq_w fa i 33 (fun j => rq_i (rq_sub c b t s j)), ol, sv) → wX_subtractOlder_2 post (rq_i t) (nI s) (d + 1) (nI i) te od pr fa ol sv := by
  intro d
  induction d with
  | zero =>
    intro i fa hs hi hf hp
    obtain rfl : i = 33 := by omega
    rw [rq_w_end] at hp
    exact br_t (nI_le (a := 33) (by omega) (by omega)) hp
  | succ d ih =>
    intro i fa hs hi hf hp
    have e1 : fa (nI i).toNatClampNeg = rq_i (c i) := rq_rd i rfl (by omega) (hf i (by omega) (by omega))
    have e2 : ol (nI i - nI s).toNatClampNeg = rq_i (b (i - s)) := rq_rd (i - s) (pk_sub hs) (by omega) (hb _ (by omega))
    refine br_f (nI_ge (b := 33) (by omega) (by decide)) ⟨vp_in_nI (by omega) (by omega), pk_in (i - s) 33 (by omega) (pk_sub hs), ?_⟩
    refine rq_redB (z := c i - t * b (i - s)) (M := 10100) ?_ ?_
    · rw [e1, e2]; exact rq_b_sub (rq_b_i _) (rq_n_b (rq_n_mul (rq_n_i _) (rq_n_i _) (by decide))) (by decide)
    · refine ⟨vp_in_nI (by omega) (by omega), nm_r (rq_up i rfl (by omega) rfl) (nm_r (nI_1 i) (ih (i + 1) _ (by omega) (by omega) (fun j h1 h2 => ?_) ?_))⟩
      · rw [pk_un (by omega)]; exact hf j (by omega) h2
      · rw [rq_w_step (by omega) (by rw [rq_sub, if_pos hs])]; exact hp
theorem rx_sub {post : SX → Prop} {t : Fin 101} {s : Nat} {c b : Nat → Fin 101} (hs : s ≤ 33) (hb : ∀ j, j < 33 → ol j = rq_i (b j)) (hf : ∀ j, j < 33 → fa j = rq_i (c j)) (h : ∀ fa : Nat → Int32, (∀ j, j < 33 → fa j = rq_i (rq_sub c b t s j)) → post (te, od, pr, fa, ol, sv)) : wpX_subtractOlder post (te, od, pr, fa, ol, sv) (rq_i t) (nI s) := by
  refine ⟨33 - s + 1, rx_sub2 (c := c) (b := b) hb (33 - s) s fa (Nat.le_refl s) (by omega) (fun j _ h2 => hf j h2) (h _ (fun j hj => ?_))⟩
  by_cases e : s ≤ j
  · rw [rq_w_in e hj]
  · rw [rq_w_out (by omega), rq_sub, if_neg e]; exact hf j hj
theorem rx_cfs2 {post : SX → Prop} : ∀ (d i : Nat) (sv : Nat → Int32), i + d = 33 → post (te, od, pr, fa, ol, rq_w sv i 33 fa) → wX_copyFactors__factors_savedFactors_2 post (d + 1) (nI i) te od pr fa ol sv := by
  intro d
  induction d with
  | zero =>
    intro i sv hi hp
    obtain rfl : i = 33 := by omega
    rw [rq_w_end] at hp
    exact br_t (nI_le (a := 33) (by omega) (by omega)) hp
  | succ d ih =>
    intro i sv hi hp
    refine br_f (nI_ge (b := 33) (by omega) (by decide)) ⟨vp_in_nI (by omega) (by omega), vp_in_nI (by omega) (by omega), nm_r (rq_up i rfl (by omega) (rq_rd i rfl (by omega) rfl)) (nm_r (nI_1 i) (ih (i + 1) _ (by omega) ?_))⟩
    rw [rq_w_step (by omega) rfl]; exact hp
theorem rx_cfs {post : SX → Prop} (h : ∀ sv : Nat → Int32, (∀ j, j < 33 → sv j = fa j) → post (te, od, pr, fa, ol, sv)) : wpX_copyFactors__factors_savedFactors post (te, od, pr, fa, ol, sv) :=
  ⟨34, rx_cfs2 33 0 sv rfl (h _ (fun _ hj => rq_w_in (Nat.zero_le _) hj))⟩
theorem rx_cso2 {post : SX → Prop} : ∀ (d i : Nat) (ol : Nat → Int32), i + d = 33 → post (te, od, pr, fa, rq_w ol i 33 sv, sv) → wX_copyFactors__savedFactors_olderFactors_2 post (d + 1) (nI i) te od pr fa ol sv := by
  intro d
  induction d with
  | zero =>
    intro i ol hi hp
    obtain rfl : i = 33 := by omega
    rw [rq_w_end] at hp
    exact br_t (nI_le (a := 33) (by omega) (by omega)) hp
  | succ d ih =>
    intro i ol hi hp
    refine br_f (nI_ge (b := 33) (by omega) (by decide)) ⟨vp_in_nI (by omega) (by omega), vp_in_nI (by omega) (by omega), nm_r (rq_up i rfl (by omega) (rq_rd i rfl (by omega) rfl)) (nm_r (nI_1 i) (ih (i + 1) _ (by omega) ?_))⟩
    rw [rq_w_step (by omega) rfl]; exact hp
theorem rx_cso {post : SX → Prop} (h : ∀ ol : Nat → Int32, (∀ j, j < 33 → ol j = sv j) → post (te, od, pr, fa, ol, sv)) : wpX_copyFactors__savedFactors_olderFactors post (te, od, pr, fa, ol, sv) :=
  ⟨34, rx_cso2 33 0 ol rfl (h _ (fun _ hj => rq_w_in (Nat.zero_le _) hj))⟩
theorem rx_fp6 {post : Int32 → Prop} {c g : Nat → Fin 101} {p L : Nat} (hL : L ≤ p) (hp : p ≤ 32) (hc : ∀ j, j < L → fa (j + 1) = rq_i (c (j + 1))) (hl : ∀ j, j < L → pr (p - (j + 1)) = rq_i (g j)) (h : post (rq_i (- rq_sm (fun j => c (j + 1) * g j) L))) : ∀ (d m : Nat) (x4 : Int32), m + d = L → rq_n x4 (rq_sm (fun j => c (j + 1) * g j) m) (10000 * m) → wX_follow__probe_6 post (nI p) (nI L) te od pr fa ol sv (d + 1) x4 (nI (m + 1)) := by
  intro d
  induction d with
  | zero =>
    intro m x4 hm hx
    obtain rfl : m = L := by omega
    exact br_t (nI_lt (by omega) (by omega)) (rq_redB (post := fun r => post r) (rq_b_neg (rq_n_b hx) (by omega)) h)
  | succ d ih =>
    intro m x4 hm hx
    have e1 : fa (nI (m + 1)).toNatClampNeg = rq_i (c (m + 1)) := rq_rd (m + 1) rfl (by omega) (hc m (by omega))
    have e2 : pr (nI p - nI (m + 1)).toNatClampNeg = rq_i (g m) := rq_rd (p - (m + 1)) (pk_sub (by omega)) (by omega) (hl m (by omega))
    refine br_f (nI_nlt (by omega) (by omega)) (br_f (nI_nlt (by omega) (by omega)) ⟨vp_in_nI (by omega) (by omega), pk_in (p - (m + 1)) 32 (by omega) (pk_sub (by omega)), fun y ey => nm_r (nI_1 (m + 1)) (ih (m + 1) y (by omega) ?_)⟩)
    rw [ey, e1, e2]
    exact rq_n_le (rq_n_add hx (rq_n_mul (rq_n_i _) (rq_n_i _) (by decide)) (by omega)) (by omega)
theorem rx_fp {post : Int32 → Prop} {c g : Nat → Fin 101} {p L : Nat} (hL : L ≤ p) (hp : p ≤ 32) (hc : ∀ j, j < L → fa (j + 1) = rq_i (c (j + 1))) (hl : ∀ j, j < L → pr (p - (j + 1)) = rq_i (g j)) (h : post (rq_i (- rq_sm (fun j => c (j + 1) * g j) L))) : wpX_follow__probe post (te, od, pr, fa, ol, sv) (nI p) (nI L) :=
  ⟨L + 1, rx_fp6 hL hp hc hl h L 0 0 (Nat.zero_add L) (rq_n_0 _)⟩
theorem rx_ft6 {post : Int32 → Prop} {c g : Nat → Fin 101} {p L : Nat} (hL : L ≤ p) (hL2 : L ≤ 32) (hp : p ≤ 1604) (hc : ∀ j, j < L → fa (j + 1) = rq_i (c (j + 1))) (hl : ∀ j, j < L → te (p - (j + 1)) = rq_i (g j)) (h : post (rq_i (- rq_sm (fun j => c (j + 1) * g j) L))) : ∀ (d m : Nat) (x4 : Int32), m + d = L → rq_n x4 (rq_sm (fun j => c (j + 1) * g j) m) (10000 * m) → wX_follow__terms_6 post (nI p) (nI L) te od pr fa ol sv (d + 1) x4 (nI (m + 1)) := by
  intro d
  induction d with
  | zero =>
    intro m x4 hm hx
    obtain rfl : m = L := by omega
    exact br_t (nI_lt (by omega) (by omega)) (rq_redB (post := fun r => post r) (rq_b_neg (rq_n_b hx) (by omega)) h)
  | succ d ih =>
    intro m x4 hm hx
    have e1 : fa (nI (m + 1)).toNatClampNeg = rq_i (c (m + 1)) := rq_rd (m + 1) rfl (by omega) (hc m (by omega))
    have e2 : te (nI p - nI (m + 1)).toNatClampNeg = rq_i (g m) := rq_rd (p - (m + 1)) (pk_sub (by omega)) (by omega) (hl m (by omega))
    refine br_f (nI_nlt (by omega) (by omega)) (br_f (nI_nlt (by omega) (by omega)) ⟨vp_in_nI (by omega) (by omega), pk_in (p - (m + 1)) 1604 (by omega) (pk_sub (by omega)), fun y ey => nm_r (nI_1 (m + 1)) (ih (m + 1) y (by omega) ?_)⟩)
    rw [ey, e1, e2]
    exact rq_n_le (rq_n_add hx (rq_n_mul (rq_n_i _) (rq_n_i _) (by decide)) (by omega)) (by omega)
theorem rx_ft {post : Int32 → Prop} {c g : Nat → Fin 101} {p L : Nat} (hL : L ≤ p) (hL2 : L ≤ 32) (hp : p ≤ 1604) (hc : ∀ j, j < L → fa (j + 1) = rq_i (c (j + 1))) (hl : ∀ j, j < L → te (p - (j + 1)) = rq_i (g j)) (h : post (rq_i (- rq_sm (fun j => c (j + 1) * g j) L))) : wpX_follow__terms post (te, od, pr, fa, ol, sv) (nI p) (nI L) :=
  ⟨L + 1, rx_ft6 hL hL2 hp hc hl h L 0 0 (Nat.zero_add L) (rq_n_0 _)⟩
end
end
section
-- The component's Berlekamp-Massey, and takeProbe
section
variable {te od pr : Nat → Int32}
theorem rq_d_front {a c : Nat → Fin 101} {L n : Nat} (h : c 0 = 1) : rq_d a c L n = a n - - rq_sm (fun j => c (j + 1) * a (n - (j + 1))) L := by
  unfold rq_d
  rw [rq_sm_front, h, Nat.sub_zero]; grind
theorem rx_sr13 {post : Int32 → SX → Prop} {a : Nat → Fin 101} (hp : ∀ j, j < 32 → pr j = rq_i (a j)) (hpost : ∀ (c b : Nat → Fin 101) (L s : Nat) (q : Fin 101) (fa ol sv : Nat → Int32), rq_bm a c b L s 32 q → (∀ j, j < 33 → fa j = rq_i (c j)) → post (nI L) (te, od, pr, fa, ol, sv)) : ∀ (d n : Nat) (c b : Nat → Fin 101) (L s : Nat) (q : Fin 101) (fa ol sv : Nat → Int32), n + d = 32 → rq_bm a c b L s n q → (∀ j, j < 33 → fa j = rq_i (c j)) → (∀ j, j < 33 → ol j = rq_i (b j)) → wX_shortestRecurrence_13 post (d + 1) (nI L) (nI s) (rq_i q) (nI n) te od pr fa ol sv := by
  intro d
  induction d with
  | zero =>
    intro n c b L s q fa ol sv hn hbm hf ho
    obtain rfl : n = 32 := by omega
    exact br_t (nI_le (a := 32) (by omega) (by omega)) (hpost c b L s q fa ol sv hbm hf)
  | succ d ih =>
    intro n c b L s q fa ol sv hn hbm hf ho
    have hLn : L ≤ n := hbm.2.1
    have hsn : s ≤ n + 1 := by
      rcases hbm.2.2.2.2.2.2 with ⟨h1, _⟩ | ⟨m, lb, h1, _⟩
      · omega
      · omega
    have e1 : pr (nI n).toNatClampNeg = rq_i (a n) := rq_rd n rfl (by omega) (hp n (by omega))
    refine br_f (nI_ge (b := 32) (by omega) (by decide)) ?_
    refine rx_fp (c := c) (g := fun j => a (n - (j + 1))) hLn (by omega) (fun j hj => hf _ (by omega)) (fun j hj => hp _ (by omega)) ⟨vp_in_nI (by omega) (by omega), ?_⟩
    refine rq_redB (z := rq_d a c L n) (M := 200) ?_ ?_
    · rw [e1, rq_d_front hbm.1.1]
      exact rq_b_sub (rq_b_i _) (rq_b_i _) (by decide)
    · by_cases hd : rq_d a c L n = 0
      · exact br_t (rq_i_eq0.mpr hd) (nm_r (nI_1 s) (nm_r (nI_1 n) (ih (n + 1) c b L (s + 1) q fa ol sv (by omega) (rq_bmZ hbm hd) hf ho)))
      · refine br_f (fun z => hd (rq_i_eq0.mp z)) ?_
        refine rx_inv ⟨rq_ne, nm_r (rq_rem (rq_n_mul (rq_n_i _) (rq_n_i _) (by decide))) ?_⟩
        have ht : rq_d a c L n * rq_pow q 99 * q = rq_d a c L n := by
          have := rq_inv q hbm.2.2.2.2.1
          grind
        refine rx_cfs (fun sv' hsv => ?_)
        refine rx_sub (c := c) (b := b) (by omega) ho hf (fun fa' hf' => ?_)
        refine pk_lt n (2 * L) (fun hlt => ?_) (fun hge => ?_) rfl (pk_mul 2 L)
        · exact nm_r (nI_1 s) (nm_r (nI_1 n) (ih (n + 1) _ b L (s + 1) q fa' ol sv' (by omega) (rq_bmB hbm hd ht (by omega)) hf' ho))
        · refine rx_cso (fun ol' hol => ?_)
          refine nm_r (e' := nI (n + 1 - L)) (by rw [nI_1, pk_sub (by omega)]) (nm_r (e' := nI 1) (by decide) (nm_r (nI_1 n) ?_))
          exact ih (n + 1) _ c (n + 1 - L) 1 (rq_d a c L n) fa' ol' sv' (by omega) (rq_bmA hbm hd ht hge) hf' (fun j hj => by rw [hol j hj, hsv j hj, hf j hj])
theorem rx_sr {post : Int32 → SX → Prop} {fa ol sv : Nat → Int32} {a : Nat → Fin 101} (hp : ∀ j, j < 32 → pr j = rq_i (a j)) (hpost : ∀ (c b : Nat → Fin 101) (L s : Nat) (q : Fin 101) (fa ol sv : Nat → Int32), rq_bm a c b L s 32 q → (∀ j, j < 33 → fa j = rq_i (c j)) → post (nI L) (te, od, pr, fa, ol, sv)) : wpX_shortestRecurrence post (te, od, pr, fa, ol, sv) := by
  refine rx_clear (fun fa' ol' h1 h2 h3 h4 => ⟨33, ?_⟩)
  have key := rx_sr13 (te := te) (od := od) hp hpost 32 0 (fun j => if j = 0 then 1 else 0) (fun j => if j = 0 then 1 else 0) 0 1 1 fa' ol' sv rfl (rq_bm0 a _ _ ⟨rfl, fun j hj => if_neg (by omega)⟩ ⟨rfl, fun j hj => if_neg (by omega)⟩) ?_ ?_
  · rw [rq_i_1] at key; exact key
  · intro j hj
    by_cases e : j = 0
    · rw [e, h1, if_pos rfl, rq_i_1]
    · rw [if_neg e, rq_i_0]; exact h3 j (by omega) hj
  · intro j hj
    by_cases e : j = 0
    · rw [e, h2, if_pos rfl, rq_i_1]
    · rw [if_neg e, rq_i_0]; exact h4 j (by omega) hj
theorem rx_t49 {post : Int32 → SX → Prop} {fa ol sv : Nat → Int32} {B c : Nat → Fin 101} {s L : Nat} (hs : s < 4) (hG : rq_G B c L) (hL : L ≤ 8) (hf : ∀ j, j < 33 → fa j = rq_i (c j)) : ∀ (d i : Nat) (te : Nat → Int32), i + d = 401 → 32 ≤ i → (∀ j, j < i → te (s * 401 + j) = rq_i (B j)) → post (nI L) (rq_w te (s * 401 + i) (s * 401 + 401) (fun j => rq_i (B (j - s * 401))), upd od s (nI L), pr, fa, ol, sv) → wX_takeProbe_49 post (nI s) (nI L) (d + 1) (nI i) te od pr fa ol sv := by
  intro d
  induction d with
  | zero =>
    intro i te hi h32 ht hp
    obtain rfl : i = 401 := by omega
    rw [rq_w_end] at hp
    exact br_t (nI_le (a := 401) (by omega) (by omega)) ⟨vp_in_nI hs (by omega), nm_r (rq_up s rfl (by omega) rfl) hp⟩
  | succ d ih =>
    intro i te hi h32 ht hp
    refine br_f (nI_ge (b := 401) (by omega) (by decide)) ?_
    have ex : nI s * 401 + nI i = nI (s * 401 + i) := rq_ix s 401 i
    rw [ex]
    have en := rq_next hG (n := i) (by omega)
    refine rx_ft (c := c) (g := fun j => B (i - (j + 1))) (by omega) (by omega) (by omega) (fun j hj => hf _ (by omega)) (fun j hj => ?_) ⟨vp_in_nI (by omega) (by omega), nm_r (rq_up (s * 401 + i) rfl (by omega) rfl) (nm_r (nI_1 i) (ih (i + 1) _ (by omega) (by omega) (fun j hj => ?_) ?_))⟩
    · rw [show s * 401 + i - (j + 1) = s * 401 + (i - (j + 1)) by omega]; exact ht _ (by omega)
    · by_cases e : j = i
      · rw [e, pk_us, en]
      · rw [pk_un (by omega)]; exact ht j (by omega)
    · rw [← Nat.add_assoc, rq_w_step (by omega) (by rw [← en, Nat.add_sub_cancel_left])]; exact hp
theorem rx_t16 {post : Int32 → SX → Prop} {fa ol sv : Nat → Int32} {B c : Nat → Fin 101} {s L : Nat} (hs : s < 4) (hG : rq_G B c L) (hL : L ≤ 8) (hf : ∀ j, j < 33 → fa j = rq_i (c j)) (hpr : ∀ j, j < 32 → pr j = rq_i (B j)) : ∀ (d i : Nat) (te : Nat → Int32), i + d = 32 → (∀ j, j < i → te (s * 401 + j) = rq_i (B j)) → post (nI L) (rq_w te (s * 401 + i) (s * 401 + 401) (fun j => rq_i (B (j - s * 401))), upd od s (nI L), pr, fa, ol, sv) → wX_takeProbe_16 post (nI s) (nI L) (d + 1) (nI i) te od pr fa ol sv := by
  intro d
  induction d with
  | zero =>
    intro i te hi ht hp
    obtain rfl : i = 32 := by omega
    exact br_t (nI_le (a := 32) (by omega) (by omega)) ⟨370, rx_t49 hs hG hL hf 369 32 te rfl (by omega) ht hp⟩
  | succ d ih =>
    intro i te hi ht hp
    have ex : nI s * 401 + nI i = nI (s * 401 + i) := rq_ix s 401 i
    refine br_f (nI_ge (b := 32) (by omega) (by decide)) ⟨vp_in_nI (by omega) (by omega), pk_in (s * 401 + i) 1604 (by omega) ex, nm_r (rq_up (s * 401 + i) ex (by omega) (rq_rd i rfl (by omega) (hpr i (by omega)))) (nm_r (nI_1 i) (ih (i + 1) _ (by omega) (fun j hj => ?_) ?_))⟩
    · by_cases e : j = i
      · rw [e, pk_us]
      · rw [pk_un (by omega)]; exact ht j (by omega)
    · rw [← Nat.add_assoc, rq_w_step (by omega) (by rw [Nat.add_sub_cancel_left])]; exact hp
theorem rx_take {post : Int32 → SX → Prop} {fa ol sv : Nat → Int32} {B c' : Nat → Fin 101} {s L' : Nat} (hs : s < 4) (hpr : ∀ j, j < 32 → pr j = rq_i (B j)) (hG : rq_G B c' L') (hL' : L' ≤ 16)
    (hF : ∀ L, rq_O B L → 8 < L → ∀ fa ol sv : Nat → Int32, post (-3) (te, od, pr, fa, ol, sv))
    (hS : ∀ L, rq_O B L → L ≤ 8 → ∀ fa ol sv : Nat → Int32, post (nI L) (rq_w te (s * 401) (s * 401 + 401) (fun j => rq_i (B (j - s * 401))), upd od s (nI L), pr, fa, ol, sv)) : wpX_takeProbe post (te, od, pr, fa, ol, sv) (nI s) := by
  refine rx_sr hpr (fun c b L sh q fa ol sv hbm hf => ?_)
  obtain ⟨h1, h2⟩ := rq_end hbm hG hL'
  have h3 : L ≤ 32 := hbm.2.1
  refine pk_le L 8 (fun h8 => ?_) (fun h8 => ?_)
  · exact ⟨33, rx_t16 hs h1 h8 hf hpr 32 0 te rfl (fun j hj => absurd hj (Nat.not_lt_zero j)) (hS L h2 h8 fa ol sv)⟩
  · exact hF L h2 h8 fa ol sv
end
end
section
-- Pure part: elimination keeps the kernel; Hankel tables
theorem rq_sm_one {f : Nat → Fin 101} {n i : Nat} (hi : i < n) (hz : ∀ j, j < n → j ≠ i → f j = 0) : rq_sm f n = f i := by
  have h1 : rq_sm f n = rq_sm f (i + 1) := rq_sm_ext (by omega) (fun j h1 h2 => hz j h2 (by omega))
  rw [h1, rq_sm, rq_sm_zero i (fun j hj => hz j (by omega) (by omega))]; grind
theorem rq_sm_rev (f : Nat → Fin 101) : ∀ n : Nat, rq_sm (fun j => f (n - j)) (n + 1) = rq_sm f (n + 1) := by
  intro n
  induction n with
  | zero => rfl
  | succ n ih =>
    rw [rq_sm_front, rq_sm_congr (g := fun j => f (n - j)) (n + 1) (fun j _ => by rw [Nat.add_sub_add_right]), ih, Nat.sub_zero, rq_sm.eq_2 f (n + 1)]; grind
/-- the first m rows of T send v to zero -/
def rq_K (T : Nat → Nat → Fin 101) (m : Nat) (v : Nat → Fin 101) : Prop := ∀ r, r < m → rq_sm (fun c => T r c * v c) 17 = 0
def rq_swap (T : Nat → Nat → Fin 101) (a b : Nat) : Nat → Nat → Fin 101 := fun r c => if r = a then T b c else if r = b then T a c else T r c
def rq_sg (a b r : Nat) : Nat := if r = a then b else if r = b then a else r
theorem rq_swapE (T : Nat → Nat → Fin 101) (a b r c : Nat) : rq_swap T a b r c = T (rq_sg a b r) c := by
  unfold rq_swap rq_sg
  split
  · rfl
  · split
    · rfl
    · rfl
theorem rq_sgsg (a b r : Nat) : rq_sg a b (rq_sg a b r) = r := by
  unfold rq_sg
  by_cases h1 : r = a
  · rw [if_pos h1]
    by_cases h2 : b = a
    · rw [if_pos h2]; omega
    · rw [if_neg h2, if_pos rfl]; omega
  · rw [if_neg h1]
    by_cases h2 : r = b
    · rw [if_pos h2, if_pos rfl]; omega
    · rw [if_neg h2, if_neg h1, if_neg h2]
theorem rq_sglt {a b r m : Nat} (ha : a < m) (hb : b < m) (hr : r < m) : rq_sg a b r < m := by
  unfold rq_sg
  split
  · exact hb
  · split
    · exact ha
    · exact hr
theorem rq_Kswap {T : Nat → Nat → Fin 101} {a b m : Nat} (ha : a < m) (hb : b < m) (v : Nat → Fin 101) : rq_K (rq_swap T a b) m v ↔ rq_K T m v := by
  have key : ∀ r, rq_sm (fun c => rq_swap T a b r c * v c) 17 = rq_sm (fun c => T (rq_sg a b r) c * v c) 17 := fun r => rq_sm_congr _ (fun c _ => by rw [rq_swapE])
  constructor
  · intro h r hr
    have := h (rq_sg a b r) (rq_sglt ha hb hr)
    rw [key, rq_sgsg] at this
    exact this
  · intro h r hr
    rw [key]
    exact h _ (rq_sglt ha hb hr)
def rq_clr (T : Nat → Nat → Fin 101) (m row col : Nat) (y : Fin 101) : Nat → Nat → Fin 101 := fun r c => if r = row then T r c * y else if r < m then T r c - T r col * (T row c * y) else T r c
theorem rq_Kclr {T : Nat → Nat → Fin 101} {m row col : Nat} {y : Fin 101} (hrow : row < m) (hy : T row col * y = 1) (v : Nat → Fin 101) : rq_K (rq_clr T m row col y) m v ↔ rq_K T m v := by
  have k1 : rq_sm (fun c => rq_clr T m row col y row c * v c) 17 = y * rq_sm (fun c => T row c * v c) 17 := by
    rw [← rq_sm_mul]
    refine rq_sm_congr _ (fun c _ => ?_)
    rw [rq_clr, if_pos rfl]; grind
  have k2 : ∀ r, r < m → r ≠ row → rq_sm (fun c => rq_clr T m row col y r c * v c) 17 = rq_sm (fun c => T r c * v c) 17 + (- (T r col * y)) * rq_sm (fun c => T row c * v c) 17 := by
    intro r hr hne
    rw [← rq_sm_mul, ← rq_sm_add]
    refine rq_sm_congr _ (fun c _ => ?_)
    rw [rq_clr, if_neg hne, if_pos hr]; grind
  constructor
  · intro h
    have h0 : rq_sm (fun c => T row c * v c) 17 = 0 := by
      have := h row hrow
      rw [k1] at this
      grind
    intro r hr
    by_cases e : r = row
    · rw [e]; exact h0
    · have := h r hr
      rw [k2 r hr e, h0] at this
      grind
  · intro h r hr
    by_cases e : r = row
    · rw [e, k1, h row hrow]; grind
    · rw [k2 r hr e, h row hrow, h r hr]; grind
/-- what a table must keep so that its elimination ends at rank R -/
def rq_H (T0 : Nat → Nat → Fin 101) (m R : Nat) : Prop := R ≤ m ∧ m ≤ 16 ∧ (∀ (c : Nat) (v : Nat → Fin 101), c < R → v c = 1 → (∀ j, c < j → v j = 0) → ¬ rq_K T0 m v) ∧ (∀ c : Nat, R ≤ c → c < m → ∃ v : Nat → Fin 101, v c = 1 ∧ (∀ j, c < j → v j = 0) ∧ rq_K T0 m v)
def rq_E (T0 T : Nat → Nat → Fin 101) (m R c r : Nat) : Prop := ((c ≤ R ∧ r = c) ∨ (R ≤ c ∧ r = R)) ∧ (∀ i j, i < m → j < r → T i j = if i = j then 1 else 0) ∧ (∀ i j, r ≤ i → i < m → j < c → T i j = 0) ∧ (∀ v, rq_K T m v ↔ rq_K T0 m v)
theorem rq_E0 (T0 : Nat → Nat → Fin 101) (m R : Nat) : rq_E T0 T0 m R 0 0 := ⟨Or.inl ⟨Nat.zero_le _, rfl⟩, fun _ j _ h => absurd h (Nat.not_lt_zero j), fun _ j _ _ h => absurd h (Nat.not_lt_zero j), fun _ => Iff.rfl⟩
theorem rq_Epiv {T0 T : Nat → Nat → Fin 101} {m R c r : Nat} (hE : rq_E T0 T m R c r) (hH : rq_H T0 m R) (hc : c < m) (hz : ∀ i, r ≤ i → i < m → T i c = 0) : rq_E T0 T m R (c + 1) r := by
  obtain ⟨E1, E2, E3, E4⟩ := hE
  obtain ⟨H0, H1, H2, H3⟩ := hH
  have hR : R ≤ c := by
    refine Nat.le_of_not_lt (fun hlt => ?_)
    have hr : r = c := by omega
    subst hr
    refine H2 r (fun j => if j = r then 1 else if j < r then - T j r else 0) hlt (if_pos rfl) (fun j hj => by rw [if_neg (by omega), if_neg (by omega)]) ((E4 _).mp (fun i hi => ?_))
    rw [rq_sm_ext (m := r + 1) (by omega) (fun j h1 h2 => by (try dsimp only); rw [if_neg (by omega), if_neg (by omega)]; grind), rq_sm]
    (try dsimp only)
    rw [if_pos rfl]
    by_cases e : i < r
    · rw [rq_sm_one (i := i) e (fun j hj hne => by (try dsimp only); rw [E2 i j hi hj, if_neg (fun z => hne z.symm)]; grind)]
      (try dsimp only)
      rw [if_neg (by omega), if_pos e, E2 i i hi e, if_pos rfl]; grind
    · rw [rq_sm_zero r (fun j hj => by rw [E3 i j (by omega) hi hj]; grind), hz i (by omega) hi]; grind
  refine ⟨Or.inr ⟨by omega, by omega⟩, E2, fun i j h1 h2 h3 => ?_, E4⟩
  by_cases e : j = c
  · rw [e]; exact hz i h1 h2
  · exact E3 i j h1 h2 (by omega)
theorem rq_Enop {T0 T : Nat → Nat → Fin 101} {m R c r : Nat} (hE : rq_E T0 T m R c r) (hH : rq_H T0 m R) (hc : c < m) (hR : R ≤ c) : ∀ i, r ≤ i → i < m → T i c = 0 := by
  obtain ⟨E1, E2, E3, E4⟩ := hE
  obtain ⟨H0, H1, H2, H3⟩ := hH
  intro i h1 h2
  obtain ⟨v, v1, v2, v3⟩ := H3 c hR hc
  have := (E4 v).mpr v3 i h2
  rw [rq_sm_one (i := c) (by omega) (fun j hj hne => by
    by_cases e : j < c
    · rw [E3 i j h1 h2 e]; grind
    · rw [v2 j (by omega)]; grind), v1] at this
  grind
theorem rq_Estep {T0 T : Nat → Nat → Fin 101} {m R c r p : Nat} {y : Fin 101} (hE : rq_E T0 T m R c r) (hH : rq_H T0 m R) (hc : c < m) (hp : r ≤ p) (hpm : p < m) (hne : T p c ≠ 0) (hy : rq_swap T r p r c * y = 1) : rq_E T0 (rq_clr (rq_swap T r p) m r c y) m R (c + 1) (r + 1) := by
  have hcR : c < R := by
    refine Nat.lt_of_not_le (fun hR => hne (rq_Enop hE hH hc hR p hp hpm))
  obtain ⟨E1, E2, E3, E4⟩ := hE
  obtain ⟨H0, H1, H2, H3⟩ := hH
  have hr : r = c := by omega
  subst hr
  have hS : ∀ i j, i < m → j < r → rq_swap T r p i j = if i = j then 1 else 0 := by
    intro i j hi hj
    unfold rq_swap
    by_cases e1 : i = r
    · rw [if_pos e1, if_neg (by omega), E3 p j hp hpm hj]
    · rw [if_neg e1]
      by_cases e2 : i = p
      · rw [if_pos e2, if_neg (by omega), E3 r j (Nat.le_refl _) (by omega) hj]
      · rw [if_neg e2]; exact E2 i j hi hj
  have key : ∀ i j, i < m → j < r + 1 → rq_clr (rq_swap T r p) m r r y i j = if i = j then 1 else 0 := by
    intro i j hi hj
    unfold rq_clr
    by_cases e1 : i = r
    · rw [if_pos e1]
      by_cases e2 : j = r
      · rw [e1, e2, if_pos rfl]; exact hy
      · rw [hS i j hi (by omega), if_neg (by omega)]; grind
    · rw [if_neg e1, if_pos hi]
      by_cases e2 : j = r
      · rw [e2, hy, if_neg e1]; grind
      · rw [hS r j (by omega) (by omega), if_neg (by omega : ¬ r = j), hS i j hi (by omega)]; grind
  refine ⟨Or.inl ⟨by omega, rfl⟩, key, fun i j h1 h2 h3 => ?_, fun v => ?_⟩
  · rw [key i j h2 h3, if_neg (by omega)]
  · exact (rq_Kclr (by omega) hy v).trans ((rq_Kswap (by omega) hpm v).trans (E4 v))
theorem rq_Hk {A : Nat → Fin 101} {T0 : Nat → Nat → Fin 101} {L m : Nat} (hO : rq_O A L) (hm : L ≤ m) (hL : L ≤ 16) (hT : ∀ i j, i < m → j < L → T0 i j = A (i + j)) : ∀ (c : Nat) (v : Nat → Fin 101), c < L → v c = 1 → (∀ j, c < j → v j = 0) → ¬ rq_K T0 m v := by
  intro c v hc hv hz hK
  obtain ⟨⟨e, he⟩, hmin⟩ := hO
  have hg : rq_g A (fun j => v (c - j)) c (m + c) := by
    refine ⟨hv, fun i h1 h2 => ?_⟩
    have hk := hK (i - c) (by omega)
    rw [rq_sm_ext (m := c + 1) (by omega) (fun j j1 j2 => by (try dsimp only); rw [hz j (by omega)]; grind)] at hk
    rw [← hk, ← rq_sm_rev]
    unfold rq_d
    refine rq_sm_congr _ (fun j hj => ?_)
    dsimp only
    rw [hT (i - c) (c - j) (by omega) (by omega), show i - c + (c - j) = i - j by omega]; grind
  have := hmin _ c (rq_all hg he (by omega))
  omega
theorem rq_H16 {A : Nat → Fin 101} {T0 : Nat → Nat → Fin 101} {L : Nat} (hO : rq_O A L) (hL : L ≤ 16) (hT : ∀ i j, i < 16 → j < 16 → T0 i j = A (i + j)) : rq_H T0 16 L := by
  refine ⟨hL, Nat.le_refl _, rq_Hk hO hL hL (fun i j hi hj => hT i j hi (by omega)), fun c hc1 hc2 => ?_⟩
  obtain ⟨⟨e0, he0⟩, _⟩ := hO
  obtain ⟨e, he, hz⟩ := rq_Gz he0
  refine ⟨fun k => if k ≤ c then e (c - k) else 0, ?_, fun j hj => if_neg (by omega), fun i hi => ?_⟩
  · dsimp only
    rw [if_pos (Nat.le_refl c), Nat.sub_self]; exact he.1
  · rw [rq_sm_ext (m := c + 1) (by omega) (fun j j1 j2 => by (try dsimp only); rw [if_neg (by omega)]; grind), ← rq_sm_rev]
    have h := he.2 (i + c) (by omega)
    rw [← rq_d_ext hc1 hz] at h
    rw [← h]
    unfold rq_d
    refine rq_sm_congr _ (fun j hj => ?_)
    dsimp only
    rw [hT i (c - j) hi (by omega), if_pos (by omega), show c - (c - j) = j by omega, show i + (c - j) = i + c - j by omega]; grind
theorem rq_HL {A : Nat → Fin 101} {T0 : Nat → Nat → Fin 101} {L : Nat} (hO : rq_O A L) (hL : L ≤ 16) (hT : ∀ i j, i < L → j < L → T0 i j = A (i + j)) : rq_H T0 L L :=
  ⟨Nat.le_refl _, hL, rq_Hk hO (Nat.le_refl _) hL hT, fun c h1 h2 => by omega⟩
/-- what stands in the last column when the table of order L is eliminated -/
theorem rq_fin {A e : Nat → Fin 101} {T0 T : Nat → Nat → Fin 101} {L : Nat} (hG : rq_G A e L) (hL : L ≤ 16) (hT : ∀ i j, i < L → j < L → T0 i j = A (i + j)) (hT2 : ∀ i, i < L → T0 i 16 = A (i + L)) (hE : rq_E T0 T L L L L) : ∀ i, i < L → T i 16 = - e (L - i) := by
  obtain ⟨E1, E2, E3, E4⟩ := hE
  intro i hi
  have hK : rq_K T0 L (fun j => if j < L then e (L - j) else if j = 16 then 1 else 0) := by
    intro r hr
    rw [rq_sm, rq_sm_ext (m := L) hL (fun j j1 j2 => by (try dsimp only); rw [if_neg (by omega), if_neg (by omega)]; grind)]
    dsimp only
    rw [if_neg (by omega), if_pos rfl, hT2 r hr]
    have h := hG.2 (r + L) (by omega)
    unfold rq_d at h
    rw [rq_sm_congr (g := fun j => (fun k => e (L - k) * A (r + k)) (L - j)) (L + 1) (fun j hj => by (try dsimp only); rw [show L - (L - j) = j by omega, show r + (L - j) = r + L - j by omega]), rq_sm_rev (fun k => e (L - k) * A (r + k)) L, rq_sm, Nat.sub_self, hG.1] at h
    rw [rq_sm_congr (g := fun k => e (L - k) * A (r + k)) L (fun j hj => by (try dsimp only); rw [if_pos hj, hT r j hr hj]; grind)]
    grind
  have h := (E4 _).mpr hK i hi
  rw [rq_sm, rq_sm_ext (m := L) hL (fun j j1 j2 => by (try dsimp only); rw [if_neg (by omega), if_neg (by omega)]; grind), rq_sm_one (i := i) hi (fun j hj hne => by (try dsimp only); rw [E2 i j hi hj, if_neg (fun z => hne z.symm)]; grind)] at h
  (try dsimp only at h)
  rw [if_pos hi, if_neg (by omega), if_pos rfl, E2 i i hi hi, if_pos rfl] at h
  grind
end
section
-- The reference's private methods: inverse, load, store, the table
section
variable {te wk tb fa : Nat → Int32}
theorem ry_inv2 {post : Int32 → Prop} {x : Fin 101} (hx : x ≠ 0) (h : ∀ y : Fin 101, x * y = 1 → post (rq_i y)) : ∀ d i : Nat, i + d = 101 → (∀ j : Fin 101, j.val < i → x * j ≠ 1) → wY_inverse_2 post (rq_i x) te wk tb fa (d + 1) (nI i) := by
  intro d
  induction d with
  | zero =>
    intro i hi hj
    exfalso
    refine hj (rq_pow x 99) (by have := (rq_pow x 99).isLt; omega) ?_
    have := rq_inv x hx
    grind
  | succ d ih =>
    intro i hi hj
    have e : rq_i x * nI i - rq_i x * nI i / 101 * 101 = rq_i (x * ⟨i, by omega⟩) := rq_rem (rq_n_mul (rq_n_i x) (rq_n_i ⟨i, by omega⟩) (by decide))
    refine br_f (nI_ge (b := 101) (by omega) (by decide)) ⟨rq_ne, ?_⟩
    by_cases hy : x * ⟨i, by omega⟩ = 1
    · exact br_t (by rw [e, hy, rq_i_1]) (h ⟨i, by omega⟩ hy)
    · refine br_f (fun z => hy (rq_i_inj (e.symm.trans (z.trans rq_i_1.symm)))) (nm_r (nI_1 i) (ih (i + 1) (by omega) (fun j h2 => ?_)))
      by_cases e2 : j.val = i
      · intro z
        exact hy (by rw [← z]; exact congrArg (x * ·) (Fin.ext e2.symm))
      · exact hj j (by omega)
theorem ry_inv {post : Int32 → Prop} {x : Fin 101} (hx : x ≠ 0) (h : ∀ y : Fin 101, x * y = 1 → post (rq_i y)) : wpY_inverse post (te, wk, tb, fa) (rq_i x) := by
  refine ⟨101, ry_inv2 hx h 100 1 rfl (fun j hj => ?_)⟩
  have : j = 0 := Fin.ext (by omega)
  rw [this]
  intro z
  have h2 : (0 : Fin 101) = 1 := by rw [← z]; grind
  exact absurd h2 (by decide)
theorem ry_load2 {post : SY → Prop} {s : Nat} (hs : s < 4) : ∀ (d i : Nat) (wk : Nat → Int32), i + d = 32 → post (te, rq_w wk i 32 (fun j => te (s * 32 + j)), tb, fa) → wY_load_2 post (nI s) (d + 1) (nI i) te wk tb fa := by
  intro d
  induction d with
  | zero =>
    intro i wk hi hp
    obtain rfl : i = 32 := by omega
    rw [rq_w_end] at hp
    exact br_t (nI_le (a := 32) (by omega) (by omega)) hp
  | succ d ih =>
    intro i wk hi hp
    have ex : nI s * 32 + nI i = nI (s * 32 + i) := rq_ix s 32 i
    refine br_f (nI_ge (b := 32) (by omega) (by decide)) ⟨pk_in (s * 32 + i) 128 (by omega) ex, vp_in_nI (by omega) (by omega), nm_r (rq_up i rfl (by omega) (rq_rd (s * 32 + i) ex (by omega) rfl)) (nm_r (nI_1 i) (ih (i + 1) _ (by omega) ?_))⟩
    rw [rq_w_step (g := fun j => te (s * 32 + j)) (by omega) rfl]; exact hp
theorem ry_load {post : SY → Prop} {s : Nat} {A : Nat → Fin 101} (hs : s < 4) (ht : ∀ j, j < 32 → te (s * 32 + j) = rq_i (A j)) (h : ∀ wk : Nat → Int32, (∀ j, j < 32 → wk j = rq_i (A j)) → post (te, wk, tb, fa)) : wpY_load post (te, wk, tb, fa) (nI s) :=
  ⟨33, ry_load2 hs 32 0 wk rfl (h _ (fun j hj => by rw [rq_w_in (Nat.zero_le _) hj]; exact ht j hj))⟩
theorem ry_store2 {post : SY → Prop} {s : Nat} {B : Nat → Fin 101} (hs : s < 4) (hw : ∀ j, j < 32 → wk j = rq_i (B j)) : ∀ (d i : Nat) (te : Nat → Int32), i + d = 32 → post (rq_w te (s * 32 + i) (s * 32 + 32) (fun j => rq_i (B (j - s * 32))), wk, tb, fa) → wY_store_2 post (nI s) (d + 1) (nI i) te wk tb fa := by
  intro d
  induction d with
  | zero =>
    intro i te hi hp
    obtain rfl : i = 32 := by omega
    rw [rq_w_end] at hp
    exact br_t (nI_le (a := 32) (by omega) (by omega)) hp
  | succ d ih =>
    intro i te hi hp
    have ex : nI s * 32 + nI i = nI (s * 32 + i) := rq_ix s 32 i
    refine br_f (nI_ge (b := 32) (by omega) (by decide)) ⟨vp_in_nI (by omega) (by omega), pk_in (s * 32 + i) 128 (by omega) ex, nm_r (rq_up (s * 32 + i) ex (by omega) (rq_rd i rfl (by omega) (hw i (by omega)))) (nm_r (nI_1 i) (ih (i + 1) _ (by omega) ?_))⟩
    rw [← Nat.add_assoc, rq_w_step (by omega) (by rw [Nat.add_sub_cancel_left])]; exact hp
theorem ry_store {post : SY → Prop} {s : Nat} {B : Nat → Fin 101} (hs : s < 4) (hw : ∀ j, j < 32 → wk j = rq_i (B j)) (h : post (rq_w te (s * 32) (s * 32 + 32) (fun j => rq_i (B (j - s * 32))), wk, tb, fa)) : wpY_store post (te, wk, tb, fa) (nI s) :=
  ⟨33, ry_store2 hs hw 32 0 te rfl h⟩
/-- tb shows the table T -/
def rq_tb (tb : Nat → Int32) (T : Nat → Nat → Fin 101) : Prop := ∀ r c, r < 16 → c < 17 → tb (r * 17 + c) = rq_i (T r c)
theorem rq_tbU {T : Nat → Nat → Fin 101} {r c : Nat} {x : Fin 101} (h : rq_tb tb T) (hc : c < 17) : rq_tb (upd tb (r * 17 + c) (rq_i x)) (fun r' c' => if r' = r ∧ c' = c then x else T r' c') := by
  intro r' c' h1 h2
  show _ = rq_i (if r' = r ∧ c' = c then x else T r' c')
  by_cases e : r' = r ∧ c' = c
  · rw [if_pos e, e.1, e.2, pk_us]
  · rw [if_neg e, pk_un (by omega)]; exact h r' c' h1 h2
theorem rq_tbC {T T' : Nat → Nat → Fin 101} (h : rq_tb tb T) (e : ∀ r c, r < 16 → c < 17 → T r c = T' r c) : rq_tb tb T' := fun r c h1 h2 => by rw [← e r c h1 h2]; exact h r c h1 h2
theorem rq_tbG {T : Nat → Nat → Fin 101} {r c : Nat} {x : Fin 101} (h : rq_tb tb T) (h1 : r < 16) (h2 : c < 17) (e : T r c = x) : tb (r * 17 + c) = rq_i x := by rw [← e]; exact h r c h1 h2
theorem ry_piv3 {post : Int32 → Prop} {T : Nat → Nat → Fin 101} {m c r : Nat} (hT : rq_tb tb T) (hm : m ≤ 16) (hc : c < 17) (h1 : ∀ p, r ≤ p → p < m → T p c ≠ 0 → post (nI p)) (h2 : (∀ i, r ≤ i → i < m → T i c = 0) → post (-1)) : ∀ d i : Nat, i + d = m → r ≤ i → (∀ j, r ≤ j → j < i → T j c = 0) → wY_pivot_3 post (nI m) (nI c) te wk tb fa (d + 1) (nI i) := by
  intro d
  induction d with
  | zero =>
    intro i hi hr hz
    obtain rfl : i = m := by omega
    exact br_t (nI_le (Nat.le_refl _) (by omega)) (h2 hz)
  | succ d ih =>
    intro i hi hr hz
    have ex : nI i * 17 + nI c = nI (i * 17 + c) := rq_ix i 17 c
    have e : tb (nI i * 17 + nI c).toNatClampNeg = rq_i (T i c) := rq_rd (i * 17 + c) ex (by omega) (hT i c (by omega) hc)
    refine br_f (nI_ge (by omega) (by omega)) ⟨pk_in (i * 17 + c) 272 (by omega) ex, ?_⟩
    by_cases hy : T i c = 0
    · refine br_t (by rw [e, hy, rq_i_0]) (nm_r (nI_1 i) (ih (i + 1) (by omega) (by omega) (fun j j1 j2 => ?_)))
      by_cases e2 : j = i
      · rw [e2]; exact hy
      · exact hz j j1 (by omega)
    · exact br_f (fun z => hy (rq_i_eq0.mp (e.symm.trans z))) (h1 i hr (by omega) hy)
theorem ry_piv {post : Int32 → Prop} {T : Nat → Nat → Fin 101} {m c r : Nat} (hT : rq_tb tb T) (hm : m ≤ 16) (hc : c < 17) (hr : r ≤ m) (h1 : ∀ p, r ≤ p → p < m → T p c ≠ 0 → post (nI p)) (h2 : (∀ i, r ≤ i → i < m → T i c = 0) → post (-1)) : wpY_pivot post (te, wk, tb, fa) (nI r) (nI m) (nI c) :=
  ⟨m - r + 1, ry_piv3 hT hm hc h1 h2 (m - r) r (by omega) (Nat.le_refl _) (fun j j1 j2 => by omega)⟩
theorem ry_ex2 {post : SY → Prop} {T : Nat → Nat → Fin 101} {a b : Nat} (ha : a < 16) (hb : b < 16) (h : ∀ tb : Nat → Int32, rq_tb tb (rq_swap T a b) → post (te, wk, tb, fa)) : ∀ (d i : Nat) (tb : Nat → Int32), i + d = 17 → rq_tb tb (fun r c => if c < i then rq_swap T a b r c else T r c) → wY_exchange_2 post (nI a) (nI b) (d + 1) (nI i) te wk tb fa := by
  intro d
  induction d with
  | zero =>
    intro i tb hi hT
    obtain rfl : i = 17 := by omega
    exact br_t (nI_le (a := 17) (by omega) (by omega)) (h tb (rq_tbC hT (fun r c _ h2 => if_pos h2)))
  | succ d ih =>
    intro i tb hi hT
    have xa : nI a * 17 + nI i = nI (a * 17 + i) := rq_ix a 17 i
    have xb : nI b * 17 + nI i = nI (b * 17 + i) := rq_ix b 17 i
    have ea : tb (nI a * 17 + nI i).toNatClampNeg = rq_i (T a i) := rq_rd (a * 17 + i) xa (by omega) (rq_tbG hT ha (by omega) (if_neg (by omega)))
    have eb : tb (nI b * 17 + nI i).toNatClampNeg = rq_i (T b i) := rq_rd (b * 17 + i) xb (by omega) (rq_tbG hT hb (by omega) (if_neg (by omega)))
    refine br_f (nI_ge (b := 17) (by omega) (by decide)) ⟨pk_in (a * 17 + i) 272 (by omega) xa, nm_r ea ⟨pk_in (b * 17 + i) 272 (by omega) xb, pk_in (a * 17 + i) 272 (by omega) xa, nm_r (rq_up (a * 17 + i) xa (by omega) eb) ⟨pk_in (b * 17 + i) 272 (by omega) xb, nm_r (rq_up (b * 17 + i) xb (by omega) rfl) (nm_r (nI_1 i) (ih (i + 1) _ (by omega) ?_))⟩⟩⟩
    refine rq_tbC (rq_tbU (rq_tbU hT (by omega)) (by omega)) (fun r c h1 h2 => ?_)
    by_cases e : c = i
    · subst e
      rw [if_pos (by omega : c < c + 1), rq_swap]
      by_cases e1 : r = b
      · rw [if_pos ⟨e1, rfl⟩]
        by_cases e2 : r = a
        · rw [if_pos e2, ← e1, ← e2]
        · rw [if_neg e2, if_pos e1]
      · rw [if_neg (by omega)]
        by_cases e2 : r = a
        · rw [if_pos ⟨e2, rfl⟩, if_pos e2]
        · rw [if_neg (by omega), if_neg (by omega), if_neg e2, if_neg e1]
    · rw [if_neg (by omega), if_neg (by omega)]
      by_cases e2 : c < i
      · rw [if_pos e2, if_pos (by omega)]
      · rw [if_neg e2, if_neg (by omega)]
theorem ry_ex {post : SY → Prop} {T : Nat → Nat → Fin 101} {a b : Nat} (hT : rq_tb tb T) (ha : a < 16) (hb : b < 16) (h : ∀ tb : Nat → Int32, rq_tb tb (rq_swap T a b) → post (te, wk, tb, fa)) : wpY_exchange post (te, wk, tb, fa) (nI a) (nI b) :=
  ⟨18, ry_ex2 ha hb h 17 0 tb rfl hT⟩
end
end
section
-- The reference's elimination, rank and settle
section
variable {te wk tb fa : Nat → Int32}
theorem ry_c89 {post : SY → Prop} {J : Int32 → (Nat → Int32) → (Nat → Int32) → (Nat → Int32) → (Nat → Int32) → Prop} {U : Nat → Nat → Fin 101} {row m col o : Nat} {t : Fin 101} (hrow : row < 16) (ho : o < 16) (h : ∀ tb : Nat → Int32, rq_tb tb (fun r c => if r = o ∧ r ≠ row then U r c - t * U row c else U r c) → J (nI (o + 1)) te wk tb fa) : ∀ (d i : Nat) (tb : Nat → Int32), i + d = 17 → rq_tb tb (fun r c => if (r = o ∧ r ≠ row) ∧ c < i then U r c - t * U row c else U r c) → wY_clearColumn_89 post J (nI row) (nI m) (nI col) (nI o) (rq_i t) (d + 1) (nI i) te wk tb fa := by
  intro d
  induction d with
  | zero =>
    intro i tb hi hT
    obtain rfl : i = 17 := by omega
    refine br_t (nI_le (a := 17) (by omega) (by omega)) (nm_r (nI_1 o) (h tb (rq_tbC hT (fun r c _ h2 => ?_))))
    by_cases e : r = o ∧ r ≠ row
    · rw [if_pos ⟨e, h2⟩, if_pos e]
    · rw [if_neg (fun z => e z.1), if_neg e]
  | succ d ih =>
    intro i tb hi hT
    refine br_f (nI_ge (b := 17) (by omega) (by decide)) ?_
    by_cases eo : o = row
    · refine br_t (by rw [eo]) (nm_r (nI_1 i) (ih (i + 1) tb (by omega) (rq_tbC hT (fun r c _ _ => ?_))))
      rw [if_neg (fun z => z.1.2 (z.1.1.trans eo)), if_neg (fun z => z.1.2 (z.1.1.trans eo))]
    · have xa : nI o * 17 + nI i = nI (o * 17 + i) := rq_ix o 17 i
      have xb : nI row * 17 + nI i = nI (row * 17 + i) := rq_ix row 17 i
      have ea : tb (nI o * 17 + nI i).toNatClampNeg = rq_i (U o i) := rq_rd (o * 17 + i) xa (by omega) (rq_tbG hT ho (by omega) (if_neg (by omega)))
      have eb : tb (nI row * 17 + nI i).toNatClampNeg = rq_i (U row i) := rq_rd (row * 17 + i) xb (by omega) (rq_tbG hT hrow (by omega) (if_neg (by omega)))
      refine br_f (fun z => eo ((nI_eq (by omega) (by omega)).mp z)) ⟨pk_in (o * 17 + i) 272 (by omega) xa, pk_in (row * 17 + i) 272 (by omega) xb, ?_⟩
      refine rq_modB (z := U o i - t * U row i) (M := 10100) ?_ ⟨pk_in (o * 17 + i) 272 (by omega) xa, nm_r (rq_up (o * 17 + i) xa (by omega) rfl) (nm_r (nI_1 i) (ih (i + 1) _ (by omega) (rq_tbC (rq_tbU hT (by omega)) (fun r c _ _ => ?_))))⟩
      · rw [ea, eb]; exact rq_b_sub (rq_b_i _) (rq_n_b (rq_n_mul (rq_n_i _) (rq_n_i _) (by decide))) (by decide)
      · by_cases e : r = o ∧ c = i
        · rw [if_pos e, if_pos (by omega), e.1, e.2]
        · rw [if_neg e]
          by_cases e2 : (r = o ∧ r ≠ row) ∧ c < i
          · rw [if_pos e2, if_pos (by omega)]
          · rw [if_neg e2, if_neg (by omega)]
theorem ry_c66 {post : SY → Prop} {T : Nat → Nat → Fin 101} {row m col : Nat} (hrow : row < m) (hm : m ≤ 16) (hcol : col < 17) (h : ∀ tb : Nat → Int32, rq_tb tb (fun r c => if r ≠ row ∧ r < m then T r c - T r col * T row c else T r c) → post (te, wk, tb, fa)) : ∀ (d o : Nat) (tb : Nat → Int32), o + d = m → rq_tb tb (fun r c => if r ≠ row ∧ r < o then T r c - T r col * T row c else T r c) → wY_clearColumn_66 post (nI row) (nI m) (nI col) (d + 1) (nI o) te wk tb fa := by
  intro d
  induction d with
  | zero =>
    intro o tb hi hT
    obtain rfl : o = m := by omega
    exact br_t (nI_le (Nat.le_refl _) (by omega)) (h tb hT)
  | succ d ih =>
    intro o tb hi hT
    have xa : nI o * 17 + nI col = nI (o * 17 + col) := rq_ix o 17 col
    have ea : tb (nI o * 17 + nI col).toNatClampNeg = rq_i (T o col) := rq_rd (o * 17 + col) xa (by omega) (rq_tbG hT (by omega) hcol (if_neg (by omega)))
    refine br_f (nI_ge (by omega) (by omega)) ⟨pk_in (o * 17 + col) 272 (by omega) xa, nm_r ea ⟨18, ?_⟩⟩
    refine ry_c89 (U := fun r c => if r ≠ row ∧ r < o then T r c - T r col * T row c else T r c) (t := T o col) (by omega) (by omega) (fun tb2 hT2 => ih (o + 1) tb2 (by omega) (rq_tbC hT2 (fun r c _ _ => ?_))) 17 0 tb rfl (rq_tbC hT (fun r c _ _ => (if_neg (fun z => Nat.not_lt_zero _ z.2)).symm))
    (try dsimp only)
    rw [if_neg (fun z => z.1 rfl : ¬ (row ≠ row ∧ row < o))]
    by_cases e : r = o ∧ r ≠ row
    · rw [if_pos e, if_neg (by omega), if_pos (by omega), e.1]
    · rw [if_neg e]
      by_cases e2 : r ≠ row ∧ r < o
      · rw [if_pos e2, if_pos (by omega)]
      · rw [if_neg e2, if_neg (by omega)]
theorem ry_c20 {post : SY → Prop} {T : Nat → Nat → Fin 101} {row m col : Nat} {y : Fin 101} (hrow : row < m) (hm : m ≤ 16) (hcol : col < 17) (h : ∀ tb : Nat → Int32, rq_tb tb (rq_clr T m row col y) → post (te, wk, tb, fa)) : ∀ (d i : Nat) (tb : Nat → Int32), i + d = 17 → rq_tb tb (fun r c => if r = row ∧ c < i then T r c * y else T r c) → wY_clearColumn_20 post (nI row) (nI m) (nI col) (rq_i y) (d + 1) (nI i) te wk tb fa := by
  intro d
  induction d with
  | zero =>
    intro i tb hi hT
    obtain rfl : i = 17 := by omega
    refine br_t (nI_le (a := 17) (by omega) (by omega)) ⟨m + 1, ?_⟩
    refine ry_c66 (T := fun r c => if r = row then T r c * y else T r c) hrow hm hcol (fun tb2 hT2 => h tb2 (rq_tbC hT2 (fun r c _ _ => ?_))) m 0 tb (Nat.zero_add m) (rq_tbC hT (fun r c _ h2 => ?_))
    · (try dsimp only)
      unfold rq_clr
      rw [if_pos rfl]
      by_cases e : r = row
      · rw [if_neg (fun z => z.1 e), if_pos e, if_pos e]
      · rw [if_neg e, if_neg e, if_neg e]
        by_cases e2 : r < m
        · rw [if_pos ⟨e, e2⟩, if_pos e2]
        · rw [if_neg (fun z => e2 z.2), if_neg e2]
    · (try dsimp only)
      rw [if_neg (fun z => Nat.not_lt_zero _ z.2 : ¬ (r ≠ row ∧ r < 0))]
      by_cases e : r = row
      · rw [if_pos ⟨e, h2⟩, if_pos e]
      · rw [if_neg (fun z => e z.1), if_neg e]
  | succ d ih =>
    intro i tb hi hT
    have xa : nI row * 17 + nI i = nI (row * 17 + i) := rq_ix row 17 i
    have ea : tb (nI row * 17 + nI i).toNatClampNeg = rq_i (T row i) := rq_rd (row * 17 + i) xa (by omega) (rq_tbG hT (by omega) (by omega) (if_neg (by omega)))
    refine br_f (nI_ge (b := 17) (by omega) (by decide)) ⟨pk_in (row * 17 + i) 272 (by omega) xa, rq_ne, pk_in (row * 17 + i) 272 (by omega) xa, nm_r (rq_up (w := rq_i (T row i * y)) (row * 17 + i) xa (by omega) ?_) (nm_r (nI_1 i) (ih (i + 1) _ (by omega) (rq_tbC (rq_tbU hT (by omega)) (fun r c _ _ => ?_))))⟩
    · rw [ea]; exact rq_rem (rq_n_mul (rq_n_i _) (rq_n_i _) (by decide))
    · by_cases e : r = row ∧ c = i
      · rw [if_pos e, if_pos (by omega), e.1, e.2]
      · rw [if_neg e]
        by_cases e2 : r = row ∧ c < i
        · rw [if_pos e2, if_pos (by omega)]
        · rw [if_neg e2, if_neg (by omega)]
theorem ry_clr {post : SY → Prop} {T : Nat → Nat → Fin 101} {row m col : Nat} (hT : rq_tb tb T) (hrow : row < m) (hm : m ≤ 16) (hcol : col < 17) (hne : T row col ≠ 0) (h : ∀ (tb : Nat → Int32) (y : Fin 101), T row col * y = 1 → rq_tb tb (rq_clr T m row col y) → post (te, wk, tb, fa)) : wpY_clearColumn post (te, wk, tb, fa) (nI row) (nI m) (nI col) := by
  have xa : nI row * 17 + nI col = nI (row * 17 + col) := rq_ix row 17 col
  have ea : tb (nI row * 17 + nI col).toNatClampNeg = rq_i (T row col) := rq_rd (row * 17 + col) xa (by omega) (hT row col (by omega) hcol)
  refine ⟨pk_in (row * 17 + col) 272 (by omega) xa, ?_⟩
  rw [ea]
  exact ry_inv hne (fun y hy => ⟨18, ry_c20 hrow hm hcol (fun tb2 h2 => h tb2 y hy h2) 17 0 tb rfl (rq_tbC hT (fun r c _ _ => (if_neg (fun z => Nat.not_lt_zero _ z.2)).symm))⟩)
theorem ry_el4 {post : Int32 → SY → Prop} {T0 : Nat → Nat → Fin 101} {m R : Nat} (hH : rq_H T0 m R) (h : ∀ (tb : Nat → Int32) (T : Nat → Nat → Fin 101), rq_E T0 T m R m R → rq_tb tb T → post (nI R) (te, wk, tb, fa)) : ∀ (d c r : Nat) (tb : Nat → Int32) (T : Nat → Nat → Fin 101), c + d = m → rq_E T0 T m R c r → rq_tb tb T → wY_eliminate_4 post (nI m) (d + 1) (nI r) (nI c) te wk tb fa := by
  intro d
  have hm : m ≤ 16 := hH.2.1
  have hR : R ≤ m := hH.1
  induction d with
  | zero =>
    intro c r tb T hi hE hT
    obtain rfl : c = m := by omega
    obtain rfl : r = R := by have := hE.1; omega
    exact br_t (nI_le (Nat.le_refl _) (by omega)) (h tb T hE hT)
  | succ d ih =>
    intro c r tb T hi hE hT
    have hrc : r ≤ c := by have := hE.1; omega
    refine br_f (nI_ge (by omega) (by omega)) ?_
    refine ry_piv hT hm (by omega) (by omega) (fun p h1 h2 h3 => ?_) (fun hz => ?_)
    · refine br_f (nI_pos (by omega)) (ry_ex hT (by omega) (by omega) (fun tb2 hT2 => ?_))
      refine ry_clr hT2 (by omega) hm (by omega) ?_ (fun tb3 y hy hT3 => ?_)
      · rw [rq_swap, if_pos rfl]; exact h3
      · exact nm_r (nI_1 r) (nm_r (nI_1 c) (ih (c + 1) (r + 1) tb3 _ (by omega) (rq_Estep hE hH (by omega) h1 h2 h3 hy) hT3))
    · exact br_t (by decide) (nm_r (nI_1 c) (ih (c + 1) r tb T (by omega) (rq_Epiv hE hH (by omega) hz) hT))
theorem ry_elim {post : Int32 → SY → Prop} {T0 : Nat → Nat → Fin 101} {m R : Nat} (hH : rq_H T0 m R) (hT : rq_tb tb T0) (h : ∀ (tb : Nat → Int32) (T : Nat → Nat → Fin 101), rq_E T0 T m R m R → rq_tb tb T → post (nI R) (te, wk, tb, fa)) : wpY_eliminate post (te, wk, tb, fa) (nI m) :=
  ⟨m + 1, ry_el4 hH h m 0 0 tb T0 (Nat.zero_add m) (rq_E0 T0 m R) hT⟩
theorem ry_r10 {post : Int32 → SY → Prop} {J : Int32 → (Nat → Int32) → (Nat → Int32) → (Nat → Int32) → (Nat → Int32) → Prop} {A : Nat → Fin 101} {T0 : Nat → Nat → Fin 101} {i : Nat} (hi : i < 16) (hw : ∀ j, j < 32 → wk j = rq_i (A j)) (h0 : ∀ r c, c < 16 → T0 r c = A (r + c)) (h1 : ∀ r, T0 r 16 = 0) (h : ∀ tb : Nat → Int32, (∀ r c, r < 16 → c < 17 → r < i + 1 → tb (r * 17 + c) = rq_i (T0 r c)) → J (nI (i + 1)) te wk tb fa) : ∀ (d j : Nat) (tb : Nat → Int32), j + d = 16 → (∀ r c, r < 16 → c < 17 → (r < i ∨ (r = i ∧ c < j)) → tb (r * 17 + c) = rq_i (T0 r c)) → wY_rank_10 post J (nI i) (d + 1) (nI j) te wk tb fa := by
  intro d
  induction d with
  | zero =>
    intro j tb hj hT
    obtain rfl : j = 16 := by omega
    have xa : nI i * 17 + 16 = nI (i * 17 + 16) := rq_ix i 17 16
    refine br_t (nI_le (a := 16) (by omega) (by omega)) ⟨pk_in (i * 17 + 16) 272 (by omega) xa, nm_r (rq_up (i * 17 + 16) xa (by omega) rfl) (nm_r (nI_1 i) (h _ (fun r c r1 r2 r3 => ?_)))⟩
    by_cases e : r = i ∧ c = 16
    · rw [e.1, e.2, pk_us, h1, rq_i_0]
    · rw [pk_un (by omega)]; exact hT r c r1 r2 (by omega)
  | succ d ih =>
    intro j tb hj hT
    have xa : nI i * 17 + nI j = nI (i * 17 + j) := rq_ix i 17 j
    have xb : nI i + nI j = nI (i + j) := nI_add i j
    refine br_f (nI_ge (b := 16) (by omega) (by decide)) ⟨pk_in (i + j) 402 (by omega) xb, pk_in (i * 17 + j) 272 (by omega) xa, nm_r (rq_up (i * 17 + j) xa (by omega) (rq_rd (i + j) xb (by omega) (hw _ (by omega)))) (nm_r (nI_1 j) (ih (j + 1) _ (by omega) (fun r c r1 r2 r3 => ?_)))⟩
    by_cases e : r = i ∧ c = j
    · rw [e.1, e.2, pk_us, h0 i j (by omega)]
    · rw [pk_un (by omega)]; exact hT r c r1 r2 (by omega)
theorem ry_r2 {post : Int32 → SY → Prop} {A : Nat → Fin 101} {L : Nat} (hO : rq_O A L) (hL : L ≤ 16) (hw : ∀ j, j < 32 → wk j = rq_i (A j)) (h : ∀ (tb : Nat → Int32) (T : Nat → Nat → Fin 101), rq_tb tb T → post (nI L) (te, wk, tb, fa)) : ∀ (d i : Nat) (tb : Nat → Int32), i + d = 16 → (∀ r c, r < 16 → c < 17 → r < i → tb (r * 17 + c) = rq_i (if c < 16 then A (r + c) else 0)) → wY_rank_2 post (d + 1) (nI i) te wk tb fa := by
  intro d
  induction d with
  | zero =>
    intro i tb hi hT
    obtain rfl : i = 16 := by omega
    refine br_t (nI_le (a := 16) (by omega) (by omega)) ?_
    exact ry_elim (T0 := fun r c => if c < 16 then A (r + c) else 0) (m := 16) (R := L) (rq_H16 hO hL (fun i j _ hj => if_pos hj)) (fun r c r1 r2 => hT r c r1 r2 r1) (fun tb2 T _ hT2 => h tb2 T hT2)
  | succ d ih =>
    intro i tb hi hT
    refine br_f (nI_ge (b := 16) (by omega) (by decide)) ⟨17, ?_⟩
    exact ry_r10 (T0 := fun r c => if c < 16 then A (r + c) else 0) (by omega) hw (fun r c hc => if_pos hc) (fun r => rfl) (fun tb2 hT2 => ih (i + 1) tb2 (by omega) hT2) 16 0 tb rfl (fun r c r1 r2 r3 => hT r c r1 r2 (by omega))
theorem ry_rank {post : Int32 → SY → Prop} {A : Nat → Fin 101} {L : Nat} (hO : rq_O A L) (hL : L ≤ 16) (hw : ∀ j, j < 32 → wk j = rq_i (A j)) (h : ∀ (tb : Nat → Int32) (T : Nat → Nat → Fin 101), rq_tb tb T → post (nI L) (te, wk, tb, fa)) : wpY_rank post (te, wk, tb, fa) :=
  ⟨17, ry_r2 hO hL hw h 16 0 tb rfl (fun r c _ _ h3 => absurd h3 (Nat.not_lt_zero r))⟩
theorem ry_settle {post : Int32 → SY → Prop} {B : Nat → Fin 101} {L s : Nat} (hs : s < 4) (hO : rq_O B L) (hL : L ≤ 16) (hw : ∀ j, j < 32 → wk j = rq_i (B j)) (h1 : L ≤ 8 → ∀ tb : Nat → Int32, post (nI L) (rq_w te (s * 32) (s * 32 + 32) (fun j => rq_i (B (j - s * 32))), wk, tb, fa)) (h2 : 8 < L → ∀ tb : Nat → Int32, post (-3) (te, wk, tb, fa)) : wpY_settle post (te, wk, tb, fa) (nI s) := by
  refine ry_rank hO hL hw (fun tb2 T hT => ?_)
  refine pk_le L 8 (fun h8 => ?_) (fun h8 => h2 h8 tb2)
  exact ry_store hs hw (h1 h8 tb2)
end
end
section
-- The reference's extend
section
variable {te wk tb fa : Nat → Int32}
theorem rq_nextR {A e : Nat → Fin 101} {L n : Nat} (hG : rq_G A e L) (hn : L ≤ n) : rq_sm (fun i => (- e (L - i)) * A (n - L + i)) L = A n := by
  have h := rq_next hG hn
  cases L with
  | zero => rw [h, rq_sm, rq_sm]; grind
  | succ k =>
    rw [h, ← rq_sm_rev (fun j => e (j + 1) * A (n - (j + 1))) k]
    have e1 : ∀ i, i < k + 1 → (- e (k + 1 - i)) * A (n - (k + 1) + i) = (-1) * (e (k - i + 1) * A (n - (k - i + 1))) := by
      intro i hi
      rw [show k + 1 - i = k - i + 1 by omega, show n - (k + 1) + i = n - (k - i + 1) by omega]; grind
    rw [rq_sm_congr (k + 1) e1, rq_sm_mul]; grind
theorem ry_e15 {post : SY → Prop} {J : Int32 → (Nat → Int32) → (Nat → Int32) → (Nat → Int32) → (Nat → Int32) → Prop} {A : Nat → Fin 101} {U : Nat → Nat → Fin 101} {x1 : Int32} {L i : Nat} (hL : L ≤ 8) (hi : i < L) (hw : ∀ j, j < 32 → wk j = rq_i (A j)) (h : ∀ tb : Nat → Int32, rq_tb tb (fun r c => if r = i then (if c < L then A (r + c) else if c = 16 then A (r + L) else 0) else U r c) → J (nI (i + 1)) te wk tb fa) : ∀ (d j : Nat) (tb : Nat → Int32), j + d = 17 → rq_tb tb (fun r c => if r = i ∧ c < j then (if c < L then A (r + c) else 0) else U r c) → wY_extend_15 post J x1 (nI L) (nI i) (d + 1) (nI j) te wk tb fa := by
  intro d
  induction d with
  | zero =>
    intro j tb hj hT
    obtain rfl : j = 17 := by omega
    have xa : nI i * 17 + 16 = nI (i * 17 + 16) := rq_ix i 17 16
    have xb : nI i + nI L = nI (i + L) := nI_add i L
    refine br_t (nI_le (a := 17) (by omega) (by omega)) ⟨pk_in (i + L) 402 (by omega) xb, pk_in (i * 17 + 16) 272 (by omega) xa, nm_r (rq_up (i * 17 + 16) xa (by omega) (rq_rd (i + L) xb (by omega) (hw _ (by omega)))) (nm_r (nI_1 i) (h _ (rq_tbC (rq_tbU hT (by omega)) (fun r c r1 r2 => ?_))))⟩
    by_cases e : r = i
    · rw [if_pos e]
      by_cases e2 : c = 16
      · rw [if_pos ⟨e, e2⟩, if_neg (by omega), if_pos e2, e]
      · rw [if_neg (fun z => e2 z.2), if_pos ⟨e, r2⟩, if_neg e2]
    · rw [if_neg (fun z => e z.1), if_neg (fun z => e z.1), if_neg e]
  | succ d ih =>
    intro j tb hj hT
    have xa : nI i * 17 + nI j = nI (i * 17 + j) := rq_ix i 17 j
    have xb : nI i + nI j = nI (i + j) := nI_add i j
    refine br_f (nI_ge (b := 17) (by omega) (by decide)) ?_
    refine pk_le L j (fun hlj => ?_) (fun hlj => ?_)
    · refine ⟨pk_in (i * 17 + j) 272 (by omega) xa, nm_r (rq_up (i * 17 + j) xa (by omega) rq_i_0.symm) (nm_r (nI_1 j) (ih (j + 1) _ (by omega) (rq_tbC (rq_tbU hT (by omega)) (fun r c r1 r2 => ?_))))⟩
      by_cases e : r = i ∧ c = j
      · rw [if_pos e, if_pos (by omega), if_neg (by omega)]
      · rw [if_neg e]
        by_cases e2 : r = i ∧ c < j
        · rw [if_pos e2, if_pos (by omega : r = i ∧ c < j + 1)]
        · rw [if_neg e2, if_neg (by omega)]
    · refine ⟨pk_in (i + j) 402 (by omega) xb, pk_in (i * 17 + j) 272 (by omega) xa, nm_r (rq_up (i * 17 + j) xa (by omega) (rq_rd (i + j) xb (by omega) (hw _ (by omega)))) (nm_r (nI_1 j) (ih (j + 1) _ (by omega) (rq_tbC (rq_tbU hT (by omega)) (fun r c r1 r2 => ?_))))⟩
      by_cases e : r = i ∧ c = j
      · rw [if_pos e, if_pos (by omega), if_pos (by omega), e.1, e.2]
      · rw [if_neg e]
        by_cases e2 : r = i ∧ c < j
        · rw [if_pos e2, if_pos (by omega : r = i ∧ c < j + 1)]
        · rw [if_neg e2, if_neg (by omega)]
theorem ry_e136 {post : SY → Prop} {J : Int32 → (Nat → Int32) → (Nat → Int32) → (Nat → Int32) → (Nat → Int32) → Prop} {A f : Nat → Fin 101} {x1 : Int32} {L n : Nat} (hL : L ≤ 8) (hn : n < 402) (hLn : L ≤ n) (hf : ∀ j, j < L → fa j = rq_i (f j)) (hw : ∀ j, j < n → wk j = rq_i (A j)) (h : J (nI (n + 1)) te (upd wk n (rq_i (rq_sm (fun i => f i * A (n - L + i)) L))) tb fa) : ∀ (d i : Nat) (x4 : Int32), i + d = L → rq_n x4 (rq_sm (fun i => f i * A (n - L + i)) i) (10000 * i) → wY_extend_136 post J x1 (nI L) (nI n) te wk tb fa (d + 1) x4 (nI i) := by
  intro d
  induction d with
  | zero =>
    intro i x4 hi hx
    obtain rfl : i = L := by omega
    exact br_t (nI_le (Nat.le_refl _) (by omega)) ⟨rq_ne, vp_in_nI (by omega) (by omega), nm_r (rq_up n rfl (by omega) (rq_rem hx)) (nm_r (nI_1 n) h)⟩
  | succ d ih =>
    intro i x4 hi hx
    have xa : nI n - nI L + nI i = nI (n - L + i) := by rw [pk_sub hLn, nI_add]
    have e1 : fa (nI i).toNatClampNeg = rq_i (f i) := rq_rd i rfl (by omega) (hf i (by omega))
    have e2 : wk (nI n - nI L + nI i).toNatClampNeg = rq_i (A (n - L + i)) := rq_rd (n - L + i) xa (by omega) (hw _ (by omega))
    refine br_f (nI_ge (by omega) (by omega)) ⟨vp_in_nI (by omega) (by omega), pk_in (n - L + i) 402 (by omega) xa, fun y ey => nm_r (nI_1 i) (ih (i + 1) y (by omega) ?_)⟩
    rw [ey, e1, e2]
    exact rq_n_le (rq_n_add hx (rq_n_mul (rq_n_i _) (rq_n_i _) (by decide)) (by omega)) (by omega)
theorem ry_e125 {post : SY → Prop} {A e : Nat → Fin 101} {L last : Nat} (hL : L ≤ 8) (hlast : last ≤ 400) (hG : rq_G A e L) (hf : ∀ j, j < L → fa j = rq_i (- e (L - j))) (h : ∀ wk : Nat → Int32, (∀ j, j < 32 ∨ j ≤ last → wk j = rq_i (A j)) → post (te, wk, tb, fa)) : ∀ (d n : Nat) (wk : Nat → Int32), last < n + d → 32 ≤ n → n < 402 → (∀ j, j < n → wk j = rq_i (A j)) → wY_extend_125 post (nI last) (nI L) (d + 1) (nI n) te wk tb fa := by
  intro d
  induction d with
  | zero =>
    intro n wk hd hn hn2 hw
    exact br_t (nI_lt (by omega) (by omega)) (h wk (fun j hj => hw j (by omega)))
  | succ d ih =>
    intro n wk hd hn hn2 hw
    by_cases e1 : last < n
    · exact br_t (nI_lt e1 (by omega)) (h wk (fun j hj => hw j (by omega)))
    · refine br_f (nI_nlt (by omega) (by omega)) ⟨L + 1, ?_⟩
      refine ry_e136 (A := A) (f := fun i => - e (L - i)) hL (by omega) (by omega) hf hw (ih (n + 1) _ (by omega) (by omega) (by omega) (fun j hj => ?_)) L 0 0 (Nat.zero_add L) (rq_n_0 _)
      by_cases e2 : j = n
      · rw [e2, pk_us, rq_nextR hG (by omega)]
      · rw [pk_un e2]; exact hw j (by omega)
theorem ry_e93 {post : SY → Prop} {A e : Nat → Fin 101} {T : Nat → Nat → Fin 101} {L last : Nat} (hL : L ≤ 8) (hlast : last ≤ 400) (hG : rq_G A e L) (hT : rq_tb tb T) (hT2 : ∀ i, i < L → T i 16 = - e (L - i)) (hw : ∀ j, j < 32 → wk j = rq_i (A j)) (h : ∀ (wk fa : Nat → Int32), (∀ j, j < 32 ∨ j ≤ last → wk j = rq_i (A j)) → post (te, wk, tb, fa)) : ∀ (d i : Nat) (fa : Nat → Int32), i + d = L → (∀ j, j < i → fa j = rq_i (- e (L - j))) → wY_extend_93 post (nI last) (nI L) (d + 1) (nI i) te wk tb fa := by
  intro d
  induction d with
  | zero =>
    intro i fa hi hf
    obtain rfl : i = L := by omega
    exact br_t (nI_le (Nat.le_refl _) (by omega)) ⟨370, ry_e125 hL hlast hG hf (fun wk hw => h wk fa hw) 369 32 wk (by omega) (by omega) (by omega) hw⟩
  | succ d ih =>
    intro i fa hi hf
    have xa : nI i * 17 + 16 = nI (i * 17 + 16) := rq_ix i 17 16
    refine br_f (nI_ge (by omega) (by omega)) ⟨pk_in (i * 17 + 16) 272 (by omega) xa, vp_in_nI (by omega) (by omega), nm_r (rq_up i rfl (by omega) (rq_rd (i * 17 + 16) xa (by omega) (rq_tbG hT (by omega) (by omega) (hT2 i (by omega))))) (nm_r (nI_1 i) (ih (i + 1) _ (by omega) (fun j hj => ?_)))⟩
    by_cases e2 : j = i
    · rw [e2, pk_us]
    · rw [pk_un e2]; exact hf j (by omega)
theorem ry_e7 {post : SY → Prop} {A : Nat → Fin 101} {U : Nat → Nat → Fin 101} {L last : Nat} (hL : L ≤ 8) (hlast : last ≤ 400) (hO : rq_O A L) (hw : ∀ j, j < 32 → wk j = rq_i (A j)) (h : ∀ (wk tb fa : Nat → Int32), (∀ j, j < 32 ∨ j ≤ last → wk j = rq_i (A j)) → post (te, wk, tb, fa)) : ∀ (d i : Nat) (tb : Nat → Int32), i + d = L → rq_tb tb (fun r c => if r < i then (if c < L then A (r + c) else if c = 16 then A (r + L) else 0) else U r c) → wY_extend_7 post (nI last) (nI L) (d + 1) (nI i) te wk tb fa := by
  intro d
  induction d with
  | zero =>
    intro i tb hi hT
    obtain rfl : i = L := by omega
    obtain ⟨e, hG⟩ := hO.1
    refine br_t (nI_le (Nat.le_refl _) (by omega)) ?_
    have h1 : ∀ r j, r < i → j < i → (fun r c => if r < i then (if c < i then A (r + c) else if c = 16 then A (r + i) else 0) else U r c) r j = A (r + j) := by
      intro r j hr hj
      dsimp only
      rw [if_pos hr, if_pos hj]
    have h2 : ∀ r, r < i → (fun r c => if r < i then (if c < i then A (r + c) else if c = 16 then A (r + i) else 0) else U r c) r 16 = A (r + i) := by
      intro r hr
      dsimp only
      rw [if_pos hr, if_neg (by omega), if_pos rfl]
    refine ry_elim (rq_HL hO (by omega) h1) hT (fun tb2 T hE hT2 => ⟨i + 1, ?_⟩)
    exact ry_e93 hL hlast hG hT2 (rq_fin hG (by omega) h1 h2 hE) hw (fun wk fa hh => h wk tb2 fa hh) i 0 fa (Nat.zero_add i) (fun j hj => absurd hj (Nat.not_lt_zero j))
  | succ d ih =>
    intro i tb hi hT
    refine br_f (nI_ge (by omega) (by omega)) ⟨18, ?_⟩
    refine ry_e15 (U := fun r c => if r < i then (if c < L then A (r + c) else if c = 16 then A (r + L) else 0) else U r c) hL (by omega) hw (fun tb2 hT2 => ih (i + 1) tb2 (by omega) (rq_tbC hT2 (fun r c _ _ => ?_))) 17 0 tb rfl (rq_tbC hT (fun r c _ _ => (if_neg (fun z => Nat.not_lt_zero _ z.2)).symm))
    by_cases e1 : r = i
    · rw [if_pos e1, if_pos (by omega : r < i + 1)]
    · rw [if_neg e1]
      by_cases e2 : r < i
      · rw [if_pos e2, if_pos (by omega : r < i + 1)]
      · rw [if_neg e2, if_neg (by omega)]
theorem ry_ext {post : SY → Prop} {A : Nat → Fin 101} {L last : Nat} (hL : L ≤ 8) (hlast : last ≤ 400) (hO : rq_O A L) (hw : ∀ j, j < 32 → wk j = rq_i (A j)) (h : ∀ (wk tb fa : Nat → Int32), (∀ j, j < 32 ∨ j ≤ last → wk j = rq_i (A j)) → post (te, wk, tb, fa)) : wpY_extend post (te, wk, tb, fa) (nI last) := by
  refine ry_rank hO (by omega) hw (fun tb2 T hT => ⟨L + 1, ?_⟩)
  exact ry_e7 (U := T) hL hlast hO hw h L 0 tb2 (Nat.zero_add L) (rq_tbC hT (fun r c _ _ => (if_neg (Nat.not_lt_zero _)).symm))
end
end
section
-- The relation, and the calls that change nothing, and copy
def rq_R (A : Nat → Nat → Fin 101) (te od ye : Nat → Int32) : Prop := ∀ s, s < 4 → (∃ L, L ≤ 8 ∧ rq_O (A s) L ∧ od s = nI L) ∧ (∀ n, n < 401 → te (s * 401 + n) = rq_i (A s n)) ∧ (∀ n, n < 32 → ye (s * 32 + n) = rq_i (A s n))
/-- both states show the same four sequences, each of order 8 at most -/
def i_Rel (k : Nat) (u : SX) (v : SY) : Prop := ∃ A : Nat → Nat → Fin 101, rq_R A u.1 u.2.1 v.1
theorem i_up {k : Nat} {u : SX} {v : SY} (h : i_Rel k u v) : i_Rel (k + 5) u v := h
theorem rq_O0 : rq_O (fun _ => 0) 0 := ⟨⟨_, rq_G0⟩, fun _ _ _ => Nat.zero_le _⟩
theorem i_vc0 : wpX_init (fun u => wpY_init (fun v => i_Rel 0 u v)) :=
  ⟨fun _ _ => 0, fun _ _ => ⟨⟨0, Nat.zero_le _, rq_O0, nI_0.symm⟩, fun _ _ => rq_i_0.symm, fun _ _ => rq_i_0.symm⟩⟩
theorem rq_put {A : Nat → Nat → Fin 101} {te od ye : Nat → Int32} {B : Nat → Fin 101} {s L : Nat} (h : rq_R A te od ye) (hO : rq_O B L) (hL : L ≤ 8) : rq_R (fun t => if t = s then B else A t) (rq_w te (s * 401) (s * 401 + 401) (fun j => rq_i (B (j - s * 401)))) (upd od s (nI L)) (rq_w ye (s * 32) (s * 32 + 32) (fun j => rq_i (B (j - s * 32)))) := by
  intro t ht
  obtain ⟨⟨L2, h1, h2, h3⟩, h4, h5⟩ := h t ht
  by_cases e : t = s
  · subst e
    refine ⟨⟨L, hL, ?_, pk_us⟩, fun n hn => ?_, fun n hn => ?_⟩
    · dsimp only
      rw [if_pos rfl]; exact hO
    · dsimp only
      rw [rq_w_in (by omega) (by omega), if_pos rfl, Nat.add_sub_cancel_left]
    · dsimp only
      rw [rq_w_in (by omega) (by omega), if_pos rfl, Nat.add_sub_cancel_left]
  · refine ⟨⟨L2, h1, ?_, (pk_un e).trans h3⟩, fun n hn => ?_, fun n hn => ?_⟩
    · dsimp only
      rw [if_neg e]; exact h2
    · dsimp only
      rw [rq_w_out (by omega), if_neg e]; exact h4 n hn
    · dsimp only
      rw [rq_w_out (by omega), if_neg e]; exact h5 n hn
/-- what a changing call of the component owes its post, and one of the reference -/
def rq_XF (post : Int32 → SX → Prop) (te od : Nat → Int32) (B : Nat → Fin 101) (s : Nat) : Prop := (∀ L, rq_O B L → 8 < L → ∀ pr fa ol sv : Nat → Int32, post (-3) (te, od, pr, fa, ol, sv)) ∧ (∀ L, rq_O B L → L ≤ 8 → ∀ pr fa ol sv : Nat → Int32, post (nI L) (rq_w te (s * 401) (s * 401 + 401) (fun j => rq_i (B (j - s * 401))), upd od s (nI L), pr, fa, ol, sv))
def rq_YF (post : Int32 → SY → Prop) (ye : Nat → Int32) (B : Nat → Fin 101) (s L : Nat) : Prop := (L ≤ 8 → ∀ wk tb yf : Nat → Int32, post (nI L) (rq_w ye (s * 32) (s * 32 + 32) (fun j => rq_i (B (j - s * 32))), wk, tb, yf)) ∧ (8 < L → ∀ wk tb yf : Nat → Int32, post (-3) (ye, wk, tb, yf))
theorem rq_join {k : Nat} {A : Nat → Nat → Fin 101} {te od ye : Nat → Int32} {B c' : Nat → Fin 101} {s L' : Nat} (hA : rq_R A te od ye) (hG : rq_G B c' L') (hL' : L' ≤ 16) (PX : (Int32 → SX → Prop) → Prop) (PY : (Int32 → SY → Prop) → Prop) (hX : ∀ post, rq_XF post te od B s → PX post) (hY : ∀ post L, rq_O B L → L ≤ 16 → rq_YF post ye B s L → PY post) : PX (fun r u' => PY (fun r' v' => r' = r ∧ i_Rel (k + 5) u' v')) := by
  refine hX _ ⟨fun L hO hL pr fa ol sv => ?_, fun L hO hL pr fa ol sv => ?_⟩
  · exact hY _ L hO (Nat.le_trans (hO.2 _ _ hG) hL') ⟨fun h => absurd h (by omega), fun _ wk tb yf => ⟨rfl, A, hA⟩⟩
  · exact hY _ L hO (by omega) ⟨fun _ wk tb yf => ⟨rfl, _, rq_put hA hO hL⟩, fun h => absurd h (by omega)⟩
theorem i_vc_term {k : Nat} {u : SX} {v : SY} (I : i_Rel k u v) (hk : k + 5 ≤ 2560) (v1 : Int32) (v2 : Int32) : wpX_term (fun r => wpY_term (fun r' v' => r' = r ∧ i_Rel (k + 5) u v') v v1 v2) u v1 v2 := by
  obtain ⟨te, od, pr, fa, ol, sv⟩ := u
  obtain ⟨ye, wk, tb, yf⟩ := v
  obtain ⟨A, hA⟩ := I
  replace hA : rq_R A te od ye := hA
  unfold wpX_term wpY_term
  dsimp only
  rcases rq_seq v1 with ⟨bx, bad⟩ | ⟨s, hs, rfl, gx, gy⟩
  · exact bx _ (br_t rfl (bad _ _ (br_f (by decide) ⟨rfl, A, hA⟩)))
  · refine gx _ (br_f (by decide) ?_)
    rcases rq_idx v2 with ⟨bx, bad⟩ | ⟨n, hn, rfl, hx, hy⟩
    · exact bx _ (br_t rfl (gy _ _ (br_t rfl (bad _ _ (br_f (by decide) ⟨rfl, A, hA⟩)))))
    · obtain ⟨⟨L, hL, hO, ho⟩, h1, h2⟩ := hA s hs
      refine hx _ (br_f (by decide) ⟨pk_in (s * 401 + n) 1604 (by omega) (rq_ix s 401 n), ?_⟩)
      refine gy _ _ (br_t rfl (hy _ _ (br_t rfl (ry_load hs h2 (fun wk hw => ry_ext hL (by omega) hO hw (fun wk tb fa hh => ⟨vp_in_nI (by omega) (by omega), ?_, A, hA⟩))))))
      exact (rq_rd n rfl (by omega) (hh n (Or.inr (Nat.le_refl n)))).trans (rq_rd (s * 401 + n) (rq_ix s 401 n) (by omega) (h1 n hn)).symm
theorem i_vc_order {k : Nat} {u : SX} {v : SY} (I : i_Rel k u v) (hk : k + 5 ≤ 2560) (v1 : Int32) : wpX_order (fun r => wpY_order (fun r' v' => r' = r ∧ i_Rel (k + 5) u v') v v1) u v1 := by
  obtain ⟨te, od, pr, fa, ol, sv⟩ := u
  obtain ⟨ye, wk, tb, yf⟩ := v
  obtain ⟨A, hA⟩ := I
  replace hA : rq_R A te od ye := hA
  unfold wpX_order wpY_order
  dsimp only
  rcases rq_seq v1 with ⟨bx, bad⟩ | ⟨s, hs, rfl, gx, gy⟩
  · exact bx _ (br_t rfl (bad _ _ (br_f (by decide) ⟨rfl, A, hA⟩)))
  · obtain ⟨⟨L, hL, hO, ho⟩, h1, h2⟩ := hA s hs
    refine gx _ (br_f (by decide) ⟨vp_in_nI hs (by omega), ?_⟩)
    refine gy _ _ (br_t rfl (ry_load hs h2 (fun wk hw => ry_rank hO (by omega) hw (fun tb T hT => ⟨?_, A, hA⟩))))
    exact (rq_rd s rfl (by omega) ho).symm
theorem rx_eq18 {post : Int32 → Prop} {te od pr fa ol sv : Nat → Int32} {a b : Nat → Fin 101} {s t : Nat} (hs : s < 4) (ht : t < 4) (ha : ∀ n, n < 401 → te (s * 401 + n) = rq_i (a n)) (hb : ∀ n, n < 401 → te (t * 401 + n) = rq_i (b n)) (h1 : (∀ n, n < 401 → a n = b n) → post 1) (h0 : ∀ n, n < 401 → a n ≠ b n → post 0) : ∀ d i : Nat, i + d = 401 → (∀ j, j < i → a j = b j) → wX_equal_18 post (nI s) (nI t) te od pr fa ol sv (d + 1) (nI i) := by
  intro d
  induction d with
  | zero =>
    intro i hi hj
    obtain rfl : i = 401 := by omega
    exact br_t (nI_le (a := 401) (by omega) (by omega)) (h1 hj)
  | succ d ih =>
    intro i hi hj
    have xa : nI s * 401 + nI i = nI (s * 401 + i) := rq_ix s 401 i
    have xb : nI t * 401 + nI i = nI (t * 401 + i) := rq_ix t 401 i
    have ea := rq_rd (a := te) (s * 401 + i) xa (by omega) (ha i (by omega))
    have eb := rq_rd (a := te) (t * 401 + i) xb (by omega) (hb i (by omega))
    refine br_f (nI_ge (b := 401) (by omega) (by decide)) ⟨pk_in (s * 401 + i) 1604 (by omega) xa, pk_in (t * 401 + i) 1604 (by omega) xb, ?_⟩
    by_cases e : a i = b i
    · refine br_t (by rw [ea, eb, e]) (nm_r (nI_1 i) (ih (i + 1) (by omega) (fun j h2 => ?_)))
      by_cases e2 : j = i
      · rw [e2]; exact e
      · exact hj j (by omega)
    · exact br_f (fun z => e (rq_i_inj (ea.symm.trans (z.trans eb)))) (h0 i (by omega) e)
theorem ry_eq20 {post : Int32 → Prop} {ye wk tb yf : Nat → Int32} {a b : Nat → Fin 101} {s t : Nat} (hs : s < 4) (ht : t < 4) (ha : ∀ n, n < 32 → ye (s * 32 + n) = rq_i (a n)) (hb : ∀ n, n < 32 → ye (t * 32 + n) = rq_i (b n)) (h1 : (∀ n, n < 32 → a n = b n) → post 1) (h0 : ∀ n, n < 32 → a n ≠ b n → post 0) : ∀ d i : Nat, i + d = 32 → (∀ j, j < i → a j = b j) → wY_equal_20 post (nI s) (nI t) ye wk tb yf (d + 1) (nI i) := by
  intro d
  induction d with
  | zero =>
    intro i hi hj
    obtain rfl : i = 32 := by omega
    exact br_t (nI_le (a := 32) (by omega) (by omega)) (h1 hj)
  | succ d ih =>
    intro i hi hj
    have xa : nI s * 32 + nI i = nI (s * 32 + i) := rq_ix s 32 i
    have xb : nI t * 32 + nI i = nI (t * 32 + i) := rq_ix t 32 i
    have ea := rq_rd (a := ye) (s * 32 + i) xa (by omega) (ha i (by omega))
    have eb := rq_rd (a := ye) (t * 32 + i) xb (by omega) (hb i (by omega))
    refine br_f (nI_ge (b := 32) (by omega) (by decide)) ⟨pk_in (s * 32 + i) 128 (by omega) xa, pk_in (t * 32 + i) 128 (by omega) xb, ?_⟩
    by_cases e : a i = b i
    · refine br_t (by rw [ea, eb, e]) (nm_r (nI_1 i) (ih (i + 1) (by omega) (fun j h2 => ?_)))
      by_cases e2 : j = i
      · rw [e2]; exact e
      · exact hj j (by omega)
    · exact br_f (fun z => e (rq_i_inj (ea.symm.trans (z.trans eb)))) (h0 i (by omega) e)
theorem i_vc_equal {k : Nat} {u : SX} {v : SY} (I : i_Rel k u v) (hk : k + 5 ≤ 2560) (v1 : Int32) (v2 : Int32) : wpX_equal (fun r => wpY_equal (fun r' => r' = r ∧ i_Rel (k + 5) u v) v v1 v2) u v1 v2 := by
  obtain ⟨te, od, pr, fa, ol, sv⟩ := u
  obtain ⟨ye, wk, tb, yf⟩ := v
  obtain ⟨A, hA⟩ := I
  replace hA : rq_R A te od ye := hA
  unfold wpX_equal wpY_equal
  dsimp only
  rcases rq_seq v1 with ⟨bx, bad⟩ | ⟨s, hs, rfl, gx, gy⟩
  · exact bx _ (br_t rfl (bad _ _ (br_f (by decide) ⟨rfl, A, hA⟩)))
  · refine gx _ (br_f (by decide) ?_)
    rcases rq_seq v2 with ⟨bx, bad⟩ | ⟨t, ht, rfl, hx, hy⟩
    · exact bx _ (br_t rfl (gy _ _ (br_t rfl (bad _ _ (br_f (by decide) ⟨rfl, A, hA⟩)))))
    · obtain ⟨⟨L, hL, hO, ho⟩, h1, h2⟩ := hA s hs
      obtain ⟨⟨K, hK, hO', ho'⟩, h1', h2'⟩ := hA t ht
      obtain ⟨c, hG⟩ := hO.1
      obtain ⟨c', hG'⟩ := hO'.1
      refine hx _ (br_f (by decide) ⟨402, rx_eq18 hs ht h1 h1' (fun he => ?_) (fun n hn hne => ?_) 401 0 rfl (fun j hj => absurd hj (Nat.not_lt_zero j))⟩)
      · refine gy _ _ (br_t rfl (hy _ _ (br_t rfl ⟨33, ry_eq20 hs ht h2 h2' (fun _ => ⟨rfl, A, hA⟩) (fun n hn hne => absurd (he n (by omega)) hne) 32 0 rfl (fun j hj => absurd hj (Nat.not_lt_zero j))⟩)))
      · refine gy _ _ (br_t rfl (hy _ _ (br_t rfl ⟨33, ry_eq20 hs ht h2 h2' (fun he => ?_) (fun n hn hne => ⟨rfl, A, hA⟩) 32 0 rfl (fun j hj => absurd hj (Nat.not_lt_zero j))⟩)))
        exact absurd (congrFun (rq_same hG hG' (fun i hi => he i (by omega))) n) hne
theorem rx_sum37 {post : Int32 → Prop} {te od pr fa ol sv : Nat → Int32} {a : Nat → Fin 101} {s p q : Nat} (hs : s < 4) (hq : q < 401) (ha : ∀ n, n < 401 → te (s * 401 + n) = rq_i (a n)) (h : post (rq_i (rq_sm (fun j => a (p + j)) (q + 1 - p)))) : ∀ (d m : Nat) (x4 : Int32), p + m + d = q + 1 → rq_n x4 (rq_sm (fun j => a (p + j)) m) (100 * m) → wX_sum_37 post (nI s) (nI q) te od pr fa ol sv (d + 1) x4 (nI (p + m)) := by
  intro d
  induction d with
  | zero =>
    intro m x4 hm hx
    refine br_t (nI_lt (by omega) (by omega)) (rq_redB (post := fun r => post r) (rq_n_b hx) ?_)
    rw [show m = q + 1 - p by omega]; exact h
  | succ d ih =>
    intro m x4 hm hx
    have xa : nI s * 401 + nI (p + m) = nI (s * 401 + (p + m)) := rq_ix s 401 (p + m)
    have ea := rq_rd (a := te) (s * 401 + (p + m)) xa (by omega) (ha (p + m) (by omega))
    refine br_f (nI_nlt (by omega) (by omega)) ⟨pk_in (s * 401 + (p + m)) 1604 (by omega) xa, fun y ey => nm_r (nI_1 (p + m)) (ih (m + 1) y (by omega) ?_)⟩
    rw [ey, ea]
    exact rq_n_le (rq_n_add hx (rq_n_i _) (by omega)) (by omega)
theorem ry_sum50 {post : Int32 → SY → Prop} {ye wk tb yf : Nat → Int32} {a : Nat → Fin 101} {p q : Nat} (hq : q < 401) (ha : ∀ n, n < 32 ∨ n ≤ q → wk n = rq_i (a n)) (h : post (rq_i (rq_sm (fun j => a (p + j)) (q + 1 - p))) (ye, wk, tb, yf)) : ∀ (d m : Nat), p + m + d = q + 1 → wY_sum_50 post (nI q) ye wk tb yf (d + 1) (rq_i (rq_sm (fun j => a (p + j)) m)) (nI (p + m)) := by
  intro d
  induction d with
  | zero =>
    intro m hm
    refine br_t (nI_lt (by omega) (by omega)) ?_
    rw [show m = q + 1 - p by omega]; exact h
  | succ d ih =>
    intro m hm
    have ea := rq_rd (a := wk) (p + m) rfl (by omega) (ha (p + m) (by omega))
    refine br_f (nI_nlt (by omega) (by omega)) ⟨vp_in_nI (by omega) (by omega), rq_ne, nm_r (e' := rq_i (rq_sm (fun j => a (p + j)) (m + 1))) ?_ (nm_r (nI_1 (p + m)) (ih (m + 1) (by omega)))⟩
    rw [ea]
    exact rq_rem (rq_n_add (rq_n_i _) (rq_n_i _) (by decide))
theorem i_vc_sum {k : Nat} {u : SX} {v : SY} (I : i_Rel k u v) (hk : k + 5 ≤ 2560) (v1 : Int32) (v2 : Int32) (v3 : Int32) : wpX_sum (fun r => wpY_sum (fun r' v' => r' = r ∧ i_Rel (k + 5) u v') v v1 v2 v3) u v1 v2 v3 := by
  obtain ⟨te, od, pr, fa, ol, sv⟩ := u
  obtain ⟨ye, wk, tb, yf⟩ := v
  obtain ⟨A, hA⟩ := I
  replace hA : rq_R A te od ye := hA
  unfold wpX_sum wpY_sum
  dsimp only
  rcases rq_seq v1 with ⟨bx, bad⟩ | ⟨s, hs, rfl, gx, gy⟩
  · exact bx _ (br_t rfl (bad _ _ (br_f (by decide) ⟨rfl, A, hA⟩)))
  · refine gx _ (br_f (by decide) ?_)
    rcases rq_idx v2 with ⟨bx, bad⟩ | ⟨p, hp, rfl, hx, hy⟩
    · exact bx _ (br_t rfl (gy _ _ (br_t rfl (bad _ _ (br_f (by decide) ⟨rfl, A, hA⟩)))))
    · refine hx _ (br_f (by decide) ?_)
      rcases rq_idx v3 with ⟨bx, bad⟩ | ⟨q, hq, rfl, ix, iy⟩
      · exact bx _ (br_t rfl (gy _ _ (br_t rfl (hy _ _ (br_t rfl (bad _ _ (br_f (by decide) ⟨rfl, A, hA⟩)))))))
      · obtain ⟨⟨L, hL, hO, ho⟩, h1, h2⟩ := hA s hs
        refine ix _ (br_f (by decide) (pk_le p q (fun hpq => ?_) (fun hpq => ?_)))
        · refine ⟨q + 1 - p + 1, rx_sum37 hs hq h1 ?_ (q + 1 - p) 0 0 (by omega) (rq_n_0 _)⟩
          refine gy _ _ (br_t rfl (hy _ _ (br_t rfl (iy _ _ (br_t rfl (br_t (nI_le hpq (by omega)) (ry_load hs h2 (fun wk2 hw => ry_ext hL (by omega) hO hw (fun wk3 tb3 yf3 hh => ⟨q + 1 - p + 1, ?_⟩)))))))))
          exact ry_sum50 (post := fun r' v' => r' = rq_i (rq_sm (fun j => A s (p + j)) (q + 1 - p)) ∧ i_Rel (k + 5) (te, od, pr, fa, ol, sv) v') hq hh ⟨rfl, A, hA⟩ (q + 1 - p) 0 (by omega)
        · exact gy _ _ (br_t rfl (hy _ _ (br_t rfl (iy _ _ (br_t rfl (br_f (nI_ge hpq (by omega)) ⟨rfl, A, hA⟩))))))
end
section
-- find and copy
theorem rq_find (a : Nat → Fin 101) (w : Fin 101) : ∀ d i : Nat, i + d = 401 → ∃ r : Int32, (∀ (post : Int32 → Prop) (te od pr fa ol sv : Nat → Int32) (s : Nat), s < 4 → (∀ n, n < 401 → te (s * 401 + n) = rq_i (a n)) → post r → wX_find_17 post (nI s) (rq_i w) te od pr fa ol sv (d + 1) (nI i)) ∧ (∀ (post : Int32 → SY → Prop) (ye wk tb yf : Nat → Int32), (∀ n, n < 401 → wk n = rq_i (a n)) → post r (ye, wk, tb, yf) → wY_find_31 post (rq_i w) ye wk tb yf (d + 1) (nI i)) := by
  intro d
  induction d with
  | zero =>
    intro i hi
    obtain rfl : i = 401 := by omega
    exact ⟨-4, fun post te od pr fa ol sv s hs ha hp => br_t (nI_le (a := 401) (by omega) (by omega)) hp, fun post ye wk tb yf ha hp => br_t (nI_le (a := 401) (by omega) (by omega)) hp⟩
  | succ d ih =>
    intro i hi
    by_cases e : a i = w
    · refine ⟨nI i, fun post te od pr fa ol sv s hs ha hp => ?_, fun post ye wk tb yf ha hp => ?_⟩
      · have xa : nI s * 401 + nI i = nI (s * 401 + i) := rq_ix s 401 i
        refine br_f (nI_ge (b := 401) (by omega) (by decide)) ⟨pk_in (s * 401 + i) 1604 (by omega) xa, br_t ?_ hp⟩
        rw [rq_rd (a := te) (s * 401 + i) xa (by omega) (ha i (by omega)), e]
      · refine br_f (nI_ge (b := 401) (by omega) (by decide)) ⟨vp_in_nI (by omega) (by omega), br_t ?_ hp⟩
        rw [rq_rd (a := wk) i rfl (by omega) (ha i (by omega)), e]
    · obtain ⟨r, hX, hY⟩ := ih (i + 1) (by omega)
      refine ⟨r, fun post te od pr fa ol sv s hs ha hp => ?_, fun post ye wk tb yf ha hp => ?_⟩
      · have xa : nI s * 401 + nI i = nI (s * 401 + i) := rq_ix s 401 i
        refine br_f (nI_ge (b := 401) (by omega) (by decide)) ⟨pk_in (s * 401 + i) 1604 (by omega) xa, br_f (fun z => e ?_) (nm_r (nI_1 i) (hX post te od pr fa ol sv s hs ha hp))⟩
        rw [rq_rd (a := te) (s * 401 + i) xa (by omega) (ha i (by omega))] at z
        exact rq_i_inj z
      · refine br_f (nI_ge (b := 401) (by omega) (by decide)) ⟨vp_in_nI (by omega) (by omega), br_f (fun z => e ?_) (nm_r (nI_1 i) (hY post ye wk tb yf ha hp))⟩
        rw [rq_rd (a := wk) i rfl (by omega) (ha i (by omega))] at z
        exact rq_i_inj z
theorem i_vc_find {k : Nat} {u : SX} {v : SY} (I : i_Rel k u v) (hk : k + 5 ≤ 2560) (v1 : Int32) (v2 : Int32) : wpX_find (fun r => wpY_find (fun r' v' => r' = r ∧ i_Rel (k + 5) u v') v v1 v2) u v1 v2 := by
  obtain ⟨te, od, pr, fa, ol, sv⟩ := u
  obtain ⟨ye, wk, tb, yf⟩ := v
  obtain ⟨A, hA⟩ := I
  replace hA : rq_R A te od ye := hA
  unfold wpX_find wpY_find
  dsimp only
  rcases rq_seq v1 with ⟨bx, bad⟩ | ⟨s, hs, rfl, gx, gy⟩
  · exact bx _ (br_t rfl (bad _ _ (br_f (by decide) ⟨rfl, A, hA⟩)))
  · obtain ⟨⟨L, hL, hO, ho⟩, h1, h2⟩ := hA s hs
    obtain ⟨r, hX, hY⟩ := rq_find (A s) (rq_p v2.toInt) 401 0 rfl
    refine gx _ (br_f (by decide) (rq_red v2 ⟨402, hX _ te od pr fa ol sv s hs h1 ?_⟩))
    refine gy _ _ (br_t rfl (rq_mod v2 (ry_load hs h2 (fun wk2 hw => ?_))))
    refine ry_ext (last := 400) hL (by omega) hO hw (fun wk3 tb3 yf3 hh => ⟨402, ?_⟩)
    exact hY _ _ wk3 tb3 yf3 (fun n hn => hh n (by omega)) ⟨rfl, A, hA⟩
theorem rx_copy18 {post : Int32 → SX → Prop} {od pr fa ol sv : Nat → Int32} {a : Nat → Fin 101} {to s L : Nat} (ht : to < 4) (hs : s < 4) (ho : od s = nI L) : ∀ (d i : Nat) (te : Nat → Int32), i + d = 401 → (∀ n, n < 401 → te (s * 401 + n) = rq_i (a n)) → post (nI L) (rq_w te (to * 401 + i) (to * 401 + 401) (fun j => rq_i (a (j - to * 401))), upd od to (nI L), pr, fa, ol, sv) → wX_copy_18 post (nI to) (nI s) (d + 1) (nI i) te od pr fa ol sv := by
  intro d
  induction d with
  | zero =>
    intro i te hi ha hp
    obtain rfl : i = 401 := by omega
    rw [rq_w_end] at hp
    refine br_t (nI_le (a := 401) (by omega) (by omega)) ⟨vp_in_nI hs (by omega), vp_in_nI ht (by omega), nm_r (rq_up to rfl (by omega) (rq_rd s rfl (by omega) ho)) ⟨vp_in_nI ht (by omega), ?_⟩⟩
    rw [nI_clamp (by omega), pk_us]; exact hp
  | succ d ih =>
    intro i te hi ha hp
    have xa : nI s * 401 + nI i = nI (s * 401 + i) := rq_ix s 401 i
    have xb : nI to * 401 + nI i = nI (to * 401 + i) := rq_ix to 401 i
    refine br_f (nI_ge (b := 401) (by omega) (by decide)) ⟨pk_in (s * 401 + i) 1604 (by omega) xa, pk_in (to * 401 + i) 1604 (by omega) xb, nm_r (rq_up (to * 401 + i) xb (by omega) (rq_rd (s * 401 + i) xa (by omega) (ha i (by omega)))) (nm_r (nI_1 i) (ih (i + 1) _ (by omega) (fun n hn => ?_) ?_))⟩
    · by_cases e : s * 401 + n = to * 401 + i
      · have e2 : n = i := by omega
        rw [e, pk_us, e2]
      · rw [pk_un e]; exact ha n hn
    · rw [← Nat.add_assoc, rq_w_step (by omega) (by rw [Nat.add_sub_cancel_left])]; exact hp
theorem i_vc_copy {k : Nat} {u : SX} {v : SY} (I : i_Rel k u v) (hk : k + 5 ≤ 2560) (v1 : Int32) (v2 : Int32) : wpX_copy (fun r u' => wpY_copy (fun r' v' => r' = r ∧ i_Rel (k + 5) u' v') v v1 v2) u v1 v2 := by
  obtain ⟨te, od, pr, fa, ol, sv⟩ := u
  obtain ⟨ye, wk, tb, yf⟩ := v
  obtain ⟨A, hA⟩ := I
  replace hA : rq_R A te od ye := hA
  unfold wpX_copy wpY_copy
  dsimp only
  rcases rq_seq v1 with ⟨bx, bad⟩ | ⟨to, ht, rfl, gx, gy⟩
  · exact bx _ (br_t rfl (bad _ _ (br_f (by decide) ⟨rfl, A, hA⟩)))
  · refine gx _ (br_f (by decide) ?_)
    rcases rq_seq v2 with ⟨bx, bad⟩ | ⟨s, hs, rfl, hx, hy⟩
    · exact bx _ (br_t rfl (gy _ _ (br_t rfl (bad _ _ (br_f (by decide) ⟨rfl, A, hA⟩)))))
    · obtain ⟨⟨L, hL, hO, ho⟩, h1, h2⟩ := hA s hs
      refine hx _ (br_f (by decide) ⟨402, rx_copy18 ht hs ho 401 0 te rfl h1 ?_⟩)
      rw [Nat.add_zero]
      refine gy _ _ (br_t rfl (hy _ _ (br_t rfl (ry_load hs h2 (fun wk2 hw => ?_)))))
      have key := rq_put (s := to) hA hO hL
      exact ry_settle ht hO (by omega) hw (fun _ tb3 => ⟨rfl, _, key⟩) (fun h8 => absurd h8 (by omega))
end
section
-- The loops of the calls that change a sequence
section
variable {te od fa ol sv : Nat → Int32}
theorem rx_end {post : Int32 → SX → Prop} {pr : Nat → Int32} {B c' : Nat → Fin 101} {s L' : Nat} (hs : s < 4) (hpr : ∀ j, j < 32 → pr j = rq_i (B j)) (hG : rq_G B c' L') (hL' : L' ≤ 16) (h : rq_XF post te od B s) : wpX_takeProbe post (te, od, pr, fa, ol, sv) (nI s) :=
  rx_take hs hpr hG hL' (fun L hO hL fa ol sv => h.1 L hO hL pr fa ol sv) (fun L hO hL fa ol sv => h.2 L hO hL pr fa ol sv)
theorem rx_add26 {post : Int32 → SX → Prop} {a b c' : Nat → Fin 101} {to s t L' : Nat} (hto : to < 4) (hs : s < 4) (ht : t < 4) (ha : ∀ n, n < 401 → te (s * 401 + n) = rq_i (a n)) (hb : ∀ n, n < 401 → te (t * 401 + n) = rq_i (b n)) (hG : rq_G (fun n => a n + b n) c' L') (hL' : L' ≤ 16) (h : rq_XF post te od (fun n => a n + b n) to) : ∀ (d i : Nat) (pr : Nat → Int32), i + d = 32 → (∀ j, j < i → pr j = rq_i (a j + b j)) → wX_add_26 post (nI to) (nI s) (nI t) (d + 1) (nI i) te od pr fa ol sv := by
  intro d
  induction d with
  | zero =>
    intro i pr hi hj
    obtain rfl : i = 32 := by omega
    exact br_t (nI_le (a := 32) (by omega) (by omega)) (rx_end hto hj hG hL' h)
  | succ d ih =>
    intro i pr hi hj
    have xa : nI s * 401 + nI i = nI (s * 401 + i) := rq_ix s 401 i
    have xb : nI t * 401 + nI i = nI (t * 401 + i) := rq_ix t 401 i
    refine br_f (nI_ge (b := 32) (by omega) (by decide)) ⟨pk_in (s * 401 + i) 1604 (by omega) xa, pk_in (t * 401 + i) 1604 (by omega) xb, ?_⟩
    refine rq_redB (z := a i + b i) (M := 200) ?_ ⟨vp_in_nI (by omega) (by omega), nm_r (rq_up i rfl (by omega) rfl) (nm_r (nI_1 i) (ih (i + 1) _ (by omega) (fun j hj2 => ?_)))⟩
    · rw [rq_rd (a := te) (s * 401 + i) xa (by omega) (ha i (by omega)), rq_rd (a := te) (t * 401 + i) xb (by omega) (hb i (by omega))]
      exact rq_b_add (rq_b_i _) (rq_b_i _) (by decide)
    · by_cases e : j = i
      · rw [e, pk_us]
      · rw [pk_un e]; exact hj j (by omega)
theorem rx_scale17 {post : Int32 → SX → Prop} {a c' : Nat → Fin 101} {m : Fin 101} {s L' : Nat} (hs : s < 4) (ha : ∀ n, n < 401 → te (s * 401 + n) = rq_i (a n)) (hG : rq_G (fun n => m * a n) c' L') (hL' : L' ≤ 16) (h : rq_XF post te od (fun n => m * a n) s) : ∀ (d i : Nat) (pr : Nat → Int32), i + d = 32 → (∀ j, j < i → pr j = rq_i (m * a j)) → wX_scale_17 post (nI s) (rq_i m) (d + 1) (nI i) te od pr fa ol sv := by
  intro d
  induction d with
  | zero =>
    intro i pr hi hj
    obtain rfl : i = 32 := by omega
    exact br_t (nI_le (a := 32) (by omega) (by omega)) (rx_end hs hj hG hL' h)
  | succ d ih =>
    intro i pr hi hj
    have xa : nI s * 401 + nI i = nI (s * 401 + i) := rq_ix s 401 i
    refine br_f (nI_ge (b := 32) (by omega) (by decide)) ⟨pk_in (s * 401 + i) 1604 (by omega) xa, ?_⟩
    refine rq_redB (z := m * a i) (M := 10000) ?_ ⟨vp_in_nI (by omega) (by omega), nm_r (rq_up i rfl (by omega) rfl) (nm_r (nI_1 i) (ih (i + 1) _ (by omega) (fun j hj2 => ?_)))⟩
    · rw [rq_rd (a := te) (s * 401 + i) xa (by omega) (ha i (by omega))]
      exact rq_n_b (rq_n_mul (rq_n_i _) (rq_n_i _) (by decide))
    · by_cases e : j = i
      · rw [e, pk_us]
      · rw [pk_un e]; exact hj j (by omega)
theorem rx_adv11 {post : Int32 → SX → Prop} {a c' : Nat → Fin 101} {s L' : Nat} (hs : s < 4) (ha : ∀ n, n < 401 → te (s * 401 + n) = rq_i (a n)) (hG : rq_G (fun n => a (n + 1)) c' L') (hL' : L' ≤ 16) (h : rq_XF post te od (fun n => a (n + 1)) s) : ∀ (d i : Nat) (pr : Nat → Int32), i + d = 32 → (∀ j, j < i → pr j = rq_i (a (j + 1))) → wX_advance_11 post (nI s) (d + 1) (nI i) te od pr fa ol sv := by
  intro d
  induction d with
  | zero =>
    intro i pr hi hj
    obtain rfl : i = 32 := by omega
    exact br_t (nI_le (a := 32) (by omega) (by omega)) (rx_end (B := fun n => a (n + 1)) hs hj hG hL' h)
  | succ d ih =>
    intro i pr hi hj
    have xa : nI s * 401 + nI i + 1 = nI (s * 401 + (i + 1)) := by
      have := rq_ix s 401 i
      rw [show (nI s * 401 + nI i) = nI (s * 401 + i) from this, nI_1]; rfl
    refine br_f (nI_ge (b := 32) (by omega) (by decide)) ⟨pk_in (s * 401 + (i + 1)) 1604 (by omega) xa, vp_in_nI (by omega) (by omega), nm_r (rq_up i rfl (by omega) (rq_rd (s * 401 + (i + 1)) xa (by omega) (ha (i + 1) (by omega)))) (nm_r (nI_1 i) (ih (i + 1) _ (by omega) (fun j hj2 => ?_)))⟩
    by_cases e : j = i
    · rw [e, pk_us]
    · rw [pk_un e]; exact hj j (by omega)
theorem rx_pre21 {post : Int32 → SX → Prop} {a c' : Nat → Fin 101} {x : Fin 101} {s L' : Nat} (hs : s < 4) (ha : ∀ n, n < 401 → te (s * 401 + n) = rq_i (a n)) (hG : rq_G (fun n => if n = 0 then x else a (n - 1)) c' L') (hL' : L' ≤ 16) (h : rq_XF post te od (fun n => if n = 0 then x else a (n - 1)) s) : ∀ (d i : Nat) (pr : Nat → Int32), i + d = 32 → 1 ≤ i → (∀ j, j < i → pr j = rq_i (if j = 0 then x else a (j - 1))) → wX_prepend_21 post (nI s) (d + 1) (nI i) te od pr fa ol sv := by
  intro d
  induction d with
  | zero =>
    intro i pr hi h1 hj
    obtain rfl : i = 32 := by omega
    exact br_t (nI_le (a := 32) (by omega) (by omega)) (rx_end (B := fun n => if n = 0 then x else a (n - 1)) hs hj hG hL' h)
  | succ d ih =>
    intro i pr hi h1 hj
    have xa : nI s * 401 + nI i - 1 = nI (s * 401 + (i - 1)) := by
      have := rq_ix s 401 i
      rw [show (nI s * 401 + nI i) = nI (s * 401 + i) from this, show s * 401 + i = s * 401 + (i - 1) + 1 by omega, nI_pred]
    refine br_f (nI_ge (b := 32) (by omega) (by decide)) ⟨pk_in (s * 401 + (i - 1)) 1604 (by omega) xa, vp_in_nI (by omega) (by omega), nm_r (rq_up i rfl (by omega) (rq_rd (s * 401 + (i - 1)) xa (by omega) (ha (i - 1) (by omega)))) (nm_r (nI_1 i) (ih (i + 1) _ (by omega) (by omega) (fun j hj2 => ?_)))⟩
    by_cases e : j = i
    · rw [e, pk_us, if_neg (by omega)]
    · rw [pk_un e]; exact hj j (by omega)
theorem rx_acc13 {post : Int32 → SX → Prop} {a c' : Nat → Fin 101} {s L' : Nat} (hs : s < 4) (ha : ∀ n, n < 401 → te (s * 401 + n) = rq_i (a n)) (hG : rq_G (rq_ac a) c' L') (hL' : L' ≤ 16) (h : rq_XF post te od (rq_ac a) s) : ∀ (d i : Nat) (pr : Nat → Int32), i + d = 32 → (∀ j, j < i → pr j = rq_i (rq_ac a j)) → wX_accumulate_13 post (nI s) (d + 1) (rq_i (rq_sm a i)) (nI i) te od pr fa ol sv := by
  intro d
  induction d with
  | zero =>
    intro i pr hi hj
    obtain rfl : i = 32 := by omega
    exact br_t (nI_le (a := 32) (by omega) (by omega)) (rx_end hs hj hG hL' h)
  | succ d ih =>
    intro i pr hi hj
    have xa : nI s * 401 + nI i = nI (s * 401 + i) := rq_ix s 401 i
    refine br_f (nI_ge (b := 32) (by omega) (by decide)) ⟨pk_in (s * 401 + i) 1604 (by omega) xa, ?_⟩
    refine rq_redB (z := rq_sm a (i + 1)) (M := 200) ?_ ⟨vp_in_nI (by omega) (by omega), nm_r (rq_up i rfl (by omega) rfl) (nm_r (nI_1 i) (ih (i + 1) _ (by omega) (fun j hj2 => ?_)))⟩
    · rw [rq_rd (a := te) (s * 401 + i) xa (by omega) (ha i (by omega))]
      exact rq_b_add (rq_b_i _) (rq_b_i _) (by decide)
    · by_cases e : j = i
      · rw [e, pk_us, rq_ac]
      · rw [pk_un e]; exact hj j (by omega)
theorem rx_dif13 {post : Int32 → SX → Prop} {a c' : Nat → Fin 101} {s L' : Nat} (hs : s < 4) (ha : ∀ n, n < 401 → te (s * 401 + n) = rq_i (a n)) (hG : rq_G (rq_df a) c' L') (hL' : L' ≤ 16) (h : rq_XF post te od (rq_df a) s) : ∀ (d i : Nat) (pr : Nat → Int32), i + d = 32 → (∀ j, j < i → pr j = rq_i (rq_df a j)) → wX_difference_13 post (nI s) (d + 1) (rq_i (if i = 0 then 0 else a (i - 1))) (nI i) te od pr fa ol sv := by
  intro d
  induction d with
  | zero =>
    intro i pr hi hj
    obtain rfl : i = 32 := by omega
    exact br_t (nI_le (a := 32) (by omega) (by omega)) (rx_end hs hj hG hL' h)
  | succ d ih =>
    intro i pr hi hj
    have xa : nI s * 401 + nI i = nI (s * 401 + i) := rq_ix s 401 i
    have key := ih (i + 1) (upd pr i (rq_i (rq_df a i))) (by omega) (fun j hj2 => by
      by_cases e : j = i
      · rw [e, pk_us]
      · rw [pk_un e]; exact hj j (by omega))
    rw [if_neg (by omega : ¬ i + 1 = 0), Nat.add_sub_cancel] at key
    refine br_f (nI_ge (b := 32) (by omega) (by decide)) ⟨pk_in (s * 401 + i) 1604 (by omega) xa, nm_r (rq_rd (a := te) (s * 401 + i) xa (by omega) (ha i (by omega))) ?_⟩
    refine rq_redB (z := rq_df a i) (M := 200) ?_ ⟨vp_in_nI (by omega) (by omega), nm_r (rq_up i rfl (by omega) rfl) (nm_r (nI_1 i) key)⟩
    have e2 : rq_df a i = a i - (if i = 0 then 0 else a (i - 1)) := by
      unfold rq_df
      by_cases e : i = 0
      · rw [if_pos e, if_pos e, e]; grind
      · rw [if_neg e, if_neg e]
    rw [e2]
    exact rq_b_sub (rq_b_i _) (rq_b_i _) (by decide)
end
end
section
-- The reference's loops of the calls that change a sequence
section
variable {ye tb yf : Nat → Int32}
theorem ry_end {post : Int32 → SY → Prop} {wk : Nat → Int32} {B : Nat → Fin 101} {s L : Nat} (hs : s < 4) (hw : ∀ j, j < 32 → wk j = rq_i (B j)) (hO : rq_O B L) (hL : L ≤ 16) (h : rq_YF post ye B s L) : wpY_settle post (ye, wk, tb, yf) (nI s) :=
  ry_settle hs hO hL hw (fun h8 tb => h.1 h8 wk tb yf) (fun h8 tb => h.2 h8 wk tb yf)
theorem ry_add29 {post : Int32 → SY → Prop} {a b : Nat → Fin 101} {to s t L : Nat} (hto : to < 4) (hs : s < 4) (ht : t < 4) (ha : ∀ n, n < 32 → ye (s * 32 + n) = rq_i (a n)) (hb : ∀ n, n < 32 → ye (t * 32 + n) = rq_i (b n)) (hO : rq_O (fun n => a n + b n) L) (hL : L ≤ 16) (h : rq_YF post ye (fun n => a n + b n) to L) : ∀ (d i : Nat) (wk : Nat → Int32), i + d = 32 → (∀ j, j < i → wk j = rq_i (a j + b j)) → wY_add_29 post (nI to) (nI s) (nI t) (d + 1) (nI i) ye wk tb yf := by
  intro d
  induction d with
  | zero =>
    intro i wk hi hj
    obtain rfl : i = 32 := by omega
    exact br_t (nI_le (a := 32) (by omega) (by omega)) (ry_end hto hj hO hL h)
  | succ d ih =>
    intro i wk hi hj
    have xa : nI s * 32 + nI i = nI (s * 32 + i) := rq_ix s 32 i
    have xb : nI t * 32 + nI i = nI (t * 32 + i) := rq_ix t 32 i
    refine br_f (nI_ge (b := 32) (by omega) (by decide)) ⟨pk_in (s * 32 + i) 128 (by omega) xa, pk_in (t * 32 + i) 128 (by omega) xb, rq_ne, vp_in_nI (by omega) (by omega), nm_r (rq_up (w := rq_i (a i + b i)) i rfl (by omega) ?_) (nm_r (nI_1 i) (ih (i + 1) _ (by omega) (fun j hj2 => ?_)))⟩
    · rw [rq_rd (a := ye) (s * 32 + i) xa (by omega) (ha i (by omega)), rq_rd (a := ye) (t * 32 + i) xb (by omega) (hb i (by omega))]
      exact rq_rem (rq_n_add (rq_n_i _) (rq_n_i _) (by decide))
    · by_cases e : j = i
      · rw [e, pk_us]
      · rw [pk_un e]; exact hj j (by omega)
theorem ry_scale19 {post : Int32 → SY → Prop} {a : Nat → Fin 101} {m : Fin 101} {s L : Nat} (hs : s < 4) (ha : ∀ n, n < 32 → ye (s * 32 + n) = rq_i (a n)) (hO : rq_O (fun n => m * a n) L) (hL : L ≤ 16) (h : rq_YF post ye (fun n => m * a n) s L) : ∀ (d i : Nat) (wk : Nat → Int32), i + d = 32 → (∀ j, j < i → wk j = rq_i (m * a j)) → wY_scale_19 post (nI s) (rq_i m) (d + 1) (nI i) ye wk tb yf := by
  intro d
  induction d with
  | zero =>
    intro i wk hi hj
    obtain rfl : i = 32 := by omega
    exact br_t (nI_le (a := 32) (by omega) (by omega)) (ry_end hs hj hO hL h)
  | succ d ih =>
    intro i wk hi hj
    have xa : nI s * 32 + nI i = nI (s * 32 + i) := rq_ix s 32 i
    refine br_f (nI_ge (b := 32) (by omega) (by decide)) ⟨pk_in (s * 32 + i) 128 (by omega) xa, rq_ne, vp_in_nI (by omega) (by omega), nm_r (rq_up (w := rq_i (a i * m)) i rfl (by omega) ?_) (nm_r (nI_1 i) (ih (i + 1) _ (by omega) (fun j hj2 => ?_)))⟩
    · rw [rq_rd (a := ye) (s * 32 + i) xa (by omega) (ha i (by omega))]
      exact rq_rem (rq_n_mul (rq_n_i _) (rq_n_i _) (by decide))
    · by_cases e : j = i
      · rw [e, pk_us]
        exact congrArg rq_i (by grind)
      · rw [pk_un e]; exact hj j (by omega)
theorem ry_adv23 {post : Int32 → SY → Prop} {a : Nat → Fin 101} {s L : Nat} (hs : s < 4) (hO : rq_O (fun n => a (n + 1)) L) (hL : L ≤ 16) (h : rq_YF post ye (fun n => a (n + 1)) s L) : ∀ (d i : Nat) (wk : Nat → Int32), i + d = 32 → (∀ j, j < i → wk j = rq_i (a (j + 1))) → (∀ j, i ≤ j → j ≤ 32 → wk j = rq_i (a j)) → wY_advance_23 post (nI s) (d + 1) (nI i) ye wk tb yf := by
  intro d
  induction d with
  | zero =>
    intro i wk hi hj hk
    obtain rfl : i = 32 := by omega
    exact br_t (nI_le (a := 32) (by omega) (by omega)) (ry_end (B := fun n => a (n + 1)) hs hj hO hL h)
  | succ d ih =>
    intro i wk hi hj hk
    refine br_f (nI_ge (b := 32) (by omega) (by decide)) ⟨pk_in (i + 1) 402 (by omega) (nI_1 i), vp_in_nI (by omega) (by omega), nm_r (rq_up i rfl (by omega) (rq_rd (i + 1) (nI_1 i) (by omega) (hk (i + 1) (by omega) (by omega)))) (nm_r (nI_1 i) (ih (i + 1) _ (by omega) (fun j hj2 => ?_) (fun j h1 h2 => ?_)))⟩
    · by_cases e : j = i
      · rw [e, pk_us]
      · rw [pk_un e]; exact hj j (by omega)
    · rw [pk_un (by omega)]; exact hk j (by omega) h2
theorem ry_pre23 {post : Int32 → SY → Prop} {a : Nat → Fin 101} {x : Fin 101} {s L : Nat} (hs : s < 4) (ha : ∀ n, n < 32 → ye (s * 32 + n) = rq_i (a n)) (hO : rq_O (fun n => if n = 0 then x else a (n - 1)) L) (hL : L ≤ 16) (h : rq_YF post ye (fun n => if n = 0 then x else a (n - 1)) s L) : ∀ (d i : Nat) (wk : Nat → Int32), i + d = 32 → 1 ≤ i → (∀ j, j < i → wk j = rq_i (if j = 0 then x else a (j - 1))) → wY_prepend_23 post (nI s) (d + 1) (nI i) ye wk tb yf := by
  intro d
  induction d with
  | zero =>
    intro i wk hi h1 hj
    obtain rfl : i = 32 := by omega
    exact br_t (nI_le (a := 32) (by omega) (by omega)) (ry_end (B := fun n => if n = 0 then x else a (n - 1)) hs hj hO hL h)
  | succ d ih =>
    intro i wk hi h1 hj
    have xa : nI s * 32 + nI i - 1 = nI (s * 32 + (i - 1)) := by
      have := rq_ix s 32 i
      rw [show (nI s * 32 + nI i) = nI (s * 32 + i) from this, show s * 32 + i = s * 32 + (i - 1) + 1 by omega, nI_pred]
    refine br_f (nI_ge (b := 32) (by omega) (by decide)) ⟨pk_in (s * 32 + (i - 1)) 128 (by omega) xa, vp_in_nI (by omega) (by omega), nm_r (rq_up i rfl (by omega) (rq_rd (s * 32 + (i - 1)) xa (by omega) (ha (i - 1) (by omega)))) (nm_r (nI_1 i) (ih (i + 1) _ (by omega) (by omega) (fun j hj2 => ?_)))⟩
    by_cases e : j = i
    · rw [e, pk_us, if_neg (by omega)]
    · rw [pk_un e]; exact hj j (by omega)
theorem ry_acc14 {post : Int32 → SY → Prop} {a : Nat → Fin 101} {s L : Nat} (hs : s < 4) (ha : ∀ n, n < 32 → ye (s * 32 + n) = rq_i (a n)) (hO : rq_O (rq_ac a) L) (hL : L ≤ 16) (h : rq_YF post ye (rq_ac a) s L) : ∀ (d i : Nat) (wk : Nat → Int32), i + d = 32 → (∀ j, j < i → wk j = rq_i (rq_ac a j)) → wY_accumulate_14 post (nI s) (d + 1) (rq_i (rq_sm a i)) (nI i) ye wk tb yf := by
  intro d
  induction d with
  | zero =>
    intro i wk hi hj
    obtain rfl : i = 32 := by omega
    exact br_t (nI_le (a := 32) (by omega) (by omega)) (ry_end hs hj hO hL h)
  | succ d ih =>
    intro i wk hi hj
    have xa : nI s * 32 + nI i = nI (s * 32 + i) := rq_ix s 32 i
    refine br_f (nI_ge (b := 32) (by omega) (by decide)) ⟨pk_in (s * 32 + i) 128 (by omega) xa, rq_ne, nm_r (e' := rq_i (rq_sm a (i + 1))) ?_ ⟨vp_in_nI (by omega) (by omega), nm_r (rq_up i rfl (by omega) rfl) (nm_r (nI_1 i) (ih (i + 1) _ (by omega) (fun j hj2 => ?_)))⟩⟩
    · rw [rq_rd (a := ye) (s * 32 + i) xa (by omega) (ha i (by omega))]
      exact rq_rem (rq_n_add (rq_n_i _) (rq_n_i _) (by decide))
    · by_cases e : j = i
      · rw [e, pk_us, rq_ac]
      · rw [pk_un e]; exact hj j (by omega)
theorem ry_dif14 {post : Int32 → SY → Prop} {a : Nat → Fin 101} {s L : Nat} (hs : s < 4) (ha : ∀ n, n < 32 → ye (s * 32 + n) = rq_i (a n)) (hO : rq_O (rq_df a) L) (hL : L ≤ 16) (h : rq_YF post ye (rq_df a) s L) : ∀ (d i : Nat) (wk : Nat → Int32), i + d = 32 → (∀ j, j < i → wk j = rq_i (rq_df a j)) → wY_difference_14 post (nI s) (d + 1) (rq_i (if i = 0 then 0 else a (i - 1))) (nI i) ye wk tb yf := by
  intro d
  induction d with
  | zero =>
    intro i wk hi hj
    obtain rfl : i = 32 := by omega
    exact br_t (nI_le (a := 32) (by omega) (by omega)) (ry_end hs hj hO hL h)
  | succ d ih =>
    intro i wk hi hj
    have xa : nI s * 32 + nI i = nI (s * 32 + i) := rq_ix s 32 i
    have ea := rq_rd (a := ye) (s * 32 + i) xa (by omega) (ha i (by omega))
    have key := ih (i + 1) (upd wk i (rq_i (rq_df a i))) (by omega) (fun j hj2 => by
      by_cases e : j = i
      · rw [e, pk_us]
      · rw [pk_un e]; exact hj j (by omega))
    rw [if_neg (by omega : ¬ i + 1 = 0), Nat.add_sub_cancel] at key
    refine br_f (nI_ge (b := 32) (by omega) (by decide)) ⟨pk_in (s * 32 + i) 128 (by omega) xa, ?_⟩
    refine rq_modB (z := rq_df a i) (M := 200) ?_ ⟨vp_in_nI (by omega) (by omega), nm_r (rq_up i rfl (by omega) rfl) ⟨pk_in (s * 32 + i) 128 (by omega) xa, nm_r ea (nm_r (nI_1 i) key)⟩⟩
    have e2 : rq_df a i = a i - (if i = 0 then 0 else a (i - 1)) := by
      unfold rq_df
      by_cases e : i = 0
      · rw [if_pos e, if_pos e, e]; grind
      · rw [if_neg e, if_neg e]
    rw [e2, ea]
    exact rq_b_sub (rq_b_i _) (rq_b_i _) (by decide)
end
end
section
-- The six calls that change a sequence
theorem i_vc_add {k : Nat} {u : SX} {v : SY} (I : i_Rel k u v) (hk : k + 5 ≤ 2560) (v1 : Int32) (v2 : Int32) (v3 : Int32) : wpX_add (fun r u' => wpY_add (fun r' v' => r' = r ∧ i_Rel (k + 5) u' v') v v1 v2 v3) u v1 v2 v3 := by
  obtain ⟨te, od, pr, fa, ol, sv⟩ := u
  obtain ⟨ye, wk, tb, yf⟩ := v
  obtain ⟨A, hA⟩ := I
  replace hA : rq_R A te od ye := hA
  rcases rq_seq v1 with ⟨bx, bad⟩ | ⟨to, hto, rfl, gx, gy⟩
  · unfold wpX_add wpY_add
    dsimp only
    exact bx _ (br_t rfl (bad _ _ (br_f (by decide) ⟨rfl, A, hA⟩)))
  rcases rq_seq v2 with ⟨bx, bad⟩ | ⟨s, hs, rfl, hx, hy⟩
  · unfold wpX_add wpY_add
    dsimp only
    exact gx _ (br_f (by decide) (bx _ (br_t rfl (gy _ _ (br_t rfl (bad _ _ (br_f (by decide) ⟨rfl, A, hA⟩)))))))
  rcases rq_seq v3 with ⟨bx, bad⟩ | ⟨t, ht, rfl, ix, iy⟩
  · unfold wpX_add wpY_add
    dsimp only
    exact gx _ (br_f (by decide) (hx _ (br_f (by decide) (bx _ (br_t rfl (gy _ _ (br_t rfl (hy _ _ (br_t rfl (bad _ _ (br_f (by decide) ⟨rfl, A, hA⟩)))))))))))
  obtain ⟨⟨L1, hL1, hO1, ho1⟩, a1, a2⟩ := hA s hs
  obtain ⟨⟨L2, hL2, hO2, ho2⟩, b1, b2⟩ := hA t ht
  obtain ⟨c1, hG1⟩ := hO1.1
  obtain ⟨c2, hG2⟩ := hO2.1
  obtain ⟨c3, hG⟩ := rq_Gadd hG1 hG2
  refine rq_join (s := to) hA hG (by omega) (fun post => wpX_add post (te, od, pr, fa, ol, sv) (nI to) (nI s) (nI t)) (fun post => wpY_add post (ye, wk, tb, yf) (nI to) (nI s) (nI t)) (fun post h => ?_) (fun post L hO hL h => ?_)
  · unfold wpX_add
    dsimp only
    exact gx _ (br_f (by decide) (hx _ (br_f (by decide) (ix _ (br_f (by decide) ⟨33, rx_add26 hto hs ht a1 b1 hG (by omega) h 32 0 pr rfl (fun j hj => absurd hj (Nat.not_lt_zero j))⟩)))))
  · unfold wpY_add
    dsimp only
    exact gy _ _ (br_t rfl (hy _ _ (br_t rfl (iy _ _ (br_t rfl ⟨33, ry_add29 hto hs ht a2 b2 hO hL h 32 0 wk rfl (fun j hj => absurd hj (Nat.not_lt_zero j))⟩)))))
theorem i_vc_scale {k : Nat} {u : SX} {v : SY} (I : i_Rel k u v) (hk : k + 5 ≤ 2560) (v1 : Int32) (v2 : Int32) : wpX_scale (fun r u' => wpY_scale (fun r' v' => r' = r ∧ i_Rel (k + 5) u' v') v v1 v2) u v1 v2 := by
  obtain ⟨te, od, pr, fa, ol, sv⟩ := u
  obtain ⟨ye, wk, tb, yf⟩ := v
  obtain ⟨A, hA⟩ := I
  replace hA : rq_R A te od ye := hA
  rcases rq_seq v1 with ⟨bx, bad⟩ | ⟨s, hs, rfl, gx, gy⟩
  · unfold wpX_scale wpY_scale
    dsimp only
    exact bx _ (br_t rfl (bad _ _ (br_f (by decide) ⟨rfl, A, hA⟩)))
  obtain ⟨⟨L1, hL1, hO1, ho1⟩, a1, a2⟩ := hA s hs
  obtain ⟨c1, hG1⟩ := hO1.1
  refine rq_join (s := s) hA (rq_Gmul (rq_p v2.toInt) hG1) (by omega) (fun post => wpX_scale post (te, od, pr, fa, ol, sv) (nI s) v2) (fun post => wpY_scale post (ye, wk, tb, yf) (nI s) v2) (fun post h => ?_) (fun post L hO hL h => ?_)
  · unfold wpX_scale
    dsimp only
    exact gx _ (br_f (by decide) (rq_red v2 ⟨33, rx_scale17 hs a1 (rq_Gmul (rq_p v2.toInt) hG1) (by omega) h 32 0 pr rfl (fun j hj => absurd hj (Nat.not_lt_zero j))⟩))
  · unfold wpY_scale
    dsimp only
    exact gy _ _ (br_t rfl (rq_mod v2 ⟨33, ry_scale19 hs a2 hO hL h 32 0 wk rfl (fun j hj => absurd hj (Nat.not_lt_zero j))⟩))
theorem i_vc_advance {k : Nat} {u : SX} {v : SY} (I : i_Rel k u v) (hk : k + 5 ≤ 2560) (v1 : Int32) : wpX_advance (fun r u' => wpY_advance (fun r' v' => r' = r ∧ i_Rel (k + 5) u' v') v v1) u v1 := by
  obtain ⟨te, od, pr, fa, ol, sv⟩ := u
  obtain ⟨ye, wk, tb, yf⟩ := v
  obtain ⟨A, hA⟩ := I
  replace hA : rq_R A te od ye := hA
  rcases rq_seq v1 with ⟨bx, bad⟩ | ⟨s, hs, rfl, gx, gy⟩
  · unfold wpX_advance wpY_advance
    dsimp only
    exact bx _ (br_t rfl (bad _ _ (br_f (by decide) ⟨rfl, A, hA⟩)))
  obtain ⟨⟨L1, hL1, hO1, ho1⟩, a1, a2⟩ := hA s hs
  obtain ⟨c1, hG1⟩ := hO1.1
  refine rq_join (s := s) hA (rq_Gadv hG1) (by omega) (fun post => wpX_advance post (te, od, pr, fa, ol, sv) (nI s)) (fun post => wpY_advance post (ye, wk, tb, yf) (nI s)) (fun post h => ?_) (fun post L hO hL h => ?_)
  · unfold wpX_advance
    dsimp only
    exact gx _ (br_f (by decide) ⟨33, rx_adv11 hs a1 (rq_Gadv hG1) (by omega) h 32 0 pr rfl (fun j hj => absurd hj (Nat.not_lt_zero j))⟩)
  · unfold wpY_advance
    dsimp only
    refine gy _ _ (br_t rfl (ry_load hs a2 (fun wk2 hw => ?_)))
    refine ry_ext (last := 32) hL1 (by omega) hO1 hw (fun wk3 tb3 yf3 hh => ⟨33, ?_⟩)
    exact ry_adv23 hs hO hL h 32 0 wk3 rfl (fun j hj => absurd hj (Nat.not_lt_zero j)) (fun j _ h2 => hh j (Or.inr h2))
theorem i_vc_prepend {k : Nat} {u : SX} {v : SY} (I : i_Rel k u v) (hk : k + 5 ≤ 2560) (v1 : Int32) (v2 : Int32) : wpX_prepend (fun r u' => wpY_prepend (fun r' v' => r' = r ∧ i_Rel (k + 5) u' v') v v1 v2) u v1 v2 := by
  obtain ⟨te, od, pr, fa, ol, sv⟩ := u
  obtain ⟨ye, wk, tb, yf⟩ := v
  obtain ⟨A, hA⟩ := I
  replace hA : rq_R A te od ye := hA
  rcases rq_seq v1 with ⟨bx, bad⟩ | ⟨s, hs, rfl, gx, gy⟩
  · unfold wpX_prepend wpY_prepend
    dsimp only
    exact bx _ (br_t rfl (bad _ _ (br_f (by decide) ⟨rfl, A, hA⟩)))
  obtain ⟨⟨L1, hL1, hO1, ho1⟩, a1, a2⟩ := hA s hs
  obtain ⟨c1, hG1⟩ := hO1.1
  obtain ⟨c2, hG2⟩ := rq_Gpre (rq_p v2.toInt) hG1
  refine rq_join (s := s) hA hG2 (by omega) (fun post => wpX_prepend post (te, od, pr, fa, ol, sv) (nI s) v2) (fun post => wpY_prepend post (ye, wk, tb, yf) (nI s) v2) (fun post h => ?_) (fun post L hO hL h => ?_)
  · unfold wpX_prepend
    dsimp only
    refine gx _ (br_f (by decide) (rq_red v2 (nm_e ⟨32, rx_pre21 hs a1 hG2 (by omega) h 31 1 _ rfl (by omega) (fun j hj => ?_)⟩)))
    rw [show j = 0 by omega, pk_us, if_pos rfl]
  · unfold wpY_prepend
    dsimp only
    refine gy _ _ (br_t rfl (rq_mod v2 (nm_e ⟨32, ry_pre23 hs a2 hO hL h 31 1 _ rfl (by omega) (fun j hj => ?_)⟩)))
    rw [show j = 0 by omega, pk_us, if_pos rfl]
theorem i_vc_accumulate {k : Nat} {u : SX} {v : SY} (I : i_Rel k u v) (hk : k + 5 ≤ 2560) (v1 : Int32) : wpX_accumulate (fun r u' => wpY_accumulate (fun r' v' => r' = r ∧ i_Rel (k + 5) u' v') v v1) u v1 := by
  obtain ⟨te, od, pr, fa, ol, sv⟩ := u
  obtain ⟨ye, wk, tb, yf⟩ := v
  obtain ⟨A, hA⟩ := I
  replace hA : rq_R A te od ye := hA
  rcases rq_seq v1 with ⟨bx, bad⟩ | ⟨s, hs, rfl, gx, gy⟩
  · unfold wpX_accumulate wpY_accumulate
    dsimp only
    exact bx _ (br_t rfl (bad _ _ (br_f (by decide) ⟨rfl, A, hA⟩)))
  obtain ⟨⟨L1, hL1, hO1, ho1⟩, a1, a2⟩ := hA s hs
  obtain ⟨c1, hG1⟩ := hO1.1
  obtain ⟨c2, hG2⟩ := rq_Gacc hG1
  refine rq_join (s := s) hA hG2 (by omega) (fun post => wpX_accumulate post (te, od, pr, fa, ol, sv) (nI s)) (fun post => wpY_accumulate post (ye, wk, tb, yf) (nI s)) (fun post h => ?_) (fun post L hO hL h => ?_)
  · unfold wpX_accumulate
    dsimp only
    exact gx _ (br_f (by decide) ⟨33, rx_acc13 hs a1 hG2 (by omega) h 32 0 pr rfl (fun j hj => absurd hj (Nat.not_lt_zero j))⟩)
  · unfold wpY_accumulate
    dsimp only
    exact gy _ _ (br_t rfl ⟨33, ry_acc14 hs a2 hO hL h 32 0 wk rfl (fun j hj => absurd hj (Nat.not_lt_zero j))⟩)
theorem i_vc_difference {k : Nat} {u : SX} {v : SY} (I : i_Rel k u v) (hk : k + 5 ≤ 2560) (v1 : Int32) : wpX_difference (fun r u' => wpY_difference (fun r' v' => r' = r ∧ i_Rel (k + 5) u' v') v v1) u v1 := by
  obtain ⟨te, od, pr, fa, ol, sv⟩ := u
  obtain ⟨ye, wk, tb, yf⟩ := v
  obtain ⟨A, hA⟩ := I
  replace hA : rq_R A te od ye := hA
  rcases rq_seq v1 with ⟨bx, bad⟩ | ⟨s, hs, rfl, gx, gy⟩
  · unfold wpX_difference wpY_difference
    dsimp only
    exact bx _ (br_t rfl (bad _ _ (br_f (by decide) ⟨rfl, A, hA⟩)))
  obtain ⟨⟨L1, hL1, hO1, ho1⟩, a1, a2⟩ := hA s hs
  obtain ⟨c1, hG1⟩ := hO1.1
  obtain ⟨c2, hG2⟩ := rq_Gdif hG1
  refine rq_join (s := s) hA hG2 (by omega) (fun post => wpX_difference post (te, od, pr, fa, ol, sv) (nI s)) (fun post => wpY_difference post (ye, wk, tb, yf) (nI s)) (fun post h => ?_) (fun post L hO hL h => ?_)
  · unfold wpX_difference
    dsimp only
    exact gx _ (br_f (by decide) ⟨33, rx_dif13 hs a1 hG2 (by omega) h 32 0 pr rfl (fun j hj => absurd hj (Nat.not_lt_zero j))⟩)
  · unfold wpY_difference
    dsimp only
    exact gy _ _ (br_t rfl ⟨33, ry_dif14 hs a2 hO hL h 32 0 wk rfl (fun j hj => absurd hj (Nat.not_lt_zero j))⟩)
end
section
-- define
def rq_dg (c i : Nat) : Fin 101 := ⟨c / 101 ^ i % 101, Nat.mod_lt _ (by decide)⟩
def rq_us (x : Int32) : Nat := x.toBitVec.toNat % 2 ^ 31
theorem rq_us_lt (x : Int32) : rq_us x < 2 ^ 31 := Nat.mod_lt _ (by decide)
theorem rq_us_e (x : Int32) : x &&& 2147483647 = nI (rq_us x / 101 ^ 0) := by
  rw [Nat.pow_zero, Nat.div_one]
  exact pk_and x 31 (by decide)
theorem rq_dv_lt {c : Nat} (hc : c < 2 ^ 31) (i : Nat) : c / 101 ^ i < 2 ^ 31 := Nat.lt_of_le_of_lt (Nat.div_le_self _ _) hc
theorem rq_dgR {c : Nat} (hc : c < 2 ^ 31) (i : Nat) : nI (c / 101 ^ i) - nI (c / 101 ^ i) / 101 * 101 = rq_i (rq_dg c i) :=
  pk_rem (a := c / 101 ^ i) (d := 101) (rq_dv_lt hc i) (by decide) (by decide)
theorem rq_dgD {c : Nat} (hc : c < 2 ^ 31) (i : Nat) : nI (c / 101 ^ i) / 101 = nI (c / 101 ^ (i + 1)) := by
  have h := pk_div (a := c / 101 ^ i) (d := 101) (rq_dv_lt hc i) (by decide) (by decide)
  rw [Nat.div_div_eq_div_mul, ← Nat.pow_succ] at h
  exact h
/-- the recurrence that define is given -/
def rq_df2 (c : Nat) : Nat → Fin 101 := fun j => if j = 0 then 1 else - rq_dg c (j - 1)
theorem rq_df2s (c j : Nat) : rq_df2 c (j + 1) = - rq_dg c j := by
  unfold rq_df2
  rw [if_neg (by omega), Nat.add_sub_cancel]
def rq_B (k c b : Nat) : Nat → Fin 101 := rq_mk k (rq_df2 c) (rq_dg b)
theorem rq_BG (k c b : Nat) : rq_G (rq_B k c b) (rq_df2 c) k := rq_mkG rfl
theorem rq_Bsum {k c b n : Nat} (h : k ≤ n) : rq_sm (fun j => rq_dg c j * rq_B k c b (n - (j + 1))) k = rq_B k c b n := by
  have e : rq_B k c b n = - rq_sm (fun j => rq_df2 c (j + 1) * rq_B k c b (n - (j + 1))) k := rq_mkR h
  have e2 : rq_sm (fun j => rq_df2 c (j + 1) * rq_B k c b (n - (j + 1))) k = (-1) * rq_sm (fun j => rq_dg c j * rq_B k c b (n - (j + 1))) k := by
    rw [← rq_sm_mul]
    refine rq_sm_congr k (fun j _ => ?_)
    rw [rq_df2s]; grind
  rw [e, e2]
  generalize rq_sm (fun j => rq_dg c j * rq_B k c b (n - (j + 1))) k = x
  grind
section
variable {te od ol sv : Nat → Int32}
theorem rx_d97 {post : Int32 → SX → Prop} {fa : Nat → Int32} {s k c b : Nat} (hs : s < 4) (hk : k ≤ 4) (hf : ∀ j, j < k → fa (j + 1) = rq_i (rq_df2 c (j + 1))) (h : ∀ L, rq_O (rq_B k c b) L → L ≤ 8 → ∀ pr fa ol sv : Nat → Int32, post 0 (rq_w te (s * 401) (s * 401 + 401) (fun j => rq_i (rq_B k c b (j - s * 401))), upd od s (nI L), pr, fa, ol, sv)) : ∀ (d n : Nat) (pr : Nat → Int32), n + d = 32 → k ≤ n → (∀ j, j < n → pr j = rq_i (rq_B k c b j)) → wX_define_97 post (nI s) (nI k) (d + 1) (nI n) te od pr fa ol sv := by
  intro d
  induction d with
  | zero =>
    intro n pr hn hkn hj
    obtain rfl : n = 32 := by omega
    refine br_t (nI_le (a := 32) (by omega) (by omega)) (rx_take hs hj (rq_BG k c b) (by omega) (fun L hO hL fa ol sv => ?_) (fun L hO hL fa ol sv => h L hO hL pr fa ol sv))
    have := hO.2 _ _ (rq_BG k c b)
    omega
  | succ d ih =>
    intro n pr hn hkn hj
    have e : rq_B k c b n = - rq_sm (fun j => rq_df2 c (j + 1) * rq_B k c b (n - (j + 1))) k := rq_mkR hkn
    refine br_f (nI_ge (b := 32) (by omega) (by decide)) ?_
    refine rx_fp (c := rq_df2 c) (g := fun j => rq_B k c b (n - (j + 1))) hkn (by omega) hf (fun j hj2 => hj _ (by omega)) ⟨vp_in_nI (by omega) (by omega), nm_r (rq_up n rfl (by omega) rfl) (nm_r (nI_1 n) (ih (n + 1) _ (by omega) (by omega) (fun j hj2 => ?_)))⟩
    by_cases e2 : j = n
    · rw [e2, pk_us, e]
    · rw [pk_un e2]; exact hj j (by omega)
theorem rx_d38 {post : Int32 → SX → Prop} {s k c b : Nat} (hs : s < 4) (hk : k ≤ 4) (hc : c < 2 ^ 31) (hb : b < 2 ^ 31) (h : ∀ L, rq_O (rq_B k c b) L → L ≤ 8 → ∀ pr fa ol sv : Nat → Int32, post 0 (rq_w te (s * 401) (s * 401 + 401) (fun j => rq_i (rq_B k c b (j - s * 401))), upd od s (nI L), pr, fa, ol, sv)) : ∀ (d i : Nat) (pr fa : Nat → Int32), i + d = k → (∀ j, j < i → fa (j + 1) = rq_i (rq_df2 c (j + 1))) → (∀ j, j < i → pr j = rq_i (rq_B k c b j)) → wX_define_38 post (nI s) (nI k) (d + 1) (nI (c / 101 ^ i)) (nI (b / 101 ^ i)) (nI i) te od pr fa ol sv := by
  intro d
  induction d with
  | zero =>
    intro i pr fa hi hf hj
    obtain rfl : i = k := by omega
    exact br_t (nI_le (Nat.le_refl _) (by omega)) ⟨32 - i + 1, rx_d97 hs hk hf h (32 - i) i pr (by omega) (Nat.le_refl _) hj⟩
  | succ d ih =>
    intro i pr fa hi hf hj
    refine br_f (nI_ge (by omega) (by omega)) ⟨rq_ne, ?_⟩
    refine rq_redB (z := - rq_dg c i) (M := 100) (by rw [rq_dgR hc]; exact rq_b_neg (rq_b_i _) (by decide)) ?_
    refine ⟨pk_in (i + 1) 33 (by omega) (nI_1 i), nm_r (rq_up (i + 1) (nI_1 i) (by omega) rfl) ⟨rq_ne, vp_in_nI (by omega) (by omega), nm_r (rq_up i rfl (by omega) (rq_dgR hb i)) ⟨rq_ne, nm_r (rq_dgD hc i) ⟨rq_ne, nm_r (rq_dgD hb i) (nm_r (nI_1 i) (ih (i + 1) _ _ (by omega) (fun j hj2 => ?_) (fun j hj2 => ?_)))⟩⟩⟩⟩
    · by_cases e : j = i
      · rw [e, pk_us, rq_df2s]
      · rw [pk_un (by omega)]; exact hf j (by omega)
    · by_cases e : j = i
      · have e2 : rq_B k c b i = rq_dg b i := rq_mkB (by omega)
        rw [e, pk_us, e2]
      · rw [pk_un e]; exact hj j (by omega)
end
section
variable {ye wk tb yf : Nat → Int32}
theorem ry_dig8 {post : Int32 → Prop} {c p : Nat} (hc : c < 2 ^ 31) (hp : p ≤ 32) (h : post (rq_i (rq_dg c p))) : ∀ d i : Nat, i + d = p → wY_digit_8 post (nI p) ye wk tb yf (d + 1) (nI (c / 101 ^ i)) (nI i) := by
  intro d
  induction d with
  | zero =>
    intro i hi
    obtain rfl : i = p := by omega
    refine br_t (nI_le (Nat.le_refl _) (by omega)) ⟨rq_ne, ?_⟩
    rw [rq_dgR hc]; exact h
  | succ d ih =>
    intro i hi
    exact br_f (nI_ge (by omega) (by omega)) ⟨rq_ne, nm_r (rq_dgD hc i) (nm_r (nI_1 i) (ih (i + 1) (by omega)))⟩
theorem ry_dig {post : Int32 → Prop} {x y : Int32} (p : Nat) (hp : p ≤ 32) (hy : y = nI p) (h : post (rq_i (rq_dg (rq_us x) p))) : wpY_digit post (ye, wk, tb, yf) x y := by
  subst hy
  exact nm_r (rq_us_e x) ⟨p + 1, ry_dig8 (rq_us_lt x) hp h p 0 (Nat.zero_add p)⟩
theorem ry_d56a {post : Int32 → SY → Prop} {J : Int32 → (Nat → Int32) → (Nat → Int32) → (Nat → Int32) → (Nat → Int32) → Prop} {x1 x3 x4 : Int32} {k n : Nat} {z : Fin 101} (hk : k ≤ 4) (hn : n < k) (h : J (nI (n + 1)) ye (upd wk n (rq_i z)) tb yf) : ∀ d i : Nat, i + d = k + 1 → wY_define_56 post J x1 (nI k) x3 x4 (nI n) ye wk tb yf (d + 1) (rq_i z) (nI i) := by
  intro d
  induction d with
  | zero =>
    intro i hi
    exact br_t (nI_lt (by omega) (by omega)) ⟨rq_ne, vp_in_nI (by omega) (by omega), nm_r (rq_up n rfl (by omega) (rq_rem (rq_n_i z))) (nm_r (nI_1 n) h)⟩
  | succ d ih =>
    intro i hi
    exact br_f (nI_nlt (by omega) (by omega)) (br_t (nI_lt hn (by omega)) (nm_r (nI_1 i) (ih (i + 1) (by omega))))
theorem ry_d56b {post : Int32 → SY → Prop} {J : Int32 → (Nat → Int32) → (Nat → Int32) → (Nat → Int32) → (Nat → Int32) → Prop} {x1 x3 x4 : Int32} {k n : Nat} {B : Nat → Fin 101} (hk : k ≤ 4) (hkn : k ≤ n) (hn : n < 32) (hw : ∀ j, j < n → wk j = rq_i (B j)) (h : J (nI (n + 1)) ye (upd wk n (rq_i (rq_sm (fun j => rq_dg (rq_us x3) j * B (n - (j + 1))) k))) tb yf) : ∀ (d m : Nat) (x6 : Int32), m + d = k → rq_n x6 (rq_sm (fun j => rq_dg (rq_us x3) j * B (n - (j + 1))) m) (10000 * m) → wY_define_56 post J x1 (nI k) x3 x4 (nI n) ye wk tb yf (d + 1) x6 (nI (m + 1)) := by
  intro d
  induction d with
  | zero =>
    intro m x6 hm hx
    obtain rfl : m = k := by omega
    exact br_t (nI_lt (by omega) (by omega)) ⟨rq_ne, vp_in_nI (by omega) (by omega), nm_r (rq_up n rfl (by omega) (rq_rem hx)) (nm_r (nI_1 n) h)⟩
  | succ d ih =>
    intro m x6 hm hx
    have xa : nI n - nI (m + 1) = nI (n - (m + 1)) := pk_sub (by omega)
    refine br_f (nI_nlt (by omega) (by omega)) (br_f (nI_nlt hkn (by omega)) (ry_dig m (by omega) (nI_pred m) ⟨pk_in (n - (m + 1)) 402 (by omega) xa, fun y ey => nm_r (nI_1 (m + 1)) (ih (m + 1) y (by omega) ?_)⟩))
    rw [ey, rq_rd (a := wk) (n - (m + 1)) xa (by omega) (hw _ (by omega))]
    exact rq_n_le (rq_n_add hx (rq_n_mul (rq_n_i _) (rq_n_i _) (by decide)) (by omega)) (by omega)
theorem ry_d26 {post : Int32 → SY → Prop} {x3 x4 : Int32} {s k : Nat} (hs : s < 4) (hk : k ≤ 4) (h : ∀ wk : Nat → Int32, post 0 (rq_w ye (s * 32) (s * 32 + 32) (fun j => rq_i (rq_B k (rq_us x3) (rq_us x4) (j - s * 32))), wk, tb, yf)) : ∀ (d n : Nat) (wk : Nat → Int32), n + d = 32 → (∀ j, j < n → wk j = rq_i (rq_B k (rq_us x3) (rq_us x4) j)) → wY_define_26 post (nI s) (nI k) x3 x4 (d + 1) (nI n) ye wk tb yf := by
  intro d
  induction d with
  | zero =>
    intro n wk hn hw
    obtain rfl : n = 32 := by omega
    exact br_t (nI_le (a := 32) (by omega) (by omega)) (ry_store hs hw (h wk))
  | succ d ih =>
    intro n wk hn hw
    refine br_f (nI_ge (b := 32) (by omega) (by decide)) (pk_le k n (fun hkn => ?_) (fun hkn => ?_))
    · refine ⟨k + 1, ry_d56b (B := rq_B k (rq_us x3) (rq_us x4)) hk hkn (by omega) hw (ih (n + 1) _ (by omega) (fun j hj => ?_)) k 0 0 (Nat.zero_add k) (rq_n_0 _)⟩
      by_cases e : j = n
      · rw [e, pk_us, rq_Bsum hkn]
      · rw [pk_un e]; exact hw j (by omega)
    · refine ry_dig n (by omega) rfl ⟨k + 1, ry_d56a hk hkn (ih (n + 1) _ (by omega) (fun j hj => ?_)) k 1 (Nat.add_comm 1 k)⟩
      by_cases e : j = n
      · have e2 : rq_B k (rq_us x3) (rq_us x4) n = rq_dg (rq_us x4) n := rq_mkB (by omega)
        rw [e, pk_us, e2]
      · rw [pk_un e]; exact hw j (by omega)
end
theorem rq_ord (x : Int32) : x < 1 ∨ (¬ x < 1 ∧ ¬ x ≤ 4) ∨ ∃ k : Nat, 1 ≤ k ∧ k ≤ 4 ∧ x = nI k := by
  by_cases h : x < 1
  · exact Or.inl h
  · by_cases h2 : x ≤ 4
    · have h0 : ¬ x < 0 := by
        rw [Int32.lt_iff_toInt_lt] at h ⊢
        have e1 : (1 : Int32).toInt = 1 := by decide
        have e0 : (0 : Int32).toInt = 0 := by decide
        omega
      obtain ⟨j, hj, rfl⟩ := nI_of2 (M := 4) (n := 4) (by decide) h0 h2
      refine Or.inr (Or.inr ⟨j, Nat.le_of_not_lt (fun hlt => h ?_), hj, rfl⟩)
      exact nI_lt (b := 1) hlt (by decide)
    · exact Or.inr (Or.inl ⟨h, h2⟩)
theorem i_vc_define {k : Nat} {u : SX} {v : SY} (I : i_Rel k u v) (hk : k + 5 ≤ 2560) (v1 : Int32) (v2 : Int32) (v3 : Int32) (v4 : Int32) : wpX_define (fun r u' => wpY_define (fun r' v' => r' = r ∧ i_Rel (k + 5) u' v') v v1 v2 v3 v4) u v1 v2 v3 v4 := by
  obtain ⟨te, od, pr, fa, ol, sv⟩ := u
  obtain ⟨ye, wk, tb, yf⟩ := v
  obtain ⟨A, hA⟩ := I
  replace hA : rq_R A te od ye := hA
  unfold wpX_define wpY_define
  dsimp only
  rcases rq_seq v1 with ⟨bx, bad⟩ | ⟨s, hs, rfl, gx, gy⟩
  · exact bx _ (br_t rfl (bad _ _ (br_f (by decide) ⟨rfl, A, hA⟩)))
  rcases rq_ord v2 with h1 | ⟨h1, h2⟩ | ⟨n, hn1, hn4, rfl⟩
  · exact gx _ (br_f (by decide) (br_t h1 (gy _ _ (br_t rfl (br_t h1 ⟨rfl, A, hA⟩)))))
  · exact gx _ (br_f (by decide) (br_f h1 (br_f h2 (gy _ _ (br_t rfl (br_f h1 (br_f h2 ⟨rfl, A, hA⟩)))))))
  have h1 : ¬ nI n < 1 := nI_nlt (b := 1) hn1 (by omega)
  have h4 : nI n ≤ 4 := nI_le (b := 4) hn4 (by decide)
  refine gx _ (br_f (by decide) (br_f h1 (br_t h4 (nm_r (rq_us_e v3) (nm_r (rq_us_e v4) ⟨n + 1, rx_d38 hs hn4 (rq_us_lt v3) (rq_us_lt v4) (fun L hO hL pr2 fa2 ol2 sv2 => ?_) n 0 pr fa (Nat.zero_add n) (fun j hj => absurd hj (Nat.not_lt_zero j)) (fun j hj => absurd hj (Nat.not_lt_zero j))⟩)))))
  have key := rq_put (s := s) hA hO hL
  exact gy _ _ (br_t rfl (br_f h1 (br_t h4 ⟨33, ry_d26 hs hn4 (fun wk2 => ⟨rfl, _, key⟩) 32 0 wk rfl (fun j hj => absurd hj (Nat.not_lt_zero j))⟩)))
end
