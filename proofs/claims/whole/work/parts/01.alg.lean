-- Pure part: sums over Fin 101, Massey's lemma, the step of Berlekamp-Massey.
def rq_sm (f : Nat → Fin 101) : Nat → Fin 101
  | 0 => 0
  | n + 1 => rq_sm f n + f n
theorem rq_sm_congr {f g : Nat → Fin 101} : ∀ n : Nat, (∀ i, i < n → f i = g i) → rq_sm f n = rq_sm g n := by
  intro n
  induction n with
  | zero => intro _; rfl
  | succ n ih =>
    intro h
    rw [rq_sm, rq_sm, ih (fun i hi => h i (by omega)), h n (by omega)]
theorem rq_sm_zero {f : Nat → Fin 101} : ∀ n : Nat, (∀ i, i < n → f i = 0) → rq_sm f n = 0 := by
  intro n
  induction n with
  | zero => intro _; rfl
  | succ n ih =>
    intro h
    rw [rq_sm, ih (fun i hi => h i (by omega)), h n (by omega)]
    decide
theorem rq_sm_add (f g : Nat → Fin 101) (n : Nat) : rq_sm (fun i => f i + g i) n = rq_sm f n + rq_sm g n := by
  induction n with
  | zero => rw [rq_sm, rq_sm, rq_sm]; decide
  | succ n ih => rw [rq_sm, rq_sm, rq_sm, ih]; grind
theorem rq_sm_mul (c : Fin 101) (f : Nat → Fin 101) (n : Nat) : rq_sm (fun i => c * f i) n = c * rq_sm f n := by
  induction n with
  | zero => rw [rq_sm, rq_sm]; grind
  | succ n ih => rw [rq_sm, rq_sm, ih]; grind
theorem rq_sm_swap (f : Nat → Nat → Fin 101) (m n : Nat) : rq_sm (fun i => rq_sm (fun j => f i j) n) m = rq_sm (fun j => rq_sm (fun i => f i j) m) n := by
  induction m with
  | zero => rw [rq_sm]; exact (rq_sm_zero n (fun _ _ => rfl)).symm
  | succ m ih =>
    rw [rq_sm, ih, ← rq_sm_add]
    exact rq_sm_congr n (fun _ _ => rfl)
theorem rq_sm_front (f : Nat → Fin 101) (n : Nat) : rq_sm f (n + 1) = f 0 + rq_sm (fun i => f (i + 1)) n := by
  induction n with
  | zero => rw [rq_sm, rq_sm, rq_sm]; grind
  | succ n ih => rw [rq_sm, ih, rq_sm]; grind
theorem rq_sm_split (f : Nat → Fin 101) (m n : Nat) : rq_sm f (m + n) = rq_sm f m + rq_sm (fun i => f (m + i)) n := by
  induction n with
  | zero => rw [Nat.add_zero, rq_sm.eq_1 (fun i => f (m + i))]; grind
  | succ n ih => rw [← Nat.add_assoc, rq_sm, ih, rq_sm]; grind
theorem rq_sm_ext {f : Nat → Fin 101} {m n : Nat} (h : m ≤ n) (hz : ∀ i, m ≤ i → i < n → f i = 0) : rq_sm f n = rq_sm f m := by
  obtain ⟨d, rfl⟩ := Nat.le.dest h
  rw [rq_sm_split, rq_sm_zero d (fun i hi => hz (m + i) (by omega) (by omega))]; grind
/-- what the recurrence c of length L leaves at place i -/
def rq_d (a c : Nat → Fin 101) (L i : Nat) : Fin 101 := rq_sm (fun j => c j * a (i - j)) (L + 1)
/-- the recurrence c of length L makes the terms below n -/
def rq_g (a c : Nat → Fin 101) (L n : Nat) : Prop := c 0 = 1 ∧ ∀ i, L ≤ i → i < n → rq_d a c L i = 0
theorem rq_massey {a c c' : Nat → Fin 101} {L L' n : Nat} (hL : L + L' ≤ n) (hg : rq_g a c L n) (hg' : rq_g a c' L' (n + 1)) : rq_d a c L n = 0 := by
  have e := rq_sm_swap (fun j k => c j * (c' k * a (n - j - k))) (L + 1) (L' + 1)
  have e1 : rq_sm (fun j => rq_sm (fun k => c j * (c' k * a (n - j - k))) (L' + 1)) (L + 1) = 0 := by
    refine rq_sm_zero _ (fun j hj => ?_)
    have h := hg'.2 (n - j) (by omega) (by omega)
    unfold rq_d at h
    rw [rq_sm_mul, h]; grind
  have e2 : ∀ k, k < L' + 1 → rq_sm (fun j => c j * (c' k * a (n - j - k))) (L + 1) = c' k * rq_d a c L (n - k) := by
    intro k hk
    unfold rq_d
    rw [← rq_sm_mul]
    refine rq_sm_congr _ (fun j hj => ?_)
    rw [show n - j - k = n - k - j by omega]; grind
  rw [e1, rq_sm_congr _ e2, rq_sm_front] at e
  rw [rq_sm_zero L' (fun k hk => by rw [hg.2 (n - (k + 1)) (by omega) (by omega)]; grind), hg'.1] at e
  simp only [Nat.sub_zero] at e
  grind
/-- the state of Berlekamp-Massey when n terms are behind it -/
def rq_bm (a c b : Nat → Fin 101) (L s n : Nat) (q : Fin 101) : Prop :=
  rq_g a c L n ∧ L ≤ n ∧ 1 ≤ s ∧ (∀ j, L < j → c j = 0) ∧ q ≠ 0 ∧
  (∀ c' L', rq_g a c' L' n → L ≤ L') ∧
  ((s = n + 1 ∧ L = 0 ∧ b 0 = 1 ∧ ∀ j, 0 < j → b j = 0) ∨
   ∃ m lb, m + s = n ∧ L + lb = m + 1 ∧ lb ≤ m ∧ (∀ j, lb < j → b j = 0) ∧ (∀ i, lb ≤ i → i < m → rq_d a b lb i = 0) ∧ rq_d a b lb m = q)
theorem rq_bm0 (a c b : Nat → Fin 101) (hc : c 0 = 1 ∧ ∀ j, 0 < j → c j = 0) (hb : b 0 = 1 ∧ ∀ j, 0 < j → b j = 0) : rq_bm a c b 0 1 0 1 :=
  ⟨⟨hc.1, fun i _ h => absurd h (Nat.not_lt_zero i)⟩, Nat.le_refl 0, Nat.le_refl 1, hc.2, by decide, fun _ _ _ => Nat.zero_le _, Or.inl ⟨rfl, rfl, hb.1, hb.2⟩⟩
theorem rq_bmZ {a c b : Nat → Fin 101} {L s n : Nat} {q : Fin 101} (h : rq_bm a c b L s n q) (hd : rq_d a c L n = 0) : rq_bm a c b L (s + 1) (n + 1) q := by
  obtain ⟨hg, hL, hs, hc, hq, hm, ho⟩ := h
  refine ⟨⟨hg.1, fun i h1 h2 => ?_⟩, by omega, by omega, hc, hq, fun c' L' h' => hm c' L' ⟨h'.1, fun i h1 h2 => h'.2 i h1 (by omega)⟩, ?_⟩
  · by_cases e : i = n
    · rw [e]; exact hd
    · exact hg.2 i h1 (by omega)
  · rcases ho with ⟨h1, h2, h3, h4⟩ | ⟨m, lb, h1, h2, h3, h4, h5, h6⟩
    · refine Or.inl ⟨by omega, h2, h3, h4⟩
    · exact Or.inr ⟨m, lb, by omega, h2, h3, h4, h5, h6⟩
/-- c less t times b moved up by s -/
def rq_sub (c b : Nat → Fin 101) (t : Fin 101) (s : Nat) : Nat → Fin 101 := fun j => if s ≤ j then c j - t * b (j - s) else c j
theorem rq_d_ext {a c : Nat → Fin 101} {L L' i : Nat} (h : L ≤ L') (hc : ∀ j, L < j → c j = 0) : rq_d a c L' i = rq_d a c L i := by
  unfold rq_d
  refine rq_sm_ext (by omega) (fun j h1 _ => ?_)
  rw [hc j (by omega)]; grind
theorem rq_d_sub {a c b : Nat → Fin 101} {t : Fin 101} {s L lb i : Nat} (h : lb + s ≤ L) (hb : ∀ j, lb < j → b j = 0) : rq_d a (rq_sub c b t s) L i = rq_d a c L i - t * rq_d a b lb (i - s) := by
  have e1 : rq_d a (rq_sub c b t s) L i = rq_sm (fun j => c j * a (i - j) + (-t) * (if s ≤ j then b (j - s) * a (i - j) else 0)) (L + 1) := by
    unfold rq_d
    refine rq_sm_congr _ (fun j _ => ?_)
    unfold rq_sub
    split
    · grind
    · grind
  have e2 : rq_sm (fun j => if s ≤ j then b (j - s) * a (i - j) else 0) (L + 1) = rq_d a b lb (i - s) := by
    obtain ⟨p, hp⟩ := Nat.le.dest h
    rw [show L + 1 = s + (lb + p + 1) by omega, rq_sm_split]
    rw [rq_sm_zero s (fun j hj => if_neg (by omega))]
    have e3 : rq_sm (fun j => if s ≤ s + j then b (s + j - s) * a (i - (s + j)) else 0) (lb + p + 1) = rq_d a b (lb + p) (i - s) := by
      unfold rq_d
      refine rq_sm_congr _ (fun j _ => ?_)
      rw [if_pos (by omega), show s + j - s = j by omega, show i - (s + j) = i - s - j by omega]
    rw [e3, rq_d_ext (by omega) hb]; grind
  rw [e1, rq_sm_add, rq_sm_mul, e2]
  unfold rq_d
  grind
theorem rq_bmL {a c b : Nat → Fin 101} {L s n : Nat} {q : Fin 101} (h : rq_bm a c b L s n q) (hd : rq_d a c L n ≠ 0) {c' : Nat → Fin 101} {L' : Nat} (h' : rq_g a c' L' (n + 1)) : L ≤ L' ∧ n + 1 ≤ L + L' := by
  refine ⟨h.2.2.2.2.2.1 c' L' ⟨h'.1, fun i h1 h2 => h'.2 i h1 (by omega)⟩, ?_⟩
  by_cases e : L + L' ≤ n
  · exact absurd (rq_massey e h.1 h') hd
  · omega
/-- the new recurrence makes one term more -/
theorem rq_bmN {a c b : Nat → Fin 101} {L s n : Nat} {q t : Fin 101} (h : rq_bm a c b L s n q) (ht : t * q = rq_d a c L n) {N : Nat} (h1 : L ≤ N) (h2 : n + 1 ≤ L + N) : rq_g a (rq_sub c b t s) N (n + 1) ∧ (∀ j, N < j → rq_sub c b t s j = 0) := by
  obtain ⟨hg, hL, hs, hc, hq, hm, ho⟩ := h
  have h0 : rq_sub c b t s 0 = 1 := by unfold rq_sub; rw [if_neg (by omega)]; exact hg.1
  rcases ho with ⟨o1, o2, o3, o4⟩ | ⟨m, lb, o1, o2, o3, o4, o5, o6⟩
  · refine ⟨⟨h0, fun i i1 i2 => absurd i1 (by omega)⟩, fun j hj => ?_⟩
    unfold rq_sub
    rw [if_pos (by omega), hc j (by omega), o4 (j - s) (by omega)]; grind
  · refine ⟨⟨h0, fun i i1 i2 => ?_⟩, fun j hj => ?_⟩
    · rw [rq_d_sub (lb := lb) (by omega) o4, rq_d_ext h1 hc]
      by_cases e : i = n
      · rw [e, show n - s = m by omega, o6, ht]; grind
      · rw [hg.2 i (by omega) (by omega), o5 (i - s) (by omega) (by omega)]; grind
    · unfold rq_sub
      rw [if_pos (by omega), hc j (by omega), o4 (j - s) (by omega)]; grind
theorem rq_bmA {a c b : Nat → Fin 101} {L s n : Nat} {q t : Fin 101} (h : rq_bm a c b L s n q) (hd : rq_d a c L n ≠ 0) (ht : t * q = rq_d a c L n) (h2 : 2 * L ≤ n) : rq_bm a (rq_sub c b t s) c (n + 1 - L) 1 (n + 1) (rq_d a c L n) := by
  have hN := rq_bmN h ht (N := n + 1 - L) (by omega) (by omega)
  refine ⟨hN.1, by omega, by omega, hN.2, hd, fun c' L' h' => ?_, Or.inr ⟨n, L, rfl, by omega, by omega, h.2.2.2.1, h.1.2, rfl⟩⟩
  have := rq_bmL h hd h'
  omega
theorem rq_bmB {a c b : Nat → Fin 101} {L s n : Nat} {q t : Fin 101} (h : rq_bm a c b L s n q) (hd : rq_d a c L n ≠ 0) (ht : t * q = rq_d a c L n) (h2 : ¬ 2 * L ≤ n) : rq_bm a (rq_sub c b t s) b L (s + 1) (n + 1) q := by
  have hN := rq_bmN h ht (N := L) (by omega) (by omega)
  obtain ⟨hg, hL, hs, hc, hq, hm, ho⟩ := h
  refine ⟨hN.1, by omega, by omega, hN.2, hq, fun c' L' h' => hm c' L' ⟨h'.1, fun i h1 h2 => h'.2 i h1 (by omega)⟩, ?_⟩
  rcases ho with ⟨o1, o2, o3, o4⟩ | ⟨m, lb, o1, o2, o3, o4, o5, o6⟩
  · omega
  · exact Or.inr ⟨m, lb, by omega, o2, o3, o4, o5, o6⟩
/-- c of length L makes all of a -/
def rq_G (a c : Nat → Fin 101) (L : Nat) : Prop := c 0 = 1 ∧ ∀ i, L ≤ i → rq_d a c L i = 0
theorem rq_all {a c c' : Nat → Fin 101} {L L' N : Nat} (hg : rq_g a c L N) (hG : rq_G a c' L') (hN : L + L' ≤ N) : rq_G a c L := by
  have key : ∀ n, rq_g a c L (N + n) := by
    intro n
    induction n with
    | zero => exact hg
    | succ n ih =>
      refine ⟨hg.1, fun i h1 h2 => ?_⟩
      by_cases e : i = N + n
      · rw [e]; exact rq_massey (by omega) ih ⟨hG.1, fun j j1 _ => hG.2 j j1⟩
      · exact ih.2 i h1 (by omega)
  exact ⟨hg.1, fun i h1 => (key (i + 1)).2 i h1 (by omega)⟩
/-- L is the order of a -/
def rq_O (a : Nat → Fin 101) (L : Nat) : Prop := (∃ c, rq_G a c L) ∧ ∀ c' L', rq_G a c' L' → L ≤ L'
theorem rq_O1 {a : Nat → Fin 101} {L L' : Nat} (h : rq_O a L) (h' : rq_O a L') : L = L' := by
  obtain ⟨⟨c, hc⟩, hm⟩ := h
  obtain ⟨⟨c', hc'⟩, hm'⟩ := h'
  have h1 := hm c' L' hc'
  have h2 := hm' c L hc
  omega
/-- Berlekamp-Massey's end: over 32 terms of a sequence of order at most 16 it has found the order -/
theorem rq_end {a c b c' : Nat → Fin 101} {L s L' : Nat} {q : Fin 101} (h : rq_bm a c b L s 32 q) (hG : rq_G a c' L') (hL : L' ≤ 16) : rq_G a c L ∧ rq_O a L := by
  have h1 : L ≤ L' := h.2.2.2.2.2.1 c' L' ⟨hG.1, fun i i1 _ => hG.2 i i1⟩
  have h2 : rq_G a c L := rq_all h.1 hG (by omega)
  exact ⟨h2, ⟨c, h2⟩, fun c'' L'' h'' => h.2.2.2.2.2.1 c'' L'' ⟨h''.1, fun i i1 _ => h''.2 i i1⟩⟩
