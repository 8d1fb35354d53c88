-- Pure part: what each call makes of a sequence follows a recurrence again.
/-- c cut off behind L -/
def rq_cut (c : Nat → Fin 101) (L : Nat) : Nat → Fin 101 := fun j => if j ≤ L then c j else 0
theorem rq_cutZ (c : Nat → Fin 101) (L j : Nat) (h : L < j) : rq_cut c L j = 0 := if_neg (by omega)
theorem rq_cutD (a c : Nat → Fin 101) (L i : Nat) : rq_d a (rq_cut c L) L i = rq_d a c L i := by
  unfold rq_d
  refine rq_sm_congr _ (fun j hj => ?_)
  unfold rq_cut
  rw [if_pos (by omega)]
theorem rq_cutG {a c : Nat → Fin 101} {L : Nat} (h : rq_G a c L) : rq_G a (rq_cut c L) L :=
  ⟨(if_pos (Nat.zero_le L)).trans h.1, fun i hi => (rq_cutD a c L i).trans (h.2 i hi)⟩
/-- every recurrence may be taken with nothing behind its length -/
theorem rq_Gz {a c : Nat → Fin 101} {L : Nat} (h : rq_G a c L) : ∃ c', rq_G a c' L ∧ ∀ j, L < j → c' j = 0 :=
  ⟨rq_cut c L, rq_cutG h, rq_cutZ c L⟩
theorem rq_G0 : rq_G (fun _ => 0) (fun j => if j = 0 then 1 else 0) 0 := by
  refine ⟨rfl, fun i _ => ?_⟩
  unfold rq_d
  exact rq_sm_zero _ (fun j _ => by grind)
theorem rq_d_add (a b c : Nat → Fin 101) (L i : Nat) : rq_d (fun n => a n + b n) c L i = rq_d a c L i + rq_d b c L i := by
  unfold rq_d
  rw [← rq_sm_add]
  exact rq_sm_congr _ (fun j _ => by grind)
theorem rq_d_mul (a c : Nat → Fin 101) (x : Fin 101) (L i : Nat) : rq_d (fun n => x * a n) c L i = x * rq_d a c L i := by
  unfold rq_d
  rw [← rq_sm_mul]
  exact rq_sm_congr _ (fun j _ => by grind)
theorem rq_d_sh {a b : Nat → Fin 101} {s L lb i : Nat} (h : lb + s ≤ L) (hb : ∀ j, lb < j → b j = 0) : rq_sm (fun j => if s ≤ j then b (j - s) * a (i - j) else 0) (L + 1) = rq_d a b lb (i - s) := by
  obtain ⟨p, hp⟩ := Nat.le.dest h
  rw [show L + 1 = s + (lb + p + 1) by omega, rq_sm_split]
  rw [rq_sm_zero s (fun j hj => if_neg (by omega))]
  have e3 : rq_sm (fun j => if s ≤ s + j then b (s + j - s) * a (i - (s + j)) else 0) (lb + p + 1) = rq_d a b (lb + p) (i - s) := by
    unfold rq_d
    refine rq_sm_congr _ (fun j _ => ?_)
    rw [if_pos (by omega), show s + j - s = j by omega, show i - (s + j) = i - s - j by omega]
  rw [e3, rq_d_ext (by omega) hb]; grind
/-- the product of two recurrences -/
def rq_conv (c c' : Nat → Fin 101) (L' : Nat) : Nat → Fin 101 := fun j => rq_sm (fun k => c' k * (if k ≤ j then c (j - k) else 0)) (L' + 1)
theorem rq_d_conv {a c c' : Nat → Fin 101} {L L' i : Nat} (hc : ∀ j, L < j → c j = 0) : rq_d a (rq_conv c c' L') (L + L') i = rq_sm (fun k => c' k * rq_d a c L (i - k)) (L' + 1) := by
  have e1 : rq_d a (rq_conv c c' L') (L + L') i = rq_sm (fun j => rq_sm (fun k => c' k * (if k ≤ j then c (j - k) * a (i - j) else 0)) (L' + 1)) (L + L' + 1) := by
    unfold rq_d
    refine rq_sm_congr _ (fun j _ => ?_)
    unfold rq_conv
    rw [show ∀ x y : Fin 101, x * y = y * x by grind, ← rq_sm_mul]
    refine rq_sm_congr _ (fun k _ => ?_)
    split
    · grind
    · grind
  rw [e1, rq_sm_swap]
  refine rq_sm_congr _ (fun k hk => ?_)
  rw [rq_sm_mul, rq_d_sh (by omega) hc]
theorem rq_Gadd {a b c c' : Nat → Fin 101} {L L' : Nat} (h : rq_G a c L) (h' : rq_G b c' L') : ∃ e, rq_G (fun n => a n + b n) e (L + L') := by
  obtain ⟨c, h, hz⟩ := rq_Gz h
  refine ⟨rq_conv c c' L', ?_, fun i hi => ?_⟩
  · unfold rq_conv
    rw [rq_sm_front, rq_sm_zero L' (fun k _ => by rw [if_neg (by omega)]; grind), if_pos (Nat.le_refl 0), h'.1, Nat.sub_zero, h.1]
    decide
  · rw [rq_d_add, rq_d_conv hz, rq_d_conv hz]
    rw [rq_sm_zero (f := fun k => c' k * rq_d a c L (i - k)) (L' + 1) (fun k hk => by rw [h.2 (i - k) (by omega)]; grind)]
    have e : rq_sm (fun k => c' k * rq_d b c L (i - k)) (L' + 1) = rq_sm (fun k => rq_sm (fun j => c j * (c' k * b (i - j - k))) (L + 1)) (L' + 1) := by
      refine rq_sm_congr _ (fun k _ => ?_)
      unfold rq_d
      rw [← rq_sm_mul]
      refine rq_sm_congr _ (fun j _ => ?_)
      rw [show i - j - k = i - k - j by omega]; grind
    rw [e, rq_sm_swap (fun k j => c j * (c' k * b (i - j - k)))]
    rw [rq_sm_zero (L + 1) (fun j hj => by
      rw [rq_sm_mul]
      have hh := h'.2 (i - j) (by omega)
      unfold rq_d at hh
      rw [hh]; grind)]
    decide
theorem rq_Gmul {a c : Nat → Fin 101} {L : Nat} (x : Fin 101) (h : rq_G a c L) : rq_G (fun n => x * a n) c L :=
  ⟨h.1, fun i hi => by rw [rq_d_mul, h.2 i hi]; grind⟩
theorem rq_Gadv {a c : Nat → Fin 101} {L : Nat} (h : rq_G a c L) : rq_G (fun n => a (n + 1)) c L := by
  refine ⟨h.1, fun i hi => ?_⟩
  have hh := h.2 (i + 1) (by omega)
  unfold rq_d at hh ⊢
  rw [← hh]
  refine rq_sm_congr _ (fun j hj => ?_)
  dsimp only
  rw [show i - j + 1 = i + 1 - j by omega]
theorem rq_Gpre {a c : Nat → Fin 101} {L : Nat} (x : Fin 101) (h : rq_G a c L) : ∃ e, rq_G (fun n => if n = 0 then x else a (n - 1)) e (L + 1) := by
  obtain ⟨c, h, hz⟩ := rq_Gz h
  refine ⟨c, h.1, fun i hi => ?_⟩
  rw [rq_d_ext (Nat.le_succ L) hz]
  have hh := h.2 (i - 1) (by omega)
  unfold rq_d at hh ⊢
  rw [← hh]
  refine rq_sm_congr _ (fun j hj => ?_)
  dsimp only
  rw [if_neg (by omega), show i - j - 1 = i - 1 - j by omega]
/-- a term less the one ahead of it -/
def rq_df (a : Nat → Fin 101) : Nat → Fin 101 := fun n => if n = 0 then a 0 else a n - a (n - 1)
theorem rq_d_df {a c : Nat → Fin 101} {L i : Nat} (hi : L + 1 ≤ i) : rq_d (rq_df a) c L i = rq_d a c L i - rq_d a c L (i - 1) := by
  have e : rq_d (rq_df a) c L i = rq_sm (fun j => c j * a (i - j) + (-1) * (c j * a (i - 1 - j))) (L + 1) := by
    unfold rq_d
    refine rq_sm_congr _ (fun j hj => ?_)
    unfold rq_df
    rw [if_neg (by omega), show i - j - 1 = i - 1 - j by omega]; grind
  rw [e, rq_sm_add, rq_sm_mul]
  unfold rq_d
  grind
theorem rq_Gdif {a c : Nat → Fin 101} {L : Nat} (h : rq_G a c L) : ∃ e, rq_G (rq_df a) e (L + 1) := by
  obtain ⟨c, h, hz⟩ := rq_Gz h
  refine ⟨c, h.1, fun i hi => ?_⟩
  rw [rq_d_ext (Nat.le_succ L) hz, rq_d_df hi, h.2 i (by omega), h.2 (i - 1) (by omega)]; grind
/-- the sums up to and with n -/
def rq_ac (a : Nat → Fin 101) : Nat → Fin 101 := fun n => rq_sm a (n + 1)
theorem rq_acdf (a : Nat → Fin 101) : rq_df (rq_ac a) = a := by
  funext n
  unfold rq_df rq_ac
  cases n with
  | zero => rw [if_pos rfl, rq_sm, rq_sm]; grind
  | succ n => rw [if_neg (by omega), Nat.add_sub_cancel, rq_sm]; grind
theorem rq_Gacc {a c : Nat → Fin 101} {L : Nat} (h : rq_G a c L) : ∃ e, rq_G (rq_ac a) e (L + 1) := by
  obtain ⟨c, h, hz⟩ := rq_Gz h
  refine ⟨rq_sub c c 1 1, ?_, fun i hi => ?_⟩
  · unfold rq_sub
    rw [if_neg (by omega)]; exact h.1
  · rw [rq_d_sub (lb := L) (by omega) hz, rq_d_ext (Nat.le_succ L) hz]
    have e := rq_d_df (a := rq_ac a) (c := c) hi
    rw [rq_acdf, h.2 i (by omega)] at e
    grind
/-- what begins with zeros and follows a recurrence is all zeros -/
theorem rq_zeros {a c : Nat → Fin 101} {L : Nat} (h : rq_G a c L) (hz : ∀ i, i < L → a i = 0) : ∀ n i, i < n → a i = 0 := by
  intro n
  induction n with
  | zero => intro i hi; omega
  | succ n ih =>
    intro i hi
    by_cases e : i < L
    · exact hz i e
    · have hh := h.2 i (by omega)
      unfold rq_d at hh
      rw [rq_sm_front, rq_sm_zero L (fun j hj => by rw [ih (i - (j + 1)) (by omega)]; grind), h.1, Nat.sub_zero] at hh
      grind
theorem rq_same {a b c c' : Nat → Fin 101} {L L' : Nat} (h : rq_G a c L) (h' : rq_G b c' L') (he : ∀ i, i < L + L' → a i = b i) : a = b := by
  obtain ⟨e, hG⟩ := rq_Gadd h (rq_Gmul (-1) h')
  funext n
  have hh := rq_zeros hG (fun i hi => by rw [he i hi]; grind) (n + 1) n (by omega)
  grind
/-- a recurrence makes a sequence out of any beginning: the table of its terms below n -/
def rq_tab (k : Nat) (f b : Nat → Fin 101) : Nat → Nat → Fin 101
  | 0 => fun _ => 0
  | n + 1 => fun i => if i < n then rq_tab k f b n i else if n < k then b n else - rq_sm (fun j => f (j + 1) * rq_tab k f b n (n - (j + 1))) k
def rq_mk (k : Nat) (f b : Nat → Fin 101) (n : Nat) : Fin 101 := rq_tab k f b (n + 1) n
theorem rq_tabE (k : Nat) (f b : Nat → Fin 101) : ∀ n i, i < n → rq_tab k f b n i = rq_mk k f b i := by
  intro n
  induction n with
  | zero => intro i hi; omega
  | succ n ih =>
    intro i hi
    by_cases e : i = n
    · rw [e]; rfl
    · rw [rq_tab]; dsimp only; rw [if_pos (by omega : i < n)]; exact ih i (by omega)
theorem rq_mkB {k : Nat} {f b : Nat → Fin 101} {n : Nat} (h : n < k) : rq_mk k f b n = b n := by
  unfold rq_mk
  rw [rq_tab]; dsimp only; rw [if_neg (by omega : ¬ n < n), if_pos h]
theorem rq_mkR {k : Nat} {f b : Nat → Fin 101} {n : Nat} (h : k ≤ n) : rq_mk k f b n = - rq_sm (fun j => f (j + 1) * rq_mk k f b (n - (j + 1))) k := by
  rw [show rq_mk k f b n = rq_tab k f b (n + 1) n from rfl, rq_tab]
  dsimp only
  rw [if_neg (by omega : ¬ n < n), if_neg (by omega : ¬ n < k)]
  rw [rq_sm_congr k (fun j hj => by rw [rq_tabE k f b n (n - (j + 1)) (by omega)])]
theorem rq_mkG {k : Nat} {f b : Nat → Fin 101} (hf : f 0 = 1) : rq_G (rq_mk k f b) f k := by
  refine ⟨hf, fun i hi => ?_⟩
  unfold rq_d
  rw [rq_sm_front, hf, Nat.sub_zero, rq_mkR hi]; grind
/-- what a recurrence says of the next term -/
theorem rq_next {a c : Nat → Fin 101} {L n : Nat} (h : rq_G a c L) (hn : L ≤ n) : a n = - rq_sm (fun j => c (j + 1) * a (n - (j + 1))) L := by
  have hh := h.2 n hn
  unfold rq_d at hh
  rw [rq_sm_front, h.1, Nat.sub_zero] at hh
  grind
