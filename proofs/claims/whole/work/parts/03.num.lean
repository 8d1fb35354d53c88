-- Numbers: Int and Int32 against Fin 101.
def rq_p (z : Int) : Fin 101 := ⟨(z % 101).toNat, by omega⟩
theorem rq_p_add (x y : Int) : rq_p (x + y) = rq_p x + rq_p y := by
  apply Fin.ext
  show ((x + y) % 101).toNat = ((x % 101).toNat + (y % 101).toNat) % 101
  omega
theorem rq_p_mul (x y : Int) : rq_p (x * y) = rq_p x * rq_p y := by
  apply Fin.ext
  show ((x * y) % 101).toNat = ((x % 101).toNat * (y % 101).toNat) % 101
  rw [Int.mul_emod]
  obtain ⟨a, ha⟩ := Int.eq_ofNat_of_zero_le (Int.emod_nonneg x (by decide : (101 : Int) ≠ 0))
  obtain ⟨b, hb⟩ := Int.eq_ofNat_of_zero_le (Int.emod_nonneg y (by decide : (101 : Int) ≠ 0))
  rw [ha, hb]
  have : ((a : Int) * (b : Int)) % 101 = (((a * b) % 101 : Nat) : Int) := by
    rw [← Int.natCast_mul]; omega
  rw [this]
  simp only [Int.toNat_natCast]
theorem rq_p_neg (x : Int) : rq_p (-x) = - rq_p x := by
  have h := rq_p_add (-x) x
  rw [Int.add_left_neg] at h
  have z : rq_p 0 = 0 := by decide
  rw [z] at h
  grind
theorem rq_p_sub (x y : Int) : rq_p (x - y) = rq_p x - rq_p y := by
  rw [Int.sub_eq_add_neg, rq_p_add, rq_p_neg]; grind
theorem rq_p_val (x : Fin 101) : rq_p (x.val : Int) = x := by
  apply Fin.ext
  show (((x.val : Int)) % 101).toNat = x.val
  have := x.isLt
  omega
/-- a number from 0 to 100 as the class keeps it -/
def rq_i (x : Fin 101) : Int32 := nI x.val
theorem rq_i_toInt (x : Fin 101) : (rq_i x).toInt = (x.val : Int) := nI_toInt (by have := x.isLt; omega)
theorem rq_i_inj {x y : Fin 101} (h : rq_i x = rq_i y) : x = y := by
  have hh := congrArg Int32.toInt h
  rw [rq_i_toInt, rq_i_toInt] at hh
  apply Fin.ext
  omega
/-- every number but 0 has an inverse: its power 99 -/
def rq_pow (x : Fin 101) : Nat → Fin 101
  | 0 => 1
  | n + 1 => rq_pow x n * x
theorem rq_inv : ∀ x : Fin 101, x ≠ 0 → rq_pow x 99 * x = 1 := by decide +kernel
theorem rq_i_0 : rq_i 0 = 0 := by decide +kernel
theorem rq_i_1 : rq_i 1 = 1 := by decide +kernel
theorem rq_i_eq0 {x : Fin 101} : rq_i x = 0 ↔ x = 0 := ⟨fun h => rq_i_inj (h.trans rq_i_0.symm), fun h => by rw [h, rq_i_0]⟩
theorem rq_i_eq {x y : Fin 101} : rq_i x = rq_i y ↔ x = y := ⟨rq_i_inj, fun h => by rw [h]⟩
/-- an int of at most M that is z modulo 101 -/
def rq_b (x : Int32) (z : Fin 101) (M : Nat) : Prop := -(M : Int) ≤ x.toInt ∧ x.toInt ≤ (M : Int) ∧ rq_p x.toInt = z
def rq_n (x : Int32) (z : Fin 101) (M : Nat) : Prop := 0 ≤ x.toInt ∧ x.toInt ≤ (M : Int) ∧ rq_p x.toInt = z
theorem rq_n_i (x : Fin 101) : rq_n (rq_i x) x 100 := by
  have h := x.isLt
  refine ⟨?_, ?_, ?_⟩
  · rw [rq_i_toInt]; omega
  · rw [rq_i_toInt]; omega
  · rw [rq_i_toInt]; exact rq_p_val x
theorem rq_n_b {x : Int32} {z : Fin 101} {M : Nat} (h : rq_n x z M) : rq_b x z M := ⟨by have := h.1; omega, h.2.1, h.2.2⟩
theorem rq_b_i (x : Fin 101) : rq_b (rq_i x) x 100 := rq_n_b (rq_n_i x)
theorem rq_b_le {x : Int32} {z : Fin 101} {M K : Nat} (h : rq_b x z M) (hk : M ≤ K) : rq_b x z K := ⟨by have := h.1; omega, by have := h.2.1; omega, h.2.2⟩
theorem rq_n_le {x : Int32} {z : Fin 101} {M K : Nat} (h : rq_n x z M) (hk : M ≤ K) : rq_n x z K := ⟨h.1, by have := h.2.1; omega, h.2.2⟩
theorem rq_bm_add {a b : Int} (h1 : -2147483648 ≤ a + b) (h2 : a + b < 2147483648) : (a + b).bmod (2 ^ 32) = a + b := Int.bmod_eq_of_le (by omega) (by omega)
theorem rq_b_add {x y : Int32} {z w : Fin 101} {M K : Nat} (h : rq_b x z M) (h' : rq_b y w K) (hm : M + K < 2147483648) : rq_b (x + y) (z + w) (M + K) := by
  obtain ⟨a1, a2, a3⟩ := h
  obtain ⟨b1, b2, b3⟩ := h'
  have e : (x + y).toInt = x.toInt + y.toInt := by
    rw [Int32.toInt_add]; exact Int.bmod_eq_of_le (by omega) (by omega)
  refine ⟨by omega, by omega, ?_⟩
  rw [e, rq_p_add, a3, b3]
theorem rq_n_add {x y : Int32} {z w : Fin 101} {M K : Nat} (h : rq_n x z M) (h' : rq_n y w K) (hm : M + K < 2147483648) : rq_n (x + y) (z + w) (M + K) := by
  obtain ⟨a1, a2, a3⟩ := h
  obtain ⟨b1, b2, b3⟩ := h'
  have e : (x + y).toInt = x.toInt + y.toInt := by
    rw [Int32.toInt_add]; exact Int.bmod_eq_of_le (by omega) (by omega)
  refine ⟨by omega, by omega, ?_⟩
  rw [e, rq_p_add, a3, b3]
theorem rq_b_neg {x : Int32} {z : Fin 101} {M : Nat} (h : rq_b x z M) (hm : M < 2147483648) : rq_b (-x) (-z) M := by
  obtain ⟨a1, a2, a3⟩ := h
  have e : (-x).toInt = -x.toInt := by
    rw [Int32.toInt_neg]; exact Int.bmod_eq_of_le (by omega) (by omega)
  refine ⟨by omega, by omega, ?_⟩
  rw [e, rq_p_neg, a3]
theorem rq_b_sub {x y : Int32} {z w : Fin 101} {M K : Nat} (h : rq_b x z M) (h' : rq_b y w K) (hm : M + K < 2147483648) : rq_b (x - y) (z - w) (M + K) := by
  obtain ⟨a1, a2, a3⟩ := h
  obtain ⟨b1, b2, b3⟩ := h'
  have e : (x - y).toInt = x.toInt - y.toInt := by
    rw [Int32.toInt_sub]; exact Int.bmod_eq_of_le (by omega) (by omega)
  refine ⟨by omega, by omega, ?_⟩
  rw [e, rq_p_sub, a3, b3]
theorem rq_n_mul {x y : Int32} {z w : Fin 101} {M K : Nat} (h : rq_n x z M) (h' : rq_n y w K) (hm : M * K < 2147483648) : rq_n (x * y) (z * w) (M * K) := by
  obtain ⟨a1, a2, a3⟩ := h
  obtain ⟨b1, b2, b3⟩ := h'
  have p0 : 0 ≤ x.toInt * y.toInt := Int.mul_nonneg a1 b1
  have p1 : x.toInt * y.toInt ≤ (M : Int) * (K : Int) := Int.mul_le_mul a2 b2 b1 (by omega)
  have p2 : (M : Int) * (K : Int) = ((M * K : Nat) : Int) := (Int.natCast_mul M K).symm
  have e : (x * y).toInt = x.toInt * y.toInt := by
    rw [Int32.toInt_mul]; exact Int.bmod_eq_of_le (by omega) (by omega)
  refine ⟨by omega, by omega, ?_⟩
  rw [e, rq_p_mul, a3, b3]
theorem rq_101 : (101 : Int32).toInt = 101 := by decide
theorem rq_ne : ¬ (101 : Int32) = 0 := by decide
theorem rq_p_mod (z w : Int) (h : ∃ k : Int, z = w + 101 * k) : rq_p z = rq_p w := by
  obtain ⟨k, rfl⟩ := h
  apply Fin.ext
  show ((w + 101 * k) % 101).toNat = (w % 101).toNat
  omega
theorem rq_p_i {x : Int32} {z : Int} (h0 : 0 ≤ x.toInt) (h1 : x.toInt < 101) (h : rq_p x.toInt = rq_p z) : x = rq_i (rq_p z) := by
  apply Int32.toInt_inj.mp
  rw [rq_i_toInt, ← h]
  show x.toInt = (((x.toInt % 101).toNat : Nat) : Int)
  omega
theorem rq_tm (z : Int) : ∃ k : Int, z.tmod 101 = z + 101 * k := ⟨-(z.tdiv 101), by have := Int.tmod_add_mul_tdiv z 101; omega⟩
/-- the remainder of a number that isn't negative -/
theorem rq_rem {x : Int32} {z : Fin 101} {M : Nat} (h : rq_n x z M) : x - x / 101 * 101 = rq_i z := by
  obtain ⟨a1, a2, rfl⟩ := h
  have e := rem_toInt x 101
  rw [rq_101] at e
  have t := tmod_bounds (a := x.toInt) (M := 101) (by decide)
  have n := Int.tmod_nonneg 101 a1
  exact rq_p_i (by rw [e]; exact n) (by rw [e]; exact t.2) (rq_p_mod _ _ (by rw [e]; exact rq_tm x.toInt))
theorem rq_n_0 (M : Nat) : rq_n 0 0 M := ⟨by decide, by rw [Int32.toInt_zero]; omega, by decide⟩
