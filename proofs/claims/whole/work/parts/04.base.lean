-- The small methods of both sides
theorem rq_red {post : Int32 → Prop} (x : Int32) (h : post (rq_i (rq_p x.toInt))) : wpX_reduce post x := by
  have e := rem_toInt x 101
  rw [rq_101] at e
  have t := tmod_bounds (a := x.toInt) (M := 101) (by decide)
  obtain ⟨k, hk⟩ := rq_tm x.toInt
  refine ⟨rq_ne, fun y ey => ⟨fun h0 => ?_, fun h0 => ?_⟩⟩
  · rw [Int32.le_iff_toInt_le, Int32.toInt_zero] at h0
    rw [ey] at h0
    rw [ey, rq_p_i (z := x.toInt) h0 (by rw [e]; exact t.2) (rq_p_mod _ _ ⟨k, by rw [e]; exact hk⟩)]
    exact h
  · rw [Int32.le_iff_toInt_le, Int32.toInt_zero] at h0
    rw [ey] at h0
    have e2 : (y + 101).toInt = (x - x / 101 * 101).toInt + 101 := by
      rw [ey, Int32.toInt_add, rq_101]; exact Int.bmod_eq_of_le (by omega) (by omega)
    rw [rq_p_i (x := y + 101) (z := x.toInt) (by omega) (by omega) (rq_p_mod _ _ ⟨k + 1, by omega⟩)]
    exact h
theorem rq_redB {post : Int32 → Prop} {x : Int32} {z : Fin 101} {M : Nat} (hb : rq_b x z M) (h : post (rq_i z)) : wpX_reduce post x := by
  refine rq_red x ?_
  rw [hb.2.2]; exact h
theorem rq_mod {post : Int32 → Prop} {u : SY} (x : Int32) (h : post (rq_i (rq_p x.toInt))) : wpY_mod post u x := rq_red x h
theorem rq_modB {post : Int32 → Prop} {u : SY} {x : Int32} {z : Fin 101} {M : Nat} (hb : rq_b x z M) (h : post (rq_i z)) : wpY_mod post u x := rq_redB hb h
theorem rq_ix (s w n : Nat) : nI s * nI w + nI n = nI (s * w + n) := by rw [pk_mul, nI_add]
/-- a s seen at an index that is nI of a number -/
theorem rq_rd {a : Nat → Int32} {x : Int32} {v : Int32} (k : Nat) (hx : x = nI k) (hk : k < 2 ^ 31) (hv : a k = v) : a x.toNatClampNeg = v := by
  rw [hx, nI_clamp hk]; exact hv
theorem rq_up {a : Nat → Int32} {x v w : Int32} (k : Nat) (hx : x = nI k) (hk : k < 2 ^ 31) (hv : v = w) : upd a x.toNatClampNeg v = upd a k w := by
  rw [hx, nI_clamp hk, hv]
/-- a with g written from lo on, below hi -/
def rq_w (a : Nat → Int32) (lo hi : Nat) (g : Nat → Int32) : Nat → Int32 := fun j => if lo ≤ j ∧ j < hi then g j else a j
theorem rq_w_end (a : Nat → Int32) (hi : Nat) (g : Nat → Int32) : rq_w a hi hi g = a := by
  funext j
  exact if_neg (by omega)
theorem rq_w_step {a : Nat → Int32} {lo hi : Nat} {g : Nat → Int32} {v : Int32} (h : lo < hi) (hv : v = g lo) : rq_w (upd a lo v) (lo + 1) hi g = rq_w a lo hi g := by
  funext j
  unfold rq_w upd
  by_cases e : j = lo
  · subst e
    rw [if_neg (by omega), if_pos rfl, if_pos (by omega)]; exact hv
  · rw [if_neg e]
    by_cases q : lo ≤ j ∧ j < hi
    · rw [if_pos (by omega), if_pos q]
    · rw [if_neg (by omega), if_neg q]
theorem rq_w_in {a : Nat → Int32} {lo hi : Nat} {g : Nat → Int32} {j : Nat} (h : lo ≤ j) (h2 : j < hi) : rq_w a lo hi g j = g j := if_pos ⟨h, h2⟩
theorem rq_w_out {a : Nat → Int32} {lo hi : Nat} {g : Nat → Int32} {j : Nat} (h : j < lo ∨ hi ≤ j) : rq_w a lo hi g j = a j := if_neg (by omega)
/-- a number is a sequence, or isn't, for both sides -/
theorem rq_seq (x : Int32) : ((∀ post : Int32 → Prop, post 0 → wpX_isSequence post x) ∧ (∀ (post : Int32 → Prop) (u : SY), post 1 → wpY_bad post u x)) ∨ (∃ s : Nat, s < 4 ∧ x = nI s ∧ (∀ post : Int32 → Prop, post 1 → wpX_isSequence post x) ∧ (∀ (post : Int32 → Prop) (u : SY), post 0 → wpY_bad post u x)) := by
  rcases pk_ix x (n := 4) (by decide) with h | h | ⟨s, hs, rfl⟩
  · exact Or.inl ⟨fun post hp => br_t h hp, fun post u hp => br_t h hp⟩
  · have h0 : ¬ x < 0 := by
      rw [Int32.le_iff_toInt_le] at h
      rw [Int32.lt_iff_toInt_lt, Int32.toInt_zero]
      have : (nI 4).toInt = 4 := by decide
      omega
    have h3 : ¬ x ≤ 3 := by
      rw [Int32.le_iff_toInt_le] at h ⊢
      have e4 : (nI 4).toInt = 4 := by decide
      have e3 : (3 : Int32).toInt = 3 := by decide
      omega
    exact Or.inl ⟨fun post hp => br_f h0 (br_t h hp), fun post u hp => br_f h0 (br_f h3 hp)⟩
  · have h0 : ¬ nI s < 0 := nI_pos (by omega)
    exact Or.inr ⟨s, hs, rfl, fun post hp => br_f h0 (br_f (nI_ge (b := 4) hs (by decide)) hp), fun post u hp => br_f h0 (br_t (nI_le (b := 3) (by omega) (by decide)) hp)⟩
theorem rq_idx (x : Int32) : ((∀ post : Int32 → Prop, post 0 → wpX_isIndex post x) ∧ (∀ (post : Int32 → Prop) (u : SY), post 1 → wpY_badIndex post u x)) ∨ (∃ s : Nat, s < 401 ∧ x = nI s ∧ (∀ post : Int32 → Prop, post 1 → wpX_isIndex post x) ∧ (∀ (post : Int32 → Prop) (u : SY), post 0 → wpY_badIndex post u x)) := by
  rcases pk_ix x (n := 401) (by decide) with h | h | ⟨s, hs, rfl⟩
  · exact Or.inl ⟨fun post hp => br_t h hp, fun post u hp => br_t h hp⟩
  · have h0 : ¬ x < 0 := by
      rw [Int32.le_iff_toInt_le] at h
      rw [Int32.lt_iff_toInt_lt, Int32.toInt_zero]
      have : (nI 401).toInt = 401 := by decide
      omega
    have h3 : ¬ x ≤ 400 := by
      rw [Int32.le_iff_toInt_le] at h ⊢
      have e4 : (nI 401).toInt = 401 := by decide
      have e3 : (400 : Int32).toInt = 400 := by decide
      omega
    exact Or.inl ⟨fun post hp => br_f h0 (br_t h hp), fun post u hp => br_f h0 (br_f h3 hp)⟩
  · have h0 : ¬ nI s < 0 := nI_pos (by omega)
    exact Or.inr ⟨s, hs, rfl, fun post hp => br_f h0 (br_f (nI_ge (b := 401) hs (by decide)) hp), fun post u hp => br_f h0 (br_t (nI_le (b := 400) (by omega) (by decide)) hp)⟩
