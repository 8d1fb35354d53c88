-- find and copy
theorem rq_find (a : Nat → Fin 101) (w : Fin 101) : ∀ d i : Nat, i + d = 401 → ∃ r : Int32, (∀ (post : Int32 → Prop) (te od pr fa ol sv : Nat → Int32) (s : Nat), s < 4 → (∀ n, n < 401 → te (s * 401 + n) = rq_i (a n)) → post r → wX_find_17 post (nI s) (rq_i w) te od pr fa ol sv (d + 1) (nI i)) ∧ (∀ (post : Int32 → SY → Prop) (ye wk tb yf : Nat → Int32), (∀ n, n < 401 → wk n = rq_i (a n)) → post r (ye, wk, tb, yf) → wY_find_31 post (rq_i w) ye wk tb yf (d + 1) (nI i)) := by
  intro d
  induction d with
  | zero =>
    intro i hi
    obtain rfl : i = 401 := by omega
    exact ⟨-4, fun post te od pr fa ol sv s hs ha hp => br_t (nI_le (a := 401) (by omega) (by omega)) hp, fun post ye wk tb yf ha hp => br_t (nI_le (a := 401) (by omega) (by omega)) hp⟩
  | succ d ih =>
    intro i hi
    by_cases e : a i = w
    · refine ⟨nI i, fun post te od pr fa ol sv s hs ha hp => ?_, fun post ye wk tb yf ha hp => ?_⟩
      · have xa : nI s * 401 + nI i = nI (s * 401 + i) := rq_ix s 401 i
        refine br_f (nI_ge (b := 401) (by omega) (by decide)) ⟨pk_in (s * 401 + i) 1604 (by omega) xa, br_t ?_ hp⟩
        rw [rq_rd (a := te) (s * 401 + i) xa (by omega) (ha i (by omega)), e]
      · refine br_f (nI_ge (b := 401) (by omega) (by decide)) ⟨vp_in_nI (by omega) (by omega), br_t ?_ hp⟩
        rw [rq_rd (a := wk) i rfl (by omega) (ha i (by omega)), e]
    · obtain ⟨r, hX, hY⟩ := ih (i + 1) (by omega)
      refine ⟨r, fun post te od pr fa ol sv s hs ha hp => ?_, fun post ye wk tb yf ha hp => ?_⟩
      · have xa : nI s * 401 + nI i = nI (s * 401 + i) := rq_ix s 401 i
        refine br_f (nI_ge (b := 401) (by omega) (by decide)) ⟨pk_in (s * 401 + i) 1604 (by omega) xa, br_f (fun z => e ?_) (nm_r (nI_1 i) (hX post te od pr fa ol sv s hs ha hp))⟩
        rw [rq_rd (a := te) (s * 401 + i) xa (by omega) (ha i (by omega))] at z
        exact rq_i_inj z
      · refine br_f (nI_ge (b := 401) (by omega) (by decide)) ⟨vp_in_nI (by omega) (by omega), br_f (fun z => e ?_) (nm_r (nI_1 i) (hY post ye wk tb yf ha hp))⟩
        rw [rq_rd (a := wk) i rfl (by omega) (ha i (by omega))] at z
        exact rq_i_inj z
theorem i_vc_find {k : Nat} {u : SX} {v : SY} (I : i_Rel k u v) (hk : k + 5 ≤ 2560) (v1 : Int32) (v2 : Int32) : wpX_find (fun r => wpY_find (fun r' v' => r' = r ∧ i_Rel (k + 5) u v') v v1 v2) u v1 v2 := by
  obtain ⟨te, od, pr, fa, ol, sv⟩ := u
  obtain ⟨ye, wk, tb, yf⟩ := v
  obtain ⟨A, hA⟩ := I
  replace hA : rq_R A te od ye := hA
  unfold wpX_find wpY_find
  dsimp only
  rcases rq_seq v1 with ⟨bx, bad⟩ | ⟨s, hs, rfl, gx, gy⟩
  · exact bx _ (br_t rfl (bad _ _ (br_f (by decide) ⟨rfl, A, hA⟩)))
  · obtain ⟨⟨L, hL, hO, ho⟩, h1, h2⟩ := hA s hs
    obtain ⟨r, hX, hY⟩ := rq_find (A s) (rq_p v2.toInt) 401 0 rfl
    refine gx _ (br_f (by decide) (rq_red v2 ⟨402, hX _ te od pr fa ol sv s hs h1 ?_⟩))
    refine gy _ _ (br_t rfl (rq_mod v2 (ry_load hs h2 (fun wk2 hw => ?_))))
    refine ry_ext (last := 400) hL (by omega) hO hw (fun wk3 tb3 yf3 hh => ⟨402, ?_⟩)
    exact hY _ _ wk3 tb3 yf3 (fun n hn => hh n (by omega)) ⟨rfl, A, hA⟩
theorem rx_copy18 {post : Int32 → SX → Prop} {od pr fa ol sv : Nat → Int32} {a : Nat → Fin 101} {to s L : Nat} (ht : to < 4) (hs : s < 4) (ho : od s = nI L) : ∀ (d i : Nat) (te : Nat → Int32), i + d = 401 → (∀ n, n < 401 → te (s * 401 + n) = rq_i (a n)) → post (nI L) (rq_w te (to * 401 + i) (to * 401 + 401) (fun j => rq_i (a (j - to * 401))), upd od to (nI L), pr, fa, ol, sv) → wX_copy_18 post (nI to) (nI s) (d + 1) (nI i) te od pr fa ol sv := by
  intro d
  induction d with
  | zero =>
    intro i te hi ha hp
    obtain rfl : i = 401 := by omega
    rw [rq_w_end] at hp
    refine br_t (nI_le (a := 401) (by omega) (by omega)) ⟨vp_in_nI hs (by omega), vp_in_nI ht (by omega), nm_r (rq_up to rfl (by omega) (rq_rd s rfl (by omega) ho)) ⟨vp_in_nI ht (by omega), ?_⟩⟩
    rw [nI_clamp (by omega), pk_us]; exact hp
  | succ d ih =>
    intro i te hi ha hp
    have xa : nI s * 401 + nI i = nI (s * 401 + i) := rq_ix s 401 i
    have xb : nI to * 401 + nI i = nI (to * 401 + i) := rq_ix to 401 i
    refine br_f (nI_ge (b := 401) (by omega) (by decide)) ⟨pk_in (s * 401 + i) 1604 (by omega) xa, pk_in (to * 401 + i) 1604 (by omega) xb, nm_r (rq_up (to * 401 + i) xb (by omega) (rq_rd (s * 401 + i) xa (by omega) (ha i (by omega)))) (nm_r (nI_1 i) (ih (i + 1) _ (by omega) (fun n hn => ?_) ?_))⟩
    · by_cases e : s * 401 + n = to * 401 + i
      · have e2 : n = i := by omega
        rw [e, pk_us, e2]
      · rw [pk_un e]; exact ha n hn
    · rw [← Nat.add_assoc, rq_w_step (by omega) (by rw [Nat.add_sub_cancel_left])]; exact hp
theorem i_vc_copy {k : Nat} {u : SX} {v : SY} (I : i_Rel k u v) (hk : k + 5 ≤ 2560) (v1 : Int32) (v2 : Int32) : wpX_copy (fun r u' => wpY_copy (fun r' v' => r' = r ∧ i_Rel (k + 5) u' v') v v1 v2) u v1 v2 := by
  obtain ⟨te, od, pr, fa, ol, sv⟩ := u
  obtain ⟨ye, wk, tb, yf⟩ := v
  obtain ⟨A, hA⟩ := I
  replace hA : rq_R A te od ye := hA
  unfold wpX_copy wpY_copy
  dsimp only
  rcases rq_seq v1 with ⟨bx, bad⟩ | ⟨to, ht, rfl, gx, gy⟩
  · exact bx _ (br_t rfl (bad _ _ (br_f (by decide) ⟨rfl, A, hA⟩)))
  · refine gx _ (br_f (by decide) ?_)
    rcases rq_seq v2 with ⟨bx, bad⟩ | ⟨s, hs, rfl, hx, hy⟩
    · exact bx _ (br_t rfl (gy _ _ (br_t rfl (bad _ _ (br_f (by decide) ⟨rfl, A, hA⟩)))))
    · obtain ⟨⟨L, hL, hO, ho⟩, h1, h2⟩ := hA s hs
      refine hx _ (br_f (by decide) ⟨402, rx_copy18 ht hs ho 401 0 te rfl h1 ?_⟩)
      rw [Nat.add_zero]
      refine gy _ _ (br_t rfl (hy _ _ (br_t rfl (ry_load hs h2 (fun wk2 hw => ?_)))))
      have key := rq_put (s := to) hA hO hL
      exact ry_settle ht hO (by omega) hw (fun _ tb3 => ⟨rfl, _, key⟩) (fun h8 => absurd h8 (by omega))
