-- The six calls that change a sequence
theorem i_vc_add {k : Nat} {u : SX} {v : SY} (I : i_Rel k u v) (hk : k + 5 ≤ 2560) (v1 : Int32) (v2 : Int32) (v3 : Int32) : wpX_add (fun r u' => wpY_add (fun r' v' => r' = r ∧ i_Rel (k + 5) u' v') v v1 v2 v3) u v1 v2 v3 := by
  obtain ⟨te, od, pr, fa, ol, sv⟩ := u
  obtain ⟨ye, wk, tb, yf⟩ := v
  obtain ⟨A, hA⟩ := I
  replace hA : rq_R A te od ye := hA
  rcases rq_seq v1 with ⟨bx, bad⟩ | ⟨to, hto, rfl, gx, gy⟩
  · unfold wpX_add wpY_add
    dsimp only
    exact bx _ (br_t rfl (bad _ _ (br_f (by decide) ⟨rfl, A, hA⟩)))
  rcases rq_seq v2 with ⟨bx, bad⟩ | ⟨s, hs, rfl, hx, hy⟩
  · unfold wpX_add wpY_add
    dsimp only
    exact gx _ (br_f (by decide) (bx _ (br_t rfl (gy _ _ (br_t rfl (bad _ _ (br_f (by decide) ⟨rfl, A, hA⟩)))))))
  rcases rq_seq v3 with ⟨bx, bad⟩ | ⟨t, ht, rfl, ix, iy⟩
  · unfold wpX_add wpY_add
    dsimp only
    exact gx _ (br_f (by decide) (hx _ (br_f (by decide) (bx _ (br_t rfl (gy _ _ (br_t rfl (hy _ _ (br_t rfl (bad _ _ (br_f (by decide) ⟨rfl, A, hA⟩)))))))))))
  obtain ⟨⟨L1, hL1, hO1, ho1⟩, a1, a2⟩ := hA s hs
  obtain ⟨⟨L2, hL2, hO2, ho2⟩, b1, b2⟩ := hA t ht
  obtain ⟨c1, hG1⟩ := hO1.1
  obtain ⟨c2, hG2⟩ := hO2.1
  obtain ⟨c3, hG⟩ := rq_Gadd hG1 hG2
  refine rq_join (s := to) hA hG (by omega) (fun post => wpX_add post (te, od, pr, fa, ol, sv) (nI to) (nI s) (nI t)) (fun post => wpY_add post (ye, wk, tb, yf) (nI to) (nI s) (nI t)) (fun post h => ?_) (fun post L hO hL h => ?_)
  · unfold wpX_add
    dsimp only
    exact gx _ (br_f (by decide) (hx _ (br_f (by decide) (ix _ (br_f (by decide) ⟨33, rx_add26 hto hs ht a1 b1 hG (by omega) h 32 0 pr rfl (fun j hj => absurd hj (Nat.not_lt_zero j))⟩)))))
  · unfold wpY_add
    dsimp only
    exact gy _ _ (br_t rfl (hy _ _ (br_t rfl (iy _ _ (br_t rfl ⟨33, ry_add29 hto hs ht a2 b2 hO hL h 32 0 wk rfl (fun j hj => absurd hj (Nat.not_lt_zero j))⟩)))))
theorem i_vc_scale {k : Nat} {u : SX} {v : SY} (I : i_Rel k u v) (hk : k + 5 ≤ 2560) (v1 : Int32) (v2 : Int32) : wpX_scale (fun r u' => wpY_scale (fun r' v' => r' = r ∧ i_Rel (k + 5) u' v') v v1 v2) u v1 v2 := by
  obtain ⟨te, od, pr, fa, ol, sv⟩ := u
  obtain ⟨ye, wk, tb, yf⟩ := v
  obtain ⟨A, hA⟩ := I
  replace hA : rq_R A te od ye := hA
  rcases rq_seq v1 with ⟨bx, bad⟩ | ⟨s, hs, rfl, gx, gy⟩
  · unfold wpX_scale wpY_scale
    dsimp only
    exact bx _ (br_t rfl (bad _ _ (br_f (by decide) ⟨rfl, A, hA⟩)))
  obtain ⟨⟨L1, hL1, hO1, ho1⟩, a1, a2⟩ := hA s hs
  obtain ⟨c1, hG1⟩ := hO1.1
  refine rq_join (s := s) hA (rq_Gmul (rq_p v2.toInt) hG1) (by omega) (fun post => wpX_scale post (te, od, pr, fa, ol, sv) (nI s) v2) (fun post => wpY_scale post (ye, wk, tb, yf) (nI s) v2) (fun post h => ?_) (fun post L hO hL h => ?_)
  · unfold wpX_scale
    dsimp only
    exact gx _ (br_f (by decide) (rq_red v2 ⟨33, rx_scale17 hs a1 (rq_Gmul (rq_p v2.toInt) hG1) (by omega) h 32 0 pr rfl (fun j hj => absurd hj (Nat.not_lt_zero j))⟩))
  · unfold wpY_scale
    dsimp only
    exact gy _ _ (br_t rfl (rq_mod v2 ⟨33, ry_scale19 hs a2 hO hL h 32 0 wk rfl (fun j hj => absurd hj (Nat.not_lt_zero j))⟩))
theorem i_vc_advance {k : Nat} {u : SX} {v : SY} (I : i_Rel k u v) (hk : k + 5 ≤ 2560) (v1 : Int32) : wpX_advance (fun r u' => wpY_advance (fun r' v' => r' = r ∧ i_Rel (k + 5) u' v') v v1) u v1 := by
  obtain ⟨te, od, pr, fa, ol, sv⟩ := u
  obtain ⟨ye, wk, tb, yf⟩ := v
  obtain ⟨A, hA⟩ := I
  replace hA : rq_R A te od ye := hA
  rcases rq_seq v1 with ⟨bx, bad⟩ | ⟨s, hs, rfl, gx, gy⟩
  · unfold wpX_advance wpY_advance
    dsimp only
    exact bx _ (br_t rfl (bad _ _ (br_f (by decide) ⟨rfl, A, hA⟩)))
  obtain ⟨⟨L1, hL1, hO1, ho1⟩, a1, a2⟩ := hA s hs
  obtain ⟨c1, hG1⟩ := hO1.1
  refine rq_join (s := s) hA (rq_Gadv hG1) (by omega) (fun post => wpX_advance post (te, od, pr, fa, ol, sv) (nI s)) (fun post => wpY_advance post (ye, wk, tb, yf) (nI s)) (fun post h => ?_) (fun post L hO hL h => ?_)
  · unfold wpX_advance
    dsimp only
    exact gx _ (br_f (by decide) ⟨33, rx_adv11 hs a1 (rq_Gadv hG1) (by omega) h 32 0 pr rfl (fun j hj => absurd hj (Nat.not_lt_zero j))⟩)
  · unfold wpY_advance
    dsimp only
    refine gy _ _ (br_t rfl (ry_load hs a2 (fun wk2 hw => ?_)))
    refine ry_ext (last := 32) hL1 (by omega) hO1 hw (fun wk3 tb3 yf3 hh => ⟨33, ?_⟩)
    exact ry_adv23 hs hO hL h 32 0 wk3 rfl (fun j hj => absurd hj (Nat.not_lt_zero j)) (fun j _ h2 => hh j (Or.inr h2))
theorem i_vc_prepend {k : Nat} {u : SX} {v : SY} (I : i_Rel k u v) (hk : k + 5 ≤ 2560) (v1 : Int32) (v2 : Int32) : wpX_prepend (fun r u' => wpY_prepend (fun r' v' => r' = r ∧ i_Rel (k + 5) u' v') v v1 v2) u v1 v2 := by
  obtain ⟨te, od, pr, fa, ol, sv⟩ := u
  obtain ⟨ye, wk, tb, yf⟩ := v
  obtain ⟨A, hA⟩ := I
  replace hA : rq_R A te od ye := hA
  rcases rq_seq v1 with ⟨bx, bad⟩ | ⟨s, hs, rfl, gx, gy⟩
  · unfold wpX_prepend wpY_prepend
    dsimp only
    exact bx _ (br_t rfl (bad _ _ (br_f (by decide) ⟨rfl, A, hA⟩)))
  obtain ⟨⟨L1, hL1, hO1, ho1⟩, a1, a2⟩ := hA s hs
  obtain ⟨c1, hG1⟩ := hO1.1
  obtain ⟨c2, hG2⟩ := rq_Gpre (rq_p v2.toInt) hG1
  refine rq_join (s := s) hA hG2 (by omega) (fun post => wpX_prepend post (te, od, pr, fa, ol, sv) (nI s) v2) (fun post => wpY_prepend post (ye, wk, tb, yf) (nI s) v2) (fun post h => ?_) (fun post L hO hL h => ?_)
  · unfold wpX_prepend
    dsimp only
    refine gx _ (br_f (by decide) (rq_red v2 (nm_e ⟨32, rx_pre21 hs a1 hG2 (by omega) h 31 1 _ rfl (by omega) (fun j hj => ?_)⟩)))
    rw [show j = 0 by omega, pk_us, if_pos rfl]
  · unfold wpY_prepend
    dsimp only
    refine gy _ _ (br_t rfl (rq_mod v2 (nm_e ⟨32, ry_pre23 hs a2 hO hL h 31 1 _ rfl (by omega) (fun j hj => ?_)⟩)))
    rw [show j = 0 by omega, pk_us, if_pos rfl]
theorem i_vc_accumulate {k : Nat} {u : SX} {v : SY} (I : i_Rel k u v) (hk : k + 5 ≤ 2560) (v1 : Int32) : wpX_accumulate (fun r u' => wpY_accumulate (fun r' v' => r' = r ∧ i_Rel (k + 5) u' v') v v1) u v1 := by
  obtain ⟨te, od, pr, fa, ol, sv⟩ := u
  obtain ⟨ye, wk, tb, yf⟩ := v
  obtain ⟨A, hA⟩ := I
  replace hA : rq_R A te od ye := hA
  rcases rq_seq v1 with ⟨bx, bad⟩ | ⟨s, hs, rfl, gx, gy⟩
  · unfold wpX_accumulate wpY_accumulate
    dsimp only
    exact bx _ (br_t rfl (bad _ _ (br_f (by decide) ⟨rfl, A, hA⟩)))
  obtain ⟨⟨L1, hL1, hO1, ho1⟩, a1, a2⟩ := hA s hs
  obtain ⟨c1, hG1⟩ := hO1.1
  obtain ⟨c2, hG2⟩ := rq_Gacc hG1
  refine rq_join (s := s) hA hG2 (by omega) (fun post => wpX_accumulate post (te, od, pr, fa, ol, sv) (nI s)) (fun post => wpY_accumulate post (ye, wk, tb, yf) (nI s)) (fun post h => ?_) (fun post L hO hL h => ?_)
  · unfold wpX_accumulate
    dsimp only
    exact gx _ (br_f (by decide) ⟨33, rx_acc13 hs a1 hG2 (by omega) h 32 0 pr rfl (fun j hj => absurd hj (Nat.not_lt_zero j))⟩)
  · unfold wpY_accumulate
    dsimp only
    exact gy _ _ (br_t rfl ⟨33, ry_acc14 hs a2 hO hL h 32 0 wk rfl (fun j hj => absurd hj (Nat.not_lt_zero j))⟩)
theorem i_vc_difference {k : Nat} {u : SX} {v : SY} (I : i_Rel k u v) (hk : k + 5 ≤ 2560) (v1 : Int32) : wpX_difference (fun r u' => wpY_difference (fun r' v' => r' = r ∧ i_Rel (k + 5) u' v') v v1) u v1 := by
  obtain ⟨te, od, pr, fa, ol, sv⟩ := u
  obtain ⟨ye, wk, tb, yf⟩ := v
  obtain ⟨A, hA⟩ := I
  replace hA : rq_R A te od ye := hA
  rcases rq_seq v1 with ⟨bx, bad⟩ | ⟨s, hs, rfl, gx, gy⟩
  · unfold wpX_difference wpY_difference
    dsimp only
    exact bx _ (br_t rfl (bad _ _ (br_f (by decide) ⟨rfl, A, hA⟩)))
  obtain ⟨⟨L1, hL1, hO1, ho1⟩, a1, a2⟩ := hA s hs
  obtain ⟨c1, hG1⟩ := hO1.1
  obtain ⟨c2, hG2⟩ := rq_Gdif hG1
  refine rq_join (s := s) hA hG2 (by omega) (fun post => wpX_difference post (te, od, pr, fa, ol, sv) (nI s)) (fun post => wpY_difference post (ye, wk, tb, yf) (nI s)) (fun post h => ?_) (fun post L hO hL h => ?_)
  · unfold wpX_difference
    dsimp only
    exact gx _ (br_f (by decide) ⟨33, rx_dif13 hs a1 hG2 (by omega) h 32 0 pr rfl (fun j hj => absurd hj (Nat.not_lt_zero j))⟩)
  · unfold wpY_difference
    dsimp only
    exact gy _ _ (br_t rfl ⟨33, ry_dif14 hs a2 hO hL h 32 0 wk rfl (fun j hj => absurd hj (Nat.not_lt_zero j))⟩)
