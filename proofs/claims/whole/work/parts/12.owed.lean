/-! ===== the relation, and what is owed ===== -/
def i_Rel (k : Nat) (u : SX) (v : SY) : Prop :=
  ∃ (n K : Nat) (e : Nat → Nat → Nat) (aE t aM kp lb fr : Nat → Int32), u = (nI n, nI K, aE, t) ∧ v = (nI n, nI (2 ^ n), aM, kp, lb, fr) ∧ 2 ≤ n ∧ n ≤ 9 ∧ K < 2 ^ n ∧ fb_G e n ∧ fb_EX e aE ∧ fb_EY e aM ∧ fb_KP K kp
theorem fr_mk {k n K : Nat} {e : Nat → Nat → Nat} {aE t aM kp lb fr : Nat → Int32} (h2 : 2 ≤ n) (h9 : n ≤ 9) (hK : K < 2 ^ n) (hG : fb_G e n) (hX : fb_EX e aE) (hY : fb_EY e aM) (hP : fb_KP K kp) : i_Rel k (nI n, nI K, aE, t) (nI n, nI (2 ^ n), aM, kp, lb, fr) := ⟨n, K, e, aE, t, aM, kp, lb, fr, rfl, rfl, h2, h9, hK, hG, hX, hY, hP⟩
theorem i_up {k : Nat} {u : SX} {v : SY} (h : i_Rel k u v) : i_Rel (k + 4) u v := h
theorem fr_0 {n : Nat} (h2 : 2 ≤ n) (h9 : n ≤ 9) : i_Rel 1 (nI n, 0, (fun _ => 0), (fun _ => 0)) (nI n, (1 : Int32) <<< (nI n &&& 31), (fun _ => 0), (fun _ => 0), (fun _ => 0), (fun _ => 0)) := by
  rw [fa_shl (by omega)]
  refine fr_mk (K := 0) (e := fun _ _ => 0) h2 h9 (Nat.two_pow_pos n) ⟨fun _ _ => rfl, fun _ _ => Nat.zero_le _, fun _ _ h => absurd h (Nat.lt_irrefl 0)⟩ (fun a b _ _ => ?_) (fun a b _ _ => rfl) (fun v _ => ?_)
  · rw [ite_self]; rfl
  · rw [Nat.zero_testBit]; rfl
theorem i_vc0 (k0 : Int32) : wpX_init (fun u => wpY_init (fun v => i_Rel 1 u v) k0) k0 := by
  by_cases h2 : 2 ≤ k0
  · by_cases h9 : k0 ≤ 9
    · have h0 : ¬ k0 < 0 := fun z => by
        rw [Int32.lt_iff_toInt_lt] at z
        rw [Int32.le_iff_toInt_le] at h2
        have e1 : (2 : Int32).toInt = 2 := by decide
        have e2 : (0 : Int32).toInt = 0 := by decide
        omega
      obtain ⟨n, hn, rfl⟩ := nI_of2 (M := 9) (n := 9) (by decide) h0 h9
      have hn2 : 2 ≤ n := (nI_leI (a := 2) (b := n) (by omega) (by omega)).mp h2
      exact br_t h2 (br_t h9 (br_t h2 (br_t h9 (nm_e (fr_0 hn2 hn)))))
    · exact br_t h2 (br_f h9 (br_t h2 (br_f h9 (nm_e (fr_0 (n := 9) (by omega) (by omega))))))
  · exact br_f h2 (br_f h2 (nm_e (fr_0 (n := 2) (by omega) (by omega))))
theorem i_vc_vertices {k : Nat} {u : SX} {v : SY} (I : i_Rel k u v) (hk : k + 4 ≤ 2049) : wpX_vertices (fun r => wpY_vertices (fun r' => r' = r ∧ i_Rel (k + 4) u v) v) u := by
  obtain ⟨n, K, e, aE, t, aM, kp, lb, fr, rfl, rfl, h2, h9, hK, hG, hX, hY, hP⟩ := I
  exact ⟨rfl, fr_mk h2 h9 hK hG hX hY hP⟩
theorem i_vc_link {k : Nat} {u : SX} {v : SY} (I : i_Rel k u v) (hk : k + 4 ≤ 2049) (v1 : Int32) (v2 : Int32) (v3 : Int32) : wpX_link (fun r u' => wpY_link (fun r' v' => r' = r ∧ i_Rel (k + 4) u' v') v v1 v2 v3) u v1 v2 v3 := by
  obtain ⟨n, K, e, aE, t, aM, kp, lb, fr, rfl, rfl, h2, h9, hK, hG, hX, hY, hP⟩ := I
  rcases fb_vx v1 h9 with hb | ⟨x, hx, rfl⟩
  · unfold wpX_link wpY_link
    dsimp only
    exact fx_bad hb (br_t rfl (fy_bad hb (br_f (by decide) ⟨rfl, fr_mk h2 h9 hK hG hX hY hP⟩)))
  rcases fb_vx v2 h9 with hb | ⟨y, hy, rfl⟩
  · unfold wpX_link wpY_link
    dsimp only
    exact fx_good h9 hx (br_f (by decide) (fx_bad hb (br_t rfl (fy_good h9 hx (br_t rfl (fy_bad hb (br_f (by decide) ⟨rfl, fr_mk h2 h9 hK hG hX hY hP⟩)))))))
  by_cases c0 : v3 < 0
  · unfold wpX_link wpY_link
    dsimp only
    exact fx_good h9 hx (br_f (by decide) (fx_good h9 hy (br_f (by decide) (br_t c0 (fy_good h9 hx (br_t rfl (fy_good h9 hy (br_t rfl (br_t c0 ⟨rfl, fr_mk h2 h9 hK hG hX hY hP⟩)))))))))
  by_cases c2 : v3 ≤ 2
  · obtain ⟨m, hm, rfl⟩ := nI_of2 (M := 2) (n := 2) (by decide) c0 c2
    refine fx_link h9 hG hX hx hy hm ?_
    refine fy_link h9 hY hx hy hm ⟨rfl, ?_⟩
    exact fr_mk h2 h9 hK (fb_set_G hG hx hy hm) (fb_slot_set hX (by omega) (by omega)) (fb_EY_set hY (by omega) (by omega)) hP
  · unfold wpX_link wpY_link
    dsimp only
    exact fx_good h9 hx (br_f (by decide) (fx_good h9 hy (br_f (by decide) (br_f c0 (br_f c2 (fy_good h9 hx (br_t rfl (fy_good h9 hy (br_t rfl (br_f c0 (br_f c2 ⟨rfl, fr_mk h2 h9 hK hG hX hY hP⟩)))))))))))
theorem fr_one {p M : Int32} {m : Nat} (hM : M.toInt = m) (h1 : ¬ p < 1) (h : p ≤ M) : ∃ j : Nat, 1 ≤ j ∧ j ≤ m ∧ p = nI j := by
  have e1 : (1 : Int32).toInt = 1 := by decide
  have e0 : (0 : Int32).toInt = 0 := by decide
  have h0 : ¬ p < 0 := fun z => by
    rw [Int32.lt_iff_toInt_lt] at z h1
    omega
  obtain ⟨j, hj, rfl⟩ := nI_of2 hM h0 h
  refine ⟨j, ?_, hj, rfl⟩
  rcases Nat.eq_zero_or_pos j with z | z
  · subst z; exact absurd (by decide) h1
  · exact z
theorem i_vc_ring {k : Nat} {u : SX} {v : SY} (I : i_Rel k u v) (hk : k + 4 ≤ 2049) (v1 : Int32) (v2 : Int32) (v3 : Int32) : wpX_ring (fun r u' => wpY_ring (fun r' v' => r' = r ∧ i_Rel (k + 4) u' v') v v1 v2 v3) u v1 v2 v3 := by
  obtain ⟨n, K, e, aE, t, aM, kp, lb, fr, rfl, rfl, h2, h9, hK, hG, hX, hY, hP⟩ := I
  unfold wpX_ring
  dsimp only
  rcases fb_vx v1 h9 with hb | ⟨x, hx, rfl⟩
  · refine fx_bad hb (br_t rfl ?_)
    unfold wpY_ring
    dsimp only
    exact fy_bad hb (br_f (by decide) ⟨rfl, fr_mk h2 h9 hK hG hX hY hP⟩)
  refine fx_good h9 hx (br_f (by decide) ?_)
  by_cases s1 : v2 < 1
  · refine br_t s1 ?_
    unfold wpY_ring
    dsimp only
    exact fy_good h9 hx (br_t rfl (br_t s1 ⟨rfl, fr_mk h2 h9 hK hG hX hY hP⟩))
  refine br_f s1 ?_
  by_cases s8 : v2 ≤ 8
  · refine br_t s8 ?_
    by_cases c1 : v3 < 1
    · refine br_t c1 ?_
      unfold wpY_ring
      dsimp only
      exact fy_good h9 hx (br_t rfl (br_f s1 (br_t s8 (br_t c1 ⟨rfl, fr_mk h2 h9 hK hG hX hY hP⟩))))
    refine br_f c1 ?_
    by_cases c12 : v3 ≤ 12
    · refine br_t c12 ?_
      obtain ⟨s, hs1, hs, rfl⟩ := fr_one (M := 8) (m := 8) (by decide) s1 s8
      obtain ⟨c, hc1, hc, rfl⟩ := fr_one (M := 12) (m := 12) (by decide) c1 c12
      refine ⟨c + 1, ?_⟩
      have hx0 : (x + 0 * s) % n = x := by rw [Nat.zero_mul, Nat.add_zero, Nat.mod_eq_of_lt hx]
      have key := fx_ring (post := fun r u' => wpY_ring (fun r' v' => r' = r ∧ i_Rel (k + 4) u' v') (nI n, nI (2 ^ n), aM, kp, lb, fr) (nI x) (nI s) (nI c)) (fk := nI K) (t := t) h2 h9 hx hs hc c 0 e aE (by omega) hG hX (fun aE' hX' => by
        unfold wpY_ring
        dsimp only
        refine fy_good h9 hx (br_t rfl (br_f s1 (br_t s8 (br_f c1 (br_t c12 ⟨c + 1, ?_⟩)))))
        refine fy_ring h2 h9 hx hs hc c 0 e aM (by omega) hG hY (fun aM' hY' => ⟨rfl, ?_⟩)
        exact fr_mk h2 h9 hK (fb_rs_G (by omega) c 0 e hG) hX' hY' hP)
      rw [hx0] at key
      exact key
    · refine br_f c12 ?_
      unfold wpY_ring
      dsimp only
      exact fy_good h9 hx (br_t rfl (br_f s1 (br_t s8 (br_f c1 (br_f c12 ⟨rfl, fr_mk h2 h9 hK hG hX hY hP⟩)))))
  · refine br_f s8 ?_
    unfold wpY_ring
    dsimp only
    exact fy_good h9 hx (br_t rfl (br_f s1 (br_f s8 ⟨rfl, fr_mk h2 h9 hK hG hX hY hP⟩)))
theorem fr_kp {K x m : Nat} {kp : Nat → Int32} {K' : Nat} (hP : fb_KP K kp) (h1 : K'.testBit x = decide (m = 1)) (hm : m ≤ 1) (h2 : ∀ w, w ≠ x → K'.testBit w = K.testBit w) : fb_KP K' (upd kp x (nI m)) := by
  intro w hw
  by_cases c : w = x
  · subst c
    rw [pk_us, h1]
    rcases Nat.eq_zero_or_pos m with z | z
    · subst z; rfl
    · rw [show m = 1 by omega]; rfl
  · rw [pk_un c, h2 w c]; exact hP w hw
theorem fr_n0 : vp_nar .boolean 0 = nI 0 := by decide
theorem fr_n1 : vp_nar .boolean 1 = nI 1 := by decide
theorem fx_keep {post : Int32 → SX → Prop} {n K x : Nat} {p : Int32} {aE t : Nat → Int32} (hn : n ≤ 9) (hK : K < 512) (hx : x < n) (h0 : p = 0 → post (nI (K.testBit x).toNat) (nI n, nI (K ^^^ (K &&& 2 ^ x)), aE, t)) (h1 : ¬ p = 0 → post (nI (K.testBit x).toNat) (nI n, nI (K ||| 2 ^ x), aE, t)) : wpX_keep post (nI n, nI K, aE, t) (nI x) p := by
  unfold wpX_keep
  dsimp only
  refine fx_good hn hx (br_f (by decide) (nm_r (fa_bit (by omega) (by omega)) (br_c (fun z => nm_r ?_ (h0 z)) (fun z => nm_r ?_ (h1 z)))))
  · rw [fa_shl (by omega), fa_clr (by omega)]
  · rw [fa_shl (by omega), fa_or]
theorem fy_keep {post : Int32 → SY → Prop} {n K x : Nat} {p fs : Int32} {aM kp lb fr : Nat → Int32} (hn : n ≤ 9) (hx : x < n) (hP : fb_KP K kp) (h0 : p = 0 → post (nI (K.testBit x).toNat) (nI n, fs, aM, upd kp x (nI 0), lb, fr)) (h1 : ¬ p = 0 → post (nI (K.testBit x).toNat) (nI n, fs, aM, upd kp x (nI 1), lb, fr)) : wpY_keep post (nI n, fs, aM, kp, lb, fr) (nI x) p := by
  have hin : vp_in (nI x) 9 := vp_in_nI (by omega) (by omega)
  have hc : (nI x).toNatClampNeg = x := nI_clamp (by omega)
  unfold wpY_keep
  dsimp only
  refine fy_good hn hx (br_t rfl ⟨hin, ?_⟩)
  rw [hc, hP x (by omega)]
  have fin : ∀ z0 : Int32, z0 = nI (K.testBit x).toNat → wY_keep_24 post (nI x) p z0 (nI n) fs aM kp lb fr := fun z0 hz => by
    subst hz
    refine br_c (fun z => ⟨hin, nm_r (e' := upd kp x (nI 0)) ?_ (h0 z)⟩) (fun z => ⟨hin, nm_r (e' := upd kp x (nI 1)) ?_ (h1 z)⟩)
    · rw [hc, fr_n0]
    · rw [hc, fr_n1]
  cases hb : K.testBit x
  · exact br_t rfl (fin 0 (by rw [hb]; rfl))
  · exact br_f (by decide) (fin 1 (by rw [hb]; rfl))
theorem i_vc_keep {k : Nat} {u : SX} {v : SY} (I : i_Rel k u v) (hk : k + 4 ≤ 2049) (v1 : Int32) (v2 : Int32) : wpX_keep (fun r u' => wpY_keep (fun r' v' => r' = r ∧ i_Rel (k + 4) u' v') v v1 v2) u v1 v2 := by
  obtain ⟨n, K, e, aE, t, aM, kp, lb, fr, rfl, rfl, h2, h9, hK, hG, hX, hY, hP⟩ := I
  rcases fb_vx v1 h9 with hb | ⟨x, hx, rfl⟩
  · unfold wpX_keep wpY_keep
    dsimp only
    exact fx_bad hb (br_t rfl (fy_bad hb (br_f (by decide) ⟨rfl, fr_mk h2 h9 hK hG hX hY hP⟩)))
  have h512 := fa_lt hK h9
  refine fx_keep h9 h512 hx (fun z => ?_) (fun z => ?_)
  · refine fy_keep h9 hx hP (fun _ => ⟨rfl, ?_⟩) (fun z2 => absurd z z2)
    refine fr_mk h2 h9 (Nat.xor_lt_two_pow hK (Nat.and_lt_two_pow _ (fb_one hx))) hG hX hY (fr_kp hP ?_ (by omega) (fun w hw => ?_))
    · rw [Nat.testBit_xor, Nat.testBit_and, Nat.testBit_two_pow_self, Bool.and_true, Bool.xor_self]; rfl
    · rw [Nat.testBit_xor, Nat.testBit_and, Nat.testBit_two_pow, decide_eq_false (fun q : x = w => hw q.symm), Bool.and_false, Bool.xor_false]
  · refine fy_keep h9 hx hP (fun z2 => absurd z2 z) (fun _ => ⟨rfl, ?_⟩)
    refine fr_mk h2 h9 (Nat.or_lt_two_pow hK (fb_one hx)) hG hX hY (fr_kp hP ?_ (by omega) (fun w hw => ?_))
    · rw [Nat.testBit_or, Nat.testBit_two_pow_self, Bool.or_true]; rfl
    · rw [Nat.testBit_or, Nat.testBit_two_pow, decide_eq_false (fun q : x = w => hw q.symm), Bool.or_false]
theorem i_vc_edges {k : Nat} {u : SX} {v : SY} (I : i_Rel k u v) (hk : k + 4 ≤ 2049) : wpX_edges (fun r => wpY_edges (fun r' => r' = r ∧ i_Rel (k + 4) u v) v) u := by
  obtain ⟨n, K, e, aE, t, aM, kp, lb, fr, rfl, rfl, h2, h9, hK, hG, hX, hY, hP⟩ := I
  unfold wpX_edges wpY_edges
  dsimp only
  exact fx_edges h9 hG hX (fy_total h9 hY ⟨rfl, fr_mk h2 h9 hK hG hX hY hP⟩)
theorem i_vc_breaks {k : Nat} {u : SX} {v : SY} (I : i_Rel k u v) (hk : k + 4 ≤ 2049) (v1 : Int32) : wpX_breaks (fun r u' => wpY_breaks (fun r' v' => r' = r ∧ i_Rel (k + 4) u' v') v v1) u v1 := by
  obtain ⟨n, K, e, aE, t, aM, kp, lb, fr, rfl, rfl, h2, h9, hK, hG, hX, hY, hP⟩ := I
  have hpw := fa_pw h9
  have h1p : 1 ≤ 2 ^ n := Nat.one_le_two_pow
  by_cases c0 : v1 < 0
  · exact br_t c0 (br_t c0 ⟨rfl, fr_mk h2 h9 hK hG hX hY hP⟩)
  obtain ⟨S, hS, rfl⟩ := nI_of c0
  refine br_f c0 ?_
  show (nI S ≤ ((1 : Int32) <<< (nI n &&& 31)) - 1 → _) ∧ (¬ nI S ≤ ((1 : Int32) <<< (nI n &&& 31)) - 1 → _)
  rw [fa_all h9]
  refine pk_le S (2 ^ n - 1) (fun hl => ?_) (fun hl => br_f c0 (br_f (nI_nlt (by omega) (by omega)) ⟨rfl, fr_mk h2 h9 hK hG hX hY hP⟩))
  have hx := fb_ex_le h9 hG (2 ^ n - (S + 1))
  refine fx_lnc h9 (by omega) hG hX (fun ha t' => br_f (by decide) ?_) (fun ha t' => br_t rfl ?_)
  · refine br_f c0 (br_t (nI_lt (by omega) (by omega)) (fy_surplus h9 (by omega) hG hY (fun lb' => ?_)))
    exact pk_eq (fb_ex e n (2 ^ n - (S + 1))) 0 (fun _ => ⟨rfl, fr_mk h2 h9 hK hG hX hY hP⟩) (fun z => absurd ha z)
  · refine br_f c0 (br_t (nI_lt (by omega) (by omega)) (fy_surplus h9 (by omega) hG hY (fun lb' => ?_)))
    exact pk_eq (fb_ex e n (2 ^ n - (S + 1))) 0 (fun z => absurd z ha) (fun _ => ⟨rfl, fr_mk h2 h9 hK hG hX hY hP⟩)
theorem i_vc_least {k : Nat} {u : SX} {v : SY} (I : i_Rel k u v) (hk : k + 4 ≤ 2049) : wpX_least (fun r u' => wpY_least (fun r' v' => r' = r ∧ i_Rel (k + 4) u' v') v) u := by
  obtain ⟨n, K, e, aE, t, aM, kp, lb, fr, rfl, rfl, h2, h9, hK, hG, hX, hY, hP⟩ := I
  have h512 := fa_lt hK h9
  unfold wpX_least
  dsimp only
  refine fx_small (W := 0) h9 hG hX (by omega) h512 (fun o t' ho => ?_) t
  refine fx_sizeOrNone (fb_pick_b h9 ho) ?_
  unfold wpY_least
  dsimp only
  refine fy_search (W := 0) (B := 0) h9 hK hG hY hP (by omega) (by omega) (fun o2 lb' ho2 => ?_) lb
  rw [Nat.or_zero] at ho2
  cases fb_pick_u (fun _ _ => Iff.rfl) ho ho2
  exact fy_sizeOf (fb_pick_b h9 ho) ⟨rfl, fr_mk h2 h9 hK hG hX hY hP⟩
theorem i_vc_first {k : Nat} {u : SX} {v : SY} (I : i_Rel k u v) (hk : k + 4 ≤ 2049) : wpX_first (fun r u' => wpY_first (fun r' v' => r' = r ∧ i_Rel (k + 4) u' v') v) u := by
  obtain ⟨n, K, e, aE, t, aM, kp, lb, fr, rfl, rfl, h2, h9, hK, hG, hX, hY, hP⟩ := I
  have h512 := fa_lt hK h9
  unfold wpX_first
  dsimp only
  refine fx_small (W := 0) h9 hG hX (by omega) h512 (fun o t' ho => ?_) t
  dsimp only
  unfold wpY_first
  dsimp only
  refine fy_search (W := 0) (B := 0) h9 hK hG hY hP (by omega) (by omega) (fun o2 lb' ho2 => ?_) lb
  rw [Nat.or_zero] at ho2
  cases fb_pick_u (fun _ _ => Iff.rfl) ho ho2
  exact ⟨rfl, fr_mk h2 h9 hK hG hX hY hP⟩
theorem i_vc_breakers {k : Nat} {u : SX} {v : SY} (I : i_Rel k u v) (hk : k + 4 ≤ 2049) : wpX_breakers (fun r u' => wpY_breakers (fun r' v' => r' = r ∧ i_Rel (k + 4) u' v') v) u := by
  obtain ⟨n, K, e, aE, t, aM, kp, lb, fr, rfl, rfl, h2, h9, hK, hG, hX, hY, hP⟩ := I
  have h512 := fa_lt hK h9
  unfold wpX_breakers
  dsimp only
  refine fx_count (W := 0) h9 hG hX (by omega) h512 (fun o t' ho => ?_) t
  dsimp only
  unfold wpY_breakers
  dsimp only
  refine fy_tally (W := 0) h9 hK hG hY hP (by omega) (fun o2 lb' ho2 => ?_) lb
  cases fb_pick_u (fun _ _ => Iff.rfl) ho ho2
  exact ⟨rfl, fr_mk h2 h9 hK hG hX hY hP⟩
theorem i_vc_inBreakers {k : Nat} {u : SX} {v : SY} (I : i_Rel k u v) (hk : k + 4 ≤ 2049) (v1 : Int32) : wpX_inBreakers (fun r u' => wpY_inBreakers (fun r' v' => r' = r ∧ i_Rel (k + 4) u' v') v v1) u v1 := by
  obtain ⟨n, K, e, aE, t, aM, kp, lb, fr, rfl, rfl, h2, h9, hK, hG, hX, hY, hP⟩ := I
  have h512 := fa_lt hK h9
  rcases fb_vx v1 h9 with hb | ⟨x, hx, rfl⟩
  · unfold wpX_inBreakers wpY_inBreakers
    dsimp only
    exact fx_bad hb (br_t rfl (fy_bad hb (br_f (by decide) ⟨rfl, fr_mk h2 h9 hK hG hX hY hP⟩)))
  have hw : 2 ^ x < 512 := fa_lt (fb_one hx) h9
  unfold wpX_inBreakers
  dsimp only
  refine fx_good h9 hx (br_f (by decide) ?_)
  rw [fa_shl (by omega)]
  refine fx_count h9 hG hX hw h512 (fun o t' ho => ?_) t
  dsimp only
  unfold wpY_inBreakers
  dsimp only
  refine fy_good h9 hx (br_t rfl ?_)
  rw [fa_shl (by omega)]
  refine fy_tally h9 hK hG hY hP hw (fun o2 lb' ho2 => ?_) lb
  cases fb_pick_u (fun _ _ => Iff.rfl) ho ho2
  exact ⟨rfl, fr_mk h2 h9 hK hG hX hY hP⟩
theorem i_vc_leastWith {k : Nat} {u : SX} {v : SY} (I : i_Rel k u v) (hk : k + 4 ≤ 2049) (v1 : Int32) : wpX_leastWith (fun r u' => wpY_leastWith (fun r' v' => r' = r ∧ i_Rel (k + 4) u' v') v v1) u v1 := by
  obtain ⟨n, K, e, aE, t, aM, kp, lb, fr, rfl, rfl, h2, h9, hK, hG, hX, hY, hP⟩ := I
  have h512 := fa_lt hK h9
  rcases fb_vx v1 h9 with hb | ⟨x, hx, rfl⟩
  · unfold wpX_leastWith wpY_leastWith
    dsimp only
    exact fx_bad hb (br_t rfl (fy_bad hb (br_f (by decide) ⟨rfl, fr_mk h2 h9 hK hG hX hY hP⟩)))
  have hw : 2 ^ x < 512 := fa_lt (fb_one hx) h9
  unfold wpX_leastWith
  dsimp only
  refine fx_good h9 hx (br_f (by decide) ?_)
  rw [fa_shl (by omega)]
  refine fx_small h9 hG hX hw h512 (fun o t' ho => ?_) t
  refine fx_sizeOrNone (fb_pick_b h9 ho) ?_
  unfold wpY_leastWith
  dsimp only
  refine fy_good h9 hx (br_t rfl ?_)
  rw [fa_shl (by omega)]
  refine fy_search (B := 0) h9 hK hG hY hP hw (by omega) (fun o2 lb' ho2 => ?_) lb
  rw [Nat.or_zero] at ho2
  cases fb_pick_u (fun _ _ => Iff.rfl) ho ho2
  exact fy_sizeOf (fb_pick_b h9 ho) ⟨rfl, fr_mk h2 h9 hK hG hX hY hP⟩
theorem i_vc_leastWithout {k : Nat} {u : SX} {v : SY} (I : i_Rel k u v) (hk : k + 4 ≤ 2049) (v1 : Int32) : wpX_leastWithout (fun r u' => wpY_leastWithout (fun r' v' => r' = r ∧ i_Rel (k + 4) u' v') v v1) u v1 := by
  obtain ⟨n, K, e, aE, t, aM, kp, lb, fr, rfl, rfl, h2, h9, hK, hG, hX, hY, hP⟩ := I
  have h512 := fa_lt hK h9
  rcases fb_vx v1 h9 with hb | ⟨x, hx, rfl⟩
  · unfold wpX_leastWithout wpY_leastWithout
    dsimp only
    exact fx_bad hb (br_t rfl (fy_bad hb (br_f (by decide) ⟨rfl, fr_mk h2 h9 hK hG hX hY hP⟩)))
  have hw : 2 ^ x < 512 := fa_lt (fb_one hx) h9
  unfold wpX_leastWithout
  dsimp only
  refine fx_good h9 hx (br_f (by decide) ?_)
  rw [fa_shl (by omega), fa_or]
  refine fx_small (W := 0) (B := K ||| 2 ^ x) h9 hG hX (by omega) (fa_lt (Nat.or_lt_two_pow hK (fb_one hx)) h9) (fun o t' ho => ?_) t
  refine fx_sizeOrNone (fb_pick_b h9 ho) ?_
  unfold wpY_leastWithout
  dsimp only
  refine fy_good h9 hx (br_t rfl ?_)
  rw [fa_shl (by omega)]
  refine fy_search (W := 0) h9 hK hG hY hP (by omega) hw (fun o2 lb' ho2 => ?_) lb
  cases fb_pick_u (fun _ _ => Iff.rfl) ho ho2
  exact fy_sizeOf (fb_pick_b h9 ho) ⟨rfl, fr_mk h2 h9 hK hG hX hY hP⟩
theorem i_vc_girth {k : Nat} {u : SX} {v : SY} (I : i_Rel k u v) (hk : k + 4 ≤ 2049) : wpX_girth (fun r u' => wpY_girth (fun r' v' => r' = r ∧ i_Rel (k + 4) u' v') v) u := by
  obtain ⟨n, K, e, aE, t, aM, kp, lb, fr, rfl, rfl, h2, h9, hK, hG, hX, hY, hP⟩ := I
  refine fx_girth h9 hG hX (fun r t' hr => ?_) t
  refine fy_girth h9 h2 hG hY (fun r2 fr' hr2 => ?_) fr
  cases fb_girth_u hr hr2
  exact ⟨rfl, fr_mk h2 h9 hK hG hX hY hP⟩
theorem i_vc_excess {k : Nat} {u : SX} {v : SY} (I : i_Rel k u v) (hk : k + 4 ≤ 2049) : wpX_excess (fun r u' => wpY_excess (fun r' v' => r' = r ∧ i_Rel (k + 4) u' v') v) u := by
  obtain ⟨n, K, e, aE, t, aM, kp, lb, fr, rfl, rfl, h2, h9, hK, hG, hX, hY, hP⟩ := I
  have hpw := fa_pw h9
  have h1p : 1 ≤ 2 ^ n := Nat.one_le_two_pow
  unfold wpX_excess wpX_allVertices
  dsimp only
  rw [fa_all h9]
  refine fx_excess h9 (by omega) hG hX (fun t' => ?_)
  dsimp only
  unfold wpY_excess
  dsimp only
  exact fy_surplus (S := 0) h9 (by omega) hG hY (fun lb' => ⟨rfl, fr_mk h2 h9 hK hG hX hY hP⟩)
