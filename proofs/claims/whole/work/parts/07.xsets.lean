/-! ===== the component's walks over the sets ===== -/
theorem fx_size {post : Int32 → Prop} {S : Nat} {fn fk : Int32} {aE t : Nat → Int32} (hS : S < 512) (hp : post (nI (fb_size S))) : wpX_sizeOf post (fn, fk, aE, t) (nI S) := by
  refine ⟨10, ?_⟩
  have go : ∀ d j, j + d = 9 → wX_sizeOf_4 post (nI S) fn fk aE t (d + 1) (nI (fb_cnt (fun i => S.testBit i) j)) (nI j) := by
    intro d
    induction d with
    | zero =>
      intro j hj
      have e9 : j = 9 := by omega
      subst e9
      exact br_t (by decide) hp
    | succ d ih =>
      intro j hj
      refine br_f (nI_ge (a := j) (b := 9) (by omega) (by omega)) (nm_r (e' := nI (fb_cnt (fun i => S.testBit i) (j + 1))) ?_ (nm_r (nI_1 j) (ih (j + 1) (by omega))))
      rw [fa_bit (by omega) (by omega), nI_add]
      rfl
  exact go 9 0 (by omega)
def fb_Acy (e : Nat → Nat → Nat) (n S : Nat) : Prop := fb_ex e n (2 ^ n - (S + 1)) = 0
theorem fx_lnc {post : Int32 → SX → Prop} {e : Nat → Nat → Nat} {n S : Nat} {fk : Int32} {aE t : Nat → Int32} (hn : n ≤ 9) (hS : S < 2 ^ n) (hG : fb_G e n) (hE : fb_EX e aE) (h1 : fb_Acy e n S → ∀ t' : Nat → Int32, post 1 (nI n, fk, aE, t')) (h0 : ¬ fb_Acy e n S → ∀ t' : Nat → Int32, post 0 (nI n, fk, aE, t')) : wpX_leavesNoCycle post (nI n, fk, aE, t) (nI S) := by
  have hp := fa_pw hn
  refine nm_r (e' := nI (2 ^ n - (S + 1))) (by rw [fa_all hn, fa_mask (by omega) hS]) ?_
  refine fx_excess hn (by omega) hG hE (fun t' => ?_)
  have hx := fb_ex_le hn hG (2 ^ n - (S + 1))
  exact pk_eq (fb_ex e n (2 ^ n - (S + 1))) 0 (fun h => h1 h t') (fun h => h0 h t')
def fb_P (e : Nat → Nat → Nat) (n W B S : Nat) : Prop := S &&& W = W ∧ S &&& B = 0 ∧ fb_Acy e n S
theorem fx_small {post : Int32 → SX → Prop} {e : Nat → Nat → Nat} {n W B : Nat} {fk : Int32} {aE : Nat → Int32} (hn : n ≤ 9) (hG : fb_G e n) (hE : fb_EX e aE) (hW : W < 512) (hB : B < 512) (hp : ∀ (o : Option Nat) (t' : Nat → Int32), fb_Pick (fb_P e n W B) (2 ^ n) o → post (fb_ans o) (nI n, fk, aE, t')) (t : Nat → Int32) : wpX_smallestBreaking post (nI n, fk, aE, t) (nI W) (nI B) := by
  have hpw := fa_pw hn
  have h1p : 1 ≤ 2 ^ n := Nat.one_le_two_pow
  have go : ∀ (d k : Nat) (o : Option Nat) (t : Nat → Int32), k + d = 2 ^ n → fb_Pick (fb_P e n W B) k o → wX_smallestBreaking_15 post (nI W) (nI B) (nI (2 ^ n - 1)) (d + 1) (fb_ans o) (nI (fb_bs o)) (nI k) (nI n) fk aE t := by
    intro d
    induction d with
    | zero =>
      intro k o t hk ho
      have ek : k = 2 ^ n := by omega
      subst ek
      exact br_t (nI_lt (by omega) (by omega)) (hp o t ho)
    | succ d ih =>
      intro k o t hk ho
      have hbs := fb_bs_le o
      have hkW : k &&& W < 512 := Nat.lt_of_le_of_lt Nat.and_le_left (by omega)
      have hkB : k &&& B < 512 := Nat.lt_of_le_of_lt Nat.and_le_left (by omega)
      have hsz := fb_size_le k
      refine br_f (nI_nlt (by omega) (by omega)) ?_
      refine pk_eq (k &&& W) W (fun hw => ?_) (fun hw => nm_r (nI_1 k) (ih (k + 1) o t (by omega) (fb_pick_no (fun z => hw z.1) ho))) (nx_and k W)
      refine pk_eq (k &&& B) 0 (fun hb => ?_) (fun hb => nm_r (nI_1 k) (ih (k + 1) o t (by omega) (fb_pick_no (fun z => hb z.2.1) ho))) (nx_and k B)
      refine fx_size (by omega) ?_
      refine pk_le (fb_bs o) (fb_size k) (fun hl => nm_r (nI_1 k) (ih (k + 1) o t (by omega) (fb_pick_ge hl ho))) (fun hl => ?_)
      refine fx_lnc hn (by omega) hG hE (fun ha t' => ?_) (fun ha t' => ?_)
      · exact br_f (by decide) (nm_r (nI_1 k) (ih (k + 1) (some k) t' (by omega) (fb_pick_lt hl ⟨hw, hb, ha⟩ ho)))
      · exact br_t rfl (nm_r (nI_1 k) (ih (k + 1) o t' (by omega) (fb_pick_no (fun z => ha z.2.2) ho)))
  show ∃ m, wX_smallestBreaking_15 post (nI W) (nI B) (((1 : Int32) <<< (nI n &&& 31)) - 1) m (-1) 10 0 (nI n) fk aE t
  rw [fa_all hn]
  exact ⟨2 ^ n + 1, go (2 ^ n) 0 none t (by omega) (fun S hS => by omega)⟩
theorem fb_ans_ne {b : Nat} (hb : b < 512) : ¬ nI b = -1 := fun h => by
  have h2 := congrArg Int32.toInt h
  rw [nI_toInt (by omega), show (-1 : Int32).toInt = -1 by decide] at h2
  omega
def fb_Q (e : Nat → Nat → Nat) (n W K z S : Nat) : Prop := S &&& W = W ∧ S &&& K = 0 ∧ fb_size S = z ∧ fb_Acy e n S
noncomputable def fb_Qb (e : Nat → Nat → Nat) (n W K z S : Nat) : Bool := @decide (fb_Q e n W K z S) (Classical.propDecidable _)
theorem fb_Qb_t {e : Nat → Nat → Nat} {n W K z S : Nat} (h : fb_Q e n W K z S) : fb_Qb e n W K z S = true := by
  unfold fb_Qb; exact @decide_eq_true _ (Classical.propDecidable _) h
theorem fb_Qb_f {e : Nat → Nat → Nat} {n W K z S : Nat} (h : ¬ fb_Q e n W K z S) : fb_Qb e n W K z S = false := by
  unfold fb_Qb; exact @decide_eq_false _ (Classical.propDecidable _) h
noncomputable def fb_tal (e : Nat → Nat → Nat) (n W K : Nat) : Option Nat → Nat
  | none => 0
  | some b => fb_cnt (fb_Qb e n W K (fb_size b)) (2 ^ n)
theorem fb_cnt_t {p : Nat → Bool} {k : Nat} (h : p k = true) : fb_cnt p (k + 1) = fb_cnt p k + 1 := by
  show fb_cnt p k + (p k).toNat = _
  rw [h]; rfl
theorem fb_cnt_f {p : Nat → Bool} {k : Nat} (h : p k = false) : fb_cnt p (k + 1) = fb_cnt p k := by
  show fb_cnt p k + (p k).toNat = _
  rw [h]; rfl
theorem fx_count {post : Int32 → SX → Prop} {e : Nat → Nat → Nat} {n W K : Nat} {aE : Nat → Int32} (hn : n ≤ 9) (hG : fb_G e n) (hE : fb_EX e aE) (hW : W < 512) (hK : K < 512) (hp : ∀ (o : Option Nat) (t' : Nat → Int32), fb_Pick (fb_P e n 0 K) (2 ^ n) o → post (nI (fb_tal e n W K o)) (nI n, nI K, aE, t')) (t : Nat → Int32) : wpX_countBreakersWith post (nI n, nI K, aE, t) (nI W) := by
  have hpw := fa_pw hn
  have h1p : 1 ≤ 2 ^ n := Nat.one_le_two_pow
  refine fx_small (W := 0) hn hG hE (by omega) hK (fun o t1 ho => ?_) t
  cases o with
  | none => exact br_t rfl (hp none t1 ho)
  | some b =>
    have hb : b < 2 ^ n := ho.1
    have hz := fb_size_le b
    refine br_f (fb_ans_ne (by omega)) ?_
    refine fx_size (S := b) (by omega) ?_
    have go : ∀ (d k : Nat) (t : Nat → Int32), k + d = 2 ^ n → wX_countBreakersWith_35 post (nI W) (nI (fb_size b)) (nI (2 ^ n - 1)) (d + 1) (nI (fb_cnt (fb_Qb e n W K (fb_size b)) k)) (nI k) (nI n) (nI K) aE t := by
      intro d
      induction d with
      | zero =>
        intro k t hk
        have ek : k = 2 ^ n := by omega
        subst ek
        exact br_t (nI_lt (by omega) (by omega)) (hp (some b) t ho)
      | succ d ih =>
        intro k t hk
        have hkW : k &&& W < 512 := Nat.lt_of_le_of_lt Nat.and_le_left (by omega)
        have hkK : k &&& K < 512 := Nat.lt_of_le_of_lt Nat.and_le_left (by omega)
        have hsz := fb_size_le k
        have no : ¬ fb_Q e n W K (fb_size b) k → ∀ t : Nat → Int32, wX_countBreakersWith_35 post (nI W) (nI (fb_size b)) (nI (2 ^ n - 1)) (d + 1) (nI (fb_cnt (fb_Qb e n W K (fb_size b)) k)) (nI (k + 1)) (nI n) (nI K) aE t := fun h t => by
          have := ih (k + 1) t (by omega)
          rw [fb_cnt_f (fb_Qb_f h)] at this
          exact this
        refine br_f (nI_nlt (by omega) (by omega)) ?_
        refine pk_eq (k &&& W) W (fun hw => ?_) (fun hw => br_t rfl (nm_r (nI_1 k) (no (fun z => hw z.1) t))) (nx_and k W)
        refine pk_eq (k &&& K) 0 (fun hb => ?_) (fun hb => br_t rfl (nm_r (nI_1 k) (no (fun z => hb z.2.1) t))) (nx_and k K)
        refine br_f (by decide) ?_
        refine fx_size (by omega) ?_
        refine pk_eq (fb_size k) (fb_size b) (fun hl => ?_) (fun hl => nm_r (nI_1 k) (no (fun z => hl z.2.2.1) t))
        refine fx_lnc hn (by omega) hG hE (fun ha t' => ?_) (fun ha t' => ?_)
        · refine br_f (by decide) (nm_r (nI_1 _) (nm_r (nI_1 k) ?_))
          have := ih (k + 1) t' (by omega)
          rw [fb_cnt_t (fb_Qb_t ⟨hw, hb, hl, ha⟩)] at this
          exact this
        · exact br_t rfl (nm_r (nI_1 k) (no (fun z => ha z.2.2.2) t'))
    show ∃ m, wX_countBreakersWith_35 post (nI W) (nI (fb_size b)) (((1 : Int32) <<< (nI n &&& 31)) - 1) m 0 (nI b) (nI n) (nI K) aE t1
    rw [fa_all hn]
    refine ⟨2 ^ n - b + 1, ?_⟩
    have h0 : fb_cnt (fb_Qb e n W K (fb_size b)) b = 0 := fb_cnt_zero b (fun S hS => fb_Qb_f (fun z => by
      have := ho.2.2.1 S hS ⟨Nat.and_zero S, z.2.1, z.2.2.2⟩
      have := z.2.2.1
      omega))
    have := go (2 ^ n - b) b t1 (by omega)
    rw [h0] at this
    exact this
theorem fx_girth {post : Int32 → SX → Prop} {e : Nat → Nat → Nat} {n : Nat} {fk : Int32} {aE : Nat → Int32} (hn : n ≤ 9) (hG : fb_G e n) (hE : fb_EX e aE) (hp : ∀ (r : Nat) (t' : Nat → Int32), fb_Girth e n r → post (nI r) (nI n, fk, aE, t')) (t : Nat → Int32) : wpX_girth post (nI n, fk, aE, t) := by
  have hpw := fa_pw hn
  have h1p : 1 ≤ 2 ^ n := Nat.one_le_two_pow
  have go : ∀ (d k r : Nat) (t : Nat → Int32), k + d = 2 ^ n → r ≤ 9 → (0 < r → fb_Has e n r) → (∀ S, 1 ≤ S → S < k → 0 < fb_ex e n S → 0 < r ∧ r ≤ fb_size S) → wX_girth_9 post (nI (2 ^ n - 1)) (d + 1) (nI r) (nI k) (nI n) fk aE t := by
    intro d
    induction d with
    | zero =>
      intro k r t hk hr ha hb
      have ek : k = 2 ^ n := by omega
      subst ek
      refine br_t (nI_lt (by omega) (by omega)) (hp r t ⟨ha, fun S hS hx => hb S ?_ hS hx⟩)
      obtain ⟨u, _, _, _, Su, _⟩ := fb_pos_cyc hn hG.1 hx
      rcases Nat.eq_zero_or_pos S with z | z
      · rw [z, Nat.zero_testBit] at Su; exact absurd Su (by simp)
      · exact z
    | succ d ih =>
      intro k r t hk hr ha hb
      have hsz := fb_size_le k
      have hx := fb_ex_le hn hG k
      refine br_f (nI_nlt (by omega) (by omega)) ?_
      refine fx_size (by omega) ?_
      have body : (r = 0 ∨ fb_size k < r) → wX_girth_31 post (wX_girth_9 post (nI (2 ^ n - 1)) (d + 1)) (nI r) (nI (2 ^ n - 1)) (nI k) (nI (fb_size k)) (nI n) fk aE t := by
        intro hr2
        refine fx_excess hn (by omega) hG hE (fun t' => ?_)
        refine pk_le (fb_ex e n k) 0 (fun h0 => nm_r (nI_1 k) (ih (k + 1) r t' (by omega) hr ha (fun S h1 h2 h3 => ?_))) (fun h0 => nm_r (nI_1 k) (ih (k + 1) (fb_size k) t' (by omega) hsz (fun _ => ⟨k, by omega, h0, Nat.le_refl _⟩) (fun S h1 h2 h3 => ?_)))
        · by_cases z : S < k
          · exact hb S h1 z h3
          · rw [show S = k by omega] at h3; omega
        · obtain ⟨u, _, _, hu, Su, _⟩ := fb_pos_cyc hn hG.1 h0
          have h5 := fb_size_1 (by omega) Su
          by_cases z : S < k
          · have := hb S h1 z h3
            omega
          · rw [show S = k by omega]; omega
      refine pk_eq r 0 (fun h0 => body (Or.inl h0)) (fun h0 => ?_)
      refine pk_le r (fb_size k) (fun hl => nm_r (nI_1 k) (ih (k + 1) r t (by omega) hr ha (fun S h1 h2 h3 => ?_))) (fun hl => body (Or.inr hl))
      by_cases z : S < k
      · exact hb S h1 z h3
      · rw [show S = k by omega]; omega
  show ∃ m, wX_girth_9 post (((1 : Int32) <<< (nI n &&& 31)) - 1) m 0 1 (nI n) fk aE t
  rw [fa_all hn]
  exact ⟨2 ^ n - 1 + 1, go (2 ^ n - 1) 1 0 t (by omega) (by omega) (fun h => absurd h (by omega)) (fun S h1 h2 => by omega)⟩
