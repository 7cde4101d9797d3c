/-! ===== the reference's walks over the sets ===== -/
def fb_KP (K : Nat) (kp : Nat → Int32) : Prop := ∀ v, v < 9 → kp v = nI (K.testBit v).toNat
theorem fy_open {post : Int32 → SY → Prop} {e : Nat → Nat → Nat} {n S K : Nat} {fs : Int32} {aM kp lb fr : Nat → Int32} (hn : n ≤ 9) (hS : S < 2 ^ n) (hK : K < 2 ^ n) (hG : fb_G e n) (hE : fb_EY e aM) (hkp : fb_KP K kp) (h1 : S &&& K = 0 → fb_Acy e n S → ∀ t' : Nat → Int32, post 1 (nI n, fs, aM, kp, t', fr)) (h0 : ¬ (S &&& K = 0 ∧ fb_Acy e n S) → ∀ t' : Nat → Int32, post 0 (nI n, fs, aM, kp, t', fr)) : wpY_open post (nI n, fs, aM, kp, lb, fr) (nI S) := by
  have h512 := fa_lt hS hn
  have go : ∀ d j, j + d = n → (∀ i, i < j → S.testBit i = true → K.testBit i = false) → wY_open_2 post (nI S) (nI n) fs aM kp lb fr (d + 1) (nI j) := by
    intro d
    induction d with
    | zero =>
      intro j hj hi
      have hz : S &&& K = 0 := fa_and0.mpr (fun i Si => hi i (by have := fb_bit_lt hS Si; omega) Si)
      refine br_t (nI_le (by omega) (by omega)) ?_
      refine fy_surplus hn hS hG hE (fun t' => ?_)
      have hx := fb_ex_le hn hG (2 ^ n - (S + 1))
      exact pk_eq (fb_ex e n (2 ^ n - (S + 1))) 0 (fun h => h1 hz h t') (fun h => h0 (fun z => h z.2) t')
    | succ d ih =>
      intro j hj hi
      have ek : kp (nI j).toNatClampNeg = nI (K.testBit j).toNat := by rw [nI_clamp (by omega)]; exact hkp j (by omega)
      have nxt : (S.testBit j = true → K.testBit j = false) → wY_open_2 post (nI S) (nI n) fs aM kp lb fr (d + 1) (nI (j + 1)) := fun hj2 => ih (j + 1) (by omega) (fun i hi2 Si => by
        by_cases z : i < j
        · exact hi i z Si
        · rw [show i = j by omega] at Si ⊢; exact hj2 Si)
      refine br_f (nI_ge (by omega) (by omega)) (br_f (nI_ge (a := j) (b := 9) (by omega) (by omega)) ⟨vp_in_nI (by omega) (by omega), ?_⟩)
      rw [ek]
      cases hkj : K.testBit j
      · exact br_t rfl (nm_r (nI_1 j) (nxt (fun _ => hkj)))
      · refine br_f (by decide) ?_
        refine fy_in h512 (by omega) (fun hb => br_f (by decide) (h0 (fun z => ?_) lb)) (fun hb => br_t rfl (nm_r (nI_1 j) (nxt (fun z => ?_))))
        · have := fa_and0.mp z.1 j hb
          rw [hkj] at this
          exact absurd this (by simp)
        · rw [hb] at z; exact absurd z (by simp)
  exact ⟨n + 1, go n 0 (by omega) (fun i hi => by omega)⟩
theorem fb_and_or {S K B : Nat} : S &&& (K ||| B) = 0 ↔ S &&& K = 0 ∧ S &&& B = 0 := by
  rw [fa_and0, fa_and0, fa_and0]
  constructor
  · intro h
    refine ⟨fun i Si => ?_, fun i Si => ?_⟩
    · have := h i Si
      rw [Nat.testBit_or, Bool.or_eq_false_iff] at this
      exact this.1
    · have := h i Si
      rw [Nat.testBit_or, Bool.or_eq_false_iff] at this
      exact this.2
  · intro h i Si
    rw [Nat.testBit_or, h.1 i Si, h.2 i Si]; rfl
theorem fy_search {post : Int32 → SY → Prop} {e : Nat → Nat → Nat} {n W B K : Nat} {aM kp fr : Nat → Int32} (hn : n ≤ 9) (hK : K < 2 ^ n) (hG : fb_G e n) (hE : fb_EY e aM) (hkp : fb_KP K kp) (hW : W < 512) (hB : B < 512) (hp : ∀ (o : Option Nat) (t' : Nat → Int32), fb_Pick (fb_P e n W (K ||| B)) (2 ^ n) o → post (fb_ans o) (nI n, nI (2 ^ n), aM, kp, t', fr)) (lb : Nat → Int32) : wpY_search post (nI n, nI (2 ^ n), aM, kp, lb, fr) (nI W) (nI B) := by
  have hpw := fa_pw hn
  have go : ∀ (d k : Nat) (o : Option Nat) (t : Nat → Int32), k + d = 2 ^ n → fb_Pick (fb_P e n W (K ||| B)) k o → wY_search_5 post (nI W) (nI B) (d + 1) (fb_ans o) (nI k) (nI n) (nI (2 ^ n)) aM kp t fr := by
    intro d
    induction d with
    | zero =>
      intro k o t hk ho
      have ek : k = 2 ^ n := by omega
      subst ek
      exact br_t (nI_le (by omega) (by omega)) (hp o t ho)
    | succ d ih =>
      intro k o t hk ho
      have hkW : k &&& W < 512 := Nat.lt_of_le_of_lt Nat.and_le_left (by omega)
      have hkB : k &&& B < 512 := Nat.lt_of_le_of_lt Nat.and_le_left (by omega)
      have hsz := fb_size_le k
      have no : ¬ fb_P e n W (K ||| B) k → ∀ t : Nat → Int32, wY_search_5 post (nI W) (nI B) (d + 1) (fb_ans o) (nI (k + 1)) (nI n) (nI (2 ^ n)) aM kp t fr := fun h t => ih (k + 1) o t (by omega) (fb_pick_no h ho)
      refine br_f (nI_ge (by omega) (by omega)) ?_
      refine pk_eq (k &&& W) W (fun hw => ?_) (fun hw => br_t rfl (nm_r (nI_1 k) (no (fun z => hw z.1) t))) (nx_and k W)
      refine pk_eq (k &&& B) 0 (fun hb => ?_) (fun hb => br_t rfl (nm_r (nI_1 k) (no (fun z => hb (fb_and_or.mp z.2.1).2) t))) (nx_and k B)
      refine br_f (by decide) ?_
      have opn : fb_size k < fb_bs o → wY_search_59 post (wY_search_5 post (nI W) (nI B) (d + 1)) (nI W) (nI B) (fb_ans o) (nI k) (nI n) (nI (2 ^ n)) aM kp t fr := by
        intro hl
        refine fy_open hn (by omega) hK hG hE hkp (fun hz ha t' => ?_) (fun hz t' => ?_)
        · exact br_f (by decide) (nm_r (nI_1 k) (ih (k + 1) (some k) t' (by omega) (fb_pick_lt hl ⟨hw, fb_and_or.mpr ⟨hz, hb⟩, ha⟩ ho)))
        · exact br_t rfl (nm_r (nI_1 k) (no (fun z => hz ⟨(fb_and_or.mp z.2.1).1, z.2.2⟩) t'))
      cases o with
      | none =>
        refine br_t (by decide) (opn ?_)
        show fb_size k < 10
        omega
      | some b =>
        have hb2 : b < k := ho.1
        have hbz := fb_size_le b
        refine br_f (nI_pos (n := b) (by omega)) ?_
        refine fy_size (S := k) (by omega) ?_
        refine fy_size (S := b) (by omega) ?_
        exact pk_le (fb_size b) (fb_size k) (fun hl => nm_r (nI_1 k) (ih (k + 1) (some b) t (by omega) (fb_pick_ge hl ho))) (fun hl => opn hl)
  exact ⟨2 ^ n + 1, go (2 ^ n) 0 none lb (by omega) (fun S hS => by omega)⟩
/-- -1 or the size -/
def fb_ansz : Option Nat → Int32
  | none => -1
  | some b => nI (fb_size b)
theorem fy_sizeOf {post : Int32 → Prop} {fn fs : Int32} {aM kp lb fr : Nat → Int32} : ∀ {o : Option Nat}, (∀ b, o = some b → b < 512) → post (fb_ansz o) → wpY_sizeOf post (fn, fs, aM, kp, lb, fr) (fb_ans o)
  | none, _, hp => br_f (by decide) hp
  | some b, hb, hp => br_t (nI_pos' (n := b) (by have := hb b rfl; omega)) (fy_size (S := b) (hb b rfl) hp)
theorem fx_sizeOrNone {post : Int32 → Prop} {fn fk : Int32} {aE t : Nat → Int32} : ∀ {o : Option Nat}, (∀ b, o = some b → b < 512) → post (fb_ansz o) → wpX_sizeOrNone post (fn, fk, aE, t) (fb_ans o)
  | none, _, hp => br_t rfl hp
  | some b, hb, hp => br_f (fb_ans_ne (hb b rfl)) (fx_size (S := b) (hb b rfl) hp)
theorem fb_pick_b {P : Nat → Prop} {n : Nat} (hn : n ≤ 9) {o : Option Nat} (h : fb_Pick P (2 ^ n) o) : ∀ b, o = some b → b < 512 := fun b hb => by
  subst hb
  exact fa_lt h.1 hn
theorem fy_tally {post : Int32 → SY → Prop} {e : Nat → Nat → Nat} {n W K : Nat} {aM kp fr : Nat → Int32} (hn : n ≤ 9) (hK : K < 2 ^ n) (hG : fb_G e n) (hE : fb_EY e aM) (hkp : fb_KP K kp) (hW : W < 512) (hp : ∀ (o : Option Nat) (t' : Nat → Int32), fb_Pick (fb_P e n 0 K) (2 ^ n) o → post (nI (fb_tal e n W K o)) (nI n, nI (2 ^ n), aM, kp, t', fr)) (lb : Nat → Int32) : wpY_tally post (nI n, nI (2 ^ n), aM, kp, lb, fr) (nI W) := by
  have hpw := fa_pw hn
  unfold wpY_tally wpY_least
  dsimp only
  refine fy_search (W := 0) (B := 0) hn hK hG hE hkp (by omega) (by omega) (fun o t1 ho => ?_) lb
  dsimp only
  rw [Nat.or_zero] at ho
  refine fy_sizeOf (fb_pick_b hn ho) ?_
  cases o with
  | none =>
    have go : ∀ (d k : Nat), k + d = 2 ^ n → wY_tally_10 post (nI W) (-1) (d + 1) 0 (nI k) (nI n) (nI (2 ^ n)) aM kp t1 fr := by
      intro d
      induction d with
      | zero =>
        intro k hk
        exact br_t (nI_le (by omega) (by omega)) (hp none t1 ho)
      | succ d ih =>
        intro k hk
        exact br_f (nI_ge (by omega) (by omega)) (br_t (by decide) (nm_r (nI_1 k) (ih (k + 1) (by omega))))
    exact ⟨2 ^ n + 1, go (2 ^ n) 0 (by omega)⟩
  | some b =>
    have hbz := fb_size_le b
    have go : ∀ (d k : Nat) (t : Nat → Int32), k + d = 2 ^ n → wY_tally_10 post (nI W) (nI (fb_size b)) (d + 1) (nI (fb_cnt (fb_Qb e n W K (fb_size b)) k)) (nI k) (nI n) (nI (2 ^ n)) aM kp t fr := by
      intro d
      induction d with
      | zero =>
        intro k t hk
        have ek : k = 2 ^ n := by omega
        subst ek
        exact br_t (nI_le (by omega) (by omega)) (hp (some b) t ho)
      | succ d ih =>
        intro k t hk
        have hkW : k &&& W < 512 := Nat.lt_of_le_of_lt Nat.and_le_left (by omega)
        have hsz := fb_size_le k
        have no : ¬ fb_Q e n W K (fb_size b) k → ∀ t : Nat → Int32, wY_tally_10 post (nI W) (nI (fb_size b)) (d + 1) (nI (fb_cnt (fb_Qb e n W K (fb_size b)) k)) (nI (k + 1)) (nI n) (nI (2 ^ n)) aM kp t fr := fun h t => by
          have := ih (k + 1) t (by omega)
          rw [fb_cnt_f (fb_Qb_f h)] at this
          exact this
        refine br_f (nI_ge (by omega) (by omega)) (br_f (nI_pos (by omega)) ?_)
        refine fy_size (S := k) (by omega) ?_
        refine pk_eq (fb_size k) (fb_size b) (fun hl => ?_) (fun hl => nm_r (nI_1 k) (no (fun z => hl z.2.2.1) t))
        refine pk_eq (k &&& W) W (fun hw => ?_) (fun hw => nm_r (nI_1 k) (no (fun z => hw z.1) t)) (nx_and k W)
        refine fy_open hn (by omega) hK hG hE hkp (fun hz ha t' => ?_) (fun hz t' => ?_)
        · refine br_f (by decide) (nm_r (nI_1 _) (nm_r (nI_1 k) ?_))
          have := ih (k + 1) t' (by omega)
          rw [fb_cnt_t (fb_Qb_t ⟨hw, hz, hl, ha⟩)] at this
          exact this
        · exact br_t rfl (nm_r (nI_1 k) (no (fun z => hz ⟨z.2.1, z.2.2.2⟩) t'))
    exact ⟨2 ^ n + 1, go (2 ^ n) 0 t1 (by omega)⟩
