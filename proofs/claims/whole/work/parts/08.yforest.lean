/-! ===== the reference's forest ===== -/
def fb_EY (e : Nat → Nat → Nat) (aM : Nat → Int32) : Prop := ∀ a b, a < 9 → b < 9 → aM (9 * a + b) = nI (e a b)
theorem fy_in {post : Int32 → Prop} {S v : Nat} {fn fs : Int32} {aM kp lb fr : Nat → Int32} (hS : S < 512) (hv : v < 9) (h1 : S.testBit v = true → post 1) (h0 : S.testBit v = false → post 0) : wpY_in post (fn, fs, aM, kp, lb, fr) (nI S) (nI v) := by
  show ((nI S >>> (nI v &&& 31)) &&& 1 = 1 → post 1) ∧ (¬ (nI S >>> (nI v &&& 31)) &&& 1 = 1 → post 0)
  rw [fa_bit (by omega) (by omega)]
  cases h : S.testBit v
  · exact br_f (by decide) (h0 h)
  · exact br_t rfl (h1 h)
theorem fy_size {post : Int32 → Prop} {S : Nat} {fn fs : Int32} {aM kp lb fr : Nat → Int32} (hS : S < 512) (hp : post (nI (fb_size S))) : wpY_size post (fn, fs, aM, kp, lb, fr) (nI S) := by
  refine ⟨10, ?_⟩
  have go : ∀ d j, j + d = 9 → wY_size_4 post (nI S) fn fs aM kp lb fr (d + 1) (nI (fb_cnt (fun i => S.testBit i) j)) (nI j) := by
    intro d
    induction d with
    | zero =>
      intro j hj
      have e9 : j = 9 := by omega
      subst e9
      exact br_t (by decide) hp
    | succ d ih =>
      intro j hj
      refine br_f (nI_ge (a := j) (b := 9) (by omega) (by omega)) (nm_r (e' := nI (fb_cnt (fun i => S.testBit i) (j + 1))) ?_ (nm_r (nI_1 j) (ih (j + 1) (by omega))))
      rw [fa_bit (by omega) (by omega), nI_add]
      rfl
  exact go 9 0 (by omega)
theorem fy_merge {post : Int32 → SY → Prop} {fn fs : Int32} {aM kp fr : Nat → Int32} {L : Nat → Nat} {u v : Nat} (hu : L u < 9) (hv : L v < 9) (hL : ∀ w, w < 9 → L w < 9) (hp : ∀ t' : Nat → Int32, (∀ w, w < 9 → t' w = nI (fb_mrg L u v w)) → post 1 (fn, fs, aM, kp, t', fr)) : ∀ (d j : Nat) (t : Nat → Int32), j + d = 9 → (∀ w, w < 9 → (w < j → t w = nI (fb_mrg L u v w)) ∧ (j ≤ w → t w = nI (L w))) → wY_merge_9 post (nI (L u)) (nI (L v)) fn fs (d + 1) (nI j) aM kp t fr := by
  intro d
  induction d with
  | zero =>
    intro j t hj ht
    have e9 : j = 9 := by omega
    subst e9
    exact br_t (by decide) (hp t (fun w hw => (ht w hw).1 hw))
  | succ d ih =>
    intro j t hj ht
    have hin : vp_in (nI j) 9 := vp_in_nI (by omega) (by omega)
    have hc : (nI j).toNatClampNeg = j := nI_clamp (by omega)
    have htj : t (nI j).toNatClampNeg = nI (L j) := by rw [hc]; exact (ht j (by omega)).2 (Nat.le_refl _)
    have hj9 := hL j (by omega)
    refine br_f (nI_ge (a := j) (b := 9) (by omega) (by omega)) ⟨hin, pk_eq (L j) (L v) (fun h => ⟨hin, fun t2 e2 x3 e3 => ?_⟩) (fun h x3 e3 => ?_) htj⟩
    · rw [e3, nI_1, e2, hc]
      refine ih (j + 1) _ (by omega) (fun w hw => ?_)
      by_cases z : w = j
      · subst z
        exact ⟨fun _ => by rw [pk_us, fb_mrg_t h], fun z => by omega⟩
      · rw [pk_un z]
        exact ⟨fun k => (ht w hw).1 (by omega), fun k => (ht w hw).2 (by omega)⟩
    · rw [e3, nI_1]
      refine ih (j + 1) _ (by omega) (fun w hw => ⟨fun k => ?_, fun k => (ht w hw).2 (by omega)⟩)
      by_cases z : w = j
      · subst z
        rw [fb_mrg_f h]; exact (ht w hw).2 (Nat.le_refl _)
      · exact (ht w hw).1 (by omega)
theorem fy_83 {post : Int32 → SY → Prop} {J25 J42 : Int32 → Int32 → Int32 → Int32 → (Nat → Int32) → (Nat → Int32) → (Nat → Int32) → (Nat → Int32) → Prop} {w : Nat → Nat → Nat} {u v : Nat} {x1 fn fs : Int32} {aM kp lb fr : Nat → Int32} {s : Nat × (Nat → Nat)} (hu : u < 9) (hv : v < 9) (hw : w u v ≤ 2) (hl : fb_Lab s lb) (go : ∀ (s' : Nat × (Nat → Nat)) (t' : Nat → Int32), fb_step w s (u, v) = s' → fb_Lab s' t' → J42 (nI s'.1) (nI (v + 1)) fn fs aM kp t' fr) : wY_surplus_83 post J25 J42 x1 (nI s.1) (nI u) (nI v) (nI (w u v)) fn fs aM kp lb fr := by
  have hiu : vp_in (nI u) 9 := vp_in_nI (by omega) (by omega)
  have hiv : vp_in (nI v) 9 := vp_in_nI (by omega) (by omega)
  have htu : lb (nI u).toNatClampNeg = nI (s.2 u) := by rw [nI_clamp (by omega)]; exact (hl u (by omega)).2
  have htv : lb (nI v).toNatClampNeg = nI (s.2 v) := by rw [nI_clamp (by omega)]; exact (hl v (by omega)).2
  have hu9 := (hl u (by omega)).1
  have hv9 := (hl v (by omega)).1
  refine pk_le (w u v) 0 (fun h0 => ?_) (fun h0 => ?_)
  · exact br_t (nI_le (a := w u v) (b := 0) (by omega) (by omega)) (nm_r (nI_1 v) (go s lb (fb_step_0 (by omega)) hl))
  · refine pk_eq u v (fun huv => ?_) (fun huv => ?_)
    · refine nm_r (nI_add s.1 (w u v)) ?_
      refine br_f (nI_ge (a := 0) (b := w u v) (by omega) (by omega)) (br_t (by rw [huv]) (nm_r (nI_1 v) ?_))
      exact go (s.1 + w u v, s.2) lb (fb_step_t (by omega) (by rw [huv])) hl
    · refine br_f (nI_ge (a := 0) (b := w u v) (by omega) (by omega)) (br_f (fun z => huv ((nI_eq (by omega) (by omega)).mp z)) ⟨hiu, hiv, ?_⟩)
      rw [htu, htv]
      refine pk_eq (s.2 u) (s.2 v) (fun hs => ?_) (fun hs => ⟨10, ?_⟩)
      · refine br_t rfl (nm_r (nI_add s.1 (w u v)) (nm_r (nI_1 v) ?_))
        exact go (s.1 + w u v, s.2) lb (fb_step_t (by omega) hs) hl
      · refine fy_merge (L := s.2) hu9 hv9 (fun x hx => (hl x hx).1) (fun t' ht' => ?_) 9 0 lb (by omega) (fun x hx => ⟨fun z => by omega, fun _ => (hl x hx).2⟩)
        refine br_f (by decide) (nm_r (e' := nI (s.1 + (w u v - 1))) (by rw [show (1 : Int32) = nI 1 from rfl, pk_sub (by omega), nI_add]) (nm_r (nI_1 v) ?_))
        refine go (s.1 + (w u v - 1), fb_mrg s.2 u v) t' (fb_step_f (by omega) hs) (fun x hx => ⟨?_, ht' x hx⟩)
        show fb_mrg s.2 u v x < 9
        unfold fb_mrg
        split
        · exact hu9
        · exact (hl x hx).1
theorem fb_mask_bit {n S i : Nat} (hS : S < 2 ^ n) (hi : i < n) : (2 ^ n - (S + 1)).testBit i = !S.testBit i := by
  rw [Nat.testBit_two_pow_sub_succ hS, decide_eq_true hi, Bool.true_and]
theorem fy_row {post : Int32 → SY → Prop} {J : Int32 → Int32 → Int32 → Int32 → (Nat → Int32) → (Nat → Int32) → (Nat → Int32) → (Nat → Int32) → Prop} {e : Nat → Nat → Nat} {n S u : Nat} {fs : Int32} {aM kp fr : Nat → Int32} (hn : n ≤ 9) (hS : S < 2 ^ n) (hG : fb_G e n) (hE : fb_EY e aM) (hu : u < n) : ∀ (d v : Nat) (s : Nat × (Nat → Nat)) (t : Nat → Int32), v + d = u + 1 → fb_Lab s t → (∀ t' : Nat → Int32, fb_Lab ((fb_row u v d).foldl (fb_step (fb_w e (2 ^ n - (S + 1)))) s) t' → J (nI ((fb_row u v d).foldl (fb_step (fb_w e (2 ^ n - (S + 1)))) s).1) (nI (u + 1)) (nI n) fs aM kp t' fr) → wY_surplus_42 post J (nI S) (nI u) (d + 1) (nI s.1) (nI v) (nI n) fs aM kp t fr := by
  intro d
  have h512 := fa_lt hS hn
  induction d with
  | zero =>
    intro v s t hv ht hJ
    exact br_t (nI_lt (by omega) (by omega)) (nm_r (nI_1 u) (hJ t ht))
  | succ d ih =>
    intro v s t hv ht hJ
    have e2 : 9 * nI u + nI v = nI (9 * u + v) := by
      rw [show (9 : Int32) = nI 9 from rfl, pk_mul, nI_add]
    have hin : vp_in (9 * nI u + nI v) 81 := by rw [e2]; exact vp_in_nI (by omega) (by omega)
    have e3 : aM (9 * nI u + nI v).toNatClampNeg = nI (e u v) := by
      rw [e2, nI_clamp (by omega), hE u v (by omega) (by omega)]
    have he2 := hG.2.1 u v
    have bu := fb_mask_bit hS hu
    have bv := fb_mask_bit hS (show v < n by omega)
    have hw2 : fb_w e (2 ^ n - (S + 1)) u v ≤ 2 := by unfold fb_w; split <;> omega
    have go : ∀ (s' : Nat × (Nat → Nat)) (t' : Nat → Int32), fb_step (fb_w e (2 ^ n - (S + 1))) s (u, v) = s' → fb_Lab s' t' → wY_surplus_42 post J (nI S) (nI u) (d + 1) (nI s'.1) (nI (v + 1)) (nI n) fs aM kp t' fr := by
      intro s' t' es hl
      refine ih (v + 1) s' t' (by omega) hl ?_
      rw [← es]
      exact hJ
    have key := fun m (hm : fb_w e (2 ^ n - (S + 1)) u v = m) => hm ▸ fy_83 (post := post) (J25 := J) (J42 := wY_surplus_42 post J (nI S) (nI u) (d + 1)) (x1 := nI S) (fn := nI n) (fs := fs) (aM := aM) (kp := kp) (fr := fr) (w := fb_w e (2 ^ n - (S + 1))) (u := u) (v := v) (by omega) (by omega) hw2 ht go
    refine br_f (nI_nlt (by omega) (by omega)) ?_
    refine fy_in h512 (by omega) (fun hb => ?_) (fun hb => ?_)
    · refine br_f (by decide) (key 0 ?_)
      unfold fb_w
      rw [bu, hb]; rfl
    · refine br_t rfl ?_
      refine fy_in h512 (by omega) (fun hc => ?_) (fun hc => ?_)
      · refine br_f (by decide) (key 0 ?_)
        unfold fb_w
        rw [bv, hc, Bool.not_true, Bool.and_false]; rfl
      · refine br_t rfl ⟨hin, ?_⟩
        rw [e3]
        refine key (e u v) ?_
        unfold fb_w
        rw [bu, bv, hb, hc]; rfl
theorem fy_all {post : Int32 → SY → Prop} {e : Nat → Nat → Nat} {n S : Nat} {fs : Int32} {aM kp fr : Nat → Int32} (hn : n ≤ 9) (hS : S < 2 ^ n) (hG : fb_G e n) (hE : fb_EY e aM) : ∀ (d u : Nat) (s : Nat × (Nat → Nat)) (t : Nat → Int32), u + d = n → fb_Lab s t → (∀ t' : Nat → Int32, post (nI ((fb_aY u d).foldl (fb_step (fb_w e (2 ^ n - (S + 1)))) s).1) (nI n, fs, aM, kp, t', fr)) → wY_surplus_25 post (nI S) (d + 1) (nI s.1) (nI u) (nI n) fs aM kp t fr := by
  intro d
  induction d with
  | zero =>
    intro u s t hu ht hp
    exact br_t (nI_le (by omega) (by omega)) (hp t)
  | succ d ih =>
    intro u s t hu ht hp
    refine br_f (nI_ge (by omega) (by omega)) (br_f (nI_ge (a := u) (b := 9) (by omega) (by omega)) ⟨u + 1 + 1, ?_⟩)
    refine fy_row hn hS hG hE (by omega) (u + 1) 0 s t (by omega) ht (fun t' ht' => ?_)
    refine ih (u + 1) _ t' (by omega) ht' (fun t2 => ?_)
    rw [← List.foldl_append]
    exact hp t2
theorem fy_init {post : Int32 → SY → Prop} {S : Nat} {fn fs : Int32} {aM kp fr : Nat → Int32} (hp : ∀ t' : Nat → Int32, (∀ w, w < 9 → t' w = nI w) → ∃ k, wY_surplus_25 post (nI S) k 0 0 fn fs aM kp t' fr) : ∀ (d j : Nat) (t : Nat → Int32), j + d = 9 → (∀ w, w < j → t w = nI w) → wY_surplus_4 post (nI S) 0 fn fs (d + 1) (nI j) aM kp t fr := by
  intro d
  induction d with
  | zero =>
    intro j t hj ht
    have e9 : j = 9 := by omega
    subst e9
    exact br_t (by decide) (hp t ht)
  | succ d ih =>
    intro j t hj ht
    have hc : (nI j).toNatClampNeg = j := nI_clamp (by omega)
    refine br_f (nI_ge (a := j) (b := 9) (by omega) (by omega)) ⟨vp_in_nI (by omega) (by omega), fun t2 e2 x3 e3 => ?_⟩
    rw [e3, nI_1, e2, hc]
    refine ih (j + 1) _ (by omega) (fun w hw => ?_)
    by_cases z : w = j
    · subst z; rw [pk_us]
    · rw [pk_un z]; exact ht w (by omega)
theorem fy_surplus {post : Int32 → SY → Prop} {e : Nat → Nat → Nat} {n S : Nat} {fs : Int32} {aM kp lb fr : Nat → Int32} (hn : n ≤ 9) (hS : S < 2 ^ n) (hG : fb_G e n) (hE : fb_EY e aM) (hp : ∀ t' : Nat → Int32, post (nI (fb_ex e n (2 ^ n - (S + 1)))) (nI n, fs, aM, kp, t', fr)) : wpY_surplus post (nI n, fs, aM, kp, lb, fr) (nI S) := by
  refine ⟨10, ?_⟩
  refine fy_init (fun t' ht' => ⟨n + 1, ?_⟩) 9 0 lb (by omega) (fun w hw => by omega)
  refine fy_all hn hS hG hE n 0 (0, fun x => x) t' (by omega) (fun w hw => ⟨hw, ht' w hw⟩) (fun t2 => ?_)
  have := fb_exY hG.1 hn (2 ^ n - (S + 1))
  unfold fb_run at this
  rw [this]
  exact hp t2
