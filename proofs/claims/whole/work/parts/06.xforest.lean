/-! ===== the component's forest ===== -/
def fb_G (e : Nat → Nat → Nat) (n : Nat) : Prop := (∀ a b, e a b = e b a) ∧ (∀ a b, e a b ≤ 2) ∧ ∀ a b, 0 < e a b → a < n ∧ b < n
def fb_EX (e : Nat → Nat → Nat) (aE : Nat → Int32) : Prop := ∀ a b, a < 9 → b < 9 → aE (a * 9 + b) = nI (if a ≤ b then e a b else 0)
def fb_Lab (s : Nat × (Nat → Nat)) (t : Nat → Int32) : Prop := ∀ x, x < 9 → s.2 x < 9 ∧ t x = nI (s.2 x)
theorem fb_step_0 {w : Nat → Nat → Nat} {s : Nat × (Nat → Nat)} {u v : Nat} (h : w u v = 0) : fb_step w s (u, v) = s := if_pos h
theorem fb_step_t {w : Nat → Nat → Nat} {s : Nat × (Nat → Nat)} {u v : Nat} (h : w u v ≠ 0) (hl : s.2 u = s.2 v) : fb_step w s (u, v) = (s.1 + w u v, s.2) := by
  unfold fb_step
  rw [if_neg h, if_pos hl]
theorem fb_step_f {w : Nat → Nat → Nat} {s : Nat × (Nat → Nat)} {u v : Nat} (h : w u v ≠ 0) (hl : ¬ s.2 u = s.2 v) : fb_step w s (u, v) = (s.1 + (w u v - 1), fb_mrg s.2 u v) := by
  unfold fb_step
  rw [if_neg h, if_neg hl]
theorem fx_join {post : SX → Prop} {fn fk : Int32} {aE : Nat → Int32} {L : Nat → Nat} {u v : Nat} (hu : L u < 9) (hv : L v < 9) (hL : ∀ w, w < 9 → L w < 9) (hp : ∀ t' : Nat → Int32, (∀ w, w < 9 → t' w = nI (fb_mrg L u v w)) → post (fn, fk, aE, t')) : ∀ (d j : Nat) (t : Nat → Int32), j + d = 9 → (∀ w, w < 9 → (w < j → t w = nI (fb_mrg L u v w)) ∧ (j ≤ w → t w = nI (L w))) → wX_joinTrees_2 post (nI (L u)) (nI (L v)) fn fk (d + 1) (nI j) aE t := by
  intro d
  induction d with
  | zero =>
    intro j t hj ht
    have e9 : j = 9 := by omega
    subst e9
    exact br_t (by decide) (hp t (fun w hw => (ht w hw).1 hw))
  | succ d ih =>
    intro j t hj ht
    have hin : vp_in (nI j) 9 := vp_in_nI (by omega) (by omega)
    have hc : (nI j).toNatClampNeg = j := nI_clamp (by omega)
    have htj : t (nI j).toNatClampNeg = nI (L j) := by rw [hc]; exact (ht j (by omega)).2 (Nat.le_refl _)
    have hj9 := hL j (by omega)
    refine br_f (nI_ge (a := j) (b := 9) (by omega) (by omega)) ⟨hin, pk_eq (L j) (L v) (fun h => ⟨hin, fun t2 e2 x3 e3 => ?_⟩) (fun h x3 e3 => ?_) htj⟩
    · rw [e3, nI_1, e2, hc]
      refine ih (j + 1) _ (by omega) (fun w hw => ?_)
      by_cases z : w = j
      · subst z
        exact ⟨fun _ => by rw [pk_us, fb_mrg_t h], fun z => by omega⟩
      · rw [pk_un z]
        exact ⟨fun k => (ht w hw).1 (by omega), fun k => (ht w hw).2 (by omega)⟩
    · rw [e3, nI_1]
      refine ih (j + 1) _ (by omega) (fun w hw => ⟨fun k => ?_, fun k => (ht w hw).2 (by omega)⟩)
      by_cases z : w = j
      · subst z
        rw [fb_mrg_f h]; exact (ht w hw).2 (Nat.le_refl _)
      · exact (ht w hw).1 (by omega)
theorem fx_row {post : Int32 → SX → Prop} {J : Int32 → Int32 → Int32 → Int32 → (Nat → Int32) → (Nat → Int32) → Prop} {e : Nat → Nat → Nat} {n M u : Nat} {fk : Int32} {aE : Nat → Int32} (hn : n ≤ 9) (hM : M < 512) (hG : fb_G e n) (hE : fb_EX e aE) (hu : u < n) : ∀ (d v : Nat) (s : Nat × (Nat → Nat)) (t : Nat → Int32), v + d = n → u ≤ v → fb_Lab s t → (∀ t' : Nat → Int32, fb_Lab ((fb_row u v d).foldl (fb_step (fb_w e M)) s) t' → J (nI ((fb_row u v d).foldl (fb_step (fb_w e M)) s).1) (nI (u + 1)) (nI n) fk aE t') → wX_excessWithin_36 post J (nI M) (nI u) (d + 1) (nI s.1) (nI v) (nI n) fk aE t := by
  intro d
  induction d with
  | zero =>
    intro v s t hv huv ht hJ
    exact br_t (nI_le (by omega) (by omega)) (nm_r (nI_1 u) (hJ t ht))
  | succ d ih =>
    intro v s t hv huv ht hJ
    have e1 : ((1 : Int32) <<< (nI u &&& 31)) ||| ((1 : Int32) <<< (nI v &&& 31)) = nI (2 ^ u ||| 2 ^ v) := by
      rw [fa_shl (by omega), fa_shl (by omega), fa_or]
    have e2 : nI u * 9 + nI v = nI (u * 9 + v) := by
      rw [show (9 : Int32) = nI 9 from rfl, pk_mul, nI_add]
    have hin : vp_in (nI u * 9 + nI v) 81 := by rw [e2]; exact vp_in_nI (by omega) (by omega)
    have e3 : aE (nI u * 9 + nI v).toNatClampNeg = nI (e u v) := by
      rw [e2, nI_clamp (by omega), hE u v (by omega) (by omega), if_pos huv]
    have hP : 2 ^ u ||| 2 ^ v < 512 := Nat.or_lt_two_pow (n := 9) (fb_one (by omega)) (fb_one (by omega))
    have he2 := hG.2.1 u v
    have hiu : vp_in (nI u) 9 := vp_in_nI (by omega) (by omega)
    have hiv : vp_in (nI v) 9 := vp_in_nI (by omega) (by omega)
    have htu : t (nI u).toNatClampNeg = nI (s.2 u) := by rw [nI_clamp (by omega)]; exact (ht u (by omega)).2
    have htv : t (nI v).toNatClampNeg = nI (s.2 v) := by rw [nI_clamp (by omega)]; exact (ht v (by omega)).2
    have hu9 := (ht u (by omega)).1
    have hv9 := (ht v (by omega)).1
    have go : ∀ (s' : Nat × (Nat → Nat)) (t' : Nat → Int32), fb_step (fb_w e M) s (u, v) = s' → fb_Lab s' t' → wX_excessWithin_36 post J (nI M) (nI u) (d + 1) (nI s'.1) (nI (v + 1)) (nI n) fk aE t' := by
      intro s' t' es hl
      refine ih (v + 1) s' t' (by omega) (by omega) hl ?_
      rw [← es]
      exact hJ
    refine br_f (nI_ge (by omega) (by omega)) (nm_r e1 ⟨hin, nm_r e3 ?_⟩)
    by_cases c : (M.testBit u && M.testBit v) = true
    · have hw : fb_w e M u v = e u v := if_pos c
      refine br_t (by rw [nx_and, fa_pair.mpr c]) ?_
      refine pk_le (e u v) 0 (fun h0 => nm_r (nI_1 v) (go s t (fb_step_0 (by omega)) ht)) (fun h0 => ⟨hiu, hiv, ?_⟩)
      refine pk_eq (s.2 u) (s.2 v) (fun hl => ?_) (fun hl => ?_) htu htv
      · refine nm_r (nI_add s.1 (e u v)) (nm_r (nI_1 v) ?_)
        exact go (s.1 + e u v, s.2) t (by rw [fb_step_t (by omega) hl, hw]) ht
      · refine nm_r (e' := nI (s.1 + (e u v - 1))) (by rw [show (1 : Int32) = nI 1 from rfl, pk_sub (by omega), nI_add]) ⟨hiu, hiv, ?_⟩
        rw [htu, htv]
        refine ⟨10, ?_⟩
        refine fx_join (L := s.2) hu9 hv9 (fun w hw => (ht w hw).1) (fun t' ht' => ?_) 9 0 t (by omega) (fun w hw => ⟨fun z => by omega, fun _ => (ht w hw).2⟩)
        refine nm_r (nI_1 v) ?_
        refine go (s.1 + (e u v - 1), fb_mrg s.2 u v) t' (by rw [fb_step_f (by omega) hl, hw]) (fun w hw => ⟨?_, ht' w hw⟩)
        show fb_mrg s.2 u v w < 9
        unfold fb_mrg
        split
        · exact hu9
        · exact (ht w hw).1
    · have hw : fb_w e M u v = 0 := if_neg c
      refine br_f (fun z => ?_) (nm_r (nI_1 v) (go s t (fb_step_0 hw) ht))
      rw [nx_and, nI_eq (Nat.lt_of_le_of_lt Nat.and_le_right (by omega)) (by omega)] at z
      exact c (fa_pair.mp z)
theorem fx_all {post : Int32 → SX → Prop} {e : Nat → Nat → Nat} {n M : Nat} {fk : Int32} {aE : Nat → Int32} (hn : n ≤ 9) (hM : M < 512) (hG : fb_G e n) (hE : fb_EX e aE) : ∀ (d u : Nat) (s : Nat × (Nat → Nat)) (t : Nat → Int32), u + d = n → fb_Lab s t → (∀ t' : Nat → Int32, post (nI ((fb_aX u d).foldl (fb_step (fb_w e M)) s).1) (nI n, fk, aE, t')) → wX_excessWithin_25 post (nI M) (d + 1) (nI s.1) (nI u) (nI n) fk aE t := by
  intro d
  induction d with
  | zero =>
    intro u s t hu ht hp
    exact br_t (nI_le (by omega) (by omega)) (hp t)
  | succ d ih =>
    intro u s t hu ht hp
    refine br_f (nI_ge (by omega) (by omega)) ⟨d + 1 + 1, ?_⟩
    refine fx_row hn hM hG hE (by omega) (d + 1) u s t (by omega) (Nat.le_refl _) ht (fun t' ht' => ?_)
    refine ih (u + 1) _ t' (by omega) ht' (fun t2 => ?_)
    rw [← List.foldl_append]
    exact hp t2
theorem fx_init {post : Int32 → SX → Prop} {M : Nat} {fn fk : Int32} {aE : Nat → Int32} (hp : ∀ t' : Nat → Int32, (∀ w, w < 9 → t' w = nI w) → ∃ k, wX_excessWithin_25 post (nI M) k 0 0 fn fk aE t') : ∀ (d j : Nat) (t : Nat → Int32), j + d = 9 → (∀ w, w < j → t w = nI w) → wX_excessWithin_2 post (nI M) fn fk (d + 1) (nI j) aE t := by
  intro d
  induction d with
  | zero =>
    intro j t hj ht
    have e9 : j = 9 := by omega
    subst e9
    exact br_t (by decide) (hp t ht)
  | succ d ih =>
    intro j t hj ht
    have hc : (nI j).toNatClampNeg = j := nI_clamp (by omega)
    refine br_f (nI_ge (a := j) (b := 9) (by omega) (by omega)) ⟨vp_in_nI (by omega) (by omega), fun t2 e2 x3 e3 => ?_⟩
    rw [e3, nI_1, e2, hc]
    refine ih (j + 1) _ (by omega) (fun w hw => ?_)
    by_cases z : w = j
    · subst z; rw [pk_us]
    · rw [pk_un z]; exact ht w (by omega)
theorem fx_excess {post : Int32 → SX → Prop} {e : Nat → Nat → Nat} {n M : Nat} {fk : Int32} {aE t : Nat → Int32} (hn : n ≤ 9) (hM : M < 512) (hG : fb_G e n) (hE : fb_EX e aE) (hp : ∀ t' : Nat → Int32, post (nI (fb_ex e n M)) (nI n, fk, aE, t')) : wpX_excessWithin post (nI n, fk, aE, t) (nI M) := by
  refine ⟨10, ?_⟩
  refine fx_init (fun t' ht' => ⟨n + 1, ?_⟩) 9 0 t (by omega) (fun w hw => by omega)
  exact fx_all hn hM hG hE n 0 (0, fun x => x) t' (by omega) (fun w hw => ⟨hw, ht' w hw⟩) hp
theorem fb_row_le {w : Nat → Nat → Nat} (h : ∀ a b, w a b ≤ 2) (u : Nat) : ∀ d v, fb_sum w (fb_row u v d) ≤ 2 * d
  | 0, _ => by show 0 ≤ _; omega
  | d + 1, v => by
    have := fb_row_le h u d (v + 1)
    have := h u v
    show w u v + fb_sum w (fb_row u (v + 1) d) ≤ _
    omega
theorem fb_aX_le {w : Nat → Nat → Nat} (h : ∀ a b, w a b ≤ 2) : ∀ d u, d ≤ 9 → fb_sum w (fb_aX u d) ≤ 20 * d
  | 0, _, _ => by show 0 ≤ _; omega
  | d + 1, u, hd => by
    have h1 := fb_aX_le h d (u + 1) (by omega)
    have h2 := fb_row_le h u (d + 1) u
    show fb_sum w (fb_row u u (d + 1) ++ fb_aX (u + 1) d) ≤ _
    rw [fb_sum_app]
    omega
theorem fb_ex_le {e : Nat → Nat → Nat} {n : Nat} (hn : n ≤ 9) (hG : fb_G e n) (M : Nat) : fb_ex e n M ≤ 180 := by
  have I := (fb_inv_run (w := fb_w e M) (fb_bX hn)).2.1
  have h1 : fb_fix (fb_run (fb_w e M) (fb_aX 0 n)).2 ≤ 9 := fb_cnt_le _ _
  have h2 := fb_aX_le (w := fb_w e M) (fun a b => by
    unfold fb_w
    split
    · exact hG.2.1 a b
    · omega) n 0 hn
  unfold fb_ex
  omega
