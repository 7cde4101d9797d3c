/-! ===== the graph's own calls ===== -/
def fb_set (e : Nat → Nat → Nat) (x y m : Nat) : Nat → Nat → Nat := fun a b => if fb_dir x y a b = true then m else e a b
theorem fb_set_t {e : Nat → Nat → Nat} {x y m a b : Nat} (h : (a = x ∧ b = y) ∨ (a = y ∧ b = x)) : fb_set e x y m a b = m := if_pos (fb_dir_t.mpr h)
theorem fb_set_f {e : Nat → Nat → Nat} {x y m a b : Nat} (h : ¬ ((a = x ∧ b = y) ∨ (a = y ∧ b = x))) : fb_set e x y m a b = e a b := if_neg (fun z => h (fb_dir_t.mp z))
theorem fb_set_G {e : Nat → Nat → Nat} {n x y m : Nat} (hG : fb_G e n) (hx : x < n) (hy : y < n) (hm : m ≤ 2) : fb_G (fb_set e x y m) n := by
  refine ⟨fun a b => ?_, fun a b => ?_, fun a b h => ?_⟩
  · by_cases c : (a = x ∧ b = y) ∨ (a = y ∧ b = x)
    · rw [fb_set_t c, fb_set_t (by omega)]
    · rw [fb_set_f c, fb_set_f (by omega)]; exact hG.1 a b
  · by_cases c : (a = x ∧ b = y) ∨ (a = y ∧ b = x)
    · rw [fb_set_t c]; exact hm
    · rw [fb_set_f c]; exact hG.2.1 a b
  · by_cases c : (a = x ∧ b = y) ∨ (a = y ∧ b = x)
    · omega
    · rw [fb_set_f c] at h; exact hG.2.2 a b h
def fb_slot (x y : Nat) : Nat := if y < x then y * 9 + x else x * 9 + y
theorem fb_slot_c (x y : Nat) : (y < x ∧ fb_slot x y = y * 9 + x) ∨ (x ≤ y ∧ fb_slot x y = x * 9 + y) := by
  unfold fb_slot
  by_cases c : y < x
  · rw [if_pos c]; exact Or.inl ⟨c, rfl⟩
  · rw [if_neg c]; exact Or.inr ⟨by omega, rfl⟩
theorem fb_slot_v {e : Nat → Nat → Nat} {n x y : Nat} {aE : Nat → Int32} (hG : fb_G e n) (hE : fb_EX e aE) (hx : x < 9) (hy : y < 9) : aE (fb_slot x y) = nI (e x y) := by
  rcases fb_slot_c x y with ⟨c, h⟩ | ⟨c, h⟩
  · rw [h, hE y x hy hx, if_pos (by omega), hG.1]
  · rw [h, hE x y hx hy, if_pos c]
theorem fb_slot_set {e : Nat → Nat → Nat} {x y m : Nat} {aE : Nat → Int32} (hE : fb_EX e aE) (hx : x < 9) (hy : y < 9) : fb_EX (fb_set e x y m) (upd aE (fb_slot x y) (nI m)) := by
  intro a b ha hb
  have hs := fb_slot_c x y
  by_cases c : a * 9 + b = fb_slot x y
  · rw [c, pk_us, if_pos (by omega), fb_set_t (by omega)]
  · rw [pk_un c, hE a b ha hb]
    by_cases k : a ≤ b
    · rw [if_pos k, if_pos k, fb_set_f (by omega)]
    · rw [if_neg k, if_neg k]
theorem fb_EY_set {e : Nat → Nat → Nat} {x y m : Nat} {aM : Nat → Int32} (hE : fb_EY e aM) (hx : x < 9) (hy : y < 9) : fb_EY (fb_set e x y m) (upd (upd aM (9 * x + y) (nI m)) (9 * y + x) (nI m)) := by
  intro a b ha hb
  by_cases c : 9 * a + b = 9 * y + x
  · rw [c, pk_us, fb_set_t (by omega)]
  · rw [pk_un c]
    by_cases d : 9 * a + b = 9 * x + y
    · rw [d, pk_us, fb_set_t (by omega)]
    · rw [pk_un d, hE a b ha hb, fb_set_f (by omega)]
/-! ===== sums ===== -/
def fb_sm (f : Nat → Nat) : Nat → Nat
  | 0 => 0
  | k + 1 => fb_sm f k + f k
def fb_E (e : Nat → Nat → Nat) : Nat → Nat := fun k => if k / 9 ≤ k % 9 then e (k / 9) (k % 9) else 0
theorem fb_sm_add (f : Nat → Nat) (a : Nat) : ∀ d, fb_sm f (a + d) = fb_sm f a + fb_sm (fun i => f (a + i)) d
  | 0 => rfl
  | d + 1 => by
    show fb_sm f (a + d) + f (a + d) = fb_sm f a + (fb_sm (fun i => f (a + i)) d + f (a + d))
    rw [fb_sm_add f a d, Nat.add_assoc]
theorem fb_sm_cg {f g : Nat → Nat} : ∀ d, (∀ i, i < d → f i = g i) → fb_sm f d = fb_sm g d
  | 0, _ => rfl
  | d + 1, h => by
    show fb_sm f d + f d = fb_sm g d + g d
    rw [fb_sm_cg d (fun i hi => h i (by omega)), h d (by omega)]
theorem fb_sm_row (e : Nat → Nat → Nat) (u : Nat) : ∀ d, fb_sm (fun i => if u ≤ i then e u i else 0) d = fb_sum e (fb_row u u (d - u))
  | 0 => by rw [Nat.zero_sub]; rfl
  | d + 1 => by
    show fb_sm (fun i => if u ≤ i then e u i else 0) d + (if u ≤ d then e u d else 0) = _
    rw [fb_sm_row e u d]
    by_cases c : u ≤ d
    · rw [if_pos c, show d + 1 - u = d - u + 1 by omega, fb_row_snoc, show u + (d - u) = d by omega]
    · rw [if_neg c, show d + 1 - u = 0 by omega, show d - u = 0 by omega, Nat.add_zero]
theorem fb_sm_aX (e : Nat → Nat → Nat) (T : Nat) (hT : T = 9 * 9) : ∀ d u, u + d = 9 → fb_sm (fb_E e) T = fb_sm (fb_E e) (9 * u) + fb_sum e (fb_aX u d)
  | 0, u, h => by
    rw [show T = 9 * u by omega]
    exact (Nat.add_zero _).symm
  | d + 1, u, h => by
    have h1 := fb_sm_aX e T hT d (u + 1) (by omega)
    have h2 : fb_sm (fb_E e) (9 * (u + 1)) = fb_sm (fb_E e) (9 * u) + fb_sm (fun i => fb_E e (9 * u + i)) 9 := by
      rw [show 9 * (u + 1) = 9 * u + 9 by omega, fb_sm_add]
    have h3 : fb_sm (fun i => fb_E e (9 * u + i)) 9 = fb_sm (fun i => if u ≤ i then e u i else 0) 9 := fb_sm_cg 9 (fun i hi => by
      show (if (9 * u + i) / 9 ≤ (9 * u + i) % 9 then e ((9 * u + i) / 9) ((9 * u + i) % 9) else 0) = _
      rw [show (9 * u + i) / 9 = u by omega, show (9 * u + i) % 9 = i by omega])
    have h4 := fb_sm_row e u 9
    rw [show 9 - u = d + 1 by omega] at h4
    have h5 : fb_sum e (fb_aX u (d + 1)) = fb_sum e (fb_row u u (d + 1)) + fb_sum e (fb_aX (u + 1) d) := fb_sum_app e _ _
    rw [h1, h2, h3, h4, h5, Nat.add_assoc]
theorem fb_sm81 (e : Nat → Nat → Nat) : fb_sm (fb_E e) 81 = fb_sum e (fb_aX 0 9) := (fb_sm_aX e 81 (by omega) 9 0 (by omega)).trans (Nat.zero_add _)
theorem fb_row_0 {e : Nat → Nat → Nat} {n u : Nat} (hG : fb_G e n) (hu : n ≤ u) : ∀ d v, fb_sum e (fb_row u v d) = 0
  | 0, _ => rfl
  | d + 1, v => by
    show e u v + fb_sum e (fb_row u (v + 1) d) = 0
    rw [fb_row_0 hG hu d (v + 1)]
    rcases Nat.eq_zero_or_pos (e u v) with h | h
    · omega
    · have := hG.2.2 u v h; omega
theorem fb_aY_9 {e : Nat → Nat → Nat} {n : Nat} (hG : fb_G e n) : ∀ d, fb_sum e (fb_aY 0 (n + d)) = fb_sum e (fb_aY 0 n)
  | 0 => rfl
  | d + 1 => by
    show fb_sum e (fb_aY 0 (n + d + 1)) = _
    rw [fb_aY_snoc, fb_sum_app, fb_row_0 hG (by omega), fb_aY_9 hG d]
    rfl
def fb_tot (e : Nat → Nat → Nat) (n : Nat) : Nat := fb_sum e (fb_aY 0 n)
theorem fx_edges {post : Int32 → Prop} {e : Nat → Nat → Nat} {n : Nat} {fn fk : Int32} {aE t : Nat → Int32} (hn : n ≤ 9) (hG : fb_G e n) (hE : fb_EX e aE) (hp : post (nI (fb_tot e n))) : wpX_countEdges post (fn, fk, aE, t) := by
  have ht : fb_sm (fb_E e) 81 = fb_tot e n := by
    rw [fb_sm81, fb_sumXY hG.1, show (9 : Nat) = n + (9 - n) by omega, fb_aY_9 hG]
    rfl
  have go : ∀ d k, k + d = 81 → wX_countEdges_4 post fn fk aE t (d + 1) (nI (fb_sm (fb_E e) k)) (nI k) := by
    intro d
    induction d with
    | zero =>
      intro k hk
      have ek : k = 81 := by omega
      subst ek
      rw [ht]
      exact br_t (by decide) hp
    | succ d ih =>
      intro k hk
      refine br_f (nI_ge (a := k) (b := 81) (by omega) (by omega)) ⟨vp_in_nI (by omega) (by omega), nm_r (e' := nI (fb_sm (fb_E e) (k + 1))) ?_ (nm_r (nI_1 k) (ih (k + 1) (by omega)))⟩
      have h := hE (k / 9) (k % 9) (by omega) (by omega)
      rw [show k / 9 * 9 + k % 9 = k by omega] at h
      rw [nI_clamp (by omega), h, nI_add]
      rfl
  exact ⟨82, go 81 0 (by omega)⟩
theorem fy_total {post : Int32 → Prop} {e : Nat → Nat → Nat} {n : Nat} {fs : Int32} {aM kp lb fr : Nat → Int32} (hn : n ≤ 9) (hE : fb_EY e aM) (hp : post (nI (fb_tot e n))) : wpY_total post (nI n, fs, aM, kp, lb, fr) := by
  have row : ∀ (J : Int32 → Int32 → Prop) (u : Nat), u < n → ∀ d v a, v + d = u + 1 → J (nI (a + fb_sum e (fb_row u v d))) (nI (u + 1)) → wY_total_20 post J (nI u) (nI n) fs aM kp lb fr (d + 1) (nI a) (nI v) := by
    intro J u hu d
    induction d with
    | zero =>
      intro v a hv hJ
      exact br_t (nI_lt (by omega) (by omega)) (nm_r (nI_1 u) hJ)
    | succ d ih =>
      intro v a hv hJ
      have e2 : 9 * nI u + nI v = nI (9 * u + v) := by
        rw [show (9 : Int32) = nI 9 from rfl, pk_mul, nI_add]
      refine br_f (nI_nlt (by omega) (by omega)) ⟨by rw [e2]; exact vp_in_nI (by omega) (by omega), nm_r (e' := nI (a + e u v)) ?_ (nm_r (nI_1 v) (ih (v + 1) (a + e u v) (by omega) ?_))⟩
      · rw [e2, nI_clamp (by omega), hE u v (by omega) (by omega), nI_add]
      · rw [Nat.add_assoc]; exact hJ
  have rows : ∀ d u a, u + d = n → post (nI (a + fb_sum e (fb_aY u d))) → wY_total_4 post (nI n) fs aM kp lb fr (d + 1) (nI a) (nI u) := by
    intro d
    induction d with
    | zero =>
      intro u a hu hp
      exact br_t (nI_le (by omega) (by omega)) hp
    | succ d ih =>
      intro u a hu hp
      refine br_f (nI_ge (by omega) (by omega)) (br_f (nI_ge (a := u) (b := 9) (by omega) (by omega)) ⟨u + 1 + 1, ?_⟩)
      refine row _ u (by omega) (u + 1) 0 a (by omega) (ih (u + 1) _ (by omega) ?_)
      rw [Nat.add_assoc, ← fb_sum_app]
      exact hp
  refine ⟨n + 1, rows n 0 0 (by omega) ?_⟩
  rw [Nat.zero_add]
  exact hp
/-! ===== good vertices ===== -/
theorem fx_bad {post : Int32 → Prop} {n : Nat} {fk p : Int32} {aE t : Nat → Int32} (h : p < 0 ∨ nI n ≤ p) (hp : post 0) : wpX_isGood post (nI n, fk, aE, t) p := br_c (fun _ => hp) (fun z => br_t (h.resolve_left z) hp)
theorem fx_good {post : Int32 → Prop} {n x : Nat} {fk : Int32} {aE t : Nat → Int32} (hn : n ≤ 9) (hx : x < n) (hp : post 1) : wpX_isGood post (nI n, fk, aE, t) (nI x) := br_f (nI_pos (by omega)) (br_f (nI_ge hx (by omega)) hp)
theorem fy_bad {post : Int32 → Prop} {n : Nat} {fs p : Int32} {aM kp lb fr : Nat → Int32} (h : p < 0 ∨ nI n ≤ p) (hp : post 1) : wpY_bad post (nI n, fs, aM, kp, lb, fr) p := br_c (fun _ => hp) (fun z => br_t (h.resolve_left z) hp)
theorem fy_good {post : Int32 → Prop} {n x : Nat} {fs : Int32} {aM kp lb fr : Nat → Int32} (hn : n ≤ 9) (hx : x < n) (hp : post 0) : wpY_bad post (nI n, fs, aM, kp, lb, fr) (nI x) := br_f (nI_pos (by omega)) (br_f (nI_ge hx (by omega)) (br_t (nI_le (a := x) (b := 8) (by omega) (by omega)) hp))
theorem fb_vx (p : Int32) {n : Nat} (hn : n ≤ 9) : (p < 0 ∨ nI n ≤ p) ∨ ∃ x, x < n ∧ p = nI x := by
  rcases pk_ix p (n := n) (by omega) with h | h | h
  · exact Or.inl (Or.inl h)
  · exact Or.inl (Or.inr h)
  · exact Or.inr h
/-! ===== link ===== -/
theorem fx_slot {post : Int32 → Prop} {x y : Nat} {fn fk : Int32} {aE t : Nat → Int32} (hx : x < 9) (hy : y < 9) (hp : post (nI (fb_slot x y))) : wpX_slotOf post (fn, fk, aE, t) (nI x) (nI y) := by
  have e1 : nI y * 9 + nI x = nI (y * 9 + x) := by rw [show (9 : Int32) = nI 9 from rfl, pk_mul, nI_add]
  have e2 : nI x * 9 + nI y = nI (x * 9 + y) := by rw [show (9 : Int32) = nI 9 from rfl, pk_mul, nI_add]
  show (nI y < nI x → post (nI y * 9 + nI x)) ∧ (¬ nI y < nI x → post (nI x * 9 + nI y))
  rw [e1, e2]
  unfold fb_slot at hp
  refine pk_lt y x (fun h => ?_) (fun h => ?_)
  · rw [if_pos h] at hp; exact hp
  · rw [if_neg (by omega)] at hp; exact hp
theorem fx_link {post : Int32 → SX → Prop} {e : Nat → Nat → Nat} {n x y m : Nat} {fk : Int32} {aE t : Nat → Int32} (hn : n ≤ 9) (hG : fb_G e n) (hE : fb_EX e aE) (hx : x < n) (hy : y < n) (hm : m ≤ 2) (hp : post (nI (e x y)) (nI n, fk, upd aE (fb_slot x y) (nI m), t)) : wpX_link post (nI n, fk, aE, t) (nI x) (nI y) (nI m) := by
  have hs : fb_slot x y < 81 := by have := fb_slot_c x y; omega
  have hin : vp_in (nI (fb_slot x y)) 81 := vp_in_nI hs (by omega)
  have hc : (nI (fb_slot x y)).toNatClampNeg = fb_slot x y := nI_clamp (by omega)
  unfold wpX_link
  dsimp only
  refine fx_good hn hx (br_f (by decide) ?_)
  refine fx_good hn hy (br_f (by decide) (br_f (nI_pos (by omega)) (br_t (nI_le (a := m) (b := 2) hm (by omega)) ?_)))
  refine fx_slot (by omega) (by omega) ⟨hin, nm_r (e' := nI (e x y)) ?_ ⟨hin, nm_r (e' := upd aE (fb_slot x y) (nI m)) ?_ hp⟩⟩
  · rw [hc]; exact fb_slot_v hG hE (by omega) (by omega)
  · rw [hc]
theorem fy_link {post : Int32 → SY → Prop} {e : Nat → Nat → Nat} {n x y m : Nat} {fs : Int32} {aM kp lb fr : Nat → Int32} (hn : n ≤ 9) (hE : fb_EY e aM) (hx : x < n) (hy : y < n) (hm : m ≤ 2) (hp : post (nI (e x y)) (nI n, fs, upd (upd aM (9 * x + y) (nI m)) (9 * y + x) (nI m), kp, lb, fr)) : wpY_link post (nI n, fs, aM, kp, lb, fr) (nI x) (nI y) (nI m) := by
  have e1 : 9 * nI x + nI y = nI (9 * x + y) := by rw [show (9 : Int32) = nI 9 from rfl, pk_mul, nI_add]
  have e2 : 9 * nI y + nI x = nI (9 * y + x) := by rw [show (9 : Int32) = nI 9 from rfl, pk_mul, nI_add]
  have h1 : vp_in (9 * nI x + nI y) 81 := by rw [e1]; exact vp_in_nI (by omega) (by omega)
  have h2 : vp_in (9 * nI y + nI x) 81 := by rw [e2]; exact vp_in_nI (by omega) (by omega)
  have c1 : (9 * nI x + nI y).toNatClampNeg = 9 * x + y := by rw [e1]; exact nI_clamp (by omega)
  have c2 : (9 * nI y + nI x).toNatClampNeg = 9 * y + x := by rw [e2]; exact nI_clamp (by omega)
  unfold wpY_link
  dsimp only
  refine fy_good hn hx (br_t rfl ?_)
  refine fy_good hn hy (br_t rfl (br_f (nI_pos (by omega)) (br_t (nI_le (a := m) (b := 2) hm (by omega)) ⟨h1, ?_⟩)))
  refine nm_r (e' := nI (e x y)) ?_ ⟨h1, nm_r (e' := upd aM (9 * x + y) (nI m)) ?_ ⟨h2, nm_r (e' := upd (upd aM (9 * x + y) (nI m)) (9 * y + x) (nI m)) ?_ hp⟩⟩
  · rw [c1]; exact hE x y (by omega) (by omega)
  · rw [c1]
  · rw [c2]
/-! ===== ring ===== -/
def fb_r1 (e : Nat → Nat → Nat) (n v s i : Nat) : Nat → Nat → Nat := if e ((v + i * s) % n) ((v + i * s + s) % n) = 0 then fb_set e ((v + i * s) % n) ((v + i * s + s) % n) 1 else e
def fb_rs (n v s : Nat) : Nat → Nat → (Nat → Nat → Nat) → (Nat → Nat → Nat)
  | _, 0, e => e
  | i, d + 1, e => fb_rs n v s (i + 1) d (fb_r1 e n v s i)
theorem fb_r1_G {e : Nat → Nat → Nat} {n v s i : Nat} (hn : 0 < n) (hG : fb_G e n) : fb_G (fb_r1 e n v s i) n := by
  unfold fb_r1
  split
  · exact fb_set_G hG (Nat.mod_lt _ hn) (Nat.mod_lt _ hn) (by omega)
  · exact hG
theorem fb_rs_G {n v s : Nat} (hn : 0 < n) : ∀ d i e, fb_G e n → fb_G (fb_rs n v s i d e) n
  | 0, _, _, h => h
  | d + 1, i, e, h => fb_rs_G hn d (i + 1) _ (fb_r1_G hn h)
theorem fb_is {i s : Nat} (hi : i ≤ 12) (hs : s ≤ 8) : i * s ≤ 96 := Nat.mul_le_mul hi hs
theorem fx_ring {post : Int32 → SX → Prop} {n v s c : Nat} {fk : Int32} {t : Nat → Int32} (hn2 : 2 ≤ n) (hn : n ≤ 9) (hv : v < n) (hs : s ≤ 8) (hc : c ≤ 12) : ∀ (d i : Nat) (e : Nat → Nat → Nat) (aE : Nat → Int32), i + d = c → fb_G e n → fb_EX e aE → (∀ aE' : Nat → Int32, fb_EX (fb_rs n v s i d e) aE' → post (nI (fb_tot (fb_rs n v s i d e) n)) (nI n, fk, aE', t)) → wX_ring_44 post (nI s) (nI c) (nI n) fk (d + 1) (nI ((v + i * s) % n)) (nI i) aE t := by
  intro d
  induction d with
  | zero =>
    intro i e aE hi hG hE hp
    refine br_t (nI_le (by omega) (by omega)) ?_
    exact fx_edges hn hG hE (hp aE hE)
  | succ d ih =>
    intro i e aE hi hG hE hp
    have his := fb_is (i := i) (s := s) (by omega) hs
    have hx : (v + i * s) % n < n := Nat.mod_lt _ (by omega)
    have hy : (v + i * s + s) % n < n := Nat.mod_lt _ (by omega)
    have em : (nI ((v + i * s) % n) + nI s) - (nI ((v + i * s) % n) + nI s) / nI n * nI n = nI ((v + i * s + s) % n) := by
      rw [nI_add, pk_rem (by omega) (by omega) (by omega), Nat.mod_add_mod]
    have hsl : fb_slot ((v + i * s) % n) ((v + i * s + s) % n) < 81 := by have := fb_slot_c ((v + i * s) % n) ((v + i * s + s) % n); omega
    have hin : vp_in (nI (fb_slot ((v + i * s) % n) ((v + i * s + s) % n))) 81 := vp_in_nI hsl (by omega)
    have hcl : (nI (fb_slot ((v + i * s) % n) ((v + i * s + s) % n))).toNatClampNeg = fb_slot ((v + i * s) % n) ((v + i * s + s) % n) := nI_clamp (by omega)
    have hval := fb_slot_v hG hE (show (v + i * s) % n < 9 by omega) (show (v + i * s + s) % n < 9 by omega)
    have he2 := hG.2.1 ((v + i * s) % n) ((v + i * s + s) % n)
    have enx : v + (i + 1) * s = v + i * s + s := by rw [Nat.add_mul, Nat.one_mul, Nat.add_assoc]
    have go : ∀ aE' : Nat → Int32, fb_EX (fb_r1 e n v s i) aE' → wX_ring_44 post (nI s) (nI c) (nI n) fk (d + 1) (nI ((v + i * s + s) % n)) (nI (i + 1)) aE' t := fun aE' hE' => by
      have := ih (i + 1) (fb_r1 e n v s i) aE' (by omega) (fb_r1_G (by omega) hG) hE' hp
      rw [enx] at this
      exact this
    refine br_f (nI_ge (by omega) (by omega)) ⟨nI_ne0 (by omega) (by omega), nm_r em ?_⟩
    refine fx_slot (by omega) (by omega) ⟨hin, ?_⟩
    rw [hcl, hval]
    refine pk_eq (e ((v + i * s) % n) ((v + i * s + s) % n)) 0 (fun h => ⟨hin, nm_e (nm_r (nI_1 i) (go _ ?_))⟩) (fun h => nm_r (nI_1 i) (go _ ?_))
    · unfold fb_r1
      rw [if_pos h]
      exact fb_slot_set hE (by omega) (by omega)
    · unfold fb_r1
      rw [if_neg h]
      exact hE
theorem fy_ring {post : Int32 → SY → Prop} {n v s c : Nat} {fs : Int32} {kp lb fr : Nat → Int32} (hn2 : 2 ≤ n) (hn : n ≤ 9) (hv : v < n) (hs : s ≤ 8) (hc : c ≤ 12) : ∀ (d i : Nat) (e : Nat → Nat → Nat) (aM : Nat → Int32), i + d = c → fb_G e n → fb_EY e aM → (∀ aM' : Nat → Int32, fb_EY (fb_rs n v s i d e) aM' → post (nI (fb_tot (fb_rs n v s i d e) n)) (nI n, fs, aM', kp, lb, fr)) → wY_ring_41 post (nI v) (nI s) (nI c) (nI n) fs (d + 1) (nI i) aM kp lb fr := by
  intro d
  induction d with
  | zero =>
    intro i e aM hi hG hE hp
    refine br_t (nI_le (by omega) (by omega)) ?_
    exact fy_total hn hE (hp aM hE)
  | succ d ih =>
    intro i e aM hi hG hE hp
    have his := fb_is (i := i) (s := s) (by omega) hs
    have hx : (v + i * s) % n < n := Nat.mod_lt _ (by omega)
    have hy : (v + i * s + s) % n < n := Nat.mod_lt _ (by omega)
    have hn1 : (1 : Int32) ≤ nI n := nI_le (a := 1) (b := n) (by omega) (by omega)
    have hn0 : ¬ nI n = 0 := nI_ne0 (by omega) (by omega)
    have e1 : (nI v + nI i * nI s) - (nI v + nI i * nI s) / nI n * nI n = nI ((v + i * s) % n) := by
      rw [pk_mul, nI_add, pk_rem (by omega) (by omega) (by omega)]
    have e2 : (nI v + nI i * nI s + nI s) - (nI v + nI i * nI s + nI s) / nI n * nI n = nI ((v + i * s + s) % n) := by
      rw [pk_mul, nI_add, nI_add, pk_rem (by omega) (by omega) (by omega)]
    have go : ∀ aM' : Nat → Int32, fb_EY (fb_r1 e n v s i) aM' → wY_ring_41 post (nI v) (nI s) (nI c) (nI n) fs (d + 1) (nI (i + 1)) aM' kp lb fr := fun aM' hE' => ih (i + 1) (fb_r1 e n v s i) aM' (by omega) (fb_r1_G (by omega) hG) hE' hp
    refine br_f (nI_ge (by omega) (by omega)) (br_t hn1 ⟨hn0, ?_⟩)
    rw [e1]
    refine br_t hn1 ⟨hn0, ?_⟩
    rw [e2]
    unfold fb_r1 at go
    generalize (v + i * s) % n = x at hx go ⊢
    generalize (v + i * s + s) % n = y at hy go ⊢
    have he2 := hG.2.1 x y
    have k1 : 9 * nI x + nI y = nI (9 * x + y) := by rw [show (9 : Int32) = nI 9 from rfl, pk_mul, nI_add]
    have k2 : 9 * nI y + nI x = nI (9 * y + x) := by rw [show (9 : Int32) = nI 9 from rfl, pk_mul, nI_add]
    have h1 : vp_in (9 * nI x + nI y) 81 := by rw [k1]; exact vp_in_nI (by omega) (by omega)
    have h2 : vp_in (9 * nI y + nI x) 81 := by rw [k2]; exact vp_in_nI (by omega) (by omega)
    have c1 : (9 * nI x + nI y).toNatClampNeg = 9 * x + y := by rw [k1]; exact nI_clamp (by omega)
    have c2 : (9 * nI y + nI x).toNatClampNeg = 9 * y + x := by rw [k2]; exact nI_clamp (by omega)
    refine ⟨h1, ?_⟩
    rw [c1, c2, hE x y (by omega) (by omega)]
    refine pk_eq (e x y) 0 (fun h => ⟨h1, nm_e ⟨h2, nm_e (nm_r (nI_1 i) (go _ ?_))⟩⟩) (fun h => nm_r (nI_1 i) (go _ ?_))
    · rw [if_pos h]
      exact fb_EY_set hE (by omega) (by omega)
    · rw [if_neg h]
      exact hE
