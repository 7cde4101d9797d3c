/-! ===== cycles within a set ===== -/
def fb_dir (u v x y : Nat) : Bool := (decide (x = u) && decide (y = v)) || (decide (x = v) && decide (y = u))
theorem fb_dir_t {u v x y : Nat} : fb_dir u v x y = true ↔ (x = u ∧ y = v) ∨ (x = v ∧ y = u) := by
  unfold fb_dir; simp
theorem fb_dir_f {u v x y : Nat} : fb_dir u v x y = false ↔ ¬ ((x = u ∧ y = v) ∨ (x = v ∧ y = u)) := by
  rw [← fb_dir_t]; simp
theorem fb_dir_c (u v x y : Nat) : fb_dir u v x y = fb_dir u v y x := by
  cases h : fb_dir u v y x
  · rw [fb_dir_f] at h ⊢; omega
  · rw [fb_dir_t] at h ⊢; omega
/-- a and b hang together in S without the pair u, v -/
def fb_Conn (e : Nat → Nat → Nat) (n S u v a b : Nat) : Prop := ∀ f : Nat → Nat, (∀ x y, x < n → y < n → S.testBit x = true → S.testBit y = true → 0 < e x y → fb_dir u v x y = false → f x = f y) → f a = f b
theorem fb_sum_le {w w' : Nat → Nat → Nat} (h : ∀ a b, w' a b ≤ w a b) : ∀ es : List (Nat × Nat), fb_sum w' es ≤ fb_sum w es
  | [] => Nat.le_refl _
  | p :: es => Nat.add_le_add (h p.1 p.2) (fb_sum_le h es)
theorem fb_sum_lt {w w' : Nat → Nat → Nat} (h : ∀ a b, w' a b ≤ w a b) {p : Nat × Nat} (hl : w' p.1 p.2 < w p.1 p.2) : ∀ es : List (Nat × Nat), p ∈ es → fb_sum w' es < fb_sum w es
  | [], hp => absurd hp (by simp)
  | q :: es, hp => by
    show w' q.1 q.2 + fb_sum w' es < w q.1 q.2 + fb_sum w es
    rcases List.mem_cons.mp hp with rfl | hp
    · have := fb_sum_le h es; omega
    · have := fb_sum_lt h hl es hp
      have := h q.1 q.2
      omega
theorem fb_bX {n : Nat} (hn : n ≤ 9) : ∀ p : Nat × Nat, p ∈ fb_aX 0 n → p.1 < 9 ∧ p.2 < 9 := fun p hp => by have := fb_aX_mem.mp hp; omega
theorem fb_pos {w w' : Nat → Nat → Nat} {n : Nat} (hn : n ≤ 9) (h : ∀ a b, w' a b ≤ w a b) (p : Nat × Nat) (hp : p ∈ fb_aX 0 n) (hl : w' p.1 p.2 < w p.1 p.2) (hc : ∀ q : Nat × Nat, q ∈ fb_aX 0 n → w q.1 q.2 ≠ 0 → (fb_run w' (fb_aX 0 n)).2 q.1 = (fb_run w' (fb_aX 0 n)).2 q.2) : 0 < (fb_run w (fb_aX 0 n)).1 := by
  have I := fb_inv_run (w := w) (fb_bX hn)
  have I' := fb_inv_run (w := w') (fb_bX hn)
  have hf := fb_fix_eq I I' hc (fun q hq hw => I.2.2.1 q hq (by have := h q.1 q.2; omega))
  have h1 := I.2.1
  have h2 := I'.2.1
  have h3 := fb_sum_lt h hl _ hp
  omega
theorem fb_w_in {e : Nat → Nat → Nat} {M a b : Nat} (ha : M.testBit a = true) (hb : M.testBit b = true) : fb_w e M a b = e a b := by
  unfold fb_w; rw [ha, hb]; rfl
theorem fb_w_ne {e : Nat → Nat → Nat} {M a b : Nat} (h : fb_w e M a b ≠ 0) : M.testBit a = true ∧ M.testBit b = true ∧ e a b ≠ 0 ∧ fb_w e M a b = e a b := by
  unfold fb_w at h ⊢
  by_cases c : (M.testBit a && M.testBit b) = true
  · rw [if_pos c] at h ⊢
    rw [Bool.and_eq_true] at c
    exact ⟨c.1, c.2, h, rfl⟩
  · rw [if_neg c] at h; exact absurd rfl h
theorem fb_cyc_pos {e : Nat → Nat → Nat} {n S u v : Nat} (hn : n ≤ 9) (hs : ∀ a b, e a b = e b a) (hvu : v ≤ u) (hu : u < n) (Su : S.testBit u = true) (Sv : S.testBit v = true) (he : 0 < e u v) (h : 2 ≤ e u v ∨ fb_Conn e n S u v u v) : 0 < fb_ex e n S := by
  have hp : (v, u) ∈ fb_aX 0 n := fb_aX_mem.mpr (by dsimp only; omega)
  have hwp : fb_w e S v u = e u v := by rw [fb_w_in Sv Su, hs]
  have hd : fb_dir u v v u = true := fb_dir_t.mpr (Or.inr ⟨rfl, rfl⟩)
  rcases h with h | h
  · refine fb_pos (w' := fun a b => if fb_dir u v a b = true then fb_w e S a b - 1 else fb_w e S a b) hn (fun a b => ?_) (v, u) hp ?_ (fun q hq hw => ?_)
    · split <;> omega
    · dsimp only; rw [if_pos hd, hwp]; omega
    · refine (fb_inv_run (fb_bX hn)).2.2.1 q hq ?_
      by_cases c : fb_dir u v q.1 q.2 = true
      · rw [if_pos c]
        have e1 : fb_w e S q.1 q.2 = e u v := by
          rcases fb_dir_t.mp c with k | k
          · rw [k.1, k.2, fb_w_in Su Sv]
          · rw [k.1, k.2, hwp]
        omega
      · rw [if_neg c]; exact hw
  · refine fb_pos (w' := fun a b => if fb_dir u v a b = true then 0 else fb_w e S a b) hn (fun a b => ?_) (v, u) hp ?_ (fun q hq hw => ?_)
    · split <;> omega
    · dsimp only; rw [if_pos hd, hwp]; exact he
    · have I := fb_inv_run (w := fun a b => if fb_dir u v a b = true then 0 else fb_w e S a b) (fb_bX hn)
      by_cases c : fb_dir u v q.1 q.2 = true
      · have hc := h (fb_run (fun a b => if fb_dir u v a b = true then 0 else fb_w e S a b) (fb_aX 0 n)).2 (fun x y hx hy Sx Sy hxy hdd => by
          rcases Nat.le_total x y with hl | hl
          · refine I.2.2.1 (x, y) (fb_aX_mem.mpr (by dsimp only; omega)) ?_
            dsimp only
            rw [if_neg (by rw [hdd]; simp), fb_w_in Sx Sy]; omega
          · refine (I.2.2.1 (y, x) (fb_aX_mem.mpr (by dsimp only; omega)) ?_).symm
            dsimp only
            rw [if_neg (by rw [fb_dir_c, hdd]; simp), fb_w_in Sy Sx, hs]; omega)
        rcases fb_dir_t.mp c with k | k
        · rw [k.1, k.2]; exact hc
        · rw [k.1, k.2]; exact hc.symm
      · refine I.2.2.1 q hq ?_
        dsimp only
        rw [if_neg c]; exact hw
theorem fb_split {w : Nat → Nat → Nat} : ∀ es acc : List (Nat × Nat), (fb_run w acc).1 = 0 → 0 < (es.foldl (fb_step w) (fb_run w acc)).1 → ∃ es1 p es2, acc ++ es = es1 ++ p :: es2 ∧ w p.1 p.2 ≠ 0 ∧ (2 ≤ w p.1 p.2 ∨ (fb_run w es1).2 p.1 = (fb_run w es1).2 p.2)
  | [], acc, h0, h1 => by
    have h1' : 0 < (fb_run w acc).1 := h1
    omega
  | p :: es, acc, h0, h1 => by
    have er : fb_run w (acc ++ [p]) = fb_step w (fb_run w acc) p := by
      unfold fb_run; rw [List.foldl_append]; rfl
    by_cases c : (fb_run w (acc ++ [p])).1 = 0
    · have h1' : 0 < (es.foldl (fb_step w) (fb_run w (acc ++ [p]))).1 := by rw [er]; exact h1
      obtain ⟨es1, q, es2, k, k2⟩ := fb_split es (acc ++ [p]) c h1'
      refine ⟨es1, q, es2, ?_, k2⟩
      rw [← k, List.append_assoc]; rfl
    · rw [er] at c
      unfold fb_step at c
      by_cases c0 : w p.1 p.2 = 0
      · rw [if_pos c0] at c; exact absurd h0 c
      · rw [if_neg c0] at c
        refine ⟨acc, p, es, rfl, c0, ?_⟩
        by_cases c1 : (fb_run w acc).2 p.1 = (fb_run w acc).2 p.2
        · exact Or.inr c1
        · rw [if_neg c1] at c
          have c' : (fb_run w acc).1 + (w p.1 p.2 - 1) ≠ 0 := c
          omega
theorem fb_row_nd (u : Nat) : ∀ d v, (fb_row u v d).Pairwise (fun a b => a ≠ b)
  | 0, _ => List.Pairwise.nil
  | d + 1, v => by
    show ((u, v) :: fb_row u (v + 1) d).Pairwise _
    refine List.Pairwise.cons (fun q hq => ?_) (fb_row_nd u d (v + 1))
    have := fb_row_mem.mp hq
    intro k
    rw [← k] at this
    dsimp only at this
    omega
theorem fb_aX_nd : ∀ d u, (fb_aX u d).Pairwise (fun a b => a ≠ b)
  | 0, _ => List.Pairwise.nil
  | d + 1, u => by
    show (fb_row u u (d + 1) ++ fb_aX (u + 1) d).Pairwise _
    refine List.pairwise_append.mpr ⟨fb_row_nd u _ _, fb_aX_nd d (u + 1), fun a ha b hb => ?_⟩
    have h1 := fb_row_mem.mp ha
    have h2 := fb_aX_mem.mp hb
    intro k
    rw [k] at h1
    omega
theorem fb_pos_cyc {e : Nat → Nat → Nat} {n S : Nat} (hn : n ≤ 9) (hs : ∀ a b, e a b = e b a) (h : 0 < fb_ex e n S) : ∃ u v, v ≤ u ∧ u < n ∧ S.testBit u = true ∧ S.testBit v = true ∧ 0 < e u v ∧ (2 ≤ e u v ∨ fb_Conn e n S u v u v) := by
  obtain ⟨es1, ⟨a, b⟩, es2, k, hw, hc⟩ := fb_split (w := fb_w e S) (fb_aX 0 n) [] rfl h
  rw [List.nil_append] at k
  dsimp only at hw hc
  obtain ⟨Sa, Sb, he, hwe⟩ := fb_w_ne hw
  have hm := fb_aX_mem.mp (k ▸ List.mem_append_right es1 (List.mem_cons_self) : (a, b) ∈ fb_aX 0 n)
  dsimp only at hm
  refine ⟨b, a, hm.2.1, by omega, Sb, Sa, by rw [hs]; omega, ?_⟩
  rcases hc with hc | hc
  · left; rw [hs, ← hwe]; exact hc
  · right
    intro f hf
    have nd := fb_aX_nd n 0
    rw [k] at nd
    have nd2 := (List.pairwise_append.mp nd).2.2
    have hb1 : ∀ q : Nat × Nat, q ∈ es1 → q ∈ fb_aX 0 n := fun q hq => by rw [k]; exact List.mem_append_left _ hq
    have I := fb_inv_run (w := fb_w e S) (es := es1) (fun q hq => fb_bX hn q (hb1 q hq))
    have I4 := I.2.2.2 f (fun q hq hqw => by
      have hq1 := fb_aX_mem.mp (hb1 q hq)
      obtain ⟨S1, S2, he2, _⟩ := fb_w_ne hqw
      refine hf q.1 q.2 (by omega) (by omega) S1 S2 (by omega) (fb_dir_f.mpr (fun z => ?_))
      have hne : q ≠ (a, b) := nd2 q hq (a, b) (List.mem_cons_self)
      apply hne
      obtain ⟨q1, q2⟩ := q
      dsimp only at z hq1
      rw [Prod.mk.injEq]
      omega)
    have ea := I4 a (by omega)
    have eb := I4 b (by omega)
    rw [← ea, ← eb, hc]
