/-! ===== a forest by labels, over a list of pairs with weights ===== -/
def fb_mrg (L : Nat → Nat) (u v : Nat) : Nat → Nat := fun x => if L x = L v then L u else L x
theorem fb_mrg_t {L : Nat → Nat} {u v x : Nat} (h : L x = L v) : fb_mrg L u v x = L u := if_pos h
theorem fb_mrg_f {L : Nat → Nat} {u v x : Nat} (h : ¬ L x = L v) : fb_mrg L u v x = L x := if_neg h
def fb_step (w : Nat → Nat → Nat) (s : Nat × (Nat → Nat)) (p : Nat × Nat) : Nat × (Nat → Nat) :=
  if w p.1 p.2 = 0 then s
  else if s.2 p.1 = s.2 p.2 then (s.1 + w p.1 p.2, s.2)
  else (s.1 + (w p.1 p.2 - 1), fb_mrg s.2 p.1 p.2)
def fb_sum (w : Nat → Nat → Nat) : List (Nat × Nat) → Nat
  | [] => 0
  | p :: l => w p.1 p.2 + fb_sum w l
theorem fb_sum_app (w : Nat → Nat → Nat) : ∀ l m : List (Nat × Nat), fb_sum w (l ++ m) = fb_sum w l + fb_sum w m
  | [], m => (Nat.zero_add _).symm
  | p :: l, m => by
    show w p.1 p.2 + fb_sum w (l ++ m) = w p.1 p.2 + fb_sum w l + fb_sum w m
    rw [fb_sum_app w l m]; omega
def fb_fix (L : Nat → Nat) : Nat := fb_cnt (fun x => decide (L x = x)) 9
def fb_Inv (w : Nat → Nat → Nat) (es : List (Nat × Nat)) (s : Nat × (Nat → Nat)) : Prop :=
  (∀ x, x < 9 → s.2 x < 9 ∧ s.2 (s.2 x) = s.2 x) ∧ s.1 + 9 = fb_sum w es + fb_fix s.2 ∧
  (∀ p : Nat × Nat, p ∈ es → w p.1 p.2 ≠ 0 → s.2 p.1 = s.2 p.2) ∧
  (∀ f : Nat → Nat, (∀ p : Nat × Nat, p ∈ es → w p.1 p.2 ≠ 0 → f p.1 = f p.2) → ∀ x, x < 9 → f (s.2 x) = f x)
theorem fb_inv0 (w : Nat → Nat → Nat) : fb_Inv w [] (0, fun x => x) := by
  refine ⟨fun x hx => ⟨hx, rfl⟩, ?_, fun p hp => absurd hp (by simp), fun f _ x _ => rfl⟩
  show 0 + 9 = 0 + fb_fix (fun x => x)
  have : fb_fix (fun x => x) = 9 := by simp [fb_fix, fb_cnt]
  omega
theorem fb_inv1 {w : Nat → Nat → Nat} {es : List (Nat × Nat)} {s : Nat × (Nat → Nat)} (h : fb_Inv w es s) (p : Nat × Nat) (h1 : p.1 < 9) (h2 : p.2 < 9) : fb_Inv w (es ++ [p]) (fb_step w s p) := by
  obtain ⟨t, L⟩ := s
  obtain ⟨u, v⟩ := p
  obtain ⟨ha, hb, hc, hd⟩ := h
  dsimp only at h1 h2 ha hb hc hd
  have hs : fb_sum w (es ++ [(u, v)]) = fb_sum w es + w u v := by
    rw [fb_sum_app]; show fb_sum w es + (w u v + 0) = _; omega
  unfold fb_step
  dsimp only
  by_cases h0 : w u v = 0
  · rw [if_pos h0]
    refine ⟨ha, by dsimp only; omega, fun q hq hw => ?_, fun f hf => hd f (fun q hq => hf q (List.mem_append_left _ hq))⟩
    rcases List.mem_append.mp hq with hq | hq
    · exact hc q hq hw
    · rw [List.mem_singleton.mp hq] at hw; exact absurd h0 hw
  · rw [if_neg h0]
    by_cases hl : L u = L v
    · rw [if_pos hl]
      refine ⟨ha, by dsimp only; omega, fun q hq hw => ?_, fun f hf => hd f (fun q hq => hf q (List.mem_append_left _ hq))⟩
      rcases List.mem_append.mp hq with hq | hq
      · exact hc q hq hw
      · rw [List.mem_singleton.mp hq]; exact hl
    · rw [if_neg hl]
      have hu := ha u h1
      have hv := ha v h2
      refine ⟨fun x hx => ?_, ?_, fun q hq hw => ?_, fun f hf x hx => ?_⟩
      · have hx' := ha x hx
        show fb_mrg L u v x < 9 ∧ fb_mrg L u v (fb_mrg L u v x) = fb_mrg L u v x
        by_cases c : L x = L v
        · rw [fb_mrg_t c]
          refine ⟨hu.1, ?_⟩
          rw [fb_mrg_f (by rw [hu.2]; exact hl), hu.2]
        · rw [fb_mrg_f c]
          refine ⟨hx'.1, ?_⟩
          rw [fb_mrg_f (by rw [hx'.2]; exact c), hx'.2]
      · have e : fb_fix (fb_mrg L u v) = fb_cnt (fun i => (fun x => decide (L x = x)) i && decide (i ≠ L v)) 9 := by
          apply fb_cnt_congr
          intro x hx
          show decide (fb_mrg L u v x = x) = (decide (L x = x) && decide (x ≠ L v))
          by_cases c : L x = L v
          · have n1 : ¬ fb_mrg L u v x = x := fun k => by
              rw [fb_mrg_t c] at k
              have k2 : L x = L u := by rw [← k]; exact hu.2
              exact hl (k2.symm.trans c)
            rw [decide_eq_false n1]
            by_cases k : L x = x
            · rw [decide_eq_false (fun z : x ≠ L v => z (k.symm.trans c)), Bool.and_false]
            · rw [decide_eq_false k, Bool.false_and]
          · by_cases k : L x = x
            · have h5 : x ≠ L v := fun z => c (k.trans z)
              have h6 : fb_mrg L u v x = x := (fb_mrg_f c).trans k
              rw [decide_eq_true h5, decide_eq_true h6, decide_eq_true k]; rfl
            · have h6 : ¬ fb_mrg L u v x = x := fun z => k ((fb_mrg_f c).symm.trans z)
              rw [decide_eq_false k, decide_eq_false h6, Bool.false_and]
        have hd2 := fb_cnt_del (fun x => decide (L x = x)) (L v) (by simpa using hv.2) 9 hv.1
        rw [← e] at hd2
        have hb' : t + 9 = fb_sum w es + fb_cnt (fun x => decide (L x = x)) 9 := hb
        show t + (w u v - 1) + 9 = fb_sum w (es ++ [(u, v)]) + fb_fix (fb_mrg L u v)
        rw [hs]
        omega
      · show fb_mrg L u v q.1 = fb_mrg L u v q.2
        rcases List.mem_append.mp hq with hq | hq
        · have k := hc q hq hw
          unfold fb_mrg
          rw [k]
        · rw [List.mem_singleton.mp hq]
          exact (fb_mrg_f hl).trans (fb_mrg_t rfl).symm
      · have hes := hd f (fun q hq => hf q (List.mem_append_left _ hq))
        have huv : f u = f v := hf (u, v) (List.mem_append_right _ (List.mem_singleton.mpr rfl)) h0
        show f (fb_mrg L u v x) = f x
        by_cases c : L x = L v
        · rw [fb_mrg_t c, hes u h1, huv, ← hes v h2, ← c, hes x hx]
        · rw [fb_mrg_f c, hes x hx]
def fb_run (w : Nat → Nat → Nat) (es : List (Nat × Nat)) : Nat × (Nat → Nat) := es.foldl (fb_step w) (0, fun x => x)
theorem fb_inv_fold {w : Nat → Nat → Nat} : ∀ (es acc : List (Nat × Nat)) (s : Nat × (Nat → Nat)), fb_Inv w acc s → (∀ p : Nat × Nat, p ∈ es → p.1 < 9 ∧ p.2 < 9) → fb_Inv w (acc ++ es) (es.foldl (fb_step w) s)
  | [], acc, s, h, _ => by rw [List.append_nil]; exact h
  | p :: es, acc, s, h, hb => by
    have h1 := hb p (List.mem_cons_self)
    have := fb_inv_fold es (acc ++ [p]) (fb_step w s p) (fb_inv1 h p h1.1 h1.2) (fun q hq => hb q (List.mem_cons_of_mem _ hq))
    rw [List.append_assoc] at this
    exact this
theorem fb_inv_run {w : Nat → Nat → Nat} {es : List (Nat × Nat)} (hb : ∀ p : Nat × Nat, p ∈ es → p.1 < 9 ∧ p.2 < 9) : fb_Inv w es (fb_run w es) := by
  have := fb_inv_fold es [] _ (fb_inv0 w) hb
  exact this
theorem fb_fix_le {L M : Nat → Nat} (hL : ∀ x, x < 9 → L x < 9 ∧ L (L x) = L x) (hM : ∀ x, x < 9 → M x < 9 ∧ M (M x) = M x) (h2 : ∀ x, x < 9 → L (M x) = L x) : fb_fix L ≤ fb_fix M := by
  apply fb_cnt_inj 9 M 9
  · intro i hi _
    exact ⟨(hM i hi).1, decide_eq_true (hM i hi).2⟩
  · intro i j hi hj pi pj e
    have ei : L i = i := of_decide_eq_true pi
    have ej : L j = j := of_decide_eq_true pj
    have e1 := h2 i hi
    rw [e, h2 j hj] at e1
    rw [← ei, ← ej]; exact e1.symm
theorem fb_fix_eq {w1 w2 : Nat → Nat → Nat} {es1 es2 : List (Nat × Nat)} {s1 s2 : Nat × (Nat → Nat)} (I1 : fb_Inv w1 es1 s1) (I2 : fb_Inv w2 es2 s2) (h12 : ∀ p : Nat × Nat, p ∈ es1 → w1 p.1 p.2 ≠ 0 → s2.2 p.1 = s2.2 p.2) (h21 : ∀ p : Nat × Nat, p ∈ es2 → w2 p.1 p.2 ≠ 0 → s1.2 p.1 = s1.2 p.2) : fb_fix s1.2 = fb_fix s2.2 := by
  have a := I1.2.2.2 s2.2 h12
  have b := I2.2.2.2 s1.2 h21
  exact Nat.le_antisymm (fb_fix_le I1.1 I2.1 b) (fb_fix_le I2.1 I1.1 a)
/-! ===== the two orders ===== -/
def fb_row (u : Nat) : Nat → Nat → List (Nat × Nat)
  | _, 0 => []
  | v, d + 1 => (u, v) :: fb_row u (v + 1) d
def fb_aX : Nat → Nat → List (Nat × Nat)
  | _, 0 => []
  | u, d + 1 => fb_row u u (d + 1) ++ fb_aX (u + 1) d
def fb_aY : Nat → Nat → List (Nat × Nat)
  | _, 0 => []
  | u, d + 1 => fb_row u 0 (u + 1) ++ fb_aY (u + 1) d
theorem fb_row_mem {u : Nat} {p : Nat × Nat} : ∀ {d v : Nat}, p ∈ fb_row u v d ↔ p.1 = u ∧ v ≤ p.2 ∧ p.2 < v + d
  | 0, v => by
    show p ∈ [] ↔ _
    simp <;> omega
  | d + 1, v => by
    show p ∈ (u, v) :: fb_row u (v + 1) d ↔ _
    rw [List.mem_cons, fb_row_mem]
    obtain ⟨a, b⟩ := p
    rw [Prod.mk.injEq]
    dsimp only
    omega
theorem fb_aX_mem {p : Nat × Nat} : ∀ {d u : Nat}, p ∈ fb_aX u d ↔ u ≤ p.1 ∧ p.1 ≤ p.2 ∧ p.2 < u + d
  | 0, u => by
    show p ∈ [] ↔ _
    simp <;> omega
  | d + 1, u => by
    show p ∈ fb_row u u (d + 1) ++ fb_aX (u + 1) d ↔ _
    rw [List.mem_append, fb_row_mem, fb_aX_mem]
    omega
theorem fb_aY_mem {p : Nat × Nat} : ∀ {d u : Nat}, p ∈ fb_aY u d ↔ u ≤ p.1 ∧ p.1 < u + d ∧ p.2 ≤ p.1
  | 0, u => by
    show p ∈ [] ↔ _
    simp <;> omega
  | d + 1, u => by
    show p ∈ fb_row u 0 (u + 1) ++ fb_aY (u + 1) d ↔ _
    rw [List.mem_append, fb_row_mem, fb_aY_mem]
    omega
theorem fb_row_snoc (w : Nat → Nat → Nat) (u : Nat) : ∀ d v, fb_sum w (fb_row u v (d + 1)) = fb_sum w (fb_row u v d) + w u (v + d)
  | 0, v => by show w u v + 0 = 0 + w u (v + 0); simp
  | d + 1, v => by
    have ih := fb_row_snoc w u d (v + 1)
    show w u v + fb_sum w (fb_row u (v + 1) (d + 1)) = w u v + fb_sum w (fb_row u (v + 1) d) + w u (v + (d + 1))
    rw [ih, show v + 1 + d = v + (d + 1) by omega]; omega
def fb_col (w : Nat → Nat → Nat) (c : Nat) : Nat → Nat → Nat
  | _, 0 => 0
  | u, d + 1 => w u c + fb_col w c (u + 1) d
theorem fb_row_col {w : Nat → Nat → Nat} (hs : ∀ a b, w a b = w b a) (a : Nat) : ∀ d v, fb_sum w (fb_row a v d) = fb_col w a v d
  | 0, _ => rfl
  | d + 1, v => by
    show w a v + fb_sum w (fb_row a (v + 1) d) = w v a + fb_col w a (v + 1) d
    rw [fb_row_col hs a d (v + 1), hs a v]
theorem fb_aX_snoc (w : Nat → Nat → Nat) : ∀ d u, fb_sum w (fb_aX u (d + 1)) = fb_sum w (fb_aX u d) + fb_col w (u + d) u (d + 1)
  | 0, u => by
    show fb_sum w (fb_row u u 1 ++ []) = 0 + (w u (u + 0) + 0)
    rw [List.append_nil]
    show w u u + 0 = _
    simp
  | d + 1, u => by
    have ih := fb_aX_snoc w d (u + 1)
    show fb_sum w (fb_row u u (d + 1 + 1) ++ fb_aX (u + 1) (d + 1)) = fb_sum w (fb_row u u (d + 1) ++ fb_aX (u + 1) d) + (w u (u + (d + 1)) + fb_col w (u + (d + 1)) (u + 1) (d + 1))
    rw [fb_sum_app, fb_sum_app, ih, fb_row_snoc, show u + 1 + d = u + (d + 1) by omega]
    omega
theorem fb_aY_snoc : ∀ d u, fb_aY u (d + 1) = fb_aY u d ++ fb_row (u + d) 0 (u + d + 1)
  | 0, u => by
    show fb_row u 0 (u + 1) ++ [] = [] ++ fb_row (u + 0) 0 (u + 0 + 1)
    simp
  | d + 1, u => by
    have ih := fb_aY_snoc d (u + 1)
    show fb_row u 0 (u + 1) ++ fb_aY (u + 1) (d + 1) = fb_row u 0 (u + 1) ++ fb_aY (u + 1) d ++ _
    rw [ih, List.append_assoc, show u + 1 + d = u + (d + 1) by omega]
theorem fb_sumXY {w : Nat → Nat → Nat} (hs : ∀ a b, w a b = w b a) : ∀ n, fb_sum w (fb_aX 0 n) = fb_sum w (fb_aY 0 n)
  | 0 => rfl
  | n + 1 => by
    rw [fb_aX_snoc, fb_aY_snoc, fb_sum_app, fb_sumXY hs n, fb_row_col hs]
    simp
theorem fb_runXY {w : Nat → Nat → Nat} (hs : ∀ a b, w a b = w b a) {n : Nat} (hn : n ≤ 9) : (fb_run w (fb_aY 0 n)).1 = (fb_run w (fb_aX 0 n)).1 := by
  have IX := fb_inv_run (w := w) (es := fb_aX 0 n) (fun p hp => by have := fb_aX_mem.mp hp; omega)
  have IY := fb_inv_run (w := w) (es := fb_aY 0 n) (fun p hp => by have := fb_aY_mem.mp hp; omega)
  have e := fb_fix_eq IX IY (fun p hp hw => by
    have h := fb_aX_mem.mp hp
    exact (IY.2.2.1 (p.2, p.1) (fb_aY_mem.mpr (by dsimp only; omega)) (by dsimp only; rw [hs]; exact hw)).symm) (fun p hp hw => by
    have h := fb_aY_mem.mp hp
    exact (IX.2.2.1 (p.2, p.1) (fb_aX_mem.mpr (by dsimp only; omega)) (by dsimp only; rw [hs]; exact hw)).symm)
  have hx := IX.2.1
  have hy := IY.2.1
  rw [fb_sumXY hs] at hx
  omega
/-! ===== what a set of vertices leaves too many ===== -/
def fb_w (e : Nat → Nat → Nat) (M : Nat) : Nat → Nat → Nat := fun a b => if (M.testBit a && M.testBit b) = true then e a b else 0
def fb_ex (e : Nat → Nat → Nat) (n M : Nat) : Nat := (fb_run (fb_w e M) (fb_aX 0 n)).1
theorem fb_w_sym {e : Nat → Nat → Nat} (hs : ∀ a b, e a b = e b a) (M : Nat) : ∀ a b, fb_w e M a b = fb_w e M b a := by
  intro a b
  unfold fb_w
  rw [hs a b, Bool.and_comm]
theorem fb_exY {e : Nat → Nat → Nat} (hs : ∀ a b, e a b = e b a) {n : Nat} (hn : n ≤ 9) (M : Nat) : (fb_run (fb_w e M) (fb_aY 0 n)).1 = fb_ex e n M := fb_runXY (fb_w_sym hs M) hn
