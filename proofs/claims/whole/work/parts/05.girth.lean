/-! ===== sizes ===== -/
def fb_size (S : Nat) : Nat := fb_cnt (fun i => S.testBit i) 9
theorem fb_size_le (S : Nat) : fb_size S ≤ 9 := fb_cnt_le _ _
theorem fb_bit_lt {S n i : Nat} (hS : S < 2 ^ n) (hi : S.testBit i = true) : i < n := by
  rcases Nat.lt_or_ge i n with h | h
  · exact h
  · have h2 : S < 2 ^ i := Nat.lt_of_lt_of_le hS (Nat.pow_le_pow_right (by omega) h)
    rw [Nat.testBit_lt_two_pow h2] at hi
    exact absurd hi (by simp)
theorem fb_size_n {S n : Nat} (hS : S < 2 ^ n) : fb_size S ≤ n :=
  Nat.le_trans (fb_cnt_inj n (fun i => i) 9 (fun _ => true) (fun _ _ hp => ⟨fb_bit_lt hS hp, rfl⟩) (fun _ _ _ _ _ _ h => h)) (fb_cnt_le _ _)
theorem fb_size_put (S y : Nat) : fb_size (S ||| 2 ^ y) ≤ fb_size S + 1 := by
  rcases Nat.lt_or_ge y 9 with hy | hy
  · have hd := fb_cnt_del (fun i => (S ||| 2 ^ y).testBit i) y (by simp [Nat.testBit_or]) 9 hy
    have hm : fb_cnt (fun i => (S ||| 2 ^ y).testBit i && decide (i ≠ y)) 9 ≤ fb_size S := fb_cnt_mono 9 (fun i _ hp => by
      try dsimp only at hp ⊢
      rw [Bool.and_eq_true, Nat.testBit_or, Nat.testBit_two_pow] at hp
      have h1 : i ≠ y := of_decide_eq_true hp.2
      rw [decide_eq_false (fun z : y = i => h1 z.symm), Bool.or_false] at hp
      exact hp.1)
    show fb_cnt (fun i => (S ||| 2 ^ y).testBit i) 9 ≤ _
    omega
  · have : fb_size (S ||| 2 ^ y) = fb_size S := fb_cnt_congr 9 (fun i hi => by
      rw [Nat.testBit_or, Nat.testBit_two_pow, decide_eq_false (by omega : ¬ y = i), Bool.or_false])
    omega
theorem fb_size_1 {S u : Nat} (hu : u < 9) (Su : S.testBit u = true) : 1 ≤ fb_size S := by
  have := fb_cnt_del (fun i => S.testBit i) u Su 9 hu
  show 1 ≤ fb_cnt (fun i => S.testBit i) 9
  omega
theorem fb_size_2 {S u v : Nat} (hu : u < 9) (hv : v < 9) (huv : v ≠ u) (Su : S.testBit u = true) (Sv : S.testBit v = true) : 2 ≤ fb_size S := by
  have h1 := fb_cnt_del (fun i => S.testBit i) u Su 9 hu
  have h2 := fb_cnt_del (fun i => S.testBit i && decide (i ≠ u)) v (by (try dsimp only); rw [Sv, decide_eq_true huv]; rfl) 9 hv
  show 2 ≤ fb_cnt (fun i => S.testBit i) 9
  omega
theorem fb_one {u n : Nat} (hu : u < n) : 2 ^ u < 2 ^ n := Nat.pow_lt_pow_right (by omega) hu
theorem fb_size_pow (u : Nat) : fb_size (2 ^ u) ≤ 1 := by
  have := fb_size_put 0 u
  rw [Nat.zero_or] at this
  have h0 : fb_size 0 = 0 := fb_cnt_zero 9 (fun i _ => Nat.zero_testBit i)
  omega
/-! ===== distances ===== -/
def fb_FI (e : Nat → Nat → Nat) (n u v r k : Nat) (F : Nat → Nat) : Prop :=
  F u = 0 ∧ (∀ x, x < 9 → x ≠ u → 0 < F x) ∧ (∀ x, x < 9 → F x ≤ r ∨ F x = 99) ∧
  (∀ x, x < 9 → F x ≠ 99 → ∃ S, S < 2 ^ n ∧ S.testBit u = true ∧ S.testBit x = true ∧ fb_size S ≤ F x + 1 ∧ fb_Conn e n S u v u x) ∧
  (∀ x y, x < 9 → y < 9 → 0 < e x y → fb_dir u v x y = false → F x + 1 < r → F y ≤ F x + 1) ∧
  (∀ x y, x < 9 → y < 9 → 9 * x + y < k → 0 < e x y → fb_dir u v x y = false → F x + 1 = r → F y ≤ r)
def fb_F0 (u : Nat) : Nat → Nat := fun x => if x = u then 0 else 99
theorem fb_FI_0 {e : Nat → Nat → Nat} {n u v : Nat} (hu : u < n) {F : Nat → Nat} (hF : ∀ x, x < 9 → F x = fb_F0 u x) (hu9 : u < 9) : fb_FI e n u v 1 0 F := by
  have h0 : F u = 0 := by rw [hF u hu9]; exact if_pos rfl
  have h1 : ∀ x, x < 9 → x ≠ u → F x = 99 := fun x hx hne => by rw [hF x hx]; exact if_neg hne
  refine ⟨h0, fun x hx hne => by rw [h1 x hx hne]; omega, fun x hx => ?_, fun x hx hne => ?_, fun x y _ _ _ _ h => by omega, fun x y _ _ h => by omega⟩
  · by_cases c : x = u
    · left; rw [c, h0]; omega
    · right; exact h1 x hx c
  · have c : x = u := Classical.byContradiction (fun c => hne (h1 x hx c))
    subst c
    exact ⟨2 ^ x, fb_one hu, Nat.testBit_two_pow_self, Nat.testBit_two_pow_self, by have := fb_size_pow x; omega, fun f _ => rfl⟩
theorem fb_FI_next {e : Nat → Nat → Nat} {n u v r : Nat} {F : Nat → Nat} (h : fb_FI e n u v r 81 F) : fb_FI e n u v (r + 1) 0 F := by
  obtain ⟨a, b, c, d, f, g⟩ := h
  refine ⟨a, b, fun x hx => (c x hx).imp (fun h => by omega) id, d, fun x y hx hy he hd hr => ?_, fun x y _ _ h => by omega⟩
  rcases Nat.lt_or_ge (F x + 1) r with hl | hl
  · exact f x y hx hy he hd hl
  · have := g x y hx hy (by omega) he hd (by omega)
    omega
theorem fb_FI_skip {e : Nat → Nat → Nat} {n u v r x y : Nat} {F : Nat → Nat} (hy : y < 9) (h : fb_FI e n u v r (9 * x + y) F) (hk : 0 < e x y → fb_dir u v x y = false → F x + 1 = r → F y ≤ r) : fb_FI e n u v r (9 * x + y + 1) F := by
  obtain ⟨a, b, c, d, f, g⟩ := h
  refine ⟨a, b, c, d, f, fun x' y' hx' hy' hl => ?_⟩
  by_cases z : 9 * x' + y' < 9 * x + y
  · exact g x' y' hx' hy' z
  · have ex : x' = x := by omega
    have ey : y' = y := by omega
    subst ex; subst ey
    exact hk
theorem fb_FI_put {e : Nat → Nat → Nat} {n u v r x y : Nat} {F F' : Nat → Nat} (hn : ∀ a b, 0 < e a b → a < n ∧ b < n) (hx : x < 9) (hy : y < 9) (h : fb_FI e n u v r (9 * x + y) F) (he : 0 < e x y) (hd : fb_dir u v x y = false) (hx2 : F x + 1 = r) (hy2 : r < F y) (hr : r < 99) (h1 : F' y = r) (h2 : ∀ z, z < 9 → z ≠ y → F' z = F z) (hu9 : u < 9) : fb_FI e n u v r (9 * x + y + 1) F' := by
  obtain ⟨a, b, c, d, f, g⟩ := h
  have hyu : u ≠ y := fun z => by rw [← z, a] at hy2; omega
  have hxy : x ≠ y := fun z => by rw [← z] at hy2; omega
  have hle : ∀ z, z < 9 → F' z ≤ F z := fun z hz => by
    by_cases q : z = y
    · subst q; omega
    · rw [h2 z hz q]; omega
  refine ⟨?_, fun z hz hne => ?_, fun z hz => ?_, fun z hz hne => ?_, fun p q hp hq hpq hdd hl => ?_, fun p q hp hq hk hpq hdd hl => ?_⟩
  · rw [h2 u hu9 hyu]; exact a
  · by_cases q : z = y
    · subst q; omega
    · rw [h2 z hz q]; exact b z hz hne
  · by_cases q : z = y
    · subst q; left; omega
    · rw [h2 z hz q]; exact c z hz
  · by_cases q : z = y
    · subst q
      obtain ⟨S, hS, Su, Sx, hsz, hc⟩ := d x hx (by omega)
      have hz2 := (hn x z he)
      refine ⟨S ||| 2 ^ z, Nat.or_lt_two_pow hS (fb_one hz2.2), by rw [Nat.testBit_or, Su]; rfl, by rw [Nat.testBit_or, Nat.testBit_two_pow_self, Bool.or_true], ?_, fun k hk => ?_⟩
      · have := fb_size_put S z; omega
      · have e1 := hc k (fun s t hs ht Ss St => hk s t hs ht (by rw [Nat.testBit_or, Ss]; rfl) (by rw [Nat.testBit_or, St]; rfl))
        have e2 := hk x z hz2.1 hz2.2 (by rw [Nat.testBit_or, Sx]; rfl) (by rw [Nat.testBit_or, Nat.testBit_two_pow_self, Bool.or_true]) he hd
        exact e1.trans e2
    · rw [h2 z hz q] at hne ⊢
      exact d z hz hne
  · by_cases z : p = y
    · subst z; omega
    · rw [h2 p hp z] at hl ⊢
      have := f p q hp hq hpq hdd hl
      have := hle q hq
      omega
  · by_cases z : p = y
    · subst z; omega
    · rw [h2 p hp z] at hl
      have hq2 := hle q hq
      by_cases w : 9 * p + q < 9 * x + y
      · have := g p q hp hq w hpq hdd hl
        omega
      · have ex : p = x := by omega
        have ey : q = y := by omega
        subst ey
        omega
theorem fb_far_le {e : Nat → Nat → Nat} {n u v k : Nat} {F : Nat → Nat} (hn : n ≤ 9) (hs : ∀ a b, e a b = e b a) (h : fb_FI e n u v n k F) {S : Nat} (hS : S < 2 ^ n) (Su : S.testBit u = true) (Sv : S.testBit v = true) (hc : fb_Conn e n S u v u v) : F v + 1 ≤ fb_size S := by
  obtain ⟨a, _, _, _, f, _⟩ := h
  have hu := fb_bit_lt hS Su
  have hv := fb_bit_lt hS Sv
  have hsn := fb_size_n hS
  have hs1 : 1 ≤ fb_size S := fb_size_1 (by omega) Su
  have key : ∀ j, j + 1 ≤ fb_size S → F v ≤ j ∨ j + 1 ≤ fb_cnt (fun x => S.testBit x && decide (F x ≤ j)) 9 := by
    intro j
    induction j with
    | zero =>
      intro _
      right
      have := fb_cnt_del (fun x => S.testBit x && decide (F x ≤ 0)) u (by (try dsimp only); rw [Su, decide_eq_true (by omega)]; rfl) 9 (by omega)
      omega
    | succ j ih =>
      intro hj
      by_cases hvj : F v ≤ j + 1
      · exact Or.inl hvj
      · right
        have h1 : j + 1 ≤ fb_cnt (fun x => S.testBit x && decide (F x ≤ j)) 9 := (ih (by omega)).resolve_left (by omega)
        rcases Nat.lt_or_ge (fb_cnt (fun x => S.testBit x && decide (F x ≤ j + 1)) 9) (j + 1 + 1) with hl | hl
        · exfalso
          have hcl := fb_cnt_same (p := fun x => S.testBit x && decide (F x ≤ j)) (q := fun x => S.testBit x && decide (F x ≤ j + 1)) 9 (fun i _ hp => by
            try dsimp only at hp ⊢
            rw [Bool.and_eq_true] at hp ⊢
            have := of_decide_eq_true hp.2
            exact ⟨hp.1, decide_eq_true (by omega)⟩) (by omega)
          have up : ∀ x y, x < n → y < n → S.testBit y = true → 0 < e x y → fb_dir u v x y = false → F x ≤ j → F y ≤ j := by
            intro x y hx hy Sy hxy hd hxj
            have h2 := f x y (by omega) (by omega) hxy hd (by omega)
            have h3 := hcl y (by omega) (by (try dsimp only); rw [Sy, decide_eq_true (by omega)]; rfl)
            try dsimp only at h3
            rw [Bool.and_eq_true] at h3
            exact of_decide_eq_true h3.2
          have hf := hc (fun x => if F x ≤ j then 1 else 0) (fun x y hx hy Sx Sy hxy hd => by
            try dsimp only
            have h2 := up x y hx hy Sy hxy hd
            have h3 := up y x hy hx Sx (by rw [hs]; exact hxy) (by rw [fb_dir_c]; exact hd)
            by_cases c : F x ≤ j
            · rw [if_pos c, if_pos (h2 c)]
            · rw [if_neg c, if_neg (fun z => c (h3 z))])
          try dsimp only at hf
          rw [if_pos (by omega), if_neg (by omega)] at hf
          omega
        · exact hl
  rcases key (fb_size S - 1) (by omega) with h1 | h1
  · omega
  · have hcl := fb_cnt_same (p := fun x => S.testBit x && decide (F x ≤ fb_size S - 1)) (q := fun x => S.testBit x) 9 (fun i _ hp => by
      try dsimp only at hp ⊢
      rw [Bool.and_eq_true] at hp
      exact hp.1) (by show fb_size S ≤ _; omega)
    have h3 := hcl v (by omega) Sv
    try dsimp only at h3
    rw [Bool.and_eq_true] at h3
    have := of_decide_eq_true h3.2
    omega
/-! ===== the girth ===== -/
def fb_Has (e : Nat → Nat → Nat) (n r : Nat) : Prop := ∃ S, S < 2 ^ n ∧ 0 < fb_ex e n S ∧ fb_size S ≤ r
def fb_Girth (e : Nat → Nat → Nat) (n r : Nat) : Prop := (0 < r → fb_Has e n r) ∧ ∀ S, S < 2 ^ n → 0 < fb_ex e n S → 0 < r ∧ r ≤ fb_size S
theorem fb_girth_u {e : Nat → Nat → Nat} {n r s : Nat} (h : fb_Girth e n r) (k : fb_Girth e n s) : r = s := by
  have a : 0 < r → 0 < s ∧ s ≤ r := fun hr => by
    obtain ⟨S, hS, hx, hz⟩ := h.1 hr
    have := k.2 S hS hx
    omega
  have b : 0 < s → 0 < r ∧ r ≤ s := fun hr => by
    obtain ⟨S, hS, hx, hz⟩ := k.1 hr
    have := h.2 S hS hx
    omega
  omega
def fb_Cyc (e : Nat → Nat → Nat) (n S u v : Nat) : Prop := S < 2 ^ n ∧ S.testBit u = true ∧ S.testBit v = true ∧ 0 < e u v ∧ (2 ≤ e u v ∨ fb_Conn e n S u v u v)
def fb_Len (e : Nat → Nat → Nat) (n u v l : Nat) : Prop := (0 < l → fb_Has e n l) ∧ ∀ S, fb_Cyc e n S u v → 0 < l ∧ l ≤ fb_size S
def fb_GI (e : Nat → Nat → Nat) (n u v r : Nat) : Prop := (0 < r → fb_Has e n r) ∧ ∀ S a b, b ≤ a → (a < u ∨ (a = u ∧ b < v)) → fb_Cyc e n S a b → 0 < r ∧ r ≤ fb_size S
theorem fb_GI_end {e : Nat → Nat → Nat} {n r : Nat} (hn : n ≤ 9) (hs : ∀ a b, e a b = e b a) (h : fb_GI e n n 0 r) : fb_Girth e n r :=
  ⟨h.1, fun S hS hx => by
    obtain ⟨u, v, hvu, hu, Su, Sv, he, hc⟩ := fb_pos_cyc hn hs hx
    exact h.2 S u v hvu (Or.inl hu) ⟨hS, Su, Sv, he, hc⟩⟩
theorem fb_GI_row {e : Nat → Nat → Nat} {n u r : Nat} (h : fb_GI e n u (u + 1) r) : fb_GI e n (u + 1) 0 r :=
  ⟨h.1, fun S a b hba hd hc => h.2 S a b hba (by omega) hc⟩
theorem fb_GI_0 (e : Nat → Nat → Nat) (n : Nat) : fb_GI e n 0 0 0 :=
  ⟨fun h => absurd h (by omega), fun S a b hba hd => by omega⟩
def fb_min (r l : Nat) : Nat := if l = 0 then r else if r = 0 then l else if r ≤ l then r else l
theorem fb_GI_step {e : Nat → Nat → Nat} {n u v r l : Nat} (h : fb_GI e n u v r) (hl : fb_Len e n u v l) : fb_GI e n u (v + 1) (fb_min r l) := by
  have hm : (fb_min r l = r ∧ (l = 0 ∨ (0 < r ∧ r ≤ l))) ∨ (fb_min r l = l ∧ 0 < l ∧ (r = 0 ∨ l < r)) := by
    unfold fb_min
    split
    · left; exact ⟨rfl, by omega⟩
    · split
      · right; exact ⟨rfl, by omega, by omega⟩
      · split
        · left; exact ⟨rfl, by omega⟩
        · right; exact ⟨rfl, by omega, by omega⟩
  refine ⟨fun h0 => ?_, fun S a b hba hd hc => ?_⟩
  · rcases hm with ⟨e1, _⟩ | ⟨e1, _⟩
    · rw [e1] at h0 ⊢; exact h.1 h0
    · rw [e1] at h0 ⊢; exact hl.1 h0
  · by_cases z : a < u ∨ (a = u ∧ b < v)
    · have := h.2 S a b hba z hc
      omega
    · have ea : a = u := by omega
      have eb : b = v := by omega
      subst ea; subst eb
      have := hl.2 S hc
      omega
theorem fb_len_0 {e : Nat → Nat → Nat} {n u v : Nat} (h : e u v = 0) : fb_Len e n u v 0 :=
  ⟨fun h => absurd h (by omega), fun S hc => by have := hc.2.2.2.1; omega⟩
theorem fb_len_1 {e : Nat → Nat → Nat} {n u : Nat} (hn : n ≤ 9) (hs : ∀ a b, e a b = e b a) (hu : u < n) (h : 0 < e u u) : fb_Len e n u u 1 :=
  ⟨fun _ => ⟨2 ^ u, fb_one hu, fb_cyc_pos hn hs (Nat.le_refl u) hu Nat.testBit_two_pow_self Nat.testBit_two_pow_self h (Or.inr (fun _ _ => rfl)), fb_size_pow u⟩,
   fun S hc => ⟨by omega, fb_size_1 (by omega) hc.2.1⟩⟩
theorem fb_len_2 {e : Nat → Nat → Nat} {n u v : Nat} (hn : n ≤ 9) (hs : ∀ a b, e a b = e b a) (hu : u < n) (hv : v < u) (h : e u v = 2) : fb_Len e n u v 2 :=
  ⟨fun _ => ⟨2 ^ u ||| 2 ^ v, Nat.or_lt_two_pow (fb_one hu) (fb_one (by omega)), fb_cyc_pos hn hs (by omega : v ≤ u) hu (by rw [Nat.testBit_or, Nat.testBit_two_pow_self]; rfl) (by rw [Nat.testBit_or, Nat.testBit_two_pow_self, Bool.or_true]) (by omega) (Or.inl (by omega)), by
      have := fb_size_put (2 ^ u) v
      have := fb_size_pow u
      omega⟩,
   fun S hc => ⟨by omega, fb_size_2 (u := u) (v := v) (by omega) (by omega) (by omega) hc.2.1 hc.2.2.1⟩⟩
theorem fb_len_w {e : Nat → Nat → Nat} {n u v k : Nat} {F : Nat → Nat} (hn : n ≤ 9) (hs : ∀ a b, e a b = e b a) (hu : u < n) (hv : v < u) (h : e u v = 1) (hF : fb_FI e n u v n k F) : (F v = 99 → fb_Len e n u v 0) ∧ (F v ≠ 99 → 0 < F v ∧ F v < 99 ∧ fb_Len e n u v (F v + 1)) := by
  have hlow : ∀ S, fb_Cyc e n S u v → F v + 1 ≤ fb_size S := fun S hc =>
    fb_far_le hn hs hF hc.1 hc.2.1 hc.2.2.1 (hc.2.2.2.2.resolve_left (by omega))
  refine ⟨fun h9 => ⟨fun h => absurd h (by omega), fun S hc => ?_⟩, fun h9 => ⟨hF.2.1 v (by omega) (by omega), ?_, fun _ => ?_, fun S hc => ⟨by omega, hlow S hc⟩⟩⟩
  · have h1 := hlow S hc
    have h2 := fb_size_le S
    omega
  · rcases hF.2.2.1 v (by omega) with h1 | h1
    · omega
    · exact absurd h1 h9
  · obtain ⟨S, hS, Su, Sv, hz, hc⟩ := hF.2.2.2.1 v (by omega) h9
    exact ⟨S, hS, fb_cyc_pos hn hs (by omega : v ≤ u) hu Su Sv (by omega) (Or.inr hc), hz⟩
/-! ===== the first smallest set ===== -/
def fb_Pick (P : Nat → Prop) (N : Nat) : Option Nat → Prop
  | none => ∀ S, S < N → ¬ P S
  | some b => b < N ∧ P b ∧ (∀ S, S < b → P S → fb_size b < fb_size S) ∧ ∀ S, S < N → P S → fb_size b ≤ fb_size S
theorem fb_pick_u {P Q : Nat → Prop} {N : Nat} (h : ∀ S, S < N → (P S ↔ Q S)) : ∀ {o p : Option Nat}, fb_Pick P N o → fb_Pick Q N p → o = p
  | none, none, _, _ => rfl
  | none, some b, ho, hp => absurd ((h b hp.1).mpr hp.2.1) (ho b hp.1)
  | some b, none, ho, hp => absurd ((h b ho.1).mp ho.2.1) (hp b ho.1)
  | some b, some c, ho, hp => by
    have h1 := ho.2.2.2 c hp.1 ((h c hp.1).mpr hp.2.1)
    have h2 := hp.2.2.2 b ho.1 ((h b ho.1).mp ho.2.1)
    have h3 : ¬ b < c := fun z => by have := hp.2.2.1 b z ((h b ho.1).mp ho.2.1); omega
    have h4 : ¬ c < b := fun z => by have := ho.2.2.1 c z ((h c hp.1).mpr hp.2.1); omega
    rw [show b = c by omega]
theorem fb_pick_no {P : Nat → Prop} {k : Nat} (h : ¬ P k) : ∀ {o : Option Nat}, fb_Pick P k o → fb_Pick P (k + 1) o
  | none, ho => fun S hS hp => by
    by_cases z : S < k
    · exact ho S z hp
    · rw [show S = k by omega] at hp; exact h hp
  | some b, ho => ⟨by have := ho.1; omega, ho.2.1, ho.2.2.1, fun S hS hp => by
    by_cases z : S < k
    · exact ho.2.2.2 S z hp
    · rw [show S = k by omega] at hp; exact absurd hp h⟩
def fb_bs : Option Nat → Nat
  | none => 10
  | some b => fb_size b
theorem fb_bs_le : ∀ o : Option Nat, fb_bs o ≤ 10
  | none => by decide
  | some b => by have := fb_size_le b; show fb_size b ≤ 10; omega
theorem fb_pick_ge {P : Nat → Prop} {k : Nat} : ∀ {o : Option Nat}, fb_bs o ≤ fb_size k → fb_Pick P k o → fb_Pick P (k + 1) o
  | none, hb, _ => by
    have h1 : 10 ≤ fb_size k := hb
    have := fb_size_le k
    omega
  | some b, hb, ho => ⟨by have := ho.1; omega, ho.2.1, ho.2.2.1, fun S hS hp => by
    by_cases z : S < k
    · exact ho.2.2.2 S z hp
    · rw [show S = k by omega]; exact hb⟩
theorem fb_pick_lt {P : Nat → Prop} {k : Nat} : ∀ {o : Option Nat}, fb_size k < fb_bs o → P k → fb_Pick P k o → fb_Pick P (k + 1) (some k)
  | none, _, hk, ho => ⟨by omega, hk, fun S hS hp => absurd hp (ho S hS), fun S hS hp => by
    by_cases z : S < k
    · exact absurd hp (ho S z)
    · rw [show S = k by omega]; exact Nat.le_refl _⟩
  | some b, hb, hk, ho => by
    have hb' : fb_size k < fb_size b := hb
    exact ⟨by omega, hk, fun S hS hp => by have := ho.2.2.2 S hS hp; omega, fun S hS hp => by
      by_cases z : S < k
      · have := ho.2.2.2 S z hp; omega
      · rw [show S = k by omega]; exact Nat.le_refl _⟩
/-- -1 or the set -/
def fb_ans : Option Nat → Int32
  | none => -1
  | some b => nI b
