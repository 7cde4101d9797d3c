/-! ===== the reference's ways and girth ===== -/
def fb_Fa (F : Nat → Nat) (fr : Nat → Int32) : Prop := ∀ x, x < 9 → fr x = nI (F x)
theorem fy_94 {post : Int32 → SY → Prop} {J33 J44 : Int32 → (Nat → Int32) → (Nat → Int32) → (Nat → Int32) → (Nat → Int32) → Prop} {e : Nat → Nat → Nat} {n u v r x y : Nat} {fs : Int32} {aM kp lb fr : Nat → Int32} {F : Nat → Nat} (hn : n ≤ 9) (hG : fb_G e n) (hE : fb_EY e aM) (hu : u < 9) (hx : x < 9) (hy : y < 9) (hr0 : 1 ≤ r) (hr : r < n) (hF : fb_FI e n u v r (9 * x + y) F) (ha : fb_Fa F fr) (go : ∀ (F' : Nat → Nat) (fr' : Nat → Int32), fb_FI e n u v r (9 * x + y + 1) F' → fb_Fa F' fr' → J44 (nI (9 * x + y + 1)) aM kp lb fr') : wY_way_94 post J33 J44 (nI u) (nI v) (nI r) (nI (9 * x + y)) (nI x) (nI y) (nI (fb_dir u v x y).toNat) (nI n) fs aM kp lb fr := by
  have hin : vp_in (nI (9 * x + y)) 81 := vp_in_nI (by omega) (by omega)
  have hix : vp_in (nI x) 9 := vp_in_nI (by omega) (by omega)
  have hiy : vp_in (nI y) 9 := vp_in_nI (by omega) (by omega)
  have em : aM (nI (9 * x + y)).toNatClampNeg = nI (e x y) := by rw [nI_clamp (by omega)]; exact hE x y hx hy
  have ex : fr (nI x).toNatClampNeg = nI (F x) := by rw [nI_clamp (by omega)]; exact ha x hx
  have ey : fr (nI y).toNatClampNeg = nI (F y) := by rw [nI_clamp (by omega)]; exact ha y hy
  have he2 := hG.2.1 x y
  have bx := hF.2.2.1 x hx
  have b_y := hF.2.2.1 y hy
  have er : nI r - 1 = nI (r - 1) := by rw [show (1 : Int32) = nI 1 from rfl, pk_sub hr0]
  have skip : (0 < e x y → fb_dir u v x y = false → F x + 1 = r → F y ≤ r) → J44 (nI (9 * x + y + 1)) aM kp lb fr := fun h => go F fr (fb_FI_skip hy hF h) ha
  refine ⟨hin, ?_⟩
  rw [em]
  refine pk_le (e x y) 0 (fun h0 => nm_r (nI_1 _) (skip (fun z => by omega))) (fun h0 => ?_)
  cases hd : fb_dir u v x y
  · refine br_t rfl ⟨hix, ?_⟩
    rw [ex, er]
    refine pk_eq (F x) (r - 1) (fun h1 => ⟨hiy, ?_⟩) (fun h1 => nm_r (nI_1 _) (skip (fun _ _ z => by omega)))
    rw [ey]
    refine pk_le (F y) r (fun h2 => nm_r (nI_1 _) (skip (fun _ _ _ => h2))) (fun h2 => ⟨hiy, fun fr2 e2 k2 e3 => ?_⟩)
    rw [e3, e2, nI_1, nI_clamp (by omega)]
    refine go (fun z => if z = y then r else F z) _ (fb_FI_put hG.2.2 hx hy hF h0 hd (by omega) h2 (by omega) (if_pos rfl) (fun z _ hne => if_neg hne) hu) (fun z hz => ?_)
    show upd fr y (nI r) z = nI (if z = y then r else F z)
    by_cases c : z = y
    · subst c; rw [pk_us, if_pos rfl]
    · rw [pk_un c, if_neg c]; exact ha z hz
  · exact br_f (by decide) (nm_r (nI_1 _) (skip (fun _ z => by rw [hd] at z; exact absurd z (by simp))))
theorem fy_k {post : Int32 → SY → Prop} {J33 : Int32 → (Nat → Int32) → (Nat → Int32) → (Nat → Int32) → (Nat → Int32) → Prop} {e : Nat → Nat → Nat} {n u v r : Nat} {fs : Int32} {aM kp lb : Nat → Int32} (hn : n ≤ 9) (hG : fb_G e n) (hE : fb_EY e aM) (hu : u < 9) (hv : v < 9) (hr0 : 1 ≤ r) (hr : r < n) (hJ : ∀ (F' : Nat → Nat) (fr' : Nat → Int32), fb_FI e n u v (r + 1) 0 F' → fb_Fa F' fr' → J33 (nI (r + 1)) aM kp lb fr') : ∀ (d k : Nat) (F : Nat → Nat) (fr : Nat → Int32), k + d = 81 → fb_FI e n u v r k F → fb_Fa F fr → wY_way_44 post J33 (nI u) (nI v) (nI r) (nI n) fs (d + 1) (nI k) aM kp lb fr := by
  intro d
  induction d with
  | zero =>
    intro k F fr hk hF ha
    have ek : k = 81 := by omega
    subst ek
    exact br_t (by decide) (nm_r (nI_1 r) (hJ F fr (fb_FI_next hF) ha))
  | succ d ih =>
    intro k F fr hk hF ha
    have h9 : ¬ (9 : Int32) = 0 := by decide
    have e5 : nI k / 9 = nI (k / 9) := pk_div (d := 9) (by omega) (by omega) (by omega)
    have e6 : nI k - nI k / 9 * 9 = nI (k % 9) := pk_rem (d := 9) (by omega) (by omega) (by omega)
    have ek : 9 * (k / 9) + k % 9 = k := Nat.div_add_mod k 9
    have hx : k / 9 < 9 := by omega
    have hy : k % 9 < 9 := by omega
    have key := fy_94 (post := post) (J33 := J33) (J44 := wY_way_44 post J33 (nI u) (nI v) (nI r) (nI n) fs (d + 1)) (fs := fs) (kp := kp) (lb := lb) (x := k / 9) (y := k % 9) hn hG hE hu hx hy hr0 hr (by rw [ek]; exact hF) ha (fun F' fr' hF' ha' => by
      rw [ek] at hF' ⊢
      exact ih (k + 1) F' fr' (by omega) hF' ha')
    rw [ek] at key
    have k1 : ((k / 9 = u ∧ k % 9 = v) ∨ (k / 9 = v ∧ k % 9 = u)) → wY_way_94 post J33 (wY_way_44 post J33 (nI u) (nI v) (nI r) (nI n) fs (d + 1)) (nI u) (nI v) (nI r) (nI k) (nI (k / 9)) (nI (k % 9)) 1 (nI n) fs aM kp lb fr := fun h => by
      rw [fb_dir_t.mpr h] at key; exact key
    have k0 : ¬ ((k / 9 = u ∧ k % 9 = v) ∨ (k / 9 = v ∧ k % 9 = u)) → wY_way_94 post J33 (wY_way_44 post J33 (nI u) (nI v) (nI r) (nI n) fs (d + 1)) (nI u) (nI v) (nI r) (nI k) (nI (k / 9)) (nI (k % 9)) 0 (nI n) fs aM kp lb fr := fun h => by
      rw [fb_dir_f.mpr h] at key; exact key
    have k77 : ¬ (k / 9 = u ∧ k % 9 = v) → wY_way_77 post J33 (wY_way_44 post J33 (nI u) (nI v) (nI r) (nI n) fs (d + 1)) (nI u) (nI v) (nI r) (nI k) (nI (k / 9)) (nI (k % 9)) (nI n) fs aM kp lb fr := fun h =>
      pk_eq (k / 9) v (fun h1 => pk_eq (k % 9) u (fun h2 => k1 (Or.inr ⟨h1, h2⟩)) (fun h2 => k0 (by omega))) (fun h1 => k0 (by omega))
    refine br_f (nI_ge (a := k) (b := 81) (by omega) (by omega)) ⟨h9, nm_r e5 ⟨h9, nm_r e6 ?_⟩⟩
    exact pk_eq (k / 9) u (fun h1 => pk_eq (k % 9) v (fun h2 => k1 (Or.inl ⟨h1, h2⟩)) (fun h2 => k77 (by omega))) (fun h1 => k77 (by omega))
theorem fy_way {post : Int32 → SY → Prop} {e : Nat → Nat → Nat} {n u v : Nat} {fs : Int32} {aM kp lb : Nat → Int32} (hn : n ≤ 9) (hn2 : 2 ≤ n) (hG : fb_G e n) (hE : fb_EY e aM) (hu : u < n) (hv : v < n) (hp : ∀ (F : Nat → Nat) (fr' : Nat → Int32), fb_FI e n u v n 0 F → post (nI (if F v = 99 then 0 else F v)) (nI n, fs, aM, kp, lb, fr')) (fr : Nat → Int32) : wpY_way post (nI n, fs, aM, kp, lb, fr) (nI u) (nI v) := by
  have rounds : ∀ (d r : Nat) (F : Nat → Nat) (fr : Nat → Int32), 1 ≤ r → r + d = n → fb_FI e n u v r 0 F → fb_Fa F fr → wY_way_33 post (nI u) (nI v) (nI n) fs (d + 1) (nI r) aM kp lb fr := by
    intro d
    induction d with
    | zero =>
      intro r F fr hr0 hr hF ha
      have er : r = n := by omega
      subst er
      have hiv : vp_in (nI v) 9 := vp_in_nI (by omega) (by omega)
      have ev : fr (nI v).toNatClampNeg = nI (F v) := by rw [nI_clamp (by omega)]; exact ha v (by omega)
      have hpF := hp F fr hF
      have b := hF.2.2.1 v (by omega)
      refine br_t (nI_le (by omega) (by omega)) ⟨hiv, ?_⟩
      rw [ev]
      refine pk_le 99 (F v) (fun h => ?_) (fun h => ⟨hiv, ?_⟩)
      · rw [if_pos (by omega)] at hpF; exact hpF
      · rw [if_neg (by omega)] at hpF; exact hpF
    | succ d ih =>
      intro r F fr hr0 hr hF ha
      refine br_f (nI_ge (by omega) (by omega)) ⟨81 + 1, ?_⟩
      exact fy_k hn hG hE (by omega) (by omega) hr0 (by omega) (fun F' fr' hF' ha' => ih (r + 1) F' fr' (by omega) (by omega) hF' ha') 81 0 F fr (by omega) hF ha
  have start : ∀ (d j : Nat) (fr : Nat → Int32), j + d = 9 → (∀ x, x < j → fr x = nI (fb_F0 u x)) → wY_way_2 post (nI u) (nI v) (nI n) fs (d + 1) (nI j) aM kp lb fr := by
    intro d
    induction d with
    | zero =>
      intro j fr hj ha
      have e9 : j = 9 := by omega
      subst e9
      exact br_t (by decide) ⟨n - 1 + 1, rounds (n - 1) 1 (fb_F0 u) fr (by omega) (by omega) (fb_FI_0 hu (fun _ _ => rfl) (by omega)) ha⟩
    | succ d ih =>
      intro j fr hj ha
      have hin : vp_in (nI j) 9 := vp_in_nI (by omega) (by omega)
      have hc : (nI j).toNatClampNeg = j := nI_clamp (by omega)
      have put : ∀ y : Nat, fb_F0 u j = y → wY_way_2 post (nI u) (nI v) (nI n) fs (d + 1) (nI (j + 1)) aM kp lb (upd fr j (nI y)) := fun y hy => ih (j + 1) _ (by omega) (fun x hx => by
        by_cases c : x = j
        · subst c; rw [pk_us, hy]
        · rw [pk_un c]; exact ha x (by omega))
      refine br_f (nI_ge (a := j) (b := 9) (by omega) (by omega)) (pk_eq j u (fun h => ⟨hin, fun fr2 e2 x3 e3 => ?_⟩) (fun h => ⟨hin, fun fr2 e2 x3 e3 => ?_⟩))
      · rw [e3, e2, nI_1, hc]
        exact put 0 (if_pos h)
      · rw [e3, e2, nI_1, hc]
        exact put 99 (if_neg h)
  exact ⟨9 + 1, start 9 0 fr (by omega) (fun x hx => by omega)⟩
theorem fy_112 {post : Int32 → SY → Prop} {J4 J20 : Int32 → Int32 → Int32 → Int32 → (Nat → Int32) → (Nat → Int32) → (Nat → Int32) → (Nat → Int32) → Prop} {u v r l : Nat} {fn fs : Int32} {aM kp lb fr : Nat → Int32} (hr : r ≤ 100) (hl : l ≤ 100) (go : J20 (nI (fb_min r l)) (nI (v + 1)) fn fs aM kp lb fr) : wY_girth_112 post J4 J20 (nI r) (nI u) (nI v) (nI l) fn fs aM kp lb fr := by
  unfold fb_min at go
  refine pk_le l 0 (fun h => nm_r (nI_1 v) ?_) (fun h => ?_)
  · rw [if_pos (by omega)] at go; exact go
  · rw [if_neg (by omega)] at go
    refine pk_eq r 0 (fun h2 => nm_r (nI_1 v) ?_) (fun h2 => ?_)
    · rw [if_pos h2] at go; exact go
    · rw [if_neg h2] at go
      refine pk_le r l (fun h3 => nm_r (nI_1 v) ?_) (fun h3 => nm_r (nI_1 v) ?_)
      · rw [if_pos h3] at go; exact go
      · rw [if_neg (by omega)] at go; exact go
theorem fb_min_le {r l : Nat} (hr : r ≤ 100) (hl : l ≤ 100) : fb_min r l ≤ 100 := by
  unfold fb_min
  split
  · exact hr
  · split
    · exact hl
    · split
      · exact hr
      · exact hl
theorem fy_girth {post : Int32 → SY → Prop} {e : Nat → Nat → Nat} {n : Nat} {fs : Int32} {aM kp lb : Nat → Int32} (hn : n ≤ 9) (hn2 : 2 ≤ n) (hG : fb_G e n) (hE : fb_EY e aM) (hp : ∀ (r : Nat) (fr' : Nat → Int32), fb_Girth e n r → post (nI r) (nI n, fs, aM, kp, lb, fr')) (fr : Nat → Int32) : wpY_girth post (nI n, fs, aM, kp, lb, fr) := by
  have row : ∀ (J : Int32 → Int32 → Int32 → Int32 → (Nat → Int32) → (Nat → Int32) → (Nat → Int32) → (Nat → Int32) → Prop) (u : Nat), u < n → (∀ (r : Nat) (fr' : Nat → Int32), r ≤ 100 → fb_GI e n (u + 1) 0 r → J (nI r) (nI (u + 1)) (nI n) fs aM kp lb fr') → ∀ (d v r : Nat) (fr : Nat → Int32), v + d = u + 1 → r ≤ 100 → fb_GI e n u v r → wY_girth_20 post J (nI u) (d + 1) (nI r) (nI v) (nI n) fs aM kp lb fr := by
    intro J u hu hJ d
    induction d with
    | zero =>
      intro v r fr hv hr hI
      have ev : v = u + 1 := by omega
      subst ev
      exact br_t (nI_lt (by omega) (by omega)) (nm_r (nI_1 u) (hJ r fr hr (fb_GI_row hI)))
    | succ d ih =>
      intro v r fr hv hr hI
      have e2 : 9 * nI u + nI v = nI (9 * u + v) := by
        rw [show (9 : Int32) = nI 9 from rfl, pk_mul, nI_add]
      have hin : vp_in (9 * nI u + nI v) 81 := by rw [e2]; exact vp_in_nI (by omega) (by omega)
      have e3 : aM (9 * nI u + nI v).toNatClampNeg = nI (e u v) := by
        rw [e2, nI_clamp (by omega), hE u v (by omega) (by omega)]
      have he2 := hG.2.1 u v
      have fin : ∀ (l : Nat) (fr' : Nat → Int32), l ≤ 100 → fb_Len e n u v l → wY_girth_112 post J (wY_girth_20 post J (nI u) (d + 1)) (nI r) (nI u) (nI v) (nI l) (nI n) fs aM kp lb fr' := fun l fr' hl hL =>
        fy_112 hr hl (ih (v + 1) (fb_min r l) fr' (by omega) (fb_min_le hr hl) (fb_GI_step hI hL))
      refine br_f (nI_nlt (by omega) (by omega)) ?_
      refine pk_eq u v (fun huv => ⟨hin, ?_⟩) (fun huv => ?_)
      · subst huv
        rw [e3]
        refine pk_le (e u u) 0 (fun h => ?_) (fun h => ?_)
        · exact br_t rfl (br_t rfl (fin 0 fr (by omega) (fb_len_0 (by omega))))
        · exact br_t rfl (br_t rfl (fin 1 fr (by omega) (fb_len_1 hn hG.1 hu h)))
      · have hne : ¬ nI u = nI v := fun z => huv ((nI_eq (by omega) (by omega)).mp z)
        refine br_f hne ⟨hin, ?_⟩
        rw [e3]
        refine pk_eq (e u v) 2 (fun h => ?_) (fun h => ?_)
        · refine br_f hne ⟨hin, ?_⟩
          rw [e3]
          exact br_f (fun z => by have := (nI_eq (a := e u v) (b := 1) (by omega) (by omega)).mp z; omega) (fin 2 fr (by omega) (fb_len_2 hn hG.1 hu (by omega) h))
        · refine br_f hne ⟨hin, ?_⟩
          rw [e3]
          refine pk_eq (e u v) 1 (fun h1 => ?_) (fun h1 => fin 0 fr (by omega) (fb_len_0 (by omega)))
          refine fy_way hn hn2 hG hE hu (by omega) (fun F fr' hF => ?_) fr
          obtain ⟨w0, w1⟩ := fb_len_w hn hG.1 hu (by omega) h1 hF
          dsimp only
          by_cases c : F v = 99
          · rw [if_pos c]
            exact br_t (by decide) (fin 0 fr' (by omega) (w0 c))
          · rw [if_neg c]
            obtain ⟨q1, q2, q3⟩ := w1 c
            exact br_f (nI_nle q1 (by omega)) (nm_r (nI_1 _) (fin (F v + 1) fr' (by omega) q3))
  have rows : ∀ (d u r : Nat) (fr : Nat → Int32), u + d = n → r ≤ 100 → fb_GI e n u 0 r → wY_girth_4 post (d + 1) (nI r) (nI u) (nI n) fs aM kp lb fr := by
    intro d
    induction d with
    | zero =>
      intro u r fr hu hr hI
      have eu : u = n := by omega
      subst eu
      exact br_t (nI_le (by omega) (by omega)) (hp r fr (fb_GI_end hn hG.1 hI))
    | succ d ih =>
      intro u r fr hu hr hI
      refine br_f (nI_ge (by omega) (by omega)) (br_f (nI_ge (a := u) (b := 9) (by omega) (by omega)) ⟨u + 1 + 1, ?_⟩)
      exact row _ u (by omega) (fun r' fr' hr' hI' => ih (u + 1) r' fr' (by omega) hr' hI') (u + 1) 0 r fr (by omega) hr hI
  exact ⟨n + 1, rows n 0 0 fr (by omega) (by omega) (fb_GI_0 e n)⟩
