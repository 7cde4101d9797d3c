/-! ===== counting below n ===== -/
def fb_cnt (p : Nat → Bool) : Nat → Nat
  | 0 => 0
  | n + 1 => fb_cnt p n + (p n).toNat
theorem fb_cnt_le (p : Nat → Bool) : ∀ n, fb_cnt p n ≤ n
  | 0 => Nat.le_refl 0
  | n + 1 => by
    have := fb_cnt_le p n
    have h : (p n).toNat ≤ 1 := Bool.toNat_le _
    show fb_cnt p n + (p n).toNat ≤ n + 1
    omega
theorem fb_cnt_congr {p q : Nat → Bool} : ∀ n, (∀ i, i < n → p i = q i) → fb_cnt p n = fb_cnt q n
  | 0, _ => rfl
  | n + 1, h => by
    show fb_cnt p n + (p n).toNat = fb_cnt q n + (q n).toNat
    rw [fb_cnt_congr n (fun i hi => h i (by omega)), h n (by omega)]
theorem fb_cnt_zero {p : Nat → Bool} : ∀ n, (∀ i, i < n → p i = false) → fb_cnt p n = 0
  | 0, _ => rfl
  | n + 1, h => by
    show fb_cnt p n + (p n).toNat = 0
    rw [fb_cnt_zero n (fun i hi => h i (by omega)), h n (by omega)]; rfl
theorem fb_cnt_mono {p q : Nat → Bool} : ∀ n, (∀ i, i < n → p i = true → q i = true) → fb_cnt p n ≤ fb_cnt q n
  | 0, _ => Nat.le_refl 0
  | n + 1, h => by
    have h1 := fb_cnt_mono n (fun i hi => h i (by omega))
    have h2 := h n (by omega)
    show fb_cnt p n + (p n).toNat ≤ fb_cnt q n + (q n).toNat
    cases hp : p n
    · show fb_cnt p n + 0 ≤ _; omega
    · rw [h2 hp]; show fb_cnt p n + 1 ≤ fb_cnt q n + 1; omega
theorem fb_cnt_same {p q : Nat → Bool} : ∀ n, (∀ i, i < n → p i = true → q i = true) → fb_cnt q n ≤ fb_cnt p n → ∀ i, i < n → q i = true → p i = true
  | 0, _, _ => fun i hi => absurd hi (by omega)
  | n + 1, h, hc => by
    have h1 := fb_cnt_mono n (fun i hi => h i (by omega))
    have h2 := h n (by omega)
    have hc' : fb_cnt q n + (q n).toNat ≤ fb_cnt p n + (p n).toNat := hc
    have h3 : (p n).toNat ≤ (q n).toNat := by
      cases hp : p n
      · exact Nat.zero_le _
      · rw [h2 hp]; exact Nat.le_refl _
    intro i hi hq
    rcases Nat.lt_or_ge i n with hl | hl
    · exact fb_cnt_same n (fun i hi => h i (by omega)) (by omega) i hl hq
    · have e : i = n := by omega
      subst e
      cases hp : p i
      · rw [hq, hp] at hc'
        have hc2 : fb_cnt q i + 1 ≤ fb_cnt p i + 0 := hc'
        omega
      · rfl
theorem fb_cnt_del (q : Nat → Bool) (a : Nat) (hq : q a = true) : ∀ n, a < n → fb_cnt (fun i => q i && decide (i ≠ a)) n + 1 = fb_cnt q n
  | 0, h => absurd h (by omega)
  | n + 1, h => by
    show fb_cnt (fun i => q i && decide (i ≠ a)) n + (q n && decide (n ≠ a)).toNat + 1 = fb_cnt q n + (q n).toNat
    rcases Nat.lt_or_ge a n with hl | hl
    · have ih := fb_cnt_del q a hq n hl
      rw [decide_eq_true (by omega : n ≠ a), Bool.and_true]
      omega
    · have e : a = n := by omega
      subst e
      have e2 : fb_cnt (fun i => q i && decide (i ≠ a)) a = fb_cnt q a := fb_cnt_congr a (fun i hi => by
        show (q i && decide (i ≠ a)) = q i
        rw [decide_eq_true (by omega : i ≠ a), Bool.and_true])
      rw [e2, hq, decide_eq_false (by simp)]
      rfl
theorem fb_cnt_inj {p : Nat → Bool} (m : Nat) (f : Nat → Nat) : ∀ (n : Nat) (q : Nat → Bool), (∀ i, i < n → p i = true → f i < m ∧ q (f i) = true) → (∀ i j, i < n → j < n → p i = true → p j = true → f i = f j → i = j) → fb_cnt p n ≤ fb_cnt q m
  | 0, _, _, _ => Nat.zero_le _
  | n + 1, q, hf, hi => by
    show fb_cnt p n + (p n).toNat ≤ fb_cnt q m
    cases hp : p n
    · exact fb_cnt_inj m f n q (fun i h => hf i (by omega)) (fun i j h1 h2 => hi i j (by omega) (by omega))
    · have hn := hf n (by omega) hp
      have ih := fb_cnt_inj m f n (fun i => q i && decide (i ≠ f n)) (fun i h hpi => by
        have h2 := hf i (by omega) hpi
        refine ⟨h2.1, ?_⟩
        show (q (f i) && decide (f i ≠ f n)) = true
        have h3 : f i ≠ f n := fun e => by
          have := hi i n (by omega) (by omega) hpi hp e
          omega
        rw [h2.2, decide_eq_true h3]; rfl) (fun i j h1 h2 => hi i j (by omega) (by omega))
      have hd := fb_cnt_del q (f n) hn.2 m hn.1
      show fb_cnt p n + 1 ≤ fb_cnt q m
      omega
