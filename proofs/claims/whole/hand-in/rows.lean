section
theorem pk_us {f : Nat → Int32} {k : Nat} {x : Int32} : upd f k x k = x := if_pos rfl
theorem pk_un {f : Nat → Int32} {k j : Nat} {x : Int32} (h : j ≠ k) : upd f k x j = f j := if_neg h
theorem pk_sub {a b : Nat} (h : b ≤ a) : nI a - nI b = nI (a - b) := by
  obtain ⟨c, rfl⟩ : ∃ c, a = c + b := ⟨a - b, by omega⟩
  rw [← nI_add, Int32.add_sub_cancel, Nat.add_sub_cancel]
theorem pk_mul (a b : Nat) : nI a * nI b = nI (a * b) := (Int32.ofNat_mul a b).symm
theorem pk_div {a d : Nat} (ha : a < 2 ^ 31) (h0 : 0 < d) (hd : d < 2 ^ 31) : nI a / nI d = nI (a / d) := by
  apply Int32.toInt_inj.mp
  rw [lg_idiv_nonneg (by rw [nI_toInt ha]; omega) (by rw [nI_toInt hd]; omega), nI_toInt ha, nI_toInt hd, nI_toInt (Nat.lt_of_le_of_lt (Nat.div_le_self a d) ha)]
  first | rfl | exact (Int.natCast_ediv _ _).symm
theorem pk_rem {a d : Nat} (ha : a < 2 ^ 31) (h0 : 0 < d) (hd : d < 2 ^ 31) : nI a - nI a / nI d * nI d = nI (a % d) := by
  rw [pk_div ha h0 hd, pk_mul, pk_sub (Nat.div_mul_le_self a d)]
  exact congrArg nI (by have := Nat.div_add_mod' a d; omega)
theorem pk_ix (x : Int32) {n : Nat} (hn : n < 2 ^ 31) : x < 0 ∨ nI n ≤ x ∨ ∃ j : Nat, j < n ∧ x = nI j := by
  by_cases h : x < 0
  · exact Or.inl h
  · obtain ⟨j, hj, rfl⟩ := nI_of h
    by_cases h2 : j < n
    · exact Or.inr (Or.inr ⟨j, h2, rfl⟩)
    · exact Or.inr (Or.inl (nI_le (by omega) hj))
theorem pk_le {x y : Int32} {A B : Prop} (a b : Nat) (f : a ≤ b → A) (g : b < a → B) (hx : x = nI a := by rfl) (hy : y = nI b := by rfl) (ha : a < 2 ^ 31 := by omega) (hb : b < 2 ^ 31 := by omega) : (x ≤ y → A) ∧ (¬ x ≤ y → B) := by
  subst hx hy
  rw [nI_leI ha hb]
  exact ⟨f, fun z => g (by omega)⟩
theorem pk_lt {x y : Int32} {A B : Prop} (a b : Nat) (f : a < b → A) (g : b ≤ a → B) (hx : x = nI a := by rfl) (hy : y = nI b := by rfl) (ha : a < 2 ^ 31 := by omega) (hb : b < 2 ^ 31 := by omega) : (x < y → A) ∧ (¬ x < y → B) := by
  subst hx hy
  rw [nI_ltI ha hb]
  exact ⟨f, fun z => g (by omega)⟩
theorem pk_eq {x y : Int32} {A B : Prop} (a b : Nat) (f : a = b → A) (g : a ≠ b → B) (hx : x = nI a := by rfl) (hy : y = nI b := by rfl) (ha : a < 2 ^ 31 := by omega) (hb : b < 2 ^ 31 := by omega) : (x = y → A) ∧ (¬ x = y → B) := by
  subst hx hy
  rw [nI_eq ha hb]
  exact ⟨f, g⟩
theorem pk_in {x : Int32} (n N : Nat) (h : n < N) (hx : x = nI n := by rfl) (hN : N < 2 ^ 31 := by omega) : vp_in x N := by
  subst hx
  exact vp_in_nI h hN
theorem pk_cl {x : Int32} (n : Nat) (hx : x = nI n := by rfl) (h : n < 2 ^ 31 := by omega) : x.toNatClampNeg = n := by
  subst hx
  exact nI_clamp h
theorem pk_tn {n : Nat} (h : n < 2 ^ 32) : (nI n).toBitVec.toNat = n := Nat.mod_eq_of_lt h
theorem pk_and (x : Int32) {m : Int32} (k : Nat) (hm : m.toBitVec.toNat = 2 ^ k - 1) : x &&& m = nI (x.toBitVec.toNat % 2 ^ k) := by
  apply Int32.toBitVec_inj.mp
  apply BitVec.eq_of_toNat_eq
  rw [Int32.toBitVec_and, BitVec.toNat_and, hm, Nat.and_two_pow_sub_one_eq_mod]
  show _ = (BitVec.ofNat 32 _).toNat
  rw [BitVec.toNat_ofNat]
  exact (Nat.mod_eq_of_lt (Nat.lt_of_le_of_lt (Nat.mod_le _ _) x.toBitVec.isLt)).symm
theorem pk_andN {n : Nat} (h : n < 2 ^ 32) {m : Int32} (k : Nat) (hm : m.toBitVec.toNat = 2 ^ k - 1) : nI n &&& m = nI (n % 2 ^ k) := by
  rw [pk_and _ k hm, pk_tn h]
theorem pk_andE (x : Int32) {m : Int32} (k : Nat) (hm : m.toBitVec.toNat = 2 ^ k - 1) : ∃ j : Nat, j < 2 ^ k ∧ x &&& m = nI j := ⟨_, Nat.mod_lt _ (Nat.two_pow_pos k), pk_and x k hm⟩
theorem pk_andIn (x : Int32) {m : Int32} (k : Nat) (hm : m.toBitVec.toNat = 2 ^ k - 1) (hk : k ≤ 30) : vp_in (x &&& m) (2 ^ k) := by
  obtain ⟨j, hj, e⟩ := pk_andE x k hm
  rw [e]
  exact vp_in_nI hj (Nat.lt_of_le_of_lt (Nat.pow_le_pow_right (by decide) hk) (by decide))
theorem pk_shl (a s : Int32) (k : Nat) (hs : (s.toBitVec.smod 32).toNat = k) : (a <<< s).toBitVec.toNat = a.toBitVec.toNat * 2 ^ k % 2 ^ 32 := by
  show (a.toBitVec <<< (s.toBitVec.smod 32).toNat).toNat = _
  rw [hs, BitVec.toNat_shiftLeft, Nat.shiftLeft_eq]
theorem pk_shlN {n : Nat} (s : Int32) (k : Nat) (hs : (s.toBitVec.smod 32).toNat = k) (h : n * 2 ^ k < 2 ^ 32) : nI n <<< s = nI (n * 2 ^ k) := by
  apply Int32.toBitVec_inj.mp
  apply BitVec.eq_of_toNat_eq
  have hn : n < 2 ^ 32 := Nat.lt_of_le_of_lt (Nat.le_mul_of_pos_right n (Nat.two_pow_pos k)) h
  rw [pk_shl _ _ k hs, pk_tn hn, pk_tn h, Nat.mod_eq_of_lt h]
theorem pk_shr (a s : Int32) (k : Nat) (hs : (s.toBitVec.smod 32).toNat = k) : (a >>> s).toInt = a.toInt >>> k := by
  show (a.toBitVec.sshiftRight (s.toBitVec.smod 32).toNat).toInt = _
  rw [hs, BitVec.toInt_sshiftRight]
  rfl
theorem pk_shrN {n : Nat} (h : n < 2 ^ 31) (s : Int32) (k : Nat) (hs : (s.toBitVec.smod 32).toNat = k) : nI n >>> s = nI (n / 2 ^ k) := by
  apply Int32.toInt_inj.mp
  have h2 : n / 2 ^ k ≤ n := Nat.div_le_self _ _
  rw [pk_shr _ _ k hs, nI_toInt h, nI_toInt (by omega), Int.shiftRight_eq_div_pow]
  rfl
def bt (x : Int32) (i : Nat) : Bool := x.toBitVec.getLsbD i
theorem b_ext {x y : Int32} (h : ∀ i, i < 32 → bt x i = bt y i) : x = y := Int32.toBitVec_inj.mp (BitVec.eq_of_getLsbD_eq (fun i hi => h i hi))
theorem b_or (x y : Int32) (i : Nat) : bt (x ||| y) i = (bt x i || bt y i) := by unfold bt; rw [Int32.toBitVec_or, BitVec.getLsbD_or]
theorem b_and (x y : Int32) (i : Nat) : bt (x &&& y) i = (bt x i && bt y i) := by unfold bt; rw [Int32.toBitVec_and, BitVec.getLsbD_and]
theorem b_xor (x y : Int32) (i : Nat) : bt (x ^^^ y) i = (bt x i ^^ bt y i) := by unfold bt; rw [Int32.toBitVec_xor, BitVec.getLsbD_xor]
theorem b_big {x : Int32} {i : Nat} (h : 32 ≤ i) : bt x i = false := BitVec.getLsbD_of_ge _ _ h
theorem b_m1 : ∀ i, i < 32 → bt (-1) i = true := by decide +kernel
theorem b_0 (i : Nat) : bt 0 i = false := BitVec.getLsbD_zero
theorem s_l : ∀ n, n < 32 → ((nI n &&& 31).toBitVec.smod 32).toNat = n := by decide +kernel
theorem b_shl (n : Nat) (hn : n < 32) (x : Int32) {i : Nat} (hi : i < 32) : bt (x <<< (nI n &&& 31)) i = (decide (n ≤ i) && bt x (i - n)) := by
  unfold bt
  rw [Int32.toBitVec_shiftLeft]
  show (x.toBitVec <<< ((nI n &&& 31).toBitVec.smod 32).toNat).getLsbD i = _
  rw [s_l n hn, BitVec.getLsbD_shiftLeft]
  rcases Nat.lt_or_ge i n with h | h
  · simp [h, Nat.not_le.mpr h]
  · simp [hi, h, Nat.not_lt.mpr h]
theorem nx_and (a b : Nat) : nI a &&& nI b = nI (a &&& b) := by
  apply Int32.toBitVec_inj.1
  show BitVec.ofNat 32 a &&& BitVec.ofNat 32 b = BitVec.ofNat 32 (a &&& b)
  apply BitVec.eq_of_getLsbD_eq
  intro i hi
  simp [hi]
/-! ===== own: bits of small numbers ===== -/
theorem fa_or (a b : Nat) : nI a ||| nI b = nI (a ||| b) := by
  apply Int32.toBitVec_inj.1
  show BitVec.ofNat 32 a ||| BitVec.ofNat 32 b = BitVec.ofNat 32 (a ||| b)
  apply BitVec.eq_of_getLsbD_eq
  intro i hi
  simp [hi]
theorem fa_bt (a : Nat) {i : Nat} (hi : i < 32) : bt (nI a) i = a.testBit i := by
  show (BitVec.ofNat 32 a).getLsbD i = a.testBit i
  rw [BitVec.getLsbD_ofNat]
  simp [hi]
/-- 1 << v -/
theorem fa_shl {v : Nat} (hv : v < 31) : (1 : Int32) <<< (nI v &&& 31) = nI (2 ^ v) := by
  have h : (2 : Nat) ^ v < 2 ^ 32 := Nat.pow_lt_pow_right (by omega) (by omega)
  have := pk_shlN (n := 1) (nI v &&& 31) v (s_l v (by omega)) (by omega)
  rw [Nat.one_mul] at this
  exact this
/-- (S >> v) & 1 -/
theorem fa_bit {S v : Nat} (hS : S < 2 ^ 31) (hv : v < 32) : (nI S >>> (nI v &&& 31)) &&& 1 = nI (S.testBit v).toNat := by
  rw [pk_shrN hS _ v (s_l v hv)]
  have h1 : S / 2 ^ v ≤ S := Nat.div_le_self _ _
  rw [pk_andN (n := S / 2 ^ v) (by omega) (m := 1) 1 (by decide)]
  congr 1
  rw [Nat.testBit_eq_decide_div_mod_eq]
  by_cases h : S / 2 ^ v % 2 = 1
  · rw [decide_eq_true h]; simpa using h
  · rw [decide_eq_false h]; show S / 2 ^ v % 2 ^ 1 = 0; omega
/-- all & ~R -/
theorem fa_mask {n R : Nat} (hn : n < 31) (hR : R < 2 ^ n) : nI (2 ^ n - 1) &&& (nI R ^^^ (-1)) = nI (2 ^ n - (R + 1)) := by
  apply b_ext
  intro i hi
  rw [b_and, b_xor, fa_bt _ hi, fa_bt _ hi, fa_bt _ hi, b_m1 i hi, Nat.testBit_two_pow_sub_one, Nat.testBit_two_pow_sub_succ hR]
  simp
theorem fa_clr {K v : Nat} (hv : v < 32) : nI K &&& (nI (2 ^ v) ^^^ (-1)) = nI (K ^^^ (K &&& 2 ^ v)) := by
  apply b_ext
  intro i hi
  rw [b_and, b_xor, fa_bt _ hi, fa_bt _ hi, fa_bt _ hi, b_m1 i hi, Nat.testBit_xor, Nat.testBit_and]
  cases K.testBit i <;> cases (2 ^ v).testBit i <;> rfl
/-- the pair's mask lies in M -/
theorem fa_pair {M u v : Nat} : M &&& (2 ^ u ||| 2 ^ v) = 2 ^ u ||| 2 ^ v ↔ (M.testBit u && M.testBit v) = true := by
  constructor
  · intro h
    have hu := congrArg (fun x => x.testBit u) h
    have hv := congrArg (fun x => x.testBit v) h
    simp only [Nat.testBit_and, Nat.testBit_or, Nat.testBit_two_pow_self] at hu hv
    simp at hu hv
    simp [hu, hv]
  · intro h
    apply Nat.eq_of_testBit_eq
    intro i
    rw [Nat.testBit_and, Nat.testBit_or, Nat.testBit_two_pow, Nat.testBit_two_pow]
    simp only [Bool.and_eq_true] at h
    by_cases h1 : u = i
    · subst h1; simp [h.1]
    · by_cases h2 : v = i
      · subst h2; simp [h.2]
      · simp [h1, h2]
theorem fa_lt {S n : Nat} (h : S < 2 ^ n) (hn : n ≤ 9) : S < 512 := Nat.lt_of_lt_of_le h (Nat.pow_le_pow_right (by omega) hn : 2 ^ n ≤ 2 ^ 9)
theorem fa_pw {n : Nat} (hn : n ≤ 9) : 2 ^ n ≤ 512 := (Nat.pow_le_pow_right (by omega) hn : 2 ^ n ≤ 2 ^ 9)
theorem fa_all {n : Nat} (hn : n ≤ 9) : ((1 : Int32) <<< (nI n &&& 31)) - 1 = nI (2 ^ n - 1) := by
  rw [fa_shl (by omega)]
  exact pk_sub (a := 2 ^ n) (b := 1) (Nat.one_le_two_pow)
/-- a set without kept members -/
theorem fa_and0 {S K : Nat} : S &&& K = 0 ↔ ∀ i, S.testBit i = true → K.testBit i = false := by
  constructor
  · intro h i hi
    have := congrArg (fun x => x.testBit i) h
    simp only [Nat.testBit_and, Nat.zero_testBit, hi, Bool.true_and] at this
    exact this
  · intro h
    apply Nat.eq_of_testBit_eq
    intro i
    rw [Nat.testBit_and, Nat.zero_testBit]
    cases hs : S.testBit i
    · rfl
    · rw [h i hs]; rfl
end
section
/-! ===== counting below n ===== -/
def fb_cnt (p : Nat → Bool) : Nat → Nat
  | 0 => 0
  | n + 1 => fb_cnt p n + (p n).toNat
theorem fb_cnt_le (p : Nat → Bool) : ∀ n, fb_cnt p n ≤ n
  | 0 => Nat.le_refl 0
  | n + 1 => by
    have := fb_cnt_le p n
    have h : (p n).toNat ≤ 1 := Bool.toNat_le _
    show fb_cnt p n + (p n).toNat ≤ n + 1
    omega
theorem fb_cnt_congr {p q : Nat → Bool} : ∀ n, (∀ i, i < n → p i = q i) → fb_cnt p n = fb_cnt q n
  | 0, _ => rfl
  | n + 1, h => by
    show fb_cnt p n + (p n).toNat = fb_cnt q n + (q n).toNat
    rw [fb_cnt_congr n (fun i hi => h i (by omega)), h n (by omega)]
theorem fb_cnt_zero {p : Nat → Bool} : ∀ n, (∀ i, i < n → p i = false) → fb_cnt p n = 0
  | 0, _ => rfl
  | n + 1, h => by
    show fb_cnt p n + (p n).toNat = 0
    rw [fb_cnt_zero n (fun i hi => h i (by omega)), h n (by omega)]; rfl
theorem fb_cnt_mono {p q : Nat → Bool} : ∀ n, (∀ i, i < n → p i = true → q i = true) → fb_cnt p n ≤ fb_cnt q n
  | 0, _ => Nat.le_refl 0
  | n + 1, h => by
    have h1 := fb_cnt_mono n (fun i hi => h i (by omega))
    have h2 := h n (by omega)
    show fb_cnt p n + (p n).toNat ≤ fb_cnt q n + (q n).toNat
    cases hp : p n
    · show fb_cnt p n + 0 ≤ _; omega
    · rw [h2 hp]; show fb_cnt p n + 1 ≤ fb_cnt q n + 1; omega
theorem fb_cnt_same {p q : Nat → Bool} : ∀ n, (∀ i, i < n → p i = true → q i = true) → fb_cnt q n ≤ fb_cnt p n → ∀ i, i < n → q i = true → p i = true
  | 0, _, _ => fun i hi => absurd hi (by omega)
  | n + 1, h, hc => by
    have h1 := fb_cnt_mono n (fun i hi => h i (by omega))
    have h2 := h n (by omega)
    have hc' : fb_cnt q n + (q n).toNat ≤ fb_cnt p n + (p n).toNat := hc
    have h3 : (p n).toNat ≤ (q n).toNat := by
      cases hp : p n
      · exact Nat.zero_le _
      · rw [h2 hp]; exact Nat.le_refl _
    intro i hi hq
    rcases Nat.lt_or_ge i n with hl | hl
    · exact fb_cnt_same n (fun i hi => h i (by omega)) (by omega) i hl hq
    · have e : i = n := by omega
      subst e
      cases hp : p i
      · rw [hq, hp] at hc'
        have hc2 : fb_cnt q i + 1 ≤ fb_cnt p i + 0 := hc'
        omega
      · rfl
theorem fb_cnt_del (q : Nat → Bool) (a : Nat) (hq : q a = true) : ∀ n, a < n → fb_cnt (fun i => q i && decide (i ≠ a)) n + 1 = fb_cnt q n
  | 0, h => absurd h (by omega)
  | n + 1, h => by
    show fb_cnt (fun i => q i && decide (i ≠ a)) n + (q n && decide (n ≠ a)).toNat + 1 = fb_cnt q n + (q n).toNat
    rcases Nat.lt_or_ge a n with hl | hl
    · have ih := fb_cnt_del q a hq n hl
      rw [decide_eq_true (by omega : n ≠ a), Bool.and_true]
      omega
    · have e : a = n := by omega
      subst e
      have e2 : fb_cnt (fun i => q i && decide (i ≠ a)) a = fb_cnt q a := fb_cnt_congr a (fun i hi => by
        show (q i && decide (i ≠ a)) = q i
        rw [decide_eq_true (by omega : i ≠ a), Bool.and_true])
      rw [e2, hq, decide_eq_false (by simp)]
      rfl
theorem fb_cnt_inj {p : Nat → Bool} (m : Nat) (f : Nat → Nat) : ∀ (n : Nat) (q : Nat → Bool), (∀ i, i < n → p i = true → f i < m ∧ q (f i) = true) → (∀ i j, i < n → j < n → p i = true → p j = true → f i = f j → i = j) → fb_cnt p n ≤ fb_cnt q m
  | 0, _, _, _ => Nat.zero_le _
  | n + 1, q, hf, hi => by
    show fb_cnt p n + (p n).toNat ≤ fb_cnt q m
    cases hp : p n
    · exact fb_cnt_inj m f n q (fun i h => hf i (by omega)) (fun i j h1 h2 => hi i j (by omega) (by omega))
    · have hn := hf n (by omega) hp
      have ih := fb_cnt_inj m f n (fun i => q i && decide (i ≠ f n)) (fun i h hpi => by
        have h2 := hf i (by omega) hpi
        refine ⟨h2.1, ?_⟩
        show (q (f i) && decide (f i ≠ f n)) = true
        have h3 : f i ≠ f n := fun e => by
          have := hi i n (by omega) (by omega) hpi hp e
          omega
        rw [h2.2, decide_eq_true h3]; rfl) (fun i j h1 h2 => hi i j (by omega) (by omega))
      have hd := fb_cnt_del q (f n) hn.2 m hn.1
      show fb_cnt p n + 1 ≤ fb_cnt q m
      omega
end
section
/-! ===== a forest by labels, over a list of pairs with weights ===== -/
def fb_mrg (L : Nat → Nat) (u v : Nat) : Nat → Nat := fun x => if L x = L v then L u else L x
theorem fb_mrg_t {L : Nat → Nat} {u v x : Nat} (h : L x = L v) : fb_mrg L u v x = L u := if_pos h
theorem fb_mrg_f {L : Nat → Nat} {u v x : Nat} (h : ¬ L x = L v) : fb_mrg L u v x = L x := if_neg h
def fb_step (w : Nat → Nat → Nat) (s : Nat × (Nat → Nat)) (p : Nat × Nat) : Nat × (Nat → Nat) :=
  if w p.1 p.2 = 0 then s
  else if s.2 p.1 = s.2 p.2 then (s.1 + w p.1 p.2, s.2)
  else (s.1 + (w p.1 p.2 - 1), fb_mrg s.2 p.1 p.2)
def fb_sum (w : Nat → Nat → Nat) : List (Nat × Nat) → Nat
  | [] => 0
  | p :: l => w p.1 p.2 + fb_sum w l
theorem fb_sum_app (w : Nat → Nat → Nat) : ∀ l m : List (Nat × Nat), fb_sum w (l ++ m) = fb_sum w l + fb_sum w m
  | [], m => (Nat.zero_add _).symm
  | p :: l, m => by
    show w p.1 p.2 + fb_sum w (l ++ m) = w p.1 p.2 + fb_sum w l + fb_sum w m
    rw [fb_sum_app w l m]; omega
def fb_fix (L : Nat → Nat) : Nat := fb_cnt (fun x => decide (L x = x)) 9
def fb_Inv (w : Nat → Nat → Nat) (es : List (Nat × Nat)) (s : Nat × (Nat → Nat)) : Prop :=
  (∀ x, x < 9 → s.2 x < 9 ∧ s.2 (s.2 x) = s.2 x) ∧ s.1 + 9 = fb_sum w es + fb_fix s.2 ∧
  (∀ p : Nat × Nat, p ∈ es → w p.1 p.2 ≠ 0 → s.2 p.1 = s.2 p.2) ∧
  (∀ f : Nat → Nat, (∀ p : Nat × Nat, p ∈ es → w p.1 p.2 ≠ 0 → f p.1 = f p.2) → ∀ x, x < 9 → f (s.2 x) = f x)
theorem fb_inv0 (w : Nat → Nat → Nat) : fb_Inv w [] (0, fun x => x) := by
  refine ⟨fun x hx => ⟨hx, rfl⟩, ?_, fun p hp => absurd hp (by simp), fun f _ x _ => rfl⟩
  show 0 + 9 = 0 + fb_fix (fun x => x)
  have : fb_fix (fun x => x) = 9 := by simp [fb_fix, fb_cnt]
  omega
theorem fb_inv1 {w : Nat → Nat → Nat} {es : List (Nat × Nat)} {s : Nat × (Nat → Nat)} (h : fb_Inv w es s) (p : Nat × Nat) (h1 : p.1 < 9) (h2 : p.2 < 9) : fb_Inv w (es ++ [p]) (fb_step w s p) := by
  obtain ⟨t, L⟩ := s
  obtain ⟨u, v⟩ := p
  obtain ⟨ha, hb, hc, hd⟩ := h
  dsimp only at h1 h2 ha hb hc hd
  have hs : fb_sum w (es ++ [(u, v)]) = fb_sum w es + w u v := by
    rw [fb_sum_app]; show fb_sum w es + (w u v + 0) = _; omega
  unfold fb_step
  dsimp only
  by_cases h0 : w u v = 0
  · rw [if_pos h0]
    refine ⟨ha, by dsimp only; omega, fun q hq hw => ?_, fun f hf => hd f (fun q hq => hf q (List.mem_append_left _ hq))⟩
    rcases List.mem_append.mp hq with hq | hq
    · exact hc q hq hw
    · rw [List.mem_singleton.mp hq] at hw; exact absurd h0 hw
  · rw [if_neg h0]
    by_cases hl : L u = L v
    · rw [if_pos hl]
      refine ⟨ha, by dsimp only; omega, fun q hq hw => ?_, fun f hf => hd f (fun q hq => hf q (List.mem_append_left _ hq))⟩
      rcases List.mem_append.mp hq with hq | hq
      · exact hc q hq hw
      · rw [List.mem_singleton.mp hq]; exact hl
    · rw [if_neg hl]
      have hu := ha u h1
      have hv := ha v h2
      refine ⟨fun x hx => ?_, ?_, fun q hq hw => ?_, fun f hf x hx => ?_⟩
      · have hx' := ha x hx
        show fb_mrg L u v x < 9 ∧ fb_mrg L u v (fb_mrg L u v x) = fb_mrg L u v x
        by_cases c : L x = L v
        · rw [fb_mrg_t c]
          refine ⟨hu.1, ?_⟩
          rw [fb_mrg_f (by rw [hu.2]; exact hl), hu.2]
        · rw [fb_mrg_f c]
          refine ⟨hx'.1, ?_⟩
          rw [fb_mrg_f (by rw [hx'.2]; exact c), hx'.2]
      · have e : fb_fix (fb_mrg L u v) = fb_cnt (fun i => (fun x => decide (L x = x)) i && decide (i ≠ L v)) 9 := by
          apply fb_cnt_congr
          intro x hx
          show decide (fb_mrg L u v x = x) = (decide (L x = x) && decide (x ≠ L v))
          by_cases c : L x = L v
          · have n1 : ¬ fb_mrg L u v x = x := fun k => by
              rw [fb_mrg_t c] at k
              have k2 : L x = L u := by rw [← k]; exact hu.2
              exact hl (k2.symm.trans c)
            rw [decide_eq_false n1]
            by_cases k : L x = x
            · rw [decide_eq_false (fun z : x ≠ L v => z (k.symm.trans c)), Bool.and_false]
            · rw [decide_eq_false k, Bool.false_and]
          · by_cases k : L x = x
            · have h5 : x ≠ L v := fun z => c (k.trans z)
              have h6 : fb_mrg L u v x = x := (fb_mrg_f c).trans k
              rw [decide_eq_true h5, decide_eq_true h6, decide_eq_true k]; rfl
            · have h6 : ¬ fb_mrg L u v x = x := fun z => k ((fb_mrg_f c).symm.trans z)
              rw [decide_eq_false k, decide_eq_false h6, Bool.false_and]
        have hd2 := fb_cnt_del (fun x => decide (L x = x)) (L v) (by simpa using hv.2) 9 hv.1
        rw [← e] at hd2
        have hb' : t + 9 = fb_sum w es + fb_cnt (fun x => decide (L x = x)) 9 := hb
        show t + (w u v - 1) + 9 = fb_sum w (es ++ [(u, v)]) + fb_fix (fb_mrg L u v)
        rw [hs]
        omega
      · show fb_mrg L u v q.1 = fb_mrg L u v q.2
        rcases List.mem_append.mp hq with hq | hq
        · have k := hc q hq hw
          unfold fb_mrg
          rw [k]
        · rw [List.mem_singleton.mp hq]
          exact (fb_mrg_f hl).trans (fb_mrg_t rfl).symm
      · have hes := hd f (fun q hq => hf q (List.mem_append_left _ hq))
        have huv : f u = f v := hf (u, v) (List.mem_append_right _ (List.mem_singleton.mpr rfl)) h0
        show f (fb_mrg L u v x) = f x
        by_cases c : L x = L v
        · rw [fb_mrg_t c, hes u h1, huv, ← hes v h2, ← c, hes x hx]
        · rw [fb_mrg_f c, hes x hx]
def fb_run (w : Nat → Nat → Nat) (es : List (Nat × Nat)) : Nat × (Nat → Nat) := es.foldl (fb_step w) (0, fun x => x)
theorem fb_inv_fold {w : Nat → Nat → Nat} : ∀ (es acc : List (Nat × Nat)) (s : Nat × (Nat → Nat)), fb_Inv w acc s → (∀ p : Nat × Nat, p ∈ es → p.1 < 9 ∧ p.2 < 9) → fb_Inv w (acc ++ es) (es.foldl (fb_step w) s)
  | [], acc, s, h, _ => by rw [List.append_nil]; exact h
  | p :: es, acc, s, h, hb => by
    have h1 := hb p (List.mem_cons_self)
    have := fb_inv_fold es (acc ++ [p]) (fb_step w s p) (fb_inv1 h p h1.1 h1.2) (fun q hq => hb q (List.mem_cons_of_mem _ hq))
    rw [List.append_assoc] at this
    exact this
theorem fb_inv_run {w : Nat → Nat → Nat} {es : List (Nat × Nat)} (hb : ∀ p : Nat × Nat, p ∈ es → p.1 < 9 ∧ p.2 < 9) : fb_Inv w es (fb_run w es) := by
  have := fb_inv_fold es [] _ (fb_inv0 w) hb
  exact this
theorem fb_fix_le {L M : Nat → Nat} (hL : ∀ x, x < 9 → L x < 9 ∧ L (L x) = L x) (hM : ∀ x, x < 9 → M x < 9 ∧ M (M x) = M x) (h2 : ∀ x, x < 9 → L (M x) = L x) : fb_fix L ≤ fb_fix M := by
  apply fb_cnt_inj 9 M 9
  · intro i hi _
    exact ⟨(hM i hi).1, decide_eq_true (hM i hi).2⟩
  · intro i j hi hj pi pj e
    have ei : L i = i := of_decide_eq_true pi
    have ej : L j = j := of_decide_eq_true pj
    have e1 := h2 i hi
    rw [e, h2 j hj] at e1
    rw [← ei, ← ej]; exact e1.symm
theorem fb_fix_eq {w1 w2 : Nat → Nat → Nat} {es1 es2 : List (Nat × Nat)} {s1 s2 : Nat × (Nat → Nat)} (I1 : fb_Inv w1 es1 s1) (I2 : fb_Inv w2 es2 s2) (h12 : ∀ p : Nat × Nat, p ∈ es1 → w1 p.1 p.2 ≠ 0 → s2.2 p.1 = s2.2 p.2) (h21 : ∀ p : Nat × Nat, p ∈ es2 → w2 p.1 p.2 ≠ 0 → s1.2 p.1 = s1.2 p.2) : fb_fix s1.2 = fb_fix s2.2 := by
  have a := I1.2.2.2 s2.2 h12
  have b := I2.2.2.2 s1.2 h21
  exact Nat.le_antisymm (fb_fix_le I1.1 I2.1 b) (fb_fix_le I2.1 I1.1 a)
/-! ===== the two orders ===== -/
def fb_row (u : Nat) : Nat → Nat → List (Nat × Nat)
  | _, 0 => []
  | v, d + 1 => (u, v) :: fb_row u (v + 1) d
def fb_aX : Nat → Nat → List (Nat × Nat)
  | _, 0 => []
  | u, d + 1 => fb_row u u (d + 1) ++ fb_aX (u + 1) d
def fb_aY : Nat → Nat → List (Nat × Nat)
  | _, 0 => []
  | u, d + 1 => fb_row u 0 (u + 1) ++ fb_aY (u + 1) d
theorem fb_row_mem {u : Nat} {p : Nat × Nat} : ∀ {d v : Nat}, p ∈ fb_row u v d ↔ p.1 = u ∧ v ≤ p.2 ∧ p.2 < v + d
  | 0, v => by
    show p ∈ [] ↔ _
    simp <;> omega
  | d + 1, v => by
    show p ∈ (u, v) :: fb_row u (v + 1) d ↔ _
    rw [List.mem_cons, fb_row_mem]
    obtain ⟨a, b⟩ := p
    rw [Prod.mk.injEq]
    dsimp only
    omega
theorem fb_aX_mem {p : Nat × Nat} : ∀ {d u : Nat}, p ∈ fb_aX u d ↔ u ≤ p.1 ∧ p.1 ≤ p.2 ∧ p.2 < u + d
  | 0, u => by
    show p ∈ [] ↔ _
    simp <;> omega
  | d + 1, u => by
    show p ∈ fb_row u u (d + 1) ++ fb_aX (u + 1) d ↔ _
    rw [List.mem_append, fb_row_mem, fb_aX_mem]
    omega
theorem fb_aY_mem {p : Nat × Nat} : ∀ {d u : Nat}, p ∈ fb_aY u d ↔ u ≤ p.1 ∧ p.1 < u + d ∧ p.2 ≤ p.1
  | 0, u => by
    show p ∈ [] ↔ _
    simp <;> omega
  | d + 1, u => by
    show p ∈ fb_row u 0 (u + 1) ++ fb_aY (u + 1) d ↔ _
    rw [List.mem_append, fb_row_mem, fb_aY_mem]
    omega
theorem fb_row_snoc (w : Nat → Nat → Nat) (u : Nat) : ∀ d v, fb_sum w (fb_row u v (d + 1)) = fb_sum w (fb_row u v d) + w u (v + d)
  | 0, v => by show w u v + 0 = 0 + w u (v + 0); simp
  | d + 1, v => by
    have ih := fb_row_snoc w u d (v + 1)
    show w u v + fb_sum w (fb_row u (v + 1) (d + 1)) = w u v + fb_sum w (fb_row u (v + 1) d) + w u (v + (d + 1))
    rw [ih, show v + 1 + d = v + (d + 1) by omega]; omega
def fb_col (w : Nat → Nat → Nat) (c : Nat) : Nat → Nat → Nat
  | _, 0 => 0
  | u, d + 1 => w u c + fb_col w c (u + 1) d
theorem fb_row_col {w : Nat → Nat → Nat} (hs : ∀ a b, w a b = w b a) (a : Nat) : ∀ d v, fb_sum w (fb_row a v d) = fb_col w a v d
  | 0, _ => rfl
  | d + 1, v => by
    show w a v + fb_sum w (fb_row a (v + 1) d) = w v a + fb_col w a (v + 1) d
    rw [fb_row_col hs a d (v + 1), hs a v]
theorem fb_aX_snoc (w : Nat → Nat → Nat) : ∀ d u, fb_sum w (fb_aX u (d + 1)) = fb_sum w (fb_aX u d) + fb_col w (u + d) u (d + 1)
  | 0, u => by
    show fb_sum w (fb_row u u 1 ++ []) = 0 + (w u (u + 0) + 0)
    rw [List.append_nil]
    show w u u + 0 = _
    simp
  | d + 1, u => by
    have ih := fb_aX_snoc w d (u + 1)
    show fb_sum w (fb_row u u (d + 1 + 1) ++ fb_aX (u + 1) (d + 1)) = fb_sum w (fb_row u u (d + 1) ++ fb_aX (u + 1) d) + (w u (u + (d + 1)) + fb_col w (u + (d + 1)) (u + 1) (d + 1))
    rw [fb_sum_app, fb_sum_app, ih, fb_row_snoc, show u + 1 + d = u + (d + 1) by omega]
    omega
theorem fb_aY_snoc : ∀ d u, fb_aY u (d + 1) = fb_aY u d ++ fb_row (u + d) 0 (u + d + 1)
  | 0, u => by
    show fb_row u 0 (u + 1) ++ [] = [] ++ fb_row (u + 0) 0 (u + 0 + 1)
    simp
  | d + 1, u => by
    have ih := fb_aY_snoc d (u + 1)
    show fb_row u 0 (u + 1) ++ fb_aY (u + 1) (d + 1) = fb_row u 0 (u + 1) ++ fb_aY (u + 1) d ++ _
    rw [ih, List.append_assoc, show u + 1 + d = u + (d + 1) by omega]
theorem fb_sumXY {w : Nat → Nat → Nat} (hs : ∀ a b, w a b = w b a) : ∀ n, fb_sum w (fb_aX 0 n) = fb_sum w (fb_aY 0 n)
  | 0 => rfl
  | n + 1 => by
    rw [fb_aX_snoc, fb_aY_snoc, fb_sum_app, fb_sumXY hs n, fb_row_col hs]
    simp
theorem fb_runXY {w : Nat → Nat → Nat} (hs : ∀ a b, w a b = w b a) {n : Nat} (hn : n ≤ 9) : (fb_run w (fb_aY 0 n)).1 = (fb_run w (fb_aX 0 n)).1 := by
  have IX := fb_inv_run (w := w) (es := fb_aX 0 n) (fun p hp => by have := fb_aX_mem.mp hp; omega)
  have IY := fb_inv_run (w := w) (es := fb_aY 0 n) (fun p hp => by have := fb_aY_mem.mp hp; omega)
  have e := fb_fix_eq IX IY (fun p hp hw => by
    have h := fb_aX_mem.mp hp
    exact (IY.2.2.1 (p.2, p.1) (fb_aY_mem.mpr (by dsimp only; omega)) (by dsimp only; rw [hs]; exact hw)).symm) (fun p hp hw => by
    have h := fb_aY_mem.mp hp
    exact (IX.2.2.1 (p.2, p.1) (fb_aX_mem.mpr (by dsimp only; omega)) (by dsimp only; rw [hs]; exact hw)).symm)
  have hx := IX.2.1
  have hy := IY.2.1
  rw [fb_sumXY hs] at hx
  omega
/-! ===== what a set of vertices leaves too many ===== -/
def fb_w (e : Nat → Nat → Nat) (M : Nat) : Nat → Nat → Nat := fun a b => if (M.testBit a && M.testBit b) = true then e a b else 0
def fb_ex (e : Nat → Nat → Nat) (n M : Nat) : Nat := (fb_run (fb_w e M) (fb_aX 0 n)).1
theorem fb_w_sym {e : Nat → Nat → Nat} (hs : ∀ a b, e a b = e b a) (M : Nat) : ∀ a b, fb_w e M a b = fb_w e M b a := by
  intro a b
  unfold fb_w
  rw [hs a b, Bool.and_comm]
theorem fb_exY {e : Nat → Nat → Nat} (hs : ∀ a b, e a b = e b a) {n : Nat} (hn : n ≤ 9) (M : Nat) : (fb_run (fb_w e M) (fb_aY 0 n)).1 = fb_ex e n M := fb_runXY (fb_w_sym hs M) hn
end
section
/-! ===== cycles within a set ===== -/
def fb_dir (u v x y : Nat) : Bool := (decide (x = u) && decide (y = v)) || (decide (x = v) && decide (y = u))
theorem fb_dir_t {u v x y : Nat} : fb_dir u v x y = true ↔ (x = u ∧ y = v) ∨ (x = v ∧ y = u) := by
  unfold fb_dir; simp
theorem fb_dir_f {u v x y : Nat} : fb_dir u v x y = false ↔ ¬ ((x = u ∧ y = v) ∨ (x = v ∧ y = u)) := by
  rw [← fb_dir_t]; simp
theorem fb_dir_c (u v x y : Nat) : fb_dir u v x y = fb_dir u v y x := by
  cases h : fb_dir u v y x
  · rw [fb_dir_f] at h ⊢; omega
  · rw [fb_dir_t] at h ⊢; omega
/-- a and b hang together in S without the pair u, v -/
def fb_Conn (e : Nat → Nat → Nat) (n S u v a b : Nat) : Prop := ∀ f : Nat → Nat, (∀ x y, x < n → y < n → S.testBit x = true → S.testBit y = true → 0 < e x y → fb_dir u v x y = false → f x = f y) → f a = f b
theorem fb_sum_le {w w' : Nat → Nat → Nat} (h : ∀ a b, w' a b ≤ w a b) : ∀ es : List (Nat × Nat), fb_sum w' es ≤ fb_sum w es
  | [] => Nat.le_refl _
  | p :: es => Nat.add_le_add (h p.1 p.2) (fb_sum_le h es)
theorem fb_sum_lt {w w' : Nat → Nat → Nat} (h : ∀ a b, w' a b ≤ w a b) {p : Nat × Nat} (hl : w' p.1 p.2 < w p.1 p.2) : ∀ es : List (Nat × Nat), p ∈ es → fb_sum w' es < fb_sum w es
  | [], hp => absurd hp (by simp)
  | q :: es, hp => by
    show w' q.1 q.2 + fb_sum w' es < w q.1 q.2 + fb_sum w es
    rcases List.mem_cons.mp hp with rfl | hp
    · have := fb_sum_le h es; omega
    · have := fb_sum_lt h hl es hp
      have := h q.1 q.2
      omega
theorem fb_bX {n : Nat} (hn : n ≤ 9) : ∀ p : Nat × Nat, p ∈ fb_aX 0 n → p.1 < 9 ∧ p.2 < 9 := fun p hp => by have := fb_aX_mem.mp hp; omega
theorem fb_pos {w w' : Nat → Nat → Nat} {n : Nat} (hn : n ≤ 9) (h : ∀ a b, w' a b ≤ w a b) (p : Nat × Nat) (hp : p ∈ fb_aX 0 n) (hl : w' p.1 p.2 < w p.1 p.2) (hc : ∀ q : Nat × Nat, q ∈ fb_aX 0 n → w q.1 q.2 ≠ 0 → (fb_run w' (fb_aX 0 n)).2 q.1 = (fb_run w' (fb_aX 0 n)).2 q.2) : 0 < (fb_run w (fb_aX 0 n)).1 := by
  have I := fb_inv_run (w := w) (fb_bX hn)
  have I' := fb_inv_run (w := w') (fb_bX hn)
  have hf := fb_fix_eq I I' hc (fun q hq hw => I.2.2.1 q hq (by have := h q.1 q.2; omega))
  have h1 := I.2.1
  have h2 := I'.2.1
  have h3 := fb_sum_lt h hl _ hp
  omega
theorem fb_w_in {e : Nat → Nat → Nat} {M a b : Nat} (ha : M.testBit a = true) (hb : M.testBit b = true) : fb_w e M a b = e a b := by
  unfold fb_w; rw [ha, hb]; rfl
theorem fb_w_ne {e : Nat → Nat → Nat} {M a b : Nat} (h : fb_w e M a b ≠ 0) : M.testBit a = true ∧ M.testBit b = true ∧ e a b ≠ 0 ∧ fb_w e M a b = e a b := by
  unfold fb_w at h ⊢
  by_cases c : (M.testBit a && M.testBit b) = true
  · rw [if_pos c] at h ⊢
    rw [Bool.and_eq_true] at c
    exact ⟨c.1, c.2, h, rfl⟩
  · rw [if_neg c] at h; exact absurd rfl h
theorem fb_cyc_pos {e : Nat → Nat → Nat} {n S u v : Nat} (hn : n ≤ 9) (hs : ∀ a b, e a b = e b a) (hvu : v ≤ u) (hu : u < n) (Su : S.testBit u = true) (Sv : S.testBit v = true) (he : 0 < e u v) (h : 2 ≤ e u v ∨ fb_Conn e n S u v u v) : 0 < fb_ex e n S := by
  have hp : (v, u) ∈ fb_aX 0 n := fb_aX_mem.mpr (by dsimp only; omega)
  have hwp : fb_w e S v u = e u v := by rw [fb_w_in Sv Su, hs]
  have hd : fb_dir u v v u = true := fb_dir_t.mpr (Or.inr ⟨rfl, rfl⟩)
  rcases h with h | h
  · refine fb_pos (w' := fun a b => if fb_dir u v a b = true then fb_w e S a b - 1 else fb_w e S a b) hn (fun a b => ?_) (v, u) hp ?_ (fun q hq hw => ?_)
    · split <;> omega
    · dsimp only; rw [if_pos hd, hwp]; omega
    · refine (fb_inv_run (fb_bX hn)).2.2.1 q hq ?_
      by_cases c : fb_dir u v q.1 q.2 = true
      · rw [if_pos c]
        have e1 : fb_w e S q.1 q.2 = e u v := by
          rcases fb_dir_t.mp c with k | k
          · rw [k.1, k.2, fb_w_in Su Sv]
          · rw [k.1, k.2, hwp]
        omega
      · rw [if_neg c]; exact hw
  · refine fb_pos (w' := fun a b => if fb_dir u v a b = true then 0 else fb_w e S a b) hn (fun a b => ?_) (v, u) hp ?_ (fun q hq hw => ?_)
    · split <;> omega
    · dsimp only; rw [if_pos hd, hwp]; exact he
    · have I := fb_inv_run (w := fun a b => if fb_dir u v a b = true then 0 else fb_w e S a b) (fb_bX hn)
      by_cases c : fb_dir u v q.1 q.2 = true
      · have hc := h (fb_run (fun a b => if fb_dir u v a b = true then 0 else fb_w e S a b) (fb_aX 0 n)).2 (fun x y hx hy Sx Sy hxy hdd => by
          rcases Nat.le_total x y with hl | hl
          · refine I.2.2.1 (x, y) (fb_aX_mem.mpr (by dsimp only; omega)) ?_
            dsimp only
            rw [if_neg (by rw [hdd]; simp), fb_w_in Sx Sy]; omega
          · refine (I.2.2.1 (y, x) (fb_aX_mem.mpr (by dsimp only; omega)) ?_).symm
            dsimp only
            rw [if_neg (by rw [fb_dir_c, hdd]; simp), fb_w_in Sy Sx, hs]; omega)
        rcases fb_dir_t.mp c with k | k
        · rw [k.1, k.2]; exact hc
        · rw [k.1, k.2]; exact hc.symm
      · refine I.2.2.1 q hq ?_
        dsimp only
        rw [if_neg c]; exact hw
theorem fb_split {w : Nat → Nat → Nat} : ∀ es acc : List (Nat × Nat), (fb_run w acc).1 = 0 → 0 < (es.foldl (fb_step w) (fb_run w acc)).1 → ∃ es1 p es2, acc ++ es = es1 ++ p :: es2 ∧ w p.1 p.2 ≠ 0 ∧ (2 ≤ w p.1 p.2 ∨ (fb_run w es1).2 p.1 = (fb_run w es1).2 p.2)
  | [], acc, h0, h1 => by
    have h1' : 0 < (fb_run w acc).1 := h1
    omega
  | p :: es, acc, h0, h1 => by
    have er : fb_run w (acc ++ [p]) = fb_step w (fb_run w acc) p := by
      unfold fb_run; rw [List.foldl_append]; rfl
    by_cases c : (fb_run w (acc ++ [p])).1 = 0
    · have h1' : 0 < (es.foldl (fb_step w) (fb_run w (acc ++ [p]))).1 := by rw [er]; exact h1
      obtain ⟨es1, q, es2, k, k2⟩ := fb_split es (acc ++ [p]) c h1'
      refine ⟨es1, q, es2, ?_, k2⟩
      rw [← k, List.append_assoc]; rfl
    · rw [er] at c
      unfold fb_step at c
      by_cases c0 : w p.1 p.2 = 0
      · rw [if_pos c0] at c; exact absurd h0 c
      · rw [if_neg c0] at c
        refine ⟨acc, p, es, rfl, c0, ?_⟩
        by_cases c1 : (fb_run w acc).2 p.1 = (fb_run w acc).2 p.2
        · exact Or.inr c1
        · rw [if_neg c1] at c
          have c' : (fb_run w acc).1 + (w p.1 p.2 - 1) ≠ 0 := c
          omega
theorem fb_row_nd (u : Nat) : ∀ d v, (fb_row u v d).Pairwise (fun a b => a ≠ b)
  | 0, _ => List.Pairwise.nil
  | d + 1, v => by
    show ((u, v) :: fb_row u (v + 1) d).Pairwise _
    refine List.Pairwise.cons (fun q hq => ?_) (fb_row_nd u d (v + 1))
    have := fb_row_mem.mp hq
    intro k
    rw [← k] at this
    dsimp only at this
    omega
theorem fb_aX_nd : ∀ d u, (fb_aX u d).Pairwise (fun a b => a ≠ b)
  | 0, _ => List.Pairwise.nil
  | d + 1, u => by
    show (fb_row u u (d + 1) ++ fb_aX (u + 1) d).Pairwise _
    refine List.pairwise_append.mpr ⟨fb_row_nd u _ _, fb_aX_nd d (u + 1), fun a ha b hb => ?_⟩
    have h1 := fb_row_mem.mp ha
    have h2 := fb_aX_mem.mp hb
    intro k
    rw [k] at h1
    omega
theorem fb_pos_cyc {e : Nat → Nat → Nat} {n S : Nat} (hn : n ≤ 9) (hs : ∀ a b, e a b = e b a) (h : 0 < fb_ex e n S) : ∃ u v, v ≤ u ∧ u < n ∧ S.testBit u = true ∧ S.testBit v = true ∧ 0 < e u v ∧ (2 ≤ e u v ∨ fb_Conn e n S u v u v) := by
  obtain ⟨es1, ⟨a, b⟩, es2, k, hw, hc⟩ := fb_split (w := fb_w e S) (fb_aX 0 n) [] rfl h
  rw [List.nil_append] at k
  dsimp only at hw hc
  obtain ⟨Sa, Sb, he, hwe⟩ := fb_w_ne hw
  have hm := fb_aX_mem.mp (k ▸ List.mem_append_right es1 (List.mem_cons_self) : (a, b) ∈ fb_aX 0 n)
  dsimp only at hm
  refine ⟨b, a, hm.2.1, by omega, Sb, Sa, by rw [hs]; omega, ?_⟩
  rcases hc with hc | hc
  · left; rw [hs, ← hwe]; exact hc
  · right
    intro f hf
    have nd := fb_aX_nd n 0
    rw [k] at nd
    have nd2 := (List.pairwise_append.mp nd).2.2
    have hb1 : ∀ q : Nat × Nat, q ∈ es1 → q ∈ fb_aX 0 n := fun q hq => by rw [k]; exact List.mem_append_left _ hq
    have I := fb_inv_run (w := fb_w e S) (es := es1) (fun q hq => fb_bX hn q (hb1 q hq))
    have I4 := I.2.2.2 f (fun q hq hqw => by
      have hq1 := fb_aX_mem.mp (hb1 q hq)
      obtain ⟨S1, S2, he2, _⟩ := fb_w_ne hqw
      refine hf q.1 q.2 (by omega) (by omega) S1 S2 (by omega) (fb_dir_f.mpr (fun z => ?_))
      have hne : q ≠ (a, b) := nd2 q hq (a, b) (List.mem_cons_self)
      apply hne
      obtain ⟨q1, q2⟩ := q
      dsimp only at z hq1
      rw [Prod.mk.injEq]
      omega)
    have ea := I4 a (by omega)
    have eb := I4 b (by omega)
    rw [← ea, ← eb, hc]
end
section
/-! ===== sizes ===== -/
def fb_size (S : Nat) : Nat := fb_cnt (fun i => S.testBit i) 9
theorem fb_size_le (S : Nat) : fb_size S ≤ 9 := fb_cnt_le _ _
theorem fb_bit_lt {S n i : Nat} (hS : S < 2 ^ n) (hi : S.testBit i = true) : i < n := by
  rcases Nat.lt_or_ge i n with h | h
  · exact h
  · have h2 : S < 2 ^ i := Nat.lt_of_lt_of_le hS (Nat.pow_le_pow_right (by omega) h)
    rw [Nat.testBit_lt_two_pow h2] at hi
    exact absurd hi (by simp)
theorem fb_size_n {S n : Nat} (hS : S < 2 ^ n) : fb_size S ≤ n :=
  Nat.le_trans (fb_cnt_inj n (fun i => i) 9 (fun _ => true) (fun _ _ hp => ⟨fb_bit_lt hS hp, rfl⟩) (fun _ _ _ _ _ _ h => h)) (fb_cnt_le _ _)
theorem fb_size_put (S y : Nat) : fb_size (S ||| 2 ^ y) ≤ fb_size S + 1 := by
  rcases Nat.lt_or_ge y 9 with hy | hy
  · have hd := fb_cnt_del (fun i => (S ||| 2 ^ y).testBit i) y (by simp [Nat.testBit_or]) 9 hy
    have hm : fb_cnt (fun i => (S ||| 2 ^ y).testBit i && decide (i ≠ y)) 9 ≤ fb_size S := fb_cnt_mono 9 (fun i _ hp => by
      try dsimp only at hp ⊢
      rw [Bool.and_eq_true, Nat.testBit_or, Nat.testBit_two_pow] at hp
      have h1 : i ≠ y := of_decide_eq_true hp.2
      rw [decide_eq_false (fun z : y = i => h1 z.symm), Bool.or_false] at hp
      exact hp.1)
    show fb_cnt (fun i => (S ||| 2 ^ y).testBit i) 9 ≤ _
    omega
  · have : fb_size (S ||| 2 ^ y) = fb_size S := fb_cnt_congr 9 (fun i hi => by
      rw [Nat.testBit_or, Nat.testBit_two_pow, decide_eq_false (by omega : ¬ y = i), Bool.or_false])
    omega
theorem fb_size_1 {S u : Nat} (hu : u < 9) (Su : S.testBit u = true) : 1 ≤ fb_size S := by
  have := fb_cnt_del (fun i => S.testBit i) u Su 9 hu
  show 1 ≤ fb_cnt (fun i => S.testBit i) 9
  omega
theorem fb_size_2 {S u v : Nat} (hu : u < 9) (hv : v < 9) (huv : v ≠ u) (Su : S.testBit u = true) (Sv : S.testBit v = true) : 2 ≤ fb_size S := by
  have h1 := fb_cnt_del (fun i => S.testBit i) u Su 9 hu
  have h2 := fb_cnt_del (fun i => S.testBit i && decide (i ≠ u)) v (by (try dsimp only); rw [Sv, decide_eq_true huv]; rfl) 9 hv
  show 2 ≤ fb_cnt (fun i => S.testBit i) 9
  omega
theorem fb_one {u n : Nat} (hu : u < n) : 2 ^ u < 2 ^ n := Nat.pow_lt_pow_right (by omega) hu
theorem fb_size_pow (u : Nat) : fb_size (2 ^ u) ≤ 1 := by
  have := fb_size_put 0 u
  rw [Nat.zero_or] at this
  have h0 : fb_size 0 = 0 := fb_cnt_zero 9 (fun i _ => Nat.zero_testBit i)
  omega
/-! ===== distances ===== -/
def fb_FI (e : Nat → Nat → Nat) (n u v r k : Nat) (F : Nat → Nat) : Prop :=
  F u = 0 ∧ (∀ x, x < 9 → x ≠ u → 0 < F x) ∧ (∀ x, x < 9 → F x ≤ r ∨ F x = 99) ∧
  (∀ x, x < 9 → F x ≠ 99 → ∃ S, S < 2 ^ n ∧ S.testBit u = true ∧ S.testBit x = true ∧ fb_size S ≤ F x + 1 ∧ fb_Conn e n S u v u x) ∧
  (∀ x y, x < 9 → y < 9 → 0 < e x y → fb_dir u v x y = false → F x + 1 < r → F y ≤ F x + 1) ∧
  (∀ x y, x < 9 → y < 9 → 9 * x + y < k → 0 < e x y → fb_dir u v x y = false → F x + 1 = r → F y ≤ r)
def fb_F0 (u : Nat) : Nat → Nat := fun x => if x = u then 0 else 99
theorem fb_FI_0 {e : Nat → Nat → Nat} {n u v : Nat} (hu : u < n) {F : Nat → Nat} (hF : ∀ x, x < 9 → F x = fb_F0 u x) (hu9 : u < 9) : fb_FI e n u v 1 0 F := by
  have h0 : F u = 0 := by rw [hF u hu9]; exact if_pos rfl
  have h1 : ∀ x, x < 9 → x ≠ u → F x = 99 := fun x hx hne => by rw [hF x hx]; exact if_neg hne
  refine ⟨h0, fun x hx hne => by rw [h1 x hx hne]; omega, fun x hx => ?_, fun x hx hne => ?_, fun x y _ _ _ _ h => by omega, fun x y _ _ h => by omega⟩
  · by_cases c : x = u
    · left; rw [c, h0]; omega
    · right; exact h1 x hx c
  · have c : x = u := Classical.byContradiction (fun c => hne (h1 x hx c))
    subst c
    exact ⟨2 ^ x, fb_one hu, Nat.testBit_two_pow_self, Nat.testBit_two_pow_self, by have := fb_size_pow x; omega, fun f _ => rfl⟩
theorem fb_FI_next {e : Nat → Nat → Nat} {n u v r : Nat} {F : Nat → Nat} (h : fb_FI e n u v r 81 F) : fb_FI e n u v (r + 1) 0 F := by
  obtain ⟨a, b, c, d, f, g⟩ := h
  refine ⟨a, b, fun x hx => (c x hx).imp (fun h => by omega) id, d, fun x y hx hy he hd hr => ?_, fun x y _ _ h => by omega⟩
  rcases Nat.lt_or_ge (F x + 1) r with hl | hl
  · exact f x y hx hy he hd hl
  · have := g x y hx hy (by omega) he hd (by omega)
    omega
theorem fb_FI_skip {e : Nat → Nat → Nat} {n u v r x y : Nat} {F : Nat → Nat} (hy : y < 9) (h : fb_FI e n u v r (9 * x + y) F) (hk : 0 < e x y → fb_dir u v x y = false → F x + 1 = r → F y ≤ r) : fb_FI e n u v r (9 * x + y + 1) F := by
  obtain ⟨a, b, c, d, f, g⟩ := h
  refine ⟨a, b, c, d, f, fun x' y' hx' hy' hl => ?_⟩
  by_cases z : 9 * x' + y' < 9 * x + y
  · exact g x' y' hx' hy' z
  · have ex : x' = x := by omega
    have ey : y' = y := by omega
    subst ex; subst ey
    exact hk
theorem fb_FI_put {e : Nat → Nat → Nat} {n u v r x y : Nat} {F F' : Nat → Nat} (hn : ∀ a b, 0 < e a b → a < n ∧ b < n) (hx : x < 9) (hy : y < 9) (h : fb_FI e n u v r (9 * x + y) F) (he : 0 < e x y) (hd : fb_dir u v x y = false) (hx2 : F x + 1 = r) (hy2 : r < F y) (hr : r < 99) (h1 : F' y = r) (h2 : ∀ z, z < 9 → z ≠ y → F' z = F z) (hu9 : u < 9) : fb_FI e n u v r (9 * x + y + 1) F' := by
  obtain ⟨a, b, c, d, f, g⟩ := h
  have hyu : u ≠ y := fun z => by rw [← z, a] at hy2; omega
  have hxy : x ≠ y := fun z => by rw [← z] at hy2; omega
  have hle : ∀ z, z < 9 → F' z ≤ F z := fun z hz => by
    by_cases q : z = y
    · subst q; omega
    · rw [h2 z hz q]; omega
  refine ⟨?_, fun z hz hne => ?_, fun z hz => ?_, fun z hz hne => ?_, fun p q hp hq hpq hdd hl => ?_, fun p q hp hq hk hpq hdd hl => ?_⟩
  · rw [h2 u hu9 hyu]; exact a
  · by_cases q : z = y
    · subst q; omega
    · rw [h2 z hz q]; exact b z hz hne
  · by_cases q : z = y
    · subst q; left; omega
    · rw [h2 z hz q]; exact c z hz
  · by_cases q : z = y
    · subst q
      obtain ⟨S, hS, Su, Sx, hsz, hc⟩ := d x hx (by omega)
      have hz2 := (hn x z he)
      refine ⟨S ||| 2 ^ z, Nat.or_lt_two_pow hS (fb_one hz2.2), by rw [Nat.testBit_or, Su]; rfl, by rw [Nat.testBit_or, Nat.testBit_two_pow_self, Bool.or_true], ?_, fun k hk => ?_⟩
      · have := fb_size_put S z; omega
      · have e1 := hc k (fun s t hs ht Ss St => hk s t hs ht (by rw [Nat.testBit_or, Ss]; rfl) (by rw [Nat.testBit_or, St]; rfl))
        have e2 := hk x z hz2.1 hz2.2 (by rw [Nat.testBit_or, Sx]; rfl) (by rw [Nat.testBit_or, Nat.testBit_two_pow_self, Bool.or_true]) he hd
        exact e1.trans e2
    · rw [h2 z hz q] at hne ⊢
      exact d z hz hne
  · by_cases z : p = y
    · subst z; omega
    · rw [h2 p hp z] at hl ⊢
      have := f p q hp hq hpq hdd hl
      have := hle q hq
      omega
  · by_cases z : p = y
    · subst z; omega
    · rw [h2 p hp z] at hl
      have hq2 := hle q hq
      by_cases w : 9 * p + q < 9 * x + y
      · have := g p q hp hq w hpq hdd hl
        omega
      · have ex : p = x := by omega
        have ey : q = y := by omega
        subst ey
        omega
theorem fb_far_le {e : Nat → Nat → Nat} {n u v k : Nat} {F : Nat → Nat} (hn : n ≤ 9) (hs : ∀ a b, e a b = e b a) (h : fb_FI e n u v n k F) {S : Nat} (hS : S < 2 ^ n) (Su : S.testBit u = true) (Sv : S.testBit v = true) (hc : fb_Conn e n S u v u v) : F v + 1 ≤ fb_size S := by
  obtain ⟨a, _, _, _, f, _⟩ := h
  have hu := fb_bit_lt hS Su
  have hv := fb_bit_lt hS Sv
  have hsn := fb_size_n hS
  have hs1 : 1 ≤ fb_size S := fb_size_1 (by omega) Su
  have key : ∀ j, j + 1 ≤ fb_size S → F v ≤ j ∨ j + 1 ≤ fb_cnt (fun x => S.testBit x && decide (F x ≤ j)) 9 := by
    intro j
    induction j with
    | zero =>
      intro _
      right
      have := fb_cnt_del (fun x => S.testBit x && decide (F x ≤ 0)) u (by (try dsimp only); rw [Su, decide_eq_true (by omega)]; rfl) 9 (by omega)
      omega
    | succ j ih =>
      intro hj
      by_cases hvj : F v ≤ j + 1
      · exact Or.inl hvj
      · right
        have h1 : j + 1 ≤ fb_cnt (fun x => S.testBit x && decide (F x ≤ j)) 9 := (ih (by omega)).resolve_left (by omega)
        rcases Nat.lt_or_ge (fb_cnt (fun x => S.testBit x && decide (F x ≤ j + 1)) 9) (j + 1 + 1) with hl | hl
        · exfalso
          have hcl := fb_cnt_same (p := fun x => S.testBit x && decide (F x ≤ j)) (q := fun x => S.testBit x && decide (F x ≤ j + 1)) 9 (fun i _ hp => by
            try dsimp only at hp ⊢
            rw [Bool.and_eq_true] at hp ⊢
            have := of_decide_eq_true hp.2
            exact ⟨hp.1, decide_eq_true (by omega)⟩) (by omega)
          have up : ∀ x y, x < n → y < n → S.testBit y = true → 0 < e x y → fb_dir u v x y = false → F x ≤ j → F y ≤ j := by
            intro x y hx hy Sy hxy hd hxj
            have h2 := f x y (by omega) (by omega) hxy hd (by omega)
            have h3 := hcl y (by omega) (by (try dsimp only); rw [Sy, decide_eq_true (by omega)]; rfl)
            try dsimp only at h3
            rw [Bool.and_eq_true] at h3
            exact of_decide_eq_true h3.2
          have hf := hc (fun x => if F x ≤ j then 1 else 0) (fun x y hx hy Sx Sy hxy hd => by
            try dsimp only
            have h2 := up x y hx hy Sy hxy hd
            have h3 := up y x hy hx Sx (by rw [hs]; exact hxy) (by rw [fb_dir_c]; exact hd)
            by_cases c : F x ≤ j
            · rw [if_pos c, if_pos (h2 c)]
            · rw [if_neg c, if_neg (fun z => c (h3 z))])
          try dsimp only at hf
          rw [if_pos (by omega), if_neg (by omega)] at hf
          omega
        · exact hl
  rcases key (fb_size S - 1) (by omega) with h1 | h1
  · omega
  · have hcl := fb_cnt_same (p := fun x => S.testBit x && decide (F x ≤ fb_size S - 1)) (q := fun x => S.testBit x) 9 (fun i _ hp => by
      try dsimp only at hp ⊢
      rw [Bool.and_eq_true] at hp
      exact hp.1) (by show fb_size S ≤ _; omega)
    have h3 := hcl v (by omega) Sv
    try dsimp only at h3
    rw [Bool.and_eq_true] at h3
    have := of_decide_eq_true h3.2
    omega
/-! ===== the girth ===== -/
def fb_Has (e : Nat → Nat → Nat) (n r : Nat) : Prop := ∃ S, S < 2 ^ n ∧ 0 < fb_ex e n S ∧ fb_size S ≤ r
def fb_Girth (e : Nat → Nat → Nat) (n r : Nat) : Prop := (0 < r → fb_Has e n r) ∧ ∀ S, S < 2 ^ n → 0 < fb_ex e n S → 0 < r ∧ r ≤ fb_size S
theorem fb_girth_u {e : Nat → Nat → Nat} {n r s : Nat} (h : fb_Girth e n r) (k : fb_Girth e n s) : r = s := by
  have a : 0 < r → 0 < s ∧ s ≤ r := fun hr => by
    obtain ⟨S, hS, hx, hz⟩ := h.1 hr
    have := k.2 S hS hx
    omega
  have b : 0 < s → 0 < r ∧ r ≤ s := fun hr => by
    obtain ⟨S, hS, hx, hz⟩ := k.1 hr
    have := h.2 S hS hx
    omega
  omega
def fb_Cyc (e : Nat → Nat → Nat) (n S u v : Nat) : Prop := S < 2 ^ n ∧ S.testBit u = true ∧ S.testBit v = true ∧ 0 < e u v ∧ (2 ≤ e u v ∨ fb_Conn e n S u v u v)
def fb_Len (e : Nat → Nat → Nat) (n u v l : Nat) : Prop := (0 < l → fb_Has e n l) ∧ ∀ S, fb_Cyc e n S u v → 0 < l ∧ l ≤ fb_size S
def fb_GI (e : Nat → Nat → Nat) (n u v r : Nat) : Prop := (0 < r → fb_Has e n r) ∧ ∀ S a b, b ≤ a → (a < u ∨ (a = u ∧ b < v)) → fb_Cyc e n S a b → 0 < r ∧ r ≤ fb_size S
theorem fb_GI_end {e : Nat → Nat → Nat} {n r : Nat} (hn : n ≤ 9) (hs : ∀ a b, e a b = e b a) (h : fb_GI e n n 0 r) : fb_Girth e n r :=
  ⟨h.1, fun S hS hx => by
    obtain ⟨u, v, hvu, hu, Su, Sv, he, hc⟩ := fb_pos_cyc hn hs hx
    exact h.2 S u v hvu (Or.inl hu) ⟨hS, Su, Sv, he, hc⟩⟩
theorem fb_GI_row {e : Nat → Nat → Nat} {n u r : Nat} (h : fb_GI e n u (u + 1) r) : fb_GI e n (u + 1) 0 r :=
  ⟨h.1, fun S a b hba hd hc => h.2 S a b hba (by omega) hc⟩
theorem fb_GI_0 (e : Nat → Nat → Nat) (n : Nat) : fb_GI e n 0 0 0 :=
  ⟨fun h => absurd h (by omega), fun S a b hba hd => by omega⟩
def fb_min (r l : Nat) : Nat := if l = 0 then r else if r = 0 then l else if r ≤ l then r else l
theorem fb_GI_step {e : Nat → Nat → Nat} {n u v r l : Nat} (h : fb_GI e n u v r) (hl : fb_Len e n u v l) : fb_GI e n u (v + 1) (fb_min r l) := by
  have hm : (fb_min r l = r ∧ (l = 0 ∨ (0 < r ∧ r ≤ l))) ∨ (fb_min r l = l ∧ 0 < l ∧ (r = 0 ∨ l < r)) := by
    unfold fb_min
    split
    · left; exact ⟨rfl, by omega⟩
    · split
      · right; exact ⟨rfl, by omega, by omega⟩
      · split
        · left; exact ⟨rfl, by omega⟩
        · right; exact ⟨rfl, by omega, by omega⟩
  refine ⟨fun h0 => ?_, fun S a b hba hd hc => ?_⟩
  · rcases hm with ⟨e1, _⟩ | ⟨e1, _⟩
    · rw [e1] at h0 ⊢; exact h.1 h0
    · rw [e1] at h0 ⊢; exact hl.1 h0
  · by_cases z : a < u ∨ (a = u ∧ b < v)
    · have := h.2 S a b hba z hc
      omega
    · have ea : a = u := by omega
      have eb : b = v := by omega
      subst ea; subst eb
      have := hl.2 S hc
      omega
theorem fb_len_0 {e : Nat → Nat → Nat} {n u v : Nat} (h : e u v = 0) : fb_Len e n u v 0 :=
  ⟨fun h => absurd h (by omega), fun S hc => by have := hc.2.2.2.1; omega⟩
theorem fb_len_1 {e : Nat → Nat → Nat} {n u : Nat} (hn : n ≤ 9) (hs : ∀ a b, e a b = e b a) (hu : u < n) (h : 0 < e u u) : fb_Len e n u u 1 :=
  ⟨fun _ => ⟨2 ^ u, fb_one hu, fb_cyc_pos hn hs (Nat.le_refl u) hu Nat.testBit_two_pow_self Nat.testBit_two_pow_self h (Or.inr (fun _ _ => rfl)), fb_size_pow u⟩,
   fun S hc => ⟨by omega, fb_size_1 (by omega) hc.2.1⟩⟩
theorem fb_len_2 {e : Nat → Nat → Nat} {n u v : Nat} (hn : n ≤ 9) (hs : ∀ a b, e a b = e b a) (hu : u < n) (hv : v < u) (h : e u v = 2) : fb_Len e n u v 2 :=
  ⟨fun _ => ⟨2 ^ u ||| 2 ^ v, Nat.or_lt_two_pow (fb_one hu) (fb_one (by omega)), fb_cyc_pos hn hs (by omega : v ≤ u) hu (by rw [Nat.testBit_or, Nat.testBit_two_pow_self]; rfl) (by rw [Nat.testBit_or, Nat.testBit_two_pow_self, Bool.or_true]) (by omega) (Or.inl (by omega)), by
      have := fb_size_put (2 ^ u) v
      have := fb_size_pow u
      omega⟩,
   fun S hc => ⟨by omega, fb_size_2 (u := u) (v := v) (by omega) (by omega) (by omega) hc.2.1 hc.2.2.1⟩⟩
theorem fb_len_w {e : Nat → Nat → Nat} {n u v k : Nat} {F : Nat → Nat} (hn : n ≤ 9) (hs : ∀ a b, e a b = e b a) (hu : u < n) (hv : v < u) (h : e u v = 1) (hF : fb_FI e n u v n k F) : (F v = 99 → fb_Len e n u v 0) ∧ (F v ≠ 99 → 0 < F v ∧ F v < 99 ∧ fb_Len e n u v (F v + 1)) := by
  have hlow : ∀ S, fb_Cyc e n S u v → F v + 1 ≤ fb_size S := fun S hc =>
    fb_far_le hn hs hF hc.1 hc.2.1 hc.2.2.1 (hc.2.2.2.2.resolve_left (by omega))
  refine ⟨fun h9 => ⟨fun h => absurd h (by omega), fun S hc => ?_⟩, fun h9 => ⟨hF.2.1 v (by omega) (by omega), ?_, fun _ => ?_, fun S hc => ⟨by omega, hlow S hc⟩⟩⟩
  · have h1 := hlow S hc
    have h2 := fb_size_le S
    omega
  · rcases hF.2.2.1 v (by omega) with h1 | h1
    · omega
    · exact absurd h1 h9
  · obtain ⟨S, hS, Su, Sv, hz, hc⟩ := hF.2.2.2.1 v (by omega) h9
    exact ⟨S, hS, fb_cyc_pos hn hs (by omega : v ≤ u) hu Su Sv (by omega) (Or.inr hc), hz⟩
/-! ===== the first smallest set ===== -/
def fb_Pick (P : Nat → Prop) (N : Nat) : Option Nat → Prop
  | none => ∀ S, S < N → ¬ P S
  | some b => b < N ∧ P b ∧ (∀ S, S < b → P S → fb_size b < fb_size S) ∧ ∀ S, S < N → P S → fb_size b ≤ fb_size S
theorem fb_pick_u {P Q : Nat → Prop} {N : Nat} (h : ∀ S, S < N → (P S ↔ Q S)) : ∀ {o p : Option Nat}, fb_Pick P N o → fb_Pick Q N p → o = p
  | none, none, _, _ => rfl
  | none, some b, ho, hp => absurd ((h b hp.1).mpr hp.2.1) (ho b hp.1)
  | some b, none, ho, hp => absurd ((h b ho.1).mp ho.2.1) (hp b ho.1)
  | some b, some c, ho, hp => by
    have h1 := ho.2.2.2 c hp.1 ((h c hp.1).mpr hp.2.1)
    have h2 := hp.2.2.2 b ho.1 ((h b ho.1).mp ho.2.1)
    have h3 : ¬ b < c := fun z => by have := hp.2.2.1 b z ((h b ho.1).mp ho.2.1); omega
    have h4 : ¬ c < b := fun z => by have := ho.2.2.1 c z ((h c hp.1).mpr hp.2.1); omega
    rw [show b = c by omega]
theorem fb_pick_no {P : Nat → Prop} {k : Nat} (h : ¬ P k) : ∀ {o : Option Nat}, fb_Pick P k o → fb_Pick P (k + 1) o
  | none, ho => fun S hS hp => by
    by_cases z : S < k
    · exact ho S z hp
    · rw [show S = k by omega] at hp; exact h hp
  | some b, ho => ⟨by have := ho.1; omega, ho.2.1, ho.2.2.1, fun S hS hp => by
    by_cases z : S < k
    · exact ho.2.2.2 S z hp
    · rw [show S = k by omega] at hp; exact absurd hp h⟩
def fb_bs : Option Nat → Nat
  | none => 10
  | some b => fb_size b
theorem fb_bs_le : ∀ o : Option Nat, fb_bs o ≤ 10
  | none => by decide
  | some b => by have := fb_size_le b; show fb_size b ≤ 10; omega
theorem fb_pick_ge {P : Nat → Prop} {k : Nat} : ∀ {o : Option Nat}, fb_bs o ≤ fb_size k → fb_Pick P k o → fb_Pick P (k + 1) o
  | none, hb, _ => by
    have h1 : 10 ≤ fb_size k := hb
    have := fb_size_le k
    omega
  | some b, hb, ho => ⟨by have := ho.1; omega, ho.2.1, ho.2.2.1, fun S hS hp => by
    by_cases z : S < k
    · exact ho.2.2.2 S z hp
    · rw [show S = k by omega]; exact hb⟩
theorem fb_pick_lt {P : Nat → Prop} {k : Nat} : ∀ {o : Option Nat}, fb_size k < fb_bs o → P k → fb_Pick P k o → fb_Pick P (k + 1) (some k)
  | none, _, hk, ho => ⟨by omega, hk, fun S hS hp => absurd hp (ho S hS), fun S hS hp => by
    by_cases z : S < k
    · exact absurd hp (ho S z)
    · rw [show S = k by omega]; exact Nat.le_refl _⟩
  | some b, hb, hk, ho => by
    have hb' : fb_size k < fb_size b := hb
    exact ⟨by omega, hk, fun S hS hp => by have := ho.2.2.2 S hS hp; omega, fun S hS hp => by
      by_cases z : S < k
      · have := ho.2.2.2 S z hp; omega
      · rw [show S = k by omega]; exact Nat.le_refl _⟩
/-- -1 or the set -/
def fb_ans : Option Nat → Int32
  | none => -1
  | some b => nI b
end
section
/-! ===== the component's forest ===== -/
def fb_G (e : Nat → Nat → Nat) (n : Nat) : Prop := (∀ a b, e a b = e b a) ∧ (∀ a b, e a b ≤ 2) ∧ ∀ a b, 0 < e a b → a < n ∧ b < n
def fb_EX (e : Nat → Nat → Nat) (aE : Nat → Int32) : Prop := ∀ a b, a < 9 → b < 9 → aE (a * 9 + b) = nI (if a ≤ b then e a b else 0)
def fb_Lab (s : Nat × (Nat → Nat)) (t : Nat → Int32) : Prop := ∀ x, x < 9 → s.2 x < 9 ∧ t x = nI (s.2 x)
theorem fb_step_0 {w : Nat → Nat → Nat} {s : Nat × (Nat → Nat)} {u v : Nat} (h : w u v = 0) : fb_step w s (u, v) = s := if_pos h
theorem fb_step_t {w : Nat → Nat → Nat} {s : Nat × (Nat → Nat)} {u v : Nat} (h : w u v ≠ 0) (hl : s.2 u = s.2 v) : fb_step w s (u, v) = (s.1 + w u v, s.2) := by
  unfold fb_step
  rw [if_neg h, if_pos hl]
theorem fb_step_f {w : Nat → Nat → Nat} {s : Nat × (Nat → Nat)} {u v : Nat} (h : w u v ≠ 0) (hl : ¬ s.2 u = s.2 v) : fb_step w s (u, v) = (s.1 + (w u v - 1), fb_mrg s.2 u v) := by
  unfold fb_step
  rw [if_neg h, if_neg hl]
theorem fx_join {post : SX → Prop} {fn fk : Int32} {aE : Nat → Int32} {L : Nat → Nat} {u v : Nat} (hu : L u < 9) (hv : L v < 9) (hL : ∀ w, w < 9 → L w < 9) (hp : ∀ t' : Nat → Int32, (∀ w, w < 9 → t' w = nI (fb_mrg L u v w)) → post (fn, fk, aE, t')) : ∀ (d j : Nat) (t : Nat → Int32), j + d = 9 → (∀ w, w < 9 → (w < j → t w = nI (fb_mrg L u v w)) ∧ (j ≤ w → t w = nI (L w))) → wX_joinTrees_2 post (nI (L u)) (nI (L v)) fn fk (d + 1) (nI j) aE t := by
  intro d
  induction d with
  | zero =>
    intro j t hj ht
    have e9 : j = 9 := by omega
    subst e9
    exact br_t (by decide) (hp t (fun w hw => (ht w hw).1 hw))
  | succ d ih =>
    intro j t hj ht
    have hin : vp_in (nI j) 9 := vp_in_nI (by omega) (by omega)
    have hc : (nI j).toNatClampNeg = j := nI_clamp (by omega)
    have htj : t (nI j).toNatClampNeg = nI (L j) := by rw [hc]; exact (ht j (by omega)).2 (Nat.le_refl _)
    have hj9 := hL j (by omega)
    refine br_f (nI_ge (a := j) (b := 9) (by omega) (by omega)) ⟨hin, pk_eq (L j) (L v) (fun h => ⟨hin, fun t2 e2 x3 e3 => ?_⟩) (fun h x3 e3 => ?_) htj⟩
    · rw [e3, nI_1, e2, hc]
      refine ih (j + 1) _ (by omega) (fun w hw => ?_)
      by_cases z : w = j
      · subst z
        exact ⟨fun _ => by rw [pk_us, fb_mrg_t h], fun z => by omega⟩
      · rw [pk_un z]
        exact ⟨fun k => (ht w hw).1 (by omega), fun k => (ht w hw).2 (by omega)⟩
    · rw [e3, nI_1]
      refine ih (j + 1) _ (by omega) (fun w hw => ⟨fun k => ?_, fun k => (ht w hw).2 (by omega)⟩)
      by_cases z : w = j
      · subst z
        rw [fb_mrg_f h]; exact (ht w hw).2 (Nat.le_refl _)
      · exact (ht w hw).1 (by omega)
theorem fx_row {post : Int32 → SX → Prop} {J : Int32 → Int32 → Int32 → Int32 → (Nat → Int32) → (Nat → Int32) → Prop} {e : Nat → Nat → Nat} {n M u : Nat} {fk : Int32} {aE : Nat → Int32} (hn : n ≤ 9) (hM : M < 512) (hG : fb_G e n) (hE : fb_EX e aE) (hu : u < n) : ∀ (d v : Nat) (s : Nat × (Nat → Nat)) (t : Nat → Int32), v + d = n → u ≤ v → fb_Lab s t → (∀ t' : Nat → Int32, fb_Lab ((fb_row u v d).foldl (fb_step (fb_w e M)) s) t' → J (nI ((fb_row u v d).foldl (fb_step (fb_w e M)) s).1) (nI (u + 1)) (nI n) fk aE t') → wX_excessWithin_36 post J (nI M) (nI u) (d + 1) (nI s.1) (nI v) (nI n) fk aE t := by
  intro d
  induction d with
  | zero =>
    intro v s t hv huv ht hJ
    exact br_t (nI_le (by omega) (by omega)) (nm_r (nI_1 u) (hJ t ht))
  | succ d ih =>
    intro v s t hv huv ht hJ
    have e1 : ((1 : Int32) <<< (nI u &&& 31)) ||| ((1 : Int32) <<< (nI v &&& 31)) = nI (2 ^ u ||| 2 ^ v) := by
      rw [fa_shl (by omega), fa_shl (by omega), fa_or]
    have e2 : nI u * 9 + nI v = nI (u * 9 + v) := by
      rw [show (9 : Int32) = nI 9 from rfl, pk_mul, nI_add]
    have hin : vp_in (nI u * 9 + nI v) 81 := by rw [e2]; exact vp_in_nI (by omega) (by omega)
    have e3 : aE (nI u * 9 + nI v).toNatClampNeg = nI (e u v) := by
      rw [e2, nI_clamp (by omega), hE u v (by omega) (by omega), if_pos huv]
    have hP : 2 ^ u ||| 2 ^ v < 512 := Nat.or_lt_two_pow (n := 9) (fb_one (by omega)) (fb_one (by omega))
    have he2 := hG.2.1 u v
    have hiu : vp_in (nI u) 9 := vp_in_nI (by omega) (by omega)
    have hiv : vp_in (nI v) 9 := vp_in_nI (by omega) (by omega)
    have htu : t (nI u).toNatClampNeg = nI (s.2 u) := by rw [nI_clamp (by omega)]; exact (ht u (by omega)).2
    have htv : t (nI v).toNatClampNeg = nI (s.2 v) := by rw [nI_clamp (by omega)]; exact (ht v (by omega)).2
    have hu9 := (ht u (by omega)).1
    have hv9 := (ht v (by omega)).1
    have go : ∀ (s' : Nat × (Nat → Nat)) (t' : Nat → Int32), fb_step (fb_w e M) s (u, v) = s' → fb_Lab s' t' → wX_excessWithin_36 post J (nI M) (nI u) (d + 1) (nI s'.1) (nI (v + 1)) (nI n) fk aE t' := by
      intro s' t' es hl
      refine ih (v + 1) s' t' (by omega) (by omega) hl ?_
      rw [← es]
      exact hJ
    refine br_f (nI_ge (by omega) (by omega)) (nm_r e1 ⟨hin, nm_r e3 ?_⟩)
    by_cases c : (M.testBit u && M.testBit v) = true
    · have hw : fb_w e M u v = e u v := if_pos c
      refine br_t (by rw [nx_and, fa_pair.mpr c]) ?_
      refine pk_le (e u v) 0 (fun h0 => nm_r (nI_1 v) (go s t (fb_step_0 (by omega)) ht)) (fun h0 => ⟨hiu, hiv, ?_⟩)
      refine pk_eq (s.2 u) (s.2 v) (fun hl => ?_) (fun hl => ?_) htu htv
      · refine nm_r (nI_add s.1 (e u v)) (nm_r (nI_1 v) ?_)
        exact go (s.1 + e u v, s.2) t (by rw [fb_step_t (by omega) hl, hw]) ht
      · refine nm_r (e' := nI (s.1 + (e u v - 1))) (by rw [show (1 : Int32) = nI 1 from rfl, pk_sub (by omega), nI_add]) ⟨hiu, hiv, ?_⟩
        rw [htu, htv]
        refine ⟨10, ?_⟩
        refine fx_join (L := s.2) hu9 hv9 (fun w hw => (ht w hw).1) (fun t' ht' => ?_) 9 0 t (by omega) (fun w hw => ⟨fun z => by omega, fun _ => (ht w hw).2⟩)
        refine nm_r (nI_1 v) ?_
        refine go (s.1 + (e u v - 1), fb_mrg s.2 u v) t' (by rw [fb_step_f (by omega) hl, hw]) (fun w hw => ⟨?_, ht' w hw⟩)
        show fb_mrg s.2 u v w < 9
        unfold fb_mrg
        split
        · exact hu9
        · exact (ht w hw).1
    · have hw : fb_w e M u v = 0 := if_neg c
      refine br_f (fun z => ?_) (nm_r (nI_1 v) (go s t (fb_step_0 hw) ht))
      rw [nx_and, nI_eq (Nat.lt_of_le_of_lt Nat.and_le_right (by omega)) (by omega)] at z
      exact c (fa_pair.mp z)
theorem fx_all {post : Int32 → SX → Prop} {e : Nat → Nat → Nat} {n M : Nat} {fk : Int32} {aE : Nat → Int32} (hn : n ≤ 9) (hM : M < 512) (hG : fb_G e n) (hE : fb_EX e aE) : ∀ (d u : Nat) (s : Nat × (Nat → Nat)) (t : Nat → Int32), u + d = n → fb_Lab s t → (∀ t' : Nat → Int32, post (nI ((fb_aX u d).foldl (fb_step (fb_w e M)) s).1) (nI n, fk, aE, t')) → wX_excessWithin_25 post (nI M) (d + 1) (nI s.1) (nI u) (nI n) fk aE t := by
  intro d
  induction d with
  | zero =>
    intro u s t hu ht hp
    exact br_t (nI_le (by omega) (by omega)) (hp t)
  | succ d ih =>
    intro u s t hu ht hp
    refine br_f (nI_ge (by omega) (by omega)) ⟨d + 1 + 1, ?_⟩
    refine fx_row hn hM hG hE (by omega) (d + 1) u s t (by omega) (Nat.le_refl _) ht (fun t' ht' => ?_)
    refine ih (u + 1) _ t' (by omega) ht' (fun t2 => ?_)
    rw [← List.foldl_append]
    exact hp t2
theorem fx_init {post : Int32 → SX → Prop} {M : Nat} {fn fk : Int32} {aE : Nat → Int32} (hp : ∀ t' : Nat → Int32, (∀ w, w < 9 → t' w = nI w) → ∃ k, wX_excessWithin_25 post (nI M) k 0 0 fn fk aE t') : ∀ (d j : Nat) (t : Nat → Int32), j + d = 9 → (∀ w, w < j → t w = nI w) → wX_excessWithin_2 post (nI M) fn fk (d + 1) (nI j) aE t := by
  intro d
  induction d with
  | zero =>
    intro j t hj ht
    have e9 : j = 9 := by omega
    subst e9
    exact br_t (by decide) (hp t ht)
  | succ d ih =>
    intro j t hj ht
    have hc : (nI j).toNatClampNeg = j := nI_clamp (by omega)
    refine br_f (nI_ge (a := j) (b := 9) (by omega) (by omega)) ⟨vp_in_nI (by omega) (by omega), fun t2 e2 x3 e3 => ?_⟩
    rw [e3, nI_1, e2, hc]
    refine ih (j + 1) _ (by omega) (fun w hw => ?_)
    by_cases z : w = j
    · subst z; rw [pk_us]
    · rw [pk_un z]; exact ht w (by omega)
theorem fx_excess {post : Int32 → SX → Prop} {e : Nat → Nat → Nat} {n M : Nat} {fk : Int32} {aE t : Nat → Int32} (hn : n ≤ 9) (hM : M < 512) (hG : fb_G e n) (hE : fb_EX e aE) (hp : ∀ t' : Nat → Int32, post (nI (fb_ex e n M)) (nI n, fk, aE, t')) : wpX_excessWithin post (nI n, fk, aE, t) (nI M) := by
  refine ⟨10, ?_⟩
  refine fx_init (fun t' ht' => ⟨n + 1, ?_⟩) 9 0 t (by omega) (fun w hw => by omega)
  exact fx_all hn hM hG hE n 0 (0, fun x => x) t' (by omega) (fun w hw => ⟨hw, ht' w hw⟩) hp
theorem fb_row_le {w : Nat → Nat → Nat} (h : ∀ a b, w a b ≤ 2) (u : Nat) : ∀ d v, fb_sum w (fb_row u v d) ≤ 2 * d
  | 0, _ => by show 0 ≤ _; omega
  | d + 1, v => by
    have := fb_row_le h u d (v + 1)
    have := h u v
    show w u v + fb_sum w (fb_row u (v + 1) d) ≤ _
    omega
theorem fb_aX_le {w : Nat → Nat → Nat} (h : ∀ a b, w a b ≤ 2) : ∀ d u, d ≤ 9 → fb_sum w (fb_aX u d) ≤ 20 * d
  | 0, _, _ => by show 0 ≤ _; omega
  | d + 1, u, hd => by
    have h1 := fb_aX_le h d (u + 1) (by omega)
    have h2 := fb_row_le h u (d + 1) u
    show fb_sum w (fb_row u u (d + 1) ++ fb_aX (u + 1) d) ≤ _
    rw [fb_sum_app]
    omega
theorem fb_ex_le {e : Nat → Nat → Nat} {n : Nat} (hn : n ≤ 9) (hG : fb_G e n) (M : Nat) : fb_ex e n M ≤ 180 := by
  have I := (fb_inv_run (w := fb_w e M) (fb_bX hn)).2.1
  have h1 : fb_fix (fb_run (fb_w e M) (fb_aX 0 n)).2 ≤ 9 := fb_cnt_le _ _
  have h2 := fb_aX_le (w := fb_w e M) (fun a b => by
    unfold fb_w
    split
    · exact hG.2.1 a b
    · omega) n 0 hn
  unfold fb_ex
  omega
end
section
/-! ===== the component's walks over the sets ===== -/
theorem fx_size {post : Int32 → Prop} {S : Nat} {fn fk : Int32} {aE t : Nat → Int32} (hS : S < 512) (hp : post (nI (fb_size S))) : wpX_sizeOf post (fn, fk, aE, t) (nI S) := by
  refine ⟨10, ?_⟩
  have go : ∀ d j, j + d = 9 → wX_sizeOf_4 post (nI S) fn fk aE t (d + 1) (nI (fb_cnt (fun i => S.testBit i) j)) (nI j) := by
    intro d
    induction d with
    | zero =>
      intro j hj
      have e9 : j = 9 := by omega
      subst e9
      exact br_t (by decide) hp
    | succ d ih =>
      intro j hj
      refine br_f (nI_ge (a := j) (b := 9) (by omega) (by omega)) (nm_r (e' := nI (fb_cnt (fun i => S.testBit i) (j + 1))) ?_ (nm_r (nI_1 j) (ih (j + 1) (by omega))))
      rw [fa_bit (by omega) (by omega), nI_add]
      rfl
  exact go 9 0 (by omega)
def fb_Acy (e : Nat → Nat → Nat) (n S : Nat) : Prop := fb_ex e n (2 ^ n - (S + 1)) = 0
theorem fx_lnc {post : Int32 → SX → Prop} {e : Nat → Nat → Nat} {n S : Nat} {fk : Int32} {aE t : Nat → Int32} (hn : n ≤ 9) (hS : S < 2 ^ n) (hG : fb_G e n) (hE : fb_EX e aE) (h1 : fb_Acy e n S → ∀ t' : Nat → Int32, post 1 (nI n, fk, aE, t')) (h0 : ¬ fb_Acy e n S → ∀ t' : Nat → Int32, post 0 (nI n, fk, aE, t')) : wpX_leavesNoCycle post (nI n, fk, aE, t) (nI S) := by
  have hp := fa_pw hn
  refine nm_r (e' := nI (2 ^ n - (S + 1))) (by rw [fa_all hn, fa_mask (by omega) hS]) ?_
  refine fx_excess hn (by omega) hG hE (fun t' => ?_)
  have hx := fb_ex_le hn hG (2 ^ n - (S + 1))
  exact pk_eq (fb_ex e n (2 ^ n - (S + 1))) 0 (fun h => h1 h t') (fun h => h0 h t')
def fb_P (e : Nat → Nat → Nat) (n W B S : Nat) : Prop := S &&& W = W ∧ S &&& B = 0 ∧ fb_Acy e n S
theorem fx_small {post : Int32 → SX → Prop} {e : Nat → Nat → Nat} {n W B : Nat} {fk : Int32} {aE : Nat → Int32} (hn : n ≤ 9) (hG : fb_G e n) (hE : fb_EX e aE) (hW : W < 512) (hB : B < 512) (hp : ∀ (o : Option Nat) (t' : Nat → Int32), fb_Pick (fb_P e n W B) (2 ^ n) o → post (fb_ans o) (nI n, fk, aE, t')) (t : Nat → Int32) : wpX_smallestBreaking post (nI n, fk, aE, t) (nI W) (nI B) := by
  have hpw := fa_pw hn
  have h1p : 1 ≤ 2 ^ n := Nat.one_le_two_pow
  have go : ∀ (d k : Nat) (o : Option Nat) (t : Nat → Int32), k + d = 2 ^ n → fb_Pick (fb_P e n W B) k o → wX_smallestBreaking_15 post (nI W) (nI B) (nI (2 ^ n - 1)) (d + 1) (fb_ans o) (nI (fb_bs o)) (nI k) (nI n) fk aE t := by
    intro d
    induction d with
    | zero =>
      intro k o t hk ho
      have ek : k = 2 ^ n := by omega
      subst ek
      exact br_t (nI_lt (by omega) (by omega)) (hp o t ho)
    | succ d ih =>
      intro k o t hk ho
      have hbs := fb_bs_le o
      have hkW : k &&& W < 512 := Nat.lt_of_le_of_lt Nat.and_le_left (by omega)
      have hkB : k &&& B < 512 := Nat.lt_of_le_of_lt Nat.and_le_left (by omega)
      have hsz := fb_size_le k
      refine br_f (nI_nlt (by omega) (by omega)) ?_
      refine pk_eq (k &&& W) W (fun hw => ?_) (fun hw => nm_r (nI_1 k) (ih (k + 1) o t (by omega) (fb_pick_no (fun z => hw z.1) ho))) (nx_and k W)
      refine pk_eq (k &&& B) 0 (fun hb => ?_) (fun hb => nm_r (nI_1 k) (ih (k + 1) o t (by omega) (fb_pick_no (fun z => hb z.2.1) ho))) (nx_and k B)
      refine fx_size (by omega) ?_
      refine pk_le (fb_bs o) (fb_size k) (fun hl => nm_r (nI_1 k) (ih (k + 1) o t (by omega) (fb_pick_ge hl ho))) (fun hl => ?_)
      refine fx_lnc hn (by omega) hG hE (fun ha t' => ?_) (fun ha t' => ?_)
      · exact br_f (by decide) (nm_r (nI_1 k) (ih (k + 1) (some k) t' (by omega) (fb_pick_lt hl ⟨hw, hb, ha⟩ ho)))
      · exact br_t rfl (nm_r (nI_1 k) (ih (k + 1) o t' (by omega) (fb_pick_no (fun z => ha z.2.2) ho)))
  show ∃ m, wX_smallestBreaking_15 post (nI W) (nI B) (((1 : Int32) <<< (nI n &&& 31)) - 1) m (-1) 10 0 (nI n) fk aE t
  rw [fa_all hn]
  exact ⟨2 ^ n + 1, go (2 ^ n) 0 none t (by omega) (fun S hS => by omega)⟩
theorem fb_ans_ne {b : Nat} (hb : b < 512) : ¬ nI b = -1 := fun h => by
  have h2 := congrArg Int32.toInt h
  rw [nI_toInt (by omega), show (-1 : Int32).toInt = -1 by decide] at h2
  omega
def fb_Q (e : Nat → Nat → Nat) (n W K z S : Nat) : Prop := S &&& W = W ∧ S &&& K = 0 ∧ fb_size S = z ∧ fb_Acy e n S
noncomputable def fb_Qb (e : Nat → Nat → Nat) (n W K z S : Nat) : Bool := @decide (fb_Q e n W K z S) (Classical.propDecidable _)
theorem fb_Qb_t {e : Nat → Nat → Nat} {n W K z S : Nat} (h : fb_Q e n W K z S) : fb_Qb e n W K z S = true := by
  unfold fb_Qb; exact @decide_eq_true _ (Classical.propDecidable _) h
theorem fb_Qb_f {e : Nat → Nat → Nat} {n W K z S : Nat} (h : ¬ fb_Q e n W K z S) : fb_Qb e n W K z S = false := by
  unfold fb_Qb; exact @decide_eq_false _ (Classical.propDecidable _) h
noncomputable def fb_tal (e : Nat → Nat → Nat) (n W K : Nat) : Option Nat → Nat
  | none => 0
  | some b => fb_cnt (fb_Qb e n W K (fb_size b)) (2 ^ n)
theorem fb_cnt_t {p : Nat → Bool} {k : Nat} (h : p k = true) : fb_cnt p (k + 1) = fb_cnt p k + 1 := by
  show fb_cnt p k + (p k).toNat = _
  rw [h]; rfl
theorem fb_cnt_f {p : Nat → Bool} {k : Nat} (h : p k = false) : fb_cnt p (k + 1) = fb_cnt p k := by
  show fb_cnt p k + (p k).toNat = _
  rw [h]; rfl
theorem fx_count {post : Int32 → SX → Prop} {e : Nat → Nat → Nat} {n W K : Nat} {aE : Nat → Int32} (hn : n ≤ 9) (hG : fb_G e n) (hE : fb_EX e aE) (hW : W < 512) (hK : K < 512) (hp : ∀ (o : Option Nat) (t' : Nat → Int32), fb_Pick (fb_P e n 0 K) (2 ^ n) o → post (nI (fb_tal e n W K o)) (nI n, nI K, aE, t')) (t : Nat → Int32) : wpX_countBreakersWith post (nI n, nI K, aE, t) (nI W) := by
  have hpw := fa_pw hn
  have h1p : 1 ≤ 2 ^ n := Nat.one_le_two_pow
  refine fx_small (W := 0) hn hG hE (by omega) hK (fun o t1 ho => ?_) t
  cases o with
  | none => exact br_t rfl (hp none t1 ho)
  | some b =>
    have hb : b < 2 ^ n := ho.1
    have hz := fb_size_le b
    refine br_f (fb_ans_ne (by omega)) ?_
    refine fx_size (S := b) (by omega) ?_
    have go : ∀ (d k : Nat) (t : Nat → Int32), k + d = 2 ^ n → wX_countBreakersWith_35 post (nI W) (nI (fb_size b)) (nI (2 ^ n - 1)) (d + 1) (nI (fb_cnt (fb_Qb e n W K (fb_size b)) k)) (nI k) (nI n) (nI K) aE t := by
      intro d
      induction d with
      | zero =>
        intro k t hk
        have ek : k = 2 ^ n := by omega
        subst ek
        exact br_t (nI_lt (by omega) (by omega)) (hp (some b) t ho)
      | succ d ih =>
        intro k t hk
        have hkW : k &&& W < 512 := Nat.lt_of_le_of_lt Nat.and_le_left (by omega)
        have hkK : k &&& K < 512 := Nat.lt_of_le_of_lt Nat.and_le_left (by omega)
        have hsz := fb_size_le k
        have no : ¬ fb_Q e n W K (fb_size b) k → ∀ t : Nat → Int32, wX_countBreakersWith_35 post (nI W) (nI (fb_size b)) (nI (2 ^ n - 1)) (d + 1) (nI (fb_cnt (fb_Qb e n W K (fb_size b)) k)) (nI (k + 1)) (nI n) (nI K) aE t := fun h t => by
          have := ih (k + 1) t (by omega)
          rw [fb_cnt_f (fb_Qb_f h)] at this
          exact this
        refine br_f (nI_nlt (by omega) (by omega)) ?_
        refine pk_eq (k &&& W) W (fun hw => ?_) (fun hw => br_t rfl (nm_r (nI_1 k) (no (fun z => hw z.1) t))) (nx_and k W)
        refine pk_eq (k &&& K) 0 (fun hb => ?_) (fun hb => br_t rfl (nm_r (nI_1 k) (no (fun z => hb z.2.1) t))) (nx_and k K)
        refine br_f (by decide) ?_
        refine fx_size (by omega) ?_
        refine pk_eq (fb_size k) (fb_size b) (fun hl => ?_) (fun hl => nm_r (nI_1 k) (no (fun z => hl z.2.2.1) t))
        refine fx_lnc hn (by omega) hG hE (fun ha t' => ?_) (fun ha t' => ?_)
        · refine br_f (by decide) (nm_r (nI_1 _) (nm_r (nI_1 k) ?_))
          have := ih (k + 1) t' (by omega)
          rw [fb_cnt_t (fb_Qb_t ⟨hw, hb, hl, ha⟩)] at this
          exact this
        · exact br_t rfl (nm_r (nI_1 k) (no (fun z => ha z.2.2.2) t'))
    show ∃ m, wX_countBreakersWith_35 post (nI W) (nI (fb_size b)) (((1 : Int32) <<< (nI n &&& 31)) - 1) m 0 (nI b) (nI n) (nI K) aE t1
    rw [fa_all hn]
    refine ⟨2 ^ n - b + 1, ?_⟩
    have h0 : fb_cnt (fb_Qb e n W K (fb_size b)) b = 0 := fb_cnt_zero b (fun S hS => fb_Qb_f (fun z => by
      have := ho.2.2.1 S hS ⟨Nat.and_zero S, z.2.1, z.2.2.2⟩
      have := z.2.2.1
      omega))
    have := go (2 ^ n - b) b t1 (by omega)
    rw [h0] at this
    exact this
theorem fx_girth {post : Int32 → SX → Prop} {e : Nat → Nat → Nat} {n : Nat} {fk : Int32} {aE : Nat → Int32} (hn : n ≤ 9) (hG : fb_G e n) (hE : fb_EX e aE) (hp : ∀ (r : Nat) (t' : Nat → Int32), fb_Girth e n r → post (nI r) (nI n, fk, aE, t')) (t : Nat → Int32) : wpX_girth post (nI n, fk, aE, t) := by
  have hpw := fa_pw hn
  have h1p : 1 ≤ 2 ^ n := Nat.one_le_two_pow
  have go : ∀ (d k r : Nat) (t : Nat → Int32), k + d = 2 ^ n → r ≤ 9 → (0 < r → fb_Has e n r) → (∀ S, 1 ≤ S → S < k → 0 < fb_ex e n S → 0 < r ∧ r ≤ fb_size S) → wX_girth_9 post (nI (2 ^ n - 1)) (d + 1) (nI r) (nI k) (nI n) fk aE t := by
    intro d
    induction d with
    | zero =>
      intro k r t hk hr ha hb
      have ek : k = 2 ^ n := by omega
      subst ek
      refine br_t (nI_lt (by omega) (by omega)) (hp r t ⟨ha, fun S hS hx => hb S ?_ hS hx⟩)
      obtain ⟨u, _, _, _, Su, _⟩ := fb_pos_cyc hn hG.1 hx
      rcases Nat.eq_zero_or_pos S with z | z
      · rw [z, Nat.zero_testBit] at Su; exact absurd Su (by simp)
      · exact z
    | succ d ih =>
      intro k r t hk hr ha hb
      have hsz := fb_size_le k
      have hx := fb_ex_le hn hG k
      refine br_f (nI_nlt (by omega) (by omega)) ?_
      refine fx_size (by omega) ?_
      have body : (r = 0 ∨ fb_size k < r) → wX_girth_31 post (wX_girth_9 post (nI (2 ^ n - 1)) (d + 1)) (nI r) (nI (2 ^ n - 1)) (nI k) (nI (fb_size k)) (nI n) fk aE t := by
        intro hr2
        refine fx_excess hn (by omega) hG hE (fun t' => ?_)
        refine pk_le (fb_ex e n k) 0 (fun h0 => nm_r (nI_1 k) (ih (k + 1) r t' (by omega) hr ha (fun S h1 h2 h3 => ?_))) (fun h0 => nm_r (nI_1 k) (ih (k + 1) (fb_size k) t' (by omega) hsz (fun _ => ⟨k, by omega, h0, Nat.le_refl _⟩) (fun S h1 h2 h3 => ?_)))
        · by_cases z : S < k
          · exact hb S h1 z h3
          · rw [show S = k by omega] at h3; omega
        · obtain ⟨u, _, _, hu, Su, _⟩ := fb_pos_cyc hn hG.1 h0
          have h5 := fb_size_1 (by omega) Su
          by_cases z : S < k
          · have := hb S h1 z h3
            omega
          · rw [show S = k by omega]; omega
      refine pk_eq r 0 (fun h0 => body (Or.inl h0)) (fun h0 => ?_)
      refine pk_le r (fb_size k) (fun hl => nm_r (nI_1 k) (ih (k + 1) r t (by omega) hr ha (fun S h1 h2 h3 => ?_))) (fun hl => body (Or.inr hl))
      by_cases z : S < k
      · exact hb S h1 z h3
      · rw [show S = k by omega]; omega
  show ∃ m, wX_girth_9 post (((1 : Int32) <<< (nI n &&& 31)) - 1) m 0 1 (nI n) fk aE t
  rw [fa_all hn]
  exact ⟨2 ^ n - 1 + 1, go (2 ^ n - 1) 1 0 t (by omega) (by omega) (fun h => absurd h (by omega)) (fun S h1 h2 => by omega)⟩
end
section
/-! ===== the reference's forest ===== -/
def fb_EY (e : Nat → Nat → Nat) (aM : Nat → Int32) : Prop := ∀ a b, a < 9 → b < 9 → aM (9 * a + b) = nI (e a b)
theorem fy_in {post : Int32 → Prop} {S v : Nat} {fn fs : Int32} {aM kp lb fr : Nat → Int32} (hS : S < 512) (hv : v < 9) (h1 : S.testBit v = true → post 1) (h0 : S.testBit v = false → post 0) : wpY_in post (fn, fs, aM, kp, lb, fr) (nI S) (nI v) := by
  show ((nI S >>> (nI v &&& 31)) &&& 1 = 1 → post 1) ∧ (¬ (nI S >>> (nI v &&& 31)) &&& 1 = 1 → post 0)
  rw [fa_bit (by omega) (by omega)]
  cases h : S.testBit v
  · exact br_f (by decide) (h0 h)
  · exact br_t rfl (h1 h)
theorem fy_size {post : Int32 → Prop} {S : Nat} {fn fs : Int32} {aM kp lb fr : Nat → Int32} (hS : S < 512) (hp : post (nI (fb_size S))) : wpY_size post (fn, fs, aM, kp, lb, fr) (nI S) := by
  refine ⟨10, ?_⟩
  have go : ∀ d j, j + d = 9 → wY_size_4 post (nI S) fn fs aM kp lb fr (d + 1) (nI (fb_cnt (fun i => S.testBit i) j)) (nI j) := by
    intro d
    induction d with
    | zero =>
      intro j hj
      have e9 : j = 9 := by omega
      subst e9
      exact br_t (by decide) hp
    | succ d ih =>
      intro j hj
      refine br_f (nI_ge (a := j) (b := 9) (by omega) (by omega)) (nm_r (e' := nI (fb_cnt (fun i => S.testBit i) (j + 1))) ?_ (nm_r (nI_1 j) (ih (j + 1) (by omega))))
      rw [fa_bit (by omega) (by omega), nI_add]
      rfl
  exact go 9 0 (by omega)
theorem fy_merge {post : Int32 → SY → Prop} {fn fs : Int32} {aM kp fr : Nat → Int32} {L : Nat → Nat} {u v : Nat} (hu : L u < 9) (hv : L v < 9) (hL : ∀ w, w < 9 → L w < 9) (hp : ∀ t' : Nat → Int32, (∀ w, w < 9 → t' w = nI (fb_mrg L u v w)) → post 1 (fn, fs, aM, kp, t', fr)) : ∀ (d j : Nat) (t : Nat → Int32), j + d = 9 → (∀ w, w < 9 → (w < j → t w = nI (fb_mrg L u v w)) ∧ (j ≤ w → t w = nI (L w))) → wY_merge_9 post (nI (L u)) (nI (L v)) fn fs (d + 1) (nI j) aM kp t fr := by
  intro d
  induction d with
  | zero =>
    intro j t hj ht
    have e9 : j = 9 := by omega
    subst e9
    exact br_t (by decide) (hp t (fun w hw => (ht w hw).1 hw))
  | succ d ih =>
    intro j t hj ht
    have hin : vp_in (nI j) 9 := vp_in_nI (by omega) (by omega)
    have hc : (nI j).toNatClampNeg = j := nI_clamp (by omega)
    have htj : t (nI j).toNatClampNeg = nI (L j) := by rw [hc]; exact (ht j (by omega)).2 (Nat.le_refl _)
    have hj9 := hL j (by omega)
    refine br_f (nI_ge (a := j) (b := 9) (by omega) (by omega)) ⟨hin, pk_eq (L j) (L v) (fun h => ⟨hin, fun t2 e2 x3 e3 => ?_⟩) (fun h x3 e3 => ?_) htj⟩
    · rw [e3, nI_1, e2, hc]
      refine ih (j + 1) _ (by omega) (fun w hw => ?_)
      by_cases z : w = j
      · subst z
        exact ⟨fun _ => by rw [pk_us, fb_mrg_t h], fun z => by omega⟩
      · rw [pk_un z]
        exact ⟨fun k => (ht w hw).1 (by omega), fun k => (ht w hw).2 (by omega)⟩
    · rw [e3, nI_1]
      refine ih (j + 1) _ (by omega) (fun w hw => ⟨fun k => ?_, fun k => (ht w hw).2 (by omega)⟩)
      by_cases z : w = j
      · subst z
        rw [fb_mrg_f h]; exact (ht w hw).2 (Nat.le_refl _)
      · exact (ht w hw).1 (by omega)
theorem fy_83 {post : Int32 → SY → Prop} {J25 J42 : Int32 → Int32 → Int32 → Int32 → (Nat → Int32) → (Nat → Int32) → (Nat → Int32) → (Nat → Int32) → Prop} {w : Nat → Nat → Nat} {u v : Nat} {x1 fn fs : Int32} {aM kp lb fr : Nat → Int32} {s : Nat × (Nat → Nat)} (hu : u < 9) (hv : v < 9) (hw : w u v ≤ 2) (hl : fb_Lab s lb) (go : ∀ (s' : Nat × (Nat → Nat)) (t' : Nat → Int32), fb_step w s (u, v) = s' → fb_Lab s' t' → J42 (nI s'.1) (nI (v + 1)) fn fs aM kp t' fr) : wY_surplus_83 post J25 J42 x1 (nI s.1) (nI u) (nI v) (nI (w u v)) fn fs aM kp lb fr := by
  have hiu : vp_in (nI u) 9 := vp_in_nI (by omega) (by omega)
  have hiv : vp_in (nI v) 9 := vp_in_nI (by omega) (by omega)
  have htu : lb (nI u).toNatClampNeg = nI (s.2 u) := by rw [nI_clamp (by omega)]; exact (hl u (by omega)).2
  have htv : lb (nI v).toNatClampNeg = nI (s.2 v) := by rw [nI_clamp (by omega)]; exact (hl v (by omega)).2
  have hu9 := (hl u (by omega)).1
  have hv9 := (hl v (by omega)).1
  refine pk_le (w u v) 0 (fun h0 => ?_) (fun h0 => ?_)
  · exact br_t (nI_le (a := w u v) (b := 0) (by omega) (by omega)) (nm_r (nI_1 v) (go s lb (fb_step_0 (by omega)) hl))
  · refine pk_eq u v (fun huv => ?_) (fun huv => ?_)
    · refine nm_r (nI_add s.1 (w u v)) ?_
      refine br_f (nI_ge (a := 0) (b := w u v) (by omega) (by omega)) (br_t (by rw [huv]) (nm_r (nI_1 v) ?_))
      exact go (s.1 + w u v, s.2) lb (fb_step_t (by omega) (by rw [huv])) hl
    · refine br_f (nI_ge (a := 0) (b := w u v) (by omega) (by omega)) (br_f (fun z => huv ((nI_eq (by omega) (by omega)).mp z)) ⟨hiu, hiv, ?_⟩)
      rw [htu, htv]
      refine pk_eq (s.2 u) (s.2 v) (fun hs => ?_) (fun hs => ⟨10, ?_⟩)
      · refine br_t rfl (nm_r (nI_add s.1 (w u v)) (nm_r (nI_1 v) ?_))
        exact go (s.1 + w u v, s.2) lb (fb_step_t (by omega) hs) hl
      · refine fy_merge (L := s.2) hu9 hv9 (fun x hx => (hl x hx).1) (fun t' ht' => ?_) 9 0 lb (by omega) (fun x hx => ⟨fun z => by omega, fun _ => (hl x hx).2⟩)
        refine br_f (by decide) (nm_r (e' := nI (s.1 + (w u v - 1))) (by rw [show (1 : Int32) = nI 1 from rfl, pk_sub (by omega), nI_add]) (nm_r (nI_1 v) ?_))
        refine go (s.1 + (w u v - 1), fb_mrg s.2 u v) t' (fb_step_f (by omega) hs) (fun x hx => ⟨?_, ht' x hx⟩)
        show fb_mrg s.2 u v x < 9
        unfold fb_mrg
        split
        · exact hu9
        · exact (hl x hx).1
theorem fb_mask_bit {n S i : Nat} (hS : S < 2 ^ n) (hi : i < n) : (2 ^ n - (S + 1)).testBit i = !S.testBit i := by
  rw [Nat.testBit_two_pow_sub_succ hS, decide_eq_true hi, Bool.true_and]
theorem fy_row {post : Int32 → SY → Prop} {J : Int32 → Int32 → Int32 → Int32 → (Nat → Int32) → (Nat → Int32) → (Nat → Int32) → (Nat → Int32) → Prop} {e : Nat → Nat → Nat} {n S u : Nat} {fs : Int32} {aM kp fr : Nat → Int32} (hn : n ≤ 9) (hS : S < 2 ^ n) (hG : fb_G e n) (hE : fb_EY e aM) (hu : u < n) : ∀ (d v : Nat) (s : Nat × (Nat → Nat)) (t : Nat → Int32), v + d = u + 1 → fb_Lab s t → (∀ t' : Nat → Int32, fb_Lab ((fb_row u v d).foldl (fb_step (fb_w e (2 ^ n - (S + 1)))) s) t' → J (nI ((fb_row u v d).foldl (fb_step (fb_w e (2 ^ n - (S + 1)))) s).1) (nI (u + 1)) (nI n) fs aM kp t' fr) → wY_surplus_42 post J (nI S) (nI u) (d + 1) (nI s.1) (nI v) (nI n) fs aM kp t fr := by
  intro d
  have h512 := fa_lt hS hn
  induction d with
  | zero =>
    intro v s t hv ht hJ
    exact br_t (nI_lt (by omega) (by omega)) (nm_r (nI_1 u) (hJ t ht))
  | succ d ih =>
    intro v s t hv ht hJ
    have e2 : 9 * nI u + nI v = nI (9 * u + v) := by
      rw [show (9 : Int32) = nI 9 from rfl, pk_mul, nI_add]
    have hin : vp_in (9 * nI u + nI v) 81 := by rw [e2]; exact vp_in_nI (by omega) (by omega)
    have e3 : aM (9 * nI u + nI v).toNatClampNeg = nI (e u v) := by
      rw [e2, nI_clamp (by omega), hE u v (by omega) (by omega)]
    have he2 := hG.2.1 u v
    have bu := fb_mask_bit hS hu
    have bv := fb_mask_bit hS (show v < n by omega)
    have hw2 : fb_w e (2 ^ n - (S + 1)) u v ≤ 2 := by unfold fb_w; split <;> omega
    have go : ∀ (s' : Nat × (Nat → Nat)) (t' : Nat → Int32), fb_step (fb_w e (2 ^ n - (S + 1))) s (u, v) = s' → fb_Lab s' t' → wY_surplus_42 post J (nI S) (nI u) (d + 1) (nI s'.1) (nI (v + 1)) (nI n) fs aM kp t' fr := by
      intro s' t' es hl
      refine ih (v + 1) s' t' (by omega) hl ?_
      rw [← es]
      exact hJ
    have key := fun m (hm : fb_w e (2 ^ n - (S + 1)) u v = m) => hm ▸ fy_83 (post := post) (J25 := J) (J42 := wY_surplus_42 post J (nI S) (nI u) (d + 1)) (x1 := nI S) (fn := nI n) (fs := fs) (aM := aM) (kp := kp) (fr := fr) (w := fb_w e (2 ^ n - (S + 1))) (u := u) (v := v) (by omega) (by omega) hw2 ht go
    refine br_f (nI_nlt (by omega) (by omega)) ?_
    refine fy_in h512 (by omega) (fun hb => ?_) (fun hb => ?_)
    · refine br_f (by decide) (key 0 ?_)
      unfold fb_w
      rw [bu, hb]; rfl
    · refine br_t rfl ?_
      refine fy_in h512 (by omega) (fun hc => ?_) (fun hc => ?_)
      · refine br_f (by decide) (key 0 ?_)
        unfold fb_w
        rw [bv, hc, Bool.not_true, Bool.and_false]; rfl
      · refine br_t rfl ⟨hin, ?_⟩
        rw [e3]
        refine key (e u v) ?_
        unfold fb_w
        rw [bu, bv, hb, hc]; rfl
theorem fy_all {post : Int32 → SY → Prop} {e : Nat → Nat → Nat} {n S : Nat} {fs : Int32} {aM kp fr : Nat → Int32} (hn : n ≤ 9) (hS : S < 2 ^ n) (hG : fb_G e n) (hE : fb_EY e aM) : ∀ (d u : Nat) (s : Nat × (Nat → Nat)) (t : Nat → Int32), u + d = n → fb_Lab s t → (∀ t' : Nat → Int32, post (nI ((fb_aY u d).foldl (fb_step (fb_w e (2 ^ n - (S + 1)))) s).1) (nI n, fs, aM, kp, t', fr)) → wY_surplus_25 post (nI S) (d + 1) (nI s.1) (nI u) (nI n) fs aM kp t fr := by
  intro d
  induction d with
  | zero =>
    intro u s t hu ht hp
    exact br_t (nI_le (by omega) (by omega)) (hp t)
  | succ d ih =>
    intro u s t hu ht hp
    refine br_f (nI_ge (by omega) (by omega)) (br_f (nI_ge (a := u) (b := 9) (by omega) (by omega)) ⟨u + 1 + 1, ?_⟩)
    refine fy_row hn hS hG hE (by omega) (u + 1) 0 s t (by omega) ht (fun t' ht' => ?_)
    refine ih (u + 1) _ t' (by omega) ht' (fun t2 => ?_)
    rw [← List.foldl_append]
    exact hp t2
theorem fy_init {post : Int32 → SY → Prop} {S : Nat} {fn fs : Int32} {aM kp fr : Nat → Int32} (hp : ∀ t' : Nat → Int32, (∀ w, w < 9 → t' w = nI w) → ∃ k, wY_surplus_25 post (nI S) k 0 0 fn fs aM kp t' fr) : ∀ (d j : Nat) (t : Nat → Int32), j + d = 9 → (∀ w, w < j → t w = nI w) → wY_surplus_4 post (nI S) 0 fn fs (d + 1) (nI j) aM kp t fr := by
  intro d
  induction d with
  | zero =>
    intro j t hj ht
    have e9 : j = 9 := by omega
    subst e9
    exact br_t (by decide) (hp t ht)
  | succ d ih =>
    intro j t hj ht
    have hc : (nI j).toNatClampNeg = j := nI_clamp (by omega)
    refine br_f (nI_ge (a := j) (b := 9) (by omega) (by omega)) ⟨vp_in_nI (by omega) (by omega), fun t2 e2 x3 e3 => ?_⟩
    rw [e3, nI_1, e2, hc]
    refine ih (j + 1) _ (by omega) (fun w hw => ?_)
    by_cases z : w = j
    · subst z; rw [pk_us]
    · rw [pk_un z]; exact ht w (by omega)
theorem fy_surplus {post : Int32 → SY → Prop} {e : Nat → Nat → Nat} {n S : Nat} {fs : Int32} {aM kp lb fr : Nat → Int32} (hn : n ≤ 9) (hS : S < 2 ^ n) (hG : fb_G e n) (hE : fb_EY e aM) (hp : ∀ t' : Nat → Int32, post (nI (fb_ex e n (2 ^ n - (S + 1)))) (nI n, fs, aM, kp, t', fr)) : wpY_surplus post (nI n, fs, aM, kp, lb, fr) (nI S) := by
  refine ⟨10, ?_⟩
  refine fy_init (fun t' ht' => ⟨n + 1, ?_⟩) 9 0 lb (by omega) (fun w hw => by omega)
  refine fy_all hn hS hG hE n 0 (0, fun x => x) t' (by omega) (fun w hw => ⟨hw, ht' w hw⟩) (fun t2 => ?_)
  have := fb_exY hG.1 hn (2 ^ n - (S + 1))
  unfold fb_run at this
  rw [this]
  exact hp t2
end
section
/-! ===== the reference's walks over the sets ===== -/
def fb_KP (K : Nat) (kp : Nat → Int32) : Prop := ∀ v, v < 9 → kp v = nI (K.testBit v).toNat
theorem fy_open {post : Int32 → SY → Prop} {e : Nat → Nat → Nat} {n S K : Nat} {fs : Int32} {aM kp lb fr : Nat → Int32} (hn : n ≤ 9) (hS : S < 2 ^ n) (hK : K < 2 ^ n) (hG : fb_G e n) (hE : fb_EY e aM) (hkp : fb_KP K kp) (h1 : S &&& K = 0 → fb_Acy e n S → ∀ t' : Nat → Int32, post 1 (nI n, fs, aM, kp, t', fr)) (h0 : ¬ (S &&& K = 0 ∧ fb_Acy e n S) → ∀ t' : Nat → Int32, post 0 (nI n, fs, aM, kp, t', fr)) : wpY_open post (nI n, fs, aM, kp, lb, fr) (nI S) := by
  have h512 := fa_lt hS hn
  have go : ∀ d j, j + d = n → (∀ i, i < j → S.testBit i = true → K.testBit i = false) → wY_open_2 post (nI S) (nI n) fs aM kp lb fr (d + 1) (nI j) := by
    intro d
    induction d with
    | zero =>
      intro j hj hi
      have hz : S &&& K = 0 := fa_and0.mpr (fun i Si => hi i (by have := fb_bit_lt hS Si; omega) Si)
      refine br_t (nI_le (by omega) (by omega)) ?_
      refine fy_surplus hn hS hG hE (fun t' => ?_)
      have hx := fb_ex_le hn hG (2 ^ n - (S + 1))
      exact pk_eq (fb_ex e n (2 ^ n - (S + 1))) 0 (fun h => h1 hz h t') (fun h => h0 (fun z => h z.2) t')
    | succ d ih =>
      intro j hj hi
      have ek : kp (nI j).toNatClampNeg = nI (K.testBit j).toNat := by rw [nI_clamp (by omega)]; exact hkp j (by omega)
      have nxt : (S.testBit j = true → K.testBit j = false) → wY_open_2 post (nI S) (nI n) fs aM kp lb fr (d + 1) (nI (j + 1)) := fun hj2 => ih (j + 1) (by omega) (fun i hi2 Si => by
        by_cases z : i < j
        · exact hi i z Si
        · rw [show i = j by omega] at Si ⊢; exact hj2 Si)
      refine br_f (nI_ge (by omega) (by omega)) (br_f (nI_ge (a := j) (b := 9) (by omega) (by omega)) ⟨vp_in_nI (by omega) (by omega), ?_⟩)
      rw [ek]
      cases hkj : K.testBit j
      · exact br_t rfl (nm_r (nI_1 j) (nxt (fun _ => hkj)))
      · refine br_f (by decide) ?_
        refine fy_in h512 (by omega) (fun hb => br_f (by decide) (h0 (fun z => ?_) lb)) (fun hb => br_t rfl (nm_r (nI_1 j) (nxt (fun z => ?_))))
        · have := fa_and0.mp z.1 j hb
          rw [hkj] at this
          exact absurd this (by simp)
        · rw [hb] at z; exact absurd z (by simp)
  exact ⟨n + 1, go n 0 (by omega) (fun i hi => by omega)⟩
theorem fb_and_or {S K B : Nat} : S &&& (K ||| B) = 0 ↔ S &&& K = 0 ∧ S &&& B = 0 := by
  rw [fa_and0, fa_and0, fa_and0]
  constructor
  · intro h
    refine ⟨fun i Si => ?_, fun i Si => ?_⟩
    · have := h i Si
      rw [Nat.testBit_or, Bool.or_eq_false_iff] at this
      exact this.1
    · have := h i Si
      rw [Nat.testBit_or, Bool.or_eq_false_iff] at this
      exact this.2
  · intro h i Si
    rw [Nat.testBit_or, h.1 i Si, h.2 i Si]; rfl
theorem fy_search {post : Int32 → SY → Prop} {e : Nat → Nat → Nat} {n W B K : Nat} {aM kp fr : Nat → Int32} (hn : n ≤ 9) (hK : K < 2 ^ n) (hG : fb_G e n) (hE : fb_EY e aM) (hkp : fb_KP K kp) (hW : W < 512) (hB : B < 512) (hp : ∀ (o : Option Nat) (t' : Nat → Int32), fb_Pick (fb_P e n W (K ||| B)) (2 ^ n) o → post (fb_ans o) (nI n, nI (2 ^ n), aM, kp, t', fr)) (lb : Nat → Int32) : wpY_search post (nI n, nI (2 ^ n), aM, kp, lb, fr) (nI W) (nI B) := by
  have hpw := fa_pw hn
  have go : ∀ (d k : Nat) (o : Option Nat) (t : Nat → Int32), k + d = 2 ^ n → fb_Pick (fb_P e n W (K ||| B)) k o → wY_search_5 post (nI W) (nI B) (d + 1) (fb_ans o) (nI k) (nI n) (nI (2 ^ n)) aM kp t fr := by
    intro d
    induction d with
    | zero =>
      intro k o t hk ho
      have ek : k = 2 ^ n := by omega
      subst ek
      exact br_t (nI_le (by omega) (by omega)) (hp o t ho)
    | succ d ih =>
      intro k o t hk ho
      have hkW : k &&& W < 512 := Nat.lt_of_le_of_lt Nat.and_le_left (by omega)
      have hkB : k &&& B < 512 := Nat.lt_of_le_of_lt Nat.and_le_left (by omega)
      have hsz := fb_size_le k
      have no : ¬ fb_P e n W (K ||| B) k → ∀ t : Nat → Int32, wY_search_5 post (nI W) (nI B) (d + 1) (fb_ans o) (nI (k + 1)) (nI n) (nI (2 ^ n)) aM kp t fr := fun h t => ih (k + 1) o t (by omega) (fb_pick_no h ho)
      refine br_f (nI_ge (by omega) (by omega)) ?_
      refine pk_eq (k &&& W) W (fun hw => ?_) (fun hw => br_t rfl (nm_r (nI_1 k) (no (fun z => hw z.1) t))) (nx_and k W)
      refine pk_eq (k &&& B) 0 (fun hb => ?_) (fun hb => br_t rfl (nm_r (nI_1 k) (no (fun z => hb (fb_and_or.mp z.2.1).2) t))) (nx_and k B)
      refine br_f (by decide) ?_
      have opn : fb_size k < fb_bs o → wY_search_59 post (wY_search_5 post (nI W) (nI B) (d + 1)) (nI W) (nI B) (fb_ans o) (nI k) (nI n) (nI (2 ^ n)) aM kp t fr := by
        intro hl
        refine fy_open hn (by omega) hK hG hE hkp (fun hz ha t' => ?_) (fun hz t' => ?_)
        · exact br_f (by decide) (nm_r (nI_1 k) (ih (k + 1) (some k) t' (by omega) (fb_pick_lt hl ⟨hw, fb_and_or.mpr ⟨hz, hb⟩, ha⟩ ho)))
        · exact br_t rfl (nm_r (nI_1 k) (no (fun z => hz ⟨(fb_and_or.mp z.2.1).1, z.2.2⟩) t'))
      cases o with
      | none =>
        refine br_t (by decide) (opn ?_)
        show fb_size k < 10
        omega
      | some b =>
        have hb2 : b < k := ho.1
        have hbz := fb_size_le b
        refine br_f (nI_pos (n := b) (by omega)) ?_
        refine fy_size (S := k) (by omega) ?_
        refine fy_size (S := b) (by omega) ?_
        exact pk_le (fb_size b) (fb_size k) (fun hl => nm_r (nI_1 k) (ih (k + 1) (some b) t (by omega) (fb_pick_ge hl ho))) (fun hl => opn hl)
  exact ⟨2 ^ n + 1, go (2 ^ n) 0 none lb (by omega) (fun S hS => by omega)⟩
/-- -1 or the size -/
def fb_ansz : Option Nat → Int32
  | none => -1
  | some b => nI (fb_size b)
theorem fy_sizeOf {post : Int32 → Prop} {fn fs : Int32} {aM kp lb fr : Nat → Int32} : ∀ {o : Option Nat}, (∀ b, o = some b → b < 512) → post (fb_ansz o) → wpY_sizeOf post (fn, fs, aM, kp, lb, fr) (fb_ans o)
  | none, _, hp => br_f (by decide) hp
  | some b, hb, hp => br_t (nI_pos' (n := b) (by have := hb b rfl; omega)) (fy_size (S := b) (hb b rfl) hp)
theorem fx_sizeOrNone {post : Int32 → Prop} {fn fk : Int32} {aE t : Nat → Int32} : ∀ {o : Option Nat}, (∀ b, o = some b → b < 512) → post (fb_ansz o) → wpX_sizeOrNone post (fn, fk, aE, t) (fb_ans o)
  | none, _, hp => br_t rfl hp
  | some b, hb, hp => br_f (fb_ans_ne (hb b rfl)) (fx_size (S := b) (hb b rfl) hp)
theorem fb_pick_b {P : Nat → Prop} {n : Nat} (hn : n ≤ 9) {o : Option Nat} (h : fb_Pick P (2 ^ n) o) : ∀ b, o = some b → b < 512 := fun b hb => by
  subst hb
  exact fa_lt h.1 hn
theorem fy_tally {post : Int32 → SY → Prop} {e : Nat → Nat → Nat} {n W K : Nat} {aM kp fr : Nat → Int32} (hn : n ≤ 9) (hK : K < 2 ^ n) (hG : fb_G e n) (hE : fb_EY e aM) (hkp : fb_KP K kp) (hW : W < 512) (hp : ∀ (o : Option Nat) (t' : Nat → Int32), fb_Pick (fb_P e n 0 K) (2 ^ n) o → post (nI (fb_tal e n W K o)) (nI n, nI (2 ^ n), aM, kp, t', fr)) (lb : Nat → Int32) : wpY_tally post (nI n, nI (2 ^ n), aM, kp, lb, fr) (nI W) := by
  have hpw := fa_pw hn
  unfold wpY_tally wpY_least
  dsimp only
  refine fy_search (W := 0) (B := 0) hn hK hG hE hkp (by omega) (by omega) (fun o t1 ho => ?_) lb
  dsimp only
  rw [Nat.or_zero] at ho
  refine fy_sizeOf (fb_pick_b hn ho) ?_
  cases o with
  | none =>
    have go : ∀ (d k : Nat), k + d = 2 ^ n → wY_tally_10 post (nI W) (-1) (d + 1) 0 (nI k) (nI n) (nI (2 ^ n)) aM kp t1 fr := by
      intro d
      induction d with
      | zero =>
        intro k hk
        exact br_t (nI_le (by omega) (by omega)) (hp none t1 ho)
      | succ d ih =>
        intro k hk
        exact br_f (nI_ge (by omega) (by omega)) (br_t (by decide) (nm_r (nI_1 k) (ih (k + 1) (by omega))))
    exact ⟨2 ^ n + 1, go (2 ^ n) 0 (by omega)⟩
  | some b =>
    have hbz := fb_size_le b
    have go : ∀ (d k : Nat) (t : Nat → Int32), k + d = 2 ^ n → wY_tally_10 post (nI W) (nI (fb_size b)) (d + 1) (nI (fb_cnt (fb_Qb e n W K (fb_size b)) k)) (nI k) (nI n) (nI (2 ^ n)) aM kp t fr := by
      intro d
      induction d with
      | zero =>
        intro k t hk
        have ek : k = 2 ^ n := by omega
        subst ek
        exact br_t (nI_le (by omega) (by omega)) (hp (some b) t ho)
      | succ d ih =>
        intro k t hk
        have hkW : k &&& W < 512 := Nat.lt_of_le_of_lt Nat.and_le_left (by omega)
        have hsz := fb_size_le k
        have no : ¬ fb_Q e n W K (fb_size b) k → ∀ t : Nat → Int32, wY_tally_10 post (nI W) (nI (fb_size b)) (d + 1) (nI (fb_cnt (fb_Qb e n W K (fb_size b)) k)) (nI (k + 1)) (nI n) (nI (2 ^ n)) aM kp t fr := fun h t => by
          have := ih (k + 1) t (by omega)
          rw [fb_cnt_f (fb_Qb_f h)] at this
          exact this
        refine br_f (nI_ge (by omega) (by omega)) (br_f (nI_pos (by omega)) ?_)
        refine fy_size (S := k) (by omega) ?_
        refine pk_eq (fb_size k) (fb_size b) (fun hl => ?_) (fun hl => nm_r (nI_1 k) (no (fun z => hl z.2.2.1) t))
        refine pk_eq (k &&& W) W (fun hw => ?_) (fun hw => nm_r (nI_1 k) (no (fun z => hw z.1) t)) (nx_and k W)
        refine fy_open hn (by omega) hK hG hE hkp (fun hz ha t' => ?_) (fun hz t' => ?_)
        · refine br_f (by decide) (nm_r (nI_1 _) (nm_r (nI_1 k) ?_))
          have := ih (k + 1) t' (by omega)
          rw [fb_cnt_t (fb_Qb_t ⟨hw, hz, hl, ha⟩)] at this
          exact this
        · exact br_t rfl (nm_r (nI_1 k) (no (fun z => hz ⟨z.2.1, z.2.2.2⟩) t'))
    exact ⟨2 ^ n + 1, go (2 ^ n) 0 t1 (by omega)⟩
end
section
/-! ===== the reference's ways and girth ===== -/
def fb_Fa (F : Nat → Nat) (fr : Nat → Int32) : Prop := ∀ x, x < 9 → fr x = nI (F x)
theorem fy_94 {post : Int32 → SY → Prop} {J33 J44 : Int32 → (Nat → Int32) → (Nat → Int32) → (Nat → Int32) → (Nat → Int32) → Prop} {e : Nat → Nat → Nat} {n u v r x y : Nat} {fs : Int32} {aM kp lb fr : Nat → Int32} {F : Nat → Nat} (hn : n ≤ 9) (hG : fb_G e n) (hE : fb_EY e aM) (hu : u < 9) (hx : x < 9) (hy : y < 9) (hr0 : 1 ≤ r) (hr : r < n) (hF : fb_FI e n u v r (9 * x + y) F) (ha : fb_Fa F fr) (go : ∀ (F' : Nat → Nat) (fr' : Nat → Int32), fb_FI e n u v r (9 * x + y + 1) F' → fb_Fa F' fr' → J44 (nI (9 * x + y + 1)) aM kp lb fr') : wY_way_94 post J33 J44 (nI u) (nI v) (nI r) (nI (9 * x + y)) (nI x) (nI y) (nI (fb_dir u v x y).toNat) (nI n) fs aM kp lb fr := by
  have hin : vp_in (nI (9 * x + y)) 81 := vp_in_nI (by omega) (by omega)
  have hix : vp_in (nI x) 9 := vp_in_nI (by omega) (by omega)
  have hiy : vp_in (nI y) 9 := vp_in_nI (by omega) (by omega)
  have em : aM (nI (9 * x + y)).toNatClampNeg = nI (e x y) := by rw [nI_clamp (by omega)]; exact hE x y hx hy
  have ex : fr (nI x).toNatClampNeg = nI (F x) := by rw [nI_clamp (by omega)]; exact ha x hx
  have ey : fr (nI y).toNatClampNeg = nI (F y) := by rw [nI_clamp (by omega)]; exact ha y hy
  have he2 := hG.2.1 x y
  have bx := hF.2.2.1 x hx
  have b_y := hF.2.2.1 y hy
  have er : nI r - 1 = nI (r - 1) := by rw [show (1 : Int32) = nI 1 from rfl, pk_sub hr0]
  have skip : (0 < e x y → fb_dir u v x y = false → F x + 1 = r → F y ≤ r) → J44 (nI (9 * x + y + 1)) aM kp lb fr := fun h => go F fr (fb_FI_skip hy hF h) ha
  refine ⟨hin, ?_⟩
  rw [em]
  refine pk_le (e x y) 0 (fun h0 => nm_r (nI_1 _) (skip (fun z => by omega))) (fun h0 => ?_)
  cases hd : fb_dir u v x y
  · refine br_t rfl ⟨hix, ?_⟩
    rw [ex, er]
    refine pk_eq (F x) (r - 1) (fun h1 => ⟨hiy, ?_⟩) (fun h1 => nm_r (nI_1 _) (skip (fun _ _ z => by omega)))
    rw [ey]
    refine pk_le (F y) r (fun h2 => nm_r (nI_1 _) (skip (fun _ _ _ => h2))) (fun h2 => ⟨hiy, fun fr2 e2 k2 e3 => ?_⟩)
    rw [e3, e2, nI_1, nI_clamp (by omega)]
    refine go (fun z => if z = y then r else F z) _ (fb_FI_put hG.2.2 hx hy hF h0 hd (by omega) h2 (by omega) (if_pos rfl) (fun z _ hne => if_neg hne) hu) (fun z hz => ?_)
    show upd fr y (nI r) z = nI (if z = y then r else F z)
    by_cases c : z = y
    · subst c; rw [pk_us, if_pos rfl]
    · rw [pk_un c, if_neg c]; exact ha z hz
  · exact br_f (by decide) (nm_r (nI_1 _) (skip (fun _ z => by rw [hd] at z; exact absurd z (by simp))))
theorem fy_k {post : Int32 → SY → Prop} {J33 : Int32 → (Nat → Int32) → (Nat → Int32) → (Nat → Int32) → (Nat → Int32) → Prop} {e : Nat → Nat → Nat} {n u v r : Nat} {fs : Int32} {aM kp lb : Nat → Int32} (hn : n ≤ 9) (hG : fb_G e n) (hE : fb_EY e aM) (hu : u < 9) (hv : v < 9) (hr0 : 1 ≤ r) (hr : r < n) (hJ : ∀ (F' : Nat → Nat) (fr' : Nat → Int32), fb_FI e n u v (r + 1) 0 F' → fb_Fa F' fr' → J33 (nI (r + 1)) aM kp lb fr') : ∀ (d k : Nat) (F : Nat → Nat) (fr : Nat → Int32), k + d = 81 → fb_FI e n u v r k F → fb_Fa F fr → wY_way_44 post J33 (nI u) (nI v) (nI r) (nI n) fs (d + 1) (nI k) aM kp lb fr := by
  intro d
  induction d with
  | zero =>
    intro k F fr hk hF ha
    have ek : k = 81 := by omega
    subst ek
    exact br_t (by decide) (nm_r (nI_1 r) (hJ F fr (fb_FI_next hF) ha))
  | succ d ih =>
    intro k F fr hk hF ha
    have h9 : ¬ (9 : Int32) = 0 := by decide
    have e5 : nI k / 9 = nI (k / 9) := pk_div (d := 9) (by omega) (by omega) (by omega)
    have e6 : nI k - nI k / 9 * 9 = nI (k % 9) := pk_rem (d := 9) (by omega) (by omega) (by omega)
    have ek : 9 * (k / 9) + k % 9 = k := Nat.div_add_mod k 9
    have hx : k / 9 < 9 := by omega
    have hy : k % 9 < 9 := by omega
    have key := fy_94 (post := post) (J33 := J33) (J44 := wY_way_44 post J33 (nI u) (nI v) (nI r) (nI n) fs (d + 1)) (fs := fs) (kp := kp) (lb := lb) (x := k / 9) (y := k % 9) hn hG hE hu hx hy hr0 hr (by rw [ek]; exact hF) ha (fun F' fr' hF' ha' => by
      rw [ek] at hF' ⊢
      exact ih (k + 1) F' fr' (by omega) hF' ha')
    rw [ek] at key
    have k1 : ((k / 9 = u ∧ k % 9 = v) ∨ (k / 9 = v ∧ k % 9 = u)) → wY_way_94 post J33 (wY_way_44 post J33 (nI u) (nI v) (nI r) (nI n) fs (d + 1)) (nI u) (nI v) (nI r) (nI k) (nI (k / 9)) (nI (k % 9)) 1 (nI n) fs aM kp lb fr := fun h => by
      rw [fb_dir_t.mpr h] at key; exact key
    have k0 : ¬ ((k / 9 = u ∧ k % 9 = v) ∨ (k / 9 = v ∧ k % 9 = u)) → wY_way_94 post J33 (wY_way_44 post J33 (nI u) (nI v) (nI r) (nI n) fs (d + 1)) (nI u) (nI v) (nI r) (nI k) (nI (k / 9)) (nI (k % 9)) 0 (nI n) fs aM kp lb fr := fun h => by
      rw [fb_dir_f.mpr h] at key; exact key
    have k77 : ¬ (k / 9 = u ∧ k % 9 = v) → wY_way_77 post J33 (wY_way_44 post J33 (nI u) (nI v) (nI r) (nI n) fs (d + 1)) (nI u) (nI v) (nI r) (nI k) (nI (k / 9)) (nI (k % 9)) (nI n) fs aM kp lb fr := fun h =>
      pk_eq (k / 9) v (fun h1 => pk_eq (k % 9) u (fun h2 => k1 (Or.inr ⟨h1, h2⟩)) (fun h2 => k0 (by omega))) (fun h1 => k0 (by omega))
    refine br_f (nI_ge (a := k) (b := 81) (by omega) (by omega)) ⟨h9, nm_r e5 ⟨h9, nm_r e6 ?_⟩⟩
    exact pk_eq (k / 9) u (fun h1 => pk_eq (k % 9) v (fun h2 => k1 (Or.inl ⟨h1, h2⟩)) (fun h2 => k77 (by omega))) (fun h1 => k77 (by omega))
theorem fy_way {post : Int32 → SY → Prop} {e : Nat → Nat → Nat} {n u v : Nat} {fs : Int32} {aM kp lb : Nat → Int32} (hn : n ≤ 9) (hn2 : 2 ≤ n) (hG : fb_G e n) (hE : fb_EY e aM) (hu : u < n) (hv : v < n) (hp : ∀ (F : Nat → Nat) (fr' : Nat → Int32), fb_FI e n u v n 0 F → post (nI (if F v = 99 then 0 else F v)) (nI n, fs, aM, kp, lb, fr')) (fr : Nat → Int32) : wpY_way post (nI n, fs, aM, kp, lb, fr) (nI u) (nI v) := by
  have rounds : ∀ (d r : Nat) (F : Nat → Nat) (fr : Nat → Int32), 1 ≤ r → r + d = n → fb_FI e n u v r 0 F → fb_Fa F fr → wY_way_33 post (nI u) (nI v) (nI n) fs (d + 1) (nI r) aM kp lb fr := by
    intro d
    induction d with
    | zero =>
      intro r F fr hr0 hr hF ha
      have er : r = n := by omega
      subst er
      have hiv : vp_in (nI v) 9 := vp_in_nI (by omega) (by omega)
      have ev : fr (nI v).toNatClampNeg = nI (F v) := by rw [nI_clamp (by omega)]; exact ha v (by omega)
      have hpF := hp F fr hF
      have b := hF.2.2.1 v (by omega)
      refine br_t (nI_le (by omega) (by omega)) ⟨hiv, ?_⟩
      rw [ev]
      refine pk_le 99 (F v) (fun h => ?_) (fun h => ⟨hiv, ?_⟩)
      · rw [if_pos (by omega)] at hpF; exact hpF
      · rw [if_neg (by omega)] at hpF; exact hpF
    | succ d ih =>
      intro r F fr hr0 hr hF ha
      refine br_f (nI_ge (by omega) (by omega)) ⟨81 + 1, ?_⟩
      exact fy_k hn hG hE (by omega) (by omega) hr0 (by omega) (fun F' fr' hF' ha' => ih (r + 1) F' fr' (by omega) (by omega) hF' ha') 81 0 F fr (by omega) hF ha
  have start : ∀ (d j : Nat) (fr : Nat → Int32), j + d = 9 → (∀ x, x < j → fr x = nI (fb_F0 u x)) → wY_way_2 post (nI u) (nI v) (nI n) fs (d + 1) (nI j) aM kp lb fr := by
    intro d
    induction d with
    | zero =>
      intro j fr hj ha
      have e9 : j = 9 := by omega
      subst e9
      exact br_t (by decide) ⟨n - 1 + 1, rounds (n - 1) 1 (fb_F0 u) fr (by omega) (by omega) (fb_FI_0 hu (fun _ _ => rfl) (by omega)) ha⟩
    | succ d ih =>
      intro j fr hj ha
      have hin : vp_in (nI j) 9 := vp_in_nI (by omega) (by omega)
      have hc : (nI j).toNatClampNeg = j := nI_clamp (by omega)
      have put : ∀ y : Nat, fb_F0 u j = y → wY_way_2 post (nI u) (nI v) (nI n) fs (d + 1) (nI (j + 1)) aM kp lb (upd fr j (nI y)) := fun y hy => ih (j + 1) _ (by omega) (fun x hx => by
        by_cases c : x = j
        · subst c; rw [pk_us, hy]
        · rw [pk_un c]; exact ha x (by omega))
      refine br_f (nI_ge (a := j) (b := 9) (by omega) (by omega)) (pk_eq j u (fun h => ⟨hin, fun fr2 e2 x3 e3 => ?_⟩) (fun h => ⟨hin, fun fr2 e2 x3 e3 => ?_⟩))
      · rw [e3, e2, nI_1, hc]
        exact put 0 (if_pos h)
      · rw [e3, e2, nI_1, hc]
        exact put 99 (if_neg h)
  exact ⟨9 + 1, start 9 0 fr (by omega) (fun x hx => by omega)⟩
theorem fy_112 {post : Int32 → SY → Prop} {J4 J20 : Int32 → Int32 → Int32 → Int32 → (Nat → Int32) → (Nat → Int32) → (Nat → Int32) → (Nat → Int32) → Prop} {u v r l : Nat} {fn fs : Int32} {aM kp lb fr : Nat → Int32} (hr : r ≤ 100) (hl : l ≤ 100) (go : J20 (nI (fb_min r l)) (nI (v + 1)) fn fs aM kp lb fr) : wY_girth_112 post J4 J20 (nI r) (nI u) (nI v) (nI l) fn fs aM kp lb fr := by
  unfold fb_min at go
  refine pk_le l 0 (fun h => nm_r (nI_1 v) ?_) (fun h => ?_)
  · rw [if_pos (by omega)] at go; exact go
  · rw [if_neg (by omega)] at go
    refine pk_eq r 0 (fun h2 => nm_r (nI_1 v) ?_) (fun h2 => ?_)
    · rw [if_pos h2] at go; exact go
    · rw [if_neg h2] at go
      refine pk_le r l (fun h3 => nm_r (nI_1 v) ?_) (fun h3 => nm_r (nI_1 v) ?_)
      · rw [if_pos h3] at go; exact go
      · rw [if_neg (by omega)] at go; exact go
theorem fb_min_le {r l : Nat} (hr : r ≤ 100) (hl : l ≤ 100) : fb_min r l ≤ 100 := by
  unfold fb_min
  split
  · exact hr
  · split
    · exact hl
    · split
      · exact hr
      · exact hl
theorem fy_girth {post : Int32 → SY → Prop} {e : Nat → Nat → Nat} {n : Nat} {fs : Int32} {aM kp lb : Nat → Int32} (hn : n ≤ 9) (hn2 : 2 ≤ n) (hG : fb_G e n) (hE : fb_EY e aM) (hp : ∀ (r : Nat) (fr' : Nat → Int32), fb_Girth e n r → post (nI r) (nI n, fs, aM, kp, lb, fr')) (fr : Nat → Int32) : wpY_girth post (nI n, fs, aM, kp, lb, fr) := by
  have row : ∀ (J : Int32 → Int32 → Int32 → Int32 → (Nat → Int32) → (Nat → Int32) → (Nat → Int32) → (Nat → Int32) → Prop) (u : Nat), u < n → (∀ (r : Nat) (fr' : Nat → Int32), r ≤ 100 → fb_GI e n (u + 1) 0 r → J (nI r) (nI (u + 1)) (nI n) fs aM kp lb fr') → ∀ (d v r : Nat) (fr : Nat → Int32), v + d = u + 1 → r ≤ 100 → fb_GI e n u v r → wY_girth_20 post J (nI u) (d + 1) (nI r) (nI v) (nI n) fs aM kp lb fr := by
    intro J u hu hJ d
    induction d with
    | zero =>
      intro v r fr hv hr hI
      have ev : v = u + 1 := by omega
      subst ev
      exact br_t (nI_lt (by omega) (by omega)) (nm_r (nI_1 u) (hJ r fr hr (fb_GI_row hI)))
    | succ d ih =>
      intro v r fr hv hr hI
      have e2 : 9 * nI u + nI v = nI (9 * u + v) := by
        rw [show (9 : Int32) = nI 9 from rfl, pk_mul, nI_add]
      have hin : vp_in (9 * nI u + nI v) 81 := by rw [e2]; exact vp_in_nI (by omega) (by omega)
      have e3 : aM (9 * nI u + nI v).toNatClampNeg = nI (e u v) := by
        rw [e2, nI_clamp (by omega), hE u v (by omega) (by omega)]
      have he2 := hG.2.1 u v
      have fin : ∀ (l : Nat) (fr' : Nat → Int32), l ≤ 100 → fb_Len e n u v l → wY_girth_112 post J (wY_girth_20 post J (nI u) (d + 1)) (nI r) (nI u) (nI v) (nI l) (nI n) fs aM kp lb fr' := fun l fr' hl hL =>
        fy_112 hr hl (ih (v + 1) (fb_min r l) fr' (by omega) (fb_min_le hr hl) (fb_GI_step hI hL))
      refine br_f (nI_nlt (by omega) (by omega)) ?_
      refine pk_eq u v (fun huv => ⟨hin, ?_⟩) (fun huv => ?_)
      · subst huv
        rw [e3]
        refine pk_le (e u u) 0 (fun h => ?_) (fun h => ?_)
        · exact br_t rfl (br_t rfl (fin 0 fr (by omega) (fb_len_0 (by omega))))
        · exact br_t rfl (br_t rfl (fin 1 fr (by omega) (fb_len_1 hn hG.1 hu h)))
      · have hne : ¬ nI u = nI v := fun z => huv ((nI_eq (by omega) (by omega)).mp z)
        refine br_f hne ⟨hin, ?_⟩
        rw [e3]
        refine pk_eq (e u v) 2 (fun h => ?_) (fun h => ?_)
        · refine br_f hne ⟨hin, ?_⟩
          rw [e3]
          exact br_f (fun z => by have := (nI_eq (a := e u v) (b := 1) (by omega) (by omega)).mp z; omega) (fin 2 fr (by omega) (fb_len_2 hn hG.1 hu (by omega) h))
        · refine br_f hne ⟨hin, ?_⟩
          rw [e3]
          refine pk_eq (e u v) 1 (fun h1 => ?_) (fun h1 => fin 0 fr (by omega) (fb_len_0 (by omega)))
          refine fy_way hn hn2 hG hE hu (by omega) (fun F fr' hF => ?_) fr
          obtain ⟨w0, w1⟩ := fb_len_w hn hG.1 hu (by omega) h1 hF
          dsimp only
          by_cases c : F v = 99
          · rw [if_pos c]
            exact br_t (by decide) (fin 0 fr' (by omega) (w0 c))
          · rw [if_neg c]
            obtain ⟨q1, q2, q3⟩ := w1 c
            exact br_f (nI_nle q1 (by omega)) (nm_r (nI_1 _) (fin (F v + 1) fr' (by omega) q3))
  have rows : ∀ (d u r : Nat) (fr : Nat → Int32), u + d = n → r ≤ 100 → fb_GI e n u 0 r → wY_girth_4 post (d + 1) (nI r) (nI u) (nI n) fs aM kp lb fr := by
    intro d
    induction d with
    | zero =>
      intro u r fr hu hr hI
      have eu : u = n := by omega
      subst eu
      exact br_t (nI_le (by omega) (by omega)) (hp r fr (fb_GI_end hn hG.1 hI))
    | succ d ih =>
      intro u r fr hu hr hI
      refine br_f (nI_ge (by omega) (by omega)) (br_f (nI_ge (a := u) (b := 9) (by omega) (by omega)) ⟨u + 1 + 1, ?_⟩)
      exact row _ u (by omega) (fun r' fr' hr' hI' => ih (u + 1) r' fr' (by omega) hr' hI') (u + 1) 0 r fr (by omega) hr hI
  exact ⟨n + 1, rows n 0 0 fr (by omega) (by omega) (fb_GI_0 e n)⟩
end
section
/-! ===== the graph's own calls ===== -/
def fb_set (e : Nat → Nat → Nat) (x y m : Nat) : Nat → Nat → Nat := fun a b => if fb_dir x y a b = true then m else e a b
theorem fb_set_t {e : Nat → Nat → Nat} {x y m a b : Nat} (h : (a = x ∧ b = y) ∨ (a = y ∧ b = x)) : fb_set e x y m a b = m := if_pos (fb_dir_t.mpr h)
theorem fb_set_f {e : Nat → Nat → Nat} {x y m a b : Nat} (h : ¬ ((a = x ∧ b = y) ∨ (a = y ∧ b = x))) : fb_set e x y m a b = e a b := if_neg (fun z => h (fb_dir_t.mp z))
theorem fb_set_G {e : Nat → Nat → Nat} {n x y m : Nat} (hG : fb_G e n) (hx : x < n) (hy : y < n) (hm : m ≤ 2) : fb_G (fb_set e x y m) n := by
  refine ⟨fun a b => ?_, fun a b => ?_, fun a b h => ?_⟩
  · by_cases c : (a = x ∧ b = y) ∨ (a = y ∧ b = x)
    · rw [fb_set_t c, fb_set_t (by omega)]
    · rw [fb_set_f c, fb_set_f (by omega)]; exact hG.1 a b
  · by_cases c : (a = x ∧ b = y) ∨ (a = y ∧ b = x)
    · rw [fb_set_t c]; exact hm
    · rw [fb_set_f c]; exact hG.2.1 a b
  · by_cases c : (a = x ∧ b = y) ∨ (a = y ∧ b = x)
    · omega
    · rw [fb_set_f c] at h; exact hG.2.2 a b h
def fb_slot (x y : Nat) : Nat := if y < x then y * 9 + x else x * 9 + y
theorem fb_slot_c (x y : Nat) : (y < x ∧ fb_slot x y = y * 9 + x) ∨ (x ≤ y ∧ fb_slot x y = x * 9 + y) := by
  unfold fb_slot
  by_cases c : y < x
  · rw [if_pos c]; exact Or.inl ⟨c, rfl⟩
  · rw [if_neg c]; exact Or.inr ⟨by omega, rfl⟩
theorem fb_slot_v {e : Nat → Nat → Nat} {n x y : Nat} {aE : Nat → Int32} (hG : fb_G e n) (hE : fb_EX e aE) (hx : x < 9) (hy : y < 9) : aE (fb_slot x y) = nI (e x y) := by
  rcases fb_slot_c x y with ⟨c, h⟩ | ⟨c, h⟩
  · rw [h, hE y x hy hx, if_pos (by omega), hG.1]
  · rw [h, hE x y hx hy, if_pos c]
theorem fb_slot_set {e : Nat → Nat → Nat} {x y m : Nat} {aE : Nat → Int32} (hE : fb_EX e aE) (hx : x < 9) (hy : y < 9) : fb_EX (fb_set e x y m) (upd aE (fb_slot x y) (nI m)) := by
  intro a b ha hb
  have hs := fb_slot_c x y
  by_cases c : a * 9 + b = fb_slot x y
  · rw [c, pk_us, if_pos (by omega), fb_set_t (by omega)]
  · rw [pk_un c, hE a b ha hb]
    by_cases k : a ≤ b
    · rw [if_pos k, if_pos k, fb_set_f (by omega)]
    · rw [if_neg k, if_neg k]
theorem fb_EY_set {e : Nat → Nat → Nat} {x y m : Nat} {aM : Nat → Int32} (hE : fb_EY e aM) (hx : x < 9) (hy : y < 9) : fb_EY (fb_set e x y m) (upd (upd aM (9 * x + y) (nI m)) (9 * y + x) (nI m)) := by
  intro a b ha hb
  by_cases c : 9 * a + b = 9 * y + x
  · rw [c, pk_us, fb_set_t (by omega)]
  · rw [pk_un c]
    by_cases d : 9 * a + b = 9 * x + y
    · rw [d, pk_us, fb_set_t (by omega)]
    · rw [pk_un d, hE a b ha hb, fb_set_f (by omega)]
/-! ===== sums ===== -/
def fb_sm (f : Nat → Nat) : Nat → Nat
  | 0 => 0
  | k + 1 => fb_sm f k + f k
def fb_E (e : Nat → Nat → Nat) : Nat → Nat := fun k => if k / 9 ≤ k % 9 then e (k / 9) (k % 9) else 0
theorem fb_sm_add (f : Nat → Nat) (a : Nat) : ∀ d, fb_sm f (a + d) = fb_sm f a + fb_sm (fun i => f (a + i)) d
  | 0 => rfl
  | d + 1 => by
    show fb_sm f (a + d) + f (a + d) = fb_sm f a + (fb_sm (fun i => f (a + i)) d + f (a + d))
    rw [fb_sm_add f a d, Nat.add_assoc]
theorem fb_sm_cg {f g : Nat → Nat} : ∀ d, (∀ i, i < d → f i = g i) → fb_sm f d = fb_sm g d
  | 0, _ => rfl
  | d + 1, h => by
    show fb_sm f d + f d = fb_sm g d + g d
    rw [fb_sm_cg d (fun i hi => h i (by omega)), h d (by omega)]
theorem fb_sm_row (e : Nat → Nat → Nat) (u : Nat) : ∀ d, fb_sm (fun i => if u ≤ i then e u i else 0) d = fb_sum e (fb_row u u (d - u))
  | 0 => by rw [Nat.zero_sub]; rfl
  | d + 1 => by
    show fb_sm (fun i => if u ≤ i then e u i else 0) d + (if u ≤ d then e u d else 0) = _
    rw [fb_sm_row e u d]
    by_cases c : u ≤ d
    · rw [if_pos c, show d + 1 - u = d - u + 1 by omega, fb_row_snoc, show u + (d - u) = d by omega]
    · rw [if_neg c, show d + 1 - u = 0 by omega, show d - u = 0 by omega, Nat.add_zero]
theorem fb_sm_aX (e : Nat → Nat → Nat) (T : Nat) (hT : T = 9 * 9) : ∀ d u, u + d = 9 → fb_sm (fb_E e) T = fb_sm (fb_E e) (9 * u) + fb_sum e (fb_aX u d)
  | 0, u, h => by
    rw [show T = 9 * u by omega]
    exact (Nat.add_zero _).symm
  | d + 1, u, h => by
    have h1 := fb_sm_aX e T hT d (u + 1) (by omega)
    have h2 : fb_sm (fb_E e) (9 * (u + 1)) = fb_sm (fb_E e) (9 * u) + fb_sm (fun i => fb_E e (9 * u + i)) 9 := by
      rw [show 9 * (u + 1) = 9 * u + 9 by omega, fb_sm_add]
    have h3 : fb_sm (fun i => fb_E e (9 * u + i)) 9 = fb_sm (fun i => if u ≤ i then e u i else 0) 9 := fb_sm_cg 9 (fun i hi => by
      show (if (9 * u + i) / 9 ≤ (9 * u + i) % 9 then e ((9 * u + i) / 9) ((9 * u + i) % 9) else 0) = _
      rw [show (9 * u + i) / 9 = u by omega, show (9 * u + i) % 9 = i by omega])
    have h4 := fb_sm_row e u 9
    rw [show 9 - u = d + 1 by omega] at h4
    have h5 : fb_sum e (fb_aX u (d + 1)) = fb_sum e (fb_row u u (d + 1)) + fb_sum e (fb_aX (u + 1) d) := fb_sum_app e _ _
    rw [h1, h2, h3, h4, h5, Nat.add_assoc]
theorem fb_sm81 (e : Nat → Nat → Nat) : fb_sm (fb_E e) 81 = fb_sum e (fb_aX 0 9) := (fb_sm_aX e 81 (by omega) 9 0 (by omega)).trans (Nat.zero_add _)
theorem fb_row_0 {e : Nat → Nat → Nat} {n u : Nat} (hG : fb_G e n) (hu : n ≤ u) : ∀ d v, fb_sum e (fb_row u v d) = 0
  | 0, _ => rfl
  | d + 1, v => by
    show e u v + fb_sum e (fb_row u (v + 1) d) = 0
    rw [fb_row_0 hG hu d (v + 1)]
    rcases Nat.eq_zero_or_pos (e u v) with h | h
    · omega
    · have := hG.2.2 u v h; omega
theorem fb_aY_9 {e : Nat → Nat → Nat} {n : Nat} (hG : fb_G e n) : ∀ d, fb_sum e (fb_aY 0 (n + d)) = fb_sum e (fb_aY 0 n)
  | 0 => rfl
  | d + 1 => by
    show fb_sum e (fb_aY 0 (n + d + 1)) = _
    rw [fb_aY_snoc, fb_sum_app, fb_row_0 hG (by omega), fb_aY_9 hG d]
    rfl
def fb_tot (e : Nat → Nat → Nat) (n : Nat) : Nat := fb_sum e (fb_aY 0 n)
theorem fx_edges {post : Int32 → Prop} {e : Nat → Nat → Nat} {n : Nat} {fn fk : Int32} {aE t : Nat → Int32} (hn : n ≤ 9) (hG : fb_G e n) (hE : fb_EX e aE) (hp : post (nI (fb_tot e n))) : wpX_countEdges post (fn, fk, aE, t) := by
  have ht : fb_sm (fb_E e) 81 = fb_tot e n := by
    rw [fb_sm81, fb_sumXY hG.1, show (9 : Nat) = n + (9 - n) by omega, fb_aY_9 hG]
    rfl
  have go : ∀ d k, k + d = 81 → wX_countEdges_4 post fn fk aE t (d + 1) (nI (fb_sm (fb_E e) k)) (nI k) := by
    intro d
    induction d with
    | zero =>
      intro k hk
      have ek : k = 81 := by omega
      subst ek
      rw [ht]
      exact br_t (by decide) hp
    | succ d ih =>
      intro k hk
      refine br_f (nI_ge (a := k) (b := 81) (by omega) (by omega)) ⟨vp_in_nI (by omega) (by omega), nm_r (e' := nI (fb_sm (fb_E e) (k + 1))) ?_ (nm_r (nI_1 k) (ih (k + 1) (by omega)))⟩
      have h := hE (k / 9) (k % 9) (by omega) (by omega)
      rw [show k / 9 * 9 + k % 9 = k by omega] at h
      rw [nI_clamp (by omega), h, nI_add]
      rfl
  exact ⟨82, go 81 0 (by omega)⟩
theorem fy_total {post : Int32 → Prop} {e : Nat → Nat → Nat} {n : Nat} {fs : Int32} {aM kp lb fr : Nat → Int32} (hn : n ≤ 9) (hE : fb_EY e aM) (hp : post (nI (fb_tot e n))) : wpY_total post (nI n, fs, aM, kp, lb, fr) := by
  have row : ∀ (J : Int32 → Int32 → Prop) (u : Nat), u < n → ∀ d v a, v + d = u + 1 → J (nI (a + fb_sum e (fb_row u v d))) (nI (u + 1)) → wY_total_20 post J (nI u) (nI n) fs aM kp lb fr (d + 1) (nI a) (nI v) := by
    intro J u hu d
    induction d with
    | zero =>
      intro v a hv hJ
      exact br_t (nI_lt (by omega) (by omega)) (nm_r (nI_1 u) hJ)
    | succ d ih =>
      intro v a hv hJ
      have e2 : 9 * nI u + nI v = nI (9 * u + v) := by
        rw [show (9 : Int32) = nI 9 from rfl, pk_mul, nI_add]
      refine br_f (nI_nlt (by omega) (by omega)) ⟨by rw [e2]; exact vp_in_nI (by omega) (by omega), nm_r (e' := nI (a + e u v)) ?_ (nm_r (nI_1 v) (ih (v + 1) (a + e u v) (by omega) ?_))⟩
      · rw [e2, nI_clamp (by omega), hE u v (by omega) (by omega), nI_add]
      · rw [Nat.add_assoc]; exact hJ
  have rows : ∀ d u a, u + d = n → post (nI (a + fb_sum e (fb_aY u d))) → wY_total_4 post (nI n) fs aM kp lb fr (d + 1) (nI a) (nI u) := by
    intro d
    induction d with
    | zero =>
      intro u a hu hp
      exact br_t (nI_le (by omega) (by omega)) hp
    | succ d ih =>
      intro u a hu hp
      refine br_f (nI_ge (by omega) (by omega)) (br_f (nI_ge (a := u) (b := 9) (by omega) (by omega)) ⟨u + 1 + 1, ?_⟩)
      refine row _ u (by omega) (u + 1) 0 a (by omega) (ih (u + 1) _ (by omega) ?_)
      rw [Nat.add_assoc, ← fb_sum_app]
      exact hp
  refine ⟨n + 1, rows n 0 0 (by omega) ?_⟩
  rw [Nat.zero_add]
  exact hp
/-! ===== good vertices ===== -/
theorem fx_bad {post : Int32 → Prop} {n : Nat} {fk p : Int32} {aE t : Nat → Int32} (h : p < 0 ∨ nI n ≤ p) (hp : post 0) : wpX_isGood post (nI n, fk, aE, t) p := br_c (fun _ => hp) (fun z => br_t (h.resolve_left z) hp)
theorem fx_good {post : Int32 → Prop} {n x : Nat} {fk : Int32} {aE t : Nat → Int32} (hn : n ≤ 9) (hx : x < n) (hp : post 1) : wpX_isGood post (nI n, fk, aE, t) (nI x) := br_f (nI_pos (by omega)) (br_f (nI_ge hx (by omega)) hp)
theorem fy_bad {post : Int32 → Prop} {n : Nat} {fs p : Int32} {aM kp lb fr : Nat → Int32} (h : p < 0 ∨ nI n ≤ p) (hp : post 1) : wpY_bad post (nI n, fs, aM, kp, lb, fr) p := br_c (fun _ => hp) (fun z => br_t (h.resolve_left z) hp)
theorem fy_good {post : Int32 → Prop} {n x : Nat} {fs : Int32} {aM kp lb fr : Nat → Int32} (hn : n ≤ 9) (hx : x < n) (hp : post 0) : wpY_bad post (nI n, fs, aM, kp, lb, fr) (nI x) := br_f (nI_pos (by omega)) (br_f (nI_ge hx (by omega)) (br_t (nI_le (a := x) (b := 8) (by omega) (by omega)) hp))
theorem fb_vx (p : Int32) {n : Nat} (hn : n ≤ 9) : (p < 0 ∨ nI n ≤ p) ∨ ∃ x, x < n ∧ p = nI x := by
  rcases pk_ix p (n := n) (by omega) with h | h | h
  · exact Or.inl (Or.inl h)
  · exact Or.inl (Or.inr h)
  · exact Or.inr h
/-! ===== link ===== -/
theorem fx_slot {post : Int32 → Prop} {x y : Nat} {fn fk : Int32} {aE t : Nat → Int32} (hx : x < 9) (hy : y < 9) (hp : post (nI (fb_slot x y))) : wpX_slotOf post (fn, fk, aE, t) (nI x) (nI y) := by
  have e1 : nI y * 9 + nI x = nI (y * 9 + x) := by rw [show (9 : Int32) = nI 9 from rfl, pk_mul, nI_add]
  have e2 : nI x * 9 + nI y = nI (x * 9 + y) := by rw [show (9 : Int32) = nI 9 from rfl, pk_mul, nI_add]
  show (nI y < nI x → post (nI y * 9 + nI x)) ∧ (¬ nI y < nI x → post (nI x * 9 + nI y))
  rw [e1, e2]
  unfold fb_slot at hp
  refine pk_lt y x (fun h => ?_) (fun h => ?_)
  · rw [if_pos h] at hp; exact hp
  · rw [if_neg (by omega)] at hp; exact hp
theorem fx_link {post : Int32 → SX → Prop} {e : Nat → Nat → Nat} {n x y m : Nat} {fk : Int32} {aE t : Nat → Int32} (hn : n ≤ 9) (hG : fb_G e n) (hE : fb_EX e aE) (hx : x < n) (hy : y < n) (hm : m ≤ 2) (hp : post (nI (e x y)) (nI n, fk, upd aE (fb_slot x y) (nI m), t)) : wpX_link post (nI n, fk, aE, t) (nI x) (nI y) (nI m) := by
  have hs : fb_slot x y < 81 := by have := fb_slot_c x y; omega
  have hin : vp_in (nI (fb_slot x y)) 81 := vp_in_nI hs (by omega)
  have hc : (nI (fb_slot x y)).toNatClampNeg = fb_slot x y := nI_clamp (by omega)
  unfold wpX_link
  dsimp only
  refine fx_good hn hx (br_f (by decide) ?_)
  refine fx_good hn hy (br_f (by decide) (br_f (nI_pos (by omega)) (br_t (nI_le (a := m) (b := 2) hm (by omega)) ?_)))
  refine fx_slot (by omega) (by omega) ⟨hin, nm_r (e' := nI (e x y)) ?_ ⟨hin, nm_r (e' := upd aE (fb_slot x y) (nI m)) ?_ hp⟩⟩
  · rw [hc]; exact fb_slot_v hG hE (by omega) (by omega)
  · rw [hc]
theorem fy_link {post : Int32 → SY → Prop} {e : Nat → Nat → Nat} {n x y m : Nat} {fs : Int32} {aM kp lb fr : Nat → Int32} (hn : n ≤ 9) (hE : fb_EY e aM) (hx : x < n) (hy : y < n) (hm : m ≤ 2) (hp : post (nI (e x y)) (nI n, fs, upd (upd aM (9 * x + y) (nI m)) (9 * y + x) (nI m), kp, lb, fr)) : wpY_link post (nI n, fs, aM, kp, lb, fr) (nI x) (nI y) (nI m) := by
  have e1 : 9 * nI x + nI y = nI (9 * x + y) := by rw [show (9 : Int32) = nI 9 from rfl, pk_mul, nI_add]
  have e2 : 9 * nI y + nI x = nI (9 * y + x) := by rw [show (9 : Int32) = nI 9 from rfl, pk_mul, nI_add]
  have h1 : vp_in (9 * nI x + nI y) 81 := by rw [e1]; exact vp_in_nI (by omega) (by omega)
  have h2 : vp_in (9 * nI y + nI x) 81 := by rw [e2]; exact vp_in_nI (by omega) (by omega)
  have c1 : (9 * nI x + nI y).toNatClampNeg = 9 * x + y := by rw [e1]; exact nI_clamp (by omega)
  have c2 : (9 * nI y + nI x).toNatClampNeg = 9 * y + x := by rw [e2]; exact nI_clamp (by omega)
  unfold wpY_link
  dsimp only
  refine fy_good hn hx (br_t rfl ?_)
  refine fy_good hn hy (br_t rfl (br_f (nI_pos (by omega)) (br_t (nI_le (a := m) (b := 2) hm (by omega)) ⟨h1, ?_⟩)))
  refine nm_r (e' := nI (e x y)) ?_ ⟨h1, nm_r (e' := upd aM (9 * x + y) (nI m)) ?_ ⟨h2, nm_r (e' := upd (upd aM (9 * x + y) (nI m)) (9 * y + x) (nI m)) ?_ hp⟩⟩
  · rw [c1]; exact hE x y (by omega) (by omega)
  · rw [c1]
  · rw [c2]
/-! ===== ring ===== -/
def fb_r1 (e : Nat → Nat → Nat) (n v s i : Nat) : Nat → Nat → Nat := if e ((v + i * s) % n) ((v + i * s + s) % n) = 0 then fb_set e ((v + i * s) % n) ((v + i * s + s) % n) 1 else e
def fb_rs (n v s : Nat) : Nat → Nat → (Nat → Nat → Nat) → (Nat → Nat → Nat)
  | _, 0, e => e
  | i, d + 1, e => fb_rs n v s (i + 1) d (fb_r1 e n v s i)
theorem fb_r1_G {e : Nat → Nat → Nat} {n v s i : Nat} (hn : 0 < n) (hG : fb_G e n) : fb_G (fb_r1 e n v s i) n := by
  unfold fb_r1
  split
  · exact fb_set_G hG (Nat.mod_lt _ hn) (Nat.mod_lt _ hn) (by omega)
  · exact hG
theorem fb_rs_G {n v s : Nat} (hn : 0 < n) : ∀ d i e, fb_G e n → fb_G (fb_rs n v s i d e) n
  | 0, _, _, h => h
  | d + 1, i, e, h => fb_rs_G hn d (i + 1) _ (fb_r1_G hn h)
theorem fb_is {i s : Nat} (hi : i ≤ 12) (hs : s ≤ 8) : i * s ≤ 96 := Nat.mul_le_mul hi hs
theorem fx_ring {post : Int32 → SX → Prop} {n v s c : Nat} {fk : Int32} {t : Nat → Int32} (hn2 : 2 ≤ n) (hn : n ≤ 9) (hv : v < n) (hs : s ≤ 8) (hc : c ≤ 12) : ∀ (d i : Nat) (e : Nat → Nat → Nat) (aE : Nat → Int32), i + d = c → fb_G e n → fb_EX e aE → (∀ aE' : Nat → Int32, fb_EX (fb_rs n v s i d e) aE' → post (nI (fb_tot (fb_rs n v s i d e) n)) (nI n, fk, aE', t)) → wX_ring_44 post (nI s) (nI c) (nI n) fk (d + 1) (nI ((v + i * s) % n)) (nI i) aE t := by
  intro d
  induction d with
  | zero =>
    intro i e aE hi hG hE hp
    refine br_t (nI_le (by omega) (by omega)) ?_
    exact fx_edges hn hG hE (hp aE hE)
  | succ d ih =>
    intro i e aE hi hG hE hp
    have his := fb_is (i := i) (s := s) (by omega) hs
    have hx : (v + i * s) % n < n := Nat.mod_lt _ (by omega)
    have hy : (v + i * s + s) % n < n := Nat.mod_lt _ (by omega)
    have em : (nI ((v + i * s) % n) + nI s) - (nI ((v + i * s) % n) + nI s) / nI n * nI n = nI ((v + i * s + s) % n) := by
      rw [nI_add, pk_rem (by omega) (by omega) (by omega), Nat.mod_add_mod]
    have hsl : fb_slot ((v + i * s) % n) ((v + i * s + s) % n) < 81 := by have := fb_slot_c ((v + i * s) % n) ((v + i * s + s) % n); omega
    have hin : vp_in (nI (fb_slot ((v + i * s) % n) ((v + i * s + s) % n))) 81 := vp_in_nI hsl (by omega)
    have hcl : (nI (fb_slot ((v + i * s) % n) ((v + i * s + s) % n))).toNatClampNeg = fb_slot ((v + i * s) % n) ((v + i * s + s) % n) := nI_clamp (by omega)
    have hval := fb_slot_v hG hE (show (v + i * s) % n < 9 by omega) (show (v + i * s + s) % n < 9 by omega)
    have he2 := hG.2.1 ((v + i * s) % n) ((v + i * s + s) % n)
    have enx : v + (i + 1) * s = v + i * s + s := by rw [Nat.add_mul, Nat.one_mul, Nat.add_assoc]
    have go : ∀ aE' : Nat → Int32, fb_EX (fb_r1 e n v s i) aE' → wX_ring_44 post (nI s) (nI c) (nI n) fk (d + 1) (nI ((v + i * s + s) % n)) (nI (i + 1)) aE' t := fun aE' hE' => by
      have := ih (i + 1) (fb_r1 e n v s i) aE' (by omega) (fb_r1_G (by omega) hG) hE' hp
      rw [enx] at this
      exact this
    refine br_f (nI_ge (by omega) (by omega)) ⟨nI_ne0 (by omega) (by omega), nm_r em ?_⟩
    refine fx_slot (by omega) (by omega) ⟨hin, ?_⟩
    rw [hcl, hval]
    refine pk_eq (e ((v + i * s) % n) ((v + i * s + s) % n)) 0 (fun h => ⟨hin, nm_e (nm_r (nI_1 i) (go _ ?_))⟩) (fun h => nm_r (nI_1 i) (go _ ?_))
    · unfold fb_r1
      rw [if_pos h]
      exact fb_slot_set hE (by omega) (by omega)
    · unfold fb_r1
      rw [if_neg h]
      exact hE
theorem fy_ring {post : Int32 → SY → Prop} {n v s c : Nat} {fs : Int32} {kp lb fr : Nat → Int32} (hn2 : 2 ≤ n) (hn : n ≤ 9) (hv : v < n) (hs : s ≤ 8) (hc : c ≤ 12) : ∀ (d i : Nat) (e : Nat → Nat → Nat) (aM : Nat → Int32), i + d = c → fb_G e n → fb_EY e aM → (∀ aM' : Nat → Int32, fb_EY (fb_rs n v s i d e) aM' → post (nI (fb_tot (fb_rs n v s i d e) n)) (nI n, fs, aM', kp, lb, fr)) → wY_ring_41 post (nI v) (nI s) (nI c) (nI n) fs (d + 1) (nI i) aM kp lb fr := by
  intro d
  induction d with
  | zero =>
    intro i e aM hi hG hE hp
    refine br_t (nI_le (by omega) (by omega)) ?_
    exact fy_total hn hE (hp aM hE)
  | succ d ih =>
    intro i e aM hi hG hE hp
    have his := fb_is (i := i) (s := s) (by omega) hs
    have hx : (v + i * s) % n < n := Nat.mod_lt _ (by omega)
    have hy : (v + i * s + s) % n < n := Nat.mod_lt _ (by omega)
    have hn1 : (1 : Int32) ≤ nI n := nI_le (a := 1) (b := n) (by omega) (by omega)
    have hn0 : ¬ nI n = 0 := nI_ne0 (by omega) (by omega)
    have e1 : (nI v + nI i * nI s) - (nI v + nI i * nI s) / nI n * nI n = nI ((v + i * s) % n) := by
      rw [pk_mul, nI_add, pk_rem (by omega) (by omega) (by omega)]
    have e2 : (nI v + nI i * nI s + nI s) - (nI v + nI i * nI s + nI s) / nI n * nI n = nI ((v + i * s + s) % n) := by
      rw [pk_mul, nI_add, nI_add, pk_rem (by omega) (by omega) (by omega)]
    have go : ∀ aM' : Nat → Int32, fb_EY (fb_r1 e n v s i) aM' → wY_ring_41 post (nI v) (nI s) (nI c) (nI n) fs (d + 1) (nI (i + 1)) aM' kp lb fr := fun aM' hE' => ih (i + 1) (fb_r1 e n v s i) aM' (by omega) (fb_r1_G (by omega) hG) hE' hp
    refine br_f (nI_ge (by omega) (by omega)) (br_t hn1 ⟨hn0, ?_⟩)
    rw [e1]
    refine br_t hn1 ⟨hn0, ?_⟩
    rw [e2]
    unfold fb_r1 at go
    generalize (v + i * s) % n = x at hx go ⊢
    generalize (v + i * s + s) % n = y at hy go ⊢
    have he2 := hG.2.1 x y
    have k1 : 9 * nI x + nI y = nI (9 * x + y) := by rw [show (9 : Int32) = nI 9 from rfl, pk_mul, nI_add]
    have k2 : 9 * nI y + nI x = nI (9 * y + x) := by rw [show (9 : Int32) = nI 9 from rfl, pk_mul, nI_add]
    have h1 : vp_in (9 * nI x + nI y) 81 := by rw [k1]; exact vp_in_nI (by omega) (by omega)
    have h2 : vp_in (9 * nI y + nI x) 81 := by rw [k2]; exact vp_in_nI (by omega) (by omega)
    have c1 : (9 * nI x + nI y).toNatClampNeg = 9 * x + y := by rw [k1]; exact nI_clamp (by omega)
    have c2 : (9 * nI y + nI x).toNatClampNeg = 9 * y + x := by rw [k2]; exact nI_clamp (by omega)
    refine ⟨h1, ?_⟩
    rw [c1, c2, hE x y (by omega) (by omega)]
    refine pk_eq (e x y) 0 (fun h => ⟨h1, nm_e ⟨h2, nm_e (nm_r (nI_1 i) (go _ ?_))⟩⟩) (fun h => nm_r (nI_1 i) (go _ ?_))
    · rw [if_pos h]
      exact fb_EY_set hE (by omega) (by omega)
    · rw [if_neg h]
      exact hE
end
section
/-! ===== the relation, and what is owed ===== -/
def i_Rel (k : Nat) (u : SX) (v : SY) : Prop :=
  ∃ (n K : Nat) (e : Nat → Nat → Nat) (aE t aM kp lb fr : Nat → Int32), u = (nI n, nI K, aE, t) ∧ v = (nI n, nI (2 ^ n), aM, kp, lb, fr) ∧ 2 ≤ n ∧ n ≤ 9 ∧ K < 2 ^ n ∧ fb_G e n ∧ fb_EX e aE ∧ fb_EY e aM ∧ fb_KP K kp
theorem fr_mk {k n K : Nat} {e : Nat → Nat → Nat} {aE t aM kp lb fr : Nat → Int32} (h2 : 2 ≤ n) (h9 : n ≤ 9) (hK : K < 2 ^ n) (hG : fb_G e n) (hX : fb_EX e aE) (hY : fb_EY e aM) (hP : fb_KP K kp) : i_Rel k (nI n, nI K, aE, t) (nI n, nI (2 ^ n), aM, kp, lb, fr) := ⟨n, K, e, aE, t, aM, kp, lb, fr, rfl, rfl, h2, h9, hK, hG, hX, hY, hP⟩
theorem i_up {k : Nat} {u : SX} {v : SY} (h : i_Rel k u v) : i_Rel (k + 4) u v := h
theorem fr_0 {n : Nat} (h2 : 2 ≤ n) (h9 : n ≤ 9) : i_Rel 1 (nI n, 0, (fun _ => 0), (fun _ => 0)) (nI n, (1 : Int32) <<< (nI n &&& 31), (fun _ => 0), (fun _ => 0), (fun _ => 0), (fun _ => 0)) := by
  rw [fa_shl (by omega)]
  refine fr_mk (K := 0) (e := fun _ _ => 0) h2 h9 (Nat.two_pow_pos n) ⟨fun _ _ => rfl, fun _ _ => Nat.zero_le _, fun _ _ h => absurd h (Nat.lt_irrefl 0)⟩ (fun a b _ _ => ?_) (fun a b _ _ => rfl) (fun v _ => ?_)
  · rw [ite_self]; rfl
  · rw [Nat.zero_testBit]; rfl
theorem i_vc0 (k0 : Int32) : wpX_init (fun u => wpY_init (fun v => i_Rel 1 u v) k0) k0 := by
  by_cases h2 : 2 ≤ k0
  · by_cases h9 : k0 ≤ 9
    · have h0 : ¬ k0 < 0 := fun z => by
        rw [Int32.lt_iff_toInt_lt] at z
        rw [Int32.le_iff_toInt_le] at h2
        have e1 : (2 : Int32).toInt = 2 := by decide
        have e2 : (0 : Int32).toInt = 0 := by decide
        omega
      obtain ⟨n, hn, rfl⟩ := nI_of2 (M := 9) (n := 9) (by decide) h0 h9
      have hn2 : 2 ≤ n := (nI_leI (a := 2) (b := n) (by omega) (by omega)).mp h2
      exact br_t h2 (br_t h9 (br_t h2 (br_t h9 (nm_e (fr_0 hn2 hn)))))
    · exact br_t h2 (br_f h9 (br_t h2 (br_f h9 (nm_e (fr_0 (n := 9) (by omega) (by omega))))))
  · exact br_f h2 (br_f h2 (nm_e (fr_0 (n := 2) (by omega) (by omega))))
theorem i_vc_vertices {k : Nat} {u : SX} {v : SY} (I : i_Rel k u v) (hk : k + 4 ≤ 2049) : wpX_vertices (fun r => wpY_vertices (fun r' => r' = r ∧ i_Rel (k + 4) u v) v) u := by
  obtain ⟨n, K, e, aE, t, aM, kp, lb, fr, rfl, rfl, h2, h9, hK, hG, hX, hY, hP⟩ := I
  exact ⟨rfl, fr_mk h2 h9 hK hG hX hY hP⟩
theorem i_vc_link {k : Nat} {u : SX} {v : SY} (I : i_Rel k u v) (hk : k + 4 ≤ 2049) (v1 : Int32) (v2 : Int32) (v3 : Int32) : wpX_link (fun r u' => wpY_link (fun r' v' => r' = r ∧ i_Rel (k + 4) u' v') v v1 v2 v3) u v1 v2 v3 := by
  obtain ⟨n, K, e, aE, t, aM, kp, lb, fr, rfl, rfl, h2, h9, hK, hG, hX, hY, hP⟩ := I
  rcases fb_vx v1 h9 with hb | ⟨x, hx, rfl⟩
  · unfold wpX_link wpY_link
    dsimp only
    exact fx_bad hb (br_t rfl (fy_bad hb (br_f (by decide) ⟨rfl, fr_mk h2 h9 hK hG hX hY hP⟩)))
  rcases fb_vx v2 h9 with hb | ⟨y, hy, rfl⟩
  · unfold wpX_link wpY_link
    dsimp only
    exact fx_good h9 hx (br_f (by decide) (fx_bad hb (br_t rfl (fy_good h9 hx (br_t rfl (fy_bad hb (br_f (by decide) ⟨rfl, fr_mk h2 h9 hK hG hX hY hP⟩)))))))
  by_cases c0 : v3 < 0
  · unfold wpX_link wpY_link
    dsimp only
    exact fx_good h9 hx (br_f (by decide) (fx_good h9 hy (br_f (by decide) (br_t c0 (fy_good h9 hx (br_t rfl (fy_good h9 hy (br_t rfl (br_t c0 ⟨rfl, fr_mk h2 h9 hK hG hX hY hP⟩)))))))))
  by_cases c2 : v3 ≤ 2
  · obtain ⟨m, hm, rfl⟩ := nI_of2 (M := 2) (n := 2) (by decide) c0 c2
    refine fx_link h9 hG hX hx hy hm ?_
    refine fy_link h9 hY hx hy hm ⟨rfl, ?_⟩
    exact fr_mk h2 h9 hK (fb_set_G hG hx hy hm) (fb_slot_set hX (by omega) (by omega)) (fb_EY_set hY (by omega) (by omega)) hP
  · unfold wpX_link wpY_link
    dsimp only
    exact fx_good h9 hx (br_f (by decide) (fx_good h9 hy (br_f (by decide) (br_f c0 (br_f c2 (fy_good h9 hx (br_t rfl (fy_good h9 hy (br_t rfl (br_f c0 (br_f c2 ⟨rfl, fr_mk h2 h9 hK hG hX hY hP⟩)))))))))))
theorem fr_one {p M : Int32} {m : Nat} (hM : M.toInt = m) (h1 : ¬ p < 1) (h : p ≤ M) : ∃ j : Nat, 1 ≤ j ∧ j ≤ m ∧ p = nI j := by
  have e1 : (1 : Int32).toInt = 1 := by decide
  have e0 : (0 : Int32).toInt = 0 := by decide
  have h0 : ¬ p < 0 := fun z => by
    rw [Int32.lt_iff_toInt_lt] at z h1
    omega
  obtain ⟨j, hj, rfl⟩ := nI_of2 hM h0 h
  refine ⟨j, ?_, hj, rfl⟩
  rcases Nat.eq_zero_or_pos j with z | z
  · subst z; exact absurd (by decide) h1
  · exact z
theorem i_vc_ring {k : Nat} {u : SX} {v : SY} (I : i_Rel k u v) (hk : k + 4 ≤ 2049) (v1 : Int32) (v2 : Int32) (v3 : Int32) : wpX_ring (fun r u' => wpY_ring (fun r' v' => r' = r ∧ i_Rel (k + 4) u' v') v v1 v2 v3) u v1 v2 v3 := by
  obtain ⟨n, K, e, aE, t, aM, kp, lb, fr, rfl, rfl, h2, h9, hK, hG, hX, hY, hP⟩ := I
  unfold wpX_ring
  dsimp only
  rcases fb_vx v1 h9 with hb | ⟨x, hx, rfl⟩
  · refine fx_bad hb (br_t rfl ?_)
    unfold wpY_ring
    dsimp only
    exact fy_bad hb (br_f (by decide) ⟨rfl, fr_mk h2 h9 hK hG hX hY hP⟩)
  refine fx_good h9 hx (br_f (by decide) ?_)
  by_cases s1 : v2 < 1
  · refine br_t s1 ?_
    unfold wpY_ring
    dsimp only
    exact fy_good h9 hx (br_t rfl (br_t s1 ⟨rfl, fr_mk h2 h9 hK hG hX hY hP⟩))
  refine br_f s1 ?_
  by_cases s8 : v2 ≤ 8
  · refine br_t s8 ?_
    by_cases c1 : v3 < 1
    · refine br_t c1 ?_
      unfold wpY_ring
      dsimp only
      exact fy_good h9 hx (br_t rfl (br_f s1 (br_t s8 (br_t c1 ⟨rfl, fr_mk h2 h9 hK hG hX hY hP⟩))))
    refine br_f c1 ?_
    by_cases c12 : v3 ≤ 12
    · refine br_t c12 ?_
      obtain ⟨s, hs1, hs, rfl⟩ := fr_one (M := 8) (m := 8) (by decide) s1 s8
      obtain ⟨c, hc1, hc, rfl⟩ := fr_one (M := 12) (m := 12) (by decide) c1 c12
      refine ⟨c + 1, ?_⟩
      have hx0 : (x + 0 * s) % n = x := by rw [Nat.zero_mul, Nat.add_zero, Nat.mod_eq_of_lt hx]
      have key := fx_ring (post := fun r u' => wpY_ring (fun r' v' => r' = r ∧ i_Rel (k + 4) u' v') (nI n, nI (2 ^ n), aM, kp, lb, fr) (nI x) (nI s) (nI c)) (fk := nI K) (t := t) h2 h9 hx hs hc c 0 e aE (by omega) hG hX (fun aE' hX' => by
        unfold wpY_ring
        dsimp only
        refine fy_good h9 hx (br_t rfl (br_f s1 (br_t s8 (br_f c1 (br_t c12 ⟨c + 1, ?_⟩)))))
        refine fy_ring h2 h9 hx hs hc c 0 e aM (by omega) hG hY (fun aM' hY' => ⟨rfl, ?_⟩)
        exact fr_mk h2 h9 hK (fb_rs_G (by omega) c 0 e hG) hX' hY' hP)
      rw [hx0] at key
      exact key
    · refine br_f c12 ?_
      unfold wpY_ring
      dsimp only
      exact fy_good h9 hx (br_t rfl (br_f s1 (br_t s8 (br_f c1 (br_f c12 ⟨rfl, fr_mk h2 h9 hK hG hX hY hP⟩)))))
  · refine br_f s8 ?_
    unfold wpY_ring
    dsimp only
    exact fy_good h9 hx (br_t rfl (br_f s1 (br_f s8 ⟨rfl, fr_mk h2 h9 hK hG hX hY hP⟩)))
theorem fr_kp {K x m : Nat} {kp : Nat → Int32} {K' : Nat} (hP : fb_KP K kp) (h1 : K'.testBit x = decide (m = 1)) (hm : m ≤ 1) (h2 : ∀ w, w ≠ x → K'.testBit w = K.testBit w) : fb_KP K' (upd kp x (nI m)) := by
  intro w hw
  by_cases c : w = x
  · subst c
    rw [pk_us, h1]
    rcases Nat.eq_zero_or_pos m with z | z
    · subst z; rfl
    · rw [show m = 1 by omega]; rfl
  · rw [pk_un c, h2 w c]; exact hP w hw
theorem fr_n0 : vp_nar .boolean 0 = nI 0 := by decide
theorem fr_n1 : vp_nar .boolean 1 = nI 1 := by decide
theorem fx_keep {post : Int32 → SX → Prop} {n K x : Nat} {p : Int32} {aE t : Nat → Int32} (hn : n ≤ 9) (hK : K < 512) (hx : x < n) (h0 : p = 0 → post (nI (K.testBit x).toNat) (nI n, nI (K ^^^ (K &&& 2 ^ x)), aE, t)) (h1 : ¬ p = 0 → post (nI (K.testBit x).toNat) (nI n, nI (K ||| 2 ^ x), aE, t)) : wpX_keep post (nI n, nI K, aE, t) (nI x) p := by
  unfold wpX_keep
  dsimp only
  refine fx_good hn hx (br_f (by decide) (nm_r (fa_bit (by omega) (by omega)) (br_c (fun z => nm_r ?_ (h0 z)) (fun z => nm_r ?_ (h1 z)))))
  · rw [fa_shl (by omega), fa_clr (by omega)]
  · rw [fa_shl (by omega), fa_or]
theorem fy_keep {post : Int32 → SY → Prop} {n K x : Nat} {p fs : Int32} {aM kp lb fr : Nat → Int32} (hn : n ≤ 9) (hx : x < n) (hP : fb_KP K kp) (h0 : p = 0 → post (nI (K.testBit x).toNat) (nI n, fs, aM, upd kp x (nI 0), lb, fr)) (h1 : ¬ p = 0 → post (nI (K.testBit x).toNat) (nI n, fs, aM, upd kp x (nI 1), lb, fr)) : wpY_keep post (nI n, fs, aM, kp, lb, fr) (nI x) p := by
  have hin : vp_in (nI x) 9 := vp_in_nI (by omega) (by omega)
  have hc : (nI x).toNatClampNeg = x := nI_clamp (by omega)
  unfold wpY_keep
  dsimp only
  refine fy_good hn hx (br_t rfl ⟨hin, ?_⟩)
  rw [hc, hP x (by omega)]
  have fin : ∀ z0 : Int32, z0 = nI (K.testBit x).toNat → wY_keep_24 post (nI x) p z0 (nI n) fs aM kp lb fr := fun z0 hz => by
    subst hz
    refine br_c (fun z => ⟨hin, nm_r (e' := upd kp x (nI 0)) ?_ (h0 z)⟩) (fun z => ⟨hin, nm_r (e' := upd kp x (nI 1)) ?_ (h1 z)⟩)
    · rw [hc, fr_n0]
    · rw [hc, fr_n1]
  cases hb : K.testBit x
  · exact br_t rfl (fin 0 (by rw [hb]; rfl))
  · exact br_f (by decide) (fin 1 (by rw [hb]; rfl))
theorem i_vc_keep {k : Nat} {u : SX} {v : SY} (I : i_Rel k u v) (hk : k + 4 ≤ 2049) (v1 : Int32) (v2 : Int32) : wpX_keep (fun r u' => wpY_keep (fun r' v' => r' = r ∧ i_Rel (k + 4) u' v') v v1 v2) u v1 v2 := by
  obtain ⟨n, K, e, aE, t, aM, kp, lb, fr, rfl, rfl, h2, h9, hK, hG, hX, hY, hP⟩ := I
  rcases fb_vx v1 h9 with hb | ⟨x, hx, rfl⟩
  · unfold wpX_keep wpY_keep
    dsimp only
    exact fx_bad hb (br_t rfl (fy_bad hb (br_f (by decide) ⟨rfl, fr_mk h2 h9 hK hG hX hY hP⟩)))
  have h512 := fa_lt hK h9
  refine fx_keep h9 h512 hx (fun z => ?_) (fun z => ?_)
  · refine fy_keep h9 hx hP (fun _ => ⟨rfl, ?_⟩) (fun z2 => absurd z z2)
    refine fr_mk h2 h9 (Nat.xor_lt_two_pow hK (Nat.and_lt_two_pow _ (fb_one hx))) hG hX hY (fr_kp hP ?_ (by omega) (fun w hw => ?_))
    · rw [Nat.testBit_xor, Nat.testBit_and, Nat.testBit_two_pow_self, Bool.and_true, Bool.xor_self]; rfl
    · rw [Nat.testBit_xor, Nat.testBit_and, Nat.testBit_two_pow, decide_eq_false (fun q : x = w => hw q.symm), Bool.and_false, Bool.xor_false]
  · refine fy_keep h9 hx hP (fun z2 => absurd z2 z) (fun _ => ⟨rfl, ?_⟩)
    refine fr_mk h2 h9 (Nat.or_lt_two_pow hK (fb_one hx)) hG hX hY (fr_kp hP ?_ (by omega) (fun w hw => ?_))
    · rw [Nat.testBit_or, Nat.testBit_two_pow_self, Bool.or_true]; rfl
    · rw [Nat.testBit_or, Nat.testBit_two_pow, decide_eq_false (fun q : x = w => hw q.symm), Bool.or_false]
theorem i_vc_edges {k : Nat} {u : SX} {v : SY} (I : i_Rel k u v) (hk : k + 4 ≤ 2049) : wpX_edges (fun r => wpY_edges (fun r' => r' = r ∧ i_Rel (k + 4) u v) v) u := by
  obtain ⟨n, K, e, aE, t, aM, kp, lb, fr, rfl, rfl, h2, h9, hK, hG, hX, hY, hP⟩ := I
  unfold wpX_edges wpY_edges
  dsimp only
  exact fx_edges h9 hG hX (fy_total h9 hY ⟨rfl, fr_mk h2 h9 hK hG hX hY hP⟩)
theorem i_vc_breaks {k : Nat} {u : SX} {v : SY} (I : i_Rel k u v) (hk : k + 4 ≤ 2049) (v1 : Int32) : wpX_breaks (fun r u' => wpY_breaks (fun r' v' => r' = r ∧ i_Rel (k + 4) u' v') v v1) u v1 := by
  obtain ⟨n, K, e, aE, t, aM, kp, lb, fr, rfl, rfl, h2, h9, hK, hG, hX, hY, hP⟩ := I
  have hpw := fa_pw h9
  have h1p : 1 ≤ 2 ^ n := Nat.one_le_two_pow
  by_cases c0 : v1 < 0
  · exact br_t c0 (br_t c0 ⟨rfl, fr_mk h2 h9 hK hG hX hY hP⟩)
  obtain ⟨S, hS, rfl⟩ := nI_of c0
  refine br_f c0 ?_
  show (nI S ≤ ((1 : Int32) <<< (nI n &&& 31)) - 1 → _) ∧ (¬ nI S ≤ ((1 : Int32) <<< (nI n &&& 31)) - 1 → _)
  rw [fa_all h9]
  refine pk_le S (2 ^ n - 1) (fun hl => ?_) (fun hl => br_f c0 (br_f (nI_nlt (by omega) (by omega)) ⟨rfl, fr_mk h2 h9 hK hG hX hY hP⟩))
  have hx := fb_ex_le h9 hG (2 ^ n - (S + 1))
  refine fx_lnc h9 (by omega) hG hX (fun ha t' => br_f (by decide) ?_) (fun ha t' => br_t rfl ?_)
  · refine br_f c0 (br_t (nI_lt (by omega) (by omega)) (fy_surplus h9 (by omega) hG hY (fun lb' => ?_)))
    exact pk_eq (fb_ex e n (2 ^ n - (S + 1))) 0 (fun _ => ⟨rfl, fr_mk h2 h9 hK hG hX hY hP⟩) (fun z => absurd ha z)
  · refine br_f c0 (br_t (nI_lt (by omega) (by omega)) (fy_surplus h9 (by omega) hG hY (fun lb' => ?_)))
    exact pk_eq (fb_ex e n (2 ^ n - (S + 1))) 0 (fun z => absurd z ha) (fun _ => ⟨rfl, fr_mk h2 h9 hK hG hX hY hP⟩)
theorem i_vc_least {k : Nat} {u : SX} {v : SY} (I : i_Rel k u v) (hk : k + 4 ≤ 2049) : wpX_least (fun r u' => wpY_least (fun r' v' => r' = r ∧ i_Rel (k + 4) u' v') v) u := by
  obtain ⟨n, K, e, aE, t, aM, kp, lb, fr, rfl, rfl, h2, h9, hK, hG, hX, hY, hP⟩ := I
  have h512 := fa_lt hK h9
  unfold wpX_least
  dsimp only
  refine fx_small (W := 0) h9 hG hX (by omega) h512 (fun o t' ho => ?_) t
  refine fx_sizeOrNone (fb_pick_b h9 ho) ?_
  unfold wpY_least
  dsimp only
  refine fy_search (W := 0) (B := 0) h9 hK hG hY hP (by omega) (by omega) (fun o2 lb' ho2 => ?_) lb
  rw [Nat.or_zero] at ho2
  cases fb_pick_u (fun _ _ => Iff.rfl) ho ho2
  exact fy_sizeOf (fb_pick_b h9 ho) ⟨rfl, fr_mk h2 h9 hK hG hX hY hP⟩
theorem i_vc_first {k : Nat} {u : SX} {v : SY} (I : i_Rel k u v) (hk : k + 4 ≤ 2049) : wpX_first (fun r u' => wpY_first (fun r' v' => r' = r ∧ i_Rel (k + 4) u' v') v) u := by
  obtain ⟨n, K, e, aE, t, aM, kp, lb, fr, rfl, rfl, h2, h9, hK, hG, hX, hY, hP⟩ := I
  have h512 := fa_lt hK h9
  unfold wpX_first
  dsimp only
  refine fx_small (W := 0) h9 hG hX (by omega) h512 (fun o t' ho => ?_) t
  dsimp only
  unfold wpY_first
  dsimp only
  refine fy_search (W := 0) (B := 0) h9 hK hG hY hP (by omega) (by omega) (fun o2 lb' ho2 => ?_) lb
  rw [Nat.or_zero] at ho2
  cases fb_pick_u (fun _ _ => Iff.rfl) ho ho2
  exact ⟨rfl, fr_mk h2 h9 hK hG hX hY hP⟩
theorem i_vc_breakers {k : Nat} {u : SX} {v : SY} (I : i_Rel k u v) (hk : k + 4 ≤ 2049) : wpX_breakers (fun r u' => wpY_breakers (fun r' v' => r' = r ∧ i_Rel (k + 4) u' v') v) u := by
  obtain ⟨n, K, e, aE, t, aM, kp, lb, fr, rfl, rfl, h2, h9, hK, hG, hX, hY, hP⟩ := I
  have h512 := fa_lt hK h9
  unfold wpX_breakers
  dsimp only
  refine fx_count (W := 0) h9 hG hX (by omega) h512 (fun o t' ho => ?_) t
  dsimp only
  unfold wpY_breakers
  dsimp only
  refine fy_tally (W := 0) h9 hK hG hY hP (by omega) (fun o2 lb' ho2 => ?_) lb
  cases fb_pick_u (fun _ _ => Iff.rfl) ho ho2
  exact ⟨rfl, fr_mk h2 h9 hK hG hX hY hP⟩
theorem i_vc_inBreakers {k : Nat} {u : SX} {v : SY} (I : i_Rel k u v) (hk : k + 4 ≤ 2049) (v1 : Int32) : wpX_inBreakers (fun r u' => wpY_inBreakers (fun r' v' => r' = r ∧ i_Rel (k + 4) u' v') v v1) u v1 := by
  obtain ⟨n, K, e, aE, t, aM, kp, lb, fr, rfl, rfl, h2, h9, hK, hG, hX, hY, hP⟩ := I
  have h512 := fa_lt hK h9
  rcases fb_vx v1 h9 with hb | ⟨x, hx, rfl⟩
  · unfold wpX_inBreakers wpY_inBreakers
    dsimp only
    exact fx_bad hb (br_t rfl (fy_bad hb (br_f (by decide) ⟨rfl, fr_mk h2 h9 hK hG hX hY hP⟩)))
  have hw : 2 ^ x < 512 := fa_lt (fb_one hx) h9
  unfold wpX_inBreakers
  dsimp only
  refine fx_good h9 hx (br_f (by decide) ?_)
  rw [fa_shl (by omega)]
  refine fx_count h9 hG hX hw h512 (fun o t' ho => ?_) t
  dsimp only
  unfold wpY_inBreakers
  dsimp only
  refine fy_good h9 hx (br_t rfl ?_)
  rw [fa_shl (by omega)]
  refine fy_tally h9 hK hG hY hP hw (fun o2 lb' ho2 => ?_) lb
  cases fb_pick_u (fun _ _ => Iff.rfl) ho ho2
  exact ⟨rfl, fr_mk h2 h9 hK hG hX hY hP⟩
theorem i_vc_leastWith {k : Nat} {u : SX} {v : SY} (I : i_Rel k u v) (hk : k + 4 ≤ 2049) (v1 : Int32) : wpX_leastWith (fun r u' => wpY_leastWith (fun r' v' => r' = r ∧ i_Rel (k + 4) u' v') v v1) u v1 := by
  obtain ⟨n, K, e, aE, t, aM, kp, lb, fr, rfl, rfl, h2, h9, hK, hG, hX, hY, hP⟩ := I
  have h512 := fa_lt hK h9
  rcases fb_vx v1 h9 with hb | ⟨x, hx, rfl⟩
  · unfold wpX_leastWith wpY_leastWith
    dsimp only
    exact fx_bad hb (br_t rfl (fy_bad hb (br_f (by decide) ⟨rfl, fr_mk h2 h9 hK hG hX hY hP⟩)))
  have hw : 2 ^ x < 512 := fa_lt (fb_one hx) h9
  unfold wpX_leastWith
  dsimp only
  refine fx_good h9 hx (br_f (by decide) ?_)
  rw [fa_shl (by omega)]
  refine fx_small h9 hG hX hw h512 (fun o t' ho => ?_) t
  refine fx_sizeOrNone (fb_pick_b h9 ho) ?_
  unfold wpY_leastWith
  dsimp only
  refine fy_good h9 hx (br_t rfl ?_)
  rw [fa_shl (by omega)]
  refine fy_search (B := 0) h9 hK hG hY hP hw (by omega) (fun o2 lb' ho2 => ?_) lb
  rw [Nat.or_zero] at ho2
  cases fb_pick_u (fun _ _ => Iff.rfl) ho ho2
  exact fy_sizeOf (fb_pick_b h9 ho) ⟨rfl, fr_mk h2 h9 hK hG hX hY hP⟩
theorem i_vc_leastWithout {k : Nat} {u : SX} {v : SY} (I : i_Rel k u v) (hk : k + 4 ≤ 2049) (v1 : Int32) : wpX_leastWithout (fun r u' => wpY_leastWithout (fun r' v' => r' = r ∧ i_Rel (k + 4) u' v') v v1) u v1 := by
  obtain ⟨n, K, e, aE, t, aM, kp, lb, fr, rfl, rfl, h2, h9, hK, hG, hX, hY, hP⟩ := I
  have h512 := fa_lt hK h9
  rcases fb_vx v1 h9 with hb | ⟨x, hx, rfl⟩
  · unfold wpX_leastWithout wpY_leastWithout
    dsimp only
    exact fx_bad hb (br_t rfl (fy_bad hb (br_f (by decide) ⟨rfl, fr_mk h2 h9 hK hG hX hY hP⟩)))
  have hw : 2 ^ x < 512 := fa_lt (fb_one hx) h9
  unfold wpX_leastWithout
  dsimp only
  refine fx_good h9 hx (br_f (by decide) ?_)
  rw [fa_shl (by omega), fa_or]
  refine fx_small (W := 0) (B := K ||| 2 ^ x) h9 hG hX (by omega) (fa_lt (Nat.or_lt_two_pow hK (fb_one hx)) h9) (fun o t' ho => ?_) t
  refine fx_sizeOrNone (fb_pick_b h9 ho) ?_
  unfold wpY_leastWithout
  dsimp only
  refine fy_good h9 hx (br_t rfl ?_)
  rw [fa_shl (by omega)]
  refine fy_search (W := 0) h9 hK hG hY hP (by omega) hw (fun o2 lb' ho2 => ?_) lb
  cases fb_pick_u (fun _ _ => Iff.rfl) ho ho2
  exact fy_sizeOf (fb_pick_b h9 ho) ⟨rfl, fr_mk h2 h9 hK hG hX hY hP⟩
theorem i_vc_girth {k : Nat} {u : SX} {v : SY} (I : i_Rel k u v) (hk : k + 4 ≤ 2049) : wpX_girth (fun r u' => wpY_girth (fun r' v' => r' = r ∧ i_Rel (k + 4) u' v') v) u := by
  obtain ⟨n, K, e, aE, t, aM, kp, lb, fr, rfl, rfl, h2, h9, hK, hG, hX, hY, hP⟩ := I
  refine fx_girth h9 hG hX (fun r t' hr => ?_) t
  refine fy_girth h9 h2 hG hY (fun r2 fr' hr2 => ?_) fr
  cases fb_girth_u hr hr2
  exact ⟨rfl, fr_mk h2 h9 hK hG hX hY hP⟩
theorem i_vc_excess {k : Nat} {u : SX} {v : SY} (I : i_Rel k u v) (hk : k + 4 ≤ 2049) : wpX_excess (fun r u' => wpY_excess (fun r' v' => r' = r ∧ i_Rel (k + 4) u' v') v) u := by
  obtain ⟨n, K, e, aE, t, aM, kp, lb, fr, rfl, rfl, h2, h9, hK, hG, hX, hY, hP⟩ := I
  have hpw := fa_pw h9
  have h1p : 1 ≤ 2 ^ n := Nat.one_le_two_pow
  unfold wpX_excess wpX_allVertices
  dsimp only
  rw [fa_all h9]
  refine fx_excess h9 (by omega) hG hX (fun t' => ?_)
  dsimp only
  unfold wpY_excess
  dsimp only
  exact fy_surplus (S := 0) h9 (by omega) hG hY (fun lb' => ⟨rfl, fr_mk h2 h9 hK hG hX hY hP⟩)
end
