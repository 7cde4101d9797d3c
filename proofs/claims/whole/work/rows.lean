section
theorem pk_us {f : Nat → Int32} {k : Nat} {x : Int32} : upd f k x k = x := if_pos rfl
theorem pk_un {f : Nat → Int32} {k j : Nat} {x : Int32} (h : j ≠ k) : upd f k x j = f j := if_neg h
theorem pk_sub {a b : Nat} (h : b ≤ a) : nI a - nI b = nI (a - b) := by
  obtain ⟨c, rfl⟩ : ∃ c, a = c + b := ⟨a - b, by omega⟩
  rw [← nI_add, Int32.add_sub_cancel, Nat.add_sub_cancel]
theorem pk_mul (a b : Nat) : nI a * nI b = nI (a * b) := (Int32.ofNat_mul a b).symm
theorem pk_div {a d : Nat} (ha : a < 2 ^ 31) (h0 : 0 < d) (hd : d < 2 ^ 31) : nI a / nI d = nI (a / d) := by
  apply Int32.toInt_inj.mp
  rw [lg_idiv_nonneg (by rw [nI_toInt ha]; omega) (by rw [nI_toInt hd]; omega), nI_toInt ha, nI_toInt hd, nI_toInt (Nat.lt_of_le_of_lt (Nat.div_le_self a d) ha)]
  first | rfl | exact (Int.natCast_ediv _ _).symm
theorem pk_rem {a d : Nat} (ha : a < 2 ^ 31) (h0 : 0 < d) (hd : d < 2 ^ 31) : nI a - nI a / nI d * nI d = nI (a % d) := by
  rw [pk_div ha h0 hd, pk_mul, pk_sub (Nat.div_mul_le_self a d)]
  exact congrArg nI (by have := Nat.div_add_mod' a d; omega)
theorem pk_ix (x : Int32) {n : Nat} (hn : n < 2 ^ 31) : x < 0 ∨ nI n ≤ x ∨ ∃ j : Nat, j < n ∧ x = nI j := by
  by_cases h : x < 0
  · exact Or.inl h
  · obtain ⟨j, hj, rfl⟩ := nI_of h
    by_cases h2 : j < n
    · exact Or.inr (Or.inr ⟨j, h2, rfl⟩)
    · exact Or.inr (Or.inl (nI_le (by omega) hj))
theorem pk_le {x y : Int32} {A B : Prop} (a b : Nat) (f : a ≤ b → A) (g : b < a → B) (hx : x = nI a := by rfl) (hy : y = nI b := by rfl) (ha : a < 2 ^ 31 := by omega) (hb : b < 2 ^ 31 := by omega) : (x ≤ y → A) ∧ (¬ x ≤ y → B) := by
  subst hx hy
  rw [nI_leI ha hb]
  exact ⟨f, fun z => g (by omega)⟩
theorem pk_lt {x y : Int32} {A B : Prop} (a b : Nat) (f : a < b → A) (g : b ≤ a → B) (hx : x = nI a := by rfl) (hy : y = nI b := by rfl) (ha : a < 2 ^ 31 := by omega) (hb : b < 2 ^ 31 := by omega) : (x < y → A) ∧ (¬ x < y → B) := by
  subst hx hy
  rw [nI_ltI ha hb]
  exact ⟨f, fun z => g (by omega)⟩
theorem pk_eq {x y : Int32} {A B : Prop} (a b : Nat) (f : a = b → A) (g : a ≠ b → B) (hx : x = nI a := by rfl) (hy : y = nI b := by rfl) (ha : a < 2 ^ 31 := by omega) (hb : b < 2 ^ 31 := by omega) : (x = y → A) ∧ (¬ x = y → B) := by
  subst hx hy
  rw [nI_eq ha hb]
  exact ⟨f, g⟩
theorem pk_in {x : Int32} (n N : Nat) (h : n < N) (hx : x = nI n := by rfl) (hN : N < 2 ^ 31 := by omega) : vp_in x N := by
  subst hx
  exact vp_in_nI h hN
theorem pk_cl {x : Int32} (n : Nat) (hx : x = nI n := by rfl) (h : n < 2 ^ 31 := by omega) : x.toNatClampNeg = n := by
  subst hx
  exact nI_clamp h
theorem pk_tn {n : Nat} (h : n < 2 ^ 32) : (nI n).toBitVec.toNat = n := Nat.mod_eq_of_lt h
theorem pk_and (x : Int32) {m : Int32} (k : Nat) (hm : m.toBitVec.toNat = 2 ^ k - 1) : x &&& m = nI (x.toBitVec.toNat % 2 ^ k) := by
  apply Int32.toBitVec_inj.mp
  apply BitVec.eq_of_toNat_eq
  rw [Int32.toBitVec_and, BitVec.toNat_and, hm, Nat.and_two_pow_sub_one_eq_mod]
  show _ = (BitVec.ofNat 32 _).toNat
  rw [BitVec.toNat_ofNat]
  exact (Nat.mod_eq_of_lt (Nat.lt_of_le_of_lt (Nat.mod_le _ _) x.toBitVec.isLt)).symm
theorem pk_andN {n : Nat} (h : n < 2 ^ 32) {m : Int32} (k : Nat) (hm : m.toBitVec.toNat = 2 ^ k - 1) : nI n &&& m = nI (n % 2 ^ k) := by
  rw [pk_and _ k hm, pk_tn h]
theorem pk_andE (x : Int32) {m : Int32} (k : Nat) (hm : m.toBitVec.toNat = 2 ^ k - 1) : ∃ j : Nat, j < 2 ^ k ∧ x &&& m = nI j := ⟨_, Nat.mod_lt _ (Nat.two_pow_pos k), pk_and x k hm⟩
theorem pk_andIn (x : Int32) {m : Int32} (k : Nat) (hm : m.toBitVec.toNat = 2 ^ k - 1) (hk : k ≤ 30) : vp_in (x &&& m) (2 ^ k) := by
  obtain ⟨j, hj, e⟩ := pk_andE x k hm
  rw [e]
  exact vp_in_nI hj (Nat.lt_of_le_of_lt (Nat.pow_le_pow_right (by decide) hk) (by decide))
theorem pk_shl (a s : Int32) (k : Nat) (hs : (s.toBitVec.smod 32).toNat = k) : (a <<< s).toBitVec.toNat = a.toBitVec.toNat * 2 ^ k % 2 ^ 32 := by
  show (a.toBitVec <<< (s.toBitVec.smod 32).toNat).toNat = _
  rw [hs, BitVec.toNat_shiftLeft, Nat.shiftLeft_eq]
theorem pk_shlN {n : Nat} (s : Int32) (k : Nat) (hs : (s.toBitVec.smod 32).toNat = k) (h : n * 2 ^ k < 2 ^ 32) : nI n <<< s = nI (n * 2 ^ k) := by
  apply Int32.toBitVec_inj.mp
  apply BitVec.eq_of_toNat_eq
  have hn : n < 2 ^ 32 := Nat.lt_of_le_of_lt (Nat.le_mul_of_pos_right n (Nat.two_pow_pos k)) h
  rw [pk_shl _ _ k hs, pk_tn hn, pk_tn h, Nat.mod_eq_of_lt h]
theorem pk_shr (a s : Int32) (k : Nat) (hs : (s.toBitVec.smod 32).toNat = k) : (a >>> s).toInt = a.toInt >>> k := by
  show (a.toBitVec.sshiftRight (s.toBitVec.smod 32).toNat).toInt = _
  rw [hs, BitVec.toInt_sshiftRight]
  rfl
theorem pk_shrN {n : Nat} (h : n < 2 ^ 31) (s : Int32) (k : Nat) (hs : (s.toBitVec.smod 32).toNat = k) : nI n >>> s = nI (n / 2 ^ k) := by
  apply Int32.toInt_inj.mp
  have h2 : n / 2 ^ k ≤ n := Nat.div_le_self _ _
  rw [pk_shr _ _ k hs, nI_toInt h, nI_toInt (by omega), Int.shiftRight_eq_div_pow]
  rfl
def bt (x : Int32) (i : Nat) : Bool := x.toBitVec.getLsbD i
theorem b_ext {x y : Int32} (h : ∀ i, i < 32 → bt x i = bt y i) : x = y := Int32.toBitVec_inj.mp (BitVec.eq_of_getLsbD_eq (fun i hi => h i hi))
theorem b_or (x y : Int32) (i : Nat) : bt (x ||| y) i = (bt x i || bt y i) := by unfold bt; rw [Int32.toBitVec_or, BitVec.getLsbD_or]
theorem b_and (x y : Int32) (i : Nat) : bt (x &&& y) i = (bt x i && bt y i) := by unfold bt; rw [Int32.toBitVec_and, BitVec.getLsbD_and]
theorem b_xor (x y : Int32) (i : Nat) : bt (x ^^^ y) i = (bt x i ^^ bt y i) := by unfold bt; rw [Int32.toBitVec_xor, BitVec.getLsbD_xor]
theorem b_big {x : Int32} {i : Nat} (h : 32 ≤ i) : bt x i = false := BitVec.getLsbD_of_ge _ _ h
theorem b_m1 : ∀ i, i < 32 → bt (-1) i = true := by decide +kernel
theorem b_0 (i : Nat) : bt 0 i = false := BitVec.getLsbD_zero
theorem s_l : ∀ n, n < 32 → ((nI n &&& 31).toBitVec.smod 32).toNat = n := by decide +kernel
theorem b_shl (n : Nat) (hn : n < 32) (x : Int32) {i : Nat} (hi : i < 32) : bt (x <<< (nI n &&& 31)) i = (decide (n ≤ i) && bt x (i - n)) := by
  unfold bt
  rw [Int32.toBitVec_shiftLeft]
  show (x.toBitVec <<< ((nI n &&& 31).toBitVec.smod 32).toNat).getLsbD i = _
  rw [s_l n hn, BitVec.getLsbD_shiftLeft]
  rcases Nat.lt_or_ge i n with h | h
  · simp [h, Nat.not_le.mpr h]
  · simp [hi, h, Nat.not_lt.mpr h]
theorem nx_and (a b : Nat) : nI a &&& nI b = nI (a &&& b) := by
  apply Int32.toBitVec_inj.1
  show BitVec.ofNat 32 a &&& BitVec.ofNat 32 b = BitVec.ofNat 32 (a &&& b)
  apply BitVec.eq_of_getLsbD_eq
  intro i hi
  simp [hi]
/-! ===== own: bits of small numbers ===== -/
theorem fa_or (a b : Nat) : nI a ||| nI b = nI (a ||| b) := by
  apply Int32.toBitVec_inj.1
  show BitVec.ofNat 32 a ||| BitVec.ofNat 32 b = BitVec.ofNat 32 (a ||| b)
  apply BitVec.eq_of_getLsbD_eq
  intro i hi
  simp [hi]
theorem fa_bt (a : Nat) {i : Nat} (hi : i < 32) : bt (nI a) i = a.testBit i := by
  show (BitVec.ofNat 32 a).getLsbD i = a.testBit i
  rw [BitVec.getLsbD_ofNat]
  simp [hi]
/-- 1 << v -/
theorem fa_shl {v : Nat} (hv : v < 31) : (1 : Int32) <<< (nI v &&& 31) = nI (2 ^ v) := by
  have h : (2 : Nat) ^ v < 2 ^ 32 := Nat.pow_lt_pow_right (by omega) (by omega)
  have := pk_shlN (n := 1) (nI v &&& 31) v (s_l v (by omega)) (by omega)
  rw [Nat.one_mul] at this
  exact this
/-- (S >> v) & 1 -/
theorem fa_bit {S v : Nat} (hS : S < 2 ^ 31) (hv : v < 32) : (nI S >>> (nI v &&& 31)) &&& 1 = nI (S.testBit v).toNat := by
  rw [pk_shrN hS _ v (s_l v hv)]
  have h1 : S / 2 ^ v ≤ S := Nat.div_le_self _ _
  rw [pk_andN (n := S / 2 ^ v) (by omega) (m := 1) 1 (by decide)]
  congr 1
  rw [Nat.testBit_eq_decide_div_mod_eq]
  by_cases h : S / 2 ^ v % 2 = 1
  · rw [decide_eq_true h]; simpa using h
  · rw [decide_eq_false h]; show S / 2 ^ v % 2 ^ 1 = 0; omega
/-- all & ~R -/
theorem fa_mask {n R : Nat} (hn : n < 31) (hR : R < 2 ^ n) : nI (2 ^ n - 1) &&& (nI R ^^^ (-1)) = nI (2 ^ n - (R + 1)) := by
  apply b_ext
  intro i hi
  rw [b_and, b_xor, fa_bt _ hi, fa_bt _ hi, fa_bt _ hi, b_m1 i hi, Nat.testBit_two_pow_sub_one, Nat.testBit_two_pow_sub_succ hR]
  simp
theorem fa_clr {K v : Nat} (hv : v < 32) : nI K &&& (nI (2 ^ v) ^^^ (-1)) = nI (K ^^^ (K &&& 2 ^ v)) := by
  apply b_ext
  intro i hi
  rw [b_and, b_xor, fa_bt _ hi, fa_bt _ hi, fa_bt _ hi, b_m1 i hi, Nat.testBit_xor, Nat.testBit_and]
  cases K.testBit i <;> cases (2 ^ v).testBit i <;> rfl
/-- the pair's mask lies in M -/
theorem fa_pair {M u v : Nat} : M &&& (2 ^ u ||| 2 ^ v) = 2 ^ u ||| 2 ^ v ↔ (M.testBit u && M.testBit v) = true := by
  constructor
  · intro h
    have hu := congrArg (fun x => x.testBit u) h
    have hv := congrArg (fun x => x.testBit v) h
    simp only [Nat.testBit_and, Nat.testBit_or, Nat.testBit_two_pow_self] at hu hv
    simp at hu hv
    simp [hu, hv]
  · intro h
    apply Nat.eq_of_testBit_eq
    intro i
    rw [Nat.testBit_and, Nat.testBit_or, Nat.testBit_two_pow, Nat.testBit_two_pow]
    simp only [Bool.and_eq_true] at h
    by_cases h1 : u = i
    · subst h1; simp [h.1]
    · by_cases h2 : v = i
      · subst h2; simp [h.2]
      · simp [h1, h2]
theorem fa_lt {S n : Nat} (h : S < 2 ^ n) (hn : n ≤ 9) : S < 512 := Nat.lt_of_lt_of_le h (Nat.pow_le_pow_right (by omega) hn : 2 ^ n ≤ 2 ^ 9)
theorem fa_pw {n : Nat} (hn : n ≤ 9) : 2 ^ n ≤ 512 := (Nat.pow_le_pow_right (by omega) hn : 2 ^ n ≤ 2 ^ 9)
theorem fa_all {n : Nat} (hn : n ≤ 9) : ((1 : Int32) <<< (nI n &&& 31)) - 1 = nI (2 ^ n - 1) := by
  rw [fa_shl (by omega)]
  exact pk_sub (a := 2 ^ n) (b := 1) (Nat.one_le_two_pow)
/-- a set without kept members -/
theorem fa_and0 {S K : Nat} : S &&& K = 0 ↔ ∀ i, S.testBit i = true → K.testBit i = false := by
  constructor
  · intro h i hi
    have := congrArg (fun x => x.testBit i) h
    simp only [Nat.testBit_and, Nat.zero_testBit, hi, Bool.true_and] at this
    exact this
  · intro h
    apply Nat.eq_of_testBit_eq
    intro i
    rw [Nat.testBit_and, Nat.zero_testBit]
    cases hs : S.testBit i
    · rfl
    · rw [h i hs]; rfl
end
section
/-! ===== counting below n ===== -/
def fb_cnt (p : Nat → Bool) : Nat → Nat
  | 0 => 0
  | n + 1 => fb_cnt p n + (p n).toNat
theorem fb_cnt_le (p : Nat → Bool) : ∀ n, fb_cnt p n ≤ n
  | 0 => Nat.le_refl 0
  | n + 1 => by
    have := fb_cnt_le p n
    have h : (p n).toNat ≤ 1 := Bool.toNat_le _
    show fb_cnt p n + (p n).toNat ≤ n + 1
    omega
theorem fb_cnt_congr {p q : Nat → Bool} : ∀ n, (∀ i, i < n → p i = q i) → fb_cnt p n = fb_cnt q n
  | 0, _ => rfl
  | n + 1, h => by
    show fb_cnt p n + (p n).toNat = fb_cnt q n + (q n).toNat
    rw [fb_cnt_congr n (fun i hi => h i (by omega)), h n (by omega)]
theorem fb_cnt_zero {p : Nat → Bool} : ∀ n, (∀ i, i < n → p i = false) → fb_cnt p n = 0
  | 0, _ => rfl
  | n + 1, h => by
    show fb_cnt p n + (p n).toNat = 0
    rw [fb_cnt_zero n (fun i hi => h i (by omega)), h n (by omega)]; rfl
theorem fb_cnt_mono {p q : Nat → Bool} : ∀ n, (∀ i, i < n → p i = true → q i = true) → fb_cnt p n ≤ fb_cnt q n
  | 0, _ => Nat.le_refl 0
  | n + 1, h => by
    have h1 := fb_cnt_mono n (fun i hi => h i (by omega))
    have h2 := h n (by omega)
    show fb_cnt p n + (p n).toNat ≤ fb_cnt q n + (q n).toNat
    cases hp : p n
    · show fb_cnt p n + 0 ≤ _; omega
    · rw [h2 hp]; show fb_cnt p n + 1 ≤ fb_cnt q n + 1; omega
theorem fb_cnt_same {p q : Nat → Bool} : ∀ n, (∀ i, i < n → p i = true → q i = true) → fb_cnt q n ≤ fb_cnt p n → ∀ i, i < n → q i = true → p i = true
  | 0, _, _ => fun i hi => absurd hi (by omega)
  | n + 1, h, hc => by
    have h1 := fb_cnt_mono n (fun i hi => h i (by omega))
    have h2 := h n (by omega)
    have hc' : fb_cnt q n + (q n).toNat ≤ fb_cnt p n + (p n).toNat := hc
    have h3 : (p n).toNat ≤ (q n).toNat := by
      cases hp : p n
      · exact Nat.zero_le _
      · rw [h2 hp]; exact Nat.le_refl _
    intro i hi hq
    rcases Nat.lt_or_ge i n with hl | hl
    · exact fb_cnt_same n (fun i hi => h i (by omega)) (by omega) i hl hq
    · have e : i = n := by omega
      subst e
      cases hp : p i
      · rw [hq, hp] at hc'
        have hc2 : fb_cnt q i + 1 ≤ fb_cnt p i + 0 := hc'
        omega
      · rfl
theorem fb_cnt_del (q : Nat → Bool) (a : Nat) (hq : q a = true) : ∀ n, a < n → fb_cnt (fun i => q i && decide (i ≠ a)) n + 1 = fb_cnt q n
  | 0, h => absurd h (by omega)
  | n + 1, h => by
    show fb_cnt (fun i => q i && decide (i ≠ a)) n + (q n && decide (n ≠ a)).toNat + 1 = fb_cnt q n + (q n).toNat
    rcases Nat.lt_or_ge a n with hl | hl
    · have ih := fb_cnt_del q a hq n hl
      rw [decide_eq_true (by omega : n ≠ a), Bool.and_true]
      omega
    · have e : a = n := by omega
      subst e
      have e2 : fb_cnt (fun i => q i && decide (i ≠ a)) a = fb_cnt q a := fb_cnt_congr a (fun i hi => by
        show (q i && decide (i ≠ a)) = q i
        rw [decide_eq_true (by omega : i ≠ a), Bool.and_true])
      rw [e2, hq, decide_eq_false (by simp)]
      rfl
theorem fb_cnt_inj {p : Nat → Bool} (m : Nat) (f : Nat → Nat) : ∀ (n : Nat) (q : Nat → Bool), (∀ i, i < n → p i = true → f i < m ∧ q (f i) = true) → (∀ i j, i < n → j < n → p i = true → p j = true → f i = f j → i = j) → fb_cnt p n ≤ fb_cnt q m
  | 0, _, _, _ => Nat.zero_le _
  | n + 1, q, hf, hi => by
    show fb_cnt p n + (p n).toNat ≤ fb_cnt q m
    cases hp : p n
    · exact fb_cnt_inj m f n q (fun i h => hf i (by omega)) (fun i j h1 h2 => hi i j (by omega) (by omega))
    · have hn := hf n (by omega) hp
      have ih := fb_cnt_inj m f n (fun i => q i && decide (i ≠ f n)) (fun i h hpi => by
        have h2 := hf i (by omega) hpi
        refine ⟨h2.1, ?_⟩
        show (q (f i) && decide (f i ≠ f n)) = true
        have h3 : f i ≠ f n := fun e => by
          have := hi i n (by omega) (by omega) hpi hp e
          omega
        rw [h2.2, decide_eq_true h3]; rfl) (fun i j h1 h2 => hi i j (by omega) (by omega))
      have hd := fb_cnt_del q (f n) hn.2 m hn.1
      show fb_cnt p n + 1 ≤ fb_cnt q m
      omega
end
section
/-! ===== a forest by labels, over a list of pairs with weights ===== -/
def fb_mrg (L : Nat → Nat) (u v : Nat) : Nat → Nat := fun x => if L x = L v then L u else L x
theorem fb_mrg_t {L : Nat → Nat} {u v x : Nat} (h : L x = L v) : fb_mrg L u v x = L u := if_pos h
theorem fb_mrg_f {L : Nat → Nat} {u v x : Nat} (h : ¬ L x = L v) : fb_mrg L u v x = L x := if_neg h
def fb_step (w : Nat → Nat → Nat) (s : Nat × (Nat → Nat)) (p : Nat × Nat) : Nat × (Nat → Nat) :=
  if w p.1 p.2 = 0 then s
  else if s.2 p.1 = s.2 p.2 then (s.1 + w p.1 p.2, s.2)
  else (s.1 + (w p.1 p.2 - 1), fb_mrg s.2 p.1 p.2)
def fb_sum (w : Nat → Nat → Nat) : List (Nat × Nat) → Nat
  | [] => 0
  | p :: l => w p.1 p.2 + fb_sum w l
theorem fb_sum_app (w : Nat → Nat → Nat) : ∀ l m : List (Nat × Nat), fb_sum w (l ++ m) = fb_sum w l + fb_sum w m
  | [], m => (Nat.zero_add _).symm
  | p :: l, m => by
    show w p.1 p.2 + fb_sum w (l ++ m) = w p.1 p.2 + fb_sum w l + fb_sum w m
    rw [fb_sum_app w l m]; omega
def fb_fix (L : Nat → Nat) : Nat := fb_cnt (fun x => decide (L x = x)) 9
def fb_Inv (w : Nat → Nat → Nat) (es : List (Nat × Nat)) (s : Nat × (Nat → Nat)) : Prop :=
  (∀ x, x < 9 → s.2 x < 9 ∧ s.2 (s.2 x) = s.2 x) ∧ s.1 + 9 = fb_sum w es + fb_fix s.2 ∧
  (∀ p : Nat × Nat, p ∈ es → w p.1 p.2 ≠ 0 → s.2 p.1 = s.2 p.2) ∧
  (∀ f : Nat → Nat, (∀ p : Nat × Nat, p ∈ es → w p.1 p.2 ≠ 0 → f p.1 = f p.2) → ∀ x, x < 9 → f (s.2 x) = f x)
theorem fb_inv0 (w : Nat → Nat → Nat) : fb_Inv w [] (0, fun x => x) := by
  refine ⟨fun x hx => ⟨hx, rfl⟩, ?_, fun p hp => absurd hp (by simp), fun f _ x _ => rfl⟩
  show 0 + 9 = 0 + fb_fix (fun x => x)
  have : fb_fix (fun x => x) = 9 := by simp [fb_fix, fb_cnt]
  omega
theorem fb_inv1 {w : Nat → Nat → Nat} {es : List (Nat × Nat)} {s : Nat × (Nat → Nat)} (h : fb_Inv w es s) (p : Nat × Nat) (h1 : p.1 < 9) (h2 : p.2 < 9) : fb_Inv w (es ++ [p]) (fb_step w s p) := by
  obtain ⟨t, L⟩ := s
  obtain ⟨u, v⟩ := p
  obtain ⟨ha, hb, hc, hd⟩ := h
  dsimp only at h1 h2 ha hb hc hd
  have hs : fb_sum w (es ++ [(u, v)]) = fb_sum w es + w u v := by
    rw [fb_sum_app]; show fb_sum w es + (w u v + 0) = _; omega
  unfold fb_step
  dsimp only
  by_cases h0 : w u v = 0
  · rw [if_pos h0]
    refine ⟨ha, by dsimp only; omega, fun q hq hw => ?_, fun f hf => hd f (fun q hq => hf q (List.mem_append_left _ hq))⟩
    rcases List.mem_append.mp hq with hq | hq
    · exact hc q hq hw
    · rw [List.mem_singleton.mp hq] at hw; exact absurd h0 hw
  · rw [if_neg h0]
    by_cases hl : L u = L v
    · rw [if_pos hl]
      refine ⟨ha, by dsimp only; omega, fun q hq hw => ?_, fun f hf => hd f (fun q hq => hf q (List.mem_append_left _ hq))⟩
      rcases List.mem_append.mp hq with hq | hq
      · exact hc q hq hw
      · rw [List.mem_singleton.mp hq]; exact hl
    · rw [if_neg hl]
      have hu := ha u h1
      have hv := ha v h2
      refine ⟨fun x hx => ?_, ?_, fun q hq hw => ?_, fun f hf x hx => ?_⟩
      · have hx' := ha x hx
        show fb_mrg L u v x < 9 ∧ fb_mrg L u v (fb_mrg L u v x) = fb_mrg L u v x
        by_cases c : L x = L v
        · rw [fb_mrg_t c]
          refine ⟨hu.1, ?_⟩
          rw [fb_mrg_f (by rw [hu.2]; exact hl), hu.2]
        · rw [fb_mrg_f c]
          refine ⟨hx'.1, ?_⟩
          rw [fb_mrg_f (by rw [hx'.2]; exact c), hx'.2]
      · have e : fb_fix (fb_mrg L u v) = fb_cnt (fun i => (fun x => decide (L x = x)) i && decide (i ≠ L v)) 9 := by
          apply fb_cnt_congr
          intro x hx
          show decide (fb_mrg L u v x = x) = (decide (L x = x) && decide (x ≠ L v))
          by_cases c : L x = L v
          · have n1 : ¬ fb_mrg L u v x = x := fun k => by
              rw [fb_mrg_t c] at k
              have k2 : L x = L u := by rw [← k]; exact hu.2
              exact hl (k2.symm.trans c)
            rw [decide_eq_false n1]
            by_cases k : L x = x
            · rw [decide_eq_false (fun z : x ≠ L v => z (k.symm.trans c)), Bool.and_false]
            · rw [decide_eq_false k, Bool.false_and]
          · by_cases k : L x = x
            · have h5 : x ≠ L v := fun z => c (k.trans z)
              have h6 : fb_mrg L u v x = x := (fb_mrg_f c).trans k
              rw [decide_eq_true h5, decide_eq_true h6, decide_eq_true k]; rfl
            · have h6 : ¬ fb_mrg L u v x = x := fun z => k ((fb_mrg_f c).symm.trans z)
              rw [decide_eq_false k, decide_eq_false h6, Bool.false_and]
        have hd2 := fb_cnt_del (fun x => decide (L x = x)) (L v) (by simpa using hv.2) 9 hv.1
        rw [← e] at hd2
        have hb' : t + 9 = fb_sum w es + fb_cnt (fun x => decide (L x = x)) 9 := hb
        show t + (w u v - 1) + 9 = fb_sum w (es ++ [(u, v)]) + fb_fix (fb_mrg L u v)
        rw [hs]
        omega
      · show fb_mrg L u v q.1 = fb_mrg L u v q.2
        rcases List.mem_append.mp hq with hq | hq
        · have k := hc q hq hw
          unfold fb_mrg
          rw [k]
        · rw [List.mem_singleton.mp hq]
          exact (fb_mrg_f hl).trans (fb_mrg_t rfl).symm
      · have hes := hd f (fun q hq => hf q (List.mem_append_left _ hq))
        have huv : f u = f v := hf (u, v) (List.mem_append_right _ (List.mem_singleton.mpr rfl)) h0
        show f (fb_mrg L u v x) = f x
        by_cases c : L x = L v
        · rw [fb_mrg_t c, hes u h1, huv, ← hes v h2, ← c, hes x hx]
        · rw [fb_mrg_f c, hes x hx]
def fb_run (w : Nat → Nat → Nat) (es : List (Nat × Nat)) : Nat × (Nat → Nat) := es.foldl (fb_step w) (0, fun x => x)
theorem fb_inv_fold {w : Nat → Nat → Nat} : ∀ (es acc : List (Nat × Nat)) (s : Nat × (Nat → Nat)), fb_Inv w acc s → (∀ p : Nat × Nat, p ∈ es → p.1 < 9 ∧ p.2 < 9) → fb_Inv w (acc ++ es) (es.foldl (fb_step w) s)
  | [], acc, s, h, _ => by rw [List.append_nil]; exact h
  | p :: es, acc, s, h, hb => by
    have h1 := hb p (List.mem_cons_self)
    have := fb_inv_fold es (acc ++ [p]) (fb_step w s p) (fb_inv1 h p h1.1 h1.2) (fun q hq => hb q (List.mem_cons_of_mem _ hq))
    rw [List.append_assoc] at this
    exact this
theorem fb_inv_run {w : Nat → Nat → Nat} {es : List (Nat × Nat)} (hb : ∀ p : Nat × Nat, p ∈ es → p.1 < 9 ∧ p.2 < 9) : fb_Inv w es (fb_run w es) := by
  have := fb_inv_fold es [] _ (fb_inv0 w) hb
  exact this
theorem fb_fix_le {L M : Nat → Nat} (hL : ∀ x, x < 9 → L x < 9 ∧ L (L x) = L x) (hM : ∀ x, x < 9 → M x < 9 ∧ M (M x) = M x) (h2 : ∀ x, x < 9 → L (M x) = L x) : fb_fix L ≤ fb_fix M := by
  apply fb_cnt_inj 9 M 9
  · intro i hi _
    exact ⟨(hM i hi).1, decide_eq_true (hM i hi).2⟩
  · intro i j hi hj pi pj e
    have ei : L i = i := of_decide_eq_true pi
    have ej : L j = j := of_decide_eq_true pj
    have e1 := h2 i hi
    rw [e, h2 j hj] at e1
    rw [← ei, ← ej]; exact e1.symm
theorem fb_fix_eq {w1 w2 : Nat → Nat → Nat} {es1 es2 : List (Nat × Nat)} {s1 s2 : Nat × (Nat → Nat)} (I1 : fb_Inv w1 es1 s1) (I2 : fb_Inv w2 es2 s2) (h12 : ∀ p : Nat × Nat, p ∈ es1 → w1 p.1 p.2 ≠ 0 → s2.2 p.1 = s2.2 p.2) (h21 : ∀ p : Nat × Nat, p ∈ es2 → w2 p.1 p.2 ≠ 0 → s1.2 p.1 = s1.2 p.2) : fb_fix s1.2 = fb_fix s2.2 := by
  have a := I1.2.2.2 s2.2 h12
  have b := I2.2.2.2 s1.2 h21
  exact Nat.le_antisymm (fb_fix_le I1.1 I2.1 b) (fb_fix_le I2.1 I1.1 a)
/-! ===== the two orders ===== -/
def fb_row (u : Nat) : Nat → Nat → List (Nat × Nat)
  | _, 0 => []
  | v, d + 1 => (u, v) :: fb_row u (v + 1) d
def fb_aX : Nat → Nat → List (Nat × Nat)
  | _, 0 => []
  | u, d + 1 => fb_row u u (d + 1) ++ fb_aX (u + 1) d
def fb_aY : Nat → Nat → List (Nat × Nat)
  | _, 0 => []
  | u, d + 1 => fb_row u 0 (u + 1) ++ fb_aY (u + 1) d
theorem fb_row_mem {u : Nat} {p : Nat × Nat} : ∀ {d v : Nat}, p ∈ fb_row u v d ↔ p.1 = u ∧ v ≤ p.2 ∧ p.2 < v + d
  | 0, v => by
    show p ∈ [] ↔ _
    simp <;> omega
  | d + 1, v => by
    show p ∈ (u, v) :: fb_row u (v + 1) d ↔ _
    rw [List.mem_cons, fb_row_mem]
    obtain ⟨a, b⟩ := p
    rw [Prod.mk.injEq]
    dsimp only
    omega
theorem fb_aX_mem {p : Nat × Nat} : ∀ {d u : Nat}, p ∈ fb_aX u d ↔ u ≤ p.1 ∧ p.1 ≤ p.2 ∧ p.2 < u + d
  | 0, u => by
    show p ∈ [] ↔ _
    simp <;> omega
  | d + 1, u => by
    show p ∈ fb_row u u (d + 1) ++ fb_aX (u + 1) d ↔ _
    rw [List.mem_append, fb_row_mem, fb_aX_mem]
    omega
theorem fb_aY_mem {p : Nat × Nat} : ∀ {d u : Nat}, p ∈ fb_aY u d ↔ u ≤ p.1 ∧ p.1 < u + d ∧ p.2 ≤ p.1
  | 0, u => by
    show p ∈ [] ↔ _
    simp <;> omega
  | d + 1, u => by
    show p ∈ fb_row u 0 (u + 1) ++ fb_aY (u + 1) d ↔ _
    rw [List.mem_append, fb_row_mem, fb_aY_mem]
    omega
theorem fb_row_snoc (w : Nat → Nat → Nat) (u : Nat) : ∀ d v, fb_sum w (fb_row u v (d + 1)) = fb_sum w (fb_row u v d) + w u (v + d)
  | 0, v => by show w u v + 0 = 0 + w u (v + 0); simp
  | d + 1, v => by
    have ih := fb_row_snoc w u d (v + 1)
    show w u v + fb_sum w (fb_row u (v + 1) (d + 1)) = w u v + fb_sum w (fb_row u (v + 1) d) + w u (v + (d + 1))
    rw [ih, show v + 1 + d = v + (d + 1) by omega]; omega
def fb_col (w : Nat → Nat → Nat) (c : Nat) : Nat → Nat → Nat
  | _, 0 => 0
  | u, d + 1 => w u c + fb_col w c (u + 1) d
theorem fb_row_col {w : Nat → Nat → Nat} (hs : ∀ a b, w a b = w b a) (a : Nat) : ∀ d v, fb_sum w (fb_row a v d) = fb_col w a v d
  | 0, _ => rfl
  | d + 1, v => by
    show w a v + fb_sum w (fb_row a (v + 1) d) = w v a + fb_col w a (v + 1) d
    rw [fb_row_col hs a d (v + 1), hs a v]
theorem fb_aX_snoc (w : Nat → Nat → Nat) : ∀ d u, fb_sum w (fb_aX u (d + 1)) = fb_sum w (fb_aX u d) + fb_col w (u + d) u (d + 1)
  | 0, u => by
    show fb_sum w (fb_row u u 1 ++ []) = 0 + (w u (u + 0) + 0)
    rw [List.append_nil]
    show w u u + 0 = _
    simp
  | d + 1, u => by
    have ih := fb_aX_snoc w d (u + 1)
    show fb_sum w (fb_row u u (d + 1 + 1) ++ fb_aX (u + 1) (d + 1)) = fb_sum w (fb_row u u (d + 1) ++ fb_aX (u + 1) d) + (w u (u + (d + 1)) + fb_col w (u + (d + 1)) (u + 1) (d + 1))
    rw [fb_sum_app, fb_sum_app, ih, fb_row_snoc, show u + 1 + d = u + (d + 1) by omega]
    omega
theorem fb_aY_snoc : ∀ d u, fb_aY u (d + 1) = fb_aY u d ++ fb_row (u + d) 0 (u + d + 1)
  | 0, u => by
    show fb_row u 0 (u + 1) ++ [] = [] ++ fb_row (u + 0) 0 (u + 0 + 1)
    simp
  | d + 1, u => by
    have ih := fb_aY_snoc d (u + 1)
    show fb_row u 0 (u + 1) ++ fb_aY (u + 1) (d + 1) = fb_row u 0 (u + 1) ++ fb_aY (u + 1) d ++ _
    rw [ih, List.append_assoc, show u + 1 + d = u + (d + 1) by omega]
theorem fb_sumXY {w : Nat → Nat → Nat} (hs : ∀ a b, w a b = w b a) : ∀ n, fb_sum w (fb_aX 0 n) = fb_sum w (fb_aY 0 n)
  | 0 => rfl
  | n + 1 => by
    rw [fb_aX_snoc, fb_aY_snoc, fb_sum_app, fb_sumXY hs n, fb_row_col hs]
    simp
theorem fb_runXY {w : Nat → Nat → Nat} (hs : ∀ a b, w a b = w b a) {n : Nat} (hn : n ≤ 9) : (fb_run w (fb_aY 0 n)).1 = (fb_run w (fb_aX 0 n)).1 := by
  have IX := fb_inv_run (w := w) (es := fb_aX 0 n) (fun p hp => by have := fb_aX_mem.mp hp; omega)
  have IY := fb_inv_run (w := w) (es := fb_aY 0 n) (fun p hp => by have := fb_aY_mem.mp hp; omega)
  have e := fb_fix_eq IX IY (fun p hp hw => by
    have h := fb_aX_mem.mp hp
    exact (IY.2.2.1 (p.2, p.1) (fb_aY_mem.mpr (by dsimp only; omega)) (by dsimp only; rw [hs]; exact hw)).symm) (fun p hp hw => by
    have h := fb_aY_mem.mp hp
    exact (IX.2.2.1 (p.2, p.1) (fb_aX_mem.mpr (by dsimp only; omega)) (by dsimp only; rw [hs]; exact hw)).symm)
  have hx := IX.2.1
  have hy := IY.2.1
  rw [fb_sumXY hs] at hx
  omega
/-! ===== what a set of vertices leaves too many ===== -/
def fb_w (e : Nat → Nat → Nat) (M : Nat) : Nat → Nat → Nat := fun a b => if (M.testBit a && M.testBit b) = true then e a b else 0
def fb_ex (e : Nat → Nat → Nat) (n M : Nat) : Nat := (fb_run (fb_w e M) (fb_aX 0 n)).1
theorem fb_w_sym {e : Nat → Nat → Nat} (hs : ∀ a b, e a b = e b a) (M : Nat) : ∀ a b, fb_w e M a b = fb_w e M b a := by
  intro a b
  unfold fb_w
  rw [hs a b, Bool.and_comm]
theorem fb_exY {e : Nat → Nat → Nat} (hs : ∀ a b, e a b = e b a) {n : Nat} (hn : n ≤ 9) (M : Nat) : (fb_run (fb_w e M) (fb_aY 0 n)).1 = fb_ex e n M := fb_runXY (fb_w_sym hs M) hn
end
section
/-! ===== cycles within a set ===== -/
def fb_dir (u v x y : Nat) : Bool := (decide (x = u) && decide (y = v)) || (decide (x = v) && decide (y = u))
theorem fb_dir_t {u v x y : Nat} : fb_dir u v x y = true ↔ (x = u ∧ y = v) ∨ (x = v ∧ y = u) := by
  unfold fb_dir; simp
theorem fb_dir_f {u v x y : Nat} : fb_dir u v x y = false ↔ ¬ ((x = u ∧ y = v) ∨ (x = v ∧ y = u)) := by
  rw [← fb_dir_t]; simp
theorem fb_dir_c (u v x y : Nat) : fb_dir u v x y = fb_dir u v y x := by
  cases h : fb_dir u v y x
  · rw [fb_dir_f] at h ⊢; omega
  · rw [fb_dir_t] at h ⊢; omega
/-- a and b hang together in S without the pair u, v -/
def fb_Conn (e : Nat → Nat → Nat) (n S u v a b : Nat) : Prop := ∀ f : Nat → Nat, (∀ x y, x < n → y < n → S.testBit x = true → S.testBit y = true → 0 < e x y → fb_dir u v x y = false → f x = f y) → f a = f b
theorem fb_sum_le {w w' : Nat → Nat → Nat} (h : ∀ a b, w' a b ≤ w a b) : ∀ es : List (Nat × Nat), fb_sum w' es ≤ fb_sum w es
  | [] => Nat.le_refl _
  | p :: es => Nat.add_le_add (h p.1 p.2) (fb_sum_le h es)
theorem fb_sum_lt {w w' : Nat → Nat → Nat} (h : ∀ a b, w' a b ≤ w a b) {p : Nat × Nat} (hl : w' p.1 p.2 < w p.1 p.2) : ∀ es : List (Nat × Nat), p ∈ es → fb_sum w' es < fb_sum w es
  | [], hp => absurd hp (by simp)
  | q :: es, hp => by
    show w' q.1 q.2 + fb_sum w' es < w q.1 q.2 + fb_sum w es
    rcases List.mem_cons.mp hp with rfl | hp
    · have := fb_sum_le h es; omega
    · have := fb_sum_lt h hl es hp
      have := h q.1 q.2
      omega
theorem fb_bX {n : Nat} (hn : n ≤ 9) : ∀ p : Nat × Nat, p ∈ fb_aX 0 n → p.1 < 9 ∧ p.2 < 9 := fun p hp => by have := fb_aX_mem.mp hp; omega
theorem fb_pos {w w' : Nat → Nat → Nat} {n : Nat} (hn : n ≤ 9) (h : ∀ a b, w' a b ≤ w a b) (p : Nat × Nat) (hp : p ∈ fb_aX 0 n) (hl : w' p.1 p.2 < w p.1 p.2) (hc : ∀ q : Nat × Nat, q ∈ fb_aX 0 n → w q.1 q.2 ≠ 0 → (fb_run w' (fb_aX 0 n)).2 q.1 = (fb_run w' (fb_aX 0 n)).2 q.2) : 0 < (fb_run w (fb_aX 0 n)).1 := by
  have I := fb_inv_run (w := w) (fb_bX hn)
  have I' := fb_inv_run (w := w') (fb_bX hn)
  have hf := fb_fix_eq I I' hc (fun q hq hw => I.2.2.1 q hq (by have := h q.1 q.2; omega))
  have h1 := I.2.1
  have h2 := I'.2.1
  have h3 := fb_sum_lt h hl _ hp
  omega
theorem fb_w_in {e : Nat → Nat → Nat} {M a b : Nat} (ha : M.testBit a = true) (hb : M.testBit b = true) : fb_w e M a b = e a b := by
  unfold fb_w; rw [ha, hb]; rfl
theorem fb_w_ne {e : Nat → Nat → Nat} {M a b : Nat} (h : fb_w e M a b ≠ 0) : M.testBit a = true ∧ M.testBit b = true ∧ e a b ≠ 0 ∧ fb_w e M a b = e a b := by
  unfold fb_w at h ⊢
  by_cases c : (M.testBit a && M.testBit b) = true
  · rw [if_pos c] at h ⊢
    rw [Bool.and_eq_true] at c
    exact ⟨c.1, c.2, h, rfl⟩
  · rw [if_neg c] at h; exact absurd rfl h
theorem fb_cyc_pos {e : Nat → Nat → Nat} {n S u v : Nat} (hn : n ≤ 9) (hs : ∀ a b, e a b = e b a) (hvu : v ≤ u) (hu : u < n) (Su : S.testBit u = true) (Sv : S.testBit v = true) (he : 0 < e u v) (h : 2 ≤ e u v ∨ fb_Conn e n S u v u v) : 0 < fb_ex e n S := by
  have hp : (v, u) ∈ fb_aX 0 n := fb_aX_mem.mpr (by dsimp only; omega)
  have hwp : fb_w e S v u = e u v := by rw [fb_w_in Sv Su, hs]
  have hd : fb_dir u v v u = true := fb_dir_t.mpr (Or.inr ⟨rfl, rfl⟩)
  rcases h with h | h
  · refine fb_pos (w' := fun a b => if fb_dir u v a b = true then fb_w e S a b - 1 else fb_w e S a b) hn (fun a b => ?_) (v, u) hp ?_ (fun q hq hw => ?_)
    · split <;> omega
    · dsimp only; rw [if_pos hd, hwp]; omega
    · refine (fb_inv_run (fb_bX hn)).2.2.1 q hq ?_
      by_cases c : fb_dir u v q.1 q.2 = true
      · rw [if_pos c]
        have e1 : fb_w e S q.1 q.2 = e u v := by
          rcases fb_dir_t.mp c with k | k
          · rw [k.1, k.2, fb_w_in Su Sv]
          · rw [k.1, k.2, hwp]
        omega
      · rw [if_neg c]; exact hw
  · refine fb_pos (w' := fun a b => if fb_dir u v a b = true then 0 else fb_w e S a b) hn (fun a b => ?_) (v, u) hp ?_ (fun q hq hw => ?_)
    · split <;> omega
    · dsimp only; rw [if_pos hd, hwp]; exact he
    · have I := fb_inv_run (w := fun a b => if fb_dir u v a b = true then 0 else fb_w e S a b) (fb_bX hn)
      by_cases c : fb_dir u v q.1 q.2 = true
      · have hc := h (fb_run (fun a b => if fb_dir u v a b = true then 0 else fb_w e S a b) (fb_aX 0 n)).2 (fun x y hx hy Sx Sy hxy hdd => by
          rcases Nat.le_total x y with hl | hl
          · refine I.2.2.1 (x, y) (fb_aX_mem.mpr (by dsimp only; omega)) ?_
            dsimp only
            rw [if_neg (by rw [hdd]; simp), fb_w_in Sx Sy]; omega
          · refine (I.2.2.1 (y, x) (fb_aX_mem.mpr (by dsimp only; omega)) ?_).symm
            dsimp only
            rw [if_neg (by rw [fb_dir_c, hdd]; simp), fb_w_in Sy Sx, hs]; omega)
        rcases fb_dir_t.mp c with k | k
        · rw [k.1, k.2]; exact hc
        · rw [k.1, k.2]; exact hc.symm
      · refine I.2.2.1 q hq ?_
        dsimp only
        rw [if_neg c]; exact hw
theorem fb_split {w : Nat → Nat → Nat} : ∀ es acc : List (Nat × Nat), (fb_run w acc).1 = 0 → 0 < (es.foldl (fb_step w) (fb_run w acc)).1 → ∃ es1 p es2, acc ++ es = es1 ++ p :: es2 ∧ w p.1 p.2 ≠ 0 ∧ (2 ≤ w p.1 p.2 ∨ (fb_run w es1).2 p.1 = (fb_run w es1).2 p.2)
  | [], acc, h0, h1 => by
    have h1' : 0 < (fb_run w acc).1 := h1
    omega
  | p :: es, acc, h0, h1 => by
    have er : fb_run w (acc ++ [p]) = fb_step w (fb_run w acc) p := by
      unfold fb_run; rw [List.foldl_append]; rfl
    by_cases c : (fb_run w (acc ++ [p])).1 = 0
    · have h1' : 0 < (es.foldl (fb_step w) (fb_run w (acc ++ [p]))).1 := by rw [er]; exact h1
      obtain ⟨es1, q, es2, k, k2⟩ := fb_split es (acc ++ [p]) c h1'
      refine ⟨es1, q, es2, ?_, k2⟩
      rw [← k, List.append_assoc]; rfl
    · rw [er] at c
      unfold fb_step at c
      by_cases c0 : w p.1 p.2 = 0
      · rw [if_pos c0] at c; exact absurd h0 c
      · rw [if_neg c0] at c
        refine ⟨acc, p, es, rfl, c0, ?_⟩
        by_cases c1 : (fb_run w acc).2 p.1 = (fb_run w acc).2 p.2
        · exact Or.inr c1
        · rw [if_neg c1] at c
          have c' : (fb_run w acc).1 + (w p.1 p.2 - 1) ≠ 0 := c
          omega
theorem fb_row_nd (u : Nat) : ∀ d v, (fb_row u v d).Pairwise (fun a b => a ≠ b)
  | 0, _ => List.Pairwise.nil
  | d + 1, v => by
    show ((u, v) :: fb_row u (v + 1) d).Pairwise _
    refine List.Pairwise.cons (fun q hq => ?_) (fb_row_nd u d (v + 1))
    have := fb_row_mem.mp hq
    intro k
    rw [← k] at this
    dsimp only at this
    omega
theorem fb_aX_nd : ∀ d u, (fb_aX u d).Pairwise (fun a b => a ≠ b)
  | 0, _ => List.Pairwise.nil
  | d + 1, u => by
    show (fb_row u u (d + 1) ++ fb_aX (u + 1) d).Pairwise _
    refine List.pairwise_append.mpr ⟨fb_row_nd u _ _, fb_aX_nd d (u + 1), fun a ha b hb => ?_⟩
    have h1 := fb_row_mem.mp ha
    have h2 := fb_aX_mem.mp hb
    intro k
    rw [k] at h1
    omega
theorem fb_pos_cyc {e : Nat → Nat → Nat} {n S : Nat} (hn : n ≤ 9) (hs : ∀ a b, e a b = e b a) (h : 0 < fb_ex e n S) : ∃ u v, v ≤ u ∧ u < n ∧ S.testBit u = true ∧ S.testBit v = true ∧ 0 < e u v ∧ (2 ≤ e u v ∨ fb_Conn e n S u v u v) := by
  obtain ⟨es1, ⟨a, b⟩, es2, k, hw, hc⟩ := fb_split (w := fb_w e S) (fb_aX 0 n) [] rfl h
  rw [List.nil_append] at k
  dsimp only at hw hc
  obtain ⟨Sa, Sb, he, hwe⟩ := fb_w_ne hw
  have hm := fb_aX_mem.mp (k ▸ List.mem_append_right es1 (List.mem_cons_self) : (a, b) ∈ fb_aX 0 n)
  dsimp only at hm
  refine ⟨b, a, hm.2.1, by omega, Sb, Sa, by rw [hs]; omega, ?_⟩
  rcases hc with hc | hc
  · left; rw [hs, ← hwe]; exact hc
  · right
    intro f hf
    have nd := fb_aX_nd n 0
    rw [k] at nd
    have nd2 := (List.pairwise_append.mp nd).2.2
    have hb1 : ∀ q : Nat × Nat, q ∈ es1 → q ∈ fb_aX 0 n := fun q hq => by rw [k]; exact List.mem_append_left _ hq
    have I := fb_inv_run (w := fb_w e S) (es := es1) (fun q hq => fb_bX hn q (hb1 q hq))
    have I4 := I.2.2.2 f (fun q hq hqw => by
      have hq1 := fb_aX_mem.mp (hb1 q hq)
      obtain ⟨S1, S2, he2, _⟩ := fb_w_ne hqw
      refine hf q.1 q.2 (by omega) (by omega) S1 S2 (by omega) (fb_dir_f.mpr (fun z => ?_))
      have hne : q ≠ (a, b) := nd2 q hq (a, b) (List.mem_cons_self)
      apply hne
      obtain ⟨q1, q2⟩ := q
      dsimp only at z hq1
      rw [Prod.mk.injEq]
      omega)
    have ea := I4 a (by omega)
    have eb := I4 b (by omega)
    rw [← ea, ← eb, hc]
end
