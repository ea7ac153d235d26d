/-! a packed number stored, both sides -/
def pkb (r : Nat → Nat) (sgn i : Nat) : Nat := r (2 * i) * 16 + (if i = 0 then sgn else r (2 * i - 1))
theorem or4 : ∀ x, x < 16 → ∀ y, y < 16 → nI x <<< ((4 : Int32) &&& 31) ||| nI y = nI (x * 16 + y) := by decide +kernel
theorem put_ix (p n i : Nat) (hi : 1 ≤ i) (hin : i < n) (hp : p + n ≤ 2048) : nI p + nI n - (2 : Int32) - nI (2 * i - 1) / (2 : Int32) = nI (p + n - 1 - i) := by
  rw [nI_add, show nI (p + n) - (2 : Int32) = nI (p + n - 2) from pk_sub (b := 2) (by omega), show nI (2 * i - 1) / (2 : Int32) = nI ((2 * i - 1) / 2) from pk_div (d := 2) (by omega) (by omega) (by omega), pk_sub (by omega)]
  congr 1
  omega
theorem put55 (D : rw_) (r : Nat → Nat) (hr : ∀ k, r k ≤ 9) (hD : ∀ k, k < 32 → D k = nI (r k)) (sgn p n : Nat) (hn : n ≤ 16) (hp : p + n ≤ 2048) : ∀ (d i fuel : Nat) (B : rw_), i + d = n → d < fuel → 1 ≤ i →
    ∃ B', f_X1_putTo_L55 D (nI p) (nI n) fuel B (nI (2 * i - 1)) = (f_X1_isWithin D (nI (2 * n - 1)), B') ∧ ∀ j, uB B' j = if p ≤ j ∧ j < p + n - i then nI (pkb r sgn (p + n - 1 - j)) else uB B j := by
  intro d
  induction d with
  | zero =>
    intro i fuel B h1 h2 h3
    obtain ⟨f, rfl⟩ : ∃ f, fuel = f + 1 := ⟨fuel - 1, by omega⟩
    refine ⟨B, ?_, fun j => ?_⟩
    · rw [f_X1_putTo_L55, two_n n (by omega), show nI (2 * i - 1) + (1 : Int32) = nI (2 * i) from by rw [nI_1]; congr 1; omega, if_pos (nI_le (by omega) (by omega))]
    · rw [if_neg (by omega)]
  | succ d ih =>
    intro i fuel B h1 h2 h3
    obtain ⟨f, rfl⟩ : ∃ f, fuel = f + 1 := ⟨fuel - 1, by omega⟩
    have r1 := hr (2 * i)
    have r2 := hr (2 * i - 1)
    obtain ⟨B', i1, i2⟩ := ih (i + 1) f (f_X6_putByte B (nI (p + n - 1 - i)) (nI (r (2 * i) * 16 + r (2 * i - 1)))) (by omega) (by omega) (by omega)
    refine ⟨B', ?_, fun j => ?_⟩
    · rw [f_X1_putTo_L55, two_n n (by omega), show nI (2 * i - 1) + (1 : Int32) = nI (2 * i) from by rw [nI_1]; congr 1; omega, if_neg (nI_ge (by omega) (by omega)), if_neg (show ¬ (32 : Int32) ≤ nI (2 * i) from nI_ge (b := 32) (by omega) (by omega)), put_ix p n i h3 (by omega) hp, nI_clamp (by omega), nI_clamp (by omega), hD _ (by omega), hD _ (by omega), or4 _ (by omega) _ (by omega), show nI (2 * i - 1) + (2 : Int32) = nI (2 * (i + 1) - 1) from by rw [show (2 : Int32) = nI 2 by decide, nI_add]; congr 1; omega]
      exact i1
    · rw [i2 j, uB_putByte _ _ _ (by omega), and255 (nI_rg (by omega) (by omega))]
      by_cases c : j = p + n - 1 - i
      · rw [if_neg (by omega), if_pos (by omega), c, pk_us]
        unfold pkb
        rw [show p + n - 1 - (p + n - 1 - i) = i by omega, if_neg (by omega)]
      · rw [pk_un c]
        by_cases c2 : p ≤ j ∧ j < p + n - (i + 1)
        · rw [if_pos c2, if_pos (by omega)]
        · rw [if_neg c2, if_neg (by omega)]
theorem put55b (D : rw_) (r : Nat → Nat) (hr : ∀ k, r k ≤ 9) (hD : ∀ k, k < 32 → D k = nI (r k)) (sgn p n : Nat) (hn : n ≤ 16) (hp : p + n ≤ 2048) : ∀ (d i fuel : Nat) (B : rw_), i + d = n → d < fuel → 1 ≤ i →
    ∃ B', f_X1_putTo_L55b D (nI p) (nI n) fuel B (nI (2 * i - 1)) = (f_X1_isWithin D (nI (2 * n - 1)), B') ∧ ∀ j, uB B' j = if p ≤ j ∧ j < p + n - i then nI (pkb r sgn (p + n - 1 - j)) else uB B j := by
  intro d
  induction d with
  | zero =>
    intro i fuel B h1 h2 h3
    obtain ⟨f, rfl⟩ : ∃ f, fuel = f + 1 := ⟨fuel - 1, by omega⟩
    refine ⟨B, ?_, fun j => ?_⟩
    · rw [f_X1_putTo_L55b, two_n n (by omega), show nI (2 * i - 1) + (1 : Int32) = nI (2 * i) from by rw [nI_1]; congr 1; omega, if_pos (nI_le (by omega) (by omega))]
    · rw [if_neg (by omega)]
  | succ d ih =>
    intro i fuel B h1 h2 h3
    obtain ⟨f, rfl⟩ : ∃ f, fuel = f + 1 := ⟨fuel - 1, by omega⟩
    have r1 := hr (2 * i)
    have r2 := hr (2 * i - 1)
    obtain ⟨B', i1, i2⟩ := ih (i + 1) f (f_X6_putByte B (nI (p + n - 1 - i)) (nI (r (2 * i) * 16 + r (2 * i - 1)))) (by omega) (by omega) (by omega)
    refine ⟨B', ?_, fun j => ?_⟩
    · rw [f_X1_putTo_L55b, two_n n (by omega), show nI (2 * i - 1) + (1 : Int32) = nI (2 * i) from by rw [nI_1]; congr 1; omega, if_neg (nI_ge (by omega) (by omega)), if_neg (show ¬ (32 : Int32) ≤ nI (2 * i) from nI_ge (b := 32) (by omega) (by omega)), put_ix p n i h3 (by omega) hp, nI_clamp (by omega), nI_clamp (by omega), hD _ (by omega), hD _ (by omega), or4 _ (by omega) _ (by omega), show nI (2 * i - 1) + (2 : Int32) = nI (2 * (i + 1) - 1) from by rw [show (2 : Int32) = nI 2 by decide, nI_add]; congr 1; omega]
      exact i1
    · rw [i2 j, uB_putByte _ _ _ (by omega), and255 (nI_rg (by omega) (by omega))]
      by_cases c : j = p + n - 1 - i
      · rw [if_neg (by omega), if_pos (by omega), c, pk_us]
        unfold pkb
        rw [show p + n - 1 - (p + n - 1 - i) = i by omega, if_neg (by omega)]
      · rw [pk_un c]
        by_cases c2 : p ≤ j ∧ j < p + n - (i + 1)
        · rw [if_pos c2, if_pos (by omega)]
        · rw [if_neg c2, if_neg (by omega)]
theorem put55bb (D : rw_) (r : Nat → Nat) (hr : ∀ k, r k ≤ 9) (hD : ∀ k, k < 32 → D k = nI (r k)) (sgn p n : Nat) (hn : n ≤ 16) (hp : p + n ≤ 2048) : ∀ (d i fuel : Nat) (B : rw_), i + d = n → d < fuel → 1 ≤ i →
    ∃ B', f_X1_putTo_L55bb D (nI p) (nI n) fuel B (nI (2 * i - 1)) = (f_X1_isWithin D (nI (2 * n - 1)), B') ∧ ∀ j, uB B' j = if p ≤ j ∧ j < p + n - i then nI (pkb r sgn (p + n - 1 - j)) else uB B j := by
  intro d
  induction d with
  | zero =>
    intro i fuel B h1 h2 h3
    obtain ⟨f, rfl⟩ : ∃ f, fuel = f + 1 := ⟨fuel - 1, by omega⟩
    refine ⟨B, ?_, fun j => ?_⟩
    · rw [f_X1_putTo_L55bb, two_n n (by omega), show nI (2 * i - 1) + (1 : Int32) = nI (2 * i) from by rw [nI_1]; congr 1; omega, if_pos (nI_le (by omega) (by omega))]
    · rw [if_neg (by omega)]
  | succ d ih =>
    intro i fuel B h1 h2 h3
    obtain ⟨f, rfl⟩ : ∃ f, fuel = f + 1 := ⟨fuel - 1, by omega⟩
    have r1 := hr (2 * i)
    have r2 := hr (2 * i - 1)
    obtain ⟨B', i1, i2⟩ := ih (i + 1) f (f_X6_putByte B (nI (p + n - 1 - i)) (nI (r (2 * i) * 16 + r (2 * i - 1)))) (by omega) (by omega) (by omega)
    refine ⟨B', ?_, fun j => ?_⟩
    · rw [f_X1_putTo_L55bb, two_n n (by omega), show nI (2 * i - 1) + (1 : Int32) = nI (2 * i) from by rw [nI_1]; congr 1; omega, if_neg (nI_ge (by omega) (by omega)), if_neg (show ¬ (32 : Int32) ≤ nI (2 * i) from nI_ge (b := 32) (by omega) (by omega)), put_ix p n i h3 (by omega) hp, nI_clamp (by omega), nI_clamp (by omega), hD _ (by omega), hD _ (by omega), or4 _ (by omega) _ (by omega), show nI (2 * i - 1) + (2 : Int32) = nI (2 * (i + 1) - 1) from by rw [show (2 : Int32) = nI 2 by decide, nI_add]; congr 1; omega]
      exact i1
    · rw [i2 j, uB_putByte _ _ _ (by omega), and255 (nI_rg (by omega) (by omega))]
      by_cases c : j = p + n - 1 - i
      · rw [if_neg (by omega), if_pos (by omega), c, pk_us]
        unfold pkb
        rw [show p + n - 1 - (p + n - 1 - i) = i by omega, if_neg (by omega)]
      · rw [pk_un c]
        by_cases c2 : p ≤ j ∧ j < p + n - (i + 1)
        · rw [if_pos c2, if_pos (by omega)]
        · rw [if_neg c2, if_neg (by omega)]
/-- the class's: the bytes, and whether all the digits had room -/
theorem putTo_eq (ng : Bool) (D B : rw_) (r : Nat → Nat) (hr : ∀ k, r k ≤ 9) (hD : ∀ k, k < 32 → D k = nI (r k)) (p n : Nat) (hn1 : 1 ≤ n) (hn : n ≤ 16) (hp : p + n ≤ 2048) (sgn : Nat) (hs : sgn = if ng = true ∧ ¬ (∀ j, j < 2 * n - 1 → r j = 0) then 13 else 12) :
    ∃ B', f_X1_putTo ng D B (nI p) (nI n) = (f_X1_isWithin D (nI (2 * n - 1)), B') ∧ ∀ j, uB B' j = if p ≤ j ∧ j < p + n then nI (pkb r sgn (p + n - 1 - j)) else uB B j := by
  have hs2 : sgn < 16 := by rw [hs]; split <;> omega
  have r0 := hr 0
  have hz : f_X1_isZero D (nI (2 * n - 1)) = true ↔ ∀ j, j < 2 * n - 1 → r j = 0 := by
    rw [isZero_iff D _ (by omega)]
    refine ⟨fun q j hj => ?_, fun q j hj h32 => ?_⟩
    · have h1 := q j hj (by omega)
      have h2 := hr j
      rw [hD j (by omega)] at h1
      exact (nI_eq (b := 0) (by omega) (by omega)).mp h1
    · rw [hD j h32, q j hj]; rfl
  have fin2 : ∀ B1 : rw_, (∀ j, uB B1 j = if p ≤ j ∧ j < p + n - 1 then nI (pkb r sgn (p + n - 1 - j)) else uB (f_X6_putByte B (nI (p + n - 1)) (nI (r 0 * 16 + sgn))) j) → ∀ j, uB B1 j = if p ≤ j ∧ j < p + n then nI (pkb r sgn (p + n - 1 - j)) else uB B j := by
    intro B1 h j
    rw [h j, uB_putByte _ _ _ (by omega), and255 (nI_rg (by omega) (by omega))]
    by_cases c : j = p + n - 1
    · rw [if_neg (by omega), if_pos (by omega), c, pk_us]
      unfold pkb
      rw [show p + n - 1 - (p + n - 1) = 0 by omega, if_pos rfl]
    · rw [pk_un c]
      by_cases c2 : p ≤ j ∧ j < p + n - 1
      · rw [if_pos c2, if_pos (by omega)]
      · rw [if_neg c2, if_neg (by omega)]
  have e0 : D (0 : Int32).toNatClampNeg = nI (r 0) := hD 0 (by omega)
  have e1 : (1 : Int32) = nI (2 * 1 - 1) := by decide
  have hfu : ((32 : Int32).toInt - (1 : Int32).toInt).toNat + 1 = 32 := by decide
  unfold f_X1_putTo
  rw [two_n n hn1, last_eq p n hn1, e0, hfu]
  simp only [q_let]
  cases ng with
  | false =>
    have : sgn = 12 := by rw [hs, if_neg (fun q => by cases q.1)]
    subst this
    rw [if_neg (by decide), show (12 : Int32) = nI 12 by decide, or4 _ (by omega) _ (by omega)]
    obtain ⟨B1, g1, g2⟩ := put55 D r hr hD 12 p n hn hp (n - 1) 1 32 (f_X6_putByte B (nI (p + n - 1)) (nI (r 0 * 16 + 12))) (by omega) (by omega) (by omega)
    exact ⟨B1, g1, fin2 B1 g2⟩
  | true =>
    rw [if_pos rfl]
    by_cases c : ∀ j, j < 2 * n - 1 → r j = 0
    · have : sgn = 12 := by rw [hs, if_neg (fun q => q.2 c)]
      subst this
      rw [if_pos (hz.mpr c), show (12 : Int32) = nI 12 by decide, or4 _ (by omega) _ (by omega)]
      obtain ⟨B1, g1, g2⟩ := put55b D r hr hD 12 p n hn hp (n - 1) 1 32 (f_X6_putByte B (nI (p + n - 1)) (nI (r 0 * 16 + 12))) (by omega) (by omega) (by omega)
      exact ⟨B1, g1, fin2 B1 g2⟩
    · have : sgn = 13 := by rw [hs, if_pos ⟨rfl, c⟩]
      subst this
      rw [if_neg (fun q => c (hz.mp q)), show (13 : Int32) = nI 13 by decide, or4 _ (by omega) _ (by omega)]
      obtain ⟨B1, g1, g2⟩ := put55bb D r hr hD 13 p n hn hp (n - 1) 1 32 (f_X6_putByte B (nI (p + n - 1)) (nI (r 0 * 16 + 13))) (by omega) (by omega) (by omega)
      exact ⟨B1, g1, fin2 B1 g2⟩
/-- the reference's half bytes, one at a time -/
def nbl (r : Nat → Nat) (sgn y : Nat) : Nat := if y = 0 then sgn else r (y - 1)
def pst (r : Nat → Nat) (sgn x i : Nat) : Nat := (if 2 * i < x then nbl r sgn (2 * i) else 0) + (if 2 * i + 1 < x then 16 * nbl r sgn (2 * i + 1) else 0)
theorem st69_step (one : rw_) (r : Nat → Nat) (ng : Bool) (hr : ∀ k, r k ≤ 9) (ho : ∀ k, k < 40 → one k = iI (sg ng * (r k : Nat))) (p n : Nat) (hn : n ≤ 16) (hp : p + n ≤ 2048) (fl : Bool) (sgn : Nat) (hs : sgn = if fl = true then 13 else 12) (x f : Nat) (hx : x < 2 * n) (b : rw_) :
    f_X8_store_L69 one (nI p) (nI n) fl (f + 1) b (nI x) = f_X8_store_L69 one (nI p) (nI n) fl f (upd b (p + n - 1 - x / 2) (b (p + n - 1 - x / 2) + nI ((if x % 2 = 0 then 1 else 16) * nbl r sgn x))) (nI (x + 1)) ∧
    (s_X8_store_L69 one (nI p) (nI n) fl f (upd b (p + n - 1 - x / 2) (b (p + n - 1 - x / 2) + nI ((if x % 2 = 0 then 1 else 16) * nbl r sgn x))) (nI (x + 1)) → s_X8_store_L69 one (nI p) (nI n) fl (f + 1) b (nI x)) := by
  have e1 : (2 : Int32) * nI n = nI (2 * n) := pk_mul 2 n
  have e2 := half_ix p n x hx hp
  have e3 : nI x - nI x / (2 : Int32) * (2 : Int32) = nI (x % 2) := pk_rem (d := 2) (by omega) (by omega) (by omega)
  have e4 : nI x + (1 : Int32) = nI (x + 1) := nI_1 x
  have ez : nI x = 0 ↔ x = 0 := nI_eq (b := 0) (by omega) (by omega)
  have e2z : nI (x % 2) = 0 ↔ x % 2 = 0 := nI_eq (b := 0) (by omega) (by omega)
  have v1 : vp_in (nI (p + n - 1 - x / 2)) 2048 := vp_in_nI (by omega) (by omega)
  have hc : (nI (p + n - 1 - x / 2)).toNatClampNeg = p + n - 1 - x / 2 := nI_clamp (by omega)
  rw [f_X8_store_L69, s_X8_store_L69, e1, if_neg (nI_ge (by omega) (by omega)), if_neg (nI_ge (by omega) (by omega)), e2, e3, e4, hc]
  obtain ⟨i, hi⟩ : ∃ i, i = p + n - 1 - x / 2 := ⟨_, rfl⟩
  rw [← hi] at v1 ⊢
  by_cases c0 : x = 0
  · subst c0
    have : nbl r sgn 0 = sgn := if_pos rfl
    have z0 : nI 0 = 0 := by decide
    have z2 : nI (0 % 2) = 0 := by decide
    rw [if_pos z0, if_pos z0, if_pos (show (0 : Nat) % 2 = 0 from rfl), this, Nat.one_mul]
    cases fl with
    | true =>
      have : sgn = 13 := hs
      subst this
      rw [if_pos rfl, if_pos rfl, if_pos z2, if_pos z2]
      exact ⟨rfl, fun q => ⟨v1, v1, q⟩⟩
    | false =>
      have : sgn = 12 := hs
      subst this
      rw [if_neg (show ¬ false = true by decide), if_neg (show ¬ false = true by decide), if_pos z2, if_pos z2]
      exact ⟨rfl, fun q => ⟨v1, v1, q⟩⟩
  · have e5 : nI x - (1 : Int32) = nI (x - 1) := pk_sub (b := 1) (by omega)
    have hn1 : nbl r sgn x = r (x - 1) := if_neg c0
    have hr1 := hr (x - 1)
    have v2 : vp_in (nI (x - 1)) 40 := vp_in_nI (by omega) (by omega)
    rw [if_neg (fun q => c0 (ez.mp q)), if_neg (fun q => c0 (ez.mp q)), e5, nI_clamp (by omega), ho (x - 1) (by omega), hn1]
    obtain ⟨y, hy⟩ : ∃ y, y = r (x - 1) := ⟨_, rfl⟩
    rw [← hy] at hr1 ⊢
    have hval : (if 0 ≤ iI (sg ng * (y : Nat)) then iI (sg ng * (y : Nat)) else -iI (sg ng * (y : Nat))) = nI y := by
      cases ng with
      | false =>
        rw [show sg false = 1 from rfl, Int.one_mul, iI_n, if_pos (nI_pos' (by omega))]
      | true =>
        rw [show sg true = -1 from rfl]
        by_cases z : y = 0
        · subst z; decide
        · rw [if_neg (fun q => by have := (iI_le (x := 0) (by omega) (by omega) (by omega) (by omega)).mp q; omega), iI_neg, ← iI_n]
          congr 1
          omega
    by_cases cs : 0 ≤ iI (sg ng * (y : Nat))
    · rw [if_pos cs] at hval
      rw [if_pos cs, if_pos cs, hval]
      by_cases cp : x % 2 = 0
      · rw [if_pos (e2z.mpr cp), if_pos (e2z.mpr cp), if_pos cp, Nat.one_mul]
        exact ⟨rfl, fun q => ⟨v2, v2, v1, v1, q⟩⟩
      · rw [if_neg (fun q => cp (e2z.mp q)), if_neg (fun q => cp (e2z.mp q)), if_neg cp, show (16 : Int32) * nI y = nI (16 * y) from pk_mul 16 y]
        exact ⟨rfl, fun q => ⟨v2, v2, v1, v1, q⟩⟩
    · rw [if_neg cs] at hval
      rw [if_neg cs, if_neg cs, hval]
      by_cases cp : x % 2 = 0
      · rw [if_pos (e2z.mpr cp), if_pos (e2z.mpr cp), if_pos cp, Nat.one_mul]
        exact ⟨rfl, fun q => ⟨v2, v2, v1, v1, q⟩⟩
      · rw [if_neg (fun q => cp (e2z.mp q)), if_neg (fun q => cp (e2z.mp q)), if_neg cp, show (16 : Int32) * nI y = nI (16 * y) from pk_mul 16 y]
        exact ⟨rfl, fun q => ⟨v2, v2, v1, v1, q⟩⟩
theorem pst_s (r : Nat → Nat) (sgn x : Nat) : pst r sgn (x + 1) (x / 2) = pst r sgn x (x / 2) + (if x % 2 = 0 then 1 else 16) * nbl r sgn x := by
  unfold pst
  by_cases c : x % 2 = 0
  · have h1 : 2 * (x / 2) = x := by omega
    rw [if_pos (by omega), if_neg (by omega), if_neg (by omega), if_neg (by omega), if_pos c, h1]
    omega
  · have h1 : 2 * (x / 2) + 1 = x := by omega
    rw [if_pos (by omega), if_pos (by omega), if_pos (by omega), if_neg (by omega), if_neg c, h1]
    omega
theorem pst_n (r : Nat → Nat) (sgn x i : Nat) (h : ¬ i = x / 2) : pst r sgn (x + 1) i = pst r sgn x i := by
  unfold pst
  by_cases c : 2 * i < x
  · by_cases c2 : 2 * i + 1 < x
    · rw [if_pos (by omega), if_pos c, if_pos (by omega), if_pos c2]
    · rw [if_pos (by omega), if_pos c, if_neg (by omega), if_neg c2]
  · rw [if_neg (by omega), if_neg c, if_neg (by omega), if_neg (by omega)]
theorem st69 (one : rw_) (r : Nat → Nat) (ng : Bool) (hr : ∀ k, r k ≤ 9) (ho : ∀ k, k < 40 → one k = iI (sg ng * (r k : Nat))) (p n : Nat) (hn : n ≤ 16) (hp : p + n ≤ 2048) (fl : Bool) (sgn : Nat) (hs : sgn = if fl = true then 13 else 12) : ∀ (d x fuel : Nat) (b : rw_), x + d = 2 * n → d < fuel →
    ∃ b', f_X8_store_L69 one (nI p) (nI n) fl fuel b (nI x) = b' ∧ s_X8_store_L69 one (nI p) (nI n) fl fuel b (nI x) ∧ ((∀ j, p ≤ j → j < p + n → b j = nI (pst r sgn x (p + n - 1 - j))) → (∀ j, p ≤ j → j < p + n → b' j = nI (pst r sgn (2 * n) (p + n - 1 - j)))) ∧ (∀ j, ¬ (p ≤ j ∧ j < p + n) → b' j = b j) := by
  intro d
  induction d with
  | zero =>
    intro x fuel b h1 h2
    obtain ⟨f, rfl⟩ : ∃ f, fuel = f + 1 := ⟨fuel - 1, by omega⟩
    have hx : x = 2 * n := by omega
    subst hx
    refine ⟨b, ?_, ?_, fun q => q, fun j _ => rfl⟩
    · rw [f_X8_store_L69, show (2 : Int32) * nI n = nI (2 * n) from pk_mul 2 n, if_pos (nI_le (by omega) (by omega))]
    · rw [s_X8_store_L69, show (2 : Int32) * nI n = nI (2 * n) from pk_mul 2 n, if_pos (nI_le (by omega) (by omega))]
      trivial
  | succ d ih =>
    intro x fuel b h1 h2
    obtain ⟨f, rfl⟩ : ∃ f, fuel = f + 1 := ⟨fuel - 1, by omega⟩
    obtain ⟨s1, s2⟩ := st69_step one r ng hr ho p n hn hp fl sgn hs x f (by omega) b
    obtain ⟨b', i1, i2, i3, i4⟩ := ih (x + 1) f (upd b (p + n - 1 - x / 2) (b (p + n - 1 - x / 2) + nI ((if x % 2 = 0 then 1 else 16) * nbl r sgn x))) (by omega) (by omega)
    refine ⟨b', by rw [s1]; exact i1, s2 i2, fun q => i3 (fun j h3 h4 => ?_), fun j hj => ?_⟩
    · by_cases c : j = p + n - 1 - x / 2
      · rw [c, pk_us, q _ (by omega) (by omega), show p + n - 1 - (p + n - 1 - x / 2) = x / 2 by omega, pst_s, nI_add]
      · rw [pk_un c, q j h3 h4, pst_n r sgn x _ (by omega)]
    · rw [i4 j hj, pk_un (by omega)]
theorem st44 (one : rw_) (r : Nat → Nat) (ng : Bool) (hr : ∀ k, r k ≤ 9) (ho : ∀ k, k < 40 → one k = iI (sg ng * (r k : Nat))) (p n : Nat) (hn : n ≤ 16) (hp : p + n ≤ 2048) (fl : Bool) (sgn : Nat) (hs : sgn = if fl = true then 13 else 12) : ∀ (d k fuel : Nat) (b : rw_), k + d = n → d < fuel →
    ∃ b', f_X8_store_L44 one (nI p) (nI n) fl fuel b (nI k) = b' ∧ s_X8_store_L44 one (nI p) (nI n) fl fuel b (nI k) ∧ ((∀ j, p ≤ j → j < p + k → b j = 0) → (∀ j, p ≤ j → j < p + n → b' j = nI (pst r sgn (2 * n) (p + n - 1 - j)))) ∧ (∀ j, ¬ (p ≤ j ∧ j < p + n) → b' j = b j) := by
  intro d
  induction d with
  | zero =>
    intro k fuel b h1 h2
    obtain ⟨f, rfl⟩ : ∃ f, fuel = f + 1 := ⟨fuel - 1, by omega⟩
    have hf : (((2 : Int32) * nI n).toInt - (0 : Int32).toInt).toNat + 1 = 2 * n + 1 := by rw [show (2 : Int32) * nI n = nI (2 * n) from pk_mul 2 n]; exact fuel_n (by omega)
    obtain ⟨b', i1, i2, i3, i4⟩ := st69 one r ng hr ho p n hn hp fl sgn hs (2 * n) 0 (2 * n + 1) b (by omega) (by omega)
    refine ⟨b', ?_, ?_, fun q => i3 (fun j h3 h4 => ?_), i4⟩
    · rw [f_X8_store_L44, if_pos (nI_le (by omega) (by omega)), hf]; exact i1
    · rw [s_X8_store_L44, if_pos (nI_le (by omega) (by omega)), hf]; exact i2
    · rw [q j h3 (by omega)]
      unfold pst
      rw [if_neg (by omega), if_neg (by omega)]
      rfl
  | succ d ih =>
    intro k fuel b h1 h2
    obtain ⟨f, rfl⟩ : ∃ f, fuel = f + 1 := ⟨fuel - 1, by omega⟩
    obtain ⟨b', i1, i2, i3, i4⟩ := ih (k + 1) f (upd b (p + k) 0) (by omega) (by omega)
    refine ⟨b', ?_, ?_, fun q => i3 (fun j h3 h4 => ?_), fun j hj => ?_⟩
    · rw [f_X8_store_L44, if_neg (nI_ge (by omega) (by omega)), nI_add, nI_clamp (by omega), show nI k + (1 : Int32) = nI (k + 1) from nI_1 k]; exact i1
    · rw [s_X8_store_L44, if_neg (nI_ge (by omega) (by omega)), nI_add, nI_clamp (by omega), show nI k + (1 : Int32) = nI (k + 1) from nI_1 k]; exact ⟨vp_in_nI (by omega) (by omega), i2⟩
    · by_cases c : j = p + k
      · rw [c, pk_us]
      · rw [pk_un c]; exact q j h3 (by omega)
    · rw [i4 j hj, pk_un (by omega)]
theorem st5 (b one : rw_) (r : Nat → Nat) (ng : Bool) (hr : ∀ k, r k ≤ 9) (ho : ∀ k, k < 40 → one k = iI (sg ng * (r k : Nat))) (p n : Nat) (hn1 : 1 ≤ n) (hn : n ≤ 16) (hp : p + n ≤ 2048) : ∀ (d k fuel : Nat) (fl : Bool), k + d = 2 * n - 1 → d < fuel →
    ∃ fl' : Bool, (fl' = true ↔ fl = true ∨ (ng = true ∧ ¬ ∀ j, k ≤ j → j < 2 * n - 1 → r j = 0)) ∧ f_X8_store_L5 b one (nI p) (nI n) fuel (nI k) fl = f_X8_store_L44 one (nI p) (nI n) fl' (n + 1) b (nI 0) ∧ (s_X8_store_L44 one (nI p) (nI n) fl' (n + 1) b (nI 0) → s_X8_store_L5 b one (nI p) (nI n) fuel (nI k) fl) := by
  intro d
  induction d with
  | zero =>
    intro k fuel fl h1 h2
    obtain ⟨f, rfl⟩ : ∃ f, fuel = f + 1 := ⟨fuel - 1, by omega⟩
    have hf : ((nI n).toInt - (0 : Int32).toInt).toNat + 1 = n + 1 := fuel_n (by omega)
    refine ⟨fl, ⟨Or.inl, fun q => q.elim id (fun z => absurd (fun j h3 h4 => by omega) z.2)⟩, ?_, ?_⟩
    · rw [f_X8_store_L5, two_n n hn1, if_pos (nI_le (by omega) (by omega)), hf]; rfl
    · rw [s_X8_store_L5, two_n n hn1, if_pos (nI_le (by omega) (by omega)), hf]; exact id
  | succ d ih =>
    intro k fuel fl h1 h2
    obtain ⟨f, rfl⟩ : ∃ f, fuel = f + 1 := ⟨fuel - 1, by omega⟩
    have v1 : vp_in (nI k) 40 := vp_in_nI (by omega) (by omega)
    have hk1 : nI k + (1 : Int32) = nI (k + 1) := nI_1 k
    have hrk := hr k
    cases fl with
    | true =>
      obtain ⟨fl', i1, i2, i3⟩ := ih (k + 1) f true (by omega) (by omega)
      have ht : fl' = true := i1.mpr (Or.inl rfl)
      refine ⟨fl', ⟨fun _ => Or.inl rfl, fun _ => ht⟩, ?_, ?_⟩
      · rw [f_X8_store_L5, two_n n hn1, if_neg (nI_ge (by omega) (by omega)), if_pos rfl, hk1]; exact i2
      · rw [s_X8_store_L5, two_n n hn1, if_neg (nI_ge (by omega) (by omega)), if_pos rfl, hk1]; exact i3
    | false =>
      by_cases c : ng = true ∧ ¬ r k = 0
      · obtain ⟨fl', i1, i2, i3⟩ := ih (k + 1) f true (by omega) (by omega)
        have ht : fl' = true := i1.mpr (Or.inl rfl)
        have hneg : ¬ 0 ≤ iI (sg ng * (r k : Nat)) := by
          rw [c.1, show sg true = -1 from rfl]
          intro q
          have := (iI_le (x := 0) (by omega) (by omega) (by omega) (by omega)).mp q
          have := c.2
          omega
        refine ⟨fl', ⟨fun _ => Or.inr ⟨c.1, fun q => c.2 (q k (by omega) (by omega))⟩, fun _ => ht⟩, ?_, ?_⟩
        · rw [f_X8_store_L5, two_n n hn1, if_neg (nI_ge (by omega) (by omega)), if_neg (by decide), nI_clamp (by omega), ho k (by omega), if_neg hneg, hk1]; exact i2
        · rw [s_X8_store_L5, two_n n hn1, if_neg (nI_ge (by omega) (by omega)), if_neg (by decide), nI_clamp (by omega), ho k (by omega), if_neg hneg, hk1]; exact fun q => ⟨v1, i3 q⟩
      · obtain ⟨fl', i1, i2, i3⟩ := ih (k + 1) f false (by omega) (by omega)
        have hpos : 0 ≤ iI (sg ng * (r k : Nat)) := by
          refine (iI_le (x := 0) (by omega) (by omega) ?_ ?_).mpr ?_
          · rcases sg_sq ng with z | z <;> rw [z] <;> omega
          · rcases sg_sq ng with z | z <;> rw [z] <;> omega
          · cases ng with
            | false => rw [show sg false = 1 from rfl]; omega
            | true =>
              have : r k = 0 := Classical.byContradiction fun z => c ⟨rfl, z⟩
              rw [this]; decide
        refine ⟨fl', i1.trans ⟨fun q => q.elim (fun z => by cases z) (fun z => Or.inr ⟨z.1, fun y => z.2 (fun j h3 h4 => y j (by omega) h4)⟩), fun q => q.elim (fun z => by cases z) (fun z => Or.inr ⟨z.1, fun y => z.2 (fun j h3 h4 => ?_)⟩)⟩, ?_, ?_⟩
        · by_cases w : j = k
          · rw [w]; exact Classical.byContradiction fun v => c ⟨z.1, v⟩
          · exact y j (by omega) h4
        · rw [f_X8_store_L5, two_n n hn1, if_neg (nI_ge (by omega) (by omega)), if_neg (by decide), nI_clamp (by omega), ho k (by omega), if_pos hpos, hk1]; exact i2
        · rw [s_X8_store_L5, two_n n hn1, if_neg (nI_ge (by omega) (by omega)), if_neg (by decide), nI_clamp (by omega), ho k (by omega), if_pos hpos, hk1]; exact fun q => ⟨v1, i3 q⟩
theorem pst_end (r : Nat → Nat) (sgn n i : Nat) (hi : i < n) : pst r sgn (2 * n) i = pkb r sgn i := by
  unfold pst pkb nbl
  rw [if_pos (show 2 * i < 2 * n by omega), if_pos (show 2 * i + 1 < 2 * n by omega), if_neg (show ¬ 2 * i + 1 = 0 by omega), show 2 * i + 1 - 1 = 2 * i by omega]
  by_cases z : i = 0
  · rw [if_pos (show 2 * i = 0 by omega), if_pos z]; omega
  · rw [if_neg (show ¬ 2 * i = 0 by omega), if_neg z]; omega
theorem store_eq (one b : rw_) (r : Nat → Nat) (ng : Bool) (hr : ∀ k, r k ≤ 9) (ho : ∀ k, k < 40 → one k = iI (sg ng * (r k : Nat))) (p n : Nat) (hn1 : 1 ≤ n) (hn : n ≤ 16) (hp : p + n ≤ 2048) (sgn : Nat) (hs : sgn = if ng = true ∧ ¬ (∀ j, j < 2 * n - 1 → r j = 0) then 13 else 12) :
    (∀ j, f_X8_store b one (nI p) (nI n) j = if p ≤ j ∧ j < p + n then nI (pkb r sgn (p + n - 1 - j)) else b j) ∧ s_X8_store b one (nI p) (nI n) := by
  have hf : ((((2 : Int32) * nI n) - (1 : Int32)).toInt - (0 : Int32).toInt).toNat + 1 = 2 * n - 1 + 1 := by rw [two_n n hn1]; exact fuel_n (by omega)
  obtain ⟨fl, f1, f2, f3⟩ := st5 b one r ng hr ho p n hn1 hn hp (2 * n - 1) 0 (2 * n - 1 + 1) false (by omega) (by omega)
  have hfl : sgn = if fl = true then 13 else 12 := by
    rw [hs]
    by_cases c : fl = true
    · have := f1.mp c
      rw [if_pos c, if_pos]
      rcases this with z | z
      · cases z
      · exact ⟨z.1, fun q => z.2 (fun j _ h => q j h)⟩
    · rw [if_neg c, if_neg]
      exact fun q => c (f1.mpr (Or.inr ⟨q.1, fun y => q.2 (fun j h => y j (by omega) h)⟩))
  obtain ⟨b', i1, i2, i3, i4⟩ := st44 one r ng hr ho p n hn hp fl sgn hfl n 0 (n + 1) b (by omega) (by omega)
  have hm : f_X8_store b one (nI p) (nI n) = b' := by
    unfold f_X8_store
    rw [hf]
    exact f2.trans i1
  refine ⟨fun j => ?_, ?_⟩
  · rw [hm]
    by_cases c : p ≤ j ∧ j < p + n
    · rw [if_pos c, i3 (fun j h3 h4 => by omega) j c.1 c.2]
      rw [pst_end r sgn n (p + n - 1 - j) (by omega)]
    · rw [if_neg c, i4 j c]
  · unfold s_X8_store
    rw [hf]
    exact f3 i2
/-- both storings: the same bytes -/
theorem stored (ng : Bool) (D B one : rw_) (r : Nat → Int) (hr : ∀ k, 0 ≤ r k ∧ r k ≤ 9) (hD : ∀ k, k < 32 → D k = iI (r k)) (ho : ∀ k, k < 40 → one k = iI (sg ng * r k)) (p n : Nat) (hn1 : 1 ≤ n) (hn : n ≤ 16) (hp : p + n ≤ 2048) :
    ∃ B', f_X1_putTo ng D B (nI p) (nI n) = (f_X1_isWithin D (nI (2 * n - 1)), B') ∧ f_X8_store (uB B) one (nI p) (nI n) = uB B' ∧ s_X8_store (uB B) one (nI p) (nI n) := by
  have hrn : ∀ k, (((r k).toNat : Nat) : Int) = r k := fun k => Int.toNat_of_nonneg (hr k).1
  have hr9 : ∀ k, (r k).toNat ≤ 9 := fun k => by have := hr k; omega
  obtain ⟨sgn, hs⟩ : ∃ sgn, sgn = if ng = true ∧ ¬ (∀ j, j < 2 * n - 1 → (r j).toNat = 0) then 13 else 12 := ⟨_, rfl⟩
  obtain ⟨B', g1, g2⟩ := putTo_eq ng D B (fun k => (r k).toNat) hr9 (fun k hk => by rw [hD k hk, ← iI_n, hrn]) p n hn1 hn hp sgn hs
  obtain ⟨g3, g4⟩ := store_eq one (uB B) (fun k => (r k).toNat) ng hr9 (fun k hk => by rw [ho k hk, hrn]) p n hn1 hn hp sgn hs
  exact ⟨B', g1, funext fun j => by rw [g3 j, g2 j], g4⟩
