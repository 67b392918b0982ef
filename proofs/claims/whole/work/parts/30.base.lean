-- numbers as Nat; the small methods; loops by their trajectories
theorem z_lit (n : Nat) : (OfNat.ofNat n : Int32) = nI n := rfl
theorem z_0 : (0 : Int32) = nI 0 := rfl
theorem z_1 : (1 : Int32) = nI 1 := rfl
theorem z_sl : ∀ n, n < 32 → ((nI n &&& 31).toBitVec.smod 32).toNat = n := by decide +kernel
theorem z_shl {a k : Nat} (hk : k < 32) (h : a * 2 ^ k < 2 ^ 32) : nI a <<< (nI k &&& 31) = nI (a * 2 ^ k) := pk_shlN _ k (z_sl k hk) h
theorem z_bit {k : Nat} (hk : k < 31) : (1 : Int32) <<< (nI k &&& 31) = nI (2 ^ k) := by
  have h : (1 : Nat) * 2 ^ k < 2 ^ 32 := by rw [Nat.one_mul]; exact Nat.pow_lt_pow_right (by decide) (by omega)
  have := z_shl (a := 1) (k := k) (by omega) h
  rw [Nat.one_mul] at this
  exact this
theorem z_shr {a k : Nat} (ha : a < 2 ^ 31) (hk : k < 32) : nI a >>> (nI k &&& 31) = nI (a / 2 ^ k) := pk_shrN ha _ k (z_sl k hk)
theorem z_and (a b : Nat) : nI a &&& nI b = nI (a &&& b) := by
  apply Int32.toBitVec_inj.1
  show BitVec.ofNat 32 a &&& BitVec.ofNat 32 b = BitVec.ofNat 32 (a &&& b)
  apply BitVec.eq_of_getLsbD_eq
  intro i hi
  simp [hi]
theorem z_or (a b : Nat) : nI a ||| nI b = nI (a ||| b) := by
  apply Int32.toBitVec_inj.1
  show BitVec.ofNat 32 a ||| BitVec.ofNat 32 b = BitVec.ofNat 32 (a ||| b)
  apply BitVec.eq_of_getLsbD_eq
  intro i hi
  simp [hi]
theorem z_xor (a b : Nat) : nI a ^^^ nI b = nI (a ^^^ b) := by
  apply Int32.toBitVec_inj.1
  show BitVec.ofNat 32 a ^^^ BitVec.ofNat 32 b = BitVec.ofNat 32 (a ^^^ b)
  apply BitVec.eq_of_getLsbD_eq
  intro i hi
  simp [hi]
theorem z_m1 : (-1 : Int32) = nI (2 ^ 32 - 1) := by decide +kernel
theorem z_bt (a k : Nat) : a / 2 ^ k % 2 = if a.testBit k then 1 else 0 := by
  rw [Nat.testBit_eq_decide_div_mod_eq]
  rcases Nat.mod_two_eq_zero_or_one (a / 2 ^ k) with h | h <;> simp [h]
/-- a set's bit -/
def zb (a k : Nat) : Int32 := if a.testBit k then 1 else 0
theorem zb_01 (a k : Nat) : zb a k = 0 ∨ zb a k = 1 := by unfold zb; split <;> simp
theorem zb_1 {a k : Nat} : zb a k = 1 ↔ a.testBit k = true := by unfold zb; split <;> simp_all
theorem zb_0 {a k : Nat} : zb a k = 0 ↔ a.testBit k = false := by unfold zb; split <;> simp_all
theorem z_has {a k : Nat} (ha : a < 2 ^ 31) (hk : k < 32) : (nI a >>> (nI k &&& 31)) &&& 1 = zb a k := by
  rw [z_shr ha hk, z_1, z_and]
  have : a / 2 ^ k &&& 1 = a / 2 ^ k % 2 := Nat.and_one_is_mod _
  rw [this, z_bt]
  unfold zb
  split <;> rfl
/-- a set without a bit -/
theorem z_andnot {a k : Nat} (ha : a < 2 ^ 31) (hk : k < 31) : nI a &&& (nI (2 ^ k) ^^^ (-1)) = nI (a &&& (2 ^ k ^^^ (2 ^ 32 - 1))) := by
  rw [z_m1, z_xor, z_and]
theorem zrt_01 {v : Int32} (h : v = 0 ∨ v = 1) : zrt v = some v := if_pos h
theorem zrt_0 : zrt 0 = some 0 := rfl
theorem zrt_1 : zrt 1 = some 1 := rfl
theorem bind_ok {α β : Type} {a : Option α} {x : α} {f : α → Option β} (h : a = some x) : a.bind f = f x := by rw [h]; rfl
theorem nm_eq {α β : Type} (a : α) (f : α → Option β) : nm a f = f a := rfl
theorem pfi_eq (σ : Sg) (k j : Nat) (v : Int32) : pfi σ k j v = some (up1 σ k j v) := rfl
theorem up1_eq (σ : Sg) (k i : Nat) (v : Int32) (a j : Nat) : (up1 σ k i v).1 a j = if a = k ∧ j = i then v else σ.1 a j := by
  unfold up1
  by_cases h : a = k
  · subst h
    by_cases h2 : j = i
    · subst h2; simp [upd]
    · simp [upd, h2]
  · simp [h]
theorem up1_2 (σ : Sg) (k i : Nat) (v : Int32) : (up1 σ k i v).2 = σ.2 := rfl
theorem upL_eq (σ : Sg) (k i : Nat) (v : Int64) (a j : Nat) : (upL σ k i v).2 a j = if a = k ∧ j = i then v else σ.2 a j := by
  unfold upL
  by_cases h : a = k
  · subst h
    by_cases h2 : j = i
    · subst h2; simp [vp_updL]
    · simp [vp_updL, h2]
  · simp [h]
theorem upL_1 (σ : Sg) (k i : Nat) (v : Int64) : (upL σ k i v).1 = σ.1 := rfl
theorem ald_ok {σ : Sg} {k n i : Nat} (h : i < n) (hn : n < 2 ^ 31) : ald σ k n (nI i) = some (σ.1 k i) := by
  unfold ald
  rw [if_neg, nI_clamp (by omega)]
  rintro (q | q)
  · exact nI_pos (by omega) q
  · rw [nI_clamp (by omega)] at q; omega
theorem ast_ok {σ : Sg} {k n i : Nat} {v : Int32} (h : i < n) (hn : n < 2 ^ 31) : ast σ k n (nI i) v = some (up1 σ k i v) := by
  unfold ast
  rw [if_neg, nI_clamp (by omega)]
  rintro (q | q)
  · exact nI_pos (by omega) q
  · rw [nI_clamp (by omega)] at q; omega
theorem aldL_ok {σ : Sg} {k n i : Nat} (h : i < n) (hn : n < 2 ^ 31) : aldL σ k n (nI i) = some (σ.2 k i) := by
  unfold aldL
  rw [if_neg, nI_clamp (by omega)]
  rintro (q | q)
  · exact nI_pos (by omega) q
  · rw [nI_clamp (by omega)] at q; omega
theorem astL_ok {σ : Sg} {k n i : Nat} {v : Int64} (h : i < n) (hn : n < 2 ^ 31) : astL σ k n (nI i) v = some (upL σ k i v) := by
  unfold astL
  rw [if_neg, nI_clamp (by omega)]
  rintro (q | q)
  · exact nI_pos (by omega) q
  · rw [nI_clamp (by omega)] at q; omega
-- loops
theorem itr_in {S X : Type} {F : S → Option (S ⊕ X)} {n : Nat} {s s' : S} (h : F s = some (.inl s')) : itr (n + 1) F s = itr n F s' := by
  show ((F s).bind _) = _
  rw [h]
  rfl
theorem itr_out {S X : Type} {F : S → Option (S ⊕ X)} {n : Nat} {s : S} {x : X} (h : F s = some (.inr x)) : itr (n + 1) F s = some x := by
  show ((F s).bind _) = _
  rw [h]
  rfl
theorem itr_tr {S X : Type} {F : S → Option (S ⊕ X)} (g : Nat → S) (x : X) : ∀ (k i N : Nat), k < N → (∀ j, i ≤ j → j < i + k → F (g j) = some (.inl (g (j + 1)))) → F (g (i + k)) = some (.inr x) → itr N F (g i) = some x := by
  intro k
  induction k with
  | zero =>
    intro i N hN _ hx
    obtain ⟨N, rfl⟩ : ∃ M, N = M + 1 := ⟨N - 1, by omega⟩
    exact itr_out hx
  | succ k ih =>
    intro i N hN h hx
    obtain ⟨N, rfl⟩ : ∃ M, N = M + 1 := ⟨N - 1, by omega⟩
    rw [itr_in (h i (by omega) (by omega))]
    exact ih (i + 1) N (by omega) (fun j h1 h2 => h j (by omega) (by omega)) (by rw [show i + 1 + k = i + (k + 1) by omega]; exact hx)
/-- a loop that goes k times on and then out -/
theorem itr_run {S X : Type} {F : S → Option (S ⊕ X)} (g : Nat → S) (k : Nat) {N : Nat} {x : X} {s : S} (hs : s = g 0) (hN : k < N) (h : ∀ j, j < k → F (g j) = some (.inl (g (j + 1)))) (hx : F (g k) = some (.inr x)) : itr N F s = some x := by
  rw [hs]
  exact itr_tr g x k 0 N hN (fun j _ h2 => h j (by omega)) (by rw [Nat.zero_add]; exact hx)
/-- k steps of a fold over 0, 1, .. -/
def fo {α : Type} (f : Nat → α → α) (a : α) : Nat → α
  | 0 => a
  | k + 1 => f k (fo f a k)
theorem fo_s {α : Type} (f : Nat → α → α) (a : α) (k : Nat) : fo f a (k + 1) = f k (fo f a k) := rfl
-- the class's small methods
theorem x_bitOf {a k : Nat} (ha : a < 2 ^ 31) (hk : k < 32) : f_X8_bitOf (nI a) (nI k) = some (zb a k) := by
  unfold f_X8_bitOf
  rw [z_has ha hk]
theorem x_has {a k : Nat} (ha : a < 2 ^ 31) (hk : k < 32) : f_X8_has (nI a) (nI k) = some (zb a k) := by
  unfold f_X8_has
  rw [bind_ok (x_bitOf ha hk)]
  rcases zb_01 a k with h | h
  · rw [h]; rfl
  · rw [h]; rfl
theorem x_holds (a b : Nat) (ha : a < 2 ^ 31) (hb : b < 2 ^ 31) : f_X8_holdsAll (nI a) (nI b) = some (if a &&& b = b then 1 else 0) := by
  unfold f_X8_holdsAll
  rw [z_and]
  have hab : a &&& b < 2 ^ 31 := Nat.and_lt_two_pow _ hb
  by_cases h : a &&& b = b
  · rw [h, if_pos rfl, if_pos rfl]; rfl
  · rw [if_neg (fun q => h ((nI_eq hab hb).mp q)), if_neg h]; rfl
theorem x_at {k n i : Nat} {σ : Sg} (h : i < n) (hn : n < 2 ^ 31) : f_X8_at k n (nI i) σ = some (σ.1 k i) := by
  unfold f_X8_at
  rw [if_neg (nI_pos (by omega)), if_neg (nI_ge h hn), bind_ok (ald_ok h hn)]
  rfl
theorem x_put {k n i : Nat} {v : Int32} {σ : Sg} (h : i < n) (hn : n < 2 ^ 31) : f_X8_put k n (nI i) v σ = some (up1 σ k i v) := by
  unfold f_X8_put
  rw [if_neg (nI_pos (by omega)), if_neg (nI_ge h hn), bind_ok (ast_ok h hn)]
  rfl
