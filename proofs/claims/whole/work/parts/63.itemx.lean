def begF (D : Fl) (n : Nat) : Fl := ((fN D, fM D, fBg D ||| 2 ^ n, fTh D, fSt D), fA D, fB D, fC D, fG D, fW D)
def manF (D : Fl) (n : Nat) : Fl := ((n, fM D, fBg D, fTh D, fSt D), fA D, fB D, fC D, fG D, fW D)
def weaF (D : Fl) (s : Nat) (v : Int32) : Fl := ((fN D, fM D, fBg D, fTh D, fSt D), fA D, fB D, fC D, fG D, fun i => if i = s then v else fW D i)
def gaiF (D : Fl) (a b : Nat) : Fl := ((fN D, fM D, fBg D, fTh D, fSt D), fA D, fB D, fC D, (fun i => if i = a then fG D a ||| 2 ^ b else if i = b then fG D b ||| 2 ^ a else fG D i), fW D)
section
variable {D : Fl} {b : Nat} {z : Sg}
theorem inn_n {n N : Nat} (hn : n < 2 ^ 31) (hN : N < 2 ^ 31) : inn (nI n) N = if n < N then 1 else 0 := by
  by_cases c : n < N
  · rw [if_pos c, inn_nI c hN]
  · rw [if_neg c]
    unfold inn
    rw [if_pos (Or.inr (nI_le (by omega) hn))]
theorem begF_ok (h : OKL D) {n : Nat} (hn : n < fN D) : OKL (begF D n) := ⟨h.1, h.2.1, h.2.2.1, Nat.or_lt_two_pow h.2.2.2.1 (Nat.pow_lt_pow_right (by decide) hn), h.2.2.2.2⟩
theorem manF_ok (h : OKL D) {n : Nat} (h1 : 1 ≤ n) (h2 : n ≤ 10) (hm : fM D = 0) (hb : fBg D = 0) : OKL (manF D n) := ⟨⟨h1, h2⟩, h.2.1, fun t ht => absurd (show t < fM D from ht) (by omega), by show fBg D < 2 ^ n; rw [hb]; exact Nat.two_pow_pos n, h.2.2.2.2⟩
theorem weaF_ok (h : OKL D) (s : Nat) (v : Int32) : OKL (weaF D s v) := h
theorem gaiF_ok (h : OKL D) {a c : Nat} (ha : a < fN D) (hc : c < fN D) : OKL (gaiF D a c) := by
  have hn := h.1
  refine ⟨h.1, h.2.1, h.2.2.1, h.2.2.2.1, fun s hs => ?_⟩
  show (if s = a then fG D a ||| 2 ^ c else if s = c then fG D c ||| 2 ^ a else fG D s) < 2 ^ 10
  have p : ∀ x, x < fN D → (2 : Nat) ^ x < 2 ^ 10 := fun x hx => Nat.pow_lt_pow_right (by decide) (by omega)
  split
  · exact Nat.or_lt_two_pow (h.2.2.2.2 a (by omega)) (p c hc)
  · split
    · exact Nat.or_lt_two_pow (h.2.2.2.2 c (by omega)) (p a ha)
    · exact h.2.2.2.2 s hs
theorem layF_okl (h : OKL D) {a c e : Nat} (hm : fM D < 10) (ha : a < fN D) (hb : c < fN D) (hc : e < fN D) (h1 : e ≠ a) (h2 : e ≠ c) : OKL (layF D a c e) := by
  refine ⟨h.1, hm, fun t ht => ?_, h.2.2.2⟩
  show (if t = fM D then a else fA D t) < fN D ∧ (if t = fM D then c else fB D t) < fN D ∧ (if t = fM D then e else fC D t) < fN D ∧ (if t = fM D then e else fC D t) ≠ (if t = fM D then a else fA D t) ∧ (if t = fM D then e else fC D t) ≠ (if t = fM D then c else fB D t)
  by_cases q : t = fM D
  · rw [if_pos q, if_pos q, if_pos q]; exact ⟨ha, hb, hc, h1, h2⟩
  · rw [if_neg q, if_neg q, if_neg q]
    have ht' : t < fM D + 1 := ht
    exact h.2.2.1 t (by omega)
theorem x_begOn (h : OKL D) (hX : FXl b D z) {n : Nat} (hn : n < 100) : f_X1_beginOn b (nI n) z = if n < fN D then some (1, up1 z b 8 (nI (fBg D ||| 2 ^ n))) else some (0, z) := by
  have hN := h.1
  unfold f_X1_beginOn
  rw [bind_ok (x_hasStone hX (nI n)), inn_n (by omega) (by omega)]
  by_cases c : n < fN D
  · rw [if_pos c, if_pos c, if_neg (by decide : ¬ (1 : Int32) = 0), hX.2.2.1, z_bit (by omega), z_or]
    rfl
  · rw [if_neg c, if_neg c, if_pos rfl]
    rfl
theorem FXl_beg (hX : FXl b D z) (n : Nat) : FXl b (begF D n) (up1 z b 8 (nI (fBg D ||| 2 ^ n))) := by
  have o : ∀ a j, ¬ (a = b ∧ j = 8) → (up1 z b 8 (nI (fBg D ||| 2 ^ n))).1 a j = z.1 a j := fun a j q => by rw [up1_eq, if_neg q]
  obtain ⟨g1, g2, g3, g4, g5⟩ := hX
  refine ⟨by rw [o _ _ (by omega)]; exact g1, by rw [o _ _ (by omega)]; exact g2, by rw [up1_eq, if_pos ⟨rfl, rfl⟩]; rfl, fun t ht => ?_, fun s hs => ?_⟩
  · rw [o _ _ (by omega), o _ _ (by omega), o _ _ (by omega), o _ _ (by omega)]; exact g4 t ht
  · rw [o _ _ (by omega), o _ _ (by omega)]; exact g5 s hs
theorem x_setStones {n : Nat} (hn : n < 100) : f_X1_setStones b (nI n) z = if 1 ≤ n ∧ n ≤ 10 then some (1, up1 (up1 z b 6 (nI n)) b 9 (nI (2 ^ n - 1))) else some (0, z) := by
  unfold f_X1_setStones f_X1_setStones_11
  by_cases c1 : 1 ≤ n
  · rw [if_neg (show ¬ nI n < (1 : Int32) from nI_nlt (a := n) (b := 1) c1 (by omega))]
    by_cases c2 : n ≤ 10
    · rw [if_pos (show nI n ≤ (10 : Int32) from nI_le (b := 10) c2 (by decide)), if_pos ⟨c1, c2⟩, bind_ok (pfi_eq _ _ _ _)]
      unfold f_X1_allStones
      rw [up1_eq, if_pos ⟨rfl, rfl⟩, z_bit (by omega), show nI (2 ^ n) - 1 = nI (2 ^ n - 1) from pk_sub (b := 1) Nat.one_le_two_pow]
      rfl
    · rw [if_neg (show ¬ nI n ≤ (10 : Int32) from nI_ge (a := 10) (b := n) (by omega) (by omega)), if_neg (fun q => c2 q.2)]
      rfl
  · rw [if_pos (show nI n < (1 : Int32) from nI_lt (b := 1) (by omega) (by decide)), if_neg (fun q => c1 q.1)]
    rfl
theorem FXl_man (hX : FXl b D z) (n : Nat) (x : Int32) : FXl b (manF D n) (up1 (up1 z b 6 (nI n)) b 9 x) := by
  have o : ∀ a j, ¬ (a = b ∧ (j = 6 ∨ j = 9)) → (up1 (up1 z b 6 (nI n)) b 9 x).1 a j = z.1 a j := fun a j q => by rw [up1_eq, if_neg (by omega), up1_eq, if_neg (by omega)]
  obtain ⟨g1, g2, g3, g4, g5⟩ := hX
  refine ⟨by rw [up1_eq, if_neg (by omega), up1_eq, if_pos ⟨rfl, rfl⟩]; rfl, by rw [o _ _ (by omega)]; exact g2, by rw [o _ _ (by omega)]; exact g3, fun t ht => ?_, fun s hs => ?_⟩
  · rw [o _ _ (by omega), o _ _ (by omega), o _ _ (by omega), o _ _ (by omega)]; exact g4 t ht
  · rw [o _ _ (by omega), o _ _ (by omega)]; exact g5 s hs
theorem x_setWear (h : OKL D) (hX : FXl b D z) {n : Nat} (hn : n < 100) (v : Int32) : f_X1_setWear b (nI n) v z = if n < fN D then some (1, up1 z (b + 6) n v) else some (0, z) := by
  have hN := h.1
  unfold f_X1_setWear
  rw [bind_ok (x_hasStone hX (nI n)), inn_n (by omega) (by omega)]
  by_cases c : n < fN D
  · rw [if_pos c, if_pos c, if_neg (by decide : ¬ (1 : Int32) = 0), bind_ok (x_put (by omega) (by decide))]
    rfl
  · rw [if_neg c, if_neg c, if_pos rfl]
    rfl
theorem FXl_wea (hX : FXl b D z) (n : Nat) (v : Int32) : FXl b (weaF D n v) (up1 z (b + 6) n v) := by
  have o : ∀ a j, ¬ (a = b + 6 ∧ j = n) → (up1 z (b + 6) n v).1 a j = z.1 a j := fun a j q => by rw [up1_eq, if_neg q]
  obtain ⟨g1, g2, g3, g4, g5⟩ := hX
  refine ⟨by rw [o _ _ (by omega)]; exact g1, by rw [o _ _ (by omega)]; exact g2, by rw [o _ _ (by omega)]; exact g3, fun t ht => ?_, fun s hs => ?_⟩
  · rw [o _ _ (by omega), o _ _ (by omega), o _ _ (by omega), o _ _ (by omega)]; exact g4 t ht
  · refine ⟨by rw [o _ _ (by omega)]; exact (g5 s hs).1, ?_⟩
    show (up1 z (b + 6) n v).1 (b + 6) s = if s = n then v else fW D s
    rw [up1_eq]
    by_cases c : s = n
    · rw [if_pos ⟨rfl, c⟩, if_pos c]
    · rw [if_neg (fun q => c q.2), if_neg c]; exact (g5 s hs).2
end
