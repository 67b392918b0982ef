
-- the worlds of the class and of the reference: what each cell is
def flF (b : Nat) : List (Nat ⊕ Nat) := [.inr (b + 1), .inr (b + 2), .inr (b + 3), .inr (b + 4), .inr (b + 5), .inr (b + 6), .inl 6, .inl 7, .inl 8, .inl 9, .inl 10]
def shX : Sh := fun k => match k with
  | 0 => (6 + 2, 12, [.inr 1, .inr 3, .inr 5, .inr 12, .inr 19, .inr 26, .inr 33, .inr 36, .inr 39, .inr 41, .inl 10, .inl 11])
  | 1 => (4 + 2, 2, [.inr 2, .inl 1])
  | 2 => (0, 300, [])
  | 3 => (3 + 2, 2, [.inr 4, .inl 1])
  | 4 => (0, 3, [])
  | 5 => (0 + 2, 11, flF 5)
  | 12 => (0 + 2, 11, flF 12)
  | 19 => (0 + 2, 11, flF 19)
  | 26 => (0 + 2, 11, flF 26)
  | 33 => (1 + 2, 3, [.inr 34, .inr 35, .inl 2])
  | 34 => (0, 8, [])
  | 35 => (0, 8, [])
  | 36 => (5 + 2, 2, [.inr 37, .inr 38])
  | 37 => (0, 1024, [])
  | 38 => (0, 1024, [])
  | 39 => (2 + 2, 2, [.inr 40, .inl 1])
  | 40 => (0, 1024, [])
  | 41 => (0, 12, [])
  | _ => (0, 10, [])
def shM : Sh := fun k => match k with
  | 0 => (7 + 2, 13, [.inr 1, .inl 1, .inl 2, .inr 2, .inl 4, .inr 3, .inl 6, .inl 7, .inr 4, .inl 9, .inr 5, .inr 6, .inr 7])
  | 1 => (0, 660, [])
  | 2 => (0, 300, [])
  | 3 => (0, 12, [])
  | 4 => (0, 3, [])
  | 5 => (1, 1024, [])
  | 6 => (0, 1024, [])
  | _ => (0, 10, [])
abbrev isFl (b : Nat) : Prop := b = 5 ∨ b = 12 ∨ b = 19 ∨ b = 26
theorem fl5 : isFl 5 := Or.inl rfl
theorem fl12 : isFl 12 := Or.inr (Or.inl rfl)
theorem fl19 : isFl 19 := Or.inr (Or.inr (Or.inl rfl))
theorem fl26 : isFl 26 := Or.inr (Or.inr (Or.inr rfl))
theorem fl_sh {b : Nat} (h : isFl b) : shX b = (0 + 2, 11, flF b) := by rcases h with rfl | rfl | rfl | rfl <;> rfl
theorem fl_l0 {b : Nat} (h : isFl b) : b < 42 := by rcases h with rfl | rfl | rfl | rfl <;> decide
theorem fl_l1 {b : Nat} (h : isFl b) : b + 1 < 42 := by rcases h with rfl | rfl | rfl | rfl <;> decide
theorem fl_a1 {b : Nat} (h : isFl b) : shX (b + 1) = (0, 10, []) := by rcases h with rfl | rfl | rfl | rfl <;> rfl
theorem fl_l2 {b : Nat} (h : isFl b) : b + 2 < 42 := by rcases h with rfl | rfl | rfl | rfl <;> decide
theorem fl_a2 {b : Nat} (h : isFl b) : shX (b + 2) = (0, 10, []) := by rcases h with rfl | rfl | rfl | rfl <;> rfl
theorem fl_l3 {b : Nat} (h : isFl b) : b + 3 < 42 := by rcases h with rfl | rfl | rfl | rfl <;> decide
theorem fl_a3 {b : Nat} (h : isFl b) : shX (b + 3) = (0, 10, []) := by rcases h with rfl | rfl | rfl | rfl <;> rfl
theorem fl_l4 {b : Nat} (h : isFl b) : b + 4 < 42 := by rcases h with rfl | rfl | rfl | rfl <;> decide
theorem fl_a4 {b : Nat} (h : isFl b) : shX (b + 4) = (0, 10, []) := by rcases h with rfl | rfl | rfl | rfl <;> rfl
theorem fl_l5 {b : Nat} (h : isFl b) : b + 5 < 42 := by rcases h with rfl | rfl | rfl | rfl <;> decide
theorem fl_a5 {b : Nat} (h : isFl b) : shX (b + 5) = (0, 10, []) := by rcases h with rfl | rfl | rfl | rfl <;> rfl
theorem fl_l6 {b : Nat} (h : isFl b) : b + 6 < 42 := by rcases h with rfl | rfl | rfl | rfl <;> decide
theorem fl_a6 {b : Nat} (h : isFl b) : shX (b + 6) = (0, 10, []) := by rcases h with rfl | rfl | rfl | rfl <;> rfl
def gfl (b : Nat) : Option Unit := if isFl b then some () else none
theorem gfl_is {b : Nat} {u : Unit} (h : gfl b = some u) : isFl b := by
  unfold gfl at h
  by_cases hb : isFl b
  · exact hb
  · rw [if_neg hb] at h; cases h
theorem nw0 : Cond.methodLinkNest RX8 11 yX6_init RX8 ∈ nestWs := List.mem_of_getElem? (i := 0) rfl
theorem nw1 : Cond.methodLinkNest RX8 18 yX4_init RX8 ∈ nestWs := List.mem_of_getElem? (i := 1) rfl
theorem nw2 : Cond.methodLinkNest RX8 25 yX1_init RX8 ∈ nestWs := List.mem_of_getElem? (i := 2) rfl
theorem nw3 : Cond.methodLinkNest RX8 41 yX2_init RX8 ∈ nestWs := List.mem_of_getElem? (i := 3) rfl
theorem nw4 : Cond.methodLinkNest RX8 48 yX7_init RX8 ∈ nestWs := List.mem_of_getElem? (i := 4) rfl
theorem nw5 : Cond.methodLinkNest RX8 55 yX3_init RX8 ∈ nestWs := List.mem_of_getElem? (i := 5) rfl
theorem nw6 : Cond.methodLinkNest RX6 19 yX8_put RX8 ∈ nestWs := List.mem_of_getElem? (i := 6) rfl
theorem nw7 : Cond.methodLinkNest RX1 30 yX8_clearRow RX8 ∈ nestWs := List.mem_of_getElem? (i := 7) rfl
theorem nw8 : Cond.methodLinkNest RX6 37 yX8_at RX8 ∈ nestWs := List.mem_of_getElem? (i := 8) rfl
theorem nw9 : Cond.methodLinkNest RX4 55 yX8_put RX8 ∈ nestWs := List.mem_of_getElem? (i := 9) rfl
theorem nw10 : Cond.methodLinkNest RX4 63 yX8_at RX8 ∈ nestWs := List.mem_of_getElem? (i := 10) rfl
theorem nw11 : Cond.methodLinkNest RX1 72 yX8_put RX8 ∈ nestWs := List.mem_of_getElem? (i := 11) rfl
theorem nw12 : Cond.methodLinkNest RX1 76 yX8_at RX8 ∈ nestWs := List.mem_of_getElem? (i := 12) rfl
theorem nw13 : Cond.methodLinkNest RX1 48 yX8_copy RX8 ∈ nestWs := List.mem_of_getElem? (i := 13) rfl
theorem nw14 : Cond.methodLinkNest RX1 92 yX8_holdsAll RX8 ∈ nestWs := List.mem_of_getElem? (i := 14) rfl
theorem nw15 : Cond.methodLinkNest RX2 33 yX8_at RX8 ∈ nestWs := List.mem_of_getElem? (i := 15) rfl
theorem nw16 : Cond.methodLinkNest RX2 29 yX8_put RX8 ∈ nestWs := List.mem_of_getElem? (i := 16) rfl
theorem nw17 : Cond.methodLinkNest RX1 80 yX8_has RX8 ∈ nestWs := List.mem_of_getElem? (i := 17) rfl
theorem nw18 : Cond.methodLinkNest RX7 27 yX8_holdsAll RX8 ∈ nestWs := List.mem_of_getElem? (i := 18) rfl
theorem nw19 : Cond.methodLinkNest RX7 35 yX8_has RX8 ∈ nestWs := List.mem_of_getElem? (i := 19) rfl
theorem nw20 : Cond.methodLinkNest RX7 45 yX8_at RX8 ∈ nestWs := List.mem_of_getElem? (i := 20) rfl
theorem nw21 : Cond.methodLinkNest RX7 49 yX8_put RX8 ∈ nestWs := List.mem_of_getElem? (i := 21) rfl
theorem nw22 : Cond.methodLinkNest RX0 24 yX8_has RX8 ∈ nestWs := List.mem_of_getElem? (i := 22) rfl
theorem nw23 : Cond.methodLinkNest RX0 48 yX8_holdsAll RX8 ∈ nestWs := List.mem_of_getElem? (i := 23) rfl
theorem nw24 : Cond.methodLinkNest RX5 29 yX8_has RX8 ∈ nestWs := List.mem_of_getElem? (i := 24) rfl
theorem nw25 : Cond.methodLinkNest RX3 28 yX8_put RX8 ∈ nestWs := List.mem_of_getElem? (i := 25) rfl
theorem nw26 : Cond.methodLinkNest RX3 32 yX8_at RX8 ∈ nestWs := List.mem_of_getElem? (i := 26) rfl
theorem nw27 : Cond.methodLinkNest RX3 53 yX8_has RX8 ∈ nestWs := List.mem_of_getElem? (i := 27) rfl
def f_X8_at_17 (k1 n1 : Nat) (t0_17 : Int32) (σ : Sg) : Option Int32 :=
  some (t0_17)
def f_X8_at_16 (k1 n1 : Nat) (σ : Sg) : Option Int32 :=
  f_X8_at_17 k1 n1 0 σ
def f_X8_at (k1 n1 : Nat) (v1 : Int32) (σ : Sg) : Option Int32 :=
  if v1 < 0 then (
  f_X8_at_16 k1 n1 σ)
  else (
  if (nI n1) ≤ v1 then (
  f_X8_at_16 k1 n1 σ)
  else (
  (ald σ k1 n1 v1).bind fun x1 =>
  f_X8_at_17 k1 n1 x1 σ))
def f_X1_gainsayersOf (b : Nat) (v1 : Int32) (σ : Sg) : Option Int32 :=
  (f_X8_at (b + 5) 10 v1 σ).bind fun q1 =>
  some (q1)
def f_X8_bitOf (v0 : Int32) (v1 : Int32) : Option Int32 :=
  some (((v0 >>> (v1 &&& 31)) &&& (1 : Int32)))
def f_X8_has_14 (t0_14 : Int32) : Option Int32 :=
  (zrt t0_14).bind fun x2 =>
  some (x2)
def f_X8_has (v0 : Int32) (v1 : Int32) : Option Int32 :=
  (f_X8_bitOf v0 v1).bind fun q1 =>
  if q1 = 1 then (
  f_X8_has_14 1)
  else (
  f_X8_has_14 0)
def f_X1_hasGainsayersIn_30 (b : Nat) (v1 : Int32) (v2_30 : Int32) (σ : Sg) : Option ((Int32) ⊕ Int32) :=
  nm (v2_30 + 1) fun x3 =>
  some (.inl (x3))
def f_X1_hasGainsayersIn_2s (b : Nat) (v1 : Int32) (v2_2 : Int32) (σ : Sg) : Option ((Int32) ⊕ Int32) :=
  if (σ.1 b 6) ≤ v2_2 then (
  (zrt 0).bind fun x1 =>
  some (.inr (x1)))
  else (
  (f_X8_has v1 v2_2).bind fun q2 =>
  if q2 = 0 then (
  f_X1_hasGainsayersIn_30 b v1 v2_2 σ)
  else (
  (f_X1_gainsayersOf b v2_2 σ).bind fun q4 =>
  if (q4 &&& v1) = 0 then (
  f_X1_hasGainsayersIn_30 b v1 v2_2 σ)
  else (
  (zrt 1).bind fun x5 =>
  some (.inr (x5)))))
def f_X1_hasGainsayersIn_2 (b : Nat) (v1 : Int32) (v2_2 : Int32) (σ : Sg) : Option Int32 :=
  itr 3000 (fun s => f_X1_hasGainsayersIn_2s b v1 s σ) (v2_2)
def f_X1_hasGainsayersIn (b : Nat) (v1 : Int32) (σ : Sg) : Option Int32 :=
  f_X1_hasGainsayersIn_2 b v1 0 σ
def f_X8_holdsAll_12 (t0_12 : Int32) : Option Int32 :=
  (zrt t0_12).bind fun x1 =>
  some (x1)
def f_X8_holdsAll (v0 : Int32) (v1 : Int32) : Option Int32 :=
  if (v0 &&& v1) = v1 then (
  f_X8_holdsAll_12 1)
  else (
  f_X8_holdsAll_12 0)
def f_X1_afterAmong_44 (b : Nat) (t0_44 : Int32) (σ : Sg) : Option Int32 :=
  some (t0_44)
def f_X1_afterAmong_43 (b : Nat) (v2 : Int32) (σ : Sg) : Option Int32 :=
  f_X1_afterAmong_44 b v2 σ
def f_X1_afterAmong (b : Nat) (v1 : Int32) (v2 : Int32) (v3 : Int32) (σ : Sg) : Option Int32 :=
  (f_X8_at (b + 3) 10 v1 σ).bind fun q1 =>
  nm (((1 : Int32) <<< (q1 &&& 31))) fun x2 =>
  (f_X8_at (b + 4) 10 v1 σ).bind fun q3 =>
  (f_X8_holdsAll v2 q3).bind fun q4 =>
  if q4 = 0 then (
  f_X1_afterAmong_43 b v2 σ)
  else (
  (f_X8_holdsAll v3 x2).bind fun q5 =>
  if q5 = 0 then (
  f_X1_afterAmong_43 b v2 σ)
  else (
  f_X1_afterAmong_44 b (v2 ||| x2) σ))
def f_X1_reachBy_51 (b : Nat) (v2 : Int32) (v3 : Int32) (v4_51 : Int32) (v5_22 : Int32) (v6_22 : Int32) (v7_51 : Int32) (σ : Sg) : Option ((Int32 × Int32) ⊕ ((Int32 × Int32) ⊕ Int32)) :=
  nm (v7_51 + 1) fun x4 =>
  some (.inl (v4_51, x4))
def f_X1_reachBy_22s (b : Nat) (v2 : Int32) (v3 : Int32) (v4_22 : Int32) (v5_22 : Int32) (v6_22 : Int32) (v7_22 : Int32) (σ : Sg) : Option ((Int32 × Int32) ⊕ ((Int32 × Int32) ⊕ Int32)) :=
  if (σ.1 b 7) ≤ v7_22 then (
  if v4_22 = v6_22 then (
  some (.inr (.inr (v4_22))))
  else (
  nm (v5_22 + 1) fun x2 =>
  some (.inr (.inl (v4_22, x2)))))
  else (
  (f_X8_has v2 v7_22).bind fun q3 =>
  if q3 = 0 then (
  f_X1_reachBy_51 b v2 v3 v4_22 v5_22 v6_22 v7_22 σ)
  else (
  (f_X1_afterAmong b v7_22 v4_22 v3 σ).bind fun q5 =>
  f_X1_reachBy_51 b v2 v3 q5 v5_22 v6_22 v7_22 σ))
def f_X1_reachBy_22 (b : Nat) (v2 : Int32) (v3 : Int32) (v4_22 : Int32) (v5_22 : Int32) (v6_22 : Int32) (v7_22 : Int32) (σ : Sg) : Option ((Int32 × Int32) ⊕ Int32) :=
  itr 3000 (fun s => f_X1_reachBy_22s b v2 v3 s.1 v5_22 v6_22 s.2 σ) (v4_22, v7_22)
def f_X1_reachBy_8s (b : Nat) (v2 : Int32) (v3 : Int32) (v4_8 : Int32) (v5_8 : Int32) (σ : Sg) : Option ((Int32 × Int32) ⊕ Int32) :=
  if (10 : Int32) ≤ v5_8 then (
  some (.inr (v4_8)))
  else (
  f_X1_reachBy_22 b v2 v3 v4_8 v5_8 v4_8 0 σ)
def f_X1_reachBy_8 (b : Nat) (v2 : Int32) (v3 : Int32) (v4_8 : Int32) (v5_8 : Int32) (σ : Sg) : Option Int32 :=
  itr 3000 (fun s => f_X1_reachBy_8s b v2 v3 s.1 s.2 σ) (v4_8, v5_8)
def f_X1_reachBy (b : Nat) (v1 : Int32) (v2 : Int32) (v3 : Int32) (σ : Sg) : Option Int32 :=
  nm ((v1 &&& v3)) fun x1 =>
  f_X1_reachBy_8 b v2 v3 x1 0 σ
def f_X1_there (b : Nat) (σ : Sg) : Option Int32 :=
  some ((σ.1 b 9))
def f_X0_isMet_43 (t0_43 : Int32) (σ : Sg) : Option Int32 :=
  (zrt t0_43).bind fun x6 =>
  some (x6)
def f_X0_isMet (v1 : Int32) (v2 : Int32) (σ : Sg) : Option Int32 :=
  (f_X1_there 12 σ).bind fun q1 =>
  (f_X1_reachBy 12 v2 1023 q1 σ).bind fun q2 =>
  if v1 = (-1) then (
  (f_X1_hasGainsayersIn 12 q2 σ).bind fun q7 =>
  (zrt q7).bind fun x8 =>
  some (x8))
  else (
  if v1 = (-2) then (
  (f_X1_hasGainsayersIn 12 q2 σ).bind fun q5 =>
  if q5 = 0 then (
  f_X0_isMet_43 1 σ)
  else (
  f_X0_isMet_43 0 σ))
  else (
  (f_X8_has q2 v1).bind fun q3 =>
  (zrt q3).bind fun x4 =>
  some (x4)))
def f_X1_beginnings (b : Nat) (σ : Sg) : Option Int32 :=
  some (((σ.1 b 8) &&& (σ.1 b 9)))
def f_X0_leadTo (v1 : Int32) (σ : Sg) : Option Int32 :=
  (f_X1_beginnings 12 σ).bind fun q1 =>
  (f_X0_isMet v1 q1 σ).bind fun q2 =>
  (zrt q2).bind fun x3 =>
  some (x3)
def f_X0_leadIntoHall (σ : Sg) : Option Int32 :=
  (f_X1_beginnings 12 σ).bind fun q1 =>
  (f_X0_isMet (-1) q1 σ).bind fun q2 =>
  (zrt q2).bind fun x3 =>
  some (x3)
def f_X1_stoneCount (b : Nat) (σ : Sg) : Option Int32 :=
  some ((σ.1 b 6))
def f_X0_neededFor_51 (v1 : Int32) (v2_51 : Int32) (v3_51 : Int32) (σ : Sg) : Option ((Int32 × Int32) ⊕ Int32) :=
  nm (v3_51 + 1) fun x6 =>
  some (.inl (v2_51, x6))
def f_X0_neededFor_4s (v1 : Int32) (v2_4 : Int32) (v3_4 : Int32) (σ : Sg) : Option ((Int32 × Int32) ⊕ Int32) :=
  (f_X1_stoneCount 12 σ).bind fun q1 =>
  if q1 ≤ v3_4 then (
  some (.inr (v2_4)))
  else (
  (f_X1_beginnings 12 σ).bind fun q2 =>
  nm ((q2 &&& (((1 : Int32) <<< (v3_4 &&& 31)) ^^^ ((-1) : Int32)))) fun x3 =>
  (f_X1_beginnings 12 σ).bind fun q4 =>
  (f_X8_has q4 v3_4).bind fun q5 =>
  if q5 = 0 then (
  f_X0_neededFor_51 v1 v2_4 v3_4 σ)
  else (
  (f_X0_isMet v1 x3 σ).bind fun q7 =>
  if q7 = 0 then (
  nm ((v2_4 ||| ((1 : Int32) <<< (v3_4 &&& 31)))) fun x8 =>
  f_X0_neededFor_51 v1 x8 v3_4 σ)
  else (
  f_X0_neededFor_51 v1 v2_4 v3_4 σ)))
def f_X0_neededFor_4 (v1 : Int32) (v2_4 : Int32) (v3_4 : Int32) (σ : Sg) : Option Int32 :=
  itr 3000 (fun s => f_X0_neededFor_4s v1 s.1 s.2 σ) (v2_4, v3_4)
def f_X0_neededFor (v1 : Int32) (σ : Sg) : Option Int32 :=
  f_X0_neededFor_4 v1 0 0 σ
def f_J6_bitCount_0f7a4 (v0 : Int32) : Option Int32 :=
  nm ((v0 - ((((v0).toUInt32 >>> ((1 : Int32).toUInt32 &&& Int32.toUInt32 31)).toInt32) &&& (1431655765 : Int32)))) fun x1 =>
  nm (((x1 &&& (858993459 : Int32)) + ((((x1).toUInt32 >>> ((2 : Int32).toUInt32 &&& Int32.toUInt32 31)).toInt32) &&& (858993459 : Int32)))) fun x2 =>
  nm (((x2 + (((x2).toUInt32 >>> ((4 : Int32).toUInt32 &&& Int32.toUInt32 31)).toInt32)) &&& (252645135 : Int32))) fun x3 =>
  nm ((x3 + (((x3).toUInt32 >>> ((8 : Int32).toUInt32 &&& Int32.toUInt32 31)).toInt32))) fun x4 =>
  nm ((x4 + (((x4).toUInt32 >>> ((16 : Int32).toUInt32 &&& Int32.toUInt32 31)).toInt32))) fun x5 =>
  some ((x5 &&& (63 : Int32)))
def f_X0_fewestTurned_75 (v1 : Int32) (v2 : Int32) (v3 : Int32) (v4_75 : Int32) (v5_75 : Int32) (v6_75 : Int32) (σ : Sg) : Option ((Int32 × Int32 × Int32) ⊕ Int32) :=
  nm (v6_75 + 1) fun x4 =>
  some (.inl (v4_75, v5_75, x4))
def f_X0_fewestTurned_26s (v1 : Int32) (v2 : Int32) (v3 : Int32) (v4_26 : Int32) (v5_26 : Int32) (v6_26 : Int32) (σ : Sg) : Option ((Int32 × Int32 × Int32) ⊕ Int32) :=
  if v3 ≤ v6_26 then (
  some (.inr (v4_26)))
  else (
  (f_J6_bitCount_0f7a4 v6_26).bind fun q3 =>
  if v5_26 ≤ q3 then (
  f_X0_fewestTurned_75 v1 v2 v3 v4_26 v5_26 v6_26 σ)
  else (
  (f_X8_holdsAll v3 v6_26).bind fun q5 =>
  if q5 = 0 then (
  f_X0_fewestTurned_75 v1 v2 v3 v4_26 v5_26 v6_26 σ)
  else (
  (f_X0_isMet v1 (v2 ^^^ v6_26) σ).bind fun q6 =>
  if q6 = 0 then (
  f_X0_fewestTurned_75 v1 v2 v3 v4_26 v5_26 v6_26 σ)
  else (
  f_X0_fewestTurned_75 v1 v2 v3 v6_26 q3 v6_26 σ))))
def f_X0_fewestTurned_26 (v1 : Int32) (v2 : Int32) (v3 : Int32) (v4_26 : Int32) (v5_26 : Int32) (v6_26 : Int32) (σ : Sg) : Option Int32 :=
  itr 3000 (fun s => f_X0_fewestTurned_26s v1 v2 v3 s.1 s.2.1 s.2.2 σ) (v4_26, v5_26, v6_26)
def f_X0_fewestTurned (v1 : Int32) (v2 : Int32) (v3 : Int32) (σ : Sg) : Option Int32 :=
  (f_X0_isMet v1 (v2 ^^^ v3) σ).bind fun q1 =>
  if q1 = 0 then (
  some ((-4)))
  else (
  (f_J6_bitCount_0f7a4 v3).bind fun q2 =>
  f_X0_fewestTurned_26 v1 v2 v3 v3 q2 0 σ)
def f_X0_fewestFor (v1 : Int32) (σ : Sg) : Option Int32 :=
  (f_X1_beginnings 12 σ).bind fun q1 =>
  (f_X0_fewestTurned v1 0 q1 σ).bind fun q2 =>
  some (q2)
def f_X1_reachOf (b : Nat) (v1 : Int32) (σ : Sg) : Option Int32 :=
  (f_X1_reachBy b v1 1023 (σ.1 b 9) σ).bind fun q1 =>
  some (q1)
def f_X0_lostBy (v1 : Int32) (σ : Sg) : Option Int32 :=
  (f_X1_there 12 σ).bind fun q1 =>
  nm ((q1 &&& (((1 : Int32) <<< (v1 &&& 31)) ^^^ ((-1) : Int32)))) fun x2 =>
  (f_X1_beginnings 12 σ).bind fun q3 =>
  (f_X1_reachBy 12 q3 1023 x2 σ).bind fun q4 =>
  (f_X1_beginnings 12 σ).bind fun q5 =>
  (f_X1_reachOf 12 q5 σ).bind fun q6 =>
  some (((q6 &&& (q4 ^^^ ((-1) : Int32))) &&& x2))
def f_X0_fewestMoreFor (v1 : Int32) (σ : Sg) : Option Int32 :=
  (f_X1_there 12 σ).bind fun q1 =>
  (f_X1_beginnings 12 σ).bind fun q2 =>
  nm (((q1 &&& (((1 : Int32) <<< (v1 &&& 31)) ^^^ ((-1) : Int32))) &&& (q2 ^^^ ((-1) : Int32)))) fun x3 =>
  (f_X1_beginnings 12 σ).bind fun q4 =>
  (f_X0_fewestTurned v1 q4 x3 σ).bind fun q5 =>
  some (q5)
def f_X0_fewestIntoHall (σ : Sg) : Option Int32 :=
  (f_X1_beginnings 12 σ).bind fun q1 =>
  (f_X0_fewestTurned (-1) 0 q1 σ).bind fun q2 =>
  some (q2)
def f_X0_fewestToRopeOff (σ : Sg) : Option Int32 :=
  (f_X1_beginnings 12 σ).bind fun q1 =>
  (f_X1_beginnings 12 σ).bind fun q2 =>
  (f_X0_fewestTurned (-2) q1 q2 σ).bind fun q3 =>
  some (q3)
def f_X1_allStones (b : Nat) (σ : Sg) : Option Int32 :=
  some ((((1 : Int32) <<< ((σ.1 b 6) &&& 31)) - (1 : Int32)))
def f_X1_setStones_11 (b : Nat) (s_11 : Sg) : Option (Int32 × Sg) :=
  (zrt 0).bind fun x1 =>
  some ((x1, s_11))
def f_X1_setStones (b : Nat) (v1 : Int32) (σ : Sg) : Option (Int32 × Sg) :=
  if v1 < 1 then (
  f_X1_setStones_11 b σ)
  else (
  if v1 ≤ 10 then (
  (pfi σ b 6 v1).bind fun s2 =>
  (f_X1_allStones b s2).bind fun q3 =>
  (pfi s2 b 9 q3).bind fun s4 =>
  (zrt 1).bind fun x5 =>
  some ((x5, s4)))
  else (
  f_X1_setStones_11 b σ))
def f_X8_clearRow_2s (k1 n1 : Nat) (v1_2 : Int32) (s_2 : Sg) : Option ((Int32 × Sg) ⊕ Sg) :=
  if (nI n1) ≤ v1_2 then (
  some (.inr (s_2)))
  else (
  (ast s_2 k1 n1 v1_2 0).bind fun s1 =>
  nm (v1_2 + 1) fun x2 =>
  some (.inl (x2, s1)))
def f_X8_clearRow_2 (k1 n1 : Nat) (v1_2 : Int32) (s_2 : Sg) : Option Sg :=
  itr 3000 (fun s => f_X8_clearRow_2s k1 n1 s.1 s.2) (v1_2, s_2)
def f_X8_clearRow (k1 n1 : Nat) (σ : Sg) : Option Sg :=
  f_X8_clearRow_2 k1 n1 0 σ
def f_X1_empty (b : Nat) (σ : Sg) : Option Sg :=
  (f_X8_clearRow (b + 5) 10 σ).bind fun q1 =>
  (f_X8_clearRow (b + 6) 10 q1).bind fun q2 =>
  (pfi q2 b 7 0).bind fun s3 =>
  (pfi s3 b 8 0).bind fun s4 =>
  (pfi s4 b 10 0).bind fun s5 =>
  (f_X1_setStones b 4 s5).bind fun q6 =>
  some (q6.2)
def f_X8_copy_26 (k1 n1 k2 n2 : Nat) (s_26 : Sg) : Option Sg :=
  some (s_26)
def f_X8_copy_2s (k1 n1 k2 n2 : Nat) (v2_2 : Int32) (s_2 : Sg) : Option ((Int32 × Sg) ⊕ Sg) :=
  if (nI n1) ≤ v2_2 then (
  (f_X8_copy_26 k1 n1 k2 n2 s_2).map (fun z => .inr (z)))
  else (
  if (nI n2) ≤ v2_2 then (
  (f_X8_copy_26 k1 n1 k2 n2 s_2).map (fun z => .inr (z)))
  else (
  (ald s_2 k1 n1 v2_2).bind fun x1 =>
  (ast s_2 k2 n2 v2_2 x1).bind fun s2 =>
  nm (v2_2 + 1) fun x3 =>
  some (.inl (x3, s2))))
def f_X8_copy_2 (k1 n1 k2 n2 : Nat) (v2_2 : Int32) (s_2 : Sg) : Option Sg :=
  itr 3000 (fun s => f_X8_copy_2s k1 n1 k2 n2 s.1 s.2) (v2_2, s_2)
def f_X8_copy (k1 n1 k2 n2 : Nat) (σ : Sg) : Option Sg :=
  f_X8_copy_2 k1 n1 k2 n2 0 σ
def f_X1_copyFrom (b b2 : Nat) (σ : Sg) : Option Sg :=
  (f_X8_copy (b2 + 1) 10 (b + 1) 10 σ).bind fun q1 =>
  (f_X8_copy (b2 + 2) 10 (b + 2) 10 q1).bind fun q2 =>
  (f_X8_copy (b2 + 3) 10 (b + 3) 10 q2).bind fun q3 =>
  (f_X8_copy (b2 + 4) 10 (b + 4) 10 q3).bind fun q4 =>
  (f_X8_copy (b2 + 5) 10 (b + 5) 10 q4).bind fun q5 =>
  (f_X8_copy (b2 + 6) 10 (b + 6) 10 q5).bind fun q6 =>
  (pfi q6 b 6 (q6.1 b2 6)).bind fun s7 =>
  (pfi s7 b 7 (s7.1 b2 7)).bind fun s8 =>
  (pfi s8 b 8 (s8.1 b2 8)).bind fun s9 =>
  (pfi s9 b 9 (s9.1 b2 9)).bind fun s10 =>
  (pfi s10 b 10 (s10.1 b2 10)).bind fun s11 =>
  some (s11)
def f_X1_hasStone_17 (b : Nat) (t0_17 : Int32) (σ : Sg) : Option Int32 :=
  (zrt t0_17).bind fun x1 =>
  some (x1)
def f_X1_hasStone_16 (b : Nat) (σ : Sg) : Option Int32 :=
  f_X1_hasStone_17 b 0 σ
def f_X1_hasStone (b : Nat) (v1 : Int32) (σ : Sg) : Option Int32 :=
  if v1 < 0 then (
  f_X1_hasStone_16 b σ)
  else (
  if (σ.1 b 6) ≤ v1 then (
  f_X1_hasStone_16 b σ)
  else (
  f_X1_hasStone_17 b 1 σ))
def f_X1_beginOn (b : Nat) (v1 : Int32) (σ : Sg) : Option (Int32 × Sg) :=
  (f_X1_hasStone b v1 σ).bind fun q1 =>
  if q1 = 0 then (
  (zrt 0).bind fun x4 =>
  some ((x4, σ)))
  else (
  (pfi σ b 8 ((σ.1 b 8) ||| ((1 : Int32) <<< (v1 &&& 31)))).bind fun s2 =>
  (zrt 1).bind fun x3 =>
  some ((x3, s2)))
def f_X1_standOnBeginnings (b : Nat) (σ : Sg) : Option Sg :=
  (f_X1_beginnings b σ).bind fun q1 =>
  (pfi σ b 10 q1).bind fun s2 =>
  some (s2)
def f_X1_couldBeStep_39 (b : Nat) (t0_39 : Int32) (σ : Sg) : Option Int32 :=
  (zrt t0_39).bind fun x2 =>
  some (x2)
def f_X1_couldBeStep_38 (b : Nat) (σ : Sg) : Option Int32 :=
  f_X1_couldBeStep_39 b 0 σ
def f_X1_couldBeStep (b : Nat) (v1 : Int32) (v2 : Int32) (v3 : Int32) (σ : Sg) : Option Int32 :=
  (f_X1_hasStone b v1 σ).bind fun q1 =>
  if q1 = 0 then (
  f_X1_couldBeStep_38 b σ)
  else (
  (f_X1_hasStone b v2 σ).bind fun q3 =>
  if q3 = 0 then (
  f_X1_couldBeStep_38 b σ)
  else (
  (f_X1_hasStone b v3 σ).bind fun q4 =>
  if q4 = 0 then (
  f_X1_couldBeStep_38 b σ)
  else (
  if v3 = v1 then (
  f_X1_couldBeStep_38 b σ)
  else (
  if v3 = v2 then (
  f_X1_couldBeStep_38 b σ)
  else (
  f_X1_couldBeStep_39 b 1 σ)))))
def f_X8_put_14 (k1 n1 : Nat) (s_14 : Sg) : Option Sg :=
  some (s_14)
def f_X8_put (k1 n1 : Nat) (v1 : Int32) (v2 : Int32) (σ : Sg) : Option Sg :=
  if v1 < 0 then (
  f_X8_put_14 k1 n1 σ)
  else (
  if (nI n1) ≤ v1 then (
  f_X8_put_14 k1 n1 σ)
  else (
  (ast σ k1 n1 v1 v2).bind fun s1 =>
  f_X8_put_14 k1 n1 s1))
def f_X1_addStep_19 (b : Nat) (s_19 : Sg) : Option (Int32 × Sg) :=
  (zrt 0).bind fun x2 =>
  some ((x2, s_19))
def f_X1_addStep (b : Nat) (v1 : Int32) (v2 : Int32) (v3 : Int32) (σ : Sg) : Option (Int32 × Sg) :=
  (f_X1_couldBeStep b v1 v2 v3 σ).bind fun q1 =>
  if q1 = 0 then (
  f_X1_addStep_19 b σ)
  else (
  if (σ.1 b 7) < 10 then (
  (f_X8_put (b + 1) 10 (σ.1 b 7) v1 σ).bind fun q3 =>
  (f_X8_put (b + 2) 10 (q3.1 b 7) v2 q3).bind fun q4 =>
  (f_X8_put (b + 3) 10 (q4.1 b 7) v3 q4).bind fun q5 =>
  (f_X8_put (b + 4) 10 (q5.1 b 7) (((1 : Int32) <<< (v1 &&& 31)) ||| ((1 : Int32) <<< (v2 &&& 31))) q5).bind fun q6 =>
  (pfi q6 b 7 ((q6.1 b 7) + (1 : Int32))).bind fun s7 =>
  (zrt 1).bind fun x8 =>
  some ((x8, s7)))
  else (
  f_X1_addStep_19 b σ))
def f_X1_setGainsay_21 (b : Nat) (s_21 : Sg) : Option (Int32 × Sg) :=
  (zrt 0).bind fun x2 =>
  some ((x2, s_21))
def f_X1_setGainsay (b : Nat) (v1 : Int32) (v2 : Int32) (σ : Sg) : Option (Int32 × Sg) :=
  (f_X1_hasStone b v1 σ).bind fun q1 =>
  if q1 = 0 then (
  f_X1_setGainsay_21 b σ)
  else (
  (f_X1_hasStone b v2 σ).bind fun q3 =>
  if q3 = 0 then (
  f_X1_setGainsay_21 b σ)
  else (
  if v1 = v2 then (
  f_X1_setGainsay_21 b σ)
  else (
  (f_X8_at (b + 5) 10 v1 σ).bind fun q4 =>
  (f_X8_put (b + 5) 10 v1 (q4 ||| ((1 : Int32) <<< (v2 &&& 31))) σ).bind fun q5 =>
  (f_X8_at (b + 5) 10 v2 q5).bind fun q6 =>
  (f_X8_put (b + 5) 10 v2 (q6 ||| ((1 : Int32) <<< (v1 &&& 31))) q5).bind fun q7 =>
  (zrt 1).bind fun x8 =>
  some ((x8, q7)))))
def f_X1_setWear (b : Nat) (v1 : Int32) (v2 : Int32) (σ : Sg) : Option (Int32 × Sg) :=
  (f_X1_hasStone b v1 σ).bind fun q1 =>
  if q1 = 0 then (
  (zrt 0).bind fun x4 =>
  some ((x4, σ)))
  else (
  (f_X8_put (b + 6) 10 v1 v2 σ).bind fun q2 =>
  (zrt 1).bind fun x3 =>
  some ((x3, q2)))
def f_X1_stepCount (b : Nat) (σ : Sg) : Option Int32 :=
  some ((σ.1 b 7))
def f_X1_begins (b : Nat) (σ : Sg) : Option Int32 :=
  some ((σ.1 b 8))
def f_X1_stood (b : Nat) (σ : Sg) : Option Int32 :=
  some ((σ.1 b 10))
def f_X1_isThere (b : Nat) (v1 : Int32) (σ : Sg) : Option Int32 :=
  (f_X8_has (σ.1 b 9) v1).bind fun q1 =>
  (zrt q1).bind fun x2 =>
  some (x2)
def f_X1_wearOf (b : Nat) (v1 : Int32) (σ : Sg) : Option Int32 :=
  (f_X8_at (b + 6) 10 v1 σ).bind fun q1 =>
  some (q1)
def f_X1_firstOf (b : Nat) (v1 : Int32) (σ : Sg) : Option Int32 :=
  (f_X8_at (b + 1) 10 v1 σ).bind fun q1 =>
  some (q1)
def f_X1_secondOf (b : Nat) (v1 : Int32) (σ : Sg) : Option Int32 :=
  (f_X8_at (b + 2) 10 v1 σ).bind fun q1 =>
  some (q1)
def f_X1_endOf (b : Nat) (v1 : Int32) (σ : Sg) : Option Int32 :=
  (f_X8_at (b + 3) 10 v1 σ).bind fun q1 =>
  some (q1)
def f_X1_originsOf (b : Nat) (v1 : Int32) (σ : Sg) : Option Int32 :=
  (f_X8_at (b + 4) 10 v1 σ).bind fun q1 =>
  some (q1)
def f_X1_after (b : Nat) (v1 : Int32) (v2 : Int32) (σ : Sg) : Option Int32 :=
  (f_X1_afterAmong b v1 v2 (σ.1 b 9) σ).bind fun q1 =>
  some (q1)
def f_X1_mayBeGone_21 (b : Nat) (t0_21 : Int32) (σ : Sg) : Option Int32 :=
  (zrt t0_21).bind fun x2 =>
  some (x2)
def f_X1_mayBeGone (b : Nat) (v1 : Int32) (σ : Sg) : Option Int32 :=
  (f_X1_after b v1 (σ.1 b 10) σ).bind fun q1 =>
  if q1 = (σ.1 b 10) then (
  f_X1_mayBeGone_21 b 0 σ)
  else (
  f_X1_mayBeGone_21 b 1 σ)
def f_X1_tread (b : Nat) (v1 : Int32) (σ : Sg) : Option Sg :=
  (f_X1_endOf b v1 σ).bind fun q1 =>
  (f_X1_after b v1 (σ.1 b 10) σ).bind fun q2 =>
  (pfi σ b 10 q2).bind fun s3 =>
  (f_X8_at (b + 6) 10 q1 s3).bind fun q4 =>
  (f_X8_put (b + 6) 10 q1 (q4 + (1 : Int32)) s3).bind fun q5 =>
  some (q5)
def f_X1_untread (b : Nat) (v1 : Int32) (σ : Sg) : Option Sg :=
  (pfi σ b 10 ((σ.1 b 10) &&& (((1 : Int32) <<< (v1 &&& 31)) ^^^ ((-1) : Int32)))).bind fun s1 =>
  (f_X8_at (b + 6) 10 v1 s1).bind fun q2 =>
  (f_X8_put (b + 6) 10 v1 (q2 - (1 : Int32)) s1).bind fun q3 =>
  some (q3)
def f_X1_removeSlab (b : Nat) (v1 : Int32) (σ : Sg) : Option Sg :=
  (pfi σ b 9 ((σ.1 b 9) &&& (((1 : Int32) <<< (v1 &&& 31)) ^^^ ((-1) : Int32)))).bind fun s1 =>
  (pfi s1 b 10 ((s1.1 b 10) &&& (((1 : Int32) <<< (v1 &&& 31)) ^^^ ((-1) : Int32)))).bind fun s2 =>
  some (s2)
def f_X1_putSlabBack_28 (b : Nat) (s_28 : Sg) : Option Sg :=
  some (s_28)
def f_X1_putSlabBack (b : Nat) (v1 : Int32) (v2 : Int32) (σ : Sg) : Option Sg :=
  (pfi σ b 9 ((σ.1 b 9) ||| ((1 : Int32) <<< (v1 &&& 31)))).bind fun s1 =>
  if v2 = 0 then (
  f_X1_putSlabBack_28 b s1)
  else (
  (pfi s1 b 10 ((s1.1 b 10) ||| ((1 : Int32) <<< (v1 &&& 31)))).bind fun s2 =>
  f_X1_putSlabBack_28 b s2)
def f_X1_removeLatestStep_17 (b : Nat) (s_17 : Sg) : Option Sg :=
  some (s_17)
def f_X1_removeLatestStep (b : Nat) (σ : Sg) : Option Sg :=
  if (σ.1 b 7) ≤ 0 then (
  f_X1_removeLatestStep_17 b σ)
  else (
  (pfi σ b 7 ((σ.1 b 7) - (1 : Int32))).bind fun s1 =>
  f_X1_removeLatestStep_17 b s1)
def f_X1_directlyBehind_32 (b : Nat) (v1 : Int32) (v2_32 : Int32) (v3_32 : Int32) (σ : Sg) : Option ((Int32 × Int32) ⊕ Int32) :=
  nm (v3_32 + 1) fun x2 =>
  some (.inl (v2_32, x2))
def f_X1_directlyBehind_4s (b : Nat) (v1 : Int32) (v2_4 : Int32) (v3_4 : Int32) (σ : Sg) : Option ((Int32 × Int32) ⊕ Int32) :=
  if (σ.1 b 7) ≤ v3_4 then (
  some (.inr (v2_4)))
  else (
  (f_X1_originsOf b v3_4 σ).bind fun q1 =>
  if (q1 &&& v1) = 0 then (
  f_X1_directlyBehind_32 b v1 v2_4 v3_4 σ)
  else (
  (f_X1_endOf b v3_4 σ).bind fun q3 =>
  nm ((v2_4 ||| ((1 : Int32) <<< (q3 &&& 31)))) fun x4 =>
  f_X1_directlyBehind_32 b v1 x4 v3_4 σ))
def f_X1_directlyBehind_4 (b : Nat) (v1 : Int32) (v2_4 : Int32) (v3_4 : Int32) (σ : Sg) : Option Int32 :=
  itr 3000 (fun s => f_X1_directlyBehind_4s b v1 s.1 s.2 σ) (v2_4, v3_4)
def f_X1_directlyBehind (b : Nat) (v1 : Int32) (σ : Sg) : Option Int32 :=
  f_X1_directlyBehind_4 b v1 0 0 σ
def f_X2_size (σ : Sg) : Option Int32 :=
  some ((σ.1 33 2))
def f_X2_clear (σ : Sg) : Option Sg :=
  (pfi σ 33 2 0).bind fun s1 =>
  some (s1)
def f_X2_forgetOldest_2s (v1_2 : Int32) (s_2 : Sg) : Option ((Int32 × Sg) ⊕ Sg) :=
  if (s_2.1 33 2) ≤ v1_2 then (
  (pfi s_2 33 2 ((s_2.1 33 2) - (1 : Int32))).bind fun s1 =>
  some (.inr (s1)))
  else (
  (f_X8_at 34 8 v1_2 s_2).bind fun q2 =>
  (f_X8_put 34 8 (v1_2 - (1 : Int32)) q2 s_2).bind fun q3 =>
  (f_X8_at 35 8 v1_2 q3).bind fun q4 =>
  (f_X8_put 35 8 (v1_2 - (1 : Int32)) q4 q3).bind fun q5 =>
  nm (v1_2 + 1) fun x6 =>
  some (.inl (x6, q5)))
def f_X2_forgetOldest_2 (v1_2 : Int32) (s_2 : Sg) : Option Sg :=
  itr 3000 (fun s => f_X2_forgetOldest_2s s.1 s.2) (v1_2, s_2)
def f_X2_forgetOldest (σ : Sg) : Option Sg :=
  f_X2_forgetOldest_2 1 σ
def f_X2_note_13 (v1 : Int32) (v2 : Int32) (s_13 : Sg) : Option Sg :=
  (f_X8_put 34 8 (s_13.1 33 2) v1 s_13).bind fun q1 =>
  (f_X8_put 35 8 (q1.1 33 2) v2 q1).bind fun q2 =>
  (pfi q2 33 2 ((q2.1 33 2) + (1 : Int32))).bind fun s3 =>
  some (s3)
def f_X2_note (v1 : Int32) (v2 : Int32) (σ : Sg) : Option Sg :=
  if (σ.1 33 2) < 8 then (
  f_X2_note_13 v1 v2 σ)
  else (
  (f_X2_forgetOldest σ).bind fun q4 =>
  f_X2_note_13 v1 v2 q4)
def f_X2_noteGone (v1 : Int32) (σ : Sg) : Option Sg :=
  (f_X2_note 0 v1 σ).bind fun q1 =>
  some (q1)
def f_X2_noteOut_10 (v1 : Int32) (t1_10 : Int32) (s_10 : Sg) : Option Sg :=
  (f_X2_note t1_10 v1 s_10).bind fun q1 =>
  some (q1)
def f_X2_noteOut (v1 : Int32) (v2 : Int32) (σ : Sg) : Option Sg :=
  if v2 = 0 then (
  f_X2_noteOut_10 v1 1 σ)
  else (
  f_X2_noteOut_10 v1 2 σ)
def f_X2_noteLaid (σ : Sg) : Option Sg :=
  (f_X2_note 3 0 σ).bind fun q1 =>
  some (q1)
def f_X2_takeBackLatest_81 (s_81 : Sg) : Option Sg :=
  some (s_81)
def f_X2_takeBackLatest_78 (t1_78 : Int32) (t2_78 : Int32) (s_78 : Sg) : Option Sg :=
  (f_X1_putSlabBack 12 t1_78 t2_78 s_78).bind fun q4 =>
  f_X2_takeBackLatest_81 q4
def f_X2_takeBackLatest (σ : Sg) : Option Sg :=
  if (σ.1 33 2) = 0 then (
  some (σ))
  else (
  (pfi σ 33 2 ((σ.1 33 2) - (1 : Int32))).bind fun s1 =>
  (f_X8_at 34 8 (s1.1 33 2) s1).bind fun q2 =>
  (f_X8_at 35 8 (s1.1 33 2) s1).bind fun q3 =>
  if q2 = 0 then (
  (f_X1_untread 12 q3 s1).bind fun q6 =>
  f_X2_takeBackLatest_81 q6)
  else (
  if q2 = 3 then (
  (f_X1_removeLatestStep 12 s1).bind fun q5 =>
  f_X2_takeBackLatest_81 q5)
  else (
  if q2 = 2 then (
  f_X2_takeBackLatest_78 q3 1 s1)
  else (
  f_X2_takeBackLatest_78 q3 0 s1))))
def f_J6_numberOfTrailingZeros_0f7a4_74 (v0_74 : Int32) (v1_74 : Int32) : Option Int32 :=
  some ((v1_74 + (((v0_74).toUInt32 >>> ((1 : Int32).toUInt32 &&& Int32.toUInt32 31)).toInt32)))
def f_J6_numberOfTrailingZeros_0f7a4_62 (v0_62 : Int32) (v1_62 : Int32) : Option Int32 :=
  if v0_62 ≤ 4 then (
  f_J6_numberOfTrailingZeros_0f7a4_74 v0_62 v1_62)
  else (
  nm (v1_62 + 2) fun x2 =>
  nm ((((v0_62).toUInt32 >>> ((2 : Int32).toUInt32 &&& Int32.toUInt32 31)).toInt32)) fun x3 =>
  f_J6_numberOfTrailingZeros_0f7a4_74 x3 x2)
def f_J6_numberOfTrailingZeros_0f7a4_49 (v0_49 : Int32) (v1_49 : Int32) : Option Int32 :=
  if v0_49 ≤ 16 then (
  f_J6_numberOfTrailingZeros_0f7a4_62 v0_49 v1_49)
  else (
  nm (v1_49 + 4) fun x4 =>
  nm ((((v0_49).toUInt32 >>> ((4 : Int32).toUInt32 &&& Int32.toUInt32 31)).toInt32)) fun x5 =>
  f_J6_numberOfTrailingZeros_0f7a4_62 x5 x4)
def f_J6_numberOfTrailingZeros_0f7a4_34 (v0_34 : Int32) (v1_34 : Int32) : Option Int32 :=
  if v0_34 ≤ 256 then (
  f_J6_numberOfTrailingZeros_0f7a4_49 v0_34 v1_34)
  else (
  nm (v1_34 + 8) fun x6 =>
  nm ((((v0_34).toUInt32 >>> ((8 : Int32).toUInt32 &&& Int32.toUInt32 31)).toInt32)) fun x7 =>
  f_J6_numberOfTrailingZeros_0f7a4_49 x7 x6)
def f_J6_numberOfTrailingZeros_0f7a4 (v0 : Int32) : Option Int32 :=
  nm (((v0 ^^^ ((-1) : Int32)) &&& (v0 - (1 : Int32)))) fun x1 =>
  if (0 : Int32) < x1 then (
  if x1 ≤ 65536 then (
  f_J6_numberOfTrailingZeros_0f7a4_34 x1 1)
  else (
  nm (1 + 16) fun x8 =>
  nm ((((x1).toUInt32 >>> ((16 : Int32).toUInt32 &&& Int32.toUInt32 31)).toInt32)) fun x9 =>
  f_J6_numberOfTrailingZeros_0f7a4_34 x9 x8))
  else (
  some ((x1 &&& (32 : Int32))))
def f_X3_reckon_76 (v2_76 : Int32) (t0_76 : Int32) (s_76 : Sg) : Option ((Int32 × Sg) ⊕ Sg) :=
  (f_X8_put 40 1024 v2_76 t0_76 s_76).bind fun q10 =>
  nm (v2_76 + 1) fun x11 =>
  some (.inl (x11, q10))
def f_X3_reckon_24s (v2_24 : Int32) (s_24 : Sg) : Option ((Int32 × Sg) ⊕ Sg) :=
  if (s_24.1 39 1) ≤ v2_24 then (
  some (.inr (s_24)))
  else (
  (f_X8_at 40 1024 (v2_24 &&& (v2_24 - (1 : Int32))) s_24).bind fun q5 =>
  (f_J6_numberOfTrailingZeros_0f7a4 v2_24).bind fun q6 =>
  (f_X1_after 12 q6 q5 s_24).bind fun q7 =>
  if q7 = q5 then (
  f_X3_reckon_76 v2_24 q5 s_24)
  else (
  (f_X1_there 12 s_24).bind fun q8 =>
  (f_X1_reachBy 12 q5 v2_24 q8 s_24).bind fun q9 =>
  f_X3_reckon_76 v2_24 q9 s_24))
def f_X3_reckon_24 (v2_24 : Int32) (s_24 : Sg) : Option Sg :=
  itr 3000 (fun s => f_X3_reckon_24s s.1 s.2) (v2_24, s_24)
def f_X3_reckon (σ : Sg) : Option Sg :=
  (f_X1_stepCount 12 σ).bind fun q1 =>
  (pfi σ 39 1 ((1 : Int32) <<< (q1 &&& 31))).bind fun s2 =>
  (f_X1_beginnings 12 s2).bind fun q3 =>
  (f_X8_put 40 1024 0 q3 s2).bind fun q4 =>
  f_X3_reckon_24 1 q4
def f_X3_isProof_56 (v1 : Int32) (v2 : Int32) (v3_56 : Int32) (σ : Sg) : Option ((Int32) ⊕ Int32) :=
  nm (v3_56 + 1) fun x5 =>
  some (.inl (x5))
def f_X3_isProof_19s (v1 : Int32) (v2 : Int32) (v3_19 : Int32) (σ : Sg) : Option ((Int32) ⊕ Int32) :=
  if (10 : Int32) ≤ v3_19 then (
  (zrt 1).bind fun x3 =>
  some (.inr (x3)))
  else (
  (f_X8_has v1 v3_19).bind fun q4 =>
  if q4 = 0 then (
  f_X3_isProof_56 v1 v2 v3_19 σ)
  else (
  (f_X8_at 40 1024 (v1 &&& (((1 : Int32) <<< (v3_19 &&& 31)) ^^^ ((-1) : Int32))) σ).bind fun q6 =>
  (f_X8_has q6 v2).bind fun q7 =>
  if q7 = 0 then (
  f_X3_isProof_56 v1 v2 v3_19 σ)
  else (
  (zrt 0).bind fun x8 =>
  some (.inr (x8)))))
def f_X3_isProof_19 (v1 : Int32) (v2 : Int32) (v3_19 : Int32) (σ : Sg) : Option Int32 :=
  itr 3000 (fun s => f_X3_isProof_19s v1 v2 s σ) (v3_19)
def f_X3_isProof (v1 : Int32) (v2 : Int32) (σ : Sg) : Option Int32 :=
  (f_X8_at 40 1024 v1 σ).bind fun q1 =>
  (f_X8_has q1 v2).bind fun q2 =>
  if q2 = 0 then (
  (zrt 0).bind fun x9 =>
  some (x9))
  else (
  f_X3_isProof_19 v1 v2 0 σ)
def f_X3_howMany_24 (v1 : Int32) (v2_24 : Int32) (v3_24 : Int32) (σ : Sg) : Option ((Int32 × Int32) ⊕ Int32) :=
  nm (v3_24 + 1) fun x2 =>
  some (.inl (v2_24, x2))
def f_X3_howMany_4s (v1 : Int32) (v2_4 : Int32) (v3_4 : Int32) (σ : Sg) : Option ((Int32 × Int32) ⊕ Int32) :=
  if (σ.1 39 1) ≤ v3_4 then (
  some (.inr (v2_4)))
  else (
  (f_X3_isProof v3_4 v1 σ).bind fun q1 =>
  if q1 = 0 then (
  f_X3_howMany_24 v1 v2_4 v3_4 σ)
  else (
  nm (v2_4 + 1) fun x3 =>
  f_X3_howMany_24 v1 x3 v3_4 σ))
def f_X3_howMany_4 (v1 : Int32) (v2_4 : Int32) (v3_4 : Int32) (σ : Sg) : Option Int32 :=
  itr 3000 (fun s => f_X3_howMany_4s v1 s.1 s.2 σ) (v2_4, v3_4)
def f_X3_howMany (v1 : Int32) (σ : Sg) : Option Int32 :=
  f_X3_howMany_4 v1 0 0 σ
def f_X3_shortest_46 (v1 : Int32) (v2_46 : Int32) (v3_46 : Int32) (v4_46 : Int32) (σ : Sg) : Option ((Int32 × Int32 × Int32) ⊕ Int32) :=
  nm (v4_46 + 1) fun x2 =>
  some (.inl (v2_46, v3_46, x2))
def f_X3_shortest_9s (v1 : Int32) (v2_9 : Int32) (v3_9 : Int32) (v4_9 : Int32) (σ : Sg) : Option ((Int32 × Int32 × Int32) ⊕ Int32) :=
  if (σ.1 39 1) ≤ v4_9 then (
  some (.inr (v2_9)))
  else (
  (f_J6_bitCount_0f7a4 v4_9).bind fun q1 =>
  if v3_9 ≤ q1 then (
  f_X3_shortest_46 v1 v2_9 v3_9 v4_9 σ)
  else (
  (f_X3_isProof v4_9 v1 σ).bind fun q3 =>
  if q3 = 0 then (
  f_X3_shortest_46 v1 v2_9 v3_9 v4_9 σ)
  else (
  (f_J6_bitCount_0f7a4 v4_9).bind fun q4 =>
  f_X3_shortest_46 v1 v4_9 q4 v4_9 σ)))
def f_X3_shortest_9 (v1 : Int32) (v2_9 : Int32) (v3_9 : Int32) (v4_9 : Int32) (σ : Sg) : Option Int32 :=
  itr 3000 (fun s => f_X3_shortest_9s v1 s.1 s.2.1 s.2.2 σ) (v2_9, v3_9, v4_9)
def f_X3_shortest (v1 : Int32) (σ : Sg) : Option Int32 :=
  f_X3_shortest_9 v1 (-4) 11 0 σ
def f_X3_inAll_50 (t0_50 : Int32) (σ : Sg) : Option Int32 :=
  some (t0_50)
def f_X3_inAll_35 (v1 : Int32) (v2_35 : Int32) (v3_35 : Int32) (v4_35 : Int32) (σ : Sg) : Option ((Int32 × Int32 × Int32) ⊕ Int32) :=
  nm (v4_35 + 1) fun x2 =>
  some (.inl (v2_35, v3_35, x2))
def f_X3_inAll_9s (v1 : Int32) (v2_9 : Int32) (v3_9 : Int32) (v4_9 : Int32) (σ : Sg) : Option ((Int32 × Int32 × Int32) ⊕ Int32) :=
  if (σ.1 39 1) ≤ v4_9 then (
  if v3_9 = 0 then (
  (f_X3_inAll_50 0 σ).map (fun z => .inr (z)))
  else (
  (f_X3_inAll_50 v2_9 σ).map (fun z => .inr (z))))
  else (
  (f_X3_isProof v4_9 v1 σ).bind fun q1 =>
  if q1 = 0 then (
  f_X3_inAll_35 v1 v2_9 v3_9 v4_9 σ)
  else (
  nm ((v2_9 &&& v4_9)) fun x3 =>
  f_X3_inAll_35 v1 x3 1 v4_9 σ))
def f_X3_inAll_9 (v1 : Int32) (v2_9 : Int32) (v3_9 : Int32) (v4_9 : Int32) (σ : Sg) : Option Int32 :=
  itr 3000 (fun s => f_X3_inAll_9s v1 s.1 s.2.1 s.2.2 σ) (v2_9, v3_9, v4_9)
def f_X3_inAll (v1 : Int32) (σ : Sg) : Option Int32 :=
  f_X3_inAll_9 v1 1023 0 0 σ
def f_X3_endsOf_30 (v1 : Int32) (v2_30 : Int32) (v3_30 : Int32) (σ : Sg) : Option ((Int32 × Int32) ⊕ Int32) :=
  nm (v3_30 + 1) fun x3 =>
  some (.inl (v2_30, x3))
def f_X3_endsOf_4s (v1 : Int32) (v2_4 : Int32) (v3_4 : Int32) (σ : Sg) : Option ((Int32 × Int32) ⊕ Int32) :=
  (f_X1_stepCount 12 σ).bind fun q1 =>
  if q1 ≤ v3_4 then (
  some (.inr (v2_4)))
  else (
  (f_X8_has v1 v3_4).bind fun q2 =>
  if q2 = 0 then (
  f_X3_endsOf_30 v1 v2_4 v3_4 σ)
  else (
  (f_X1_endOf 12 v3_4 σ).bind fun q4 =>
  nm ((v2_4 ||| ((1 : Int32) <<< (q4 &&& 31)))) fun x5 =>
  f_X3_endsOf_30 v1 x5 v3_4 σ))
def f_X3_endsOf_4 (v1 : Int32) (v2_4 : Int32) (v3_4 : Int32) (σ : Sg) : Option Int32 :=
  itr 3000 (fun s => f_X3_endsOf_4s v1 s.1 s.2 σ) (v2_4, v3_4)
def f_X3_endsOf (v1 : Int32) (σ : Sg) : Option Int32 :=
  f_X3_endsOf_4 v1 0 0 σ
def f_X3_howManyWear_38 (v2 : Int32) (v3 : Int32) (v4_38 : Int32) (v5_38 : Int32) (σ : Sg) : Option ((Int32 × Int32) ⊕ Int32) :=
  nm (v5_38 + 1) fun x2 =>
  some (.inl (v4_38, x2))
def f_X3_howManyWear_6s (v2 : Int32) (v3 : Int32) (v4_6 : Int32) (v5_6 : Int32) (σ : Sg) : Option ((Int32 × Int32) ⊕ Int32) :=
  if (σ.1 39 1) ≤ v5_6 then (
  some (.inr (v4_6)))
  else (
  (f_X3_endsOf v5_6 σ).bind fun q1 =>
  if q1 = v3 then (
  (f_X3_isProof v5_6 v2 σ).bind fun q3 =>
  if q3 = 0 then (
  f_X3_howManyWear_38 v2 v3 v4_6 v5_6 σ)
  else (
  nm (v4_6 + 1) fun x4 =>
  f_X3_howManyWear_38 v2 v3 x4 v5_6 σ))
  else (
  f_X3_howManyWear_38 v2 v3 v4_6 v5_6 σ))
def f_X3_howManyWear_6 (v2 : Int32) (v3 : Int32) (v4_6 : Int32) (v5_6 : Int32) (σ : Sg) : Option Int32 :=
  itr 3000 (fun s => f_X3_howManyWear_6s v2 v3 s.1 s.2 σ) (v4_6, v5_6)
def f_X3_howManyWear (v2 : Int32) (v3 : Int32) (σ : Sg) : Option Int32 :=
  f_X3_howManyWear_6 v2 v3 0 0 σ
def f_X4_isFigure_17 (t0_17 : Int32) : Option Int32 :=
  (zrt t0_17).bind fun x1 =>
  some (x1)
def f_X4_isFigure_16 : Option Int32 :=
  f_X4_isFigure_17 0
def f_X4_isFigure (v0 : Int32) : Option Int32 :=
  if v0 < 48 then (
  f_X4_isFigure_16 )
  else (
  if (57 : Int32) < v0 then (
  f_X4_isFigure_16 )
  else (
  f_X4_isFigure_17 1))
def f_X6_byteAt_24 (t0_24 : Int32) (σ : Sg) : Option Int32 :=
  some (t0_24)
def f_X6_byteAt_23 (σ : Sg) : Option Int32 :=
  f_X6_byteAt_24 (-1) σ
def f_X6_byteAt (v1 : Int32) (σ : Sg) : Option Int32 :=
  if v1 < 0 then (
  f_X6_byteAt_23 σ)
  else (
  if (σ.1 1 1) ≤ v1 then (
  f_X6_byteAt_23 σ)
  else (
  (f_X8_at 2 300 v1 σ).bind fun q1 =>
  f_X6_byteAt_24 q1 σ))
def f_X4_figuresAt_31 (t0_31 : Int32) (σ : Sg) : Option Int32 :=
  some (t0_31)
def f_X4_figuresAt (v1 : Int32) (σ : Sg) : Option Int32 :=
  (f_X6_byteAt v1 σ).bind fun q1 =>
  (f_X4_isFigure q1).bind fun q2 =>
  if q2 = 0 then (
  some (0))
  else (
  (f_X6_byteAt (v1 + (1 : Int32)) σ).bind fun q3 =>
  (f_X4_isFigure q3).bind fun q4 =>
  if q4 = 0 then (
  f_X4_figuresAt_31 1 σ)
  else (
  f_X4_figuresAt_31 2 σ))
def f_X4_numberAt_5s (v1 : Int32) (v2 : Int32) (v3_5 : Int32) (v4_5 : Int32) (σ : Sg) : Option ((Int32 × Int32) ⊕ Int32) :=
  if v2 ≤ v4_5 then (
  some (.inr (v3_5)))
  else (
  (f_X6_byteAt (v1 + v4_5) σ).bind fun q1 =>
  nm (((((10 : Int32) * v3_5) + q1) - (48 : Int32))) fun x2 =>
  nm (v4_5 + 1) fun x3 =>
  some (.inl (x2, x3)))
def f_X4_numberAt_5 (v1 : Int32) (v2 : Int32) (v3_5 : Int32) (v4_5 : Int32) (σ : Sg) : Option Int32 :=
  itr 3000 (fun s => f_X4_numberAt_5s v1 v2 s.1 s.2 σ) (v3_5, v4_5)
def f_X4_numberAt (v1 : Int32) (v2 : Int32) (σ : Sg) : Option Int32 :=
  f_X4_numberAt_5 v1 v2 0 0 σ
def f_X4_numbersOf_52 : Option Int32 :=
  some (1)
def f_X4_numbersOf_54 : Option Int32 :=
  some (2)
def f_X4_numbersOf (v0 : Int32) : Option Int32 :=
  if v0 = 97 then (
  f_X4_numbersOf_52 )
  else (
  if v0 = 110 then (
  f_X4_numbersOf_52 )
  else (
  if v0 = 116 then (
  some (3))
  else (
  if v0 = 119 then (
  f_X4_numbersOf_54 )
  else (
  if v0 = 120 then (
  f_X4_numbersOf_54 )
  else (
  some (0))))))
def f_X4_itemsEnd_76 (v3_23 : Int32) (v4_76 : Int32) (v5_76 : Int32) (v6_76 : Int32) (t0_76 : Int32) (s_76 : Sg) : Option ((Int32 × Int32 × Sg) ⊕ (Int32 × Sg)) :=
  (f_X6_byteAt (v4_76 + v6_76) s_76).bind fun q7 =>
  if q7 = t0_76 then (
  nm ((v4_76 + (v6_76 + (1 : Int32)))) fun x8 =>
  nm (v5_76 + 1) fun x9 =>
  some (.inl (x8, x9, s_76)))
  else (
  some (.inr (((-1), s_76))))
def f_X4_itemsEnd_23s (v3_23 : Int32) (v4_23 : Int32) (v5_23 : Int32) (s_23 : Sg) : Option ((Int32 × Int32 × Sg) ⊕ (Int32 × Sg)) :=
  if v3_23 ≤ v5_23 then (
  some (.inr ((v4_23, s_23))))
  else (
  (f_X4_figuresAt v4_23 s_23).bind fun q4 =>
  if q4 = 0 then (
  some (.inr (((-1), s_23))))
  else (
  (f_X4_numberAt v4_23 q4 s_23).bind fun q5 =>
  (f_X8_put 4 3 v5_23 q5 s_23).bind fun q6 =>
  if v5_23 = (v3_23 - (1 : Int32)) then (
  f_X4_itemsEnd_76 v3_23 v4_23 v5_23 q4 59 q6)
  else (
  f_X4_itemsEnd_76 v3_23 v4_23 v5_23 q4 44 q6)))
def f_X4_itemsEnd_23 (v3_23 : Int32) (v4_23 : Int32) (v5_23 : Int32) (s_23 : Sg) : Option (Int32 × Sg) :=
  itr 3000 (fun s => f_X4_itemsEnd_23s v3_23 s.1 s.2.1 s.2.2) (v4_23, v5_23, s_23)
def f_X4_itemsEnd (v2 : Int32) (σ : Sg) : Option (Int32 × Sg) :=
  (f_X6_byteAt v2 σ).bind fun q1 =>
  (f_X4_numbersOf q1).bind fun q2 =>
  if q2 = 0 then (
  some (((-1), σ)))
  else (
  nm ((v2 + (1 : Int32))) fun x3 =>
  f_X4_itemsEnd_23 q2 x3 0 σ)
def f_X4_takeItem_45 (b : Nat) (t0_45 : Int32) (s_45 : Sg) : Option (Int32 × Sg) :=
  (zrt t0_45).bind fun x13 =>
  some ((x13, s_45))
def f_X4_takeItem_44 (b : Nat) (s_44 : Sg) : Option (Int32 × Sg) :=
  f_X4_takeItem_45 b 0 s_44
def f_X4_takeItem (b : Nat) (v2 : Int32) (σ : Sg) : Option (Int32 × Sg) :=
  (f_X8_at 4 3 0 σ).bind fun q1 =>
  (f_X8_at 4 3 1 σ).bind fun q2 =>
  if v2 = 110 then (
  if (σ.1 3 1) = 0 then (
  f_X4_takeItem_44 b σ)
  else (
  (f_X1_setStones b q1 σ).bind fun q14 =>
  if q14.1 = 0 then (
  f_X4_takeItem_44 b q14.2)
  else (
  f_X4_takeItem_45 b 1 q14.2)))
  else (
  (pfz σ 3 1 0).bind fun s3 =>
  if v2 = 97 then (
  (f_X1_beginOn b q1 s3).bind fun q4 =>
  (zrt q4.1).bind fun x5 =>
  some ((x5, q4.2)))
  else (
  if v2 = 116 then (
  (f_X8_at 4 3 2 s3).bind fun q6 =>
  (f_X1_addStep b q1 q2 q6 s3).bind fun q7 =>
  (zrt q7.1).bind fun x8 =>
  some ((x8, q7.2)))
  else (
  if v2 = 120 then (
  (f_X1_setGainsay b q1 q2 s3).bind fun q9 =>
  (zrt q9.1).bind fun x10 =>
  some ((x10, q9.2)))
  else (
  (f_X1_setWear b q1 q2 s3).bind fun q11 =>
  (zrt q11.1).bind fun x12 =>
  some ((x12, q11.2))))))
def f_X6_size (σ : Sg) : Option Int32 :=
  some ((σ.1 1 1))
def f_X4_readOnto_68 (b : Nat) (s_68 : Sg) : Option (Int32 × Sg) :=
  (f_X1_standOnBeginnings b s_68).bind fun q3 =>
  some (((-4), q3))
def f_X4_readOnto_57 (b : Nat) (v3_57 : Int32) (s_57 : Sg) : Option (Int32 × Sg) :=
  some ((v3_57, s_57))
def f_X4_readOnto_14s (b : Nat) (v3_14 : Int32) (v4_14 : Int32) (s_14 : Sg) : Option ((Int32 × Int32 × Sg) ⊕ (Int32 × Sg)) :=
  if (300 : Int32) ≤ v4_14 then (
  (f_X4_readOnto_68 b s_14).map (fun z => .inr (z)))
  else (
  (f_X6_size s_14).bind fun q4 =>
  if q4 ≤ v3_14 then (
  (f_X4_readOnto_68 b s_14).map (fun z => .inr (z)))
  else (
  (f_X4_itemsEnd v3_14 s_14).bind fun q5 =>
  if q5.1 = (-1) then (
  (f_X4_readOnto_57 b v3_14 q5.2).map (fun z => .inr (z)))
  else (
  (f_X6_byteAt v3_14 q5.2).bind fun q6 =>
  (f_X4_takeItem b q6 q5.2).bind fun q7 =>
  if q7.1 = 0 then (
  (f_X4_readOnto_57 b v3_14 q7.2).map (fun z => .inr (z)))
  else (
  nm (v4_14 + 1) fun x8 =>
  some (.inl (q5.1, x8, q7.2))))))
def f_X4_readOnto_14 (b : Nat) (v3_14 : Int32) (v4_14 : Int32) (s_14 : Sg) : Option (Int32 × Sg) :=
  itr 3000 (fun s => f_X4_readOnto_14s b s.1 s.2.1 s.2.2) (v3_14, v4_14, s_14)
def f_X4_readOnto (b : Nat) (σ : Sg) : Option (Int32 × Sg) :=
  (f_X1_empty b σ).bind fun q1 =>
  (pfz q1 3 1 1).bind fun s2 =>
  f_X4_readOnto_14 b 0 0 s2
def f_X5_idleSteps_57 (v1_57 : Int32) (v2_57 : Int32) (σ : Sg) : Option ((Int32 × Int32) ⊕ Int32) :=
  nm (v2_57 + 1) fun x8 =>
  some (.inl (v1_57, x8))
def f_X5_idleSteps_4s (v1_4 : Int32) (v2_4 : Int32) (σ : Sg) : Option ((Int32 × Int32) ⊕ Int32) :=
  (f_X1_stepCount 12 σ).bind fun q1 =>
  if q1 ≤ v2_4 then (
  some (.inr (v1_4)))
  else (
  nm (((1023 : Int32) &&& (((1 : Int32) <<< (v2_4 &&& 31)) ^^^ ((-1) : Int32)))) fun x2 =>
  (f_X1_originsOf 12 v2_4 σ).bind fun q3 =>
  (f_X1_allStones 12 σ).bind fun q4 =>
  (f_X1_reachBy 12 q3 x2 q4 σ).bind fun q5 =>
  (f_X1_endOf 12 v2_4 σ).bind fun q6 =>
  (f_X8_has q5 q6).bind fun q7 =>
  if q7 = 0 then (
  f_X5_idleSteps_57 v1_4 v2_4 σ)
  else (
  nm ((v1_4 ||| ((1 : Int32) <<< (v2_4 &&& 31)))) fun x9 =>
  f_X5_idleSteps_57 x9 v2_4 σ))
def f_X5_idleSteps_4 (v1_4 : Int32) (v2_4 : Int32) (σ : Sg) : Option Int32 :=
  itr 3000 (fun s => f_X5_idleSteps_4s s.1 s.2 σ) (v1_4, v2_4)
def f_X5_idleSteps (σ : Sg) : Option Int32 :=
  f_X5_idleSteps_4 0 0 σ
def f_X5_everBehind_10s (v2_10 : Int32) (v3_10 : Int32) (σ : Sg) : Option ((Int32 × Int32) ⊕ Int32) :=
  if (10 : Int32) ≤ v3_10 then (
  some (.inr (v2_10)))
  else (
  (f_X1_directlyBehind 12 v2_10 σ).bind fun q2 =>
  nm ((v2_10 ||| q2)) fun x3 =>
  nm (v3_10 + 1) fun x4 =>
  some (.inl (x3, x4)))
def f_X5_everBehind_10 (v2_10 : Int32) (v3_10 : Int32) (σ : Sg) : Option Int32 :=
  itr 3000 (fun s => f_X5_everBehind_10s s.1 s.2 σ) (v2_10, v3_10)
def f_X5_everBehind (v1 : Int32) (σ : Sg) : Option Int32 :=
  (f_X1_directlyBehind 12 ((1 : Int32) <<< (v1 &&& 31)) σ).bind fun q1 =>
  f_X5_everBehind_10 q1 0 σ
def f_X5_lowestInCircle_2s (v1_2 : Int32) (σ : Sg) : Option ((Int32) ⊕ Int32) :=
  (f_X1_stoneCount 12 σ).bind fun q1 =>
  if q1 ≤ v1_2 then (
  some (.inr ((-4))))
  else (
  (f_X5_everBehind v1_2 σ).bind fun q2 =>
  (f_X8_has q2 v1_2).bind fun q3 =>
  if q3 = 0 then (
  nm (v1_2 + 1) fun x4 =>
  some (.inl (x4)))
  else (
  some (.inr (v1_2))))
def f_X5_lowestInCircle_2 (v1_2 : Int32) (σ : Sg) : Option Int32 :=
  itr 3000 (fun s => f_X5_lowestInCircle_2s s σ) (v1_2)
def f_X5_lowestInCircle (σ : Sg) : Option Int32 :=
  f_X5_lowestInCircle_2 0 σ
def f_X5_depth_7s (v1_7 : Int32) (v2_7 : Int32) (σ : Sg) : Option ((Int32 × Int32) ⊕ Int32) :=
  if (10 : Int32) ≤ v2_7 then (
  some (.inr ((-4))))
  else (
  (f_X1_directlyBehind 12 v1_7 σ).bind fun q2 =>
  if q2 = 0 then (
  some (.inr (v2_7)))
  else (
  nm (v2_7 + 1) fun x3 =>
  some (.inl (q2, x3))))
def f_X5_depth_7 (v1_7 : Int32) (v2_7 : Int32) (σ : Sg) : Option Int32 :=
  itr 3000 (fun s => f_X5_depth_7s s.1 s.2 σ) (v1_7, v2_7)
def f_X5_depth (σ : Sg) : Option Int32 :=
  (f_X1_allStones 12 σ).bind fun q1 =>
  f_X5_depth_7 q1 0 σ
def f_X6_clear (σ : Sg) : Option Sg :=
  (pfi σ 1 1 0).bind fun s1 =>
  some (s1)
def f_X6_addByte_32 (s_32 : Sg) : Option Sg :=
  some (s_32)
def f_X6_addByte (v1 : Int32) (σ : Sg) : Option Sg :=
  if (300 : Int32) ≤ (σ.1 1 1) then (
  f_X6_addByte_32 σ)
  else (
  (f_X8_put 2 300 (σ.1 1 1) v1 σ).bind fun q1 =>
  (pfi q1 1 1 ((q1.1 1 1) + (1 : Int32))).bind fun s2 =>
  f_X6_addByte_32 s2)
def f_X7_measureFrom_109 (v2 : Int32) (v4_109 : Int32) (v5_109 : Int32) (s_109 : Sg) : Option Sg :=
  (f_X8_put 37 1024 v2 v4_109 s_109).bind fun q3 =>
  (f_X8_put 38 1024 v2 v5_109 q3).bind fun q4 =>
  some (q4)
def f_X7_measureFrom_103 (v2 : Int32) (v4_103 : Int32) (v5_103 : Int32) (v6_103 : Int32) (s_25 : Sg) : Option ((Int32 × Int32 × Int32) ⊕ Sg) :=
  nm (v6_103 + 1) fun x8 =>
  some (.inl (v4_103, v5_103, x8))
def f_X7_measureFrom_96 (v2 : Int32) (v6_96 : Int32) (v8_96 : Int32) (t0_96 : Int32) (t1_96 : Int32) (s_25 : Sg) : Option ((Int32 × Int32 × Int32) ⊕ Sg) :=
  nm ((t0_96 + t1_96)) fun x10 =>
  f_X7_measureFrom_103 v2 v8_96 x10 v6_96 s_25
def f_X7_measureFrom_25s (v2 : Int32) (v4_25 : Int32) (v5_25 : Int32) (v6_25 : Int32) (s_25 : Sg) : Option ((Int32 × Int32 × Int32) ⊕ Sg) :=
  (f_X1_stepCount 12 s_25).bind fun q2 =>
  if q2 ≤ v6_25 then (
  (f_X7_measureFrom_109 v2 v4_25 v5_25 s_25).map (fun z => .inr (z)))
  else (
  if v4_25 ≤ 0 then (
  (f_X7_measureFrom_109 v2 v4_25 v5_25 s_25).map (fun z => .inr (z)))
  else (
  (f_X1_after 12 v6_25 v2 s_25).bind fun q5 =>
  (f_X8_at 37 1024 q5 s_25).bind fun q6 =>
  nm ((q6 + (1 : Int32))) fun x7 =>
  if q5 = v2 then (
  f_X7_measureFrom_103 v2 v4_25 v5_25 v6_25 s_25)
  else (
  if v4_25 < x7 then (
  f_X7_measureFrom_103 v2 v4_25 v5_25 v6_25 s_25)
  else (
  (f_X8_at 38 1024 q5 s_25).bind fun q9 =>
  if x7 = v4_25 then (
  f_X7_measureFrom_96 v2 v6_25 x7 q9 v5_25 s_25)
  else (
  f_X7_measureFrom_96 v2 v6_25 x7 q9 0 s_25)))))
def f_X7_measureFrom_25 (v2 : Int32) (v4_25 : Int32) (v5_25 : Int32) (v6_25 : Int32) (s_25 : Sg) : Option Sg :=
  itr 3000 (fun s => f_X7_measureFrom_25s v2 s.1 s.2.1 s.2.2 s_25) (v4_25, v5_25, v6_25)
def f_X7_measureFrom_22 (v2 : Int32) (v4_22 : Int32) (v5_22 : Int32) (s_22 : Sg) : Option Sg :=
  f_X7_measureFrom_25 v2 v4_22 v5_22 0 s_22
def f_X7_measureFrom (v2 : Int32) (v3 : Int32) (σ : Sg) : Option Sg :=
  (f_X8_has v2 v3).bind fun q1 =>
  if q1 = 0 then (
  f_X7_measureFrom_22 v2 1000 0 σ)
  else (
  f_X7_measureFrom_22 v2 0 1 σ)
def f_X7_measure_46 (v2 : Int32) (v3_11 : Int32) (v4_46 : Int32) (s_46 : Sg) : Option ((Int32 × Sg) ⊕ Sg) :=
  nm (v4_46 + (-1)) fun x4 =>
  some (.inl (x4, s_46))
def f_X7_measure_11s (v2 : Int32) (v3_11 : Int32) (v4_11 : Int32) (s_11 : Sg) : Option ((Int32 × Sg) ⊕ Sg) :=
  if v4_11 < v3_11 then (
  some (.inr (s_11)))
  else (
  (f_X8_holdsAll v4_11 v3_11).bind fun q3 =>
  if q3 = 0 then (
  f_X7_measure_46 v2 v3_11 v4_11 s_11)
  else (
  (f_X1_there 12 s_11).bind fun q5 =>
  (f_X8_holdsAll q5 v4_11).bind fun q6 =>
  if q6 = 0 then (
  f_X7_measure_46 v2 v3_11 v4_11 s_11)
  else (
  (f_X7_measureFrom v4_11 v2 s_11).bind fun q7 =>
  f_X7_measure_46 v2 v3_11 v4_11 q7)))
def f_X7_measure_11 (v2 : Int32) (v3_11 : Int32) (v4_11 : Int32) (s_11 : Sg) : Option Sg :=
  itr 3000 (fun s => f_X7_measure_11s v2 v3_11 s.1 s.2) (v4_11, s_11)
def f_X7_measure (v2 : Int32) (σ : Sg) : Option Sg :=
  (f_X1_stood 12 σ).bind fun q1 =>
  (f_X1_there 12 σ).bind fun q2 =>
  f_X7_measure_11 v2 q1 q2 σ
def f_X7_fewestSteps_25 (t0_25 : Int32) (σ : Sg) : Option Int32 :=
  some (t0_25)
def f_X7_fewestSteps (σ : Sg) : Option Int32 :=
  (f_X1_stood 12 σ).bind fun q1 =>
  (f_X8_at 37 1024 q1 σ).bind fun q2 =>
  if q2 = 1000 then (
  f_X7_fewestSteps_25 (-4) σ)
  else (
  f_X7_fewestSteps_25 q2 σ)
def f_X7_lowestFirstStep_66 (σ : Sg) : Option Int32 :=
  some ((-4))
def f_X7_lowestFirstStep_60 (v2_14 : Int32) (v3_14 : Int32) (v4_60 : Int32) (σ : Sg) : Option ((Int32) ⊕ Int32) :=
  nm (v4_60 + 1) fun x5 =>
  some (.inl (x5))
def f_X7_lowestFirstStep_14s (v2_14 : Int32) (v3_14 : Int32) (v4_14 : Int32) (σ : Sg) : Option ((Int32) ⊕ Int32) :=
  (f_X1_stepCount 12 σ).bind fun q3 =>
  if q3 ≤ v4_14 then (
  (f_X7_lowestFirstStep_66 σ).map (fun z => .inr (z)))
  else (
  if v3_14 ≤ 0 then (
  (f_X7_lowestFirstStep_66 σ).map (fun z => .inr (z)))
  else (
  (f_X1_after 12 v4_14 v2_14 σ).bind fun q4 =>
  if q4 = v2_14 then (
  f_X7_lowestFirstStep_60 v2_14 v3_14 v4_14 σ)
  else (
  (f_X8_at 37 1024 q4 σ).bind fun q6 =>
  if q6 = (v3_14 - (1 : Int32)) then (
  some (.inr (v4_14)))
  else (
  f_X7_lowestFirstStep_60 v2_14 v3_14 v4_14 σ))))
def f_X7_lowestFirstStep_14 (v2_14 : Int32) (v3_14 : Int32) (v4_14 : Int32) (σ : Sg) : Option Int32 :=
  itr 3000 (fun s => f_X7_lowestFirstStep_14s v2_14 v3_14 s σ) (v4_14)
def f_X7_lowestFirstStep (σ : Sg) : Option Int32 :=
  (f_X1_stood 12 σ).bind fun q1 =>
  (f_X7_fewestSteps σ).bind fun q2 =>
  f_X7_lowestFirstStep_14 q1 q2 0 σ
def f_X7_howManyRows_26 (t0_26 : Int32) (σ : Sg) : Option Int32 :=
  some (t0_26)
def f_X7_howManyRows (σ : Sg) : Option Int32 :=
  (f_X7_fewestSteps σ).bind fun q1 =>
  if q1 = (-4) then (
  f_X7_howManyRows_26 (-4) σ)
  else (
  (f_X1_stood 12 σ).bind fun q2 =>
  (f_X8_at 38 1024 q2 σ).bind fun q3 =>
  f_X7_howManyRows_26 q3 σ)
def f_X7_afterAllAtOnce_4s (v1 : Int32) (v2_4 : Int32) (v3_4 : Int32) (σ : Sg) : Option ((Int32 × Int32) ⊕ Int32) :=
  (f_X1_stepCount 12 σ).bind fun q1 =>
  if q1 ≤ v3_4 then (
  some (.inr (v2_4)))
  else (
  (f_X1_after 12 v3_4 v1 σ).bind fun q2 =>
  nm ((v2_4 ||| q2)) fun x3 =>
  nm (v3_4 + 1) fun x4 =>
  some (.inl (x3, x4)))
def f_X7_afterAllAtOnce_4 (v1 : Int32) (v2_4 : Int32) (v3_4 : Int32) (σ : Sg) : Option Int32 :=
  itr 3000 (fun s => f_X7_afterAllAtOnce_4s v1 s.1 s.2 σ) (v2_4, v3_4)
def f_X7_afterAllAtOnce (v1 : Int32) (σ : Sg) : Option Int32 :=
  f_X7_afterAllAtOnce_4 v1 v1 0 σ
def f_X7_rounds_7s (v1 : Int32) (v2_7 : Int32) (v3_7 : Int32) (σ : Sg) : Option ((Int32 × Int32) ⊕ Int32) :=
  if (10 : Int32) < v3_7 then (
  some (.inr ((-4))))
  else (
  (f_X8_has v2_7 v1).bind fun q2 =>
  if q2 = 0 then (
  (f_X7_afterAllAtOnce v2_7 σ).bind fun q3 =>
  nm (v3_7 + 1) fun x4 =>
  some (.inl (q3, x4)))
  else (
  some (.inr (v3_7))))
def f_X7_rounds_7 (v1 : Int32) (v2_7 : Int32) (v3_7 : Int32) (σ : Sg) : Option Int32 :=
  itr 3000 (fun s => f_X7_rounds_7s v1 s.1 s.2 σ) (v2_7, v3_7)
def f_X7_rounds (v1 : Int32) (σ : Sg) : Option Int32 :=
  (f_X1_stood 12 σ).bind fun q1 =>
  f_X7_rounds_7 v1 q1 0 σ
def f_X8_write_11 (s_11 : Sg) : Option (Int32 × Sg) :=
  some (((-1), s_11))
def f_X8_write_36s (v2 : Int64) (v4_36 : Int32) (s_36 : Sg) : Option ((Int32 × Sg) ⊕ (Int32 × Sg)) :=
  if v4_36 < 0 then (
  (f_X6_size s_36).bind fun q3 =>
  some (.inr ((q3, s_36))))
  else (
  (f_X6_addByte ((((v2 >>> ((((8 : Int32) * v4_36) : Int32).toInt64 &&& 63)) : Int64).toInt32) &&& (255 : Int32)) s_36).bind fun q4 =>
  nm (v4_36 + (-1)) fun x5 =>
  some (.inl (x5, q4)))
def f_X8_write_36 (v2 : Int64) (v4_36 : Int32) (s_36 : Sg) : Option (Int32 × Sg) :=
  itr 3000 (fun s => f_X8_write_36s v2 s.1 s.2) (v4_36, s_36)
def f_X8_write (v1 : Int32) (v2 : Int64) (σ : Sg) : Option (Int32 × Sg) :=
  if v1 < 1 then (
  f_X8_write_11 σ)
  else (
  if v1 ≤ 8 then (
  (f_X6_size σ).bind fun q1 =>
  if (q1 + v1) ≤ 300 then (
  nm ((v1 - (1 : Int32))) fun x2 =>
  f_X8_write_36 v2 x2 σ)
  else (
  some (((-3), σ))))
  else (
  f_X8_write_11 σ))
def f_X8_wipe (σ : Sg) : Option (Int32 × Sg) :=
  (f_X6_size σ).bind fun q1 =>
  (f_X6_clear σ).bind fun q2 =>
  some ((q1, q2))
def f_X8_fault (σ : Sg) : Option (Int32 × Sg) :=
  (f_X4_readOnto 5 σ).bind fun q1 =>
  some ((q1.1, q1.2))
def f_X8_forgetRowAndPast (σ : Sg) : Option Sg :=
  (pfi σ 0 10 0).bind fun s1 =>
  (f_X2_clear s1).bind fun q2 =>
  some (q2)
def f_X8_layFloor_30 (s_30 : Sg) : Option (Int32 × Sg) :=
  some (((-2), s_30))
def f_X8_layFloor (σ : Sg) : Option (Int32 × Sg) :=
  (f_X4_readOnto 5 σ).bind fun q1 =>
  if q1.1 = (-4) then (
  (f_X1_stepCount 5 q1.2).bind fun q2 =>
  if q2 = 0 then (
  f_X8_layFloor_30 q1.2)
  else (
  (f_X1_copyFrom 12 5 q1.2).bind fun q3 =>
  (pfi q3 0 11 0).bind fun s4 =>
  (f_X8_forgetRowAndPast s4).bind fun q5 =>
  (f_X1_stoneCount 12 q5).bind fun q6 =>
  some ((q6, q5))))
  else (
  f_X8_layFloor_30 q1.2)
def f_X8_isStone (v1 : Int32) (σ : Sg) : Option Int32 :=
  (f_X1_hasStone 12 v1 σ).bind fun q1 =>
  (zrt q1).bind fun x2 =>
  some (x2)
def f_X8_stone_17 (σ : Sg) : Option Int32 :=
  some ((-1))
def f_X8_stone (v1 : Int32) (v2 : Int32) (σ : Sg) : Option Int32 :=
  (f_X8_isStone v1 σ).bind fun q1 =>
  if q1 = 0 then (
  f_X8_stone_17 σ)
  else (
  if v2 < 0 then (
  f_X8_stone_17 σ)
  else (
  if v2 ≤ 4 then (
  if v2 = 0 then (
  (f_X1_there 12 σ).bind fun q2 =>
  (f_X8_bitOf q2 v1).bind fun q3 =>
  some (q3))
  else (
  if v2 = 1 then (
  (f_X1_stood 12 σ).bind fun q4 =>
  (f_X8_bitOf q4 v1).bind fun q5 =>
  some (q5))
  else (
  if v2 = 2 then (
  (f_X1_begins 12 σ).bind fun q6 =>
  (f_X8_bitOf q6 v1).bind fun q7 =>
  some (q7))
  else (
  if v2 = 3 then (
  (f_X1_wearOf 12 v1 σ).bind fun q8 =>
  some (q8))
  else (
  (f_X1_gainsayersOf 12 v1 σ).bind fun q9 =>
  some (q9))))))
  else (
  f_X8_stone_17 σ)))
def f_X8_isStep_20 (t0_20 : Int32) (σ : Sg) : Option Int32 :=
  (zrt t0_20).bind fun x1 =>
  some (x1)
def f_X8_isStep_19 (σ : Sg) : Option Int32 :=
  f_X8_isStep_20 0 σ
def f_X8_isStep (v1 : Int32) (σ : Sg) : Option Int32 :=
  if v1 < 0 then (
  f_X8_isStep_19 σ)
  else (
  (f_X1_stepCount 12 σ).bind fun q2 =>
  if q2 ≤ v1 then (
  f_X8_isStep_19 σ)
  else (
  f_X8_isStep_20 1 σ))
def f_X8_step_17 (σ : Sg) : Option Int32 :=
  some ((-1))
def f_X8_step_91 (t0_91 : Int32) (σ : Sg) : Option Int32 :=
  some (t0_91)
def f_X8_step (v1 : Int32) (v2 : Int32) (σ : Sg) : Option Int32 :=
  (f_X8_isStep v1 σ).bind fun q1 =>
  if q1 = 0 then (
  f_X8_step_17 σ)
  else (
  if v2 < 0 then (
  f_X8_step_17 σ)
  else (
  if v2 ≤ 3 then (
  if v2 = 0 then (
  (f_X1_firstOf 12 v1 σ).bind fun q2 =>
  some (q2))
  else (
  if v2 = 1 then (
  (f_X1_secondOf 12 v1 σ).bind fun q3 =>
  some (q3))
  else (
  if v2 = 2 then (
  (f_X1_endOf 12 v1 σ).bind fun q4 =>
  some (q4))
  else (
  (f_X1_mayBeGone 12 v1 σ).bind fun q5 =>
  if q5 = 0 then (
  f_X8_step_91 0 σ)
  else (
  f_X8_step_91 1 σ)))))
  else (
  f_X8_step_17 σ)))
def f_X8_go (v1 : Int32) (σ : Sg) : Option (Int32 × Sg) :=
  (f_X8_isStep v1 σ).bind fun q1 =>
  if q1 = 0 then (
  some (((-1), σ)))
  else (
  (f_X1_mayBeGone 12 v1 σ).bind fun q2 =>
  if q2 = 0 then (
  some (((-2), σ)))
  else (
  (f_X1_tread 12 v1 σ).bind fun q3 =>
  (f_X1_endOf 12 v1 q3).bind fun q4 =>
  (f_X2_noteGone q4 q3).bind fun q5 =>
  (f_X1_stood 12 q5).bind fun q6 =>
  (f_J6_bitCount_0f7a4 q6).bind fun q7 =>
  some ((q7, q5))))
def f_X8_takeOut_49 (v1 : Int32) (t1_49 : Int32) (t2_49 : Int32) (s_49 : Sg) : Option (Int32 × Sg) :=
  (f_X2_noteOut t1_49 t2_49 s_49).bind fun q5 =>
  (f_X1_removeSlab 12 v1 q5).bind fun q6 =>
  (f_X1_there 12 q6).bind fun q7 =>
  (f_J6_bitCount_0f7a4 q7).bind fun q8 =>
  some ((q8, q6))
def f_X8_takeOut (v1 : Int32) (σ : Sg) : Option (Int32 × Sg) :=
  (f_X8_isStone v1 σ).bind fun q1 =>
  if q1 = 0 then (
  some (((-1), σ)))
  else (
  (f_X1_isThere 12 v1 σ).bind fun q2 =>
  if q2 = 0 then (
  some (((-2), σ)))
  else (
  (f_X1_stood 12 σ).bind fun q3 =>
  (f_X8_bitOf q3 v1).bind fun q4 =>
  if q4 = 1 then (
  f_X8_takeOut_49 v1 v1 1 σ)
  else (
  f_X8_takeOut_49 v1 v1 0 σ)))
def f_X8_lay (v1 : Int32) (v2 : Int32) (v3 : Int32) (σ : Sg) : Option (Int32 × Sg) :=
  (f_X1_couldBeStep 12 v1 v2 v3 σ).bind fun q1 =>
  if q1 = 0 then (
  some (((-1), σ)))
  else (
  (f_X1_stepCount 12 σ).bind fun q2 =>
  if q2 < 10 then (
  (f_X1_addStep 12 v1 v2 v3 σ).bind fun q3 =>
  (f_X2_noteLaid q3.2).bind fun q4 =>
  (f_X1_stepCount 12 q4).bind fun q5 =>
  some (((q5 - (1 : Int32)), q4)))
  else (
  some (((-3), σ))))
def f_X8_undo (σ : Sg) : Option (Int32 × Sg) :=
  (f_X2_size σ).bind fun q1 =>
  if q1 = 0 then (
  some (((-2), σ)))
  else (
  (f_X2_takeBackLatest σ).bind fun q2 =>
  (pfi q2 0 10 0).bind fun s3 =>
  (f_X2_size s3).bind fun q4 =>
  some ((q4, s3)))
def f_X8_isSetOfStones_20 (t0_20 : Int32) (σ : Sg) : Option Int32 :=
  (zrt t0_20).bind fun x1 =>
  some (x1)
def f_X8_isSetOfStones_19 (σ : Sg) : Option Int32 :=
  f_X8_isSetOfStones_20 0 σ
def f_X8_isSetOfStones (v1 : Int32) (σ : Sg) : Option Int32 :=
  if v1 < 0 then (
  f_X8_isSetOfStones_19 σ)
  else (
  (f_X1_allStones 12 σ).bind fun q2 =>
  if q2 < v1 then (
  f_X8_isSetOfStones_19 σ)
  else (
  f_X8_isSetOfStones_20 1 σ))
def f_X8_reach (v1 : Int32) (σ : Sg) : Option Int32 :=
  (f_X8_isSetOfStones v1 σ).bind fun q1 =>
  if q1 = 0 then (
  some ((-1)))
  else (
  (f_X1_reachOf 12 v1 σ).bind fun q2 =>
  some (q2))
def f_X8_walk_17 (s_17 : Sg) : Option (Int64 × Sg) :=
  some (((-1), s_17))
def f_X8_walk (v1 : Int32) (v2 : Int32) (σ : Sg) : Option (Int64 × Sg) :=
  (f_X8_isStone v1 σ).bind fun q1 =>
  if q1 = 0 then (
  f_X8_walk_17 σ)
  else (
  if v2 < 0 then (
  f_X8_walk_17 σ)
  else (
  if v2 ≤ 2 then (
  (f_X7_measure v1 σ).bind fun q2 =>
  if v2 = 0 then (
  (f_X7_fewestSteps q2).bind fun q3 =>
  some ((((q3 : Int32).toInt64), q2)))
  else (
  if v2 = 1 then (
  (f_X7_lowestFirstStep q2).bind fun q4 =>
  some ((((q4 : Int32).toInt64), q2)))
  else (
  (f_X7_howManyRows q2).bind fun q5 =>
  some ((((q5 : Int32).toInt64), q2)))))
  else (
  f_X8_walk_17 σ)))
def f_X8_round (v1 : Int32) (σ : Sg) : Option Int32 :=
  (f_X8_isStone v1 σ).bind fun q1 =>
  if q1 = 0 then (
  some ((-1)))
  else (
  (f_X7_rounds v1 σ).bind fun q2 =>
  some (q2))
def f_X8_needs_17 (σ : Sg) : Option Int32 :=
  some ((-1))
def f_X8_needs_56 (t0_56 : Int32) (σ : Sg) : Option Int32 :=
  some (t0_56)
def f_X8_needs (v1 : Int32) (v2 : Int32) (σ : Sg) : Option Int32 :=
  (f_X8_isStone v1 σ).bind fun q1 =>
  if q1 = 0 then (
  f_X8_needs_17 σ)
  else (
  if v2 < 0 then (
  f_X8_needs_17 σ)
  else (
  if v2 ≤ 1 then (
  (f_X0_leadTo v1 σ).bind fun q2 =>
  if q2 = 0 then (
  some ((-4)))
  else (
  if v2 = 0 then (
  (f_X0_neededFor v1 σ).bind fun q4 =>
  f_X8_needs_56 q4 σ)
  else (
  (f_X0_fewestFor v1 σ).bind fun q3 =>
  f_X8_needs_56 q3 σ)))
  else (
  f_X8_needs_17 σ)))
def f_X8_lost (v1 : Int32) (σ : Sg) : Option Int32 :=
  (f_X8_isStone v1 σ).bind fun q1 =>
  if q1 = 0 then (
  some ((-1)))
  else (
  (f_X1_isThere 12 v1 σ).bind fun q2 =>
  if q2 = 0 then (
  some ((-2)))
  else (
  (f_X0_lostBy v1 σ).bind fun q3 =>
  some (q3)))
def f_X8_begin (v1 : Int32) (σ : Sg) : Option Int32 :=
  (f_X8_isStone v1 σ).bind fun q1 =>
  if q1 = 0 then (
  some ((-1)))
  else (
  (f_X1_isThere 12 v1 σ).bind fun q2 =>
  if q2 = 0 then (
  some ((-2)))
  else (
  (f_X0_fewestMoreFor v1 σ).bind fun q3 =>
  some (q3)))
def f_X8_hall_9 (σ : Sg) : Option Int32 :=
  some ((-1))
def f_X8_hall_30 (t0_30 : Int32) (σ : Sg) : Option Int32 :=
  some (t0_30)
def f_X8_hall (v1 : Int32) (σ : Sg) : Option Int32 :=
  if v1 < 0 then (
  f_X8_hall_9 σ)
  else (
  if v1 ≤ 1 then (
  if v1 = 0 then (
  (f_X0_leadIntoHall σ).bind fun q2 =>
  if q2 = 0 then (
  f_X8_hall_30 0 σ)
  else (
  f_X8_hall_30 1 σ))
  else (
  (f_X0_fewestIntoHall σ).bind fun q1 =>
  some (q1)))
  else (
  f_X8_hall_9 σ))
def f_X8_rope (σ : Sg) : Option Int32 :=
  (f_X0_fewestToRopeOff σ).bind fun q1 =>
  some (q1)
def f_X8_idle (σ : Sg) : Option Int32 :=
  (f_X5_idleSteps σ).bind fun q1 =>
  some (q1)
def f_X8_circle (σ : Sg) : Option Int32 :=
  (f_X5_lowestInCircle σ).bind fun q1 =>
  some (q1)
def f_X8_deep (σ : Sg) : Option Int32 :=
  (f_X5_depth σ).bind fun q1 =>
  some (q1)
def f_X8_proofs_17 (s_17 : Sg) : Option (Int32 × Sg) :=
  some (((-1), s_17))
def f_X8_proofs (v1 : Int32) (v2 : Int32) (σ : Sg) : Option (Int32 × Sg) :=
  (f_X8_isStone v1 σ).bind fun q1 =>
  if q1 = 0 then (
  f_X8_proofs_17 σ)
  else (
  if v2 < 0 then (
  f_X8_proofs_17 σ)
  else (
  if v2 ≤ 2 then (
  (f_X3_reckon σ).bind fun q2 =>
  if v2 = 0 then (
  (f_X3_howMany v1 q2).bind fun q3 =>
  some ((q3, q2)))
  else (
  if v2 = 1 then (
  (f_X3_shortest v1 q2).bind fun q4 =>
  some ((q4, q2)))
  else (
  (f_X3_inAll v1 q2).bind fun q5 =>
  some ((q5, q2)))))
  else (
  f_X8_proofs_17 σ)))
def f_X8_worn_16 (s_16 : Sg) : Option (Int32 × Sg) :=
  some (((-1), s_16))
def f_X8_worn (v1 : Int32) (v2 : Int32) (σ : Sg) : Option (Int32 × Sg) :=
  (f_X8_isStone v1 σ).bind fun q1 =>
  if q1 = 0 then (
  f_X8_worn_16 σ)
  else (
  (f_X8_isSetOfStones v2 σ).bind fun q2 =>
  if q2 = 0 then (
  f_X8_worn_16 σ)
  else (
  (f_X3_reckon σ).bind fun q3 =>
  (f_X3_howManyWear v1 v2 q3).bind fun q4 =>
  some ((q4, q3))))
def f_X8_tell (v1 : Int32) (σ : Sg) : Option (Int32 × Sg) :=
  (f_X8_isStep v1 σ).bind fun q1 =>
  if q1 = 0 then (
  some (((-1), σ)))
  else (
  if (σ.1 0 10) < 12 then (
  (f_X8_put 41 12 (σ.1 0 10) v1 σ).bind fun q2 =>
  (pfi q2 0 10 ((q2.1 0 10) + (1 : Int32))).bind fun s3 =>
  some (((s3.1 0 10), s3)))
  else (
  some (((-3), σ))))
def f_X8_noRow (σ : Sg) : Option (Int32 × Sg) :=
  nm ((σ.1 0 10)) fun x1 =>
  (pfi σ 0 10 0).bind fun s2 =>
  some ((x1, s2))
def f_X8_judge_10s (v1_10 : Int32) (v2_10 : Int32) (σ : Sg) : Option ((Int32 × Int32) ⊕ Int32) :=
  if (σ.1 0 10) ≤ v2_10 then (
  some (.inr ((-4))))
  else (
  (f_X8_at 41 12 v2_10 σ).bind fun q2 =>
  (f_X1_after 12 q2 v1_10 σ).bind fun q3 =>
  if q3 = v1_10 then (
  some (.inr (v2_10)))
  else (
  nm (v2_10 + 1) fun x4 =>
  some (.inl (q3, x4))))
def f_X8_judge_10 (v1_10 : Int32) (v2_10 : Int32) (σ : Sg) : Option Int32 :=
  itr 3000 (fun s => f_X8_judge_10s s.1 s.2 σ) (v1_10, v2_10)
def f_X8_judge (σ : Sg) : Option Int32 :=
  (f_X1_stood 12 σ).bind fun q1 =>
  f_X8_judge_10 q1 0 σ
def f_X8_drawnStep (v1 : Int32) (v2 : Int32) (σ : Sg) : Option Int32 :=
  (f_X1_stepCount 12 σ).bind fun q1 =>
  if q1 = 0 then (
  some (0))
  else (
  nm (((((7919 : Int64) * ((v1 : Int32).toInt64)) + ((6151 : Int64) * ((v2 : Int32).toInt64))) + (1 : Int64))) fun x2 =>
  (lrm (x2 * x2) 65521).bind fun x3 =>
  (lrm x3 ((q1 : Int32).toInt64)).bind fun x4 =>
  some (((x4 : Int64).toInt32)))
def f_X8_year_31 (σ : Sg) : Option Int32 :=
  some ((-1))
def f_X8_year_100 (t0_100 : Int32) (σ : Sg) : Option Int32 :=
  some (t0_100)
def f_X8_year_45s (v1 : Int32) (v2 : Int32) (v3 : Int32) (v4_45 : Int32) (v5_45 : Int32) (σ : Sg) : Option ((Int32 × Int32) ⊕ Int32) :=
  if v2 ≤ v5_45 then (
  if v3 = 0 then (
  (f_J6_bitCount_0f7a4 v4_45).bind fun q2 =>
  (f_X1_stood 12 σ).bind fun q3 =>
  (f_J6_bitCount_0f7a4 q3).bind fun q4 =>
  (f_X8_year_100 (q2 - q4) σ).map (fun z => .inr (z)))
  else (
  (f_X8_year_100 v4_45 σ).map (fun z => .inr (z))))
  else (
  (f_X8_drawnStep v1 v5_45 σ).bind fun q5 =>
  (f_X1_after 12 q5 v4_45 σ).bind fun q6 =>
  nm (v5_45 + 1) fun x7 =>
  some (.inl (q6, x7)))
def f_X8_year_45 (v1 : Int32) (v2 : Int32) (v3 : Int32) (v4_45 : Int32) (v5_45 : Int32) (σ : Sg) : Option Int32 :=
  itr 3000 (fun s => f_X8_year_45s v1 v2 v3 s.1 s.2 σ) (v4_45, v5_45)
def f_X8_year (v1 : Int32) (v2 : Int32) (v3 : Int32) (σ : Sg) : Option Int32 :=
  if v1 < 0 then (
  f_X8_year_31 σ)
  else (
  if (9999 : Int32) < v1 then (
  f_X8_year_31 σ)
  else (
  if v2 < 1 then (
  f_X8_year_31 σ)
  else (
  if (99 : Int32) < v2 then (
  f_X8_year_31 σ)
  else (
  if v3 < 0 then (
  f_X8_year_31 σ)
  else (
  if v3 ≤ 1 then (
  (f_X1_stood 12 σ).bind fun q1 =>
  f_X8_year_45 v1 v2 v3 q1 0 σ)
  else (
  f_X8_year_31 σ))))))
def f_X8_keeperOf_15 (t0_15 : Nat) (σ : Sg) : Option Nat :=
  some (t0_15)
def f_X8_keeperOf (v1 : Int32) (σ : Sg) : Option Nat :=
  if v1 = 0 then (
  f_X8_keeperOf_15 19 σ)
  else (
  f_X8_keeperOf_15 26 σ)
def f_X8_keep (σ : Sg) : Option (Int32 × Sg) :=
  if (σ.1 0 11) < 2 then (
  (f_X8_keeperOf (σ.1 0 11) σ).bind fun q1 =>
  (gfl q1).bind fun hgq1 =>
  (f_X1_copyFrom q1 12 σ).bind fun q2 =>
  (pfi q2 0 11 ((q2.1 0 11) + (1 : Int32))).bind fun s3 =>
  some (((s3.1 0 11), s3)))
  else (
  some (((-3), σ)))
def f_X8_back (σ : Sg) : Option (Int32 × Sg) :=
  if (σ.1 0 11) = 0 then (
  some (((-2), σ)))
  else (
  (pfi σ 0 11 ((σ.1 0 11) - (1 : Int32))).bind fun s1 =>
  (f_X8_keeperOf (s1.1 0 11) s1).bind fun q2 =>
  (gfl q2).bind fun hgq2 =>
  (f_X1_copyFrom 12 q2 s1).bind fun q3 =>
  (f_X8_forgetRowAndPast q3).bind fun q4 =>
  some (((q4.1 0 11), q4)))
def f_X8_count (v1 : Int32) (σ : Sg) : Option Int32 :=
  if v1 = 0 then (
  (f_X1_stoneCount 12 σ).bind fun q1 =>
  some (q1))
  else (
  if v1 = 1 then (
  (f_X1_stepCount 12 σ).bind fun q2 =>
  some (q2))
  else (
  if v1 = 2 then (
  (f_X1_there 12 σ).bind fun q3 =>
  (f_J6_bitCount_0f7a4 q3).bind fun q4 =>
  some (q4))
  else (
  if v1 = 3 then (
  (f_X1_stood 12 σ).bind fun q5 =>
  (f_J6_bitCount_0f7a4 q5).bind fun q6 =>
  some (q6))
  else (
  if v1 = 4 then (
  some ((σ.1 0 10)))
  else (
  if v1 = 5 then (
  (f_X2_size σ).bind fun q7 =>
  some (q7))
  else (
  if v1 = 6 then (
  some ((σ.1 0 11)))
  else (
  if v1 = 7 then (
  (f_X6_size σ).bind fun q8 =>
  some (q8))
  else (
  some ((-1))))))))))
def f_X9_in_18 (t0_18 : Int32) : Option Int32 :=
  (zrt t0_18).bind fun x1 =>
  some (x1)
def f_X9_in_17 : Option Int32 :=
  f_X9_in_18 0
def f_X9_in (v0 : Int64) (v2 : Int64) (v4 : Int64) : Option Int32 :=
  if (lg_cmp v0 v2) < 0 then (
  f_X9_in_17 )
  else (
  if (0 : Int32) < (lg_cmp v0 v4) then (
  f_X9_in_17 )
  else (
  f_X9_in_18 1))
def f_X9_has_14 (t0_14 : Int32) : Option Int32 :=
  (zrt t0_14).bind fun x1 =>
  some (x1)
def f_X9_has (v0 : Int32) (v1 : Int32) : Option Int32 :=
  if ((v0 >>> (v1 &&& 31)) &&& (1 : Int32)) = 1 then (
  f_X9_has_14 1)
  else (
  f_X9_has_14 0)
def f_X9_ones_4s (v0 : Int32) (v1_4 : Int32) (v2_4 : Int32) : Option ((Int32 × Int32) ⊕ Int32) :=
  if (10 : Int32) ≤ v2_4 then (
  some (.inr (v1_4)))
  else (
  nm ((v1_4 + ((v0 >>> (v2_4 &&& 31)) &&& (1 : Int32)))) fun x1 =>
  nm (v2_4 + 1) fun x2 =>
  some (.inl (x1, x2)))
def f_X9_ones_4 (v0 : Int32) (v1_4 : Int32) (v2_4 : Int32) : Option Int32 :=
  itr 3000 (fun s => f_X9_ones_4s v0 s.1 s.2) (v1_4, v2_4)
def f_X9_ones (v0 : Int32) : Option Int32 :=
  f_X9_ones_4 v0 0 0
def f_X9_copy_2s (v1 : Int32) (v2 : Int32) (v3_2 : Int32) (s_2 : Sg) : Option ((Int32 × Sg) ⊕ Sg) :=
  if (55 : Int32) ≤ v3_2 then (
  some (.inr (s_2)))
  else (
  (ald s_2 1 660 (v1 + v3_2)).bind fun x1 =>
  (ast s_2 1 660 (v2 + v3_2) x1).bind fun s2 =>
  nm (v3_2 + 1) fun x3 =>
  some (.inl (x3, s2)))
def f_X9_copy_2 (v1 : Int32) (v2 : Int32) (v3_2 : Int32) (s_2 : Sg) : Option Sg :=
  itr 3000 (fun s => f_X9_copy_2s v1 v2 s.1 s.2) (v3_2, s_2)
def f_X9_copy (v1 : Int32) (v2 : Int32) (σ : Sg) : Option Sg :=
  f_X9_copy_2 v1 v2 0 σ
def f_X9_makeAnew_2s (v1 : Int32) (v2_2 : Int32) (s_2 : Sg) : Option ((Int32 × Sg) ⊕ Sg) :=
  if (55 : Int32) ≤ v2_2 then (
  (ast s_2 1 660 (v1 + (0 : Int32)) 4).bind fun s1 =>
  some (.inr (s1)))
  else (
  (ast s_2 1 660 (v1 + v2_2) 0).bind fun s2 =>
  nm (v2_2 + 1) fun x3 =>
  some (.inl (x3, s2)))
def f_X9_makeAnew_2 (v1 : Int32) (v2_2 : Int32) (s_2 : Sg) : Option Sg :=
  itr 3000 (fun s => f_X9_makeAnew_2s v1 s.1 s.2) (v2_2, s_2)
def f_X9_makeAnew (v1 : Int32) (σ : Sg) : Option Sg :=
  f_X9_makeAnew_2 v1 0 σ
def f_X9_layStep (v1 : Int32) (v2 : Int32) (v3 : Int32) (v4 : Int32) (σ : Sg) : Option Sg :=
  (ald σ 1 660 (v1 + (4 : Int32))).bind fun x1 =>
  (ast σ 1 660 ((v1 + (5 : Int32)) + x1) v2).bind fun s2 =>
  (ast s2 1 660 ((v1 + (15 : Int32)) + x1) v3).bind fun s3 =>
  (ast s3 1 660 ((v1 + (25 : Int32)) + x1) v4).bind fun s4 =>
  (ald s4 1 660 (v1 + (4 : Int32))).bind fun x5 =>
  (ast s4 1 660 (v1 + (4 : Int32)) (x5 + (1 : Int32))).bind fun s6 =>
  some (s6)
def f_X9_settle (v1 : Int32) (σ : Sg) : Option Sg :=
  (ald σ 1 660 (v1 + (0 : Int32))).bind fun x1 =>
  (ast σ 1 660 (v1 + (2 : Int32)) (((1 : Int32) <<< (x1 &&& 31)) - (1 : Int32))).bind fun s2 =>
  (ald s2 1 660 (v1 + (1 : Int32))).bind fun x3 =>
  (ast s2 1 660 (v1 + (3 : Int32)) x3).bind fun s4 =>
  some (s4)
def f_X9_isStone (v1 : Int32) (σ : Sg) : Option Int32 :=
  (ald σ 1 660 0).bind fun x1 =>
  (f_X9_in ((v1 : Int32).toInt64) 0 (((x1 - (1 : Int32)) : Int32).toInt64)).bind fun q2 =>
  (zrt q2).bind fun x3 =>
  some (x3)
def f_X9_isSet (v1 : Int32) (σ : Sg) : Option Int32 :=
  (ald σ 1 660 0).bind fun x1 =>
  (f_X9_in ((v1 : Int32).toInt64) 0 (((((1 : Int32) <<< (x1 &&& 31)) - (1 : Int32)) : Int32).toInt64)).bind fun q2 =>
  (zrt q2).bind fun x3 =>
  some (x3)
def f_X9_isStep (v1 : Int32) (σ : Sg) : Option Int32 :=
  (ald σ 1 660 4).bind fun x1 =>
  (f_X9_in ((v1 : Int32).toInt64) 0 (((x1 - (1 : Int32)) : Int32).toInt64)).bind fun q2 =>
  (zrt q2).bind fun x3 =>
  some (x3)
def f_X9_write_34s (v2 : Int64) (v4_34 : Int32) (s_34 : Sg) : Option ((Int32 × Sg) ⊕ (Int32 × Sg)) :=
  if v4_34 < 0 then (
  some (.inr (((s_34.1 0 4), s_34))))
  else (
  (ast s_34 2 300 (s_34.1 0 4) ((((v2 >>> ((((8 : Int32) * v4_34) : Int32).toInt64 &&& 63)) &&& (255 : Int64)) : Int64).toInt32)).bind fun s3 =>
  (pfi s3 0 4 ((s3.1 0 4) + (1 : Int32))).bind fun s4 =>
  nm (v4_34 + (-1)) fun x5 =>
  some (.inl (x5, s4)))
def f_X9_write_34 (v2 : Int64) (v4_34 : Int32) (s_34 : Sg) : Option (Int32 × Sg) :=
  itr 3000 (fun s => f_X9_write_34s v2 s.1 s.2) (v4_34, s_34)
def f_X9_write (v1 : Int32) (v2 : Int64) (σ : Sg) : Option (Int32 × Sg) :=
  (f_X9_in ((v1 : Int32).toInt64) 1 8).bind fun q1 =>
  if q1 = 0 then (
  some (((-1), σ)))
  else (
  if ((σ.1 0 4) + v1) ≤ 300 then (
  nm ((v1 - (1 : Int32))) fun x2 =>
  f_X9_write_34 v2 x2 σ)
  else (
  some (((-3), σ))))
def f_X9_wipe (σ : Sg) : Option (Int32 × Sg) :=
  nm ((σ.1 0 4)) fun x1 =>
  (pfi σ 0 4 0).bind fun s2 =>
  some ((x1, s2))
def f_X9_takes_146 (s_146 : Sg) : Option (Int32 × Sg) :=
  (zrt 0).bind fun x3 =>
  some ((x3, s_146))
def f_X9_takes_143 (v1 : Int32) (v2_143 : Int32) (v4_143 : Int32) (t0_143 : Int32) (t1_143 : Int32) (s_143 : Sg) : Option ((Int32 × Sg) ⊕ (Int32 × Sg)) :=
  if t0_143 = t1_143 then (
  (ast s_143 4 3 v2_143 v4_143).bind fun s5 =>
  (pfi s5 0 7 ((s5.1 0 7) + (1 : Int32))).bind fun s6 =>
  nm (v2_143 + 1) fun x7 =>
  some (.inl (x7, s6)))
  else (
  (f_X9_takes_146 s_143).map (fun z => .inr (z)))
def f_X9_takes_91 (v1 : Int32) (v2_91 : Int32) (v3_91 : Int32) (v4_91 : Int32) (s_91 : Sg) : Option ((Int32 × Sg) ⊕ (Int32 × Sg)) :=
  if (s_91.1 0 7) = v3_91 then (
  (f_X9_takes_146 s_91).map (fun z => .inr (z)))
  else (
  if (2 : Int32) < ((s_91.1 0 7) - v3_91) then (
  (f_X9_takes_146 s_91).map (fun z => .inr (z)))
  else (
  if (s_91.1 0 7) = (s_91.1 0 4) then (
  (f_X9_takes_146 s_91).map (fun z => .inr (z)))
  else (
  (ald s_91 2 300 (s_91.1 0 7)).bind fun x4 =>
  if v2_91 = (v1 - (1 : Int32)) then (
  f_X9_takes_143 v1 v2_91 v4_91 x4 59 s_91)
  else (
  f_X9_takes_143 v1 v2_91 v4_91 x4 44 s_91))))
def f_X9_takes_15s (v1 : Int32) (v2_15 : Int32) (v3_15 : Int32) (v4_15 : Int32) (s_15 : Sg) : Option ((Int32 × Sg) ⊕ ((Int32 × Sg) ⊕ (Int32 × Sg))) :=
  if (s_15.1 0 4) ≤ (s_15.1 0 7) then (
  (f_X9_takes_91 v1 v2_15 v3_15 v4_15 s_15).map (fun z => .inr (z)))
  else (
  if (3 : Int32) ≤ ((s_15.1 0 7) - v3_15) then (
  (f_X9_takes_91 v1 v2_15 v3_15 v4_15 s_15).map (fun z => .inr (z)))
  else (
  (ald s_15 2 300 (s_15.1 0 7)).bind fun x8 =>
  (f_X9_in ((x8 : Int32).toInt64) 48 57).bind fun q9 =>
  if q9 = 0 then (
  (f_X9_takes_91 v1 v2_15 v3_15 v4_15 s_15).map (fun z => .inr (z)))
  else (
  (ald s_15 2 300 (s_15.1 0 7)).bind fun x10 =>
  nm (((((10 : Int32) * v4_15) + x10) - (48 : Int32))) fun x11 =>
  (pfi s_15 0 7 ((s_15.1 0 7) + (1 : Int32))).bind fun s12 =>
  some (.inl (x11, s12)))))
def f_X9_takes_15 (v1 : Int32) (v2_15 : Int32) (v3_15 : Int32) (v4_15 : Int32) (s_15 : Sg) : Option ((Int32 × Sg) ⊕ (Int32 × Sg)) :=
  itr 3000 (fun s => f_X9_takes_15s v1 v2_15 v3_15 s.1 s.2) (v4_15, s_15)
def f_X9_takes_2s (v1 : Int32) (v2_2 : Int32) (s_2 : Sg) : Option ((Int32 × Sg) ⊕ (Int32 × Sg)) :=
  if v1 ≤ v2_2 then (
  (zrt 1).bind fun x1 =>
  some (.inr ((x1, s_2))))
  else (
  nm ((s_2.1 0 7)) fun x2 =>
  f_X9_takes_15 v1 v2_2 x2 0 s_2)
def f_X9_takes_2 (v1 : Int32) (v2_2 : Int32) (s_2 : Sg) : Option (Int32 × Sg) :=
  itr 3000 (fun s => f_X9_takes_2s v1 s.1 s.2) (v2_2, s_2)
def f_X9_takes (v1 : Int32) (σ : Sg) : Option (Int32 × Sg) :=
  f_X9_takes_2 v1 0 σ
def f_X9_isRead_17 (t0_17 : Int32) (σ : Sg) : Option Int32 :=
  (zrt t0_17).bind fun x2 =>
  some (x2)
def f_X9_isRead (v1 : Int32) (σ : Sg) : Option Int32 :=
  (ald σ 1 660 605).bind fun x1 =>
  if x1 ≤ v1 then (
  f_X9_isRead_17 0 σ)
  else (
  f_X9_isRead_17 1 σ)
def f_X9_readStep_125 (v1_125 : Int32) (s_125 : Sg) : Option (Int32 × Sg) :=
  (zrt v1_125).bind fun x2 =>
  some ((x2, s_125))
def f_X9_readStep_95 (t0_95 : Int32) (s_95 : Sg) : Option (Int32 × Sg) :=
  if t0_95 = 0 then (
  f_X9_readStep_125 t0_95 s_95)
  else (
  (ald s_95 4 3 0).bind fun x3 =>
  (ald s_95 4 3 1).bind fun x4 =>
  (ald s_95 4 3 2).bind fun x5 =>
  (f_X9_layStep 605 x3 x4 x5 s_95).bind fun q6 =>
  f_X9_readStep_125 t0_95 q6)
def f_X9_readStep_94 (s_94 : Sg) : Option (Int32 × Sg) :=
  f_X9_readStep_95 0 s_94
def f_X9_readStep (σ : Sg) : Option (Int32 × Sg) :=
  (f_X9_takes 3 σ).bind fun q1 =>
  if q1.1 = 0 then (
  f_X9_readStep_94 q1.2)
  else (
  (ald q1.2 4 3 0).bind fun x7 =>
  (f_X9_isRead x7 q1.2).bind fun q8 =>
  if q8 = 0 then (
  f_X9_readStep_94 q1.2)
  else (
  (ald q1.2 4 3 1).bind fun x9 =>
  (f_X9_isRead x9 q1.2).bind fun q10 =>
  if q10 = 0 then (
  f_X9_readStep_94 q1.2)
  else (
  (ald q1.2 4 3 2).bind fun x11 =>
  (f_X9_isRead x11 q1.2).bind fun q12 =>
  if q12 = 0 then (
  f_X9_readStep_94 q1.2)
  else (
  (ald q1.2 4 3 2).bind fun x13 =>
  (ald q1.2 4 3 0).bind fun x14 =>
  if x13 = x14 then (
  f_X9_readStep_94 q1.2)
  else (
  (ald q1.2 4 3 2).bind fun x15 =>
  (ald q1.2 4 3 1).bind fun x16 =>
  if x15 = x16 then (
  f_X9_readStep_94 q1.2)
  else (
  (ald q1.2 1 660 609).bind fun x17 =>
  if (10 : Int32) ≤ x17 then (
  f_X9_readStep_94 q1.2)
  else (
  f_X9_readStep_95 1 q1.2)))))))
def f_X9_readPair_111 (v1_111 : Int32) (s_111 : Sg) : Option (Int32 × Sg) :=
  (zrt v1_111).bind fun x2 =>
  some ((x2, s_111))
def f_X9_readPair_54 (t0_54 : Int32) (s_54 : Sg) : Option (Int32 × Sg) :=
  if t0_54 = 0 then (
  f_X9_readPair_111 t0_54 s_54)
  else (
  (ald s_54 4 3 0).bind fun x3 =>
  (ald s_54 1 660 ((650 : Int32) + x3)).bind fun x4 =>
  (ald s_54 4 3 1).bind fun x5 =>
  (ast s_54 1 660 ((650 : Int32) + x3) (x4 ||| ((1 : Int32) <<< (x5 &&& 31)))).bind fun s6 =>
  (ald s6 4 3 1).bind fun x7 =>
  (ald s6 1 660 ((650 : Int32) + x7)).bind fun x8 =>
  (ald s6 4 3 0).bind fun x9 =>
  (ast s6 1 660 ((650 : Int32) + x7) (x8 ||| ((1 : Int32) <<< (x9 &&& 31)))).bind fun s10 =>
  f_X9_readPair_111 t0_54 s10)
def f_X9_readPair_53 (s_53 : Sg) : Option (Int32 × Sg) :=
  f_X9_readPair_54 0 s_53
def f_X9_readPair (σ : Sg) : Option (Int32 × Sg) :=
  (f_X9_takes 2 σ).bind fun q1 =>
  if q1.1 = 0 then (
  f_X9_readPair_53 q1.2)
  else (
  (ald q1.2 4 3 0).bind fun x11 =>
  (f_X9_isRead x11 q1.2).bind fun q12 =>
  if q12 = 0 then (
  f_X9_readPair_53 q1.2)
  else (
  (ald q1.2 4 3 1).bind fun x13 =>
  (f_X9_isRead x13 q1.2).bind fun q14 =>
  if q14 = 0 then (
  f_X9_readPair_53 q1.2)
  else (
  (ald q1.2 4 3 0).bind fun x15 =>
  (ald q1.2 4 3 1).bind fun x16 =>
  if x15 = x16 then (
  f_X9_readPair_53 q1.2)
  else (
  f_X9_readPair_54 1 q1.2))))
def f_X9_readItem_308 (v2_308 : Int32) (t1_308 : Int32) (s_308 : Sg) : Option (Int32 × Sg) :=
  (pfz s_308 0 9 t1_308).bind fun s6 =>
  (zrt v2_308).bind fun x7 =>
  some ((x7, s6))
def f_X9_readItem_303 (v2_303 : Int32) (s_303 : Sg) : Option (Int32 × Sg) :=
  f_X9_readItem_308 v2_303 1 s_303
def f_X9_readItem_289 (v1_289 : Int32) (v2_289 : Int32) (s_289 : Sg) : Option (Int32 × Sg) :=
  if (s_289.1 0 9) = 0 then (
  if v1_289 = 110 then (
  f_X9_readItem_308 v2_289 0 s_289)
  else (
  f_X9_readItem_303 v2_289 s_289))
  else (
  f_X9_readItem_303 v2_289 s_289)
def f_X9_readItem_194 (v1_194 : Int32) (v2_194 : Int32) (t1_194 : Int32) (t2_194 : Int32) (t3_194 : Int32) (s_194 : Sg) : Option (Int32 × Sg) :=
  (ast s_194 1 660 t1_194 (t2_194 ||| t3_194)).bind fun s5 =>
  f_X9_readItem_289 v1_194 v2_194 s5
def f_X9_readItem_168 (v1_168 : Int32) (t0_168 : Int32) (s_168 : Sg) : Option (Int32 × Sg) :=
  (ald s_168 1 660 606).bind fun x4 =>
  if t0_168 = 0 then (
  f_X9_readItem_194 v1_168 t0_168 606 x4 0 s_168)
  else (
  (ald s_168 4 3 0).bind fun x8 =>
  f_X9_readItem_194 v1_168 t0_168 606 x4 ((1 : Int32) <<< (x8 &&& 31)) s_168)
def f_X9_readItem_167 (v1_167 : Int32) (s_167 : Sg) : Option (Int32 × Sg) :=
  f_X9_readItem_168 v1_167 0 s_167
def f_X9_readItem_138 (v1_138 : Int32) (v2_138 : Int32) (t1_138 : Int32) (t2_138 : Int32) (s_138 : Sg) : Option (Int32 × Sg) :=
  (ast s_138 1 660 t1_138 t2_138).bind fun s12 =>
  f_X9_readItem_289 v1_138 v2_138 s12
def f_X9_readItem_109 (v1_109 : Int32) (t0_109 : Int32) (s_109 : Sg) : Option (Int32 × Sg) :=
  if t0_109 = 0 then (
  (ald s_109 1 660 605).bind fun x11 =>
  f_X9_readItem_138 v1_109 t0_109 605 x11 s_109)
  else (
  (ald s_109 4 3 0).bind fun x13 =>
  f_X9_readItem_138 v1_109 t0_109 605 x13 s_109)
def f_X9_readItem_108 (v1_108 : Int32) (s_108 : Sg) : Option (Int32 × Sg) :=
  f_X9_readItem_109 v1_108 0 s_108
def f_X9_readItem_285 (v1_285 : Int32) (v2_285 : Int32) (t1_285 : Int32) (t2_285 : Int32) (s_285 : Sg) : Option (Int32 × Sg) :=
  (ast s_285 1 660 t1_285 t2_285).bind fun s20 =>
  f_X9_readItem_289 v1_285 v2_285 s20
def f_X9_readItem_263 (v1_263 : Int32) (v2_263 : Int32) (t1_263 : Int32) (t2_263 : Int32) (s_263 : Sg) : Option (Int32 × Sg) :=
  if v2_263 = 0 then (
  (ald s_263 1 660 640).bind fun x19 =>
  f_X9_readItem_285 v1_263 v2_263 (t1_263 + t2_263) x19 s_263)
  else (
  (ald s_263 4 3 1).bind fun x21 =>
  f_X9_readItem_285 v1_263 v2_263 (t1_263 + t2_263) x21 s_263)
def f_X9_readItem_241 (v1_241 : Int32) (t0_241 : Int32) (s_241 : Sg) : Option (Int32 × Sg) :=
  if t0_241 = 0 then (
  f_X9_readItem_263 v1_241 t0_241 640 0 s_241)
  else (
  (ald s_241 4 3 0).bind fun x22 =>
  f_X9_readItem_263 v1_241 t0_241 640 x22 s_241)
def f_X9_readItem_240 (v1_240 : Int32) (s_240 : Sg) : Option (Int32 × Sg) :=
  f_X9_readItem_241 v1_240 0 s_240
def f_X9_readItem (σ : Sg) : Option (Int32 × Sg) :=
  (ald σ 2 300 (σ.1 0 7)).bind fun x1 =>
  (pfi σ 0 7 ((σ.1 0 7) + (1 : Int32))).bind fun s2 =>
  if x1 = 97 then (
  (f_X9_takes 1 s2).bind fun q3 =>
  if q3.1 = 0 then (
  f_X9_readItem_167 x1 q3.2)
  else (
  (ald q3.2 4 3 0).bind fun x9 =>
  (f_X9_isRead x9 q3.2).bind fun q10 =>
  if q10 = 0 then (
  f_X9_readItem_167 x1 q3.2)
  else (
  f_X9_readItem_168 x1 1 q3.2)))
  else (
  if x1 = 110 then (
  if (s2.1 0 9) = 0 then (
  (f_X9_takes 1 s2).bind fun q14 =>
  if q14.1 = 0 then (
  f_X9_readItem_108 x1 q14.2)
  else (
  (ald q14.2 4 3 0).bind fun x15 =>
  (f_X9_in ((x15 : Int32).toInt64) 1 10).bind fun q16 =>
  if q16 = 0 then (
  f_X9_readItem_108 x1 q14.2)
  else (
  f_X9_readItem_109 x1 1 q14.2)))
  else (
  f_X9_readItem_108 x1 s2))
  else (
  if x1 = 116 then (
  (f_X9_readStep s2).bind fun q17 =>
  f_X9_readItem_289 x1 q17.1 q17.2)
  else (
  if x1 = 119 then (
  (f_X9_takes 2 s2).bind fun q18 =>
  if q18.1 = 0 then (
  f_X9_readItem_240 x1 q18.2)
  else (
  (ald q18.2 4 3 0).bind fun x23 =>
  (f_X9_isRead x23 q18.2).bind fun q24 =>
  if q24 = 0 then (
  f_X9_readItem_240 x1 q18.2)
  else (
  f_X9_readItem_241 x1 1 q18.2)))
  else (
  if x1 = 120 then (
  (f_X9_readPair s2).bind fun q25 =>
  f_X9_readItem_289 x1 q25.1 q25.2)
  else (
  f_X9_readItem_289 x1 0 s2)))))
def f_X9_fault_17s (s_17 : Sg) : Option ((Sg) ⊕ (Int32 × Sg)) :=
  if (s_17.1 0 4) ≤ (s_17.1 0 7) then (
  some (.inr (((-4), s_17))))
  else (
  nm ((s_17.1 0 7)) fun x4 =>
  (f_X9_readItem s_17).bind fun q5 =>
  if q5.1 = 0 then (
  some (.inr ((x4, q5.2))))
  else (
  some (.inl (q5.2))))
def f_X9_fault_17 (s_17 : Sg) : Option (Int32 × Sg) :=
  itr 3000 (fun s => f_X9_fault_17s s) (s_17)
def f_X9_fault (σ : Sg) : Option (Int32 × Sg) :=
  (f_X9_makeAnew 605 σ).bind fun q1 =>
  (pfz q1 0 9 0).bind fun s2 =>
  (pfi s2 0 7 0).bind fun s3 =>
  f_X9_fault_17 s3
def f_X9_layFloor_20 (s_20 : Sg) : Option (Int32 × Sg) :=
  some (((-2), s_20))
def f_X9_layFloor (σ : Sg) : Option (Int32 × Sg) :=
  (f_X9_fault σ).bind fun q1 =>
  if q1.1 = (-4) then (
  (ald q1.2 1 660 609).bind fun x2 =>
  if x2 = 0 then (
  f_X9_layFloor_20 q1.2)
  else (
  (f_X9_copy 605 0 q1.2).bind fun q3 =>
  (f_X9_settle 0 q3).bind fun q4 =>
  (pfi q4 0 6 0).bind fun s5 =>
  (pfi s5 0 2 0).bind fun s6 =>
  (pfi s6 0 1 0).bind fun s7 =>
  (ald s7 1 660 0).bind fun x8 =>
  some ((x8, s7))))
  else (
  f_X9_layFloor_20 q1.2)
def f_X9_may_115 (t0_115 : Int32) (σ : Sg) : Option Int32 :=
  (zrt t0_115).bind fun x6 =>
  some (x6)
def f_X9_may_114 (σ : Sg) : Option Int32 :=
  f_X9_may_115 0 σ
def f_X9_may (v1 : Int32) (σ : Sg) : Option Int32 :=
  (ald σ 1 660 ((5 : Int32) + v1)).bind fun x1 =>
  (ald σ 1 660 ((15 : Int32) + v1)).bind fun x2 =>
  (ald σ 1 660 ((25 : Int32) + v1)).bind fun x3 =>
  nm (((((1 : Int32) <<< (x1 &&& 31)) ||| ((1 : Int32) <<< (x2 &&& 31))) ||| ((1 : Int32) <<< (x3 &&& 31)))) fun x4 =>
  (ald σ 1 660 2).bind fun x5 =>
  if (x4 &&& (x5 ^^^ ((-1) : Int32))) = 0 then (
  (ald σ 1 660 3).bind fun x7 =>
  (ald σ 1 660 ((5 : Int32) + v1)).bind fun x8 =>
  (f_X9_has x7 x8).bind fun q9 =>
  if q9 = 0 then (
  f_X9_may_114 σ)
  else (
  (ald σ 1 660 3).bind fun x10 =>
  (ald σ 1 660 ((15 : Int32) + v1)).bind fun x11 =>
  (f_X9_has x10 x11).bind fun q12 =>
  if q12 = 0 then (
  f_X9_may_114 σ)
  else (
  (ald σ 1 660 3).bind fun x13 =>
  (ald σ 1 660 ((25 : Int32) + v1)).bind fun x14 =>
  (f_X9_has x13 x14).bind fun q15 =>
  if q15 = 0 then (
  f_X9_may_115 1 σ)
  else (
  f_X9_may_114 σ))))
  else (
  f_X9_may_114 σ)
def f_X9_stone_20 (σ : Sg) : Option Int32 :=
  some ((-1))
def f_X9_stone_101 (t0_101 : Int32) (σ : Sg) : Option Int32 :=
  some (t0_101)
def f_X9_stone (v1 : Int32) (v2 : Int32) (σ : Sg) : Option Int32 :=
  (f_X9_isStone v1 σ).bind fun q1 =>
  if q1 = 0 then (
  f_X9_stone_20 σ)
  else (
  (f_X9_in ((v2 : Int32).toInt64) 0 4).bind fun q2 =>
  if q2 = 0 then (
  f_X9_stone_20 σ)
  else (
  if v2 = 0 then (
  (ald σ 1 660 2).bind fun x7 =>
  f_X9_stone_101 ((x7 >>> (v1 &&& 31)) &&& (1 : Int32)) σ)
  else (
  if v2 = 1 then (
  (ald σ 1 660 3).bind fun x6 =>
  f_X9_stone_101 ((x6 >>> (v1 &&& 31)) &&& (1 : Int32)) σ)
  else (
  if v2 = 2 then (
  (ald σ 1 660 1).bind fun x5 =>
  f_X9_stone_101 ((x5 >>> (v1 &&& 31)) &&& (1 : Int32)) σ)
  else (
  if v2 = 3 then (
  (ald σ 1 660 ((35 : Int32) + v1)).bind fun x4 =>
  f_X9_stone_101 x4 σ)
  else (
  (ald σ 1 660 ((45 : Int32) + v1)).bind fun x3 =>
  f_X9_stone_101 x3 σ))))))
def f_X9_step_20 (σ : Sg) : Option Int32 :=
  some ((-1))
def f_X9_step_84 (t0_84 : Int32) (σ : Sg) : Option Int32 :=
  some (t0_84)
def f_X9_step (v1 : Int32) (v2 : Int32) (σ : Sg) : Option Int32 :=
  (f_X9_isStep v1 σ).bind fun q1 =>
  if q1 = 0 then (
  f_X9_step_20 σ)
  else (
  (f_X9_in ((v2 : Int32).toInt64) 0 3).bind fun q2 =>
  if q2 = 0 then (
  f_X9_step_20 σ)
  else (
  if v2 = 0 then (
  (ald σ 1 660 ((5 : Int32) + v1)).bind fun x6 =>
  f_X9_step_84 x6 σ)
  else (
  if v2 = 1 then (
  (ald σ 1 660 ((15 : Int32) + v1)).bind fun x5 =>
  f_X9_step_84 x5 σ)
  else (
  if v2 = 2 then (
  (ald σ 1 660 ((25 : Int32) + v1)).bind fun x4 =>
  f_X9_step_84 x4 σ)
  else (
  (f_X9_may v1 σ).bind fun q3 =>
  if q3 = 0 then (
  f_X9_step_84 0 σ)
  else (
  f_X9_step_84 1 σ))))))
def f_X9_minds_57 (s_57 : Sg) : Option Sg :=
  (f_X9_copy 0 ((165 : Int32) + ((55 : Int32) * (s_57.1 0 2))) s_57).bind fun q1 =>
  (pfi q1 0 2 ((q1.1 0 2) + (1 : Int32))).bind fun s2 =>
  some (s2)
def f_X9_minds_11s (v1_11 : Int32) (s_11 : Sg) : Option ((Int32 × Sg) ⊕ Sg) :=
  if (385 : Int32) ≤ v1_11 then (
  (pfi s_11 0 2 ((s_11.1 0 2) - (1 : Int32))).bind fun s3 =>
  (f_X9_minds_57 s3).map (fun z => .inr (z)))
  else (
  (ald s_11 1 660 (((165 : Int32) + v1_11) + (55 : Int32))).bind fun x4 =>
  (ast s_11 1 660 ((165 : Int32) + v1_11) x4).bind fun s5 =>
  nm (v1_11 + 1) fun x6 =>
  some (.inl (x6, s5)))
def f_X9_minds_11 (v1_11 : Int32) (s_11 : Sg) : Option Sg :=
  itr 3000 (fun s => f_X9_minds_11s s.1 s.2) (v1_11, s_11)
def f_X9_minds (σ : Sg) : Option Sg :=
  if (σ.1 0 2) = 8 then (
  f_X9_minds_11 0 σ)
  else (
  f_X9_minds_57 σ)
def f_X9_go (v1 : Int32) (σ : Sg) : Option (Int32 × Sg) :=
  (f_X9_isStep v1 σ).bind fun q1 =>
  if q1 = 0 then (
  some (((-1), σ)))
  else (
  (f_X9_may v1 σ).bind fun q2 =>
  if q2 = 0 then (
  some (((-2), σ)))
  else (
  (f_X9_minds σ).bind fun q3 =>
  (ald q3 1 660 3).bind fun x4 =>
  (ald q3 1 660 ((25 : Int32) + v1)).bind fun x5 =>
  (ast q3 1 660 3 (x4 ||| ((1 : Int32) <<< (x5 &&& 31)))).bind fun s6 =>
  (ald s6 1 660 ((25 : Int32) + v1)).bind fun x7 =>
  (ald s6 1 660 ((35 : Int32) + x7)).bind fun x8 =>
  (ast s6 1 660 ((35 : Int32) + x7) (x8 + (1 : Int32))).bind fun s9 =>
  (ald s9 1 660 3).bind fun x10 =>
  (f_X9_ones x10).bind fun q11 =>
  some ((q11, s9))))
def f_X9_takeOut (v1 : Int32) (σ : Sg) : Option (Int32 × Sg) :=
  (f_X9_isStone v1 σ).bind fun q1 =>
  if q1 = 0 then (
  some (((-1), σ)))
  else (
  (ald σ 1 660 2).bind fun x2 =>
  (f_X9_has x2 v1).bind fun q3 =>
  if q3 = 0 then (
  some (((-2), σ)))
  else (
  (f_X9_minds σ).bind fun q4 =>
  (ald q4 1 660 2).bind fun x5 =>
  (ast q4 1 660 2 (x5 &&& (((1 : Int32) <<< (v1 &&& 31)) ^^^ ((-1) : Int32)))).bind fun s6 =>
  (ald s6 1 660 3).bind fun x7 =>
  (ast s6 1 660 3 (x7 &&& (((1 : Int32) <<< (v1 &&& 31)) ^^^ ((-1) : Int32)))).bind fun s8 =>
  (ald s8 1 660 2).bind fun x9 =>
  (f_X9_ones x9).bind fun q10 =>
  some ((q10, s8))))
def f_X9_lay_34 (s_34 : Sg) : Option (Int32 × Sg) :=
  some (((-1), s_34))
def f_X9_lay (v1 : Int32) (v2 : Int32) (v3 : Int32) (σ : Sg) : Option (Int32 × Sg) :=
  (f_X9_isStone v1 σ).bind fun q1 =>
  if q1 = 0 then (
  f_X9_lay_34 σ)
  else (
  (f_X9_isStone v2 σ).bind fun q2 =>
  if q2 = 0 then (
  f_X9_lay_34 σ)
  else (
  (f_X9_isStone v3 σ).bind fun q3 =>
  if q3 = 0 then (
  f_X9_lay_34 σ)
  else (
  if v1 = v3 then (
  f_X9_lay_34 σ)
  else (
  if v2 = v3 then (
  f_X9_lay_34 σ)
  else (
  (ald σ 1 660 4).bind fun x4 =>
  if x4 = 10 then (
  some (((-3), σ)))
  else (
  (f_X9_minds σ).bind fun q5 =>
  (f_X9_layStep 0 v1 v2 v3 q5).bind fun q6 =>
  (ald q6 1 660 4).bind fun x7 =>
  some (((x7 - (1 : Int32)), q6))))))))
def f_X9_undo (σ : Sg) : Option (Int32 × Sg) :=
  if (σ.1 0 2) = 0 then (
  some (((-2), σ)))
  else (
  (pfi σ 0 2 ((σ.1 0 2) - (1 : Int32))).bind fun s1 =>
  (f_X9_copy ((165 : Int32) + ((55 : Int32) * (s1.1 0 2))) 0 s1).bind fun q2 =>
  (pfi q2 0 6 0).bind fun s3 =>
  some (((s3.1 0 2), s3)))
def f_X9_closure_157 (v2 : Int32) (v3 : Int32) (v4_157 : Int32) (v6_157 : Int32) (t0_157 : Int32) (σ : Sg) : Option ((Int32 × Int32 × Int32) ⊕ ((Int32 × Int32) ⊕ Int32)) :=
  nm (v6_157 + 1) fun x5 =>
  some (.inl (v4_157, t0_157, x5))
def f_X9_closure_152 (v2 : Int32) (v3 : Int32) (v4_152 : Int32) (v6_152 : Int32) (σ : Sg) : Option ((Int32 × Int32 × Int32) ⊕ ((Int32 × Int32) ⊕ Int32)) :=
  f_X9_closure_157 v2 v3 v4_152 v6_152 1 σ
def f_X9_closure_139 (v2 : Int32) (v3 : Int32) (v5_139 : Int32) (v6_139 : Int32) (v7_139 : Int32) (t0_139 : Int32) (t1_139 : Int32) (σ : Sg) : Option ((Int32 × Int32 × Int32) ⊕ ((Int32 × Int32) ⊕ Int32)) :=
  nm ((t0_139 ||| t1_139)) fun x4 =>
  if v5_139 = 0 then (
  if v7_139 = 0 then (
  f_X9_closure_157 v2 v3 x4 v6_139 0 σ)
  else (
  f_X9_closure_152 v2 v3 x4 v6_139 σ))
  else (
  f_X9_closure_152 v2 v3 x4 v6_139 σ)
def f_X9_closure_114 (v2 : Int32) (v3 : Int32) (v4_114 : Int32) (v5_114 : Int32) (v6_114 : Int32) (t0_114 : Int32) (σ : Sg) : Option ((Int32 × Int32 × Int32) ⊕ ((Int32 × Int32) ⊕ Int32)) :=
  if t0_114 = 0 then (
  f_X9_closure_139 v2 v3 v5_114 v6_114 t0_114 v4_114 0 σ)
  else (
  (ald σ 1 660 ((25 : Int32) + v6_114)).bind fun x6 =>
  f_X9_closure_139 v2 v3 v5_114 v6_114 t0_114 v4_114 ((1 : Int32) <<< (x6 &&& 31)) σ)
def f_X9_closure_113 (v2 : Int32) (v3 : Int32) (v4_113 : Int32) (v5_113 : Int32) (v6_113 : Int32) (σ : Sg) : Option ((Int32 × Int32 × Int32) ⊕ ((Int32 × Int32) ⊕ Int32)) :=
  f_X9_closure_114 v2 v3 v4_113 v5_113 v6_113 0 σ
def f_X9_closure_19s (v2 : Int32) (v3 : Int32) (v4_19 : Int32) (v5_19 : Int32) (v6_19 : Int32) (σ : Sg) : Option ((Int32 × Int32 × Int32) ⊕ ((Int32 × Int32) ⊕ Int32)) :=
  (ald σ 1 660 4).bind fun x2 =>
  if x2 ≤ v6_19 then (
  some (.inr (.inl (v4_19, v5_19))))
  else (
  (f_X9_has v2 v6_19).bind fun q3 =>
  if q3 = 0 then (
  f_X9_closure_113 v2 v3 v4_19 v5_19 v6_19 σ)
  else (
  (ald σ 1 660 ((5 : Int32) + v6_19)).bind fun x7 =>
  (f_X9_has v4_19 x7).bind fun q8 =>
  if q8 = 0 then (
  f_X9_closure_113 v2 v3 v4_19 v5_19 v6_19 σ)
  else (
  (ald σ 1 660 ((15 : Int32) + v6_19)).bind fun x9 =>
  (f_X9_has v4_19 x9).bind fun q10 =>
  if q10 = 0 then (
  f_X9_closure_113 v2 v3 v4_19 v5_19 v6_19 σ)
  else (
  (ald σ 1 660 ((25 : Int32) + v6_19)).bind fun x11 =>
  (f_X9_has v3 x11).bind fun q12 =>
  if q12 = 0 then (
  f_X9_closure_113 v2 v3 v4_19 v5_19 v6_19 σ)
  else (
  (ald σ 1 660 ((25 : Int32) + v6_19)).bind fun x13 =>
  (f_X9_has v4_19 x13).bind fun q14 =>
  if q14 = 0 then (
  f_X9_closure_114 v2 v3 v4_19 v5_19 v6_19 1 σ)
  else (
  f_X9_closure_113 v2 v3 v4_19 v5_19 v6_19 σ))))))
def f_X9_closure_19 (v2 : Int32) (v3 : Int32) (v4_19 : Int32) (v5_19 : Int32) (v6_19 : Int32) (σ : Sg) : Option ((Int32 × Int32) ⊕ Int32) :=
  itr 3000 (fun s => f_X9_closure_19s v2 v3 s.1 s.2.1 s.2.2 σ) (v4_19, v5_19, v6_19)
def f_X9_closure_8s (v2 : Int32) (v3 : Int32) (v4_8 : Int32) (v5_8 : Int32) (σ : Sg) : Option ((Int32 × Int32) ⊕ Int32) :=
  if v5_8 = 0 then (
  some (.inr (v4_8)))
  else (
  f_X9_closure_19 v2 v3 v4_8 0 0 σ)
def f_X9_closure_8 (v2 : Int32) (v3 : Int32) (v4_8 : Int32) (v5_8 : Int32) (σ : Sg) : Option Int32 :=
  itr 3000 (fun s => f_X9_closure_8s v2 v3 s.1 s.2 σ) (v4_8, v5_8)
def f_X9_closure (v1 : Int32) (v2 : Int32) (v3 : Int32) (σ : Sg) : Option Int32 :=
  nm ((v1 &&& v3)) fun x1 =>
  f_X9_closure_8 v2 v3 x1 1 σ
def f_X9_allSteps (σ : Sg) : Option Int32 :=
  (ald σ 1 660 4).bind fun x1 =>
  some ((((1 : Int32) <<< (x1 &&& 31)) - (1 : Int32)))
def f_X9_reachOf (v1 : Int32) (σ : Sg) : Option Int32 :=
  (f_X9_allSteps σ).bind fun q1 =>
  (ald σ 1 660 2).bind fun x2 =>
  (f_X9_closure v1 q1 x2 σ).bind fun q3 =>
  some (q3)
def f_X9_beginnings (σ : Sg) : Option Int32 :=
  (ald σ 1 660 1).bind fun x1 =>
  (ald σ 1 660 2).bind fun x2 =>
  some ((x1 &&& x2))
def f_X9_reach_17 (t0_17 : Int32) (σ : Sg) : Option Int32 :=
  some (t0_17)
def f_X9_reach (v1 : Int32) (σ : Sg) : Option Int32 :=
  (f_X9_isSet v1 σ).bind fun q1 =>
  if q1 = 0 then (
  f_X9_reach_17 (-1) σ)
  else (
  (f_X9_reachOf v1 σ).bind fun q2 =>
  f_X9_reach_17 q2 σ)
def f_X9_mayFrom_73 (t0_73 : Int32) (σ : Sg) : Option Int32 :=
  (zrt t0_73).bind fun x4 =>
  some (x4)
def f_X9_mayFrom_72 (σ : Sg) : Option Int32 :=
  f_X9_mayFrom_73 0 σ
def f_X9_mayFrom (v1 : Int32) (v2 : Int32) (σ : Sg) : Option Int32 :=
  (ald σ 1 660 2).bind fun x1 =>
  (ald σ 1 660 ((25 : Int32) + v2)).bind fun x2 =>
  (f_X9_has x1 x2).bind fun q3 =>
  if q3 = 0 then (
  f_X9_mayFrom_72 σ)
  else (
  (ald σ 1 660 ((25 : Int32) + v2)).bind fun x5 =>
  (f_X9_has v1 x5).bind fun q6 =>
  if q6 = 0 then (
  (ald σ 1 660 ((5 : Int32) + v2)).bind fun x7 =>
  (f_X9_has v1 x7).bind fun q8 =>
  if q8 = 0 then (
  f_X9_mayFrom_72 σ)
  else (
  (ald σ 1 660 ((15 : Int32) + v2)).bind fun x9 =>
  (f_X9_has v1 x9).bind fun q10 =>
  if q10 = 0 then (
  f_X9_mayFrom_72 σ)
  else (
  f_X9_mayFrom_73 1 σ)))
  else (
  f_X9_mayFrom_72 σ))
def f_X9_layWalks_233 (v1 : Int32) (v2_233 : Int32) (s_233 : Sg) : Option ((Int32 × Sg) ⊕ Sg) :=
  nm (v2_233 + (-1)) fun x8 =>
  some (.inl (x8, s_233))
def f_X9_layWalks_227 (v1 : Int32) (v2_56 : Int32) (v3_227 : Int32) (s_227 : Sg) : Option ((Int32 × Sg) ⊕ ((Int32 × Sg) ⊕ Sg)) :=
  nm (v3_227 + 1) fun x13 =>
  some (.inl (x13, s_227))
def f_X9_layWalks_226 (v1 : Int32) (v2_56 : Int32) (v3_226 : Int32) (t1_226 : Int32) (t2_226 : Int32) (s_226 : Sg) : Option ((Int32 × Sg) ⊕ ((Int32 × Sg) ⊕ Sg)) :=
  (ast s_226 6 1024 t1_226 t2_226).bind fun s24 =>
  f_X9_layWalks_227 v1 v2_56 v3_226 s24
def f_X9_layWalks_184 (v1 : Int32) (v2_56 : Int32) (v3_184 : Int32) (v4_184 : Int32) (t1_184 : Int32) (t2_184 : Int64) (s_184 : Sg) : Option ((Int32 × Sg) ⊕ ((Int32 × Sg) ⊕ Sg)) :=
  (astL s_184 5 1024 t1_184 t2_184).bind fun s20 =>
  (ald s20 6 1024 v4_184).bind fun x21 =>
  (ald s20 6 1024 v2_56).bind fun x22 =>
  if x22 ≤ (x21 + (1 : Int32)) then (
  (ald s20 6 1024 v2_56).bind fun x23 =>
  f_X9_layWalks_226 v1 v2_56 v3_184 v2_56 x23 s20)
  else (
  (ald s20 6 1024 v4_184).bind fun x25 =>
  f_X9_layWalks_226 v1 v2_56 v3_184 v2_56 (x25 + (1 : Int32)) s20)
def f_X9_layWalks_56s (v1 : Int32) (v2_56 : Int32) (v3_56 : Int32) (s_56 : Sg) : Option ((Int32 × Sg) ⊕ ((Int32 × Sg) ⊕ Sg)) :=
  (ald s_56 1 660 4).bind fun x7 =>
  if x7 ≤ v3_56 then (
  (f_X9_layWalks_233 v1 v2_56 s_56).map (fun z => .inr (z)))
  else (
  (f_X9_has v2_56 v1).bind fun q9 =>
  if q9 = 0 then (
  (ald s_56 1 660 ((25 : Int32) + v3_56)).bind fun x10 =>
  nm ((v2_56 ||| ((1 : Int32) <<< (x10 &&& 31)))) fun x11 =>
  (f_X9_mayFrom v2_56 v3_56 s_56).bind fun q12 =>
  if q12 = 0 then (
  f_X9_layWalks_227 v1 v2_56 v3_56 s_56)
  else (
  (ald s_56 6 1024 x11).bind fun x14 =>
  if (100 : Int32) ≤ x14 then (
  f_X9_layWalks_227 v1 v2_56 v3_56 s_56)
  else (
  (ald s_56 6 1024 x11).bind fun x15 =>
  (ald s_56 6 1024 v2_56).bind fun x16 =>
  if x16 ≤ (x15 + (1 : Int32)) then (
  (ald s_56 6 1024 x11).bind fun x17 =>
  (ald s_56 6 1024 v2_56).bind fun x18 =>
  if (x17 + (1 : Int32)) = x18 then (
  (aldL s_56 5 1024 v2_56).bind fun x26 =>
  (aldL s_56 5 1024 x11).bind fun x27 =>
  f_X9_layWalks_184 v1 v2_56 v3_56 x11 v2_56 (x26 + x27) s_56)
  else (
  (aldL s_56 5 1024 v2_56).bind fun x19 =>
  f_X9_layWalks_184 v1 v2_56 v3_56 x11 v2_56 x19 s_56))
  else (
  (aldL s_56 5 1024 x11).bind fun x28 =>
  f_X9_layWalks_184 v1 v2_56 v3_56 x11 v2_56 x28 s_56))))
  else (
  (f_X9_layWalks_233 v1 v2_56 s_56).map (fun z => .inr (z))))
def f_X9_layWalks_56 (v1 : Int32) (v2_56 : Int32) (v3_56 : Int32) (s_56 : Sg) : Option ((Int32 × Sg) ⊕ Sg) :=
  itr 3000 (fun s => f_X9_layWalks_56s v1 v2_56 s.1 s.2) (v3_56, s_56)
def f_X9_layWalks_53 (v1 : Int32) (v2_53 : Int32) (t1_53 : Int32) (t2_53 : Int64) (s_53 : Sg) : Option ((Int32 × Sg) ⊕ Sg) :=
  (astL s_53 5 1024 t1_53 t2_53).bind fun s6 =>
  f_X9_layWalks_56 v1 v2_53 0 s6
def f_X9_layWalks_34 (v1 : Int32) (v2_34 : Int32) (t1_34 : Int32) (t2_34 : Int32) (s_34 : Sg) : Option ((Int32 × Sg) ⊕ Sg) :=
  (ast s_34 6 1024 t1_34 t2_34).bind fun s4 =>
  (f_X9_has v2_34 v1).bind fun q5 =>
  if q5 = 0 then (
  f_X9_layWalks_53 v1 v2_34 v2_34 0 s4)
  else (
  f_X9_layWalks_53 v1 v2_34 v2_34 1 s4)
def f_X9_layWalks_11s (v1 : Int32) (v2_11 : Int32) (s_11 : Sg) : Option ((Int32 × Sg) ⊕ Sg) :=
  if v2_11 < 0 then (
  some (.inr (s_11)))
  else (
  (f_X9_has v2_11 v1).bind fun q3 =>
  if q3 = 0 then (
  f_X9_layWalks_34 v1 v2_11 v2_11 100 s_11)
  else (
  f_X9_layWalks_34 v1 v2_11 v2_11 0 s_11))
def f_X9_layWalks_11 (v1 : Int32) (v2_11 : Int32) (s_11 : Sg) : Option Sg :=
  itr 3000 (fun s => f_X9_layWalks_11s v1 s.1 s.2) (v2_11, s_11)
def f_X9_layWalks (v1 : Int32) (σ : Sg) : Option Sg :=
  (ald σ 1 660 0).bind fun x1 =>
  nm ((((1 : Int32) <<< (x1 &&& 31)) - (1 : Int32))) fun x2 =>
  f_X9_layWalks_11 v1 x2 σ
def f_X9_walk_20 (s_20 : Sg) : Option (Int64 × Sg) :=
  some (((-1), s_20))
def f_X9_walk_177 (t0_177 : Int64) (s_177 : Sg) : Option (Int64 × Sg) :=
  some ((t0_177, s_177))
def f_X9_walk_138 (v2 : Int32) (v3_65 : Int32) (v5_138 : Int32) (t0_138 : Int32) (s_65 : Sg) : Option ((Int32 × Int32) ⊕ (Int64 × Sg)) :=
  nm (v5_138 + (-1)) fun x11 =>
  some (.inl (t0_138, x11))
def f_X9_walk_124 (v2 : Int32) (v3_65 : Int32) (v4_124 : Int32) (v5_124 : Int32) (t0_124 : Int32) (s_65 : Sg) : Option ((Int32 × Int32) ⊕ (Int64 × Sg)) :=
  if t0_124 = 0 then (
  f_X9_walk_138 v2 v3_65 v5_124 v4_124 s_65)
  else (
  f_X9_walk_138 v2 v3_65 v5_124 v5_124 s_65)
def f_X9_walk_123 (v2 : Int32) (v3_65 : Int32) (v4_123 : Int32) (v5_123 : Int32) (s_65 : Sg) : Option ((Int32 × Int32) ⊕ (Int64 × Sg)) :=
  f_X9_walk_124 v2 v3_65 v4_123 v5_123 0 s_65
def f_X9_walk_65s (v2 : Int32) (v3_65 : Int32) (v4_65 : Int32) (v5_65 : Int32) (s_65 : Sg) : Option ((Int32 × Int32) ⊕ (Int64 × Sg)) :=
  if v5_65 < 0 then (
  if v2 = 0 then (
  (ald s_65 6 1024 v3_65).bind fun x9 =>
  (f_X9_walk_177 ((x9 : Int32).toInt64) s_65).map (fun z => .inr (z)))
  else (
  if v2 = 1 then (
  (f_X9_walk_177 ((v4_65 : Int32).toInt64) s_65).map (fun z => .inr (z)))
  else (
  (aldL s_65 5 1024 v3_65).bind fun x8 =>
  (f_X9_walk_177 x8 s_65).map (fun z => .inr (z)))))
  else (
  (ald s_65 6 1024 v3_65).bind fun x10 =>
  if x10 ≤ 0 then (
  f_X9_walk_123 v2 v3_65 v4_65 v5_65 s_65)
  else (
  (f_X9_mayFrom v3_65 v5_65 s_65).bind fun q12 =>
  if q12 = 0 then (
  f_X9_walk_123 v2 v3_65 v4_65 v5_65 s_65)
  else (
  (ald s_65 1 660 ((25 : Int32) + v5_65)).bind fun x13 =>
  (ald s_65 6 1024 (v3_65 ||| ((1 : Int32) <<< (x13 &&& 31)))).bind fun x14 =>
  (ald s_65 6 1024 v3_65).bind fun x15 =>
  if x14 = (x15 - (1 : Int32)) then (
  f_X9_walk_124 v2 v3_65 v4_65 v5_65 1 s_65)
  else (
  f_X9_walk_123 v2 v3_65 v4_65 v5_65 s_65))))
def f_X9_walk_65 (v2 : Int32) (v3_65 : Int32) (v4_65 : Int32) (v5_65 : Int32) (s_65 : Sg) : Option (Int64 × Sg) :=
  itr 3000 (fun s => f_X9_walk_65s v2 v3_65 s.1 s.2 s_65) (v4_65, v5_65)
def f_X9_walk (v1 : Int32) (v2 : Int32) (σ : Sg) : Option (Int64 × Sg) :=
  (f_X9_isStone v1 σ).bind fun q1 =>
  if q1 = 0 then (
  f_X9_walk_20 σ)
  else (
  (f_X9_in ((v2 : Int32).toInt64) 0 2).bind fun q2 =>
  if q2 = 0 then (
  f_X9_walk_20 σ)
  else (
  (f_X9_layWalks v1 σ).bind fun q3 =>
  (ald q3 1 660 3).bind fun x4 =>
  (ald q3 6 1024 x4).bind fun x5 =>
  if x5 = 100 then (
  some (((-4), q3)))
  else (
  (ald q3 1 660 4).bind fun x6 =>
  nm ((x6 - (1 : Int32))) fun x7 =>
  f_X9_walk_65 v2 x4 (-4) x7 q3)))
def f_X9_round_80 (v1 : Int32) (v2_41 : Int32) (v3_41 : Int32) (v5_80 : Int32) (t0_80 : Int32) (t1_80 : Int32) (σ : Sg) : Option ((Int32 × Int32) ⊕ ((Int32 × Int32) ⊕ Int32)) :=
  nm ((t0_80 ||| t1_80)) fun x7 =>
  nm (v5_80 + 1) fun x8 =>
  some (.inl (x7, x8))
def f_X9_round_41s (v1 : Int32) (v2_41 : Int32) (v3_41 : Int32) (v4_41 : Int32) (v5_41 : Int32) (σ : Sg) : Option ((Int32 × Int32) ⊕ ((Int32 × Int32) ⊕ Int32)) :=
  (ald σ 1 660 4).bind fun x4 =>
  if x4 ≤ v5_41 then (
  nm (v3_41 + 1) fun x5 =>
  some (.inr (.inl (v4_41, x5))))
  else (
  (f_X9_mayFrom v2_41 v5_41 σ).bind fun q6 =>
  if q6 = 0 then (
  f_X9_round_80 v1 v2_41 v3_41 v5_41 v4_41 0 σ)
  else (
  (ald σ 1 660 ((25 : Int32) + v5_41)).bind fun x9 =>
  f_X9_round_80 v1 v2_41 v3_41 v5_41 v4_41 ((1 : Int32) <<< (x9 &&& 31)) σ))
def f_X9_round_41 (v1 : Int32) (v2_41 : Int32) (v3_41 : Int32) (v4_41 : Int32) (v5_41 : Int32) (σ : Sg) : Option ((Int32 × Int32) ⊕ Int32) :=
  itr 3000 (fun s => f_X9_round_41s v1 v2_41 v3_41 s.1 s.2 σ) (v4_41, v5_41)
def f_X9_round_19s (v1 : Int32) (v2_19 : Int32) (v3_19 : Int32) (σ : Sg) : Option ((Int32 × Int32) ⊕ Int32) :=
  if (10 : Int32) < v3_19 then (
  some (.inr ((-4))))
  else (
  (f_X9_has v2_19 v1).bind fun q3 =>
  if q3 = 0 then (
  f_X9_round_41 v1 v2_19 v3_19 v2_19 0 σ)
  else (
  some (.inr (v3_19))))
def f_X9_round_19 (v1 : Int32) (v2_19 : Int32) (v3_19 : Int32) (σ : Sg) : Option Int32 :=
  itr 3000 (fun s => f_X9_round_19s v1 s.1 s.2 σ) (v2_19, v3_19)
def f_X9_round (v1 : Int32) (σ : Sg) : Option Int32 :=
  (f_X9_isStone v1 σ).bind fun q1 =>
  if q1 = 0 then (
  some ((-1)))
  else (
  (ald σ 1 660 3).bind fun x2 =>
  f_X9_round_19 v1 x2 0 σ)
def f_X9_needs_18 (σ : Sg) : Option Int32 :=
  some ((-1))
def f_X9_needs_188 (t0_188 : Int32) (σ : Sg) : Option Int32 :=
  some (t0_188)
def f_X9_needs_168 (v1 : Int32) (v2 : Int32) (v3_119 : Int32) (v5_119 : Int32) (v6_168 : Int32) (t0_168 : Int32) (t1_168 : Int32) (σ : Sg) : Option ((Int32 × Int32) ⊕ Int32) :=
  nm ((t0_168 ||| t1_168)) fun x8 =>
  nm (v6_168 + 1) fun x9 =>
  some (.inl (x8, x9))
def f_X9_needs_167 (v1 : Int32) (v2 : Int32) (v3_119 : Int32) (v5_119 : Int32) (v6_167 : Int32) (t0_167 : Int32) (σ : Sg) : Option ((Int32 × Int32) ⊕ Int32) :=
  f_X9_needs_168 v1 v2 v3_119 v5_119 v6_167 t0_167 0 σ
def f_X9_needs_119s (v1 : Int32) (v2 : Int32) (v3_119 : Int32) (v4_119 : Int32) (v5_119 : Int32) (v6_119 : Int32) (σ : Sg) : Option ((Int32 × Int32) ⊕ Int32) :=
  (ald σ 1 660 0).bind fun x6 =>
  if x6 ≤ v6_119 then (
  if v2 = 0 then (
  (f_X9_needs_188 v4_119 σ).map (fun z => .inr (z)))
  else (
  (f_X9_needs_188 v5_119 σ).map (fun z => .inr (z))))
  else (
  (f_X9_has v3_119 v6_119).bind fun q7 =>
  if q7 = 0 then (
  f_X9_needs_167 v1 v2 v3_119 v5_119 v6_119 v4_119 σ)
  else (
  (f_X9_reachOf (v3_119 &&& (((1 : Int32) <<< (v6_119 &&& 31)) ^^^ ((-1) : Int32))) σ).bind fun q10 =>
  (f_X9_has q10 v1).bind fun q11 =>
  if q11 = 0 then (
  f_X9_needs_168 v1 v2 v3_119 v5_119 v6_119 v4_119 ((1 : Int32) <<< (v6_119 &&& 31)) σ)
  else (
  f_X9_needs_167 v1 v2 v3_119 v5_119 v6_119 v4_119 σ)))
def f_X9_needs_119 (v1 : Int32) (v2 : Int32) (v3_119 : Int32) (v4_119 : Int32) (v5_119 : Int32) (v6_119 : Int32) (σ : Sg) : Option Int32 :=
  itr 3000 (fun s => f_X9_needs_119s v1 v2 v3_119 s.1 v5_119 s.2 σ) (v4_119, v6_119)
def f_X9_needs_108 (v1 : Int32) (v2 : Int32) (v3_49 : Int32) (v4_49 : Int32) (v6_108 : Int32) (t0_108 : Int32) (σ : Sg) : Option ((Int32 × Int32) ⊕ Int32) :=
  nm (v6_108 + (-1)) fun x12 =>
  some (.inl (t0_108, x12))
def f_X9_needs_106 (v1 : Int32) (v2 : Int32) (v3_49 : Int32) (v4_49 : Int32) (v5_106 : Int32) (v6_106 : Int32) (σ : Sg) : Option ((Int32 × Int32) ⊕ Int32) :=
  f_X9_needs_108 v1 v2 v3_49 v4_49 v6_106 v5_106 σ
def f_X9_needs_81 (v1 : Int32) (v2 : Int32) (v3_49 : Int32) (v4_49 : Int32) (v5_81 : Int32) (v6_81 : Int32) (t0_81 : Int32) (σ : Sg) : Option ((Int32 × Int32) ⊕ Int32) :=
  if t0_81 = 0 then (
  f_X9_needs_106 v1 v2 v3_49 v4_49 v5_81 v6_81 σ)
  else (
  (f_X9_ones v6_81).bind fun q13 =>
  (f_X9_ones v5_81).bind fun q14 =>
  if q14 < q13 then (
  f_X9_needs_106 v1 v2 v3_49 v4_49 v5_81 v6_81 σ)
  else (
  f_X9_needs_108 v1 v2 v3_49 v4_49 v6_81 v6_81 σ))
def f_X9_needs_80 (v1 : Int32) (v2 : Int32) (v3_49 : Int32) (v4_49 : Int32) (v5_80 : Int32) (v6_80 : Int32) (σ : Sg) : Option ((Int32 × Int32) ⊕ Int32) :=
  f_X9_needs_81 v1 v2 v3_49 v4_49 v5_80 v6_80 0 σ
def f_X9_needs_49s (v1 : Int32) (v2 : Int32) (v3_49 : Int32) (v4_49 : Int32) (v5_49 : Int32) (v6_49 : Int32) (σ : Sg) : Option ((Int32 × Int32) ⊕ Int32) :=
  if v6_49 < 0 then (
  (f_X9_needs_119 v1 v2 v3_49 v4_49 v5_49 0 σ).map (fun z => .inr (z)))
  else (
  if (v6_49 &&& (v3_49 ^^^ ((-1) : Int32))) = 0 then (
  (f_X9_reachOf v6_49 σ).bind fun q15 =>
  (f_X9_has q15 v1).bind fun q16 =>
  if q16 = 0 then (
  f_X9_needs_80 v1 v2 v3_49 v4_49 v5_49 v6_49 σ)
  else (
  f_X9_needs_81 v1 v2 v3_49 v4_49 v5_49 v6_49 1 σ))
  else (
  f_X9_needs_80 v1 v2 v3_49 v4_49 v5_49 v6_49 σ))
def f_X9_needs_49 (v1 : Int32) (v2 : Int32) (v3_49 : Int32) (v4_49 : Int32) (v5_49 : Int32) (v6_49 : Int32) (σ : Sg) : Option Int32 :=
  itr 3000 (fun s => f_X9_needs_49s v1 v2 v3_49 v4_49 s.1 s.2 σ) (v5_49, v6_49)
def f_X9_needs (v1 : Int32) (v2 : Int32) (σ : Sg) : Option Int32 :=
  (f_X9_isStone v1 σ).bind fun q1 =>
  if q1 = 0 then (
  f_X9_needs_18 σ)
  else (
  (f_X9_in ((v2 : Int32).toInt64) 0 1).bind fun q2 =>
  if q2 = 0 then (
  f_X9_needs_18 σ)
  else (
  (f_X9_beginnings σ).bind fun q3 =>
  (f_X9_reachOf q3 σ).bind fun q4 =>
  (f_X9_has q4 v1).bind fun q5 =>
  if q5 = 0 then (
  some ((-4)))
  else (
  f_X9_needs_49 v1 v2 q3 0 q3 q3 σ)))
def f_X9_lost (v1 : Int32) (σ : Sg) : Option Int32 :=
  (f_X9_isStone v1 σ).bind fun q1 =>
  if q1 = 0 then (
  some ((-1)))
  else (
  (ald σ 1 660 2).bind fun x2 =>
  (f_X9_has x2 v1).bind fun q3 =>
  if q3 = 0 then (
  some ((-2)))
  else (
  (f_X9_beginnings σ).bind fun q4 =>
  (f_X9_reachOf q4 σ).bind fun q5 =>
  (f_X9_beginnings σ).bind fun q6 =>
  (f_X9_allSteps σ).bind fun q7 =>
  (ald σ 1 660 2).bind fun x8 =>
  (f_X9_closure (q6 &&& (((1 : Int32) <<< (v1 &&& 31)) ^^^ ((-1) : Int32))) q7 (x8 &&& (((1 : Int32) <<< (v1 &&& 31)) ^^^ ((-1) : Int32))) σ).bind fun q9 =>
  some (((q5 &&& (q9 ^^^ ((-1) : Int32))) &&& (((1 : Int32) <<< (v1 &&& 31)) ^^^ ((-1) : Int32))))))
def f_X9_begins_89 (v1 : Int32) (v3_89 : Int32) (t0_89 : Int32) (σ : Sg) : Option ((Int32 × Int32) ⊕ Int32) :=
  nm (v3_89 + 1) fun x3 =>
  some (.inl (t0_89, x3))
def f_X9_begins_88 (v1 : Int32) (v2_88 : Int32) (v3_88 : Int32) (σ : Sg) : Option ((Int32 × Int32) ⊕ Int32) :=
  f_X9_begins_89 v1 v3_88 v2_88 σ
def f_X9_begins_60 (v1 : Int32) (v2_60 : Int32) (v3_60 : Int32) (t0_60 : Int32) (σ : Sg) : Option ((Int32 × Int32) ⊕ Int32) :=
  if t0_60 = 0 then (
  f_X9_begins_88 v1 v2_60 v3_60 σ)
  else (
  (f_X9_beginnings σ).bind fun q4 =>
  (f_X9_reachOf (q4 ||| v3_60) σ).bind fun q5 =>
  (f_X9_has q5 v1).bind fun q6 =>
  if q6 = 0 then (
  f_X9_begins_88 v1 v2_60 v3_60 σ)
  else (
  f_X9_begins_89 v1 v3_60 v3_60 σ))
def f_X9_begins_59 (v1 : Int32) (v2_59 : Int32) (v3_59 : Int32) (σ : Sg) : Option ((Int32 × Int32) ⊕ Int32) :=
  f_X9_begins_60 v1 v2_59 v3_59 0 σ
def f_X9_begins_55 (v1 : Int32) (v2_55 : Int32) (v3_55 : Int32) (σ : Sg) : Option ((Int32 × Int32) ⊕ Int32) :=
  f_X9_begins_60 v1 v2_55 v3_55 1 σ
def f_X9_begins_5s (v1 : Int32) (v2_5 : Int32) (v3_5 : Int32) (σ : Sg) : Option ((Int32 × Int32) ⊕ Int32) :=
  (ald σ 1 660 0).bind fun x1 =>
  if ((1 : Int32) <<< (x1 &&& 31)) ≤ v3_5 then (
  some (.inr (v2_5)))
  else (
  (ald σ 1 660 2).bind fun x2 =>
  if (v3_5 &&& (x2 ^^^ ((-1) : Int32))) = 0 then (
  (f_X9_has v3_5 v1).bind fun q7 =>
  if q7 = 0 then (
  if v2_5 = (-4) then (
  f_X9_begins_55 v1 v2_5 v3_5 σ)
  else (
  (f_X9_ones v3_5).bind fun q8 =>
  (f_X9_ones v2_5).bind fun q9 =>
  if q9 ≤ q8 then (
  f_X9_begins_59 v1 v2_5 v3_5 σ)
  else (
  f_X9_begins_55 v1 v2_5 v3_5 σ)))
  else (
  f_X9_begins_59 v1 v2_5 v3_5 σ))
  else (
  f_X9_begins_59 v1 v2_5 v3_5 σ))
def f_X9_begins_5 (v1 : Int32) (v2_5 : Int32) (v3_5 : Int32) (σ : Sg) : Option Int32 :=
  itr 3000 (fun s => f_X9_begins_5s v1 s.1 s.2 σ) (v2_5, v3_5)
def f_X9_begins (v1 : Int32) (σ : Sg) : Option Int32 :=
  f_X9_begins_5 v1 (-4) 0 σ
def f_X9_begin_33 (t0_33 : Int32) (σ : Sg) : Option Int32 :=
  some (t0_33)
def f_X9_begin (v1 : Int32) (σ : Sg) : Option Int32 :=
  (f_X9_isStone v1 σ).bind fun q1 =>
  if q1 = 0 then (
  some ((-1)))
  else (
  (ald σ 1 660 2).bind fun x2 =>
  (f_X9_has x2 v1).bind fun q3 =>
  if q3 = 0 then (
  f_X9_begin_33 (-2) σ)
  else (
  (f_X9_begins v1 σ).bind fun q4 =>
  f_X9_begin_33 q4 σ))
def f_X9_isHall_55 (v2_11 : Int32) (v4_55 : Int32) (t0_55 : Int32) (σ : Sg) : Option ((Int32 × Int32) ⊕ Int32) :=
  nm (v4_55 + 1) fun x4 =>
  some (.inl (t0_55, x4))
def f_X9_isHall_50 (v2_11 : Int32) (v4_50 : Int32) (σ : Sg) : Option ((Int32 × Int32) ⊕ Int32) :=
  f_X9_isHall_55 v2_11 v4_50 1 σ
def f_X9_isHall_54 (v2_11 : Int32) (v4_54 : Int32) (σ : Sg) : Option ((Int32 × Int32) ⊕ Int32) :=
  f_X9_isHall_55 v2_11 v4_54 0 σ
def f_X9_isHall_11s (v2_11 : Int32) (v3_11 : Int32) (v4_11 : Int32) (σ : Sg) : Option ((Int32 × Int32) ⊕ Int32) :=
  (ald σ 1 660 0).bind fun x2 =>
  if x2 ≤ v4_11 then (
  (zrt v3_11).bind fun x3 =>
  some (.inr (x3)))
  else (
  if v3_11 = 0 then (
  (f_X9_has v2_11 v4_11).bind fun q5 =>
  if q5 = 0 then (
  f_X9_isHall_54 v2_11 v4_11 σ)
  else (
  (ald σ 1 660 ((45 : Int32) + v4_11)).bind fun x6 =>
  if (x6 &&& v2_11) = 0 then (
  f_X9_isHall_54 v2_11 v4_11 σ)
  else (
  f_X9_isHall_50 v2_11 v4_11 σ)))
  else (
  f_X9_isHall_50 v2_11 v4_11 σ))
def f_X9_isHall_11 (v2_11 : Int32) (v3_11 : Int32) (v4_11 : Int32) (σ : Sg) : Option Int32 :=
  itr 3000 (fun s => f_X9_isHall_11s v2_11 s.1 s.2 σ) (v3_11, v4_11)
def f_X9_isHall (v1 : Int32) (σ : Sg) : Option Int32 :=
  (f_X9_reachOf v1 σ).bind fun q1 =>
  f_X9_isHall_11 q1 0 0 σ
def f_X9_hall_119 (t0_119 : Int32) (σ : Sg) : Option Int32 :=
  some (t0_119)
def f_X9_hall_94 (v1 : Int32) (v2_94 : Int32) (σ : Sg) : Option Int32 :=
  if v1 = 1 then (
  f_X9_hall_119 v2_94 σ)
  else (
  (f_X9_beginnings σ).bind fun q3 =>
  (f_X9_isHall q3 σ).bind fun q4 =>
  if q4 = 0 then (
  f_X9_hall_119 0 σ)
  else (
  f_X9_hall_119 1 σ))
def f_X9_hall_87 (v1 : Int32) (v3_87 : Int32) (t0_87 : Int32) (σ : Sg) : Option ((Int32 × Int32) ⊕ Int32) :=
  nm (v3_87 + 1) fun x6 =>
  some (.inl (t0_87, x6))
def f_X9_hall_86 (v1 : Int32) (v2_86 : Int32) (v3_86 : Int32) (σ : Sg) : Option ((Int32 × Int32) ⊕ Int32) :=
  f_X9_hall_87 v1 v3_86 v2_86 σ
def f_X9_hall_67 (v1 : Int32) (v2_67 : Int32) (v3_67 : Int32) (t0_67 : Int32) (σ : Sg) : Option ((Int32 × Int32) ⊕ Int32) :=
  if t0_67 = 0 then (
  f_X9_hall_86 v1 v2_67 v3_67 σ)
  else (
  (f_X9_isHall v3_67 σ).bind fun q7 =>
  if q7 = 0 then (
  f_X9_hall_86 v1 v2_67 v3_67 σ)
  else (
  f_X9_hall_87 v1 v3_67 v3_67 σ))
def f_X9_hall_66 (v1 : Int32) (v2_66 : Int32) (v3_66 : Int32) (σ : Sg) : Option ((Int32 × Int32) ⊕ Int32) :=
  f_X9_hall_67 v1 v2_66 v3_66 0 σ
def f_X9_hall_62 (v1 : Int32) (v2_62 : Int32) (v3_62 : Int32) (σ : Sg) : Option ((Int32 × Int32) ⊕ Int32) :=
  f_X9_hall_67 v1 v2_62 v3_62 1 σ
def f_X9_hall_17s (v1 : Int32) (v2_17 : Int32) (v3_17 : Int32) (σ : Sg) : Option ((Int32 × Int32) ⊕ Int32) :=
  (ald σ 1 660 0).bind fun x2 =>
  if ((1 : Int32) <<< (x2 &&& 31)) ≤ v3_17 then (
  (f_X9_hall_94 v1 v2_17 σ).map (fun z => .inr (z)))
  else (
  if v1 = 1 then (
  (f_X9_beginnings σ).bind fun q5 =>
  if (v3_17 &&& (q5 ^^^ ((-1) : Int32))) = 0 then (
  if v2_17 = (-4) then (
  f_X9_hall_62 v1 v2_17 v3_17 σ)
  else (
  (f_X9_ones v3_17).bind fun q8 =>
  (f_X9_ones v2_17).bind fun q9 =>
  if q9 ≤ q8 then (
  f_X9_hall_66 v1 v2_17 v3_17 σ)
  else (
  f_X9_hall_62 v1 v2_17 v3_17 σ)))
  else (
  f_X9_hall_66 v1 v2_17 v3_17 σ))
  else (
  (f_X9_hall_94 v1 v2_17 σ).map (fun z => .inr (z))))
def f_X9_hall_17 (v1 : Int32) (v2_17 : Int32) (v3_17 : Int32) (σ : Sg) : Option Int32 :=
  itr 3000 (fun s => f_X9_hall_17s v1 s.1 s.2 σ) (v2_17, v3_17)
def f_X9_hall (v1 : Int32) (σ : Sg) : Option Int32 :=
  (f_X9_in ((v1 : Int32).toInt64) 0 1).bind fun q1 =>
  if q1 = 0 then (
  some ((-1)))
  else (
  f_X9_hall_17 v1 (-4) 0 σ)
def f_X9_rope_66 (v2_66 : Int32) (t0_66 : Int32) (σ : Sg) : Option ((Int32 × Int32) ⊕ Int32) :=
  nm (v2_66 + (-1)) fun x4 =>
  some (.inl (t0_66, x4))
def f_X9_rope_65 (v1_65 : Int32) (v2_65 : Int32) (σ : Sg) : Option ((Int32 × Int32) ⊕ Int32) :=
  f_X9_rope_66 v2_65 v1_65 σ
def f_X9_rope_41 (v1_41 : Int32) (v2_41 : Int32) (t0_41 : Int32) (σ : Sg) : Option ((Int32 × Int32) ⊕ Int32) :=
  if t0_41 = 0 then (
  f_X9_rope_65 v1_41 v2_41 σ)
  else (
  (f_X9_beginnings σ).bind fun q5 =>
  (f_X9_isHall (q5 &&& (v2_41 ^^^ ((-1) : Int32))) σ).bind fun q6 =>
  if q6 = 0 then (
  f_X9_rope_66 v2_41 v2_41 σ)
  else (
  f_X9_rope_65 v1_41 v2_41 σ))
def f_X9_rope_40 (v1_40 : Int32) (v2_40 : Int32) (σ : Sg) : Option ((Int32 × Int32) ⊕ Int32) :=
  f_X9_rope_41 v1_40 v2_40 0 σ
def f_X9_rope_10s (v1_10 : Int32) (v2_10 : Int32) (σ : Sg) : Option ((Int32 × Int32) ⊕ Int32) :=
  if v2_10 < 0 then (
  some (.inr (v1_10)))
  else (
  (f_X9_beginnings σ).bind fun q3 =>
  if (v2_10 &&& (q3 ^^^ ((-1) : Int32))) = 0 then (
  (f_X9_ones v2_10).bind fun q7 =>
  (f_X9_ones v1_10).bind fun q8 =>
  if q8 < q7 then (
  f_X9_rope_40 v1_10 v2_10 σ)
  else (
  f_X9_rope_41 v1_10 v2_10 1 σ))
  else (
  f_X9_rope_40 v1_10 v2_10 σ))
def f_X9_rope_10 (v1_10 : Int32) (v2_10 : Int32) (σ : Sg) : Option Int32 :=
  itr 3000 (fun s => f_X9_rope_10s s.1 s.2 σ) (v1_10, v2_10)
def f_X9_rope (σ : Sg) : Option Int32 :=
  (f_X9_beginnings σ).bind fun q1 =>
  (f_X9_beginnings σ).bind fun q2 =>
  f_X9_rope_10 q1 q2 σ
def f_X9_idle_85 (v2_85 : Int32) (t0_85 : Int32) (t1_85 : Int32) (σ : Sg) : Option ((Int32 × Int32) ⊕ Int32) :=
  nm ((t0_85 ||| t1_85)) fun x9 =>
  nm (v2_85 + 1) fun x10 =>
  some (.inl (x9, x10))
def f_X9_idle_4s (v1_4 : Int32) (v2_4 : Int32) (σ : Sg) : Option ((Int32 × Int32) ⊕ Int32) :=
  (ald σ 1 660 4).bind fun x1 =>
  if x1 ≤ v2_4 then (
  some (.inr (v1_4)))
  else (
  (ald σ 1 660 ((5 : Int32) + v2_4)).bind fun x2 =>
  (ald σ 1 660 ((15 : Int32) + v2_4)).bind fun x3 =>
  (f_X9_allSteps σ).bind fun q4 =>
  (ald σ 1 660 0).bind fun x5 =>
  (f_X9_closure (((1 : Int32) <<< (x2 &&& 31)) ||| ((1 : Int32) <<< (x3 &&& 31))) (q4 &&& (((1 : Int32) <<< (v2_4 &&& 31)) ^^^ ((-1) : Int32))) (((1 : Int32) <<< (x5 &&& 31)) - (1 : Int32)) σ).bind fun q6 =>
  (ald σ 1 660 ((25 : Int32) + v2_4)).bind fun x7 =>
  (f_X9_has q6 x7).bind fun q8 =>
  if q8 = 0 then (
  f_X9_idle_85 v2_4 v1_4 0 σ)
  else (
  f_X9_idle_85 v2_4 v1_4 ((1 : Int32) <<< (v2_4 &&& 31)) σ))
def f_X9_idle_4 (v1_4 : Int32) (v2_4 : Int32) (σ : Sg) : Option Int32 :=
  itr 3000 (fun s => f_X9_idle_4s s.1 s.2 σ) (v1_4, v2_4)
def f_X9_idle (σ : Sg) : Option Int32 :=
  f_X9_idle_4 0 0 σ
def f_X9_leads_113 (v1 : Int32) (v3_13 : Int32) (v4_113 : Int32) (t0_113 : Int32) (t1_113 : Int32) (σ : Sg) : Option ((Int32 × Int32) ⊕ ((Int32 × Int32) ⊕ Int32)) :=
  nm ((t0_113 ||| t1_113)) fun x4 =>
  nm (v4_113 + 1) fun x5 =>
  some (.inl (x4, x5))
def f_X9_leads_89 (v1 : Int32) (v2_89 : Int32) (v3_13 : Int32) (v4_89 : Int32) (t0_89 : Int32) (σ : Sg) : Option ((Int32 × Int32) ⊕ ((Int32 × Int32) ⊕ Int32)) :=
  if t0_89 = 0 then (
  f_X9_leads_113 v1 v3_13 v4_89 v2_89 0 σ)
  else (
  (ald σ 1 660 ((25 : Int32) + v4_89)).bind fun x6 =>
  f_X9_leads_113 v1 v3_13 v4_89 v2_89 ((1 : Int32) <<< (x6 &&& 31)) σ)
def f_X9_leads_84 (v1 : Int32) (v2_84 : Int32) (v3_13 : Int32) (v4_84 : Int32) (σ : Sg) : Option ((Int32 × Int32) ⊕ ((Int32 × Int32) ⊕ Int32)) :=
  f_X9_leads_89 v1 v2_84 v3_13 v4_84 1 σ
def f_X9_leads_13s (v1 : Int32) (v2_13 : Int32) (v3_13 : Int32) (v4_13 : Int32) (σ : Sg) : Option ((Int32 × Int32) ⊕ ((Int32 × Int32) ⊕ Int32)) :=
  (ald σ 1 660 4).bind fun x1 =>
  if x1 ≤ v4_13 then (
  nm (v3_13 + 1) fun x2 =>
  some (.inr (.inl (v2_13, x2))))
  else (
  (ald σ 1 660 ((5 : Int32) + v4_13)).bind fun x3 =>
  if x3 = v1 then (
  f_X9_leads_84 v1 v2_13 v3_13 v4_13 σ)
  else (
  (ald σ 1 660 ((15 : Int32) + v4_13)).bind fun x7 =>
  if x7 = v1 then (
  f_X9_leads_84 v1 v2_13 v3_13 v4_13 σ)
  else (
  (ald σ 1 660 ((5 : Int32) + v4_13)).bind fun x8 =>
  (f_X9_has v2_13 x8).bind fun q9 =>
  if q9 = 0 then (
  (ald σ 1 660 ((15 : Int32) + v4_13)).bind fun x10 =>
  (f_X9_has v2_13 x10).bind fun q11 =>
  if q11 = 0 then (
  f_X9_leads_89 v1 v2_13 v3_13 v4_13 0 σ)
  else (
  f_X9_leads_84 v1 v2_13 v3_13 v4_13 σ))
  else (
  f_X9_leads_84 v1 v2_13 v3_13 v4_13 σ))))
def f_X9_leads_13 (v1 : Int32) (v2_13 : Int32) (v3_13 : Int32) (v4_13 : Int32) (σ : Sg) : Option ((Int32 × Int32) ⊕ Int32) :=
  itr 3000 (fun s => f_X9_leads_13s v1 s.1 v3_13 s.2 σ) (v2_13, v4_13)
def f_X9_leads_4s (v1 : Int32) (v2_4 : Int32) (v3_4 : Int32) (σ : Sg) : Option ((Int32 × Int32) ⊕ Int32) :=
  if (10 : Int32) ≤ v3_4 then (
  some (.inr (v2_4)))
  else (
  f_X9_leads_13 v1 v2_4 v3_4 0 σ)
def f_X9_leads_4 (v1 : Int32) (v2_4 : Int32) (v3_4 : Int32) (σ : Sg) : Option Int32 :=
  itr 3000 (fun s => f_X9_leads_4s v1 s.1 s.2 σ) (v2_4, v3_4)
def f_X9_leads (v1 : Int32) (σ : Sg) : Option Int32 :=
  f_X9_leads_4 v1 0 0 σ
def f_X9_circle_33 (v2_33 : Int32) (t0_33 : Int32) (σ : Sg) : Option ((Int32 × Int32) ⊕ Int32) :=
  nm (v2_33 + (-1)) fun x5 =>
  some (.inl (t0_33, x5))
def f_X9_circle_12s (v1_12 : Int32) (v2_12 : Int32) (σ : Sg) : Option ((Int32 × Int32) ⊕ Int32) :=
  if v2_12 < 0 then (
  some (.inr (v1_12)))
  else (
  (f_X9_leads v2_12 σ).bind fun q3 =>
  (f_X9_has q3 v2_12).bind fun q4 =>
  if q4 = 0 then (
  f_X9_circle_33 v2_12 v1_12 σ)
  else (
  f_X9_circle_33 v2_12 v2_12 σ))
def f_X9_circle_12 (v1_12 : Int32) (v2_12 : Int32) (σ : Sg) : Option Int32 :=
  itr 3000 (fun s => f_X9_circle_12s s.1 s.2 σ) (v1_12, v2_12)
def f_X9_circle (σ : Sg) : Option Int32 :=
  (ald σ 1 660 0).bind fun x1 =>
  nm ((x1 - (1 : Int32))) fun x2 =>
  f_X9_circle_12 (-4) x2 σ
def f_X9_deep_189 (v2_45 : Int32) (v3_189 : Int32) (t0_189 : Int32) (s_189 : Sg) : Option ((Int32 × Int32 × Sg) ⊕ ((Int32 × Int32 × Sg) ⊕ (Int32 × Sg))) :=
  nm (v3_189 + 1) fun x16 =>
  some (.inl (t0_189, x16, s_189))
def f_X9_deep_172 (v1_172 : Int32) (v2_45 : Int32) (v3_172 : Int32) (v4_172 : Int32) (t1_172 : Int32) (t2_172 : Int32) (s_172 : Sg) : Option ((Int32 × Int32 × Sg) ⊕ ((Int32 × Int32 × Sg) ⊕ (Int32 × Sg))) :=
  (ast s_172 7 10 t1_172 t2_172).bind fun s15 =>
  if (v4_172 + (1 : Int32)) ≤ v1_172 then (
  f_X9_deep_189 v2_45 v3_172 v1_172 s15)
  else (
  f_X9_deep_189 v2_45 v3_172 (v4_172 + (1 : Int32)) s15)
def f_X9_deep_115 (v1_115 : Int32) (v2_45 : Int32) (v3_115 : Int32) (t0_115 : Int32) (s_115 : Sg) : Option ((Int32 × Int32 × Sg) ⊕ ((Int32 × Int32 × Sg) ⊕ (Int32 × Sg))) :=
  (ald s_115 1 660 ((25 : Int32) + v3_115)).bind fun x10 =>
  (ald s_115 1 660 ((25 : Int32) + v3_115)).bind fun x11 =>
  (ald s_115 7 10 x11).bind fun x12 =>
  if (t0_115 + (1 : Int32)) ≤ x12 then (
  (ald s_115 1 660 ((25 : Int32) + v3_115)).bind fun x13 =>
  (ald s_115 7 10 x13).bind fun x14 =>
  f_X9_deep_172 v1_115 v2_45 v3_115 t0_115 x10 x14 s_115)
  else (
  f_X9_deep_172 v1_115 v2_45 v3_115 t0_115 x10 (t0_115 + (1 : Int32)) s_115)
def f_X9_deep_45s (v1_45 : Int32) (v2_45 : Int32) (v3_45 : Int32) (s_45 : Sg) : Option ((Int32 × Int32 × Sg) ⊕ ((Int32 × Int32 × Sg) ⊕ (Int32 × Sg))) :=
  (ald s_45 1 660 4).bind fun x2 =>
  if x2 ≤ v3_45 then (
  nm (v2_45 + 1) fun x3 =>
  some (.inr (.inl (v1_45, x3, s_45))))
  else (
  (ald s_45 1 660 ((5 : Int32) + v3_45)).bind fun x4 =>
  (ald s_45 7 10 x4).bind fun x5 =>
  (ald s_45 1 660 ((15 : Int32) + v3_45)).bind fun x6 =>
  (ald s_45 7 10 x6).bind fun x7 =>
  if x5 ≤ x7 then (
  (ald s_45 1 660 ((15 : Int32) + v3_45)).bind fun x8 =>
  (ald s_45 7 10 x8).bind fun x9 =>
  f_X9_deep_115 v1_45 v2_45 v3_45 x9 s_45)
  else (
  (ald s_45 1 660 ((5 : Int32) + v3_45)).bind fun x17 =>
  (ald s_45 7 10 x17).bind fun x18 =>
  f_X9_deep_115 v1_45 v2_45 v3_45 x18 s_45))
def f_X9_deep_45 (v1_45 : Int32) (v2_45 : Int32) (v3_45 : Int32) (s_45 : Sg) : Option ((Int32 × Int32 × Sg) ⊕ (Int32 × Sg)) :=
  itr 3000 (fun s => f_X9_deep_45s s.1 v2_45 s.2.1 s.2.2) (v1_45, v3_45, s_45)
def f_X9_deep_37s (v1_37 : Int32) (v2_37 : Int32) (s_37 : Sg) : Option ((Int32 × Int32 × Sg) ⊕ (Int32 × Sg)) :=
  if (10 : Int32) ≤ v2_37 then (
  some (.inr ((v1_37, s_37))))
  else (
  f_X9_deep_45 v1_37 v2_37 0 s_37)
def f_X9_deep_37 (v1_37 : Int32) (v2_37 : Int32) (s_37 : Sg) : Option (Int32 × Sg) :=
  itr 3000 (fun s => f_X9_deep_37s s.1 s.2.1 s.2.2) (v1_37, v2_37, s_37)
def f_X9_deep_14s (v1_14 : Int32) (s_14 : Sg) : Option ((Int32 × Sg) ⊕ (Int32 × Sg)) :=
  if (10 : Int32) ≤ v1_14 then (
  (f_X9_deep_37 0 0 s_14).map (fun z => .inr (z)))
  else (
  (ast s_14 7 10 v1_14 0).bind fun s19 =>
  nm (v1_14 + 1) fun x20 =>
  some (.inl (x20, s19)))
def f_X9_deep_14 (v1_14 : Int32) (s_14 : Sg) : Option (Int32 × Sg) :=
  itr 3000 (fun s => f_X9_deep_14s s.1 s.2) (v1_14, s_14)
def f_X9_deep (σ : Sg) : Option (Int32 × Sg) :=
  (f_X9_circle σ).bind fun q1 =>
  if q1 = (-4) then (
  f_X9_deep_14 0 σ)
  else (
  some (((-4), σ)))
def f_X9_proves (v1 : Int32) (v2 : Int32) (σ : Sg) : Option Int32 :=
  (f_X9_beginnings σ).bind fun q1 =>
  (ald σ 1 660 2).bind fun x2 =>
  (f_X9_closure q1 v1 x2 σ).bind fun q3 =>
  (f_X9_has q3 v2).bind fun q4 =>
  (zrt q4).bind fun x5 =>
  some (x5)
def f_X9_isProof_62 (v3_62 : Int32) (σ : Sg) : Option Int32 :=
  (zrt v3_62).bind fun x3 =>
  some (x3)
def f_X9_isProof_55 (v1 : Int32) (v2 : Int32) (v4_55 : Int32) (t0_55 : Int32) (σ : Sg) : Option ((Int32 × Int32) ⊕ Int32) :=
  nm (v4_55 + 1) fun x5 =>
  some (.inl (t0_55, x5))
def f_X9_isProof_50 (v1 : Int32) (v2 : Int32) (v4_50 : Int32) (σ : Sg) : Option ((Int32 × Int32) ⊕ Int32) :=
  f_X9_isProof_55 v1 v2 v4_50 1 σ
def f_X9_isProof_10s (v1 : Int32) (v2 : Int32) (v3_10 : Int32) (v4_10 : Int32) (σ : Sg) : Option ((Int32 × Int32) ⊕ Int32) :=
  (ald σ 1 660 4).bind fun x2 =>
  if x2 ≤ v4_10 then (
  (f_X9_isProof_62 v3_10 σ).map (fun z => .inr (z)))
  else (
  if v3_10 = 0 then (
  (f_X9_isProof_62 v3_10 σ).map (fun z => .inr (z)))
  else (
  (f_X9_has v1 v4_10).bind fun q4 =>
  if q4 = 0 then (
  f_X9_isProof_50 v1 v2 v4_10 σ)
  else (
  (f_X9_proves (v1 &&& (((1 : Int32) <<< (v4_10 &&& 31)) ^^^ ((-1) : Int32))) v2 σ).bind fun q6 =>
  if q6 = 0 then (
  f_X9_isProof_50 v1 v2 v4_10 σ)
  else (
  f_X9_isProof_55 v1 v2 v4_10 0 σ))))
def f_X9_isProof_10 (v1 : Int32) (v2 : Int32) (v3_10 : Int32) (v4_10 : Int32) (σ : Sg) : Option Int32 :=
  itr 3000 (fun s => f_X9_isProof_10s v1 v2 s.1 s.2 σ) (v3_10, v4_10)
def f_X9_isProof (v1 : Int32) (v2 : Int32) (σ : Sg) : Option Int32 :=
  (f_X9_proves v1 v2 σ).bind fun q1 =>
  f_X9_isProof_10 v1 v2 q1 0 σ
def f_X9_proofs_20 (σ : Sg) : Option Int32 :=
  some ((-1))
def f_X9_proofs_129 (t0_129 : Int32) (σ : Sg) : Option Int32 :=
  some (t0_129)
def f_X9_proofs_95 (v1 : Int32) (v2 : Int32) (v3_95 : Int32) (v4_95 : Int32) (v5_95 : Int32) (v6_95 : Int32) (σ : Sg) : Option ((Int32 × Int32 × Int32 × Int32) ⊕ Int32) :=
  nm (v6_95 + 1) fun x6 =>
  some (.inl (v3_95, v4_95, v5_95, x6))
def f_X9_proofs_83 (v1 : Int32) (v2 : Int32) (v3_83 : Int32) (v5_83 : Int32) (v6_83 : Int32) (t0_83 : Int32) (σ : Sg) : Option ((Int32 × Int32 × Int32 × Int32) ⊕ Int32) :=
  nm ((v5_83 &&& v6_83)) fun x7 =>
  nm (v3_83 + 1) fun x8 =>
  f_X9_proofs_95 v1 v2 x8 t0_83 x7 v6_83 σ
def f_X9_proofs_76 (v1 : Int32) (v2 : Int32) (v3_76 : Int32) (v5_76 : Int32) (v6_76 : Int32) (σ : Sg) : Option ((Int32 × Int32 × Int32 × Int32) ⊕ Int32) :=
  f_X9_proofs_83 v1 v2 v3_76 v5_76 v6_76 v6_76 σ
def f_X9_proofs_37s (v1 : Int32) (v2 : Int32) (v3_37 : Int32) (v4_37 : Int32) (v5_37 : Int32) (v6_37 : Int32) (σ : Sg) : Option ((Int32 × Int32 × Int32 × Int32) ⊕ Int32) :=
  (f_X9_allSteps σ).bind fun q4 =>
  if q4 < v6_37 then (
  if v2 = 0 then (
  (f_X9_proofs_129 v3_37 σ).map (fun z => .inr (z)))
  else (
  if v2 = 1 then (
  (f_X9_proofs_129 v4_37 σ).map (fun z => .inr (z)))
  else (
  if v3_37 = 0 then (
  (f_X9_proofs_129 0 σ).map (fun z => .inr (z)))
  else (
  (f_X9_proofs_129 v5_37 σ).map (fun z => .inr (z))))))
  else (
  (f_X9_isProof v6_37 v1 σ).bind fun q5 =>
  if q5 = 0 then (
  f_X9_proofs_95 v1 v2 v3_37 v4_37 v5_37 v6_37 σ)
  else (
  if v4_37 = (-4) then (
  f_X9_proofs_76 v1 v2 v3_37 v5_37 v6_37 σ)
  else (
  (f_X9_ones v6_37).bind fun q9 =>
  (f_X9_ones v4_37).bind fun q10 =>
  if q10 ≤ q9 then (
  f_X9_proofs_83 v1 v2 v3_37 v5_37 v6_37 v4_37 σ)
  else (
  f_X9_proofs_76 v1 v2 v3_37 v5_37 v6_37 σ))))
def f_X9_proofs_37 (v1 : Int32) (v2 : Int32) (v3_37 : Int32) (v4_37 : Int32) (v5_37 : Int32) (v6_37 : Int32) (σ : Sg) : Option Int32 :=
  itr 3000 (fun s => f_X9_proofs_37s v1 v2 s.1 s.2.1 s.2.2.1 s.2.2.2 σ) (v3_37, v4_37, v5_37, v6_37)
def f_X9_proofs (v1 : Int32) (v2 : Int32) (σ : Sg) : Option Int32 :=
  (f_X9_isStone v1 σ).bind fun q1 =>
  if q1 = 0 then (
  f_X9_proofs_20 σ)
  else (
  (f_X9_in ((v2 : Int32).toInt64) 0 2).bind fun q2 =>
  if q2 = 0 then (
  f_X9_proofs_20 σ)
  else (
  (f_X9_allSteps σ).bind fun q3 =>
  f_X9_proofs_37 v1 v2 0 (-4) q3 0 σ))
def f_X9_worn_16 (σ : Sg) : Option Int32 :=
  some ((-1))
def f_X9_worn_108 (v1 : Int32) (v2 : Int32) (v4_108 : Int32) (t0_108 : Int32) (t1_108 : Int32) (σ : Sg) : Option ((Int32 × Int32) ⊕ Int32) :=
  nm ((t0_108 + t1_108)) fun x5 =>
  nm (v4_108 + 1) fun x6 =>
  some (.inl (x5, x6))
def f_X9_worn_107 (v1 : Int32) (v2 : Int32) (v4_107 : Int32) (t0_107 : Int32) (σ : Sg) : Option ((Int32 × Int32) ⊕ Int32) :=
  f_X9_worn_108 v1 v2 v4_107 t0_107 0 σ
def f_X9_worn_77 (v1 : Int32) (v2 : Int32) (v3_38 : Int32) (v4_38 : Int32) (v6_77 : Int32) (t0_77 : Int32) (t1_77 : Int32) (σ : Sg) : Option ((Int32 × Int32) ⊕ ((Int32 × Int32) ⊕ Int32)) :=
  nm ((t0_77 ||| t1_77)) fun x9 =>
  nm (v6_77 + 1) fun x10 =>
  some (.inl (x9, x10))
def f_X9_worn_38s (v1 : Int32) (v2 : Int32) (v3_38 : Int32) (v4_38 : Int32) (v5_38 : Int32) (v6_38 : Int32) (σ : Sg) : Option ((Int32 × Int32) ⊕ ((Int32 × Int32) ⊕ Int32)) :=
  (ald σ 1 660 4).bind fun x4 =>
  if x4 ≤ v6_38 then (
  if v5_38 = v2 then (
  (f_X9_isProof v4_38 v1 σ).bind fun q7 =>
  if q7 = 0 then (
  (f_X9_worn_107 v1 v2 v4_38 v3_38 σ).map (fun z => .inr (z)))
  else (
  (f_X9_worn_108 v1 v2 v4_38 v3_38 1 σ).map (fun z => .inr (z))))
  else (
  (f_X9_worn_107 v1 v2 v4_38 v3_38 σ).map (fun z => .inr (z))))
  else (
  (f_X9_has v4_38 v6_38).bind fun q8 =>
  if q8 = 0 then (
  f_X9_worn_77 v1 v2 v3_38 v4_38 v6_38 v5_38 0 σ)
  else (
  (ald σ 1 660 ((25 : Int32) + v6_38)).bind fun x11 =>
  f_X9_worn_77 v1 v2 v3_38 v4_38 v6_38 v5_38 ((1 : Int32) <<< (x11 &&& 31)) σ))
def f_X9_worn_38 (v1 : Int32) (v2 : Int32) (v3_38 : Int32) (v4_38 : Int32) (v5_38 : Int32) (v6_38 : Int32) (σ : Sg) : Option ((Int32 × Int32) ⊕ Int32) :=
  itr 3000 (fun s => f_X9_worn_38s v1 v2 v3_38 v4_38 s.1 s.2 σ) (v5_38, v6_38)
def f_X9_worn_23s (v1 : Int32) (v2 : Int32) (v3_23 : Int32) (v4_23 : Int32) (σ : Sg) : Option ((Int32 × Int32) ⊕ Int32) :=
  (f_X9_allSteps σ).bind fun q3 =>
  if q3 < v4_23 then (
  some (.inr (v3_23)))
  else (
  f_X9_worn_38 v1 v2 v3_23 v4_23 0 0 σ)
def f_X9_worn_23 (v1 : Int32) (v2 : Int32) (v3_23 : Int32) (v4_23 : Int32) (σ : Sg) : Option Int32 :=
  itr 3000 (fun s => f_X9_worn_23s v1 v2 s.1 s.2 σ) (v3_23, v4_23)
def f_X9_worn (v1 : Int32) (v2 : Int32) (σ : Sg) : Option Int32 :=
  (f_X9_isStone v1 σ).bind fun q1 =>
  if q1 = 0 then (
  f_X9_worn_16 σ)
  else (
  (f_X9_isSet v2 σ).bind fun q2 =>
  if q2 = 0 then (
  f_X9_worn_16 σ)
  else (
  f_X9_worn_23 v1 v2 0 0 σ))
def f_X9_tell (v1 : Int32) (σ : Sg) : Option (Int32 × Sg) :=
  (f_X9_isStep v1 σ).bind fun q1 =>
  if q1 = 0 then (
  some (((-1), σ)))
  else (
  if (σ.1 0 6) = 12 then (
  some (((-3), σ)))
  else (
  (ast σ 3 12 (σ.1 0 6) v1).bind fun s2 =>
  (pfi s2 0 6 ((s2.1 0 6) + (1 : Int32))).bind fun s3 =>
  some (((s3.1 0 6), s3))))
def f_X9_noRow (σ : Sg) : Option (Int32 × Sg) :=
  nm ((σ.1 0 6)) fun x1 =>
  (pfi σ 0 6 0).bind fun s2 =>
  some ((x1, s2))
def f_X9_judge_9s (v1_9 : Int32) (v2_9 : Int32) (σ : Sg) : Option ((Int32 × Int32) ⊕ Int32) :=
  if (σ.1 0 6) ≤ v2_9 then (
  some (.inr ((-4))))
  else (
  (ald σ 3 12 v2_9).bind fun x2 =>
  (f_X9_mayFrom v1_9 x2 σ).bind fun q3 =>
  if q3 = 0 then (
  some (.inr (v2_9)))
  else (
  (ald σ 3 12 v2_9).bind fun x4 =>
  (ald σ 1 660 ((25 : Int32) + x4)).bind fun x5 =>
  nm ((v1_9 ||| ((1 : Int32) <<< (x5 &&& 31)))) fun x6 =>
  nm (v2_9 + 1) fun x7 =>
  some (.inl (x6, x7))))
def f_X9_judge_9 (v1_9 : Int32) (v2_9 : Int32) (σ : Sg) : Option Int32 :=
  itr 3000 (fun s => f_X9_judge_9s s.1 s.2 σ) (v1_9, v2_9)
def f_X9_judge (σ : Sg) : Option Int32 :=
  (ald σ 1 660 3).bind fun x1 =>
  f_X9_judge_9 x1 0 σ
def f_X9_year_34 (σ : Sg) : Option Int32 :=
  some ((-1))
def f_X9_year_142 (t0_142 : Int32) (σ : Sg) : Option Int32 :=
  some (t0_142)
def f_X9_year_125 (v1 : Int32) (v2 : Int32) (v3 : Int32) (v4_125 : Int32) (v5_125 : Int32) (v6_125 : Int32) (σ : Sg) : Option ((Int32 × Int32 × Int32) ⊕ Int32) :=
  nm (v6_125 + 1) fun x11 =>
  some (.inl (v4_125, v5_125, x11))
def f_X9_year_50s (v1 : Int32) (v2 : Int32) (v3 : Int32) (v4_50 : Int32) (v5_50 : Int32) (v6_50 : Int32) (σ : Sg) : Option ((Int32 × Int32 × Int32) ⊕ Int32) :=
  if v2 ≤ v6_50 then (
  if v3 = 0 then (
  (f_X9_year_142 v5_50 σ).map (fun z => .inr (z)))
  else (
  (f_X9_year_142 v4_50 σ).map (fun z => .inr (z))))
  else (
  nm (((((7919 : Int64) * ((v1 : Int32).toInt64)) + ((6151 : Int64) * ((v6_50 : Int32).toInt64))) + (1 : Int64))) fun x5 =>
  (lrm (x5 * x5) 65521).bind fun x6 =>
  (ald σ 1 660 4).bind fun x7 =>
  (lrm x6 ((x7 : Int32).toInt64)).bind fun x8 =>
  nm (((x8 : Int64).toInt32)) fun x9 =>
  (f_X9_mayFrom v4_50 x9 σ).bind fun q10 =>
  if q10 = 0 then (
  f_X9_year_125 v1 v2 v3 v4_50 v5_50 v6_50 σ)
  else (
  (ald σ 1 660 ((25 : Int32) + x9)).bind fun x12 =>
  nm ((v4_50 ||| ((1 : Int32) <<< (x12 &&& 31)))) fun x13 =>
  nm (v5_50 + 1) fun x14 =>
  f_X9_year_125 v1 v2 v3 x13 x14 v6_50 σ))
def f_X9_year_50 (v1 : Int32) (v2 : Int32) (v3 : Int32) (v4_50 : Int32) (v5_50 : Int32) (v6_50 : Int32) (σ : Sg) : Option Int32 :=
  itr 3000 (fun s => f_X9_year_50s v1 v2 v3 s.1 s.2.1 s.2.2 σ) (v4_50, v5_50, v6_50)
def f_X9_year (v1 : Int32) (v2 : Int32) (v3 : Int32) (σ : Sg) : Option Int32 :=
  (f_X9_in ((v1 : Int32).toInt64) 0 9999).bind fun q1 =>
  if q1 = 0 then (
  f_X9_year_34 σ)
  else (
  (f_X9_in ((v2 : Int32).toInt64) 1 99).bind fun q2 =>
  if q2 = 0 then (
  f_X9_year_34 σ)
  else (
  (f_X9_in ((v3 : Int32).toInt64) 0 1).bind fun q3 =>
  if q3 = 0 then (
  f_X9_year_34 σ)
  else (
  (ald σ 1 660 3).bind fun x4 =>
  f_X9_year_50 v1 v2 v3 x4 0 0 σ)))
def f_X9_keep (σ : Sg) : Option (Int32 × Sg) :=
  if (σ.1 0 1) = 2 then (
  some (((-3), σ)))
  else (
  (f_X9_copy 0 ((55 : Int32) + ((55 : Int32) * (σ.1 0 1))) σ).bind fun q1 =>
  (pfi q1 0 1 ((q1.1 0 1) + (1 : Int32))).bind fun s2 =>
  some (((s2.1 0 1), s2)))
def f_X9_back (σ : Sg) : Option (Int32 × Sg) :=
  if (σ.1 0 1) = 0 then (
  some (((-2), σ)))
  else (
  (pfi σ 0 1 ((σ.1 0 1) - (1 : Int32))).bind fun s1 =>
  (f_X9_copy ((55 : Int32) + ((55 : Int32) * (s1.1 0 1))) 0 s1).bind fun q2 =>
  (pfi q2 0 6 0).bind fun s3 =>
  (pfi s3 0 2 0).bind fun s4 =>
  some (((s4.1 0 1), s4)))
def f_X9_count (v1 : Int32) (σ : Sg) : Option Int32 :=
  if v1 = 0 then (
  (ald σ 1 660 0).bind fun x1 =>
  some (x1))
  else (
  if v1 = 1 then (
  (ald σ 1 660 4).bind fun x2 =>
  some (x2))
  else (
  if v1 = 2 then (
  (ald σ 1 660 2).bind fun x3 =>
  (f_X9_ones x3).bind fun q4 =>
  some (q4))
  else (
  if v1 = 3 then (
  (ald σ 1 660 3).bind fun x5 =>
  (f_X9_ones x5).bind fun q6 =>
  some (q6))
  else (
  if v1 = 4 then (
  some ((σ.1 0 6)))
  else (
  if v1 = 5 then (
  some ((σ.1 0 2)))
  else (
  if v1 = 6 then (
  some ((σ.1 0 1)))
  else (
  if v1 = 7 then (
  some ((σ.1 0 4)))
  else (
  some ((-1))))))))))
