section
abbrev Sg : Type := (Nat → Nat → Int32) × (Nat → Nat → Int64)
def up1 (σ : Sg) (k i : Nat) (v : Int32) : Sg := (fun a => if a = k then upd (σ.1 a) i v else σ.1 a, σ.2)
def upL (σ : Sg) (k i : Nat) (v : Int64) : Sg := (σ.1, fun a => if a = k then vp_updL (σ.2 a) i v else σ.2 a)
def ald (σ : Sg) (k n : Nat) (i : Int32) : Option Int32 := if i < 0 ∨ n ≤ i.toNatClampNeg then none else some (σ.1 k i.toNatClampNeg)
def ast (σ : Sg) (k n : Nat) (i v : Int32) : Option Sg := if i < 0 ∨ n ≤ i.toNatClampNeg then none else some (up1 σ k i.toNatClampNeg v)
def aldL (σ : Sg) (k n : Nat) (i : Int32) : Option Int64 := if i < 0 ∨ n ≤ i.toNatClampNeg then none else some (σ.2 k i.toNatClampNeg)
def astL (σ : Sg) (k n : Nat) (i : Int32) (v : Int64) : Option Sg := if i < 0 ∨ n ≤ i.toNatClampNeg then none else some (upL σ k i.toNatClampNeg v)
def pfi (σ : Sg) (k j : Nat) (v : Int32) : Option Sg := some (up1 σ k j v)
def pfz (σ : Sg) (k j : Nat) (v : Int32) : Option Sg := if v = 0 ∨ v = 1 then some (up1 σ k j v) else none
def zrt (v : Int32) : Option Int32 := if v = 0 ∨ v = 1 then some v else none
def lrm (x y : Int64) : Option Int64 := if y = 0 then none else some (x - x / y * y)
def nm {α β : Type} (a : α) (f : α → Option β) : Option β := f a
def itr {S X : Type} : Nat → (S → Option (S ⊕ X)) → S → Option X
  | 0, _, _ => none
  | n + 1, F, s => (F s).bind fun y => match y with
    | .inl s' => itr n F s'
    | .inr x => some x
end
section
abbrev isFl (b : Nat) : Prop := b = 5 ∨ b = 12 ∨ b = 19 ∨ b = 26
def gfl (b : Nat) : Option Unit := if isFl b then some () else none
def f_X8_at_17 (k1 n1 : Nat) (t0_17 : Int32) (σ : Sg) : Option Int32 :=
  some (t0_17)
def f_X8_at_16 (k1 n1 : Nat) (σ : Sg) : Option Int32 :=
  f_X8_at_17 k1 n1 0 σ
def f_X8_at (k1 n1 : Nat) (v1 : Int32) (σ : Sg) : Option Int32 :=
  if v1 < 0 then (
  f_X8_at_16 k1 n1 σ)
  else (
  if (nI n1) ≤ v1 then (
  f_X8_at_16 k1 n1 σ)
  else (
  (ald σ k1 n1 v1).bind fun x1 =>
  f_X8_at_17 k1 n1 x1 σ))
def f_X1_gainsayersOf (b : Nat) (v1 : Int32) (σ : Sg) : Option Int32 :=
  (f_X8_at (b + 5) 10 v1 σ).bind fun q1 =>
  some (q1)
def f_X8_bitOf (v0 : Int32) (v1 : Int32) : Option Int32 :=
  some (((v0 >>> (v1 &&& 31)) &&& (1 : Int32)))
def f_X8_has_14 (t0_14 : Int32) : Option Int32 :=
  (zrt t0_14).bind fun x2 =>
  some (x2)
def f_X8_has (v0 : Int32) (v1 : Int32) : Option Int32 :=
  (f_X8_bitOf v0 v1).bind fun q1 =>
  if q1 = 1 then (
  f_X8_has_14 1)
  else (
  f_X8_has_14 0)
def f_X1_hasGainsayersIn_30 (b : Nat) (v1 : Int32) (v2_30 : Int32) (σ : Sg) : Option ((Int32) ⊕ Int32) :=
  nm (v2_30 + 1) fun x3 =>
  some (.inl (x3))
def f_X1_hasGainsayersIn_2s (b : Nat) (v1 : Int32) (v2_2 : Int32) (σ : Sg) : Option ((Int32) ⊕ Int32) :=
  if (σ.1 b 6) ≤ v2_2 then (
  (zrt 0).bind fun x1 =>
  some (.inr (x1)))
  else (
  (f_X8_has v1 v2_2).bind fun q2 =>
  if q2 = 0 then (
  f_X1_hasGainsayersIn_30 b v1 v2_2 σ)
  else (
  (f_X1_gainsayersOf b v2_2 σ).bind fun q4 =>
  if (q4 &&& v1) = 0 then (
  f_X1_hasGainsayersIn_30 b v1 v2_2 σ)
  else (
  (zrt 1).bind fun x5 =>
  some (.inr (x5)))))
def f_X1_hasGainsayersIn_2 (b : Nat) (v1 : Int32) (v2_2 : Int32) (σ : Sg) : Option Int32 :=
  itr 3000 (fun s => f_X1_hasGainsayersIn_2s b v1 s σ) (v2_2)
def f_X1_hasGainsayersIn (b : Nat) (v1 : Int32) (σ : Sg) : Option Int32 :=
  f_X1_hasGainsayersIn_2 b v1 0 σ
def f_X8_holdsAll_12 (t0_12 : Int32) : Option Int32 :=
  (zrt t0_12).bind fun x1 =>
  some (x1)
def f_X8_holdsAll (v0 : Int32) (v1 : Int32) : Option Int32 :=
  if (v0 &&& v1) = v1 then (
  f_X8_holdsAll_12 1)
  else (
  f_X8_holdsAll_12 0)
def f_X1_afterAmong_44 (b : Nat) (t0_44 : Int32) (σ : Sg) : Option Int32 :=
  some (t0_44)
def f_X1_afterAmong_43 (b : Nat) (v2 : Int32) (σ : Sg) : Option Int32 :=
  f_X1_afterAmong_44 b v2 σ
def f_X1_afterAmong (b : Nat) (v1 : Int32) (v2 : Int32) (v3 : Int32) (σ : Sg) : Option Int32 :=
  (f_X8_at (b + 3) 10 v1 σ).bind fun q1 =>
  nm (((1 : Int32) <<< (q1 &&& 31))) fun x2 =>
  (f_X8_at (b + 4) 10 v1 σ).bind fun q3 =>
  (f_X8_holdsAll v2 q3).bind fun q4 =>
  if q4 = 0 then (
  f_X1_afterAmong_43 b v2 σ)
  else (
  (f_X8_holdsAll v3 x2).bind fun q5 =>
  if q5 = 0 then (
  f_X1_afterAmong_43 b v2 σ)
  else (
  f_X1_afterAmong_44 b (v2 ||| x2) σ))
def f_X1_reachBy_51 (b : Nat) (v2 : Int32) (v3 : Int32) (v4_51 : Int32) (v5_22 : Int32) (v6_22 : Int32) (v7_51 : Int32) (σ : Sg) : Option ((Int32 × Int32) ⊕ ((Int32 × Int32) ⊕ Int32)) :=
  nm (v7_51 + 1) fun x4 =>
  some (.inl (v4_51, x4))
def f_X1_reachBy_22s (b : Nat) (v2 : Int32) (v3 : Int32) (v4_22 : Int32) (v5_22 : Int32) (v6_22 : Int32) (v7_22 : Int32) (σ : Sg) : Option ((Int32 × Int32) ⊕ ((Int32 × Int32) ⊕ Int32)) :=
  if (σ.1 b 7) ≤ v7_22 then (
  if v4_22 = v6_22 then (
  some (.inr (.inr (v4_22))))
  else (
  nm (v5_22 + 1) fun x2 =>
  some (.inr (.inl (v4_22, x2)))))
  else (
  (f_X8_has v2 v7_22).bind fun q3 =>
  if q3 = 0 then (
  f_X1_reachBy_51 b v2 v3 v4_22 v5_22 v6_22 v7_22 σ)
  else (
  (f_X1_afterAmong b v7_22 v4_22 v3 σ).bind fun q5 =>
  f_X1_reachBy_51 b v2 v3 q5 v5_22 v6_22 v7_22 σ))
def f_X1_reachBy_22 (b : Nat) (v2 : Int32) (v3 : Int32) (v4_22 : Int32) (v5_22 : Int32) (v6_22 : Int32) (v7_22 : Int32) (σ : Sg) : Option ((Int32 × Int32) ⊕ Int32) :=
  itr 3000 (fun s => f_X1_reachBy_22s b v2 v3 s.1 v5_22 v6_22 s.2 σ) (v4_22, v7_22)
def f_X1_reachBy_8s (b : Nat) (v2 : Int32) (v3 : Int32) (v4_8 : Int32) (v5_8 : Int32) (σ : Sg) : Option ((Int32 × Int32) ⊕ Int32) :=
  if (10 : Int32) ≤ v5_8 then (
  some (.inr (v4_8)))
  else (
  f_X1_reachBy_22 b v2 v3 v4_8 v5_8 v4_8 0 σ)
def f_X1_reachBy_8 (b : Nat) (v2 : Int32) (v3 : Int32) (v4_8 : Int32) (v5_8 : Int32) (σ : Sg) : Option Int32 :=
  itr 3000 (fun s => f_X1_reachBy_8s b v2 v3 s.1 s.2 σ) (v4_8, v5_8)
def f_X1_reachBy (b : Nat) (v1 : Int32) (v2 : Int32) (v3 : Int32) (σ : Sg) : Option Int32 :=
  nm ((v1 &&& v3)) fun x1 =>
  f_X1_reachBy_8 b v2 v3 x1 0 σ
def f_X1_there (b : Nat) (σ : Sg) : Option Int32 :=
  some ((σ.1 b 9))
def f_X0_isMet_43 (t0_43 : Int32) (σ : Sg) : Option Int32 :=
  (zrt t0_43).bind fun x6 =>
  some (x6)
def f_X0_isMet (v1 : Int32) (v2 : Int32) (σ : Sg) : Option Int32 :=
  (f_X1_there 12 σ).bind fun q1 =>
  (f_X1_reachBy 12 v2 1023 q1 σ).bind fun q2 =>
  if v1 = (-1) then (
  (f_X1_hasGainsayersIn 12 q2 σ).bind fun q7 =>
  (zrt q7).bind fun x8 =>
  some (x8))
  else (
  if v1 = (-2) then (
  (f_X1_hasGainsayersIn 12 q2 σ).bind fun q5 =>
  if q5 = 0 then (
  f_X0_isMet_43 1 σ)
  else (
  f_X0_isMet_43 0 σ))
  else (
  (f_X8_has q2 v1).bind fun q3 =>
  (zrt q3).bind fun x4 =>
  some (x4)))
def f_X1_beginnings (b : Nat) (σ : Sg) : Option Int32 :=
  some (((σ.1 b 8) &&& (σ.1 b 9)))
def f_X0_leadTo (v1 : Int32) (σ : Sg) : Option Int32 :=
  (f_X1_beginnings 12 σ).bind fun q1 =>
  (f_X0_isMet v1 q1 σ).bind fun q2 =>
  (zrt q2).bind fun x3 =>
  some (x3)
def f_X0_leadIntoHall (σ : Sg) : Option Int32 :=
  (f_X1_beginnings 12 σ).bind fun q1 =>
  (f_X0_isMet (-1) q1 σ).bind fun q2 =>
  (zrt q2).bind fun x3 =>
  some (x3)
def f_X1_stoneCount (b : Nat) (σ : Sg) : Option Int32 :=
  some ((σ.1 b 6))
def f_X0_neededFor_51 (v1 : Int32) (v2_51 : Int32) (v3_51 : Int32) (σ : Sg) : Option ((Int32 × Int32) ⊕ Int32) :=
  nm (v3_51 + 1) fun x6 =>
  some (.inl (v2_51, x6))
def f_X0_neededFor_4s (v1 : Int32) (v2_4 : Int32) (v3_4 : Int32) (σ : Sg) : Option ((Int32 × Int32) ⊕ Int32) :=
  (f_X1_stoneCount 12 σ).bind fun q1 =>
  if q1 ≤ v3_4 then (
  some (.inr (v2_4)))
  else (
  (f_X1_beginnings 12 σ).bind fun q2 =>
  nm ((q2 &&& (((1 : Int32) <<< (v3_4 &&& 31)) ^^^ ((-1) : Int32)))) fun x3 =>
  (f_X1_beginnings 12 σ).bind fun q4 =>
  (f_X8_has q4 v3_4).bind fun q5 =>
  if q5 = 0 then (
  f_X0_neededFor_51 v1 v2_4 v3_4 σ)
  else (
  (f_X0_isMet v1 x3 σ).bind fun q7 =>
  if q7 = 0 then (
  nm ((v2_4 ||| ((1 : Int32) <<< (v3_4 &&& 31)))) fun x8 =>
  f_X0_neededFor_51 v1 x8 v3_4 σ)
  else (
  f_X0_neededFor_51 v1 v2_4 v3_4 σ)))
def f_X0_neededFor_4 (v1 : Int32) (v2_4 : Int32) (v3_4 : Int32) (σ : Sg) : Option Int32 :=
  itr 3000 (fun s => f_X0_neededFor_4s v1 s.1 s.2 σ) (v2_4, v3_4)
def f_X0_neededFor (v1 : Int32) (σ : Sg) : Option Int32 :=
  f_X0_neededFor_4 v1 0 0 σ
def f_J6_bitCount_0f7a4 (v0 : Int32) : Option Int32 :=
  nm ((v0 - ((((v0).toUInt32 >>> ((1 : Int32).toUInt32 &&& Int32.toUInt32 31)).toInt32) &&& (1431655765 : Int32)))) fun x1 =>
  nm (((x1 &&& (858993459 : Int32)) + ((((x1).toUInt32 >>> ((2 : Int32).toUInt32 &&& Int32.toUInt32 31)).toInt32) &&& (858993459 : Int32)))) fun x2 =>
  nm (((x2 + (((x2).toUInt32 >>> ((4 : Int32).toUInt32 &&& Int32.toUInt32 31)).toInt32)) &&& (252645135 : Int32))) fun x3 =>
  nm ((x3 + (((x3).toUInt32 >>> ((8 : Int32).toUInt32 &&& Int32.toUInt32 31)).toInt32))) fun x4 =>
  nm ((x4 + (((x4).toUInt32 >>> ((16 : Int32).toUInt32 &&& Int32.toUInt32 31)).toInt32))) fun x5 =>
  some ((x5 &&& (63 : Int32)))
def f_X0_fewestTurned_75 (v1 : Int32) (v2 : Int32) (v3 : Int32) (v4_75 : Int32) (v5_75 : Int32) (v6_75 : Int32) (σ : Sg) : Option ((Int32 × Int32 × Int32) ⊕ Int32) :=
  nm (v6_75 + 1) fun x4 =>
  some (.inl (v4_75, v5_75, x4))
def f_X0_fewestTurned_26s (v1 : Int32) (v2 : Int32) (v3 : Int32) (v4_26 : Int32) (v5_26 : Int32) (v6_26 : Int32) (σ : Sg) : Option ((Int32 × Int32 × Int32) ⊕ Int32) :=
  if v3 ≤ v6_26 then (
  some (.inr (v4_26)))
  else (
  (f_J6_bitCount_0f7a4 v6_26).bind fun q3 =>
  if v5_26 ≤ q3 then (
  f_X0_fewestTurned_75 v1 v2 v3 v4_26 v5_26 v6_26 σ)
  else (
  (f_X8_holdsAll v3 v6_26).bind fun q5 =>
  if q5 = 0 then (
  f_X0_fewestTurned_75 v1 v2 v3 v4_26 v5_26 v6_26 σ)
  else (
  (f_X0_isMet v1 (v2 ^^^ v6_26) σ).bind fun q6 =>
  if q6 = 0 then (
  f_X0_fewestTurned_75 v1 v2 v3 v4_26 v5_26 v6_26 σ)
  else (
  f_X0_fewestTurned_75 v1 v2 v3 v6_26 q3 v6_26 σ))))
def f_X0_fewestTurned_26 (v1 : Int32) (v2 : Int32) (v3 : Int32) (v4_26 : Int32) (v5_26 : Int32) (v6_26 : Int32) (σ : Sg) : Option Int32 :=
  itr 3000 (fun s => f_X0_fewestTurned_26s v1 v2 v3 s.1 s.2.1 s.2.2 σ) (v4_26, v5_26, v6_26)
def f_X0_fewestTurned (v1 : Int32) (v2 : Int32) (v3 : Int32) (σ : Sg) : Option Int32 :=
  (f_X0_isMet v1 (v2 ^^^ v3) σ).bind fun q1 =>
  if q1 = 0 then (
  some ((-4)))
  else (
  (f_J6_bitCount_0f7a4 v3).bind fun q2 =>
  f_X0_fewestTurned_26 v1 v2 v3 v3 q2 0 σ)
def f_X0_fewestFor (v1 : Int32) (σ : Sg) : Option Int32 :=
  (f_X1_beginnings 12 σ).bind fun q1 =>
  (f_X0_fewestTurned v1 0 q1 σ).bind fun q2 =>
  some (q2)
def f_X1_reachOf (b : Nat) (v1 : Int32) (σ : Sg) : Option Int32 :=
  (f_X1_reachBy b v1 1023 (σ.1 b 9) σ).bind fun q1 =>
  some (q1)
def f_X0_lostBy (v1 : Int32) (σ : Sg) : Option Int32 :=
  (f_X1_there 12 σ).bind fun q1 =>
  nm ((q1 &&& (((1 : Int32) <<< (v1 &&& 31)) ^^^ ((-1) : Int32)))) fun x2 =>
  (f_X1_beginnings 12 σ).bind fun q3 =>
  (f_X1_reachBy 12 q3 1023 x2 σ).bind fun q4 =>
  (f_X1_beginnings 12 σ).bind fun q5 =>
  (f_X1_reachOf 12 q5 σ).bind fun q6 =>
  some (((q6 &&& (q4 ^^^ ((-1) : Int32))) &&& x2))
def f_X0_fewestMoreFor (v1 : Int32) (σ : Sg) : Option Int32 :=
  (f_X1_there 12 σ).bind fun q1 =>
  (f_X1_beginnings 12 σ).bind fun q2 =>
  nm (((q1 &&& (((1 : Int32) <<< (v1 &&& 31)) ^^^ ((-1) : Int32))) &&& (q2 ^^^ ((-1) : Int32)))) fun x3 =>
  (f_X1_beginnings 12 σ).bind fun q4 =>
  (f_X0_fewestTurned v1 q4 x3 σ).bind fun q5 =>
  some (q5)
def f_X0_fewestIntoHall (σ : Sg) : Option Int32 :=
  (f_X1_beginnings 12 σ).bind fun q1 =>
  (f_X0_fewestTurned (-1) 0 q1 σ).bind fun q2 =>
  some (q2)
def f_X0_fewestToRopeOff (σ : Sg) : Option Int32 :=
  (f_X1_beginnings 12 σ).bind fun q1 =>
  (f_X1_beginnings 12 σ).bind fun q2 =>
  (f_X0_fewestTurned (-2) q1 q2 σ).bind fun q3 =>
  some (q3)
def f_X1_allStones (b : Nat) (σ : Sg) : Option Int32 :=
  some ((((1 : Int32) <<< ((σ.1 b 6) &&& 31)) - (1 : Int32)))
def f_X1_setStones_11 (b : Nat) (s_11 : Sg) : Option (Int32 × Sg) :=
  (zrt 0).bind fun x1 =>
  some ((x1, s_11))
def f_X1_setStones (b : Nat) (v1 : Int32) (σ : Sg) : Option (Int32 × Sg) :=
  if v1 < 1 then (
  f_X1_setStones_11 b σ)
  else (
  if v1 ≤ 10 then (
  (pfi σ b 6 v1).bind fun s2 =>
  (f_X1_allStones b s2).bind fun q3 =>
  (pfi s2 b 9 q3).bind fun s4 =>
  (zrt 1).bind fun x5 =>
  some ((x5, s4)))
  else (
  f_X1_setStones_11 b σ))
def f_X8_clearRow_2s (k1 n1 : Nat) (v1_2 : Int32) (s_2 : Sg) : Option ((Int32 × Sg) ⊕ Sg) :=
  if (nI n1) ≤ v1_2 then (
  some (.inr (s_2)))
  else (
  (ast s_2 k1 n1 v1_2 0).bind fun s1 =>
  nm (v1_2 + 1) fun x2 =>
  some (.inl (x2, s1)))
def f_X8_clearRow_2 (k1 n1 : Nat) (v1_2 : Int32) (s_2 : Sg) : Option Sg :=
  itr 3000 (fun s => f_X8_clearRow_2s k1 n1 s.1 s.2) (v1_2, s_2)
def f_X8_clearRow (k1 n1 : Nat) (σ : Sg) : Option Sg :=
  f_X8_clearRow_2 k1 n1 0 σ
def f_X1_empty (b : Nat) (σ : Sg) : Option Sg :=
  (f_X8_clearRow (b + 5) 10 σ).bind fun q1 =>
  (f_X8_clearRow (b + 6) 10 q1).bind fun q2 =>
  (pfi q2 b 7 0).bind fun s3 =>
  (pfi s3 b 8 0).bind fun s4 =>
  (pfi s4 b 10 0).bind fun s5 =>
  (f_X1_setStones b 4 s5).bind fun q6 =>
  some (q6.2)
def f_X8_copy_26 (k1 n1 k2 n2 : Nat) (s_26 : Sg) : Option Sg :=
  some (s_26)
def f_X8_copy_2s (k1 n1 k2 n2 : Nat) (v2_2 : Int32) (s_2 : Sg) : Option ((Int32 × Sg) ⊕ Sg) :=
  if (nI n1) ≤ v2_2 then (
  (f_X8_copy_26 k1 n1 k2 n2 s_2).map (fun z => .inr (z)))
  else (
  if (nI n2) ≤ v2_2 then (
  (f_X8_copy_26 k1 n1 k2 n2 s_2).map (fun z => .inr (z)))
  else (
  (ald s_2 k1 n1 v2_2).bind fun x1 =>
  (ast s_2 k2 n2 v2_2 x1).bind fun s2 =>
  nm (v2_2 + 1) fun x3 =>
  some (.inl (x3, s2))))
def f_X8_copy_2 (k1 n1 k2 n2 : Nat) (v2_2 : Int32) (s_2 : Sg) : Option Sg :=
  itr 3000 (fun s => f_X8_copy_2s k1 n1 k2 n2 s.1 s.2) (v2_2, s_2)
def f_X8_copy (k1 n1 k2 n2 : Nat) (σ : Sg) : Option Sg :=
  f_X8_copy_2 k1 n1 k2 n2 0 σ
def f_X1_copyFrom (b b2 : Nat) (σ : Sg) : Option Sg :=
  (f_X8_copy (b2 + 1) 10 (b + 1) 10 σ).bind fun q1 =>
  (f_X8_copy (b2 + 2) 10 (b + 2) 10 q1).bind fun q2 =>
  (f_X8_copy (b2 + 3) 10 (b + 3) 10 q2).bind fun q3 =>
  (f_X8_copy (b2 + 4) 10 (b + 4) 10 q3).bind fun q4 =>
  (f_X8_copy (b2 + 5) 10 (b + 5) 10 q4).bind fun q5 =>
  (f_X8_copy (b2 + 6) 10 (b + 6) 10 q5).bind fun q6 =>
  (pfi q6 b 6 (q6.1 b2 6)).bind fun s7 =>
  (pfi s7 b 7 (s7.1 b2 7)).bind fun s8 =>
  (pfi s8 b 8 (s8.1 b2 8)).bind fun s9 =>
  (pfi s9 b 9 (s9.1 b2 9)).bind fun s10 =>
  (pfi s10 b 10 (s10.1 b2 10)).bind fun s11 =>
  some (s11)
def f_X1_hasStone_17 (b : Nat) (t0_17 : Int32) (σ : Sg) : Option Int32 :=
  (zrt t0_17).bind fun x1 =>
  some (x1)
def f_X1_hasStone_16 (b : Nat) (σ : Sg) : Option Int32 :=
  f_X1_hasStone_17 b 0 σ
def f_X1_hasStone (b : Nat) (v1 : Int32) (σ : Sg) : Option Int32 :=
  if v1 < 0 then (
  f_X1_hasStone_16 b σ)
  else (
  if (σ.1 b 6) ≤ v1 then (
  f_X1_hasStone_16 b σ)
  else (
  f_X1_hasStone_17 b 1 σ))
def f_X1_beginOn (b : Nat) (v1 : Int32) (σ : Sg) : Option (Int32 × Sg) :=
  (f_X1_hasStone b v1 σ).bind fun q1 =>
  if q1 = 0 then (
  (zrt 0).bind fun x4 =>
  some ((x4, σ)))
  else (
  (pfi σ b 8 ((σ.1 b 8) ||| ((1 : Int32) <<< (v1 &&& 31)))).bind fun s2 =>
  (zrt 1).bind fun x3 =>
  some ((x3, s2)))
def f_X1_standOnBeginnings (b : Nat) (σ : Sg) : Option Sg :=
  (f_X1_beginnings b σ).bind fun q1 =>
  (pfi σ b 10 q1).bind fun s2 =>
  some (s2)
def f_X1_couldBeStep_39 (b : Nat) (t0_39 : Int32) (σ : Sg) : Option Int32 :=
  (zrt t0_39).bind fun x2 =>
  some (x2)
def f_X1_couldBeStep_38 (b : Nat) (σ : Sg) : Option Int32 :=
  f_X1_couldBeStep_39 b 0 σ
def f_X1_couldBeStep (b : Nat) (v1 : Int32) (v2 : Int32) (v3 : Int32) (σ : Sg) : Option Int32 :=
  (f_X1_hasStone b v1 σ).bind fun q1 =>
  if q1 = 0 then (
  f_X1_couldBeStep_38 b σ)
  else (
  (f_X1_hasStone b v2 σ).bind fun q3 =>
  if q3 = 0 then (
  f_X1_couldBeStep_38 b σ)
  else (
  (f_X1_hasStone b v3 σ).bind fun q4 =>
  if q4 = 0 then (
  f_X1_couldBeStep_38 b σ)
  else (
  if v3 = v1 then (
  f_X1_couldBeStep_38 b σ)
  else (
  if v3 = v2 then (
  f_X1_couldBeStep_38 b σ)
  else (
  f_X1_couldBeStep_39 b 1 σ)))))
def f_X8_put_14 (k1 n1 : Nat) (s_14 : Sg) : Option Sg :=
  some (s_14)
def f_X8_put (k1 n1 : Nat) (v1 : Int32) (v2 : Int32) (σ : Sg) : Option Sg :=
  if v1 < 0 then (
  f_X8_put_14 k1 n1 σ)
  else (
  if (nI n1) ≤ v1 then (
  f_X8_put_14 k1 n1 σ)
  else (
  (ast σ k1 n1 v1 v2).bind fun s1 =>
  f_X8_put_14 k1 n1 s1))
def f_X1_addStep_19 (b : Nat) (s_19 : Sg) : Option (Int32 × Sg) :=
  (zrt 0).bind fun x2 =>
  some ((x2, s_19))
def f_X1_addStep (b : Nat) (v1 : Int32) (v2 : Int32) (v3 : Int32) (σ : Sg) : Option (Int32 × Sg) :=
  (f_X1_couldBeStep b v1 v2 v3 σ).bind fun q1 =>
  if q1 = 0 then (
  f_X1_addStep_19 b σ)
  else (
  if (σ.1 b 7) < 10 then (
  (f_X8_put (b + 1) 10 (σ.1 b 7) v1 σ).bind fun q3 =>
  (f_X8_put (b + 2) 10 (q3.1 b 7) v2 q3).bind fun q4 =>
  (f_X8_put (b + 3) 10 (q4.1 b 7) v3 q4).bind fun q5 =>
  (f_X8_put (b + 4) 10 (q5.1 b 7) (((1 : Int32) <<< (v1 &&& 31)) ||| ((1 : Int32) <<< (v2 &&& 31))) q5).bind fun q6 =>
  (pfi q6 b 7 ((q6.1 b 7) + (1 : Int32))).bind fun s7 =>
  (zrt 1).bind fun x8 =>
  some ((x8, s7)))
  else (
  f_X1_addStep_19 b σ))
def f_X1_setGainsay_21 (b : Nat) (s_21 : Sg) : Option (Int32 × Sg) :=
  (zrt 0).bind fun x2 =>
  some ((x2, s_21))
def f_X1_setGainsay (b : Nat) (v1 : Int32) (v2 : Int32) (σ : Sg) : Option (Int32 × Sg) :=
  (f_X1_hasStone b v1 σ).bind fun q1 =>
  if q1 = 0 then (
  f_X1_setGainsay_21 b σ)
  else (
  (f_X1_hasStone b v2 σ).bind fun q3 =>
  if q3 = 0 then (
  f_X1_setGainsay_21 b σ)
  else (
  if v1 = v2 then (
  f_X1_setGainsay_21 b σ)
  else (
  (f_X8_at (b + 5) 10 v1 σ).bind fun q4 =>
  (f_X8_put (b + 5) 10 v1 (q4 ||| ((1 : Int32) <<< (v2 &&& 31))) σ).bind fun q5 =>
  (f_X8_at (b + 5) 10 v2 q5).bind fun q6 =>
  (f_X8_put (b + 5) 10 v2 (q6 ||| ((1 : Int32) <<< (v1 &&& 31))) q5).bind fun q7 =>
  (zrt 1).bind fun x8 =>
  some ((x8, q7)))))
def f_X1_setWear (b : Nat) (v1 : Int32) (v2 : Int32) (σ : Sg) : Option (Int32 × Sg) :=
  (f_X1_hasStone b v1 σ).bind fun q1 =>
  if q1 = 0 then (
  (zrt 0).bind fun x4 =>
  some ((x4, σ)))
  else (
  (f_X8_put (b + 6) 10 v1 v2 σ).bind fun q2 =>
  (zrt 1).bind fun x3 =>
  some ((x3, q2)))
def f_X1_stepCount (b : Nat) (σ : Sg) : Option Int32 :=
  some ((σ.1 b 7))
def f_X1_begins (b : Nat) (σ : Sg) : Option Int32 :=
  some ((σ.1 b 8))
def f_X1_stood (b : Nat) (σ : Sg) : Option Int32 :=
  some ((σ.1 b 10))
def f_X1_isThere (b : Nat) (v1 : Int32) (σ : Sg) : Option Int32 :=
  (f_X8_has (σ.1 b 9) v1).bind fun q1 =>
  (zrt q1).bind fun x2 =>
  some (x2)
def f_X1_wearOf (b : Nat) (v1 : Int32) (σ : Sg) : Option Int32 :=
  (f_X8_at (b + 6) 10 v1 σ).bind fun q1 =>
  some (q1)
def f_X1_firstOf (b : Nat) (v1 : Int32) (σ : Sg) : Option Int32 :=
  (f_X8_at (b + 1) 10 v1 σ).bind fun q1 =>
  some (q1)
def f_X1_secondOf (b : Nat) (v1 : Int32) (σ : Sg) : Option Int32 :=
  (f_X8_at (b + 2) 10 v1 σ).bind fun q1 =>
  some (q1)
def f_X1_endOf (b : Nat) (v1 : Int32) (σ : Sg) : Option Int32 :=
  (f_X8_at (b + 3) 10 v1 σ).bind fun q1 =>
  some (q1)
def f_X1_originsOf (b : Nat) (v1 : Int32) (σ : Sg) : Option Int32 :=
  (f_X8_at (b + 4) 10 v1 σ).bind fun q1 =>
  some (q1)
def f_X1_after (b : Nat) (v1 : Int32) (v2 : Int32) (σ : Sg) : Option Int32 :=
  (f_X1_afterAmong b v1 v2 (σ.1 b 9) σ).bind fun q1 =>
  some (q1)
def f_X1_mayBeGone_21 (b : Nat) (t0_21 : Int32) (σ : Sg) : Option Int32 :=
  (zrt t0_21).bind fun x2 =>
  some (x2)
def f_X1_mayBeGone (b : Nat) (v1 : Int32) (σ : Sg) : Option Int32 :=
  (f_X1_after b v1 (σ.1 b 10) σ).bind fun q1 =>
  if q1 = (σ.1 b 10) then (
  f_X1_mayBeGone_21 b 0 σ)
  else (
  f_X1_mayBeGone_21 b 1 σ)
def f_X1_tread (b : Nat) (v1 : Int32) (σ : Sg) : Option Sg :=
  (f_X1_endOf b v1 σ).bind fun q1 =>
  (f_X1_after b v1 (σ.1 b 10) σ).bind fun q2 =>
  (pfi σ b 10 q2).bind fun s3 =>
  (f_X8_at (b + 6) 10 q1 s3).bind fun q4 =>
  (f_X8_put (b + 6) 10 q1 (q4 + (1 : Int32)) s3).bind fun q5 =>
  some (q5)
def f_X1_untread (b : Nat) (v1 : Int32) (σ : Sg) : Option Sg :=
  (pfi σ b 10 ((σ.1 b 10) &&& (((1 : Int32) <<< (v1 &&& 31)) ^^^ ((-1) : Int32)))).bind fun s1 =>
  (f_X8_at (b + 6) 10 v1 s1).bind fun q2 =>
  (f_X8_put (b + 6) 10 v1 (q2 - (1 : Int32)) s1).bind fun q3 =>
  some (q3)
def f_X1_removeSlab (b : Nat) (v1 : Int32) (σ : Sg) : Option Sg :=
  (pfi σ b 9 ((σ.1 b 9) &&& (((1 : Int32) <<< (v1 &&& 31)) ^^^ ((-1) : Int32)))).bind fun s1 =>
  (pfi s1 b 10 ((s1.1 b 10) &&& (((1 : Int32) <<< (v1 &&& 31)) ^^^ ((-1) : Int32)))).bind fun s2 =>
  some (s2)
def f_X1_putSlabBack_28 (b : Nat) (s_28 : Sg) : Option Sg :=
  some (s_28)
def f_X1_putSlabBack (b : Nat) (v1 : Int32) (v2 : Int32) (σ : Sg) : Option Sg :=
  (pfi σ b 9 ((σ.1 b 9) ||| ((1 : Int32) <<< (v1 &&& 31)))).bind fun s1 =>
  if v2 = 0 then (
  f_X1_putSlabBack_28 b s1)
  else (
  (pfi s1 b 10 ((s1.1 b 10) ||| ((1 : Int32) <<< (v1 &&& 31)))).bind fun s2 =>
  f_X1_putSlabBack_28 b s2)
def f_X1_removeLatestStep_17 (b : Nat) (s_17 : Sg) : Option Sg :=
  some (s_17)
def f_X1_removeLatestStep (b : Nat) (σ : Sg) : Option Sg :=
  if (σ.1 b 7) ≤ 0 then (
  f_X1_removeLatestStep_17 b σ)
  else (
  (pfi σ b 7 ((σ.1 b 7) - (1 : Int32))).bind fun s1 =>
  f_X1_removeLatestStep_17 b s1)
def f_X1_directlyBehind_32 (b : Nat) (v1 : Int32) (v2_32 : Int32) (v3_32 : Int32) (σ : Sg) : Option ((Int32 × Int32) ⊕ Int32) :=
  nm (v3_32 + 1) fun x2 =>
  some (.inl (v2_32, x2))
def f_X1_directlyBehind_4s (b : Nat) (v1 : Int32) (v2_4 : Int32) (v3_4 : Int32) (σ : Sg) : Option ((Int32 × Int32) ⊕ Int32) :=
  if (σ.1 b 7) ≤ v3_4 then (
  some (.inr (v2_4)))
  else (
  (f_X1_originsOf b v3_4 σ).bind fun q1 =>
  if (q1 &&& v1) = 0 then (
  f_X1_directlyBehind_32 b v1 v2_4 v3_4 σ)
  else (
  (f_X1_endOf b v3_4 σ).bind fun q3 =>
  nm ((v2_4 ||| ((1 : Int32) <<< (q3 &&& 31)))) fun x4 =>
  f_X1_directlyBehind_32 b v1 x4 v3_4 σ))
def f_X1_directlyBehind_4 (b : Nat) (v1 : Int32) (v2_4 : Int32) (v3_4 : Int32) (σ : Sg) : Option Int32 :=
  itr 3000 (fun s => f_X1_directlyBehind_4s b v1 s.1 s.2 σ) (v2_4, v3_4)
def f_X1_directlyBehind (b : Nat) (v1 : Int32) (σ : Sg) : Option Int32 :=
  f_X1_directlyBehind_4 b v1 0 0 σ
def f_X2_size (σ : Sg) : Option Int32 :=
  some ((σ.1 33 2))
def f_X2_clear (σ : Sg) : Option Sg :=
  (pfi σ 33 2 0).bind fun s1 =>
  some (s1)
def f_X2_forgetOldest_2s (v1_2 : Int32) (s_2 : Sg) : Option ((Int32 × Sg) ⊕ Sg) :=
  if (s_2.1 33 2) ≤ v1_2 then (
  (pfi s_2 33 2 ((s_2.1 33 2) - (1 : Int32))).bind fun s1 =>
  some (.inr (s1)))
  else (
  (f_X8_at 34 8 v1_2 s_2).bind fun q2 =>
  (f_X8_put 34 8 (v1_2 - (1 : Int32)) q2 s_2).bind fun q3 =>
  (f_X8_at 35 8 v1_2 q3).bind fun q4 =>
  (f_X8_put 35 8 (v1_2 - (1 : Int32)) q4 q3).bind fun q5 =>
  nm (v1_2 + 1) fun x6 =>
  some (.inl (x6, q5)))
def f_X2_forgetOldest_2 (v1_2 : Int32) (s_2 : Sg) : Option Sg :=
  itr 3000 (fun s => f_X2_forgetOldest_2s s.1 s.2) (v1_2, s_2)
def f_X2_forgetOldest (σ : Sg) : Option Sg :=
  f_X2_forgetOldest_2 1 σ
def f_X2_note_13 (v1 : Int32) (v2 : Int32) (s_13 : Sg) : Option Sg :=
  (f_X8_put 34 8 (s_13.1 33 2) v1 s_13).bind fun q1 =>
  (f_X8_put 35 8 (q1.1 33 2) v2 q1).bind fun q2 =>
  (pfi q2 33 2 ((q2.1 33 2) + (1 : Int32))).bind fun s3 =>
  some (s3)
def f_X2_note (v1 : Int32) (v2 : Int32) (σ : Sg) : Option Sg :=
  if (σ.1 33 2) < 8 then (
  f_X2_note_13 v1 v2 σ)
  else (
  (f_X2_forgetOldest σ).bind fun q4 =>
  f_X2_note_13 v1 v2 q4)
def f_X2_noteGone (v1 : Int32) (σ : Sg) : Option Sg :=
  (f_X2_note 0 v1 σ).bind fun q1 =>
  some (q1)
def f_X2_noteOut_10 (v1 : Int32) (t1_10 : Int32) (s_10 : Sg) : Option Sg :=
  (f_X2_note t1_10 v1 s_10).bind fun q1 =>
  some (q1)
def f_X2_noteOut (v1 : Int32) (v2 : Int32) (σ : Sg) : Option Sg :=
  if v2 = 0 then (
  f_X2_noteOut_10 v1 1 σ)
  else (
  f_X2_noteOut_10 v1 2 σ)
def f_X2_noteLaid (σ : Sg) : Option Sg :=
  (f_X2_note 3 0 σ).bind fun q1 =>
  some (q1)
def f_X2_takeBackLatest_81 (s_81 : Sg) : Option Sg :=
  some (s_81)
def f_X2_takeBackLatest_78 (t1_78 : Int32) (t2_78 : Int32) (s_78 : Sg) : Option Sg :=
  (f_X1_putSlabBack 12 t1_78 t2_78 s_78).bind fun q4 =>
  f_X2_takeBackLatest_81 q4
def f_X2_takeBackLatest (σ : Sg) : Option Sg :=
  if (σ.1 33 2) = 0 then (
  some (σ))
  else (
  (pfi σ 33 2 ((σ.1 33 2) - (1 : Int32))).bind fun s1 =>
  (f_X8_at 34 8 (s1.1 33 2) s1).bind fun q2 =>
  (f_X8_at 35 8 (s1.1 33 2) s1).bind fun q3 =>
  if q2 = 0 then (
  (f_X1_untread 12 q3 s1).bind fun q6 =>
  f_X2_takeBackLatest_81 q6)
  else (
  if q2 = 3 then (
  (f_X1_removeLatestStep 12 s1).bind fun q5 =>
  f_X2_takeBackLatest_81 q5)
  else (
  if q2 = 2 then (
  f_X2_takeBackLatest_78 q3 1 s1)
  else (
  f_X2_takeBackLatest_78 q3 0 s1))))
def f_J6_numberOfTrailingZeros_0f7a4_74 (v0_74 : Int32) (v1_74 : Int32) : Option Int32 :=
  some ((v1_74 + (((v0_74).toUInt32 >>> ((1 : Int32).toUInt32 &&& Int32.toUInt32 31)).toInt32)))
def f_J6_numberOfTrailingZeros_0f7a4_62 (v0_62 : Int32) (v1_62 : Int32) : Option Int32 :=
  if v0_62 ≤ 4 then (
  f_J6_numberOfTrailingZeros_0f7a4_74 v0_62 v1_62)
  else (
  nm (v1_62 + 2) fun x2 =>
  nm ((((v0_62).toUInt32 >>> ((2 : Int32).toUInt32 &&& Int32.toUInt32 31)).toInt32)) fun x3 =>
  f_J6_numberOfTrailingZeros_0f7a4_74 x3 x2)
def f_J6_numberOfTrailingZeros_0f7a4_49 (v0_49 : Int32) (v1_49 : Int32) : Option Int32 :=
  if v0_49 ≤ 16 then (
  f_J6_numberOfTrailingZeros_0f7a4_62 v0_49 v1_49)
  else (
  nm (v1_49 + 4) fun x4 =>
  nm ((((v0_49).toUInt32 >>> ((4 : Int32).toUInt32 &&& Int32.toUInt32 31)).toInt32)) fun x5 =>
  f_J6_numberOfTrailingZeros_0f7a4_62 x5 x4)
def f_J6_numberOfTrailingZeros_0f7a4_34 (v0_34 : Int32) (v1_34 : Int32) : Option Int32 :=
  if v0_34 ≤ 256 then (
  f_J6_numberOfTrailingZeros_0f7a4_49 v0_34 v1_34)
  else (
  nm (v1_34 + 8) fun x6 =>
  nm ((((v0_34).toUInt32 >>> ((8 : Int32).toUInt32 &&& Int32.toUInt32 31)).toInt32)) fun x7 =>
  f_J6_numberOfTrailingZeros_0f7a4_49 x7 x6)
def f_J6_numberOfTrailingZeros_0f7a4 (v0 : Int32) : Option Int32 :=
  nm (((v0 ^^^ ((-1) : Int32)) &&& (v0 - (1 : Int32)))) fun x1 =>
  if (0 : Int32) < x1 then (
  if x1 ≤ 65536 then (
  f_J6_numberOfTrailingZeros_0f7a4_34 x1 1)
  else (
  nm (1 + 16) fun x8 =>
  nm ((((x1).toUInt32 >>> ((16 : Int32).toUInt32 &&& Int32.toUInt32 31)).toInt32)) fun x9 =>
  f_J6_numberOfTrailingZeros_0f7a4_34 x9 x8))
  else (
  some ((x1 &&& (32 : Int32))))
def f_X3_reckon_76 (v2_76 : Int32) (t0_76 : Int32) (s_76 : Sg) : Option ((Int32 × Sg) ⊕ Sg) :=
  (f_X8_put 40 1024 v2_76 t0_76 s_76).bind fun q10 =>
  nm (v2_76 + 1) fun x11 =>
  some (.inl (x11, q10))
def f_X3_reckon_24s (v2_24 : Int32) (s_24 : Sg) : Option ((Int32 × Sg) ⊕ Sg) :=
  if (s_24.1 39 1) ≤ v2_24 then (
  some (.inr (s_24)))
  else (
  (f_X8_at 40 1024 (v2_24 &&& (v2_24 - (1 : Int32))) s_24).bind fun q5 =>
  (f_J6_numberOfTrailingZeros_0f7a4 v2_24).bind fun q6 =>
  (f_X1_after 12 q6 q5 s_24).bind fun q7 =>
  if q7 = q5 then (
  f_X3_reckon_76 v2_24 q5 s_24)
  else (
  (f_X1_there 12 s_24).bind fun q8 =>
  (f_X1_reachBy 12 q5 v2_24 q8 s_24).bind fun q9 =>
  f_X3_reckon_76 v2_24 q9 s_24))
def f_X3_reckon_24 (v2_24 : Int32) (s_24 : Sg) : Option Sg :=
  itr 3000 (fun s => f_X3_reckon_24s s.1 s.2) (v2_24, s_24)
def f_X3_reckon (σ : Sg) : Option Sg :=
  (f_X1_stepCount 12 σ).bind fun q1 =>
  (pfi σ 39 1 ((1 : Int32) <<< (q1 &&& 31))).bind fun s2 =>
  (f_X1_beginnings 12 s2).bind fun q3 =>
  (f_X8_put 40 1024 0 q3 s2).bind fun q4 =>
  f_X3_reckon_24 1 q4
def f_X3_isProof_56 (v1 : Int32) (v2 : Int32) (v3_56 : Int32) (σ : Sg) : Option ((Int32) ⊕ Int32) :=
  nm (v3_56 + 1) fun x5 =>
  some (.inl (x5))
def f_X3_isProof_19s (v1 : Int32) (v2 : Int32) (v3_19 : Int32) (σ : Sg) : Option ((Int32) ⊕ Int32) :=
  if (10 : Int32) ≤ v3_19 then (
  (zrt 1).bind fun x3 =>
  some (.inr (x3)))
  else (
  (f_X8_has v1 v3_19).bind fun q4 =>
  if q4 = 0 then (
  f_X3_isProof_56 v1 v2 v3_19 σ)
  else (
  (f_X8_at 40 1024 (v1 &&& (((1 : Int32) <<< (v3_19 &&& 31)) ^^^ ((-1) : Int32))) σ).bind fun q6 =>
  (f_X8_has q6 v2).bind fun q7 =>
  if q7 = 0 then (
  f_X3_isProof_56 v1 v2 v3_19 σ)
  else (
  (zrt 0).bind fun x8 =>
  some (.inr (x8)))))
def f_X3_isProof_19 (v1 : Int32) (v2 : Int32) (v3_19 : Int32) (σ : Sg) : Option Int32 :=
  itr 3000 (fun s => f_X3_isProof_19s v1 v2 s σ) (v3_19)
def f_X3_isProof (v1 : Int32) (v2 : Int32) (σ : Sg) : Option Int32 :=
  (f_X8_at 40 1024 v1 σ).bind fun q1 =>
  (f_X8_has q1 v2).bind fun q2 =>
  if q2 = 0 then (
  (zrt 0).bind fun x9 =>
  some (x9))
  else (
  f_X3_isProof_19 v1 v2 0 σ)
def f_X3_howMany_24 (v1 : Int32) (v2_24 : Int32) (v3_24 : Int32) (σ : Sg) : Option ((Int32 × Int32) ⊕ Int32) :=
  nm (v3_24 + 1) fun x2 =>
  some (.inl (v2_24, x2))
def f_X3_howMany_4s (v1 : Int32) (v2_4 : Int32) (v3_4 : Int32) (σ : Sg) : Option ((Int32 × Int32) ⊕ Int32) :=
  if (σ.1 39 1) ≤ v3_4 then (
  some (.inr (v2_4)))
  else (
  (f_X3_isProof v3_4 v1 σ).bind fun q1 =>
  if q1 = 0 then (
  f_X3_howMany_24 v1 v2_4 v3_4 σ)
  else (
  nm (v2_4 + 1) fun x3 =>
  f_X3_howMany_24 v1 x3 v3_4 σ))
def f_X3_howMany_4 (v1 : Int32) (v2_4 : Int32) (v3_4 : Int32) (σ : Sg) : Option Int32 :=
  itr 3000 (fun s => f_X3_howMany_4s v1 s.1 s.2 σ) (v2_4, v3_4)
def f_X3_howMany (v1 : Int32) (σ : Sg) : Option Int32 :=
  f_X3_howMany_4 v1 0 0 σ
def f_X3_shortest_46 (v1 : Int32) (v2_46 : Int32) (v3_46 : Int32) (v4_46 : Int32) (σ : Sg) : Option ((Int32 × Int32 × Int32) ⊕ Int32) :=
  nm (v4_46 + 1) fun x2 =>
  some (.inl (v2_46, v3_46, x2))
def f_X3_shortest_9s (v1 : Int32) (v2_9 : Int32) (v3_9 : Int32) (v4_9 : Int32) (σ : Sg) : Option ((Int32 × Int32 × Int32) ⊕ Int32) :=
  if (σ.1 39 1) ≤ v4_9 then (
  some (.inr (v2_9)))
  else (
  (f_J6_bitCount_0f7a4 v4_9).bind fun q1 =>
  if v3_9 ≤ q1 then (
  f_X3_shortest_46 v1 v2_9 v3_9 v4_9 σ)
  else (
  (f_X3_isProof v4_9 v1 σ).bind fun q3 =>
  if q3 = 0 then (
  f_X3_shortest_46 v1 v2_9 v3_9 v4_9 σ)
  else (
  (f_J6_bitCount_0f7a4 v4_9).bind fun q4 =>
  f_X3_shortest_46 v1 v4_9 q4 v4_9 σ)))
def f_X3_shortest_9 (v1 : Int32) (v2_9 : Int32) (v3_9 : Int32) (v4_9 : Int32) (σ : Sg) : Option Int32 :=
  itr 3000 (fun s => f_X3_shortest_9s v1 s.1 s.2.1 s.2.2 σ) (v2_9, v3_9, v4_9)
def f_X3_shortest (v1 : Int32) (σ : Sg) : Option Int32 :=
  f_X3_shortest_9 v1 (-4) 11 0 σ
def f_X3_inAll_50 (t0_50 : Int32) (σ : Sg) : Option Int32 :=
  some (t0_50)
def f_X3_inAll_35 (v1 : Int32) (v2_35 : Int32) (v3_35 : Int32) (v4_35 : Int32) (σ : Sg) : Option ((Int32 × Int32 × Int32) ⊕ Int32) :=
  nm (v4_35 + 1) fun x2 =>
  some (.inl (v2_35, v3_35, x2))
def f_X3_inAll_9s (v1 : Int32) (v2_9 : Int32) (v3_9 : Int32) (v4_9 : Int32) (σ : Sg) : Option ((Int32 × Int32 × Int32) ⊕ Int32) :=
  if (σ.1 39 1) ≤ v4_9 then (
  if v3_9 = 0 then (
  (f_X3_inAll_50 0 σ).map (fun z => .inr (z)))
  else (
  (f_X3_inAll_50 v2_9 σ).map (fun z => .inr (z))))
  else (
  (f_X3_isProof v4_9 v1 σ).bind fun q1 =>
  if q1 = 0 then (
  f_X3_inAll_35 v1 v2_9 v3_9 v4_9 σ)
  else (
  nm ((v2_9 &&& v4_9)) fun x3 =>
  f_X3_inAll_35 v1 x3 1 v4_9 σ))
def f_X3_inAll_9 (v1 : Int32) (v2_9 : Int32) (v3_9 : Int32) (v4_9 : Int32) (σ : Sg) : Option Int32 :=
  itr 3000 (fun s => f_X3_inAll_9s v1 s.1 s.2.1 s.2.2 σ) (v2_9, v3_9, v4_9)
def f_X3_inAll (v1 : Int32) (σ : Sg) : Option Int32 :=
  f_X3_inAll_9 v1 1023 0 0 σ
def f_X3_endsOf_30 (v1 : Int32) (v2_30 : Int32) (v3_30 : Int32) (σ : Sg) : Option ((Int32 × Int32) ⊕ Int32) :=
  nm (v3_30 + 1) fun x3 =>
  some (.inl (v2_30, x3))
def f_X3_endsOf_4s (v1 : Int32) (v2_4 : Int32) (v3_4 : Int32) (σ : Sg) : Option ((Int32 × Int32) ⊕ Int32) :=
  (f_X1_stepCount 12 σ).bind fun q1 =>
  if q1 ≤ v3_4 then (
  some (.inr (v2_4)))
  else (
  (f_X8_has v1 v3_4).bind fun q2 =>
  if q2 = 0 then (
  f_X3_endsOf_30 v1 v2_4 v3_4 σ)
  else (
  (f_X1_endOf 12 v3_4 σ).bind fun q4 =>
  nm ((v2_4 ||| ((1 : Int32) <<< (q4 &&& 31)))) fun x5 =>
  f_X3_endsOf_30 v1 x5 v3_4 σ))
def f_X3_endsOf_4 (v1 : Int32) (v2_4 : Int32) (v3_4 : Int32) (σ : Sg) : Option Int32 :=
  itr 3000 (fun s => f_X3_endsOf_4s v1 s.1 s.2 σ) (v2_4, v3_4)
def f_X3_endsOf (v1 : Int32) (σ : Sg) : Option Int32 :=
  f_X3_endsOf_4 v1 0 0 σ
def f_X3_howManyWear_38 (v2 : Int32) (v3 : Int32) (v4_38 : Int32) (v5_38 : Int32) (σ : Sg) : Option ((Int32 × Int32) ⊕ Int32) :=
  nm (v5_38 + 1) fun x2 =>
  some (.inl (v4_38, x2))
def f_X3_howManyWear_6s (v2 : Int32) (v3 : Int32) (v4_6 : Int32) (v5_6 : Int32) (σ : Sg) : Option ((Int32 × Int32) ⊕ Int32) :=
  if (σ.1 39 1) ≤ v5_6 then (
  some (.inr (v4_6)))
  else (
  (f_X3_endsOf v5_6 σ).bind fun q1 =>
  if q1 = v3 then (
  (f_X3_isProof v5_6 v2 σ).bind fun q3 =>
  if q3 = 0 then (
  f_X3_howManyWear_38 v2 v3 v4_6 v5_6 σ)
  else (
  nm (v4_6 + 1) fun x4 =>
  f_X3_howManyWear_38 v2 v3 x4 v5_6 σ))
  else (
  f_X3_howManyWear_38 v2 v3 v4_6 v5_6 σ))
def f_X3_howManyWear_6 (v2 : Int32) (v3 : Int32) (v4_6 : Int32) (v5_6 : Int32) (σ : Sg) : Option Int32 :=
  itr 3000 (fun s => f_X3_howManyWear_6s v2 v3 s.1 s.2 σ) (v4_6, v5_6)
def f_X3_howManyWear (v2 : Int32) (v3 : Int32) (σ : Sg) : Option Int32 :=
  f_X3_howManyWear_6 v2 v3 0 0 σ
def f_X4_isFigure_17 (t0_17 : Int32) : Option Int32 :=
  (zrt t0_17).bind fun x1 =>
  some (x1)
def f_X4_isFigure_16 : Option Int32 :=
  f_X4_isFigure_17 0
def f_X4_isFigure (v0 : Int32) : Option Int32 :=
  if v0 < 48 then (
  f_X4_isFigure_16 )
  else (
  if (57 : Int32) < v0 then (
  f_X4_isFigure_16 )
  else (
  f_X4_isFigure_17 1))
def f_X6_byteAt_24 (t0_24 : Int32) (σ : Sg) : Option Int32 :=
  some (t0_24)
def f_X6_byteAt_23 (σ : Sg) : Option Int32 :=
  f_X6_byteAt_24 (-1) σ
def f_X6_byteAt (v1 : Int32) (σ : Sg) : Option Int32 :=
  if v1 < 0 then (
  f_X6_byteAt_23 σ)
  else (
  if (σ.1 1 1) ≤ v1 then (
  f_X6_byteAt_23 σ)
  else (
  (f_X8_at 2 300 v1 σ).bind fun q1 =>
  f_X6_byteAt_24 q1 σ))
def f_X4_figuresAt_31 (t0_31 : Int32) (σ : Sg) : Option Int32 :=
  some (t0_31)
def f_X4_figuresAt (v1 : Int32) (σ : Sg) : Option Int32 :=
  (f_X6_byteAt v1 σ).bind fun q1 =>
  (f_X4_isFigure q1).bind fun q2 =>
  if q2 = 0 then (
  some (0))
  else (
  (f_X6_byteAt (v1 + (1 : Int32)) σ).bind fun q3 =>
  (f_X4_isFigure q3).bind fun q4 =>
  if q4 = 0 then (
  f_X4_figuresAt_31 1 σ)
  else (
  f_X4_figuresAt_31 2 σ))
def f_X4_numberAt_5s (v1 : Int32) (v2 : Int32) (v3_5 : Int32) (v4_5 : Int32) (σ : Sg) : Option ((Int32 × Int32) ⊕ Int32) :=
  if v2 ≤ v4_5 then (
  some (.inr (v3_5)))
  else (
  (f_X6_byteAt (v1 + v4_5) σ).bind fun q1 =>
  nm (((((10 : Int32) * v3_5) + q1) - (48 : Int32))) fun x2 =>
  nm (v4_5 + 1) fun x3 =>
  some (.inl (x2, x3)))
def f_X4_numberAt_5 (v1 : Int32) (v2 : Int32) (v3_5 : Int32) (v4_5 : Int32) (σ : Sg) : Option Int32 :=
  itr 3000 (fun s => f_X4_numberAt_5s v1 v2 s.1 s.2 σ) (v3_5, v4_5)
def f_X4_numberAt (v1 : Int32) (v2 : Int32) (σ : Sg) : Option Int32 :=
  f_X4_numberAt_5 v1 v2 0 0 σ
def f_X4_numbersOf_52 : Option Int32 :=
  some (1)
def f_X4_numbersOf_54 : Option Int32 :=
  some (2)
def f_X4_numbersOf (v0 : Int32) : Option Int32 :=
  if v0 = 97 then (
  f_X4_numbersOf_52 )
  else (
  if v0 = 110 then (
  f_X4_numbersOf_52 )
  else (
  if v0 = 116 then (
  some (3))
  else (
  if v0 = 119 then (
  f_X4_numbersOf_54 )
  else (
  if v0 = 120 then (
  f_X4_numbersOf_54 )
  else (
  some (0))))))
def f_X4_itemsEnd_76 (v3_23 : Int32) (v4_76 : Int32) (v5_76 : Int32) (v6_76 : Int32) (t0_76 : Int32) (s_76 : Sg) : Option ((Int32 × Int32 × Sg) ⊕ (Int32 × Sg)) :=
  (f_X6_byteAt (v4_76 + v6_76) s_76).bind fun q7 =>
  if q7 = t0_76 then (
  nm ((v4_76 + (v6_76 + (1 : Int32)))) fun x8 =>
  nm (v5_76 + 1) fun x9 =>
  some (.inl (x8, x9, s_76)))
  else (
  some (.inr (((-1), s_76))))
def f_X4_itemsEnd_23s (v3_23 : Int32) (v4_23 : Int32) (v5_23 : Int32) (s_23 : Sg) : Option ((Int32 × Int32 × Sg) ⊕ (Int32 × Sg)) :=
  if v3_23 ≤ v5_23 then (
  some (.inr ((v4_23, s_23))))
  else (
  (f_X4_figuresAt v4_23 s_23).bind fun q4 =>
  if q4 = 0 then (
  some (.inr (((-1), s_23))))
  else (
  (f_X4_numberAt v4_23 q4 s_23).bind fun q5 =>
  (f_X8_put 4 3 v5_23 q5 s_23).bind fun q6 =>
  if v5_23 = (v3_23 - (1 : Int32)) then (
  f_X4_itemsEnd_76 v3_23 v4_23 v5_23 q4 59 q6)
  else (
  f_X4_itemsEnd_76 v3_23 v4_23 v5_23 q4 44 q6)))
def f_X4_itemsEnd_23 (v3_23 : Int32) (v4_23 : Int32) (v5_23 : Int32) (s_23 : Sg) : Option (Int32 × Sg) :=
  itr 3000 (fun s => f_X4_itemsEnd_23s v3_23 s.1 s.2.1 s.2.2) (v4_23, v5_23, s_23)
def f_X4_itemsEnd (v2 : Int32) (σ : Sg) : Option (Int32 × Sg) :=
  (f_X6_byteAt v2 σ).bind fun q1 =>
  (f_X4_numbersOf q1).bind fun q2 =>
  if q2 = 0 then (
  some (((-1), σ)))
  else (
  nm ((v2 + (1 : Int32))) fun x3 =>
  f_X4_itemsEnd_23 q2 x3 0 σ)
def f_X4_takeItem_45 (b : Nat) (t0_45 : Int32) (s_45 : Sg) : Option (Int32 × Sg) :=
  (zrt t0_45).bind fun x13 =>
  some ((x13, s_45))
def f_X4_takeItem_44 (b : Nat) (s_44 : Sg) : Option (Int32 × Sg) :=
  f_X4_takeItem_45 b 0 s_44
def f_X4_takeItem (b : Nat) (v2 : Int32) (σ : Sg) : Option (Int32 × Sg) :=
  (f_X8_at 4 3 0 σ).bind fun q1 =>
  (f_X8_at 4 3 1 σ).bind fun q2 =>
  if v2 = 110 then (
  if (σ.1 3 1) = 0 then (
  f_X4_takeItem_44 b σ)
  else (
  (f_X1_setStones b q1 σ).bind fun q14 =>
  if q14.1 = 0 then (
  f_X4_takeItem_44 b q14.2)
  else (
  f_X4_takeItem_45 b 1 q14.2)))
  else (
  (pfz σ 3 1 0).bind fun s3 =>
  if v2 = 97 then (
  (f_X1_beginOn b q1 s3).bind fun q4 =>
  (zrt q4.1).bind fun x5 =>
  some ((x5, q4.2)))
  else (
  if v2 = 116 then (
  (f_X8_at 4 3 2 s3).bind fun q6 =>
  (f_X1_addStep b q1 q2 q6 s3).bind fun q7 =>
  (zrt q7.1).bind fun x8 =>
  some ((x8, q7.2)))
  else (
  if v2 = 120 then (
  (f_X1_setGainsay b q1 q2 s3).bind fun q9 =>
  (zrt q9.1).bind fun x10 =>
  some ((x10, q9.2)))
  else (
  (f_X1_setWear b q1 q2 s3).bind fun q11 =>
  (zrt q11.1).bind fun x12 =>
  some ((x12, q11.2))))))
def f_X6_size (σ : Sg) : Option Int32 :=
  some ((σ.1 1 1))
def f_X4_readOnto_68 (b : Nat) (s_68 : Sg) : Option (Int32 × Sg) :=
  (f_X1_standOnBeginnings b s_68).bind fun q3 =>
  some (((-4), q3))
def f_X4_readOnto_57 (b : Nat) (v3_57 : Int32) (s_57 : Sg) : Option (Int32 × Sg) :=
  some ((v3_57, s_57))
def f_X4_readOnto_14s (b : Nat) (v3_14 : Int32) (v4_14 : Int32) (s_14 : Sg) : Option ((Int32 × Int32 × Sg) ⊕ (Int32 × Sg)) :=
  if (300 : Int32) ≤ v4_14 then (
  (f_X4_readOnto_68 b s_14).map (fun z => .inr (z)))
  else (
  (f_X6_size s_14).bind fun q4 =>
  if q4 ≤ v3_14 then (
  (f_X4_readOnto_68 b s_14).map (fun z => .inr (z)))
  else (
  (f_X4_itemsEnd v3_14 s_14).bind fun q5 =>
  if q5.1 = (-1) then (
  (f_X4_readOnto_57 b v3_14 q5.2).map (fun z => .inr (z)))
  else (
  (f_X6_byteAt v3_14 q5.2).bind fun q6 =>
  (f_X4_takeItem b q6 q5.2).bind fun q7 =>
  if q7.1 = 0 then (
  (f_X4_readOnto_57 b v3_14 q7.2).map (fun z => .inr (z)))
  else (
  nm (v4_14 + 1) fun x8 =>
  some (.inl (q5.1, x8, q7.2))))))
def f_X4_readOnto_14 (b : Nat) (v3_14 : Int32) (v4_14 : Int32) (s_14 : Sg) : Option (Int32 × Sg) :=
  itr 3000 (fun s => f_X4_readOnto_14s b s.1 s.2.1 s.2.2) (v3_14, v4_14, s_14)
def f_X4_readOnto (b : Nat) (σ : Sg) : Option (Int32 × Sg) :=
  (f_X1_empty b σ).bind fun q1 =>
  (pfz q1 3 1 1).bind fun s2 =>
  f_X4_readOnto_14 b 0 0 s2
def f_X5_idleSteps_57 (v1_57 : Int32) (v2_57 : Int32) (σ : Sg) : Option ((Int32 × Int32) ⊕ Int32) :=
  nm (v2_57 + 1) fun x8 =>
  some (.inl (v1_57, x8))
def f_X5_idleSteps_4s (v1_4 : Int32) (v2_4 : Int32) (σ : Sg) : Option ((Int32 × Int32) ⊕ Int32) :=
  (f_X1_stepCount 12 σ).bind fun q1 =>
  if q1 ≤ v2_4 then (
  some (.inr (v1_4)))
  else (
  nm (((1023 : Int32) &&& (((1 : Int32) <<< (v2_4 &&& 31)) ^^^ ((-1) : Int32)))) fun x2 =>
  (f_X1_originsOf 12 v2_4 σ).bind fun q3 =>
  (f_X1_allStones 12 σ).bind fun q4 =>
  (f_X1_reachBy 12 q3 x2 q4 σ).bind fun q5 =>
  (f_X1_endOf 12 v2_4 σ).bind fun q6 =>
  (f_X8_has q5 q6).bind fun q7 =>
  if q7 = 0 then (
  f_X5_idleSteps_57 v1_4 v2_4 σ)
  else (
  nm ((v1_4 ||| ((1 : Int32) <<< (v2_4 &&& 31)))) fun x9 =>
  f_X5_idleSteps_57 x9 v2_4 σ))
def f_X5_idleSteps_4 (v1_4 : Int32) (v2_4 : Int32) (σ : Sg) : Option Int32 :=
  itr 3000 (fun s => f_X5_idleSteps_4s s.1 s.2 σ) (v1_4, v2_4)
def f_X5_idleSteps (σ : Sg) : Option Int32 :=
  f_X5_idleSteps_4 0 0 σ
def f_X5_everBehind_10s (v2_10 : Int32) (v3_10 : Int32) (σ : Sg) : Option ((Int32 × Int32) ⊕ Int32) :=
  if (10 : Int32) ≤ v3_10 then (
  some (.inr (v2_10)))
  else (
  (f_X1_directlyBehind 12 v2_10 σ).bind fun q2 =>
  nm ((v2_10 ||| q2)) fun x3 =>
  nm (v3_10 + 1) fun x4 =>
  some (.inl (x3, x4)))
def f_X5_everBehind_10 (v2_10 : Int32) (v3_10 : Int32) (σ : Sg) : Option Int32 :=
  itr 3000 (fun s => f_X5_everBehind_10s s.1 s.2 σ) (v2_10, v3_10)
def f_X5_everBehind (v1 : Int32) (σ : Sg) : Option Int32 :=
  (f_X1_directlyBehind 12 ((1 : Int32) <<< (v1 &&& 31)) σ).bind fun q1 =>
  f_X5_everBehind_10 q1 0 σ
def f_X5_lowestInCircle_2s (v1_2 : Int32) (σ : Sg) : Option ((Int32) ⊕ Int32) :=
  (f_X1_stoneCount 12 σ).bind fun q1 =>
  if q1 ≤ v1_2 then (
  some (.inr ((-4))))
  else (
  (f_X5_everBehind v1_2 σ).bind fun q2 =>
  (f_X8_has q2 v1_2).bind fun q3 =>
  if q3 = 0 then (
  nm (v1_2 + 1) fun x4 =>
  some (.inl (x4)))
  else (
  some (.inr (v1_2))))
def f_X5_lowestInCircle_2 (v1_2 : Int32) (σ : Sg) : Option Int32 :=
  itr 3000 (fun s => f_X5_lowestInCircle_2s s σ) (v1_2)
def f_X5_lowestInCircle (σ : Sg) : Option Int32 :=
  f_X5_lowestInCircle_2 0 σ
def f_X5_depth_7s (v1_7 : Int32) (v2_7 : Int32) (σ : Sg) : Option ((Int32 × Int32) ⊕ Int32) :=
  if (10 : Int32) ≤ v2_7 then (
  some (.inr ((-4))))
  else (
  (f_X1_directlyBehind 12 v1_7 σ).bind fun q2 =>
  if q2 = 0 then (
  some (.inr (v2_7)))
  else (
  nm (v2_7 + 1) fun x3 =>
  some (.inl (q2, x3))))
def f_X5_depth_7 (v1_7 : Int32) (v2_7 : Int32) (σ : Sg) : Option Int32 :=
  itr 3000 (fun s => f_X5_depth_7s s.1 s.2 σ) (v1_7, v2_7)
def f_X5_depth (σ : Sg) : Option Int32 :=
  (f_X1_allStones 12 σ).bind fun q1 =>
  f_X5_depth_7 q1 0 σ
def f_X6_clear (σ : Sg) : Option Sg :=
  (pfi σ 1 1 0).bind fun s1 =>
  some (s1)
def f_X6_addByte_32 (s_32 : Sg) : Option Sg :=
  some (s_32)
def f_X6_addByte (v1 : Int32) (σ : Sg) : Option Sg :=
  if (300 : Int32) ≤ (σ.1 1 1) then (
  f_X6_addByte_32 σ)
  else (
  (f_X8_put 2 300 (σ.1 1 1) v1 σ).bind fun q1 =>
  (pfi q1 1 1 ((q1.1 1 1) + (1 : Int32))).bind fun s2 =>
  f_X6_addByte_32 s2)
def f_X7_measureFrom_109 (v2 : Int32) (v4_109 : Int32) (v5_109 : Int32) (s_109 : Sg) : Option Sg :=
  (f_X8_put 37 1024 v2 v4_109 s_109).bind fun q3 =>
  (f_X8_put 38 1024 v2 v5_109 q3).bind fun q4 =>
  some (q4)
def f_X7_measureFrom_103 (v2 : Int32) (v4_103 : Int32) (v5_103 : Int32) (v6_103 : Int32) (s_25 : Sg) : Option ((Int32 × Int32 × Int32) ⊕ Sg) :=
  nm (v6_103 + 1) fun x8 =>
  some (.inl (v4_103, v5_103, x8))
def f_X7_measureFrom_96 (v2 : Int32) (v6_96 : Int32) (v8_96 : Int32) (t0_96 : Int32) (t1_96 : Int32) (s_25 : Sg) : Option ((Int32 × Int32 × Int32) ⊕ Sg) :=
  nm ((t0_96 + t1_96)) fun x10 =>
  f_X7_measureFrom_103 v2 v8_96 x10 v6_96 s_25
def f_X7_measureFrom_25s (v2 : Int32) (v4_25 : Int32) (v5_25 : Int32) (v6_25 : Int32) (s_25 : Sg) : Option ((Int32 × Int32 × Int32) ⊕ Sg) :=
  (f_X1_stepCount 12 s_25).bind fun q2 =>
  if q2 ≤ v6_25 then (
  (f_X7_measureFrom_109 v2 v4_25 v5_25 s_25).map (fun z => .inr (z)))
  else (
  if v4_25 ≤ 0 then (
  (f_X7_measureFrom_109 v2 v4_25 v5_25 s_25).map (fun z => .inr (z)))
  else (
  (f_X1_after 12 v6_25 v2 s_25).bind fun q5 =>
  (f_X8_at 37 1024 q5 s_25).bind fun q6 =>
  nm ((q6 + (1 : Int32))) fun x7 =>
  if q5 = v2 then (
  f_X7_measureFrom_103 v2 v4_25 v5_25 v6_25 s_25)
  else (
  if v4_25 < x7 then (
  f_X7_measureFrom_103 v2 v4_25 v5_25 v6_25 s_25)
  else (
  (f_X8_at 38 1024 q5 s_25).bind fun q9 =>
  if x7 = v4_25 then (
  f_X7_measureFrom_96 v2 v6_25 x7 q9 v5_25 s_25)
  else (
  f_X7_measureFrom_96 v2 v6_25 x7 q9 0 s_25)))))
def f_X7_measureFrom_25 (v2 : Int32) (v4_25 : Int32) (v5_25 : Int32) (v6_25 : Int32) (s_25 : Sg) : Option Sg :=
  itr 3000 (fun s => f_X7_measureFrom_25s v2 s.1 s.2.1 s.2.2 s_25) (v4_25, v5_25, v6_25)
def f_X7_measureFrom_22 (v2 : Int32) (v4_22 : Int32) (v5_22 : Int32) (s_22 : Sg) : Option Sg :=
  f_X7_measureFrom_25 v2 v4_22 v5_22 0 s_22
def f_X7_measureFrom (v2 : Int32) (v3 : Int32) (σ : Sg) : Option Sg :=
  (f_X8_has v2 v3).bind fun q1 =>
  if q1 = 0 then (
  f_X7_measureFrom_22 v2 1000 0 σ)
  else (
  f_X7_measureFrom_22 v2 0 1 σ)
def f_X7_measure_46 (v2 : Int32) (v3_11 : Int32) (v4_46 : Int32) (s_46 : Sg) : Option ((Int32 × Sg) ⊕ Sg) :=
  nm (v4_46 + (-1)) fun x4 =>
  some (.inl (x4, s_46))
def f_X7_measure_11s (v2 : Int32) (v3_11 : Int32) (v4_11 : Int32) (s_11 : Sg) : Option ((Int32 × Sg) ⊕ Sg) :=
  if v4_11 < v3_11 then (
  some (.inr (s_11)))
  else (
  (f_X8_holdsAll v4_11 v3_11).bind fun q3 =>
  if q3 = 0 then (
  f_X7_measure_46 v2 v3_11 v4_11 s_11)
  else (
  (f_X1_there 12 s_11).bind fun q5 =>
  (f_X8_holdsAll q5 v4_11).bind fun q6 =>
  if q6 = 0 then (
  f_X7_measure_46 v2 v3_11 v4_11 s_11)
  else (
  (f_X7_measureFrom v4_11 v2 s_11).bind fun q7 =>
  f_X7_measure_46 v2 v3_11 v4_11 q7)))
def f_X7_measure_11 (v2 : Int32) (v3_11 : Int32) (v4_11 : Int32) (s_11 : Sg) : Option Sg :=
  itr 3000 (fun s => f_X7_measure_11s v2 v3_11 s.1 s.2) (v4_11, s_11)
def f_X7_measure (v2 : Int32) (σ : Sg) : Option Sg :=
  (f_X1_stood 12 σ).bind fun q1 =>
  (f_X1_there 12 σ).bind fun q2 =>
  f_X7_measure_11 v2 q1 q2 σ
def f_X7_fewestSteps_25 (t0_25 : Int32) (σ : Sg) : Option Int32 :=
  some (t0_25)
def f_X7_fewestSteps (σ : Sg) : Option Int32 :=
  (f_X1_stood 12 σ).bind fun q1 =>
  (f_X8_at 37 1024 q1 σ).bind fun q2 =>
  if q2 = 1000 then (
  f_X7_fewestSteps_25 (-4) σ)
  else (
  f_X7_fewestSteps_25 q2 σ)
def f_X7_lowestFirstStep_66 (σ : Sg) : Option Int32 :=
  some ((-4))
def f_X7_lowestFirstStep_60 (v2_14 : Int32) (v3_14 : Int32) (v4_60 : Int32) (σ : Sg) : Option ((Int32) ⊕ Int32) :=
  nm (v4_60 + 1) fun x5 =>
  some (.inl (x5))
def f_X7_lowestFirstStep_14s (v2_14 : Int32) (v3_14 : Int32) (v4_14 : Int32) (σ : Sg) : Option ((Int32) ⊕ Int32) :=
  (f_X1_stepCount 12 σ).bind fun q3 =>
  if q3 ≤ v4_14 then (
  (f_X7_lowestFirstStep_66 σ).map (fun z => .inr (z)))
  else (
  if v3_14 ≤ 0 then (
  (f_X7_lowestFirstStep_66 σ).map (fun z => .inr (z)))
  else (
  (f_X1_after 12 v4_14 v2_14 σ).bind fun q4 =>
  if q4 = v2_14 then (
  f_X7_lowestFirstStep_60 v2_14 v3_14 v4_14 σ)
  else (
  (f_X8_at 37 1024 q4 σ).bind fun q6 =>
  if q6 = (v3_14 - (1 : Int32)) then (
  some (.inr (v4_14)))
  else (
  f_X7_lowestFirstStep_60 v2_14 v3_14 v4_14 σ))))
def f_X7_lowestFirstStep_14 (v2_14 : Int32) (v3_14 : Int32) (v4_14 : Int32) (σ : Sg) : Option Int32 :=
  itr 3000 (fun s => f_X7_lowestFirstStep_14s v2_14 v3_14 s σ) (v4_14)
def f_X7_lowestFirstStep (σ : Sg) : Option Int32 :=
  (f_X1_stood 12 σ).bind fun q1 =>
  (f_X7_fewestSteps σ).bind fun q2 =>
  f_X7_lowestFirstStep_14 q1 q2 0 σ
def f_X7_howManyRows_26 (t0_26 : Int32) (σ : Sg) : Option Int32 :=
  some (t0_26)
def f_X7_howManyRows (σ : Sg) : Option Int32 :=
  (f_X7_fewestSteps σ).bind fun q1 =>
  if q1 = (-4) then (
  f_X7_howManyRows_26 (-4) σ)
  else (
  (f_X1_stood 12 σ).bind fun q2 =>
  (f_X8_at 38 1024 q2 σ).bind fun q3 =>
  f_X7_howManyRows_26 q3 σ)
def f_X7_afterAllAtOnce_4s (v1 : Int32) (v2_4 : Int32) (v3_4 : Int32) (σ : Sg) : Option ((Int32 × Int32) ⊕ Int32) :=
  (f_X1_stepCount 12 σ).bind fun q1 =>
  if q1 ≤ v3_4 then (
  some (.inr (v2_4)))
  else (
  (f_X1_after 12 v3_4 v1 σ).bind fun q2 =>
  nm ((v2_4 ||| q2)) fun x3 =>
  nm (v3_4 + 1) fun x4 =>
  some (.inl (x3, x4)))
def f_X7_afterAllAtOnce_4 (v1 : Int32) (v2_4 : Int32) (v3_4 : Int32) (σ : Sg) : Option Int32 :=
  itr 3000 (fun s => f_X7_afterAllAtOnce_4s v1 s.1 s.2 σ) (v2_4, v3_4)
def f_X7_afterAllAtOnce (v1 : Int32) (σ : Sg) : Option Int32 :=
  f_X7_afterAllAtOnce_4 v1 v1 0 σ
def f_X7_rounds_7s (v1 : Int32) (v2_7 : Int32) (v3_7 : Int32) (σ : Sg) : Option ((Int32 × Int32) ⊕ Int32) :=
  if (10 : Int32) < v3_7 then (
  some (.inr ((-4))))
  else (
  (f_X8_has v2_7 v1).bind fun q2 =>
  if q2 = 0 then (
  (f_X7_afterAllAtOnce v2_7 σ).bind fun q3 =>
  nm (v3_7 + 1) fun x4 =>
  some (.inl (q3, x4)))
  else (
  some (.inr (v3_7))))
def f_X7_rounds_7 (v1 : Int32) (v2_7 : Int32) (v3_7 : Int32) (σ : Sg) : Option Int32 :=
  itr 3000 (fun s => f_X7_rounds_7s v1 s.1 s.2 σ) (v2_7, v3_7)
def f_X7_rounds (v1 : Int32) (σ : Sg) : Option Int32 :=
  (f_X1_stood 12 σ).bind fun q1 =>
  f_X7_rounds_7 v1 q1 0 σ
def f_X8_write_11 (s_11 : Sg) : Option (Int32 × Sg) :=
  some (((-1), s_11))
def f_X8_write_36s (v2 : Int64) (v4_36 : Int32) (s_36 : Sg) : Option ((Int32 × Sg) ⊕ (Int32 × Sg)) :=
  if v4_36 < 0 then (
  (f_X6_size s_36).bind fun q3 =>
  some (.inr ((q3, s_36))))
  else (
  (f_X6_addByte ((((v2 >>> ((((8 : Int32) * v4_36) : Int32).toInt64 &&& 63)) : Int64).toInt32) &&& (255 : Int32)) s_36).bind fun q4 =>
  nm (v4_36 + (-1)) fun x5 =>
  some (.inl (x5, q4)))
def f_X8_write_36 (v2 : Int64) (v4_36 : Int32) (s_36 : Sg) : Option (Int32 × Sg) :=
  itr 3000 (fun s => f_X8_write_36s v2 s.1 s.2) (v4_36, s_36)
def f_X8_write (v1 : Int32) (v2 : Int64) (σ : Sg) : Option (Int32 × Sg) :=
  if v1 < 1 then (
  f_X8_write_11 σ)
  else (
  if v1 ≤ 8 then (
  (f_X6_size σ).bind fun q1 =>
  if (q1 + v1) ≤ 300 then (
  nm ((v1 - (1 : Int32))) fun x2 =>
  f_X8_write_36 v2 x2 σ)
  else (
  some (((-3), σ))))
  else (
  f_X8_write_11 σ))
def f_X8_wipe (σ : Sg) : Option (Int32 × Sg) :=
  (f_X6_size σ).bind fun q1 =>
  (f_X6_clear σ).bind fun q2 =>
  some ((q1, q2))
def f_X8_fault (σ : Sg) : Option (Int32 × Sg) :=
  (f_X4_readOnto 5 σ).bind fun q1 =>
  some ((q1.1, q1.2))
def f_X8_forgetRowAndPast (σ : Sg) : Option Sg :=
  (pfi σ 0 10 0).bind fun s1 =>
  (f_X2_clear s1).bind fun q2 =>
  some (q2)
def f_X8_layFloor_30 (s_30 : Sg) : Option (Int32 × Sg) :=
  some (((-2), s_30))
def f_X8_layFloor (σ : Sg) : Option (Int32 × Sg) :=
  (f_X4_readOnto 5 σ).bind fun q1 =>
  if q1.1 = (-4) then (
  (f_X1_stepCount 5 q1.2).bind fun q2 =>
  if q2 = 0 then (
  f_X8_layFloor_30 q1.2)
  else (
  (f_X1_copyFrom 12 5 q1.2).bind fun q3 =>
  (pfi q3 0 11 0).bind fun s4 =>
  (f_X8_forgetRowAndPast s4).bind fun q5 =>
  (f_X1_stoneCount 12 q5).bind fun q6 =>
  some ((q6, q5))))
  else (
  f_X8_layFloor_30 q1.2)
def f_X8_isStone (v1 : Int32) (σ : Sg) : Option Int32 :=
  (f_X1_hasStone 12 v1 σ).bind fun q1 =>
  (zrt q1).bind fun x2 =>
  some (x2)
def f_X8_stone_17 (σ : Sg) : Option Int32 :=
  some ((-1))
def f_X8_stone (v1 : Int32) (v2 : Int32) (σ : Sg) : Option Int32 :=
  (f_X8_isStone v1 σ).bind fun q1 =>
  if q1 = 0 then (
  f_X8_stone_17 σ)
  else (
  if v2 < 0 then (
  f_X8_stone_17 σ)
  else (
  if v2 ≤ 4 then (
  if v2 = 0 then (
  (f_X1_there 12 σ).bind fun q2 =>
  (f_X8_bitOf q2 v1).bind fun q3 =>
  some (q3))
  else (
  if v2 = 1 then (
  (f_X1_stood 12 σ).bind fun q4 =>
  (f_X8_bitOf q4 v1).bind fun q5 =>
  some (q5))
  else (
  if v2 = 2 then (
  (f_X1_begins 12 σ).bind fun q6 =>
  (f_X8_bitOf q6 v1).bind fun q7 =>
  some (q7))
  else (
  if v2 = 3 then (
  (f_X1_wearOf 12 v1 σ).bind fun q8 =>
  some (q8))
  else (
  (f_X1_gainsayersOf 12 v1 σ).bind fun q9 =>
  some (q9))))))
  else (
  f_X8_stone_17 σ)))
def f_X8_isStep_20 (t0_20 : Int32) (σ : Sg) : Option Int32 :=
  (zrt t0_20).bind fun x1 =>
  some (x1)
def f_X8_isStep_19 (σ : Sg) : Option Int32 :=
  f_X8_isStep_20 0 σ
def f_X8_isStep (v1 : Int32) (σ : Sg) : Option Int32 :=
  if v1 < 0 then (
  f_X8_isStep_19 σ)
  else (
  (f_X1_stepCount 12 σ).bind fun q2 =>
  if q2 ≤ v1 then (
  f_X8_isStep_19 σ)
  else (
  f_X8_isStep_20 1 σ))
def f_X8_step_17 (σ : Sg) : Option Int32 :=
  some ((-1))
def f_X8_step_91 (t0_91 : Int32) (σ : Sg) : Option Int32 :=
  some (t0_91)
def f_X8_step (v1 : Int32) (v2 : Int32) (σ : Sg) : Option Int32 :=
  (f_X8_isStep v1 σ).bind fun q1 =>
  if q1 = 0 then (
  f_X8_step_17 σ)
  else (
  if v2 < 0 then (
  f_X8_step_17 σ)
  else (
  if v2 ≤ 3 then (
  if v2 = 0 then (
  (f_X1_firstOf 12 v1 σ).bind fun q2 =>
  some (q2))
  else (
  if v2 = 1 then (
  (f_X1_secondOf 12 v1 σ).bind fun q3 =>
  some (q3))
  else (
  if v2 = 2 then (
  (f_X1_endOf 12 v1 σ).bind fun q4 =>
  some (q4))
  else (
  (f_X1_mayBeGone 12 v1 σ).bind fun q5 =>
  if q5 = 0 then (
  f_X8_step_91 0 σ)
  else (
  f_X8_step_91 1 σ)))))
  else (
  f_X8_step_17 σ)))
def f_X8_go (v1 : Int32) (σ : Sg) : Option (Int32 × Sg) :=
  (f_X8_isStep v1 σ).bind fun q1 =>
  if q1 = 0 then (
  some (((-1), σ)))
  else (
  (f_X1_mayBeGone 12 v1 σ).bind fun q2 =>
  if q2 = 0 then (
  some (((-2), σ)))
  else (
  (f_X1_tread 12 v1 σ).bind fun q3 =>
  (f_X1_endOf 12 v1 q3).bind fun q4 =>
  (f_X2_noteGone q4 q3).bind fun q5 =>
  (f_X1_stood 12 q5).bind fun q6 =>
  (f_J6_bitCount_0f7a4 q6).bind fun q7 =>
  some ((q7, q5))))
def f_X8_takeOut_49 (v1 : Int32) (t1_49 : Int32) (t2_49 : Int32) (s_49 : Sg) : Option (Int32 × Sg) :=
  (f_X2_noteOut t1_49 t2_49 s_49).bind fun q5 =>
  (f_X1_removeSlab 12 v1 q5).bind fun q6 =>
  (f_X1_there 12 q6).bind fun q7 =>
  (f_J6_bitCount_0f7a4 q7).bind fun q8 =>
  some ((q8, q6))
def f_X8_takeOut (v1 : Int32) (σ : Sg) : Option (Int32 × Sg) :=
  (f_X8_isStone v1 σ).bind fun q1 =>
  if q1 = 0 then (
  some (((-1), σ)))
  else (
  (f_X1_isThere 12 v1 σ).bind fun q2 =>
  if q2 = 0 then (
  some (((-2), σ)))
  else (
  (f_X1_stood 12 σ).bind fun q3 =>
  (f_X8_bitOf q3 v1).bind fun q4 =>
  if q4 = 1 then (
  f_X8_takeOut_49 v1 v1 1 σ)
  else (
  f_X8_takeOut_49 v1 v1 0 σ)))
def f_X8_lay (v1 : Int32) (v2 : Int32) (v3 : Int32) (σ : Sg) : Option (Int32 × Sg) :=
  (f_X1_couldBeStep 12 v1 v2 v3 σ).bind fun q1 =>
  if q1 = 0 then (
  some (((-1), σ)))
  else (
  (f_X1_stepCount 12 σ).bind fun q2 =>
  if q2 < 10 then (
  (f_X1_addStep 12 v1 v2 v3 σ).bind fun q3 =>
  (f_X2_noteLaid q3.2).bind fun q4 =>
  (f_X1_stepCount 12 q4).bind fun q5 =>
  some (((q5 - (1 : Int32)), q4)))
  else (
  some (((-3), σ))))
def f_X8_undo (σ : Sg) : Option (Int32 × Sg) :=
  (f_X2_size σ).bind fun q1 =>
  if q1 = 0 then (
  some (((-2), σ)))
  else (
  (f_X2_takeBackLatest σ).bind fun q2 =>
  (pfi q2 0 10 0).bind fun s3 =>
  (f_X2_size s3).bind fun q4 =>
  some ((q4, s3)))
def f_X8_isSetOfStones_20 (t0_20 : Int32) (σ : Sg) : Option Int32 :=
  (zrt t0_20).bind fun x1 =>
  some (x1)
def f_X8_isSetOfStones_19 (σ : Sg) : Option Int32 :=
  f_X8_isSetOfStones_20 0 σ
def f_X8_isSetOfStones (v1 : Int32) (σ : Sg) : Option Int32 :=
  if v1 < 0 then (
  f_X8_isSetOfStones_19 σ)
  else (
  (f_X1_allStones 12 σ).bind fun q2 =>
  if q2 < v1 then (
  f_X8_isSetOfStones_19 σ)
  else (
  f_X8_isSetOfStones_20 1 σ))
def f_X8_reach (v1 : Int32) (σ : Sg) : Option Int32 :=
  (f_X8_isSetOfStones v1 σ).bind fun q1 =>
  if q1 = 0 then (
  some ((-1)))
  else (
  (f_X1_reachOf 12 v1 σ).bind fun q2 =>
  some (q2))
def f_X8_walk_17 (s_17 : Sg) : Option (Int64 × Sg) :=
  some (((-1), s_17))
def f_X8_walk (v1 : Int32) (v2 : Int32) (σ : Sg) : Option (Int64 × Sg) :=
  (f_X8_isStone v1 σ).bind fun q1 =>
  if q1 = 0 then (
  f_X8_walk_17 σ)
  else (
  if v2 < 0 then (
  f_X8_walk_17 σ)
  else (
  if v2 ≤ 2 then (
  (f_X7_measure v1 σ).bind fun q2 =>
  if v2 = 0 then (
  (f_X7_fewestSteps q2).bind fun q3 =>
  some ((((q3 : Int32).toInt64), q2)))
  else (
  if v2 = 1 then (
  (f_X7_lowestFirstStep q2).bind fun q4 =>
  some ((((q4 : Int32).toInt64), q2)))
  else (
  (f_X7_howManyRows q2).bind fun q5 =>
  some ((((q5 : Int32).toInt64), q2)))))
  else (
  f_X8_walk_17 σ)))
def f_X8_round (v1 : Int32) (σ : Sg) : Option Int32 :=
  (f_X8_isStone v1 σ).bind fun q1 =>
  if q1 = 0 then (
  some ((-1)))
  else (
  (f_X7_rounds v1 σ).bind fun q2 =>
  some (q2))
def f_X8_needs_17 (σ : Sg) : Option Int32 :=
  some ((-1))
def f_X8_needs_56 (t0_56 : Int32) (σ : Sg) : Option Int32 :=
  some (t0_56)
def f_X8_needs (v1 : Int32) (v2 : Int32) (σ : Sg) : Option Int32 :=
  (f_X8_isStone v1 σ).bind fun q1 =>
  if q1 = 0 then (
  f_X8_needs_17 σ)
  else (
  if v2 < 0 then (
  f_X8_needs_17 σ)
  else (
  if v2 ≤ 1 then (
  (f_X0_leadTo v1 σ).bind fun q2 =>
  if q2 = 0 then (
  some ((-4)))
  else (
  if v2 = 0 then (
  (f_X0_neededFor v1 σ).bind fun q4 =>
  f_X8_needs_56 q4 σ)
  else (
  (f_X0_fewestFor v1 σ).bind fun q3 =>
  f_X8_needs_56 q3 σ)))
  else (
  f_X8_needs_17 σ)))
def f_X8_lost (v1 : Int32) (σ : Sg) : Option Int32 :=
  (f_X8_isStone v1 σ).bind fun q1 =>
  if q1 = 0 then (
  some ((-1)))
  else (
  (f_X1_isThere 12 v1 σ).bind fun q2 =>
  if q2 = 0 then (
  some ((-2)))
  else (
  (f_X0_lostBy v1 σ).bind fun q3 =>
  some (q3)))
def f_X8_begin (v1 : Int32) (σ : Sg) : Option Int32 :=
  (f_X8_isStone v1 σ).bind fun q1 =>
  if q1 = 0 then (
  some ((-1)))
  else (
  (f_X1_isThere 12 v1 σ).bind fun q2 =>
  if q2 = 0 then (
  some ((-2)))
  else (
  (f_X0_fewestMoreFor v1 σ).bind fun q3 =>
  some (q3)))
def f_X8_hall_9 (σ : Sg) : Option Int32 :=
  some ((-1))
def f_X8_hall_30 (t0_30 : Int32) (σ : Sg) : Option Int32 :=
  some (t0_30)
def f_X8_hall (v1 : Int32) (σ : Sg) : Option Int32 :=
  if v1 < 0 then (
  f_X8_hall_9 σ)
  else (
  if v1 ≤ 1 then (
  if v1 = 0 then (
  (f_X0_leadIntoHall σ).bind fun q2 =>
  if q2 = 0 then (
  f_X8_hall_30 0 σ)
  else (
  f_X8_hall_30 1 σ))
  else (
  (f_X0_fewestIntoHall σ).bind fun q1 =>
  some (q1)))
  else (
  f_X8_hall_9 σ))
def f_X8_rope (σ : Sg) : Option Int32 :=
  (f_X0_fewestToRopeOff σ).bind fun q1 =>
  some (q1)
def f_X8_idle (σ : Sg) : Option Int32 :=
  (f_X5_idleSteps σ).bind fun q1 =>
  some (q1)
def f_X8_circle (σ : Sg) : Option Int32 :=
  (f_X5_lowestInCircle σ).bind fun q1 =>
  some (q1)
def f_X8_deep (σ : Sg) : Option Int32 :=
  (f_X5_depth σ).bind fun q1 =>
  some (q1)
def f_X8_proofs_17 (s_17 : Sg) : Option (Int32 × Sg) :=
  some (((-1), s_17))
def f_X8_proofs (v1 : Int32) (v2 : Int32) (σ : Sg) : Option (Int32 × Sg) :=
  (f_X8_isStone v1 σ).bind fun q1 =>
  if q1 = 0 then (
  f_X8_proofs_17 σ)
  else (
  if v2 < 0 then (
  f_X8_proofs_17 σ)
  else (
  if v2 ≤ 2 then (
  (f_X3_reckon σ).bind fun q2 =>
  if v2 = 0 then (
  (f_X3_howMany v1 q2).bind fun q3 =>
  some ((q3, q2)))
  else (
  if v2 = 1 then (
  (f_X3_shortest v1 q2).bind fun q4 =>
  some ((q4, q2)))
  else (
  (f_X3_inAll v1 q2).bind fun q5 =>
  some ((q5, q2)))))
  else (
  f_X8_proofs_17 σ)))
def f_X8_worn_16 (s_16 : Sg) : Option (Int32 × Sg) :=
  some (((-1), s_16))
def f_X8_worn (v1 : Int32) (v2 : Int32) (σ : Sg) : Option (Int32 × Sg) :=
  (f_X8_isStone v1 σ).bind fun q1 =>
  if q1 = 0 then (
  f_X8_worn_16 σ)
  else (
  (f_X8_isSetOfStones v2 σ).bind fun q2 =>
  if q2 = 0 then (
  f_X8_worn_16 σ)
  else (
  (f_X3_reckon σ).bind fun q3 =>
  (f_X3_howManyWear v1 v2 q3).bind fun q4 =>
  some ((q4, q3))))
def f_X8_tell (v1 : Int32) (σ : Sg) : Option (Int32 × Sg) :=
  (f_X8_isStep v1 σ).bind fun q1 =>
  if q1 = 0 then (
  some (((-1), σ)))
  else (
  if (σ.1 0 10) < 12 then (
  (f_X8_put 41 12 (σ.1 0 10) v1 σ).bind fun q2 =>
  (pfi q2 0 10 ((q2.1 0 10) + (1 : Int32))).bind fun s3 =>
  some (((s3.1 0 10), s3)))
  else (
  some (((-3), σ))))
def f_X8_noRow (σ : Sg) : Option (Int32 × Sg) :=
  nm ((σ.1 0 10)) fun x1 =>
  (pfi σ 0 10 0).bind fun s2 =>
  some ((x1, s2))
def f_X8_judge_10s (v1_10 : Int32) (v2_10 : Int32) (σ : Sg) : Option ((Int32 × Int32) ⊕ Int32) :=
  if (σ.1 0 10) ≤ v2_10 then (
  some (.inr ((-4))))
  else (
  (f_X8_at 41 12 v2_10 σ).bind fun q2 =>
  (f_X1_after 12 q2 v1_10 σ).bind fun q3 =>
  if q3 = v1_10 then (
  some (.inr (v2_10)))
  else (
  nm (v2_10 + 1) fun x4 =>
  some (.inl (q3, x4))))
def f_X8_judge_10 (v1_10 : Int32) (v2_10 : Int32) (σ : Sg) : Option Int32 :=
  itr 3000 (fun s => f_X8_judge_10s s.1 s.2 σ) (v1_10, v2_10)
def f_X8_judge (σ : Sg) : Option Int32 :=
  (f_X1_stood 12 σ).bind fun q1 =>
  f_X8_judge_10 q1 0 σ
def f_X8_drawnStep (v1 : Int32) (v2 : Int32) (σ : Sg) : Option Int32 :=
  (f_X1_stepCount 12 σ).bind fun q1 =>
  if q1 = 0 then (
  some (0))
  else (
  nm (((((7919 : Int64) * ((v1 : Int32).toInt64)) + ((6151 : Int64) * ((v2 : Int32).toInt64))) + (1 : Int64))) fun x2 =>
  (lrm (x2 * x2) 65521).bind fun x3 =>
  (lrm x3 ((q1 : Int32).toInt64)).bind fun x4 =>
  some (((x4 : Int64).toInt32)))
def f_X8_year_31 (σ : Sg) : Option Int32 :=
  some ((-1))
def f_X8_year_100 (t0_100 : Int32) (σ : Sg) : Option Int32 :=
  some (t0_100)
def f_X8_year_45s (v1 : Int32) (v2 : Int32) (v3 : Int32) (v4_45 : Int32) (v5_45 : Int32) (σ : Sg) : Option ((Int32 × Int32) ⊕ Int32) :=
  if v2 ≤ v5_45 then (
  if v3 = 0 then (
  (f_J6_bitCount_0f7a4 v4_45).bind fun q2 =>
  (f_X1_stood 12 σ).bind fun q3 =>
  (f_J6_bitCount_0f7a4 q3).bind fun q4 =>
  (f_X8_year_100 (q2 - q4) σ).map (fun z => .inr (z)))
  else (
  (f_X8_year_100 v4_45 σ).map (fun z => .inr (z))))
  else (
  (f_X8_drawnStep v1 v5_45 σ).bind fun q5 =>
  (f_X1_after 12 q5 v4_45 σ).bind fun q6 =>
  nm (v5_45 + 1) fun x7 =>
  some (.inl (q6, x7)))
def f_X8_year_45 (v1 : Int32) (v2 : Int32) (v3 : Int32) (v4_45 : Int32) (v5_45 : Int32) (σ : Sg) : Option Int32 :=
  itr 3000 (fun s => f_X8_year_45s v1 v2 v3 s.1 s.2 σ) (v4_45, v5_45)
def f_X8_year (v1 : Int32) (v2 : Int32) (v3 : Int32) (σ : Sg) : Option Int32 :=
  if v1 < 0 then (
  f_X8_year_31 σ)
  else (
  if (9999 : Int32) < v1 then (
  f_X8_year_31 σ)
  else (
  if v2 < 1 then (
  f_X8_year_31 σ)
  else (
  if (99 : Int32) < v2 then (
  f_X8_year_31 σ)
  else (
  if v3 < 0 then (
  f_X8_year_31 σ)
  else (
  if v3 ≤ 1 then (
  (f_X1_stood 12 σ).bind fun q1 =>
  f_X8_year_45 v1 v2 v3 q1 0 σ)
  else (
  f_X8_year_31 σ))))))
def f_X8_keeperOf_15 (t0_15 : Nat) (σ : Sg) : Option Nat :=
  some (t0_15)
def f_X8_keeperOf (v1 : Int32) (σ : Sg) : Option Nat :=
  if v1 = 0 then (
  f_X8_keeperOf_15 19 σ)
  else (
  f_X8_keeperOf_15 26 σ)
def f_X8_keep (σ : Sg) : Option (Int32 × Sg) :=
  if (σ.1 0 11) < 2 then (
  (f_X8_keeperOf (σ.1 0 11) σ).bind fun q1 =>
  (gfl q1).bind fun hgq1 =>
  (f_X1_copyFrom q1 12 σ).bind fun q2 =>
  (pfi q2 0 11 ((q2.1 0 11) + (1 : Int32))).bind fun s3 =>
  some (((s3.1 0 11), s3)))
  else (
  some (((-3), σ)))
def f_X8_back (σ : Sg) : Option (Int32 × Sg) :=
  if (σ.1 0 11) = 0 then (
  some (((-2), σ)))
  else (
  (pfi σ 0 11 ((σ.1 0 11) - (1 : Int32))).bind fun s1 =>
  (f_X8_keeperOf (s1.1 0 11) s1).bind fun q2 =>
  (gfl q2).bind fun hgq2 =>
  (f_X1_copyFrom 12 q2 s1).bind fun q3 =>
  (f_X8_forgetRowAndPast q3).bind fun q4 =>
  some (((q4.1 0 11), q4)))
def f_X8_count (v1 : Int32) (σ : Sg) : Option Int32 :=
  if v1 = 0 then (
  (f_X1_stoneCount 12 σ).bind fun q1 =>
  some (q1))
  else (
  if v1 = 1 then (
  (f_X1_stepCount 12 σ).bind fun q2 =>
  some (q2))
  else (
  if v1 = 2 then (
  (f_X1_there 12 σ).bind fun q3 =>
  (f_J6_bitCount_0f7a4 q3).bind fun q4 =>
  some (q4))
  else (
  if v1 = 3 then (
  (f_X1_stood 12 σ).bind fun q5 =>
  (f_J6_bitCount_0f7a4 q5).bind fun q6 =>
  some (q6))
  else (
  if v1 = 4 then (
  some ((σ.1 0 10)))
  else (
  if v1 = 5 then (
  (f_X2_size σ).bind fun q7 =>
  some (q7))
  else (
  if v1 = 6 then (
  some ((σ.1 0 11)))
  else (
  if v1 = 7 then (
  (f_X6_size σ).bind fun q8 =>
  some (q8))
  else (
  some ((-1))))))))))
def f_X9_in_18 (t0_18 : Int32) : Option Int32 :=
  (zrt t0_18).bind fun x1 =>
  some (x1)
def f_X9_in_17 : Option Int32 :=
  f_X9_in_18 0
def f_X9_in (v0 : Int64) (v2 : Int64) (v4 : Int64) : Option Int32 :=
  if (lg_cmp v0 v2) < 0 then (
  f_X9_in_17 )
  else (
  if (0 : Int32) < (lg_cmp v0 v4) then (
  f_X9_in_17 )
  else (
  f_X9_in_18 1))
def f_X9_has_14 (t0_14 : Int32) : Option Int32 :=
  (zrt t0_14).bind fun x1 =>
  some (x1)
def f_X9_has (v0 : Int32) (v1 : Int32) : Option Int32 :=
  if ((v0 >>> (v1 &&& 31)) &&& (1 : Int32)) = 1 then (
  f_X9_has_14 1)
  else (
  f_X9_has_14 0)
def f_X9_ones_4s (v0 : Int32) (v1_4 : Int32) (v2_4 : Int32) : Option ((Int32 × Int32) ⊕ Int32) :=
  if (10 : Int32) ≤ v2_4 then (
  some (.inr (v1_4)))
  else (
  nm ((v1_4 + ((v0 >>> (v2_4 &&& 31)) &&& (1 : Int32)))) fun x1 =>
  nm (v2_4 + 1) fun x2 =>
  some (.inl (x1, x2)))
def f_X9_ones_4 (v0 : Int32) (v1_4 : Int32) (v2_4 : Int32) : Option Int32 :=
  itr 3000 (fun s => f_X9_ones_4s v0 s.1 s.2) (v1_4, v2_4)
def f_X9_ones (v0 : Int32) : Option Int32 :=
  f_X9_ones_4 v0 0 0
def f_X9_copy_2s (v1 : Int32) (v2 : Int32) (v3_2 : Int32) (s_2 : Sg) : Option ((Int32 × Sg) ⊕ Sg) :=
  if (55 : Int32) ≤ v3_2 then (
  some (.inr (s_2)))
  else (
  (ald s_2 1 660 (v1 + v3_2)).bind fun x1 =>
  (ast s_2 1 660 (v2 + v3_2) x1).bind fun s2 =>
  nm (v3_2 + 1) fun x3 =>
  some (.inl (x3, s2)))
def f_X9_copy_2 (v1 : Int32) (v2 : Int32) (v3_2 : Int32) (s_2 : Sg) : Option Sg :=
  itr 3000 (fun s => f_X9_copy_2s v1 v2 s.1 s.2) (v3_2, s_2)
def f_X9_copy (v1 : Int32) (v2 : Int32) (σ : Sg) : Option Sg :=
  f_X9_copy_2 v1 v2 0 σ
def f_X9_makeAnew_2s (v1 : Int32) (v2_2 : Int32) (s_2 : Sg) : Option ((Int32 × Sg) ⊕ Sg) :=
  if (55 : Int32) ≤ v2_2 then (
  (ast s_2 1 660 (v1 + (0 : Int32)) 4).bind fun s1 =>
  some (.inr (s1)))
  else (
  (ast s_2 1 660 (v1 + v2_2) 0).bind fun s2 =>
  nm (v2_2 + 1) fun x3 =>
  some (.inl (x3, s2)))
def f_X9_makeAnew_2 (v1 : Int32) (v2_2 : Int32) (s_2 : Sg) : Option Sg :=
  itr 3000 (fun s => f_X9_makeAnew_2s v1 s.1 s.2) (v2_2, s_2)
def f_X9_makeAnew (v1 : Int32) (σ : Sg) : Option Sg :=
  f_X9_makeAnew_2 v1 0 σ
def f_X9_layStep (v1 : Int32) (v2 : Int32) (v3 : Int32) (v4 : Int32) (σ : Sg) : Option Sg :=
  (ald σ 1 660 (v1 + (4 : Int32))).bind fun x1 =>
  (ast σ 1 660 ((v1 + (5 : Int32)) + x1) v2).bind fun s2 =>
  (ast s2 1 660 ((v1 + (15 : Int32)) + x1) v3).bind fun s3 =>
  (ast s3 1 660 ((v1 + (25 : Int32)) + x1) v4).bind fun s4 =>
  (ald s4 1 660 (v1 + (4 : Int32))).bind fun x5 =>
  (ast s4 1 660 (v1 + (4 : Int32)) (x5 + (1 : Int32))).bind fun s6 =>
  some (s6)
def f_X9_settle (v1 : Int32) (σ : Sg) : Option Sg :=
  (ald σ 1 660 (v1 + (0 : Int32))).bind fun x1 =>
  (ast σ 1 660 (v1 + (2 : Int32)) (((1 : Int32) <<< (x1 &&& 31)) - (1 : Int32))).bind fun s2 =>
  (ald s2 1 660 (v1 + (1 : Int32))).bind fun x3 =>
  (ast s2 1 660 (v1 + (3 : Int32)) x3).bind fun s4 =>
  some (s4)
def f_X9_isStone (v1 : Int32) (σ : Sg) : Option Int32 :=
  (ald σ 1 660 0).bind fun x1 =>
  (f_X9_in ((v1 : Int32).toInt64) 0 (((x1 - (1 : Int32)) : Int32).toInt64)).bind fun q2 =>
  (zrt q2).bind fun x3 =>
  some (x3)
def f_X9_isSet (v1 : Int32) (σ : Sg) : Option Int32 :=
  (ald σ 1 660 0).bind fun x1 =>
  (f_X9_in ((v1 : Int32).toInt64) 0 (((((1 : Int32) <<< (x1 &&& 31)) - (1 : Int32)) : Int32).toInt64)).bind fun q2 =>
  (zrt q2).bind fun x3 =>
  some (x3)
def f_X9_isStep (v1 : Int32) (σ : Sg) : Option Int32 :=
  (ald σ 1 660 4).bind fun x1 =>
  (f_X9_in ((v1 : Int32).toInt64) 0 (((x1 - (1 : Int32)) : Int32).toInt64)).bind fun q2 =>
  (zrt q2).bind fun x3 =>
  some (x3)
def f_X9_write_34s (v2 : Int64) (v4_34 : Int32) (s_34 : Sg) : Option ((Int32 × Sg) ⊕ (Int32 × Sg)) :=
  if v4_34 < 0 then (
  some (.inr (((s_34.1 0 4), s_34))))
  else (
  (ast s_34 2 300 (s_34.1 0 4) ((((v2 >>> ((((8 : Int32) * v4_34) : Int32).toInt64 &&& 63)) &&& (255 : Int64)) : Int64).toInt32)).bind fun s3 =>
  (pfi s3 0 4 ((s3.1 0 4) + (1 : Int32))).bind fun s4 =>
  nm (v4_34 + (-1)) fun x5 =>
  some (.inl (x5, s4)))
def f_X9_write_34 (v2 : Int64) (v4_34 : Int32) (s_34 : Sg) : Option (Int32 × Sg) :=
  itr 3000 (fun s => f_X9_write_34s v2 s.1 s.2) (v4_34, s_34)
def f_X9_write (v1 : Int32) (v2 : Int64) (σ : Sg) : Option (Int32 × Sg) :=
  (f_X9_in ((v1 : Int32).toInt64) 1 8).bind fun q1 =>
  if q1 = 0 then (
  some (((-1), σ)))
  else (
  if ((σ.1 0 4) + v1) ≤ 300 then (
  nm ((v1 - (1 : Int32))) fun x2 =>
  f_X9_write_34 v2 x2 σ)
  else (
  some (((-3), σ))))
def f_X9_wipe (σ : Sg) : Option (Int32 × Sg) :=
  nm ((σ.1 0 4)) fun x1 =>
  (pfi σ 0 4 0).bind fun s2 =>
  some ((x1, s2))
def f_X9_takes_146 (s_146 : Sg) : Option (Int32 × Sg) :=
  (zrt 0).bind fun x3 =>
  some ((x3, s_146))
def f_X9_takes_143 (v1 : Int32) (v2_143 : Int32) (v4_143 : Int32) (t0_143 : Int32) (t1_143 : Int32) (s_143 : Sg) : Option ((Int32 × Sg) ⊕ (Int32 × Sg)) :=
  if t0_143 = t1_143 then (
  (ast s_143 4 3 v2_143 v4_143).bind fun s5 =>
  (pfi s5 0 7 ((s5.1 0 7) + (1 : Int32))).bind fun s6 =>
  nm (v2_143 + 1) fun x7 =>
  some (.inl (x7, s6)))
  else (
  (f_X9_takes_146 s_143).map (fun z => .inr (z)))
def f_X9_takes_91 (v1 : Int32) (v2_91 : Int32) (v3_91 : Int32) (v4_91 : Int32) (s_91 : Sg) : Option ((Int32 × Sg) ⊕ (Int32 × Sg)) :=
  if (s_91.1 0 7) = v3_91 then (
  (f_X9_takes_146 s_91).map (fun z => .inr (z)))
  else (
  if (2 : Int32) < ((s_91.1 0 7) - v3_91) then (
  (f_X9_takes_146 s_91).map (fun z => .inr (z)))
  else (
  if (s_91.1 0 7) = (s_91.1 0 4) then (
  (f_X9_takes_146 s_91).map (fun z => .inr (z)))
  else (
  (ald s_91 2 300 (s_91.1 0 7)).bind fun x4 =>
  if v2_91 = (v1 - (1 : Int32)) then (
  f_X9_takes_143 v1 v2_91 v4_91 x4 59 s_91)
  else (
  f_X9_takes_143 v1 v2_91 v4_91 x4 44 s_91))))
def f_X9_takes_15s (v1 : Int32) (v2_15 : Int32) (v3_15 : Int32) (v4_15 : Int32) (s_15 : Sg) : Option ((Int32 × Sg) ⊕ ((Int32 × Sg) ⊕ (Int32 × Sg))) :=
  if (s_15.1 0 4) ≤ (s_15.1 0 7) then (
  (f_X9_takes_91 v1 v2_15 v3_15 v4_15 s_15).map (fun z => .inr (z)))
  else (
  if (3 : Int32) ≤ ((s_15.1 0 7) - v3_15) then (
  (f_X9_takes_91 v1 v2_15 v3_15 v4_15 s_15).map (fun z => .inr (z)))
  else (
  (ald s_15 2 300 (s_15.1 0 7)).bind fun x8 =>
  (f_X9_in ((x8 : Int32).toInt64) 48 57).bind fun q9 =>
  if q9 = 0 then (
  (f_X9_takes_91 v1 v2_15 v3_15 v4_15 s_15).map (fun z => .inr (z)))
  else (
  (ald s_15 2 300 (s_15.1 0 7)).bind fun x10 =>
  nm (((((10 : Int32) * v4_15) + x10) - (48 : Int32))) fun x11 =>
  (pfi s_15 0 7 ((s_15.1 0 7) + (1 : Int32))).bind fun s12 =>
  some (.inl (x11, s12)))))
def f_X9_takes_15 (v1 : Int32) (v2_15 : Int32) (v3_15 : Int32) (v4_15 : Int32) (s_15 : Sg) : Option ((Int32 × Sg) ⊕ (Int32 × Sg)) :=
  itr 3000 (fun s => f_X9_takes_15s v1 v2_15 v3_15 s.1 s.2) (v4_15, s_15)
def f_X9_takes_2s (v1 : Int32) (v2_2 : Int32) (s_2 : Sg) : Option ((Int32 × Sg) ⊕ (Int32 × Sg)) :=
  if v1 ≤ v2_2 then (
  (zrt 1).bind fun x1 =>
  some (.inr ((x1, s_2))))
  else (
  nm ((s_2.1 0 7)) fun x2 =>
  f_X9_takes_15 v1 v2_2 x2 0 s_2)
def f_X9_takes_2 (v1 : Int32) (v2_2 : Int32) (s_2 : Sg) : Option (Int32 × Sg) :=
  itr 3000 (fun s => f_X9_takes_2s v1 s.1 s.2) (v2_2, s_2)
def f_X9_takes (v1 : Int32) (σ : Sg) : Option (Int32 × Sg) :=
  f_X9_takes_2 v1 0 σ
def f_X9_isRead_17 (t0_17 : Int32) (σ : Sg) : Option Int32 :=
  (zrt t0_17).bind fun x2 =>
  some (x2)
def f_X9_isRead (v1 : Int32) (σ : Sg) : Option Int32 :=
  (ald σ 1 660 605).bind fun x1 =>
  if x1 ≤ v1 then (
  f_X9_isRead_17 0 σ)
  else (
  f_X9_isRead_17 1 σ)
def f_X9_readStep_125 (v1_125 : Int32) (s_125 : Sg) : Option (Int32 × Sg) :=
  (zrt v1_125).bind fun x2 =>
  some ((x2, s_125))
def f_X9_readStep_95 (t0_95 : Int32) (s_95 : Sg) : Option (Int32 × Sg) :=
  if t0_95 = 0 then (
  f_X9_readStep_125 t0_95 s_95)
  else (
  (ald s_95 4 3 0).bind fun x3 =>
  (ald s_95 4 3 1).bind fun x4 =>
  (ald s_95 4 3 2).bind fun x5 =>
  (f_X9_layStep 605 x3 x4 x5 s_95).bind fun q6 =>
  f_X9_readStep_125 t0_95 q6)
def f_X9_readStep_94 (s_94 : Sg) : Option (Int32 × Sg) :=
  f_X9_readStep_95 0 s_94
def f_X9_readStep (σ : Sg) : Option (Int32 × Sg) :=
  (f_X9_takes 3 σ).bind fun q1 =>
  if q1.1 = 0 then (
  f_X9_readStep_94 q1.2)
  else (
  (ald q1.2 4 3 0).bind fun x7 =>
  (f_X9_isRead x7 q1.2).bind fun q8 =>
  if q8 = 0 then (
  f_X9_readStep_94 q1.2)
  else (
  (ald q1.2 4 3 1).bind fun x9 =>
  (f_X9_isRead x9 q1.2).bind fun q10 =>
  if q10 = 0 then (
  f_X9_readStep_94 q1.2)
  else (
  (ald q1.2 4 3 2).bind fun x11 =>
  (f_X9_isRead x11 q1.2).bind fun q12 =>
  if q12 = 0 then (
  f_X9_readStep_94 q1.2)
  else (
  (ald q1.2 4 3 2).bind fun x13 =>
  (ald q1.2 4 3 0).bind fun x14 =>
  if x13 = x14 then (
  f_X9_readStep_94 q1.2)
  else (
  (ald q1.2 4 3 2).bind fun x15 =>
  (ald q1.2 4 3 1).bind fun x16 =>
  if x15 = x16 then (
  f_X9_readStep_94 q1.2)
  else (
  (ald q1.2 1 660 609).bind fun x17 =>
  if (10 : Int32) ≤ x17 then (
  f_X9_readStep_94 q1.2)
  else (
  f_X9_readStep_95 1 q1.2)))))))
def f_X9_readPair_111 (v1_111 : Int32) (s_111 : Sg) : Option (Int32 × Sg) :=
  (zrt v1_111).bind fun x2 =>
  some ((x2, s_111))
def f_X9_readPair_54 (t0_54 : Int32) (s_54 : Sg) : Option (Int32 × Sg) :=
  if t0_54 = 0 then (
  f_X9_readPair_111 t0_54 s_54)
  else (
  (ald s_54 4 3 0).bind fun x3 =>
  (ald s_54 1 660 ((650 : Int32) + x3)).bind fun x4 =>
  (ald s_54 4 3 1).bind fun x5 =>
  (ast s_54 1 660 ((650 : Int32) + x3) (x4 ||| ((1 : Int32) <<< (x5 &&& 31)))).bind fun s6 =>
  (ald s6 4 3 1).bind fun x7 =>
  (ald s6 1 660 ((650 : Int32) + x7)).bind fun x8 =>
  (ald s6 4 3 0).bind fun x9 =>
  (ast s6 1 660 ((650 : Int32) + x7) (x8 ||| ((1 : Int32) <<< (x9 &&& 31)))).bind fun s10 =>
  f_X9_readPair_111 t0_54 s10)
def f_X9_readPair_53 (s_53 : Sg) : Option (Int32 × Sg) :=
  f_X9_readPair_54 0 s_53
def f_X9_readPair (σ : Sg) : Option (Int32 × Sg) :=
  (f_X9_takes 2 σ).bind fun q1 =>
  if q1.1 = 0 then (
  f_X9_readPair_53 q1.2)
  else (
  (ald q1.2 4 3 0).bind fun x11 =>
  (f_X9_isRead x11 q1.2).bind fun q12 =>
  if q12 = 0 then (
  f_X9_readPair_53 q1.2)
  else (
  (ald q1.2 4 3 1).bind fun x13 =>
  (f_X9_isRead x13 q1.2).bind fun q14 =>
  if q14 = 0 then (
  f_X9_readPair_53 q1.2)
  else (
  (ald q1.2 4 3 0).bind fun x15 =>
  (ald q1.2 4 3 1).bind fun x16 =>
  if x15 = x16 then (
  f_X9_readPair_53 q1.2)
  else (
  f_X9_readPair_54 1 q1.2))))
def f_X9_readItem_308 (v2_308 : Int32) (t1_308 : Int32) (s_308 : Sg) : Option (Int32 × Sg) :=
  (pfz s_308 0 9 t1_308).bind fun s6 =>
  (zrt v2_308).bind fun x7 =>
  some ((x7, s6))
def f_X9_readItem_303 (v2_303 : Int32) (s_303 : Sg) : Option (Int32 × Sg) :=
  f_X9_readItem_308 v2_303 1 s_303
def f_X9_readItem_289 (v1_289 : Int32) (v2_289 : Int32) (s_289 : Sg) : Option (Int32 × Sg) :=
  if (s_289.1 0 9) = 0 then (
  if v1_289 = 110 then (
  f_X9_readItem_308 v2_289 0 s_289)
  else (
  f_X9_readItem_303 v2_289 s_289))
  else (
  f_X9_readItem_303 v2_289 s_289)
def f_X9_readItem_194 (v1_194 : Int32) (v2_194 : Int32) (t1_194 : Int32) (t2_194 : Int32) (t3_194 : Int32) (s_194 : Sg) : Option (Int32 × Sg) :=
  (ast s_194 1 660 t1_194 (t2_194 ||| t3_194)).bind fun s5 =>
  f_X9_readItem_289 v1_194 v2_194 s5
def f_X9_readItem_168 (v1_168 : Int32) (t0_168 : Int32) (s_168 : Sg) : Option (Int32 × Sg) :=
  (ald s_168 1 660 606).bind fun x4 =>
  if t0_168 = 0 then (
  f_X9_readItem_194 v1_168 t0_168 606 x4 0 s_168)
  else (
  (ald s_168 4 3 0).bind fun x8 =>
  f_X9_readItem_194 v1_168 t0_168 606 x4 ((1 : Int32) <<< (x8 &&& 31)) s_168)
def f_X9_readItem_167 (v1_167 : Int32) (s_167 : Sg) : Option (Int32 × Sg) :=
  f_X9_readItem_168 v1_167 0 s_167
def f_X9_readItem_138 (v1_138 : Int32) (v2_138 : Int32) (t1_138 : Int32) (t2_138 : Int32) (s_138 : Sg) : Option (Int32 × Sg) :=
  (ast s_138 1 660 t1_138 t2_138).bind fun s12 =>
  f_X9_readItem_289 v1_138 v2_138 s12
def f_X9_readItem_109 (v1_109 : Int32) (t0_109 : Int32) (s_109 : Sg) : Option (Int32 × Sg) :=
  if t0_109 = 0 then (
  (ald s_109 1 660 605).bind fun x11 =>
  f_X9_readItem_138 v1_109 t0_109 605 x11 s_109)
  else (
  (ald s_109 4 3 0).bind fun x13 =>
  f_X9_readItem_138 v1_109 t0_109 605 x13 s_109)
def f_X9_readItem_108 (v1_108 : Int32) (s_108 : Sg) : Option (Int32 × Sg) :=
  f_X9_readItem_109 v1_108 0 s_108
def f_X9_readItem_285 (v1_285 : Int32) (v2_285 : Int32) (t1_285 : Int32) (t2_285 : Int32) (s_285 : Sg) : Option (Int32 × Sg) :=
  (ast s_285 1 660 t1_285 t2_285).bind fun s20 =>
  f_X9_readItem_289 v1_285 v2_285 s20
def f_X9_readItem_263 (v1_263 : Int32) (v2_263 : Int32) (t1_263 : Int32) (t2_263 : Int32) (s_263 : Sg) : Option (Int32 × Sg) :=
  if v2_263 = 0 then (
  (ald s_263 1 660 640).bind fun x19 =>
  f_X9_readItem_285 v1_263 v2_263 (t1_263 + t2_263) x19 s_263)
  else (
  (ald s_263 4 3 1).bind fun x21 =>
  f_X9_readItem_285 v1_263 v2_263 (t1_263 + t2_263) x21 s_263)
def f_X9_readItem_241 (v1_241 : Int32) (t0_241 : Int32) (s_241 : Sg) : Option (Int32 × Sg) :=
  if t0_241 = 0 then (
  f_X9_readItem_263 v1_241 t0_241 640 0 s_241)
  else (
  (ald s_241 4 3 0).bind fun x22 =>
  f_X9_readItem_263 v1_241 t0_241 640 x22 s_241)
def f_X9_readItem_240 (v1_240 : Int32) (s_240 : Sg) : Option (Int32 × Sg) :=
  f_X9_readItem_241 v1_240 0 s_240
def f_X9_readItem (σ : Sg) : Option (Int32 × Sg) :=
  (ald σ 2 300 (σ.1 0 7)).bind fun x1 =>
  (pfi σ 0 7 ((σ.1 0 7) + (1 : Int32))).bind fun s2 =>
  if x1 = 97 then (
  (f_X9_takes 1 s2).bind fun q3 =>
  if q3.1 = 0 then (
  f_X9_readItem_167 x1 q3.2)
  else (
  (ald q3.2 4 3 0).bind fun x9 =>
  (f_X9_isRead x9 q3.2).bind fun q10 =>
  if q10 = 0 then (
  f_X9_readItem_167 x1 q3.2)
  else (
  f_X9_readItem_168 x1 1 q3.2)))
  else (
  if x1 = 110 then (
  if (s2.1 0 9) = 0 then (
  (f_X9_takes 1 s2).bind fun q14 =>
  if q14.1 = 0 then (
  f_X9_readItem_108 x1 q14.2)
  else (
  (ald q14.2 4 3 0).bind fun x15 =>
  (f_X9_in ((x15 : Int32).toInt64) 1 10).bind fun q16 =>
  if q16 = 0 then (
  f_X9_readItem_108 x1 q14.2)
  else (
  f_X9_readItem_109 x1 1 q14.2)))
  else (
  f_X9_readItem_108 x1 s2))
  else (
  if x1 = 116 then (
  (f_X9_readStep s2).bind fun q17 =>
  f_X9_readItem_289 x1 q17.1 q17.2)
  else (
  if x1 = 119 then (
  (f_X9_takes 2 s2).bind fun q18 =>
  if q18.1 = 0 then (
  f_X9_readItem_240 x1 q18.2)
  else (
  (ald q18.2 4 3 0).bind fun x23 =>
  (f_X9_isRead x23 q18.2).bind fun q24 =>
  if q24 = 0 then (
  f_X9_readItem_240 x1 q18.2)
  else (
  f_X9_readItem_241 x1 1 q18.2)))
  else (
  if x1 = 120 then (
  (f_X9_readPair s2).bind fun q25 =>
  f_X9_readItem_289 x1 q25.1 q25.2)
  else (
  f_X9_readItem_289 x1 0 s2)))))
def f_X9_fault_17s (s_17 : Sg) : Option ((Sg) ⊕ (Int32 × Sg)) :=
  if (s_17.1 0 4) ≤ (s_17.1 0 7) then (
  some (.inr (((-4), s_17))))
  else (
  nm ((s_17.1 0 7)) fun x4 =>
  (f_X9_readItem s_17).bind fun q5 =>
  if q5.1 = 0 then (
  some (.inr ((x4, q5.2))))
  else (
  some (.inl (q5.2))))
def f_X9_fault_17 (s_17 : Sg) : Option (Int32 × Sg) :=
  itr 3000 (fun s => f_X9_fault_17s s) (s_17)
def f_X9_fault (σ : Sg) : Option (Int32 × Sg) :=
  (f_X9_makeAnew 605 σ).bind fun q1 =>
  (pfz q1 0 9 0).bind fun s2 =>
  (pfi s2 0 7 0).bind fun s3 =>
  f_X9_fault_17 s3
def f_X9_layFloor_20 (s_20 : Sg) : Option (Int32 × Sg) :=
  some (((-2), s_20))
def f_X9_layFloor (σ : Sg) : Option (Int32 × Sg) :=
  (f_X9_fault σ).bind fun q1 =>
  if q1.1 = (-4) then (
  (ald q1.2 1 660 609).bind fun x2 =>
  if x2 = 0 then (
  f_X9_layFloor_20 q1.2)
  else (
  (f_X9_copy 605 0 q1.2).bind fun q3 =>
  (f_X9_settle 0 q3).bind fun q4 =>
  (pfi q4 0 6 0).bind fun s5 =>
  (pfi s5 0 2 0).bind fun s6 =>
  (pfi s6 0 1 0).bind fun s7 =>
  (ald s7 1 660 0).bind fun x8 =>
  some ((x8, s7))))
  else (
  f_X9_layFloor_20 q1.2)
def f_X9_may_115 (t0_115 : Int32) (σ : Sg) : Option Int32 :=
  (zrt t0_115).bind fun x6 =>
  some (x6)
def f_X9_may_114 (σ : Sg) : Option Int32 :=
  f_X9_may_115 0 σ
def f_X9_may (v1 : Int32) (σ : Sg) : Option Int32 :=
  (ald σ 1 660 ((5 : Int32) + v1)).bind fun x1 =>
  (ald σ 1 660 ((15 : Int32) + v1)).bind fun x2 =>
  (ald σ 1 660 ((25 : Int32) + v1)).bind fun x3 =>
  nm (((((1 : Int32) <<< (x1 &&& 31)) ||| ((1 : Int32) <<< (x2 &&& 31))) ||| ((1 : Int32) <<< (x3 &&& 31)))) fun x4 =>
  (ald σ 1 660 2).bind fun x5 =>
  if (x4 &&& (x5 ^^^ ((-1) : Int32))) = 0 then (
  (ald σ 1 660 3).bind fun x7 =>
  (ald σ 1 660 ((5 : Int32) + v1)).bind fun x8 =>
  (f_X9_has x7 x8).bind fun q9 =>
  if q9 = 0 then (
  f_X9_may_114 σ)
  else (
  (ald σ 1 660 3).bind fun x10 =>
  (ald σ 1 660 ((15 : Int32) + v1)).bind fun x11 =>
  (f_X9_has x10 x11).bind fun q12 =>
  if q12 = 0 then (
  f_X9_may_114 σ)
  else (
  (ald σ 1 660 3).bind fun x13 =>
  (ald σ 1 660 ((25 : Int32) + v1)).bind fun x14 =>
  (f_X9_has x13 x14).bind fun q15 =>
  if q15 = 0 then (
  f_X9_may_115 1 σ)
  else (
  f_X9_may_114 σ))))
  else (
  f_X9_may_114 σ)
def f_X9_stone_20 (σ : Sg) : Option Int32 :=
  some ((-1))
def f_X9_stone_101 (t0_101 : Int32) (σ : Sg) : Option Int32 :=
  some (t0_101)
def f_X9_stone (v1 : Int32) (v2 : Int32) (σ : Sg) : Option Int32 :=
  (f_X9_isStone v1 σ).bind fun q1 =>
  if q1 = 0 then (
  f_X9_stone_20 σ)
  else (
  (f_X9_in ((v2 : Int32).toInt64) 0 4).bind fun q2 =>
  if q2 = 0 then (
  f_X9_stone_20 σ)
  else (
  if v2 = 0 then (
  (ald σ 1 660 2).bind fun x7 =>
  f_X9_stone_101 ((x7 >>> (v1 &&& 31)) &&& (1 : Int32)) σ)
  else (
  if v2 = 1 then (
  (ald σ 1 660 3).bind fun x6 =>
  f_X9_stone_101 ((x6 >>> (v1 &&& 31)) &&& (1 : Int32)) σ)
  else (
  if v2 = 2 then (
  (ald σ 1 660 1).bind fun x5 =>
  f_X9_stone_101 ((x5 >>> (v1 &&& 31)) &&& (1 : Int32)) σ)
  else (
  if v2 = 3 then (
  (ald σ 1 660 ((35 : Int32) + v1)).bind fun x4 =>
  f_X9_stone_101 x4 σ)
  else (
  (ald σ 1 660 ((45 : Int32) + v1)).bind fun x3 =>
  f_X9_stone_101 x3 σ))))))
def f_X9_step_20 (σ : Sg) : Option Int32 :=
  some ((-1))
def f_X9_step_84 (t0_84 : Int32) (σ : Sg) : Option Int32 :=
  some (t0_84)
def f_X9_step (v1 : Int32) (v2 : Int32) (σ : Sg) : Option Int32 :=
  (f_X9_isStep v1 σ).bind fun q1 =>
  if q1 = 0 then (
  f_X9_step_20 σ)
  else (
  (f_X9_in ((v2 : Int32).toInt64) 0 3).bind fun q2 =>
  if q2 = 0 then (
  f_X9_step_20 σ)
  else (
  if v2 = 0 then (
  (ald σ 1 660 ((5 : Int32) + v1)).bind fun x6 =>
  f_X9_step_84 x6 σ)
  else (
  if v2 = 1 then (
  (ald σ 1 660 ((15 : Int32) + v1)).bind fun x5 =>
  f_X9_step_84 x5 σ)
  else (
  if v2 = 2 then (
  (ald σ 1 660 ((25 : Int32) + v1)).bind fun x4 =>
  f_X9_step_84 x4 σ)
  else (
  (f_X9_may v1 σ).bind fun q3 =>
  if q3 = 0 then (
  f_X9_step_84 0 σ)
  else (
  f_X9_step_84 1 σ))))))
def f_X9_minds_57 (s_57 : Sg) : Option Sg :=
  (f_X9_copy 0 ((165 : Int32) + ((55 : Int32) * (s_57.1 0 2))) s_57).bind fun q1 =>
  (pfi q1 0 2 ((q1.1 0 2) + (1 : Int32))).bind fun s2 =>
  some (s2)
def f_X9_minds_11s (v1_11 : Int32) (s_11 : Sg) : Option ((Int32 × Sg) ⊕ Sg) :=
  if (385 : Int32) ≤ v1_11 then (
  (pfi s_11 0 2 ((s_11.1 0 2) - (1 : Int32))).bind fun s3 =>
  (f_X9_minds_57 s3).map (fun z => .inr (z)))
  else (
  (ald s_11 1 660 (((165 : Int32) + v1_11) + (55 : Int32))).bind fun x4 =>
  (ast s_11 1 660 ((165 : Int32) + v1_11) x4).bind fun s5 =>
  nm (v1_11 + 1) fun x6 =>
  some (.inl (x6, s5)))
def f_X9_minds_11 (v1_11 : Int32) (s_11 : Sg) : Option Sg :=
  itr 3000 (fun s => f_X9_minds_11s s.1 s.2) (v1_11, s_11)
def f_X9_minds (σ : Sg) : Option Sg :=
  if (σ.1 0 2) = 8 then (
  f_X9_minds_11 0 σ)
  else (
  f_X9_minds_57 σ)
def f_X9_go (v1 : Int32) (σ : Sg) : Option (Int32 × Sg) :=
  (f_X9_isStep v1 σ).bind fun q1 =>
  if q1 = 0 then (
  some (((-1), σ)))
  else (
  (f_X9_may v1 σ).bind fun q2 =>
  if q2 = 0 then (
  some (((-2), σ)))
  else (
  (f_X9_minds σ).bind fun q3 =>
  (ald q3 1 660 3).bind fun x4 =>
  (ald q3 1 660 ((25 : Int32) + v1)).bind fun x5 =>
  (ast q3 1 660 3 (x4 ||| ((1 : Int32) <<< (x5 &&& 31)))).bind fun s6 =>
  (ald s6 1 660 ((25 : Int32) + v1)).bind fun x7 =>
  (ald s6 1 660 ((35 : Int32) + x7)).bind fun x8 =>
  (ast s6 1 660 ((35 : Int32) + x7) (x8 + (1 : Int32))).bind fun s9 =>
  (ald s9 1 660 3).bind fun x10 =>
  (f_X9_ones x10).bind fun q11 =>
  some ((q11, s9))))
def f_X9_takeOut (v1 : Int32) (σ : Sg) : Option (Int32 × Sg) :=
  (f_X9_isStone v1 σ).bind fun q1 =>
  if q1 = 0 then (
  some (((-1), σ)))
  else (
  (ald σ 1 660 2).bind fun x2 =>
  (f_X9_has x2 v1).bind fun q3 =>
  if q3 = 0 then (
  some (((-2), σ)))
  else (
  (f_X9_minds σ).bind fun q4 =>
  (ald q4 1 660 2).bind fun x5 =>
  (ast q4 1 660 2 (x5 &&& (((1 : Int32) <<< (v1 &&& 31)) ^^^ ((-1) : Int32)))).bind fun s6 =>
  (ald s6 1 660 3).bind fun x7 =>
  (ast s6 1 660 3 (x7 &&& (((1 : Int32) <<< (v1 &&& 31)) ^^^ ((-1) : Int32)))).bind fun s8 =>
  (ald s8 1 660 2).bind fun x9 =>
  (f_X9_ones x9).bind fun q10 =>
  some ((q10, s8))))
def f_X9_lay_34 (s_34 : Sg) : Option (Int32 × Sg) :=
  some (((-1), s_34))
def f_X9_lay (v1 : Int32) (v2 : Int32) (v3 : Int32) (σ : Sg) : Option (Int32 × Sg) :=
  (f_X9_isStone v1 σ).bind fun q1 =>
  if q1 = 0 then (
  f_X9_lay_34 σ)
  else (
  (f_X9_isStone v2 σ).bind fun q2 =>
  if q2 = 0 then (
  f_X9_lay_34 σ)
  else (
  (f_X9_isStone v3 σ).bind fun q3 =>
  if q3 = 0 then (
  f_X9_lay_34 σ)
  else (
  if v1 = v3 then (
  f_X9_lay_34 σ)
  else (
  if v2 = v3 then (
  f_X9_lay_34 σ)
  else (
  (ald σ 1 660 4).bind fun x4 =>
  if x4 = 10 then (
  some (((-3), σ)))
  else (
  (f_X9_minds σ).bind fun q5 =>
  (f_X9_layStep 0 v1 v2 v3 q5).bind fun q6 =>
  (ald q6 1 660 4).bind fun x7 =>
  some (((x7 - (1 : Int32)), q6))))))))
def f_X9_undo (σ : Sg) : Option (Int32 × Sg) :=
  if (σ.1 0 2) = 0 then (
  some (((-2), σ)))
  else (
  (pfi σ 0 2 ((σ.1 0 2) - (1 : Int32))).bind fun s1 =>
  (f_X9_copy ((165 : Int32) + ((55 : Int32) * (s1.1 0 2))) 0 s1).bind fun q2 =>
  (pfi q2 0 6 0).bind fun s3 =>
  some (((s3.1 0 2), s3)))
def f_X9_closure_157 (v2 : Int32) (v3 : Int32) (v4_157 : Int32) (v6_157 : Int32) (t0_157 : Int32) (σ : Sg) : Option ((Int32 × Int32 × Int32) ⊕ ((Int32 × Int32) ⊕ Int32)) :=
  nm (v6_157 + 1) fun x5 =>
  some (.inl (v4_157, t0_157, x5))
def f_X9_closure_152 (v2 : Int32) (v3 : Int32) (v4_152 : Int32) (v6_152 : Int32) (σ : Sg) : Option ((Int32 × Int32 × Int32) ⊕ ((Int32 × Int32) ⊕ Int32)) :=
  f_X9_closure_157 v2 v3 v4_152 v6_152 1 σ
def f_X9_closure_139 (v2 : Int32) (v3 : Int32) (v5_139 : Int32) (v6_139 : Int32) (v7_139 : Int32) (t0_139 : Int32) (t1_139 : Int32) (σ : Sg) : Option ((Int32 × Int32 × Int32) ⊕ ((Int32 × Int32) ⊕ Int32)) :=
  nm ((t0_139 ||| t1_139)) fun x4 =>
  if v5_139 = 0 then (
  if v7_139 = 0 then (
  f_X9_closure_157 v2 v3 x4 v6_139 0 σ)
  else (
  f_X9_closure_152 v2 v3 x4 v6_139 σ))
  else (
  f_X9_closure_152 v2 v3 x4 v6_139 σ)
def f_X9_closure_114 (v2 : Int32) (v3 : Int32) (v4_114 : Int32) (v5_114 : Int32) (v6_114 : Int32) (t0_114 : Int32) (σ : Sg) : Option ((Int32 × Int32 × Int32) ⊕ ((Int32 × Int32) ⊕ Int32)) :=
  if t0_114 = 0 then (
  f_X9_closure_139 v2 v3 v5_114 v6_114 t0_114 v4_114 0 σ)
  else (
  (ald σ 1 660 ((25 : Int32) + v6_114)).bind fun x6 =>
  f_X9_closure_139 v2 v3 v5_114 v6_114 t0_114 v4_114 ((1 : Int32) <<< (x6 &&& 31)) σ)
def f_X9_closure_113 (v2 : Int32) (v3 : Int32) (v4_113 : Int32) (v5_113 : Int32) (v6_113 : Int32) (σ : Sg) : Option ((Int32 × Int32 × Int32) ⊕ ((Int32 × Int32) ⊕ Int32)) :=
  f_X9_closure_114 v2 v3 v4_113 v5_113 v6_113 0 σ
def f_X9_closure_19s (v2 : Int32) (v3 : Int32) (v4_19 : Int32) (v5_19 : Int32) (v6_19 : Int32) (σ : Sg) : Option ((Int32 × Int32 × Int32) ⊕ ((Int32 × Int32) ⊕ Int32)) :=
  (ald σ 1 660 4).bind fun x2 =>
  if x2 ≤ v6_19 then (
  some (.inr (.inl (v4_19, v5_19))))
  else (
  (f_X9_has v2 v6_19).bind fun q3 =>
  if q3 = 0 then (
  f_X9_closure_113 v2 v3 v4_19 v5_19 v6_19 σ)
  else (
  (ald σ 1 660 ((5 : Int32) + v6_19)).bind fun x7 =>
  (f_X9_has v4_19 x7).bind fun q8 =>
  if q8 = 0 then (
  f_X9_closure_113 v2 v3 v4_19 v5_19 v6_19 σ)
  else (
  (ald σ 1 660 ((15 : Int32) + v6_19)).bind fun x9 =>
  (f_X9_has v4_19 x9).bind fun q10 =>
  if q10 = 0 then (
  f_X9_closure_113 v2 v3 v4_19 v5_19 v6_19 σ)
  else (
  (ald σ 1 660 ((25 : Int32) + v6_19)).bind fun x11 =>
  (f_X9_has v3 x11).bind fun q12 =>
  if q12 = 0 then (
  f_X9_closure_113 v2 v3 v4_19 v5_19 v6_19 σ)
  else (
  (ald σ 1 660 ((25 : Int32) + v6_19)).bind fun x13 =>
  (f_X9_has v4_19 x13).bind fun q14 =>
  if q14 = 0 then (
  f_X9_closure_114 v2 v3 v4_19 v5_19 v6_19 1 σ)
  else (
  f_X9_closure_113 v2 v3 v4_19 v5_19 v6_19 σ))))))
def f_X9_closure_19 (v2 : Int32) (v3 : Int32) (v4_19 : Int32) (v5_19 : Int32) (v6_19 : Int32) (σ : Sg) : Option ((Int32 × Int32) ⊕ Int32) :=
  itr 3000 (fun s => f_X9_closure_19s v2 v3 s.1 s.2.1 s.2.2 σ) (v4_19, v5_19, v6_19)
def f_X9_closure_8s (v2 : Int32) (v3 : Int32) (v4_8 : Int32) (v5_8 : Int32) (σ : Sg) : Option ((Int32 × Int32) ⊕ Int32) :=
  if v5_8 = 0 then (
  some (.inr (v4_8)))
  else (
  f_X9_closure_19 v2 v3 v4_8 0 0 σ)
def f_X9_closure_8 (v2 : Int32) (v3 : Int32) (v4_8 : Int32) (v5_8 : Int32) (σ : Sg) : Option Int32 :=
  itr 3000 (fun s => f_X9_closure_8s v2 v3 s.1 s.2 σ) (v4_8, v5_8)
def f_X9_closure (v1 : Int32) (v2 : Int32) (v3 : Int32) (σ : Sg) : Option Int32 :=
  nm ((v1 &&& v3)) fun x1 =>
  f_X9_closure_8 v2 v3 x1 1 σ
def f_X9_allSteps (σ : Sg) : Option Int32 :=
  (ald σ 1 660 4).bind fun x1 =>
  some ((((1 : Int32) <<< (x1 &&& 31)) - (1 : Int32)))
def f_X9_reachOf (v1 : Int32) (σ : Sg) : Option Int32 :=
  (f_X9_allSteps σ).bind fun q1 =>
  (ald σ 1 660 2).bind fun x2 =>
  (f_X9_closure v1 q1 x2 σ).bind fun q3 =>
  some (q3)
def f_X9_beginnings (σ : Sg) : Option Int32 :=
  (ald σ 1 660 1).bind fun x1 =>
  (ald σ 1 660 2).bind fun x2 =>
  some ((x1 &&& x2))
def f_X9_reach_17 (t0_17 : Int32) (σ : Sg) : Option Int32 :=
  some (t0_17)
def f_X9_reach (v1 : Int32) (σ : Sg) : Option Int32 :=
  (f_X9_isSet v1 σ).bind fun q1 =>
  if q1 = 0 then (
  f_X9_reach_17 (-1) σ)
  else (
  (f_X9_reachOf v1 σ).bind fun q2 =>
  f_X9_reach_17 q2 σ)
def f_X9_mayFrom_73 (t0_73 : Int32) (σ : Sg) : Option Int32 :=
  (zrt t0_73).bind fun x4 =>
  some (x4)
def f_X9_mayFrom_72 (σ : Sg) : Option Int32 :=
  f_X9_mayFrom_73 0 σ
def f_X9_mayFrom (v1 : Int32) (v2 : Int32) (σ : Sg) : Option Int32 :=
  (ald σ 1 660 2).bind fun x1 =>
  (ald σ 1 660 ((25 : Int32) + v2)).bind fun x2 =>
  (f_X9_has x1 x2).bind fun q3 =>
  if q3 = 0 then (
  f_X9_mayFrom_72 σ)
  else (
  (ald σ 1 660 ((25 : Int32) + v2)).bind fun x5 =>
  (f_X9_has v1 x5).bind fun q6 =>
  if q6 = 0 then (
  (ald σ 1 660 ((5 : Int32) + v2)).bind fun x7 =>
  (f_X9_has v1 x7).bind fun q8 =>
  if q8 = 0 then (
  f_X9_mayFrom_72 σ)
  else (
  (ald σ 1 660 ((15 : Int32) + v2)).bind fun x9 =>
  (f_X9_has v1 x9).bind fun q10 =>
  if q10 = 0 then (
  f_X9_mayFrom_72 σ)
  else (
  f_X9_mayFrom_73 1 σ)))
  else (
  f_X9_mayFrom_72 σ))
def f_X9_layWalks_233 (v1 : Int32) (v2_233 : Int32) (s_233 : Sg) : Option ((Int32 × Sg) ⊕ Sg) :=
  nm (v2_233 + (-1)) fun x8 =>
  some (.inl (x8, s_233))
def f_X9_layWalks_227 (v1 : Int32) (v2_56 : Int32) (v3_227 : Int32) (s_227 : Sg) : Option ((Int32 × Sg) ⊕ ((Int32 × Sg) ⊕ Sg)) :=
  nm (v3_227 + 1) fun x13 =>
  some (.inl (x13, s_227))
def f_X9_layWalks_226 (v1 : Int32) (v2_56 : Int32) (v3_226 : Int32) (t1_226 : Int32) (t2_226 : Int32) (s_226 : Sg) : Option ((Int32 × Sg) ⊕ ((Int32 × Sg) ⊕ Sg)) :=
  (ast s_226 6 1024 t1_226 t2_226).bind fun s24 =>
  f_X9_layWalks_227 v1 v2_56 v3_226 s24
def f_X9_layWalks_184 (v1 : Int32) (v2_56 : Int32) (v3_184 : Int32) (v4_184 : Int32) (t1_184 : Int32) (t2_184 : Int64) (s_184 : Sg) : Option ((Int32 × Sg) ⊕ ((Int32 × Sg) ⊕ Sg)) :=
  (astL s_184 5 1024 t1_184 t2_184).bind fun s20 =>
  (ald s20 6 1024 v4_184).bind fun x21 =>
  (ald s20 6 1024 v2_56).bind fun x22 =>
  if x22 ≤ (x21 + (1 : Int32)) then (
  (ald s20 6 1024 v2_56).bind fun x23 =>
  f_X9_layWalks_226 v1 v2_56 v3_184 v2_56 x23 s20)
  else (
  (ald s20 6 1024 v4_184).bind fun x25 =>
  f_X9_layWalks_226 v1 v2_56 v3_184 v2_56 (x25 + (1 : Int32)) s20)
def f_X9_layWalks_56s (v1 : Int32) (v2_56 : Int32) (v3_56 : Int32) (s_56 : Sg) : Option ((Int32 × Sg) ⊕ ((Int32 × Sg) ⊕ Sg)) :=
  (ald s_56 1 660 4).bind fun x7 =>
  if x7 ≤ v3_56 then (
  (f_X9_layWalks_233 v1 v2_56 s_56).map (fun z => .inr (z)))
  else (
  (f_X9_has v2_56 v1).bind fun q9 =>
  if q9 = 0 then (
  (ald s_56 1 660 ((25 : Int32) + v3_56)).bind fun x10 =>
  nm ((v2_56 ||| ((1 : Int32) <<< (x10 &&& 31)))) fun x11 =>
  (f_X9_mayFrom v2_56 v3_56 s_56).bind fun q12 =>
  if q12 = 0 then (
  f_X9_layWalks_227 v1 v2_56 v3_56 s_56)
  else (
  (ald s_56 6 1024 x11).bind fun x14 =>
  if (100 : Int32) ≤ x14 then (
  f_X9_layWalks_227 v1 v2_56 v3_56 s_56)
  else (
  (ald s_56 6 1024 x11).bind fun x15 =>
  (ald s_56 6 1024 v2_56).bind fun x16 =>
  if x16 ≤ (x15 + (1 : Int32)) then (
  (ald s_56 6 1024 x11).bind fun x17 =>
  (ald s_56 6 1024 v2_56).bind fun x18 =>
  if (x17 + (1 : Int32)) = x18 then (
  (aldL s_56 5 1024 v2_56).bind fun x26 =>
  (aldL s_56 5 1024 x11).bind fun x27 =>
  f_X9_layWalks_184 v1 v2_56 v3_56 x11 v2_56 (x26 + x27) s_56)
  else (
  (aldL s_56 5 1024 v2_56).bind fun x19 =>
  f_X9_layWalks_184 v1 v2_56 v3_56 x11 v2_56 x19 s_56))
  else (
  (aldL s_56 5 1024 x11).bind fun x28 =>
  f_X9_layWalks_184 v1 v2_56 v3_56 x11 v2_56 x28 s_56))))
  else (
  (f_X9_layWalks_233 v1 v2_56 s_56).map (fun z => .inr (z))))
def f_X9_layWalks_56 (v1 : Int32) (v2_56 : Int32) (v3_56 : Int32) (s_56 : Sg) : Option ((Int32 × Sg) ⊕ Sg) :=
  itr 3000 (fun s => f_X9_layWalks_56s v1 v2_56 s.1 s.2) (v3_56, s_56)
def f_X9_layWalks_53 (v1 : Int32) (v2_53 : Int32) (t1_53 : Int32) (t2_53 : Int64) (s_53 : Sg) : Option ((Int32 × Sg) ⊕ Sg) :=
  (astL s_53 5 1024 t1_53 t2_53).bind fun s6 =>
  f_X9_layWalks_56 v1 v2_53 0 s6
def f_X9_layWalks_34 (v1 : Int32) (v2_34 : Int32) (t1_34 : Int32) (t2_34 : Int32) (s_34 : Sg) : Option ((Int32 × Sg) ⊕ Sg) :=
  (ast s_34 6 1024 t1_34 t2_34).bind fun s4 =>
  (f_X9_has v2_34 v1).bind fun q5 =>
  if q5 = 0 then (
  f_X9_layWalks_53 v1 v2_34 v2_34 0 s4)
  else (
  f_X9_layWalks_53 v1 v2_34 v2_34 1 s4)
def f_X9_layWalks_11s (v1 : Int32) (v2_11 : Int32) (s_11 : Sg) : Option ((Int32 × Sg) ⊕ Sg) :=
  if v2_11 < 0 then (
  some (.inr (s_11)))
  else (
  (f_X9_has v2_11 v1).bind fun q3 =>
  if q3 = 0 then (
  f_X9_layWalks_34 v1 v2_11 v2_11 100 s_11)
  else (
  f_X9_layWalks_34 v1 v2_11 v2_11 0 s_11))
def f_X9_layWalks_11 (v1 : Int32) (v2_11 : Int32) (s_11 : Sg) : Option Sg :=
  itr 3000 (fun s => f_X9_layWalks_11s v1 s.1 s.2) (v2_11, s_11)
def f_X9_layWalks (v1 : Int32) (σ : Sg) : Option Sg :=
  (ald σ 1 660 0).bind fun x1 =>
  nm ((((1 : Int32) <<< (x1 &&& 31)) - (1 : Int32))) fun x2 =>
  f_X9_layWalks_11 v1 x2 σ
def f_X9_walk_20 (s_20 : Sg) : Option (Int64 × Sg) :=
  some (((-1), s_20))
def f_X9_walk_177 (t0_177 : Int64) (s_177 : Sg) : Option (Int64 × Sg) :=
  some ((t0_177, s_177))
def f_X9_walk_138 (v2 : Int32) (v3_65 : Int32) (v5_138 : Int32) (t0_138 : Int32) (s_65 : Sg) : Option ((Int32 × Int32) ⊕ (Int64 × Sg)) :=
  nm (v5_138 + (-1)) fun x11 =>
  some (.inl (t0_138, x11))
def f_X9_walk_124 (v2 : Int32) (v3_65 : Int32) (v4_124 : Int32) (v5_124 : Int32) (t0_124 : Int32) (s_65 : Sg) : Option ((Int32 × Int32) ⊕ (Int64 × Sg)) :=
  if t0_124 = 0 then (
  f_X9_walk_138 v2 v3_65 v5_124 v4_124 s_65)
  else (
  f_X9_walk_138 v2 v3_65 v5_124 v5_124 s_65)
def f_X9_walk_123 (v2 : Int32) (v3_65 : Int32) (v4_123 : Int32) (v5_123 : Int32) (s_65 : Sg) : Option ((Int32 × Int32) ⊕ (Int64 × Sg)) :=
  f_X9_walk_124 v2 v3_65 v4_123 v5_123 0 s_65
def f_X9_walk_65s (v2 : Int32) (v3_65 : Int32) (v4_65 : Int32) (v5_65 : Int32) (s_65 : Sg) : Option ((Int32 × Int32) ⊕ (Int64 × Sg)) :=
  if v5_65 < 0 then (
  if v2 = 0 then (
  (ald s_65 6 1024 v3_65).bind fun x9 =>
  (f_X9_walk_177 ((x9 : Int32).toInt64) s_65).map (fun z => .inr (z)))
  else (
  if v2 = 1 then (
  (f_X9_walk_177 ((v4_65 : Int32).toInt64) s_65).map (fun z => .inr (z)))
  else (
  (aldL s_65 5 1024 v3_65).bind fun x8 =>
  (f_X9_walk_177 x8 s_65).map (fun z => .inr (z)))))
  else (
  (ald s_65 6 1024 v3_65).bind fun x10 =>
  if x10 ≤ 0 then (
  f_X9_walk_123 v2 v3_65 v4_65 v5_65 s_65)
  else (
  (f_X9_mayFrom v3_65 v5_65 s_65).bind fun q12 =>
  if q12 = 0 then (
  f_X9_walk_123 v2 v3_65 v4_65 v5_65 s_65)
  else (
  (ald s_65 1 660 ((25 : Int32) + v5_65)).bind fun x13 =>
  (ald s_65 6 1024 (v3_65 ||| ((1 : Int32) <<< (x13 &&& 31)))).bind fun x14 =>
  (ald s_65 6 1024 v3_65).bind fun x15 =>
  if x14 = (x15 - (1 : Int32)) then (
  f_X9_walk_124 v2 v3_65 v4_65 v5_65 1 s_65)
  else (
  f_X9_walk_123 v2 v3_65 v4_65 v5_65 s_65))))
def f_X9_walk_65 (v2 : Int32) (v3_65 : Int32) (v4_65 : Int32) (v5_65 : Int32) (s_65 : Sg) : Option (Int64 × Sg) :=
  itr 3000 (fun s => f_X9_walk_65s v2 v3_65 s.1 s.2 s_65) (v4_65, v5_65)
def f_X9_walk (v1 : Int32) (v2 : Int32) (σ : Sg) : Option (Int64 × Sg) :=
  (f_X9_isStone v1 σ).bind fun q1 =>
  if q1 = 0 then (
  f_X9_walk_20 σ)
  else (
  (f_X9_in ((v2 : Int32).toInt64) 0 2).bind fun q2 =>
  if q2 = 0 then (
  f_X9_walk_20 σ)
  else (
  (f_X9_layWalks v1 σ).bind fun q3 =>
  (ald q3 1 660 3).bind fun x4 =>
  (ald q3 6 1024 x4).bind fun x5 =>
  if x5 = 100 then (
  some (((-4), q3)))
  else (
  (ald q3 1 660 4).bind fun x6 =>
  nm ((x6 - (1 : Int32))) fun x7 =>
  f_X9_walk_65 v2 x4 (-4) x7 q3)))
def f_X9_round_80 (v1 : Int32) (v2_41 : Int32) (v3_41 : Int32) (v5_80 : Int32) (t0_80 : Int32) (t1_80 : Int32) (σ : Sg) : Option ((Int32 × Int32) ⊕ ((Int32 × Int32) ⊕ Int32)) :=
  nm ((t0_80 ||| t1_80)) fun x7 =>
  nm (v5_80 + 1) fun x8 =>
  some (.inl (x7, x8))
def f_X9_round_41s (v1 : Int32) (v2_41 : Int32) (v3_41 : Int32) (v4_41 : Int32) (v5_41 : Int32) (σ : Sg) : Option ((Int32 × Int32) ⊕ ((Int32 × Int32) ⊕ Int32)) :=
  (ald σ 1 660 4).bind fun x4 =>
  if x4 ≤ v5_41 then (
  nm (v3_41 + 1) fun x5 =>
  some (.inr (.inl (v4_41, x5))))
  else (
  (f_X9_mayFrom v2_41 v5_41 σ).bind fun q6 =>
  if q6 = 0 then (
  f_X9_round_80 v1 v2_41 v3_41 v5_41 v4_41 0 σ)
  else (
  (ald σ 1 660 ((25 : Int32) + v5_41)).bind fun x9 =>
  f_X9_round_80 v1 v2_41 v3_41 v5_41 v4_41 ((1 : Int32) <<< (x9 &&& 31)) σ))
def f_X9_round_41 (v1 : Int32) (v2_41 : Int32) (v3_41 : Int32) (v4_41 : Int32) (v5_41 : Int32) (σ : Sg) : Option ((Int32 × Int32) ⊕ Int32) :=
  itr 3000 (fun s => f_X9_round_41s v1 v2_41 v3_41 s.1 s.2 σ) (v4_41, v5_41)
def f_X9_round_19s (v1 : Int32) (v2_19 : Int32) (v3_19 : Int32) (σ : Sg) : Option ((Int32 × Int32) ⊕ Int32) :=
  if (10 : Int32) < v3_19 then (
  some (.inr ((-4))))
  else (
  (f_X9_has v2_19 v1).bind fun q3 =>
  if q3 = 0 then (
  f_X9_round_41 v1 v2_19 v3_19 v2_19 0 σ)
  else (
  some (.inr (v3_19))))
def f_X9_round_19 (v1 : Int32) (v2_19 : Int32) (v3_19 : Int32) (σ : Sg) : Option Int32 :=
  itr 3000 (fun s => f_X9_round_19s v1 s.1 s.2 σ) (v2_19, v3_19)
def f_X9_round (v1 : Int32) (σ : Sg) : Option Int32 :=
  (f_X9_isStone v1 σ).bind fun q1 =>
  if q1 = 0 then (
  some ((-1)))
  else (
  (ald σ 1 660 3).bind fun x2 =>
  f_X9_round_19 v1 x2 0 σ)
def f_X9_needs_18 (σ : Sg) : Option Int32 :=
  some ((-1))
def f_X9_needs_188 (t0_188 : Int32) (σ : Sg) : Option Int32 :=
  some (t0_188)
def f_X9_needs_168 (v1 : Int32) (v2 : Int32) (v3_119 : Int32) (v5_119 : Int32) (v6_168 : Int32) (t0_168 : Int32) (t1_168 : Int32) (σ : Sg) : Option ((Int32 × Int32) ⊕ Int32) :=
  nm ((t0_168 ||| t1_168)) fun x8 =>
  nm (v6_168 + 1) fun x9 =>
  some (.inl (x8, x9))
def f_X9_needs_167 (v1 : Int32) (v2 : Int32) (v3_119 : Int32) (v5_119 : Int32) (v6_167 : Int32) (t0_167 : Int32) (σ : Sg) : Option ((Int32 × Int32) ⊕ Int32) :=
  f_X9_needs_168 v1 v2 v3_119 v5_119 v6_167 t0_167 0 σ
def f_X9_needs_119s (v1 : Int32) (v2 : Int32) (v3_119 : Int32) (v4_119 : Int32) (v5_119 : Int32) (v6_119 : Int32) (σ : Sg) : Option ((Int32 × Int32) ⊕ Int32) :=
  (ald σ 1 660 0).bind fun x6 =>
  if x6 ≤ v6_119 then (
  if v2 = 0 then (
  (f_X9_needs_188 v4_119 σ).map (fun z => .inr (z)))
  else (
  (f_X9_needs_188 v5_119 σ).map (fun z => .inr (z))))
  else (
  (f_X9_has v3_119 v6_119).bind fun q7 =>
  if q7 = 0 then (
  f_X9_needs_167 v1 v2 v3_119 v5_119 v6_119 v4_119 σ)
  else (
  (f_X9_reachOf (v3_119 &&& (((1 : Int32) <<< (v6_119 &&& 31)) ^^^ ((-1) : Int32))) σ).bind fun q10 =>
  (f_X9_has q10 v1).bind fun q11 =>
  if q11 = 0 then (
  f_X9_needs_168 v1 v2 v3_119 v5_119 v6_119 v4_119 ((1 : Int32) <<< (v6_119 &&& 31)) σ)
  else (
  f_X9_needs_167 v1 v2 v3_119 v5_119 v6_119 v4_119 σ)))
def f_X9_needs_119 (v1 : Int32) (v2 : Int32) (v3_119 : Int32) (v4_119 : Int32) (v5_119 : Int32) (v6_119 : Int32) (σ : Sg) : Option Int32 :=
  itr 3000 (fun s => f_X9_needs_119s v1 v2 v3_119 s.1 v5_119 s.2 σ) (v4_119, v6_119)
def f_X9_needs_108 (v1 : Int32) (v2 : Int32) (v3_49 : Int32) (v4_49 : Int32) (v6_108 : Int32) (t0_108 : Int32) (σ : Sg) : Option ((Int32 × Int32) ⊕ Int32) :=
  nm (v6_108 + (-1)) fun x12 =>
  some (.inl (t0_108, x12))
def f_X9_needs_106 (v1 : Int32) (v2 : Int32) (v3_49 : Int32) (v4_49 : Int32) (v5_106 : Int32) (v6_106 : Int32) (σ : Sg) : Option ((Int32 × Int32) ⊕ Int32) :=
  f_X9_needs_108 v1 v2 v3_49 v4_49 v6_106 v5_106 σ
def f_X9_needs_81 (v1 : Int32) (v2 : Int32) (v3_49 : Int32) (v4_49 : Int32) (v5_81 : Int32) (v6_81 : Int32) (t0_81 : Int32) (σ : Sg) : Option ((Int32 × Int32) ⊕ Int32) :=
  if t0_81 = 0 then (
  f_X9_needs_106 v1 v2 v3_49 v4_49 v5_81 v6_81 σ)
  else (
  (f_X9_ones v6_81).bind fun q13 =>
  (f_X9_ones v5_81).bind fun q14 =>
  if q14 < q13 then (
  f_X9_needs_106 v1 v2 v3_49 v4_49 v5_81 v6_81 σ)
  else (
  f_X9_needs_108 v1 v2 v3_49 v4_49 v6_81 v6_81 σ))
def f_X9_needs_80 (v1 : Int32) (v2 : Int32) (v3_49 : Int32) (v4_49 : Int32) (v5_80 : Int32) (v6_80 : Int32) (σ : Sg) : Option ((Int32 × Int32) ⊕ Int32) :=
  f_X9_needs_81 v1 v2 v3_49 v4_49 v5_80 v6_80 0 σ
def f_X9_needs_49s (v1 : Int32) (v2 : Int32) (v3_49 : Int32) (v4_49 : Int32) (v5_49 : Int32) (v6_49 : Int32) (σ : Sg) : Option ((Int32 × Int32) ⊕ Int32) :=
  if v6_49 < 0 then (
  (f_X9_needs_119 v1 v2 v3_49 v4_49 v5_49 0 σ).map (fun z => .inr (z)))
  else (
  if (v6_49 &&& (v3_49 ^^^ ((-1) : Int32))) = 0 then (
  (f_X9_reachOf v6_49 σ).bind fun q15 =>
  (f_X9_has q15 v1).bind fun q16 =>
  if q16 = 0 then (
  f_X9_needs_80 v1 v2 v3_49 v4_49 v5_49 v6_49 σ)
  else (
  f_X9_needs_81 v1 v2 v3_49 v4_49 v5_49 v6_49 1 σ))
  else (
  f_X9_needs_80 v1 v2 v3_49 v4_49 v5_49 v6_49 σ))
def f_X9_needs_49 (v1 : Int32) (v2 : Int32) (v3_49 : Int32) (v4_49 : Int32) (v5_49 : Int32) (v6_49 : Int32) (σ : Sg) : Option Int32 :=
  itr 3000 (fun s => f_X9_needs_49s v1 v2 v3_49 v4_49 s.1 s.2 σ) (v5_49, v6_49)
def f_X9_needs (v1 : Int32) (v2 : Int32) (σ : Sg) : Option Int32 :=
  (f_X9_isStone v1 σ).bind fun q1 =>
  if q1 = 0 then (
  f_X9_needs_18 σ)
  else (
  (f_X9_in ((v2 : Int32).toInt64) 0 1).bind fun q2 =>
  if q2 = 0 then (
  f_X9_needs_18 σ)
  else (
  (f_X9_beginnings σ).bind fun q3 =>
  (f_X9_reachOf q3 σ).bind fun q4 =>
  (f_X9_has q4 v1).bind fun q5 =>
  if q5 = 0 then (
  some ((-4)))
  else (
  f_X9_needs_49 v1 v2 q3 0 q3 q3 σ)))
def f_X9_lost (v1 : Int32) (σ : Sg) : Option Int32 :=
  (f_X9_isStone v1 σ).bind fun q1 =>
  if q1 = 0 then (
  some ((-1)))
  else (
  (ald σ 1 660 2).bind fun x2 =>
  (f_X9_has x2 v1).bind fun q3 =>
  if q3 = 0 then (
  some ((-2)))
  else (
  (f_X9_beginnings σ).bind fun q4 =>
  (f_X9_reachOf q4 σ).bind fun q5 =>
  (f_X9_beginnings σ).bind fun q6 =>
  (f_X9_allSteps σ).bind fun q7 =>
  (ald σ 1 660 2).bind fun x8 =>
  (f_X9_closure (q6 &&& (((1 : Int32) <<< (v1 &&& 31)) ^^^ ((-1) : Int32))) q7 (x8 &&& (((1 : Int32) <<< (v1 &&& 31)) ^^^ ((-1) : Int32))) σ).bind fun q9 =>
  some (((q5 &&& (q9 ^^^ ((-1) : Int32))) &&& (((1 : Int32) <<< (v1 &&& 31)) ^^^ ((-1) : Int32))))))
def f_X9_begins_89 (v1 : Int32) (v3_89 : Int32) (t0_89 : Int32) (σ : Sg) : Option ((Int32 × Int32) ⊕ Int32) :=
  nm (v3_89 + 1) fun x3 =>
  some (.inl (t0_89, x3))
def f_X9_begins_88 (v1 : Int32) (v2_88 : Int32) (v3_88 : Int32) (σ : Sg) : Option ((Int32 × Int32) ⊕ Int32) :=
  f_X9_begins_89 v1 v3_88 v2_88 σ
def f_X9_begins_60 (v1 : Int32) (v2_60 : Int32) (v3_60 : Int32) (t0_60 : Int32) (σ : Sg) : Option ((Int32 × Int32) ⊕ Int32) :=
  if t0_60 = 0 then (
  f_X9_begins_88 v1 v2_60 v3_60 σ)
  else (
  (f_X9_beginnings σ).bind fun q4 =>
  (f_X9_reachOf (q4 ||| v3_60) σ).bind fun q5 =>
  (f_X9_has q5 v1).bind fun q6 =>
  if q6 = 0 then (
  f_X9_begins_88 v1 v2_60 v3_60 σ)
  else (
  f_X9_begins_89 v1 v3_60 v3_60 σ))
def f_X9_begins_59 (v1 : Int32) (v2_59 : Int32) (v3_59 : Int32) (σ : Sg) : Option ((Int32 × Int32) ⊕ Int32) :=
  f_X9_begins_60 v1 v2_59 v3_59 0 σ
def f_X9_begins_55 (v1 : Int32) (v2_55 : Int32) (v3_55 : Int32) (σ : Sg) : Option ((Int32 × Int32) ⊕ Int32) :=
  f_X9_begins_60 v1 v2_55 v3_55 1 σ
def f_X9_begins_5s (v1 : Int32) (v2_5 : Int32) (v3_5 : Int32) (σ : Sg) : Option ((Int32 × Int32) ⊕ Int32) :=
  (ald σ 1 660 0).bind fun x1 =>
  if ((1 : Int32) <<< (x1 &&& 31)) ≤ v3_5 then (
  some (.inr (v2_5)))
  else (
  (ald σ 1 660 2).bind fun x2 =>
  if (v3_5 &&& (x2 ^^^ ((-1) : Int32))) = 0 then (
  (f_X9_has v3_5 v1).bind fun q7 =>
  if q7 = 0 then (
  if v2_5 = (-4) then (
  f_X9_begins_55 v1 v2_5 v3_5 σ)
  else (
  (f_X9_ones v3_5).bind fun q8 =>
  (f_X9_ones v2_5).bind fun q9 =>
  if q9 ≤ q8 then (
  f_X9_begins_59 v1 v2_5 v3_5 σ)
  else (
  f_X9_begins_55 v1 v2_5 v3_5 σ)))
  else (
  f_X9_begins_59 v1 v2_5 v3_5 σ))
  else (
  f_X9_begins_59 v1 v2_5 v3_5 σ))
def f_X9_begins_5 (v1 : Int32) (v2_5 : Int32) (v3_5 : Int32) (σ : Sg) : Option Int32 :=
  itr 3000 (fun s => f_X9_begins_5s v1 s.1 s.2 σ) (v2_5, v3_5)
def f_X9_begins (v1 : Int32) (σ : Sg) : Option Int32 :=
  f_X9_begins_5 v1 (-4) 0 σ
def f_X9_begin_33 (t0_33 : Int32) (σ : Sg) : Option Int32 :=
  some (t0_33)
def f_X9_begin (v1 : Int32) (σ : Sg) : Option Int32 :=
  (f_X9_isStone v1 σ).bind fun q1 =>
  if q1 = 0 then (
  some ((-1)))
  else (
  (ald σ 1 660 2).bind fun x2 =>
  (f_X9_has x2 v1).bind fun q3 =>
  if q3 = 0 then (
  f_X9_begin_33 (-2) σ)
  else (
  (f_X9_begins v1 σ).bind fun q4 =>
  f_X9_begin_33 q4 σ))
def f_X9_isHall_55 (v2_11 : Int32) (v4_55 : Int32) (t0_55 : Int32) (σ : Sg) : Option ((Int32 × Int32) ⊕ Int32) :=
  nm (v4_55 + 1) fun x4 =>
  some (.inl (t0_55, x4))
def f_X9_isHall_50 (v2_11 : Int32) (v4_50 : Int32) (σ : Sg) : Option ((Int32 × Int32) ⊕ Int32) :=
  f_X9_isHall_55 v2_11 v4_50 1 σ
def f_X9_isHall_54 (v2_11 : Int32) (v4_54 : Int32) (σ : Sg) : Option ((Int32 × Int32) ⊕ Int32) :=
  f_X9_isHall_55 v2_11 v4_54 0 σ
def f_X9_isHall_11s (v2_11 : Int32) (v3_11 : Int32) (v4_11 : Int32) (σ : Sg) : Option ((Int32 × Int32) ⊕ Int32) :=
  (ald σ 1 660 0).bind fun x2 =>
  if x2 ≤ v4_11 then (
  (zrt v3_11).bind fun x3 =>
  some (.inr (x3)))
  else (
  if v3_11 = 0 then (
  (f_X9_has v2_11 v4_11).bind fun q5 =>
  if q5 = 0 then (
  f_X9_isHall_54 v2_11 v4_11 σ)
  else (
  (ald σ 1 660 ((45 : Int32) + v4_11)).bind fun x6 =>
  if (x6 &&& v2_11) = 0 then (
  f_X9_isHall_54 v2_11 v4_11 σ)
  else (
  f_X9_isHall_50 v2_11 v4_11 σ)))
  else (
  f_X9_isHall_50 v2_11 v4_11 σ))
def f_X9_isHall_11 (v2_11 : Int32) (v3_11 : Int32) (v4_11 : Int32) (σ : Sg) : Option Int32 :=
  itr 3000 (fun s => f_X9_isHall_11s v2_11 s.1 s.2 σ) (v3_11, v4_11)
def f_X9_isHall (v1 : Int32) (σ : Sg) : Option Int32 :=
  (f_X9_reachOf v1 σ).bind fun q1 =>
  f_X9_isHall_11 q1 0 0 σ
def f_X9_hall_119 (t0_119 : Int32) (σ : Sg) : Option Int32 :=
  some (t0_119)
def f_X9_hall_94 (v1 : Int32) (v2_94 : Int32) (σ : Sg) : Option Int32 :=
  if v1 = 1 then (
  f_X9_hall_119 v2_94 σ)
  else (
  (f_X9_beginnings σ).bind fun q3 =>
  (f_X9_isHall q3 σ).bind fun q4 =>
  if q4 = 0 then (
  f_X9_hall_119 0 σ)
  else (
  f_X9_hall_119 1 σ))
def f_X9_hall_87 (v1 : Int32) (v3_87 : Int32) (t0_87 : Int32) (σ : Sg) : Option ((Int32 × Int32) ⊕ Int32) :=
  nm (v3_87 + 1) fun x6 =>
  some (.inl (t0_87, x6))
def f_X9_hall_86 (v1 : Int32) (v2_86 : Int32) (v3_86 : Int32) (σ : Sg) : Option ((Int32 × Int32) ⊕ Int32) :=
  f_X9_hall_87 v1 v3_86 v2_86 σ
def f_X9_hall_67 (v1 : Int32) (v2_67 : Int32) (v3_67 : Int32) (t0_67 : Int32) (σ : Sg) : Option ((Int32 × Int32) ⊕ Int32) :=
  if t0_67 = 0 then (
  f_X9_hall_86 v1 v2_67 v3_67 σ)
  else (
  (f_X9_isHall v3_67 σ).bind fun q7 =>
  if q7 = 0 then (
  f_X9_hall_86 v1 v2_67 v3_67 σ)
  else (
  f_X9_hall_87 v1 v3_67 v3_67 σ))
def f_X9_hall_66 (v1 : Int32) (v2_66 : Int32) (v3_66 : Int32) (σ : Sg) : Option ((Int32 × Int32) ⊕ Int32) :=
  f_X9_hall_67 v1 v2_66 v3_66 0 σ
def f_X9_hall_62 (v1 : Int32) (v2_62 : Int32) (v3_62 : Int32) (σ : Sg) : Option ((Int32 × Int32) ⊕ Int32) :=
  f_X9_hall_67 v1 v2_62 v3_62 1 σ
def f_X9_hall_17s (v1 : Int32) (v2_17 : Int32) (v3_17 : Int32) (σ : Sg) : Option ((Int32 × Int32) ⊕ Int32) :=
  (ald σ 1 660 0).bind fun x2 =>
  if ((1 : Int32) <<< (x2 &&& 31)) ≤ v3_17 then (
  (f_X9_hall_94 v1 v2_17 σ).map (fun z => .inr (z)))
  else (
  if v1 = 1 then (
  (f_X9_beginnings σ).bind fun q5 =>
  if (v3_17 &&& (q5 ^^^ ((-1) : Int32))) = 0 then (
  if v2_17 = (-4) then (
  f_X9_hall_62 v1 v2_17 v3_17 σ)
  else (
  (f_X9_ones v3_17).bind fun q8 =>
  (f_X9_ones v2_17).bind fun q9 =>
  if q9 ≤ q8 then (
  f_X9_hall_66 v1 v2_17 v3_17 σ)
  else (
  f_X9_hall_62 v1 v2_17 v3_17 σ)))
  else (
  f_X9_hall_66 v1 v2_17 v3_17 σ))
  else (
  (f_X9_hall_94 v1 v2_17 σ).map (fun z => .inr (z))))
def f_X9_hall_17 (v1 : Int32) (v2_17 : Int32) (v3_17 : Int32) (σ : Sg) : Option Int32 :=
  itr 3000 (fun s => f_X9_hall_17s v1 s.1 s.2 σ) (v2_17, v3_17)
def f_X9_hall (v1 : Int32) (σ : Sg) : Option Int32 :=
  (f_X9_in ((v1 : Int32).toInt64) 0 1).bind fun q1 =>
  if q1 = 0 then (
  some ((-1)))
  else (
  f_X9_hall_17 v1 (-4) 0 σ)
def f_X9_rope_66 (v2_66 : Int32) (t0_66 : Int32) (σ : Sg) : Option ((Int32 × Int32) ⊕ Int32) :=
  nm (v2_66 + (-1)) fun x4 =>
  some (.inl (t0_66, x4))
def f_X9_rope_65 (v1_65 : Int32) (v2_65 : Int32) (σ : Sg) : Option ((Int32 × Int32) ⊕ Int32) :=
  f_X9_rope_66 v2_65 v1_65 σ
def f_X9_rope_41 (v1_41 : Int32) (v2_41 : Int32) (t0_41 : Int32) (σ : Sg) : Option ((Int32 × Int32) ⊕ Int32) :=
  if t0_41 = 0 then (
  f_X9_rope_65 v1_41 v2_41 σ)
  else (
  (f_X9_beginnings σ).bind fun q5 =>
  (f_X9_isHall (q5 &&& (v2_41 ^^^ ((-1) : Int32))) σ).bind fun q6 =>
  if q6 = 0 then (
  f_X9_rope_66 v2_41 v2_41 σ)
  else (
  f_X9_rope_65 v1_41 v2_41 σ))
def f_X9_rope_40 (v1_40 : Int32) (v2_40 : Int32) (σ : Sg) : Option ((Int32 × Int32) ⊕ Int32) :=
  f_X9_rope_41 v1_40 v2_40 0 σ
def f_X9_rope_10s (v1_10 : Int32) (v2_10 : Int32) (σ : Sg) : Option ((Int32 × Int32) ⊕ Int32) :=
  if v2_10 < 0 then (
  some (.inr (v1_10)))
  else (
  (f_X9_beginnings σ).bind fun q3 =>
  if (v2_10 &&& (q3 ^^^ ((-1) : Int32))) = 0 then (
  (f_X9_ones v2_10).bind fun q7 =>
  (f_X9_ones v1_10).bind fun q8 =>
  if q8 < q7 then (
  f_X9_rope_40 v1_10 v2_10 σ)
  else (
  f_X9_rope_41 v1_10 v2_10 1 σ))
  else (
  f_X9_rope_40 v1_10 v2_10 σ))
def f_X9_rope_10 (v1_10 : Int32) (v2_10 : Int32) (σ : Sg) : Option Int32 :=
  itr 3000 (fun s => f_X9_rope_10s s.1 s.2 σ) (v1_10, v2_10)
def f_X9_rope (σ : Sg) : Option Int32 :=
  (f_X9_beginnings σ).bind fun q1 =>
  (f_X9_beginnings σ).bind fun q2 =>
  f_X9_rope_10 q1 q2 σ
def f_X9_idle_85 (v2_85 : Int32) (t0_85 : Int32) (t1_85 : Int32) (σ : Sg) : Option ((Int32 × Int32) ⊕ Int32) :=
  nm ((t0_85 ||| t1_85)) fun x9 =>
  nm (v2_85 + 1) fun x10 =>
  some (.inl (x9, x10))
def f_X9_idle_4s (v1_4 : Int32) (v2_4 : Int32) (σ : Sg) : Option ((Int32 × Int32) ⊕ Int32) :=
  (ald σ 1 660 4).bind fun x1 =>
  if x1 ≤ v2_4 then (
  some (.inr (v1_4)))
  else (
  (ald σ 1 660 ((5 : Int32) + v2_4)).bind fun x2 =>
  (ald σ 1 660 ((15 : Int32) + v2_4)).bind fun x3 =>
  (f_X9_allSteps σ).bind fun q4 =>
  (ald σ 1 660 0).bind fun x5 =>
  (f_X9_closure (((1 : Int32) <<< (x2 &&& 31)) ||| ((1 : Int32) <<< (x3 &&& 31))) (q4 &&& (((1 : Int32) <<< (v2_4 &&& 31)) ^^^ ((-1) : Int32))) (((1 : Int32) <<< (x5 &&& 31)) - (1 : Int32)) σ).bind fun q6 =>
  (ald σ 1 660 ((25 : Int32) + v2_4)).bind fun x7 =>
  (f_X9_has q6 x7).bind fun q8 =>
  if q8 = 0 then (
  f_X9_idle_85 v2_4 v1_4 0 σ)
  else (
  f_X9_idle_85 v2_4 v1_4 ((1 : Int32) <<< (v2_4 &&& 31)) σ))
def f_X9_idle_4 (v1_4 : Int32) (v2_4 : Int32) (σ : Sg) : Option Int32 :=
  itr 3000 (fun s => f_X9_idle_4s s.1 s.2 σ) (v1_4, v2_4)
def f_X9_idle (σ : Sg) : Option Int32 :=
  f_X9_idle_4 0 0 σ
def f_X9_leads_113 (v1 : Int32) (v3_13 : Int32) (v4_113 : Int32) (t0_113 : Int32) (t1_113 : Int32) (σ : Sg) : Option ((Int32 × Int32) ⊕ ((Int32 × Int32) ⊕ Int32)) :=
  nm ((t0_113 ||| t1_113)) fun x4 =>
  nm (v4_113 + 1) fun x5 =>
  some (.inl (x4, x5))
def f_X9_leads_89 (v1 : Int32) (v2_89 : Int32) (v3_13 : Int32) (v4_89 : Int32) (t0_89 : Int32) (σ : Sg) : Option ((Int32 × Int32) ⊕ ((Int32 × Int32) ⊕ Int32)) :=
  if t0_89 = 0 then (
  f_X9_leads_113 v1 v3_13 v4_89 v2_89 0 σ)
  else (
  (ald σ 1 660 ((25 : Int32) + v4_89)).bind fun x6 =>
  f_X9_leads_113 v1 v3_13 v4_89 v2_89 ((1 : Int32) <<< (x6 &&& 31)) σ)
def f_X9_leads_84 (v1 : Int32) (v2_84 : Int32) (v3_13 : Int32) (v4_84 : Int32) (σ : Sg) : Option ((Int32 × Int32) ⊕ ((Int32 × Int32) ⊕ Int32)) :=
  f_X9_leads_89 v1 v2_84 v3_13 v4_84 1 σ
def f_X9_leads_13s (v1 : Int32) (v2_13 : Int32) (v3_13 : Int32) (v4_13 : Int32) (σ : Sg) : Option ((Int32 × Int32) ⊕ ((Int32 × Int32) ⊕ Int32)) :=
  (ald σ 1 660 4).bind fun x1 =>
  if x1 ≤ v4_13 then (
  nm (v3_13 + 1) fun x2 =>
  some (.inr (.inl (v2_13, x2))))
  else (
  (ald σ 1 660 ((5 : Int32) + v4_13)).bind fun x3 =>
  if x3 = v1 then (
  f_X9_leads_84 v1 v2_13 v3_13 v4_13 σ)
  else (
  (ald σ 1 660 ((15 : Int32) + v4_13)).bind fun x7 =>
  if x7 = v1 then (
  f_X9_leads_84 v1 v2_13 v3_13 v4_13 σ)
  else (
  (ald σ 1 660 ((5 : Int32) + v4_13)).bind fun x8 =>
  (f_X9_has v2_13 x8).bind fun q9 =>
  if q9 = 0 then (
  (ald σ 1 660 ((15 : Int32) + v4_13)).bind fun x10 =>
  (f_X9_has v2_13 x10).bind fun q11 =>
  if q11 = 0 then (
  f_X9_leads_89 v1 v2_13 v3_13 v4_13 0 σ)
  else (
  f_X9_leads_84 v1 v2_13 v3_13 v4_13 σ))
  else (
  f_X9_leads_84 v1 v2_13 v3_13 v4_13 σ))))
def f_X9_leads_13 (v1 : Int32) (v2_13 : Int32) (v3_13 : Int32) (v4_13 : Int32) (σ : Sg) : Option ((Int32 × Int32) ⊕ Int32) :=
  itr 3000 (fun s => f_X9_leads_13s v1 s.1 v3_13 s.2 σ) (v2_13, v4_13)
def f_X9_leads_4s (v1 : Int32) (v2_4 : Int32) (v3_4 : Int32) (σ : Sg) : Option ((Int32 × Int32) ⊕ Int32) :=
  if (10 : Int32) ≤ v3_4 then (
  some (.inr (v2_4)))
  else (
  f_X9_leads_13 v1 v2_4 v3_4 0 σ)
def f_X9_leads_4 (v1 : Int32) (v2_4 : Int32) (v3_4 : Int32) (σ : Sg) : Option Int32 :=
  itr 3000 (fun s => f_X9_leads_4s v1 s.1 s.2 σ) (v2_4, v3_4)
def f_X9_leads (v1 : Int32) (σ : Sg) : Option Int32 :=
  f_X9_leads_4 v1 0 0 σ
def f_X9_circle_33 (v2_33 : Int32) (t0_33 : Int32) (σ : Sg) : Option ((Int32 × Int32) ⊕ Int32) :=
  nm (v2_33 + (-1)) fun x5 =>
  some (.inl (t0_33, x5))
def f_X9_circle_12s (v1_12 : Int32) (v2_12 : Int32) (σ : Sg) : Option ((Int32 × Int32) ⊕ Int32) :=
  if v2_12 < 0 then (
  some (.inr (v1_12)))
  else (
  (f_X9_leads v2_12 σ).bind fun q3 =>
  (f_X9_has q3 v2_12).bind fun q4 =>
  if q4 = 0 then (
  f_X9_circle_33 v2_12 v1_12 σ)
  else (
  f_X9_circle_33 v2_12 v2_12 σ))
def f_X9_circle_12 (v1_12 : Int32) (v2_12 : Int32) (σ : Sg) : Option Int32 :=
  itr 3000 (fun s => f_X9_circle_12s s.1 s.2 σ) (v1_12, v2_12)
def f_X9_circle (σ : Sg) : Option Int32 :=
  (ald σ 1 660 0).bind fun x1 =>
  nm ((x1 - (1 : Int32))) fun x2 =>
  f_X9_circle_12 (-4) x2 σ
def f_X9_deep_189 (v2_45 : Int32) (v3_189 : Int32) (t0_189 : Int32) (s_189 : Sg) : Option ((Int32 × Int32 × Sg) ⊕ ((Int32 × Int32 × Sg) ⊕ (Int32 × Sg))) :=
  nm (v3_189 + 1) fun x16 =>
  some (.inl (t0_189, x16, s_189))
def f_X9_deep_172 (v1_172 : Int32) (v2_45 : Int32) (v3_172 : Int32) (v4_172 : Int32) (t1_172 : Int32) (t2_172 : Int32) (s_172 : Sg) : Option ((Int32 × Int32 × Sg) ⊕ ((Int32 × Int32 × Sg) ⊕ (Int32 × Sg))) :=
  (ast s_172 7 10 t1_172 t2_172).bind fun s15 =>
  if (v4_172 + (1 : Int32)) ≤ v1_172 then (
  f_X9_deep_189 v2_45 v3_172 v1_172 s15)
  else (
  f_X9_deep_189 v2_45 v3_172 (v4_172 + (1 : Int32)) s15)
def f_X9_deep_115 (v1_115 : Int32) (v2_45 : Int32) (v3_115 : Int32) (t0_115 : Int32) (s_115 : Sg) : Option ((Int32 × Int32 × Sg) ⊕ ((Int32 × Int32 × Sg) ⊕ (Int32 × Sg))) :=
  (ald s_115 1 660 ((25 : Int32) + v3_115)).bind fun x10 =>
  (ald s_115 1 660 ((25 : Int32) + v3_115)).bind fun x11 =>
  (ald s_115 7 10 x11).bind fun x12 =>
  if (t0_115 + (1 : Int32)) ≤ x12 then (
  (ald s_115 1 660 ((25 : Int32) + v3_115)).bind fun x13 =>
  (ald s_115 7 10 x13).bind fun x14 =>
  f_X9_deep_172 v1_115 v2_45 v3_115 t0_115 x10 x14 s_115)
  else (
  f_X9_deep_172 v1_115 v2_45 v3_115 t0_115 x10 (t0_115 + (1 : Int32)) s_115)
def f_X9_deep_45s (v1_45 : Int32) (v2_45 : Int32) (v3_45 : Int32) (s_45 : Sg) : Option ((Int32 × Int32 × Sg) ⊕ ((Int32 × Int32 × Sg) ⊕ (Int32 × Sg))) :=
  (ald s_45 1 660 4).bind fun x2 =>
  if x2 ≤ v3_45 then (
  nm (v2_45 + 1) fun x3 =>
  some (.inr (.inl (v1_45, x3, s_45))))
  else (
  (ald s_45 1 660 ((5 : Int32) + v3_45)).bind fun x4 =>
  (ald s_45 7 10 x4).bind fun x5 =>
  (ald s_45 1 660 ((15 : Int32) + v3_45)).bind fun x6 =>
  (ald s_45 7 10 x6).bind fun x7 =>
  if x5 ≤ x7 then (
  (ald s_45 1 660 ((15 : Int32) + v3_45)).bind fun x8 =>
  (ald s_45 7 10 x8).bind fun x9 =>
  f_X9_deep_115 v1_45 v2_45 v3_45 x9 s_45)
  else (
  (ald s_45 1 660 ((5 : Int32) + v3_45)).bind fun x17 =>
  (ald s_45 7 10 x17).bind fun x18 =>
  f_X9_deep_115 v1_45 v2_45 v3_45 x18 s_45))
def f_X9_deep_45 (v1_45 : Int32) (v2_45 : Int32) (v3_45 : Int32) (s_45 : Sg) : Option ((Int32 × Int32 × Sg) ⊕ (Int32 × Sg)) :=
  itr 3000 (fun s => f_X9_deep_45s s.1 v2_45 s.2.1 s.2.2) (v1_45, v3_45, s_45)
def f_X9_deep_37s (v1_37 : Int32) (v2_37 : Int32) (s_37 : Sg) : Option ((Int32 × Int32 × Sg) ⊕ (Int32 × Sg)) :=
  if (10 : Int32) ≤ v2_37 then (
  some (.inr ((v1_37, s_37))))
  else (
  f_X9_deep_45 v1_37 v2_37 0 s_37)
def f_X9_deep_37 (v1_37 : Int32) (v2_37 : Int32) (s_37 : Sg) : Option (Int32 × Sg) :=
  itr 3000 (fun s => f_X9_deep_37s s.1 s.2.1 s.2.2) (v1_37, v2_37, s_37)
def f_X9_deep_14s (v1_14 : Int32) (s_14 : Sg) : Option ((Int32 × Sg) ⊕ (Int32 × Sg)) :=
  if (10 : Int32) ≤ v1_14 then (
  (f_X9_deep_37 0 0 s_14).map (fun z => .inr (z)))
  else (
  (ast s_14 7 10 v1_14 0).bind fun s19 =>
  nm (v1_14 + 1) fun x20 =>
  some (.inl (x20, s19)))
def f_X9_deep_14 (v1_14 : Int32) (s_14 : Sg) : Option (Int32 × Sg) :=
  itr 3000 (fun s => f_X9_deep_14s s.1 s.2) (v1_14, s_14)
def f_X9_deep (σ : Sg) : Option (Int32 × Sg) :=
  (f_X9_circle σ).bind fun q1 =>
  if q1 = (-4) then (
  f_X9_deep_14 0 σ)
  else (
  some (((-4), σ)))
def f_X9_proves (v1 : Int32) (v2 : Int32) (σ : Sg) : Option Int32 :=
  (f_X9_beginnings σ).bind fun q1 =>
  (ald σ 1 660 2).bind fun x2 =>
  (f_X9_closure q1 v1 x2 σ).bind fun q3 =>
  (f_X9_has q3 v2).bind fun q4 =>
  (zrt q4).bind fun x5 =>
  some (x5)
def f_X9_isProof_62 (v3_62 : Int32) (σ : Sg) : Option Int32 :=
  (zrt v3_62).bind fun x3 =>
  some (x3)
def f_X9_isProof_55 (v1 : Int32) (v2 : Int32) (v4_55 : Int32) (t0_55 : Int32) (σ : Sg) : Option ((Int32 × Int32) ⊕ Int32) :=
  nm (v4_55 + 1) fun x5 =>
  some (.inl (t0_55, x5))
def f_X9_isProof_50 (v1 : Int32) (v2 : Int32) (v4_50 : Int32) (σ : Sg) : Option ((Int32 × Int32) ⊕ Int32) :=
  f_X9_isProof_55 v1 v2 v4_50 1 σ
def f_X9_isProof_10s (v1 : Int32) (v2 : Int32) (v3_10 : Int32) (v4_10 : Int32) (σ : Sg) : Option ((Int32 × Int32) ⊕ Int32) :=
  (ald σ 1 660 4).bind fun x2 =>
  if x2 ≤ v4_10 then (
  (f_X9_isProof_62 v3_10 σ).map (fun z => .inr (z)))
  else (
  if v3_10 = 0 then (
  (f_X9_isProof_62 v3_10 σ).map (fun z => .inr (z)))
  else (
  (f_X9_has v1 v4_10).bind fun q4 =>
  if q4 = 0 then (
  f_X9_isProof_50 v1 v2 v4_10 σ)
  else (
  (f_X9_proves (v1 &&& (((1 : Int32) <<< (v4_10 &&& 31)) ^^^ ((-1) : Int32))) v2 σ).bind fun q6 =>
  if q6 = 0 then (
  f_X9_isProof_50 v1 v2 v4_10 σ)
  else (
  f_X9_isProof_55 v1 v2 v4_10 0 σ))))
def f_X9_isProof_10 (v1 : Int32) (v2 : Int32) (v3_10 : Int32) (v4_10 : Int32) (σ : Sg) : Option Int32 :=
  itr 3000 (fun s => f_X9_isProof_10s v1 v2 s.1 s.2 σ) (v3_10, v4_10)
def f_X9_isProof (v1 : Int32) (v2 : Int32) (σ : Sg) : Option Int32 :=
  (f_X9_proves v1 v2 σ).bind fun q1 =>
  f_X9_isProof_10 v1 v2 q1 0 σ
def f_X9_proofs_20 (σ : Sg) : Option Int32 :=
  some ((-1))
def f_X9_proofs_129 (t0_129 : Int32) (σ : Sg) : Option Int32 :=
  some (t0_129)
def f_X9_proofs_95 (v1 : Int32) (v2 : Int32) (v3_95 : Int32) (v4_95 : Int32) (v5_95 : Int32) (v6_95 : Int32) (σ : Sg) : Option ((Int32 × Int32 × Int32 × Int32) ⊕ Int32) :=
  nm (v6_95 + 1) fun x6 =>
  some (.inl (v3_95, v4_95, v5_95, x6))
def f_X9_proofs_83 (v1 : Int32) (v2 : Int32) (v3_83 : Int32) (v5_83 : Int32) (v6_83 : Int32) (t0_83 : Int32) (σ : Sg) : Option ((Int32 × Int32 × Int32 × Int32) ⊕ Int32) :=
  nm ((v5_83 &&& v6_83)) fun x7 =>
  nm (v3_83 + 1) fun x8 =>
  f_X9_proofs_95 v1 v2 x8 t0_83 x7 v6_83 σ
def f_X9_proofs_76 (v1 : Int32) (v2 : Int32) (v3_76 : Int32) (v5_76 : Int32) (v6_76 : Int32) (σ : Sg) : Option ((Int32 × Int32 × Int32 × Int32) ⊕ Int32) :=
  f_X9_proofs_83 v1 v2 v3_76 v5_76 v6_76 v6_76 σ
def f_X9_proofs_37s (v1 : Int32) (v2 : Int32) (v3_37 : Int32) (v4_37 : Int32) (v5_37 : Int32) (v6_37 : Int32) (σ : Sg) : Option ((Int32 × Int32 × Int32 × Int32) ⊕ Int32) :=
  (f_X9_allSteps σ).bind fun q4 =>
  if q4 < v6_37 then (
  if v2 = 0 then (
  (f_X9_proofs_129 v3_37 σ).map (fun z => .inr (z)))
  else (
  if v2 = 1 then (
  (f_X9_proofs_129 v4_37 σ).map (fun z => .inr (z)))
  else (
  if v3_37 = 0 then (
  (f_X9_proofs_129 0 σ).map (fun z => .inr (z)))
  else (
  (f_X9_proofs_129 v5_37 σ).map (fun z => .inr (z))))))
  else (
  (f_X9_isProof v6_37 v1 σ).bind fun q5 =>
  if q5 = 0 then (
  f_X9_proofs_95 v1 v2 v3_37 v4_37 v5_37 v6_37 σ)
  else (
  if v4_37 = (-4) then (
  f_X9_proofs_76 v1 v2 v3_37 v5_37 v6_37 σ)
  else (
  (f_X9_ones v6_37).bind fun q9 =>
  (f_X9_ones v4_37).bind fun q10 =>
  if q10 ≤ q9 then (
  f_X9_proofs_83 v1 v2 v3_37 v5_37 v6_37 v4_37 σ)
  else (
  f_X9_proofs_76 v1 v2 v3_37 v5_37 v6_37 σ))))
def f_X9_proofs_37 (v1 : Int32) (v2 : Int32) (v3_37 : Int32) (v4_37 : Int32) (v5_37 : Int32) (v6_37 : Int32) (σ : Sg) : Option Int32 :=
  itr 3000 (fun s => f_X9_proofs_37s v1 v2 s.1 s.2.1 s.2.2.1 s.2.2.2 σ) (v3_37, v4_37, v5_37, v6_37)
def f_X9_proofs (v1 : Int32) (v2 : Int32) (σ : Sg) : Option Int32 :=
  (f_X9_isStone v1 σ).bind fun q1 =>
  if q1 = 0 then (
  f_X9_proofs_20 σ)
  else (
  (f_X9_in ((v2 : Int32).toInt64) 0 2).bind fun q2 =>
  if q2 = 0 then (
  f_X9_proofs_20 σ)
  else (
  (f_X9_allSteps σ).bind fun q3 =>
  f_X9_proofs_37 v1 v2 0 (-4) q3 0 σ))
def f_X9_worn_16 (σ : Sg) : Option Int32 :=
  some ((-1))
def f_X9_worn_108 (v1 : Int32) (v2 : Int32) (v4_108 : Int32) (t0_108 : Int32) (t1_108 : Int32) (σ : Sg) : Option ((Int32 × Int32) ⊕ Int32) :=
  nm ((t0_108 + t1_108)) fun x5 =>
  nm (v4_108 + 1) fun x6 =>
  some (.inl (x5, x6))
def f_X9_worn_107 (v1 : Int32) (v2 : Int32) (v4_107 : Int32) (t0_107 : Int32) (σ : Sg) : Option ((Int32 × Int32) ⊕ Int32) :=
  f_X9_worn_108 v1 v2 v4_107 t0_107 0 σ
def f_X9_worn_77 (v1 : Int32) (v2 : Int32) (v3_38 : Int32) (v4_38 : Int32) (v6_77 : Int32) (t0_77 : Int32) (t1_77 : Int32) (σ : Sg) : Option ((Int32 × Int32) ⊕ ((Int32 × Int32) ⊕ Int32)) :=
  nm ((t0_77 ||| t1_77)) fun x9 =>
  nm (v6_77 + 1) fun x10 =>
  some (.inl (x9, x10))
def f_X9_worn_38s (v1 : Int32) (v2 : Int32) (v3_38 : Int32) (v4_38 : Int32) (v5_38 : Int32) (v6_38 : Int32) (σ : Sg) : Option ((Int32 × Int32) ⊕ ((Int32 × Int32) ⊕ Int32)) :=
  (ald σ 1 660 4).bind fun x4 =>
  if x4 ≤ v6_38 then (
  if v5_38 = v2 then (
  (f_X9_isProof v4_38 v1 σ).bind fun q7 =>
  if q7 = 0 then (
  (f_X9_worn_107 v1 v2 v4_38 v3_38 σ).map (fun z => .inr (z)))
  else (
  (f_X9_worn_108 v1 v2 v4_38 v3_38 1 σ).map (fun z => .inr (z))))
  else (
  (f_X9_worn_107 v1 v2 v4_38 v3_38 σ).map (fun z => .inr (z))))
  else (
  (f_X9_has v4_38 v6_38).bind fun q8 =>
  if q8 = 0 then (
  f_X9_worn_77 v1 v2 v3_38 v4_38 v6_38 v5_38 0 σ)
  else (
  (ald σ 1 660 ((25 : Int32) + v6_38)).bind fun x11 =>
  f_X9_worn_77 v1 v2 v3_38 v4_38 v6_38 v5_38 ((1 : Int32) <<< (x11 &&& 31)) σ))
def f_X9_worn_38 (v1 : Int32) (v2 : Int32) (v3_38 : Int32) (v4_38 : Int32) (v5_38 : Int32) (v6_38 : Int32) (σ : Sg) : Option ((Int32 × Int32) ⊕ Int32) :=
  itr 3000 (fun s => f_X9_worn_38s v1 v2 v3_38 v4_38 s.1 s.2 σ) (v5_38, v6_38)
def f_X9_worn_23s (v1 : Int32) (v2 : Int32) (v3_23 : Int32) (v4_23 : Int32) (σ : Sg) : Option ((Int32 × Int32) ⊕ Int32) :=
  (f_X9_allSteps σ).bind fun q3 =>
  if q3 < v4_23 then (
  some (.inr (v3_23)))
  else (
  f_X9_worn_38 v1 v2 v3_23 v4_23 0 0 σ)
def f_X9_worn_23 (v1 : Int32) (v2 : Int32) (v3_23 : Int32) (v4_23 : Int32) (σ : Sg) : Option Int32 :=
  itr 3000 (fun s => f_X9_worn_23s v1 v2 s.1 s.2 σ) (v3_23, v4_23)
def f_X9_worn (v1 : Int32) (v2 : Int32) (σ : Sg) : Option Int32 :=
  (f_X9_isStone v1 σ).bind fun q1 =>
  if q1 = 0 then (
  f_X9_worn_16 σ)
  else (
  (f_X9_isSet v2 σ).bind fun q2 =>
  if q2 = 0 then (
  f_X9_worn_16 σ)
  else (
  f_X9_worn_23 v1 v2 0 0 σ))
def f_X9_tell (v1 : Int32) (σ : Sg) : Option (Int32 × Sg) :=
  (f_X9_isStep v1 σ).bind fun q1 =>
  if q1 = 0 then (
  some (((-1), σ)))
  else (
  if (σ.1 0 6) = 12 then (
  some (((-3), σ)))
  else (
  (ast σ 3 12 (σ.1 0 6) v1).bind fun s2 =>
  (pfi s2 0 6 ((s2.1 0 6) + (1 : Int32))).bind fun s3 =>
  some (((s3.1 0 6), s3))))
def f_X9_noRow (σ : Sg) : Option (Int32 × Sg) :=
  nm ((σ.1 0 6)) fun x1 =>
  (pfi σ 0 6 0).bind fun s2 =>
  some ((x1, s2))
def f_X9_judge_9s (v1_9 : Int32) (v2_9 : Int32) (σ : Sg) : Option ((Int32 × Int32) ⊕ Int32) :=
  if (σ.1 0 6) ≤ v2_9 then (
  some (.inr ((-4))))
  else (
  (ald σ 3 12 v2_9).bind fun x2 =>
  (f_X9_mayFrom v1_9 x2 σ).bind fun q3 =>
  if q3 = 0 then (
  some (.inr (v2_9)))
  else (
  (ald σ 3 12 v2_9).bind fun x4 =>
  (ald σ 1 660 ((25 : Int32) + x4)).bind fun x5 =>
  nm ((v1_9 ||| ((1 : Int32) <<< (x5 &&& 31)))) fun x6 =>
  nm (v2_9 + 1) fun x7 =>
  some (.inl (x6, x7))))
def f_X9_judge_9 (v1_9 : Int32) (v2_9 : Int32) (σ : Sg) : Option Int32 :=
  itr 3000 (fun s => f_X9_judge_9s s.1 s.2 σ) (v1_9, v2_9)
def f_X9_judge (σ : Sg) : Option Int32 :=
  (ald σ 1 660 3).bind fun x1 =>
  f_X9_judge_9 x1 0 σ
def f_X9_year_34 (σ : Sg) : Option Int32 :=
  some ((-1))
def f_X9_year_142 (t0_142 : Int32) (σ : Sg) : Option Int32 :=
  some (t0_142)
def f_X9_year_125 (v1 : Int32) (v2 : Int32) (v3 : Int32) (v4_125 : Int32) (v5_125 : Int32) (v6_125 : Int32) (σ : Sg) : Option ((Int32 × Int32 × Int32) ⊕ Int32) :=
  nm (v6_125 + 1) fun x11 =>
  some (.inl (v4_125, v5_125, x11))
def f_X9_year_50s (v1 : Int32) (v2 : Int32) (v3 : Int32) (v4_50 : Int32) (v5_50 : Int32) (v6_50 : Int32) (σ : Sg) : Option ((Int32 × Int32 × Int32) ⊕ Int32) :=
  if v2 ≤ v6_50 then (
  if v3 = 0 then (
  (f_X9_year_142 v5_50 σ).map (fun z => .inr (z)))
  else (
  (f_X9_year_142 v4_50 σ).map (fun z => .inr (z))))
  else (
  nm (((((7919 : Int64) * ((v1 : Int32).toInt64)) + ((6151 : Int64) * ((v6_50 : Int32).toInt64))) + (1 : Int64))) fun x5 =>
  (lrm (x5 * x5) 65521).bind fun x6 =>
  (ald σ 1 660 4).bind fun x7 =>
  (lrm x6 ((x7 : Int32).toInt64)).bind fun x8 =>
  nm (((x8 : Int64).toInt32)) fun x9 =>
  (f_X9_mayFrom v4_50 x9 σ).bind fun q10 =>
  if q10 = 0 then (
  f_X9_year_125 v1 v2 v3 v4_50 v5_50 v6_50 σ)
  else (
  (ald σ 1 660 ((25 : Int32) + x9)).bind fun x12 =>
  nm ((v4_50 ||| ((1 : Int32) <<< (x12 &&& 31)))) fun x13 =>
  nm (v5_50 + 1) fun x14 =>
  f_X9_year_125 v1 v2 v3 x13 x14 v6_50 σ))
def f_X9_year_50 (v1 : Int32) (v2 : Int32) (v3 : Int32) (v4_50 : Int32) (v5_50 : Int32) (v6_50 : Int32) (σ : Sg) : Option Int32 :=
  itr 3000 (fun s => f_X9_year_50s v1 v2 v3 s.1 s.2.1 s.2.2 σ) (v4_50, v5_50, v6_50)
def f_X9_year (v1 : Int32) (v2 : Int32) (v3 : Int32) (σ : Sg) : Option Int32 :=
  (f_X9_in ((v1 : Int32).toInt64) 0 9999).bind fun q1 =>
  if q1 = 0 then (
  f_X9_year_34 σ)
  else (
  (f_X9_in ((v2 : Int32).toInt64) 1 99).bind fun q2 =>
  if q2 = 0 then (
  f_X9_year_34 σ)
  else (
  (f_X9_in ((v3 : Int32).toInt64) 0 1).bind fun q3 =>
  if q3 = 0 then (
  f_X9_year_34 σ)
  else (
  (ald σ 1 660 3).bind fun x4 =>
  f_X9_year_50 v1 v2 v3 x4 0 0 σ)))
def f_X9_keep (σ : Sg) : Option (Int32 × Sg) :=
  if (σ.1 0 1) = 2 then (
  some (((-3), σ)))
  else (
  (f_X9_copy 0 ((55 : Int32) + ((55 : Int32) * (σ.1 0 1))) σ).bind fun q1 =>
  (pfi q1 0 1 ((q1.1 0 1) + (1 : Int32))).bind fun s2 =>
  some (((s2.1 0 1), s2)))
def f_X9_back (σ : Sg) : Option (Int32 × Sg) :=
  if (σ.1 0 1) = 0 then (
  some (((-2), σ)))
  else (
  (pfi σ 0 1 ((σ.1 0 1) - (1 : Int32))).bind fun s1 =>
  (f_X9_copy ((55 : Int32) + ((55 : Int32) * (s1.1 0 1))) 0 s1).bind fun q2 =>
  (pfi q2 0 6 0).bind fun s3 =>
  (pfi s3 0 2 0).bind fun s4 =>
  some (((s4.1 0 1), s4)))
def f_X9_count (v1 : Int32) (σ : Sg) : Option Int32 :=
  if v1 = 0 then (
  (ald σ 1 660 0).bind fun x1 =>
  some (x1))
  else (
  if v1 = 1 then (
  (ald σ 1 660 4).bind fun x2 =>
  some (x2))
  else (
  if v1 = 2 then (
  (ald σ 1 660 2).bind fun x3 =>
  (f_X9_ones x3).bind fun q4 =>
  some (q4))
  else (
  if v1 = 3 then (
  (ald σ 1 660 3).bind fun x5 =>
  (f_X9_ones x5).bind fun q6 =>
  some (q6))
  else (
  if v1 = 4 then (
  some ((σ.1 0 6)))
  else (
  if v1 = 5 then (
  some ((σ.1 0 2)))
  else (
  if v1 = 6 then (
  some ((σ.1 0 1)))
  else (
  if v1 = 7 then (
  some ((σ.1 0 4)))
  else (
  some ((-1))))))))))

def sgL : List Int32 := [110, 52, 59, 97, 48, 59, 97, 49, 59, 116, 48, 44, 49, 44, 50, 59, 116, 50, 44, 50, 44, 51, 59]
def sgB (j : Nat) : Int32 := sgL.getD j 0
def f_X6_addSigns_2s (v2 : Int32) (s2 : Sg) : Option ((Int32 × Sg) ⊕ Sg) :=
  if nI 23 ≤ v2 then some (.inr s2) else
  (f_X6_addByte (sgB v2.toNatClampNeg) s2).bind fun q =>
  nm (v2 + 1) fun x => some (.inl (x, q))
def f_X6_addSigns (σ : Sg) : Option Sg := itr 3000 (fun s => f_X6_addSigns_2s s.1 s.2) (0, σ)
def σz : Sg := (fun _ _ => 0, fun _ _ => 0)
def f_X9_init0 (σ : Sg) : Option Sg :=
  (f_X9_makeAnew 0 σ).bind fun q1 =>
  (ast q1 1 660 0 4).bind fun s2 =>
  (ast s2 1 660 1 3).bind fun s3 =>
  (f_X9_layStep 0 0 1 2 s3).bind fun q4 =>
  (f_X9_layStep 0 2 2 3 q4).bind fun q5 =>
  (f_X9_settle 0 q5).bind fun q6 =>
  some (q6)
def f_X8_init0 (σ : Sg) : Option Sg :=
  (f_X6_addSigns σ).bind fun q1 =>
  (f_X4_readOnto 12 q1).bind fun q2 =>
  (f_X6_clear q2.2).bind fun q3 =>
  some q3
def simC0 (Sim : Sg → Sg → Prop) : Prop := ∀ σX σM : Sg, Sim σX σM → ∀ (v1 : Int32) (v2 : Int64), ∃ (r : Int32) (σX2 : Sg) (σM2 : Sg), f_X8_write v1 v2 σX = some (r, σX2) ∧ f_X9_write v1 v2 σM = some (r, σM2) ∧ Sim σX2 σM2
def simC1 (Sim : Sg → Sg → Prop) : Prop := ∀ σX σM : Sg, Sim σX σM → ∃ (r : Int32) (σX2 : Sg) (σM2 : Sg), f_X8_wipe σX = some (r, σX2) ∧ f_X9_wipe σM = some (r, σM2) ∧ Sim σX2 σM2
def simC2 (Sim : Sg → Sg → Prop) : Prop := ∀ σX σM : Sg, Sim σX σM → ∃ (r : Int32) (σX2 : Sg) (σM2 : Sg), f_X8_fault σX = some (r, σX2) ∧ f_X9_fault σM = some (r, σM2) ∧ Sim σX2 σM2
def simC3 (Sim : Sg → Sg → Prop) : Prop := ∀ σX σM : Sg, Sim σX σM → ∃ (r : Int32) (σX2 : Sg) (σM2 : Sg), f_X8_layFloor σX = some (r, σX2) ∧ f_X9_layFloor σM = some (r, σM2) ∧ Sim σX2 σM2
def simC4 (Sim : Sg → Sg → Prop) : Prop := ∀ σX σM : Sg, Sim σX σM → ∀ (v1 : Int32) (v2 : Int32), ∃ (r : Int32), f_X8_stone v1 v2 σX = some r ∧ f_X9_stone v1 v2 σM = some r ∧ Sim σX σM
def simC5 (Sim : Sg → Sg → Prop) : Prop := ∀ σX σM : Sg, Sim σX σM → ∀ (v1 : Int32) (v2 : Int32), ∃ (r : Int32), f_X8_step v1 v2 σX = some r ∧ f_X9_step v1 v2 σM = some r ∧ Sim σX σM
def simC6 (Sim : Sg → Sg → Prop) : Prop := ∀ σX σM : Sg, Sim σX σM → ∀ (v1 : Int32), ∃ (r : Int32) (σX2 : Sg) (σM2 : Sg), f_X8_go v1 σX = some (r, σX2) ∧ f_X9_go v1 σM = some (r, σM2) ∧ Sim σX2 σM2
def simC7 (Sim : Sg → Sg → Prop) : Prop := ∀ σX σM : Sg, Sim σX σM → ∀ (v1 : Int32), ∃ (r : Int32) (σX2 : Sg) (σM2 : Sg), f_X8_takeOut v1 σX = some (r, σX2) ∧ f_X9_takeOut v1 σM = some (r, σM2) ∧ Sim σX2 σM2
def simC8 (Sim : Sg → Sg → Prop) : Prop := ∀ σX σM : Sg, Sim σX σM → ∀ (v1 : Int32) (v2 : Int32) (v3 : Int32), ∃ (r : Int32) (σX2 : Sg) (σM2 : Sg), f_X8_lay v1 v2 v3 σX = some (r, σX2) ∧ f_X9_lay v1 v2 v3 σM = some (r, σM2) ∧ Sim σX2 σM2
def simC9 (Sim : Sg → Sg → Prop) : Prop := ∀ σX σM : Sg, Sim σX σM → ∃ (r : Int32) (σX2 : Sg) (σM2 : Sg), f_X8_undo σX = some (r, σX2) ∧ f_X9_undo σM = some (r, σM2) ∧ Sim σX2 σM2
def simC10 (Sim : Sg → Sg → Prop) : Prop := ∀ σX σM : Sg, Sim σX σM → ∀ (v1 : Int32), ∃ (r : Int32), f_X8_reach v1 σX = some r ∧ f_X9_reach v1 σM = some r ∧ Sim σX σM
def simC11 (Sim : Sg → Sg → Prop) : Prop := ∀ σX σM : Sg, Sim σX σM → ∀ (v1 : Int32) (v2 : Int32), ∃ (r : Int64) (σX2 : Sg) (σM2 : Sg), f_X8_walk v1 v2 σX = some (r, σX2) ∧ f_X9_walk v1 v2 σM = some (r, σM2) ∧ Sim σX2 σM2
def simC12 (Sim : Sg → Sg → Prop) : Prop := ∀ σX σM : Sg, Sim σX σM → ∀ (v1 : Int32), ∃ (r : Int32), f_X8_round v1 σX = some r ∧ f_X9_round v1 σM = some r ∧ Sim σX σM
def simC13 (Sim : Sg → Sg → Prop) : Prop := ∀ σX σM : Sg, Sim σX σM → ∀ (v1 : Int32) (v2 : Int32), ∃ (r : Int32), f_X8_needs v1 v2 σX = some r ∧ f_X9_needs v1 v2 σM = some r ∧ Sim σX σM
def simC14 (Sim : Sg → Sg → Prop) : Prop := ∀ σX σM : Sg, Sim σX σM → ∀ (v1 : Int32), ∃ (r : Int32), f_X8_lost v1 σX = some r ∧ f_X9_lost v1 σM = some r ∧ Sim σX σM
def simC15 (Sim : Sg → Sg → Prop) : Prop := ∀ σX σM : Sg, Sim σX σM → ∀ (v1 : Int32), ∃ (r : Int32), f_X8_begin v1 σX = some r ∧ f_X9_begin v1 σM = some r ∧ Sim σX σM
def simC16 (Sim : Sg → Sg → Prop) : Prop := ∀ σX σM : Sg, Sim σX σM → ∀ (v1 : Int32), ∃ (r : Int32), f_X8_hall v1 σX = some r ∧ f_X9_hall v1 σM = some r ∧ Sim σX σM
def simC17 (Sim : Sg → Sg → Prop) : Prop := ∀ σX σM : Sg, Sim σX σM → ∃ (r : Int32), f_X8_rope σX = some r ∧ f_X9_rope σM = some r ∧ Sim σX σM
def simC18 (Sim : Sg → Sg → Prop) : Prop := ∀ σX σM : Sg, Sim σX σM → ∃ (r : Int32), f_X8_idle σX = some r ∧ f_X9_idle σM = some r ∧ Sim σX σM
def simC19 (Sim : Sg → Sg → Prop) : Prop := ∀ σX σM : Sg, Sim σX σM → ∃ (r : Int32), f_X8_circle σX = some r ∧ f_X9_circle σM = some r ∧ Sim σX σM
def simC20 (Sim : Sg → Sg → Prop) : Prop := ∀ σX σM : Sg, Sim σX σM → ∃ (r : Int32) (σM2 : Sg), f_X8_deep σX = some r ∧ f_X9_deep σM = some (r, σM2) ∧ Sim σX σM2
def simC21 (Sim : Sg → Sg → Prop) : Prop := ∀ σX σM : Sg, Sim σX σM → ∀ (v1 : Int32) (v2 : Int32), ∃ (r : Int32) (σX2 : Sg), f_X8_proofs v1 v2 σX = some (r, σX2) ∧ f_X9_proofs v1 v2 σM = some r ∧ Sim σX2 σM
def simC22 (Sim : Sg → Sg → Prop) : Prop := ∀ σX σM : Sg, Sim σX σM → ∀ (v1 : Int32) (v2 : Int32), ∃ (r : Int32) (σX2 : Sg), f_X8_worn v1 v2 σX = some (r, σX2) ∧ f_X9_worn v1 v2 σM = some r ∧ Sim σX2 σM
def simC23 (Sim : Sg → Sg → Prop) : Prop := ∀ σX σM : Sg, Sim σX σM → ∀ (v1 : Int32), ∃ (r : Int32) (σX2 : Sg) (σM2 : Sg), f_X8_tell v1 σX = some (r, σX2) ∧ f_X9_tell v1 σM = some (r, σM2) ∧ Sim σX2 σM2
def simC24 (Sim : Sg → Sg → Prop) : Prop := ∀ σX σM : Sg, Sim σX σM → ∃ (r : Int32) (σX2 : Sg) (σM2 : Sg), f_X8_noRow σX = some (r, σX2) ∧ f_X9_noRow σM = some (r, σM2) ∧ Sim σX2 σM2
def simC25 (Sim : Sg → Sg → Prop) : Prop := ∀ σX σM : Sg, Sim σX σM → ∃ (r : Int32), f_X8_judge σX = some r ∧ f_X9_judge σM = some r ∧ Sim σX σM
def simC26 (Sim : Sg → Sg → Prop) : Prop := ∀ σX σM : Sg, Sim σX σM → ∀ (v1 : Int32) (v2 : Int32) (v3 : Int32), ∃ (r : Int32), f_X8_year v1 v2 v3 σX = some r ∧ f_X9_year v1 v2 v3 σM = some r ∧ Sim σX σM
def simC27 (Sim : Sg → Sg → Prop) : Prop := ∀ σX σM : Sg, Sim σX σM → ∃ (r : Int32) (σX2 : Sg) (σM2 : Sg), f_X8_keep σX = some (r, σX2) ∧ f_X9_keep σM = some (r, σM2) ∧ Sim σX2 σM2
def simC28 (Sim : Sg → Sg → Prop) : Prop := ∀ σX σM : Sg, Sim σX σM → ∃ (r : Int32) (σX2 : Sg) (σM2 : Sg), f_X8_back σX = some (r, σX2) ∧ f_X9_back σM = some (r, σM2) ∧ Sim σX2 σM2
def simC29 (Sim : Sg → Sg → Prop) : Prop := ∀ σX σM : Sg, Sim σX σM → ∀ (v1 : Int32), ∃ (r : Int32), f_X8_count v1 σX = some r ∧ f_X9_count v1 σM = some r ∧ Sim σX σM
abbrev simAll (Sim : Sg → Sg → Prop) : Prop := simC0 Sim ∧ simC1 Sim ∧ simC2 Sim ∧ simC3 Sim ∧ simC4 Sim ∧ simC5 Sim ∧ simC6 Sim ∧ simC7 Sim ∧ simC8 Sim ∧ simC9 Sim ∧ simC10 Sim ∧ simC11 Sim ∧ simC12 Sim ∧ simC13 Sim ∧ simC14 Sim ∧ simC15 Sim ∧ simC16 Sim ∧ simC17 Sim ∧ simC18 Sim ∧ simC19 Sim ∧ simC20 Sim ∧ simC21 Sim ∧ simC22 Sim ∧ simC23 Sim ∧ simC24 Sim ∧ simC25 Sim ∧ simC26 Sim ∧ simC27 Sim ∧ simC28 Sim ∧ simC29 Sim
end
section
-- numbers as Nat; the small methods; loops by their trajectories
theorem z_lit (n : Nat) : (OfNat.ofNat n : Int32) = nI n := rfl
theorem z_0 : (0 : Int32) = nI 0 := rfl
theorem z_1 : (1 : Int32) = nI 1 := rfl
theorem z_sl : ∀ n, n < 32 → ((nI n &&& 31).toBitVec.smod 32).toNat = n := by decide +kernel
theorem z_shl {a k : Nat} (hk : k < 32) (h : a * 2 ^ k < 2 ^ 32) : nI a <<< (nI k &&& 31) = nI (a * 2 ^ k) := pk_shlN _ k (z_sl k hk) h
theorem z_bit {k : Nat} (hk : k < 31) : (1 : Int32) <<< (nI k &&& 31) = nI (2 ^ k) := by
  have h : (1 : Nat) * 2 ^ k < 2 ^ 32 := by rw [Nat.one_mul]; exact Nat.pow_lt_pow_right (by decide) (by omega)
  have := z_shl (a := 1) (k := k) (by omega) h
  rw [Nat.one_mul] at this
  exact this
theorem z_shr {a k : Nat} (ha : a < 2 ^ 31) (hk : k < 32) : nI a >>> (nI k &&& 31) = nI (a / 2 ^ k) := pk_shrN ha _ k (z_sl k hk)
theorem z_and (a b : Nat) : nI a &&& nI b = nI (a &&& b) := by
  apply Int32.toBitVec_inj.1
  show BitVec.ofNat 32 a &&& BitVec.ofNat 32 b = BitVec.ofNat 32 (a &&& b)
  apply BitVec.eq_of_getLsbD_eq
  intro i hi
  simp [hi]
theorem z_or (a b : Nat) : nI a ||| nI b = nI (a ||| b) := by
  apply Int32.toBitVec_inj.1
  show BitVec.ofNat 32 a ||| BitVec.ofNat 32 b = BitVec.ofNat 32 (a ||| b)
  apply BitVec.eq_of_getLsbD_eq
  intro i hi
  simp [hi]
theorem z_xor (a b : Nat) : nI a ^^^ nI b = nI (a ^^^ b) := by
  apply Int32.toBitVec_inj.1
  show BitVec.ofNat 32 a ^^^ BitVec.ofNat 32 b = BitVec.ofNat 32 (a ^^^ b)
  apply BitVec.eq_of_getLsbD_eq
  intro i hi
  simp [hi]
theorem z_m1 : (-1 : Int32) = nI (2 ^ 32 - 1) := by decide +kernel
theorem z_bt (a k : Nat) : a / 2 ^ k % 2 = if a.testBit k then 1 else 0 := by
  rw [Nat.testBit_eq_decide_div_mod_eq]
  rcases Nat.mod_two_eq_zero_or_one (a / 2 ^ k) with h | h <;> simp [h]
/-- a set's bit -/
def zb (a k : Nat) : Int32 := if a.testBit k then 1 else 0
theorem zb_01 (a k : Nat) : zb a k = 0 ∨ zb a k = 1 := by unfold zb; split <;> simp
theorem zb_1 {a k : Nat} : zb a k = 1 ↔ a.testBit k = true := by unfold zb; split <;> simp_all
theorem zb_0 {a k : Nat} : zb a k = 0 ↔ a.testBit k = false := by unfold zb; split <;> simp_all
theorem z_has {a k : Nat} (ha : a < 2 ^ 31) (hk : k < 32) : (nI a >>> (nI k &&& 31)) &&& 1 = zb a k := by
  rw [z_shr ha hk, z_1, z_and]
  have : a / 2 ^ k &&& 1 = a / 2 ^ k % 2 := Nat.and_one_is_mod _
  rw [this, z_bt]
  unfold zb
  split <;> rfl
/-- a set without a bit -/
theorem z_andnot {a k : Nat} (ha : a < 2 ^ 31) (hk : k < 31) : nI a &&& (nI (2 ^ k) ^^^ (-1)) = nI (a &&& (2 ^ k ^^^ (2 ^ 32 - 1))) := by
  rw [z_m1, z_xor, z_and]
theorem zrt_01 {v : Int32} (h : v = 0 ∨ v = 1) : zrt v = some v := if_pos h
theorem zrt_0 : zrt 0 = some 0 := rfl
theorem zrt_1 : zrt 1 = some 1 := rfl
theorem bind_ok {α β : Type} {a : Option α} {x : α} {f : α → Option β} (h : a = some x) : a.bind f = f x := by rw [h]; rfl
theorem nm_eq {α β : Type} (a : α) (f : α → Option β) : nm a f = f a := rfl
theorem pfi_eq (σ : Sg) (k j : Nat) (v : Int32) : pfi σ k j v = some (up1 σ k j v) := rfl
theorem up1_eq (σ : Sg) (k i : Nat) (v : Int32) (a j : Nat) : (up1 σ k i v).1 a j = if a = k ∧ j = i then v else σ.1 a j := by
  unfold up1
  by_cases h : a = k
  · subst h
    by_cases h2 : j = i
    · subst h2; simp [upd]
    · simp [upd, h2]
  · simp [h]
theorem up1_2 (σ : Sg) (k i : Nat) (v : Int32) : (up1 σ k i v).2 = σ.2 := rfl
theorem upL_eq (σ : Sg) (k i : Nat) (v : Int64) (a j : Nat) : (upL σ k i v).2 a j = if a = k ∧ j = i then v else σ.2 a j := by
  unfold upL
  by_cases h : a = k
  · subst h
    by_cases h2 : j = i
    · subst h2; simp [vp_updL]
    · simp [vp_updL, h2]
  · simp [h]
theorem upL_1 (σ : Sg) (k i : Nat) (v : Int64) : (upL σ k i v).1 = σ.1 := rfl
theorem ald_ok {σ : Sg} {k n i : Nat} (h : i < n) (hn : n < 2 ^ 31) : ald σ k n (nI i) = some (σ.1 k i) := by
  unfold ald
  rw [if_neg, nI_clamp (by omega)]
  rintro (q | q)
  · exact nI_pos (by omega) q
  · rw [nI_clamp (by omega)] at q; omega
theorem ast_ok {σ : Sg} {k n i : Nat} {v : Int32} (h : i < n) (hn : n < 2 ^ 31) : ast σ k n (nI i) v = some (up1 σ k i v) := by
  unfold ast
  rw [if_neg, nI_clamp (by omega)]
  rintro (q | q)
  · exact nI_pos (by omega) q
  · rw [nI_clamp (by omega)] at q; omega
theorem aldL_ok {σ : Sg} {k n i : Nat} (h : i < n) (hn : n < 2 ^ 31) : aldL σ k n (nI i) = some (σ.2 k i) := by
  unfold aldL
  rw [if_neg, nI_clamp (by omega)]
  rintro (q | q)
  · exact nI_pos (by omega) q
  · rw [nI_clamp (by omega)] at q; omega
theorem astL_ok {σ : Sg} {k n i : Nat} {v : Int64} (h : i < n) (hn : n < 2 ^ 31) : astL σ k n (nI i) v = some (upL σ k i v) := by
  unfold astL
  rw [if_neg, nI_clamp (by omega)]
  rintro (q | q)
  · exact nI_pos (by omega) q
  · rw [nI_clamp (by omega)] at q; omega
-- loops
theorem itr_in {S X : Type} {F : S → Option (S ⊕ X)} {n : Nat} {s s' : S} (h : F s = some (.inl s')) : itr (n + 1) F s = itr n F s' := by
  show ((F s).bind _) = _
  rw [h]
  rfl
theorem itr_out {S X : Type} {F : S → Option (S ⊕ X)} {n : Nat} {s : S} {x : X} (h : F s = some (.inr x)) : itr (n + 1) F s = some x := by
  show ((F s).bind _) = _
  rw [h]
  rfl
theorem itr_tr {S X : Type} {F : S → Option (S ⊕ X)} (g : Nat → S) (x : X) : ∀ (k i N : Nat), k < N → (∀ j, i ≤ j → j < i + k → F (g j) = some (.inl (g (j + 1)))) → F (g (i + k)) = some (.inr x) → itr N F (g i) = some x := by
  intro k
  induction k with
  | zero =>
    intro i N hN _ hx
    obtain ⟨N, rfl⟩ : ∃ M, N = M + 1 := ⟨N - 1, by omega⟩
    exact itr_out hx
  | succ k ih =>
    intro i N hN h hx
    obtain ⟨N, rfl⟩ : ∃ M, N = M + 1 := ⟨N - 1, by omega⟩
    rw [itr_in (h i (by omega) (by omega))]
    exact ih (i + 1) N (by omega) (fun j h1 h2 => h j (by omega) (by omega)) (by rw [show i + 1 + k = i + (k + 1) by omega]; exact hx)
/-- a loop that goes k times on and then out -/
theorem itr_run {S X : Type} {F : S → Option (S ⊕ X)} (g : Nat → S) (k : Nat) {N : Nat} {x : X} {s : S} (hs : s = g 0) (hN : k < N) (h : ∀ j, j < k → F (g j) = some (.inl (g (j + 1)))) (hx : F (g k) = some (.inr x)) : itr N F s = some x := by
  rw [hs]
  exact itr_tr g x k 0 N hN (fun j _ h2 => h j (by omega)) (by rw [Nat.zero_add]; exact hx)
/-- k steps of a fold over 0, 1, .. -/
def fo {α : Type} (f : Nat → α → α) (a : α) : Nat → α
  | 0 => a
  | k + 1 => f k (fo f a k)
theorem fo_s {α : Type} (f : Nat → α → α) (a : α) (k : Nat) : fo f a (k + 1) = f k (fo f a k) := rfl
-- the class's small methods
theorem x_bitOf {a k : Nat} (ha : a < 2 ^ 31) (hk : k < 32) : f_X8_bitOf (nI a) (nI k) = some (zb a k) := by
  unfold f_X8_bitOf
  rw [z_has ha hk]
theorem x_has {a k : Nat} (ha : a < 2 ^ 31) (hk : k < 32) : f_X8_has (nI a) (nI k) = some (zb a k) := by
  unfold f_X8_has
  rw [bind_ok (x_bitOf ha hk)]
  rcases zb_01 a k with h | h
  · rw [h]; rfl
  · rw [h]; rfl
theorem x_holds (a b : Nat) (ha : a < 2 ^ 31) (hb : b < 2 ^ 31) : f_X8_holdsAll (nI a) (nI b) = some (if a &&& b = b then 1 else 0) := by
  unfold f_X8_holdsAll
  rw [z_and]
  have hab : a &&& b < 2 ^ 31 := Nat.and_lt_two_pow _ hb
  by_cases h : a &&& b = b
  · rw [h, if_pos rfl, if_pos rfl]; rfl
  · rw [if_neg (fun q => h ((nI_eq hab hb).mp q)), if_neg h]; rfl
theorem x_at {k n i : Nat} {σ : Sg} (h : i < n) (hn : n < 2 ^ 31) : f_X8_at k n (nI i) σ = some (σ.1 k i) := by
  unfold f_X8_at
  rw [if_neg (nI_pos (by omega)), if_neg (nI_ge h hn), bind_ok (ald_ok h hn)]
  rfl
theorem x_put {k n i : Nat} {v : Int32} {σ : Sg} (h : i < n) (hn : n < 2 ^ 31) : f_X8_put k n (nI i) v σ = some (up1 σ k i v) := by
  unfold f_X8_put
  rw [if_neg (nI_pos (by omega)), if_neg (nI_ge h hn), bind_ok (ast_ok h hn)]
  rfl
end
section
-- a floor: ((stones, steps, begins, there, stood), A, B, C, gainsay, wear)
abbrev Fl : Type := (Nat × Nat × Nat × Nat × Nat) × (Nat → Nat) × (Nat → Nat) × (Nat → Nat) × (Nat → Nat) × (Nat → Int32)
def fN (F : Fl) : Nat := F.1.1
def fM (F : Fl) : Nat := F.1.2.1
def fBg (F : Fl) : Nat := F.1.2.2.1
def fTh (F : Fl) : Nat := F.1.2.2.2.1
def fSt (F : Fl) : Nat := F.1.2.2.2.2
def fA (F : Fl) : Nat → Nat := F.2.1
def fB (F : Fl) : Nat → Nat := F.2.2.1
def fC (F : Fl) : Nat → Nat := F.2.2.2.1
def fG (F : Fl) : Nat → Nat := F.2.2.2.2.1
def fW (F : Fl) : Nat → Int32 := F.2.2.2.2.2
/-- what is laid is so -/
def OKL (F : Fl) : Prop := (1 ≤ fN F ∧ fN F ≤ 10) ∧ fM F ≤ 10 ∧ (∀ t, t < fM F → fA F t < fN F ∧ fB F t < fN F ∧ fC F t < fN F ∧ fC F t ≠ fA F t ∧ fC F t ≠ fB F t) ∧ fBg F < 2 ^ fN F ∧ ∀ s, s < 10 → fG F s < 2 ^ 10
def OKF (F : Fl) : Prop := OKL F ∧ 1 ≤ fM F ∧ fTh F < 2 ^ fN F ∧ fSt F &&& fTh F = fSt F
/-- the class's floor at cell b, without what is there and stood on -/
def FXl (b : Nat) (F : Fl) (σ : Sg) : Prop := σ.1 b 6 = nI (fN F) ∧ σ.1 b 7 = nI (fM F) ∧ σ.1 b 8 = nI (fBg F) ∧ (∀ t, t < fM F → σ.1 (b + 1) t = nI (fA F t) ∧ σ.1 (b + 2) t = nI (fB F t) ∧ σ.1 (b + 3) t = nI (fC F t) ∧ σ.1 (b + 4) t = nI (2 ^ fA F t ||| 2 ^ fB F t)) ∧ ∀ s, s < 10 → σ.1 (b + 5) s = nI (fG F s) ∧ σ.1 (b + 6) s = fW F s
def FX (b : Nat) (F : Fl) (σ : Sg) : Prop := FXl b F σ ∧ σ.1 b 9 = nI (fTh F) ∧ σ.1 b 10 = nI (fSt F)
/-- the reference's floor at place r of w -/
def FMl (r : Nat) (F : Fl) (σ : Sg) : Prop := σ.1 1 r = nI (fN F) ∧ σ.1 1 (r + 4) = nI (fM F) ∧ σ.1 1 (r + 1) = nI (fBg F) ∧ (∀ t, t < fM F → σ.1 1 (r + 5 + t) = nI (fA F t) ∧ σ.1 1 (r + 15 + t) = nI (fB F t) ∧ σ.1 1 (r + 25 + t) = nI (fC F t)) ∧ ∀ s, s < 10 → σ.1 1 (r + 45 + s) = nI (fG F s) ∧ σ.1 1 (r + 35 + s) = fW F s
def FM (r : Nat) (F : Fl) (σ : Sg) : Prop := FMl r F σ ∧ σ.1 1 (r + 2) = nI (fTh F) ∧ σ.1 1 (r + 3) = nI (fSt F)
theorem fa_lt (a b : Int32) : a < b ↔ a.toInt < b.toInt := Int32.lt_iff_toInt_lt
theorem fa_wide_lt (a b : Int32) : a.toInt64 < b.toInt64 ↔ a < b := by
  rw [Int64.lt_iff_toInt_lt, Int32.toInt_toInt64, Int32.toInt_toInt64, ← Int32.lt_iff_toInt_lt]
-- the reference's small methods
theorem lgc_lt (x y : Int64) : lg_cmp x y < 0 ↔ x < y := by
  unfold lg_cmp
  by_cases h : x > y
  · rw [if_pos h]
    have : ¬ x < y := fun q => by
      rw [Int64.lt_iff_toInt_lt] at q
      have h2 : y < x := h
      rw [Int64.lt_iff_toInt_lt] at h2
      omega
    simp only [this, iff_false]
    decide
  · rw [if_neg h]
    by_cases h2 : x = y
    · subst h2
      rw [if_pos rfl]
      simp only [iff_false, show ¬ ((0 : Int32) < 0) by decide, false_iff]
      exact h
    · rw [if_neg h2]
      have : x < y := by
        rw [Int64.lt_iff_toInt_lt]
        have h3 : ¬ y.toInt < x.toInt := fun q => h (Int64.lt_iff_toInt_lt.mpr q)
        have h4 : x.toInt ≠ y.toInt := fun q => h2 (Int64.toInt_inj.mp q)
        omega
      simp only [this, iff_true]
      decide
theorem lgc_gt (x y : Int64) : 0 < lg_cmp x y ↔ y < x := by
  unfold lg_cmp
  by_cases h : x > y
  · rw [if_pos h]
    exact ⟨fun _ => h, fun _ => by decide⟩
  · rw [if_neg h]
    by_cases h2 : x = y
    · rw [if_pos h2]
      exact ⟨fun q => absurd q (by decide), fun q => absurd q h⟩
    · rw [if_neg h2]
      exact ⟨fun q => absurd q (by decide), fun q => absurd q h⟩
/-- in 0 .. n-1: 1, else 0 -/
def inn (v : Int32) (n : Nat) : Int32 := if v < 0 ∨ nI n ≤ v then 0 else 1
theorem inn_nI {j n : Nat} (h : j < n) (hn : n < 2 ^ 31) : inn (nI j) n = 1 := by
  unfold inn
  rw [if_neg]
  rintro (q | q)
  · exact nI_pos (by omega) q
  · exact nI_ge h hn q
theorem inn_cases (v : Int32) {n : Nat} (hn : n < 2 ^ 31) : inn v n = 0 ∨ ∃ j, j < n ∧ v = nI j ∧ inn v n = 1 := by
  rcases pk_ix v hn with h | h | ⟨j, h1, h2⟩
  · exact Or.inl (if_pos (Or.inl h))
  · exact Or.inl (if_pos (Or.inr h))
  · exact Or.inr ⟨j, h1, h2, by rw [h2]; exact inn_nI h1 hn⟩
theorem m_in (v : Int32) {n : Nat} (h1 : 1 ≤ n) (hn : n < 2 ^ 31) : f_X9_in v.toInt64 0 ((nI n - 1).toInt64) = some (inn v n) := by
  have e : nI n - 1 = nI (n - 1) := pk_sub (a := n) (b := 1) h1
  have z : (0 : Int64) = (0 : Int32).toInt64 := by decide +kernel
  unfold f_X9_in
  rw [e]
  by_cases c1 : v < 0
  · rw [if_pos ((lgc_lt _ _).mpr (by rw [z]; exact (fa_wide_lt _ _).mpr c1))]
    unfold inn
    rw [if_pos (Or.inl c1)]
    rfl
  · rw [if_neg (fun q => c1 (by rw [lgc_lt, z] at q; exact (fa_wide_lt _ _).mp q))]
    by_cases c2 : nI (n - 1) < v
    · rw [if_pos ((lgc_gt _ _).mpr ((fa_wide_lt _ _).mpr c2))]
      unfold inn
      rw [if_pos]
      · rfl
      · refine Or.inr ?_
        rw [Int32.le_iff_toInt_le, nI_toInt hn]
        rw [fa_lt, nI_toInt (by omega)] at c2
        omega
    · rw [if_neg (fun q => c2 ((fa_wide_lt _ _).mp ((lgc_gt _ _).mp q)))]
      unfold inn
      rw [if_neg]
      · rfl
      · rintro (q | q)
        · exact c1 q
        · rw [Int32.le_iff_toInt_le, nI_toInt hn] at q
          rw [fa_lt, nI_toInt (by omega)] at c2
          omega
theorem inn_01 (v : Int32) (n : Nat) : inn v n = 0 ∨ inn v n = 1 := by unfold inn; split <;> simp
theorem m_has {a k : Nat} (ha : a < 2 ^ 31) (hk : k < 32) : f_X9_has (nI a) (nI k) = some (zb a k) := by
  unfold f_X9_has
  rw [z_has ha hk]
  rcases zb_01 a k with h | h <;> rw [h] <;> rfl
theorem m_w {σ : Sg} {j : Nat} (h : j < 660) : ald σ 1 660 (nI j) = some (σ.1 1 j) := ald_ok h (by decide)
theorem m_wk {σ : Sg} (k : Nat) {j : Nat} (h : k + j < 660) : ald σ 1 660 (nI k + nI j) = some (σ.1 1 (k + j)) := by
  rw [nI_add]
  exact ald_ok h (by decide)
theorem p10 {n : Nat} (h : n ≤ 10) : 2 ^ n ≤ 1024 := Nat.pow_le_pow_right (by decide) h
theorem x_hasStone {b : Nat} {F : Fl} {σ : Sg} (h : FXl b F σ) (v : Int32) : f_X1_hasStone b v σ = some (inn v (fN F)) := by
  unfold f_X1_hasStone inn
  rw [h.1]
  by_cases c1 : v < 0
  · rw [if_pos c1, if_pos (Or.inl c1)]; rfl
  · rw [if_neg c1]
    by_cases c2 : nI (fN F) ≤ v
    · rw [if_pos c2, if_pos (Or.inr c2)]; rfl
    · rw [if_neg c2, if_neg (by rintro (q | q) <;> contradiction)]; rfl
theorem m_isStone {F : Fl} {σ : Sg} (hF : OKL F) (h : FMl 0 F σ) (v : Int32) : f_X9_isStone v σ = some (inn v (fN F)) := by
  unfold f_X9_isStone
  rw [z_0, bind_ok (m_w (by decide)), h.1, bind_ok (m_in v hF.1.1 (by have := hF.1.2; omega)), bind_ok (zrt_01 (inn_01 _ _))]
theorem m_isStep {F : Fl} {σ : Sg} (hF : OKF F) (h : FMl 0 F σ) (v : Int32) : f_X9_isStep v σ = some (inn v (fM F)) := by
  unfold f_X9_isStep
  rw [z_lit 4, bind_ok (m_w (by decide)), show σ.1 1 4 = nI (fM F) from h.2.1, bind_ok (m_in v hF.2.1 (by have := hF.1.2.1; omega)), bind_ok (zrt_01 (inn_01 _ _))]
theorem m_isSet {F : Fl} {σ : Sg} (hF : OKL F) (h : FMl 0 F σ) (v : Int32) : f_X9_isSet v σ = some (inn v (2 ^ fN F)) := by
  have h10 := p10 hF.1.2
  unfold f_X9_isSet
  rw [z_0, bind_ok (m_w (by decide)), h.1, z_bit (by have := hF.1.2; omega), bind_ok (m_in v Nat.one_le_two_pow (by omega)), bind_ok (zrt_01 (inn_01 _ _))]
end
section
-- sets of bits
def sub (x y : Nat) : Prop := ∀ k, x.testBit k = true → y.testBit k = true
theorem sub_rfl (x : Nat) : sub x x := fun _ h => h
theorem sub_tr {x y z : Nat} (h : sub x y) (g : sub y z) : sub x z := fun k q => g k (h k q)
theorem sub_as {x y : Nat} (h : sub x y) (g : sub y x) : x = y := by
  apply Nat.eq_of_testBit_eq
  intro i
  have h1 := h i
  have h2 := g i
  cases hx : x.testBit i <;> cases hy : y.testBit i <;> simp_all
theorem sub_or {x y : Nat} : sub x (x ||| y) := fun k h => by rw [Nat.testBit_or, h]; rfl
theorem tb_or2 {x c k : Nat} : (x ||| 2 ^ c).testBit k = (x.testBit k || decide (c = k)) := by rw [Nat.testBit_or, Nat.testBit_two_pow]
theorem or_in {x c : Nat} (h : x.testBit c = true) : x ||| 2 ^ c = x := by
  apply Nat.eq_of_testBit_eq
  intro i
  rw [tb_or2]
  by_cases e : c = i
  · subst e; simp [h]
  · simp [e]
theorem or_ne {x y c : Nat} (hs : sub y x) (h : x.testBit c = false) : x ||| 2 ^ c ≠ y := by
  intro e
  have h1 : (x ||| 2 ^ c).testBit c = true := by rw [tb_or2]; simp
  rw [e] at h1
  have := hs c h1
  rw [h] at this
  cases this
theorem pow10 {c : Nat} (h : c < 10) : 2 ^ c < 1024 := Nat.pow_lt_pow_right (a := 2) (n := 10) (by decide) h
theorem or10 {x y : Nat} (h : x < 1024) (g : y < 1024) : x ||| y < 1024 := Nat.or_lt_two_pow (n := 10) h g
theorem and10 (x : Nat) {y : Nat} (g : y < 1024) : x &&& y < 1024 := Nat.and_lt_two_pow (n := 10) x g
theorem tb10 {x k : Nat} (h : x < 1024) (hk : x.testBit k = true) : k < 10 := by
  rcases Nat.lt_or_ge k 10 with q | q
  · exact q
  · have := Nat.testBit_lt_two_pow (x := x) (i := k) (Nat.lt_of_lt_of_le h (Nat.pow_le_pow_right (show 0 < 2 by decide) q))
    rw [this] at hk
    cases hk
theorem tbn {x k n : Nat} (h : x < 2 ^ n) (hk : x.testBit k = true) : k < n := by
  rcases Nat.lt_or_ge k n with q | q
  · exact q
  · have := Nat.testBit_lt_two_pow (x := x) (i := k) (Nat.lt_of_lt_of_le h (Nat.pow_le_pow_right (by decide) q))
    rw [this] at hk
    cases hk
theorem and_sub {x p : Nat} : x &&& p = p ↔ sub p x := by
  constructor
  · intro h k hk
    rw [← h, Nat.testBit_and] at hk
    simp only [Bool.and_eq_true] at hk
    exact hk.1
  · intro h
    apply Nat.eq_of_testBit_eq
    intro i
    rw [Nat.testBit_and]
    cases hp : p.testBit i
    · simp
    · rw [h i hp]; rfl
theorem sub_p1 {x c : Nat} : sub (2 ^ c) x ↔ x.testBit c = true := by
  constructor
  · intro h
    exact h c Nat.testBit_two_pow_self
  · intro h k hk
    rw [Nat.testBit_two_pow] at hk
    have := of_decide_eq_true hk
    subst this
    exact h
theorem sub_p2 {x a b : Nat} : sub (2 ^ a ||| 2 ^ b) x ↔ x.testBit a = true ∧ x.testBit b = true := by
  constructor
  · intro h
    exact ⟨h a (by rw [Nat.testBit_or, Nat.testBit_two_pow_self]; rfl), h b (by rw [Nat.testBit_or, Nat.testBit_two_pow_self, Bool.or_true])⟩
  · rintro ⟨h1, h2⟩ k hk
    rw [tb_or2, Nat.testBit_two_pow] at hk
    simp only [Bool.or_eq_true, decide_eq_true_eq] at hk
    rcases hk with rfl | rfl <;> assumption
-- how many
def pcn (x : Nat) : Nat → Nat
  | 0 => 0
  | k + 1 => pcn x k + (if x.testBit k then 1 else 0)
def pc (x : Nat) : Nat := pcn x 10
theorem pcn_le (x : Nat) : ∀ k, pcn x k ≤ k := by
  intro k
  induction k with
  | zero => exact Nat.le_refl 0
  | succ k ih => unfold pcn; split <;> omega
theorem ite_mono {p q : Bool} (h : p = true → q = true) : (if p = true then 1 else 0 : Nat) ≤ (if q = true then 1 else 0) := by cases p <;> cases q <;> simp_all
theorem pcn_mono {x y : Nat} : ∀ k, (∀ i, i < k → x.testBit i = true → y.testBit i = true) → pcn x k ≤ pcn y k ∧ ((∃ i, i < k ∧ x.testBit i = false ∧ y.testBit i = true) → pcn x k < pcn y k) := by
  intro k
  induction k with
  | zero => intro _; exact ⟨Nat.le_refl _, fun ⟨i, h, _⟩ => absurd h (by omega)⟩
  | succ k ih =>
    intro h
    obtain ⟨h1, h2⟩ := ih (fun i hi => h i (by omega))
    have hk := h k (by omega)
    have hm := ite_mono hk
    unfold pcn
    refine ⟨by omega, ?_⟩
    · rintro ⟨i, hi, g1, g2⟩
      by_cases e : i = k
      · subst e
        rw [g1, g2]
        simp only [if_true, Bool.false_eq_true, if_false]
        omega
      · have := h2 ⟨i, by omega, g1, g2⟩
        omega
theorem pc_le (x : Nat) : pc x ≤ 10 := pcn_le x 10
theorem pc_mono {x y : Nat} (h : sub x y) : pc x ≤ pc y := (pcn_mono 10 (fun i _ => h i)).1
theorem pc_lt {x y : Nat} (hy : y < 1024) (h : sub x y) (hne : x ≠ y) : pc x < pc y := by
  refine (pcn_mono 10 (fun i _ => h i)).2 ?_
  refine Classical.byContradiction (fun hc => hne (sub_as h (fun k hk => ?_)))
  cases hx : x.testBit k
  · exact absurd ⟨k, tb10 hy hk, hx, hk⟩ hc
  · rfl
-- a step from a set; all steps once; again and again
def aft (F : Fl) (sl t on : Nat) : Nat := if on.testBit (fA F t) = true ∧ on.testBit (fB F t) = true ∧ sl.testBit (fC F t) = true then on ||| 2 ^ fC F t else on
def ps1 (F : Fl) (steps sl : Nat) (t on : Nat) : Nat := if steps.testBit t = true then aft F sl t on else on
def ps (F : Fl) (steps sl on : Nat) : Nat := fo (ps1 F steps sl) on (fM F)
def pit (F : Fl) (steps sl x : Nat) : Nat → Nat
  | 0 => x
  | i + 1 => ps F steps sl (pit F steps sl x i)
def clo (F : Fl) (steps sl set : Nat) : Nat := pit F steps sl (set &&& sl) 10
theorem aft_sub (F : Fl) (sl t on : Nat) : sub on (aft F sl t on) := by unfold aft; split; exact sub_or; exact sub_rfl _
theorem ps1_sub (F : Fl) (steps sl t on : Nat) : sub on (ps1 F steps sl t on) := by unfold ps1; split; exact aft_sub _ _ _ _; exact sub_rfl _
theorem fo_sub (F : Fl) (steps sl on : Nat) : ∀ k, sub on (fo (ps1 F steps sl) on k) := by
  intro k
  induction k with
  | zero => exact sub_rfl _
  | succ k ih => exact sub_tr ih (ps1_sub _ _ _ _ _)
theorem fo_up (F : Fl) (steps sl on : Nat) : ∀ j k, k ≤ j → sub (fo (ps1 F steps sl) on k) (fo (ps1 F steps sl) on j) := by
  intro j
  induction j with
  | zero => intro k hk; rw [Nat.le_zero.mp hk]; exact sub_rfl _
  | succ j ih =>
    intro k hk
    rcases Nat.lt_or_ge k (j + 1) with q | q
    · exact sub_tr (ih k (by omega)) (ps1_sub _ _ _ _ _)
    · rw [show k = j + 1 by omega]; exact sub_rfl _
theorem aft_lt {F : Fl} (hF : OKL F) {sl t on : Nat} (ht : t < fM F) (h : on < 1024) : aft F sl t on < 1024 := by
  unfold aft
  split
  · exact or10 h (pow10 (by have := (hF.2.2.1 t ht).2.2.1; have := hF.1.2; omega))
  · exact h
theorem ps1_lt {F : Fl} (hF : OKL F) {steps sl t on : Nat} (ht : t < fM F) (h : on < 1024) : ps1 F steps sl t on < 1024 := by
  unfold ps1
  split
  · exact aft_lt hF ht h
  · exact h
theorem fo_lt {F : Fl} (hF : OKL F) {steps sl on : Nat} (h : on < 1024) : ∀ k, k ≤ fM F → fo (ps1 F steps sl) on k < 1024 := by
  intro k
  induction k with
  | zero => intro _; exact h
  | succ k ih => intro hk; exact ps1_lt hF (by omega) (ih (by omega))
theorem ps_lt {F : Fl} (hF : OKL F) {steps sl on : Nat} (h : on < 1024) : ps F steps sl on < 1024 := fo_lt hF h _ (Nat.le_refl _)
theorem pit_lt {F : Fl} (hF : OKL F) {steps sl x : Nat} (h : x < 1024) : ∀ i, pit F steps sl x i < 1024 := by
  intro i
  induction i with
  | zero => exact h
  | succ i ih => exact ps_lt hF ih
theorem ps_sub (F : Fl) (steps sl on : Nat) : sub on (ps F steps sl on) := fo_sub F steps sl on _
theorem pit_st {F : Fl} {steps sl x i : Nat} (h : pit F steps sl x (i + 1) = pit F steps sl x i) : ∀ j, pit F steps sl x (i + j) = pit F steps sl x i := by
  intro j
  induction j with
  | zero => rfl
  | succ j ih =>
    show ps F steps sl (pit F steps sl x (i + j)) = _
    rw [ih]
    exact h
theorem pit_fx {F : Fl} (hF : OKL F) {steps sl x : Nat} (h : x < 1024) : ∃ i, i ≤ 10 ∧ pit F steps sl x (i + 1) = pit F steps sl x i := by
  refine Classical.byContradiction (fun hc => ?_)
  have key : ∀ i, i ≤ 11 → i ≤ pc (pit F steps sl x i) := by
    intro i
    induction i with
    | zero => intro _; exact Nat.zero_le _
    | succ i ih =>
      intro hi
      have h1 := ih (by omega)
      have h2 := pc_lt (pit_lt hF h (i + 1)) (ps_sub F steps sl (pit F steps sl x i)) (fun q => hc ⟨i, by omega, q.symm⟩)
      have h3 : pc (pit F steps sl x i) < pc (pit F steps sl x (i + 1)) := h2
      omega
  have := key 11 (by omega)
  have := pc_le (pit F steps sl x 11)
  omega
theorem clo_fx {F : Fl} (hF : OKL F) {steps sl set : Nat} (hs : sl < 1024) : ps F steps sl (clo F steps sl set) = clo F steps sl set := by
  obtain ⟨i, h1, h2⟩ := pit_fx hF (steps := steps) (sl := sl) (x := set &&& sl) (and10 _ hs)
  have h3 := pit_st h2 (10 - i)
  have h4 := pit_st h2 (11 - i)
  rw [show i + (10 - i) = 10 by omega] at h3
  rw [show i + (11 - i) = 11 by omega] at h4
  show pit F steps sl (set &&& sl) 11 = pit F steps sl (set &&& sl) 10
  rw [h3, h4]
theorem clo_lt {F : Fl} (hF : OKL F) {steps sl set : Nat} (hs : sl < 1024) : clo F steps sl set < 1024 := pit_lt hF (and10 _ hs) 10
-- the least set that is closed
def cld (F : Fl) (steps sl y : Nat) : Prop := ∀ t, t < fM F → steps.testBit t = true → y.testBit (fA F t) = true → y.testBit (fB F t) = true → sl.testBit (fC F t) = true → y.testBit (fC F t) = true
theorem ps_min {F : Fl} {steps sl x y : Nat} (h : sub x y) (hc : cld F steps sl y) : sub (ps F steps sl x) y := by
  have key : ∀ k, k ≤ fM F → sub (fo (ps1 F steps sl) x k) y := by
    intro k
    induction k with
    | zero => intro _; exact h
    | succ k ih =>
      intro hk
      have h1 := ih (by omega)
      rw [fo_s]
      unfold ps1
      split
      · rename_i hst
        unfold aft
        split
        · rename_i hq
          intro i hi
          rw [tb_or2] at hi
          simp only [Bool.or_eq_true, decide_eq_true_eq] at hi
          rcases hi with hi | rfl
          · exact h1 i hi
          · exact hc k (by omega) hst (h1 _ hq.1) (h1 _ hq.2.1) hq.2.2
        · exact h1
      · exact h1
  exact key _ (Nat.le_refl _)
theorem pit_min {F : Fl} {steps sl x y : Nat} (h : sub x y) (hc : cld F steps sl y) : ∀ i, sub (pit F steps sl x i) y := by
  intro i
  induction i with
  | zero => exact h
  | succ i ih => exact ps_min ih hc
theorem pit_ext (F : Fl) (steps sl x : Nat) : ∀ i, sub x (pit F steps sl x i) := by
  intro i
  induction i with
  | zero => exact sub_rfl _
  | succ i ih => exact sub_tr ih (ps_sub _ _ _ _)
theorem fx_cld {F : Fl} {steps sl y : Nat} (h : ps F steps sl y = y) : cld F steps sl y := by
  intro t ht h1 h2 h3 h4
  have e1 : fo (ps1 F steps sl) y t = y := sub_as (by have := fo_up F steps sl y (fM F) t (by omega); rw [show fo (ps1 F steps sl) y (fM F) = y from h] at this; exact this) (fo_sub _ _ _ _ _)
  have e2 : sub (fo (ps1 F steps sl) y (t + 1)) y := by have := fo_up F steps sl y (fM F) (t + 1) (by omega); rw [show fo (ps1 F steps sl) y (fM F) = y from h] at this; exact this
  rw [fo_s, e1] at e2
  unfold ps1 at e2
  rw [if_pos h1] at e2
  unfold aft at e2
  rw [if_pos ⟨h2, h3, h4⟩] at e2
  exact e2 _ (by rw [tb_or2]; simp)
theorem clo_ext (F : Fl) (steps sl set : Nat) : sub (set &&& sl) (clo F steps sl set) := pit_ext F steps sl _ 10
theorem clo_cld {F : Fl} (hF : OKL F) {steps sl set : Nat} (hs : sl < 1024) : cld F steps sl (clo F steps sl set) := fx_cld (clo_fx hF hs)
theorem clo_min {F : Fl} {steps sl set y : Nat} (h : sub (set &&& sl) y) (hc : cld F steps sl y) : sub (clo F steps sl set) y := pit_min h hc 10
theorem cld_sl (F : Fl) (steps sl : Nat) : cld F steps sl sl := fun _ _ _ _ _ h => h
theorem and_r (x y : Nat) : sub (x &&& y) y := fun k h => by rw [Nat.testBit_and] at h; simp only [Bool.and_eq_true] at h; exact h.2
theorem and_l (x y : Nat) : sub (x &&& y) x := fun k h => by rw [Nat.testBit_and] at h; simp only [Bool.and_eq_true] at h; exact h.1
theorem clo_sl (F : Fl) (steps sl set : Nat) : sub (clo F steps sl set) sl := clo_min (and_r _ _) (cld_sl _ _ _)
theorem and_mono {x y z : Nat} (h : sub x y) : sub (x &&& z) (y &&& z) := fun k q => by
  rw [Nat.testBit_and] at q ⊢
  simp only [Bool.and_eq_true] at q ⊢
  exact ⟨h k q.1, q.2⟩
theorem clo_mono {F : Fl} (hF : OKL F) {steps sl x y : Nat} (hs : sl < 1024) (h : sub x y) : sub (clo F steps sl x) (clo F steps sl y) :=
  clo_min (sub_tr (and_mono h) (clo_ext _ _ _ _)) (clo_cld hF hs)
end
section
-- the class's and the reference's reach are clo
theorem lt31 {x : Nat} (h : x < 1024) : x < 2 ^ 31 := by omega
theorem OKL.c10 {F : Fl} (hF : OKL F) {t : Nat} (ht : t < fM F) : fA F t < 10 ∧ fB F t < 10 ∧ fC F t < 10 := by
  have h := hF.2.2.1 t ht
  have h2 := hF.1.2
  omega
theorem x_aftA {b : Nat} {F : Fl} {σ : Sg} (hF : OKL F) (h : FXl b F σ) {t on sl : Nat} (ht : t < fM F) (ho : on < 1024) (hs : sl < 1024) : f_X1_afterAmong b (nI t) (nI on) (nI sl) σ = some (nI (aft F sl t on)) := by
  have hm := hF.2.1
  obtain ⟨ca, cb, cc⟩ := hF.c10 ht
  have hq := h.2.2.2.1 t ht
  unfold f_X1_afterAmong
  rw [bind_ok (x_at (by omega) (by decide)), hq.2.2.1, nm_eq, bind_ok (x_at (by omega) (by decide)), hq.2.2.2, bind_ok (x_holds _ _ (lt31 ho) (lt31 (or10 (pow10 ca) (pow10 cb)))), z_bit (by omega)]
  unfold aft
  by_cases c1 : on &&& (2 ^ fA F t ||| 2 ^ fB F t) = 2 ^ fA F t ||| 2 ^ fB F t
  · rw [if_pos c1, if_neg (by decide), bind_ok (x_holds _ _ (lt31 hs) (lt31 (pow10 cc)))]
    have c2 := sub_p2.mp (and_sub.mp c1)
    by_cases c3 : sl &&& 2 ^ fC F t = 2 ^ fC F t
    · rw [if_pos c3, if_neg (by decide), if_pos ⟨c2.1, c2.2, sub_p1.mp (and_sub.mp c3)⟩, z_or]
      rfl
    · rw [if_neg c3, if_pos rfl, if_neg (fun q => c3 (and_sub.mpr (sub_p1.mpr q.2.2)))]
      rfl
  · rw [if_neg c1, if_pos rfl, if_neg (fun q => c1 (and_sub.mpr (sub_p2.mpr ⟨q.1, q.2.1⟩)))]
    rfl
theorem x_aft {b : Nat} {F : Fl} {σ : Sg} (hF : OKL F) (h : FX b F σ) {t on : Nat} (ht : t < fM F) (ho : on < 1024) (hs : fTh F < 1024) : f_X1_after b (nI t) (nI on) σ = some (nI (aft F (fTh F) t on)) := by
  unfold f_X1_after
  rw [h.2.1, bind_ok (x_aftA hF h.1 ht ho hs)]
theorem ps1_pos {F : Fl} {steps sl t on : Nat} (h : steps.testBit t = true) : ps1 F steps sl t on = aft F sl t on := if_pos h
theorem ps1_neg {F : Fl} {steps sl t on : Nat} (h : ¬ steps.testBit t = true) : ps1 F steps sl t on = on := if_neg h
theorem z_or0 (a : Nat) : nI a ||| 0 = nI a := by rw [z_0, z_or, Nat.or_zero]
theorem x_reach_in {b : Nat} {F : Fl} {σ : Sg} (hF : OKL F) (h : FXl b F σ) {steps sl on turn : Nat} (hst : steps < 1024) (hs : sl < 1024) (ho : on < 1024) :
    f_X1_reachBy_22 b (nI steps) (nI sl) (nI on) (nI turn) (nI on) (nI 0) σ = if ps F steps sl on = on then some (.inr (nI on)) else some (.inl (nI (ps F steps sl on), nI (turn + 1))) := by
  have hm := hF.2.1
  have hlast : ∀ y, (if ps F steps sl on = on then some (.inr (nI on)) else some (.inl (nI (ps F steps sl on), nI (turn + 1)))) = some y → f_X1_reachBy_22 b (nI steps) (nI sl) (nI on) (nI turn) (nI on) (nI 0) σ = some y := by
    intro y hy
    unfold f_X1_reachBy_22
    refine itr_run (fun j => (nI (fo (ps1 F steps sl) on j), nI j)) (fM F) rfl (by omega) (fun j hj => ?_) ?_
    · have hlt := fo_lt hF (steps := steps) (sl := sl) ho j (by omega)
      show f_X1_reachBy_22s b (nI steps) (nI sl) (nI (fo (ps1 F steps sl) on j)) (nI turn) (nI on) (nI j) σ = _
      unfold f_X1_reachBy_22s
      rw [h.2.1, if_neg (nI_ge hj (by omega)), bind_ok (x_has (lt31 hst) (by omega)), fo_s]
      by_cases c : steps.testBit j = true
      · rw [zb_1.mpr c, if_neg (by decide), bind_ok (x_aftA hF h hj hlt hs), ps1_pos c]
        unfold f_X1_reachBy_51
        rw [nm_eq, nI_1]
      · rw [zb_0.mpr (by simpa using c), if_pos rfl, ps1_neg c]
        unfold f_X1_reachBy_51
        rw [nm_eq, nI_1]
    · show f_X1_reachBy_22s b (nI steps) (nI sl) (nI (fo (ps1 F steps sl) on (fM F))) (nI turn) (nI on) (nI (fM F)) σ = _
      unfold f_X1_reachBy_22s
      rw [h.2.1, if_pos (nI_le (Nat.le_refl _) (by omega)), nm_eq, nI_1]
      rw [show fo (ps1 F steps sl) on (fM F) = ps F steps sl on from rfl]
      have hlt := ps_lt hF (steps := steps) (sl := sl) ho
      by_cases c : ps F steps sl on = on
      · rw [if_pos c] at hy
        rw [c, if_pos rfl, ← Option.some.inj hy]
      · rw [if_neg c] at hy
        rw [if_neg (fun q => c ((nI_eq (lt31 hlt) (lt31 ho)).mp q)), ← Option.some.inj hy]
  by_cases c : ps F steps sl on = on
  · rw [if_pos c] at hlast ⊢
    exact hlast _ rfl
  · rw [if_neg c] at hlast ⊢
    exact hlast _ rfl
theorem x_reach_out {b : Nat} {F : Fl} {σ : Sg} (hF : OKL F) (h : FXl b F σ) {steps sl x : Nat} (hst : steps < 1024) (hs : sl < 1024) (hx : x < 1024) :
    ∀ k i N, i + k = 10 → k < N → itr N (fun s => f_X1_reachBy_8s b (nI steps) (nI sl) s.1 s.2 σ) (nI (pit F steps sl x i), nI i) = some (nI (pit F steps sl x 10)) := by
  intro k
  induction k with
  | zero =>
    intro i N hi hN
    obtain ⟨N, rfl⟩ : ∃ M, N = M + 1 := ⟨N - 1, by omega⟩
    obtain rfl : i = 10 := by omega
    refine itr_out ?_
    show f_X1_reachBy_8s b (nI steps) (nI sl) (nI (pit F steps sl x 10)) (nI 10) σ = _
    unfold f_X1_reachBy_8s
    rw [if_pos (by decide)]
  | succ k ih =>
    intro i N hi hN
    obtain ⟨N, rfl⟩ : ∃ M, N = M + 1 := ⟨N - 1, by omega⟩
    have hp := pit_lt hF (steps := steps) (sl := sl) hx i
    have e : f_X1_reachBy_8s b (nI steps) (nI sl) (nI (pit F steps sl x i)) (nI i) σ = if ps F steps sl (pit F steps sl x i) = pit F steps sl x i then some (.inr (nI (pit F steps sl x i))) else some (.inl (nI (ps F steps sl (pit F steps sl x i)), nI (i + 1))) := by
      unfold f_X1_reachBy_8s
      rw [z_lit 10, if_neg (nI_ge (by omega) (by decide)), z_0]
      exact x_reach_in hF h hst hs hp
    by_cases c : ps F steps sl (pit F steps sl x i) = pit F steps sl x i
    · rw [if_pos c] at e
      rw [itr_out e]
      have := pit_st (show pit F steps sl x (i + 1) = pit F steps sl x i from c) (k + 1)
      rw [hi] at this
      rw [this]
    · rw [if_neg c] at e
      rw [itr_in e]
      exact ih (i + 1) N (by omega) (by omega)
theorem x_reachBy {b : Nat} {F : Fl} {σ : Sg} (hF : OKL F) (h : FXl b F σ) {set steps sl : Nat} (hst : steps < 1024) (hs : sl < 1024) : f_X1_reachBy b (nI set) (nI steps) (nI sl) σ = some (nI (clo F steps sl set)) := by
  unfold f_X1_reachBy
  rw [z_and, nm_eq]
  exact x_reach_out hF h hst hs (and10 _ hs) 10 0 3000 (by omega) (by omega)
-- the reference
def chg (F : Fl) (steps sl on j : Nat) : Int32 := if fo (ps1 F steps sl) on j = on then 0 else 1
theorem m_cl_in {F : Fl} {σ : Sg} (hF : OKL F) (h : FMl 0 F σ) {steps sl on : Nat} (hst : steps < 1024) (hs : sl < 1024) (ho : on < 1024) :
    f_X9_closure_19 (nI steps) (nI sl) (nI on) 0 (nI 0) σ = some (.inl (nI (ps F steps sl on), if ps F steps sl on = on then 0 else 1)) := by
  have hm := hF.2.1
  unfold f_X9_closure_19
  refine itr_run (fun j => (nI (fo (ps1 F steps sl) on j), chg F steps sl on j, nI j)) (fM F) ?_ (by omega) (fun j hj => ?_) ?_
  · show (nI on, (0 : Int32), nI 0) = (nI on, chg F steps sl on 0, nI 0)
    unfold chg
    rw [if_pos (show fo (ps1 F steps sl) on 0 = on from rfl)]
  · obtain ⟨ca, cb, cc⟩ := hF.c10 hj
    have hq := h.2.2.2.1 j hj
    simp only [Nat.zero_add] at hq
    have hlt := fo_lt hF (steps := steps) (sl := sl) ho j (by omega)
    have hsub := fo_sub F steps sl on j
    show f_X9_closure_19s (nI steps) (nI sl) (nI (fo (ps1 F steps sl) on j)) (chg F steps sl on j) (nI j) σ = some (.inl (nI (fo (ps1 F steps sl) on (j + 1)), chg F steps sl on (j + 1), nI (j + 1)))
    -- where nothing is gone
    have still : ps1 F steps sl j (fo (ps1 F steps sl) on j) = fo (ps1 F steps sl) on j → f_X9_closure_113 (nI steps) (nI sl) (nI (fo (ps1 F steps sl) on j)) (chg F steps sl on j) (nI j) σ = some (.inl (nI (fo (ps1 F steps sl) on (j + 1)), chg F steps sl on (j + 1), nI (j + 1))) := by
      intro e
      have e2 : fo (ps1 F steps sl) on (j + 1) = fo (ps1 F steps sl) on j := by rw [fo_s, e]
      have e3 : chg F steps sl on (j + 1) = chg F steps sl on j := by unfold chg; rw [e2]
      rw [e2, e3]
      unfold f_X9_closure_113 f_X9_closure_114
      rw [if_pos rfl]
      unfold f_X9_closure_139
      rw [nm_eq, z_or0, if_pos rfl]
      unfold chg
      by_cases c : fo (ps1 F steps sl) on j = on
      · rw [if_pos c, if_pos rfl]
        unfold f_X9_closure_157
        rw [nm_eq, nI_1]
      · rw [if_neg c, if_neg (by decide)]
        unfold f_X9_closure_152 f_X9_closure_157
        rw [nm_eq, nI_1]
    unfold f_X9_closure_19s
    rw [z_lit 4, bind_ok (m_w (by decide)), show σ.1 1 4 = nI (fM F) from h.2.1, if_neg (nI_ge hj (by omega)), bind_ok (m_has (lt31 hst) (by omega))]
    by_cases c1 : steps.testBit j = true
    case neg => rw [zb_0.mpr (by simpa using c1), if_pos rfl]; exact still (by unfold ps1; rw [if_neg c1])
    rw [zb_1.mpr c1, if_neg (by decide), z_lit 5, bind_ok (m_wk 5 (by omega)), hq.1, bind_ok (m_has (lt31 hlt) (by omega))]
    by_cases c2 : (fo (ps1 F steps sl) on j).testBit (fA F j) = true
    case neg => rw [zb_0.mpr (by simpa using c2), if_pos rfl]; exact still (by unfold ps1 aft; rw [if_pos c1, if_neg (fun q => c2 q.1)])
    rw [zb_1.mpr c2, if_neg (by decide), z_lit 15, bind_ok (m_wk 15 (by omega)), hq.2.1, bind_ok (m_has (lt31 hlt) (by omega))]
    by_cases c3 : (fo (ps1 F steps sl) on j).testBit (fB F j) = true
    case neg => rw [zb_0.mpr (by simpa using c3), if_pos rfl]; exact still (by unfold ps1 aft; rw [if_pos c1, if_neg (fun q => c3 q.2.1)])
    rw [zb_1.mpr c3, if_neg (by decide), z_lit 25, bind_ok (m_wk 25 (by omega)), hq.2.2, bind_ok (m_has (lt31 hs) (by omega))]
    by_cases c4 : sl.testBit (fC F j) = true
    case neg => rw [zb_0.mpr (by simpa using c4), if_pos rfl]; exact still (by unfold ps1 aft; rw [if_pos c1, if_neg (fun q => c4 q.2.2)])
    rw [zb_1.mpr c4, if_neg (by decide), bind_ok (m_wk 25 (by omega)), hq.2.2, bind_ok (m_has (lt31 hlt) (by omega))]
    have ea : ps1 F steps sl j (fo (ps1 F steps sl) on j) = fo (ps1 F steps sl) on j ||| 2 ^ fC F j := by unfold ps1 aft; rw [if_pos c1, if_pos ⟨c2, c3, c4⟩]
    by_cases c5 : (fo (ps1 F steps sl) on j).testBit (fC F j) = true
    · rw [zb_1.mpr c5, if_neg (by decide)]
      exact still (by rw [ea, or_in c5])
    · have c5 : (fo (ps1 F steps sl) on j).testBit (fC F j) = false := by simpa using c5
      rw [zb_0.mpr c5, if_pos rfl]
      have e3 : chg F steps sl on (j + 1) = 1 := by
        unfold chg
        rw [fo_s, ea, if_neg (or_ne hsub c5)]
      rw [fo_s, ea, e3]
      unfold f_X9_closure_114
      rw [if_neg (by decide), z_lit 25, bind_ok (m_wk 25 (by omega)), hq.2.2, z_bit (by omega)]
      unfold f_X9_closure_139
      rw [nm_eq, z_or]
      have l152 : f_X9_closure_152 (nI steps) (nI sl) (nI (fo (ps1 F steps sl) on j ||| 2 ^ fC F j)) (nI j) σ = some (.inl (nI (fo (ps1 F steps sl) on j ||| 2 ^ fC F j), 1, nI (j + 1))) := by
        unfold f_X9_closure_152 f_X9_closure_157
        rw [nm_eq, nI_1]
      unfold chg
      by_cases c : fo (ps1 F steps sl) on j = on
      · rw [if_pos c, if_pos rfl, if_neg (by decide)]; exact l152
      · rw [if_neg c, if_neg (by decide)]; exact l152
  · show f_X9_closure_19s (nI steps) (nI sl) (nI (fo (ps1 F steps sl) on (fM F))) (chg F steps sl on (fM F)) (nI (fM F)) σ = _
    unfold f_X9_closure_19s
    rw [z_lit 4, bind_ok (m_w (by decide)), show σ.1 1 4 = nI (fM F) from h.2.1, if_pos (nI_le (Nat.le_refl _) (by omega))]
    rfl
theorem m_cl_out {F : Fl} {σ : Sg} (hF : OKL F) (h : FMl 0 F σ) {steps sl x : Nat} (hst : steps < 1024) (hs : sl < 1024) (hx : x < 1024) :
    ∀ k i N, (∃ i2, i ≤ i2 ∧ i2 < i + k ∧ i2 ≤ 10 ∧ pit F steps sl x (i2 + 1) = pit F steps sl x i2) → k < N → itr N (fun s => f_X9_closure_8s (nI steps) (nI sl) s.1 s.2 σ) (nI (pit F steps sl x i), 1) = some (nI (pit F steps sl x 10)) := by
  intro k
  induction k with
  | zero => rintro i N ⟨i2, h1, h2, -⟩; omega
  | succ k ih =>
    rintro i N ⟨i2, h1, h2, h3, h4⟩ hN
    obtain ⟨N, rfl⟩ : ∃ M, N = M + 1 := ⟨N - 1, by omega⟩
    have hp := pit_lt hF (steps := steps) (sl := sl) hx i
    have e : f_X9_closure_8s (nI steps) (nI sl) (nI (pit F steps sl x i)) 1 σ = some (.inl (nI (ps F steps sl (pit F steps sl x i)), if ps F steps sl (pit F steps sl x i) = pit F steps sl x i then 0 else 1)) := by
      unfold f_X9_closure_8s
      rw [if_neg (by decide)]
      exact m_cl_in hF h hst hs hp
    rw [itr_in e]
    by_cases c : ps F steps sl (pit F steps sl x i) = pit F steps sl x i
    · rw [if_pos c, c]
      obtain ⟨N, rfl⟩ : ∃ M, N = M + 1 := ⟨N - 1, by omega⟩
      have e2 : f_X9_closure_8s (nI steps) (nI sl) (nI (pit F steps sl x i)) 0 σ = some (.inr (nI (pit F steps sl x i))) := by
        unfold f_X9_closure_8s
        rw [if_pos rfl]
      rw [itr_out e2]
      have := pit_st (show pit F steps sl x (i + 1) = pit F steps sl x i from c) (10 - i)
      rw [show i + (10 - i) = 10 by omega] at this
      rw [this]
    · rw [if_neg c]
      refine ih (i + 1) N ⟨i2, ?_, by omega, h3, h4⟩ (by omega)
      rcases Nat.lt_or_ge i i2 with q | q
      · omega
      · obtain rfl : i = i2 := by omega
        exact absurd h4 c
theorem m_closure {F : Fl} {σ : Sg} (hF : OKL F) (h : FMl 0 F σ) {set steps sl : Nat} (hst : steps < 1024) (hs : sl < 1024) : f_X9_closure (nI set) (nI steps) (nI sl) σ = some (nI (clo F steps sl set)) := by
  unfold f_X9_closure
  rw [z_and, nm_eq]
  obtain ⟨i, h1, h2⟩ := pit_fx hF (steps := steps) (sl := sl) (x := set &&& sl) (and10 _ hs)
  exact m_cl_out hF h hst hs (and10 _ hs) 11 0 3000 ⟨i, by omega, by omega, h1, h2⟩ (by omega)
end
section
-- the plain queries
/-- x without y -/
def dif (x y : Nat) : Nat := x &&& (y ^^^ (2 ^ 32 - 1))
theorem z_dif (x y : Nat) : nI x &&& (nI y ^^^ (-1)) = nI (dif x y) := by rw [z_m1, z_xor, z_and]; rfl
theorem dif_tb {x y i : Nat} (hx : x < 1024) : (dif x y).testBit i = (x.testBit i && !y.testBit i) := by
  unfold dif
  rw [Nat.testBit_and, Nat.testBit_xor, Nat.testBit_two_pow_sub_one]
  cases h : x.testBit i
  · rfl
  · have := tb10 hx h
    simp [show i < 32 by omega]
theorem dif_lt {x y : Nat} (hx : x < 1024) : dif x y < 1024 := by
  unfold dif
  rw [Nat.and_comm]
  exact and10 _ hx
theorem dif_p {x k i : Nat} (hx : x < 1024) : (dif x (2 ^ k)).testBit i = (x.testBit i && decide (i ≠ k)) := by
  rw [dif_tb hx, Nat.testBit_two_pow]
  by_cases h : k = i
  · subst h; simp
  · simp [h, Ne.symm h]
theorem clo_st {F : Fl} {s1 s2 sl set : Nat} (h : ∀ t, t < fM F → s1.testBit t = s2.testBit t) : clo F s1 sl set = clo F s2 sl set := by
  have e : ∀ on, ps F s1 sl on = ps F s2 sl on := by
    intro on
    have key : ∀ k, k ≤ fM F → fo (ps1 F s1 sl) on k = fo (ps1 F s2 sl) on k := by
      intro k
      induction k with
      | zero => intro _; rfl
      | succ k ih =>
        intro hk
        rw [fo_s, fo_s, ih (by omega)]
        unfold ps1
        rw [h k (by omega)]
    exact key _ (Nat.le_refl _)
  have key : ∀ i, pit F s1 sl (set &&& sl) i = pit F s2 sl (set &&& sl) i := by
    intro i
    induction i with
    | zero => rfl
    | succ i ih =>
      show ps F s1 sl (pit F s1 sl (set &&& sl) i) = ps F s2 sl (pit F s2 sl (set &&& sl) i)
      rw [ih, e]
  exact key 10
theorem clo_set {F : Fl} {st sl x y : Nat} (h : x &&& sl = y &&& sl) : clo F st sl x = clo F st sl y := by unfold clo; rw [h]
theorem all_tb {m t : Nat} : (2 ^ m - 1).testBit t = decide (t < m) := Nat.testBit_two_pow_sub_one m t
theorem a1023 {t : Nat} : (1023 : Nat).testBit t = decide (t < 10) := Nat.testBit_two_pow_sub_one 10 t
/-- all steps, in the reference's words and in the class's -/
theorem clo_all {F : Fl} (hm : fM F ≤ 10) {sl set : Nat} : clo F (2 ^ fM F - 1) sl set = clo F 1023 sl set := clo_st (fun t ht => by rw [all_tb, a1023]; simp [ht, show t < 10 by omega])
/-- the reach of a set -/
def rch (F : Fl) (set : Nat) : Nat := clo F 1023 (fTh F) set
/-- on which one begins, there -/
def beg (F : Fl) : Nat := fBg F &&& fTh F
section
variable {F : Fl} {σX σM : Sg}
theorem OKF.m10 (hF : OKF F) : fM F ≤ 10 := hF.1.2.1
theorem OKF.th (hF : OKF F) : fTh F < 1024 := Nat.lt_of_lt_of_le hF.2.2.1 (p10 hF.1.1.2)
theorem OKF.st (hF : OKF F) : fSt F < 1024 := by rw [← hF.2.2.2]; exact and10 _ hF.th
theorem OKF.bg (hF : OKF F) : fBg F < 1024 := Nat.lt_of_lt_of_le hF.1.2.2.2.1 (p10 hF.1.1.2)
theorem OKF.sub (hF : OKF F) : sub (fSt F) (fTh F) := fun k h => by rw [← hF.2.2.2, Nat.testBit_and] at h; simp only [Bool.and_eq_true] at h; exact h.2
theorem beg_lt (hF : OKF F) : beg F < 1024 := and10 _ hF.th
theorem rch_lt (hF : OKF F) (x : Nat) : rch F x < 1024 := clo_lt hF.1 hF.th
theorem x_reachOf (hF : OKF F) (h : FX 12 F σX) (v : Nat) : f_X1_reachOf 12 (nI v) σX = some (nI (rch F v)) := by
  unfold f_X1_reachOf
  rw [h.2.1, z_lit 1023, bind_ok (x_reachBy hF.1 h.1 (by decide) hF.th)]
  rfl
theorem m_all (hF : OKF F) (h : FM 0 F σM) : f_X9_allSteps σM = some (nI (2 ^ fM F - 1)) := by
  have hm := hF.m10
  unfold f_X9_allSteps
  rw [z_lit 4, bind_ok (m_w (by decide)), show σM.1 1 4 = nI (fM F) from h.1.2.1, z_bit (by omega), z_1, pk_sub Nat.one_le_two_pow]
theorem m_reachOf (hF : OKF F) (h : FM 0 F σM) (v : Nat) : f_X9_reachOf (nI v) σM = some (nI (rch F v)) := by
  have hm := hF.m10
  have h10 := p10 hm
  unfold f_X9_reachOf
  rw [bind_ok (m_all hF h), z_lit 2, bind_ok (m_w (by decide)), show σM.1 1 2 = nI (fTh F) from h.2.1, bind_ok (m_closure hF.1 h.1 (by omega) hF.th), clo_all hm]
  rfl
theorem x_beg (h : FX 12 F σX) : f_X1_beginnings 12 σX = some (nI (beg F)) := by
  unfold f_X1_beginnings
  rw [h.1.2.2.1, h.2.1, z_and]
  rfl
theorem m_beg (h : FM 0 F σM) : f_X9_beginnings σM = some (nI (beg F)) := by
  unfold f_X9_beginnings
  rw [z_1, bind_ok (m_w (by decide)), show σM.1 1 1 = nI (fBg F) from h.1.2.2.1, z_lit 2, bind_ok (m_w (by decide)), show σM.1 1 2 = nI (fTh F) from h.2.1, z_and]
  rfl
theorem x_isStone (h : FX 12 F σX) (v : Int32) : f_X8_isStone v σX = some (inn v (fN F)) := by
  unfold f_X8_isStone
  rw [bind_ok (x_hasStone h.1 v), bind_ok (zrt_01 (inn_01 _ _))]
theorem x_isStep (h : FX 12 F σX) (v : Int32) : f_X8_isStep v σX = some (inn v (fM F)) := by
  unfold f_X8_isStep inn
  by_cases c1 : v < 0
  · rw [if_pos c1, if_pos (Or.inl c1)]; rfl
  · rw [if_neg c1, show f_X1_stepCount 12 σX = some (nI (fM F)) by unfold f_X1_stepCount; rw [h.1.2.1]]
    show (if nI (fM F) ≤ v then _ else _) = _
    by_cases c2 : nI (fM F) ≤ v
    · rw [if_pos c2, if_pos (Or.inr c2)]; rfl
    · rw [if_neg c2, if_neg (by rintro (q | q) <;> contradiction)]; rfl
theorem x_allStones (hF : OKF F) (h : FX 12 F σX) : f_X1_allStones 12 σX = some (nI (2 ^ fN F - 1)) := by
  unfold f_X1_allStones
  rw [h.1.1, z_bit (by have := hF.1.1.2; omega), z_1, pk_sub Nat.one_le_two_pow]
theorem x_isSet (hF : OKF F) (h : FX 12 F σX) (v : Int32) : f_X8_isSetOfStones v σX = some (inn v (2 ^ fN F)) := by
  have h10 := p10 hF.1.1.2
  have h1 : 1 ≤ 2 ^ fN F := Nat.one_le_two_pow
  unfold f_X8_isSetOfStones inn
  by_cases c1 : v < 0
  · rw [if_pos c1, if_pos (Or.inl c1)]; rfl
  · rw [if_neg c1, bind_ok (x_allStones hF h)]
    have e : nI (2 ^ fN F - 1) < v ↔ nI (2 ^ fN F) ≤ v := by
      rw [fa_lt, Int32.le_iff_toInt_le, nI_toInt (by omega), nI_toInt (by omega)]
      omega
    by_cases c2 : nI (2 ^ fN F) ≤ v
    · rw [if_pos (e.mpr c2), if_pos (Or.inr c2)]; rfl
    · rw [if_neg (fun q => c2 (e.mp q)), if_neg (by rintro (q | q) <;> contradiction)]; rfl
/-- promise 12: reach -/
theorem q_reach (hF : OKF F) (hX : FX 12 F σX) (hM : FM 0 F σM) (v : Int32) : ∃ r, f_X8_reach v σX = some r ∧ f_X9_reach v σM = some r := by
  have h10 := p10 hF.1.1.2
  unfold f_X8_reach f_X9_reach
  rw [bind_ok (x_isSet hF hX v), bind_ok (m_isSet hF.1 hM.1 v)]
  rcases inn_cases v (n := 2 ^ fN F) (by omega) with e | ⟨j, h1, rfl, e⟩
  · rw [e]; exact ⟨_, rfl, rfl⟩
  · rw [e, if_neg (by decide), if_neg (by decide), bind_ok (x_reachOf hF hX j), bind_ok (m_reachOf hF hM j)]
    exact ⟨_, rfl, rfl⟩
theorem z_rg (v : Int32) (n : Nat) (hn : n < 2 ^ 30) : f_X9_in v.toInt64 0 ((nI n).toInt64) = some (inn v (n + 1)) := by
  have e : nI n = nI (n + 1) - 1 := by
    have := pk_sub (a := n + 1) (b := 1) (by omega)
    rw [show nI 1 = (1 : Int32) from rfl] at this
    rw [this, Nat.add_sub_cancel]
  rw [e]
  exact m_in v (by omega) (by omega)
/-- what is gone from here (the class's words, the reference's) -/
theorem aft_ne {F : Fl} (sl t on : Nat) : aft F sl t on ≠ on ↔ (on.testBit (fA F t) = true ∧ on.testBit (fB F t) = true ∧ sl.testBit (fC F t) = true ∧ on.testBit (fC F t) = false) := by
  unfold aft
  by_cases c : on.testBit (fA F t) = true ∧ on.testBit (fB F t) = true ∧ sl.testBit (fC F t) = true
  · rw [if_pos c]
    cases h : on.testBit (fC F t)
    · simp only [c, and_self, iff_true, ne_eq]
      exact or_ne (sub_rfl _) h
    · rw [or_in h]
      simp
  · rw [if_neg c]
    simp only [ne_eq, not_true_eq_false, false_iff]
    exact fun q => c ⟨q.1, q.2.1, q.2.2.1⟩
def mayF (F : Fl) (on t : Nat) : Prop := aft F (fTh F) t on ≠ on
theorem m_mayFrom (hF : OKF F) (h : FM 0 F σM) {on t : Nat} (ht : t < fM F) (ho : on < 1024) : f_X9_mayFrom (nI on) (nI t) σM = some (if aft F (fTh F) t on = on then 0 else 1) := by
  obtain ⟨ca, cb, cc⟩ := hF.1.c10 ht
  have hm := hF.m10
  have hq := h.1.2.2.2.1 t ht
  simp only [Nat.zero_add] at hq
  have hn := aft_ne (F := F) (fTh F) t on
  have res0 : ¬ (on.testBit (fA F t) = true ∧ on.testBit (fB F t) = true ∧ (fTh F).testBit (fC F t) = true ∧ on.testBit (fC F t) = false) → (if aft F (fTh F) t on = on then (0 : Int32) else 1) = 0 := fun q => if_pos (Classical.byContradiction (fun z => q (hn.mp z)))
  unfold f_X9_mayFrom
  rw [z_lit 2, bind_ok (m_w (by decide)), show σM.1 1 2 = nI (fTh F) from h.2.1, z_lit 25, bind_ok (m_wk 25 (by omega)), hq.2.2, bind_ok (m_has (lt31 hF.th) (by omega))]
  cases c1 : (fTh F).testBit (fC F t)
  · rw [zb_0.mpr c1, if_pos rfl, res0 (by simp [c1])]; rfl
  rw [zb_1.mpr c1, if_neg (by decide), bind_ok (m_wk 25 (by omega)), hq.2.2, bind_ok (m_has (lt31 ho) (by omega))]
  cases c2 : on.testBit (fC F t)
  case true => rw [zb_1.mpr c2, if_neg (by decide), res0 (by simp [c2])]; rfl
  rw [zb_0.mpr c2, if_pos rfl, z_lit 5, bind_ok (m_wk 5 (by omega)), hq.1, bind_ok (m_has (lt31 ho) (by omega))]
  cases c3 : on.testBit (fA F t)
  · rw [zb_0.mpr c3, if_pos rfl, res0 (by simp [c3])]; rfl
  rw [zb_1.mpr c3, if_neg (by decide), z_lit 15, bind_ok (m_wk 15 (by omega)), hq.2.1, bind_ok (m_has (lt31 ho) (by omega))]
  cases c4 : on.testBit (fB F t)
  · rw [zb_0.mpr c4, if_pos rfl, res0 (by simp [c4])]; rfl
  rw [zb_1.mpr c4, if_neg (by decide), if_neg (hn.mpr ⟨c3, c4, c1, c2⟩)]
  rfl
theorem aft_eq {F : Fl} {sl t on : Nat} (h : aft F sl t on ≠ on) : aft F sl t on = on ||| 2 ^ fC F t := by
  have := (aft_ne sl t on).mp h
  unfold aft
  rw [if_pos ⟨this.1, this.2.1, this.2.2.1⟩]
theorem m_C (hF : OKF F) (h : FM 0 F σM) {t : Nat} (ht : t < fM F) : ald σM 1 660 (25 + nI t) = some (nI (fC F t)) := by
  have hm := hF.m10
  have hq := (h.1.2.2.2.1 t ht).2.2
  simp only [Nat.zero_add] at hq
  rw [z_lit 25, m_wk 25 (by omega), hq]
end
end
section
-- how many bits
theorem x_bc : ∀ x, x < 1024 → f_J6_bitCount_0f7a4 (nI x) = some (nI (pc x)) := by decide +kernel
theorem m_ones {x : Nat} (hx : x < 1024) : f_X9_ones (nI x) = some (nI (pc x)) := by
  unfold f_X9_ones f_X9_ones_4
  refine itr_run (fun k => (nI (pcn x k), nI k)) 10 rfl (by decide) (fun k hk => ?_) ?_
  · show f_X9_ones_4s (nI x) (nI (pcn x k)) (nI k) = _
    unfold f_X9_ones_4s
    rw [z_lit 10, if_neg (nI_ge hk (by decide)), nm_eq, nm_eq, nI_1, z_has (lt31 hx) (by omega)]
    have e : nI (pcn x k) + zb x k = nI (pcn x (k + 1)) := by
      rw [show pcn x (k + 1) = pcn x k + (if x.testBit k then 1 else 0) from rfl]
      unfold zb
      cases x.testBit k
      · show nI (pcn x k) + 0 = nI (pcn x k + 0)
        rw [z_0, nI_add]
      · exact nI_1 _
    rw [e]
  · show f_X9_ones_4s (nI x) (nI (pcn x 10)) (nI 10) = _
    unfold f_X9_ones_4s
    rw [if_pos (by decide)]
    rfl
theorem pcn_add {x c : Nat} (h : x.testBit c = false) : ∀ k, pcn (x ||| 2 ^ c) k = pcn x k + (if c < k then 1 else 0) := by
  intro k
  induction k with
  | zero => rfl
  | succ k ih =>
    unfold pcn
    rw [ih, tb_or2]
    by_cases e : c = k
    · subst e
      rw [h]
      simp
    · by_cases e2 : c < k
      · simp [e, e2, show c < k + 1 by omega]
        omega
      · simp [e, e2, show ¬ c < k + 1 by omega]
theorem pc_add {x c : Nat} (hc : c < 10) (h : x.testBit c = false) : pc (x ||| 2 ^ c) = pc x + 1 := by
  unfold pc
  rw [pcn_add h, if_pos hc]
theorem sub_or_eq {x y : Nat} (h : sub y x) : x ||| y = x := by
  apply Nat.eq_of_testBit_eq
  intro i
  rw [Nat.testBit_or]
  cases hy : y.testBit i
  · simp
  · rw [h i hy]; rfl
section
variable {F : Fl} {σX σM : Sg}
/-- all at once -/
def oa1 (F : Fl) (on : Nat) (t acc : Nat) : Nat := if aft F (fTh F) t on = on then acc else acc ||| 2 ^ fC F t
def oa (F : Fl) (on : Nat) : Nat := fo (oa1 F on) on (fM F)
theorem oa_sub (F : Fl) (on : Nat) : ∀ k, sub on (fo (oa1 F on) on k) := by
  intro k
  induction k with
  | zero => exact sub_rfl _
  | succ k ih => rw [fo_s]; unfold oa1; split; exact ih; exact sub_tr ih sub_or
theorem oa_lt (hF : OKF F) {on : Nat} (h : on < 1024) : ∀ k, k ≤ fM F → fo (oa1 F on) on k < 1024 := by
  intro k
  induction k with
  | zero => intro _; exact h
  | succ k ih =>
    intro hk
    rw [fo_s]
    unfold oa1
    split
    · exact ih (by omega)
    · exact or10 (ih (by omega)) (pow10 (hF.1.c10 (by omega : k < fM F)).2.2)
theorem x_stood (h : FX 12 F σX) : f_X1_stood 12 σX = some (nI (fSt F)) := by unfold f_X1_stood; rw [h.2.2]
theorem x_there (h : FX 12 F σX) : f_X1_there 12 σX = some (nI (fTh F)) := by unfold f_X1_there; rw [h.2.1]
theorem x_steps (h : FX 12 F σX) : f_X1_stepCount 12 σX = some (nI (fM F)) := by unfold f_X1_stepCount; rw [h.1.2.1]
theorem x_stones (h : FX 12 F σX) : f_X1_stoneCount 12 σX = some (nI (fN F)) := by unfold f_X1_stoneCount; rw [h.1.1]
theorem x_allAt (hF : OKF F) (h : FX 12 F σX) {on : Nat} (ho : on < 1024) : f_X7_afterAllAtOnce (nI on) σX = some (nI (oa F on)) := by
  have hm := hF.m10
  unfold f_X7_afterAllAtOnce f_X7_afterAllAtOnce_4
  refine itr_run (fun k => (nI (fo (oa1 F on) on k), nI k)) (fM F) rfl (by omega) (fun k hk => ?_) ?_
  · show f_X7_afterAllAtOnce_4s (nI on) (nI (fo (oa1 F on) on k)) (nI k) σX = _
    unfold f_X7_afterAllAtOnce_4s
    rw [bind_ok (x_steps h), if_neg (nI_ge hk (by omega)), bind_ok (x_aft hF.1 h hk ho hF.th), nm_eq, nm_eq, nI_1, z_or, fo_s]
    congr 4
    by_cases e : aft F (fTh F) k on = on
    · rw [show oa1 F on k (fo (oa1 F on) on k) = fo (oa1 F on) on k from if_pos e, e, sub_or_eq (oa_sub F on k)]
    · rw [show oa1 F on k (fo (oa1 F on) on k) = fo (oa1 F on) on k ||| 2 ^ fC F k from if_neg e, aft_eq e, ← Nat.or_assoc, sub_or_eq (oa_sub F on k)]
  · show f_X7_afterAllAtOnce_4s (nI on) (nI (fo (oa1 F on) on (fM F))) (nI (fM F)) σX = _
    unfold f_X7_afterAllAtOnce_4s
    rw [bind_ok (x_steps h), if_pos (nI_le (Nat.le_refl _) (by omega))]
    rfl
theorem m_w4 (h : FM 0 F σM) : ald σM 1 660 4 = some (nI (fM F)) := by
  rw [z_lit 4, m_w (by decide)]
  exact congrArg some h.1.2.1
theorem m_w3 (h : FM 0 F σM) : ald σM 1 660 3 = some (nI (fSt F)) := by
  rw [z_lit 3, m_w (by decide)]
  exact congrArg some h.2.2
theorem m_w2 (h : FM 0 F σM) : ald σM 1 660 2 = some (nI (fTh F)) := by
  rw [z_lit 2, m_w (by decide)]
  exact congrArg some h.2.1
theorem m_w1 (h : FM 0 F σM) : ald σM 1 660 1 = some (nI (fBg F)) := by
  rw [z_1, m_w (by decide)]
  exact congrArg some h.1.2.2.1
theorem m_w0 (h : FM 0 F σM) : ald σM 1 660 0 = some (nI (fN F)) := by
  rw [z_0, m_w (by decide)]
  exact congrArg some h.1.1
theorem m_allAt (hF : OKF F) (h : FM 0 F σM) {on : Nat} (v1 : Int32) (i : Nat) (ho : on < 1024) : f_X9_round_41 v1 (nI on) (nI i) (nI on) (nI 0) σM = some (.inl (nI (oa F on), nI (i + 1))) := by
  have hm := hF.m10
  unfold f_X9_round_41
  refine itr_run (fun k => (nI (fo (oa1 F on) on k), nI k)) (fM F) rfl (by omega) (fun k hk => ?_) ?_
  · obtain ⟨ca, cb, cc⟩ := hF.1.c10 hk
    show f_X9_round_41s v1 (nI on) (nI i) (nI (fo (oa1 F on) on k)) (nI k) σM = _
    unfold f_X9_round_41s
    rw [bind_ok (m_w4 h), if_neg (nI_ge hk (by omega)), bind_ok (m_mayFrom hF h hk ho), fo_s]
    unfold oa1
    by_cases e : aft F (fTh F) k on = on
    · rw [if_pos e, if_pos rfl, if_pos e]
      unfold f_X9_round_80
      rw [nm_eq, nm_eq, nI_1, z_or0]
    · rw [if_neg e, if_neg (by decide), if_neg e, bind_ok (m_C hF h hk), z_bit (by omega)]
      unfold f_X9_round_80
      rw [nm_eq, nm_eq, nI_1, z_or]
  · show f_X9_round_41s v1 (nI on) (nI i) (nI (fo (oa1 F on) on (fM F))) (nI (fM F)) σM = _
    unfold f_X9_round_41s
    rw [bind_ok (m_w4 h), if_pos (nI_le (Nat.le_refl _) (by omega)), nm_eq, nI_1]
    rfl
theorem round_both (hF : OKF F) (hX : FX 12 F σX) (hM : FM 0 F σM) {j : Nat} (hj : j < 10) : ∀ k i on N, i + k = 11 → k < N → on < 1024 →
    ∃ r, itr N (fun s => f_X7_rounds_7s (nI j) s.1 s.2 σX) (nI on, nI i) = some r ∧ itr N (fun s => f_X9_round_19s (nI j) s.1 s.2 σM) (nI on, nI i) = some r := by
  intro k
  induction k with
  | zero =>
    intro i on N hi hN ho
    obtain ⟨N, rfl⟩ : ∃ M, N = M + 1 := ⟨N - 1, by omega⟩
    obtain rfl : i = 11 := by omega
    refine ⟨-4, itr_out ?_, itr_out ?_⟩
    · show f_X7_rounds_7s (nI j) (nI on) (nI 11) σX = _
      unfold f_X7_rounds_7s
      rw [if_pos (by decide)]
    · show f_X9_round_19s (nI j) (nI on) (nI 11) σM = _
      unfold f_X9_round_19s
      rw [if_pos (by decide)]
  | succ k ih =>
    intro i on N hi hN ho
    obtain ⟨N, rfl⟩ : ∃ M, N = M + 1 := ⟨N - 1, by omega⟩
    have hc : ¬ (10 : Int32) < nI i := nI_nlt (a := 10) (b := i) (by omega) (by decide)
    have eX : f_X7_rounds_7s (nI j) (nI on) (nI i) σX = if on.testBit j = true then some (.inr (nI i)) else some (.inl (nI (oa F on), nI (i + 1))) := by
      unfold f_X7_rounds_7s
      rw [if_neg hc, bind_ok (x_has (lt31 ho) (by omega))]
      cases c : on.testBit j
      · rw [zb_0.mpr c, if_pos rfl, bind_ok (x_allAt hF hX ho), nm_eq, nI_1]; rfl
      · rw [zb_1.mpr c, if_neg (by decide)]; rfl
    have eM : f_X9_round_19s (nI j) (nI on) (nI i) σM = if on.testBit j = true then some (.inr (nI i)) else some (.inl (nI (oa F on), nI (i + 1))) := by
      unfold f_X9_round_19s
      rw [if_neg hc, bind_ok (m_has (lt31 ho) (by omega))]
      cases c : on.testBit j
      · rw [zb_0.mpr c, if_pos rfl, z_0, m_allAt hF hM (nI j) i ho]; rfl
      · rw [zb_1.mpr c, if_neg (by decide)]; rfl
    by_cases c : on.testBit j = true
    · rw [if_pos c] at eX eM
      exact ⟨_, itr_out eX, itr_out eM⟩
    · rw [if_neg c] at eX eM
      rw [itr_in eX, itr_in eM]
      exact ih (i + 1) (oa F on) N (by omega) (by omega) (oa_lt hF ho _ (Nat.le_refl _))
/-- promise 14: round -/
theorem q_round (hF : OKF F) (hX : FX 12 F σX) (hM : FM 0 F σM) (v : Int32) : ∃ r, f_X8_round v σX = some r ∧ f_X9_round v σM = some r := by
  have hn := hF.1.1
  unfold f_X8_round f_X9_round
  rw [bind_ok (x_isStone hX v), bind_ok (m_isStone hF.1 hM.1 v)]
  rcases inn_cases v (n := fN F) (by omega) with e | ⟨j, h1, rfl, e⟩
  · rw [e]; exact ⟨_, rfl, rfl⟩
  · rw [e, if_neg (by decide), if_neg (by decide), bind_ok (m_w3 hM)]
    unfold f_X7_rounds
    rw [bind_ok (x_stood hX)]
    obtain ⟨r, h2, h3⟩ := round_both hF hX hM (j := j) (by omega) 11 0 (fSt F) 3000 (by omega) (by omega) hF.st
    refine ⟨r, ?_, h3⟩
    unfold f_X7_rounds_7
    rw [show (0 : Int32) = nI 0 from rfl, h2]
    rfl
/-- promise 16: lost -/
theorem q_lost (hF : OKF F) (hX : FX 12 F σX) (hM : FM 0 F σM) (v : Int32) : ∃ r, f_X8_lost v σX = some r ∧ f_X9_lost v σM = some r := by
  have hn := hF.1.1
  have hm := hF.m10
  have h10 := p10 hm
  unfold f_X8_lost f_X9_lost
  rw [bind_ok (x_isStone hX v), bind_ok (m_isStone hF.1 hM.1 v)]
  rcases inn_cases v (n := fN F) (by omega) with e | ⟨j, h1, rfl, e⟩
  · rw [e]; exact ⟨_, rfl, rfl⟩
  · rw [e, if_neg (by decide), if_neg (by decide), bind_ok (m_w2 hM), bind_ok (m_has (lt31 hF.th) (by omega))]
    unfold f_X1_isThere
    rw [hX.2.1, bind_ok (x_has (lt31 hF.th) (by omega)), bind_ok (zrt_01 (zb_01 _ _))]
    show ∃ r, (if zb (fTh F) j = 0 then _ else _) = some r ∧ _
    cases c : (fTh F).testBit j
    · rw [zb_0.mpr c]; exact ⟨_, rfl, rfl⟩
    · rw [zb_1.mpr c, if_neg (by decide), if_neg (by decide), bind_ok (m_beg hM), bind_ok (m_reachOf hF hM _), bind_ok (m_beg hM), bind_ok (m_all hF hM), bind_ok (m_w2 hM), z_bit (by omega), z_dif, z_dif, bind_ok (m_closure hF.1 hM.1 (by omega) (dif_lt hF.th)), z_dif, z_dif]
      refine ⟨_, ?_, rfl⟩
      unfold f_X0_lostBy
      rw [bind_ok (x_there hX), z_bit (by omega), z_dif, nm_eq, bind_ok (x_beg hX), z_lit 1023, bind_ok (x_reachBy hF.1 hX.1 (by decide) (dif_lt hF.th)), bind_ok (x_beg hX), bind_ok (x_reachOf hF hX _), z_dif, z_and]
      show some _ = some _
      congr 2
      have e1 : clo F (2 ^ fM F - 1) (dif (fTh F) (2 ^ j)) (dif (beg F) (2 ^ j)) = clo F 1023 (dif (fTh F) (2 ^ j)) (beg F) := by
        rw [clo_all hm]
        apply clo_set
        apply Nat.eq_of_testBit_eq
        intro i
        rw [Nat.testBit_and, Nat.testBit_and, dif_p hF.th, dif_p (beg_lt hF)]
        cases (beg F).testBit i <;> cases (fTh F).testBit i <;> simp
      rw [e1]
      apply Nat.eq_of_testBit_eq
      intro i
      rw [Nat.testBit_and, dif_p (dif_lt (rch_lt hF _)), dif_p hF.th]
      cases hr : (dif (rch F (beg F)) (clo F 1023 (dif (fTh F) (2 ^ j)) (beg F))).testBit i
      · rfl
      · have hr2 := hr
        rw [dif_tb (rch_lt hF _)] at hr2
        simp only [Bool.and_eq_true] at hr2
        rw [clo_sl F 1023 (fTh F) (beg F) i hr2.1]
        simp
end
end
section
section
variable {F : Fl} {σX σM : Sg}
/-- the told row, as both hold it -/
def TOLD (F : Fl) (σX σM : Sg) : Prop := ∃ tn, tn ≤ 12 ∧ σX.1 0 10 = nI tn ∧ σM.1 0 6 = nI tn ∧ ∀ j, j < tn → ∃ t, t < fM F ∧ σX.1 41 j = nI t ∧ σM.1 3 j = nI t
theorem aft_lt' (hF : OKF F) {t on : Nat} (ht : t < fM F) (h : on < 1024) : aft F (fTh F) t on < 1024 := aft_lt hF.1 ht h
/-- promise 27: judge -/
theorem q_judge (hF : OKF F) (hX : FX 12 F σX) (hM : FM 0 F σM) (hT : TOLD F σX σM) : ∃ r, f_X8_judge σX = some r ∧ f_X9_judge σM = some r := by
  obtain ⟨tn, h12, tX, tM, hrow⟩ := hT
  have key : ∀ k i on N, i + k = tn → k < N → on < 1024 → ∃ r, itr N (fun s => f_X8_judge_10s s.1 s.2 σX) (nI on, nI i) = some r ∧ itr N (fun s => f_X9_judge_9s s.1 s.2 σM) (nI on, nI i) = some r := by
    intro k
    induction k with
    | zero =>
      intro i on N hi hN ho
      obtain ⟨N, rfl⟩ : ∃ M, N = M + 1 := ⟨N - 1, by omega⟩
      refine ⟨-4, itr_out ?_, itr_out ?_⟩
      · show f_X8_judge_10s (nI on) (nI i) σX = _
        unfold f_X8_judge_10s
        rw [tX, if_pos (nI_le (by omega) (by omega))]
      · show f_X9_judge_9s (nI on) (nI i) σM = _
        unfold f_X9_judge_9s
        rw [tM, if_pos (nI_le (by omega) (by omega))]
    | succ k ih =>
      intro i on N hi hN ho
      obtain ⟨N, rfl⟩ : ∃ M, N = M + 1 := ⟨N - 1, by omega⟩
      obtain ⟨t, ht, eX, eM⟩ := hrow i (by omega)
      obtain ⟨ca, cb, cc⟩ := hF.1.c10 ht
      have gX : f_X8_judge_10s (nI on) (nI i) σX = if aft F (fTh F) t on = on then some (.inr (nI i)) else some (.inl (nI (aft F (fTh F) t on), nI (i + 1))) := by
        unfold f_X8_judge_10s
        rw [tX, if_neg (nI_ge (by omega) (by omega)), bind_ok (x_at (by omega) (by decide)), eX, bind_ok (x_aft hF.1 hX ht ho hF.th)]
        by_cases e : aft F (fTh F) t on = on
        · rw [e, if_pos rfl, if_pos rfl]
        · rw [if_neg e, if_neg (fun q => e ((nI_eq (lt31 (aft_lt' hF ht ho)) (lt31 ho)).mp q)), nm_eq, nI_1]
      have gM : f_X9_judge_9s (nI on) (nI i) σM = if aft F (fTh F) t on = on then some (.inr (nI i)) else some (.inl (nI (aft F (fTh F) t on), nI (i + 1))) := by
        unfold f_X9_judge_9s
        rw [tM, if_neg (nI_ge (by omega) (by omega)), bind_ok (ald_ok (by omega) (by decide)), eM, bind_ok (m_mayFrom hF hM ht ho)]
        by_cases e : aft F (fTh F) t on = on
        · rw [if_pos e, if_pos rfl, if_pos e]
        · rw [if_neg e, if_neg (by decide), if_neg e, bind_ok (ald_ok (by omega) (by decide)), eM, bind_ok (m_C hF hM ht), z_bit (by omega), z_or, nm_eq, nm_eq, nI_1, aft_eq e]
      by_cases e : aft F (fTh F) t on = on
      · rw [if_pos e] at gX gM
        exact ⟨_, itr_out gX, itr_out gM⟩
      · rw [if_neg e] at gX gM
        rw [itr_in gX, itr_in gM]
        exact ih (i + 1) _ N (by omega) (by omega) (aft_lt' hF ht ho)
  unfold f_X8_judge f_X9_judge
  rw [bind_ok (x_stood hX), bind_ok (m_w3 hM)]
  exact key tn 0 (fSt F) 3000 (by omega) (by omega) hF.st
-- draws
theorem z_l32 {n : Nat} (h : n < 2 ^ 31) : (nI n).toInt64 = lN n := nI_l h
theorem x_drawn (hF : OKF F) (hX : FX 12 F σX) {z k : Nat} (hz : z ≤ 9999) (hk : k < 99) :
    ∃ t, t < fM F ∧ f_X8_drawnStep (nI z) (nI k) σX = some (nI t) ∧ (lrm ((7919 * (nI z).toInt64 + 6151 * (nI k).toInt64 + 1) * (7919 * (nI z).toInt64 + 6151 * (nI k).toInt64 + 1)) 65521).bind (fun x6 => lrm x6 ((nI (fM F)).toInt64)) = some (lN t) := by
  have hm := hF.m10
  have h1 := hF.2.1
  have e0 : (7919 : Int64) * (nI z).toInt64 + 6151 * (nI k).toInt64 + 1 = lN (7919 * z + 6151 * k + 1) := by
    rw [z_l32 (by omega), z_l32 (by omega), show (7919 : Int64) = lN 7919 from rfl, show (6151 : Int64) = lN 6151 from rfl, lN_mul, lN_mul, lN_add, lN_1]
  have hb : (7919 * z + 6151 * k + 1) * (7919 * z + 6151 * k + 1) < 2 ^ 63 := by
    have : 7919 * z + 6151 * k + 1 ≤ 100000000 := by omega
    have := Nat.mul_le_mul this this
    omega
  have e1 : lrm (lN (7919 * z + 6151 * k + 1) * lN (7919 * z + 6151 * k + 1)) 65521 = some (lN ((7919 * z + 6151 * k + 1) * (7919 * z + 6151 * k + 1) % 65521)) := by
    unfold lrm
    rw [if_neg (by decide), lN_mul, show (65521 : Int64) = lN 65521 from rfl, pk_lRem hb (by decide) (by decide)]
  have hr : (7919 * z + 6151 * k + 1) * (7919 * z + 6151 * k + 1) % 65521 < 65521 := Nat.mod_lt _ (by decide)
  have e2 : lrm (lN ((7919 * z + 6151 * k + 1) * (7919 * z + 6151 * k + 1) % 65521)) (nI (fM F)).toInt64 = some (lN ((7919 * z + 6151 * k + 1) * (7919 * z + 6151 * k + 1) % 65521 % fM F)) := by
    unfold lrm
    rw [z_l32 (by omega), if_neg, pk_lRem (by omega) (by omega) (by omega)]
    intro q
    have := (pk_lEQ (a := fM F) (b := 0) (by omega) (by omega)).mp q
    omega
  refine ⟨(7919 * z + 6151 * k + 1) * (7919 * z + 6151 * k + 1) % 65521 % fM F, Nat.mod_lt _ (by omega), ?_, ?_⟩
  · unfold f_X8_drawnStep
    rw [bind_ok (x_steps hX), if_neg, nm_eq, e0, bind_ok e1, bind_ok e2, lN_i]
    intro q
    have := (nI_eq (a := fM F) (b := 0) (by omega) (by omega)).mp q
    omega
  · rw [e0, bind_ok e1, e2]
/-- promise 28: year -/
theorem year_both (hF : OKF F) (hX : FX 12 F σX) (hM : FM 0 F σM) {z n : Nat} (hz : z ≤ 9999) (hn : n ≤ 99) (w : Int32) : ∀ k i on g N, i + k = n → k < N → on < 1024 → pc on = pc (fSt F) + g →
    ∃ r, itr N (fun s => f_X8_year_45s (nI z) (nI n) w s.1 s.2 σX) (nI on, nI i) = some r ∧ itr N (fun s => f_X9_year_50s (nI z) (nI n) w s.1 s.2.1 s.2.2 σM) (nI on, nI g, nI i) = some r := by
  have hm := hF.m10
  intro k
  induction k with
  | zero =>
    intro i on g N hi hN ho hg
    obtain ⟨N, rfl⟩ : ∃ M, N = M + 1 := ⟨N - 1, by omega⟩
    have gX : f_X8_year_45s (nI z) (nI n) w (nI on) (nI i) σX = some (.inr (if w = 0 then nI g else nI on)) := by
      unfold f_X8_year_45s
      rw [if_pos (nI_le (by omega) (by omega))]
      by_cases c : w = 0
      · rw [if_pos c, if_pos c, bind_ok (x_bc _ ho), bind_ok (x_stood hX), bind_ok (x_bc _ hF.st), pk_sub (by omega), hg, Nat.add_sub_cancel_left]
        rfl
      · rw [if_neg c, if_neg c]; rfl
    have gM : f_X9_year_50s (nI z) (nI n) w (nI on) (nI g) (nI i) σM = some (.inr (if w = 0 then nI g else nI on)) := by
      unfold f_X9_year_50s
      rw [if_pos (nI_le (by omega) (by omega))]
      by_cases c : w = 0
      · rw [if_pos c, if_pos c]; rfl
      · rw [if_neg c, if_neg c]; rfl
    exact ⟨_, itr_out gX, itr_out gM⟩
  | succ k ih =>
    intro i on g N hi hN ho hg
    obtain ⟨N, rfl⟩ : ∃ M, N = M + 1 := ⟨N - 1, by omega⟩
    obtain ⟨t, ht, dX, dM⟩ := x_drawn hF hX (z := z) (k := i) hz (by omega)
    obtain ⟨ca, cb, cc⟩ := hF.1.c10 ht
    obtain ⟨x6, d1, d2⟩ : ∃ x6, lrm ((7919 * (nI z).toInt64 + 6151 * (nI i).toInt64 + 1) * (7919 * (nI z).toInt64 + 6151 * (nI i).toInt64 + 1)) 65521 = some x6 ∧ lrm x6 ((nI (fM F)).toInt64) = some (lN t) := by
      cases hq : lrm ((7919 * (nI z).toInt64 + 6151 * (nI i).toInt64 + 1) * (7919 * (nI z).toInt64 + 6151 * (nI i).toInt64 + 1)) 65521 with
      | none => rw [hq] at dM; cases dM
      | some x6 => rw [hq] at dM; exact ⟨x6, rfl, dM⟩
    have gX : f_X8_year_45s (nI z) (nI n) w (nI on) (nI i) σX = some (.inl (nI (aft F (fTh F) t on), nI (i + 1))) := by
      unfold f_X8_year_45s
      rw [if_neg (nI_ge (by omega) (by omega)), bind_ok dX, bind_ok (x_aft hF.1 hX ht ho hF.th), nm_eq, nI_1]
    by_cases e : aft F (fTh F) t on = on
    · have gM : f_X9_year_50s (nI z) (nI n) w (nI on) (nI g) (nI i) σM = some (.inl (nI on, nI g, nI (i + 1))) := by
        unfold f_X9_year_50s
        rw [if_neg (nI_ge (by omega) (by omega)), nm_eq, bind_ok d1, bind_ok (m_w4 hM), bind_ok d2, nm_eq, lN_i, bind_ok (m_mayFrom hF hM ht ho), if_pos e, if_pos rfl]
        unfold f_X9_year_125
        rw [nm_eq, nI_1]
      rw [e] at gX
      rw [itr_in gX, itr_in gM]
      exact ih (i + 1) on g N (by omega) (by omega) ho hg
    · have gM : f_X9_year_50s (nI z) (nI n) w (nI on) (nI g) (nI i) σM = some (.inl (nI (aft F (fTh F) t on), nI (g + 1), nI (i + 1))) := by
        unfold f_X9_year_50s
        rw [if_neg (nI_ge (by omega) (by omega)), nm_eq, bind_ok d1, bind_ok (m_w4 hM), bind_ok d2, nm_eq, lN_i, bind_ok (m_mayFrom hF hM ht ho), if_neg e, if_neg (by decide), bind_ok (m_C hF hM ht), z_bit (by omega), z_or, nm_eq, nm_eq, nI_1, aft_eq e]
        unfold f_X9_year_125
        rw [nm_eq, nI_1]
      rw [itr_in gX, itr_in gM]
      refine ih (i + 1) _ (g + 1) N (by omega) (by omega) (aft_lt' hF ht ho) ?_
      rw [aft_eq e, pc_add cc ((aft_ne _ _ _).mp e).2.2.2, hg]
      omega
theorem z_in1 (v : Int32) : f_X9_in v.toInt64 1 99 = some (if v < 1 ∨ 99 < v then 0 else 1) := by
  unfold f_X9_in
  have e1 : lg_cmp v.toInt64 1 < 0 ↔ v < 1 := by rw [lgc_lt, show (1 : Int64) = (1 : Int32).toInt64 by decide, fa_wide_lt]
  have e2 : (0 : Int32) < lg_cmp v.toInt64 99 ↔ 99 < v := by rw [lgc_gt, show (99 : Int64) = (99 : Int32).toInt64 by decide, fa_wide_lt]
  by_cases c1 : v < 1
  · rw [if_pos (e1.mpr c1), if_pos (Or.inl c1)]; rfl
  · rw [if_neg (fun q => c1 (e1.mp q))]
    by_cases c2 : 99 < v
    · rw [if_pos (e2.mpr c2), if_pos (Or.inr c2)]; rfl
    · rw [if_neg (fun q => c2 (e2.mp q)), if_neg (by rintro (q | q) <;> contradiction)]; rfl
theorem z_inK (v : Int32) (c : Int64) (n : Nat) (hn : n < 2 ^ 30) (hc : c = (nI n).toInt64) : f_X9_in v.toInt64 0 c = some (inn v (n + 1)) := by rw [hc]; exact z_rg v n hn
theorem inn_out {v : Int32} {n : Nat} (h : inn v n = 0) : v < 0 ∨ nI n ≤ v := by
  unfold inn at h
  by_cases c : v < 0 ∨ nI n ≤ v
  · exact c
  · rw [if_neg c] at h; cases h
theorem gt_of {v : Int32} {n : Nat} (hn : n < 2 ^ 30) : nI (n + 1) ≤ v ↔ nI n < v := by
  rw [fa_lt, Int32.le_iff_toInt_le, nI_toInt (by omega), nI_toInt (by omega)]
  omega
theorem q_year (hF : OKF F) (hX : FX 12 F σX) (hM : FM 0 F σM) (v1 v2 v3 : Int32) : ∃ r, f_X8_year v1 v2 v3 σX = some r ∧ f_X9_year v1 v2 v3 σM = some r := by
  unfold f_X8_year f_X9_year
  rw [bind_ok (z_inK v1 9999 9999 (by decide) (by decide))]
  rcases inn_cases v1 (n := 9999 + 1) (by decide) with e | ⟨z, hz, rfl, e⟩
  · rw [e, if_pos rfl]
    refine ⟨-1, ?_, rfl⟩
    rcases inn_out e with c | c
    · rw [if_pos c]; rfl
    · by_cases c1 : v1 < 0
      · rw [if_pos c1]; rfl
      · rw [if_neg c1, if_pos (show (9999 : Int32) < v1 from (gt_of (n := 9999) (by decide)).mp c)]; rfl
  rw [e, if_neg (by decide : ¬ (1 : Int32) = 0), if_neg (nI_pos (by omega)), if_neg (show ¬ (9999 : Int32) < nI z from nI_nlt (a := 9999) (b := z) (by omega) (by decide)), bind_ok (z_in1 v2)]
  by_cases c1 : v2 < 1
  · rw [if_pos c1, if_pos (Or.inl c1), if_pos rfl]; exact ⟨_, rfl, rfl⟩
  rw [if_neg c1]
  by_cases c2 : (99 : Int32) < v2
  · rw [if_pos c2, if_pos (Or.inr c2), if_pos rfl]; exact ⟨_, rfl, rfl⟩
  rw [if_neg c2, if_neg (show ¬ (v2 < 1 ∨ (99 : Int32) < v2) from fun q => q.elim c1 c2), if_neg (by decide : ¬ (1 : Int32) = 0), bind_ok (z_inK v3 1 1 (by decide) (by decide))]
  obtain ⟨n, hn, rfl⟩ : ∃ n, n ≤ 99 ∧ v2 = nI n := by
    rcases pk_ix v2 (n := 100) (by decide) with q | q | ⟨j, q1, q2⟩
    · exact absurd (by rw [fa_lt] at q ⊢; exact Int.lt_trans q (by decide)) c1
    · exact absurd ((gt_of (n := 99) (by decide)).mp q) c2
    · exact ⟨j, by omega, q2⟩
  rcases inn_cases v3 (n := 1 + 1) (by decide) with e | ⟨w, hw, rfl, e⟩
  · rw [e, if_pos rfl]
    refine ⟨-1, ?_, rfl⟩
    rcases inn_out e with c | c
    · rw [if_pos c]; rfl
    · by_cases c1 : v3 < 0
      · rw [if_pos c1]; rfl
      · rw [if_neg c1, if_neg]
        · rfl
        · intro q
          have := (gt_of (v := v3) (n := 1) (by decide)).mp c
          rw [fa_lt] at this
          rw [Int32.le_iff_toInt_le] at q
          have e1 : (nI 1).toInt = (1 : Int32).toInt := rfl
          omega
  · rw [e, if_neg (by decide : ¬ (1 : Int32) = 0), if_neg (nI_pos (by omega)), if_pos (show nI w ≤ (1 : Int32) from nI_le (a := w) (b := 1) (by omega) (by decide)), bind_ok (x_stood hX), bind_ok (m_w3 hM)]
    exact year_both hF hX hM (by omega) hn (nI w) n 0 (fSt F) 0 3000 (by omega) (by omega) hF.st (by omega)
/-- promise 20: idle -/
theorem q_idle (hF : OKF F) (hX : FX 12 F σX) (hM : FM 0 F σM) : ∃ r, f_X8_idle σX = some r ∧ f_X9_idle σM = some r := by
  have hm := hF.m10
  have hn := hF.1.1
  have h10 := p10 hm
  have h10n := p10 hn.2
  obtain ⟨il, hil⟩ : ∃ il : Nat → Nat → Nat, il = fun t acc => if (clo F (dif 1023 (2 ^ t)) (2 ^ fN F - 1) (2 ^ fA F t ||| 2 ^ fB F t)).testBit (fC F t) = true then acc ||| 2 ^ t else acc := ⟨_, rfl⟩
  refine ⟨nI (fo il 0 (fM F)), ?_, ?_⟩
  · unfold f_X8_idle f_X5_idleSteps f_X5_idleSteps_4
    refine Eq.trans (bind_ok (x := nI (fo il 0 (fM F))) (itr_run (fun k => (nI (fo il 0 k), nI k)) (fM F) rfl (by omega) (fun k hk => ?_) ?_)) rfl
    · obtain ⟨ca, cb, cc⟩ := hF.1.c10 hk
      have hq := hX.1.2.2.2.1 k hk
      show f_X5_idleSteps_4s (nI (fo il 0 k)) (nI k) σX = _
      unfold f_X5_idleSteps_4s
      rw [bind_ok (x_steps hX), if_neg (nI_ge hk (by omega)), z_bit (by omega), z_lit 1023, z_dif, nm_eq]
      have e1 : f_X1_originsOf 12 (nI k) σX = some (nI (2 ^ fA F k ||| 2 ^ fB F k)) := by
        unfold f_X1_originsOf
        rw [bind_ok (x_at (by omega) (by decide)), hq.2.2.2]
      have e2 : f_X1_endOf 12 (nI k) σX = some (nI (fC F k)) := by
        unfold f_X1_endOf
        rw [bind_ok (x_at (by omega) (by decide)), hq.2.2.1]
      rw [bind_ok e1, bind_ok (x_allStones hF hX), bind_ok (x_reachBy hF.1 hX.1 (dif_lt (by decide)) (by omega)), bind_ok e2, bind_ok (x_has (lt31 (clo_lt hF.1 (by omega))) (by omega)), fo_s]
      cases c : (clo F (dif 1023 (2 ^ k)) (2 ^ fN F - 1) (2 ^ fA F k ||| 2 ^ fB F k)).testBit (fC F k)
      · rw [zb_0.mpr c, if_pos rfl, show il k (fo il 0 k) = fo il 0 k by rw [hil]; simp only [c]; rfl]
        unfold f_X5_idleSteps_57
        rw [nm_eq, nI_1]
      · rw [zb_1.mpr c, if_neg (by decide), nm_eq, z_or, show il k (fo il 0 k) = fo il 0 k ||| 2 ^ k by rw [hil]; simp only [c]; rfl]
        unfold f_X5_idleSteps_57
        rw [nm_eq, nI_1]
    · show f_X5_idleSteps_4s (nI (fo il 0 (fM F))) (nI (fM F)) σX = _
      unfold f_X5_idleSteps_4s
      rw [bind_ok (x_steps hX), if_pos (nI_le (Nat.le_refl _) (by omega))]
  · unfold f_X9_idle f_X9_idle_4
    refine itr_run (fun k => (nI (fo il 0 k), nI k)) (fM F) rfl (by omega) (fun k hk => ?_) ?_
    · obtain ⟨ca, cb, cc⟩ := hF.1.c10 hk
      have hq := hM.1.2.2.2.1 k hk
      simp only [Nat.zero_add] at hq
      show f_X9_idle_4s (nI (fo il 0 k)) (nI k) σM = _
      unfold f_X9_idle_4s
      rw [bind_ok (m_w4 hM), if_neg (nI_ge hk (by omega)), z_lit 5, bind_ok (m_wk 5 (by omega)), hq.1, z_lit 15, bind_ok (m_wk 15 (by omega)), hq.2.1, bind_ok (m_all hF hM), bind_ok (m_w0 hM), z_bit (by omega), z_bit (by omega), z_bit (by omega), z_bit (by omega), z_or, z_dif, show nI (2 ^ fN F) - 1 = nI (2 ^ fN F - 1) from pk_sub (b := 1) Nat.one_le_two_pow, bind_ok (m_closure hF.1 hM.1 (dif_lt (by omega)) (by omega)), bind_ok (m_C hF hM hk), bind_ok (m_has (lt31 (clo_lt hF.1 (by omega))) (by omega)), fo_s]
      rw [clo_st (F := F) (s1 := dif (2 ^ fM F - 1) (2 ^ k)) (s2 := dif 1023 (2 ^ k)) (fun t ht => by rw [dif_p (by omega), dif_p (by decide), all_tb, a1023]; simp [ht, show t < 10 by omega])]
      cases c : (clo F (dif 1023 (2 ^ k)) (2 ^ fN F - 1) (2 ^ fA F k ||| 2 ^ fB F k)).testBit (fC F k)
      · rw [zb_0.mpr c, if_pos rfl, show il k (fo il 0 k) = fo il 0 k by rw [hil]; simp only [c]; rfl]
        unfold f_X9_idle_85
        rw [nm_eq, nm_eq, nI_1, z_or0]
      · rw [zb_1.mpr c, if_neg (by decide), show il k (fo il 0 k) = fo il 0 k ||| 2 ^ k by rw [hil]; simp only [c]; rfl]
        unfold f_X9_idle_85
        rw [nm_eq, nm_eq, nI_1, z_or]
    · show f_X9_idle_4s (nI (fo il 0 (fM F))) (nI (fM F)) σM = _
      unfold f_X9_idle_4s
      rw [bind_ok (m_w4 hM), if_pos (nI_le (Nat.le_refl _) (by omega))]
end
end
section
-- the hall; is an aim met
def gc (F : Fl) (x s : Nat) : Bool := x.testBit s && decide (fG F s &&& x ≠ 0)
def hl1 (F : Fl) (x s : Nat) (is : Bool) : Bool := is || gc F x s
def hall (F : Fl) (x : Nat) : Bool := fo (hl1 F x) false (fN F)
theorem hl_iff (F : Fl) (x : Nat) : ∀ k, fo (hl1 F x) false k = true ↔ ∃ s, s < k ∧ gc F x s = true := by
  intro k
  induction k with
  | zero => simp [fo]
  | succ k ih =>
    rw [fo_s]
    unfold hl1
    rw [Bool.or_eq_true]
    constructor
    · rintro (h | h)
      · obtain ⟨s, h1, h2⟩ := ih.mp h
        exact ⟨s, by omega, h2⟩
      · exact ⟨k, by omega, h⟩
    · rintro ⟨s, h1, h2⟩
      by_cases e : s = k
      · subst e; exact Or.inr h2
      · exact Or.inl (ih.mpr ⟨s, by omega, h2⟩)
theorem and_ne0 {x y : Nat} : x &&& y ≠ 0 ↔ ∃ k, x.testBit k = true ∧ y.testBit k = true := by
  constructor
  · intro h
    refine Classical.byContradiction (fun hc => h ?_)
    apply Nat.eq_of_testBit_eq
    intro i
    rw [Nat.testBit_and, Nat.zero_testBit]
    cases h1 : x.testBit i <;> cases h2 : y.testBit i <;> simp
    exact hc ⟨i, h1, h2⟩
  · rintro ⟨k, h1, h2⟩ e
    have := congrArg (fun z => Nat.testBit z k) e
    simp [h1, h2] at this
theorem hall_mono {F : Fl} {x y : Nat} (h : sub x y) (hx : hall F x = true) : hall F y = true := by
  obtain ⟨s, h1, h2⟩ := (hl_iff F x _).mp hx
  refine (hl_iff F y _).mpr ⟨s, h1, ?_⟩
  unfold gc at h2 ⊢
  simp only [Bool.and_eq_true, decide_eq_true_eq] at h2 ⊢
  obtain ⟨k, g1, g2⟩ := and_ne0.mp h2.2
  exact ⟨h s h2.1, and_ne0.mpr ⟨k, g1, h k g2⟩⟩
theorem hall_0 (F : Fl) : hall F 0 = false := by
  cases h : hall F 0
  · rfl
  · obtain ⟨s, h1, h2⟩ := (hl_iff F 0 _).mp h
    unfold gc at h2
    simp at h2
/-- a truth as the class tells it -/
def bz (b : Bool) : Int32 := if b then 1 else 0
theorem bz_01 (b : Bool) : bz b = 0 ∨ bz b = 1 := by cases b <;> simp [bz]
theorem zb_bz (a k : Nat) : zb a k = bz (a.testBit k) := by unfold zb bz; rfl
theorem bz_t : bz true = 1 := rfl
theorem bz_f : bz false = 0 := rfl
theorem z_e0 : nI 0 = (0 : Int32) := rfl
theorem z_ne0 {a : Nat} (h : a < 2 ^ 31) (h2 : a ≠ 0) : ¬ nI a = (0 : Int32) := fun q => h2 ((nI_eq h (by decide)).mp (show nI a = nI 0 from q))
theorem nI_neg {j : Nat} (h : j < 2 ^ 31) : ¬ nI j = -1 ∧ ¬ nI j = -2 ∧ ¬ nI j = -4 := by
  refine ⟨?_, ?_, ?_⟩ <;> (intro e; have := nI_toInt h; rw [e] at this; revert this; simp; try omega)
section
variable {F : Fl} {σX σM : Sg}
theorem x_gain (hX : FX 12 F σX) {s : Nat} (hs : s < 10) : f_X1_gainsayersOf 12 (nI s) σX = some (nI (fG F s)) := by
  unfold f_X1_gainsayersOf
  rw [bind_ok (x_at hs (by decide)), (hX.1.2.2.2.2 s hs).1]
theorem x_hasG (hF : OKF F) (hX : FX 12 F σX) {x : Nat} (hx : x < 1024) : f_X1_hasGainsayersIn 12 (nI x) σX = some (bz (hall F x)) := by
  have hn := hF.1.1
  have key : ∀ k s N, s + k = fN F → k < N → fo (hl1 F x) false s = false → itr N (fun z => f_X1_hasGainsayersIn_2s 12 (nI x) z σX) (nI s) = some (bz (hall F x)) := by
    intro k
    induction k with
    | zero =>
      intro s N hs hN hf
      obtain ⟨N, rfl⟩ : ∃ M, N = M + 1 := ⟨N - 1, by omega⟩
      obtain rfl : s = fN F := by omega
      refine itr_out ?_
      unfold f_X1_hasGainsayersIn_2s
      rw [hX.1.1, if_pos (nI_le (Nat.le_refl _) (by omega)), show hall F x = false from hf]
      rfl
    | succ k ih =>
      intro s N hs hN hf
      obtain ⟨N, rfl⟩ : ∃ M, N = M + 1 := ⟨N - 1, by omega⟩
      have e : f_X1_hasGainsayersIn_2s 12 (nI x) (nI s) σX = if gc F x s = true then some (.inr 1) else some (.inl (nI (s + 1))) := by
        unfold f_X1_hasGainsayersIn_2s
        rw [hX.1.1, if_neg (nI_ge (by omega) (by omega)), bind_ok (x_has (lt31 hx) (by omega))]
        unfold gc
        cases c : x.testBit s
        · rw [zb_0.mpr c, if_pos rfl]
          unfold f_X1_hasGainsayersIn_30
          rw [nm_eq, nI_1]
          rfl
        · rw [zb_1.mpr c, if_neg (by decide), bind_ok (x_gain hX (by omega)), z_and]
          by_cases c2 : fG F s &&& x = 0
          · rw [c2, if_pos z_e0]
            unfold f_X1_hasGainsayersIn_30
            rw [nm_eq, nI_1]
            rfl
          · rw [if_neg (z_ne0 (lt31 (and10 _ hx)) c2)]
            simp only [ne_eq, c2, not_false_eq_true, decide_true, Bool.and_self, if_true]
            rfl
      by_cases c : gc F x s = true
      · rw [if_pos c] at e
        rw [itr_out e, show hall F x = true from (hl_iff F x _).mpr ⟨s, by omega, c⟩]
        rfl
      · rw [if_neg c] at e
        rw [itr_in e]
        refine ih (s + 1) N (by omega) (by omega) ?_
        rw [fo_s, hf]
        unfold hl1
        simpa using c
  unfold f_X1_hasGainsayersIn f_X1_hasGainsayersIn_2
  exact key (fN F) 0 3000 (by omega) (by omega) rfl
theorem m_isHall (hF : OKF F) (hM : FM 0 F σM) (v : Nat) : f_X9_isHall (nI v) σM = some (bz (hall F (rch F v))) := by
  have hn := hF.1.1
  have hx := rch_lt hF v
  unfold f_X9_isHall
  rw [bind_ok (m_reachOf hF hM v)]
  unfold f_X9_isHall_11
  refine itr_run (fun k => (bz (fo (hl1 F (rch F v)) false k), nI k)) (fN F) rfl (by omega) (fun k hk => ?_) ?_
  · show f_X9_isHall_11s (nI (rch F v)) (bz (fo (hl1 F (rch F v)) false k)) (nI k) σM = some (.inl (bz (fo (hl1 F (rch F v)) false (k + 1)), nI (k + 1)))
    have hq := (hM.1.2.2.2.2 k (by omega)).1
    rw [Nat.zero_add] at hq
    have l50 : f_X9_isHall_50 (nI (rch F v)) (nI k) σM = some (.inl (1, nI (k + 1))) := by
      unfold f_X9_isHall_50 f_X9_isHall_55
      rw [nm_eq, nI_1]
    have l54 : f_X9_isHall_54 (nI (rch F v)) (nI k) σM = some (.inl (0, nI (k + 1))) := by
      unfold f_X9_isHall_54 f_X9_isHall_55
      rw [nm_eq, nI_1]
    rw [fo_s]
    unfold f_X9_isHall_11s
    rw [bind_ok (m_w0 hM), if_neg (nI_ge hk (by omega))]
    cases c0 : fo (hl1 F (rch F v)) false k
    · rw [bz_f, if_pos rfl, bind_ok (m_has (lt31 hx) (by omega)), show hl1 F (rch F v) k false = gc F (rch F v) k from rfl]
      unfold gc
      cases c : (rch F v).testBit k
      · rw [zb_0.mpr c, if_pos rfl, l54]; rfl
      · rw [zb_1.mpr c, if_neg (by decide), z_lit 45, bind_ok (m_wk 45 (by omega)), hq, z_and]
        by_cases c2 : fG F k &&& rch F v = 0
        · rw [c2, if_pos z_e0, l54]; rfl
        · rw [if_neg (z_ne0 (lt31 (and10 _ hx)) c2), l50]
          simp only [ne_eq, c2, not_false_eq_true, decide_true, Bool.and_self]
          rfl
    · rw [bz_t, if_neg (by decide), l50]
      rfl
  · show f_X9_isHall_11s (nI (rch F v)) (bz (hall F (rch F v))) (nI (fN F)) σM = _
    unfold f_X9_isHall_11s
    rw [bind_ok (m_w0 hM), if_pos (nI_le (Nat.le_refl _) (by omega)), bind_ok (zrt_01 (bz_01 _))]
theorem x_met0 (hF : OKF F) (hX : FX 12 F σX) (v : Nat) : (f_X1_there 12 σX).bind (fun q1 => f_X1_reachBy 12 (nI v) 1023 q1 σX) = some (nI (rch F v)) := by
  rw [bind_ok (x_there hX), z_lit 1023, x_reachBy hF.1 hX.1 (by decide) hF.th]
  rfl
theorem x_met_s (hF : OKF F) (hX : FX 12 F σX) {j : Nat} (hj : j < 10) (v : Nat) : f_X0_isMet (nI j) (nI v) σX = some (bz ((rch F v).testBit j)) := by
  unfold f_X0_isMet
  rw [bind_ok (x_there hX), z_lit 1023, bind_ok (x_reachBy hF.1 hX.1 (by decide) hF.th), if_neg (nI_neg (by omega)).1, if_neg (nI_neg (by omega)).2.1, bind_ok (x_has (lt31 (clo_lt hF.1 hF.th)) (by omega)), bind_ok (zrt_01 (zb_01 _ _)), zb_bz]
  rfl
theorem x_met_h (hF : OKF F) (hX : FX 12 F σX) (v : Nat) : f_X0_isMet (-1) (nI v) σX = some (bz (hall F (rch F v))) := by
  unfold f_X0_isMet
  rw [bind_ok (x_there hX), z_lit 1023, bind_ok (x_reachBy hF.1 hX.1 (by decide) hF.th), if_pos rfl, bind_ok (x_hasG hF hX (clo_lt hF.1 hF.th)), bind_ok (zrt_01 (bz_01 _))]
  rfl
theorem x_met_n (hF : OKF F) (hX : FX 12 F σX) (v : Nat) : f_X0_isMet (-2) (nI v) σX = some (bz (!hall F (rch F v))) := by
  unfold f_X0_isMet
  rw [bind_ok (x_there hX), z_lit 1023, bind_ok (x_reachBy hF.1 hX.1 (by decide) hF.th), if_neg (by decide), if_pos rfl, bind_ok (x_hasG hF hX (clo_lt hF.1 hF.th))]
  rw [show clo F 1023 (fTh F) v = rch F v from rfl]
  cases hall F (rch F v) <;> rfl
end
-- the least of the smallest
def IsMin (P : Nat → Prop) (b : Nat) : Prop := P b ∧ ∀ s, P s → pc b < pc s ∨ (pc b = pc s ∧ b ≤ s)
theorem IsMin.eq {P : Nat → Prop} {a b : Nat} (h : IsMin P a) (g : IsMin P b) : a = b := by
  rcases h.2 b g.1 with q | ⟨q1, q2⟩ <;> rcases g.2 a h.1 with r | ⟨r1, r2⟩ <;> omega
theorem sub_le {x y : Nat} (h : sub x y) : x ≤ y := by
  rw [← and_sub.mpr h]
  exact Nat.and_le_left
def up1s (ok : Nat → Bool) (ch s best : Nat) : Nat := if pc s < pc best ∧ ch &&& s = s ∧ ok s = true then s else best
theorem up_min {ok : Nat → Bool} {ch : Nat} (hc : ch < 1024) (h0 : ok ch = true) : IsMin (fun s => sub s ch ∧ ok s = true) (fo (up1s ok ch) ch ch) := by
  have key : ∀ k, k ≤ ch → (sub (fo (up1s ok ch) ch k) ch ∧ ok (fo (up1s ok ch) ch k) = true) ∧ (∀ s, s < k → sub s ch ∧ ok s = true → pc (fo (up1s ok ch) ch k) < pc s ∨ (pc (fo (up1s ok ch) ch k) = pc s ∧ fo (up1s ok ch) ch k ≤ s)) ∧ (fo (up1s ok ch) ch k = ch ∨ fo (up1s ok ch) ch k < k) := by
    intro k
    induction k with
    | zero => intro _; exact ⟨⟨sub_rfl _, h0⟩, fun s hs => absurd hs (by omega), Or.inl rfl⟩
    | succ k ih =>
      intro hk
      obtain ⟨h1, h2, h3⟩ := ih (by omega)
      rw [fo_s]
      generalize fo (up1s ok ch) ch k = b at h1 h2 h3
      unfold up1s
      split
      · rename_i q
        refine ⟨⟨and_sub.mp q.2.1, q.2.2⟩, fun s hs hP => ?_, Or.inr (by omega)⟩
        rcases Nat.lt_or_ge s k with e | e
        · rcases h2 s e hP with r | ⟨r1, r2⟩ <;> exact Or.inl (by omega)
        · obtain rfl : s = k := by omega
          exact Or.inr ⟨rfl, Nat.le_refl _⟩
      · rename_i q
        refine ⟨h1, fun s hs hP => ?_, h3.imp id (fun z => by omega)⟩
        rcases Nat.lt_or_ge s k with e | e
        · exact h2 s e hP
        · obtain rfl : s = k := by omega
          have q2 : ¬ pc s < pc b := fun z => q ⟨z, and_sub.mpr hP.1, hP.2⟩
          rcases Nat.lt_or_ge (pc b) (pc s) with z | z
          · exact Or.inl z
          · refine Or.inr ⟨by omega, ?_⟩
            rcases h3 with z2 | z2
            · exfalso
              have := pc_lt hc hP.1 (by omega)
              rw [z2] at q2
              exact q2 this
            · omega
  obtain ⟨h1, h2, h3⟩ := key ch (Nat.le_refl _)
  refine ⟨h1, fun s hP => ?_⟩
  rcases Nat.lt_or_ge s ch with e | e
  · exact h2 s e hP
  · obtain rfl : s = ch := by have := sub_le hP.1; omega
    rcases h3 with z | z
    · exact Or.inr ⟨by rw [z], by omega⟩
    · exact Or.inl (pc_lt hc h1.1 (by omega))
def dn1s (ok : Nat → Bool) (ch i best : Nat) : Nat := if ch &&& (ch - i) = ch - i ∧ ok (ch - i) = true ∧ pc (ch - i) ≤ pc best then ch - i else best
theorem dn_min {ok : Nat → Bool} {ch : Nat} (h0 : ok ch = true) : IsMin (fun s => sub s ch ∧ ok s = true) (fo (dn1s ok ch) ch (ch + 1)) := by
  have key : ∀ i, i ≤ ch + 1 → (sub (fo (dn1s ok ch) ch i) ch ∧ ok (fo (dn1s ok ch) ch i) = true) ∧ (∀ s, ch < s + i → sub s ch ∧ ok s = true → pc (fo (dn1s ok ch) ch i) < pc s ∨ (pc (fo (dn1s ok ch) ch i) = pc s ∧ fo (dn1s ok ch) ch i ≤ s)) := by
    intro i
    induction i with
    | zero => intro _; exact ⟨⟨sub_rfl _, h0⟩, fun s hs hP => absurd (sub_le hP.1) (by omega)⟩
    | succ i ih =>
      intro hi
      obtain ⟨h1, h2⟩ := ih (by omega)
      rw [fo_s]
      generalize fo (dn1s ok ch) ch i = b at h1 h2
      unfold dn1s
      split
      · rename_i q
        refine ⟨⟨and_sub.mp q.1, q.2.1⟩, fun s hs hP => ?_⟩
        rcases Nat.lt_or_ge ch (s + i) with e | e
        · rcases h2 s e hP with r | ⟨r1, r2⟩
          · exact Or.inl (by omega)
          · rcases Nat.lt_or_ge (pc (ch - i)) (pc s) with z | z
            · exact Or.inl z
            · exact Or.inr ⟨by omega, by omega⟩
        · obtain rfl : s = ch - i := by omega
          exact Or.inr ⟨rfl, Nat.le_refl _⟩
      · rename_i q
        refine ⟨h1, fun s hs hP => ?_⟩
        rcases Nat.lt_or_ge ch (s + i) with e | e
        · exact h2 s e hP
        · obtain rfl : s = ch - i := by omega
          refine Or.inl ?_
          rcases Nat.lt_or_ge (pc b) (pc (ch - i)) with z | z
          · exact z
          · exact absurd ⟨and_sub.mpr hP.1, hP.2, z⟩ q
  obtain ⟨h1, h2⟩ := key (ch + 1) (Nat.le_refl _)
  exact ⟨h1, fun s hP => h2 s (by omega) hP⟩
end
section
theorem dif_0 {x y : Nat} (hx : x < 1024) : dif x y = 0 ↔ sub x y := by
  constructor
  · intro h k hk
    have := congrArg (fun z => Nat.testBit z k) h
    simp only [dif_tb hx, Nat.zero_testBit, hk, Bool.true_and, Bool.not_eq_false'] at this
    exact this
  · intro h
    apply Nat.eq_of_testBit_eq
    intro i
    rw [dif_tb hx, Nat.zero_testBit]
    cases hi : x.testBit i
    · rfl
    · rw [h i hi]; rfl
theorem xor10 {x y : Nat} (h : x < 1024) (g : y < 1024) : x ^^^ y < 1024 := Nat.xor_lt_two_pow (n := 10) h g
/-- from ch down to -1 -/
def sI (ch i : Nat) : Int32 := if i ≤ ch then nI (ch - i) else -1
theorem sI_in {ch i : Nat} (h : i ≤ ch) : sI ch i = nI (ch - i) := if_pos h
theorem sI_out (ch : Nat) : sI ch (ch + 1) = -1 := if_neg (by omega)
theorem sI_s {ch i : Nat} (h : i ≤ ch) : nI (ch - i) + (-1) = sI ch (i + 1) := by
  rcases Nat.lt_or_ge i ch with q | q
  · rw [sI_in (by omega), show ch - i = (ch - (i + 1)) + 1 by omega]
    exact pk_m1 _
  · obtain rfl : i = ch := by omega
    rw [sI_out, Nat.sub_self]
    decide +kernel
def ub1 (p : Nat → Bool) (k : Nat) (o : Option Nat) : Option Nat := match o with
  | none => if p k = true then some k else none
  | some b => if p k = true ∧ pc k < pc b then some k else some b
theorem ub_min (p : Nat → Bool) : ∀ K, (fo (ub1 p) none K = none ∧ ∀ s, s < K → p s = false) ∨ ∃ b, fo (ub1 p) none K = some b ∧ b < K ∧ IsMin (fun s => s < K ∧ p s = true) b := by
  intro K
  induction K with
  | zero => exact Or.inl ⟨rfl, fun s hs => absurd hs (by omega)⟩
  | succ k ih =>
    rw [fo_s]
    rcases ih with ⟨h1, h2⟩ | ⟨b, h1, h2, h3⟩
    · rw [h1]
      cases c : p k
      · refine Or.inl ⟨by simp [ub1, c], fun s hs => ?_⟩
        rcases Nat.lt_or_ge s k with e | e
        · exact h2 s e
        · obtain rfl : s = k := by omega
          exact c
      · refine Or.inr ⟨k, by simp [ub1, c], by omega, ⟨by omega, c⟩, fun s hs => ?_⟩
        rcases Nat.lt_or_ge s k with e | e
        · have hs2 : s < k + 1 ∧ p s = true := hs
          rw [h2 s e] at hs2
          exact absurd hs2.2 (by decide)
        · obtain rfl : s = k := by omega
          exact Or.inr ⟨rfl, Nat.le_refl _⟩
    · rw [h1]
      by_cases c : p k = true ∧ pc k < pc b
      · refine Or.inr ⟨k, by simp [ub1, c], by omega, ⟨by omega, c.1⟩, fun s hs => ?_⟩
        rcases Nat.lt_or_ge s k with e | e
        · rcases h3.2 s ⟨e, hs.2⟩ with r | ⟨r1, r2⟩ <;> exact Or.inl (by omega)
        · obtain rfl : s = k := by omega
          exact Or.inr ⟨rfl, Nat.le_refl _⟩
      · refine Or.inr ⟨b, by simp [ub1, c], by omega, ⟨by omega, h3.1.2⟩, fun s hs => ?_⟩
        rcases Nat.lt_or_ge s k with e | e
        · exact h3.2 s ⟨e, hs.2⟩
        · obtain rfl : s = k := by omega
          have : ¬ pc s < pc b := fun z => c ⟨hs.2, z⟩
          rcases Nat.lt_or_ge (pc b) (pc s) with z | z
          · exact Or.inl z
          · exact Or.inr ⟨by omega, by omega⟩
/-- a number or none, as the reference holds it -/
def cd (o : Option Nat) : Int32 := match o with
  | none => -4
  | some b => nI b
section
variable {F : Fl} {σX σM : Sg}
theorem x_fewT {aim : Int32} {ok : Nat → Bool} (hmet : ∀ v, f_X0_isMet aim (nI v) σX = some (bz (ok v))) {start ch : Nat} (hc : ch < 1024) :
    f_X0_fewestTurned aim (nI start) (nI ch) σX = if ok (start ^^^ ch) = true then some (nI (fo (up1s (fun s => ok (start ^^^ s)) ch) ch ch)) else some (-4) := by
  unfold f_X0_fewestTurned
  rw [z_xor, bind_ok (hmet _)]
  cases c : ok (start ^^^ ch)
  · rfl
  · rw [bz_t, if_neg (by decide), if_pos rfl, bind_ok (x_bc _ hc)]
    unfold f_X0_fewestTurned_26
    have hle : ∀ k, k ≤ ch → fo (up1s (fun s => ok (start ^^^ s)) ch) ch k ≤ ch := by
      intro k
      induction k with
      | zero => intro _; exact Nat.le_refl _
      | succ k ih =>
        intro hk
        rw [fo_s]
        unfold up1s
        split
        · omega
        · exact ih (by omega)
    refine itr_run (fun k => (nI (fo (up1s (fun s => ok (start ^^^ s)) ch) ch k), nI (pc (fo (up1s (fun s => ok (start ^^^ s)) ch) ch k)), nI k)) ch rfl (by omega) (fun k hk => ?_) ?_
    · have hb := hle k (by omega)
      have hp1 := pc_le k
      have hp2 := pc_le (fo (up1s (fun s => ok (start ^^^ s)) ch) ch k)
      have same : ∀ b, f_X0_fewestTurned_75 aim (nI start) (nI ch) (nI b) (nI (pc b)) (nI k) σX = some (.inl (nI b, nI (pc b), nI (k + 1))) := by
        intro b
        unfold f_X0_fewestTurned_75
        rw [nm_eq, nI_1]
      show f_X0_fewestTurned_26s aim (nI start) (nI ch) (nI (fo (up1s (fun s => ok (start ^^^ s)) ch) ch k)) (nI (pc (fo (up1s (fun s => ok (start ^^^ s)) ch) ch k))) (nI k) σX = some (.inl (nI (fo (up1s (fun s => ok (start ^^^ s)) ch) ch (k + 1)), nI (pc (fo (up1s (fun s => ok (start ^^^ s)) ch) ch (k + 1))), nI (k + 1)))
      rw [fo_s]
      generalize fo (up1s (fun s => ok (start ^^^ s)) ch) ch k = b at hb hp2 ⊢
      unfold f_X0_fewestTurned_26s
      rw [if_neg (nI_ge hk (by omega)), bind_ok (x_bc _ (by omega))]
      by_cases c1 : pc k < pc b
      · rw [if_neg (nI_ge c1 (by omega)), bind_ok (x_holds _ _ (by omega) (by omega))]
        by_cases c2 : ch &&& k = k
        · rw [if_pos c2, if_neg (by decide), z_xor, bind_ok (hmet _)]
          cases c3 : ok (start ^^^ k)
          · rw [bz_f, if_pos rfl, same, show up1s (fun s => ok (start ^^^ s)) ch k b = b from if_neg (fun q => by have q3 : ok (start ^^^ k) = true := q.2.2; rw [c3] at q3; cases q3)]
          · rw [bz_t, if_neg (by decide), same, show up1s (fun s => ok (start ^^^ s)) ch k b = k from if_pos ⟨c1, c2, c3⟩]
        · rw [if_neg c2, if_pos rfl, same, show up1s (fun s => ok (start ^^^ s)) ch k b = b from if_neg (fun q => c2 q.2.1)]
      · rw [if_pos (nI_le (by omega) (by omega)), same, show up1s (fun s => ok (start ^^^ s)) ch k b = b from if_neg (fun q => c1 q.1)]
    · show f_X0_fewestTurned_26s aim (nI start) (nI ch) (nI (fo (up1s (fun s => ok (start ^^^ s)) ch) ch ch)) _ (nI ch) σX = _
      unfold f_X0_fewestTurned_26s
      rw [if_pos (nI_le (Nat.le_refl _) (by omega))]
theorem dn_le (ok : Nat → Bool) (ch : Nat) : ∀ k, fo (dn1s ok ch) ch k ≤ ch := by
  intro k
  induction k with
  | zero => exact Nat.le_refl _
  | succ k ih =>
    rw [fo_s]
    unfold dn1s
    split
    · omega
    · exact ih
/-- needs: those without each of which it is not -/
def nd1 (F : Fl) (j b acc : Nat) : Nat := if (beg F).testBit b = true ∧ (rch F (dif (beg F) (2 ^ b))).testBit j = false then acc ||| 2 ^ b else acc
theorem x_needed (hF : OKF F) (hX : FX 12 F σX) {j : Nat} (hj : j < 10) : f_X0_neededFor (nI j) σX = some (nI (fo (nd1 F j) 0 (fN F))) := by
  have hn := hF.1.1
  unfold f_X0_neededFor f_X0_neededFor_4
  refine itr_run (fun k => (nI (fo (nd1 F j) 0 k), nI k)) (fN F) rfl (by omega) (fun k hk => ?_) ?_
  · show f_X0_neededFor_4s (nI j) (nI (fo (nd1 F j) 0 k)) (nI k) σX = some (.inl (nI (fo (nd1 F j) 0 (k + 1)), nI (k + 1)))
    have go : ∀ a, f_X0_neededFor_51 (nI j) (nI a) (nI k) σX = some (.inl (nI a, nI (k + 1))) := by
      intro a
      unfold f_X0_neededFor_51
      rw [nm_eq, nI_1]
    rw [fo_s]
    generalize fo (nd1 F j) 0 k = a
    unfold f_X0_neededFor_4s
    rw [bind_ok (x_stones hX), if_neg (nI_ge hk (by omega)), bind_ok (x_beg hX), z_bit (by omega), z_dif, nm_eq, bind_ok (x_beg hX), bind_ok (x_has (lt31 (beg_lt hF)) (by omega))]
    cases c : (beg F).testBit k
    · rw [zb_0.mpr c, if_pos rfl, go, show nd1 F j k a = a from if_neg (fun q => by rw [c] at q; exact absurd q.1 (by decide))]
    · rw [zb_1.mpr c, if_neg (by decide), bind_ok (x_met_s hF hX hj _)]
      cases c2 : (rch F (dif (beg F) (2 ^ k))).testBit j
      · rw [bz_f, if_pos rfl, nm_eq, z_or, go, show nd1 F j k a = a ||| 2 ^ k from if_pos ⟨c, c2⟩]
      · rw [bz_t, if_neg (by decide), go, show nd1 F j k a = a from if_neg (fun q => by rw [c2] at q; exact absurd q.2 (by decide))]
  · show f_X0_neededFor_4s (nI j) (nI (fo (nd1 F j) 0 (fN F))) (nI (fN F)) σX = _
    unfold f_X0_neededFor_4s
    rw [bind_ok (x_stones hX), if_pos (nI_le (Nat.le_refl _) (by omega))]
theorem m_needed (hF : OKF F) (hM : FM 0 F σM) {j best : Nat} (hj : j < 10) (w : Int32) : f_X9_needs_119 (nI j) w (nI (beg F)) (nI 0) (nI best) (nI 0) σM = some (if w = 0 then nI (fo (nd1 F j) 0 (fN F)) else nI best) := by
  have hn := hF.1.1
  unfold f_X9_needs_119
  refine itr_run (fun k => (nI (fo (nd1 F j) 0 k), nI k)) (fN F) rfl (by omega) (fun k hk => ?_) ?_
  · show f_X9_needs_119s (nI j) w (nI (beg F)) (nI (fo (nd1 F j) 0 k)) (nI best) (nI k) σM = some (.inl (nI (fo (nd1 F j) 0 (k + 1)), nI (k + 1)))
    have go : ∀ a b, f_X9_needs_168 (nI j) w (nI (beg F)) (nI best) (nI k) (nI a) (nI b) σM = some (.inl (nI (a ||| b), nI (k + 1))) := by
      intro a b
      unfold f_X9_needs_168
      rw [nm_eq, nm_eq, nI_1, z_or]
    have go0 : ∀ a, f_X9_needs_167 (nI j) w (nI (beg F)) (nI best) (nI k) (nI a) σM = some (.inl (nI a, nI (k + 1))) := by
      intro a
      unfold f_X9_needs_167
      rw [z_0, go, Nat.or_zero]
    rw [fo_s]
    generalize fo (nd1 F j) 0 k = a
    unfold f_X9_needs_119s
    rw [bind_ok (m_w0 hM), if_neg (nI_ge hk (by omega)), bind_ok (m_has (lt31 (beg_lt hF)) (by omega))]
    cases c : (beg F).testBit k
    · rw [zb_0.mpr c, if_pos rfl, go0, show nd1 F j k a = a from if_neg (fun q => by rw [c] at q; exact absurd q.1 (by decide))]
    · rw [zb_1.mpr c, if_neg (by decide), z_bit (by omega), z_dif, bind_ok (m_reachOf hF hM _), bind_ok (m_has (lt31 (rch_lt hF _)) (by omega))]
      cases c2 : (rch F (dif (beg F) (2 ^ k))).testBit j
      · rw [zb_0.mpr c2, if_pos rfl, go, show nd1 F j k a = a ||| 2 ^ k from if_pos ⟨c, c2⟩]
      · rw [zb_1.mpr c2, if_neg (by decide), go0, show nd1 F j k a = a from if_neg (fun q => by rw [c2] at q; exact absurd q.2 (by decide))]
  · show f_X9_needs_119s (nI j) w (nI (beg F)) (nI (fo (nd1 F j) 0 (fN F))) (nI best) (nI (fN F)) σM = _
    unfold f_X9_needs_119s
    rw [bind_ok (m_w0 hM), if_pos (nI_le (Nat.le_refl _) (by omega))]
    by_cases c : w = 0
    · rw [if_pos c, if_pos c]; rfl
    · rw [if_neg c, if_neg c]; rfl
theorem m_needs_dn (hF : OKF F) (hM : FM 0 F σM) {j : Nat} (hj : j < 10) (w : Int32) : f_X9_needs_49 (nI j) w (nI (beg F)) (nI 0) (nI (beg F)) (nI (beg F)) σM = some (if w = 0 then nI (fo (nd1 F j) 0 (fN F)) else nI (fo (dn1s (fun s => (rch F s).testBit j) (beg F)) (beg F) (beg F + 1))) := by
  have hb := beg_lt hF
  unfold f_X9_needs_49
  refine itr_run (fun k => (nI (fo (dn1s (fun s => (rch F s).testBit j) (beg F)) (beg F) k), sI (beg F) k)) (beg F + 1) ?_ (by omega) (fun k hk => ?_) ?_
  · show (nI (beg F), nI (beg F)) = (nI (beg F), sI (beg F) 0)
    rw [sI_in (by omega), Nat.sub_zero]
  · show f_X9_needs_49s (nI j) w (nI (beg F)) (nI 0) (nI (fo (dn1s (fun s => (rch F s).testBit j) (beg F)) (beg F) k)) (sI (beg F) k) σM = some (.inl (nI (fo (dn1s (fun s => (rch F s).testBit j) (beg F)) (beg F) (k + 1)), sI (beg F) (k + 1)))
    have hle := dn_le (fun s => (rch F s).testBit j) (beg F) k
    rw [fo_s, sI_in (show k ≤ beg F by omega)]
    generalize fo (dn1s (fun s => (rch F s).testBit j) (beg F)) (beg F) k = b at hle
    have go : ∀ a, f_X9_needs_108 (nI j) w (nI (beg F)) (nI 0) (nI (beg F - k)) (nI a) σM = some (.inl (nI a, sI (beg F) (k + 1))) := by
      intro a
      unfold f_X9_needs_108
      rw [nm_eq, sI_s (by omega)]
    have go0 : f_X9_needs_80 (nI j) w (nI (beg F)) (nI 0) (nI b) (nI (beg F - k)) σM = some (.inl (nI b, sI (beg F) (k + 1))) := by
      unfold f_X9_needs_80 f_X9_needs_81
      rw [if_pos rfl]
      unfold f_X9_needs_106
      exact go b
    have hp1 := pc_le b
    have hp2 := pc_le (beg F - k)
    unfold f_X9_needs_49s
    rw [if_neg (nI_pos (by omega)), z_dif]
    by_cases c1 : (beg F) &&& (beg F - k) = beg F - k
    · rw [(dif_0 (by omega)).mpr (and_sub.mp c1), if_pos z_e0, bind_ok (m_reachOf hF hM _), bind_ok (m_has (lt31 (rch_lt hF _)) (by omega))]
      cases c2 : (rch F (beg F - k)).testBit j
      · rw [zb_0.mpr c2, if_pos rfl, go0, show dn1s (fun s => (rch F s).testBit j) (beg F) k b = b from if_neg (fun q => by have q3 : (rch F (beg F - k)).testBit j = true := q.2.1; rw [c2] at q3; cases q3)]
      · rw [zb_1.mpr c2, if_neg (by decide)]
        unfold f_X9_needs_81
        rw [if_neg (by decide), bind_ok (m_ones (by omega)), bind_ok (m_ones (by omega))]
        by_cases c3 : pc (beg F - k) ≤ pc b
        · rw [if_neg (nI_nlt c3 (by omega)), go, show dn1s (fun s => (rch F s).testBit j) (beg F) k b = beg F - k from if_pos ⟨c1, c2, c3⟩]
        · rw [if_pos (nI_lt (by omega) (by omega)), show dn1s (fun s => (rch F s).testBit j) (beg F) k b = b from if_neg (fun q => c3 q.2.2)]
          unfold f_X9_needs_106
          exact go b
    · rw [if_neg (z_ne0 (lt31 (dif_lt (by omega))) (fun q => c1 (and_sub.mpr ((dif_0 (by omega)).mp q)))), go0, show dn1s (fun s => (rch F s).testBit j) (beg F) k b = b from if_neg (fun q => c1 q.1)]
  · show f_X9_needs_49s (nI j) w (nI (beg F)) (nI 0) (nI (fo (dn1s (fun s => (rch F s).testBit j) (beg F)) (beg F) (beg F + 1))) (sI (beg F) (beg F + 1)) σM = _
    unfold f_X9_needs_49s
    rw [sI_out, if_pos (by decide), z_0, m_needed hF hM hj w]
    rfl
/-- promise 15: needs -/
theorem q_needs (hF : OKF F) (hX : FX 12 F σX) (hM : FM 0 F σM) (v1 v2 : Int32) : ∃ r, f_X8_needs v1 v2 σX = some r ∧ f_X9_needs v1 v2 σM = some r := by
  have hn := hF.1.1
  have hb := beg_lt hF
  unfold f_X8_needs f_X9_needs
  rw [bind_ok (x_isStone hX v1), bind_ok (m_isStone hF.1 hM.1 v1)]
  rcases inn_cases v1 (n := fN F) (by omega) with e | ⟨j, h1, rfl, e⟩
  · rw [e]; exact ⟨_, rfl, rfl⟩
  rw [e, if_neg (by decide : ¬ (1 : Int32) = 0), if_neg (by decide : ¬ (1 : Int32) = 0), bind_ok (z_inK v2 1 1 (by decide) (by decide))]
  rcases inn_cases v2 (n := 1 + 1) (by decide) with e | ⟨w, hw, rfl, e⟩
  · rw [e, if_pos rfl]
    refine ⟨-1, ?_, rfl⟩
    rcases inn_out e with c | c
    · rw [if_pos c]; rfl
    · by_cases c1 : v2 < 0
      · rw [if_pos c1]; rfl
      · rw [if_neg c1, if_neg]
        · rfl
        · intro q
          have := (gt_of (v := v2) (n := 1) (by decide)).mp c
          rw [fa_lt] at this
          rw [Int32.le_iff_toInt_le] at q
          have e1 : (nI 1).toInt = (1 : Int32).toInt := rfl
          omega
  rw [e, if_neg (by decide : ¬ (1 : Int32) = 0), if_neg (nI_pos (by omega)), if_pos (show nI w ≤ (1 : Int32) from nI_le (a := w) (b := 1) (by omega) (by decide)), bind_ok (m_beg hM), bind_ok (m_reachOf hF hM _), bind_ok (m_has (lt31 (rch_lt hF _)) (by omega))]
  have el : f_X0_leadTo (nI j) σX = some (bz ((rch F (beg F)).testBit j)) := by
    unfold f_X0_leadTo
    rw [bind_ok (x_beg hX), bind_ok (x_met_s hF hX (by omega) _), bind_ok (zrt_01 (bz_01 _))]
  rw [bind_ok el]
  cases c : (rch F (beg F)).testBit j
  · rw [zb_0.mpr c]; exact ⟨_, rfl, rfl⟩
  rw [zb_1.mpr c, bz_t, if_neg (by decide : ¬ (1 : Int32) = 0), if_neg (by decide : ¬ (1 : Int32) = 0), z_0, m_needs_dn hF hM (by omega) (nI w)]
  rcases (show w = 0 ∨ w = 1 by omega) with rfl | rfl
  · refine ⟨nI (fo (nd1 F j) 0 (fN F)), ?_, rfl⟩
    rw [if_pos (show nI 0 = nI 0 from rfl), bind_ok (x_needed hF hX (by omega))]
    rfl
  · refine ⟨nI (fo (dn1s (fun s => (rch F s).testBit j) (beg F)) (beg F) (beg F + 1)), ?_, rfl⟩
    rw [if_neg (show ¬ nI 1 = nI 0 by decide)]
    unfold f_X0_fewestFor
    have ef := x_fewT (aim := nI j) (ok := fun s => (rch F s).testBit j) (fun v => x_met_s hF hX (by omega) v) (start := 0) (ch := beg F) hb
    rw [Nat.zero_xor, if_pos c] at ef
    rw [bind_ok (x_beg hX), z_0, bind_ok ef]
    have hu : fo (up1s (fun s => (rch F (0 ^^^ s)).testBit j) (beg F)) (beg F) (beg F) = fo (dn1s (fun s => (rch F s).testBit j) (beg F)) (beg F) (beg F + 1) := by
      have a1 := up_min (ok := fun s => (rch F s).testBit j) hb c
      have a2 := dn_min (ok := fun s => (rch F s).testBit j) (ch := beg F) c
      have e0 : (fun s => (rch F (0 ^^^ s)).testBit j) = fun s => (rch F s).testBit j := by funext s; rw [Nat.zero_xor]
      rw [e0]
      exact a1.eq a2
    rw [hu]
    rfl
end
end
section
section
variable {F : Fl} {σX σM : Sg}
theorem ub_lt (p : Nat → Bool) : ∀ k b, fo (ub1 p) none k = some b → b < k := by
  intro k b h
  rcases ub_min p k with ⟨h1, -⟩ | ⟨b2, h1, h2, -⟩
  · rw [h1] at h; cases h
  · rw [h1] at h; cases h; exact h2
/-- begin: which sets may be put in -/
def bgP (F : Fl) (j s : Nat) : Bool := decide (dif s (fTh F) = 0) && !s.testBit j && (rch F (beg F ||| s)).testBit j
theorem m_begins (hF : OKF F) (hM : FM 0 F σM) {j : Nat} (hj : j < 10) : f_X9_begins (nI j) σM = some (cd (fo (ub1 (bgP F j)) none (2 ^ fN F))) := by
  have h10 := p10 hF.1.1.2
  have hn := hF.1.1
  unfold f_X9_begins f_X9_begins_5
  refine itr_run (fun k => (cd (fo (ub1 (bgP F j)) none k), nI k)) (2 ^ fN F) rfl (by omega) (fun k hk => ?_) ?_
  · show f_X9_begins_5s (nI j) (cd (fo (ub1 (bgP F j)) none k)) (nI k) σM = some (.inl (cd (fo (ub1 (bgP F j)) none (k + 1)), nI (k + 1)))
    have hb := ub_lt (bgP F j) k
    rw [fo_s]
    generalize fo (ub1 (bgP F j)) none k = o at hb
    have go : ∀ a, f_X9_begins_89 (nI j) (nI k) a σM = some (.inl (a, nI (k + 1))) := by
      intro a
      unfold f_X9_begins_89
      rw [nm_eq, nI_1]
    have no : ∀ x : Option Nat, f_X9_begins_88 (nI j) (cd x) (nI k) σM = some (.inl (cd x, nI (k + 1))) := fun x => go _
    have no2 : f_X9_begins_59 (nI j) (cd o) (nI k) σM = some (.inl (cd o, nI (k + 1))) := by
      unfold f_X9_begins_59 f_X9_begins_60
      rw [if_pos rfl]
      exact no o
    have hk10 : k < 1024 := by omega
    have try_ : f_X9_begins_55 (nI j) (cd o) (nI k) σM = some (.inl (if (rch F (beg F ||| k)).testBit j = true then nI k else cd o, nI (k + 1))) := by
      unfold f_X9_begins_55 f_X9_begins_60
      rw [if_neg (by decide), bind_ok (m_beg hM), z_or, bind_ok (m_reachOf hF hM _), bind_ok (m_has (lt31 (rch_lt hF _)) (by omega))]
      cases c : (rch F (beg F ||| k)).testBit j
      · rw [zb_0.mpr c, if_pos rfl, no]; rfl
      · rw [zb_1.mpr c, if_neg (by decide), go]; rfl
    have stay : bgP F j k = false → ub1 (bgP F j) k o = o := by
      intro c
      unfold ub1
      cases o <;> simp [c]
    unfold f_X9_begins_5s
    rw [bind_ok (m_w0 hM), z_bit (by omega), if_neg (nI_ge hk (by omega)), bind_ok (m_w2 hM), z_dif]
    by_cases c1 : dif k (fTh F) = 0
    case neg => rw [if_neg (z_ne0 (lt31 (dif_lt hk10)) c1), no2, stay (by simp [bgP, c1])]
    rw [c1, if_pos z_e0, bind_ok (m_has (lt31 hk10) (by omega))]
    cases c2 : k.testBit j
    case true => rw [zb_1.mpr c2, if_neg (by decide), no2, stay (by simp [bgP, c2])]
    rw [zb_0.mpr c2, if_pos rfl]
    have hP : bgP F j k = (rch F (beg F ||| k)).testBit j := by simp [bgP, c1, c2]
    cases o with
    | none =>
      rw [show cd none = -4 from rfl] at try_ ⊢
      rw [if_pos rfl, try_]
      congr 3
      show _ = cd (if bgP F j k = true then some k else none)
      rw [hP]
      split <;> rfl
    | some b =>
      have hbk := hb b rfl
      have hp1 := pc_le k
      have hp2 := pc_le b
      rw [show cd (some b) = nI b from rfl] at try_ no2 ⊢
      rw [if_neg (nI_neg (by omega)).2.2, bind_ok (m_ones hk10), bind_ok (m_ones (by omega))]
      by_cases c3 : pc k < pc b
      · rw [if_neg (nI_ge c3 (by omega)), try_]
        congr 3
        show _ = cd (if bgP F j k = true ∧ pc k < pc b then some k else some b)
        rw [hP]
        simp only [c3, and_true]
        split <;> rfl
      · rw [if_pos (nI_le (by omega) (by omega)), no2]
        congr 3
        show _ = cd (if bgP F j k = true ∧ pc k < pc b then some k else some b)
        simp only [c3, and_false, if_false]
        rfl
  · show f_X9_begins_5s (nI j) (cd (fo (ub1 (bgP F j)) none (2 ^ fN F))) (nI (2 ^ fN F)) σM = _
    unfold f_X9_begins_5s
    rw [bind_ok (m_w0 hM), z_bit (by omega), if_pos (nI_le (Nat.le_refl _) (by omega))]
theorem or_dif {x s y : Nat} (hs : s < 1024) (h : sub s y) (hx : x < 1024) (hd : sub s (dif y x) ∨ True) : True := trivial
theorem xor_or {x s : Nat} (h : ∀ k, s.testBit k = true → x.testBit k = false) : x ^^^ s = x ||| s := by
  apply Nat.eq_of_testBit_eq
  intro i
  rw [Nat.testBit_xor, Nat.testBit_or]
  have := h i
  cases h1 : s.testBit i <;> cases h2 : x.testBit i <;> simp_all
theorem or_dif_eq {x s : Nat} (hs : s < 1024) : x ||| dif s x = x ||| s := by
  apply Nat.eq_of_testBit_eq
  intro i
  rw [Nat.testBit_or, Nat.testBit_or, dif_tb hs]
  cases x.testBit i <;> cases s.testBit i <;> rfl
theorem subp {s n : Nat} (hs : s < 2 ^ n) {x : Nat} (h : sub x s) : x < 2 ^ n := Nat.lt_of_le_of_lt (sub_le h) hs
/-- promise 17: begin -/
theorem q_begin (hF : OKF F) (hX : FX 12 F σX) (hM : FM 0 F σM) (v : Int32) : ∃ r, f_X8_begin v σX = some r ∧ f_X9_begin v σM = some r := by
  have hn := hF.1.1
  have hb := beg_lt hF
  have hth := hF.th
  unfold f_X8_begin f_X9_begin
  rw [bind_ok (x_isStone hX v), bind_ok (m_isStone hF.1 hM.1 v)]
  rcases inn_cases v (n := fN F) (by omega) with e | ⟨j, h1, rfl, e⟩
  · rw [e]; exact ⟨_, rfl, rfl⟩
  rw [e, if_neg (by decide : ¬ (1 : Int32) = 0), if_neg (by decide : ¬ (1 : Int32) = 0), bind_ok (m_w2 hM), bind_ok (m_has (lt31 hth) (by omega))]
  unfold f_X1_isThere
  rw [hX.2.1, bind_ok (x_has (lt31 hth) (by omega)), bind_ok (zrt_01 (zb_01 _ _))]
  show ∃ r, (if zb (fTh F) j = 0 then _ else _) = some r ∧ _
  cases c : (fTh F).testBit j
  · rw [zb_0.mpr c]; exact ⟨_, rfl, rfl⟩
  rw [zb_1.mpr c, if_neg (by decide : ¬ (1 : Int32) = 0), if_neg (by decide : ¬ (1 : Int32) = 0), bind_ok (m_begins hF hM (by omega))]
  refine ⟨_, ?_, rfl⟩
  unfold f_X0_fewestMoreFor
  have hd1 : dif (fTh F) (2 ^ j) < 1024 := dif_lt hth
  have hch : dif (dif (fTh F) (2 ^ j)) (beg F) < 1024 := dif_lt hd1
  rw [bind_ok (x_there hX), bind_ok (x_beg hX), z_bit (by omega), z_dif, z_dif, nm_eq, bind_ok (x_beg hX)]
  obtain ⟨ch, ech⟩ : ∃ ch, ch = dif (dif (fTh F) (2 ^ j)) (beg F) := ⟨_, rfl⟩
  rw [← ech] at hch ⊢
  have hct : ∀ i, ch.testBit i = ((fTh F).testBit i && decide (i ≠ j) && !(beg F).testBit i) := fun i => by rw [ech, dif_tb hd1, dif_p hth]
  have ef := x_fewT (aim := nI j) (ok := fun s => (rch F s).testBit j) (fun v => x_met_s hF hX (by omega) v) (start := beg F) (ch := ch) hch
  -- what the choice's sets are
  have hxo : ∀ s, sub s ch → beg F ^^^ s = beg F ||| s := fun s hs => xor_or (fun k hk => by
    have := hs k hk
    rw [hct] at this
    simp only [Bool.and_eq_true, Bool.not_eq_true'] at this
    exact this.2)
  have hP1 : ∀ s, sub s ch → (rch F (beg F ||| s)).testBit j = true → s < 2 ^ fN F ∧ bgP F j s = true := by
    intro s hs hr
    have hst : sub s (fTh F) := fun k hk => by have := hs k hk; rw [hct] at this; simp only [Bool.and_eq_true] at this; exact this.1.1
    refine ⟨subp hF.2.2.1 hst, ?_⟩
    have hj2 : s.testBit j = false := by
      cases q : s.testBit j
      · rfl
      · have := hs j q; rw [hct] at this; simp at this
    unfold bgP
    simp [hr, hj2, (dif_0 (Nat.lt_of_le_of_lt (sub_le hst) hth)).mpr hst]
  have hP2 : ∀ s, s < 2 ^ fN F → bgP F j s = true → sub (dif s (beg F)) ch ∧ (rch F (beg F ||| dif s (beg F))).testBit j = true ∧ (pc (dif s (beg F)) < pc s ∨ dif s (beg F) = s) := by
    intro s hs hp
    have hs10 : s < 1024 := Nat.lt_of_lt_of_le hs (p10 hn.2)
    unfold bgP at hp
    simp only [Bool.and_eq_true, decide_eq_true_eq, Bool.not_eq_true'] at hp
    have hst := (dif_0 hs10).mp hp.1.1
    refine ⟨fun k hk => ?_, by rw [or_dif_eq hs10]; exact hp.2, ?_⟩
    · rw [dif_tb hs10] at hk
      simp only [Bool.and_eq_true, Bool.not_eq_true'] at hk
      rw [hct, hst k hk.1, hk.2]
      have : k ≠ j := fun q => by subst q; rw [hp.1.2] at hk; exact absurd hk.1 (by decide)
      simp [this]
    · by_cases q : dif s (beg F) = s
      · exact Or.inr q
      · exact Or.inl (pc_lt hs10 (fun k hk => by rw [dif_tb hs10] at hk; simp only [Bool.and_eq_true] at hk; exact hk.1) q)
  have hmono : ∀ x y, sub x y → (rch F x).testBit j = true → (rch F y).testBit j = true := fun x y h => clo_mono hF.1 hth h j
  cases c2 : (rch F (beg F ^^^ ch)).testBit j
  · rw [if_neg (by rw [c2]; decide)] at ef
    rw [bind_ok ef]
    rcases ub_min (bgP F j) (2 ^ fN F) with ⟨g1, -⟩ | ⟨b, -, -, g3⟩
    · rw [g1]; rfl
    · exfalso
      obtain ⟨k1, k2, -⟩ := hP2 b g3.1.1 g3.1.2
      have := hmono (beg F ||| dif b (beg F)) (beg F ||| ch) (fun i hi => by rw [Nat.testBit_or] at hi ⊢; simp only [Bool.or_eq_true] at hi ⊢; exact hi.imp id (k1 i)) k2
      rw [← hxo ch (sub_rfl _), c2] at this
      cases this
  · rw [if_pos c2] at ef
    rw [bind_ok ef]
    have a1 := up_min (ok := fun s => (rch F (beg F ^^^ s)).testBit j) hch c2
    obtain ⟨b, eb⟩ : ∃ b, b = fo (up1s (fun s => (rch F (beg F ^^^ s)).testBit j) ch) ch ch := ⟨_, rfl⟩
    rw [← eb] at a1 ⊢
    have hbq := hP1 b a1.1.1 (by have := a1.1.2; rw [hxo b a1.1.1] at this; exact this)
    rcases ub_min (bgP F j) (2 ^ fN F) with ⟨-, g2⟩ | ⟨b2, g1, -, g3⟩
    · rw [g2 b hbq.1] at hbq
      exact absurd hbq.2 (by decide)
    · rw [g1]
      have hmin : IsMin (fun s => s < 2 ^ fN F ∧ bgP F j s = true) b := by
        refine ⟨hbq, fun s hs => ?_⟩
        obtain ⟨k1, k2, k3⟩ := hP2 s hs.1 hs.2
        have hq := a1.2 (dif s (beg F)) ⟨k1, by rw [hxo _ k1]; exact k2⟩
        rcases k3 with k3 | k3
        · rcases hq with r | ⟨r1, r2⟩ <;> exact Or.inl (by omega)
        · rw [k3] at hq; exact hq
      rw [hmin.eq g3]
      rfl
/-- hall: which sets lead into it -/
def haP (F : Fl) (s : Nat) : Bool := decide (dif s (beg F) = 0) && hall F (rch F s)
theorem m_hall1 (hF : OKF F) (hM : FM 0 F σM) : f_X9_hall_17 1 (-4) 0 σM = some (cd (fo (ub1 (haP F)) none (2 ^ fN F))) := by
  have h10 := p10 hF.1.1.2
  have hn := hF.1.1
  unfold f_X9_hall_17
  refine itr_run (fun k => (cd (fo (ub1 (haP F)) none k), nI k)) (2 ^ fN F) rfl (by omega) (fun k hk => ?_) ?_
  · show f_X9_hall_17s 1 (cd (fo (ub1 (haP F)) none k)) (nI k) σM = some (.inl (cd (fo (ub1 (haP F)) none (k + 1)), nI (k + 1)))
    have hb := ub_lt (haP F) k
    rw [fo_s]
    generalize fo (ub1 (haP F)) none k = o at hb
    have go : ∀ a, f_X9_hall_87 1 (nI k) a σM = some (.inl (a, nI (k + 1))) := by
      intro a
      unfold f_X9_hall_87
      rw [nm_eq, nI_1]
    have no : f_X9_hall_86 1 (cd o) (nI k) σM = some (.inl (cd o, nI (k + 1))) := go _
    have no2 : f_X9_hall_66 1 (cd o) (nI k) σM = some (.inl (cd o, nI (k + 1))) := by
      unfold f_X9_hall_66 f_X9_hall_67
      rw [if_pos rfl]
      exact no
    have hk10 : k < 1024 := by omega
    have try_ : f_X9_hall_62 1 (cd o) (nI k) σM = some (.inl (if hall F (rch F k) = true then nI k else cd o, nI (k + 1))) := by
      unfold f_X9_hall_62 f_X9_hall_67
      rw [if_neg (by decide), bind_ok (m_isHall hF hM _)]
      cases c : hall F (rch F k)
      · rw [bz_f, if_pos rfl, no]; rfl
      · rw [bz_t, if_neg (by decide), go]; rfl
    have stay : haP F k = false → ub1 (haP F) k o = o := by
      intro c
      unfold ub1
      cases o <;> simp [c]
    unfold f_X9_hall_17s
    rw [bind_ok (m_w0 hM), z_bit (by omega), if_neg (nI_ge hk (by omega)), if_pos rfl, bind_ok (m_beg hM), z_dif]
    by_cases c1 : dif k (beg F) = 0
    case neg => rw [if_neg (z_ne0 (lt31 (dif_lt hk10)) c1), no2, stay (by simp [haP, c1])]
    rw [c1, if_pos z_e0]
    have hP : haP F k = hall F (rch F k) := by simp [haP, c1]
    cases o with
    | none =>
      rw [show cd none = -4 from rfl] at try_ ⊢
      rw [if_pos rfl, try_]
      congr 3
      show _ = cd (if haP F k = true then some k else none)
      rw [hP]
      split <;> rfl
    | some b =>
      have hbk := hb b rfl
      have hp1 := pc_le k
      have hp2 := pc_le b
      rw [show cd (some b) = nI b from rfl] at try_ no2 ⊢
      rw [if_neg (nI_neg (by omega)).2.2, bind_ok (m_ones hk10), bind_ok (m_ones (by omega))]
      by_cases c3 : pc k < pc b
      · rw [if_neg (nI_ge c3 (by omega)), try_]
        congr 3
        show _ = cd (if haP F k = true ∧ pc k < pc b then some k else some b)
        rw [hP]
        simp only [c3, and_true]
        split <;> rfl
      · rw [if_pos (nI_le (by omega) (by omega)), no2]
        congr 3
        show _ = cd (if haP F k = true ∧ pc k < pc b then some k else some b)
        simp only [c3, and_false, if_false]
        rfl
  · show f_X9_hall_17s 1 (cd (fo (ub1 (haP F)) none (2 ^ fN F))) (nI (2 ^ fN F)) σM = _
    unfold f_X9_hall_17s
    rw [bind_ok (m_w0 hM), z_bit (by omega), if_pos (nI_le (Nat.le_refl _) (by omega))]
    unfold f_X9_hall_94
    rw [if_pos rfl]
    rfl
theorem m_hall0 (hF : OKF F) (hM : FM 0 F σM) : f_X9_hall_17 0 (-4) 0 σM = some (bz (hall F (rch F (beg F)))) := by
  have h10 := p10 hF.1.1.2
  have hn := hF.1.1
  have h1 : 1 ≤ 2 ^ fN F := Nat.one_le_two_pow
  unfold f_X9_hall_17
  refine itr_out ?_
  show f_X9_hall_17s 0 (-4) (nI 0) σM = _
  unfold f_X9_hall_17s
  rw [bind_ok (m_w0 hM), z_bit (by omega), if_neg (nI_ge (by omega) (by omega)), if_neg (by decide)]
  unfold f_X9_hall_94
  rw [if_neg (by decide), bind_ok (m_beg hM), bind_ok (m_isHall hF hM _)]
  cases hall F (rch F (beg F)) <;> rfl
/-- promise 18: hall -/
theorem q_hall (hF : OKF F) (hX : FX 12 F σX) (hM : FM 0 F σM) (v : Int32) : ∃ r, f_X8_hall v σX = some r ∧ f_X9_hall v σM = some r := by
  have hn := hF.1.1
  have hb := beg_lt hF
  have hth := hF.th
  unfold f_X8_hall f_X9_hall
  rw [bind_ok (z_inK v 1 1 (by decide) (by decide))]
  rcases inn_cases v (n := 1 + 1) (by decide) with e | ⟨w, hw, rfl, e⟩
  · rw [e, if_pos rfl]
    refine ⟨-1, ?_, rfl⟩
    rcases inn_out e with c | c
    · rw [if_pos c]; rfl
    · by_cases c1 : v < 0
      · rw [if_pos c1]; rfl
      · rw [if_neg c1, if_neg]
        · rfl
        · intro q
          have := (gt_of (v := v) (n := 1) (by decide)).mp c
          rw [fa_lt] at this
          rw [Int32.le_iff_toInt_le] at q
          have e1 : (nI 1).toInt = (1 : Int32).toInt := rfl
          omega
  rw [e, if_neg (by decide : ¬ (1 : Int32) = 0), if_neg (nI_pos (by omega)), if_pos (show nI w ≤ (1 : Int32) from nI_le (a := w) (b := 1) (by omega) (by decide))]
  rcases (show w = 0 ∨ w = 1 by omega) with rfl | rfl
  · refine ⟨_, ?_, m_hall0 hF hM⟩
    rw [if_pos z_e0]
    have el : f_X0_leadIntoHall σX = some (bz (hall F (rch F (beg F)))) := by
      unfold f_X0_leadIntoHall
      rw [bind_ok (x_beg hX), bind_ok (x_met_h hF hX _), bind_ok (zrt_01 (bz_01 _))]
    rw [bind_ok el]
    cases hall F (rch F (beg F)) <;> rfl
  · refine ⟨_, ?_, m_hall1 hF hM⟩
    rw [if_neg (show ¬ nI 1 = 0 by decide)]
    unfold f_X0_fewestIntoHall
    have ef := x_fewT (aim := -1) (ok := fun s => hall F (rch F s)) (fun v => x_met_h hF hX v) (start := 0) (ch := beg F) hb
    have e0 : (fun s => hall F (rch F (0 ^^^ s))) = fun s => hall F (rch F s) := by funext s; rw [Nat.zero_xor]
    rw [e0, Nat.zero_xor] at ef
    rw [bind_ok (x_beg hX), z_0]
    have hP1 : ∀ s, sub s (beg F) → hall F (rch F s) = true → s < 2 ^ fN F ∧ haP F s = true := by
      intro s hs hr
      have hst : sub s (fTh F) := sub_tr hs (and_r _ _)
      refine ⟨subp hF.2.2.1 hst, ?_⟩
      unfold haP
      simp [hr, (dif_0 (Nat.lt_of_le_of_lt (sub_le hst) hth)).mpr hs]
    have hP2 : ∀ s, s < 2 ^ fN F → haP F s = true → sub s (beg F) ∧ hall F (rch F s) = true := by
      intro s hs hp
      have hs10 : s < 1024 := Nat.lt_of_lt_of_le hs (p10 hn.2)
      unfold haP at hp
      simp only [Bool.and_eq_true, decide_eq_true_eq] at hp
      exact ⟨(dif_0 hs10).mp hp.1, hp.2⟩
    cases c2 : hall F (rch F (beg F))
    · rw [if_neg (by rw [c2]; decide)] at ef
      rw [bind_ok ef]
      rcases ub_min (haP F) (2 ^ fN F) with ⟨g1, -⟩ | ⟨b, -, -, g3⟩
      · rw [g1]; rfl
      · exfalso
        obtain ⟨k1, k2⟩ := hP2 b g3.1.1 g3.1.2
        have := hall_mono (clo_mono hF.1 hth k1) k2
        rw [show clo F 1023 (fTh F) (beg F) = rch F (beg F) from rfl, c2] at this
        cases this
    · rw [if_pos c2] at ef
      rw [bind_ok ef]
      have a1 := up_min (ok := fun s => hall F (rch F s)) hb c2
      obtain ⟨b, eb⟩ : ∃ b, b = fo (up1s (fun s => hall F (rch F s)) (beg F)) (beg F) (beg F) := ⟨_, rfl⟩
      rw [← eb] at a1 ⊢
      have hbq := hP1 b a1.1.1 a1.1.2
      rcases ub_min (haP F) (2 ^ fN F) with ⟨-, g2⟩ | ⟨b2, g1, -, g3⟩
      · rw [g2 b hbq.1] at hbq
        exact absurd hbq.2 (by decide)
      · rw [g1]
        have hmin : IsMin (fun s => s < 2 ^ fN F ∧ haP F s = true) b := ⟨hbq, fun s hs => a1.2 s (hP2 s hs.1 hs.2)⟩
        rw [hmin.eq g3]
        rfl
theorem rch_0 (F : Fl) : rch F 0 = 0 := by
  refine sub_as (clo_min (fun k h => by simp at h) (fun t _ _ h => by simp at h)) (fun k h => by simp at h)
theorem xor_dif {x s : Nat} (hx : x < 1024) (h : sub s x) : x ^^^ s = dif x s := by
  apply Nat.eq_of_testBit_eq
  intro i
  rw [Nat.testBit_xor, dif_tb hx]
  have := h i
  cases h1 : s.testBit i <;> cases h2 : x.testBit i <;> simp_all
/-- promise 19: rope -/
theorem q_rope (hF : OKF F) (hX : FX 12 F σX) (hM : FM 0 F σM) : ∃ r, f_X8_rope σX = some r ∧ f_X9_rope σM = some r := by
  have hb := beg_lt hF
  obtain ⟨ok, hok⟩ : ∃ ok : Nat → Bool, ok = fun s => !hall F (rch F (beg F ^^^ s)) := ⟨_, rfl⟩
  have h0 : ok (beg F) = true := by rw [hok]; simp [rch_0, hall_0]
  refine ⟨nI (fo (dn1s ok (beg F)) (beg F) (beg F + 1)), ?_, ?_⟩
  · unfold f_X8_rope f_X0_fewestToRopeOff
    have ef := x_fewT (aim := -2) (ok := fun s => !hall F (rch F s)) (fun v => x_met_n hF hX v) (start := beg F) (ch := beg F) hb
    rw [show (fun s => (fun s => !hall F (rch F s)) (beg F ^^^ s)) = ok from hok.symm, if_pos (show (fun s => !hall F (rch F s)) (beg F ^^^ beg F) = true by have := h0; rw [hok] at this; exact this)] at ef
    rw [bind_ok (x_beg hX), bind_ok (x_beg hX), bind_ok ef, (up_min hb h0).eq (dn_min h0)]
    rfl
  · unfold f_X9_rope f_X9_rope_10
    rw [bind_ok (m_beg hM), bind_ok (m_beg hM)]
    refine itr_run (fun k => (nI (fo (dn1s ok (beg F)) (beg F) k), sI (beg F) k)) (beg F + 1) ?_ (by omega) (fun k hk => ?_) ?_
    · show (nI (beg F), nI (beg F)) = (nI (beg F), sI (beg F) 0)
      rw [sI_in (by omega), Nat.sub_zero]
    · show f_X9_rope_10s (nI (fo (dn1s ok (beg F)) (beg F) k)) (sI (beg F) k) σM = some (.inl (nI (fo (dn1s ok (beg F)) (beg F) (k + 1)), sI (beg F) (k + 1)))
      have hle := dn_le ok (beg F) k
      rw [fo_s, sI_in (show k ≤ beg F by omega)]
      generalize fo (dn1s ok (beg F)) (beg F) k = b at hle
      have go : ∀ a, f_X9_rope_66 (nI (beg F - k)) (nI a) σM = some (.inl (nI a, sI (beg F) (k + 1))) := by
        intro a
        unfold f_X9_rope_66
        rw [nm_eq, sI_s (by omega)]
      have go0 : f_X9_rope_40 (nI b) (nI (beg F - k)) σM = some (.inl (nI b, sI (beg F) (k + 1))) := by
        unfold f_X9_rope_40 f_X9_rope_41
        rw [if_pos rfl]
        exact go b
      have hp1 := pc_le b
      have hp2 := pc_le (beg F - k)
      unfold f_X9_rope_10s
      rw [if_neg (nI_pos (by omega)), bind_ok (m_beg hM), z_dif]
      by_cases c1 : (beg F) &&& (beg F - k) = beg F - k
      · have hs := and_sub.mp c1
        rw [(dif_0 (by omega)).mpr hs, if_pos z_e0, bind_ok (m_ones (by omega)), bind_ok (m_ones (by omega))]
        by_cases c3 : pc (beg F - k) ≤ pc b
        · rw [if_neg (nI_nlt c3 (by omega))]
          unfold f_X9_rope_41
          rw [if_neg (by decide), bind_ok (m_beg hM), z_dif, bind_ok (m_isHall hF hM _), ← xor_dif hb hs]
          have ho : ok (beg F - k) = !hall F (rch F (beg F ^^^ (beg F - k))) := by rw [hok]
          cases c2 : hall F (rch F (beg F ^^^ (beg F - k)))
          · rw [bz_f, if_pos rfl, go, show dn1s ok (beg F) k b = beg F - k from if_pos ⟨c1, by rw [ho, c2]; rfl, c3⟩]
          · rw [bz_t, if_neg (by decide), show dn1s ok (beg F) k b = b from if_neg (fun q => by have q3 := q.2.1; rw [ho, c2] at q3; cases q3)]
            exact go b
        · rw [if_pos (nI_lt (by omega) (by omega)), go0, show dn1s ok (beg F) k b = b from if_neg (fun q => c3 q.2.2)]
      · rw [if_neg (z_ne0 (lt31 (dif_lt (by omega))) (fun q => c1 (and_sub.mpr ((dif_0 (by omega)).mp q)))), go0, show dn1s ok (beg F) k b = b from if_neg (fun q => c1 q.1)]
    · show f_X9_rope_10s (nI (fo (dn1s ok (beg F)) (beg F) (beg F + 1))) (sI (beg F) (beg F + 1)) σM = _
      unfold f_X9_rope_10s
      rw [sI_out, if_pos (by decide)]
end
end
section
section
variable {F : Fl} {σX σM : Sg}
theorem OKL.n10 (hF : OKL F) : fN F ≤ 10 := hF.1.2
theorem le_lit {k n : Nat} (hk : k ≤ n) (hn : n < 2 ^ 31) : nI k ≤ nI n := nI_le hk hn
/-- promise 7: stone -/
theorem q_stone (hF : OKF F) (hX : FX 12 F σX) (hM : FM 0 F σM) (v w : Int32) : ∃ r, f_X8_stone v w σX = some r ∧ f_X9_stone v w σM = some r := by
  have hn := hF.1.1
  unfold f_X8_stone f_X9_stone
  rw [bind_ok (x_isStone hX v), bind_ok (m_isStone hF.1 hM.1 v)]
  rcases inn_cases v (n := fN F) (by omega) with e | ⟨j, h1, rfl, e⟩
  · rw [e]; exact ⟨_, rfl, rfl⟩
  rw [e, if_neg (by decide : ¬ (1 : Int32) = 0), if_neg (by decide : ¬ (1 : Int32) = 0), bind_ok (z_inK w 4 4 (by decide) (by decide))]
  have hj : j < 10 := by omega
  have hq := hX.1.2.2.2.2 j hj
  have hr := hM.1.2.2.2.2 j hj
  simp only [Nat.zero_add] at hr
  rcases inn_cases w (n := 4 + 1) (by decide) with e | ⟨k, hk, rfl, e⟩
  · rw [e, if_pos rfl]
    refine ⟨-1, ?_, rfl⟩
    rcases inn_out e with c | c
    · rw [if_pos c]; rfl
    · by_cases c1 : w < 0
      · rw [if_pos c1]; rfl
      · rw [if_neg c1, if_neg]
        · rfl
        · intro q
          have := (gt_of (v := w) (n := 4) (by decide)).mp c
          rw [fa_lt] at this
          rw [Int32.le_iff_toInt_le] at q
          have e1 : (nI 4).toInt = (4 : Int32).toInt := rfl
          omega
  rw [e, if_neg (by decide : ¬ (1 : Int32) = 0), if_neg (nI_pos (by omega)), if_pos (show nI k ≤ (4 : Int32) from nI_le (a := k) (b := 4) (by omega) (by decide))]
  rcases (show k = 0 ∨ k = 1 ∨ k = 2 ∨ k = 3 ∨ k = 4 by omega) with rfl | rfl | rfl | rfl | rfl
  · rw [if_pos (show nI 0 = 0 from rfl), if_pos (show nI 0 = 0 from rfl), bind_ok (x_there hX), bind_ok (x_bitOf (lt31 hF.th) (by omega)), bind_ok (m_w2 hM), z_has (lt31 hF.th) (by omega)]
    exact ⟨_, rfl, rfl⟩
  · rw [if_neg (show ¬ nI 1 = 0 by decide), if_neg (show ¬ nI 1 = 0 by decide), if_pos (show nI 1 = 1 from rfl), if_pos (show nI 1 = 1 from rfl), bind_ok (x_stood hX), bind_ok (x_bitOf (lt31 hF.st) (by omega)), bind_ok (m_w3 hM), z_has (lt31 hF.st) (by omega)]
    exact ⟨_, rfl, rfl⟩
  · rw [if_neg (show ¬ nI 2 = 0 by decide), if_neg (show ¬ nI 2 = 0 by decide), if_neg (show ¬ nI 2 = 1 by decide), if_neg (show ¬ nI 2 = 1 by decide), if_pos (show nI 2 = 2 from rfl), if_pos (show nI 2 = 2 from rfl)]
    unfold f_X1_begins
    rw [hX.1.2.2.1]
    refine ⟨zb (fBg F) j, ?_, ?_⟩
    · show ((f_X8_bitOf (nI (fBg F)) (nI j)).bind fun q7 => some q7) = _
      rw [bind_ok (x_bitOf (lt31 hF.bg) (by omega))]
    · rw [bind_ok (m_w1 hM), z_has (lt31 hF.bg) (by omega)]; rfl
  · rw [if_neg (show ¬ nI 3 = 0 by decide), if_neg (show ¬ nI 3 = 0 by decide), if_neg (show ¬ nI 3 = 1 by decide), if_neg (show ¬ nI 3 = 1 by decide), if_neg (show ¬ nI 3 = 2 by decide), if_neg (show ¬ nI 3 = 2 by decide), if_pos (show nI 3 = 3 from rfl), if_pos (show nI 3 = 3 from rfl)]
    unfold f_X1_wearOf
    rw [bind_ok (x_at (by omega) (by decide)), z_lit 35, bind_ok (m_wk 35 (by omega)), hq.2, hr.2]
    exact ⟨_, rfl, rfl⟩
  · rw [if_neg (show ¬ nI 4 = 0 by decide), if_neg (show ¬ nI 4 = 0 by decide), if_neg (show ¬ nI 4 = 1 by decide), if_neg (show ¬ nI 4 = 1 by decide), if_neg (show ¬ nI 4 = 2 by decide), if_neg (show ¬ nI 4 = 2 by decide), if_neg (show ¬ nI 4 = 3 by decide), if_neg (show ¬ nI 4 = 3 by decide)]
    unfold f_X1_gainsayersOf
    rw [bind_ok (x_at (by omega) (by decide)), z_lit 45, bind_ok (m_wk 45 (by omega)), hq.1, hr.1]
    exact ⟨_, rfl, rfl⟩
theorem m_A (hF : OKF F) (h : FM 0 F σM) {t : Nat} (ht : t < fM F) : ald σM 1 660 (5 + nI t) = some (nI (fA F t)) := by
  have hm := hF.m10
  have hq := (h.1.2.2.2.1 t ht).1
  simp only [Nat.zero_add] at hq
  rw [z_lit 5, m_wk 5 (by omega), hq]
theorem m_B (hF : OKF F) (h : FM 0 F σM) {t : Nat} (ht : t < fM F) : ald σM 1 660 (15 + nI t) = some (nI (fB F t)) := by
  have hm := hF.m10
  have hq := (h.1.2.2.2.1 t ht).2.1
  simp only [Nat.zero_add] at hq
  rw [z_lit 15, m_wk 15 (by omega), hq]
/-- a step may be gone, where one stands -/
theorem m_may (hF : OKF F) (h : FM 0 F σM) {t : Nat} (ht : t < fM F) : f_X9_may (nI t) σM = some (if aft F (fTh F) t (fSt F) = fSt F then 0 else 1) := by
  obtain ⟨ca, cb, cc⟩ := hF.1.c10 ht
  have hn := aft_ne (F := F) (fTh F) t (fSt F)
  have hs := hF.sub
  have res0 : ¬ ((fSt F).testBit (fA F t) = true ∧ (fSt F).testBit (fB F t) = true ∧ (fTh F).testBit (fC F t) = true ∧ (fSt F).testBit (fC F t) = false) → (if aft F (fTh F) t (fSt F) = fSt F then (0 : Int32) else 1) = 0 := fun q => if_pos (Classical.byContradiction (fun z => q (hn.mp z)))
  unfold f_X9_may
  rw [bind_ok (m_A hF h ht), bind_ok (m_B hF h ht), bind_ok (m_C hF h ht), nm_eq, bind_ok (m_w2 h), z_bit (by omega), z_bit (by omega), z_bit (by omega), z_or, z_or, z_dif]
  have h3 : (2 ^ fA F t ||| 2 ^ fB F t) ||| 2 ^ fC F t < 1024 := or10 (or10 (pow10 ca) (pow10 cb)) (pow10 cc)
  by_cases c0 : dif ((2 ^ fA F t ||| 2 ^ fB F t) ||| 2 ^ fC F t) (fTh F) = 0
  case neg =>
    rw [if_neg (z_ne0 (lt31 (dif_lt h3)) c0), res0]
    · rfl
    · rintro ⟨q1, q2, q3, -⟩
      refine c0 ((dif_0 h3).mpr (fun k hk => ?_))
      rw [tb_or2] at hk
      simp only [Bool.or_eq_true, decide_eq_true_eq] at hk
      rcases hk with hk | rfl
      · exact sub_p2.mpr ⟨hs _ q1, hs _ q2⟩ k hk
      · exact q3
  have hc : (fTh F).testBit (fC F t) = true := (dif_0 h3).mp c0 _ (by rw [tb_or2]; simp)
  rw [c0, if_pos z_e0, bind_ok (m_w3 h), bind_ok (m_A hF h ht), bind_ok (m_has (lt31 hF.st) (by omega))]
  cases c1 : (fSt F).testBit (fA F t)
  · rw [zb_0.mpr c1, if_pos rfl, res0 (by simp [c1])]; rfl
  rw [zb_1.mpr c1, if_neg (by decide : ¬ (1 : Int32) = 0), bind_ok (m_w3 h), bind_ok (m_B hF h ht), bind_ok (m_has (lt31 hF.st) (by omega))]
  cases c2 : (fSt F).testBit (fB F t)
  · rw [zb_0.mpr c2, if_pos rfl, res0 (by simp [c2])]; rfl
  rw [zb_1.mpr c2, if_neg (by decide : ¬ (1 : Int32) = 0), bind_ok (m_w3 h), bind_ok (m_C hF h ht), bind_ok (m_has (lt31 hF.st) (by omega))]
  cases c3 : (fSt F).testBit (fC F t)
  case true => rw [zb_1.mpr c3, if_neg (by decide : ¬ (1 : Int32) = 0), res0 (by simp [c3])]; rfl
  rw [zb_0.mpr c3, if_pos rfl, if_neg (hn.mpr ⟨c1, c2, hc, c3⟩)]
  rfl
theorem x_may (hF : OKF F) (h : FX 12 F σX) {t : Nat} (ht : t < fM F) : f_X1_mayBeGone 12 (nI t) σX = some (if aft F (fTh F) t (fSt F) = fSt F then 0 else 1) := by
  have hm := hF.m10
  unfold f_X1_mayBeGone f_X1_after
  rw [h.2.1, h.2.2, x_aftA hF.1 h.1 ht hF.st hF.th]
  show (if nI _ = nI _ then _ else _) = _
  by_cases e : aft F (fTh F) t (fSt F) = fSt F
  · rw [e, if_pos rfl, if_pos rfl]; rfl
  · rw [if_neg e, if_neg (fun q => e ((nI_eq (lt31 (aft_lt hF.1 ht hF.st)) (lt31 hF.st)).mp q))]; rfl
/-- promise 8: step -/
theorem q_step (hF : OKF F) (hX : FX 12 F σX) (hM : FM 0 F σM) (v w : Int32) : ∃ r, f_X8_step v w σX = some r ∧ f_X9_step v w σM = some r := by
  have hm := hF.m10
  unfold f_X8_step f_X9_step
  rw [bind_ok (x_isStep hX v), bind_ok (m_isStep hF hM.1 v)]
  rcases inn_cases v (n := fM F) (by omega) with e | ⟨j, h1, rfl, e⟩
  · rw [e]; exact ⟨_, rfl, rfl⟩
  rw [e, if_neg (by decide : ¬ (1 : Int32) = 0), if_neg (by decide : ¬ (1 : Int32) = 0), bind_ok (z_inK w 3 3 (by decide) (by decide))]
  have hq := hX.1.2.2.2.1 j h1
  rcases inn_cases w (n := 3 + 1) (by decide) with e | ⟨k, hk, rfl, e⟩
  · rw [e, if_pos rfl]
    refine ⟨-1, ?_, rfl⟩
    rcases inn_out e with c | c
    · rw [if_pos c]; rfl
    · by_cases c1 : w < 0
      · rw [if_pos c1]; rfl
      · rw [if_neg c1, if_neg]
        · rfl
        · intro q
          have := (gt_of (v := w) (n := 3) (by decide)).mp c
          rw [fa_lt] at this
          rw [Int32.le_iff_toInt_le] at q
          have e1 : (nI 3).toInt = (3 : Int32).toInt := rfl
          omega
  rw [e, if_neg (by decide : ¬ (1 : Int32) = 0), if_neg (nI_pos (by omega)), if_pos (show nI k ≤ (3 : Int32) from nI_le (a := k) (b := 3) (by omega) (by decide))]
  rcases (show k = 0 ∨ k = 1 ∨ k = 2 ∨ k = 3 by omega) with rfl | rfl | rfl | rfl
  · rw [if_pos (show nI 0 = 0 from rfl), if_pos (show nI 0 = 0 from rfl), bind_ok (m_A hF hM h1)]
    unfold f_X1_firstOf
    rw [bind_ok (x_at (by omega) (by decide)), hq.1]
    exact ⟨_, rfl, rfl⟩
  · rw [if_neg (show ¬ nI 1 = 0 by decide), if_neg (show ¬ nI 1 = 0 by decide), if_pos (show nI 1 = 1 from rfl), if_pos (show nI 1 = 1 from rfl), bind_ok (m_B hF hM h1)]
    unfold f_X1_secondOf
    rw [bind_ok (x_at (by omega) (by decide)), hq.2.1]
    exact ⟨_, rfl, rfl⟩
  · rw [if_neg (show ¬ nI 2 = 0 by decide), if_neg (show ¬ nI 2 = 0 by decide), if_neg (show ¬ nI 2 = 1 by decide), if_neg (show ¬ nI 2 = 1 by decide), if_pos (show nI 2 = 2 from rfl), if_pos (show nI 2 = 2 from rfl), bind_ok (m_C hF hM h1)]
    unfold f_X1_endOf
    rw [bind_ok (x_at (by omega) (by decide)), hq.2.2.1]
    exact ⟨_, rfl, rfl⟩
  · rw [if_neg (show ¬ nI 3 = 0 by decide), if_neg (show ¬ nI 3 = 0 by decide), if_neg (show ¬ nI 3 = 1 by decide), if_neg (show ¬ nI 3 = 1 by decide), if_neg (show ¬ nI 3 = 2 by decide), if_neg (show ¬ nI 3 = 2 by decide), bind_ok (m_may hF hM h1), bind_ok (x_may hF hX h1)]
    by_cases e : aft F (fTh F) j (fSt F) = fSt F
    · rw [if_pos e]; exact ⟨_, rfl, rfl⟩
    · rw [if_neg e]; exact ⟨_, rfl, rfl⟩
end
end
section
-- loops by an invariant
theorem itr_inv {S X : Type} {G : S → Option (S ⊕ X)} (P : Nat → S → Prop) (Q : X → Prop) : ∀ (k i N : Nat) (s : S), k < N → P i s → (∀ j z, i ≤ j → j < i + k → P j z → ∃ z', G z = some (.inl z') ∧ P (j + 1) z') → (∀ z, P (i + k) z → ∃ x, G z = some (.inr x) ∧ Q x) → ∃ x, itr N G s = some x ∧ Q x := by
  intro k
  induction k with
  | zero =>
    intro i N s hN h0 _ h2
    obtain ⟨N, rfl⟩ : ∃ M, N = M + 1 := ⟨N - 1, by omega⟩
    obtain ⟨x, h3, h4⟩ := h2 s h0
    exact ⟨x, itr_out h3, h4⟩
  | succ k ih =>
    intro i N s hN h0 h1 h2
    obtain ⟨N, rfl⟩ : ∃ M, N = M + 1 := ⟨N - 1, by omega⟩
    obtain ⟨z, h3, h4⟩ := h1 i s (Nat.le_refl _) (by omega) h0
    rw [itr_in h3]
    exact ih (i + 1) N z (by omega) h4 (fun j w q1 q2 => h1 j w (by omega) (by omega)) (fun w q => h2 w (by rw [show i + (k + 1) = i + 1 + k by omega]; exact q))
-- again and again
def itn (f : Nat → Nat) (x : Nat) : Nat → Nat
  | 0 => x
  | i + 1 => f (itn f x i)
theorem itn_lt {f : Nat → Nat} (hl : ∀ x, x < 1024 → f x < 1024) {x : Nat} (hx : x < 1024) : ∀ i, itn f x i < 1024 := by
  intro i
  induction i with
  | zero => exact hx
  | succ i ih => exact hl _ ih
theorem itn_st {f : Nat → Nat} {x i : Nat} (h : itn f x (i + 1) = itn f x i) : ∀ j, itn f x (i + j) = itn f x i := by
  intro j
  induction j with
  | zero => rfl
  | succ j ih => show f (itn f x (i + j)) = _; rw [ih]; exact h
theorem fix10 {f : Nat → Nat} (hl : ∀ x, x < 1024 → f x < 1024) (hs : ∀ x, sub x (f x)) {x : Nat} (hx : x < 1024) : f (itn f x 10) = itn f x 10 := by
  have h1 : ∃ i, i ≤ 10 ∧ itn f x (i + 1) = itn f x i := by
    refine Classical.byContradiction (fun hc => ?_)
    have key : ∀ i, i ≤ 11 → i ≤ pc (itn f x i) := by
      intro i
      induction i with
      | zero => intro _; exact Nat.zero_le _
      | succ i ih =>
        intro hi
        have h1 := ih (by omega)
        have h2 := pc_lt (itn_lt hl hx (i + 1)) (hs (itn f x i)) (fun q => hc ⟨i, by omega, q.symm⟩)
        have h3 : pc (itn f x i) < pc (itn f x (i + 1)) := h2
        omega
    have := key 11 (by omega)
    have := pc_le (itn f x 11)
    omega
  obtain ⟨i, h1, h2⟩ := h1
  have h3 := itn_st h2 (10 - i)
  have h4 := itn_st h2 (11 - i)
  rw [show i + (10 - i) = 10 by omega] at h3
  rw [show i + (11 - i) = 11 by omega] at h4
  show itn f x 11 = itn f x 10
  rw [h3, h4]
theorem itn_ext {f : Nat → Nat} (hs : ∀ x, sub x (f x)) (x : Nat) : ∀ i, sub x (itn f x i) := by
  intro i
  induction i with
  | zero => exact sub_rfl _
  | succ i ih => exact sub_tr ih (hs _)
-- directly behind
def dd1 (F : Fl) (s t acc : Nat) : Nat := if s.testBit (fA F t) = true ∨ s.testBit (fB F t) = true then acc ||| 2 ^ fC F t else acc
def ddn (F : Fl) (s k : Nat) : Nat := fo (dd1 F s) 0 k
def dd (F : Fl) (s : Nat) : Nat := ddn F s (fM F)
theorem ddn_tb (F : Fl) (s c : Nat) : ∀ k, (ddn F s k).testBit c = true ↔ ∃ t, t < k ∧ fC F t = c ∧ (s.testBit (fA F t) = true ∨ s.testBit (fB F t) = true) := by
  intro k
  induction k with
  | zero =>
    show (0 : Nat).testBit c = true ↔ _
    rw [Nat.zero_testBit]
    constructor
    · intro q; cases q
    · rintro ⟨t, q, -⟩; omega
  | succ k ih =>
    show (dd1 F s k (ddn F s k)).testBit c = true ↔ _
    unfold dd1
    by_cases c1 : s.testBit (fA F k) = true ∨ s.testBit (fB F k) = true
    · rw [if_pos c1, tb_or2, Bool.or_eq_true, decide_eq_true_eq, ih]
      constructor
      · rintro (⟨t, q1, q2⟩ | q)
        · exact ⟨t, by omega, q2⟩
        · exact ⟨k, by omega, q, c1⟩
      · rintro ⟨t, q1, q2, q3⟩
        by_cases e : t = k
        · subst e; exact Or.inr q2
        · exact Or.inl ⟨t, by omega, q2, q3⟩
    · rw [if_neg c1, ih]
      constructor
      · rintro ⟨t, q1, q2⟩; exact ⟨t, by omega, q2⟩
      · rintro ⟨t, q1, q2, q3⟩
        by_cases e : t = k
        · subst e; exact absurd q3 c1
        · exact ⟨t, by omega, q2, q3⟩
theorem dd_tb {F : Fl} {s c : Nat} : (dd F s).testBit c = true ↔ ∃ t, t < fM F ∧ fC F t = c ∧ (s.testBit (fA F t) = true ∨ s.testBit (fB F t) = true) := ddn_tb F s c _
theorem ddn_lt {F : Fl} (hF : OKL F) (s : Nat) : ∀ k, k ≤ fM F → ddn F s k < 1024 := by
  intro k
  induction k with
  | zero => intro _; show (0 : Nat) < 1024; decide
  | succ k ih =>
    intro hk
    show dd1 F s k (ddn F s k) < 1024
    unfold dd1
    split
    · exact or10 (ih (by omega)) (pow10 (hF.c10 (by omega : k < fM F)).2.2)
    · exact ih (by omega)
theorem dd_lt {F : Fl} (hF : OKL F) (s : Nat) : dd F s < 1024 := ddn_lt hF s _ (Nat.le_refl _)
theorem dd_mono {F : Fl} {x y : Nat} (h : sub x y) : sub (dd F x) (dd F y) := fun c hc => by
  rw [dd_tb] at hc ⊢
  obtain ⟨t, q1, q2, q3⟩ := hc
  exact ⟨t, q1, q2, q3.imp (h _) (h _)⟩
theorem or_and0 {s a b : Nat} : (2 ^ a ||| 2 ^ b) &&& s = 0 ↔ ¬ (s.testBit a = true ∨ s.testBit b = true) := by
  constructor
  · intro h q
    have key : ∀ i, s.testBit i = true → (2 ^ a ||| 2 ^ b).testBit i = false := by
      intro i hi
      have := congrArg (fun z => Nat.testBit z i) h
      simp only [Nat.testBit_and, Nat.zero_testBit, hi, Bool.and_true] at this
      exact this
    rcases q with q | q
    · have := key a q; rw [Nat.testBit_or, Nat.testBit_two_pow_self] at this; cases this
    · have := key b q; rw [Nat.testBit_or, Nat.testBit_two_pow_self, Bool.or_true] at this; cases this
  · intro q
    apply Nat.eq_of_testBit_eq
    intro i
    rw [Nat.testBit_and, tb_or2, Nat.testBit_two_pow, Nat.zero_testBit]
    cases hs : s.testBit i
    · simp
    · have h1 : a ≠ i := fun e => q (Or.inl (by rw [e]; exact hs))
      have h2 : b ≠ i := fun e => q (Or.inr (by rw [e]; exact hs))
      simp [h1, h2]
section
variable {F : Fl} {σX σM : Sg}
theorem x_behind (hF : OKF F) (h : FX 12 F σX) {s : Nat} (hs : s < 1024) : f_X1_directlyBehind 12 (nI s) σX = some (nI (dd F s)) := by
  have hm := hF.m10
  unfold f_X1_directlyBehind f_X1_directlyBehind_4
  refine itr_run (fun k => (nI (ddn F s k), nI k)) (fM F) rfl (by omega) (fun k hk => ?_) ?_
  · have hq := h.1.2.2.2.1 k hk
    obtain ⟨ca, cb, cc⟩ := hF.1.c10 hk
    show f_X1_directlyBehind_4s 12 (nI s) (nI (ddn F s k)) (nI k) σX = some (.inl (nI (ddn F s (k + 1)), nI (k + 1)))
    unfold f_X1_directlyBehind_4s
    have e1 : f_X1_originsOf 12 (nI k) σX = some (nI (2 ^ fA F k ||| 2 ^ fB F k)) := by
      unfold f_X1_originsOf
      rw [bind_ok (x_at (by omega) (by decide)), hq.2.2.2]
    have e2 : f_X1_endOf 12 (nI k) σX = some (nI (fC F k)) := by
      unfold f_X1_endOf
      rw [bind_ok (x_at (by omega) (by decide)), hq.2.2.1]
    rw [h.1.2.1, if_neg (nI_ge hk (by omega)), bind_ok e1, z_and]
    by_cases c : s.testBit (fA F k) = true ∨ s.testBit (fB F k) = true
    · rw [if_neg (z_ne0 (lt31 (and10 _ hs)) (fun q => or_and0.mp q c)), bind_ok e2, z_bit (by omega), z_or, nm_eq, show ddn F s (k + 1) = ddn F s k ||| 2 ^ fC F k from if_pos c]
      unfold f_X1_directlyBehind_32
      rw [nm_eq, nI_1]
    · rw [or_and0.mpr c, if_pos z_e0, show ddn F s (k + 1) = ddn F s k from if_neg c]
      unfold f_X1_directlyBehind_32
      rw [nm_eq, nI_1]
  · show f_X1_directlyBehind_4s 12 (nI s) (nI (ddn F s (fM F))) (nI (fM F)) σX = _
    unfold f_X1_directlyBehind_4s
    rw [h.1.2.1, if_pos (nI_le (Nat.le_refl _) (by omega))]
    rfl
/-- all that is behind a stone -/
def evb (F : Fl) (v : Nat) : Nat := itn (fun x => x ||| dd F x) (dd F (2 ^ v)) 10
/-- closed, behind v -/
def cbe (F : Fl) (v y : Nat) : Prop := ∀ t, t < fM F → (fA F t = v ∨ fB F t = v ∨ y.testBit (fA F t) = true ∨ y.testBit (fB F t) = true) → y.testBit (fC F t) = true
theorem evb_lt (hF : OKL F) (v : Nat) : evb F v < 1024 := itn_lt (fun x hx => or10 hx (dd_lt hF x)) (dd_lt hF _) 10
theorem evb_min {v y : Nat} (h : cbe F v y) : sub (evb F v) y := by
  have key : ∀ i, sub (itn (fun x => x ||| dd F x) (dd F (2 ^ v)) i) y := by
    intro i
    induction i with
    | zero =>
      intro c hc
      obtain ⟨t, q1, rfl, q3⟩ := dd_tb.mp hc
      refine h t q1 ?_
      simp only [Nat.testBit_two_pow, decide_eq_true_eq] at q3
      rcases q3 with q | q
      · exact Or.inl q.symm
      · exact Or.inr (Or.inl q.symm)
    | succ i ih =>
      intro c hc
      have hc2 : (itn (fun x => x ||| dd F x) (dd F (2 ^ v)) i ||| dd F (itn (fun x => x ||| dd F x) (dd F (2 ^ v)) i)).testBit c = true := hc
      rw [Nat.testBit_or, Bool.or_eq_true] at hc2
      rcases hc2 with q | q
      · exact ih c q
      · obtain ⟨t, q1, rfl, q3⟩ := dd_tb.mp q
        exact h t q1 (Or.inr (Or.inr (q3.imp (ih _) (ih _))))
  exact key 10
theorem evb_cld (hF : OKL F) (v : Nat) : cbe F v (evb F v) := by
  have hfx : evb F v ||| dd F (evb F v) = evb F v := fix10 (f := fun x => x ||| dd F x) (fun x hx => or10 hx (dd_lt hF x)) (fun x => sub_or) (dd_lt hF (2 ^ v))
  have h0 : sub (dd F (2 ^ v)) (evb F v) := itn_ext (fun x => sub_or) _ 10
  intro t ht hq
  have two : ∀ s, (s.testBit (fA F t) = true ∨ s.testBit (fB F t) = true) → (dd F s).testBit (fC F t) = true := fun s q => dd_tb.mpr ⟨t, ht, rfl, q⟩
  rcases hq with q | q | q
  · exact h0 _ (two _ (Or.inl (by rw [q]; exact Nat.testBit_two_pow_self)))
  · exact h0 _ (two _ (Or.inr (by rw [q]; exact Nat.testBit_two_pow_self)))
  · rw [← hfx, Nat.testBit_or, two _ q, Bool.or_true]
theorem x_evb (hF : OKF F) (h : FX 12 F σX) {v : Nat} (hv : v < 10) : f_X5_everBehind (nI v) σX = some (nI (evb F v)) := by
  unfold f_X5_everBehind
  rw [z_bit (by omega), bind_ok (x_behind hF h (pow10 hv))]
  unfold f_X5_everBehind_10
  refine itr_run (fun k => (nI (itn (fun x => x ||| dd F x) (dd F (2 ^ v)) k), nI k)) 10 rfl (by decide) (fun k hk => ?_) ?_
  · show f_X5_everBehind_10s (nI (itn (fun x => x ||| dd F x) (dd F (2 ^ v)) k)) (nI k) σX = _
    unfold f_X5_everBehind_10s
    rw [z_lit 10, if_neg (nI_ge hk (by decide)), bind_ok (x_behind hF h (itn_lt (fun x hx => or10 hx (dd_lt hF.1 x)) (dd_lt hF.1 _) k)), nm_eq, nm_eq, nI_1, z_or]
    rfl
  · show f_X5_everBehind_10s (nI (evb F v)) (nI 10) σX = _
    unfold f_X5_everBehind_10s
    rw [z_lit 10, if_pos (nI_le (Nat.le_refl _) (by decide))]
-- the reference's way
def ld1 (F : Fl) (v t y : Nat) : Nat := if fA F t = v ∨ fB F t = v ∨ y.testBit (fA F t) = true ∨ y.testBit (fB F t) = true then y ||| 2 ^ fC F t else y
def lds (F : Fl) (v y : Nat) : Nat := fo (ld1 F v) y (fM F)
def lead (F : Fl) (v : Nat) : Nat := itn (lds F v) 0 10
theorem ld1_sub (v t y : Nat) : sub y (ld1 F v t y) := by unfold ld1; split; exact sub_or; exact sub_rfl _
theorem ldn_up (v y : Nat) : ∀ j k, k ≤ j → sub (fo (ld1 F v) y k) (fo (ld1 F v) y j) := by
  intro j
  induction j with
  | zero => intro k hk; rw [Nat.le_zero.mp hk]; exact sub_rfl _
  | succ j ih =>
    intro k hk
    rcases Nat.lt_or_ge k (j + 1) with q | q
    · exact sub_tr (ih k (by omega)) (ld1_sub _ _ _)
    · rw [show k = j + 1 by omega]; exact sub_rfl _
theorem ldn_lt (hF : OKL F) {v y : Nat} (hy : y < 1024) : ∀ k, k ≤ fM F → fo (ld1 F v) y k < 1024 := by
  intro k
  induction k with
  | zero => intro _; exact hy
  | succ k ih =>
    intro hk
    rw [fo_s]
    unfold ld1
    split
    · exact or10 (ih (by omega)) (pow10 (hF.c10 (by omega : k < fM F)).2.2)
    · exact ih (by omega)
theorem lds_lt (hF : OKL F) {v : Nat} : ∀ y, y < 1024 → lds F v y < 1024 := fun _ hy => ldn_lt hF hy _ (Nat.le_refl _)
theorem lead_lt (hF : OKL F) (v : Nat) : lead F v < 1024 := itn_lt (lds_lt hF) (by decide) 10
theorem lead_min {v y : Nat} (h : cbe F v y) : sub (lead F v) y := by
  have one : ∀ x, sub x y → ∀ k, k ≤ fM F → sub (fo (ld1 F v) x k) y := by
    intro x hx k
    induction k with
    | zero => intro _; exact hx
    | succ k ih =>
      intro hk
      have h1 := ih (by omega)
      rw [fo_s]
      unfold ld1
      split
      · rename_i hq
        intro i hi
        rw [tb_or2] at hi
        simp only [Bool.or_eq_true, decide_eq_true_eq] at hi
        rcases hi with hi | rfl
        · exact h1 i hi
        · refine h k (by omega) ?_
          rcases hq with q | q | q | q
          · exact Or.inl q
          · exact Or.inr (Or.inl q)
          · exact Or.inr (Or.inr (Or.inl (h1 _ q)))
          · exact Or.inr (Or.inr (Or.inr (h1 _ q)))
      · exact h1
  have key : ∀ i, sub (itn (lds F v) 0 i) y := by
    intro i
    induction i with
    | zero => intro k hk; rw [show itn (lds F v) 0 0 = 0 from rfl, Nat.zero_testBit] at hk; cases hk
    | succ i ih => exact one _ ih _ (Nat.le_refl _)
  exact key 10
theorem lead_cld (hF : OKL F) (v : Nat) : cbe F v (lead F v) := by
  have hfx : lds F v (lead F v) = lead F v := fix10 (lds_lt hF) (fun x => ldn_up v x _ 0 (Nat.zero_le _)) (by decide)
  intro t ht hq
  have e1 : fo (ld1 F v) (lead F v) t = lead F v := sub_as (by have := ldn_up (F := F) v (lead F v) (fM F) t (by omega); rw [show fo (ld1 F v) (lead F v) (fM F) = lead F v from hfx] at this; exact this) (ldn_up v _ t 0 (Nat.zero_le _))
  have e2 : sub (fo (ld1 F v) (lead F v) (t + 1)) (lead F v) := by have := ldn_up (F := F) v (lead F v) (fM F) (t + 1) (by omega); rw [show fo (ld1 F v) (lead F v) (fM F) = lead F v from hfx] at this; exact this
  rw [fo_s, e1] at e2
  unfold ld1 at e2
  rw [if_pos hq] at e2
  exact e2 _ (by rw [tb_or2]; simp)
theorem evb_lead (hF : OKL F) (v : Nat) : evb F v = lead F v := sub_as (evb_min (lead_cld hF v)) (lead_min (evb_cld hF v))
theorem m_leads (hF : OKF F) (h : FM 0 F σM) {v : Nat} (hv : v < 10) : f_X9_leads (nI v) σM = some (nI (lead F v)) := by
  have hm := hF.m10
  unfold f_X9_leads f_X9_leads_4
  refine itr_run (fun k => (nI (itn (lds F v) 0 k), nI k)) 10 rfl (by decide) (fun i hi => ?_) ?_
  · show f_X9_leads_4s (nI v) (nI (itn (lds F v) 0 i)) (nI i) σM = some (.inl (nI (itn (lds F v) 0 (i + 1)), nI (i + 1)))
    have hy := itn_lt (lds_lt hF.1 (v := v)) (show 0 < 1024 by decide) i
    show f_X9_leads_4s (nI v) (nI (itn (lds F v) 0 i)) (nI i) σM = some (.inl (nI (lds F v (itn (lds F v) 0 i)), nI (i + 1)))
    generalize itn (lds F v) 0 i = y at hy
    unfold f_X9_leads_4s
    rw [z_lit 10, if_neg (nI_ge hi (by decide))]
    unfold f_X9_leads_13
    refine itr_run (fun k => (nI (fo (ld1 F v) y k), nI k)) (fM F) rfl (by omega) (fun k hk => ?_) ?_
    · obtain ⟨ca, cb, cc⟩ := hF.1.c10 hk
      have hz := ldn_lt hF.1 (v := v) hy k (by omega)
      show f_X9_leads_13s (nI v) (nI (fo (ld1 F v) y k)) (nI i) (nI k) σM = some (.inl (nI (fo (ld1 F v) y (k + 1)), nI (k + 1)))
      rw [fo_s]
      generalize fo (ld1 F v) y k = z at hz
      have yes : ld1 F v k z = z ||| 2 ^ fC F k → f_X9_leads_84 (nI v) (nI z) (nI i) (nI k) σM = some (.inl (nI (ld1 F v k z), nI (k + 1))) := by
        intro e
        unfold f_X9_leads_84 f_X9_leads_89
        rw [if_neg (by decide : ¬ (1 : Int32) = 0), bind_ok (m_C hF h hk), z_bit (by omega)]
        unfold f_X9_leads_113
        rw [nm_eq, nm_eq, nI_1, z_or, e]
      unfold f_X9_leads_13s
      rw [bind_ok (m_w4 h), if_neg (nI_ge hk (by omega)), bind_ok (m_A hF h hk)]
      by_cases c1 : fA F k = v
      · rw [if_pos (show nI (fA F k) = nI v by rw [c1])]
        exact yes (if_pos (Or.inl c1))
      rw [if_neg (fun q => c1 ((nI_eq (a := fA F k) (b := v) (by omega) (by omega)).mp q)), bind_ok (m_B hF h hk)]
      by_cases c2 : fB F k = v
      · rw [if_pos (show nI (fB F k) = nI v by rw [c2])]
        exact yes (if_pos (Or.inr (Or.inl c2)))
      rw [if_neg (fun q => c2 ((nI_eq (a := fB F k) (b := v) (by omega) (by omega)).mp q)), bind_ok (m_A hF h hk), bind_ok (m_has (lt31 hz) (by omega))]
      cases c3 : z.testBit (fA F k)
      case true =>
        rw [zb_1.mpr c3, if_neg (by decide : ¬ (1 : Int32) = 0)]
        exact yes (if_pos (Or.inr (Or.inr (Or.inl c3))))
      rw [zb_0.mpr c3, if_pos rfl, bind_ok (m_B hF h hk), bind_ok (m_has (lt31 hz) (by omega))]
      cases c4 : z.testBit (fB F k)
      case true =>
        rw [zb_1.mpr c4, if_neg (by decide : ¬ (1 : Int32) = 0)]
        exact yes (if_pos (Or.inr (Or.inr (Or.inr c4))))
      rw [zb_0.mpr c4, if_pos rfl, show ld1 F v k z = z from if_neg (by simp [c1, c2, c3, c4])]
      unfold f_X9_leads_89
      rw [if_pos rfl]
      unfold f_X9_leads_113
      rw [nm_eq, nm_eq, nI_1, z_or0]
    · show f_X9_leads_13s (nI v) (nI (lds F v y)) (nI i) (nI (fM F)) σM = _
      unfold f_X9_leads_13s
      rw [bind_ok (m_w4 h), if_pos (nI_le (Nat.le_refl _) (by omega)), nm_eq, nI_1]
  · show f_X9_leads_4s (nI v) (nI (lead F v)) (nI 10) σM = _
    unfold f_X9_leads_4s
    rw [z_lit 10, if_pos (nI_le (Nat.le_refl _) (by decide))]
/-- the lowest with p, from i, k of them -/
def low (p : Nat → Bool) : Nat → Nat → Option Nat
  | _, 0 => none
  | i, k + 1 => if p i = true then some i else low p (i + 1) k
theorem low_none (p : Nat → Bool) : ∀ k i, low p i k = none ↔ ∀ j, i ≤ j → j < i + k → p j = false := by
  intro k
  induction k with
  | zero => intro i; exact ⟨fun _ j h1 h2 => by omega, fun _ => rfl⟩
  | succ k ih =>
    intro i
    unfold low
    by_cases c : p i = true
    · rw [if_pos c]
      constructor
      · intro q; cases q
      · intro q; have := q i (Nat.le_refl _) (by omega); rw [c] at this; cases this
    · rw [if_neg c, ih]
      constructor
      · intro q j h1 h2
        by_cases e : j = i
        · subst e; simpa using c
        · exact q j (by omega) (by omega)
      · intro q j h1 h2
        exact q j (by omega) (by omega)
theorem low_lt (p : Nat → Bool) : ∀ k i b, low p i k = some b → b < i + k := by
  intro k
  induction k with
  | zero => intro i b h; cases h
  | succ k ih =>
    intro i b h
    unfold low at h
    by_cases c : p i = true
    · rw [if_pos c] at h; cases h; omega
    · rw [if_neg c] at h
      have := ih _ _ h
      omega
def cir (F : Fl) : Option Nat := low (fun v => (lead F v).testBit v) 0 (fN F)
theorem x_circle (hF : OKF F) (h : FX 12 F σX) : f_X5_lowestInCircle σX = some (cd (cir F)) := by
  have hn := hF.1.1
  have key : ∀ k i N, i + k = fN F → k < N → itr N (fun s => f_X5_lowestInCircle_2s s σX) (nI i) = some (cd (low (fun v => (lead F v).testBit v) i k)) := by
    intro k
    induction k with
    | zero =>
      intro i N hi hN
      obtain ⟨N, rfl⟩ : ∃ M, N = M + 1 := ⟨N - 1, by omega⟩
      refine itr_out ?_
      show f_X5_lowestInCircle_2s (nI i) σX = _
      unfold f_X5_lowestInCircle_2s
      rw [bind_ok (x_stones h), if_pos (nI_le (by omega) (by omega))]
      rfl
    | succ k ih =>
      intro i N hi hN
      obtain ⟨N, rfl⟩ : ∃ M, N = M + 1 := ⟨N - 1, by omega⟩
      have hh : f_X5_lowestInCircle_2s (nI i) σX = (if (lead F i).testBit i = true then some (Sum.inr (nI i)) else some (Sum.inl (nI (i + 1))) : Option (Int32 ⊕ Int32)) := by
        unfold f_X5_lowestInCircle_2s
        rw [bind_ok (x_stones h), if_neg (nI_ge (by omega) (by omega)), bind_ok (x_evb hF h (by omega)), evb_lead hF.1, bind_ok (x_has (lt31 (lead_lt hF.1 i)) (by omega))]
        cases c : (lead F i).testBit i
        · rw [zb_0.mpr c, if_pos rfl, nm_eq, nI_1]; rfl
        · rw [zb_1.mpr c, if_neg (by decide)]; rfl
      unfold low
      by_cases c : (lead F i).testBit i = true
      · rw [if_pos c] at hh
        rw [if_pos c]
        exact itr_out hh
      · rw [if_neg c] at hh
        rw [if_neg c, itr_in hh]
        exact ih (i + 1) N (by omega) (by omega)
  unfold f_X5_lowestInCircle f_X5_lowestInCircle_2
  exact key (fN F) 0 3000 (by omega) (by omega)
theorem m_circle (hF : OKF F) (h : FM 0 F σM) : f_X9_circle σM = some (cd (cir F)) := by
  have hn := hF.1.1
  unfold f_X9_circle
  rw [bind_ok (m_w0 h), nm_eq, show nI (fN F) - (1 : Int32) = nI (fN F - 1) from pk_sub (b := 1) hn.1]
  unfold f_X9_circle_12
  refine itr_run (fun k => (cd (low (fun v => (lead F v).testBit v) (fN F - k) k), sI (fN F - 1) k)) (fN F) ?_ (by omega) (fun k hk => ?_) ?_
  · show (-4, nI (fN F - 1)) = (-4, sI (fN F - 1) 0)
    rw [sI_in (by omega), Nat.sub_zero]
  · show f_X9_circle_12s (cd (low (fun v => (lead F v).testBit v) (fN F - k) k)) (sI (fN F - 1) k) σM = some (.inl (cd (low (fun v => (lead F v).testBit v) (fN F - (k + 1)) (k + 1)), sI (fN F - 1) (k + 1)))
    rw [sI_in (by omega)]
    unfold f_X9_circle_12s
    rw [if_neg (nI_pos (by omega)), bind_ok (m_leads hF h (by omega)), bind_ok (m_has (lt31 (lead_lt hF.1 _)) (by omega))]
    obtain ⟨i, ei⟩ : ∃ i, i = fN F - 1 - k := ⟨_, rfl⟩
    rw [show fN F - k = i + 1 by omega, show fN F - (k + 1) = i by omega, ← ei]
    have go : ∀ a, f_X9_circle_33 (nI i) a σM = some (.inl (a, sI (fN F - 1) (k + 1))) := by
      intro a
      unfold f_X9_circle_33
      rw [nm_eq, ei, sI_s (by omega)]
    cases c : (lead F i).testBit i
    · rw [zb_0.mpr c, if_pos rfl, go, show low (fun v => (lead F v).testBit v) i (k + 1) = low (fun v => (lead F v).testBit v) (i + 1) k from if_neg (by simp [c])]
    · rw [zb_1.mpr c, if_neg (by decide), go, show low (fun v => (lead F v).testBit v) i (k + 1) = some i from if_pos c]
      rfl
  · show f_X9_circle_12s (cd (low (fun v => (lead F v).testBit v) (fN F - fN F) (fN F))) (sI (fN F - 1) (fN F)) σM = _
    unfold f_X9_circle_12s
    have e : sI (fN F - 1) (fN F) = -1 := by
      have := sI_out (fN F - 1)
      rw [show fN F - 1 + 1 = fN F by omega] at this
      exact this
    rw [e, if_pos (by decide), Nat.sub_self]
    rfl
/-- promise 21: circle -/
theorem q_circle (hF : OKF F) (hX : FX 12 F σX) (hM : FM 0 F σM) : ∃ r, f_X8_circle σX = some r ∧ f_X9_circle σM = some r := by
  refine ⟨_, ?_, m_circle hF hM⟩
  unfold f_X8_circle
  rw [bind_ok (x_circle hF hX)]
end
end
section
section
variable {F : Fl} {σX σM : Sg}
theorem FM_same {r : Nat} {σ s : Sg} (h : s.1 1 = σ.1 1) (hM : FM r F σ) : FM r F s := by
  unfold FM FMl
  rw [h]
  exact hM
theorem FX_same {b : Nat} {σ s : Sg} (h : ∀ k, b ≤ k → k ≤ b + 6 → s.1 k = σ.1 k) (hX : FX b F σ) : FX b F s := by
  unfold FX FXl
  rw [h b (by omega) (by omega), h (b + 1) (by omega) (by omega), h (b + 2) (by omega) (by omega), h (b + 3) (by omega) (by omega), h (b + 4) (by omega) (by omega), h (b + 5) (by omega) (by omega), h (b + 6) (by omega) (by omega)]
  exact hX
/-- what is k deep or deeper -/
def dk (F : Fl) : Nat → Nat := itn (dd F) (2 ^ fN F - 1)
theorem dk_0 : dk F 0 = 2 ^ fN F - 1 := rfl
theorem dk_s (k : Nat) : dk F (k + 1) = dd F (dk F k) := rfl
theorem dk_lt (hF : OKL F) (k : Nat) : dk F k < 1024 := by
  have := p10 hF.1.2
  cases k with
  | zero => rw [dk_0]; omega
  | succ k => exact dd_lt hF _
theorem dk_dn1 (hF : OKL F) : ∀ k, sub (dk F (k + 1)) (dk F k) := by
  intro k
  induction k with
  | zero =>
    intro c hc
    rw [dk_s] at hc
    obtain ⟨t, q1, rfl, -⟩ := dd_tb.mp hc
    rw [dk_0, all_tb]
    exact decide_eq_true (hF.2.2.1 t q1).2.2.1
  | succ k ih => exact dd_mono ih
theorem dk_dn (hF : OKL F) (i : Nat) : ∀ j, sub (dk F (i + j)) (dk F i) := by
  intro j
  induction j with
  | zero => exact sub_rfl _
  | succ j ih => exact sub_tr (dk_dn1 hF (i + j)) ih
theorem dk_le (hF : OKL F) {i j : Nat} (h : i ≤ j) : sub (dk F j) (dk F i) := by
  have := dk_dn hF i (j - i)
  rw [show i + (j - i) = j by omega] at this
  exact this
theorem ne0_tb {x : Nat} (h : x ≠ 0) : ∃ c, x.testBit c = true := Nat.exists_testBit_of_ne_zero h
theorem tb_ne0 {x c : Nat} (h : x.testBit c = true) : x ≠ 0 := fun e => by rw [e, Nat.zero_testBit] at h; cases h
theorem no_cir (hF : OKL F) (h : dk F 10 = 0) : cir F = none := by
  unfold cir
  rw [low_none]
  intro v _ hv
  rw [Nat.zero_add] at hv
  -- the last depth that holds v
  have hex : ∃ k, (dk F k).testBit v = true ∧ (dk F (k + 1)).testBit v = false := by
    refine Classical.byContradiction (fun hc => ?_)
    have : ∀ k, (dk F k).testBit v = true := by
      intro k
      induction k with
      | zero => rw [dk_0, all_tb]; exact decide_eq_true hv
      | succ k ih =>
        cases q : (dk F (k + 1)).testBit v
        · exact absurd ⟨k, ih, q⟩ hc
        · rfl
    exact tb_ne0 (this 10) h
  obtain ⟨k, h1, h2⟩ := hex
  have hc : cbe F v (dk F (k + 1)) := by
    intro t ht hq
    have two : ∀ j, ((dk F j).testBit (fA F t) = true ∨ (dk F j).testBit (fB F t) = true) → (dk F (j + 1)).testBit (fC F t) = true := fun j q => dd_tb.mpr ⟨t, ht, rfl, q⟩
    rcases hq with q | q | q
    · exact two k (Or.inl (by rw [q]; exact h1))
    · exact two k (Or.inr (by rw [q]; exact h1))
    · exact dk_dn1 hF (k + 1) _ (two (k + 1) q)
  cases q : (lead F v).testBit v
  · rfl
  · have := lead_min hc v q
    rw [h2] at this
    cases this
theorem pc_1023 : pc 1023 = 10 := by decide
theorem has_cir (hF : OKL F) (h : dk F 10 ≠ 0) : cir F ≠ none := by
  intro hc
  unfold cir at hc
  rw [low_none] at hc
  have hno : ∀ v, v < fN F → (lead F v).testBit v = false := fun v hv => hc v (Nat.zero_le _) (by omega)
  have inA : ∀ k u, (dk F k).testBit u = true → u < fN F := by
    intro k u hu
    have := dk_le hF (Nat.zero_le k) u hu
    rw [dk_0, all_tb] at this
    exact of_decide_eq_true this
  obtain ⟨c, hcb⟩ := ne0_tb h
  have key : ∀ j, j ≤ 10 → ∃ u, (dk F (10 - j)).testBit u = true ∧ j ≤ pc (lead F u) := by
    intro j
    induction j with
    | zero => intro _; exact ⟨c, hcb, Nat.zero_le _⟩
    | succ j ih =>
      intro hj
      obtain ⟨u, h1, h2⟩ := ih (by omega)
      rw [show 10 - j = (10 - (j + 1)) + 1 by omega, dk_s] at h1
      obtain ⟨t, q1, rfl, q3⟩ := dd_tb.mp h1
      have hcu := hno (fC F t) (hF.2.2.1 t q1).2.2.1
      have step : ∀ w, (fA F t = w ∨ fB F t = w) → pc (lead F (fC F t)) < pc (lead F w) := by
        intro w hw
        have hin : (lead F w).testBit (fC F t) = true := lead_cld hF w t q1 (hw.elim Or.inl (fun q => Or.inr (Or.inl q)))
        refine pc_lt (lead_lt hF w) (lead_min (fun t2 ht2 hq => ?_)) (fun e => by rw [← e, hcu] at hin; cases hin)
        refine lead_cld hF w t2 ht2 (Or.inr (Or.inr ?_))
        rcases hq with q | q | q | q
        · left; rw [q]; exact hin
        · right; rw [q]; exact hin
        · exact Or.inl q
        · exact Or.inr q
      rcases q3 with q | q
      · exact ⟨fA F t, q, by have := step _ (Or.inl rfl); omega⟩
      · exact ⟨fB F t, q, by have := step _ (Or.inr rfl); omega⟩
  obtain ⟨u, h1, h2⟩ := key 10 (Nat.le_refl _)
  have hu := inA _ _ h1
  have hn := hF.1.2
  have := pc_lt (x := lead F u) (y := 1023) (by decide) (fun k hk => by rw [a1023]; exact decide_eq_true (tb10 (lead_lt hF u) hk)) (fun e => by
    have := hno u hu
    rw [e, a1023] at this
    have h3 := of_decide_eq_false this
    omega)
  rw [pc_1023] at this
  omega
/-- the class's depth -/
theorem x_depth (hF : OKF F) (h : FX 12 F σX) {L : Nat} (h1 : dk F L ≠ 0) (h2 : dk F (L + 1) = 0) (hL : L < 10) : f_X5_depth σX = some (nI L) := by
  unfold f_X5_depth
  rw [bind_ok (x_allStones hF h)]
  unfold f_X5_depth_7
  refine itr_run (fun k => (nI (dk F k), nI k)) L rfl (by omega) (fun k hk => ?_) ?_
  · show f_X5_depth_7s (nI (dk F k)) (nI k) σX = some (.inl (nI (dk F (k + 1)), nI (k + 1)))
    unfold f_X5_depth_7s
    rw [z_lit 10, if_neg (nI_ge (by omega) (by decide)), bind_ok (x_behind hF h (dk_lt hF.1 k)), ← dk_s, if_neg (z_ne0 (lt31 (dk_lt hF.1 _)) _), nm_eq, nI_1]
    obtain ⟨c, hc⟩ := ne0_tb h1
    exact tb_ne0 (dk_le hF.1 (show k + 1 ≤ L by omega) c hc)
  · show f_X5_depth_7s (nI (dk F L)) (nI L) σX = _
    unfold f_X5_depth_7s
    rw [z_lit 10, if_neg (nI_ge (by omega) (by decide)), bind_ok (x_behind hF h (dk_lt hF.1 L)), ← dk_s, h2, if_pos z_e0]
theorem x_depth_no (hF : OKF F) (h : FX 12 F σX) (h1 : dk F 10 ≠ 0) : f_X5_depth σX = some (-4) := by
  unfold f_X5_depth
  rw [bind_ok (x_allStones hF h)]
  unfold f_X5_depth_7
  refine itr_run (fun k => (nI (dk F k), nI k)) 10 rfl (by omega) (fun k hk => ?_) ?_
  · show f_X5_depth_7s (nI (dk F k)) (nI k) σX = some (.inl (nI (dk F (k + 1)), nI (k + 1)))
    unfold f_X5_depth_7s
    rw [z_lit 10, if_neg (nI_ge (by omega) (by decide)), bind_ok (x_behind hF h (dk_lt hF.1 k)), ← dk_s, if_neg (z_ne0 (lt31 (dk_lt hF.1 _)) _), nm_eq, nI_1]
    obtain ⟨c, hc⟩ := ne0_tb h1
    exact tb_ne0 (dk_le hF.1 (show k + 1 ≤ 10 by omega) c hc)
  · show f_X5_depth_7s (nI (dk F 10)) (nI 10) σX = _
    unfold f_X5_depth_7s
    rw [z_lit 10, if_pos (nI_le (Nat.le_refl _) (by decide))]
/-- the reference's table of depths: after r rounds, t steps of the next -/
def DP (F : Fl) (σM : Sg) (r t : Nat) (b : Nat) (d : Nat → Nat) (s : Sg) : Prop := (∀ k, k ≠ 7 → s.1 k = σM.1 k) ∧ (∀ c, c < 10 → s.1 7 c = nI (d c)) ∧ (∀ c, c < fN F → (dk F (d c)).testBit c = true) ∧ (∀ c, c < fN F → ∀ k, k ≤ r → (dk F k).testBit c = true → k ≤ d c) ∧ (∀ u, u < t → ∀ k, k ≤ r → ((dk F k).testBit (fA F u) = true ∨ (dk F k).testBit (fB F u) = true) → k + 1 ≤ d (fC F u) ∧ k + 1 ≤ b) ∧ (dk F b ≠ 0) ∧ (∀ k, k ≤ r → dk F k ≠ 0 → k ≤ b)
theorem DP.same {r t b : Nat} {d : Nat → Nat} {s : Sg} (h : DP F σM r t b d s) : ∀ k, k ≠ 7 → s.1 k = σM.1 k := h.1
theorem DP.tab {r t b : Nat} {d : Nat → Nat} {s : Sg} (h : DP F σM r t b d s) : ∀ c, c < 10 → s.1 7 c = nI (d c) := h.2.1
theorem DP.lo {r t b : Nat} {d : Nat → Nat} {s : Sg} (h : DP F σM r t b d s) : ∀ c, c < fN F → (dk F (d c)).testBit c = true := h.2.2.1
theorem DP.up {r t b : Nat} {d : Nat → Nat} {s : Sg} (h : DP F σM r t b d s) : ∀ c, c < fN F → ∀ k, k ≤ r → (dk F k).testBit c = true → k ≤ d c := h.2.2.2.1
theorem DP.nx {r t b : Nat} {d : Nat → Nat} {s : Sg} (h : DP F σM r t b d s) : ∀ u, u < t → ∀ k, k ≤ r → ((dk F k).testBit (fA F u) = true ∨ (dk F k).testBit (fB F u) = true) → k + 1 ≤ d (fC F u) ∧ k + 1 ≤ b := h.2.2.2.2.1
theorem DP.bl {r t b : Nat} {d : Nat → Nat} {s : Sg} (h : DP F σM r t b d s) : dk F b ≠ 0 := h.2.2.2.2.2.1
theorem DP.bu {r t b : Nat} {d : Nat → Nat} {s : Sg} (h : DP F σM r t b d s) : ∀ k, k ≤ r → dk F k ≠ 0 → k ≤ b := h.2.2.2.2.2.2
theorem dp_next {r b : Nat} {d : Nat → Nat} {s : Sg} (h : DP F σM r (fM F) b d s) : DP F σM (r + 1) 0 b d s := by
  refine ⟨h.same, h.tab, h.lo, fun c hc k hk hb => ?_, fun u hu => absurd hu (Nat.not_lt_zero _), h.bl, fun k hk hb => ?_⟩
  · cases k with
    | zero => exact Nat.zero_le _
    | succ k =>
      rw [dk_s] at hb
      obtain ⟨t, q1, rfl, q3⟩ := dd_tb.mp hb
      exact (h.nx t q1 k (by omega) q3).1
  · cases k with
    | zero => exact Nat.zero_le _
    | succ k =>
      obtain ⟨c, hc⟩ := ne0_tb hb
      rw [dk_s] at hc
      obtain ⟨t, q1, rfl, q3⟩ := dd_tb.mp hc
      exact (h.nx t q1 k (by omega) q3).2
theorem dp_lt (hF : OKL F) (h10 : dk F 10 = 0) {x : Nat} (h : dk F x ≠ 0) : x < 10 := by
  refine Classical.byContradiction (fun q => ?_)
  obtain ⟨c, hc⟩ := ne0_tb h
  exact tb_ne0 (dk_le hF (show 10 ≤ x by omega) c hc) h10
def upf (d : Nat → Nat) (c e x : Nat) : Nat := if x = c then e else d x
theorem upf_1 (d : Nat → Nat) (c e : Nat) : upf d c e c = e := if_pos rfl
theorem upf_0 {d : Nat → Nat} {c e x : Nat} (h : x ≠ c) : upf d c e x = d x := if_neg h
theorem m_deep_in (hF : OKF F) (hM : FM 0 F σM) (h10 : dk F 10 = 0) {r t b : Nat} {d : Nat → Nat} {s : Sg} (ht : t < fM F) (v : Int32) (h : DP F σM r t b d s) :
    ∃ b2 d2 s2, f_X9_deep_45s (nI b) v (nI t) s = some (.inl (nI b2, nI (t + 1), s2)) ∧ DP F σM r (t + 1) b2 d2 s2 := by
  have hm := hF.m10
  have hs := FM_same (h.same 1 (by decide)) hM
  obtain ⟨ca, cb, cc⟩ := hF.1.c10 ht
  have hl := hF.1.2.2.1 t ht
  have dl : ∀ c, c < fN F → d c < 10 := fun c hc => dp_lt hF.1 h10 (tb_ne0 (h.lo c hc))
  have bl := dp_lt hF.1 h10 h.bl
  -- the higher of the two
  obtain ⟨z, hz1, hz2, hz3, hz4, hz5⟩ : ∃ z, d (fA F t) ≤ z ∧ d (fB F t) ≤ z ∧ z < 10 ∧ ((dk F z).testBit (fA F t) = true ∨ (dk F z).testBit (fB F t) = true) ∧ f_X9_deep_45s (nI b) v (nI t) s = f_X9_deep_115 (nI b) v (nI t) (nI z) s := by
    have hA : ald s 7 10 (nI (fA F t)) = some (nI (d (fA F t))) := by rw [ald_ok (by omega) (by decide), h.tab _ (by omega)]
    have hB : ald s 7 10 (nI (fB F t)) = some (nI (d (fB F t))) := by rw [ald_ok (by omega) (by decide), h.tab _ (by omega)]
    have dA := dl _ hl.1
    have dB := dl _ hl.2.1
    by_cases c : d (fA F t) ≤ d (fB F t)
    · refine ⟨d (fB F t), c, Nat.le_refl _, dB, Or.inr (h.lo _ hl.2.1), ?_⟩
      unfold f_X9_deep_45s
      rw [bind_ok (m_w4 hs), if_neg (nI_ge ht (by omega)), bind_ok (m_A hF hs ht), bind_ok hA, bind_ok (m_B hF hs ht), bind_ok hB, if_pos (nI_le c (by omega)), bind_ok (m_B hF hs ht), bind_ok hB]
    · refine ⟨d (fA F t), Nat.le_refl _, by omega, dA, Or.inl (h.lo _ hl.1), ?_⟩
      unfold f_X9_deep_45s
      rw [bind_ok (m_w4 hs), if_neg (nI_ge ht (by omega)), bind_ok (m_A hF hs ht), bind_ok hA, bind_ok (m_B hF hs ht), bind_ok hB, if_neg (nI_ge (by omega) (by omega)), bind_ok (m_A hF hs ht), bind_ok hA]
  have hC : ald s 7 10 (nI (fC F t)) = some (nI (d (fC F t))) := by rw [ald_ok (by omega) (by decide), h.tab _ (by omega)]
  have dC := dl _ hl.2.2.1
  obtain ⟨e, he1, he2, he3⟩ : ∃ e, e = max (z + 1) (d (fC F t)) ∧ e ≤ 10 ∧ f_X9_deep_115 (nI b) v (nI t) (nI z) s = f_X9_deep_172 (nI b) v (nI t) (nI z) (nI (fC F t)) (nI e) s := by
    by_cases c : z + 1 ≤ d (fC F t)
    · refine ⟨d (fC F t), by omega, by omega, ?_⟩
      unfold f_X9_deep_115
      rw [bind_ok (m_C hF hs ht), bind_ok (m_C hF hs ht), bind_ok hC, nI_1, if_pos (nI_le c (by omega)), bind_ok (m_C hF hs ht), bind_ok hC]
    · refine ⟨z + 1, by omega, by omega, ?_⟩
      unfold f_X9_deep_115
      rw [bind_ok (m_C hF hs ht), bind_ok (m_C hF hs ht), bind_ok hC, nI_1, if_neg (nI_ge (by omega) (by omega))]
  obtain ⟨b2, hb1, hb2⟩ : ∃ b2, b2 = max (z + 1) b ∧ f_X9_deep_172 (nI b) v (nI t) (nI z) (nI (fC F t)) (nI e) s = some (.inl (nI b2, nI (t + 1), up1 s 7 (fC F t) (nI e))) := by
    by_cases c : z + 1 ≤ b
    · refine ⟨b, by omega, ?_⟩
      unfold f_X9_deep_172
      rw [bind_ok (ast_ok (by omega) (by decide)), nI_1, if_pos (nI_le c (by omega))]
      unfold f_X9_deep_189
      rw [nm_eq, nI_1]
    · refine ⟨z + 1, by omega, ?_⟩
      unfold f_X9_deep_172
      rw [bind_ok (ast_ok (by omega) (by decide)), nI_1, if_neg (nI_ge (by omega) (by omega))]
      unfold f_X9_deep_189
      rw [nm_eq, nI_1]
  have hnew : (dk F (z + 1)).testBit (fC F t) = true := dd_tb.mpr ⟨t, ht, rfl, hz4⟩
  refine ⟨b2, upf d (fC F t) e, _, by rw [hz5, he3, hb2], ?_⟩
  have dm : ∀ c, d c ≤ upf d (fC F t) e c := by
    intro c
    by_cases q : c = fC F t
    · rw [q, upf_1]; omega
    · rw [upf_0 q]; exact Nat.le_refl _
  refine ⟨fun k hk => ?_, fun c hc => ?_, fun c hc => ?_, fun c hc k hk hb => Nat.le_trans (h.up c hc k hk hb) (dm c), fun u hu k hk hq => ?_, ?_, fun k hk hb => by have := h.bu k hk hb; omega⟩
  · rw [← h.same k hk]
    funext j
    rw [up1_eq, if_neg (fun q => hk q.1)]
  · rw [up1_eq]
    by_cases q : c = fC F t
    · rw [if_pos ⟨rfl, q⟩, q, upf_1]
    · rw [if_neg (fun x => q x.2), upf_0 q, h.tab c hc]
  · by_cases q : c = fC F t
    · subst q
      rw [upf_1, he1]
      rcases Nat.le_total (z + 1) (d (fC F t)) with c2 | c2
      · rw [Nat.max_eq_right c2]; exact h.lo _ hc
      · rw [Nat.max_eq_left c2]; exact hnew
    · rw [upf_0 q]; exact h.lo c hc
  · rcases Nat.lt_or_ge u t with c1 | c1
    · have := h.nx u c1 k hk hq
      have := dm (fC F u)
      omega
    · obtain rfl : u = t := by omega
      have hkz : k ≤ z := by
        rcases hq with q | q
        · have := h.up _ hl.1 k hk q; omega
        · have := h.up _ hl.2.1 k hk q; omega
      rw [upf_1]
      omega
  · rw [hb1]
    rcases Nat.le_total (z + 1) b with c2 | c2
    · rw [Nat.max_eq_right c2]; exact h.bl
    · rw [Nat.max_eq_left c2]; exact tb_ne0 hnew
theorem m_deep (hF : OKF F) (hM : FM 0 F σM) (h10 : dk F 10 = 0) : ∃ L s, L < 10 ∧ dk F L ≠ 0 ∧ dk F (L + 1) = 0 ∧ f_X9_deep_14 0 σM = some (nI L, s) ∧ ∀ k, k ≠ 7 → s.1 k = σM.1 k := by
  have hm := hF.m10
  have hn := hF.1.1
  have h2 : 2 ≤ 2 ^ fN F := by
    have := Nat.pow_le_pow_right (show 0 < 2 by decide) hn.1
    omega
  -- ten rounds
  have rounds : ∀ s, DP F σM 0 0 0 (fun _ => 0) s → ∃ x, f_X9_deep_37 0 0 s = some x ∧ ∃ b d, x.1 = nI b ∧ DP F σM 10 0 b d x.2 := by
    intro s h0
    unfold f_X9_deep_37
    refine itr_inv (fun (r : Nat) (z : Int32 × Int32 × Sg) => ∃ b d, z.1 = nI b ∧ z.2.1 = nI r ∧ DP F σM r 0 b d z.2.2) (fun (x : Int32 × Sg) => ∃ b d, x.1 = nI b ∧ DP F σM 10 0 b d x.2) 10 0 3000 _ (by decide) ⟨0, _, rfl, rfl, h0⟩ ?_ ?_
    · rintro r ⟨z1, z2, z3⟩ - hr ⟨b, d, rfl, rfl, h⟩
      rw [Nat.zero_add] at hr
      show ∃ z', f_X9_deep_37s (nI b) (nI r) z3 = some (.inl z') ∧ _
      unfold f_X9_deep_37s
      rw [z_lit 10, if_neg (nI_ge hr (by decide))]
      unfold f_X9_deep_45
      have := itr_inv (G := fun s => f_X9_deep_45s s.1 (nI r) s.2.1 s.2.2) (fun (t : Nat) (z : Int32 × Int32 × Sg) => ∃ b d, z.1 = nI b ∧ z.2.1 = nI t ∧ DP F σM r t b d z.2.2) (fun (x : (Int32 × Int32 × Sg) ⊕ (Int32 × Sg)) => ∃ z', x = Sum.inl z' ∧ ∃ b d, z'.1 = nI b ∧ z'.2.1 = nI (r + 1) ∧ DP F σM (r + 1) 0 b d z'.2.2) (fM F) 0 3000 (nI b, nI 0, z3) (by omega) ⟨b, d, rfl, rfl, h⟩ ?_ ?_
      · obtain ⟨x, e1, z', rfl, e2⟩ := this
        exact ⟨z', e1, e2⟩
      · rintro t ⟨y1, y2, y3⟩ - ht ⟨b, d, rfl, rfl, h⟩
        rw [Nat.zero_add] at ht
        obtain ⟨b2, d2, s2, e1, e2⟩ := m_deep_in hF hM h10 ht (nI r) h
        exact ⟨_, e1, b2, d2, rfl, rfl, e2⟩
      · rintro ⟨y1, y2, y3⟩ ⟨b, d, rfl, rfl, h⟩
        rw [Nat.zero_add] at h ⊢
        refine ⟨Sum.inl (nI b, nI (r + 1), y3), ?_, (nI b, nI (r + 1), y3), rfl, b, d, rfl, rfl, dp_next h⟩
        show f_X9_deep_45s (nI b) (nI r) (nI (fM F)) y3 = _
        unfold f_X9_deep_45s
        rw [bind_ok (m_w4 (FM_same (h.same 1 (by decide)) hM)), if_pos (nI_le (Nat.le_refl _) (by omega)), nm_eq, nI_1]
    · rintro ⟨z1, z2, z3⟩ ⟨b, d, rfl, rfl, h⟩
      refine ⟨(nI b, z3), ?_, b, d, rfl, h⟩
      show f_X9_deep_37s (nI b) (nI 10) z3 = _
      unfold f_X9_deep_37s
      rw [z_lit 10, if_pos (nI_le (Nat.le_refl _) (by decide))]
  have all : ∃ x, f_X9_deep_14 0 σM = some x ∧ ∃ b d, x.1 = nI b ∧ DP F σM 10 0 b d x.2 := by
    unfold f_X9_deep_14
    refine itr_inv (fun (i : Nat) (z : Int32 × Sg) => z.1 = nI i ∧ (∀ k, k ≠ 7 → z.2.1 k = σM.1 k) ∧ ∀ c, c < i → z.2.1 7 c = nI 0) _ 10 0 3000 _ (by decide) ⟨rfl, fun _ _ => rfl, fun c hc => absurd hc (Nat.not_lt_zero _)⟩ ?_ ?_
    · rintro i ⟨z1, z2⟩ - hi ⟨rfl, g1, g2⟩
      rw [Nat.zero_add] at hi
      refine ⟨(nI (i + 1), up1 z2 7 i 0), ?_, rfl, fun k hk => ?_, fun c hc => ?_⟩
      · show f_X9_deep_14s (nI i) z2 = _
        unfold f_X9_deep_14s
        rw [z_lit 10, if_neg (nI_ge hi (by decide)), bind_ok (ast_ok (by omega) (by decide)), nm_eq, nI_1]
      · rw [← g1 k hk]
        funext j
        show (up1 z2 7 i 0).1 k j = z2.1 k j
        rw [up1_eq, if_neg (fun q => hk q.1)]
      · show (up1 z2 7 i 0).1 7 c = nI 0
        rw [up1_eq]
        by_cases q : c = i
        · rw [if_pos ⟨rfl, q⟩]; rfl
        · rw [if_neg (fun x => q x.2)]; exact g2 c (by omega)
    · rintro ⟨z1, z2⟩ ⟨rfl, g1, g2⟩
      have h0 : DP F σM 0 0 0 (fun _ => 0) z2 := by
        refine ⟨g1, fun c hc => g2 c (by omega), fun c hc => ?_, fun c _ k hk _ => by omega, fun u hu => absurd hu (Nat.not_lt_zero _), ?_, fun k hk _ => by omega⟩
        · rw [dk_0, all_tb]; exact decide_eq_true hc
        · rw [dk_0]; omega
      obtain ⟨x, e1, e2⟩ := rounds z2 h0
      refine ⟨x, ?_, e2⟩
      show f_X9_deep_14s (nI 10) z2 = _
      unfold f_X9_deep_14s
      rw [z_lit 10, if_pos (nI_le (Nat.le_refl _) (by decide)), e1]
      rfl
  obtain ⟨⟨x1, x2⟩, e1, b, d, rfl, h⟩ := all
  have hb := dp_lt hF.1 h10 h.bl
  refine ⟨b, x2, hb, h.bl, ?_, e1, h.same⟩
  refine Classical.byContradiction (fun q => ?_)
  have := h.bu (b + 1) (by omega) q
  omega
/-- promise 22: deep -/
theorem q_deep (hF : OKF F) (hX : FX 12 F σX) (hM : FM 0 F σM) : ∃ r σM2, f_X8_deep σX = some r ∧ f_X9_deep σM = some (r, σM2) ∧ ∀ k, k ≠ 7 → σM2.1 k = σM.1 k := by
  unfold f_X8_deep f_X9_deep
  rw [bind_ok (m_circle hF hM)]
  by_cases c : dk F 10 = 0
  · obtain ⟨L, s, h1, h2, h3, h4, h5⟩ := m_deep hF hM c
    rw [no_cir hF.1 c, if_pos (show cd none = -4 from rfl)]
    refine ⟨nI L, s, ?_, h4, h5⟩
    rw [bind_ok (x_depth hF hX h2 h3 h1)]
  · refine ⟨-4, σM, ?_, ?_, fun _ _ => rfl⟩
    · rw [bind_ok (x_depth_no hF hX c)]
    · rw [if_neg]
      cases q : cir F with
      | none => exact absurd q (has_cir hF.1 c)
      | some v =>
        have hn := hF.1.1
        have := low_lt _ _ _ _ q
        exact (nI_neg (by omega)).2.2
end
end
section
-- the fewest steps to a stone, and how many rows are so short
def wst (F : Fl) (s : Nat) (g : Nat → Nat × Nat) (t : Nat) (a : Nat × Nat) : Nat × Nat :=
  if aft F (fTh F) t s = s ∨ (g (aft F (fTh F) t s)).1 = 1000 ∨ a.1 < (g (aft F (fTh F) t s)).1 + 1 then a
  else ((g (aft F (fTh F) t s)).1 + 1, (g (aft F (fTh F) t s)).2 + if (g (aft F (fTh F) t s)).1 + 1 = a.1 then a.2 else 0)
def wva (F : Fl) (j : Nat) (g : Nat → Nat × Nat) (s : Nat) : Nat × Nat := if s.testBit j = true then (0, 1) else fo (wst F s g) (1000, 0) (fM F)
def wtab (F : Fl) (j : Nat) : Nat → Nat → Nat × Nat
  | 0 => fun _ => (1000, 0)
  | k + 1 => fun x => if x = 1023 - k then wva F j (wtab F j k) x else wtab F j k x
def wk (F : Fl) (j : Nat) (s : Nat) : Nat × Nat := wtab F j 1024 s
theorem wtab_st (F : Fl) (j : Nat) {x : Nat} (hx : x < 1024) : ∀ k, k ≤ 1024 → 1024 - x ≤ k → wtab F j k x = wtab F j (1024 - x) x := by
  intro k
  induction k with
  | zero => intro _ h; omega
  | succ k ih =>
    intro h1 h2
    by_cases c : x = 1023 - k
    · rw [show 1024 - x = k + 1 by omega]
    · show (if x = 1023 - k then wva F j (wtab F j k) x else wtab F j k x) = _
      rw [if_neg c]
      exact ih (by omega) (by omega)
theorem aft_gt {F : Fl} {t s : Nat} (h : aft F (fTh F) t s ≠ s) : s < aft F (fTh F) t s := by
  have := sub_le (aft_sub F (fTh F) t s)
  omega
theorem wva_cg {F : Fl} (hF : OKL F) {j s : Nat} {g g' : Nat → Nat × Nat} (hs : s < 1024) (h : ∀ a, s < a → a < 1024 → g a = g' a) : wva F j g s = wva F j g' s := by
  unfold wva
  by_cases c : s.testBit j = true
  · rw [if_pos c, if_pos c]
  rw [if_neg c, if_neg c]
  have key : ∀ k, k ≤ fM F → fo (wst F s g) (1000, 0) k = fo (wst F s g') (1000, 0) k := by
    intro k
    induction k with
    | zero => intro _; rfl
    | succ k ih =>
      intro hk
      rw [fo_s, fo_s, ih (by omega)]
      unfold wst
      by_cases e : aft F (fTh F) k s = s
      · rw [if_pos (Or.inl e), if_pos (Or.inl e)]
      · rw [h _ (aft_gt e) (aft_lt hF (by omega) hs)]
  exact key _ (Nat.le_refl _)
theorem wk_eq {F : Fl} (hF : OKL F) (j : Nat) {s : Nat} (hs : s < 1024) : wk F j s = wva F j (wk F j) s := by
  have e : wk F j s = wva F j (wtab F j (1023 - s)) s := by
    unfold wk
    rw [wtab_st F j hs 1024 (Nat.le_refl _) (by omega), show 1024 - s = (1023 - s) + 1 by omega]
    exact if_pos (by omega)
  rw [e]
  refine wva_cg hF hs (fun a h1 h2 => ?_)
  unfold wk
  rw [wtab_st F j h2 1024 (Nat.le_refl _) (by omega), wtab_st F j h2 (1023 - s) (by omega) (by omega)]
theorem aft_pc {F : Fl} (hF : OKL F) {t s : Nat} (ht : t < fM F) (h : aft F (fTh F) t s ≠ s) : pc (aft F (fTh F) t s) = pc s + 1 := by
  have h1 := (aft_ne (fTh F) t s).mp h
  rw [aft_eq h, pc_add (hF.c10 ht).2.2 h1.2.2.2]
/-- how few: all or at most what is left -/
theorem wk_few {F : Fl} (hF : OKL F) {j : Nat} : ∀ n s, s < 1024 → 1023 - s = n → ((wk F j s).1 = 1000 ∨ (wk F j s).1 + pc s ≤ 10) ∧ (s.testBit j = false → 1 ≤ (wk F j s).1) := by
  intro n
  induction n using Nat.strongRecOn with
  | ind n ih =>
    intro s hs hn
    rw [wk_eq hF j hs]
    unfold wva
    by_cases c : s.testBit j = true
    · rw [if_pos c]
      exact ⟨Or.inr (by have := pc_le s; simpa using this), fun q => by rw [c] at q; cases q⟩
    rw [if_neg c]
    have key : ∀ k, k ≤ fM F → ((fo (wst F s (wk F j)) (1000, 0) k).1 = 1000 ∨ (fo (wst F s (wk F j)) (1000, 0) k).1 + pc s ≤ 10) ∧ 1 ≤ (fo (wst F s (wk F j)) (1000, 0) k).1 := by
      intro k
      induction k with
      | zero => intro _; exact ⟨Or.inl rfl, by show 1 ≤ 1000; decide⟩
      | succ k ih2 =>
        intro hk
        have h1 := ih2 (by omega)
        rw [fo_s]
        generalize fo (wst F s (wk F j)) (1000, 0) k = a at h1
        unfold wst
        by_cases c2 : aft F (fTh F) k s = s ∨ (wk F j (aft F (fTh F) k s)).1 = 1000 ∨ a.1 < (wk F j (aft F (fTh F) k s)).1 + 1
        · rw [if_pos c2]; exact h1
        · rw [if_neg c2]
          have e1 : aft F (fTh F) k s ≠ s := fun q => c2 (Or.inl q)
          have e2 : (wk F j (aft F (fTh F) k s)).1 ≠ 1000 := fun q => c2 (Or.inr (Or.inl q))
          have e3 := aft_gt e1
          have e4 := aft_lt hF (sl := fTh F) (show k < fM F by omega) hs
          have e5 := (ih (1023 - aft F (fTh F) k s) (by omega) _ e4 rfl).1
          rw [aft_pc hF (by omega) e1] at e5
          show ((wk F j (aft F (fTh F) k s)).1 + 1 = 1000 ∨ (wk F j (aft F (fTh F) k s)).1 + 1 + pc s ≤ 10) ∧ 1 ≤ (wk F j (aft F (fTh F) k s)).1 + 1
          exact ⟨Or.inr (by omega), by omega⟩
    exact ⟨(key _ (Nat.le_refl _)).1, fun _ => (key _ (Nat.le_refl _)).2⟩
-- how many rows at most
def un (F : Fl) (s : Nat) : Nat → Nat
  | 0 => 0
  | k + 1 => un F s k + (if s.testBit (fC F k) = true then 0 else 1)
theorem un_s (F : Fl) (s k : Nat) : un F s (k + 1) = un F s k + (if s.testBit (fC F k) = true then 0 else 1) := rfl
theorem un_le (F : Fl) (s : Nat) : ∀ k, un F s k ≤ k := by
  intro k
  induction k with
  | zero => exact Nat.le_refl _
  | succ k ih => unfold un; split <;> omega
theorem un_lt {F : Fl} {x y t : Nat} (h : sub x y) (h1 : x.testBit (fC F t) = false) (h2 : y.testBit (fC F t) = true) : ∀ k, un F y k + (if t < k then 1 else 0) ≤ un F x k := by
  intro k
  induction k with
  | zero => rw [if_neg (Nat.not_lt_zero _)]; exact Nat.le_refl _
  | succ k ih =>
    rw [un_s, un_s]
    by_cases e : t = k
    · subst e
      rw [if_neg (Nat.lt_irrefl _)] at ih
      rw [h1, h2, if_pos rfl, if_pos (Nat.lt_succ_self _), if_neg Bool.false_ne_true]
      omega
    · have e2 : (if t < k + 1 then 1 else 0) = if t < k then 1 else 0 := by
        by_cases q : t < k
        · rw [if_pos q, if_pos (by omega)]
        · rw [if_neg q, if_neg (by omega)]
      rw [e2]
      cases hx : x.testBit (fC F k)
      · rw [if_neg Bool.false_ne_true]
        have : (if y.testBit (fC F k) = true then 0 else 1 : Nat) ≤ 1 := by split <;> omega
        omega
      · rw [h _ hx, if_pos rfl]
        omega
def fac : Nat → Nat
  | 0 => 1
  | n + 1 => (n + 1) * fac n
theorem fac_pos : ∀ n, 1 ≤ fac n := by
  intro n
  induction n with
  | zero => exact Nat.le_refl _
  | succ n ih => unfold fac; exact Nat.mul_le_mul (show 1 ≤ n + 1 by omega) ih
theorem fac_mono {a : Nat} : ∀ b, fac a ≤ fac (a + b) := by
  intro b
  induction b with
  | zero => exact Nat.le_refl _
  | succ b ih =>
    show fac a ≤ (a + b + 1) * fac (a + b)
    have := Nat.mul_le_mul (show 1 ≤ a + b + 1 by omega) ih
    omega
theorem fac_le {a b : Nat} (h : a ≤ b) : fac a ≤ fac b := by
  have := fac_mono (a := a) (b - a)
  rw [show a + (b - a) = b by omega] at this
  exact this
theorem wk_row {F : Fl} (hF : OKL F) {j : Nat} : ∀ n s, s < 1024 → 1023 - s = n → (wk F j s).2 ≤ fac (un F s (fM F)) := by
  intro n
  induction n using Nat.strongRecOn with
  | ind n ih =>
    intro s hs hn
    rw [wk_eq hF j hs]
    unfold wva
    by_cases c : s.testBit j = true
    · rw [if_pos c]; exact fac_pos _
    rw [if_neg c]
    have key : ∀ k, k ≤ fM F → (fo (wst F s (wk F j)) (1000, 0) k).2 ≤ un F s k * fac (un F s (fM F) - 1) := by
      intro k
      induction k with
      | zero => intro _; exact Nat.zero_le _
      | succ k ih2 =>
        intro hk
        have h1 := ih2 (by omega)
        rw [fo_s]
        generalize fo (wst F s (wk F j)) (1000, 0) k = a at h1
        have h2 : un F s k * fac (un F s (fM F) - 1) ≤ un F s (k + 1) * fac (un F s (fM F) - 1) := Nat.mul_le_mul_right _ (by rw [un_s]; omega)
        unfold wst
        by_cases c2 : aft F (fTh F) k s = s ∨ (wk F j (aft F (fTh F) k s)).1 = 1000 ∨ a.1 < (wk F j (aft F (fTh F) k s)).1 + 1
        · rw [if_pos c2]; omega
        · rw [if_neg c2]
          have e1 : aft F (fTh F) k s ≠ s := fun q => c2 (Or.inl q)
          have e3 := aft_gt e1
          have e4 := aft_lt hF (sl := fTh F) (show k < fM F by omega) hs
          have e5 := ih (1023 - aft F (fTh F) k s) (by omega) _ e4 rfl
          have e6 := (aft_ne (fTh F) k s).mp e1
          have e7 := un_lt (F := F) (t := k) (aft_sub F (fTh F) k s) e6.2.2.2 (by rw [aft_eq e1, tb_or2]; simp) (fM F)
          rw [if_pos (show k < fM F by omega)] at e7
          have e8 : fac (un F (aft F (fTh F) k s) (fM F)) ≤ fac (un F s (fM F) - 1) := fac_le (by omega)
          have e9 : un F s (k + 1) = un F s k + 1 := by
            show un F s k + (if s.testBit (fC F k) = true then 0 else 1) = _
            rw [e6.2.2.2]; rfl
          rw [e9, Nat.add_mul, Nat.one_mul]
          show (wk F j (aft F (fTh F) k s)).2 + (if (wk F j (aft F (fTh F) k s)).1 + 1 = a.1 then a.2 else 0) ≤ _
          split <;> omega
    refine Nat.le_trans (key _ (Nat.le_refl _)) ?_
    cases hu : un F s (fM F) with
    | zero => rw [Nat.zero_mul]; exact Nat.zero_le _
    | succ u => exact Nat.le_refl _
theorem wk_r31 {F : Fl} (hF : OKL F) {j s : Nat} (hs : s < 1024) : (wk F j s).2 < 2 ^ 31 := by
  have h1 := wk_row hF (j := j) _ s hs rfl
  have h2 := un_le F s (fM F)
  have h3 := fac_le (show un F s (fM F) ≤ 10 by have := hF.2.1; omega)
  have h4 : fac 10 = 3628800 := by decide
  omega
theorem wk_f {F : Fl} (hF : OKL F) {j s : Nat} (hs : s < 1024) : (wk F j s).1 = 1000 ∨ (wk F j s).1 ≤ 10 := by
  have := (wk_few hF (j := j) _ s hs rfl).1
  omega
theorem wk_f1 {F : Fl} (hF : OKL F) {j s : Nat} (hs : s < 1024) (h : s.testBit j = false) : 1 ≤ (wk F j s).1 := (wk_few hF (j := j) _ s hs rfl).2 h
/-- how few, on the way -/
def wfo (F : Fl) (j s k : Nat) : Nat × Nat := fo (wst F s (wk F j)) (1000, 0) k
theorem wfo_s (F : Fl) (j s k : Nat) : wfo F j s (k + 1) = wst F s (wk F j) k (wfo F j s k) := rfl
theorem wfo_f {F : Fl} (hF : OKL F) {j s : Nat} (hs : s < 1024) : ∀ k, k ≤ fM F → ((wfo F j s k).1 = 1000 ∨ (wfo F j s k).1 ≤ 11) ∧ 1 ≤ (wfo F j s k).1 := by
  intro k
  induction k with
  | zero => intro _; exact ⟨Or.inl rfl, by show 1 ≤ 1000; decide⟩
  | succ k ih =>
    intro hk
    have h1 := ih (by omega)
    rw [wfo_s]
    generalize wfo F j s k = a at h1
    unfold wst
    by_cases c2 : aft F (fTh F) k s = s ∨ (wk F j (aft F (fTh F) k s)).1 = 1000 ∨ a.1 < (wk F j (aft F (fTh F) k s)).1 + 1
    · rw [if_pos c2]; exact h1
    · rw [if_neg c2]
      have e2 : (wk F j (aft F (fTh F) k s)).1 ≠ 1000 := fun q => c2 (Or.inr (Or.inl q))
      have := wk_f hF (j := j) (aft_lt hF (sl := fTh F) (show k < fM F by omega) hs)
      show ((wk F j (aft F (fTh F) k s)).1 + 1 = 1000 ∨ (wk F j (aft F (fTh F) k s)).1 + 1 ≤ 11) ∧ 1 ≤ (wk F j (aft F (fTh F) k s)).1 + 1
      exact ⟨Or.inr (by omega), by omega⟩
theorem wk_yes {F : Fl} (hF : OKL F) {j s : Nat} (hs : s < 1024) (h : s.testBit j = true) : wk F j s = (0, 1) := by
  rw [wk_eq hF j hs]
  exact if_pos h
theorem wk_no {F : Fl} (hF : OKL F) {j s : Nat} (hs : s < 1024) (h : s.testBit j = false) : wk F j s = wfo F j s (fM F) := by
  rw [wk_eq hF j hs]
  exact if_neg (by rw [h]; decide)
end
section
section
variable {F : Fl} {σX σM : Sg}
/-- the class's table from a set up -/
def TX (F : Fl) (j : Nat) (z : Sg) (n : Nat) : Prop := ∀ a, n ≤ a → a < 1024 → sub a (fTh F) → sub (fSt F) a → z.1 37 a = nI (wk F j a).1 ∧ z.1 38 a = nI (wk F j a).2
theorem aft_th {F : Fl} {t s : Nat} (h : sub s (fTh F)) : sub (aft F (fTh F) t s) (fTh F) := by
  unfold aft
  split
  · rename_i q
    intro i hi
    rw [tb_or2] at hi
    simp only [Bool.or_eq_true, decide_eq_true_eq] at hi
    rcases hi with hi | rfl
    · exact h i hi
    · exact q.2.2
  · exact h
theorem x_put2 (u : Nat) (hu : u < 1024) (x y : Int32) (z : Sg) : f_X7_measureFrom_109 (nI u) x y z = some (up1 (up1 z 37 u x) 38 u y) := by
  unfold f_X7_measureFrom_109
  rw [bind_ok (x_put hu (by decide)), bind_ok (x_put hu (by decide))]
theorem x_mFrom (hF : OKF F) {z : Sg} (hX : FX 12 F z) {j u : Nat} (hj : j < 10) (hu : u < 1024) (h1 : sub u (fTh F)) (h2 : sub (fSt F) u) (hT : TX F j z (u + 1)) :
    f_X7_measureFrom (nI u) (nI j) z = some (up1 (up1 z 37 u (nI (wk F j u).1)) 38 u (nI (wk F j u).2)) := by
  have hm := hF.m10
  have hm1 := hF.2.1
  unfold f_X7_measureFrom
  rw [bind_ok (x_has (lt31 hu) (by omega))]
  cases c : u.testBit j
  case true =>
    rw [zb_1.mpr c, if_neg (by decide : ¬ (1 : Int32) = 0), wk_yes hF.1 hu c]
    unfold f_X7_measureFrom_22 f_X7_measureFrom_25
    refine itr_out ?_
    show f_X7_measureFrom_25s (nI u) 0 1 0 z = _
    unfold f_X7_measureFrom_25s
    rw [bind_ok (x_steps hX), if_neg (show ¬ nI (fM F) ≤ (0 : Int32) from nI_ge (a := 0) (b := fM F) (by omega) (by omega)), if_pos (by decide : (0 : Int32) ≤ 0), x_put2 u hu]
    rfl
  rw [zb_0.mpr c, if_pos rfl, wk_no hF.1 hu c]
  unfold f_X7_measureFrom_22 f_X7_measureFrom_25
  refine itr_run (fun k => (nI (wfo F j u k).1, nI (wfo F j u k).2, nI k)) (fM F) rfl (by omega) (fun k hk => ?_) ?_
  · show f_X7_measureFrom_25s (nI u) (nI (wfo F j u k).1) (nI (wfo F j u k).2) (nI k) z = some (.inl (nI (wfo F j u (k + 1)).1, nI (wfo F j u (k + 1)).2, nI (k + 1)))
    have hf := wfo_f hF.1 (j := j) hu k (by omega)
    rw [wfo_s]
    generalize wfo F j u k = a at hf
    obtain ⟨f, r⟩ := a
    have hf1 : (f = 1000 ∨ f ≤ 11) ∧ 1 ≤ f := hf
    have hal := aft_lt hF.1 (sl := fTh F) hk hu
    have go : ∀ x y : Int32, f_X7_measureFrom_103 (nI u) x y (nI k) z = some (.inl (x, y, nI (k + 1))) := by
      intro x y
      unfold f_X7_measureFrom_103
      rw [nm_eq, nI_1]
    show f_X7_measureFrom_25s (nI u) (nI f) (nI r) (nI k) z = _
    unfold f_X7_measureFrom_25s
    rw [bind_ok (x_steps hX), if_neg (nI_ge hk (by omega)), if_neg (show ¬ nI f ≤ (0 : Int32) from nI_ge (a := 0) (b := f) (by omega) (by omega)), bind_ok (x_aft hF.1 hX hk hu hF.th), bind_ok (x_at hal (by decide)), nm_eq]
    by_cases e : aft F (fTh F) k u = u
    · rw [if_pos (show nI (aft F (fTh F) k u) = nI u by rw [e]), go, show wst F u (wk F j) k (f, r) = (f, r) from if_pos (Or.inl e)]
    rw [if_neg (fun q => e ((nI_eq (lt31 hal) (lt31 hu)).mp q))]
    have hg := aft_gt e
    obtain ⟨t1, t2⟩ := hT _ (show u + 1 ≤ aft F (fTh F) k u by omega) hal (aft_th h1) (sub_tr h2 (aft_sub F (fTh F) k u))
    have hw := wk_f hF.1 (j := j) hal
    rw [t1, nI_1]
    by_cases c2 : (wk F j (aft F (fTh F) k u)).1 = 1000 ∨ f < (wk F j (aft F (fTh F) k u)).1 + 1
    · rw [if_pos (nI_lt (by omega) (by omega)), go, show wst F u (wk F j) k (f, r) = (f, r) from if_pos (Or.inr c2)]
    · rw [if_neg (nI_nlt (by omega) (by omega)), bind_ok (x_at hal (by decide)), t2, show wst F u (wk F j) k (f, r) = ((wk F j (aft F (fTh F) k u)).1 + 1, (wk F j (aft F (fTh F) k u)).2 + if (wk F j (aft F (fTh F) k u)).1 + 1 = f then r else 0) from if_neg (fun q => q.elim e c2)]
      unfold f_X7_measureFrom_96
      by_cases c3 : (wk F j (aft F (fTh F) k u)).1 + 1 = f
      · rw [if_pos (show nI _ = nI f by rw [c3]), nm_eq, go, nI_add, if_pos c3]
      · rw [if_neg (fun q => c3 ((nI_eq (by omega) (by omega)).mp q)), nm_eq, go, z_0, nI_add, if_neg c3]
  · show f_X7_measureFrom_25s (nI u) (nI (wfo F j u (fM F)).1) (nI (wfo F j u (fM F)).2) (nI (fM F)) z = _
    unfold f_X7_measureFrom_25s
    rw [bind_ok (x_steps hX), if_pos (nI_le (Nat.le_refl _) (by omega)), x_put2 u hu]
    rfl
def eqX (z σ : Sg) : Prop := ∀ k, k ≠ 37 → k ≠ 38 → z.1 k = σ.1 k
theorem eqX_FX {z : Sg} (h : eqX z σX) (hX : FX 12 F σX) : FX 12 F z := FX_same (fun k h1 h2 => h k (by omega) (by omega)) hX
theorem x_measure (hF : OKF F) (hX : FX 12 F σX) {j : Nat} (hj : j < 10) : ∃ z, f_X7_measure (nI j) σX = some z ∧ eqX z σX ∧ TX F j z (fSt F) := by
  have hst := hF.st
  have hth := hF.th
  have hle := sub_le hF.sub
  unfold f_X7_measure
  rw [bind_ok (x_stood hX), bind_ok (x_there hX)]
  unfold f_X7_measure_11
  refine itr_inv (fun (k : Nat) (z : Int32 × Sg) => z.1 = sI (fTh F) k ∧ eqX z.2 σX ∧ TX F j z.2 (fTh F + 1 - k)) (fun (z : Sg) => eqX z σX ∧ TX F j z (fSt F)) (fTh F - fSt F + 1) 0 3000 _ (by omega) ⟨?_, fun _ _ _ => rfl, fun a h1 _ h2 => ?_⟩ ?_ ?_
  · show nI (fTh F) = sI (fTh F) 0
    rw [sI_in (by omega), Nat.sub_zero]
  · have := sub_le h2; omega
  · rintro k ⟨z1, z⟩ - hk ⟨q1, q2, q3⟩
    have q1' : z1 = sI (fTh F) k := q1
    subst q1'
    have q2' : eqX z σX := q2
    have q3' : TX F j z (fTh F + 1 - k) := q3
    have hz := eqX_FX q2' hX
    obtain ⟨u, hu⟩ : ∃ u, u = fTh F - k := ⟨_, rfl⟩
    show ∃ z', f_X7_measure_11s (nI j) (nI (fSt F)) (sI (fTh F) k) z = some (.inl z') ∧ _
    rw [sI_in (by omega), ← hu]
    have go : ∀ y, f_X7_measure_46 (nI j) (nI (fSt F)) (nI u) y = some (.inl (sI (fTh F) (k + 1), y)) := by
      intro y
      unfold f_X7_measure_46
      rw [nm_eq, hu, sI_s (by omega)]
    have skip : ¬ (sub u (fTh F) ∧ sub (fSt F) u) → TX F j z (fTh F + 1 - (k + 1)) := by
      intro hn a h1 h2 h3 h4
      by_cases e : a = u
      · subst e; exact absurd ⟨h3, h4⟩ hn
      · exact q3' a (by omega) h2 h3 h4
    unfold f_X7_measure_11s
    rw [if_neg (nI_nlt (by omega) (by omega)), bind_ok (x_holds _ _ (by omega) (by omega))]
    by_cases c1 : u &&& fSt F = fSt F
    case neg =>
      rw [if_neg c1, if_pos rfl, go]
      exact ⟨_, rfl, rfl, q2', skip (fun q => c1 (and_sub.mpr q.2))⟩
    rw [if_pos c1, if_neg (by decide : ¬ (1 : Int32) = 0), bind_ok (x_there hz), bind_ok (x_holds _ _ (by omega) (by omega))]
    by_cases c2 : fTh F &&& u = u
    case neg =>
      rw [if_neg c2, if_pos rfl, go]
      exact ⟨_, rfl, rfl, q2', skip (fun q => c2 (and_sub.mpr q.1))⟩
    rw [if_pos c2, if_neg (by decide : ¬ (1 : Int32) = 0), bind_ok (x_mFrom hF hz hj (by omega) (and_sub.mp c2) (and_sub.mp c1) (fun a h1 => q3' a (by omega))), go]
    refine ⟨_, rfl, rfl, fun k2 n1 n2 => ?_, fun a h1 h2 h3 h4 => ?_⟩
    · rw [← q2' k2 n1 n2]
      funext i
      show (up1 (up1 z 37 u _) 38 u _).1 k2 i = z.1 k2 i
      rw [up1_eq, if_neg (fun q => n2 q.1), up1_eq, if_neg (fun q => n1 q.1)]
    · show (up1 (up1 z 37 u _) 38 u _).1 37 a = _ ∧ (up1 (up1 z 37 u _) 38 u _).1 38 a = _
      rw [up1_eq, up1_eq, up1_eq, up1_eq, if_neg (by rintro ⟨q, -⟩; cases q), if_neg (show ¬ (38 = 37 ∧ a = u) by rintro ⟨q, -⟩; cases q)]
      by_cases e : a = u
      · subst e
        rw [if_pos ⟨rfl, rfl⟩, if_pos ⟨rfl, rfl⟩]
        exact ⟨rfl, rfl⟩
      · rw [if_neg (fun q => e q.2), if_neg (fun q => e q.2)]
        exact q3' a (by omega) h2 h3 h4
  · rintro ⟨z1, z⟩ ⟨q1, q2, q3⟩
    rw [Nat.zero_add] at q1 q3
    have q1' : z1 = sI (fTh F) (fTh F - fSt F + 1) := q1
    subst q1'
    refine ⟨z, ?_, q2, fun a h1 => q3 a (by omega)⟩
    show f_X7_measure_11s (nI j) (nI (fSt F)) (sI (fTh F) (fTh F - fSt F + 1)) z = _
    unfold f_X7_measure_11s
    rw [if_pos]
    by_cases c : fSt F = 0
    · rw [c, Nat.sub_zero, sI_out]; decide
    · rw [sI_in (by omega)]; exact nI_lt (by omega) (by omega)
end
end
section
section
variable {F : Fl} {σX σM : Sg}
def mf (f : Nat) : Nat := if f = 1000 then 100 else f
theorem mf_1 : mf 1000 = 100 := rfl
theorem mf_0 {f : Nat} (h : f ≤ 11) : mf f = f := if_neg (by omega)
/-- the reference's table from a set up -/
def TM (F : Fl) (j : Nat) (z : Sg) (n : Nat) : Prop := ∀ a, n ≤ a → a < 2 ^ fN F → z.1 6 a = nI (mf (wk F j a).1) ∧ z.2 5 a = lN (wk F j a).2
def eqM (z σ : Sg) : Prop := ∀ k, k ≠ 6 → z.1 k = σ.1 k
theorem eqM_tr {x y z : Sg} (h : eqM x y) (g : eqM y z) : eqM x z := fun k hk => (h k hk).trans (g k hk)
theorem eqM_up (z : Sg) (u : Nat) (x : Int32) (y : Int64) : eqM (up1 (upL z 5 u y) 6 u x) z := by
  intro k hk
  funext i
  rw [up1_eq, if_neg (fun q => hk q.1), upL_1]
theorem eqM_up2 (z : Sg) (u : Nat) (x : Int32) (y : Int64) : eqM (upL (up1 z 6 u x) 5 u y) z := by
  intro k hk
  funext i
  rw [upL_1, up1_eq, if_neg (fun q => hk q.1)]
theorem m_184 {y : Sg} {j u k a w g : Nat} (hu : u < 1024) (ha : a < 1024) (hau : a ≠ u) (hw : w ≤ 10) (hg : g ≤ 100) (h1 : y.1 6 a = nI w) (h2 : y.1 6 u = nI g) (R : Int64) :
    f_X9_layWalks_184 (nI j) (nI u) (nI k) (nI a) (nI u) R y = some (.inl (nI (k + 1), up1 (upL y 5 u R) 6 u (nI (min (w + 1) g)))) := by
  unfold f_X9_layWalks_184
  rw [bind_ok (astL_ok hu (by decide)), bind_ok (ald_ok ha (by decide)), bind_ok (ald_ok hu (by decide)), upL_1, h1, h2, nI_1]
  have fin : ∀ x, f_X9_layWalks_226 (nI j) (nI u) (nI k) (nI u) x (upL y 5 u R) = some (.inl (nI (k + 1), up1 (upL y 5 u R) 6 u x)) := by
    intro x
    unfold f_X9_layWalks_226
    rw [bind_ok (ast_ok hu (by decide))]
    unfold f_X9_layWalks_227
    rw [nm_eq, nI_1]
  by_cases c : g ≤ w + 1
  · rw [if_pos (nI_le c (by omega)), bind_ok (ald_ok hu (by decide)), upL_1, h2, fin, Nat.min_eq_right c]
  · rw [if_neg (nI_ge (by omega) (by omega)), bind_ok (ald_ok ha (by decide)), upL_1, h1, nI_1, fin, Nat.min_eq_left (by omega)]
theorem m_lay1 (hF : OKF F) {z : Sg} (hM : FM 0 F z) {j u : Nat} (hj : j < 10) (hu : u < 2 ^ fN F) (hT : TM F j z (u + 1)) :
    ∃ z', f_X9_layWalks_11s (nI j) (nI u) z = some (.inl (nI u + (-1), z')) ∧ eqM z' z ∧ TM F j z' u := by
  have hm := hF.m10
  have hm1 := hF.2.1
  have h10 := p10 hF.1.1.2
  have hu10 : u < 1024 := by omega
  have hN := hF.1.1
  have start : ∀ x y, FM 0 F (upL (up1 z 6 u x) 5 u y) := fun x y => FM_same (eqM_up2 z u x y 1 (by decide)) hM
  unfold f_X9_layWalks_11s
  rw [if_neg (nI_pos (by omega)), bind_ok (m_has (lt31 hu10) (by omega))]
  cases c : u.testBit j
  case true =>
    rw [zb_1.mpr c, if_neg (by decide : ¬ (1 : Int32) = 0)]
    refine ⟨upL (up1 z 6 u 0) 5 u 1, ?_, eqM_up2 _ _ _ _, fun a h1 h2 => ?_⟩
    · unfold f_X9_layWalks_34
      rw [bind_ok (ast_ok hu10 (by decide)), bind_ok (m_has (lt31 hu10) (by omega)), zb_1.mpr c, if_neg (by decide : ¬ (1 : Int32) = 0)]
      unfold f_X9_layWalks_53
      rw [bind_ok (astL_ok hu10 (by decide))]
      unfold f_X9_layWalks_56
      refine itr_out ?_
      show f_X9_layWalks_56s (nI j) (nI u) 0 (upL (up1 z 6 u 0) 5 u 1) = _
      unfold f_X9_layWalks_56s
      rw [bind_ok (m_w4 (start _ _)), if_neg (show ¬ nI (fM F) ≤ (0 : Int32) from nI_ge (a := 0) (b := fM F) (by omega) (by omega)), bind_ok (m_has (lt31 hu10) (by omega)), zb_1.mpr c, if_neg (by decide : ¬ (1 : Int32) = 0)]
      rfl
    · rw [upL_1, up1_eq, upL_eq, up1_2]
      by_cases e : a = u
      · subst e
        rw [if_pos ⟨rfl, rfl⟩, if_pos ⟨rfl, rfl⟩, wk_yes hF.1 hu10 c]
        exact ⟨rfl, rfl⟩
      · rw [if_neg (fun q => e q.2), if_neg (fun q => e q.2)]
        exact hT a (by omega) h2
  rw [zb_0.mpr c, if_pos rfl]
  unfold f_X9_layWalks_34
  rw [bind_ok (ast_ok hu10 (by decide)), bind_ok (m_has (lt31 hu10) (by omega)), zb_0.mpr c, if_pos rfl]
  unfold f_X9_layWalks_53
  rw [bind_ok (astL_ok hu10 (by decide))]
  unfold f_X9_layWalks_56
  have := itr_inv (G := fun s => f_X9_layWalks_56s (nI j) (nI u) s.1 s.2) (fun (k : Nat) (y : Int32 × Sg) => y.1 = nI k ∧ eqM y.2 z ∧ y.2.1 6 u = nI (mf (wfo F j u k).1) ∧ y.2.2 5 u = lN (wfo F j u k).2 ∧ TM F j y.2 (u + 1)) (fun (x : (Int32 × Sg) ⊕ Sg) => ∃ z', x = Sum.inl (nI u + (-1), z') ∧ eqM z' z ∧ TM F j z' u) (fM F) 0 3000 (0, upL (up1 z 6 u 100) 5 u 0) (by omega) ⟨rfl, eqM_up2 _ _ _ _, ?_, ?_, fun a h1 h2 => ?_⟩ ?_ ?_
  · obtain ⟨x, e1, z', rfl, e2, e3⟩ := this
    exact ⟨z', e1, e2, e3⟩
  · show (upL (up1 z 6 u 100) 5 u 0).1 6 u = nI 100
    rw [upL_1, up1_eq, if_pos ⟨rfl, rfl⟩]; rfl
  · show (upL (up1 z 6 u 100) 5 u 0).2 5 u = lN 0
    rw [upL_eq, if_pos ⟨rfl, rfl⟩]; rfl
  · show (upL (up1 z 6 u 100) 5 u 0).1 6 a = _ ∧ (upL (up1 z 6 u 100) 5 u 0).2 5 a = _
    rw [upL_1, up1_eq, upL_eq, up1_2, if_neg (fun q => by omega), if_neg (fun q => by omega)]
    exact hT a h1 h2
  · rintro k ⟨y1, y⟩ - hk ⟨rfl, q2, q3, q4, q5⟩
    rw [Nat.zero_add] at hk
    have q2' : eqM y z := q2
    have q3' : y.1 6 u = nI (mf (wfo F j u k).1) := q3
    have q4' : y.2 5 u = lN (wfo F j u k).2 := q4
    have q5' : TM F j y (u + 1) := q5
    have hy : FM 0 F y := FM_same (q2' 1 (by decide)) hM
    have hf := wfo_f hF.1 (j := j) hu10 k (by omega)
    show ∃ z', f_X9_layWalks_56s (nI j) (nI u) (nI k) y = some (.inl z') ∧ _
    rw [wfo_s]
    revert q3' q4' hf
    clear q3 q4
    generalize wfo F j u k = w0
    obtain ⟨f, r⟩ := w0
    intro q3 q4 hf
    have hf1 : (f = 1000 ∨ f ≤ 11) ∧ 1 ≤ f := hf
    have q3' : y.1 6 u = nI (mf f) := q3
    have q4' : y.2 5 u = lN r := q4
    obtain ⟨ca, cb, cc⟩ := hF.1.c10 hk
    have hal := aft_lt hF.1 (sl := fTh F) hk hu10
    have skip : ∀ x, f_X9_layWalks_227 (nI j) (nI u) (nI k) x = some (.inl (nI (k + 1), x)) := by
      intro x
      unfold f_X9_layWalks_227
      rw [nm_eq, nI_1]
    unfold f_X9_layWalks_56s
    rw [bind_ok (m_w4 hy), if_neg (nI_ge hk (by omega)), bind_ok (m_has (lt31 hu10) (by omega)), zb_0.mpr c, if_pos rfl, bind_ok (m_C hF hy hk), nm_eq, z_bit (by omega), z_or, bind_ok (m_mayFrom hF hy hk hu10)]
    by_cases e : aft F (fTh F) k u = u
    · rw [if_pos e, if_pos rfl, skip, show wst F u (wk F j) k (f, r) = (f, r) from if_pos (Or.inl e)]
      exact ⟨_, rfl, rfl, q2', q3', q4', q5'⟩
    have hg := aft_gt e
    have ha2 : aft F (fTh F) k u < 2 ^ fN F := by
      rw [aft_eq e]
      exact Nat.or_lt_two_pow hu (Nat.pow_lt_pow_right (by decide) (hF.1.2.2.1 k hk).2.2.1)
    obtain ⟨t1, t2⟩ := q5' _ (show u + 1 ≤ aft F (fTh F) k u by omega) ha2
    have hw := wk_f hF.1 (j := j) hal
    have hwst := show wst F u (wk F j) k (f, r) = if aft F (fTh F) k u = u ∨ (wk F j (aft F (fTh F) k u)).1 = 1000 ∨ f < (wk F j (aft F (fTh F) k u)).1 + 1 then (f, r) else ((wk F j (aft F (fTh F) k u)).1 + 1, (wk F j (aft F (fTh F) k u)).2 + if (wk F j (aft F (fTh F) k u)).1 + 1 = f then r else 0) from rfl
    rw [if_neg e, if_neg (by decide : ¬ (1 : Int32) = 0), ← aft_eq e]
    revert t1 t2 hw hwst
    generalize (wk F j (aft F (fTh F) k u)).1 = w
    generalize (wk F j (aft F (fTh F) k u)).2 = rw_
    intro t1 t2 hw hwst
    rw [bind_ok (ald_ok hal (by decide)), t1]
    by_cases c0 : w = 1000
    · rw [hwst, if_pos (Or.inr (Or.inl c0)), c0, mf_1, if_pos (by decide : (100 : Int32) ≤ nI 100), skip]
      exact ⟨_, rfl, rfl, q2', q3', q4', q5'⟩
    have hw10 : w ≤ 10 := by omega
    rw [mf_0 (by omega)] at t1 ⊢
    have hg100 : mf f ≤ 100 := by unfold mf; split <;> omega
    have upd_ : ∀ R x, f_X9_layWalks_184 (nI j) (nI u) (nI k) (nI (aft F (fTh F) k u)) (nI u) R y = some (.inl (nI (k + 1), x)) → (∃ p, min (w + 1) (mf f) = mf p.1 ∧ R = lN p.2 ∧ wst F u (wk F j) k (f, r) = p) → ∃ z', f_X9_layWalks_184 (nI j) (nI u) (nI k) (nI (aft F (fTh F) k u)) (nI u) R y = some (.inl z') ∧ z'.1 = nI (k + 1) ∧ eqM z'.2 z ∧ z'.2.1 6 u = nI (mf (wst F u (wk F j) k (f, r)).1) ∧ z'.2.2 5 u = lN (wst F u (wk F j) k (f, r)).2 ∧ TM F j z'.2 (u + 1) := by
      rintro R x - ⟨p, p1, p2, p3⟩
      refine ⟨_, m_184 hu10 hal (by omega) hw10 hg100 t1 q3' R, rfl, eqM_tr (eqM_up _ _ _ _) q2', ?_, ?_, fun a h1 h2 => ?_⟩
      · show (up1 (upL y 5 u R) 6 u _).1 6 u = _
        rw [up1_eq, if_pos ⟨rfl, rfl⟩, p1, p3]
      · show (up1 (upL y 5 u R) 6 u _).2 5 u = _
        rw [up1_2, upL_eq, if_pos ⟨rfl, rfl⟩, p2, p3]
      · show (up1 (upL y 5 u R) 6 u _).1 6 a = _ ∧ (up1 (upL y 5 u R) 6 u _).2 5 a = _
        rw [up1_eq, up1_2, upL_eq, upL_1, if_neg (fun q => by omega), if_neg (fun q => by omega)]
        exact q5' a h1 h2
    rw [if_neg (show ¬ (100 : Int32) ≤ nI w from nI_ge (a := w) (b := 100) (by omega) (by decide)), bind_ok (ald_ok hal (by decide)), bind_ok (ald_ok hu10 (by decide)), t1, q3', nI_1]
    by_cases c1 : f < w + 1
    · have hmf := mf_0 (f := f) (by omega)
      rw [hmf] at q3' upd_ ⊢
      rw [if_pos (nI_le (by omega) (by omega)), bind_ok (ald_ok hal (by decide)), bind_ok (ald_ok hu10 (by decide)), t1, q3', nI_1, if_neg (fun q => by have := (nI_eq (a := w + 1) (b := f) (by omega) (by omega)).mp q; omega), bind_ok (aldL_ok hu10 (by decide)), q4']
      refine upd_ _ _ (m_184 hu10 hal (by omega) hw10 (by omega) t1 q3' _) ⟨(f, r), ?_, rfl, ?_⟩
      · show min (w + 1) f = mf f
        rw [hmf]; omega
      · rw [hwst, if_pos (Or.inr (Or.inr c1))]
    have hwn : wst F u (wk F j) k (f, r) = (w + 1, rw_ + if w + 1 = f then r else 0) := by rw [hwst, if_neg (fun q => q.elim e (fun q => q.elim c0 c1))]
    by_cases c2 : w + 1 = f
    · have hmf := mf_0 (f := f) (by omega)
      rw [hmf] at q3' upd_ ⊢
      rw [if_pos (nI_le (by omega) (by omega)), bind_ok (ald_ok hal (by decide)), bind_ok (ald_ok hu10 (by decide)), t1, q3', nI_1, if_pos (show nI (w + 1) = nI f by rw [c2]), bind_ok (aldL_ok hu10 (by decide)), bind_ok (aldL_ok hal (by decide)), q4', t2, lN_add]
      refine upd_ _ _ (m_184 hu10 hal (by omega) hw10 (by omega) t1 q3' _) ⟨(f, r + rw_), ?_, rfl, ?_⟩
      · show min (w + 1) f = mf f
        rw [hmf]; omega
      · rw [hwn, if_pos c2, Nat.add_comm rw_ r, c2]
    · have hmf : w + 1 < mf f := by unfold mf; split <;> omega
      rw [if_neg (nI_ge hmf (by omega)), bind_ok (aldL_ok hal (by decide)), t2]
      refine upd_ _ _ (m_184 hu10 hal (by omega) hw10 hg100 t1 q3' _) ⟨(w + 1, rw_), ?_, rfl, ?_⟩
      · show min (w + 1) (mf f) = mf (w + 1)
        rw [mf_0 (f := w + 1) (by omega)]; omega
      · rw [hwn, if_neg c2]; rfl
  · rintro ⟨y1, y⟩ ⟨q1, q2, q3, q4, q5⟩
    rw [Nat.zero_add] at q1 q3 q4
    have q1' : y1 = nI (fM F) := q1
    subst q1'
    have q2' : eqM y z := q2
    refine ⟨Sum.inl (nI u + (-1), y), ?_, y, rfl, q2, fun a h1 h2 => ?_⟩
    · show f_X9_layWalks_56s (nI j) (nI u) (nI (fM F)) y = _
      unfold f_X9_layWalks_56s
      rw [bind_ok (m_w4 (FM_same (q2' 1 (by decide)) hM)), if_pos (nI_le (Nat.le_refl _) (by omega))]
      rfl
    · by_cases e : a = u
      · subst e
        rw [wk_no hF.1 hu10 c]
        exact ⟨q3, q4⟩
      · exact q5 a (by omega) h2
theorem m_layWalks (hF : OKF F) (hM : FM 0 F σM) {j : Nat} (hj : j < 10) : ∃ z, f_X9_layWalks (nI j) σM = some z ∧ eqM z σM ∧ TM F j z 0 := by
  have h10 := p10 hF.1.1.2
  have h1 : 1 ≤ 2 ^ fN F := Nat.one_le_two_pow
  have hN := hF.1.1
  unfold f_X9_layWalks
  rw [bind_ok (m_w0 hM), nm_eq, z_bit (by omega), show nI (2 ^ fN F) - 1 = nI (2 ^ fN F - 1) from pk_sub (b := 1) h1]
  unfold f_X9_layWalks_11
  refine itr_inv (fun (k : Nat) (z : Int32 × Sg) => z.1 = sI (2 ^ fN F - 1) k ∧ eqM z.2 σM ∧ TM F j z.2 (2 ^ fN F - k)) (fun (z : Sg) => eqM z σM ∧ TM F j z 0) (2 ^ fN F) 0 3000 _ (by omega) ⟨?_, fun _ _ => rfl, fun a h1 h2 => by omega⟩ ?_ ?_
  · show nI (2 ^ fN F - 1) = sI (2 ^ fN F - 1) 0
    rw [sI_in (by omega), Nat.sub_zero]
  · rintro k ⟨z1, z⟩ - hk ⟨q1, q2, q3⟩
    rw [Nat.zero_add] at hk
    have q1' : z1 = sI (2 ^ fN F - 1) k := q1
    subst q1'
    have q2' : eqM z σM := q2
    obtain ⟨z', e1, e2, e3⟩ := m_lay1 hF (FM_same (q2' 1 (by decide)) hM) hj (u := 2 ^ fN F - 1 - k) (by omega) (fun a h1 h2 => q3 a (by omega) h2)
    refine ⟨(sI (2 ^ fN F - 1) (k + 1), z'), ?_, rfl, eqM_tr e2 q2', fun a h1 h2 => e3 a (by omega) h2⟩
    show f_X9_layWalks_11s (nI j) (sI (2 ^ fN F - 1) k) z = _
    rw [sI_in (by omega), e1, sI_s (by omega)]
  · rintro ⟨z1, z⟩ ⟨q1, q2, q3⟩
    rw [Nat.zero_add] at q1 q3
    have q1' : z1 = sI (2 ^ fN F - 1) (2 ^ fN F) := q1
    subst q1'
    refine ⟨z, ?_, q2, fun a h1 h2 => q3 a (by omega) h2⟩
    show f_X9_layWalks_11s (nI j) (sI (2 ^ fN F - 1) (2 ^ fN F)) z = _
    unfold f_X9_layWalks_11s
    have e : sI (2 ^ fN F - 1) (2 ^ fN F) = -1 := by
      have := sI_out (2 ^ fN F - 1)
      rw [show 2 ^ fN F - 1 + 1 = 2 ^ fN F by omega] at this
      exact this
    rw [e, if_pos (by decide)]
end
end
section
section
variable {F : Fl} {σX σM : Sg}
/-- a first step on a shortest row -/
def fsP (F : Fl) (j t : Nat) : Bool := decide (1 ≤ (wk F j (fSt F)).1) && decide (aft F (fTh F) t (fSt F) ≠ fSt F) && decide ((wk F j (aft F (fTh F) t (fSt F))).1 + 1 = (wk F j (fSt F)).1)
theorem x_first (hF : OKF F) {z : Sg} (hX : FX 12 F z) {j : Nat} (hT : TX F j z (fSt F)) (h1 : (wk F j (fSt F)).1 ≤ 10) :
    f_X7_lowestFirstStep_14 (nI (fSt F)) (nI (wk F j (fSt F)).1) 0 z = some (cd (low (fsP F j) 0 (fM F))) := by
  have hm := hF.m10
  have hm1 := hF.2.1
  have hst := hF.st
  obtain ⟨f, hf⟩ : ∃ f, f = (wk F j (fSt F)).1 := ⟨_, rfl⟩
  rw [← hf] at h1 ⊢
  have key : ∀ k i N, i + k = fM F → k < N → itr N (fun s => f_X7_lowestFirstStep_14s (nI (fSt F)) (nI f) s z) (nI i) = some (cd (low (fsP F j) i k)) := by
    intro k
    induction k with
    | zero =>
      intro i N hi hN
      obtain ⟨N, rfl⟩ : ∃ M, N = M + 1 := ⟨N - 1, by omega⟩
      refine itr_out ?_
      show f_X7_lowestFirstStep_14s (nI (fSt F)) (nI f) (nI i) z = _
      unfold f_X7_lowestFirstStep_14s
      rw [bind_ok (x_steps hX), if_pos (nI_le (by omega) (by omega))]
      rfl
    | succ k ih =>
      intro i N hi hN
      obtain ⟨N, rfl⟩ : ∃ M, N = M + 1 := ⟨N - 1, by omega⟩
      have hal := aft_lt hF.1 (sl := fTh F) (show i < fM F by omega) hst
      rcases Nat.eq_zero_or_pos f with h0 | h0
      · have e1 : low (fsP F j) i (k + 1) = none := by
          rw [low_none]
          intro t _ _
          unfold fsP
          rw [← hf, h0]
          rfl
        rw [e1]
        refine itr_out ?_
        show f_X7_lowestFirstStep_14s (nI (fSt F)) (nI f) (nI i) z = _
        unfold f_X7_lowestFirstStep_14s
        rw [bind_ok (x_steps hX), if_neg (nI_ge (by omega) (by omega)), h0, if_pos (by decide : nI 0 ≤ (0 : Int32))]
        rfl
      have hh : f_X7_lowestFirstStep_14s (nI (fSt F)) (nI f) (nI i) z = if fsP F j i = true then some (Sum.inr (nI i)) else some (Sum.inl (nI (i + 1))) := by
        unfold f_X7_lowestFirstStep_14s
        rw [bind_ok (x_steps hX), if_neg (nI_ge (by omega) (by omega)), if_neg (show ¬ nI f ≤ (0 : Int32) from nI_ge (a := 0) (b := f) (by omega) (by omega)), bind_ok (x_aft hF.1 hX (by omega) hst hF.th)]
        have go : f_X7_lowestFirstStep_60 (nI (fSt F)) (nI f) (nI i) z = some (Sum.inl (nI (i + 1))) := by
          unfold f_X7_lowestFirstStep_60
          rw [nm_eq, nI_1]
        by_cases e : aft F (fTh F) i (fSt F) = fSt F
        · rw [if_pos (show nI _ = nI (fSt F) by rw [e]), go, if_neg (by simp [fsP, e])]
        rw [if_neg (fun q => e ((nI_eq (lt31 hal) (lt31 hst)).mp q)), bind_ok (x_at hal (by decide)), (hT _ (Nat.le_of_lt (aft_gt e)) hal (aft_th hF.sub) (aft_sub _ _ _ _)).1, show nI f - 1 = nI (f - 1) from pk_sub (b := 1) h0]
        have hw := wk_f hF.1 (j := j) hal
        by_cases c : (wk F j (aft F (fTh F) i (fSt F))).1 + 1 = f
        · rw [if_pos (show nI _ = nI (f - 1) by rw [← c]; rfl), if_pos (by unfold fsP; rw [← hf]; simp [e, c, h0, Nat.pos_iff_ne_zero.mp h0]; omega)]
        · rw [if_neg (fun q => by have := (nI_eq (by omega) (by omega)).mp q; omega), go, if_neg (by unfold fsP; rw [← hf]; simp [c])]
      unfold low
      by_cases c : fsP F j i = true
      · rw [if_pos c] at hh
        rw [if_pos c]
        exact itr_out hh
      · rw [if_neg c] at hh
        rw [if_neg c, itr_in hh]
        exact ih (i + 1) N (by omega) (by omega)
  unfold f_X7_lowestFirstStep_14
  exact key (fM F) 0 3000 (by omega) (by omega)
theorem m_first (hF : OKF F) {z : Sg} (hM : FM 0 F z) {j v : Nat} (hv : v ≤ 2) (hT : TM F j z 0) (h1 : (wk F j (fSt F)).1 ≤ 10) :
    f_X9_walk_65 (nI v) (nI (fSt F)) (-4) (nI (fM F - 1)) z = some (if v = 0 then lN (wk F j (fSt F)).1 else if v = 1 then (cd (low (fsP F j) 0 (fM F))).toInt64 else lN (wk F j (fSt F)).2, z) := by
  have hm := hF.m10
  have hm1 := hF.2.1
  have hst := hF.st
  have hsN : fSt F < 2 ^ fN F := subp hF.2.2.1 hF.sub
  obtain ⟨t1, t2⟩ := hT (fSt F) (Nat.zero_le _) hsN
  rw [mf_0 (by omega)] at t1
  unfold f_X9_walk_65
  refine itr_run (fun k => (cd (low (fsP F j) (fM F - k) k), sI (fM F - 1) k)) (fM F) ?_ (by omega) (fun k hk => ?_) ?_
  · show (-4, nI (fM F - 1)) = (-4, sI (fM F - 1) 0)
    rw [sI_in (by omega), Nat.sub_zero]
  · show f_X9_walk_65s (nI v) (nI (fSt F)) (cd (low (fsP F j) (fM F - k) k)) (sI (fM F - 1) k) z = some (.inl (cd (low (fsP F j) (fM F - (k + 1)) (k + 1)), sI (fM F - 1) (k + 1)))
    obtain ⟨i, ei⟩ : ∃ i, i = fM F - 1 - k := ⟨_, rfl⟩
    have hi : i < fM F := by omega
    rw [sI_in (by omega), show fM F - k = i + 1 by omega, show fM F - (k + 1) = i by omega, ← ei]
    have hal := aft_lt hF.1 (sl := fTh F) hi hst
    obtain ⟨ca, cb, cc⟩ := hF.1.c10 hi
    have go : ∀ a : Int32, f_X9_walk_138 (nI v) (nI (fSt F)) (nI i) a z = some (.inl (a, sI (fM F - 1) (k + 1))) := by
      intro a
      unfold f_X9_walk_138
      rw [nm_eq, ei, sI_s (by omega)]
    have no : fsP F j i = false → f_X9_walk_123 (nI v) (nI (fSt F)) (cd (low (fsP F j) (i + 1) k)) (nI i) z = some (.inl (cd (low (fsP F j) i (k + 1)), sI (fM F - 1) (k + 1))) := by
      intro c
      unfold f_X9_walk_123 f_X9_walk_124
      rw [if_pos rfl, go, show low (fsP F j) i (k + 1) = low (fsP F j) (i + 1) k from if_neg (by simp [c])]
    unfold f_X9_walk_65s
    rw [if_neg (nI_pos (by omega)), bind_ok (ald_ok hst (by decide)), t1]
    rcases Nat.eq_zero_or_pos (wk F j (fSt F)).1 with h0 | h0
    · rw [h0, if_pos (by decide : nI 0 ≤ (0 : Int32)), no (by unfold fsP; rw [h0]; rfl)]
    rw [if_neg (show ¬ nI (wk F j (fSt F)).1 ≤ (0 : Int32) from nI_ge (a := 0) (by omega) (by omega)), bind_ok (m_mayFrom hF hM hi hst)]
    by_cases e : aft F (fTh F) i (fSt F) = fSt F
    · rw [if_pos e, if_pos rfl, no (by simp [fsP, e])]
    have ha2 : aft F (fTh F) i (fSt F) < 2 ^ fN F := by
      rw [aft_eq e]
      exact Nat.or_lt_two_pow hsN (Nat.pow_lt_pow_right (by decide) (hF.1.2.2.1 i hi).2.2.1)
    have t3 := (hT _ (Nat.zero_le _) ha2).1
    have hw := wk_f hF.1 (j := j) hal
    have hmf : mf (wk F j (aft F (fTh F) i (fSt F))).1 = (wk F j (fSt F)).1 - 1 ↔ (wk F j (aft F (fTh F) i (fSt F))).1 + 1 = (wk F j (fSt F)).1 := by
      unfold mf
      split <;> omega
    have hmb : mf (wk F j (aft F (fTh F) i (fSt F))).1 ≤ 100 := by unfold mf; split <;> omega
    rw [if_neg e, if_neg (by decide : ¬ (1 : Int32) = 0), bind_ok (m_C hF hM hi), z_bit (by omega), z_or, ← aft_eq e, bind_ok (ald_ok hal (by decide)), bind_ok (ald_ok hst (by decide)), t1, t3, show nI (wk F j (fSt F)).1 - 1 = nI ((wk F j (fSt F)).1 - 1) from pk_sub (b := 1) h0]
    by_cases c : (wk F j (aft F (fTh F) i (fSt F))).1 + 1 = (wk F j (fSt F)).1
    · rw [if_pos (by rw [hmf.mpr c])]
      unfold f_X9_walk_124
      rw [if_neg (by decide : ¬ (1 : Int32) = 0), go, show low (fsP F j) i (k + 1) = some i from if_pos (by unfold fsP; simp [e, c]; omega)]
      rfl
    · rw [if_neg (fun q => c (hmf.mp ((nI_eq (by omega) (by omega)).mp q))), no (by unfold fsP; simp [c])]
  · show f_X9_walk_65s (nI v) (nI (fSt F)) (cd (low (fsP F j) (fM F - fM F) (fM F))) (sI (fM F - 1) (fM F)) z = _
    unfold f_X9_walk_65s
    have e : sI (fM F - 1) (fM F) = -1 := by
      have := sI_out (fM F - 1)
      rw [show fM F - 1 + 1 = fM F by omega] at this
      exact this
    rw [e, if_pos (by decide), Nat.sub_self]
    rcases (show v = 0 ∨ v = 1 ∨ v = 2 by omega) with rfl | rfl | rfl
    · rw [if_pos (show nI 0 = 0 from rfl), bind_ok (ald_ok hst (by decide)), t1, z_l32 (by omega)]
      rfl
    · rw [if_neg (show ¬ nI 1 = 0 by decide), if_pos (show nI 1 = 1 from rfl)]
      rfl
    · rw [if_neg (show ¬ nI 2 = 0 by decide), if_neg (show ¬ nI 2 = 1 by decide), bind_ok (aldL_ok hst (by decide)), t2]
      rfl
/-- promise 13: walk -/
theorem q_walk (hF : OKF F) (hX : FX 12 F σX) (hM : FM 0 F σM) (v w : Int32) : ∃ r zX zM, f_X8_walk v w σX = some (r, zX) ∧ f_X9_walk v w σM = some (r, zM) ∧ eqX zX σX ∧ eqM zM σM := by
  have hn := hF.1.1
  have hm := hF.m10
  have hm1 := hF.2.1
  have hst := hF.st
  unfold f_X8_walk f_X9_walk
  rw [bind_ok (x_isStone hX v), bind_ok (m_isStone hF.1 hM.1 v)]
  rcases inn_cases v (n := fN F) (by omega) with e | ⟨j, h1, rfl, e⟩
  · rw [e]; exact ⟨_, _, _, rfl, rfl, fun _ _ _ => rfl, fun _ _ => rfl⟩
  rw [e, if_neg (by decide : ¬ (1 : Int32) = 0), if_neg (by decide : ¬ (1 : Int32) = 0), bind_ok (z_inK w 2 2 (by decide) (by decide))]
  rcases inn_cases w (n := 2 + 1) (by decide) with e | ⟨k, hk, rfl, e⟩
  · rw [e, if_pos rfl]
    refine ⟨-1, σX, σM, ?_, rfl, fun _ _ _ => rfl, fun _ _ => rfl⟩
    rcases inn_out e with c | c
    · rw [if_pos c]; rfl
    · by_cases c1 : w < 0
      · rw [if_pos c1]; rfl
      · rw [if_neg c1, if_neg]
        · rfl
        · intro q
          have := (gt_of (v := w) (n := 2) (by decide)).mp c
          rw [fa_lt] at this
          rw [Int32.le_iff_toInt_le] at q
          have e1 : (nI 2).toInt = (2 : Int32).toInt := rfl
          omega
  obtain ⟨zX, x1, x2, x3⟩ := x_measure hF hX (j := j) (by omega)
  obtain ⟨zM, y1, y2, y3⟩ := m_layWalks hF hM (j := j) (by omega)
  have hX2 := eqX_FX x2 hX
  have hM2 : FM 0 F zM := FM_same (y2 1 (by decide)) hM
  have hsN : fSt F < 2 ^ fN F := subp hF.2.2.1 hF.sub
  obtain ⟨t1, t2⟩ := y3 (fSt F) (Nat.zero_le _) hsN
  obtain ⟨u1, u2⟩ := x3 (fSt F) (Nat.le_refl _) hst hF.sub (sub_rfl _)
  have hr := wk_r31 hF.1 (j := j) hst
  rw [e, if_neg (by decide : ¬ (1 : Int32) = 0), if_neg (nI_pos (by omega)), if_pos (show nI k ≤ (2 : Int32) from nI_le (a := k) (b := 2) (by omega) (by decide)), bind_ok x1, bind_ok y1, bind_ok (m_w3 hM2), bind_ok (ald_ok hst (by decide)), t1]
  rcases wk_f hF.1 (j := j) hst with c | c
  · -- there is no row
    have ef : f_X7_fewestSteps zX = some (-4) := by
      unfold f_X7_fewestSteps
      rw [bind_ok (x_stood hX2), bind_ok (x_at hst (by decide)), u1, c, if_pos (by decide : nI 1000 = (1000 : Int32))]
      rfl
    refine ⟨-4, zX, zM, ?_, by rw [c, mf_1, if_pos (show nI 100 = (100 : Int32) from rfl)], x2, y2⟩
    rcases (show k = 0 ∨ k = 1 ∨ k = 2 by omega) with rfl | rfl | rfl
    · rw [if_pos (show nI 0 = 0 from rfl), bind_ok ef]; rfl
    · rw [if_neg (show ¬ nI 1 = 0 by decide), if_pos (show nI 1 = 1 from rfl)]
      have el : f_X7_lowestFirstStep zX = some (-4) := by
        unfold f_X7_lowestFirstStep
        rw [bind_ok (x_stood hX2), bind_ok ef]
        unfold f_X7_lowestFirstStep_14
        refine itr_out ?_
        show f_X7_lowestFirstStep_14s (nI (fSt F)) (-4) 0 zX = _
        unfold f_X7_lowestFirstStep_14s
        rw [bind_ok (x_steps hX2), if_neg (show ¬ nI (fM F) ≤ (0 : Int32) from nI_ge (a := 0) (b := fM F) (by omega) (by omega)), if_pos (by decide : (-4 : Int32) ≤ 0)]
        rfl
      rw [bind_ok el]; rfl
    · rw [if_neg (show ¬ nI 2 = 0 by decide), if_neg (show ¬ nI 2 = 1 by decide)]
      have el : f_X7_howManyRows zX = some (-4) := by
        unfold f_X7_howManyRows
        rw [bind_ok ef, if_pos rfl]
        rfl
      rw [bind_ok el]; rfl
  · have ef : f_X7_fewestSteps zX = some (nI (wk F j (fSt F)).1) := by
      unfold f_X7_fewestSteps
      rw [bind_ok (x_stood hX2), bind_ok (x_at hst (by decide)), u1, if_neg (fun q => by have := (nI_eq (a := (wk F j (fSt F)).1) (b := 1000) (by omega) (by omega)).mp q; omega)]
      rfl
    rw [mf_0 (by omega), if_neg (show ¬ nI (wk F j (fSt F)).1 = (100 : Int32) from fun q => by have := (nI_eq (a := (wk F j (fSt F)).1) (b := 100) (by omega) (by omega)).mp q; omega), bind_ok (m_w4 hM2), nm_eq, show nI (fM F) - 1 = nI (fM F - 1) from pk_sub (b := 1) hm1]
    refine ⟨_, zX, zM, ?_, m_first hF hM2 (v := k) (by omega) y3 c, x2, y2⟩
    rcases (show k = 0 ∨ k = 1 ∨ k = 2 by omega) with rfl | rfl | rfl
    · rw [if_pos (show nI 0 = 0 from rfl), bind_ok ef, z_l32 (by omega)]; rfl
    · rw [if_neg (show ¬ nI 1 = 0 by decide), if_pos (show nI 1 = 1 from rfl)]
      have el : f_X7_lowestFirstStep zX = some (cd (low (fsP F j) 0 (fM F))) := by
        unfold f_X7_lowestFirstStep
        rw [bind_ok (x_stood hX2), bind_ok ef, x_first hF hX2 x3 c]
      rw [bind_ok el]; rfl
    · rw [if_neg (show ¬ nI 2 = 0 by decide), if_neg (show ¬ nI 2 = 1 by decide)]
      have el : f_X7_howManyRows zX = some (nI (wk F j (fSt F)).2) := by
        unfold f_X7_howManyRows
        rw [bind_ok ef, if_neg (nI_neg (by omega)).2.2, bind_ok (x_stood hX2), bind_ok (x_at hst (by decide)), u2]
        rfl
      rw [bind_ok el, z_l32 hr]; rfl
end
end
section
-- rows of proof: what a set of steps lays from where one begins
def lay (F : Fl) (S : Nat) : Nat := clo F S (fTh F) (beg F)
/-- the lowest bit -/
def ltn (S : Nat) : Nat → Nat → Nat
  | i, 0 => i
  | i, k + 1 => if S.testBit i then i else ltn S (i + 1) k
def ltz (S : Nat) : Nat := ltn S 0 10
theorem x_ntz : ∀ S, S < 1024 → 1 ≤ S → f_J6_numberOfTrailingZeros_0f7a4 (nI S) = some (nI (ltz S)) ∧ S.testBit (ltz S) = true ∧ (S &&& (S - 1)) ||| 2 ^ ltz S = S ∧ S &&& (S - 1) < S := by decide +kernel
theorem beg_and (F : Fl) : beg F &&& fTh F = beg F := and_sub.mpr (and_r _ _) |> fun h => by rw [Nat.and_comm]; exact h
theorem lay_0 {F : Fl} (hF : OKF F) : lay F 0 = beg F := by
  refine sub_as (clo_min (and_l _ _) (fun t _ h => by rw [Nat.zero_testBit] at h; cases h)) ?_
  have := clo_ext F 0 (fTh F) (beg F)
  rw [beg_and] at this
  exact this
theorem lay_lt {F : Fl} (hF : OKF F) (S : Nat) : lay F S < 1024 := clo_lt hF.1 hF.th
theorem lay_cld {F : Fl} (hF : OKF F) (S : Nat) : cld F S (fTh F) (lay F S) := clo_cld hF.1 hF.th
theorem cld_dn {F : Fl} {S S' sl y : Nat} (h : sub S' S) (g : cld F S sl y) : cld F S' sl y := fun t ht q => g t ht (h t q)
theorem lay_beg (F : Fl) (S : Nat) : sub (beg F) (lay F S) := by
  have := clo_ext F S (fTh F) (beg F)
  rw [beg_and] at this
  exact this
theorem lay_sub {F : Fl} (hF : OKF F) {S S' : Nat} (h : sub S' S) : sub (lay F S') (lay F S) := clo_min (by rw [beg_and]; exact lay_beg F S) (cld_dn h (lay_cld hF S))
theorem lay_same {F : Fl} (hF : OKF F) {S S' t : Nat} (h : S' ||| 2 ^ t = S) (e : aft F (fTh F) t (lay F S') = lay F S') : lay F S = lay F S' := by
  refine sub_as (clo_min (by rw [beg_and]; exact lay_beg F S') (fun u hu q1 q2 q3 q4 => ?_)) (lay_sub hF (by rw [← h]; exact sub_or))
  rw [← h, tb_or2] at q1
  simp only [Bool.or_eq_true, decide_eq_true_eq] at q1
  rcases q1 with q1 | rfl
  · exact lay_cld hF S' u hu q1 q2 q3 q4
  · cases c : (lay F S').testBit (fC F t)
    · exact absurd e ((aft_ne (fTh F) t (lay F S')).mpr ⟨q2, q3, q4, c⟩)
    · rfl
theorem lay_more {F : Fl} (hF : OKF F) {S S' t : Nat} (h : S' ||| 2 ^ t = S) : clo F S (fTh F) (lay F S') = lay F S := by
  have hs := lay_sub hF (S := S) (S' := S') (by rw [← h]; exact sub_or)
  refine sub_as (clo_min (sub_tr (and_l _ _) hs) (lay_cld hF S)) (clo_min ?_ (clo_cld hF.1 hF.th))
  refine sub_tr ?_ (clo_ext F S (fTh F) (lay F S'))
  intro k hk
  rw [beg_and] at hk
  rw [Nat.testBit_and, lay_beg F S' k hk, and_r (fBg F) (fTh F) k hk]
  rfl
section
variable {F : Fl} {σX σM : Sg}
def eqP (z σ : Sg) : Prop := ∀ k, k ≠ 39 → k ≠ 40 → z.1 k = σ.1 k
theorem eqP_FX {z : Sg} (h : eqP z σX) (hX : FX 12 F σX) : FX 12 F z := FX_same (fun k h1 h2 => h k (by omega) (by omega)) hX
/-- the class's reckoning -/
def RK (F : Fl) (z : Sg) (n : Nat) : Prop := z.1 39 1 = nI (2 ^ fM F) ∧ ∀ S, S < n → z.1 40 S = nI (lay F S)
theorem eqP_40 {z : Sg} (h : eqP z σX) (i : Nat) (x : Int32) : eqP (up1 z 40 i x) σX := by
  intro k h1 h2
  rw [← h k h1 h2]
  funext j
  rw [up1_eq, if_neg (fun q => h2 q.1)]
theorem eqP_39 {z : Sg} (h : eqP z σX) (i : Nat) (x : Int32) : eqP (up1 z 39 i x) σX := by
  intro k h1 h2
  rw [← h k h1 h2]
  funext j
  rw [up1_eq, if_neg (fun q => h1 q.1)]
theorem RK_s {z : Sg} {n : Nat} (h : RK F z n) : RK F (up1 z 40 n (nI (lay F n))) (n + 1) := by
  refine ⟨?_, fun S hS => ?_⟩
  · rw [up1_eq, if_neg (by rintro ⟨q, -⟩; cases q)]; exact h.1
  · rw [up1_eq]
    by_cases e : S = n
    · rw [if_pos ⟨rfl, e⟩, e]
    · rw [if_neg (fun q => e q.2)]; exact h.2 S (by omega)
theorem x_reckon (hF : OKF F) (hX : FX 12 F σX) : ∃ z, f_X3_reckon σX = some z ∧ eqP z σX ∧ RK F z (2 ^ fM F) := by
  have hm := hF.m10
  have h10 := p10 hm
  have h1 : 1 ≤ 2 ^ fM F := Nat.one_le_two_pow
  unfold f_X3_reckon
  rw [bind_ok (x_steps hX), bind_ok (pfi_eq _ _ _ _), z_bit (by omega)]
  have e0 : eqP (up1 σX 39 1 (nI (2 ^ fM F))) σX := eqP_39 (fun _ _ _ => rfl) _ _
  rw [bind_ok (x_beg (eqP_FX e0 hX)), z_0, bind_ok (x_put (by decide) (by decide)), z_1]
  unfold f_X3_reckon_24
  have r1 : RK F (up1 (up1 σX 39 1 (nI (2 ^ fM F))) 40 0 (nI (beg F))) 1 := by
    have := RK_s (F := F) (z := up1 σX 39 1 (nI (2 ^ fM F))) (n := 0) ⟨by rw [up1_eq, if_pos ⟨rfl, rfl⟩], fun S hS => absurd hS (Nat.not_lt_zero _)⟩
    rw [lay_0 hF] at this
    exact this
  refine itr_inv (fun (k : Nat) (z : Int32 × Sg) => z.1 = nI k ∧ eqP z.2 σX ∧ RK F z.2 k) (fun (z : Sg) => eqP z σX ∧ RK F z (2 ^ fM F)) (2 ^ fM F - 1) 1 3000 _ (by omega) ⟨rfl, eqP_40 e0 _ _, r1⟩ ?_ ?_
  · rintro S ⟨z1, z⟩ hS1 hS2 ⟨q1, q2, q3⟩
    have q1' : z1 = nI S := q1
    subst q1'
    have q2' : eqP z σX := q2
    have q3' : RK F z S := q3
    have hz := eqP_FX q2' hX
    have hS : S < 2 ^ fM F := by omega
    obtain ⟨n1, n2, n3, n4⟩ := x_ntz S (by omega) hS1
    have ht : ltz S < fM F := tbn hS n2
    have fin : ∀ r, r = lay F S → ∃ z', f_X3_reckon_76 (nI S) (nI r) z = some (.inl z') ∧ z'.1 = nI (S + 1) ∧ eqP z'.2 σX ∧ RK F z'.2 (S + 1) := by
      rintro r rfl
      refine ⟨(nI (S + 1), up1 z 40 S (nI (lay F S))), ?_, rfl, eqP_40 q2' _ _, RK_s q3'⟩
      unfold f_X3_reckon_76
      rw [bind_ok (x_put (by omega) (by decide)), nm_eq, nI_1]
    show ∃ z', f_X3_reckon_24s (nI S) z = some (.inl z') ∧ _
    unfold f_X3_reckon_24s
    rw [q3'.1, if_neg (nI_ge hS (by omega)), show nI S - 1 = nI (S - 1) from pk_sub (b := 1) hS1, z_and, bind_ok (x_at (by omega) (by decide)), q3'.2 _ n4, bind_ok n1, bind_ok (x_aft hF.1 hz ht (lay_lt hF _) hF.th)]
    by_cases e : aft F (fTh F) (ltz S) (lay F (S &&& (S - 1))) = lay F (S &&& (S - 1))
    · rw [if_pos (show nI _ = nI _ by rw [e])]
      exact fin _ (lay_same hF n3 e).symm
    · rw [if_neg (fun q => e ((nI_eq (lt31 (aft_lt hF.1 ht (lay_lt hF _))) (lt31 (lay_lt hF _))).mp q)), bind_ok (x_there hz), bind_ok (x_reachBy hF.1 hz.1 (by omega) hF.th)]
      exact fin _ (lay_more hF n3)
  · rintro ⟨z1, z⟩ ⟨q1, q2, q3⟩
    rw [show 1 + (2 ^ fM F - 1) = 2 ^ fM F by omega] at q1 q3
    have q1' : z1 = nI (2 ^ fM F) := q1
    subst q1'
    have q3' : RK F z (2 ^ fM F) := q3
    refine ⟨z, ?_, q2, q3⟩
    show f_X3_reckon_24s (nI (2 ^ fM F)) z = _
    unfold f_X3_reckon_24s
    rw [q3'.1, if_pos (nI_le (Nat.le_refl _) (by omega))]
/-- a proof: it lays j, and without none of its steps -/
def ip1 (F : Fl) (j S i : Nat) (a : Bool) : Bool := a && !(S.testBit i && (lay F (dif S (2 ^ i))).testBit j)
def ipf (F : Fl) (j S k : Nat) : Bool := fo (ip1 F j S) ((lay F S).testBit j) k
def isp (F : Fl) (j S : Nat) : Bool := ipf F j S 10
theorem ipf_s (F : Fl) (j S k : Nat) : ipf F j S (k + 1) = (ipf F j S k && !(S.testBit k && (lay F (dif S (2 ^ k))).testBit j)) := rfl
theorem ipf_f {j S i : Nat} (h : ipf F j S i = false) : ∀ k, ipf F j S (i + k) = false := by
  intro k
  induction k with
  | zero => exact h
  | succ k ih => rw [show i + (k + 1) = (i + k) + 1 from rfl, ipf_s, ih]; rfl
theorem ipf_no {j S i : Nat} (hi : i ≤ 10) (h : ipf F j S i = false) : isp F j S = false := by
  have := ipf_f h (10 - i)
  rw [show i + (10 - i) = 10 by omega] at this
  exact this
theorem ipf_m {j S m : Nat} (hS : S < 2 ^ m) : ∀ k, ipf F j S (m + k) = ipf F j S m := by
  intro k
  induction k with
  | zero => rfl
  | succ k ih =>
    rw [show m + (k + 1) = (m + k) + 1 from rfl, ipf_s, ih]
    have : S.testBit (m + k) = false := by
      cases q : S.testBit (m + k)
      · rfl
      · have := tbn hS q; omega
    rw [this]
    simp
theorem isp_m {j S : Nat} (hm : fM F ≤ 10) (hS : S < 2 ^ fM F) : isp F j S = ipf F j S (fM F) := by
  have := ipf_m (F := F) (j := j) hS (10 - fM F)
  rw [show fM F + (10 - fM F) = 10 by omega] at this
  exact this
theorem dif_sub {x y : Nat} (hx : x < 1024) : sub (dif x y) x := fun k hk => by
  rw [dif_tb hx] at hk
  simp only [Bool.and_eq_true] at hk
  exact hk.1
theorem x_isp (hF : OKF F) {z : Sg} (hz : RK F z (2 ^ fM F)) {j S : Nat} (hj : j < 10) (hS : S < 2 ^ fM F) : f_X3_isProof (nI S) (nI j) z = some (bz (isp F j S)) := by
  have hm := hF.m10
  have h10 := p10 hm
  unfold f_X3_isProof
  rw [bind_ok (x_at (by omega) (by decide)), hz.2 S hS, bind_ok (x_has (lt31 (lay_lt hF S)) (by omega))]
  cases c : (lay F S).testBit j
  · rw [zb_0.mpr c, if_pos rfl, ipf_no (F := F) (j := j) (S := S) (i := 0) (by decide) c]
    rfl
  rw [zb_1.mpr c, if_neg (by decide : ¬ (1 : Int32) = 0)]
  have key : ∀ k i N, i + k = 10 → k < N → ipf F j S i = true → itr N (fun s => f_X3_isProof_19s (nI S) (nI j) s z) (nI i) = some (bz (isp F j S)) := by
    intro k
    induction k with
    | zero =>
      intro i N hi hN h
      obtain ⟨N, rfl⟩ : ∃ M, N = M + 1 := ⟨N - 1, by omega⟩
      obtain rfl : i = 10 := by omega
      refine itr_out ?_
      show f_X3_isProof_19s (nI S) (nI j) (nI 10) z = _
      unfold f_X3_isProof_19s
      rw [if_pos (by decide : (10 : Int32) ≤ nI 10), show isp F j S = true from h]
      rfl
    | succ k ih =>
      intro i N hi hN h
      obtain ⟨N, rfl⟩ : ∃ M, N = M + 1 := ⟨N - 1, by omega⟩
      have hd : dif S (2 ^ i) < 2 ^ fM F := subp hS (dif_sub (by omega))
      have hh : f_X3_isProof_19s (nI S) (nI j) (nI i) z = if ipf F j S (i + 1) = true then some (Sum.inl (nI (i + 1))) else some (Sum.inr 0) := by
        have go : f_X3_isProof_56 (nI S) (nI j) (nI i) z = some (Sum.inl (nI (i + 1))) := by
          unfold f_X3_isProof_56
          rw [nm_eq, nI_1]
        unfold f_X3_isProof_19s
        rw [if_neg (show ¬ (10 : Int32) ≤ nI i from nI_ge (a := i) (b := 10) (by omega) (by decide)), bind_ok (x_has (by omega) (by omega)), ipf_s, h]
        cases c1 : S.testBit i
        · rw [zb_0.mpr c1, if_pos rfl, go]; rfl
        rw [zb_1.mpr c1, if_neg (by decide : ¬ (1 : Int32) = 0), z_bit (by omega), z_dif, bind_ok (x_at (by omega) (by decide)), hz.2 _ hd, bind_ok (x_has (lt31 (lay_lt hF _)) (by omega))]
        cases c2 : (lay F (dif S (2 ^ i))).testBit j
        · rw [zb_0.mpr c2, if_pos rfl, go]; rfl
        · rw [zb_1.mpr c2, if_neg (by decide : ¬ (1 : Int32) = 0)]; rfl
      cases c3 : ipf F j S (i + 1)
      · rw [c3, if_neg Bool.false_ne_true] at hh
        rw [ipf_no (by omega) c3]
        exact itr_out hh
      · rw [c3, if_pos rfl] at hh
        rw [itr_in hh]
        exact ih (i + 1) N (by omega) (by omega) c3
  unfold f_X3_isProof_19
  exact key 10 0 3000 (by omega) (by omega) c
theorem m_proves (hF : OKF F) (hM : FM 0 F σM) {j S : Nat} (hj : j < 10) (hS : S < 1024) : f_X9_proves (nI S) (nI j) σM = some (zb (lay F S) j) := by
  unfold f_X9_proves
  rw [bind_ok (m_beg hM), bind_ok (m_w2 hM), bind_ok (m_closure hF.1 hM.1 hS hF.th), bind_ok (m_has (lt31 (clo_lt hF.1 hF.th)) (by omega)), bind_ok (zrt_01 (zb_01 _ _))]
  rfl
theorem m_isp (hF : OKF F) (hM : FM 0 F σM) {j S : Nat} (hj : j < 10) (hS : S < 2 ^ fM F) : f_X9_isProof (nI S) (nI j) σM = some (bz (isp F j S)) := by
  have hm := hF.m10
  have h10 := p10 hm
  unfold f_X9_isProof
  rw [bind_ok (m_proves hF hM hj (by omega)), isp_m hm hS]
  have key : ∀ k i N, i + k = fM F → k < N → itr N (fun s => f_X9_isProof_10s (nI S) (nI j) s.1 s.2 σM) (bz (ipf F j S i), nI i) = some (bz (ipf F j S (fM F))) := by
    intro k
    induction k with
    | zero =>
      intro i N hi hN
      obtain ⟨N, rfl⟩ : ∃ M, N = M + 1 := ⟨N - 1, by omega⟩
      obtain rfl : i = fM F := by omega
      refine itr_out ?_
      show f_X9_isProof_10s (nI S) (nI j) (bz (ipf F j S (fM F))) (nI (fM F)) σM = _
      unfold f_X9_isProof_10s
      rw [bind_ok (m_w4 hM), if_pos (nI_le (Nat.le_refl _) (by omega))]
      unfold f_X9_isProof_62
      rw [bind_ok (zrt_01 (bz_01 _))]
      rfl
    | succ k ih =>
      intro i N hi hN
      obtain ⟨N, rfl⟩ : ∃ M, N = M + 1 := ⟨N - 1, by omega⟩
      have hi10 : i < 10 := by omega
      cases c0 : ipf F j S i
      · have := ipf_f c0 (k + 1)
        rw [show i + (k + 1) = fM F from hi] at this
        rw [this]
        refine itr_out ?_
        show f_X9_isProof_10s (nI S) (nI j) (bz false) (nI i) σM = _
        unfold f_X9_isProof_10s
        rw [bind_ok (m_w4 hM), if_neg (nI_ge (by omega) (by omega)), if_pos bz_f]
        rfl
      have hh : f_X9_isProof_10s (nI S) (nI j) (bz true) (nI i) σM = some (Sum.inl (bz (ipf F j S (i + 1)), nI (i + 1))) := by
        have go : ∀ a : Int32, f_X9_isProof_55 (nI S) (nI j) (nI i) a σM = some (Sum.inl (a, nI (i + 1))) := by
          intro a
          unfold f_X9_isProof_55
          rw [nm_eq, nI_1]
        unfold f_X9_isProof_10s f_X9_isProof_50
        rw [bind_ok (m_w4 hM), if_neg (nI_ge (by omega) (by omega)), if_neg (show ¬ bz true = 0 by decide), bind_ok (m_has (by omega) (by omega)), ipf_s, c0]
        cases c1 : S.testBit i
        · rw [zb_0.mpr c1, if_pos rfl, go]; rfl
        rw [zb_1.mpr c1, if_neg (by decide : ¬ (1 : Int32) = 0), z_bit (by omega), z_dif, bind_ok (m_proves hF hM hj (dif_lt (by omega)))]
        cases c2 : (lay F (dif S (2 ^ i))).testBit j
        · rw [zb_0.mpr c2, if_pos rfl, go]; rfl
        · rw [zb_1.mpr c2, if_neg (by decide : ¬ (1 : Int32) = 0), go]; rfl
      rw [itr_in hh]
      exact ih (i + 1) N (by omega) (by omega)
  unfold f_X9_isProof_10
  rw [zb_bz, z_0]
  exact key (fM F) 0 3000 (by omega) (by omega)
end
end
section
section
variable {F : Fl} {σX σM : Sg}
def cn1 (p : Nat → Bool) (S a : Nat) : Nat := if p S = true then a + 1 else a
def ia1 (p : Nat → Bool) (S : Nat) (a : Option Nat) : Option Nat := if p S = true then (match a with | none => some S | some x => some (x &&& S)) else a
def ia0 (d : Nat) (a : Option Nat) : Int32 := match a with | none => nI d | some x => nI x
theorem ia_n {p : Nat → Bool} {S : Nat} {a : Option Nat} (hp : p S = false) : ia1 p S a = a := if_neg (by rw [hp]; decide)
theorem cn_y {p : Nat → Bool} {S a : Nat} (hp : p S = true) : cn1 p S a = a + 1 := if_pos hp
theorem cn_n {p : Nat → Bool} {S a : Nat} (hp : p S = false) : cn1 p S a = a := if_neg (by rw [hp]; decide)
theorem cn_le (p : Nat → Bool) : ∀ k, fo (cn1 p) 0 k ≤ k := by
  intro k
  induction k with
  | zero => exact Nat.le_refl _
  | succ k ih =>
    rw [fo_s]
    cases c : p k
    · rw [cn_n c]; omega
    · rw [cn_y c]; omega
theorem ia_ne {p : Nat → Bool} {S : Nat} (a : Option Nat) (hp : p S = true) : ia1 p S a ≠ none := by
  unfold ia1
  rw [if_pos hp]
  cases a <;> exact fun q => by cases q
theorem cn_ia (p : Nat → Bool) : ∀ k, fo (cn1 p) 0 k = 0 ↔ fo (ia1 p) none k = none := by
  intro k
  induction k with
  | zero => exact ⟨fun _ => rfl, fun _ => rfl⟩
  | succ k ih =>
    rw [fo_s, fo_s]
    cases c : p k
    · rw [cn_n c, ia_n c]; exact ih
    · rw [cn_y c]
      exact ⟨fun q => by omega, fun q => absurd q (ia_ne _ c)⟩
theorem ia_s {p : Nat → Bool} {d S : Nat} {a : Option Nat} (hp : p S = true) (hd : d &&& S = S) : ia0 d a &&& nI S = ia0 d (ia1 p S a) := by
  unfold ia1
  rw [if_pos hp]
  cases a with
  | none => show nI d &&& nI S = nI S; rw [z_and, hd]
  | some x => show nI x &&& nI S = nI (x &&& S); rw [z_and]
def an (F : Fl) (p : Nat → Bool) : Nat := fo (cn1 p) 0 (2 ^ fM F)
theorem x_howMany (hF : OKF F) {z : Sg} (hz : RK F z (2 ^ fM F)) {j : Nat} (hj : j < 10) : f_X3_howMany (nI j) z = some (nI (an F (isp F j))) := by
  have h10 := p10 hF.m10
  unfold f_X3_howMany f_X3_howMany_4
  refine itr_run (fun k => (nI (fo (cn1 (isp F j)) 0 k), nI k)) (2 ^ fM F) rfl (by omega) (fun k hk => ?_) ?_
  · show f_X3_howMany_4s (nI j) (nI (fo (cn1 (isp F j)) 0 k)) (nI k) z = some (.inl (nI (fo (cn1 (isp F j)) 0 (k + 1)), nI (k + 1)))
    unfold f_X3_howMany_4s f_X3_howMany_24
    rw [hz.1, if_neg (nI_ge hk (by omega)), bind_ok (x_isp hF hz hj hk), fo_s]
    cases c : isp F j k
    · rw [bz_f, if_pos rfl, nm_eq, nI_1, cn_n c]
    · rw [bz_t, if_neg (by decide : ¬ (1 : Int32) = 0), nm_eq, nm_eq, nI_1, nI_1, cn_y c]
  · show f_X3_howMany_4s (nI j) (nI (an F (isp F j))) (nI (2 ^ fM F)) z = _
    unfold f_X3_howMany_4s
    rw [hz.1, if_pos (nI_le (Nat.le_refl _) (by omega))]
def sh (F : Fl) (j k : Nat) : Option Nat := fo (ub1 (isp F j)) none k
def shc (o : Option Nat) : Nat := match o with | none => 11 | some b => pc b
theorem sh_lt {j k b : Nat} (h : sh F j k = some b) : b < k := ub_lt _ _ _ h
theorem x_shortest (hF : OKF F) {z : Sg} (hz : RK F z (2 ^ fM F)) {j : Nat} (hj : j < 10) : f_X3_shortest (nI j) z = some (cd (sh F j (2 ^ fM F))) := by
  have h10 := p10 hF.m10
  unfold f_X3_shortest f_X3_shortest_9
  refine itr_run (fun k => (cd (sh F j k), nI (shc (sh F j k)), nI k)) (2 ^ fM F) rfl (by omega) (fun k hk => ?_) ?_
  · show f_X3_shortest_9s (nI j) (cd (sh F j k)) (nI (shc (sh F j k))) (nI k) z = some (.inl (cd (sh F j (k + 1)), nI (shc (sh F j (k + 1))), nI (k + 1)))
    have es : sh F j (k + 1) = ub1 (isp F j) k (sh F j k) := rfl
    rw [es]
    generalize sh F j k = o
    have hp := pc_le k
    have hc : shc o ≤ 11 := by
      cases o with
      | none => exact Nat.le_refl _
      | some b => have := pc_le b; show pc b ≤ 11; omega
    have e1 : ub1 (isp F j) k o = if pc k < shc o ∧ isp F j k = true then some k else o := by
      cases o with
      | none =>
        show (if isp F j k = true then some k else none) = if pc k < 11 ∧ isp F j k = true then some k else none
        simp only [show pc k < 11 by omega, true_and]
      | some b =>
        show (if isp F j k = true ∧ pc k < pc b then some k else some b) = if pc k < pc b ∧ isp F j k = true then some k else some b
        simp only [And.comm]
    unfold f_X3_shortest_9s f_X3_shortest_46
    rw [hz.1, if_neg (nI_ge hk (by omega)), bind_ok (x_bc k (by omega))]
    by_cases c1 : shc o ≤ pc k
    · rw [if_pos (nI_le c1 (by omega)), nm_eq, nI_1, e1, if_neg (fun q => by omega)]
    rw [if_neg (nI_ge (by omega) (by omega)), bind_ok (x_isp hF hz hj hk)]
    cases c : isp F j k
    · rw [bz_f, if_pos rfl, nm_eq, nI_1, e1, if_neg (fun q => by have := q.2; rw [c] at this; cases this)]
    · rw [bz_t, if_neg (by decide : ¬ (1 : Int32) = 0), bind_ok (x_bc k (by omega)), nm_eq, nI_1, e1, if_pos ⟨by omega, c⟩]
      rfl
  · show f_X3_shortest_9s (nI j) (cd (sh F j (2 ^ fM F))) (nI (shc (sh F j (2 ^ fM F)))) (nI (2 ^ fM F)) z = _
    unfold f_X3_shortest_9s
    rw [hz.1, if_pos (nI_le (Nat.le_refl _) (by omega))]
def ial (F : Fl) (j k : Nat) : Option Nat := fo (ia1 (isp F j)) none k
theorem and_1023 {S : Nat} (h : S < 1024) : 1023 &&& S = S := by
  rw [and_sub]
  intro k hk
  rw [a1023]
  exact decide_eq_true (tb10 h hk)
theorem and_all {S m : Nat} (h : S < 2 ^ m) : (2 ^ m - 1) &&& S = S := by
  rw [and_sub]
  intro k hk
  rw [all_tb]
  exact decide_eq_true (tbn h hk)
def ia2 (a : Option Nat) : Int32 := match a with | none => 0 | some x => nI x
theorem x_inAll (hF : OKF F) {z : Sg} (hz : RK F z (2 ^ fM F)) {j : Nat} (hj : j < 10) : f_X3_inAll (nI j) z = some (ia2 (ial F j (2 ^ fM F))) := by
  have h10 := p10 hF.m10
  unfold f_X3_inAll f_X3_inAll_9
  refine itr_run (fun k => (ia0 1023 (ial F j k), bz (ial F j k).isSome, nI k)) (2 ^ fM F) rfl (by omega) (fun k hk => ?_) ?_
  · show f_X3_inAll_9s (nI j) (ia0 1023 (ial F j k)) (bz (ial F j k).isSome) (nI k) z = some (.inl (ia0 1023 (ial F j (k + 1)), bz (ial F j (k + 1)).isSome, nI (k + 1)))
    have es : ial F j (k + 1) = ia1 (isp F j) k (ial F j k) := rfl
    rw [es]
    generalize ial F j k = o
    unfold f_X3_inAll_9s f_X3_inAll_35
    rw [hz.1, if_neg (nI_ge hk (by omega)), bind_ok (x_isp hF hz hj hk)]
    cases c : isp F j k
    · rw [bz_f, if_pos rfl, nm_eq, nI_1, ia_n c]
    · rw [bz_t, if_neg (by decide : ¬ (1 : Int32) = 0), nm_eq, nm_eq, nI_1, ia_s c (and_1023 (by omega))]
      unfold ia1
      rw [if_pos c]
      cases o <;> rfl
  · show f_X3_inAll_9s (nI j) (ia0 1023 (ial F j (2 ^ fM F))) (bz (ial F j (2 ^ fM F)).isSome) (nI (2 ^ fM F)) z = _
    unfold f_X3_inAll_9s
    rw [hz.1, if_pos (nI_le (Nat.le_refl _) (by omega))]
    cases ial F j (2 ^ fM F) with
    | none => rfl
    | some x => rfl
theorem m_proofs (hF : OKF F) (hM : FM 0 F σM) {j v : Nat} (hj : j < 10) (hv : v ≤ 2) : f_X9_proofs_37 (nI j) (nI v) 0 (-4) (nI (2 ^ fM F - 1)) 0 σM = some (if v = 0 then nI (an F (isp F j)) else if v = 1 then cd (sh F j (2 ^ fM F)) else ia2 (ial F j (2 ^ fM F))) := by
  have h10 := p10 hF.m10
  have h1 : 1 ≤ 2 ^ fM F := Nat.one_le_two_pow
  unfold f_X9_proofs_37
  refine itr_run (fun k => (nI (fo (cn1 (isp F j)) 0 k), cd (sh F j k), ia0 (2 ^ fM F - 1) (ial F j k), nI k)) (2 ^ fM F) rfl (by omega) (fun k hk => ?_) ?_
  · show f_X9_proofs_37s (nI j) (nI v) (nI (fo (cn1 (isp F j)) 0 k)) (cd (sh F j k)) (ia0 (2 ^ fM F - 1) (ial F j k)) (nI k) σM = some (.inl (nI (fo (cn1 (isp F j)) 0 (k + 1)), cd (sh F j (k + 1)), ia0 (2 ^ fM F - 1) (ial F j (k + 1)), nI (k + 1)))
    have es : ial F j (k + 1) = ia1 (isp F j) k (ial F j k) := rfl
    have es2 : sh F j (k + 1) = ub1 (isp F j) k (sh F j k) := rfl
    have hb : ∀ b, sh F j k = some b → b < k := fun b h => sh_lt h
    rw [es, es2, fo_s]
    revert hb
    generalize sh F j k = o
    generalize ial F j k = o2
    generalize fo (cn1 (isp F j)) 0 k = n
    intro hb
    unfold f_X9_proofs_37s
    rw [bind_ok (m_all hF hM), if_neg (nI_nlt (by omega) (by omega)), bind_ok (m_isp hF hM hj hk)]
    cases c : isp F j k
    · rw [bz_f, if_pos rfl, ia_n c, cn_n c, show ub1 (isp F j) k o = o by unfold ub1; cases o <;> simp [c]]
      unfold f_X9_proofs_95
      rw [nm_eq, nI_1]
    have fin : ∀ x : Int32, f_X9_proofs_83 (nI j) (nI v) (nI n) (ia0 (2 ^ fM F - 1) o2) (nI k) x σM = some (.inl (nI (cn1 (isp F j) k n), x, ia0 (2 ^ fM F - 1) (ia1 (isp F j) k o2), nI (k + 1))) := by
      intro x
      unfold f_X9_proofs_83 f_X9_proofs_95
      rw [nm_eq, nm_eq, nm_eq, nI_1, nI_1, ia_s c (and_all hk), cn_y c]
    rw [bz_t, if_neg (by decide : ¬ (1 : Int32) = 0)]
    unfold f_X9_proofs_76
    cases o with
    | none =>
      rw [if_pos (show cd none = -4 from rfl), fin, show ub1 (isp F j) k none = some k from if_pos c]
      rfl
    | some b =>
      have hbk := hb b rfl
      have hp1 := pc_le k
      have hp2 := pc_le b
      rw [show cd (some b) = nI b from rfl, if_neg (nI_neg (by omega)).2.2, bind_ok (m_ones (by omega)), bind_ok (m_ones (by omega))]
      by_cases c3 : pc k < pc b
      · rw [if_neg (nI_ge c3 (by omega)), fin, show ub1 (isp F j) k (some b) = some k from if_pos ⟨c, c3⟩]
        rfl
      · rw [if_pos (nI_le (by omega) (by omega)), fin, show ub1 (isp F j) k (some b) = some b from if_neg (fun q => c3 q.2)]
        rfl
  · show f_X9_proofs_37s (nI j) (nI v) (nI (an F (isp F j))) (cd (sh F j (2 ^ fM F))) (ia0 (2 ^ fM F - 1) (ial F j (2 ^ fM F))) (nI (2 ^ fM F)) σM = _
    unfold f_X9_proofs_37s
    rw [bind_ok (m_all hF hM), if_pos (nI_lt (by omega) (by omega))]
    have hle := cn_le (isp F j) (2 ^ fM F)
    have hci := cn_ia (isp F j) (2 ^ fM F)
    rcases (show v = 0 ∨ v = 1 ∨ v = 2 by omega) with rfl | rfl | rfl
    · rw [if_pos (show nI 0 = 0 from rfl)]; rfl
    · rw [if_neg (show ¬ nI 1 = 0 by decide), if_pos (show nI 1 = 1 from rfl)]; rfl
    · rw [if_neg (show ¬ nI 2 = 0 by decide), if_neg (show ¬ nI 2 = 1 by decide)]
      by_cases c : an F (isp F j) = 0
      · rw [c, if_pos z_e0, show ial F j (2 ^ fM F) = none from hci.mp c]
        rfl
      · have hle2 : an F (isp F j) ≤ 2 ^ fM F := hle
        rw [if_neg (z_ne0 (by omega) c)]
        cases h : ial F j (2 ^ fM F) with
        | none => exact absurd (hci.mpr h) c
        | some x => rfl
/-- promise 23: proofs -/
theorem q_proofs (hF : OKF F) (hX : FX 12 F σX) (hM : FM 0 F σM) (v w : Int32) : ∃ r zX, f_X8_proofs v w σX = some (r, zX) ∧ f_X9_proofs v w σM = some r ∧ eqP zX σX := by
  have hn := hF.1.1
  unfold f_X8_proofs f_X9_proofs
  rw [bind_ok (x_isStone hX v), bind_ok (m_isStone hF.1 hM.1 v)]
  rcases inn_cases v (n := fN F) (by omega) with e | ⟨j, h1, rfl, e⟩
  · rw [e]; exact ⟨_, _, rfl, rfl, fun _ _ _ => rfl⟩
  rw [e, if_neg (by decide : ¬ (1 : Int32) = 0), if_neg (by decide : ¬ (1 : Int32) = 0), bind_ok (z_inK w 2 2 (by decide) (by decide))]
  rcases inn_cases w (n := 2 + 1) (by decide) with e | ⟨k, hk, rfl, e⟩
  · rw [e, if_pos rfl]
    refine ⟨-1, σX, ?_, rfl, fun _ _ _ => rfl⟩
    rcases inn_out e with c | c
    · rw [if_pos c]; rfl
    · by_cases c1 : w < 0
      · rw [if_pos c1]; rfl
      · rw [if_neg c1, if_neg]
        · rfl
        · intro q
          have := (gt_of (v := w) (n := 2) (by decide)).mp c
          rw [fa_lt] at this
          rw [Int32.le_iff_toInt_le] at q
          have e1 : (nI 2).toInt = (2 : Int32).toInt := rfl
          omega
  obtain ⟨zX, x1, x2, x3⟩ := x_reckon hF hX
  rw [e, if_neg (by decide : ¬ (1 : Int32) = 0), if_neg (nI_pos (by omega)), if_pos (show nI k ≤ (2 : Int32) from nI_le (a := k) (b := 2) (by omega) (by decide)), bind_ok x1, bind_ok (m_all hF hM), m_proofs hF hM (v := k) (by omega) (by omega)]
  refine ⟨_, zX, ?_, rfl, x2⟩
  rcases (show k = 0 ∨ k = 1 ∨ k = 2 by omega) with rfl | rfl | rfl
  · rw [if_pos (show nI 0 = 0 from rfl), bind_ok (x_howMany hF x3 (by omega))]; rfl
  · rw [if_neg (show ¬ nI 1 = 0 by decide), if_pos (show nI 1 = 1 from rfl), bind_ok (x_shortest hF x3 (by omega))]; rfl
  · rw [if_neg (show ¬ nI 2 = 0 by decide), if_neg (show ¬ nI 2 = 1 by decide), bind_ok (x_inAll hF x3 (by omega))]; rfl
-- worn
def en1 (F : Fl) (S t a : Nat) : Nat := if S.testBit t = true then a ||| 2 ^ fC F t else a
def ends (F : Fl) (S : Nat) : Nat := fo (en1 F S) 0 (fM F)
theorem en_lt (hF : OKL F) (S : Nat) : ∀ k, k ≤ fM F → fo (en1 F S) 0 k < 1024 := by
  intro k
  induction k with
  | zero => intro _; show (0 : Nat) < 1024; decide
  | succ k ih =>
    intro hk
    rw [fo_s]
    unfold en1
    split
    · exact or10 (ih (by omega)) (pow10 (hF.c10 (by omega : k < fM F)).2.2)
    · exact ih (by omega)
theorem x_ends (hF : OKF F) {z : Sg} (hX : FX 12 F z) {S : Nat} (hS : S < 1024) : f_X3_endsOf (nI S) z = some (nI (ends F S)) := by
  have hm := hF.m10
  unfold f_X3_endsOf f_X3_endsOf_4
  refine itr_run (fun k => (nI (fo (en1 F S) 0 k), nI k)) (fM F) rfl (by omega) (fun k hk => ?_) ?_
  · have hq := hX.1.2.2.2.1 k hk
    obtain ⟨ca, cb, cc⟩ := hF.1.c10 hk
    show f_X3_endsOf_4s (nI S) (nI (fo (en1 F S) 0 k)) (nI k) z = some (.inl (nI (fo (en1 F S) 0 (k + 1)), nI (k + 1)))
    have e2 : f_X1_endOf 12 (nI k) z = some (nI (fC F k)) := by
      unfold f_X1_endOf
      rw [bind_ok (x_at (by omega) (by decide)), hq.2.2.1]
    unfold f_X3_endsOf_4s f_X3_endsOf_30
    rw [bind_ok (x_steps hX), if_neg (nI_ge hk (by omega)), bind_ok (x_has (lt31 hS) (by omega)), fo_s]
    cases c : S.testBit k
    · rw [zb_0.mpr c, if_pos rfl, nm_eq, nI_1, show en1 F S k (fo (en1 F S) 0 k) = fo (en1 F S) 0 k from if_neg (by rw [c]; decide)]
    · rw [zb_1.mpr c, if_neg (by decide : ¬ (1 : Int32) = 0), bind_ok e2, nm_eq, nm_eq, nI_1, z_bit (by omega), z_or, show en1 F S k (fo (en1 F S) 0 k) = fo (en1 F S) 0 k ||| 2 ^ fC F k from if_pos c]
  · show f_X3_endsOf_4s (nI S) (nI (ends F S)) (nI (fM F)) z = _
    unfold f_X3_endsOf_4s
    rw [bind_ok (x_steps hX), if_pos (nI_le (Nat.le_refl _) (by omega))]
def wp (F : Fl) (j w S : Nat) : Bool := decide (ends F S = w) && isp F j S
theorem x_wear (hF : OKF F) {z : Sg} (hX : FX 12 F z) (hz : RK F z (2 ^ fM F)) {j w : Nat} (hj : j < 10) (hw : w < 1024) : f_X3_howManyWear (nI j) (nI w) z = some (nI (an F (wp F j w))) := by
  have h10 := p10 hF.m10
  unfold f_X3_howManyWear f_X3_howManyWear_6
  refine itr_run (fun k => (nI (fo (cn1 (wp F j w)) 0 k), nI k)) (2 ^ fM F) rfl (by omega) (fun k hk => ?_) ?_
  · show f_X3_howManyWear_6s (nI j) (nI w) (nI (fo (cn1 (wp F j w)) 0 k)) (nI k) z = some (.inl (nI (fo (cn1 (wp F j w)) 0 (k + 1)), nI (k + 1)))
    have hl : ends F k < 1024 := en_lt hF.1 k _ (Nat.le_refl _)
    unfold f_X3_howManyWear_6s f_X3_howManyWear_38
    rw [hz.1, if_neg (nI_ge hk (by omega)), bind_ok (x_ends hF hX (by omega)), fo_s]
    by_cases e : ends F k = w
    · rw [if_pos (show nI (ends F k) = nI w by rw [e]), bind_ok (x_isp hF hz hj hk)]
      cases c : isp F j k
      · rw [bz_f, if_pos rfl, nm_eq, nI_1, cn_n (by unfold wp; rw [c, Bool.and_false])]
      · rw [bz_t, if_neg (by decide : ¬ (1 : Int32) = 0), nm_eq, nm_eq, nI_1, nI_1, cn_y (by unfold wp; rw [c, decide_eq_true e]; rfl)]
    · rw [if_neg (fun q => e ((nI_eq (lt31 hl) (lt31 hw)).mp q)), nm_eq, nI_1, cn_n (by unfold wp; rw [decide_eq_false e]; rfl)]
  · show f_X3_howManyWear_6s (nI j) (nI w) (nI (an F (wp F j w))) (nI (2 ^ fM F)) z = _
    unfold f_X3_howManyWear_6s
    rw [hz.1, if_pos (nI_le (Nat.le_refl _) (by omega))]
theorem m_worn (hF : OKF F) (hM : FM 0 F σM) {j w : Nat} (hj : j < 10) (hw : w < 1024) : f_X9_worn_23 (nI j) (nI w) 0 0 σM = some (nI (an F (wp F j w))) := by
  have hm := hF.m10
  have h10 := p10 hF.m10
  have h1 : 1 ≤ 2 ^ fM F := Nat.one_le_two_pow
  unfold f_X9_worn_23
  refine itr_run (fun k => (nI (fo (cn1 (wp F j w)) 0 k), nI k)) (2 ^ fM F) rfl (by omega) (fun S hS => ?_) ?_
  · show f_X9_worn_23s (nI j) (nI w) (nI (fo (cn1 (wp F j w)) 0 S)) (nI S) σM = some (.inl (nI (fo (cn1 (wp F j w)) 0 (S + 1)), nI (S + 1)))
    have hl : ends F S < 1024 := en_lt hF.1 S _ (Nat.le_refl _)
    rw [fo_s]
    generalize fo (cn1 (wp F j w)) 0 S = n
    unfold f_X9_worn_23s
    rw [bind_ok (m_all hF hM), if_neg (nI_nlt (by omega) (by omega))]
    unfold f_X9_worn_38
    refine itr_run (fun k => (nI (fo (en1 F S) 0 k), nI k)) (fM F) rfl (by omega) (fun k hk => ?_) ?_
    · obtain ⟨ca, cb, cc⟩ := hF.1.c10 hk
      show f_X9_worn_38s (nI j) (nI w) (nI n) (nI S) (nI (fo (en1 F S) 0 k)) (nI k) σM = some (.inl (nI (fo (en1 F S) 0 (k + 1)), nI (k + 1)))
      unfold f_X9_worn_38s f_X9_worn_77
      rw [bind_ok (m_w4 hM), if_neg (nI_ge hk (by omega)), bind_ok (m_has (by omega) (by omega)), fo_s]
      cases c : S.testBit k
      · rw [zb_0.mpr c, if_pos rfl, nm_eq, nm_eq, nI_1, z_or0, show en1 F S k (fo (en1 F S) 0 k) = fo (en1 F S) 0 k from if_neg (by rw [c]; decide)]
      · rw [zb_1.mpr c, if_neg (by decide : ¬ (1 : Int32) = 0), bind_ok (m_C hF hM hk), nm_eq, nm_eq, nI_1, z_bit (by omega), z_or, show en1 F S k (fo (en1 F S) 0 k) = fo (en1 F S) 0 k ||| 2 ^ fC F k from if_pos c]
    · show f_X9_worn_38s (nI j) (nI w) (nI n) (nI S) (nI (ends F S)) (nI (fM F)) σM = _
      unfold f_X9_worn_38s f_X9_worn_107 f_X9_worn_108
      rw [bind_ok (m_w4 hM), if_pos (nI_le (Nat.le_refl _) (by omega))]
      by_cases e : ends F S = w
      · rw [if_pos (show nI (ends F S) = nI w by rw [e]), bind_ok (m_isp hF hM hj hS)]
        cases c : isp F j S
        · rw [bz_f, if_pos rfl, nm_eq, nm_eq, nI_1, z_0, nI_add, Nat.add_zero, cn_n (by unfold wp; rw [c, Bool.and_false])]
          rfl
        · rw [bz_t, if_neg (by decide : ¬ (1 : Int32) = 0), nm_eq, nm_eq, nI_1, nI_1, cn_y (by unfold wp; rw [c, decide_eq_true e]; rfl)]
          rfl
      · rw [if_neg (fun q => e ((nI_eq (lt31 hl) (lt31 hw)).mp q)), nm_eq, nm_eq, nI_1, z_0, nI_add, Nat.add_zero, cn_n (by unfold wp; rw [decide_eq_false e]; rfl)]
        rfl
  · show f_X9_worn_23s (nI j) (nI w) (nI (an F (wp F j w))) (nI (2 ^ fM F)) σM = _
    unfold f_X9_worn_23s
    rw [bind_ok (m_all hF hM), if_pos (nI_lt (by omega) (by omega))]
/-- promise 24: worn -/
theorem q_worn (hF : OKF F) (hX : FX 12 F σX) (hM : FM 0 F σM) (v w : Int32) : ∃ r zX, f_X8_worn v w σX = some (r, zX) ∧ f_X9_worn v w σM = some r ∧ eqP zX σX := by
  have hn := hF.1.1
  have h10 := p10 hn.2
  unfold f_X8_worn f_X9_worn
  rw [bind_ok (x_isStone hX v), bind_ok (m_isStone hF.1 hM.1 v)]
  rcases inn_cases v (n := fN F) (by omega) with e | ⟨j, h1, rfl, e⟩
  · rw [e]; exact ⟨_, _, rfl, rfl, fun _ _ _ => rfl⟩
  rw [e, if_neg (by decide : ¬ (1 : Int32) = 0), if_neg (by decide : ¬ (1 : Int32) = 0), bind_ok (x_isSet hF hX w), bind_ok (m_isSet hF.1 hM.1 w)]
  rcases inn_cases w (n := 2 ^ fN F) (by omega) with e | ⟨k, hk, rfl, e⟩
  · rw [e]; exact ⟨_, _, rfl, rfl, fun _ _ _ => rfl⟩
  obtain ⟨zX, x1, x2, x3⟩ := x_reckon hF hX
  rw [e, if_neg (by decide : ¬ (1 : Int32) = 0), if_neg (by decide : ¬ (1 : Int32) = 0), bind_ok x1, bind_ok (x_wear hF (eqP_FX x2 hX) x3 (by omega) (by omega)), m_worn hF hM (by omega) (by omega)]
  exact ⟨_, zX, rfl, rfl, x2⟩
end
end
section
-- copies
theorem m_copy {r1 r2 : Nat} {σ : Sg} (h1 : r1 + 55 ≤ 660) (h2 : r2 + 55 ≤ 660) (hd : r1 + 55 ≤ r2 ∨ r2 + 55 ≤ r1) :
    ∃ z, f_X9_copy (nI r1) (nI r2) σ = some z ∧ ∀ a j, z.1 a j = if a = 1 ∧ r2 ≤ j ∧ j < r2 + 55 then σ.1 1 (r1 + (j - r2)) else σ.1 a j := by
  unfold f_X9_copy f_X9_copy_2
  refine itr_inv (fun (k : Nat) (z : Int32 × Sg) => z.1 = nI k ∧ ∀ a j, z.2.1 a j = if a = 1 ∧ r2 ≤ j ∧ j < r2 + k then σ.1 1 (r1 + (j - r2)) else σ.1 a j) _ 55 0 3000 _ (by decide) ⟨rfl, fun a j => by rw [if_neg (by omega)]⟩ ?_ ?_
  · rintro k ⟨z1, z⟩ - hk ⟨q1, q2⟩
    rw [Nat.zero_add] at hk
    have q1' : z1 = nI k := q1
    subst q1'
    have q2' : ∀ a j, z.1 a j = if a = 1 ∧ r2 ≤ j ∧ j < r2 + k then σ.1 1 (r1 + (j - r2)) else σ.1 a j := q2
    refine ⟨(nI (k + 1), up1 z 1 (r2 + k) (z.1 1 (r1 + k))), ?_, rfl, fun a j => ?_⟩
    · show f_X9_copy_2s (nI r1) (nI r2) (nI k) z = _
      unfold f_X9_copy_2s
      rw [if_neg (show ¬ (55 : Int32) ≤ nI k from nI_ge (a := k) (b := 55) hk (by decide)), m_wk r1 (by omega)]
      show ((ast z 1 660 (nI r2 + nI k) (z.1 1 (r1 + k))).bind _) = _
      rw [nI_add, bind_ok (ast_ok (by omega) (by decide)), nm_eq, nI_1]
    · show (up1 z 1 (r2 + k) (z.1 1 (r1 + k))).1 a j = _
      rw [up1_eq]
      by_cases c : a = 1 ∧ j = r2 + k
      · rw [if_pos c, if_pos ⟨c.1, by omega, by omega⟩, q2', if_neg (by omega), show r1 + (j - r2) = r1 + k by omega]
      · rw [if_neg c, q2']
        by_cases c2 : a = 1 ∧ r2 ≤ j ∧ j < r2 + k
        · rw [if_pos c2, if_pos ⟨c2.1, c2.2.1, by omega⟩]
        · rw [if_neg c2, if_neg (by omega)]
  · rintro ⟨z1, z⟩ ⟨q1, q2⟩
    rw [Nat.zero_add] at q1 q2
    have q1' : z1 = nI 55 := q1
    subst q1'
    refine ⟨z, ?_, q2⟩
    show f_X9_copy_2s (nI r1) (nI r2) (nI 55) z = _
    unfold f_X9_copy_2s
    rw [if_pos (by decide)]
/-- the floor at one place is the floor at another -/
theorem FM_move {r1 r2 : Nat} {F : Fl} {σ z : Sg} (h : ∀ i, i < 55 → z.1 1 (r2 + i) = σ.1 1 (r1 + i)) (hm : fM F ≤ 10) (g : FM r1 F σ) : FM r2 F z := by
  have h0 := h 0 (by decide)
  rw [Nat.add_zero, Nat.add_zero] at h0
  obtain ⟨⟨g1, g2, g3, g4, g5⟩, g6, g7⟩ := g
  refine ⟨⟨by rw [h0]; exact g1, by rw [h 4 (by decide)]; exact g2, by rw [h 1 (by decide)]; exact g3, fun t ht => ?_, fun s hs => ?_⟩, by rw [h 2 (by decide)]; exact g6, by rw [h 3 (by decide)]; exact g7⟩
  · obtain ⟨a1, a2, a3⟩ := g4 t ht
    rw [Nat.add_assoc, h (5 + t) (by omega), Nat.add_assoc, h (15 + t) (by omega), Nat.add_assoc, h (25 + t) (by omega)]
    rw [Nat.add_assoc] at a1 a2 a3
    exact ⟨a1, a2, a3⟩
  · obtain ⟨a1, a2⟩ := g5 s hs
    rw [Nat.add_assoc, h (45 + s) (by omega), Nat.add_assoc, h (35 + s) (by omega)]
    rw [Nat.add_assoc] at a1 a2
    exact ⟨a1, a2⟩
theorem FM_keep {r : Nat} {F : Fl} {σ z : Sg} (h : ∀ j, r ≤ j → j < r + 55 → z.1 1 j = σ.1 1 j) (hm : fM F ≤ 10) (g : FM r F σ) : FM r F z := FM_move (fun i hi => h _ (by omega) (by omega)) hm g
theorem x_copy {k1 k2 : Nat} {σ : Sg} (hk : k1 ≠ k2) : ∃ z, f_X8_copy k1 10 k2 10 σ = some z ∧ ∀ a j, z.1 a j = if a = k2 ∧ j < 10 then σ.1 k1 j else σ.1 a j := by
  unfold f_X8_copy f_X8_copy_2
  refine itr_inv (fun (k : Nat) (z : Int32 × Sg) => z.1 = nI k ∧ ∀ a j, z.2.1 a j = if a = k2 ∧ j < k then σ.1 k1 j else σ.1 a j) _ 10 0 3000 _ (by decide) ⟨rfl, fun a j => by rw [if_neg (by omega)]⟩ ?_ ?_
  · rintro k ⟨z1, z⟩ - hk' ⟨q1, q2⟩
    rw [Nat.zero_add] at hk'
    have q1' : z1 = nI k := q1
    subst q1'
    have q2' : ∀ a j, z.1 a j = if a = k2 ∧ j < k then σ.1 k1 j else σ.1 a j := q2
    refine ⟨(nI (k + 1), up1 z k2 k (z.1 k1 k)), ?_, rfl, fun a j => ?_⟩
    · show f_X8_copy_2s k1 10 k2 10 (nI k) z = _
      unfold f_X8_copy_2s
      rw [if_neg (nI_ge hk' (by decide)), if_neg (nI_ge hk' (by decide)), bind_ok (ald_ok hk' (by decide)), bind_ok (ast_ok hk' (by decide)), nm_eq, nI_1]
    · show (up1 z k2 k (z.1 k1 k)).1 a j = _
      rw [up1_eq]
      by_cases c : a = k2 ∧ j = k
      · rw [if_pos c, if_pos ⟨c.1, by omega⟩, q2', if_neg (fun q => hk q.1), c.2]
      · rw [if_neg c, q2']
        by_cases c2 : a = k2 ∧ j < k
        · rw [if_pos c2, if_pos ⟨c2.1, by omega⟩]
        · rw [if_neg c2, if_neg (by omega)]
  · rintro ⟨z1, z⟩ ⟨q1, q2⟩
    rw [Nat.zero_add] at q1 q2
    have q1' : z1 = nI 10 := q1
    subst q1'
    refine ⟨z, ?_, q2⟩
    show f_X8_copy_2s k1 10 k2 10 (nI 10) z = _
    unfold f_X8_copy_2s
    rw [if_pos (nI_le (Nat.le_refl _) (by decide))]
    rfl
/-- a floor copied -/
theorem x_copyFrom {b b2 : Nat} {F : Fl} {σ : Sg} (hd : b + 7 ≤ b2 ∨ b2 + 7 ≤ b) (hm : fM F ≤ 10) (g : FX b2 F σ) :
    ∃ z, f_X1_copyFrom b b2 σ = some z ∧ FX b F z ∧ ∀ a, a < b ∨ b + 6 < a → ∀ j, z.1 a j = σ.1 a j := by
  obtain ⟨z1, e1, p1⟩ := x_copy (k1 := b2 + 1) (k2 := b + 1) (σ := σ) (by omega)
  obtain ⟨z2, e2, p2⟩ := x_copy (k1 := b2 + 2) (k2 := b + 2) (σ := z1) (by omega)
  obtain ⟨z3, e3, p3⟩ := x_copy (k1 := b2 + 3) (k2 := b + 3) (σ := z2) (by omega)
  obtain ⟨z4, e4, p4⟩ := x_copy (k1 := b2 + 4) (k2 := b + 4) (σ := z3) (by omega)
  obtain ⟨z5, e5, p5⟩ := x_copy (k1 := b2 + 5) (k2 := b + 5) (σ := z4) (by omega)
  obtain ⟨z6, e6, p6⟩ := x_copy (k1 := b2 + 6) (k2 := b + 6) (σ := z5) (by omega)
  -- what the six rows are
  have rows : ∀ a j, z6.1 a j = if b + 1 ≤ a ∧ a ≤ b + 6 ∧ j < 10 then σ.1 (b2 + (a - b)) j else σ.1 a j := by
    intro a j
    have out : ∀ n, n ≤ 6 → ∀ j, (b + 7 ≤ b2 + n ∨ b2 + n < b + 1) → z6.1 (b2 + n) j = σ.1 (b2 + n) j ∧ z5.1 (b2 + n) j = σ.1 (b2 + n) j ∧ z4.1 (b2 + n) j = σ.1 (b2 + n) j ∧ z3.1 (b2 + n) j = σ.1 (b2 + n) j ∧ z2.1 (b2 + n) j = σ.1 (b2 + n) j ∧ z1.1 (b2 + n) j = σ.1 (b2 + n) j := by
      intro n hn j hh
      have s1 : z1.1 (b2 + n) j = σ.1 (b2 + n) j := by rw [p1, if_neg (by omega)]
      have s2 : z2.1 (b2 + n) j = σ.1 (b2 + n) j := by rw [p2, if_neg (by omega), s1]
      have s3 : z3.1 (b2 + n) j = σ.1 (b2 + n) j := by rw [p3, if_neg (by omega), s2]
      have s4 : z4.1 (b2 + n) j = σ.1 (b2 + n) j := by rw [p4, if_neg (by omega), s3]
      have s5 : z5.1 (b2 + n) j = σ.1 (b2 + n) j := by rw [p5, if_neg (by omega), s4]
      have s6 : z6.1 (b2 + n) j = σ.1 (b2 + n) j := by rw [p6, if_neg (by omega), s5]
      exact ⟨s6, s5, s4, s3, s2, s1⟩
    by_cases c : b + 1 ≤ a ∧ a ≤ b + 6 ∧ j < 10
    · rw [if_pos c]
      obtain ⟨c1, c2, c3⟩ := c
      rcases (show a = b + 1 ∨ a = b + 2 ∨ a = b + 3 ∨ a = b + 4 ∨ a = b + 5 ∨ a = b + 6 by omega) with rfl | rfl | rfl | rfl | rfl | rfl
      · rw [p6, if_neg (by omega), p5, if_neg (by omega), p4, if_neg (by omega), p3, if_neg (by omega), p2, if_neg (by omega), p1, if_pos ⟨rfl, c3⟩, show b + 1 - b = 1 by omega]
      · rw [p6, if_neg (by omega), p5, if_neg (by omega), p4, if_neg (by omega), p3, if_neg (by omega), p2, if_pos ⟨rfl, c3⟩, (out 2 (by decide) j (by omega)).2.2.2.2.2, show b + 2 - b = 2 by omega]
      · rw [p6, if_neg (by omega), p5, if_neg (by omega), p4, if_neg (by omega), p3, if_pos ⟨rfl, c3⟩, (out 3 (by decide) j (by omega)).2.2.2.2.1, show b + 3 - b = 3 by omega]
      · rw [p6, if_neg (by omega), p5, if_neg (by omega), p4, if_pos ⟨rfl, c3⟩, (out 4 (by decide) j (by omega)).2.2.2.1, show b + 4 - b = 4 by omega]
      · rw [p6, if_neg (by omega), p5, if_pos ⟨rfl, c3⟩, (out 5 (by decide) j (by omega)).2.2.1, show b + 5 - b = 5 by omega]
      · rw [p6, if_pos ⟨rfl, c3⟩, (out 6 (by decide) j (by omega)).2.1, show b + 6 - b = 6 by omega]
    · rw [if_neg c, p6, if_neg (by omega), p5, if_neg (by omega), p4, if_neg (by omega), p3, if_neg (by omega), p2, if_neg (by omega), p1, if_neg (by omega)]
  unfold f_X1_copyFrom
  rw [bind_ok e1, bind_ok e2, bind_ok e3, bind_ok e4, bind_ok e5, bind_ok e6, bind_ok (pfi_eq _ _ _ _), bind_ok (pfi_eq _ _ _ _), bind_ok (pfi_eq _ _ _ _), bind_ok (pfi_eq _ _ _ _), bind_ok (pfi_eq _ _ _ _)]
  refine ⟨_, rfl, ?_, fun a ha j => ?_⟩
  · have fin : ∀ a j, (up1 (up1 (up1 (up1 (up1 z6 b 6 (z6.1 b2 6)) b 7 ((up1 z6 b 6 (z6.1 b2 6)).1 b2 7)) b 8 ((up1 (up1 z6 b 6 (z6.1 b2 6)) b 7 ((up1 z6 b 6 (z6.1 b2 6)).1 b2 7)).1 b2 8)) b 9 ((up1 (up1 (up1 z6 b 6 (z6.1 b2 6)) b 7 ((up1 z6 b 6 (z6.1 b2 6)).1 b2 7)) b 8 ((up1 (up1 z6 b 6 (z6.1 b2 6)) b 7 ((up1 z6 b 6 (z6.1 b2 6)).1 b2 7)).1 b2 8)).1 b2 9)) b 10 ((up1 (up1 (up1 (up1 z6 b 6 (z6.1 b2 6)) b 7 ((up1 z6 b 6 (z6.1 b2 6)).1 b2 7)) b 8 ((up1 (up1 z6 b 6 (z6.1 b2 6)) b 7 ((up1 z6 b 6 (z6.1 b2 6)).1 b2 7)).1 b2 8)) b 9 ((up1 (up1 (up1 z6 b 6 (z6.1 b2 6)) b 7 ((up1 z6 b 6 (z6.1 b2 6)).1 b2 7)) b 8 ((up1 (up1 z6 b 6 (z6.1 b2 6)) b 7 ((up1 z6 b 6 (z6.1 b2 6)).1 b2 7)).1 b2 8)).1 b2 9)).1 b2 10)).1 a j = if a = b ∧ 6 ≤ j ∧ j ≤ 10 then σ.1 b2 j else if b + 1 ≤ a ∧ a ≤ b + 6 ∧ j < 10 then σ.1 (b2 + (a - b)) j else σ.1 a j := by
      intro a j
      have hb2 : ∀ j, z6.1 b2 j = σ.1 b2 j := fun j => by rw [rows, if_neg (by omega)]
      have hne : b2 ≠ b := by omega
      simp only [up1_eq, hne, false_and, if_false, hb2]
      by_cases c : a = b ∧ 6 ≤ j ∧ j ≤ 10
      · rw [if_pos c]
        rcases (show j = 6 ∨ j = 7 ∨ j = 8 ∨ j = 9 ∨ j = 10 by omega) with rfl | rfl | rfl | rfl | rfl <;> simp [c.1]
      · rw [if_neg c, if_neg (by omega), if_neg (by omega), if_neg (by omega), if_neg (by omega), if_neg (by omega), rows]
    have r : ∀ n, 1 ≤ n → n ≤ 6 → ∀ j, j < 10 → (if b + n = b ∧ 6 ≤ j ∧ j ≤ 10 then σ.1 b2 j else if b + 1 ≤ b + n ∧ b + n ≤ b + 6 ∧ j < 10 then σ.1 (b2 + (b + n - b)) j else σ.1 (b + n) j) = σ.1 (b2 + n) j := by
      intro n h1 h2 j hj
      rw [if_neg (by omega), if_pos (by omega), show b + n - b = n by omega]
    obtain ⟨⟨g1, g2, g3, g4, g5⟩, g6, g7⟩ := g
    refine ⟨⟨?_, ?_, ?_, fun t ht => ?_, fun s hs => ?_⟩, ?_, ?_⟩
    · rw [fin, if_pos (by omega)]; exact g1
    · rw [fin, if_pos (by omega)]; exact g2
    · rw [fin, if_pos (by omega)]; exact g3
    · obtain ⟨a1, a2, a3, a4⟩ := g4 t ht
      rw [fin (b + 1) t, fin (b + 2) t, fin (b + 3) t, fin (b + 4) t, r 1 (by omega) (by omega) t (by omega), r 2 (by omega) (by omega) t (by omega), r 3 (by omega) (by omega) t (by omega), r 4 (by omega) (by omega) t (by omega)]
      exact ⟨a1, a2, a3, a4⟩
    · obtain ⟨a1, a2⟩ := g5 s hs
      rw [fin (b + 5) s, fin (b + 6) s, r 5 (by omega) (by omega) s hs, r 6 (by omega) (by omega) s hs]
      exact ⟨a1, a2⟩
    · rw [fin, if_pos (by omega)]; exact g6
    · rw [fin, if_pos (by omega)]; exact g7
  · have hne : a ≠ b := by omega
    simp only [up1_eq, hne, false_and, if_false]
    rw [rows, if_neg (by omega)]
end
section
-- what both hold
def goF (F : Fl) (c : Nat) : Fl := ((fN F, fM F, fBg F, fTh F, fSt F ||| 2 ^ c), fA F, fB F, fC F, fG F, fun s => if s = c then fW F s + 1 else fW F s)
def outF (F : Fl) (v : Nat) : Fl := ((fN F, fM F, fBg F, dif (fTh F) (2 ^ v), dif (fSt F) (2 ^ v)), fA F, fB F, fC F, fG F, fW F)
def layF (F : Fl) (a b c : Nat) : Fl := ((fN F, fM F + 1, fBg F, fTh F, fSt F), (fun t => if t = fM F then a else fA F t), (fun t => if t = fM F then b else fB F t), (fun t => if t = fM F then c else fC F t), fG F, fW F)
/-- what was done, as the class minds it -/
def PO (k v : Int32) (F F' : Fl) : Prop :=
  (k = 0 ∧ ∃ c, c < 10 ∧ v = nI c ∧ (fSt F).testBit c = false ∧ F' = goF F c) ∨
  ((k = 1 ∨ k = 2) ∧ ∃ c, c < 10 ∧ v = nI c ∧ (fTh F).testBit c = true ∧ ((fSt F).testBit c = true ↔ k = 2) ∧ F' = outF F c) ∨
  (k = 3 ∧ ∃ a b c, fM F < 10 ∧ F' = layF F a b c)
def TEXT (σX σM : Sg) : Prop := ∃ len, len ≤ 300 ∧ σX.1 1 1 = nI len ∧ σM.1 0 4 = nI len ∧ ∀ j, j < len → ∃ v, v < 256 ∧ σX.1 2 j = nI v ∧ σM.1 2 j = nI v
def KEPT (σX σM : Sg) : Prop := ∃ kn, kn ≤ 2 ∧ σX.1 0 11 = nI kn ∧ σM.1 0 1 = nI kn ∧ ∀ i, i < kn → ∃ K, OKF K ∧ FX (19 + 7 * i) K σX ∧ FM (55 + 55 * i) K σM
def UNDO (F : Fl) (σX σM : Sg) : Prop := ∃ un, un ≤ 8 ∧ σX.1 33 2 = nI un ∧ σM.1 0 2 = nI un ∧ ∃ G : Nat → Fl, G un = F ∧ ∀ i, i < un → OKF (G i) ∧ FM (165 + 55 * i) (G i) σM ∧ PO (σX.1 34 i) (σX.1 35 i) (G i) (G (i + 1))
def SimF (F : Fl) (σX σM : Sg) : Prop := OKF F ∧ FX 12 F σX ∧ FM 0 F σM ∧ TEXT σX σM ∧ TOLD F σX σM ∧ KEPT σX σM ∧ UNDO F σX σM
def Sim (σX σM : Sg) : Prop := ∃ F, SimF F σX σM
-- what stays
theorem FX_pt {b : Nat} {F : Fl} {σ z : Sg} (h : ∀ a j, b ≤ a → a ≤ b + 6 → z.1 a j = σ.1 a j) (g : FX b F σ) : FX b F z := FX_same (fun k h1 h2 => funext (fun j => h k j h1 h2)) g
section
variable {F : Fl} {σX σM zX zM : Sg}
theorem TEXT_k (h1 : zX.1 1 1 = σX.1 1 1) (h2 : ∀ j, zX.1 2 j = σX.1 2 j) (h3 : zM.1 0 4 = σM.1 0 4) (h4 : ∀ j, zM.1 2 j = σM.1 2 j) (g : TEXT σX σM) : TEXT zX zM := by
  obtain ⟨len, g1, g2, g3, g4⟩ := g
  refine ⟨len, g1, by rw [h1]; exact g2, by rw [h3]; exact g3, fun j hj => ?_⟩
  rw [h2, h4]
  exact g4 j hj
theorem TOLD_k (h1 : zX.1 0 10 = σX.1 0 10) (h2 : ∀ j, zX.1 41 j = σX.1 41 j) (h3 : zM.1 0 6 = σM.1 0 6) (h4 : ∀ j, zM.1 3 j = σM.1 3 j) (g : TOLD F σX σM) : TOLD F zX zM := by
  obtain ⟨tn, g1, g2, g3, g4⟩ := g
  refine ⟨tn, g1, by rw [h1]; exact g2, by rw [h3]; exact g3, fun j hj => ?_⟩
  rw [h2, h4]
  exact g4 j hj
theorem TOLD_0 (h1 : zX.1 0 10 = 0) (h3 : zM.1 0 6 = 0) : TOLD F zX zM := ⟨0, by decide, h1, h3, fun j hj => absurd hj (Nat.not_lt_zero _)⟩
theorem KEPT_k (h1 : zX.1 0 11 = σX.1 0 11) (h2 : ∀ a j, 19 ≤ a → a ≤ 32 → zX.1 a j = σX.1 a j) (h3 : zM.1 0 1 = σM.1 0 1) (h4 : ∀ j, 55 ≤ j → j < 165 → zM.1 1 j = σM.1 1 j) (g : KEPT σX σM) : KEPT zX zM := by
  obtain ⟨kn, g1, g2, g3, g4⟩ := g
  refine ⟨kn, g1, by rw [h1]; exact g2, by rw [h3]; exact g3, fun i hi => ?_⟩
  obtain ⟨K, k1, k2, k3⟩ := g4 i hi
  exact ⟨K, k1, FX_pt (fun a j p q => h2 a j (by omega) (by omega)) k2, FM_keep (fun j p q => h4 j (by omega) (by omega)) k1.m10 k3⟩
theorem UNDO_k (h1 : zX.1 33 2 = σX.1 33 2) (h2 : ∀ j, zX.1 34 j = σX.1 34 j) (h3 : ∀ j, zX.1 35 j = σX.1 35 j) (h4 : zM.1 0 2 = σM.1 0 2) (h5 : ∀ j, 165 ≤ j → j < 605 → zM.1 1 j = σM.1 1 j) (g : UNDO F σX σM) : UNDO F zX zM := by
  obtain ⟨un, g1, g2, g3, G, g4, g5⟩ := g
  refine ⟨un, g1, by rw [h1]; exact g2, by rw [h4]; exact g3, G, g4, fun i hi => ?_⟩
  obtain ⟨k1, k2, k3⟩ := g5 i hi
  rw [h2, h3]
  exact ⟨k1, FM_keep (fun j p q => h5 j (by omega) (by omega)) k1.m10 k2, k3⟩
theorem UNDO_0 (h1 : zX.1 33 2 = 0) (h2 : zM.1 0 2 = 0) : UNDO F zX zM := ⟨0, by decide, h1, h2, fun _ => F, rfl, fun i hi => absurd hi (Nat.not_lt_zero _)⟩
def liveX (zX σX : Sg) : Prop := ∀ a j, (a ≤ 2 ∨ (12 ≤ a ∧ a ≤ 35) ∨ a = 41) → zX.1 a j = σX.1 a j
def liveM (zM σM : Sg) : Prop := ∀ a j, ((a = 0 ∧ (j = 1 ∨ j = 2 ∨ j = 4 ∨ j = 6)) ∨ (a = 1 ∧ j < 605) ∨ a = 2 ∨ a = 3) → zM.1 a j = σM.1 a j
theorem Sim_k (hX : liveX zX σX) (hM : liveM zM σM) (h : SimF F σX σM) : SimF F zX zM := by
  obtain ⟨g1, g2, g3, g4, g5, g6, g7⟩ := h
  refine ⟨g1, FX_pt (fun a j p q => hX a j (by omega)) g2, FM_keep (fun j p q => hM 1 j (by omega)) g1.m10 g3, TEXT_k (hX 1 1 (by omega)) (fun j => hX 2 j (by omega)) (hM 0 4 (by omega)) (fun j => hM 2 j (by omega)) g4, TOLD_k (hX 0 10 (by omega)) (fun j => hX 41 j (by omega)) (hM 0 6 (by omega)) (fun j => hM 3 j (by omega)) g5, KEPT_k (hX 0 11 (by omega)) (fun a j p q => hX a j (by omega)) (hM 0 1 (by omega)) (fun j p q => hM 1 j (by omega)) g6, UNDO_k (hX 33 2 (by omega)) (fun j => hX 34 j (by omega)) (fun j => hX 35 j (by omega)) (hM 0 2 (by omega)) (fun j p q => hM 1 j (by omega)) g7⟩
theorem liveX_r (σ : Sg) : liveX σ σ := fun _ _ _ => rfl
theorem liveM_r (σ : Sg) : liveM σ σ := fun _ _ _ => rfl
end
-- the queries, with Sim
theorem s_4 : simC4 Sim := fun σX σM ⟨F, h⟩ v w => by
  obtain ⟨r, e1, e2⟩ := q_stone h.1 h.2.1 h.2.2.1 v w
  exact ⟨r, e1, e2, F, h⟩
theorem s_5 : simC5 Sim := fun σX σM ⟨F, h⟩ v w => by
  obtain ⟨r, e1, e2⟩ := q_step h.1 h.2.1 h.2.2.1 v w
  exact ⟨r, e1, e2, F, h⟩
theorem s_10 : simC10 Sim := fun σX σM ⟨F, h⟩ v => by
  obtain ⟨r, e1, e2⟩ := q_reach h.1 h.2.1 h.2.2.1 v
  exact ⟨r, e1, e2, F, h⟩
theorem s_11 : simC11 Sim := fun σX σM ⟨F, h⟩ v w => by
  obtain ⟨r, zX, zM, e1, e2, e3, e4⟩ := q_walk h.1 h.2.1 h.2.2.1 v w
  exact ⟨r, zX, zM, e1, e2, F, Sim_k (fun a j q => by rw [e3 a (by omega) (by omega)]) (fun a j q => by rw [e4 a (by omega)]) h⟩
theorem s_12 : simC12 Sim := fun σX σM ⟨F, h⟩ v => by
  obtain ⟨r, e1, e2⟩ := q_round h.1 h.2.1 h.2.2.1 v
  exact ⟨r, e1, e2, F, h⟩
theorem s_13 : simC13 Sim := fun σX σM ⟨F, h⟩ v w => by
  obtain ⟨r, e1, e2⟩ := q_needs h.1 h.2.1 h.2.2.1 v w
  exact ⟨r, e1, e2, F, h⟩
theorem s_14 : simC14 Sim := fun σX σM ⟨F, h⟩ v => by
  obtain ⟨r, e1, e2⟩ := q_lost h.1 h.2.1 h.2.2.1 v
  exact ⟨r, e1, e2, F, h⟩
theorem s_15 : simC15 Sim := fun σX σM ⟨F, h⟩ v => by
  obtain ⟨r, e1, e2⟩ := q_begin h.1 h.2.1 h.2.2.1 v
  exact ⟨r, e1, e2, F, h⟩
theorem s_16 : simC16 Sim := fun σX σM ⟨F, h⟩ v => by
  obtain ⟨r, e1, e2⟩ := q_hall h.1 h.2.1 h.2.2.1 v
  exact ⟨r, e1, e2, F, h⟩
theorem s_17 : simC17 Sim := fun σX σM ⟨F, h⟩ => by
  obtain ⟨r, e1, e2⟩ := q_rope h.1 h.2.1 h.2.2.1
  exact ⟨r, e1, e2, F, h⟩
theorem s_18 : simC18 Sim := fun σX σM ⟨F, h⟩ => by
  obtain ⟨r, e1, e2⟩ := q_idle h.1 h.2.1 h.2.2.1
  exact ⟨r, e1, e2, F, h⟩
theorem s_19 : simC19 Sim := fun σX σM ⟨F, h⟩ => by
  obtain ⟨r, e1, e2⟩ := q_circle h.1 h.2.1 h.2.2.1
  exact ⟨r, e1, e2, F, h⟩
theorem s_20 : simC20 Sim := fun σX σM ⟨F, h⟩ => by
  obtain ⟨r, zM, e1, e2, e3⟩ := q_deep h.1 h.2.1 h.2.2.1
  exact ⟨r, zM, e1, e2, F, Sim_k (liveX_r _) (fun a j q => by rw [e3 a (by omega)]) h⟩
theorem s_21 : simC21 Sim := fun σX σM ⟨F, h⟩ v w => by
  obtain ⟨r, zX, e1, e2, e3⟩ := q_proofs h.1 h.2.1 h.2.2.1 v w
  exact ⟨r, zX, e1, e2, F, Sim_k (fun a j q => by rw [e3 a (by omega) (by omega)]) (liveM_r _) h⟩
theorem s_22 : simC22 Sim := fun σX σM ⟨F, h⟩ v w => by
  obtain ⟨r, zX, e1, e2, e3⟩ := q_worn h.1 h.2.1 h.2.2.1 v w
  exact ⟨r, zX, e1, e2, F, Sim_k (fun a j q => by rw [e3 a (by omega) (by omega)]) (liveM_r _) h⟩
theorem s_25 : simC25 Sim := fun σX σM ⟨F, h⟩ => by
  obtain ⟨r, e1, e2⟩ := q_judge h.1 h.2.1 h.2.2.1 h.2.2.2.2.1
  exact ⟨r, e1, e2, F, h⟩
theorem s_26 : simC26 Sim := fun σX σM ⟨F, h⟩ u v w => by
  obtain ⟨r, e1, e2⟩ := q_year h.1 h.2.1 h.2.2.1 u v w
  exact ⟨r, e1, e2, F, h⟩
/-- promise 29: count -/
theorem s_29 : simC29 Sim := fun σX σM ⟨F, h⟩ v => by
  suffices q : ∃ r, f_X8_count v σX = some r ∧ f_X9_count v σM = some r by
    obtain ⟨r, e1, e2⟩ := q
    exact ⟨r, e1, e2, F, h⟩
  obtain ⟨hF, hX, hM, ⟨len, l1, l2, l3, -⟩, ⟨tn, t1, t2, t3, -⟩, ⟨kn, k1, k2, k3, -⟩, ⟨un, u1, u2, u3, -⟩⟩ := h
  unfold f_X8_count f_X9_count f_X2_size f_X6_size
  by_cases c0 : v = 0
  · rw [if_pos c0, if_pos c0, bind_ok (x_stones hX), bind_ok (m_w0 hM)]; exact ⟨_, rfl, rfl⟩
  rw [if_neg c0, if_neg c0]
  by_cases c1 : v = 1
  · rw [if_pos c1, if_pos c1, bind_ok (x_steps hX), bind_ok (m_w4 hM)]; exact ⟨_, rfl, rfl⟩
  rw [if_neg c1, if_neg c1]
  by_cases c2 : v = 2
  · rw [if_pos c2, if_pos c2, bind_ok (x_there hX), bind_ok (x_bc _ hF.th), bind_ok (m_w2 hM), bind_ok (m_ones hF.th)]; exact ⟨_, rfl, rfl⟩
  rw [if_neg c2, if_neg c2]
  by_cases c3 : v = 3
  · rw [if_pos c3, if_pos c3, bind_ok (x_stood hX), bind_ok (x_bc _ hF.st), bind_ok (m_w3 hM), bind_ok (m_ones hF.st)]; exact ⟨_, rfl, rfl⟩
  rw [if_neg c3, if_neg c3]
  by_cases c4 : v = 4
  · rw [if_pos c4, if_pos c4, t2, t3]; exact ⟨_, rfl, rfl⟩
  rw [if_neg c4, if_neg c4]
  by_cases c5 : v = 5
  · rw [if_pos c5, if_pos c5, u2, u3]; exact ⟨_, rfl, rfl⟩
  rw [if_neg c5, if_neg c5]
  by_cases c6 : v = 6
  · rw [if_pos c6, if_pos c6, k2, k3]; exact ⟨_, rfl, rfl⟩
  rw [if_neg c6, if_neg c6]
  by_cases c7 : v = 7
  · rw [if_pos c7, if_pos c7, l2, l3]; exact ⟨_, rfl, rfl⟩
  rw [if_neg c7, if_neg c7]
  exact ⟨_, rfl, rfl⟩
end
section
-- small writing calls
def dn (k : Nat) : Int32 := if k = 0 then -1 else nI (k - 1)
theorem dn_s (k : Nat) : dn (k + 1) = nI k := rfl
theorem dn_m (k : Nat) : nI k + (-1) = dn k := by
  cases k with
  | zero => decide
  | succ k => exact pk_m1 _
theorem nI_all (x : Int32) : ∃ n, x = nI n := ⟨x.toBitVec.toNat, Int32.toBitVec_inj.1 (by show x.toBitVec = BitVec.ofNat 32 x.toBitVec.toNat; rw [BitVec.ofNat_toNat, BitVec.setWidth_eq])⟩
theorem byte_ok (x : Int64) : ∃ v, v < 256 ∧ x.toInt32 &&& 255 = nI v ∧ (x &&& 255).toInt32 = nI v := by
  obtain ⟨n, hn⟩ := nI_all x.toInt32
  refine ⟨n &&& 255, Nat.and_lt_two_pow (n := 8) _ (by decide), ?_, ?_⟩
  · rw [hn, z_lit 255, z_and]
  · rw [Int64.toInt32_and, hn, show (255 : Int64).toInt32 = nI 255 by decide, z_and]
theorem z_in8 (v : Int32) : f_X9_in v.toInt64 1 8 = some (if v < 1 ∨ 8 < v then 0 else 1) := by
  unfold f_X9_in
  have e1 : lg_cmp v.toInt64 1 < 0 ↔ v < 1 := by rw [lgc_lt, show (1 : Int64) = (1 : Int32).toInt64 by decide, fa_wide_lt]
  have e2 : (0 : Int32) < lg_cmp v.toInt64 8 ↔ 8 < v := by rw [lgc_gt, show (8 : Int64) = (8 : Int32).toInt64 by decide, fa_wide_lt]
  by_cases c1 : v < 1
  · rw [if_pos (e1.mpr c1), if_pos (Or.inl c1)]; rfl
  · rw [if_neg (fun q => c1 (e1.mp q))]
    by_cases c2 : 8 < v
    · rw [if_pos (e2.mpr c2), if_pos (Or.inr c2)]; rfl
    · rw [if_neg (fun q => c2 (e2.mp q)), if_neg (by rintro (q | q) <;> contradiction)]; rfl
section
variable {F : Fl} {σX σM zX zM : Sg}
def TXT (len : Nat) (σX σM : Sg) : Prop := σX.1 1 1 = nI len ∧ σM.1 0 4 = nI len ∧ ∀ j, j < len → ∃ v, v < 256 ∧ σX.1 2 j = nI v ∧ σM.1 2 j = nI v
theorem write_both (w : Int64) : ∀ k len N (zX zM : Sg), k < N → len + k ≤ 300 → TXT len zX zM →
    ∃ yX yM, itr N (fun s => f_X8_write_36s w s.1 s.2) (dn k, zX) = some (nI (len + k), yX) ∧ itr N (fun s => f_X9_write_34s w s.1 s.2) (dn k, zM) = some (nI (len + k), yM) ∧ TXT (len + k) yX yM ∧ (∀ a j, ¬ (a = 1 ∧ j = 1) → a ≠ 2 → yX.1 a j = zX.1 a j) ∧ ∀ a j, ¬ (a = 0 ∧ j = 4) → a ≠ 2 → yM.1 a j = zM.1 a j := by
  intro k
  induction k with
  | zero =>
    intro len N zX zM hN hl ht
    obtain ⟨N, rfl⟩ : ∃ M, N = M + 1 := ⟨N - 1, by omega⟩
    refine ⟨zX, zM, itr_out ?_, itr_out ?_, ht, fun _ _ _ _ => rfl, fun _ _ _ _ => rfl⟩
    · show f_X8_write_36s w (-1) zX = _
      unfold f_X8_write_36s f_X6_size
      rw [if_pos (by decide : (-1 : Int32) < 0), ht.1]
      rfl
    · show f_X9_write_34s w (-1) zM = _
      unfold f_X9_write_34s
      rw [if_pos (by decide : (-1 : Int32) < 0), ht.2.1]
      rfl
  | succ k ih =>
    intro len N zX zM hN hl ht
    obtain ⟨N, rfl⟩ : ∃ M, N = M + 1 := ⟨N - 1, by omega⟩
    obtain ⟨v, v1, v2, v3⟩ := byte_ok (w >>> ((((8 : Int32) * nI k) : Int32).toInt64 &&& 63))
    have eX : f_X8_write_36s w (nI k) zX = some (.inl (dn k, up1 (up1 zX 2 len (nI v)) 1 1 (nI (len + 1)))) := by
      unfold f_X8_write_36s f_X6_addByte
      rw [if_neg (nI_pos (by omega)), v2, ht.1, if_neg (show ¬ (300 : Int32) ≤ nI len from nI_ge (a := len) (b := 300) (by omega) (by decide)), bind_ok (x_put (by omega) (by decide)), bind_ok (pfi_eq _ _ _ _), up1_eq, if_neg (by rintro ⟨q, -⟩; cases q), ht.1, nI_1]
      show ((some _).bind _) = _
      rw [← dn_m k]
      rfl
    have eM : f_X9_write_34s w (nI k) zM = some (.inl (dn k, up1 (up1 zM 2 len (nI v)) 0 4 (nI (len + 1)))) := by
      unfold f_X9_write_34s
      rw [if_neg (nI_pos (by omega)), v3, ht.2.1, bind_ok (ast_ok (by omega) (by decide)), bind_ok (pfi_eq _ _ _ _), up1_eq, if_neg (by rintro ⟨q, -⟩; cases q), ht.2.1, nI_1, nm_eq, dn_m]
    obtain ⟨yX, yM, y1, y2, y3, y4, y5⟩ := ih (len + 1) N (up1 (up1 zX 2 len (nI v)) 1 1 (nI (len + 1))) (up1 (up1 zM 2 len (nI v)) 0 4 (nI (len + 1))) (by omega) (by omega) (by
      refine ⟨by rw [up1_eq, if_pos ⟨rfl, rfl⟩], by rw [up1_eq, if_pos ⟨rfl, rfl⟩], fun j hj => ?_⟩
      have ex : (up1 (up1 zX 2 len (nI v)) 1 1 (nI (len + 1))).1 2 j = if j = len then nI v else zX.1 2 j := by
        rw [up1_eq, if_neg (by omega), up1_eq]; simp
      have em : (up1 (up1 zM 2 len (nI v)) 0 4 (nI (len + 1))).1 2 j = if j = len then nI v else zM.1 2 j := by
        rw [up1_eq, if_neg (by omega), up1_eq]; simp
      rw [ex, em]
      by_cases e : j = len
      · rw [if_pos e, if_pos e]; exact ⟨v, v1, rfl, rfl⟩
      · rw [if_neg e, if_neg e]; exact ht.2.2 j (by omega))
    rw [show len + 1 + k = len + (k + 1) by omega] at y1 y2 y3
    refine ⟨yX, yM, ?_, ?_, y3, fun a j h1 h2 => ?_, fun a j h1 h2 => ?_⟩
    · rw [dn_s, itr_in eX]; exact y1
    · rw [dn_s, itr_in eM]; exact y2
    · rw [y4 a j h1 h2, up1_eq, if_neg h1, up1_eq, if_neg (fun q => h2 q.1)]
    · rw [y5 a j h1 h2, up1_eq, if_neg h1, up1_eq, if_neg (fun q => h2 q.1)]
/-- promise 4: write -/
theorem s_0 : simC0 Sim := fun σX σM ⟨F, h⟩ v w => by
  unfold f_X8_write f_X9_write f_X6_size
  rw [bind_ok (z_in8 v)]
  by_cases c1 : v < 1
  · rw [if_pos c1, if_pos (Or.inl c1), if_pos rfl]; exact ⟨_, _, _, rfl, rfl, F, h⟩
  rw [if_neg c1]
  by_cases c2 : v ≤ 8
  case neg =>
    rw [if_neg c2, if_pos (Or.inr (Int32.not_le.mp c2)), if_pos rfl]; exact ⟨_, _, _, rfl, rfl, F, h⟩
  rw [if_pos c2, if_neg (show ¬ (v < 1 ∨ (8 : Int32) < v) from fun q => q.elim c1 (fun q => Int32.not_lt.mpr c2 q)), if_neg (by decide : ¬ (1 : Int32) = 0)]
  obtain ⟨k, hk, rfl⟩ : ∃ k, k < 8 ∧ v = nI (k + 1) := by
    rcases pk_ix v (n := 9) (by decide) with q | q | ⟨j, q1, q2⟩
    · exact absurd (by rw [fa_lt] at q ⊢; exact Int.lt_trans q (by decide)) c1
    · exact absurd c2 (Int32.not_le.mpr ((gt_of (n := 8) (by decide)).mp q))
    · cases j with
      | zero => exact absurd (by rw [q2]; decide) c1
      | succ j => exact ⟨j, by omega, q2⟩
  obtain ⟨hF, hX, hM, ⟨len, l1, l2, l3, l4⟩, h5, h6, h7⟩ := h
  show ∃ r σX2 σM2, (if (σX.1 1 1) + nI (k + 1) ≤ 300 then _ else _) = some (r, σX2) ∧ _
  rw [l2, l3, nI_add]
  by_cases c3 : len + (k + 1) ≤ 300
  · obtain ⟨yX, yM, y1, y2, y3, y4, y5⟩ := write_both w (k + 1) len 3000 σX σM (by omega) c3 ⟨l2, l3, l4⟩
    have ed : nI (k + 1) - 1 = dn (k + 1) := pk_sub (b := 1) (by omega)
    refine ⟨nI (len + (k + 1)), yX, yM, ?_, ?_, F, hF, FX_pt (fun a j p q => y4 a j (by omega) (by omega)) hX, FM_keep (fun j p q => y5 1 j (by omega) (by omega)) hF.m10 hM, ⟨len + (k + 1), c3, y3⟩, TOLD_k (y4 0 10 (by omega) (by omega)) (fun j => y4 41 j (by omega) (by omega)) (y5 0 6 (by omega) (by omega)) (fun j => y5 3 j (by omega) (by omega)) h5, KEPT_k (y4 0 11 (by omega) (by omega)) (fun a j p q => y4 a j (by omega) (by omega)) (y5 0 1 (by omega) (by omega)) (fun j p q => y5 1 j (by omega) (by omega)) h6, UNDO_k (y4 33 2 (by omega) (by omega)) (fun j => y4 34 j (by omega) (by omega)) (fun j => y4 35 j (by omega) (by omega)) (y5 0 2 (by omega) (by omega)) (fun j p q => y5 1 j (by omega) (by omega)) h7⟩
    · rw [if_pos (show nI (len + (k + 1)) ≤ (300 : Int32) from nI_le (b := 300) c3 (by decide)), nm_eq, ed]
      exact y1
    · rw [if_pos (show nI (len + (k + 1)) ≤ (300 : Int32) from nI_le (b := 300) c3 (by decide)), nm_eq, ed]
      exact y2
  · have c4 : ¬ nI (len + (k + 1)) ≤ (300 : Int32) := nI_ge (a := 300) (by omega) (by omega)
    rw [if_neg c4, if_neg c4]
    exact ⟨-3, σX, σM, rfl, rfl, F, hF, hX, hM, ⟨len, l1, l2, l3, l4⟩, h5, h6, h7⟩
/-- promise 4: wipe -/
theorem s_1 : simC1 Sim := fun σX σM ⟨F, h⟩ => by
  obtain ⟨hF, hX, hM, ⟨len, l1, l2, l3, l4⟩, h5, h6, h7⟩ := h
  unfold f_X8_wipe f_X9_wipe f_X6_size f_X6_clear
  refine ⟨nI len, up1 σX 1 1 0, up1 σM 0 4 0, ?_, ?_, F, hF, FX_pt (fun a j p q => by rw [up1_eq, if_neg (by omega)]) hX, FM_keep (fun j p q => by rw [up1_eq, if_neg (by omega)]) hF.m10 hM, ⟨0, by decide, by rw [up1_eq, if_pos ⟨rfl, rfl⟩]; rfl, by rw [up1_eq, if_pos ⟨rfl, rfl⟩]; rfl, fun j hj => absurd hj (Nat.not_lt_zero _)⟩, TOLD_k (by rw [up1_eq, if_neg (by omega)]) (fun j => by rw [up1_eq, if_neg (by omega)]) (by rw [up1_eq, if_neg (by omega)]) (fun j => by rw [up1_eq, if_neg (by omega)]) h5, KEPT_k (by rw [up1_eq, if_neg (by omega)]) (fun a j p q => by rw [up1_eq, if_neg (by omega)]) (by rw [up1_eq, if_neg (by omega)]) (fun j p q => by rw [up1_eq, if_neg (by omega)]) h6, UNDO_k (by rw [up1_eq, if_neg (by omega)]) (fun j => by rw [up1_eq, if_neg (by omega)]) (fun j => by rw [up1_eq, if_neg (by omega)]) (by rw [up1_eq, if_neg (by omega)]) (fun j p q => by rw [up1_eq, if_neg (by omega)]) h7⟩
  · rw [l2]; rfl
  · rw [nm_eq, l3]; rfl
/-- promise 26: noRow -/
theorem s_24 : simC24 Sim := fun σX σM ⟨F, h⟩ => by
  obtain ⟨hF, hX, hM, h4, ⟨tn, t1, t2, t3, t4⟩, h6, h7⟩ := h
  unfold f_X8_noRow f_X9_noRow
  refine ⟨nI tn, up1 σX 0 10 0, up1 σM 0 6 0, ?_, ?_, F, hF, FX_pt (fun a j p q => by rw [up1_eq, if_neg (by omega)]) hX, FM_keep (fun j p q => by rw [up1_eq, if_neg (by omega)]) hF.m10 hM, TEXT_k (by rw [up1_eq, if_neg (by omega)]) (fun j => by rw [up1_eq, if_neg (by omega)]) (by rw [up1_eq, if_neg (by omega)]) (fun j => by rw [up1_eq, if_neg (by omega)]) h4, TOLD_0 (by rw [up1_eq, if_pos ⟨rfl, rfl⟩]) (by rw [up1_eq, if_pos ⟨rfl, rfl⟩]), KEPT_k (by rw [up1_eq, if_neg (by omega)]) (fun a j p q => by rw [up1_eq, if_neg (by omega)]) (by rw [up1_eq, if_neg (by omega)]) (fun j p q => by rw [up1_eq, if_neg (by omega)]) h6, UNDO_k (by rw [up1_eq, if_neg (by omega)]) (fun j => by rw [up1_eq, if_neg (by omega)]) (fun j => by rw [up1_eq, if_neg (by omega)]) (by rw [up1_eq, if_neg (by omega)]) (fun j p q => by rw [up1_eq, if_neg (by omega)]) h7⟩
  · rw [nm_eq, t2]; rfl
  · rw [nm_eq, t3]; rfl
/-- promise 25: tell -/
theorem s_23 : simC23 Sim := fun σX σM ⟨F, h⟩ v => by
  obtain ⟨hF, hX, hM, h4, ⟨tn, t1, t2, t3, t4⟩, h6, h7⟩ := h
  have hm := hF.m10
  have hb : SimF F σX σM := ⟨hF, hX, hM, h4, ⟨tn, t1, t2, t3, t4⟩, h6, h7⟩
  unfold f_X8_tell f_X9_tell
  rw [bind_ok (x_isStep hX v), bind_ok (m_isStep hF hM.1 v)]
  rcases inn_cases v (n := fM F) (by omega) with e | ⟨k, hk, rfl, e⟩
  · rw [e]; exact ⟨_, _, _, rfl, rfl, F, hb⟩
  rw [e, if_neg (by decide : ¬ (1 : Int32) = 0), if_neg (by decide : ¬ (1 : Int32) = 0), t2, t3]
  rcases Nat.lt_or_ge tn 12 with c | c
  case inr =>
    obtain rfl : tn = 12 := by omega
    rw [if_neg (show ¬ nI 12 < (12 : Int32) by decide), if_pos (show nI 12 = (12 : Int32) from rfl)]
    exact ⟨_, _, _, rfl, rfl, F, hb⟩
  rw [if_pos (show nI tn < (12 : Int32) from nI_lt (b := 12) c (by decide)), if_neg (show ¬ nI tn = (12 : Int32) from fun q => by have := (nI_eq (a := tn) (b := 12) (by omega) (by decide)).mp q; omega), bind_ok (x_put c (by decide)), bind_ok (ast_ok c (by decide)), bind_ok (pfi_eq _ _ _ _), bind_ok (pfi_eq _ _ _ _)]
  have x1 : (up1 σX 41 tn (nI k)).1 0 10 = nI tn := by rw [up1_eq, if_neg (by omega), t2]
  have y1 : (up1 σM 3 tn (nI k)).1 0 6 = nI tn := by rw [up1_eq, if_neg (by omega), t3]
  have x2 : (up1 (up1 σX 41 tn (nI k)) 0 10 (nI tn + 1)).1 0 10 = nI (tn + 1) := by rw [up1_eq, if_pos ⟨rfl, rfl⟩, nI_1]
  have y2 : (up1 (up1 σM 3 tn (nI k)) 0 6 (nI tn + 1)).1 0 6 = nI (tn + 1) := by rw [up1_eq, if_pos ⟨rfl, rfl⟩, nI_1]
  rw [x1, y1, x2, y2]
  refine ⟨_, _, _, rfl, rfl, F, hF, FX_pt (fun a j p q => by rw [up1_eq, if_neg (by omega), up1_eq, if_neg (by omega)]) hX, FM_keep (fun j p q => by rw [up1_eq, if_neg (by omega), up1_eq, if_neg (by omega)]) hF.m10 hM, TEXT_k (by rw [up1_eq, if_neg (by omega), up1_eq, if_neg (by omega)]) (fun j => by rw [up1_eq, if_neg (by omega), up1_eq, if_neg (by omega)]) (by rw [up1_eq, if_neg (by omega), up1_eq, if_neg (by omega)]) (fun j => by rw [up1_eq, if_neg (by omega), up1_eq, if_neg (by omega)]) h4, ⟨tn + 1, by omega, x2, y2, fun j hj => ?_⟩, KEPT_k (by rw [up1_eq, if_neg (by omega), up1_eq, if_neg (by omega)]) (fun a j p q => by rw [up1_eq, if_neg (by omega), up1_eq, if_neg (by omega)]) (by rw [up1_eq, if_neg (by omega), up1_eq, if_neg (by omega)]) (fun j p q => by rw [up1_eq, if_neg (by omega), up1_eq, if_neg (by omega)]) h6, UNDO_k (by rw [up1_eq, if_neg (by omega), up1_eq, if_neg (by omega)]) (fun j => by rw [up1_eq, if_neg (by omega), up1_eq, if_neg (by omega)]) (fun j => by rw [up1_eq, if_neg (by omega), up1_eq, if_neg (by omega)]) (by rw [up1_eq, if_neg (by omega), up1_eq, if_neg (by omega)]) (fun j p q => by rw [up1_eq, if_neg (by omega), up1_eq, if_neg (by omega)]) h7⟩
  have ex : (up1 (up1 σX 41 tn (nI k)) 0 10 (nI tn + 1)).1 41 j = if j = tn then nI k else σX.1 41 j := by
    rw [up1_eq, if_neg (by omega), up1_eq]; simp
  have em : (up1 (up1 σM 3 tn (nI k)) 0 6 (nI tn + 1)).1 3 j = if j = tn then nI k else σM.1 3 j := by
    rw [up1_eq, if_neg (by omega), up1_eq]; simp
  rw [ex, em]
  by_cases e2 : j = tn
  · rw [if_pos e2, if_pos e2]; exact ⟨k, hk, rfl, rfl⟩
  · rw [if_neg e2, if_neg e2]; exact t4 j (by omega)
end
end
section
section
variable {F : Fl} {σX σM zX zM : Sg}
theorem z_mul (a b : Nat) : nI a * nI b = nI (a * b) := by
  apply Int32.toBitVec_inj.1
  show BitVec.ofNat 32 a * BitVec.ofNat 32 b = BitVec.ofNat 32 (a * b)
  rw [BitVec.ofNat_mul]
theorem z_pl (p k : Nat) : nI p + (55 : Int32) * nI k = nI (p + 55 * k) := by rw [z_lit 55, z_mul, nI_add]
theorem x_keeper {k : Nat} (hk : k < 2) (σ : Sg) : f_X8_keeperOf (nI k) σ = some (19 + 7 * k) := by
  unfold f_X8_keeperOf
  rcases (show k = 0 ∨ k = 1 by omega) with rfl | rfl
  · rw [if_pos (show nI 0 = (0 : Int32) from rfl)]; rfl
  · rw [if_neg (show ¬ nI 1 = (0 : Int32) by decide)]; rfl
theorem gfl_ok {k : Nat} (hk : k < 2) : gfl (19 + 7 * k) = some () := by
  unfold gfl
  rw [if_pos (by unfold isFl; omega)]
/-- promise 27: keep -/
theorem s_27 : simC27 Sim := fun σX σM ⟨F, h⟩ => by
  have hb := h
  obtain ⟨hF, hX, hM, h4, h5, ⟨kn, k1, k2, k3, k4⟩, h7⟩ := h
  unfold f_X8_keep f_X9_keep
  rw [k2, k3]
  rcases Nat.lt_or_ge kn 2 with c | c
  case inr =>
    obtain rfl : kn = 2 := by omega
    rw [if_neg (show ¬ nI 2 < (2 : Int32) by decide), if_pos (show nI 2 = (2 : Int32) from rfl)]
    exact ⟨_, _, _, rfl, rfl, F, hb⟩
  obtain ⟨z, e1, e2, e3⟩ := x_copyFrom (b := 19 + 7 * kn) (b2 := 12) (F := F) (σ := σX) (by omega) hF.m10 hX
  obtain ⟨y, f1, f2⟩ := m_copy (r1 := 0) (r2 := 55 + 55 * kn) (σ := σM) (by omega) (by omega) (by omega)
  have mo : ∀ a j, ¬ (a = 1 ∧ 55 + 55 * kn ≤ j ∧ j < 55 + 55 * kn + 55) → y.1 a j = σM.1 a j := fun a j q => by rw [f2, if_neg q]
  rw [if_pos (show nI kn < (2 : Int32) from nI_lt (b := 2) c (by decide)), if_neg (show ¬ nI kn = (2 : Int32) from fun q => by have := (nI_eq (a := kn) (b := 2) (by omega) (by decide)).mp q; omega), bind_ok (x_keeper c σX), bind_ok (gfl_ok c), bind_ok e1, bind_ok (pfi_eq _ _ _ _), z_lit 55, z_mul, nI_add, z_0, bind_ok f1, bind_ok (pfi_eq _ _ _ _), e3 0 (by omega), k2, mo 0 1 (by omega), k3, nI_1]
  have x2 : (up1 z 0 11 (nI (kn + 1))).1 0 11 = nI (kn + 1) := by rw [up1_eq, if_pos ⟨rfl, rfl⟩]
  have y2 : (up1 y 0 1 (nI (kn + 1))).1 0 1 = nI (kn + 1) := by rw [up1_eq, if_pos ⟨rfl, rfl⟩]
  have ox : ∀ a j, a < 19 + 7 * kn ∨ 25 + 7 * kn < a → ¬ (a = 0 ∧ j = 11) → (up1 z 0 11 (nI (kn + 1))).1 a j = σX.1 a j := fun a j q r => by rw [up1_eq, if_neg r, e3 a (by omega)]
  have om : ∀ a j, ¬ (a = 1 ∧ 55 + 55 * kn ≤ j ∧ j < 55 + 55 * kn + 55) → ¬ (a = 0 ∧ j = 1) → (up1 y 0 1 (nI (kn + 1))).1 a j = σM.1 a j := fun a j q r => by rw [up1_eq, if_neg r, mo a j q]
  rw [x2, y2]
  refine ⟨_, _, _, rfl, rfl, F, hF, FX_pt (fun a j p q => ox a j (by omega) (by omega)) hX, FM_keep (fun j p q => om 1 j (by omega) (by omega)) hF.m10 hM, TEXT_k (ox 1 1 (by omega) (by omega)) (fun j => ox 2 j (by omega) (by omega)) (om 0 4 (by omega) (by omega)) (fun j => om 2 j (by omega) (by omega)) h4, TOLD_k (ox 0 10 (by omega) (by omega)) (fun j => ox 41 j (by omega) (by omega)) (om 0 6 (by omega) (by omega)) (fun j => om 3 j (by omega) (by omega)) h5, ⟨kn + 1, by omega, x2, y2, fun i hi => ?_⟩, UNDO_k (ox 33 2 (by omega) (by omega)) (fun j => ox 34 j (by omega) (by omega)) (fun j => ox 35 j (by omega) (by omega)) (om 0 2 (by omega) (by omega)) (fun j p q => om 1 j (by omega) (by omega)) h7⟩
  rcases Nat.lt_or_ge i kn with c2 | c2
  · obtain ⟨K, g1, g2, g3⟩ := k4 i c2
    exact ⟨K, g1, FX_pt (fun a j p q => ox a j (by omega) (by omega)) g2, FM_keep (fun j p q => om 1 j (by omega) (by omega)) g1.m10 g3⟩
  · obtain rfl : i = kn := by omega
    refine ⟨F, hF, FX_pt (fun a j p q => by rw [up1_eq, if_neg (by omega)]) e2, FM_move (r1 := 0) (fun j hj => ?_) hF.m10 hM⟩
    rw [up1_eq, if_neg (by omega), f2, if_pos ⟨rfl, by omega, by omega⟩]
    exact congrArg (σM.1 1) (by omega)
/-- promise 27: back -/
theorem s_28 : simC28 Sim := fun σX σM ⟨F, h⟩ => by
  have hb := h
  obtain ⟨hF, hX, hM, h4, h5, ⟨kn, k1, k2, k3, k4⟩, h7⟩ := h
  unfold f_X8_back f_X9_back
  rw [k2, k3]
  cases kn with
  | zero =>
    rw [if_pos z_e0, if_pos z_e0]
    exact ⟨_, _, _, rfl, rfl, F, hb⟩
  | succ k =>
    obtain ⟨K, g1, g2, g3⟩ := k4 k (by omega)
    have ed : nI (k + 1) - 1 = nI k := pk_sub (b := 1) (by omega)
    rw [if_neg (z_ne0 (by omega) (by omega)), if_neg (z_ne0 (by omega) (by omega)), ed, bind_ok (pfi_eq _ _ _ _), bind_ok (pfi_eq _ _ _ _)]
    have x1 : (up1 σX 0 11 (nI k)).1 0 11 = nI k := by rw [up1_eq, if_pos ⟨rfl, rfl⟩]
    have y1 : (up1 σM 0 1 (nI k)).1 0 1 = nI k := by rw [up1_eq, if_pos ⟨rfl, rfl⟩]
    have g2' : FX (19 + 7 * k) K (up1 σX 0 11 (nI k)) := FX_pt (fun a j p q => by rw [up1_eq, if_neg (by omega)]) g2
    obtain ⟨z, e1, e2, e3⟩ := x_copyFrom (b := 12) (b2 := 19 + 7 * k) (F := K) (σ := up1 σX 0 11 (nI k)) (by omega) g1.m10 g2'
    obtain ⟨y, f1, f2⟩ := m_copy (r1 := 55 + 55 * k) (r2 := 0) (σ := up1 σM 0 1 (nI k)) (by omega) (by omega) (by omega)
    rw [x1, y1, bind_ok (x_keeper (by omega) _), bind_ok (gfl_ok (by omega)), bind_ok e1, z_lit 55, z_mul, nI_add, z_0, bind_ok f1]
    unfold f_X8_forgetRowAndPast f_X2_clear
    have ox : ∀ a j, a < 12 ∨ 18 < a → ¬ (a = 0 ∧ j = 11) → ¬ (a = 0 ∧ j = 10) → ¬ (a = 33 ∧ j = 2) → (up1 (up1 z 0 10 0) 33 2 0).1 a j = σX.1 a j := fun a j q r1 r2 r3 => by rw [up1_eq, if_neg r3, up1_eq, if_neg r2, e3 a (by omega), up1_eq, if_neg r1]
    have om : ∀ a j, ¬ (a = 1 ∧ j < 55) → ¬ (a = 0 ∧ j = 1) → ¬ (a = 0 ∧ j = 6) → ¬ (a = 0 ∧ j = 2) → (up1 (up1 y 0 6 0) 0 2 0).1 a j = σM.1 a j := fun a j q r1 r2 r3 => by rw [up1_eq, if_neg r3, up1_eq, if_neg r2, f2, if_neg (by omega), up1_eq, if_neg r1]
    have x2 : (up1 (up1 z 0 10 0) 33 2 0).1 0 11 = nI k := by rw [up1_eq, if_neg (by omega), up1_eq, if_neg (by omega), e3 0 (by omega), x1]
    have y2 : (up1 (up1 y 0 6 0) 0 2 0).1 0 1 = nI k := by rw [up1_eq, if_neg (by omega), up1_eq, if_neg (by omega), f2, if_neg (by omega), y1]
    refine ⟨nI k, up1 (up1 z 0 10 0) 33 2 0, up1 (up1 y 0 6 0) 0 2 0, ?_, ?_, K, g1, FX_pt (fun a j p q => by rw [up1_eq, if_neg (by omega), up1_eq, if_neg (by omega)]) e2, FM_move (r1 := 55 + 55 * k) (fun j hj => ?_) g1.m10 g3, TEXT_k (ox 1 1 (by omega) (by omega) (by omega) (by omega)) (fun j => ox 2 j (by omega) (by omega) (by omega) (by omega)) (om 0 4 (by omega) (by omega) (by omega) (by omega)) (fun j => om 2 j (by omega) (by omega) (by omega) (by omega)) h4, TOLD_0 (by rw [up1_eq, if_neg (by omega), up1_eq, if_pos ⟨rfl, rfl⟩]) (by rw [up1_eq, if_neg (by omega), up1_eq, if_pos ⟨rfl, rfl⟩]), ⟨k, by omega, x2, y2, fun i hi => ?_⟩, UNDO_0 (by rw [up1_eq, if_pos ⟨rfl, rfl⟩]) (by rw [up1_eq, if_pos ⟨rfl, rfl⟩])⟩
    · show some ((up1 (up1 z 0 10 0) 33 2 0).1 0 11, up1 (up1 z 0 10 0) 33 2 0) = _
      rw [x2]
    · show some ((up1 (up1 y 0 6 0) 0 2 0).1 0 1, up1 (up1 y 0 6 0) 0 2 0) = _
      rw [y2]
    · rw [up1_eq, if_neg (by omega), up1_eq, if_neg (by omega), f2, if_pos ⟨rfl, by omega, by omega⟩, up1_eq, if_neg (by omega)]
      exact congrArg (σM.1 1) (by omega)
    · obtain ⟨K2, m1, m2, m3⟩ := k4 i (by omega)
      exact ⟨K2, m1, FX_pt (fun a j p q => ox a j (by omega) (by omega) (by omega) (by omega)) m2, FM_keep (fun j p q => om 1 j (by omega) (by omega) (by omega) (by omega)) m1.m10 m3⟩
end
end
section
-- what is minded
def dsh (un : Nat) : Nat := if un = 8 then 1 else 0
theorem dsh_8 : dsh 8 = 1 := rfl
theorem dsh_0 {un : Nat} (h : un < 8) : dsh un = 0 := if_neg (by omega)
def NX (un : Nat) (k v : Int32) (z y : Sg) : Prop := y.1 33 2 = nI (un - dsh un + 1) ∧ (∀ i, i < un - dsh un → y.1 34 i = z.1 34 (i + dsh un) ∧ y.1 35 i = z.1 35 (i + dsh un)) ∧ y.1 34 (un - dsh un) = k ∧ y.1 35 (un - dsh un) = v ∧ ∀ a j, ¬ (a = 33 ∧ j = 2) → a ≠ 34 → a ≠ 35 → y.1 a j = z.1 a j
def NM (un : Nat) (σ y : Sg) : Prop := y.1 0 2 = nI (un - dsh un + 1) ∧ (∀ i, i < un - dsh un → ∀ q, q < 55 → y.1 1 (165 + 55 * i + q) = σ.1 1 (165 + 55 * (i + dsh un) + q)) ∧ (∀ q, q < 55 → y.1 1 (165 + 55 * (un - dsh un) + q) = σ.1 1 q) ∧ ∀ a j, ¬ (a = 0 ∧ j = 2) → ¬ (a = 1 ∧ 165 ≤ j ∧ j < 605) → y.1 a j = σ.1 a j
theorem x_note13 {z : Sg} {n : Nat} (hn : n < 8) (h : z.1 33 2 = nI n) (k v : Int32) : f_X2_note_13 k v z = some (up1 (up1 (up1 z 34 n k) 35 n v) 33 2 (nI (n + 1))) := by
  have h2 : (up1 z 34 n k).1 33 2 = nI n := by rw [up1_eq, if_neg (by omega), h]
  have h3 : (up1 (up1 z 34 n k) 35 n v).1 33 2 = nI n := by rw [up1_eq, if_neg (by omega), h2]
  unfold f_X2_note_13
  rw [h, bind_ok (x_put hn (by decide)), h2, bind_ok (x_put hn (by decide)), h3, nI_1]
  rfl
theorem x_forget {z : Sg} (h : z.1 33 2 = nI 8) : ∃ y, f_X2_forgetOldest z = some y ∧ y.1 33 2 = nI 7 ∧ (∀ i, i < 7 → y.1 34 i = z.1 34 (i + 1) ∧ y.1 35 i = z.1 35 (i + 1)) ∧ ∀ a j, ¬ (a = 33 ∧ j = 2) → a ≠ 34 → a ≠ 35 → y.1 a j = z.1 a j := by
  unfold f_X2_forgetOldest f_X2_forgetOldest_2
  refine itr_inv (fun (i : Nat) (s : Int32 × Sg) => s.1 = nI i ∧ ∀ a j, s.2.1 a j = if (a = 34 ∨ a = 35) ∧ j + 1 < i then z.1 a (j + 1) else z.1 a j) _ 7 1 3000 _ (by decide) ⟨rfl, fun a j => by rw [if_neg (by omega)]⟩ ?_ ?_
  · rintro i ⟨s1, s⟩ hi1 hi2 ⟨q1, q2⟩
    have q1' : s1 = nI i := q1
    subst q1'
    have q2' : ∀ a j, s.1 a j = if (a = 34 ∨ a = 35) ∧ j + 1 < i then z.1 a (j + 1) else z.1 a j := q2
    have hs : s.1 33 2 = nI 8 := by rw [q2', if_neg (by omega), h]
    refine ⟨(nI (i + 1), up1 (up1 s 34 (i - 1) (s.1 34 i)) 35 (i - 1) (s.1 35 i)), ?_, rfl, fun a j => ?_⟩
    · show f_X2_forgetOldest_2s (nI i) s = _
      unfold f_X2_forgetOldest_2s
      have h5 : (up1 s 34 (i - 1) (s.1 34 i)).1 35 i = s.1 35 i := by rw [up1_eq, if_neg (by omega)]
      rw [hs, if_neg (nI_ge (by omega) (by decide)), bind_ok (x_at (by omega) (by decide)), show nI i - 1 = nI (i - 1) from pk_sub (b := 1) hi1, bind_ok (x_put (by omega) (by decide)), bind_ok (x_at (by omega) (by decide)), h5, bind_ok (x_put (by omega) (by decide)), nm_eq, nI_1]
    · show (up1 (up1 s 34 (i - 1) (s.1 34 i)) 35 (i - 1) (s.1 35 i)).1 a j = _
      rw [up1_eq, up1_eq]
      by_cases c1 : a = 35 ∧ j = i - 1
      · rw [if_pos c1, if_pos (by omega), q2', if_neg (by omega), c1.1, c1.2, show i - 1 + 1 = i by omega]
      · rw [if_neg c1]
        by_cases c2 : a = 34 ∧ j = i - 1
        · rw [if_pos c2, if_pos (by omega), q2', if_neg (by omega), c2.1, c2.2, show i - 1 + 1 = i by omega]
        · rw [if_neg c2, q2']
          by_cases c3 : (a = 34 ∨ a = 35) ∧ j + 1 < i
          · rw [if_pos c3, if_pos (by omega)]
          · rw [if_neg c3, if_neg (by omega)]
  · rintro ⟨s1, s⟩ ⟨q1, q2⟩
    have q1' : s1 = nI 8 := q1
    subst q1'
    have q2' : ∀ a j, s.1 a j = if (a = 34 ∨ a = 35) ∧ j + 1 < 8 then z.1 a (j + 1) else z.1 a j := q2
    have hs : s.1 33 2 = nI 8 := by rw [q2', if_neg (by omega), h]
    refine ⟨up1 s 33 2 (nI 7), ?_, by rw [up1_eq, if_pos ⟨rfl, rfl⟩], fun i hi => ?_, fun a j h1 h2 h3 => ?_⟩
    · show f_X2_forgetOldest_2s (nI 8) s = _
      unfold f_X2_forgetOldest_2s
      rw [hs, if_pos (nI_le (Nat.le_refl _) (by decide))]
      rfl
    · rw [up1_eq, if_neg (by omega), q2', if_pos (by omega), up1_eq, if_neg (by omega), q2', if_pos (by omega)]
      exact ⟨rfl, rfl⟩
    · rw [up1_eq, if_neg h1, q2', if_neg (by omega)]
theorem x_note {z : Sg} {un : Nat} (hu : un ≤ 8) (h : z.1 33 2 = nI un) (k v : Int32) : ∃ y, f_X2_note k v z = some y ∧ NX un k v z y := by
  unfold f_X2_note
  rw [h]
  rcases Nat.lt_or_ge un 8 with c | c
  · rw [if_pos (show nI un < (8 : Int32) from nI_lt (b := 8) c (by decide)), x_note13 c h]
    refine ⟨_, rfl, ?_⟩
    unfold NX
    rw [dsh_0 c]
    refine ⟨by rw [up1_eq, if_pos ⟨rfl, rfl⟩]; rfl, fun i hi => ?_, ?_, ?_, fun a j h1 h2 h3 => by rw [up1_eq, if_neg h1, up1_eq, if_neg (by omega), up1_eq, if_neg (by omega)]⟩
    · have a1 : (up1 (up1 (up1 z 34 un k) 35 un v) 33 2 (nI (un + 1))).1 34 i = z.1 34 i := by rw [up1_eq, if_neg (by omega), up1_eq, if_neg (by omega), up1_eq, if_neg (by omega)]
      have a2 : (up1 (up1 (up1 z 34 un k) 35 un v) 33 2 (nI (un + 1))).1 35 i = z.1 35 i := by rw [up1_eq, if_neg (by omega), up1_eq, if_neg (by omega), up1_eq, if_neg (by omega)]
      exact ⟨a1, a2⟩
    · rw [up1_eq, if_neg (by omega), up1_eq, if_neg (by omega), up1_eq, if_pos ⟨rfl, by omega⟩]
    · rw [up1_eq, if_neg (by omega), up1_eq, if_pos ⟨rfl, by omega⟩]
  · obtain rfl : un = 8 := by omega
    obtain ⟨y, y1, y2, y3, y4⟩ := x_forget h
    rw [if_neg (show ¬ nI 8 < (8 : Int32) by decide), bind_ok y1, x_note13 (by decide) y2]
    refine ⟨_, rfl, ?_⟩
    unfold NX
    rw [dsh_8]
    refine ⟨by rw [up1_eq, if_pos ⟨rfl, rfl⟩], fun i hi => ?_, ?_, ?_, fun a j h1 h2 h3 => by rw [up1_eq, if_neg h1, up1_eq, if_neg (by omega), up1_eq, if_neg (by omega), y4 a j h1 h2 h3]⟩
    · have a1 : (up1 (up1 (up1 y 34 7 k) 35 7 v) 33 2 (nI (7 + 1))).1 34 i = y.1 34 i := by rw [up1_eq, if_neg (by omega), up1_eq, if_neg (by omega), up1_eq, if_neg (by omega)]
      have a2 : (up1 (up1 (up1 y 34 7 k) 35 7 v) 33 2 (nI (7 + 1))).1 35 i = y.1 35 i := by rw [up1_eq, if_neg (by omega), up1_eq, if_neg (by omega), up1_eq, if_neg (by omega)]
      rw [a1, a2]
      exact y3 i (by omega)
    · rw [up1_eq, if_neg (by omega), up1_eq, if_neg (by omega), up1_eq, if_pos ⟨rfl, by omega⟩]
    · rw [up1_eq, if_neg (by omega), up1_eq, if_pos ⟨rfl, by omega⟩]
theorem m_minds57 {s : Sg} {n : Nat} (hn : n < 8) (h : s.1 0 2 = nI n) : ∃ y, f_X9_minds_57 s = some y ∧ y.1 0 2 = nI (n + 1) ∧ (∀ q, q < 55 → y.1 1 (165 + 55 * n + q) = s.1 1 q) ∧ ∀ a j, ¬ (a = 0 ∧ j = 2) → ¬ (a = 1 ∧ 165 + 55 * n ≤ j ∧ j < 165 + 55 * n + 55) → y.1 a j = s.1 a j := by
  obtain ⟨y, f1, f2⟩ := m_copy (r1 := 0) (r2 := 165 + 55 * n) (σ := s) (by omega) (by omega) (by omega)
  unfold f_X9_minds_57
  have h2 : y.1 0 2 = nI n := by rw [f2, if_neg (by omega), h]
  rw [h, z_lit 165, z_pl, z_0, bind_ok f1, h2, nI_1]
  refine ⟨up1 y 0 2 (nI (n + 1)), rfl, by rw [up1_eq, if_pos ⟨rfl, rfl⟩], fun q hq => ?_, fun a j h3 h4 => by rw [up1_eq, if_neg h3, f2, if_neg h4]⟩
  rw [up1_eq, if_neg (by omega), f2, if_pos ⟨rfl, by omega, by omega⟩]
  exact congrArg (s.1 1) (by omega)
theorem m_minds {σ : Sg} {un : Nat} (hu : un ≤ 8) (h : σ.1 0 2 = nI un) : ∃ y, f_X9_minds σ = some y ∧ NM un σ y := by
  unfold f_X9_minds
  rw [h]
  rcases Nat.lt_or_ge un 8 with c | c
  · rw [if_neg (show ¬ nI un = (8 : Int32) from fun q => by have := (nI_eq (a := un) (b := 8) (by omega) (by decide)).mp q; omega)]
    obtain ⟨y, y1, y2, y3, y4⟩ := m_minds57 c h
    refine ⟨y, y1, ?_⟩
    unfold NM
    rw [dsh_0 c]
    exact ⟨y2, fun i hi q hq => y4 1 _ (by omega) (by omega), y3, fun a j h1 h2 => y4 a j h1 (by omega)⟩
  · obtain rfl : un = 8 := by omega
    rw [if_pos (show nI 8 = (8 : Int32) from rfl)]
    unfold f_X9_minds_11
    refine itr_inv (fun (k : Nat) (s : Int32 × Sg) => s.1 = nI k ∧ ∀ a j, s.2.1 a j = if a = 1 ∧ 165 ≤ j ∧ j < 165 + k then σ.1 1 (j + 55) else σ.1 a j) _ 385 0 3000 _ (by decide) ⟨rfl, fun a j => by rw [if_neg (by omega)]⟩ ?_ ?_
    · rintro k ⟨s1, s⟩ - hk ⟨q1, q2⟩
      rw [Nat.zero_add] at hk
      have q1' : s1 = nI k := q1
      subst q1'
      have q2' : ∀ a j, s.1 a j = if a = 1 ∧ 165 ≤ j ∧ j < 165 + k then σ.1 1 (j + 55) else σ.1 a j := q2
      refine ⟨(nI (k + 1), up1 s 1 (165 + k) (s.1 1 (165 + k + 55))), ?_, rfl, fun a j => ?_⟩
      · show f_X9_minds_11s (nI k) s = _
        unfold f_X9_minds_11s
        rw [if_neg (show ¬ (385 : Int32) ≤ nI k from nI_ge (a := k) (b := 385) hk (by decide)), z_lit 165, z_lit 55, nI_add, nI_add, bind_ok (ald_ok (by omega) (by decide)), bind_ok (ast_ok (by omega) (by decide)), nm_eq, nI_1]
      · show (up1 s 1 (165 + k) (s.1 1 (165 + k + 55))).1 a j = _
        rw [up1_eq]
        by_cases c1 : a = 1 ∧ j = 165 + k
        · rw [if_pos c1, if_pos (by omega), q2', if_neg (by omega), c1.2]
        · rw [if_neg c1, q2']
          by_cases c3 : a = 1 ∧ 165 ≤ j ∧ j < 165 + k
          · rw [if_pos c3, if_pos (by omega)]
          · rw [if_neg c3, if_neg (by omega)]
    · rintro ⟨s1, s⟩ ⟨q1, q2⟩
      rw [Nat.zero_add] at q1 q2
      have q1' : s1 = nI 385 := q1
      subst q1'
      have q2' : ∀ a j, s.1 a j = if a = 1 ∧ 165 ≤ j ∧ j < 165 + 385 then σ.1 1 (j + 55) else σ.1 a j := q2
      have hs : s.1 0 2 = nI 8 := by rw [q2', if_neg (by omega), h]
      obtain ⟨y, y1, y2, y3, y4⟩ := m_minds57 (s := up1 s 0 2 (nI 7)) (n := 7) (by decide) (by rw [up1_eq, if_pos ⟨rfl, rfl⟩])
      refine ⟨y, ?_, ?_⟩
      · show f_X9_minds_11s (nI 385) s = _
        unfold f_X9_minds_11s
        rw [if_pos (by decide : (385 : Int32) ≤ nI 385), hs, show nI 8 - (1 : Int32) = nI 7 by decide, bind_ok (pfi_eq _ _ _ _), y1]
        rfl
      · unfold NM
        rw [dsh_8]
        refine ⟨y2, fun i hi q hq => ?_, fun q hq => ?_, fun a j h1 h2 => ?_⟩
        · rw [y4 1 _ (by omega) (by omega), up1_eq, if_neg (by omega), q2', if_pos ⟨rfl, by omega, by omega⟩]
          exact congrArg (σ.1 1) (by omega)
        · rw [y3 q hq, up1_eq, if_neg (by omega), q2', if_neg (by omega)]
        · rw [y4 a j h1 (by omega), up1_eq, if_neg h1, q2', if_neg (by omega)]
section
variable {F F' : Fl} {σX σM zX yX yM : Sg}
/-- one more is minded -/
theorem UNDO_push {un : Nat} {k v : Int32} (hF : OKF F) (hM : FM 0 F σM) (hu : un ≤ 8) (h : ∃ G : Nat → Fl, G un = F ∧ ∀ i, i < un → OKF (G i) ∧ FM (165 + 55 * i) (G i) σM ∧ PO (zX.1 34 i) (zX.1 35 i) (G i) (G (i + 1))) (hp : PO k v F F') (hx : NX un k v zX yX) (hm : NM un σM yM) : UNDO F' yX yM := by
  obtain ⟨G, g1, g2⟩ := h
  obtain ⟨x1, x2, x3, x4, x5⟩ := hx
  obtain ⟨m1, m2, m3, m4⟩ := hm
  have hd : dsh un ≤ un ∧ un - dsh un ≤ 7 := by unfold dsh; split <;> omega
  revert x1 x2 x3 x4 m1 m2 m3 hd
  generalize dsh un = d
  intro x1 x2 x3 x4 m1 m2 m3 hd
  refine ⟨un - d + 1, by omega, x1, m1, fun i => if i ≤ un - d then G (i + d) else F', if_neg (by omega), fun i hi => ?_⟩
  show OKF (if i ≤ un - d then G (i + d) else F') ∧ FM (165 + 55 * i) (if i ≤ un - d then G (i + d) else F') yM ∧ PO (yX.1 34 i) (yX.1 35 i) (if i ≤ un - d then G (i + d) else F') (if i + 1 ≤ un - d then G (i + 1 + d) else F')
  rw [if_pos (show i ≤ un - d by omega)]
  rcases Nat.lt_or_ge i (un - d) with c | c
  · obtain ⟨a1, a2, a3⟩ := g2 (i + d) (by omega)
    rw [if_pos (show i + 1 ≤ un - d by omega), (x2 i c).1, (x2 i c).2, show i + 1 + d = i + d + 1 by omega]
    exact ⟨a1, FM_move (fun q hq => m2 i c q hq) a1.m10 a2, a3⟩
  · have e : i = un - d := by omega
    rw [if_neg (show ¬ i + 1 ≤ un - d by omega), e, x3, x4, show un - d + d = un by omega, g1]
    exact ⟨hF, FM_move (r1 := 0) (fun q hq => by rw [m3 q hq, Nat.zero_add]) hF.m10 hM, hp⟩
end
end
section
section
variable {F F' : Fl} {σX σM zX yX yM : Sg}
theorem UNDO_go {k v : Int32} (hF : OKF F) (hM : FM 0 F σM) (g : UNDO F σX σM) (h1 : zX.1 33 2 = σX.1 33 2) (h2 : ∀ j, zX.1 34 j = σX.1 34 j) (h3 : ∀ j, zX.1 35 j = σX.1 35 j) (hp : PO k v F F') :
    ∃ un, un ≤ 8 ∧ zX.1 33 2 = nI un ∧ σM.1 0 2 = nI un ∧ ∀ yX yM, NX un k v zX yX → NM un σM yM → UNDO F' yX yM := by
  obtain ⟨un, u1, u2, u3, G, u4, u5⟩ := g
  refine ⟨un, u1, by rw [h1]; exact u2, u3, fun yX yM n1 n2 => UNDO_push hF hM u1 ⟨G, u4, fun i hi => ?_⟩ hp n1 n2⟩
  rw [h2, h3]
  exact u5 i hi
theorem goF_ok {c : Nat} (hF : OKF F) (hc : (fTh F).testBit c = true) : OKF (goF F c) := by
  refine ⟨hF.1, hF.2.1, hF.2.2.1, ?_⟩
  show (fSt F ||| 2 ^ c) &&& fTh F = fSt F ||| 2 ^ c
  rw [Nat.and_comm, and_sub]
  intro k hk
  rw [tb_or2] at hk
  simp only [Bool.or_eq_true, decide_eq_true_eq] at hk
  rcases hk with hk | rfl
  · exact hF.sub k hk
  · exact hc
/-- promise 9: go -/
theorem s_6 : simC6 Sim := fun σX σM ⟨F, h⟩ v => by
  have hb := h
  obtain ⟨hF, hX, hM, h4, h5, h6, h7⟩ := h
  have hm := hF.m10
  unfold f_X8_go f_X9_go
  rw [bind_ok (x_isStep hX v), bind_ok (m_isStep hF hM.1 v)]
  rcases inn_cases v (n := fM F) (by omega) with e | ⟨t, ht, rfl, e⟩
  · rw [e]; exact ⟨_, _, _, rfl, rfl, F, hb⟩
  rw [e, if_neg (by decide : ¬ (1 : Int32) = 0), if_neg (by decide : ¬ (1 : Int32) = 0), bind_ok (x_may hF hX ht), bind_ok (m_may hF hM ht)]
  by_cases e : aft F (fTh F) t (fSt F) = fSt F
  · rw [if_pos e, if_pos rfl, if_pos rfl]; exact ⟨_, _, _, rfl, rfl, F, hb⟩
  rw [if_neg e, if_neg (by decide : ¬ (1 : Int32) = 0), if_neg (by decide : ¬ (1 : Int32) = 0)]
  obtain ⟨ca, cb, cc⟩ := hF.1.c10 ht
  have hne := (aft_ne (fTh F) t (fSt F)).mp e
  have hq := hX.1.2.2.2.1 t ht
  obtain ⟨c, hc⟩ : ∃ c, c = fC F t := ⟨_, rfl⟩
  have hc10 : c < 10 := by omega
  obtain ⟨S, hS⟩ : ∃ S, S = fSt F ||| 2 ^ c := ⟨_, rfl⟩
  have hS10 : S < 1024 := by rw [hS]; exact or10 hF.st (pow10 hc10)
  have hW := (hX.1.2.2.2.2 c hc10).2
  have hWM := (hM.1.2.2.2.2 c hc10).2
  rw [Nat.zero_add] at hWM
  have hoF' : OKF (goF F c) := goF_ok hF (by rw [hc]; exact hne.2.2.1)
  obtain ⟨zX, hz⟩ : ∃ z, z = up1 (up1 σX 12 10 (nI S)) 18 c (fW F c + 1) := ⟨_, rfl⟩
  have oz : ∀ a j, ¬ (a = 12 ∧ j = 10) → ¬ (a = 18 ∧ j = c) → zX.1 a j = σX.1 a j := fun a j p q => by rw [hz, up1_eq, if_neg q, up1_eq, if_neg p]
  have z1 : zX.1 12 10 = nI S := by rw [hz, up1_eq, if_neg (by omega), up1_eq, if_pos ⟨rfl, rfl⟩]
  have z2 : zX.1 18 c = fW F c + 1 := by rw [hz, up1_eq, if_pos ⟨rfl, rfl⟩]
  have et : f_X1_tread 12 (nI t) σX = some zX := by
    unfold f_X1_tread f_X1_endOf
    rw [bind_ok (x_at (by omega) (by decide)), hq.2.2.1]
    show ((f_X1_after 12 (nI t) (σX.1 12 10) σX).bind _) = _
    rw [hX.2.2, bind_ok (x_aft hF.1 hX ht hF.st hF.th), bind_ok (pfi_eq _ _ _ _), bind_ok (x_at cc (by decide)), up1_eq, if_neg (by omega), bind_ok (x_put cc (by decide)), aft_eq e, ← hc, hW, ← hS, hz]
  have hXz : FX 12 (goF F c) zX := by
    refine ⟨⟨by rw [oz _ _ (by omega) (by omega)]; exact hX.1.1, by rw [oz _ _ (by omega) (by omega)]; exact hX.1.2.1, by rw [oz _ _ (by omega) (by omega)]; exact hX.1.2.2.1, fun u hu => ?_, fun s hs => ?_⟩, by rw [oz _ _ (by omega) (by omega)]; exact hX.2.1, by rw [z1, hS]; rfl⟩
    · rw [oz _ _ (by omega) (by omega), oz _ _ (by omega) (by omega), oz _ _ (by omega) (by omega), oz _ _ (by omega) (by omega)]
      exact hX.1.2.2.2.1 u hu
    · have h0 := hX.1.2.2.2.2 s hs
      refine ⟨by rw [oz _ _ (by omega) (by omega)]; exact h0.1, ?_⟩
      show zX.1 18 s = if s = c then fW F s + 1 else fW F s
      by_cases q : s = c
      · rw [if_pos q, q, z2]
      · rw [if_neg q, oz _ _ (by omega) (by omega)]; exact h0.2
  have hp : PO 0 (nI c) F (goF F c) := Or.inl ⟨rfl, c, hc10, rfl, by rw [hc]; exact hne.2.2.2, rfl⟩
  obtain ⟨un, u1, u2, u3, u4⟩ := UNDO_go (zX := zX) hF hM h7 (oz _ _ (by omega) (by omega)) (fun j => oz _ _ (by omega) (by omega)) (fun j => oz _ _ (by omega) (by omega)) hp
  obtain ⟨yX, n1, n2⟩ := x_note u1 u2 0 (nI c)
  obtain ⟨yM, p1, p2⟩ := m_minds u1 u3
  have hU := u4 yX yM n2 p2
  have ny := n2.2.2.2.2
  have py := p2.2.2.2
  have hMy : FM 0 F yM := FM_keep (fun j p q => py 1 j (by omega) (by omega)) hm hM
  obtain ⟨wM, hw⟩ : ∃ w, w = up1 (up1 yM 1 3 (nI S)) 1 (35 + c) (fW F c + 1) := ⟨_, rfl⟩
  have ow : ∀ a j, ¬ (a = 1 ∧ j = 3) → ¬ (a = 1 ∧ j = 35 + c) → wM.1 a j = yM.1 a j := fun a j p q => by rw [hw, up1_eq, if_neg q, up1_eq, if_neg p]
  have w1 : wM.1 1 3 = nI S := by rw [hw, up1_eq, if_neg (by omega), up1_eq, if_pos ⟨rfl, rfl⟩]
  have w2 : wM.1 1 (35 + c) = fW F c + 1 := by rw [hw, up1_eq, if_pos ⟨rfl, rfl⟩]
  have oX : ∀ a j, ¬ (a = 12 ∧ j = 10) → a ≠ 18 → ¬ (a = 33 ∧ j = 2) → a ≠ 34 → a ≠ 35 → yX.1 a j = σX.1 a j := fun a j q1 q2 q3 q4 q5 => by rw [ny a j q3 q4 q5, oz a j q1 (by omega)]
  have oM : ∀ a j, ¬ (a = 0 ∧ j = 2) → ¬ (a = 1 ∧ 165 ≤ j ∧ j < 605) → ¬ (a = 1 ∧ j < 55) → wM.1 a j = σM.1 a j := fun a j q1 q2 q3 => by rw [ow a j (by omega) (by omega), py a j q1 q2]
  have hXy : FX 12 (goF F c) yX := FX_pt (fun a j p q => ny a j (by omega) (by omega) (by omega)) hXz
  have hMw : FM 0 (goF F c) wM := by
    refine ⟨⟨by rw [ow _ _ (by omega) (by omega)]; exact hMy.1.1, by rw [ow _ _ (by omega) (by omega)]; exact hMy.1.2.1, by rw [ow _ _ (by omega) (by omega)]; exact hMy.1.2.2.1, fun u hu => ?_, fun s hs => ?_⟩, by rw [ow _ _ (by omega) (by omega)]; exact hMy.2.1, by rw [show (0 + 3 : Nat) = 3 from rfl, w1, hS]; rfl⟩
    · have hu' : u < fM F := hu
      rw [ow _ _ (by omega) (by omega), ow _ _ (by omega) (by omega), ow _ _ (by omega) (by omega)]
      exact hMy.1.2.2.2.1 u hu
    · have h0 := hMy.1.2.2.2.2 s hs
      refine ⟨by rw [ow _ _ (by omega) (by omega)]; exact h0.1, ?_⟩
      show wM.1 1 (0 + 35 + s) = if s = c then fW F s + 1 else fW F s
      by_cases q : s = c
      · rw [if_pos q, q, show 0 + 35 + c = 35 + c by omega, w2]
      · rw [if_neg q, ow _ _ (by omega) (by omega)]; exact h0.2
  refine ⟨nI (pc S), yX, wM, ?_, ?_, goF F c, hoF', hXy, hMw, TEXT_k (oX 1 1 (by omega) (by omega) (by omega) (by omega) (by omega)) (fun j => oX 2 j (by omega) (by omega) (by omega) (by omega) (by omega)) (oM 0 4 (by omega) (by omega) (by omega)) (fun j => oM 2 j (by omega) (by omega) (by omega)) h4, TOLD_k (F := F) (oX 0 10 (by omega) (by omega) (by omega) (by omega) (by omega)) (fun j => oX 41 j (by omega) (by omega) (by omega) (by omega) (by omega)) (oM 0 6 (by omega) (by omega) (by omega)) (fun j => oM 3 j (by omega) (by omega) (by omega)) h5, KEPT_k (oX 0 11 (by omega) (by omega) (by omega) (by omega) (by omega)) (fun a j p q => oX a j (by omega) (by omega) (by omega) (by omega) (by omega)) (oM 0 1 (by omega) (by omega) (by omega)) (fun j p q => oM 1 j (by omega) (by omega) (by omega)) h6, UNDO_k rfl (fun _ => rfl) (fun _ => rfl) (ow 0 2 (by omega) (by omega)) (fun j p q => ow 1 j (by omega) (by omega)) hU⟩
  · rw [bind_ok et]
    have ne : f_X1_endOf 12 (nI t) zX = some (nI c) := by
      unfold f_X1_endOf
      rw [bind_ok (x_at (by omega) (by decide)), (hXz.1.2.2.2.1 t ht).2.2.1, show fC (goF F c) t = c from hc.symm]
    have nb : f_X2_noteGone (nI c) zX = some yX := by
      unfold f_X2_noteGone
      rw [bind_ok n1]
    rw [bind_ok ne, bind_ok nb]
    rw [bind_ok (x_stood hXy), show fSt (goF F c) = S from hS.symm, bind_ok (x_bc _ hS10)]
  · rw [bind_ok p1, bind_ok (m_w3 hMy), bind_ok (m_C hF hMy ht), z_bit (by omega), z_or, ← hc, ← hS, z_lit 3, bind_ok (ast_ok (by decide) (by decide))]
    have hM3 : ald (up1 yM 1 3 (nI S)) 1 660 (25 + nI t) = some (nI c) := by
      have := m_C hF hMy ht
      rw [z_lit 25, m_wk 25 (by omega)] at this ⊢
      rw [up1_eq, if_neg (by omega), this, hc]
    have hM4 : ald (up1 yM 1 3 (nI S)) 1 660 (35 + nI c) = some (fW F c) := by
      rw [z_lit 35, m_wk 35 (by omega), up1_eq, if_neg (by omega), py 1 _ (by omega) (by omega), hWM]
    rw [bind_ok hM3, bind_ok hM4, z_lit 35, nI_add, bind_ok (ast_ok (by omega) (by decide)), ← hw, show (nI 3 : Int32) = 3 from rfl, bind_ok (m_w3 hMw), show fSt (goF F c) = S from hS.symm, bind_ok (m_ones hS10)]
end
end
section
section
variable {F F' : Fl} {σX σM zX yX yM : Sg}
theorem dif_lt2 {x n k : Nat} (hx : x < 2 ^ n) (hn : n ≤ 10) : dif x (2 ^ k) < 2 ^ n := subp hx (dif_sub (Nat.lt_of_lt_of_le hx (p10 hn)))
theorem outF_ok {c : Nat} (hF : OKF F) : OKF (outF F c) := by
  refine ⟨hF.1, hF.2.1, dif_lt2 hF.2.2.1 hF.1.1.2, ?_⟩
  show dif (fSt F) (2 ^ c) &&& dif (fTh F) (2 ^ c) = dif (fSt F) (2 ^ c)
  rw [Nat.and_comm, and_sub]
  intro k hk
  rw [dif_p hF.st] at hk
  rw [dif_p hF.th]
  simp only [Bool.and_eq_true] at hk ⊢
  exact ⟨hF.sub k hk.1, hk.2⟩
/-- promise 10: takeOut -/
theorem s_7 : simC7 Sim := fun σX σM ⟨F, h⟩ v => by
  have hb := h
  obtain ⟨hF, hX, hM, h4, h5, h6, h7⟩ := h
  have hm := hF.m10
  have hn := hF.1.1
  unfold f_X8_takeOut f_X9_takeOut
  rw [bind_ok (x_isStone hX v), bind_ok (m_isStone hF.1 hM.1 v)]
  rcases inn_cases v (n := fN F) (by omega) with e | ⟨c, h1, rfl, e⟩
  · rw [e]; exact ⟨_, _, _, rfl, rfl, F, hb⟩
  have hc10 : c < 10 := by omega
  have eth : f_X1_isThere 12 (nI c) σX = some (zb (fTh F) c) := by
    unfold f_X1_isThere
    rw [hX.2.1, bind_ok (x_has (lt31 hF.th) (by omega)), bind_ok (zrt_01 (zb_01 _ _))]
  rw [e, if_neg (by decide : ¬ (1 : Int32) = 0), if_neg (by decide : ¬ (1 : Int32) = 0), bind_ok eth, bind_ok (m_w2 hM), bind_ok (m_has (lt31 hF.th) (by omega))]
  cases c1 : (fTh F).testBit c
  · rw [zb_0.mpr c1, if_pos rfl, if_pos rfl]; exact ⟨_, _, _, rfl, rfl, F, hb⟩
  rw [zb_1.mpr c1, if_neg (by decide : ¬ (1 : Int32) = 0), if_neg (by decide : ¬ (1 : Int32) = 0), bind_ok (x_stood hX), bind_ok (x_bitOf (lt31 hF.st) (by omega))]
  obtain ⟨k, hk, hk2, hkn⟩ : ∃ k : Int32, (k = 1 ∨ k = 2) ∧ ((fSt F).testBit c = true ↔ k = 2) ∧ (if zb (fSt F) c = 1 then f_X8_takeOut_49 (nI c) (nI c) 1 σX else f_X8_takeOut_49 (nI c) (nI c) 0 σX) = (f_X2_note k (nI c) σX).bind fun q5 => (f_X1_removeSlab 12 (nI c) q5).bind fun q6 => (f_X1_there 12 q6).bind fun q7 => (f_J6_bitCount_0f7a4 q7).bind fun q8 => some ((q8, q6)) := by
    have un : ∀ k : Int32, ∀ a : Int32, f_X2_noteOut (nI c) a σX = f_X2_note k (nI c) σX → f_X8_takeOut_49 (nI c) (nI c) a σX = (f_X2_note k (nI c) σX).bind fun q5 => (f_X1_removeSlab 12 (nI c) q5).bind fun q6 => (f_X1_there 12 q6).bind fun q7 => (f_J6_bitCount_0f7a4 q7).bind fun q8 => some ((q8, q6)) := by
      intro k a q
      unfold f_X8_takeOut_49
      rw [q]
    have idb : ∀ x : Option Sg, (x.bind fun q1 => some q1) = x := fun x => by cases x <;> rfl
    cases c2 : (fSt F).testBit c
    · refine ⟨1, Or.inl rfl, by decide, ?_⟩
      rw [zb_0.mpr c2, if_neg (by decide : ¬ (0 : Int32) = 1)]
      refine un 1 0 ?_
      unfold f_X2_noteOut f_X2_noteOut_10
      rw [if_pos rfl]
      exact idb _
    · refine ⟨2, Or.inr rfl, by decide, ?_⟩
      rw [zb_1.mpr c2, if_pos rfl]
      refine un 2 1 ?_
      unfold f_X2_noteOut f_X2_noteOut_10
      rw [if_neg (by decide : ¬ (1 : Int32) = 0)]
      exact idb _
  rw [hkn]
  have hoF' : OKF (outF F c) := outF_ok hF
  have hp : PO k (nI c) F (outF F c) := Or.inr (Or.inl ⟨hk, c, hc10, rfl, c1, hk2, rfl⟩)
  obtain ⟨un, u1, u2, u3, u4⟩ := UNDO_go (zX := σX) hF hM h7 rfl (fun _ => rfl) (fun _ => rfl) hp
  obtain ⟨yX, n1, n2⟩ := x_note u1 u2 k (nI c)
  obtain ⟨yM, p1, p2⟩ := m_minds u1 u3
  have hU := u4 yX yM n2 p2
  have ny := n2.2.2.2.2
  have py := p2.2.2.2
  have hXy : FX 12 F yX := FX_pt (fun a j p q => ny a j (by omega) (by omega) (by omega)) hX
  have hMy : FM 0 F yM := FM_keep (fun j p q => py 1 j (by omega) (by omega)) hm hM
  have fth : fTh (outF F c) = dif (fTh F) (2 ^ c) := rfl
  have fst : fSt (outF F c) = dif (fSt F) (2 ^ c) := rfl
  obtain ⟨wX, hwX⟩ : ∃ w, w = up1 (up1 yX 12 9 (nI (dif (fTh F) (2 ^ c)))) 12 10 (nI (dif (fSt F) (2 ^ c))) := ⟨_, rfl⟩
  obtain ⟨wM, hwM⟩ : ∃ w, w = up1 (up1 yM 1 2 (nI (dif (fTh F) (2 ^ c)))) 1 3 (nI (dif (fSt F) (2 ^ c))) := ⟨_, rfl⟩
  have oX1 : ∀ a j, ¬ (a = 12 ∧ (j = 9 ∨ j = 10)) → wX.1 a j = yX.1 a j := fun a j p => by rw [hwX, up1_eq, if_neg (by omega), up1_eq, if_neg (by omega)]
  have oM1 : ∀ a j, ¬ (a = 1 ∧ (j = 2 ∨ j = 3)) → wM.1 a j = yM.1 a j := fun a j p => by rw [hwM, up1_eq, if_neg (by omega), up1_eq, if_neg (by omega)]
  have x9 : wX.1 12 9 = nI (dif (fTh F) (2 ^ c)) := by rw [hwX, up1_eq, if_neg (by omega), up1_eq, if_pos ⟨rfl, rfl⟩]
  have x10 : wX.1 12 10 = nI (dif (fSt F) (2 ^ c)) := by rw [hwX, up1_eq, if_pos ⟨rfl, rfl⟩]
  have m2 : wM.1 1 2 = nI (dif (fTh F) (2 ^ c)) := by rw [hwM, up1_eq, if_neg (by omega), up1_eq, if_pos ⟨rfl, rfl⟩]
  have m3 : wM.1 1 3 = nI (dif (fSt F) (2 ^ c)) := by rw [hwM, up1_eq, if_pos ⟨rfl, rfl⟩]
  have hXw : FX 12 (outF F c) wX := by
    refine ⟨⟨by rw [oX1 _ _ (by omega)]; exact hXy.1.1, by rw [oX1 _ _ (by omega)]; exact hXy.1.2.1, by rw [oX1 _ _ (by omega)]; exact hXy.1.2.2.1, fun u hu => ?_, fun s hs => ?_⟩, by rw [x9, fth], by rw [x10, fst]⟩
    · rw [oX1 _ _ (by omega), oX1 _ _ (by omega), oX1 _ _ (by omega), oX1 _ _ (by omega)]; exact hXy.1.2.2.2.1 u hu
    · rw [oX1 _ _ (by omega), oX1 _ _ (by omega)]; exact hXy.1.2.2.2.2 s hs
  have hMw : FM 0 (outF F c) wM := by
    refine ⟨⟨by rw [oM1 _ _ (by omega)]; exact hMy.1.1, by rw [oM1 _ _ (by omega)]; exact hMy.1.2.1, by rw [oM1 _ _ (by omega)]; exact hMy.1.2.2.1, fun u hu => ?_, fun s hs => ?_⟩, by rw [fth]; exact m2, by rw [fst]; exact m3⟩
    · rw [oM1 _ _ (by omega), oM1 _ _ (by omega), oM1 _ _ (by omega)]; exact hMy.1.2.2.2.1 u hu
    · rw [oM1 _ _ (by omega), oM1 _ _ (by omega)]; exact hMy.1.2.2.2.2 s hs
  have oX : ∀ a j, a ≠ 12 → ¬ (a = 33 ∧ j = 2) → a ≠ 34 → a ≠ 35 → wX.1 a j = σX.1 a j := fun a j q1 q3 q4 q5 => by rw [oX1 a j (by omega), ny a j q3 q4 q5]
  have oM : ∀ a j, ¬ (a = 0 ∧ j = 2) → ¬ (a = 1 ∧ 165 ≤ j ∧ j < 605) → ¬ (a = 1 ∧ j < 55) → wM.1 a j = σM.1 a j := fun a j q1 q2 q3 => by rw [oM1 a j (by omega), py a j q1 q2]
  refine ⟨nI (pc (dif (fTh F) (2 ^ c))), wX, wM, ?_, ?_, outF F c, hoF', hXw, hMw, TEXT_k (oX 1 1 (by omega) (by omega) (by omega) (by omega)) (fun j => oX 2 j (by omega) (by omega) (by omega) (by omega)) (oM 0 4 (by omega) (by omega) (by omega)) (fun j => oM 2 j (by omega) (by omega) (by omega)) h4, TOLD_k (F := F) (oX 0 10 (by omega) (by omega) (by omega) (by omega)) (fun j => oX 41 j (by omega) (by omega) (by omega) (by omega)) (oM 0 6 (by omega) (by omega) (by omega)) (fun j => oM 3 j (by omega) (by omega) (by omega)) h5, KEPT_k (oX 0 11 (by omega) (by omega) (by omega) (by omega)) (fun a j p q => oX a j (by omega) (by omega) (by omega) (by omega)) (oM 0 1 (by omega) (by omega) (by omega)) (fun j p q => oM 1 j (by omega) (by omega) (by omega)) h6, UNDO_k (oX1 33 2 (by omega)) (fun j => oX1 34 j (by omega)) (fun j => oX1 35 j (by omega)) (oM1 0 2 (by omega)) (fun j p q => oM1 1 j (by omega)) hU⟩
  · have er : f_X1_removeSlab 12 (nI c) yX = some wX := by
      unfold f_X1_removeSlab
      rw [hXy.2.1, z_bit (by omega), z_dif, bind_ok (pfi_eq _ _ _ _), up1_eq, if_neg (by omega), hXy.2.2, z_dif, bind_ok (pfi_eq _ _ _ _), hwX]
    rw [bind_ok n1, bind_ok er, bind_ok (x_there hXw), fth, bind_ok (x_bc _ (dif_lt hF.th))]
  · rw [bind_ok p1, bind_ok (m_w2 hMy), z_bit (by omega), z_dif, z_lit 2, bind_ok (ast_ok (by decide) (by decide))]
    have hM3 : ald (up1 yM 1 2 (nI (dif (fTh F) (2 ^ c)))) 1 660 3 = some (nI (fSt F)) := by
      have := m_w3 hMy
      rw [z_lit 3, m_w (by decide)] at this ⊢
      rw [up1_eq, if_neg (by omega), this]
    rw [bind_ok hM3, z_dif, z_lit 3, bind_ok (ast_ok (by decide) (by decide)), ← hwM, show (nI 2 : Int32) = 2 from rfl, bind_ok (m_w2 hMw), fth, bind_ok (m_ones (dif_lt hF.th))]
theorem layF_ok {a b c : Nat} (hF : OKF F) (hm : fM F < 10) (ha : a < fN F) (hb : b < fN F) (hc : c < fN F) (h1 : c ≠ a) (h2 : c ≠ b) : OKF (layF F a b c) := by
  refine ⟨⟨hF.1.1, hm, fun t ht => ?_, hF.1.2.2.2⟩, by show 1 ≤ fM F + 1; omega, hF.2.2⟩
  show (if t = fM F then a else fA F t) < fN F ∧ (if t = fM F then b else fB F t) < fN F ∧ (if t = fM F then c else fC F t) < fN F ∧ (if t = fM F then c else fC F t) ≠ (if t = fM F then a else fA F t) ∧ (if t = fM F then c else fC F t) ≠ (if t = fM F then b else fB F t)
  by_cases e : t = fM F
  · rw [if_pos e, if_pos e, if_pos e]; exact ⟨ha, hb, hc, h1, h2⟩
  · rw [if_neg e, if_neg e, if_neg e]
    have ht' : t < fM F + 1 := ht
    exact hF.1.2.2.1 t (by omega)
theorem x_could (hF : OKF F) (hX : FX 12 F σX) (v1 v2 v3 : Int32) : f_X1_couldBeStep 12 v1 v2 v3 σX = some (if inn v1 (fN F) = 1 ∧ inn v2 (fN F) = 1 ∧ inn v3 (fN F) = 1 ∧ v3 ≠ v1 ∧ v3 ≠ v2 then 1 else 0) := by
  unfold f_X1_couldBeStep f_X1_couldBeStep_38 f_X1_couldBeStep_39
  rw [bind_ok (x_hasStone hX.1 v1), bind_ok (x_hasStone hX.1 v2), bind_ok (x_hasStone hX.1 v3)]
  rcases inn_01 v1 (fN F) with e1 | e1 <;> rcases inn_01 v2 (fN F) with e2 | e2 <;> rcases inn_01 v3 (fN F) with e3 | e3 <;> rw [e1, e2, e3] <;> by_cases c1 : v3 = v1 <;> by_cases c2 : v3 = v2 <;> simp [c1, c2, zrt] <;> rfl
end
end
section
section
variable {F F' : Fl} {σX σM zX yX yM : Sg}
theorem nI_ne {a b : Nat} (ha : a < 2 ^ 31) (hb : b < 2 ^ 31) (h : a ≠ b) : ¬ nI a = nI b := fun q => h ((nI_eq ha hb).mp q)
/-- promise 10: lay -/
theorem s_8 : simC8 Sim := fun σX σM ⟨F, h⟩ v1 v2 v3 => by
  have hb := h
  obtain ⟨hF, hX, hM, h4, h5, h6, h7⟩ := h
  have hm := hF.m10
  have hn := hF.1.1
  unfold f_X8_lay f_X9_lay
  rw [bind_ok (x_could hF hX v1 v2 v3), bind_ok (m_isStone hF.1 hM.1 v1), bind_ok (m_isStone hF.1 hM.1 v2), bind_ok (m_isStone hF.1 hM.1 v3)]
  rcases inn_cases v1 (n := fN F) (by omega) with e1 | ⟨a, ha, rfl, e1⟩
  · rw [e1, if_neg (show ¬ ((0 : Int32) = 1 ∧ _) from fun q => absurd q.1 (by decide)), if_pos rfl, if_pos rfl]
    exact ⟨_, _, _, rfl, rfl, F, hb⟩
  rcases inn_cases v2 (n := fN F) (by omega) with e2 | ⟨b, hb2, rfl, e2⟩
  · rw [e1, e2, if_neg (show ¬ ((1 : Int32) = 1 ∧ (0 : Int32) = 1 ∧ _) from fun q => absurd q.2.1 (by decide)), if_pos rfl, if_neg (by decide : ¬ (1 : Int32) = 0), if_pos rfl]
    exact ⟨_, _, _, rfl, rfl, F, hb⟩
  rcases inn_cases v3 (n := fN F) (by omega) with e3 | ⟨c, hc, rfl, e3⟩
  · rw [e1, e2, e3, if_neg (show ¬ ((1 : Int32) = 1 ∧ (1 : Int32) = 1 ∧ (0 : Int32) = 1 ∧ _) from fun q => absurd q.2.2.1 (by decide)), if_pos rfl, if_neg (by decide : ¬ (1 : Int32) = 0), if_neg (by decide : ¬ (1 : Int32) = 0), if_pos rfl]
    exact ⟨_, _, _, rfl, rfl, F, hb⟩
  have ec := x_could hF hX (nI a) (nI b) (nI c)
  rw [e1, e2, e3] at ec ⊢
  by_cases c1 : c = a
  · rw [if_neg (show ¬ ((1 : Int32) = 1 ∧ (1 : Int32) = 1 ∧ (1 : Int32) = 1 ∧ nI c ≠ nI a ∧ nI c ≠ nI b) from fun q => q.2.2.2.1 (by rw [c1])), if_pos rfl, if_neg (by decide : ¬ (1 : Int32) = 0), if_neg (by decide : ¬ (1 : Int32) = 0), if_neg (by decide : ¬ (1 : Int32) = 0), if_pos (show nI a = nI c by rw [c1])]
    exact ⟨_, _, _, rfl, rfl, F, hb⟩
  by_cases c2 : c = b
  · rw [if_neg (show ¬ ((1 : Int32) = 1 ∧ (1 : Int32) = 1 ∧ (1 : Int32) = 1 ∧ nI c ≠ nI a ∧ nI c ≠ nI b) from fun q => q.2.2.2.2 (by rw [c2])), if_pos rfl, if_neg (by decide : ¬ (1 : Int32) = 0), if_neg (by decide : ¬ (1 : Int32) = 0), if_neg (by decide : ¬ (1 : Int32) = 0), if_neg (nI_ne (a := a) (b := c) (by omega) (by omega) (by omega)), if_pos (show nI b = nI c by rw [c2])]
    exact ⟨_, _, _, rfl, rfl, F, hb⟩
  have hall5 : (1 : Int32) = 1 ∧ (1 : Int32) = 1 ∧ (1 : Int32) = 1 ∧ nI c ≠ nI a ∧ nI c ≠ nI b := ⟨rfl, rfl, rfl, nI_ne (by omega) (by omega) c1, nI_ne (by omega) (by omega) c2⟩
  rw [if_pos hall5] at ec
  rw [if_pos hall5, if_neg (by decide : ¬ (1 : Int32) = 0), if_neg (by decide : ¬ (1 : Int32) = 0), if_neg (by decide : ¬ (1 : Int32) = 0), if_neg (by decide : ¬ (1 : Int32) = 0), if_neg (nI_ne (a := a) (b := c) (by omega) (by omega) (by omega)), if_neg (nI_ne (a := b) (b := c) (by omega) (by omega) (by omega)), bind_ok (x_steps hX), bind_ok (m_w4 hM)]
  rcases Nat.lt_or_ge (fM F) 10 with cm | cm
  case inr =>
    have e10 : fM F = 10 := by omega
    rw [e10, if_neg (show ¬ nI 10 < (10 : Int32) by decide), if_pos (show nI 10 = (10 : Int32) from rfl)]
    exact ⟨_, _, _, rfl, rfl, F, hb⟩
  have elt : nI (fM F) < (10 : Int32) := nI_lt (b := 10) cm (by decide)
  rw [if_pos elt, if_neg (show ¬ nI (fM F) = (10 : Int32) from nI_ne (b := 10) (by omega) (by decide) (by omega))]
  obtain ⟨m, hmm⟩ : ∃ m, m = fM F := ⟨_, rfl⟩
  have hx7 := hX.1.2.1
  rw [← hmm] at hx7 elt
  have hoF' : OKF (layF F a b c) := layF_ok hF cm ha hb2 hc c1 c2
  obtain ⟨zX, hz⟩ : ∃ z, z = up1 (up1 (up1 (up1 (up1 σX 13 m (nI a)) 14 m (nI b)) 15 m (nI c)) 16 m (nI (2 ^ a ||| 2 ^ b))) 12 7 (nI (m + 1)) := ⟨_, rfl⟩
  have oz : ∀ x j, ¬ (x = 12 ∧ j = 7) → ¬ (13 ≤ x ∧ x ≤ 16 ∧ j = m) → zX.1 x j = σX.1 x j := fun x j p q => by rw [hz, up1_eq, if_neg p, up1_eq, if_neg (by omega), up1_eq, if_neg (by omega), up1_eq, if_neg (by omega), up1_eq, if_neg (by omega)]
  have z7 : zX.1 12 7 = nI (m + 1) := by rw [hz, up1_eq, if_pos ⟨rfl, rfl⟩]
  have z13 : zX.1 13 m = nI a := by rw [hz, up1_eq, if_neg (by omega), up1_eq, if_neg (by omega), up1_eq, if_neg (by omega), up1_eq, if_neg (by omega), up1_eq, if_pos ⟨rfl, rfl⟩]
  have z14 : zX.1 14 m = nI b := by rw [hz, up1_eq, if_neg (by omega), up1_eq, if_neg (by omega), up1_eq, if_neg (by omega), up1_eq, if_pos ⟨rfl, rfl⟩]
  have z15 : zX.1 15 m = nI c := by rw [hz, up1_eq, if_neg (by omega), up1_eq, if_neg (by omega), up1_eq, if_pos ⟨rfl, rfl⟩]
  have z16 : zX.1 16 m = nI (2 ^ a ||| 2 ^ b) := by rw [hz, up1_eq, if_neg (by omega), up1_eq, if_pos ⟨rfl, rfl⟩]
  have ea : f_X1_addStep 12 (nI a) (nI b) (nI c) σX = some (1, zX) := by
    have k1 : ∀ y : Sg, ∀ x, (x = 13 ∨ x = 14 ∨ x = 15 ∨ x = 16) → ∀ v, (up1 y x m v).1 12 7 = y.1 12 7 := fun y x hx v => by rw [up1_eq, if_neg (by omega)]
    unfold f_X1_addStep
    rw [bind_ok ec, if_neg (by decide : ¬ (1 : Int32) = 0), hx7, if_pos elt, bind_ok (x_put (by omega) (by decide)), k1 _ _ (by omega), hx7, bind_ok (x_put (by omega) (by decide)), k1 _ _ (by omega), k1 _ _ (by omega), hx7, bind_ok (x_put (by omega) (by decide)), k1 _ _ (by omega), k1 _ _ (by omega), k1 _ _ (by omega), hx7, z_bit (by omega), z_bit (by omega), z_or, bind_ok (x_put (by omega) (by decide)), k1 _ _ (by omega), k1 _ _ (by omega), k1 _ _ (by omega), k1 _ _ (by omega), hx7, nI_1, bind_ok (pfi_eq _ _ _ _), hz]
    rfl
  have fA' : ∀ t, fA (layF F a b c) t = if t = m then a else fA F t := fun t => by rw [hmm]; rfl
  have fB' : ∀ t, fB (layF F a b c) t = if t = m then b else fB F t := fun t => by rw [hmm]; rfl
  have fC' : ∀ t, fC (layF F a b c) t = if t = m then c else fC F t := fun t => by rw [hmm]; rfl
  have fM' : fM (layF F a b c) = m + 1 := by rw [hmm]; rfl
  have hXz : FX 12 (layF F a b c) zX := by
    refine ⟨⟨by rw [oz _ _ (by omega) (by omega)]; exact hX.1.1, by rw [z7, fM'], by rw [oz _ _ (by omega) (by omega)]; exact hX.1.2.2.1, fun u hu => ?_, fun s hs => ?_⟩, by rw [oz _ _ (by omega) (by omega)]; exact hX.2.1, by rw [oz _ _ (by omega) (by omega)]; exact hX.2.2⟩
    · rw [fM'] at hu
      rw [fA', fB', fC']
      by_cases e : u = m
      · rw [if_pos e, if_pos e, if_pos e, e]; exact ⟨z13, z14, z15, z16⟩
      · rw [if_neg e, if_neg e, if_neg e, oz _ _ (by omega) (by omega), oz _ _ (by omega) (by omega), oz _ _ (by omega) (by omega), oz _ _ (by omega) (by omega)]
        exact hX.1.2.2.2.1 u (by omega)
    · rw [oz _ _ (by omega) (by omega), oz _ _ (by omega) (by omega)]; exact hX.1.2.2.2.2 s hs
  have hp : PO 3 0 F (layF F a b c) := Or.inr (Or.inr ⟨rfl, a, b, c, cm, rfl⟩)
  obtain ⟨un, u1, u2, u3, u4⟩ := UNDO_go (zX := zX) hF hM h7 (oz _ _ (by omega) (by omega)) (fun j => oz _ _ (by omega) (by omega)) (fun j => oz _ _ (by omega) (by omega)) hp
  obtain ⟨yX, n1, n2⟩ := x_note u1 u2 3 0
  obtain ⟨yM, p1, p2⟩ := m_minds u1 u3
  have hU := u4 yX yM n2 p2
  have ny := n2.2.2.2.2
  have py := p2.2.2.2
  have hXy : FX 12 (layF F a b c) yX := FX_pt (fun a j p q => ny a j (by omega) (by omega) (by omega)) hXz
  have hMy : FM 0 F yM := FM_keep (fun j p q => py 1 j (by omega) (by omega)) hm hM
  obtain ⟨wM, hw⟩ : ∃ w, w = up1 (up1 (up1 (up1 yM 1 (5 + m) (nI a)) 1 (15 + m) (nI b)) 1 (25 + m) (nI c)) 1 4 (nI (m + 1)) := ⟨_, rfl⟩
  have ow : ∀ x j, ¬ (x = 1 ∧ (j = 4 ∨ j = 5 + m ∨ j = 15 + m ∨ j = 25 + m)) → wM.1 x j = yM.1 x j := fun x j p => by rw [hw, up1_eq, if_neg (by omega), up1_eq, if_neg (by omega), up1_eq, if_neg (by omega), up1_eq, if_neg (by omega)]
  have w4 : wM.1 1 4 = nI (m + 1) := by rw [hw, up1_eq, if_pos ⟨rfl, rfl⟩]
  have w5 : wM.1 1 (5 + m) = nI a := by rw [hw, up1_eq, if_neg (by omega), up1_eq, if_neg (by omega), up1_eq, if_neg (by omega), up1_eq, if_pos ⟨rfl, rfl⟩]
  have w15 : wM.1 1 (15 + m) = nI b := by rw [hw, up1_eq, if_neg (by omega), up1_eq, if_neg (by omega), up1_eq, if_pos ⟨rfl, rfl⟩]
  have w25 : wM.1 1 (25 + m) = nI c := by rw [hw, up1_eq, if_neg (by omega), up1_eq, if_pos ⟨rfl, rfl⟩]
  have hMw : FM 0 (layF F a b c) wM := by
    refine ⟨⟨by rw [ow _ _ (by omega)]; exact hMy.1.1, by rw [fM']; exact w4, by rw [ow _ _ (by omega)]; exact hMy.1.2.2.1, fun u hu => ?_, fun s hs => ?_⟩, by rw [ow _ _ (by omega)]; exact hMy.2.1, by rw [ow _ _ (by omega)]; exact hMy.2.2⟩
    · rw [fM'] at hu
      rw [fA', fB', fC']
      by_cases e : u = m
      · rw [if_pos e, if_pos e, if_pos e, e, Nat.zero_add, Nat.zero_add, Nat.zero_add]; exact ⟨w5, w15, w25⟩
      · rw [if_neg e, if_neg e, if_neg e, ow _ _ (by omega), ow _ _ (by omega), ow _ _ (by omega)]
        exact hMy.1.2.2.2.1 u (by omega)
    · rw [ow _ _ (by omega), ow _ _ (by omega)]; exact hMy.1.2.2.2.2 s hs
  have oX : ∀ x j, ¬ (12 ≤ x ∧ x ≤ 16) → ¬ (x = 33 ∧ j = 2) → x ≠ 34 → x ≠ 35 → yX.1 x j = σX.1 x j := fun x j q1 q3 q4 q5 => by rw [ny x j q3 q4 q5, oz x j (by omega) (by omega)]
  have oM : ∀ x j, ¬ (x = 0 ∧ j = 2) → ¬ (x = 1 ∧ 165 ≤ j ∧ j < 605) → ¬ (x = 1 ∧ j < 55) → wM.1 x j = σM.1 x j := fun x j q1 q2 q3 => by rw [ow x j (by omega), py x j q1 q2]
  obtain ⟨tn, t1, t2, t3, t4⟩ := h5
  have hT : TOLD (layF F a b c) yX wM := ⟨tn, t1, by rw [oX 0 10 (by omega) (by omega) (by omega) (by omega)]; exact t2, by rw [oM 0 6 (by omega) (by omega) (by omega)]; exact t3, fun j hj => by
    obtain ⟨t, k1, k2, k3⟩ := t4 j hj
    exact ⟨t, by rw [fM']; omega, by rw [oX 41 j (by omega) (by omega) (by omega) (by omega)]; exact k2, by rw [oM 3 j (by omega) (by omega) (by omega)]; exact k3⟩⟩
  refine ⟨nI m, yX, wM, ?_, ?_, layF F a b c, hoF', hXy, hMw, TEXT_k (oX 1 1 (by omega) (by omega) (by omega) (by omega)) (fun j => oX 2 j (by omega) (by omega) (by omega) (by omega)) (oM 0 4 (by omega) (by omega) (by omega)) (fun j => oM 2 j (by omega) (by omega) (by omega)) h4, hT, KEPT_k (oX 0 11 (by omega) (by omega) (by omega) (by omega)) (fun a j p q => oX a j (by omega) (by omega) (by omega) (by omega)) (oM 0 1 (by omega) (by omega) (by omega)) (fun j p q => oM 1 j (by omega) (by omega) (by omega)) h6, UNDO_k rfl (fun _ => rfl) (fun _ => rfl) (ow 0 2 (by omega)) (fun j p q => ow 1 j (by omega)) hU⟩
  · have nb : f_X2_noteLaid zX = some yX := by
      unfold f_X2_noteLaid
      rw [bind_ok n1]
    rw [bind_ok ea, bind_ok nb, bind_ok (x_steps hXy), fM', show nI (m + 1) - 1 = nI m from pk_sub (b := 1) (by omega)]
  · have k1 : ∀ y : Sg, ∀ x v, (x = 5 + m ∨ x = 15 + m ∨ x = 25 + m) → (up1 y 1 x v).1 1 4 = y.1 1 4 := fun y x v hx => by rw [up1_eq, if_neg (by omega)]
    have hy4 : yM.1 1 4 = nI m := by rw [hmm]; exact hMy.1.2.1
    have el : f_X9_layStep 0 (nI a) (nI b) (nI c) yM = some wM := by
      unfold f_X9_layStep
      rw [show (0 : Int32) + 4 = nI 4 by decide, show (0 : Int32) + 5 = nI 5 by decide, show (0 : Int32) + 15 = nI 15 by decide, show (0 : Int32) + 25 = nI 25 by decide, bind_ok (ald_ok (by decide) (by decide)), hy4, nI_add, nI_add, nI_add, bind_ok (ast_ok (by omega) (by decide)), bind_ok (ast_ok (by omega) (by decide)), bind_ok (ast_ok (by omega) (by decide)), bind_ok (ald_ok (by decide) (by decide)), k1 _ _ _ (by omega), k1 _ _ _ (by omega), k1 _ _ _ (by omega), hy4, nI_1, bind_ok (ast_ok (by decide) (by decide)), hw]
    rw [bind_ok p1, bind_ok el, bind_ok (m_w4 hMw), fM', show nI (m + 1) - 1 = nI m from pk_sub (b := 1) (by omega)]
end
end
section
section
variable {F F' : Fl} {σX σM zX yX yM : Sg}
theorem dif_or {x c : Nat} (hx : x < 1024) (hc : c < 10) (h : x.testBit c = false) : dif (x ||| 2 ^ c) (2 ^ c) = x := by
  apply Nat.eq_of_testBit_eq
  intro i
  rw [dif_p (or10 hx (pow10 hc)), tb_or2]
  by_cases e : i = c
  · subst e; simp [h]
  · simp [e, Ne.symm e]
theorem or_dif2 {x c : Nat} (hx : x < 1024) (h : x.testBit c = true) : dif x (2 ^ c) ||| 2 ^ c = x := by
  apply Nat.eq_of_testBit_eq
  intro i
  rw [tb_or2, dif_p hx]
  by_cases e : i = c
  · subst e; simp [h]
  · simp [e, Ne.symm e]
theorem dif_no {x c : Nat} (hx : x < 1024) (h : x.testBit c = false) : dif x (2 ^ c) = x := by
  apply Nat.eq_of_testBit_eq
  intro i
  rw [dif_p hx]
  by_cases e : i = c
  · subst e; simp [h]
  · simp [e]
theorem wear_back (x : Int32) : x + 1 - 1 = x := by
  apply Int32.toBitVec_inj.1
  simp
/-- what was done is taken back -/
theorem x_back {k v : Int32} {s : Sg} (hF : OKF F) (hp : PO k v F F') (hX : FX 12 F' s) :
    ∃ y, (if k = 0 then (f_X1_untread 12 v s).bind fun q6 => f_X2_takeBackLatest_81 q6 else if k = 3 then (f_X1_removeLatestStep 12 s).bind fun q5 => f_X2_takeBackLatest_81 q5 else if k = 2 then f_X2_takeBackLatest_78 v 1 s else f_X2_takeBackLatest_78 v 0 s) = some y ∧ FX 12 F y ∧ ∀ a j, ¬ (12 ≤ a ∧ a ≤ 18) → y.1 a j = s.1 a j := by
  rcases hp with ⟨rfl, c, hc, rfl, hb, rfl⟩ | ⟨hk, c, hc, rfl, hb, hk2, rfl⟩ | ⟨rfl, a, b, c, hm, rfl⟩
  · rw [if_pos rfl]
    have h10 : s.1 12 10 = nI (fSt F ||| 2 ^ c) := hX.2.2
    have hw : s.1 18 c = fW F c + 1 := by
      have := (hX.1.2.2.2.2 c hc).2
      rw [show s.1 18 c = fW (goF F c) c from this]
      exact if_pos rfl
    refine ⟨up1 (up1 s 12 10 (nI (fSt F))) 18 c (fW F c), ?_, ?_, fun a j h => by rw [up1_eq, if_neg (by omega), up1_eq, if_neg (by omega)]⟩
    · unfold f_X1_untread
      rw [h10, z_bit (by omega), z_dif, dif_or hF.st hc hb, bind_ok (pfi_eq _ _ _ _), bind_ok (x_at (by omega) (by decide)), up1_eq, if_neg (by omega), hw, wear_back, bind_ok (x_put (by omega) (by decide))]
      rfl
    · have o : ∀ a j, ¬ (a = 12 ∧ j = 10) → ¬ (a = 18 ∧ j = c) → (up1 (up1 s 12 10 (nI (fSt F))) 18 c (fW F c)).1 a j = s.1 a j := fun a j p q => by rw [up1_eq, if_neg q, up1_eq, if_neg p]
      refine ⟨⟨by rw [o _ _ (by omega) (by omega)]; exact hX.1.1, by rw [o _ _ (by omega) (by omega)]; exact hX.1.2.1, by rw [o _ _ (by omega) (by omega)]; exact hX.1.2.2.1, fun u hu => ?_, fun i hi => ?_⟩, by rw [o _ _ (by omega) (by omega)]; exact hX.2.1, by rw [up1_eq, if_neg (by omega), up1_eq, if_pos ⟨rfl, rfl⟩]⟩
      · rw [o _ _ (by omega) (by omega), o _ _ (by omega) (by omega), o _ _ (by omega) (by omega), o _ _ (by omega) (by omega)]; exact hX.1.2.2.2.1 u hu
      · have h0 := hX.1.2.2.2.2 i hi
        refine ⟨by rw [o _ _ (by omega) (by omega)]; exact h0.1, ?_⟩
        by_cases e : i = c
        · rw [e, up1_eq, if_pos ⟨rfl, rfl⟩]
        · rw [o _ _ (by omega) (by omega), h0.2]
          exact if_neg e
  · have h9 : s.1 12 9 = nI (dif (fTh F) (2 ^ c)) := hX.2.1
    have h10 : s.1 12 10 = nI (dif (fSt F) (2 ^ c)) := hX.2.2
    have o : ∀ y : Sg, (∀ a j, ¬ (a = 12 ∧ (j = 9 ∨ j = 10)) → y.1 a j = s.1 a j) → y.1 12 9 = nI (fTh F) → y.1 12 10 = nI (fSt F) → FX 12 F y := by
      intro y o h1 h2
      refine ⟨⟨by rw [o _ _ (by omega)]; exact hX.1.1, by rw [o _ _ (by omega)]; exact hX.1.2.1, by rw [o _ _ (by omega)]; exact hX.1.2.2.1, fun u hu => ?_, fun i hi => ?_⟩, h1, h2⟩
      · rw [o _ _ (by omega), o _ _ (by omega), o _ _ (by omega), o _ _ (by omega)]; exact hX.1.2.2.2.1 u hu
      · rw [o _ _ (by omega), o _ _ (by omega)]; exact hX.1.2.2.2.2 i hi
    rcases hk with rfl | rfl
    · have hs : (fSt F).testBit c = false := by
        cases q : (fSt F).testBit c
        · rfl
        · exact absurd (hk2.mp q) (by decide)
      rw [if_neg (by decide : ¬ (1 : Int32) = 0), if_neg (by decide : ¬ (1 : Int32) = 3), if_neg (by decide : ¬ (1 : Int32) = 2)]
      refine ⟨up1 s 12 9 (nI (fTh F)), ?_, o _ (fun a j h => by rw [up1_eq, if_neg (by omega)]) (by rw [up1_eq, if_pos ⟨rfl, rfl⟩]) (by rw [up1_eq, if_neg (by omega), h10, dif_no hF.st hs]), fun a j h => by rw [up1_eq, if_neg (by omega)]⟩
      unfold f_X2_takeBackLatest_78 f_X1_putSlabBack
      rw [h9, z_bit (by omega), z_or, or_dif2 hF.th hb, bind_ok (pfi_eq _ _ _ _), if_pos rfl]
      rfl
    · have hs := hk2.mpr rfl
      rw [if_neg (by decide : ¬ (2 : Int32) = 0), if_neg (by decide : ¬ (2 : Int32) = 3), if_pos rfl]
      refine ⟨up1 (up1 s 12 9 (nI (fTh F))) 12 10 (nI (fSt F)), ?_, o _ (fun a j h => by rw [up1_eq, if_neg (by omega), up1_eq, if_neg (by omega)]) (by rw [up1_eq, if_neg (by omega), up1_eq, if_pos ⟨rfl, rfl⟩]) (by rw [up1_eq, if_pos ⟨rfl, rfl⟩]), fun a j h => by rw [up1_eq, if_neg (by omega), up1_eq, if_neg (by omega)]⟩
      unfold f_X2_takeBackLatest_78 f_X1_putSlabBack
      rw [h9, z_bit (by omega), z_or, or_dif2 hF.th hb, bind_ok (pfi_eq _ _ _ _), if_neg (by decide : ¬ (1 : Int32) = 0), up1_eq, if_neg (by omega), h10, z_or, or_dif2 hF.st hs, bind_ok (pfi_eq _ _ _ _)]
      rfl
  · rw [if_neg (by decide : ¬ (3 : Int32) = 0), if_pos rfl]
    have h7 : s.1 12 7 = nI (fM F + 1) := hX.1.2.1
    have o : ∀ x j, ¬ (x = 12 ∧ j = 7) → (up1 s 12 7 (nI (fM F))).1 x j = s.1 x j := fun x j p => by rw [up1_eq, if_neg p]
    refine ⟨up1 s 12 7 (nI (fM F)), ?_, ?_, fun a j h => o a j (by omega)⟩
    · unfold f_X1_removeLatestStep
      rw [h7, if_neg (show ¬ nI (fM F + 1) ≤ (0 : Int32) from nI_ge (a := 0) (b := fM F + 1) (by omega) (by omega)), show nI (fM F + 1) - 1 = nI (fM F) from pk_sub (b := 1) (by omega), bind_ok (pfi_eq _ _ _ _)]
      rfl
    · refine ⟨⟨by rw [o _ _ (by omega)]; exact hX.1.1, by rw [up1_eq, if_pos ⟨rfl, rfl⟩], by rw [o _ _ (by omega)]; exact hX.1.2.2.1, fun u hu => ?_, fun i hi => ?_⟩, by rw [o _ _ (by omega)]; exact hX.2.1, by rw [o _ _ (by omega)]; exact hX.2.2⟩
      · have h0 := hX.1.2.2.2.1 u (show u < fM F + 1 by omega)
        rw [o _ _ (by omega), o _ _ (by omega), o _ _ (by omega), o _ _ (by omega)]
        rw [show fA (layF F a b c) u = fA F u from if_neg (by omega), show fB (layF F a b c) u = fB F u from if_neg (by omega), show fC (layF F a b c) u = fC F u from if_neg (by omega)] at h0
        exact h0
      · rw [o _ _ (by omega), o _ _ (by omega)]; exact hX.1.2.2.2.2 i hi
/-- promise 11: undo -/
theorem s_9 : simC9 Sim := fun σX σM ⟨F, h⟩ => by
  have hb := h
  obtain ⟨hF, hX, hM, h4, h5, h6, ⟨un, u1, u2, u3, G, u4, u5⟩⟩ := h
  unfold f_X8_undo f_X9_undo f_X2_size
  rw [u2, u3]
  show ∃ r σX2 σM2, (if nI un = 0 then _ else _) = some (r, σX2) ∧ _
  cases un with
  | zero =>
    rw [if_pos z_e0, if_pos z_e0]
    exact ⟨_, _, _, rfl, rfl, F, hb⟩
  | succ n =>
    have ed : nI (n + 1) - 1 = nI n := pk_sub (b := 1) (by omega)
    obtain ⟨g1, g2, g3⟩ := u5 n (by omega)
    rw [u4] at g3
    rw [if_neg (z_ne0 (a := n + 1) (by omega) (by omega)), if_neg (z_ne0 (a := n + 1) (by omega) (by omega)), ed, bind_ok (pfi_eq _ _ _ _)]
    have y1 : (up1 σM 0 2 (nI n)).1 0 2 = nI n := by rw [up1_eq, if_pos ⟨rfl, rfl⟩]
    obtain ⟨y, f1, f2⟩ := m_copy (r1 := 165 + 55 * n) (r2 := 0) (σ := up1 σM 0 2 (nI n)) (by omega) (by omega) (by omega)
    have s2 : (up1 σX 33 2 (nI n)).1 33 2 = nI n := by rw [up1_eq, if_pos ⟨rfl, rfl⟩]
    obtain ⟨z, e1, e2, e3⟩ := x_back (s := up1 σX 33 2 (nI n)) g1 g3 (FX_pt (fun a j p q => by rw [up1_eq, if_neg (by omega)]) hX)
    have s34 : (up1 σX 33 2 (nI n)).1 34 n = σX.1 34 n := by rw [up1_eq, if_neg (by omega)]
    have s35 : (up1 σX 33 2 (nI n)).1 35 n = σX.1 35 n := by rw [up1_eq, if_neg (by omega)]
    have f1' : f_X9_copy (nI (165 + 55 * n)) 0 (up1 σM 0 2 (nI n)) = some y := f1
    have et : f_X2_takeBackLatest σX = some z := by
      unfold f_X2_takeBackLatest
      rw [u2, if_neg (z_ne0 (a := n + 1) (by omega) (by omega)), ed, bind_ok (pfi_eq _ _ _ _), s2, bind_ok (x_at (by omega) (by decide)), bind_ok (x_at (by omega) (by decide)), s34, s35, e1]
    have oX : ∀ a j, ¬ (12 ≤ a ∧ a ≤ 18) → ¬ (a = 33 ∧ j = 2) → ¬ (a = 0 ∧ j = 10) → (up1 z 0 10 0).1 a j = σX.1 a j := fun a j p q r => by rw [up1_eq, if_neg r, e3 a j p, up1_eq, if_neg q]
    have oM : ∀ a j, ¬ (a = 1 ∧ j < 55) → ¬ (a = 0 ∧ j = 2) → ¬ (a = 0 ∧ j = 6) → (up1 y 0 6 0).1 a j = σM.1 a j := fun a j p q r => by rw [up1_eq, if_neg r, f2, if_neg (by omega), up1_eq, if_neg q]
    have x3 : (up1 z 0 10 0).1 33 2 = nI n := by rw [up1_eq, if_neg (by omega), e3 33 2 (by omega), s2]
    have y3 : (up1 y 0 6 0).1 0 2 = nI n := by rw [up1_eq, if_neg (by omega), f2, if_neg (by omega), y1]
    refine ⟨nI n, up1 z 0 10 0, up1 y 0 6 0, ?_, ?_, G n, g1, FX_pt (fun a j p q => by rw [up1_eq, if_neg (by omega)]) e2, FM_move (r1 := 165 + 55 * n) (fun j hj => ?_) g1.m10 g2, TEXT_k (oX 1 1 (by omega) (by omega) (by omega)) (fun j => oX 2 j (by omega) (by omega) (by omega)) (oM 0 4 (by omega) (by omega) (by omega)) (fun j => oM 2 j (by omega) (by omega) (by omega)) h4, TOLD_0 (by rw [up1_eq, if_pos ⟨rfl, rfl⟩]) (by rw [up1_eq, if_pos ⟨rfl, rfl⟩]), KEPT_k (oX 0 11 (by omega) (by omega) (by omega)) (fun a j p q => oX a j (by omega) (by omega) (by omega)) (oM 0 1 (by omega) (by omega) (by omega)) (fun j p q => oM 1 j (by omega) (by omega) (by omega)) h6, ⟨n, by omega, x3, y3, G, rfl, fun i hi => ?_⟩⟩
    · rw [bind_ok et, bind_ok (pfi_eq _ _ _ _)]
      show some ((up1 z 0 10 0).1 33 2, up1 z 0 10 0) = _
      rw [x3]
    · rw [y1, z_lit 165, z_pl, bind_ok f1', bind_ok (pfi_eq _ _ _ _)]
      show some ((up1 y 0 6 0).1 0 2, up1 y 0 6 0) = _
      rw [y3]
    · rw [up1_eq, if_neg (by omega), f2, if_pos ⟨rfl, by omega, by omega⟩, up1_eq, if_neg (by omega)]
      exact congrArg (σM.1 1) (by omega)
    · obtain ⟨k1, k2, k3⟩ := u5 i (by omega)
      rw [oX 34 i (by omega) (by omega) (by omega), oX 35 i (by omega) (by omega) (by omega)]
      exact ⟨k1, FM_keep (fun j p q => oM 1 j (by omega) (by omega) (by omega)) k1.m10 k2, k3⟩
end
end
section
-- the numbers of a text
def fg (tx : Nat → Nat) (len j : Nat) : Bool := decide (j < len) && (decide (48 ≤ tx j) && decide (tx j ≤ 57))
def sep (i k : Nat) : Nat := if i + 1 = k then 59 else 44
def num (tx : Nat → Nat) (len p s : Nat) : Option (Nat × Nat) :=
  if fg tx len p = true then
    (if fg tx len (p + 1) = true then (if p + 2 < len ∧ tx (p + 2) = s then some (10 * (tx p - 48) + (tx (p + 1) - 48), p + 3) else none)
     else (if p + 1 < len ∧ tx (p + 1) = s then some (tx p - 48, p + 2) else none))
  else none
def BX (tx : Nat → Nat) (len : Nat) (z : Sg) : Prop := z.1 1 1 = nI len ∧ ∀ j, j < len → z.1 2 j = nI (tx j)
def BM (tx : Nat → Nat) (len : Nat) (z : Sg) : Prop := z.1 0 4 = nI len ∧ ∀ j, j < len → z.1 2 j = nI (tx j)
theorem t_fig : ∀ t, t < 256 → f_X4_isFigure (nI t) = some (bz (decide (48 ≤ t) && decide (t ≤ 57))) := by decide +kernel
theorem t_fig1 : f_X4_isFigure (-1) = some 0 := by decide +kernel
theorem t_in : ∀ t, t < 256 → f_X9_in (nI t).toInt64 48 57 = some (bz (decide (48 ≤ t) && decide (t ≤ 57))) := by decide +kernel
theorem fg_y {tx : Nat → Nat} {len j : Nat} (h : fg tx len j = true) : j < len ∧ 48 ≤ tx j ∧ tx j ≤ 57 := by
  unfold fg at h
  simp only [Bool.and_eq_true, decide_eq_true_eq] at h
  exact h
theorem fg_in {tx : Nat → Nat} {len j : Nat} (h : j < len) : fg tx len j = (decide (48 ≤ tx j) && decide (tx j ≤ 57)) := by
  unfold fg
  rw [decide_eq_true h, Bool.true_and]
theorem fg_out {tx : Nat → Nat} {len j : Nat} (h : ¬ j < len) : fg tx len j = false := by
  unfold fg
  rw [decide_eq_false h, Bool.false_and]
section
variable {tx : Nat → Nat} {len : Nat} {z : Sg}
theorem x_byte (hl : len ≤ 300) (h : BX tx len z) {j : Nat} (hj : j < 1000) : f_X6_byteAt (nI j) z = some (if j < len then nI (tx j) else -1) := by
  unfold f_X6_byteAt f_X6_byteAt_23 f_X6_byteAt_24
  rw [if_neg (nI_pos (by omega)), h.1]
  by_cases c : j < len
  · rw [if_neg (nI_ge c (by omega)), if_pos c, bind_ok (x_at (by omega) (by decide)), h.2 j c]
  · rw [if_pos (nI_le (by omega) (by omega)), if_neg c]
theorem x_isFig (ht : ∀ j, j < len → tx j < 256) (j : Nat) : f_X4_isFigure (if j < len then nI (tx j) else -1) = some (bz (fg tx len j)) := by
  by_cases c : j < len
  · rw [if_pos c, t_fig _ (ht j c), fg_in c]
  · rw [if_neg c, t_fig1, fg_out c]; rfl
def figs (tx : Nat → Nat) (len p : Nat) : Nat := if fg tx len p = true then (if fg tx len (p + 1) = true then 2 else 1) else 0
theorem x_figs (hl : len ≤ 300) (ht : ∀ j, j < len → tx j < 256) (h : BX tx len z) {p : Nat} (hp : p < 900) : f_X4_figuresAt (nI p) z = some (nI (figs tx len p)) := by
  unfold f_X4_figuresAt f_X4_figuresAt_31 figs
  rw [bind_ok (x_byte hl h (by omega)), bind_ok (x_isFig ht p)]
  cases c : fg tx len p
  · rw [bz_f, if_pos rfl, if_neg (by decide)]; rfl
  rw [bz_t, if_neg (by decide : ¬ (1 : Int32) = 0), nI_1, bind_ok (x_byte hl h (by omega)), bind_ok (x_isFig ht (p + 1)), if_pos rfl]
  cases c2 : fg tx len (p + 1)
  · rw [bz_f, if_pos rfl, if_neg (by decide)]; rfl
  · rw [bz_t, if_neg (by decide : ¬ (1 : Int32) = 0), if_pos rfl]; rfl
theorem z_num {v t : Nat} (h : 48 ≤ t) : (10 : Int32) * nI v + nI t - 48 = nI (10 * v + (t - 48)) := by
  rw [z_lit 10, z_mul, nI_add, z_lit 48, pk_sub (by omega), show 10 * v + t - 48 = 10 * v + (t - 48) by omega]
theorem x_num_s (hl : len ≤ 300) (h : BX tx len z) {p k c v : Nat} (hk : k ≤ 2) (hc : c < k) (hp : p < 900) (hf : fg tx len (p + c) = true) : f_X4_numberAt_5s (nI p) (nI k) (nI v) (nI c) z = some (.inl (nI (10 * v + (tx (p + c) - 48)), nI (c + 1))) := by
  have hq := fg_y hf
  unfold f_X4_numberAt_5s
  rw [if_neg (nI_ge hc (by omega)), nI_add, bind_ok (x_byte hl h (by omega)), if_pos hq.1, nm_eq, nm_eq, z_num hq.2.1, nI_1]
theorem x_num_e {p k v : Nat} (hk : k ≤ 2) : f_X4_numberAt_5s (nI p) (nI k) (nI v) (nI k) z = some (.inr (nI v)) := by
  unfold f_X4_numberAt_5s
  rw [if_pos (nI_le (Nat.le_refl _) (by omega))]
theorem x_num1 (hl : len ≤ 300) (h : BX tx len z) {p : Nat} (hp : p < 900) (h1 : fg tx len p = true) : f_X4_numberAt (nI p) (nI 1) z = some (nI (tx p - 48)) := by
  have e1 := x_num_s hl h (p := p) (k := 1) (c := 0) (v := 0) (by decide) (by decide) hp h1
  have e2 := x_num_e (z := z) (p := p) (k := 1) (v := 10 * 0 + (tx (p + 0) - 48)) (by decide)
  unfold f_X4_numberAt f_X4_numberAt_5
  show itr (2999 + 1) (fun s => f_X4_numberAt_5s (nI p) (nI 1) s.1 s.2 z) (nI 0, nI 0) = _
  rw [itr_in e1, itr_out (n := 2998) e2]
  rw [Nat.mul_zero, Nat.zero_add, Nat.add_zero]
theorem x_num2 (hl : len ≤ 300) (h : BX tx len z) {p : Nat} (hp : p < 900) (h1 : fg tx len p = true) (h2 : fg tx len (p + 1) = true) : f_X4_numberAt (nI p) (nI 2) z = some (nI (10 * (tx p - 48) + (tx (p + 1) - 48))) := by
  have e1 := x_num_s hl h (p := p) (k := 2) (c := 0) (v := 0) (by decide) (by decide) hp h1
  have e2 := x_num_s hl h (p := p) (k := 2) (c := 1) (v := 10 * 0 + (tx (p + 0) - 48)) (by decide) (by decide) hp h2
  have e3 := x_num_e (z := z) (p := p) (k := 2) (v := 10 * (10 * 0 + (tx (p + 0) - 48)) + (tx (p + 1) - 48)) (by decide)
  unfold f_X4_numberAt f_X4_numberAt_5
  show itr (2999 + 1) (fun s => f_X4_numberAt_5s (nI p) (nI 2) s.1 s.2 z) (nI 0, nI 0) = _
  rw [itr_in e1, itr_in (n := 2998) e2, itr_out (n := 2997) e3]
  rw [Nat.mul_zero, Nat.zero_add, Nat.add_zero]
/-- one number in the class -/
theorem x_one (hl : len ≤ 300) (ht : ∀ j, j < len → tx j < 256) (h : BX tx len z) {p i k : Nat} (hp : p ≤ len) (hi : i < k) (hk : k ≤ 3) :
    ∃ z', (∀ a, a ≠ 4 → z'.1 a = z.1 a) ∧ ((num tx len p (sep i k) = none ∧ f_X4_itemsEnd_23s (nI k) (nI p) (nI i) z = some (.inr (-1, z'))) ∨ ∃ n q, num tx len p (sep i k) = some (n, q) ∧ z' = up1 z 4 i (nI n) ∧ f_X4_itemsEnd_23s (nI k) (nI p) (nI i) z = some (.inl (nI q, nI (i + 1), z'))) := by
  unfold f_X4_itemsEnd_23s
  rw [if_neg (nI_ge hi (by omega)), bind_ok (x_figs hl ht h (by omega))]
  have up4 : ∀ n, ∀ a, a ≠ 4 → (up1 z 4 i (nI n)).1 a = z.1 a := fun n a ha => funext (fun j => by rw [up1_eq, if_neg (fun q => ha q.1)])
  -- the sign after the number
  have tail : ∀ n f q, f ≤ 2 → q = p + f + 1 → num tx len p (sep i k) = (if p + f < len ∧ tx (p + f) = sep i k then some (n, q) else none) →
      ∃ z', (∀ a, a ≠ 4 → z'.1 a = z.1 a) ∧ ((num tx len p (sep i k) = none ∧ ((f_X8_put 4 3 (nI i) (nI n) z).bind fun q6 => if nI i = nI k - 1 then f_X4_itemsEnd_76 (nI k) (nI p) (nI i) (nI f) 59 q6 else f_X4_itemsEnd_76 (nI k) (nI p) (nI i) (nI f) 44 q6) = some (.inr (-1, z'))) ∨ ∃ n2 q2, num tx len p (sep i k) = some (n2, q2) ∧ z' = up1 z 4 i (nI n2) ∧ ((f_X8_put 4 3 (nI i) (nI n) z).bind fun q6 => if nI i = nI k - 1 then f_X4_itemsEnd_76 (nI k) (nI p) (nI i) (nI f) 59 q6 else f_X4_itemsEnd_76 (nI k) (nI p) (nI i) (nI f) 44 q6) = some (.inl (nI q2, nI (i + 1), z'))) := by
    intro n f q hf hq hn
    have hB : BX tx len (up1 z 4 i (nI n)) := ⟨by rw [up4 n 1 (by decide)]; exact h.1, fun j hj => by rw [up4 n 2 (by decide)]; exact h.2 j hj⟩
    have e76 : ∀ s, s < 256 → f_X4_itemsEnd_76 (nI k) (nI p) (nI i) (nI f) (nI s) (up1 z 4 i (nI n)) = if p + f < len ∧ tx (p + f) = s then some (.inl (nI q, nI (i + 1), up1 z 4 i (nI n))) else some (.inr (-1, up1 z 4 i (nI n))) := by
      intro s hs
      unfold f_X4_itemsEnd_76
      rw [nI_add, bind_ok (x_byte hl hB (by omega))]
      by_cases c : p + f < len
      · rw [if_pos c]
        by_cases c2 : tx (p + f) = s
        · rw [if_pos (show nI (tx (p + f)) = nI s by rw [c2]), if_pos ⟨c, c2⟩, nm_eq, nm_eq, nI_1, nI_1, nI_add, hq]; rfl
        · rw [if_neg (fun w => c2 ((nI_eq (a := tx (p + f)) (b := s) (by have := ht _ c; omega) (by omega)).mp w)), if_neg (fun w => c2 w.2)]
      · rw [if_neg c, if_neg (fun w => (nI_neg (j := s) (by omega)).1 w.symm), if_neg (fun w => c w.1)]
    have both : ((f_X8_put 4 3 (nI i) (nI n) z).bind fun q6 => if nI i = nI k - 1 then f_X4_itemsEnd_76 (nI k) (nI p) (nI i) (nI f) 59 q6 else f_X4_itemsEnd_76 (nI k) (nI p) (nI i) (nI f) 44 q6) = if p + f < len ∧ tx (p + f) = sep i k then some (.inl (nI q, nI (i + 1), up1 z 4 i (nI n))) else some (.inr (-1, up1 z 4 i (nI n))) := by
      rw [bind_ok (x_put (by omega) (by decide)), show nI k - 1 = nI (k - 1) from pk_sub (b := 1) (by omega)]
      unfold sep
      by_cases c : i + 1 = k
      · rw [if_pos (show nI i = nI (k - 1) by rw [show k - 1 = i by omega]), if_pos c]
        exact e76 59 (by decide)
      · rw [if_neg (fun w => by have := (nI_eq (a := i) (b := k - 1) (by omega) (by omega)).mp w; omega), if_neg c]
        exact e76 44 (by decide)
    refine ⟨up1 z 4 i (nI n), up4 n, ?_⟩
    rw [both, hn]
    by_cases c : p + f < len ∧ tx (p + f) = sep i k
    · rw [if_pos c, if_pos c]; exact Or.inr ⟨n, q, rfl, rfl, rfl⟩
    · rw [if_neg c, if_neg c]; exact Or.inl ⟨rfl, rfl⟩
  cases c1 : fg tx len p
  · have e0 : figs tx len p = 0 := by unfold figs; rw [c1]; rfl
    have en : num tx len p (sep i k) = none := by unfold num; rw [c1]; rfl
    rw [e0, if_pos z_e0]
    exact ⟨z, fun _ _ => rfl, Or.inl ⟨en, rfl⟩⟩
  cases c2 : fg tx len (p + 1)
  · have e0 : figs tx len p = 1 := by unfold figs; rw [c1, c2]; rfl
    rw [e0, if_neg (by decide : ¬ nI 1 = 0), bind_ok (x_num1 hl h (by omega) c1)]
    exact tail _ 1 _ (by decide) rfl (by unfold num; rw [c1, c2, if_pos rfl, if_neg (by decide)])
  · have e0 : figs tx len p = 2 := by unfold figs; rw [c1, c2]; rfl
    rw [e0, if_neg (by decide : ¬ nI 2 = 0), bind_ok (x_num2 hl h (by omega) c1 c2)]
    exact tail _ 2 _ (by decide) rfl (by unfold num; rw [c1, c2, if_pos rfl, if_pos rfl])
end
end
section
section
variable {tx : Nat → Nat} {len : Nat} {z : Sg}
theorem BM_at (h : BM tx len z) (p : Nat) : BM tx len (up1 z 0 7 (nI p)) := ⟨by rw [up1_eq, if_neg (by omega)]; exact h.1, fun j hj => by rw [up1_eq, if_neg (by omega)]; exact h.2 j hj⟩
theorem m_in15 (hl : len ≤ 300) (ht : ∀ j, j < len → tx j < 256) (h : BM tx len z) {p c v : Nat} {k i : Int32} (hat : z.1 0 7 = nI (p + c)) (hc : c < 3) (hp : p ≤ len) (hf : fg tx len (p + c) = true) :
    f_X9_takes_15s k i (nI p) (nI v) z = some (.inl (nI (10 * v + (tx (p + c) - 48)), up1 z 0 7 (nI (p + c + 1)))) := by
  have hq := fg_y hf
  unfold f_X9_takes_15s
  rw [h.1, hat, if_neg (nI_ge hq.1 (by omega)), pk_sub (by omega), Nat.add_sub_cancel_left, if_neg (show ¬ (3 : Int32) ≤ nI c from nI_ge (a := c) (b := 3) hc (by decide)), bind_ok (ald_ok (by omega) (by decide)), h.2 _ hq.1, bind_ok (t_in _ (ht _ hq.1)), ← fg_in hq.1, hf, bz_t, if_neg (by decide : ¬ (1 : Int32) = 0), bind_ok (ald_ok (by omega) (by decide)), h.2 _ hq.1, z_num hq.2.1, nm_eq, nI_1, bind_ok (pfi_eq _ _ _ _)]
theorem m_out15 (hl : len ≤ 300) (ht : ∀ j, j < len → tx j < 256) (h : BM tx len z) {p c v : Nat} {k i : Int32} (hat : z.1 0 7 = nI (p + c)) (hc : c ≤ 3) (hp : p ≤ len) (hf : c = 3 ∨ fg tx len (p + c) = false) :
    f_X9_takes_15s k i (nI p) (nI v) z = (f_X9_takes_91 k i (nI p) (nI v) z).map (fun w => .inr w) := by
  unfold f_X9_takes_15s
  rw [h.1, hat]
  by_cases c1 : p + c < len
  · rw [if_neg (nI_ge c1 (by omega)), pk_sub (by omega), Nat.add_sub_cancel_left]
    by_cases c2 : c = 3
    · rw [c2, if_pos (by decide)]
    · rw [if_neg (show ¬ (3 : Int32) ≤ nI c from nI_ge (a := c) (b := 3) (by omega) (by decide)), bind_ok (ald_ok (by omega) (by decide)), h.2 _ c1, bind_ok (t_in _ (ht _ c1)), ← fg_in c1, hf.resolve_left c2, bz_f, if_pos rfl]
  · rw [if_pos (nI_le (by omega) (by omega))]
/-- the sign after the number -/
theorem m_91 (hl : len ≤ 300) (ht : ∀ j, j < len → tx j < 256) (h : BM tx len z) {p c v k i : Nat} (hat : z.1 0 7 = nI (p + c)) (hp : p ≤ len) (hpc : p + c ≤ len) (hi : i < k) (hk : k ≤ 3) :
    f_X9_takes_91 (nI k) (nI i) (nI p) (nI v) z = if 1 ≤ c ∧ c ≤ 2 ∧ p + c < len ∧ tx (p + c) = sep i k then some (.inl (nI (i + 1), up1 (up1 z 4 i (nI v)) 0 7 (nI (p + c + 1)))) else some (.inr (0, z)) := by
  have no : (f_X9_takes_146 z).map (fun w => (Sum.inr w : (Int32 × Sg) ⊕ (Int32 × Sg))) = some (.inr (0, z)) := rfl
  unfold f_X9_takes_91
  rw [hat, h.1]
  by_cases c0 : c = 0
  · rw [if_pos (show nI (p + c) = nI p by rw [c0]; rfl), no, if_neg (fun q => by omega)]
  rw [if_neg (fun q => by have := (nI_eq (a := p + c) (b := p) (by omega) (by omega)).mp q; omega), pk_sub (by omega), Nat.add_sub_cancel_left]
  by_cases c1 : 2 < c
  · rw [if_pos (show (2 : Int32) < nI c from nI_lt (a := 2) c1 (by omega)), no, if_neg (fun q => by omega)]
  rw [if_neg (show ¬ (2 : Int32) < nI c from nI_nlt (a := 2) (b := c) (by omega) (by decide))]
  by_cases c2 : p + c < len
  case neg => rw [if_pos (show nI (p + c) = nI len by rw [show p + c = len by omega]), no, if_neg (fun q => c2 q.2.2.1)]
  have e143 : ∀ s, s < 256 → f_X9_takes_143 (nI k) (nI i) (nI v) (nI (tx (p + c))) (nI s) z = if tx (p + c) = s then some (.inl (nI (i + 1), up1 (up1 z 4 i (nI v)) 0 7 (nI (p + c + 1)))) else some (.inr (0, z)) := by
    intro s hs
    have hb := ht _ c2
    unfold f_X9_takes_143
    by_cases c3 : tx (p + c) = s
    · rw [if_pos (show nI (tx (p + c)) = nI s by rw [c3]), if_pos c3, bind_ok (ast_ok (by omega) (by decide)), up1_eq, if_neg (by omega), hat, nI_1, bind_ok (pfi_eq _ _ _ _), nm_eq, nI_1]
    · rw [if_neg (fun w => c3 ((nI_eq (a := tx (p + c)) (b := s) (by omega) (by omega)).mp w)), if_neg c3, no]
  rw [if_neg (fun q => by have := (nI_eq (a := p + c) (b := len) (by omega) (by omega)).mp q; omega), bind_ok (ald_ok (by omega) (by decide)), h.2 _ c2, show nI k - 1 = nI (k - 1) from pk_sub (b := 1) (by omega)]
  have fin : (if tx (p + c) = sep i k then some (Sum.inl (nI (i + 1), up1 (up1 z 4 i (nI v)) 0 7 (nI (p + c + 1)))) else some (.inr (0, z)) : Option ((Int32 × Sg) ⊕ (Int32 × Sg))) = if 1 ≤ c ∧ c ≤ 2 ∧ p + c < len ∧ tx (p + c) = sep i k then some (.inl (nI (i + 1), up1 (up1 z 4 i (nI v)) 0 7 (nI (p + c + 1)))) else some (.inr (0, z)) := by
    by_cases c4 : tx (p + c) = sep i k
    · rw [if_pos c4, if_pos ⟨by omega, by omega, c2, c4⟩]
    · rw [if_neg c4, if_neg (fun q => c4 q.2.2.2)]
  rw [← fin]
  unfold sep
  by_cases c3 : i + 1 = k
  · rw [if_pos (show nI i = nI (k - 1) by rw [show k - 1 = i by omega]), if_pos c3]
    exact e143 59 (by decide)
  · rw [if_neg (fun w => by have := (nI_eq (a := i) (b := k - 1) (by omega) (by omega)).mp w; omega), if_neg c3]
    exact e143 44 (by decide)
/-- one number in the reference -/
theorem m_one (hl : len ≤ 300) (ht : ∀ j, j < len → tx j < 256) (h : BM tx len z) {p i k : Nat} (hat : z.1 0 7 = nI p) (hp : p ≤ len) (hi : i < k) (hk : k ≤ 3) :
    ∃ z', (∀ a j, a ≠ 4 → ¬ (a = 0 ∧ j = 7) → z'.1 a j = z.1 a j) ∧ ((num tx len p (sep i k) = none ∧ f_X9_takes_2s (nI k) (nI i) z = some (.inr (0, z'))) ∨ ∃ n q, num tx len p (sep i k) = some (n, q) ∧ f_X9_takes_2s (nI k) (nI i) z = some (.inl (nI (i + 1), z')) ∧ z'.1 0 7 = nI q ∧ z'.1 4 i = nI n ∧ ∀ j, j ≠ i → z'.1 4 j = z.1 4 j) := by
  unfold f_X9_takes_2s
  rw [if_neg (nI_ge hi (by omega)), hat, nm_eq]
  unfold f_X9_takes_15
  -- after c figures
  have tail : ∀ c v (y : Sg) (N : Nat), c ≤ 3 → p + c ≤ len → (c = 3 ∨ fg tx len (p + c) = false) → BM tx len y → y.1 0 7 = nI (p + c) → (∀ a j, ¬ (a = 0 ∧ j = 7) → y.1 a j = z.1 a j) →
      num tx len p (sep i k) = (if 1 ≤ c ∧ c ≤ 2 ∧ p + c < len ∧ tx (p + c) = sep i k then some (v, p + c + 1) else none) →
      ∃ z', (∀ a j, a ≠ 4 → ¬ (a = 0 ∧ j = 7) → z'.1 a j = z.1 a j) ∧ ((num tx len p (sep i k) = none ∧ itr (N + 1) (fun s => f_X9_takes_15s (nI k) (nI i) (nI p) s.1 s.2) (nI v, y) = some (.inr (0, z'))) ∨ ∃ n q, num tx len p (sep i k) = some (n, q) ∧ itr (N + 1) (fun s => f_X9_takes_15s (nI k) (nI i) (nI p) s.1 s.2) (nI v, y) = some (.inl (nI (i + 1), z')) ∧ z'.1 0 7 = nI q ∧ z'.1 4 i = nI n ∧ ∀ j, j ≠ i → z'.1 4 j = z.1 4 j) := by
    intro c v y N hc hpc hf hB hy hs hn
    have e1 := m_out15 hl ht hB (k := nI k) (i := nI i) (v := v) hy hc hp hf
    rw [m_91 hl ht hB (v := v) hy hp hpc hi hk] at e1
    by_cases q : 1 ≤ c ∧ c ≤ 2 ∧ p + c < len ∧ tx (p + c) = sep i k
    · rw [if_pos q] at e1 hn
      refine ⟨up1 (up1 y 4 i (nI v)) 0 7 (nI (p + c + 1)), fun a j h1 h2 => by rw [up1_eq, if_neg h2, up1_eq, if_neg (fun w => h1 w.1), hs a j h2], Or.inr ⟨v, p + c + 1, hn, itr_out e1, by rw [up1_eq, if_pos ⟨rfl, rfl⟩], by rw [up1_eq, if_neg (by omega), up1_eq, if_pos ⟨rfl, rfl⟩], fun j hj => by rw [up1_eq, if_neg (by omega), up1_eq, if_neg (fun w => hj w.2), hs 4 j (by omega)]⟩⟩
    · rw [if_neg q] at e1 hn
      exact ⟨y, fun a j _ h2 => hs a j h2, Or.inl ⟨hn, itr_out e1⟩⟩
  have sep_nf : ∀ j, fg tx len j = true → tx j ≠ sep i k := fun j hj e => by
    have := fg_y hj
    rw [e] at this
    unfold sep at this
    split at this <;> omega
  cases c1 : fg tx len p
  · refine tail 0 0 z 2999 (by decide) hp (Or.inr c1) h hat (fun _ _ _ => rfl) ?_
    unfold num
    rw [c1, if_neg (by decide), if_neg (fun q => by omega)]
  have q1 := fg_y c1
  have e1 := m_in15 hl ht h (k := nI k) (i := nI i) (c := 0) (v := 0) hat (by decide) hp c1
  rw [Nat.mul_zero, Nat.zero_add, Nat.add_zero] at e1
  have B1 := BM_at h (p + 1)
  have a1 : (up1 z 0 7 (nI (p + 1))).1 0 7 = nI (p + 1) := by rw [up1_eq, if_pos ⟨rfl, rfl⟩]
  have s1 : ∀ a j, ¬ (a = 0 ∧ j = 7) → (up1 z 0 7 (nI (p + 1))).1 a j = z.1 a j := fun a j hq => by rw [up1_eq, if_neg hq]
  rw [show itr 3000 (fun s => f_X9_takes_15s (nI k) (nI i) (nI p) s.1 s.2) (0, z) = itr 2999 (fun s => f_X9_takes_15s (nI k) (nI i) (nI p) s.1 s.2) (nI (tx p - 48), up1 z 0 7 (nI (p + 1))) from itr_in (n := 2999) e1]
  cases c2 : fg tx len (p + 1)
  · refine tail 1 (tx p - 48) _ 2998 (by decide) (by omega) (Or.inr c2) B1 a1 s1 ?_
    unfold num
    rw [c1, c2, if_pos rfl, if_neg (by decide)]
    by_cases q : p + 1 < len ∧ tx (p + 1) = sep i k
    · rw [if_pos q, if_pos ⟨by decide, by decide, q⟩]
    · rw [if_neg q, if_neg (fun w => q w.2.2)]
  have q2 := fg_y c2
  have e2 := m_in15 hl ht B1 (k := nI k) (i := nI i) (c := 1) (v := tx p - 48) a1 (by decide) hp c2
  have B2 := BM_at B1 (p + 1 + 1)
  have a2 : (up1 (up1 z 0 7 (nI (p + 1))) 0 7 (nI (p + 1 + 1))).1 0 7 = nI (p + 2) := by rw [up1_eq, if_pos ⟨rfl, rfl⟩]
  have s2 : ∀ a j, ¬ (a = 0 ∧ j = 7) → (up1 (up1 z 0 7 (nI (p + 1))) 0 7 (nI (p + 1 + 1))).1 a j = z.1 a j := fun a j hq => by rw [up1_eq, if_neg hq, s1 a j hq]
  rw [show itr 2999 (fun s => f_X9_takes_15s (nI k) (nI i) (nI p) s.1 s.2) (nI (tx p - 48), up1 z 0 7 (nI (p + 1))) = itr 2998 (fun s => f_X9_takes_15s (nI k) (nI i) (nI p) s.1 s.2) (nI (10 * (tx p - 48) + (tx (p + 1) - 48)), up1 (up1 z 0 7 (nI (p + 1))) 0 7 (nI (p + 1 + 1))) from itr_in (n := 2998) e2]
  cases c3 : fg tx len (p + 2)
  · refine tail 2 (10 * (tx p - 48) + (tx (p + 1) - 48)) _ 2997 (by decide) (by omega) (Or.inr c3) B2 a2 s2 ?_
    unfold num
    rw [c1, c2, if_pos rfl, if_pos rfl]
    by_cases q : p + 2 < len ∧ tx (p + 2) = sep i k
    · rw [if_pos q, if_pos ⟨by decide, by decide, q⟩]
    · rw [if_neg q, if_neg (fun w => q w.2.2)]
  have q3 := fg_y c3
  have e3 := m_in15 hl ht B2 (k := nI k) (i := nI i) (c := 2) (v := 10 * (tx p - 48) + (tx (p + 1) - 48)) a2 (by decide) hp c3
  have B3 := BM_at B2 (p + 2 + 1)
  rw [show itr 2998 (fun s => f_X9_takes_15s (nI k) (nI i) (nI p) s.1 s.2) (nI (10 * (tx p - 48) + (tx (p + 1) - 48)), up1 (up1 z 0 7 (nI (p + 1))) 0 7 (nI (p + 1 + 1))) = itr 2997 (fun s => f_X9_takes_15s (nI k) (nI i) (nI p) s.1 s.2) (nI (10 * (10 * (tx p - 48) + (tx (p + 1) - 48)) + (tx (p + 2) - 48)), up1 (up1 (up1 z 0 7 (nI (p + 1))) 0 7 (nI (p + 1 + 1))) 0 7 (nI (p + 2 + 1))) from itr_in (n := 2997) e3]
  refine tail 3 _ _ 2996 (by decide) (by omega) (Or.inl rfl) B3 (by rw [up1_eq, if_pos ⟨rfl, rfl⟩]) (fun a j hq => by rw [up1_eq, if_neg hq, s2 a j hq]) ?_
  unfold num
  rw [c1, c2, if_pos rfl, if_pos rfl, if_neg (fun q => sep_nf _ c3 q.2), if_neg (fun q => by omega)]
end
end
section
section
variable {tx : Nat → Nat} {len : Nat}
theorem num_ok {p s n q : Nat} (h : num tx len p s = some (n, q)) : n < 100 ∧ p + 2 ≤ q ∧ q ≤ len := by
  unfold num at h
  by_cases c1 : fg tx len p = true
  · have q1 := fg_y c1
    rw [if_pos c1] at h
    by_cases c2 : fg tx len (p + 1) = true
    · have q2 := fg_y c2
      rw [if_pos c2] at h
      by_cases c3 : p + 2 < len ∧ tx (p + 2) = s
      · rw [if_pos c3] at h
        cases h
        omega
      · rw [if_neg c3] at h; cases h
    · rw [if_neg c2] at h
      by_cases c3 : p + 1 < len ∧ tx (p + 1) = s
      · rw [if_pos c3] at h
        cases h
        omega
      · rw [if_neg c3] at h; cases h
  · rw [if_neg c1] at h; cases h
theorem nums_both (hl : len ≤ 300) (ht : ∀ j, j < len → tx j < 256) {k : Nat} (hk : k ≤ 3) : ∀ r i p (zX zM : Sg) NX NM, i + r = k → r < NX → r < NM → p ≤ len → BX tx len zX → BM tx len zM → zM.1 0 7 = nI p →
    (∃ sX sM, itr NX (fun s => f_X4_itemsEnd_23s (nI k) s.1 s.2.1 s.2.2) (nI p, nI i, zX) = some (-1, sX) ∧ itr NM (fun s => f_X9_takes_2s (nI k) s.1 s.2) (nI i, zM) = some (0, sM) ∧ (∀ a j, a ≠ 4 → sX.1 a j = zX.1 a j) ∧ (∀ a j, a ≠ 4 → ¬ (a = 0 ∧ j = 7) → sM.1 a j = zM.1 a j)) ∨
    (∃ sX sM q, ∃ n : Nat → Nat, p + r ≤ q ∧ q ≤ len ∧ itr NX (fun s => f_X4_itemsEnd_23s (nI k) s.1 s.2.1 s.2.2) (nI p, nI i, zX) = some (nI q, sX) ∧ itr NM (fun s => f_X9_takes_2s (nI k) s.1 s.2) (nI i, zM) = some (1, sM) ∧ sM.1 0 7 = nI q ∧ (∀ j, i ≤ j → j < k → sX.1 4 j = nI (n j) ∧ sM.1 4 j = nI (n j) ∧ n j < 100) ∧ (∀ j, j < i → sX.1 4 j = zX.1 4 j ∧ sM.1 4 j = zM.1 4 j) ∧ (∀ a j, a ≠ 4 → sX.1 a j = zX.1 a j) ∧ (∀ a j, a ≠ 4 → ¬ (a = 0 ∧ j = 7) → sM.1 a j = zM.1 a j)) := by
  intro r
  induction r with
  | zero =>
    intro i p zX zM NX NM hi hX hM hp bX bM hat
    obtain ⟨NX, rfl⟩ : ∃ M, NX = M + 1 := ⟨NX - 1, by omega⟩
    obtain ⟨NM, rfl⟩ : ∃ M, NM = M + 1 := ⟨NM - 1, by omega⟩
    obtain rfl : i = k := by omega
    refine Or.inr ⟨zX, zM, p, fun _ => 0, by omega, hp, itr_out ?_, itr_out ?_, hat, fun j h1 h2 => by omega, fun j h1 => ⟨rfl, rfl⟩, fun _ _ _ => rfl, fun _ _ _ _ => rfl⟩
    · show f_X4_itemsEnd_23s (nI i) (nI p) (nI i) zX = _
      unfold f_X4_itemsEnd_23s
      rw [if_pos (nI_le (Nat.le_refl _) (by omega))]
    · show f_X9_takes_2s (nI i) (nI i) zM = _
      unfold f_X9_takes_2s
      rw [if_pos (nI_le (Nat.le_refl _) (by omega))]
      rfl
  | succ r ih =>
    intro i p zX zM NX NM hi hX hM hp bX bM hat
    obtain ⟨NX, rfl⟩ : ∃ M, NX = M + 1 := ⟨NX - 1, by omega⟩
    obtain ⟨NM, rfl⟩ : ∃ M, NM = M + 1 := ⟨NM - 1, by omega⟩
    obtain ⟨yX, x1, x2⟩ := x_one hl ht bX (p := p) (i := i) (k := k) hp (by omega) hk
    obtain ⟨yM, m1, m2⟩ := m_one hl ht bM (p := p) (i := i) (k := k) hat hp (by omega) hk
    rcases x2 with ⟨e1, e2⟩ | ⟨n, q, e1, e2, e3⟩
    · rcases m2 with ⟨f1, f2⟩ | ⟨n, q, f1, -⟩
      · exact Or.inl ⟨yX, yM, itr_out e2, itr_out f2, fun a j ha => by rw [x1 a ha], m1⟩
      · rw [e1] at f1; cases f1
    · rcases m2 with ⟨f1, -⟩ | ⟨n2, q2, f1, f2, f3, f4, f5⟩
      · rw [e1] at f1; cases f1
      · rw [e1] at f1
        cases f1
        obtain ⟨g1, g2, g3⟩ := num_ok e1
        have x4 : ∀ j, yX.1 4 j = if j = i then nI n else zX.1 4 j := fun j => by rw [e2, up1_eq]; simp
        have hr := ih (i + 1) q yX yM NX NM (by omega) (by omega) (by omega) g3 ⟨by rw [x1 1 (by decide)]; exact bX.1, fun j hj => by rw [x1 2 (by decide)]; exact bX.2 j hj⟩ ⟨by rw [m1 0 4 (by decide) (by omega)]; exact bM.1, fun j hj => by rw [m1 2 j (by decide) (by omega)]; exact bM.2 j hj⟩ f3
        rw [itr_in e3, itr_in f2]
        rcases hr with ⟨sX, sM, h1, h2, h3, h4⟩ | ⟨sX, sM, q3, nn, h1, h2, h3, h4, h5, h6, h7, h8, h9⟩
        · exact Or.inl ⟨sX, sM, h1, h2, fun a j ha => by rw [h3 a j ha, x1 a ha], fun a j ha hb => by rw [h4 a j ha hb, m1 a j ha hb]⟩
        · refine Or.inr ⟨sX, sM, q3, fun j => if j = i then n else nn j, by omega, h2, h3, h4, h5, fun j k1 k2 => ?_, fun j k1 => ?_, fun a j ha => by rw [h8 a j ha, x1 a ha], fun a j ha hb => by rw [h9 a j ha hb, m1 a j ha hb]⟩
          · show sX.1 4 j = nI (if j = i then n else nn j) ∧ sM.1 4 j = nI (if j = i then n else nn j) ∧ (if j = i then n else nn j) < 100
            by_cases c : j = i
            · rw [if_pos c, (h7 j (by omega)).1, (h7 j (by omega)).2, x4, if_pos c, c, f4]
              exact ⟨rfl, rfl, g1⟩
            · rw [if_neg c]
              exact h6 j (by omega) k2
          · rw [(h7 j (by omega)).1, (h7 j (by omega)).2, x4, if_neg (by omega), f5 j (by omega)]
            exact ⟨rfl, rfl⟩
-- the draft
/-- what is read so far, in the class's draft and in the reference's place 605 -/
def DR (D : Fl) (b : Nat) (only : Bool) (zX zM : Sg) : Prop := OKL D ∧ FXl b D zX ∧ FMl 605 D zM ∧ zX.1 b 9 = nI (2 ^ fN D - 1) ∧ zX.1 3 1 = bz only ∧ zM.1 0 9 = bz (!only) ∧ (only = true → fM D = 0 ∧ fBg D = 0)
theorem FXl_pt {b : Nat} {F : Fl} {σ z : Sg} (h : ∀ a j, b ≤ a → a ≤ b + 6 → z.1 a j = σ.1 a j) (g : FXl b F σ) : FXl b F z := by
  obtain ⟨g1, g2, g3, g4, g5⟩ := g
  refine ⟨by rw [h _ _ (by omega) (by omega)]; exact g1, by rw [h _ _ (by omega) (by omega)]; exact g2, by rw [h _ _ (by omega) (by omega)]; exact g3, fun t ht => ?_, fun s hs => ?_⟩
  · rw [h _ _ (by omega) (by omega), h _ _ (by omega) (by omega), h _ _ (by omega) (by omega), h _ _ (by omega) (by omega)]; exact g4 t ht
  · rw [h _ _ (by omega) (by omega), h _ _ (by omega) (by omega)]; exact g5 s hs
theorem FMl_pt {r : Nat} {F : Fl} {σ z : Sg} (hm : fM F ≤ 10) (h : ∀ j, r ≤ j → j < r + 55 → z.1 1 j = σ.1 1 j) (g : FMl r F σ) : FMl r F z := by
  obtain ⟨g1, g2, g3, g4, g5⟩ := g
  refine ⟨by rw [h _ (by omega) (by omega)]; exact g1, by rw [h _ (by omega) (by omega)]; exact g2, by rw [h _ (by omega) (by omega)]; exact g3, fun t ht => ?_, fun s hs => ?_⟩
  · rw [h _ (by omega) (by omega), h _ (by omega) (by omega), h _ (by omega) (by omega)]; exact g4 t ht
  · rw [h _ (by omega) (by omega), h _ (by omega) (by omega)]; exact g5 s hs
end
end
section
def begF (D : Fl) (n : Nat) : Fl := ((fN D, fM D, fBg D ||| 2 ^ n, fTh D, fSt D), fA D, fB D, fC D, fG D, fW D)
def manF (D : Fl) (n : Nat) : Fl := ((n, fM D, fBg D, fTh D, fSt D), fA D, fB D, fC D, fG D, fW D)
def weaF (D : Fl) (s : Nat) (v : Int32) : Fl := ((fN D, fM D, fBg D, fTh D, fSt D), fA D, fB D, fC D, fG D, fun i => if i = s then v else fW D i)
def gaiF (D : Fl) (a b : Nat) : Fl := ((fN D, fM D, fBg D, fTh D, fSt D), fA D, fB D, fC D, (fun i => if i = a then fG D a ||| 2 ^ b else if i = b then fG D b ||| 2 ^ a else fG D i), fW D)
section
variable {D : Fl} {b : Nat} {z : Sg}
theorem inn_n {n N : Nat} (hn : n < 2 ^ 31) (hN : N < 2 ^ 31) : inn (nI n) N = if n < N then 1 else 0 := by
  by_cases c : n < N
  · rw [if_pos c, inn_nI c hN]
  · rw [if_neg c]
    unfold inn
    rw [if_pos (Or.inr (nI_le (by omega) hn))]
theorem begF_ok (h : OKL D) {n : Nat} (hn : n < fN D) : OKL (begF D n) := ⟨h.1, h.2.1, h.2.2.1, Nat.or_lt_two_pow h.2.2.2.1 (Nat.pow_lt_pow_right (by decide) hn), h.2.2.2.2⟩
theorem manF_ok (h : OKL D) {n : Nat} (h1 : 1 ≤ n) (h2 : n ≤ 10) (hm : fM D = 0) (hb : fBg D = 0) : OKL (manF D n) := ⟨⟨h1, h2⟩, h.2.1, fun t ht => absurd (show t < fM D from ht) (by omega), by show fBg D < 2 ^ n; rw [hb]; exact Nat.two_pow_pos n, h.2.2.2.2⟩
theorem weaF_ok (h : OKL D) (s : Nat) (v : Int32) : OKL (weaF D s v) := h
theorem gaiF_ok (h : OKL D) {a c : Nat} (ha : a < fN D) (hc : c < fN D) : OKL (gaiF D a c) := by
  have hn := h.1
  refine ⟨h.1, h.2.1, h.2.2.1, h.2.2.2.1, fun s hs => ?_⟩
  show (if s = a then fG D a ||| 2 ^ c else if s = c then fG D c ||| 2 ^ a else fG D s) < 2 ^ 10
  have p : ∀ x, x < fN D → (2 : Nat) ^ x < 2 ^ 10 := fun x hx => Nat.pow_lt_pow_right (by decide) (by omega)
  split
  · exact Nat.or_lt_two_pow (h.2.2.2.2 a (by omega)) (p c hc)
  · split
    · exact Nat.or_lt_two_pow (h.2.2.2.2 c (by omega)) (p a ha)
    · exact h.2.2.2.2 s hs
theorem layF_okl (h : OKL D) {a c e : Nat} (hm : fM D < 10) (ha : a < fN D) (hb : c < fN D) (hc : e < fN D) (h1 : e ≠ a) (h2 : e ≠ c) : OKL (layF D a c e) := by
  refine ⟨h.1, hm, fun t ht => ?_, h.2.2.2⟩
  show (if t = fM D then a else fA D t) < fN D ∧ (if t = fM D then c else fB D t) < fN D ∧ (if t = fM D then e else fC D t) < fN D ∧ (if t = fM D then e else fC D t) ≠ (if t = fM D then a else fA D t) ∧ (if t = fM D then e else fC D t) ≠ (if t = fM D then c else fB D t)
  by_cases q : t = fM D
  · rw [if_pos q, if_pos q, if_pos q]; exact ⟨ha, hb, hc, h1, h2⟩
  · rw [if_neg q, if_neg q, if_neg q]
    have ht' : t < fM D + 1 := ht
    exact h.2.2.1 t (by omega)
theorem x_begOn (h : OKL D) (hX : FXl b D z) {n : Nat} (hn : n < 100) : f_X1_beginOn b (nI n) z = if n < fN D then some (1, up1 z b 8 (nI (fBg D ||| 2 ^ n))) else some (0, z) := by
  have hN := h.1
  unfold f_X1_beginOn
  rw [bind_ok (x_hasStone hX (nI n)), inn_n (by omega) (by omega)]
  by_cases c : n < fN D
  · rw [if_pos c, if_pos c, if_neg (by decide : ¬ (1 : Int32) = 0), hX.2.2.1, z_bit (by omega), z_or]
    rfl
  · rw [if_neg c, if_neg c, if_pos rfl]
    rfl
theorem FXl_beg (hX : FXl b D z) (n : Nat) : FXl b (begF D n) (up1 z b 8 (nI (fBg D ||| 2 ^ n))) := by
  have o : ∀ a j, ¬ (a = b ∧ j = 8) → (up1 z b 8 (nI (fBg D ||| 2 ^ n))).1 a j = z.1 a j := fun a j q => by rw [up1_eq, if_neg q]
  obtain ⟨g1, g2, g3, g4, g5⟩ := hX
  refine ⟨by rw [o _ _ (by omega)]; exact g1, by rw [o _ _ (by omega)]; exact g2, by rw [up1_eq, if_pos ⟨rfl, rfl⟩]; rfl, fun t ht => ?_, fun s hs => ?_⟩
  · rw [o _ _ (by omega), o _ _ (by omega), o _ _ (by omega), o _ _ (by omega)]; exact g4 t ht
  · rw [o _ _ (by omega), o _ _ (by omega)]; exact g5 s hs
theorem x_setStones {n : Nat} (hn : n < 100) : f_X1_setStones b (nI n) z = if 1 ≤ n ∧ n ≤ 10 then some (1, up1 (up1 z b 6 (nI n)) b 9 (nI (2 ^ n - 1))) else some (0, z) := by
  unfold f_X1_setStones f_X1_setStones_11
  by_cases c1 : 1 ≤ n
  · rw [if_neg (show ¬ nI n < (1 : Int32) from nI_nlt (a := n) (b := 1) c1 (by omega))]
    by_cases c2 : n ≤ 10
    · rw [if_pos (show nI n ≤ (10 : Int32) from nI_le (b := 10) c2 (by decide)), if_pos ⟨c1, c2⟩, bind_ok (pfi_eq _ _ _ _)]
      unfold f_X1_allStones
      rw [up1_eq, if_pos ⟨rfl, rfl⟩, z_bit (by omega), show nI (2 ^ n) - 1 = nI (2 ^ n - 1) from pk_sub (b := 1) Nat.one_le_two_pow]
      rfl
    · rw [if_neg (show ¬ nI n ≤ (10 : Int32) from nI_ge (a := 10) (b := n) (by omega) (by omega)), if_neg (fun q => c2 q.2)]
      rfl
  · rw [if_pos (show nI n < (1 : Int32) from nI_lt (b := 1) (by omega) (by decide)), if_neg (fun q => c1 q.1)]
    rfl
theorem FXl_man (hX : FXl b D z) (n : Nat) (x : Int32) : FXl b (manF D n) (up1 (up1 z b 6 (nI n)) b 9 x) := by
  have o : ∀ a j, ¬ (a = b ∧ (j = 6 ∨ j = 9)) → (up1 (up1 z b 6 (nI n)) b 9 x).1 a j = z.1 a j := fun a j q => by rw [up1_eq, if_neg (by omega), up1_eq, if_neg (by omega)]
  obtain ⟨g1, g2, g3, g4, g5⟩ := hX
  refine ⟨by rw [up1_eq, if_neg (by omega), up1_eq, if_pos ⟨rfl, rfl⟩]; rfl, by rw [o _ _ (by omega)]; exact g2, by rw [o _ _ (by omega)]; exact g3, fun t ht => ?_, fun s hs => ?_⟩
  · rw [o _ _ (by omega), o _ _ (by omega), o _ _ (by omega), o _ _ (by omega)]; exact g4 t ht
  · rw [o _ _ (by omega), o _ _ (by omega)]; exact g5 s hs
theorem x_setWear (h : OKL D) (hX : FXl b D z) {n : Nat} (hn : n < 100) (v : Int32) : f_X1_setWear b (nI n) v z = if n < fN D then some (1, up1 z (b + 6) n v) else some (0, z) := by
  have hN := h.1
  unfold f_X1_setWear
  rw [bind_ok (x_hasStone hX (nI n)), inn_n (by omega) (by omega)]
  by_cases c : n < fN D
  · rw [if_pos c, if_pos c, if_neg (by decide : ¬ (1 : Int32) = 0), bind_ok (x_put (by omega) (by decide))]
    rfl
  · rw [if_neg c, if_neg c, if_pos rfl]
    rfl
theorem FXl_wea (hX : FXl b D z) (n : Nat) (v : Int32) : FXl b (weaF D n v) (up1 z (b + 6) n v) := by
  have o : ∀ a j, ¬ (a = b + 6 ∧ j = n) → (up1 z (b + 6) n v).1 a j = z.1 a j := fun a j q => by rw [up1_eq, if_neg q]
  obtain ⟨g1, g2, g3, g4, g5⟩ := hX
  refine ⟨by rw [o _ _ (by omega)]; exact g1, by rw [o _ _ (by omega)]; exact g2, by rw [o _ _ (by omega)]; exact g3, fun t ht => ?_, fun s hs => ?_⟩
  · rw [o _ _ (by omega), o _ _ (by omega), o _ _ (by omega), o _ _ (by omega)]; exact g4 t ht
  · refine ⟨by rw [o _ _ (by omega)]; exact (g5 s hs).1, ?_⟩
    show (up1 z (b + 6) n v).1 (b + 6) s = if s = n then v else fW D s
    rw [up1_eq]
    by_cases c : s = n
    · rw [if_pos ⟨rfl, c⟩, if_pos c]
    · rw [if_neg (fun q => c q.2), if_neg c]; exact (g5 s hs).2
end
end
section
section
variable {D : Fl} {b : Nat} {z : Sg}
theorem x_setGain (h : OKL D) (hX : FXl b D z) {n m : Nat} (hn : n < 100) (hm : m < 100) : ∃ z', (f_X1_setGainsay b (nI n) (nI m) z = if n < fN D ∧ m < fN D ∧ n ≠ m then some (1, z') else some (0, z)) ∧ (n < fN D ∧ m < fN D ∧ n ≠ m → FXl b (gaiF D n m) z') ∧ ∀ a j, a ≠ b + 5 → z'.1 a j = z.1 a j := by
  have hN := h.1
  refine ⟨up1 (up1 z (b + 5) n (nI (fG D n ||| 2 ^ m))) (b + 5) m (nI (fG D m ||| 2 ^ n)), ?_, ?_, fun a j q => by rw [up1_eq, if_neg (fun w => q w.1), up1_eq, if_neg (fun w => q w.1)]⟩
  · unfold f_X1_setGainsay f_X1_setGainsay_21
    rw [bind_ok (x_hasStone hX (nI n)), inn_n (by omega) (by omega), bind_ok (x_hasStone hX (nI m)), inn_n (by omega) (by omega)]
    by_cases c1 : n < fN D
    case neg => rw [if_neg c1, if_pos rfl, if_neg (fun q => c1 q.1)]; rfl
    rw [if_pos c1, if_neg (by decide : ¬ (1 : Int32) = 0)]
    by_cases c2 : m < fN D
    case neg => rw [if_neg c2, if_pos rfl, if_neg (fun q => c2 q.2.1)]; rfl
    rw [if_pos c2, if_neg (by decide : ¬ (1 : Int32) = 0)]
    by_cases c3 : n = m
    · rw [if_pos (show nI n = nI m by rw [c3]), if_neg (fun q => q.2.2 c3)]; rfl
    have e1 : (up1 z (b + 5) n (nI (fG D n ||| 2 ^ m))).1 (b + 5) m = nI (fG D m) := by rw [up1_eq, if_neg (by omega)]; exact (hX.2.2.2.2 m (by omega)).1
    rw [if_neg (nI_ne (by omega) (by omega) c3), if_pos ⟨c1, c2, c3⟩, bind_ok (x_at (by omega) (by decide)), (hX.2.2.2.2 n (by omega)).1, z_bit (by omega), z_or, bind_ok (x_put (by omega) (by decide)), bind_ok (x_at (by omega) (by decide)), e1, z_bit (by omega), z_or, bind_ok (x_put (by omega) (by decide))]
    rfl
  · rintro ⟨c1, c2, c3⟩
    have o : ∀ a j, a ≠ b + 5 → (up1 (up1 z (b + 5) n (nI (fG D n ||| 2 ^ m))) (b + 5) m (nI (fG D m ||| 2 ^ n))).1 a j = z.1 a j := fun a j q => by rw [up1_eq, if_neg (fun w => q w.1), up1_eq, if_neg (fun w => q w.1)]
    obtain ⟨g1, g2, g3, g4, g5⟩ := hX
    refine ⟨by rw [o _ _ (by omega)]; exact g1, by rw [o _ _ (by omega)]; exact g2, by rw [o _ _ (by omega)]; exact g3, fun t ht => ?_, fun s hs => ?_⟩
    · rw [o _ _ (by omega), o _ _ (by omega), o _ _ (by omega), o _ _ (by omega)]; exact g4 t ht
    · refine ⟨?_, by rw [o _ _ (by omega)]; exact (g5 s hs).2⟩
      show _ = nI (if s = n then fG D n ||| 2 ^ m else if s = m then fG D m ||| 2 ^ n else fG D s)
      rw [up1_eq]
      by_cases q1 : s = m
      · rw [if_pos ⟨rfl, q1⟩, if_neg (by omega), if_pos q1]
      · rw [if_neg (fun w => q1 w.2), up1_eq]
        by_cases q2 : s = n
        · rw [if_pos ⟨rfl, q2⟩, if_pos q2]
        · rw [if_neg (fun w => q2 w.2), if_neg q2, if_neg q1]; exact (g5 s hs).1
/-- a step may be laid so -/
abbrev stp (D : Fl) (a c e : Nat) : Prop := a < fN D ∧ c < fN D ∧ e < fN D ∧ e ≠ a ∧ e ≠ c
theorem x_couldL (h : OKL D) (hX : FXl b D z) {a c e : Nat} (ha : a < 100) (hc : c < 100) (he : e < 100) : (stp D a c e → f_X1_couldBeStep b (nI a) (nI c) (nI e) z = some 1) ∧ (¬ stp D a c e → f_X1_couldBeStep b (nI a) (nI c) (nI e) z = some 0) := by
  have hN := h.1
  unfold f_X1_couldBeStep f_X1_couldBeStep_38 f_X1_couldBeStep_39
  rw [bind_ok (x_hasStone hX (nI a)), inn_n (by omega) (by omega), bind_ok (x_hasStone hX (nI c)), inn_n (by omega) (by omega), bind_ok (x_hasStone hX (nI e)), inn_n (by omega) (by omega)]
  by_cases c1 : a < fN D
  case neg => exact ⟨fun q => absurd q.1 c1, fun _ => by rw [if_neg c1, if_pos rfl]; rfl⟩
  by_cases c2 : c < fN D
  case neg => exact ⟨fun q => absurd q.2.1 c2, fun _ => by rw [if_pos c1, if_neg (by decide : ¬ (1 : Int32) = 0), if_neg c2, if_pos rfl]; rfl⟩
  by_cases c3 : e < fN D
  case neg => exact ⟨fun q => absurd q.2.2.1 c3, fun _ => by rw [if_pos c1, if_neg (by decide : ¬ (1 : Int32) = 0), if_pos c2, if_neg (by decide : ¬ (1 : Int32) = 0), if_neg c3, if_pos rfl]; rfl⟩
  rw [if_pos c1, if_neg (by decide : ¬ (1 : Int32) = 0), if_pos c2, if_neg (by decide : ¬ (1 : Int32) = 0), if_pos c3, if_neg (by decide : ¬ (1 : Int32) = 0)]
  by_cases c4 : e = a
  · exact ⟨fun q => absurd c4 q.2.2.2.1, fun _ => by rw [if_pos (show nI e = nI a by rw [c4])]; rfl⟩
  rw [if_neg (nI_ne (by omega) (by omega) c4)]
  by_cases c5 : e = c
  · exact ⟨fun q => absurd c5 q.2.2.2.2, fun _ => by rw [if_pos (show nI e = nI c by rw [c5])]; rfl⟩
  rw [if_neg (nI_ne (by omega) (by omega) c5)]
  exact ⟨fun _ => rfl, fun q => absurd ⟨c1, c2, c3, c4, c5⟩ q⟩
theorem x_addStepL (h : OKL D) (hX : FXl b D z) {a c e : Nat} (ha : a < 100) (hc : c < 100) (he : e < 100) : ∃ z', (stp D a c e ∧ fM D < 10 → f_X1_addStep b (nI a) (nI c) (nI e) z = some (1, z')) ∧ (¬ (stp D a c e ∧ fM D < 10) → f_X1_addStep b (nI a) (nI c) (nI e) z = some (0, z)) ∧ (stp D a c e ∧ fM D < 10 → FXl b (layF D a c e) z') ∧ ∀ x j, ¬ (x = b ∧ j = 7) → ¬ (b + 1 ≤ x ∧ x ≤ b + 4) → z'.1 x j = z.1 x j := by
  have hN := h.1
  have hM := h.2.1
  obtain ⟨m, hm⟩ : ∃ m, m = fM D := ⟨_, rfl⟩
  have h7 := hX.2.1
  rw [← hm] at h7
  obtain ⟨k1, k2⟩ := x_couldL h hX ha hc he
  obtain ⟨z', hz⟩ : ∃ z', z' = up1 (up1 (up1 (up1 (up1 z (b + 1) m (nI a)) (b + 2) m (nI c)) (b + 3) m (nI e)) (b + 4) m (nI (2 ^ a ||| 2 ^ c))) b 7 (nI (m + 1)) := ⟨_, rfl⟩
  have o : ∀ x j, ¬ (x = b ∧ j = 7) → ¬ (b + 1 ≤ x ∧ x ≤ b + 4 ∧ j = m) → z'.1 x j = z.1 x j := fun x j p q => by rw [hz, up1_eq, if_neg p, up1_eq, if_neg (by omega), up1_eq, if_neg (by omega), up1_eq, if_neg (by omega), up1_eq, if_neg (by omega)]
  refine ⟨z', ?_, ?_, ?_, fun x j p q => o x j p (by omega)⟩
  · rintro ⟨s, hlt⟩
    have s' := s
    obtain ⟨s1, s2, s3, s4, s5⟩ := s
    have kk : ∀ y : Sg, ∀ x, (b + 1 ≤ x ∧ x ≤ b + 4) → ∀ v, (up1 y x m v).1 b 7 = y.1 b 7 := fun y x hx v => by rw [up1_eq, if_neg (by omega)]
    unfold f_X1_addStep
    rw [bind_ok (k1 s'), if_neg (by decide : ¬ (1 : Int32) = 0), h7, if_pos (show nI m < (10 : Int32) from nI_lt (b := 10) (by omega) (by decide)), bind_ok (x_put (by omega) (by decide)), kk _ _ (by omega), h7, bind_ok (x_put (by omega) (by decide)), kk _ _ (by omega), kk _ _ (by omega), h7, bind_ok (x_put (by omega) (by decide)), kk _ _ (by omega), kk _ _ (by omega), kk _ _ (by omega), h7, z_bit (by omega), z_bit (by omega), z_or, bind_ok (x_put (by omega) (by decide)), kk _ _ (by omega), kk _ _ (by omega), kk _ _ (by omega), kk _ _ (by omega), h7, nI_1, bind_ok (pfi_eq _ _ _ _), hz]
    rfl
  · intro s
    unfold f_X1_addStep f_X1_addStep_19
    by_cases q : stp D a c e
    · rw [bind_ok (k1 q), if_neg (by decide : ¬ (1 : Int32) = 0), h7, if_neg (show ¬ nI m < (10 : Int32) from nI_nlt (a := m) (b := 10) (by have : ¬ fM D < 10 := fun w => s ⟨q, w⟩; omega) (by omega))]
      rfl
    · rw [bind_ok (k2 q), if_pos rfl]
      rfl
  · rintro ⟨s, hlt⟩
    obtain ⟨g1, g2, g3, g4, g5⟩ := hX
    have fM' : fM (layF D a c e) = m + 1 := by rw [hm]; rfl
    refine ⟨by rw [o _ _ (by omega) (by omega)]; exact g1, by rw [fM', hz, up1_eq, if_pos ⟨rfl, rfl⟩], by rw [o _ _ (by omega) (by omega)]; exact g3, fun t ht => ?_, fun i hi => ?_⟩
    · rw [fM'] at ht
      rw [show fA (layF D a c e) t = if t = m then a else fA D t by rw [hm]; rfl, show fB (layF D a c e) t = if t = m then c else fB D t by rw [hm]; rfl, show fC (layF D a c e) t = if t = m then e else fC D t by rw [hm]; rfl]
      by_cases q : t = m
      · rw [if_pos q, if_pos q, if_pos q, q, hz]
        refine ⟨?_, ?_, ?_, ?_⟩
        · rw [up1_eq, if_neg (by omega), up1_eq, if_neg (by omega), up1_eq, if_neg (by omega), up1_eq, if_neg (by omega), up1_eq, if_pos ⟨rfl, rfl⟩]
        · rw [up1_eq, if_neg (by omega), up1_eq, if_neg (by omega), up1_eq, if_neg (by omega), up1_eq, if_pos ⟨rfl, rfl⟩]
        · rw [up1_eq, if_neg (by omega), up1_eq, if_neg (by omega), up1_eq, if_pos ⟨rfl, rfl⟩]
        · rw [up1_eq, if_neg (by omega), up1_eq, if_pos ⟨rfl, rfl⟩]
      · rw [if_neg q, if_neg q, if_neg q, o _ _ (by omega) (by omega), o _ _ (by omega) (by omega), o _ _ (by omega) (by omega), o _ _ (by omega) (by omega)]
        exact g4 t (by omega)
    · rw [o _ _ (by omega) (by omega), o _ _ (by omega) (by omega)]; exact g5 i hi
end
end
section
section
variable {D : Fl} {s : Sg}
/-- what the reading of an item may change in the reference -/
def frM (s' s : Sg) : Prop := ∀ a j, ¬ (a = 0 ∧ (j = 7 ∨ j = 9)) → ¬ (a = 1 ∧ 605 ≤ j) → a ≠ 4 → s'.1 a j = s.1 a j
theorem frM_r (s : Sg) : frM s s := fun _ _ _ _ _ => rfl
theorem frM_t {x y z : Sg} (h : frM x y) (g : frM y z) : frM x z := fun a j h1 h2 h3 => (h a j h1 h2 h3).trans (g a j h1 h2 h3)
theorem frM_1 {j : Nat} (hj : 605 ≤ j) (v : Int32) : frM (up1 s 1 j v) s := fun a i _ h2 _ => by rw [up1_eq, if_neg (fun q => h2 ⟨q.1, by rw [q.2]; exact hj⟩)]
theorem frM_9 (v : Int32) : frM (up1 s 0 9 v) s := fun a i h1 _ _ => by rw [up1_eq, if_neg (fun q => h1 ⟨q.1, Or.inr q.2⟩)]
theorem m_isRead (h : OKL D) (hM : FMl 605 D s) {n : Nat} (hn : n < 100) : f_X9_isRead (nI n) s = some (bz (decide (n < fN D))) := by
  have hN := h.1
  unfold f_X9_isRead
  rw [z_lit 605, bind_ok (m_w (by decide)), hM.1]
  by_cases c : n < fN D
  · rw [if_neg (nI_ge c (by omega)), decide_eq_true c]; rfl
  · rw [if_pos (nI_le (by omega) (by omega)), decide_eq_false c]; rfl
theorem m_289 {L v : Int32} (hL : L ≠ 110) (hv : v = 0 ∨ v = 1) : f_X9_readItem_289 L v s = some (v, up1 s 0 9 1) := by
  unfold f_X9_readItem_289 f_X9_readItem_303 f_X9_readItem_308
  rw [if_neg hL]
  have e : ∀ x : Option (Int32 × Sg), (if s.1 0 9 = 0 then x else x) = x := fun x => by split <;> rfl
  rw [e]
  show ((zrt v).bind _) = _
  rw [bind_ok (zrt_01 hv)]
theorem FMl_9 (hM : FMl 605 D s) (v : Int32) : FMl 605 D (up1 s 0 9 v) := by
  unfold FMl
  have : (up1 s 0 9 v).1 1 = s.1 1 := funext (fun j => by rw [up1_eq, if_neg (by omega)])
  rw [this]
  exact hM
theorem FMl_beg (hM : FMl 605 D s) (n : Nat) : FMl 605 (begF D n) (up1 s 1 606 (nI (fBg D ||| 2 ^ n))) := by
  have o : ∀ j, j ≠ 606 → (up1 s 1 606 (nI (fBg D ||| 2 ^ n))).1 1 j = s.1 1 j := fun j q => by rw [up1_eq, if_neg (fun w => q w.2)]
  obtain ⟨g1, g2, g3, g4, g5⟩ := hM
  refine ⟨by rw [o _ (by omega)]; exact g1, by rw [o _ (by omega)]; exact g2, by rw [up1_eq, if_pos ⟨rfl, rfl⟩]; rfl, fun t ht => ?_, fun i hi => ?_⟩
  · rw [o _ (by omega), o _ (by omega), o _ (by omega)]; exact g4 t ht
  · rw [o _ (by omega), o _ (by omega)]; exact g5 i hi
theorem FMl_man (hM : FMl 605 D s) (n : Nat) : FMl 605 (manF D n) (up1 s 1 605 (nI n)) := by
  have o : ∀ j, j ≠ 605 → (up1 s 1 605 (nI n)).1 1 j = s.1 1 j := fun j q => by rw [up1_eq, if_neg (fun w => q w.2)]
  obtain ⟨g1, g2, g3, g4, g5⟩ := hM
  refine ⟨by rw [up1_eq, if_pos ⟨rfl, rfl⟩]; rfl, by rw [o _ (by omega)]; exact g2, by rw [o _ (by omega)]; exact g3, fun t ht => ?_, fun i hi => ?_⟩
  · rw [o _ (by omega), o _ (by omega), o _ (by omega)]; exact g4 t ht
  · rw [o _ (by omega), o _ (by omega)]; exact g5 i hi
theorem FMl_wea (h : OKL D) (hM : FMl 605 D s) (n : Nat) (hn : n < 10) (v : Int32) : FMl 605 (weaF D n v) (up1 s 1 (640 + n) v) := by
  have o : ∀ j, j ≠ 640 + n → (up1 s 1 (640 + n) v).1 1 j = s.1 1 j := fun j q => by rw [up1_eq, if_neg (fun w => q w.2)]
  obtain ⟨g1, g2, g3, g4, g5⟩ := hM
  refine ⟨by rw [o _ (by omega)]; exact g1, by rw [o _ (by omega)]; exact g2, by rw [o _ (by omega)]; exact g3, fun t ht => ?_, fun i hi => ?_⟩
  · have ht' : t < fM D := ht
    have hm := h.2.1
    rw [o _ (by omega), o _ (by omega), o _ (by omega)]; exact g4 t ht
  · refine ⟨by rw [o _ (by omega)]; exact (g5 i hi).1, ?_⟩
    show _ = if i = n then v else fW D i
    rw [up1_eq]
    by_cases c : i = n
    · rw [if_pos ⟨rfl, by omega⟩, if_pos c]
    · rw [if_neg (by omega), if_neg c]; exact (g5 i hi).2
/-- item a -/
theorem m_a (h : OKL D) (hM : FMl 605 D s) {n : Nat} (hn : n < 100) (h4 : s.1 4 0 = nI n) :
    ∃ s', ((ald s 4 3 0).bind fun x9 => (f_X9_isRead x9 s).bind fun q10 => if q10 = 0 then f_X9_readItem_167 97 s else f_X9_readItem_168 97 1 s) = some (bz (decide (n < fN D)), s') ∧ frM s' s ∧ (n < fN D → FMl 605 (begF D n) s') ∧ s'.1 0 9 = 1 ∧ s'.1 0 7 = s.1 0 7 := by
  have hN := h.1
  have a0 : ald s 4 3 0 = some (nI n) := by rw [z_0, ald_ok (by decide) (by decide), h4]
  have a6 : ald s 1 660 606 = some (nI (fBg D)) := by rw [z_lit 606, m_w (by decide)]; exact congrArg some hM.2.2.1
  rw [bind_ok a0, bind_ok (m_isRead h hM hn)]
  unfold f_X9_readItem_167 f_X9_readItem_168 f_X9_readItem_194
  by_cases c : n < fN D
  · rw [decide_eq_true c, bz_t, if_neg (by decide : ¬ (1 : Int32) = 0), bind_ok a6, if_neg (by decide : ¬ (1 : Int32) = 0), bind_ok a0, z_bit (by omega), z_or, z_lit 606, bind_ok (ast_ok (by decide) (by decide)), m_289 (by decide) (Or.inr rfl)]
    exact ⟨_, rfl, frM_t (frM_9 _) (frM_1 (by decide) _), fun _ => FMl_9 (FMl_beg hM n) _, by rw [up1_eq, if_pos ⟨rfl, rfl⟩], by rw [up1_eq, if_neg (by omega), up1_eq, if_neg (by omega)]⟩
  · rw [decide_eq_false c, bz_f, if_pos rfl, bind_ok a6, if_pos rfl, z_or0, z_lit 606, bind_ok (ast_ok (by decide) (by decide)), m_289 (by decide) (Or.inl rfl)]
    exact ⟨_, rfl, frM_t (frM_9 _) (frM_1 (by decide) _), fun q => absurd q c, by rw [up1_eq, if_pos ⟨rfl, rfl⟩], by rw [up1_eq, if_neg (by omega), up1_eq, if_neg (by omega)]⟩
end
end
section
theorem t_in10 : ∀ t, t < 100 → f_X9_in (nI t).toInt64 1 10 = some (bz (decide (1 ≤ t) && decide (t ≤ 10))) := by decide +kernel
section
variable {D : Fl} {s : Sg}
theorem m_289n {v : Int32} (hv : v = 0 ∨ v = 1) (h9 : s.1 0 9 = 0) : f_X9_readItem_289 110 v s = some (v, up1 s 0 9 0) := by
  unfold f_X9_readItem_289 f_X9_readItem_308
  rw [h9, if_pos rfl, if_pos rfl]
  show ((zrt v).bind _) = _
  rw [bind_ok (zrt_01 hv)]
/-- item n -/
theorem m_n (hM : FMl 605 D s) {n : Nat} (hn : n < 100) (h4 : s.1 4 0 = nI n) (h9 : s.1 0 9 = 0) :
    ∃ s', ((ald s 4 3 0).bind fun x15 => (f_X9_in ((x15 : Int32).toInt64) 1 10).bind fun q16 => if q16 = 0 then f_X9_readItem_108 110 s else f_X9_readItem_109 110 1 s) = some (bz (decide (1 ≤ n) && decide (n ≤ 10)), s') ∧ frM s' s ∧ (1 ≤ n ∧ n ≤ 10 → FMl 605 (manF D n) s') ∧ s'.1 0 9 = 0 ∧ s'.1 0 7 = s.1 0 7 := by
  have a0 : ald s 4 3 0 = some (nI n) := by rw [z_0, ald_ok (by decide) (by decide), h4]
  rw [bind_ok a0, bind_ok (t_in10 n hn)]
  unfold f_X9_readItem_108 f_X9_readItem_109 f_X9_readItem_138
  have h9' : ∀ v, (up1 s 1 605 v).1 0 9 = 0 := fun v => by rw [up1_eq, if_neg (by omega), h9]
  by_cases c : 1 ≤ n ∧ n ≤ 10
  · rw [decide_eq_true c.1, decide_eq_true c.2, show bz (true && true) = 1 from rfl, if_neg (by decide : ¬ (1 : Int32) = 0), if_neg (by decide : ¬ (1 : Int32) = 0), bind_ok a0, z_lit 605, bind_ok (ast_ok (by decide) (by decide)), m_289n (Or.inr rfl) (h9' _)]
    exact ⟨_, rfl, frM_t (frM_9 _) (frM_1 (by decide) _), fun _ => FMl_9 (FMl_man hM n) _, by rw [up1_eq, if_pos ⟨rfl, rfl⟩], by rw [up1_eq, if_neg (by omega), up1_eq, if_neg (by omega)]⟩
  · have e : bz (decide (1 ≤ n) && decide (n ≤ 10)) = 0 := by
      rw [show (decide (1 ≤ n) && decide (n ≤ 10)) = false from by
        cases q : (decide (1 ≤ n) && decide (n ≤ 10))
        · rfl
        · rw [Bool.and_eq_true, decide_eq_true_eq, decide_eq_true_eq] at q; exact absurd q c]
      rfl
    rw [e, if_pos rfl, if_pos rfl, z_lit 605, bind_ok (m_w (by decide)), bind_ok (ast_ok (by decide) (by decide)), m_289n (Or.inl rfl) (h9' _)]
    exact ⟨_, rfl, frM_t (frM_9 _) (frM_1 (by decide) _), fun q => absurd q c, by rw [up1_eq, if_pos ⟨rfl, rfl⟩], by rw [up1_eq, if_neg (by omega), up1_eq, if_neg (by omega)]⟩
/-- item w -/
theorem m_wea (h : OKL D) (hM : FMl 605 D s) {n m : Nat} (hn : n < 100) (h4 : s.1 4 0 = nI n) (h5 : s.1 4 1 = nI m) :
    ∃ s', ((ald s 4 3 0).bind fun x23 => (f_X9_isRead x23 s).bind fun q24 => if q24 = 0 then f_X9_readItem_240 119 s else f_X9_readItem_241 119 1 s) = some (bz (decide (n < fN D)), s') ∧ frM s' s ∧ (n < fN D → FMl 605 (weaF D n (nI m)) s') ∧ s'.1 0 9 = 1 ∧ s'.1 0 7 = s.1 0 7 := by
  have hN := h.1
  have a0 : ald s 4 3 0 = some (nI n) := by rw [z_0, ald_ok (by decide) (by decide), h4]
  have a1 : ald s 4 3 1 = some (nI m) := by rw [z_1, ald_ok (by decide) (by decide), h5]
  rw [bind_ok a0, bind_ok (m_isRead h hM hn)]
  unfold f_X9_readItem_240 f_X9_readItem_241 f_X9_readItem_263 f_X9_readItem_285
  by_cases c : n < fN D
  · rw [decide_eq_true c, bz_t, if_neg (by decide : ¬ (1 : Int32) = 0), if_neg (by decide : ¬ (1 : Int32) = 0), bind_ok a0, if_neg (by decide : ¬ (1 : Int32) = 0), bind_ok a1, z_lit 640, nI_add, bind_ok (ast_ok (by omega) (by decide)), m_289 (by decide) (Or.inr rfl)]
    exact ⟨_, rfl, frM_t (frM_9 _) (frM_1 (by omega) _), fun _ => FMl_9 (FMl_wea h hM n (by omega) _) _, by rw [up1_eq, if_pos ⟨rfl, rfl⟩], by rw [up1_eq, if_neg (by omega), up1_eq, if_neg (by omega)]⟩
  · rw [decide_eq_false c, bz_f, if_pos rfl, if_pos rfl, if_pos rfl, z_lit 640, bind_ok (m_w (by decide)), show nI 640 + (0 : Int32) = nI 640 by decide, bind_ok (ast_ok (by decide) (by decide)), m_289 (by decide) (Or.inl rfl)]
    exact ⟨_, rfl, frM_t (frM_9 _) (frM_1 (by decide) _), fun q => absurd q c, by rw [up1_eq, if_pos ⟨rfl, rfl⟩], by rw [up1_eq, if_neg (by omega), up1_eq, if_neg (by omega)]⟩
end
end
section
section
variable {D : Fl} {s : Sg}
theorem FMl_gai (h : OKL D) (hM : FMl 605 D s) {n m : Nat} (hn : n < 10) (hm : m < 10) (hne : n ≠ m) : FMl 605 (gaiF D n m) (up1 (up1 s 1 (650 + n) (nI (fG D n ||| 2 ^ m))) 1 (650 + m) (nI (fG D m ||| 2 ^ n))) := by
  have o : ∀ j, j ≠ 650 + n → j ≠ 650 + m → (up1 (up1 s 1 (650 + n) (nI (fG D n ||| 2 ^ m))) 1 (650 + m) (nI (fG D m ||| 2 ^ n))).1 1 j = s.1 1 j := fun j q r => by rw [up1_eq, if_neg (fun w => r w.2), up1_eq, if_neg (fun w => q w.2)]
  have hmm := h.2.1
  obtain ⟨g1, g2, g3, g4, g5⟩ := hM
  refine ⟨by rw [o _ (by omega) (by omega)]; exact g1, by rw [o _ (by omega) (by omega)]; exact g2, by rw [o _ (by omega) (by omega)]; exact g3, fun t ht => ?_, fun i hi => ?_⟩
  · have ht' : t < fM D := ht
    rw [o _ (by omega) (by omega), o _ (by omega) (by omega), o _ (by omega) (by omega)]; exact g4 t ht
  · refine ⟨?_, by rw [o _ (by omega) (by omega)]; exact (g5 i hi).2⟩
    show _ = nI (if i = n then fG D n ||| 2 ^ m else if i = m then fG D m ||| 2 ^ n else fG D i)
    rw [up1_eq]
    by_cases q1 : i = m
    · rw [if_pos ⟨rfl, by omega⟩, if_neg (by omega), if_pos q1]
    · rw [if_neg (by omega), up1_eq]
      by_cases q2 : i = n
      · rw [if_pos ⟨rfl, by omega⟩, if_pos q2]
      · rw [if_neg (by omega), if_neg q2, if_neg q1]; exact (g5 i hi).1
/-- item x, after its numbers -/
theorem m_pair (h : OKL D) (hM : FMl 605 D s) {n m : Nat} (hn : n < 100) (hm : m < 100) (h4 : s.1 4 0 = nI n) (h5 : s.1 4 1 = nI m) :
    ∃ s', ((ald s 4 3 0).bind fun x11 => (f_X9_isRead x11 s).bind fun q12 => if q12 = 0 then f_X9_readPair_53 s else (ald s 4 3 1).bind fun x13 => (f_X9_isRead x13 s).bind fun q14 => if q14 = 0 then f_X9_readPair_53 s else (ald s 4 3 0).bind fun x15 => (ald s 4 3 1).bind fun x16 => if x15 = x16 then f_X9_readPair_53 s else f_X9_readPair_54 1 s) = some (bz (decide (n < fN D ∧ m < fN D ∧ n ≠ m)), s') ∧ frM s' s ∧ (n < fN D ∧ m < fN D ∧ n ≠ m → FMl 605 (gaiF D n m) s') ∧ s'.1 0 9 = s.1 0 9 ∧ s'.1 0 7 = s.1 0 7 := by
  have hN := h.1
  have a0 : ald s 4 3 0 = some (nI n) := by rw [z_0, ald_ok (by decide) (by decide), h4]
  have a1 : ald s 4 3 1 = some (nI m) := by rw [z_1, ald_ok (by decide) (by decide), h5]
  have no : f_X9_readPair_53 s = some (0, s) := by
    unfold f_X9_readPair_53 f_X9_readPair_54
    rw [if_pos rfl]
    rfl
  rw [bind_ok a0, bind_ok a1, bind_ok a0, bind_ok a1, bind_ok (m_isRead h hM hn), bind_ok (m_isRead h hM hm), no]
  by_cases c1 : n < fN D
  case neg =>
    rw [decide_eq_false c1, bz_f, if_pos rfl, decide_eq_false (fun q => c1 q.1)]
    exact ⟨s, rfl, frM_r s, fun q => absurd q.1 c1, rfl, rfl⟩
  rw [decide_eq_true c1, bz_t, if_neg (by decide : ¬ (1 : Int32) = 0)]
  by_cases c2 : m < fN D
  case neg =>
    rw [decide_eq_false c2, bz_f, if_pos rfl, decide_eq_false (fun q => c2 q.2.1)]
    exact ⟨s, rfl, frM_r s, fun q => absurd q.2.1 c2, rfl, rfl⟩
  rw [decide_eq_true c2, bz_t, if_neg (by decide : ¬ (1 : Int32) = 0)]
  by_cases c3 : n = m
  · rw [if_pos (show nI n = nI m by rw [c3]), decide_eq_false (fun q => q.2.2 c3)]
    exact ⟨s, rfl, frM_r s, fun q => absurd c3 q.2.2, rfl, rfl⟩
  rw [if_neg (nI_ne (by omega) (by omega) c3), decide_eq_true (show n < fN D ∧ m < fN D ∧ n ≠ m from ⟨c1, c2, c3⟩)]
  refine ⟨up1 (up1 s 1 (650 + n) (nI (fG D n ||| 2 ^ m))) 1 (650 + m) (nI (fG D m ||| 2 ^ n)), ?_, frM_t (frM_1 (by omega) _) (frM_1 (by omega) _), fun _ => FMl_gai h hM (by omega) (by omega) c3, by rw [up1_eq, if_neg (by omega), up1_eq, if_neg (by omega)], by rw [up1_eq, if_neg (by omega), up1_eq, if_neg (by omega)]⟩
  have b0 : ald (up1 s 1 (650 + n) (nI (fG D n ||| 2 ^ m))) 4 3 0 = some (nI n) := by rw [z_0, ald_ok (by decide) (by decide), up1_eq, if_neg (by omega), h4]
  have b1 : ald (up1 s 1 (650 + n) (nI (fG D n ||| 2 ^ m))) 4 3 1 = some (nI m) := by rw [z_1, ald_ok (by decide) (by decide), up1_eq, if_neg (by omega), h5]
  have g0 : ald s 1 660 (650 + nI n) = some (nI (fG D n)) := by
    rw [z_lit 650, m_wk 650 (by omega)]
    exact congrArg some (hM.2.2.2.2 n (by omega)).1
  have g1 : ald (up1 s 1 (650 + n) (nI (fG D n ||| 2 ^ m))) 1 660 (650 + nI m) = some (nI (fG D m)) := by
    rw [z_lit 650, m_wk 650 (by omega), up1_eq, if_neg (by omega)]
    exact congrArg some (hM.2.2.2.2 m (by omega)).1
  unfold f_X9_readPair_54 f_X9_readPair_111
  rw [if_neg (by decide : ¬ (1 : Int32) = 0), bind_ok a0, bind_ok g0, bind_ok a1, z_bit (by omega), z_or, show (650 : Int32) + nI n = nI (650 + n) by rw [z_lit 650, nI_add], bind_ok (ast_ok (by omega) (by decide)), bind_ok b1, bind_ok g1, bind_ok b0, z_bit (by omega), z_or, show (650 : Int32) + nI m = nI (650 + m) by rw [z_lit 650, nI_add], bind_ok (ast_ok (by omega) (by decide))]
  rfl
end
end
section
section
variable {D : Fl} {s : Sg}
theorem m_layStep (hm : fM D < 10) (hM : FMl 605 D s) (a c e : Nat) : ∃ s', f_X9_layStep 605 (nI a) (nI c) (nI e) s = some s' ∧ FMl 605 (layF D a c e) s' ∧ frM s' s ∧ (∀ j, s'.1 0 j = s.1 0 j) := by
  obtain ⟨m, hmm⟩ : ∃ m, m = fM D := ⟨_, rfl⟩
  obtain ⟨g1, g2, g3, g4, g5⟩ := hM
  have h9 : s.1 1 609 = nI m := by rw [hmm]; exact g2
  have k1 : ∀ y : Sg, ∀ x v, x ≠ 609 → (up1 y 1 x v).1 1 609 = y.1 1 609 := fun y x v hx => by rw [up1_eq, if_neg (fun q => hx q.2.symm)]
  obtain ⟨w, hw⟩ : ∃ w, w = up1 (up1 (up1 (up1 s 1 (610 + m) (nI a)) 1 (620 + m) (nI c)) 1 (630 + m) (nI e)) 1 609 (nI (m + 1)) := ⟨_, rfl⟩
  have ow : ∀ x j, ¬ (x = 1 ∧ (j = 609 ∨ j = 610 + m ∨ j = 620 + m ∨ j = 630 + m)) → w.1 x j = s.1 x j := fun x j p => by rw [hw, up1_eq, if_neg (by omega), up1_eq, if_neg (by omega), up1_eq, if_neg (by omega), up1_eq, if_neg (by omega)]
  have w4 : w.1 1 609 = nI (m + 1) := by rw [hw, up1_eq, if_pos ⟨rfl, rfl⟩]
  have w5 : w.1 1 (610 + m) = nI a := by rw [hw, up1_eq, if_neg (by omega), up1_eq, if_neg (by omega), up1_eq, if_neg (by omega), up1_eq, if_pos ⟨rfl, rfl⟩]
  have w15 : w.1 1 (620 + m) = nI c := by rw [hw, up1_eq, if_neg (by omega), up1_eq, if_neg (by omega), up1_eq, if_pos ⟨rfl, rfl⟩]
  have w25 : w.1 1 (630 + m) = nI e := by rw [hw, up1_eq, if_neg (by omega), up1_eq, if_pos ⟨rfl, rfl⟩]
  have fM' : fM (layF D a c e) = m + 1 := by rw [hmm]; rfl
  refine ⟨w, ?_, ⟨by rw [ow _ _ (by omega)]; exact g1, by rw [fM']; exact w4, by rw [ow _ _ (by omega)]; exact g3, fun t ht => ?_, fun i hi => ?_⟩, fun x j h1 h2 h3 => ow x j (by omega), fun j => ow 0 j (by omega)⟩
  · unfold f_X9_layStep
    rw [show (605 : Int32) + 4 = nI 609 by decide, show (605 : Int32) + 5 = nI 610 by decide, show (605 : Int32) + 15 = nI 620 by decide, show (605 : Int32) + 25 = nI 630 by decide, bind_ok (ald_ok (by decide) (by decide)), h9, nI_add, nI_add, nI_add, bind_ok (ast_ok (by omega) (by decide)), bind_ok (ast_ok (by omega) (by decide)), bind_ok (ast_ok (by omega) (by decide)), bind_ok (ald_ok (by decide) (by decide)), k1 _ _ _ (by omega), k1 _ _ _ (by omega), k1 _ _ _ (by omega), h9, nI_1, bind_ok (ast_ok (by decide) (by decide)), hw]
  · rw [fM'] at ht
    rw [show fA (layF D a c e) t = if t = m then a else fA D t by rw [hmm]; rfl, show fB (layF D a c e) t = if t = m then c else fB D t by rw [hmm]; rfl, show fC (layF D a c e) t = if t = m then e else fC D t by rw [hmm]; rfl]
    by_cases q : t = m
    · rw [if_pos q, if_pos q, if_pos q, q]; exact ⟨w5, w15, w25⟩
    · rw [if_neg q, if_neg q, if_neg q, ow _ _ (by omega), ow _ _ (by omega), ow _ _ (by omega)]
      exact g4 t (by omega)
  · rw [ow _ _ (by omega), ow _ _ (by omega)]; exact g5 i hi
/-- item t, after its numbers -/
theorem m_stp (h : OKL D) (hM : FMl 605 D s) {a c e : Nat} (ha : a < 100) (hc : c < 100) (he : e < 100) (h4 : s.1 4 0 = nI a) (h5 : s.1 4 1 = nI c) (h6 : s.1 4 2 = nI e) :
    ∃ s', ((ald s 4 3 0).bind fun x7 => (f_X9_isRead x7 s).bind fun q8 => if q8 = 0 then f_X9_readStep_94 s else (ald s 4 3 1).bind fun x9 => (f_X9_isRead x9 s).bind fun q10 => if q10 = 0 then f_X9_readStep_94 s else (ald s 4 3 2).bind fun x11 => (f_X9_isRead x11 s).bind fun q12 => if q12 = 0 then f_X9_readStep_94 s else (ald s 4 3 2).bind fun x13 => (ald s 4 3 0).bind fun x14 => if x13 = x14 then f_X9_readStep_94 s else (ald s 4 3 2).bind fun x15 => (ald s 4 3 1).bind fun x16 => if x15 = x16 then f_X9_readStep_94 s else (ald s 1 660 609).bind fun x17 => if (10 : Int32) ≤ x17 then f_X9_readStep_94 s else f_X9_readStep_95 1 s) = some (if stp D a c e ∧ fM D < 10 then (1, s') else (0, s)) ∧ frM s' s ∧ (stp D a c e ∧ fM D < 10 → FMl 605 (layF D a c e) s') ∧ ∀ j, s'.1 0 j = s.1 0 j := by
  have hN := h.1
  have hMM := h.2.1
  have a0 : ald s 4 3 0 = some (nI a) := by rw [z_0, ald_ok (by decide) (by decide), h4]
  have a1 : ald s 4 3 1 = some (nI c) := by rw [z_1, ald_ok (by decide) (by decide), h5]
  have a2 : ald s 4 3 2 = some (nI e) := by rw [z_lit 2, ald_ok (by decide) (by decide), h6]
  have a9 : ald s 1 660 609 = some (nI (fM D)) := by rw [z_lit 609, m_w (by decide)]; exact congrArg some hM.2.1
  have no : f_X9_readStep_94 s = some (0, s) := by
    unfold f_X9_readStep_94 f_X9_readStep_95
    rw [if_pos rfl]
    rfl
  have bad : ¬ (stp D a c e ∧ fM D < 10) → ∃ s', (some (0, s) : Option (Int32 × Sg)) = some (if stp D a c e ∧ fM D < 10 then (1, s') else (0, s)) ∧ frM s' s ∧ (stp D a c e ∧ fM D < 10 → FMl 605 (layF D a c e) s') ∧ ∀ j, s'.1 0 j = s.1 0 j := fun q => ⟨s, by rw [if_neg q], frM_r s, fun w => absurd w q, fun _ => rfl⟩
  rw [bind_ok a0, bind_ok (m_isRead h hM ha), bind_ok a1, bind_ok (m_isRead h hM hc), bind_ok a2, bind_ok (m_isRead h hM he), bind_ok a2, bind_ok a0, bind_ok a2, bind_ok a1, bind_ok a9, no]
  by_cases c1 : a < fN D
  case neg => rw [decide_eq_false c1, bz_f, if_pos rfl]; exact bad (fun q => c1 q.1.1)
  rw [decide_eq_true c1, bz_t, if_neg (by decide : ¬ (1 : Int32) = 0)]
  by_cases c2 : c < fN D
  case neg => rw [decide_eq_false c2, bz_f, if_pos rfl]; exact bad (fun q => c2 q.1.2.1)
  rw [decide_eq_true c2, bz_t, if_neg (by decide : ¬ (1 : Int32) = 0)]
  by_cases c3 : e < fN D
  case neg => rw [decide_eq_false c3, bz_f, if_pos rfl]; exact bad (fun q => c3 q.1.2.2.1)
  rw [decide_eq_true c3, bz_t, if_neg (by decide : ¬ (1 : Int32) = 0)]
  by_cases c4 : e = a
  · rw [if_pos (show nI e = nI a by rw [c4])]; exact bad (fun q => q.1.2.2.2.1 c4)
  rw [if_neg (nI_ne (by omega) (by omega) c4)]
  by_cases c5 : e = c
  · rw [if_pos (show nI e = nI c by rw [c5])]; exact bad (fun q => q.1.2.2.2.2 c5)
  rw [if_neg (nI_ne (by omega) (by omega) c5)]
  by_cases c6 : fM D < 10
  case neg => rw [if_pos (show (10 : Int32) ≤ nI (fM D) from nI_le (a := 10) (by omega) (by omega))]; exact bad (fun q => c6 q.2)
  rw [if_neg (show ¬ (10 : Int32) ≤ nI (fM D) from nI_ge (b := 10) c6 (by decide))]
  obtain ⟨s', k1, k2, k3, k4⟩ := m_layStep c6 hM a c e
  refine ⟨s', ?_, k3, fun _ => k2, k4⟩
  unfold f_X9_readStep_95 f_X9_readStep_125
  rw [if_neg (by decide : ¬ (1 : Int32) = 0), bind_ok a0, bind_ok a1, bind_ok a2, bind_ok k1, if_pos ⟨⟨c1, c2, c3, c4, c5⟩, c6⟩]
  rfl
end
end
section
def frX (s' s : Sg) : Prop := ∀ a j, a ≠ 4 → ¬ (a = 3 ∧ j = 1) → ¬ (5 ≤ a ∧ a ≤ 11) → s'.1 a j = s.1 a j
/-- one item: both refuse it, or both take it -/
def ITEM (len p w : Nat) (zX zM : Sg) : Prop :=
  (∃ sX sM, f_X4_readOnto_14s 5 (nI p) (nI w) zX = some (.inr (nI p, sX)) ∧ f_X9_readItem zM = some (0, sM) ∧ frX sX zX ∧ frM sM zM) ∨
  (∃ sX sM q D' only', p < q ∧ q ≤ len ∧ f_X4_readOnto_14s 5 (nI p) (nI w) zX = some (.inl (nI q, nI (w + 1), sX)) ∧ f_X9_readItem zM = some (1, sM) ∧ sM.1 0 7 = nI q ∧ DR D' 5 only' sX sM ∧ frX sX zX ∧ frM sM zM)
section
variable {D : Fl} {tx : Nat → Nat} {len p w : Nat} {only : Bool} {zX zM : Sg}
/-- the class's round, after the letter -/
theorem x_round (hl : len ≤ 300) (h : BX tx len zX) (hp : p < len) (hw : w < 300) {k : Nat} (hk : f_X4_numbersOf (nI (tx p)) = some (nI k)) (hk1 : 1 ≤ k) (hk3 : k ≤ 3) {e : Int32} {sX : Sg} (he : itr 3000 (fun s => f_X4_itemsEnd_23s (nI k) s.1 s.2.1 s.2.2) (nI (p + 1), nI 0, zX) = some (e, sX)) :
    f_X4_readOnto_14s 5 (nI p) (nI w) zX = if e = -1 then some (.inr (nI p, sX)) else (f_X6_byteAt (nI p) sX).bind fun q6 => (f_X4_takeItem 5 q6 sX).bind fun q7 => if q7.1 = 0 then some (.inr (nI p, q7.2)) else some (.inl (e, nI (w + 1), q7.2)) := by
  unfold f_X4_readOnto_14s f_X4_itemsEnd f_X6_size f_X4_itemsEnd_23
  rw [if_neg (show ¬ (300 : Int32) ≤ nI w from nI_ge (a := w) (b := 300) hw (by decide)), h.1]
  show (if nI len ≤ nI p then _ else _) = _
  rw [if_neg (nI_ge hp (by omega)), bind_ok (x_byte hl h (by omega)), if_pos hp, bind_ok hk, if_neg (z_ne0 (by omega) (by omega)), nm_eq, nI_1]
  have he' : itr 3000 (fun s => f_X4_itemsEnd_23s (nI k) s.1 s.2.1 s.2.2) (nI (p + 1), 0, zX) = some (e, sX) := he
  rw [bind_ok he', ← nI_1 w]
  rfl
theorem frX_FXl (h : frX zX zM) (q : ∀ a j, 5 ≤ a → a ≤ 11 → zX.1 a j = zM.1 a j) (g : FXl 5 D zM) : FXl 5 D zX := FXl_pt (fun a j h1 h2 => q a j h1 (by omega)) g
/-- what the numbers leave, for the draft -/
theorem DR_nums {sX sM : Sg} {q : Nat} (hD : DR D 5 only zX zM) (fx : ∀ a j, a ≠ 4 → sX.1 a j = zX.1 a j) (fm : ∀ a j, a ≠ 4 → ¬ (a = 0 ∧ j = 7) → sM.1 a j = (up1 zM 0 7 (nI q)).1 a j) : DR D 5 only sX sM ∧ frX sX zX ∧ frM sM zM := by
  obtain ⟨d1, d2, d3, d4, d5, d6, d7⟩ := hD
  have fm2 : ∀ a j, a ≠ 4 → ¬ (a = 0 ∧ j = 7) → sM.1 a j = zM.1 a j := fun a j h1 h2 => by rw [fm a j h1 h2, up1_eq, if_neg h2]
  refine ⟨⟨d1, FXl_pt (fun a j h1 h2 => fx a j (by omega)) d2, FMl_pt d1.2.1 (fun j h1 h2 => fm2 1 j (by omega) (by omega)) d3, by rw [fx 5 9 (by omega)]; exact d4, by rw [fx 3 1 (by omega)]; exact d5, by rw [fm2 0 9 (by omega) (by omega)]; exact d6, d7⟩, fun a j h1 _ _ => fx a j h1, fun a j h1 _ h3 => fm2 a j h3 (by omega)⟩
theorem item_a (hl : len ≤ 300) (ht : ∀ j, j < len → tx j < 256) (hD : DR D 5 only zX zM) (bX : BX tx len zX) (bM : BM tx len zM) (hat : zM.1 0 7 = nI p) (hp : p < len) (hw : w < 300) (hL : tx p = 97) : ITEM len p w zX zM := by
  have hM0 : f_X9_readItem zM = (f_X9_takes 1 (up1 zM 0 7 (nI (p + 1)))).bind fun q3 => if q3.1 = 0 then f_X9_readItem_167 97 q3.2 else (ald q3.2 4 3 0).bind fun x9 => (f_X9_isRead x9 q3.2).bind fun q10 => if q10 = 0 then f_X9_readItem_167 97 q3.2 else f_X9_readItem_168 97 1 q3.2 := by
    unfold f_X9_readItem
    rw [hat, bind_ok (ald_ok (by omega) (by decide)), bM.2 p hp, hL, bind_ok (pfi_eq _ _ _ _), nI_1, if_pos (show nI 97 = (97 : Int32) from rfl)]
    rfl
  have bM1 : BM tx len (up1 zM 0 7 (nI (p + 1))) := BM_at bM (p + 1)
  rcases nums_both hl ht (k := 1) (by decide) 1 0 (p + 1) zX (up1 zM 0 7 (nI (p + 1))) 3000 3000 rfl (by decide) (by decide) (by omega) bX bM1 (by rw [up1_eq, if_pos ⟨rfl, rfl⟩]) with ⟨sX, sM, e1, e2, fx, fm⟩ | ⟨sX, sM, q, n, h1, h2, e1, e2, h3, h4, -, fx, fm⟩
  · obtain ⟨dD, fX, fM⟩ := DR_nums hD fx fm
    have hR := x_round hl bX hp hw (k := 1) (by rw [hL]; rfl) (by decide) (by decide) e1
    rw [if_pos rfl] at hR
    have e2' : f_X9_takes 1 (up1 zM 0 7 (nI (p + 1))) = some (0, sM) := e2
    have a6 : ald sM 1 660 606 = some (nI (fBg D)) := by rw [z_lit 606, m_w (by decide)]; exact congrArg some dD.2.2.1.2.2.1
    refine Or.inl ⟨sX, up1 (up1 sM 1 606 (nI (fBg D))) 0 9 1, hR, ?_, fX, frM_t (frM_t (frM_9 _) (frM_1 (by decide) _)) fM⟩
    rw [hM0, bind_ok e2', if_pos rfl]
    unfold f_X9_readItem_167 f_X9_readItem_168 f_X9_readItem_194
    rw [bind_ok a6, if_pos rfl, z_or0, z_lit 606, bind_ok (ast_ok (by decide) (by decide)), m_289 (by decide) (Or.inl rfl)]
  · obtain ⟨dD, fX, fM⟩ := DR_nums hD fx fm
    obtain ⟨d1, d2, d3, d4, d5, d6, d7⟩ := dD
    have hn := h4 0 (Nat.le_refl _) (by decide)
    have hR := x_round hl bX hp hw (k := 1) (by rw [hL]; rfl) (by decide) (by decide) e1
    have bsX : BX tx len sX := ⟨by rw [fx 1 1 (by omega)]; exact bX.1, fun j hj => by rw [fx 2 j (by omega)]; exact bX.2 j hj⟩
    have e2' : f_X9_takes 1 (up1 zM 0 7 (nI (p + 1))) = some (1, sM) := e2
    obtain ⟨yM, m1, m2, m3, m4, m5⟩ := m_a d1 d3 hn.2.2 hn.2.1
    have eM : f_X9_readItem zM = some (bz (decide (n 0 < fN D)), yM) := by
      rw [hM0, bind_ok e2', if_neg (by decide : ¬ (1 : Int32) = 0)]
      exact m1
    have a1 : f_X8_at 4 3 1 sX = some (sX.1 4 1) := x_at (i := 1) (by decide) (by decide)
    have eT : f_X4_takeItem 5 (nI 97) sX = if n 0 < fN D then some (1, up1 (up1 sX 3 1 0) 5 8 (nI (fBg D ||| 2 ^ n 0))) else some (0, up1 sX 3 1 0) := by
      unfold f_X4_takeItem
      rw [show f_X8_at 4 3 0 sX = some (nI (n 0)) by rw [z_0, x_at (by decide) (by decide), hn.1], bind_ok rfl, bind_ok a1, if_neg (show ¬ nI 97 = (110 : Int32) by decide)]
      show ((f_X1_beginOn 5 (nI (n 0)) (up1 sX 3 1 0)).bind _) = _
      rw [x_begOn d1 (FXl_pt (fun a j h1 h2 => by rw [up1_eq, if_neg (by omega)]) d2) hn.2.2]
      by_cases c : n 0 < fN D
      · rw [if_pos c]; rfl
      · rw [if_neg c]; rfl
    rw [if_neg (nI_neg (by omega)).1, bind_ok (x_byte hl bsX (by omega)), if_pos hp, hL, eT] at hR
    by_cases c : n 0 < fN D
    · rw [if_pos c] at hR
      rw [decide_eq_true c] at eM
      refine Or.inr ⟨_, yM, q, begF D (n 0), false, by omega, h2, hR, eM, by rw [m5]; exact h3, ⟨begF_ok d1 c, FXl_beg (FXl_pt (fun a j h1 h2 => by rw [up1_eq, if_neg (by omega)]) d2) _, m3 c, ?_, ?_, m4, fun q => by cases q⟩, fun a j h1 h2 h3 => by rw [up1_eq, if_neg (by omega), up1_eq, if_neg h2]; exact fX a j h1 h2 h3, frM_t m2 fM⟩
      · rw [up1_eq, if_neg (by omega), up1_eq, if_neg (by omega)]; exact d4
      · rw [up1_eq, if_neg (by omega), up1_eq, if_pos ⟨rfl, rfl⟩]; rfl
    · rw [if_neg c] at hR
      rw [decide_eq_false c] at eM
      exact Or.inl ⟨_, yM, hR, eM, fun a j h1 h2 h3 => by rw [up1_eq, if_neg h2]; exact fX a j h1 h2 h3, frM_t m2 fM⟩
end
end
section
section
variable {D : Fl} {tx : Nat → Nat} {len p w : Nat} {only : Bool} {zX zM : Sg}
theorem item_w (hl : len ≤ 300) (ht : ∀ j, j < len → tx j < 256) (hD : DR D 5 only zX zM) (bX : BX tx len zX) (bM : BM tx len zM) (hat : zM.1 0 7 = nI p) (hp : p < len) (hw : w < 300) (hL : tx p = 119) : ITEM len p w zX zM := by
  have hM0 : f_X9_readItem zM = (f_X9_takes 2 (up1 zM 0 7 (nI (p + 1)))).bind fun q3 => if q3.1 = 0 then f_X9_readItem_240 119 q3.2 else (ald q3.2 4 3 0).bind fun x9 => (f_X9_isRead x9 q3.2).bind fun q10 => if q10 = 0 then f_X9_readItem_240 119 q3.2 else f_X9_readItem_241 119 1 q3.2 := by
    unfold f_X9_readItem
    rw [hat, bind_ok (ald_ok (by omega) (by decide)), bM.2 p hp, hL, bind_ok (pfi_eq _ _ _ _), nI_1, if_neg (show ¬ nI 119 = (97 : Int32) by decide), if_neg (show ¬ nI 119 = (110 : Int32) by decide), if_neg (show ¬ nI 119 = (116 : Int32) by decide), if_pos (show nI 119 = (119 : Int32) from rfl)]
    rfl
  have bM1 : BM tx len (up1 zM 0 7 (nI (p + 1))) := BM_at bM (p + 1)
  rcases nums_both hl ht (k := 2) (by decide) 2 0 (p + 1) zX (up1 zM 0 7 (nI (p + 1))) 3000 3000 rfl (by decide) (by decide) (by omega) bX bM1 (by rw [up1_eq, if_pos ⟨rfl, rfl⟩]) with ⟨sX, sM, e1, e2, fx, fm⟩ | ⟨sX, sM, q, n, h1, h2, e1, e2, h3, h4, -, fx, fm⟩
  · obtain ⟨dD, fX, fM⟩ := DR_nums hD fx fm
    have hR := x_round hl bX hp hw (k := 2) (by rw [hL]; rfl) (by decide) (by decide) e1
    rw [if_pos rfl] at hR
    have e2' : f_X9_takes 2 (up1 zM 0 7 (nI (p + 1))) = some (0, sM) := e2
    refine Or.inl ⟨sX, up1 (up1 sM 1 640 (sM.1 1 640)) 0 9 1, hR, ?_, fX, frM_t (frM_t (frM_9 _) (frM_1 (by decide) _)) fM⟩
    rw [hM0, bind_ok e2', if_pos rfl]
    unfold f_X9_readItem_240 f_X9_readItem_241 f_X9_readItem_263 f_X9_readItem_285
    rw [if_pos rfl, if_pos rfl, z_lit 640, bind_ok (m_w (by decide)), show nI 640 + (0 : Int32) = nI 640 by decide, bind_ok (ast_ok (by decide) (by decide)), m_289 (by decide) (Or.inl rfl)]
  · obtain ⟨dD, fX, fM⟩ := DR_nums hD fx fm
    obtain ⟨d1, d2, d3, d4, d5, d6, d7⟩ := dD
    have hn := h4 0 (Nat.le_refl _) (by decide)
    have hn1 := h4 1 (by decide) (by decide)
    have hR := x_round hl bX hp hw (k := 2) (by rw [hL]; rfl) (by decide) (by decide) e1
    have bsX : BX tx len sX := ⟨by rw [fx 1 1 (by omega)]; exact bX.1, fun j hj => by rw [fx 2 j (by omega)]; exact bX.2 j hj⟩
    have e2' : f_X9_takes 2 (up1 zM 0 7 (nI (p + 1))) = some (1, sM) := e2
    obtain ⟨yM, m1, m2, m3, m4, m5⟩ := m_wea d1 d3 hn.2.2 hn.2.1 hn1.2.1
    have eM : f_X9_readItem zM = some (bz (decide (n 0 < fN D)), yM) := by
      rw [hM0, bind_ok e2', if_neg (by decide : ¬ (1 : Int32) = 0)]
      exact m1
    have eT : f_X4_takeItem 5 (nI 119) sX = if n 0 < fN D then some (1, up1 (up1 sX 3 1 0) 11 (n 0) (nI (n 1))) else some (0, up1 sX 3 1 0) := by
      unfold f_X4_takeItem
      rw [show f_X8_at 4 3 0 sX = some (nI (n 0)) by rw [z_0, x_at (by decide) (by decide), hn.1], bind_ok rfl, show f_X8_at 4 3 1 sX = some (nI (n 1)) by rw [z_1, x_at (by decide) (by decide), hn1.1], bind_ok rfl, if_neg (show ¬ nI 119 = (110 : Int32) by decide)]
      rw [show pfz sX 3 1 0 = some (up1 sX 3 1 0) from rfl, bind_ok rfl, if_neg (show ¬ nI 119 = (97 : Int32) by decide), if_neg (show ¬ nI 119 = (116 : Int32) by decide), if_neg (show ¬ nI 119 = (120 : Int32) by decide), x_setWear d1 (FXl_pt (fun a j h1 h2 => by rw [up1_eq, if_neg (by omega)]) d2) hn.2.2]
      by_cases c : n 0 < fN D
      · rw [if_pos c]; rfl
      · rw [if_neg c]; rfl
    rw [if_neg (nI_neg (by omega)).1, bind_ok (x_byte hl bsX (by omega)), if_pos hp, hL, eT] at hR
    by_cases c : n 0 < fN D
    · rw [if_pos c] at hR
      rw [decide_eq_true c] at eM
      refine Or.inr ⟨_, yM, q, weaF D (n 0) (nI (n 1)), false, by omega, h2, hR, eM, by rw [m5]; exact h3, ⟨weaF_ok d1 _ _, FXl_wea (FXl_pt (fun a j h1 h2 => by rw [up1_eq, if_neg (by omega)]) d2) _ _, m3 c, ?_, ?_, m4, fun q => by cases q⟩, fun a j h1 h2 h3 => by rw [up1_eq, if_neg (by omega), up1_eq, if_neg h2]; exact fX a j h1 h2 h3, frM_t m2 fM⟩
      · rw [up1_eq, if_neg (by omega), up1_eq, if_neg (by omega)]; exact d4
      · rw [up1_eq, if_neg (by omega), up1_eq, if_pos ⟨rfl, rfl⟩]; rfl
    · rw [if_neg c] at hR
      rw [decide_eq_false c] at eM
      exact Or.inl ⟨_, yM, hR, eM, fun a j h1 h2 h3 => by rw [up1_eq, if_neg h2]; exact fX a j h1 h2 h3, frM_t m2 fM⟩
end
end
section
section
variable {D : Fl} {tx : Nat → Nat} {len p w : Nat} {only : Bool} {zX zM : Sg}
theorem item_x (hl : len ≤ 300) (ht : ∀ j, j < len → tx j < 256) (hD : DR D 5 only zX zM) (bX : BX tx len zX) (bM : BM tx len zM) (hat : zM.1 0 7 = nI p) (hp : p < len) (hw : w < 300) (hL : tx p = 120) : ITEM len p w zX zM := by
  have hM0 : f_X9_readItem zM = (f_X9_readPair (up1 zM 0 7 (nI (p + 1)))).bind fun q25 => f_X9_readItem_289 120 q25.1 q25.2 := by
    unfold f_X9_readItem
    rw [hat, bind_ok (ald_ok (by omega) (by decide)), bM.2 p hp, hL, bind_ok (pfi_eq _ _ _ _), nI_1, if_neg (show ¬ nI 120 = (97 : Int32) by decide), if_neg (show ¬ nI 120 = (110 : Int32) by decide), if_neg (show ¬ nI 120 = (116 : Int32) by decide), if_neg (show ¬ nI 120 = (119 : Int32) by decide), if_pos (show nI 120 = (120 : Int32) from rfl)]
    rfl
  have bM1 : BM tx len (up1 zM 0 7 (nI (p + 1))) := BM_at bM (p + 1)
  rcases nums_both hl ht (k := 2) (by decide) 2 0 (p + 1) zX (up1 zM 0 7 (nI (p + 1))) 3000 3000 rfl (by decide) (by decide) (by omega) bX bM1 (by rw [up1_eq, if_pos ⟨rfl, rfl⟩]) with ⟨sX, sM, e1, e2, fx, fm⟩ | ⟨sX, sM, q, n, h1, h2, e1, e2, h3, h4, -, fx, fm⟩
  · obtain ⟨dD, fX, fM⟩ := DR_nums hD fx fm
    have hR := x_round hl bX hp hw (k := 2) (by rw [hL]; rfl) (by decide) (by decide) e1
    rw [if_pos rfl] at hR
    have e2' : f_X9_takes 2 (up1 zM 0 7 (nI (p + 1))) = some (0, sM) := e2
    refine Or.inl ⟨sX, up1 sM 0 9 1, hR, ?_, fX, frM_t (frM_9 _) fM⟩
    have ep : f_X9_readPair (up1 zM 0 7 (nI (p + 1))) = some (0, sM) := by
      unfold f_X9_readPair
      rw [bind_ok e2', if_pos rfl]
      unfold f_X9_readPair_53 f_X9_readPair_54
      rw [if_pos rfl]
      rfl
    rw [hM0, bind_ok ep, m_289 (by decide) (Or.inl rfl)]
  · obtain ⟨dD, fX, fM⟩ := DR_nums hD fx fm
    obtain ⟨d1, d2, d3, d4, d5, d6, d7⟩ := dD
    have hn := h4 0 (Nat.le_refl _) (by decide)
    have hn1 := h4 1 (by decide) (by decide)
    have hR := x_round hl bX hp hw (k := 2) (by rw [hL]; rfl) (by decide) (by decide) e1
    have bsX : BX tx len sX := ⟨by rw [fx 1 1 (by omega)]; exact bX.1, fun j hj => by rw [fx 2 j (by omega)]; exact bX.2 j hj⟩
    have e2' : f_X9_takes 2 (up1 zM 0 7 (nI (p + 1))) = some (1, sM) := e2
    obtain ⟨yM, m1, m2, m3, m4, m5⟩ := m_pair d1 d3 hn.2.2 hn1.2.2 hn.2.1 hn1.2.1
    have ep : f_X9_readPair (up1 zM 0 7 (nI (p + 1))) = some (bz (decide (n 0 < fN D ∧ n 1 < fN D ∧ n 0 ≠ n 1)), yM) := by
      unfold f_X9_readPair
      rw [bind_ok e2', if_neg (by decide : ¬ (1 : Int32) = 0)]
      exact m1
    have eM : f_X9_readItem zM = some (bz (decide (n 0 < fN D ∧ n 1 < fN D ∧ n 0 ≠ n 1)), up1 yM 0 9 1) := by
      rw [hM0, bind_ok ep, m_289 (by decide) (bz_01 _)]
    obtain ⟨yX, g1, g2, g3⟩ := x_setGain (z := up1 sX 3 1 0) d1 (FXl_pt (fun a j h1 h2 => by rw [up1_eq, if_neg (by omega)]) d2) hn.2.2 hn1.2.2
    have eT : f_X4_takeItem 5 (nI 120) sX = if n 0 < fN D ∧ n 1 < fN D ∧ n 0 ≠ n 1 then some (1, yX) else some (0, up1 sX 3 1 0) := by
      unfold f_X4_takeItem
      rw [show f_X8_at 4 3 0 sX = some (nI (n 0)) by rw [z_0, x_at (by decide) (by decide), hn.1], bind_ok rfl, show f_X8_at 4 3 1 sX = some (nI (n 1)) by rw [z_1, x_at (by decide) (by decide), hn1.1], bind_ok rfl, if_neg (show ¬ nI 120 = (110 : Int32) by decide)]
      rw [show pfz sX 3 1 0 = some (up1 sX 3 1 0) from rfl, bind_ok rfl, if_neg (show ¬ nI 120 = (97 : Int32) by decide), if_neg (show ¬ nI 120 = (116 : Int32) by decide), if_pos (show nI 120 = (120 : Int32) from rfl), g1]
      by_cases c : n 0 < fN D ∧ n 1 < fN D ∧ n 0 ≠ n 1
      · rw [if_pos c]; rfl
      · rw [if_neg c]; rfl
    rw [if_neg (nI_neg (by omega)).1, bind_ok (x_byte hl bsX (by omega)), if_pos hp, hL, eT] at hR
    by_cases c : n 0 < fN D ∧ n 1 < fN D ∧ n 0 ≠ n 1
    · rw [if_pos c] at hR
      rw [decide_eq_true c] at eM
      refine Or.inr ⟨yX, _, q, gaiF D (n 0) (n 1), false, by omega, h2, hR, eM, by rw [up1_eq, if_neg (by omega), m5]; exact h3, ⟨gaiF_ok d1 c.1 c.2.1, g2 c, FMl_9 (m3 c) _, ?_, ?_, by rw [up1_eq, if_pos ⟨rfl, rfl⟩]; rfl, fun q => by cases q⟩, fun a j h1 h2 h3 => by rw [g3 a j (by omega), up1_eq, if_neg h2]; exact fX a j h1 h2 h3, frM_t (frM_9 _) (frM_t m2 fM)⟩
      · rw [g3 5 9 (by omega), up1_eq, if_neg (by omega)]; exact d4
      · rw [g3 3 1 (by omega), up1_eq, if_pos ⟨rfl, rfl⟩]; rfl
    · rw [if_neg c] at hR
      rw [decide_eq_false c] at eM
      exact Or.inl ⟨_, _, hR, eM, fun a j h1 h2 h3 => by rw [up1_eq, if_neg h2]; exact fX a j h1 h2 h3, frM_t (frM_9 _) (frM_t m2 fM)⟩
end
end
section
section
variable {D : Fl} {tx : Nat → Nat} {len p w : Nat} {only : Bool} {zX zM : Sg}
theorem item_t (hl : len ≤ 300) (ht : ∀ j, j < len → tx j < 256) (hD : DR D 5 only zX zM) (bX : BX tx len zX) (bM : BM tx len zM) (hat : zM.1 0 7 = nI p) (hp : p < len) (hw : w < 300) (hL : tx p = 116) : ITEM len p w zX zM := by
  have hM0 : f_X9_readItem zM = (f_X9_readStep (up1 zM 0 7 (nI (p + 1)))).bind fun q25 => f_X9_readItem_289 116 q25.1 q25.2 := by
    unfold f_X9_readItem
    rw [hat, bind_ok (ald_ok (by omega) (by decide)), bM.2 p hp, hL, bind_ok (pfi_eq _ _ _ _), nI_1, if_neg (show ¬ nI 116 = (97 : Int32) by decide), if_neg (show ¬ nI 116 = (110 : Int32) by decide), if_pos (show nI 116 = (116 : Int32) from rfl)]
    rfl
  have bM1 : BM tx len (up1 zM 0 7 (nI (p + 1))) := BM_at bM (p + 1)
  rcases nums_both hl ht (k := 3) (by decide) 3 0 (p + 1) zX (up1 zM 0 7 (nI (p + 1))) 3000 3000 rfl (by decide) (by decide) (by omega) bX bM1 (by rw [up1_eq, if_pos ⟨rfl, rfl⟩]) with ⟨sX, sM, e1, e2, fx, fm⟩ | ⟨sX, sM, q, n, h1, h2, e1, e2, h3, h4, -, fx, fm⟩
  · obtain ⟨dD, fX, fR⟩ := DR_nums hD fx fm
    have hR := x_round hl bX hp hw (k := 3) (by rw [hL]; rfl) (by decide) (by decide) e1
    rw [if_pos rfl] at hR
    have e2' : f_X9_takes 3 (up1 zM 0 7 (nI (p + 1))) = some (0, sM) := e2
    refine Or.inl ⟨sX, up1 sM 0 9 1, hR, ?_, fX, frM_t (frM_9 _) fR⟩
    have ep : f_X9_readStep (up1 zM 0 7 (nI (p + 1))) = some (0, sM) := by
      unfold f_X9_readStep
      rw [bind_ok e2', if_pos rfl]
      unfold f_X9_readStep_94 f_X9_readStep_95
      rw [if_pos rfl]
      rfl
    rw [hM0, bind_ok ep, m_289 (by decide) (Or.inl rfl)]
  · obtain ⟨dD, fX, fR⟩ := DR_nums hD fx fm
    obtain ⟨d1, d2, d3, d4, d5, d6, d7⟩ := dD
    have hn := h4 0 (Nat.le_refl _) (by decide)
    have hn1 := h4 1 (by decide) (by decide)
    have hn2 := h4 2 (by decide) (by decide)
    have hR := x_round hl bX hp hw (k := 3) (by rw [hL]; rfl) (by decide) (by decide) e1
    have bsX : BX tx len sX := ⟨by rw [fx 1 1 (by omega)]; exact bX.1, fun j hj => by rw [fx 2 j (by omega)]; exact bX.2 j hj⟩
    have e2' : f_X9_takes 3 (up1 zM 0 7 (nI (p + 1))) = some (1, sM) := e2
    obtain ⟨yM, m1, m2, m3, m4⟩ := m_stp d1 d3 hn.2.2 hn1.2.2 hn2.2.2 hn.2.1 hn1.2.1 hn2.2.1
    have ep : f_X9_readStep (up1 zM 0 7 (nI (p + 1))) = some (if stp D (n 0) (n 1) (n 2) ∧ fM D < 10 then (1, yM) else (0, sM)) := by
      unfold f_X9_readStep
      rw [bind_ok e2', if_neg (by decide : ¬ (1 : Int32) = 0)]
      exact m1
    obtain ⟨yX, g1, g2, g3, g4⟩ := x_addStepL (z := up1 sX 3 1 0) d1 (FXl_pt (fun a j h1 h2 => by rw [up1_eq, if_neg (by omega)]) d2) hn.2.2 hn1.2.2 hn2.2.2
    have eT : f_X4_takeItem 5 (nI 116) sX = (f_X1_addStep 5 (nI (n 0)) (nI (n 1)) (nI (n 2)) (up1 sX 3 1 0)).bind fun q7 => (zrt q7.1).bind fun x8 => some ((x8, q7.2)) := by
      unfold f_X4_takeItem
      rw [show f_X8_at 4 3 0 sX = some (nI (n 0)) by rw [z_0, x_at (by decide) (by decide), hn.1], bind_ok rfl, show f_X8_at 4 3 1 sX = some (nI (n 1)) by rw [z_1, x_at (by decide) (by decide), hn1.1], bind_ok rfl, if_neg (show ¬ nI 116 = (110 : Int32) by decide)]
      rw [show pfz sX 3 1 0 = some (up1 sX 3 1 0) from rfl, bind_ok rfl, if_neg (show ¬ nI 116 = (97 : Int32) by decide), if_pos (show nI 116 = (116 : Int32) from rfl), show f_X8_at 4 3 2 (up1 sX 3 1 0) = some (nI (n 2)) by rw [z_lit 2, x_at (by decide) (by decide), up1_eq, if_neg (by omega), hn2.1], bind_ok rfl]
    rw [if_neg (nI_neg (by omega)).1, bind_ok (x_byte hl bsX (by omega)), if_pos hp, hL, eT] at hR
    by_cases c : stp D (n 0) (n 1) (n 2) ∧ fM D < 10
    · have eM : f_X9_readItem zM = some (1, up1 yM 0 9 1) := by
        rw [hM0, ep, if_pos c]
        exact m_289 (by decide) (Or.inr rfl)
      rw [g1 c] at hR
      refine Or.inr ⟨yX, _, q, layF D (n 0) (n 1) (n 2), false, by omega, h2, hR, eM, by rw [up1_eq, if_neg (by omega), m4]; exact h3, ⟨layF_okl d1 c.2 c.1.1 c.1.2.1 c.1.2.2.1 c.1.2.2.2.1 c.1.2.2.2.2, g3 c, FMl_9 (m3 c) _, ?_, ?_, by rw [up1_eq, if_pos ⟨rfl, rfl⟩]; rfl, fun q => by cases q⟩, fun a j h1 h2 h3 => by rw [g4 a j (by omega) (by omega), up1_eq, if_neg h2]; exact fX a j h1 h2 h3, frM_t (frM_9 _) (frM_t m2 fR)⟩
      · rw [g4 5 9 (by omega) (by omega), up1_eq, if_neg (by omega)]; exact d4
      · rw [g4 3 1 (by omega) (by omega), up1_eq, if_pos ⟨rfl, rfl⟩]; rfl
    · have eM : f_X9_readItem zM = some (0, up1 sM 0 9 1) := by
        rw [hM0, ep, if_neg c]
        exact m_289 (by decide) (Or.inl rfl)
      rw [g2 c] at hR
      exact Or.inl ⟨_, _, hR, eM, fun a j h1 h2 h3 => by rw [up1_eq, if_neg h2]; exact fX a j h1 h2 h3, frM_t (frM_9 _) fR⟩
end
end
section
section
variable {D : Fl} {tx : Nat → Nat} {len p w : Nat} {only : Bool} {zX zM : Sg}
theorem item_n (hl : len ≤ 300) (ht : ∀ j, j < len → tx j < 256) (hD : DR D 5 only zX zM) (bX : BX tx len zX) (bM : BM tx len zM) (hat : zM.1 0 7 = nI p) (hp : p < len) (hw : w < 300) (hL : tx p = 110) : ITEM len p w zX zM := by
  obtain ⟨sZ, hZ⟩ : ∃ sZ, sZ = up1 zM 0 7 (nI (p + 1)) := ⟨_, rfl⟩
  have h09 : sZ.1 0 9 = bz (!only) := by rw [hZ, up1_eq, if_neg (by omega)]; exact hD.2.2.2.2.2.1
  have hM0 : f_X9_readItem zM = if sZ.1 0 9 = 0 then (f_X9_takes 1 sZ).bind fun q14 => if q14.1 = 0 then f_X9_readItem_108 110 q14.2 else (ald q14.2 4 3 0).bind fun x15 => (f_X9_in ((x15 : Int32).toInt64) 1 10).bind fun q16 => if q16 = 0 then f_X9_readItem_108 110 q14.2 else f_X9_readItem_109 110 1 q14.2 else f_X9_readItem_108 110 sZ := by
    unfold f_X9_readItem
    rw [hat, bind_ok (ald_ok (by omega) (by decide)), bM.2 p hp, hL, bind_ok (pfi_eq _ _ _ _), nI_1, if_neg (show ¬ nI 110 = (97 : Int32) by decide), if_pos (show nI 110 = (110 : Int32) from rfl), hZ]
    rfl
  have r108 : ∀ s : Sg, ∃ s', f_X9_readItem_108 110 s = some (0, s') ∧ frM s' s := by
    intro s
    unfold f_X9_readItem_108 f_X9_readItem_109 f_X9_readItem_138
    rw [if_pos rfl, z_lit 605, bind_ok (m_w (by decide)), bind_ok (ast_ok (by decide) (by decide))]
    unfold f_X9_readItem_289 f_X9_readItem_303 f_X9_readItem_308
    by_cases c : (up1 s 1 605 (s.1 1 605)).1 0 9 = 0
    · rw [if_pos c, if_pos rfl]
      exact ⟨_, rfl, frM_t (frM_9 _) (frM_1 (by decide) _)⟩
    · rw [if_neg c]
      exact ⟨_, rfl, frM_t (frM_9 _) (frM_1 (by decide) _)⟩
  have bM1 : BM tx len sZ := by rw [hZ]; exact BM_at bM (p + 1)
  have fZ : frM sZ zM := fun a j h1 _ _ => by rw [hZ, up1_eq, if_neg (by omega)]
  rcases nums_both hl ht (k := 1) (by decide) 1 0 (p + 1) zX sZ 3000 3000 rfl (by decide) (by decide) (by omega) bX bM1 (by rw [hZ, up1_eq, if_pos ⟨rfl, rfl⟩]) with ⟨sX, sM, e1, e2, fx, fm⟩ | ⟨sX, sM, q, n, h1, h2, e1, e2, h3, h4, -, fx, fm⟩
  · rw [hZ] at fm
    obtain ⟨dD, fX, fR⟩ := DR_nums hD fx fm
    have hR := x_round hl bX hp hw (k := 1) (by rw [hL]; rfl) (by decide) (by decide) e1
    rw [if_pos rfl] at hR
    have e2' : f_X9_takes 1 sZ = some (0, sM) := e2
    by_cases c : sZ.1 0 9 = 0
    · obtain ⟨s', k1, k2⟩ := r108 sM
      exact Or.inl ⟨sX, s', hR, by rw [hM0, if_pos c, bind_ok e2', if_pos rfl]; exact k1, fX, frM_t k2 fR⟩
    · obtain ⟨s', k1, k2⟩ := r108 sZ
      exact Or.inl ⟨sX, s', hR, by rw [hM0, if_neg c]; exact k1, fX, frM_t k2 fZ⟩
  · rw [hZ] at fm
    obtain ⟨dD, fX, fR⟩ := DR_nums hD fx fm
    obtain ⟨d1, d2, d3, d4, d5, d6, d7⟩ := dD
    have hn := h4 0 (Nat.le_refl _) (by decide)
    have hR := x_round hl bX hp hw (k := 1) (by rw [hL]; rfl) (by decide) (by decide) e1
    have bsX : BX tx len sX := ⟨by rw [fx 1 1 (by omega)]; exact bX.1, fun j hj => by rw [fx 2 j (by omega)]; exact bX.2 j hj⟩
    have e2' : f_X9_takes 1 sZ = some (1, sM) := e2
    have a1 : f_X8_at 4 3 1 sX = some (sX.1 4 1) := x_at (i := 1) (by decide) (by decide)
    have eT : f_X4_takeItem 5 (nI 110) sX = if sX.1 3 1 = 0 then some (0, sX) else if 1 ≤ n 0 ∧ n 0 ≤ 10 then some (1, up1 (up1 sX 5 6 (nI (n 0))) 5 9 (nI (2 ^ n 0 - 1))) else some (0, sX) := by
      unfold f_X4_takeItem
      rw [show f_X8_at 4 3 0 sX = some (nI (n 0)) by rw [z_0, x_at (by decide) (by decide), hn.1], bind_ok rfl, bind_ok a1, if_pos (show nI 110 = (110 : Int32) from rfl), x_setStones hn.2.2]
      by_cases c1 : sX.1 3 1 = 0
      · rw [if_pos c1, if_pos c1]; rfl
      · rw [if_neg c1, if_neg c1]
        by_cases c2 : 1 ≤ n 0 ∧ n 0 ≤ 10
        · rw [if_pos c2]; rfl
        · rw [if_neg c2]; rfl
    rw [if_neg (nI_neg (by omega)).1, bind_ok (x_byte hl bsX (by omega)), if_pos hp, hL, eT, d5] at hR
    cases only with
    | false =>
      rw [bz_f, if_pos rfl] at hR
      obtain ⟨s', k1, k2⟩ := r108 sZ
      exact Or.inl ⟨sX, s', hR, by rw [hM0, h09, if_neg (by decide)]; exact k1, fX, frM_t k2 fZ⟩
    | true =>
      have d6' : sM.1 0 9 = 0 := d6
      obtain ⟨yM, m1, m2, m3, m4, m5⟩ := m_n d3 hn.2.2 hn.2.1 d6'
      have eM : f_X9_readItem zM = some (bz (decide (1 ≤ n 0) && decide (n 0 ≤ 10)), yM) := by
        rw [hM0, h09, if_pos (by decide), bind_ok e2', if_neg (by decide : ¬ (1 : Int32) = 0)]
        exact m1
      rw [bz_t, if_neg (by decide : ¬ (1 : Int32) = 0)] at hR
      by_cases c : 1 ≤ n 0 ∧ n 0 ≤ 10
      · rw [if_pos c] at hR
        rw [decide_eq_true c.1, decide_eq_true c.2] at eM
        refine Or.inr ⟨_, yM, q, manF D (n 0), true, by omega, h2, hR, eM, by rw [m5]; exact h3, ⟨manF_ok d1 c.1 c.2 (d7 rfl).1 (d7 rfl).2, FXl_man d2 _ _, m3 c, by rw [up1_eq, if_pos ⟨rfl, rfl⟩]; rfl, by rw [up1_eq, if_neg (by omega), up1_eq, if_neg (by omega)]; exact d5, m4, fun _ => d7 rfl⟩, fun a j h1 h2 h3 => by rw [up1_eq, if_neg (by omega), up1_eq, if_neg (by omega)]; exact fX a j h1 h2 h3, frM_t m2 fR⟩
      · rw [if_neg c] at hR
        have e0 : (decide (1 ≤ n 0) && decide (n 0 ≤ 10)) = false := by
          cases q : (decide (1 ≤ n 0) && decide (n 0 ≤ 10))
          · rfl
          · rw [Bool.and_eq_true, decide_eq_true_eq, decide_eq_true_eq] at q; exact absurd q c
        rw [e0] at eM
        exact Or.inl ⟨_, yM, hR, eM, fX, frM_t m2 fR⟩
end
end
section
section
variable {D : Fl} {tx : Nat → Nat} {len p w : Nat} {only : Bool} {zX zM : Sg}
theorem item_o (hl : len ≤ 300) (ht : ∀ j, j < len → tx j < 256) (bX : BX tx len zX) (bM : BM tx len zM) (hat : zM.1 0 7 = nI p) (hp : p < len) (hw : w < 300) (h1 : tx p ≠ 97) (h2 : tx p ≠ 110) (h3 : tx p ≠ 116) (h4 : tx p ≠ 119) (h5 : tx p ≠ 120) : ITEM len p w zX zM := by
  have hb := ht p hp
  have n1 : ¬ nI (tx p) = (97 : Int32) := nI_ne (b := 97) (by omega) (by decide) h1
  have n2 : ¬ nI (tx p) = (110 : Int32) := nI_ne (b := 110) (by omega) (by decide) h2
  have n3 : ¬ nI (tx p) = (116 : Int32) := nI_ne (b := 116) (by omega) (by decide) h3
  have n4 : ¬ nI (tx p) = (119 : Int32) := nI_ne (b := 119) (by omega) (by decide) h4
  have n5 : ¬ nI (tx p) = (120 : Int32) := nI_ne (b := 120) (by omega) (by decide) h5
  refine Or.inl ⟨zX, up1 (up1 zM 0 7 (nI (p + 1))) 0 9 1, ?_, ?_, fun _ _ _ _ _ => rfl, fun a j q _ _ => by rw [up1_eq, if_neg (by omega), up1_eq, if_neg (by omega)]⟩
  · have e0 : f_X4_numbersOf (nI (tx p)) = some 0 := by
      unfold f_X4_numbersOf
      rw [if_neg n1, if_neg n2, if_neg n3, if_neg n4, if_neg n5]
    unfold f_X4_readOnto_14s f_X4_itemsEnd f_X6_size
    rw [if_neg (show ¬ (300 : Int32) ≤ nI w from nI_ge (a := w) (b := 300) hw (by decide)), bX.1]
    show (if nI len ≤ nI p then _ else _) = _
    rw [if_neg (nI_ge hp (by omega)), bind_ok (x_byte hl bX (by omega)), if_pos hp, bind_ok e0, if_pos rfl]
    rfl
  · unfold f_X9_readItem
    rw [hat, bind_ok (ald_ok (by omega) (by decide)), bM.2 p hp, bind_ok (pfi_eq _ _ _ _), nI_1, if_neg n1, if_neg n2, if_neg n3, if_neg n4, if_neg n5]
    exact m_289 n2 (Or.inl rfl)
theorem item_both (hl : len ≤ 300) (ht : ∀ j, j < len → tx j < 256) (hD : DR D 5 only zX zM) (bX : BX tx len zX) (bM : BM tx len zM) (hat : zM.1 0 7 = nI p) (hp : p < len) (hw : w < 300) : ITEM len p w zX zM := by
  by_cases h1 : tx p = 97
  · exact item_a hl ht hD bX bM hat hp hw h1
  by_cases h2 : tx p = 110
  · exact item_n hl ht hD bX bM hat hp hw h2
  by_cases h3 : tx p = 116
  · exact item_t hl ht hD bX bM hat hp hw h3
  by_cases h4 : tx p = 119
  · exact item_w hl ht hD bX bM hat hp hw h4
  by_cases h5 : tx p = 120
  · exact item_x hl ht hD bX bM hat hp hw h5
  exact item_o hl ht bX bM hat hp hw h1 h2 h3 h4 h5
end
end
section
-- the first floor
def Ff : Fl := ((4, 2, 3, 15, 3), (fun t => if t = 0 then 0 else 2), (fun t => if t = 0 then 1 else 2), (fun t => if t = 0 then 2 else 3), (fun _ => 0), fun _ => 0)
theorem Ff_ok : OKF Ff := by
  refine ⟨⟨by decide, by decide, fun t ht => ?_, by decide, fun s hs => by show 0 < 2 ^ 10; decide⟩, by decide, by decide, by decide⟩
  have ht' : t < 2 := ht
  rcases (show t = 0 ∨ t = 1 by omega) with rfl | rfl <;> decide
def chk (s : Sg) (l : List (Nat × Nat × Int32)) (a b c d : Nat) : Bool := l.all (fun x => decide (s.1 x.1 x.2.1 = x.2.2)) && (List.range 10).all (fun i => decide (s.1 a (b + i) = nI 0) && decide (s.1 c (d + i) = 0))
def lX : List (Nat × Nat × Int32) := [(12, 6, nI 4), (12, 7, nI 2), (12, 8, nI 3), (12, 9, nI 15), (12, 10, nI 3), (13, 0, nI 0), (14, 0, nI 1), (15, 0, nI 2), (16, 0, nI 3), (13, 1, nI 2), (14, 1, nI 2), (15, 1, nI 3), (16, 1, nI 4), (1, 1, nI 0), (0, 10, nI 0), (0, 11, nI 0), (33, 2, nI 0)]
def lM : List (Nat × Nat × Int32) := [(1, 0, nI 4), (1, 4, nI 2), (1, 1, nI 3), (1, 2, nI 15), (1, 3, nI 3), (1, 5, nI 0), (1, 15, nI 1), (1, 25, nI 2), (1, 6, nI 2), (1, 16, nI 2), (1, 26, nI 3), (0, 4, nI 0), (0, 6, nI 0), (0, 1, nI 0), (0, 2, nI 0)]
def chkX (s : Sg) : Bool := chk s lX 17 0 18 0
def chkM (s : Sg) : Bool := chk s lM 1 45 1 35
theorem i_M : (match f_X9_init0 σz with | some s => chkM s | none => false) = true := by decide +kernel
theorem i_X : (match f_X8_init0 σz with | some s => chkX s | none => false) = true := by decide +kernel
theorem chk_ok {s : Sg} {l : List (Nat × Nat × Int32)} {a b c d : Nat} (h : chk s l a b c d = true) : (∀ x, x ∈ l → s.1 x.1 x.2.1 = x.2.2) ∧ ∀ i, i < 10 → s.1 a (b + i) = nI 0 ∧ s.1 c (d + i) = 0 := by
  unfold chk at h
  rw [Bool.and_eq_true, List.all_eq_true, List.all_eq_true] at h
  refine ⟨fun x hx => of_decide_eq_true (h.1 x hx), fun i hi => ?_⟩
  have := h.2 i (List.mem_range.mpr hi)
  rw [Bool.and_eq_true] at this
  exact ⟨of_decide_eq_true this.1, of_decide_eq_true this.2⟩
theorem init_both : ∃ sX sM, f_X8_init0 σz = some sX ∧ f_X9_init0 σz = some sM ∧ Sim sX sM := by
  have hX := i_X
  have hM := i_M
  cases eX : f_X8_init0 σz with
  | none => rw [eX] at hX; cases hX
  | some sX =>
    cases eM : f_X9_init0 σz with
    | none => rw [eM] at hM; cases hM
    | some sM =>
      rw [eX] at hX
      rw [eM] at hM
      obtain ⟨x1, x2⟩ := chk_ok (show chk sX lX 17 0 18 0 = true from hX)
      obtain ⟨m1, m2⟩ := chk_ok (show chk sM lM 1 45 1 35 = true from hM)
      refine ⟨sX, sM, rfl, rfl, Ff, Ff_ok, ⟨⟨x1 (12, 6, nI 4) (by decide), x1 (12, 7, nI 2) (by decide), x1 (12, 8, nI 3) (by decide), fun t ht => ?_, fun i hi => ?_⟩, x1 (12, 9, nI 15) (by decide), x1 (12, 10, nI 3) (by decide)⟩, ⟨⟨m1 (1, 0, nI 4) (by decide), m1 (1, 4, nI 2) (by decide), m1 (1, 1, nI 3) (by decide), fun t ht => ?_, fun i hi => ?_⟩, m1 (1, 2, nI 15) (by decide), m1 (1, 3, nI 3) (by decide)⟩, ⟨0, by decide, x1 (1, 1, nI 0) (by decide), m1 (0, 4, nI 0) (by decide), fun j hj => absurd hj (Nat.not_lt_zero _)⟩, TOLD_0 (x1 (0, 10, nI 0) (by decide)) (m1 (0, 6, nI 0) (by decide)), ⟨0, by decide, x1 (0, 11, nI 0) (by decide), m1 (0, 1, nI 0) (by decide), fun j hj => absurd hj (Nat.not_lt_zero _)⟩, UNDO_0 (x1 (33, 2, nI 0) (by decide)) (m1 (0, 2, nI 0) (by decide))⟩
      · have ht' : t < 2 := ht
        rcases (show t = 0 ∨ t = 1 by omega) with rfl | rfl
        · exact ⟨x1 (13, 0, nI 0) (by decide), x1 (14, 0, nI 1) (by decide), x1 (15, 0, nI 2) (by decide), x1 (16, 0, nI 3) (by decide)⟩
        · exact ⟨x1 (13, 1, nI 2) (by decide), x1 (14, 1, nI 2) (by decide), x1 (15, 1, nI 3) (by decide), x1 (16, 1, nI 4) (by decide)⟩
      · have := x2 i hi
        rw [Nat.zero_add] at this
        exact this
      · have ht' : t < 2 := ht
        rcases (show t = 0 ∨ t = 1 by omega) with rfl | rfl
        · exact ⟨m1 (1, 5, nI 0) (by decide), m1 (1, 15, nI 1) (by decide), m1 (1, 25, nI 2) (by decide)⟩
        · exact ⟨m1 (1, 6, nI 2) (by decide), m1 (1, 16, nI 2) (by decide), m1 (1, 26, nI 3) (by decide)⟩
      · have := m2 i hi
        rw [Nat.zero_add, Nat.zero_add]
        exact this
end
section
section
variable {tx : Nat → Nat} {len : Nat}
theorem frX_t {x y z : Sg} (h : frX x y) (g : frX y z) : frX x z := fun a j h1 h2 h3 => (h a j h1 h2 h3).trans (g a j h1 h2 h3)
theorem BX_fr {x z : Sg} (h : frX x z) (g : BX tx len z) : BX tx len x := ⟨by rw [h 1 1 (by omega) (by omega) (by omega)]; exact g.1, fun j hj => by rw [h 2 j (by omega) (by omega) (by omega)]; exact g.2 j hj⟩
theorem BM_fr {x z : Sg} (h : frM x z) (g : BM tx len z) : BM tx len x := ⟨by rw [h 0 4 (by omega) (by omega) (by omega)]; exact g.1, fun j hj => by rw [h 2 j (by omega) (by omega) (by omega)]; exact g.2 j hj⟩
theorem x_stand {D : Fl} {z : Sg} {only : Bool} {zM : Sg} (hD : DR D 5 only z zM) : f_X4_readOnto_68 5 z = some (-4, up1 z 5 10 (nI (fBg D))) := by
  unfold f_X4_readOnto_68 f_X1_standOnBeginnings f_X1_beginnings
  rw [hD.2.1.2.2.1, hD.2.2.2.1, z_and, Nat.and_comm, and_all hD.1.2.2.2.1]
  rfl
theorem loop_both (hl : len ≤ 300) (ht : ∀ j, j < len → tx j < 256) : ∀ n p w (zX zM : Sg) (D : Fl) (only : Bool) NX NM, len - p ≤ n → n < NX → n < NM → p ≤ len → w ≤ p → DR D 5 only zX zM → BX tx len zX → BM tx len zM → zM.1 0 7 = nI p →
    (∃ e sX sM, e < len ∧ itr NX (fun s => f_X4_readOnto_14s 5 s.1 s.2.1 s.2.2) (nI p, nI w, zX) = some (nI e, sX) ∧ itr NM (fun s => f_X9_fault_17s s) zM = some (nI e, sM) ∧ frX sX zX ∧ frM sM zM) ∨
    (∃ sX sM D' only', DR D' 5 only' sX sM ∧ itr NX (fun s => f_X4_readOnto_14s 5 s.1 s.2.1 s.2.2) (nI p, nI w, zX) = some (-4, up1 sX 5 10 (nI (fBg D'))) ∧ itr NM (fun s => f_X9_fault_17s s) zM = some (-4, sM) ∧ frX sX zX ∧ frM sM zM) := by
  intro n
  induction n with
  | zero =>
    intro p w zX zM D only NX NM hn hX hM hp hw hD bX bM hat
    obtain ⟨NX, rfl⟩ : ∃ M, NX = M + 1 := ⟨NX - 1, by omega⟩
    obtain ⟨NM, rfl⟩ : ∃ M, NM = M + 1 := ⟨NM - 1, by omega⟩
    refine Or.inr ⟨zX, zM, D, only, hD, itr_out ?_, itr_out ?_, fun _ _ _ _ _ => rfl, frM_r zM⟩
    · show f_X4_readOnto_14s 5 (nI p) (nI w) zX = _
      unfold f_X4_readOnto_14s f_X6_size
      rw [x_stand hD, bX.1]
      by_cases c : (300 : Int32) ≤ nI w
      · rw [if_pos c]; rfl
      · rw [if_neg c]
        show (if nI len ≤ nI p then _ else _) = _
        rw [if_pos (nI_le (by omega) (by omega))]; rfl
    · show f_X9_fault_17s zM = _
      unfold f_X9_fault_17s
      rw [bM.1, hat, if_pos (nI_le (by omega) (by omega))]
  | succ n ih =>
    intro p w zX zM D only NX NM hn hX hM hp hw hD bX bM hat
    rcases Nat.lt_or_ge p len with c | c
    case inr => exact ih p w zX zM D only NX NM (by omega) (by omega) (by omega) hp hw hD bX bM hat
    obtain ⟨NX, rfl⟩ : ∃ M, NX = M + 1 := ⟨NX - 1, by omega⟩
    obtain ⟨NM, rfl⟩ : ∃ M, NM = M + 1 := ⟨NM - 1, by omega⟩
    have fM0 : ∀ r : Int32, ∀ s, f_X9_readItem zM = some (r, s) → f_X9_fault_17s zM = if r = 0 then some (.inr (nI p, s)) else some (.inl s) := by
      intro r s h
      unfold f_X9_fault_17s
      rw [bM.1, hat, if_neg (nI_ge c (by omega)), nm_eq, bind_ok h]
    rcases item_both hl ht hD bX bM hat c (show w < 300 by omega) with ⟨sX, sM, e1, e2, e3, e4⟩ | ⟨sX, sM, q, D', only', q1, q2, e1, e2, e3, e4, e5, e6⟩
    · have := fM0 _ _ e2
      rw [if_pos rfl] at this
      exact Or.inl ⟨p, sX, sM, c, itr_out e1, itr_out this, e3, e4⟩
    · have := fM0 _ _ e2
      rw [if_neg (by decide : ¬ (1 : Int32) = 0)] at this
      rw [itr_in e1, itr_in this]
      rcases ih q (w + 1) sX sM D' only' NX NM (by omega) (by omega) (by omega) q2 (by omega) e4 (BX_fr e5 bX) (BM_fr e6 bM) e3 with ⟨e, yX, yM, k1, k2, k3, k4, k5⟩ | ⟨yX, yM, D2, o2, k1, k2, k3, k4, k5⟩
      · exact Or.inl ⟨e, yX, yM, k1, k2, k3, frX_t k4 e5, frM_t k5 e6⟩
      · exact Or.inr ⟨yX, yM, D2, o2, k1, k2, k3, frX_t k4 e5, frM_t k5 e6⟩
end
end
section
-- the start of a reading
theorem x_clear (k : Nat) (σ : Sg) : ∃ z, f_X8_clearRow k 10 σ = some z ∧ ∀ a j, z.1 a j = if a = k ∧ j < 10 then 0 else σ.1 a j := by
  unfold f_X8_clearRow f_X8_clearRow_2
  refine itr_inv (fun (i : Nat) (z : Int32 × Sg) => z.1 = nI i ∧ ∀ a j, z.2.1 a j = if a = k ∧ j < i then 0 else σ.1 a j) _ 10 0 3000 _ (by decide) ⟨rfl, fun a j => by rw [if_neg (by omega)]⟩ ?_ ?_
  · rintro i ⟨z1, z⟩ - hi ⟨q1, q2⟩
    rw [Nat.zero_add] at hi
    have q1' : z1 = nI i := q1
    subst q1'
    have q2' : ∀ a j, z.1 a j = if a = k ∧ j < i then 0 else σ.1 a j := q2
    refine ⟨(nI (i + 1), up1 z k i 0), ?_, rfl, fun a j => ?_⟩
    · show f_X8_clearRow_2s k 10 (nI i) z = _
      unfold f_X8_clearRow_2s
      rw [if_neg (nI_ge hi (by decide)), bind_ok (ast_ok hi (by decide)), nm_eq, nI_1]
    · show (up1 z k i 0).1 a j = _
      rw [up1_eq]
      by_cases c : a = k ∧ j = i
      · rw [if_pos c, if_pos ⟨c.1, by omega⟩]
      · rw [if_neg c, q2']
        by_cases c2 : a = k ∧ j < i
        · rw [if_pos c2, if_pos ⟨c2.1, by omega⟩]
        · rw [if_neg c2, if_neg (by omega)]
  · rintro ⟨z1, z⟩ ⟨q1, q2⟩
    rw [Nat.zero_add] at q1 q2
    have q1' : z1 = nI 10 := q1
    subst q1'
    refine ⟨z, ?_, q2⟩
    show f_X8_clearRow_2s k 10 (nI 10) z = _
    unfold f_X8_clearRow_2s
    rw [if_pos (nI_le (Nat.le_refl _) (by decide))]
theorem m_anew (σ : Sg) : ∃ z, f_X9_makeAnew 605 σ = some z ∧ ∀ a j, z.1 a j = if a = 1 ∧ 605 ≤ j ∧ j < 660 then (if j = 605 then 4 else 0) else σ.1 a j := by
  unfold f_X9_makeAnew f_X9_makeAnew_2
  refine itr_inv (fun (i : Nat) (z : Int32 × Sg) => z.1 = nI i ∧ ∀ a j, z.2.1 a j = if a = 1 ∧ 605 ≤ j ∧ j < 605 + i then 0 else σ.1 a j) _ 55 0 3000 _ (by decide) ⟨rfl, fun a j => by rw [if_neg (by omega)]⟩ ?_ ?_
  · rintro i ⟨z1, z⟩ - hi ⟨q1, q2⟩
    rw [Nat.zero_add] at hi
    have q1' : z1 = nI i := q1
    subst q1'
    have q2' : ∀ a j, z.1 a j = if a = 1 ∧ 605 ≤ j ∧ j < 605 + i then 0 else σ.1 a j := q2
    refine ⟨(nI (i + 1), up1 z 1 (605 + i) 0), ?_, rfl, fun a j => ?_⟩
    · show f_X9_makeAnew_2s 605 (nI i) z = _
      unfold f_X9_makeAnew_2s
      rw [if_neg (show ¬ (55 : Int32) ≤ nI i from nI_ge (a := i) (b := 55) hi (by decide)), z_lit 605, nI_add, bind_ok (ast_ok (by omega) (by decide)), nm_eq, nI_1]
    · show (up1 z 1 (605 + i) 0).1 a j = _
      rw [up1_eq]
      by_cases c : a = 1 ∧ j = 605 + i
      · rw [if_pos c, if_pos ⟨c.1, by omega, by omega⟩]
      · rw [if_neg c, q2']
        by_cases c2 : a = 1 ∧ 605 ≤ j ∧ j < 605 + i
        · rw [if_pos c2, if_pos ⟨c2.1, c2.2.1, by omega⟩]
        · rw [if_neg c2, if_neg (by omega)]
  · rintro ⟨z1, z⟩ ⟨q1, q2⟩
    rw [Nat.zero_add] at q1 q2
    have q1' : z1 = nI 55 := q1
    subst q1'
    have q2' : ∀ a j, z.1 a j = if a = 1 ∧ 605 ≤ j ∧ j < 605 + 55 then 0 else σ.1 a j := q2
    refine ⟨up1 z 1 605 4, ?_, fun a j => ?_⟩
    · show f_X9_makeAnew_2s 605 (nI 55) z = _
      unfold f_X9_makeAnew_2s
      rw [if_pos (by decide : (55 : Int32) ≤ nI 55), show (605 : Int32) + 0 = nI 605 by decide, bind_ok (ast_ok (by decide) (by decide))]
    · rw [up1_eq]
      by_cases c : a = 1 ∧ j = 605
      · rw [if_pos c, if_pos ⟨c.1, by omega, by omega⟩, if_pos c.2]
      · rw [if_neg c, q2']
        by_cases c2 : a = 1 ∧ 605 ≤ j ∧ j < 605 + 55
        · rw [if_pos c2, if_pos ⟨c2.1, c2.2.1, by omega⟩, if_neg (by omega)]
        · rw [if_neg c2, if_neg (by omega)]
/-- nothing is read yet -/
def D0 : Fl := ((4, 0, 0, 15, 0), (fun _ => 0), (fun _ => 0), (fun _ => 0), (fun _ => 0), fun _ => 0)
theorem D0_ok : OKL D0 := ⟨by decide, by decide, fun t ht => absurd ht (Nat.not_lt_zero _), by decide, fun s _ => by show 0 < 2 ^ 10; decide⟩
theorem start_both (σX σM : Sg) : ∃ zX zM, (∀ f : Sg → Option (Int32 × Sg), (((f_X1_empty 5 σX).bind fun q1 => (pfz q1 3 1 1).bind f)) = f zX) ∧ (∀ f : Sg → Option (Int32 × Sg), ((f_X9_makeAnew 605 σM).bind fun q1 => (pfz q1 0 9 0).bind fun s2 => (pfi s2 0 7 0).bind f) = f zM) ∧ DR D0 5 true zX zM ∧ zM.1 0 7 = nI 0 ∧ frX zX σX ∧ frM zM σM := by
  obtain ⟨y1, e1, p1⟩ := x_clear 10 σX
  obtain ⟨y2, e2, p2⟩ := x_clear 11 y1
  obtain ⟨m1, g1, w1⟩ := m_anew σM
  let y3 := up1 y2 5 7 0
  let y4 := up1 y3 5 8 0
  let y5 := up1 y4 5 10 0
  let y6 := up1 y5 5 6 (nI 4)
  let y7 := up1 y6 5 9 (nI (2 ^ 4 - 1))
  let y8 := up1 y7 3 1 1
  have hx : ∀ a j, y8.1 a j = if a = 3 ∧ j = 1 then 1 else if a = 5 ∧ j = 9 then nI (2 ^ 4 - 1) else if a = 5 ∧ j = 6 then nI 4 else if a = 5 ∧ j = 10 then 0 else if a = 5 ∧ j = 8 then 0 else if a = 5 ∧ j = 7 then 0 else if a = 11 ∧ j < 10 then 0 else if a = 10 ∧ j < 10 then 0 else σX.1 a j := fun a j => by
    show (up1 (up1 (up1 (up1 (up1 (up1 y2 5 7 0) 5 8 0) 5 10 0) 5 6 (nI 4)) 5 9 (nI (2 ^ 4 - 1))) 3 1 1).1 a j = _
    rw [up1_eq, up1_eq, up1_eq, up1_eq, up1_eq, up1_eq, p2, p1]
  let n2 := up1 m1 0 9 0
  let n3 := up1 n2 0 7 0
  have hm : ∀ a j, n3.1 a j = if a = 0 ∧ j = 7 then 0 else if a = 0 ∧ j = 9 then 0 else if a = 1 ∧ 605 ≤ j ∧ j < 660 then (if j = 605 then 4 else 0) else σM.1 a j := fun a j => by
    show (up1 (up1 m1 0 9 0) 0 7 0).1 a j = _
    rw [up1_eq, up1_eq, w1]
  refine ⟨y8, n3, fun f => ?_, fun f => ?_, ⟨D0_ok, ⟨?_, ?_, ?_, fun t ht => absurd ht (Nat.not_lt_zero _), fun s hs => ⟨?_, ?_⟩⟩, ⟨?_, ?_, ?_, fun t ht => absurd ht (Nat.not_lt_zero _), fun s hs => ⟨?_, ?_⟩⟩, ?_, ?_, ?_, fun _ => ⟨rfl, rfl⟩⟩, ?_, fun a j h1 h2 h3 => ?_, fun a j h1 h2 h3 => ?_⟩
  · have es : f_X1_empty 5 σX = some y7 := by
      unfold f_X1_empty
      rw [show (5 + 5 : Nat) = 10 from rfl, show (5 + 6 : Nat) = 11 from rfl, bind_ok e1, bind_ok e2, bind_ok (pfi_eq _ _ _ _), bind_ok (pfi_eq _ _ _ _), bind_ok (pfi_eq _ _ _ _), z_lit 4, x_setStones (by decide), if_pos (by decide)]
      rfl
    rw [bind_ok es, show pfz y7 3 1 1 = some y8 from rfl]
    rfl
  · rw [bind_ok g1, show pfz m1 0 9 0 = some n2 from rfl, bind_ok rfl, bind_ok (pfi_eq _ _ _ _)]
  · rw [hx, if_neg (by omega), if_neg (by omega), if_pos ⟨rfl, by omega⟩]; rfl
  · rw [hx, if_neg (by omega), if_neg (by omega), if_neg (by omega), if_neg (by omega), if_neg (by omega), if_pos ⟨rfl, by omega⟩]; rfl
  · rw [hx, if_neg (by omega), if_neg (by omega), if_neg (by omega), if_neg (by omega), if_pos ⟨rfl, by omega⟩]; rfl
  · rw [hx, if_neg (by omega), if_neg (by omega), if_neg (by omega), if_neg (by omega), if_neg (by omega), if_neg (by omega), if_neg (by omega), if_pos ⟨rfl, by omega⟩]; rfl
  · rw [hx, if_neg (by omega), if_neg (by omega), if_neg (by omega), if_neg (by omega), if_neg (by omega), if_neg (by omega), if_pos ⟨rfl, by omega⟩]; rfl
  · rw [hm, if_neg (by omega), if_neg (by omega), if_pos ⟨rfl, by omega, by omega⟩, if_pos rfl]; rfl
  · rw [hm, if_neg (by omega), if_neg (by omega), if_pos ⟨rfl, by omega, by omega⟩, if_neg (by omega)]; rfl
  · rw [hm, if_neg (by omega), if_neg (by omega), if_pos ⟨rfl, by omega, by omega⟩, if_neg (by omega)]; rfl
  · rw [hm, if_neg (by omega), if_neg (by omega), if_pos ⟨rfl, by omega, by omega⟩, if_neg (by omega)]; rfl
  · rw [hm, if_neg (by omega), if_neg (by omega), if_pos ⟨rfl, by omega, by omega⟩, if_neg (by omega)]; rfl
  · rw [hx, if_neg (by omega), if_pos ⟨rfl, by omega⟩]; rfl
  · rw [hx, if_pos ⟨rfl, by omega⟩]; rfl
  · rw [hm, if_neg (by omega), if_pos ⟨rfl, rfl⟩]; rfl
  · rw [hm, if_pos ⟨rfl, rfl⟩]; rfl
  · rw [hx, if_neg (by omega), if_neg (by omega), if_neg (by omega), if_neg (by omega), if_neg (by omega), if_neg (by omega), if_neg (by omega), if_neg (by omega)]
  · rw [hm, if_neg (by omega), if_neg (by omega), if_neg (by omega)]
end
section
/-- the text is read: both at the first fault, or both to the end -/
theorem read_both {σX σM : Sg} (h : TEXT σX σM) :
    (∃ e zX zM, e < 300 ∧ f_X4_readOnto 5 σX = some (nI e, zX) ∧ f_X9_fault σM = some (nI e, zM) ∧ frX zX σX ∧ frM zM σM) ∨
    (∃ sX sM D only, DR D 5 only sX sM ∧ f_X4_readOnto 5 σX = some (-4, up1 sX 5 10 (nI (fBg D))) ∧ f_X9_fault σM = some (-4, sM) ∧ frX sX σX ∧ frM sM σM) := by
  obtain ⟨len, l1, l2, l3, l4⟩ := h
  obtain ⟨zX, zM, e1, e2, d1, d2, d3, d4⟩ := start_both σX σM
  have ht : ∀ j, j < len → (σX.1 2 j).toNatClampNeg < 256 ∧ σX.1 2 j = nI (σX.1 2 j).toNatClampNeg ∧ σM.1 2 j = nI (σX.1 2 j).toNatClampNeg := fun j hj => by
    obtain ⟨v, v1, v2, v3⟩ := l4 j hj
    rw [v2, v3, nI_clamp (by omega)]
    exact ⟨v1, rfl, rfl⟩
  have bX : BX (fun j => (σX.1 2 j).toNatClampNeg) len zX := BX_fr d3 ⟨l2, fun j hj => (ht j hj).2.1⟩
  have bM : BM (fun j => (σX.1 2 j).toNatClampNeg) len zM := BM_fr d4 ⟨l3, fun j hj => (ht j hj).2.2⟩
  have o1 : f_X4_readOnto 5 σX = itr 3000 (fun s => f_X4_readOnto_14s 5 s.1 s.2.1 s.2.2) (nI 0, nI 0, zX) := e1 (fun s2 => f_X4_readOnto_14 5 0 0 s2)
  have o2 : f_X9_fault σM = itr 3000 (fun s => f_X9_fault_17s s) zM := e2 (fun s3 => f_X9_fault_17 s3)
  rw [o1, o2]
  rcases loop_both l1 (fun j hj => (ht j hj).1) len 0 0 zX zM D0 true 3000 3000 (by omega) (by omega) (by omega) (by omega) (Nat.le_refl _) d1 bX bM d2 with ⟨e, sX, sM, k1, k2, k3, k4, k5⟩ | ⟨sX, sM, D, only, k1, k2, k3, k4, k5⟩
  · exact Or.inl ⟨e, sX, sM, by omega, k2, k3, frX_t k4 d3, frM_t k5 d4⟩
  · exact Or.inr ⟨sX, sM, D, only, k1, k2, k3, frX_t k4 d3, frM_t k5 d4⟩
theorem live_frX {z σ : Sg} (h : frX z σ) : liveX z σ := fun a j q => h a j (by omega) (by omega) (by omega)
theorem live_frM {z σ : Sg} (h : frM z σ) : liveM z σ := fun a j q => h a j (by omega) (by omega) (by omega)
theorem frX_5 {σ : Sg} (v : Int32) : frX (up1 σ 5 10 v) σ := fun a j _ _ h3 => by rw [up1_eq, if_neg (by omega)]
/-- promise 4: fault -/
theorem s_2 : simC2 Sim := fun σX σM ⟨F, h⟩ => by
  unfold f_X8_fault
  rcases read_both h.2.2.2.1 with ⟨e, zX, zM, -, e1, e2, e3, e4⟩ | ⟨sX, sM, D, only, -, e1, e2, e3, e4⟩
  · rw [bind_ok e1, e2]
    exact ⟨_, _, _, rfl, rfl, F, Sim_k (live_frX e3) (live_frM e4) h⟩
  · rw [bind_ok e1, e2]
    exact ⟨_, _, _, rfl, rfl, F, Sim_k (live_frX (frX_t (frX_5 _) e3)) (live_frM e4) h⟩
/-- the floor that was read, all there, stood on where one begins -/
def setF (D : Fl) : Fl := ((fN D, fM D, fBg D, 2 ^ fN D - 1, fBg D), fA D, fB D, fC D, fG D, fW D)
theorem setF_ok {D : Fl} (h : OKL D) (hm : 1 ≤ fM D) : OKF (setF D) := by
  refine ⟨h, hm, ?_, ?_⟩
  · show 2 ^ fN D - 1 < 2 ^ fN D
    have := Nat.one_le_two_pow (n := fN D)
    omega
  · show fBg D &&& (2 ^ fN D - 1) = fBg D
    rw [Nat.and_comm]
    exact and_all h.2.2.2.1
/-- promise 5: layFloor -/
theorem s_3 : simC3 Sim := fun σX σM ⟨F, h⟩ => by
  unfold f_X8_layFloor f_X9_layFloor f_X8_layFloor_30 f_X9_layFloor_20
  rcases read_both h.2.2.2.1 with ⟨e, zX, zM, he, e1, e2, e3, e4⟩ | ⟨sX, sM, D, only, hD, e1, e2, e3, e4⟩
  · have ne : ¬ nI e = (-4 : Int32) := fun q => nI_pos (n := e) (by omega) (by rw [q]; decide)
    rw [bind_ok e1, bind_ok e2, if_neg ne, if_neg ne]
    exact ⟨_, _, _, rfl, rfl, F, Sim_k (live_frX e3) (live_frM e4) h⟩
  obtain ⟨d1, ⟨x1, x2, x3, x4, x5⟩, ⟨m1, m2, m3, m4, m5⟩, x9, -, -, -⟩ := hD
  have hN := d1.1
  have hM10 := d1.2.1
  have hp := p10 hN.2
  have zx : ∀ a j, ¬ (a = 5 ∧ j = 10) → (up1 sX 5 10 (nI (fBg D))).1 a j = sX.1 a j := fun a j q => by rw [up1_eq, if_neg q]
  have es : f_X1_stepCount 5 (up1 sX 5 10 (nI (fBg D))) = some (nI (fM D)) := by unfold f_X1_stepCount; rw [zx _ _ (by omega), x2]
  have em : ald sM 1 660 609 = some (nI (fM D)) := by rw [z_lit 609, m_w (by decide)]; exact congrArg some m2
  rw [bind_ok e1, bind_ok e2, if_pos rfl, if_pos rfl, bind_ok es, bind_ok em]
  by_cases c : fM D = 0
  · rw [if_pos (show nI (fM D) = (0 : Int32) by rw [c]; rfl), if_pos (show nI (fM D) = (0 : Int32) by rw [c]; rfl)]
    exact ⟨_, _, _, rfl, rfl, F, Sim_k (live_frX (frX_t (frX_5 _) e3)) (live_frM e4) h⟩
  rw [if_neg (z_ne0 (by omega) c), if_neg (z_ne0 (by omega) c)]
  have g : FX 5 (setF D) (up1 sX 5 10 (nI (fBg D))) := by
    refine ⟨⟨by rw [zx _ _ (by omega)]; exact x1, by rw [zx _ _ (by omega)]; exact x2, by rw [zx _ _ (by omega)]; exact x3, fun t ht => ?_, fun s hs => ?_⟩, by rw [zx _ _ (by omega)]; exact x9, by rw [up1_eq, if_pos ⟨rfl, rfl⟩]; rfl⟩
    · rw [zx _ _ (by omega), zx _ _ (by omega), zx _ _ (by omega), zx _ _ (by omega)]; exact x4 t ht
    · rw [zx _ _ (by omega), zx _ _ (by omega)]; exact x5 s hs
  obtain ⟨z, f1, f2, f3⟩ := x_copyFrom (b := 12) (b2 := 5) (F := setF D) (Or.inr (by decide)) hM10 g
  obtain ⟨y, k1, k2⟩ := m_copy (r1 := 605) (r2 := 0) (σ := sM) (by decide) (by decide) (by decide)
  have y0 : y.1 1 0 = nI (fN D) := by rw [k2, if_pos (by decide)]; exact m1
  have y1 : y.1 1 1 = nI (fBg D) := by rw [k2, if_pos (by decide)]; exact m3
  have eset : f_X9_settle 0 y = some (up1 (up1 y 1 2 (nI (2 ^ fN D - 1))) 1 3 (nI (fBg D))) := by
    unfold f_X9_settle
    have a1 : (up1 y 1 2 (nI (2 ^ fN D - 1))).1 1 1 = nI (fBg D) := by rw [up1_eq, if_neg (by decide), y1]
    rw [show (0 : Int32) + 0 = nI 0 by decide, bind_ok (m_w (by decide)), y0, z_bit (by omega), show nI (2 ^ fN D) - 1 = nI (2 ^ fN D - 1) from pk_sub (b := 1) Nat.one_le_two_pow, show (0 : Int32) + 2 = nI 2 by decide, bind_ok (ast_ok (by decide) (by decide)), show (0 : Int32) + 1 = nI 1 by decide, bind_ok (m_w (by decide)), a1, show (0 : Int32) + 3 = nI 3 by decide, bind_ok (ast_ok (by decide) (by decide))]
  have ef : ∀ s, f_X8_forgetRowAndPast s = some (up1 (up1 s 0 10 0) 33 2 0) := fun _ => rfl
  let zz := up1 (up1 (up1 z 0 11 0) 0 10 0) 33 2 0
  have hz : ∀ a j, zz.1 a j = if a = 33 ∧ j = 2 then 0 else if a = 0 ∧ j = 10 then 0 else if a = 0 ∧ j = 11 then 0 else z.1 a j := fun a j => by
    show (up1 (up1 (up1 z 0 11 0) 0 10 0) 33 2 0).1 a j = _
    rw [up1_eq, up1_eq, up1_eq]
  let yy := up1 (up1 (up1 (up1 (up1 y 1 2 (nI (2 ^ fN D - 1))) 1 3 (nI (fBg D))) 0 6 0) 0 2 0) 0 1 0
  have hy : ∀ a j, yy.1 a j = if a = 0 ∧ j = 1 then 0 else if a = 0 ∧ j = 2 then 0 else if a = 0 ∧ j = 6 then 0 else if a = 1 ∧ j = 3 then nI (fBg D) else if a = 1 ∧ j = 2 then nI (2 ^ fN D - 1) else y.1 a j := fun a j => by
    show (up1 (up1 (up1 (up1 (up1 y 1 2 (nI (2 ^ fN D - 1))) 1 3 (nI (fBg D))) 0 6 0) 0 2 0) 0 1 0).1 a j = _
    rw [up1_eq, up1_eq, up1_eq, up1_eq, up1_eq]
  have hc : f_X1_stoneCount 12 zz = some (nI (fN D)) := by
    unfold f_X1_stoneCount
    rw [hz, if_neg (by omega), if_neg (by omega), if_neg (by omega), f2.1.1]
    rfl
  have hc2 : ald yy 1 660 0 = some (nI (fN D)) := by
    rw [z_0, m_w (by decide), hy, if_neg (by omega), if_neg (by omega), if_neg (by omega), if_neg (by omega), if_neg (by omega), y0]
  have eX : (f_X1_copyFrom 12 5 (up1 sX 5 10 (nI (fBg D)))).bind (fun q3 => (pfi q3 0 11 0).bind fun s4 => (f_X8_forgetRowAndPast s4).bind fun q5 => (f_X1_stoneCount 12 q5).bind fun q6 => some ((q6, q5))) = some (nI (fN D), zz) := by
    rw [bind_ok f1, bind_ok (pfi_eq _ _ _ _), bind_ok (ef _)]
    show (f_X1_stoneCount 12 zz).bind _ = _
    rw [bind_ok hc]
  have eM : (f_X9_copy 605 0 sM).bind (fun q3 => (f_X9_settle 0 q3).bind fun q4 => (pfi q4 0 6 0).bind fun s5 => (pfi s5 0 2 0).bind fun s6 => (pfi s6 0 1 0).bind fun s7 => (ald s7 1 660 0).bind fun x8 => some ((x8, s7))) = some (nI (fN D), yy) := by
    rw [bind_ok (show f_X9_copy 605 0 sM = some y from k1), bind_ok eset, bind_ok (pfi_eq _ _ _ _), bind_ok (pfi_eq _ _ _ _), bind_ok (pfi_eq _ _ _ _)]
    show (ald yy 1 660 0).bind _ = _
    rw [bind_ok hc2]
  have lx : ∀ a j, (a = 1 ∨ a = 2) → zz.1 a j = σX.1 a j := fun a j q => by
    rw [hz, if_neg (by omega), if_neg (by omega), if_neg (by omega), f3 a (by omega), zx _ _ (by omega)]
    exact e3 a j (by omega) (by omega) (by omega)
  have lm : ∀ a j, (a = 2 ∨ (a = 0 ∧ j = 4)) → yy.1 a j = σM.1 a j := fun a j q => by
    rw [hy, if_neg (by omega), if_neg (by omega), if_neg (by omega), if_neg (by omega), if_neg (by omega), k2, if_neg (by omega)]
    exact e4 a j (by omega) (by omega) (by omega)
  have ly : ∀ i, i < 55 → i ≠ 2 → i ≠ 3 → yy.1 1 i = sM.1 1 (605 + i) := fun i hi q1 q2 => by
    rw [hy, if_neg (by omega), if_neg (by omega), if_neg (by omega), if_neg (by omega), if_neg (by omega), k2, if_pos ⟨rfl, by omega, by omega⟩, Nat.sub_zero]
  refine ⟨nI (fN D), zz, yy, eX, eM, setF D, setF_ok d1 (by omega), FX_pt (fun a j p q => by rw [hz, if_neg (by omega), if_neg (by omega), if_neg (by omega)]) f2, ⟨⟨?_, ?_, ?_, fun t ht => ?_, fun s hs => ?_⟩, ?_, ?_⟩, TEXT_k (lx 1 1 (by omega)) (fun j => lx 2 j (by omega)) (lm 0 4 (by omega)) (fun j => lm 2 j (by omega)) h.2.2.2.1, TOLD_0 ?_ ?_, ⟨0, by decide, ?_, ?_, fun i hi => absurd hi (Nat.not_lt_zero _)⟩, UNDO_0 ?_ ?_⟩
  · rw [ly 0 (by omega) (by omega) (by omega)]; exact m1
  · rw [ly (0 + 4) (by omega) (by omega) (by omega)]; exact m2
  · rw [ly (0 + 1) (by omega) (by omega) (by omega)]; exact m3
  · have ht' : t < fM D := ht
    obtain ⟨a1, a2, a3⟩ := m4 t ht'
    rw [ly (0 + 5 + t) (by omega) (by omega) (by omega), ly (0 + 15 + t) (by omega) (by omega) (by omega), ly (0 + 25 + t) (by omega) (by omega) (by omega), show 605 + (0 + 5 + t) = 605 + 5 + t by omega, show 605 + (0 + 15 + t) = 605 + 15 + t by omega, show 605 + (0 + 25 + t) = 605 + 25 + t by omega]
    exact ⟨a1, a2, a3⟩
  · obtain ⟨a1, a2⟩ := m5 s hs
    rw [ly (0 + 45 + s) (by omega) (by omega) (by omega), ly (0 + 35 + s) (by omega) (by omega) (by omega), show 605 + (0 + 45 + s) = 605 + 45 + s by omega, show 605 + (0 + 35 + s) = 605 + 35 + s by omega]
    exact ⟨a1, a2⟩
  · rw [hy, if_neg (by omega), if_neg (by omega), if_neg (by omega), if_neg (by omega), if_pos ⟨rfl, by omega⟩]; rfl
  · rw [hy, if_neg (by omega), if_neg (by omega), if_neg (by omega), if_pos ⟨rfl, by omega⟩]; rfl
  · rw [hz, if_neg (by omega), if_pos ⟨rfl, rfl⟩]
  · rw [hy, if_neg (by omega), if_neg (by omega), if_pos ⟨rfl, rfl⟩]
  · rw [hz, if_neg (by omega), if_neg (by omega), if_pos ⟨rfl, rfl⟩]; rfl
  · rw [hy, if_pos ⟨rfl, rfl⟩]; rfl
  · rw [hz, if_pos ⟨rfl, rfl⟩]
  · rw [hy, if_neg (by omega), if_pos ⟨rfl, rfl⟩]
end
