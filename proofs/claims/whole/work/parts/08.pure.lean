def pX10_isOutside (x0 : Int32) (x1 : Int32) (x2 : Int32) : Int32 := (if x0 < x1 then 1 else (if x0 ≤ x2 then 0 else 1))
theorem z_pX10_isOutside (x0 : Int32) (x1 : Int32) (x2 : Int32) : pX10_isOutside x0 x1 x2 = 0 ∨ pX10_isOutside x0 x1 x2 = 1 := by
  unfold pX10_isOutside
  (repeat' split) <;> first | exact Or.inl rfl | exact Or.inr rfl | (first | exact z_pX10_isOutside _ _ _ | exact z_pX11_in _ _ _ | exact z_pX10_has _ _)
def pX7_takes (σ : Sg) (x1 : Int32) : Option (Int32 × Sg) := (if (σ 33 1) < 200 then (some (sA σ 34 (pX10_put (σ 34) 200 (σ 33 1) x1))).bind fun σ1 => (some (s1 σ1 33 1 ((σ1 33 1) + 1))).bind fun σ3 => some (1, σ3) else some (0, σ))
def pX10_type (σ : Sg) (x1 : Int32) : Option (Int32 × Sg) := (if (pX10_isOutside x1 0 255) = 0 then (pX7_takes σ x1).bind fun u1 => (if u1.1 = 0 then some ((-3), u1.2) else some (u1.2 33 1, u1.2)) else some ((-1), σ))
def pX10_clear (σ : Sg) : Option (Int32 × Sg) := (some (σ 33 1)).bind fun v1 => (some (s1 σ 33 1 0)).bind fun σ3 => some (v1, σ3)
def pX5_empties (r0 : Nat) (σ : Sg) : Option Sg := (some (sA σ r0 (pX10_fill (σ r0) 45 0))).bind fun σ1 => some σ1
def pX9_empties (σ : Sg) : Option Sg := (some (sA σ 11 (pX10_fill (σ 11) 10 3))).bind fun σ1 => (some (sA σ1 12 (pX10_fill (σ1 12) 10 1))).bind fun σ3 => (some (sA σ3 16 (pX10_fill (σ3 16) 6 0))).bind fun σ5 => (pX5_empties 18 σ5).bind fun u7 => (some (s1 u7 10 7 0)).bind fun σ9 => (some (s1 σ9 10 8 0)).bind fun σ11 => (some (s1 σ11 10 9 0)).bind fun σ13 => some σ13
def pX7_endOfRun_L8 (σ : Sg) (x1 : Int32) (x2 : Int32) : Nat → Int32 → Int32 → Option Int32
  | 0, _, _ => none
  | n + 1, x3, x4 => (if 200 ≤ x4 then some x3 else (if (σ 33 1) ≤ x3 then some x3 else (if (pX10_isOutside (pX10_at (σ 34) 200 x3) x1 x2) = 0 then pX7_endOfRun_L8 σ x1 x2 n (x3 + 1) (x4 + 1) else some x3)))
def pX7_endOfRun (σ : Sg) (x1 : Int32) (x2 : Int32) : Option Int32 := (some (σ 33 2)).bind fun v1 => (pX7_endOfRun_L8 σ x1 x2 2000 v1 0).bind fun w3 => some w3
def pX7_valueOfDigits (σ : Sg) : Int32 := (if ((σ 33 2) - (σ 33 4)) = 1 then ((pX10_at (σ 34) 200 (σ 33 4)) - 48) else (if ((σ 33 2) - (σ 33 4)) = 2 then (if ((pX10_at (σ 34) 200 (σ 33 4)) - 48) ≤ 0 then (-1) else (((((pX10_at (σ 34) 200 (σ 33 4)) - 48) * 10) + (pX10_at (σ 34) 200 ((σ 33 4) + 1))) - 48)) else (-1)))
def pX7_nextToken (σ : Sg) : Option Sg := (pX7_endOfRun σ 32 32).bind fun v1 => (some (s1 σ 33 2 v1)).bind fun σ3 => (some (s1 σ3 33 4 (σ3 33 2))).bind fun σ5 => (some (s1 σ5 33 5 (pX10_at (σ5 34) 200 (σ5 33 4)))).bind fun σ7 => (if (σ7 33 4) < (σ7 33 1) then (if (pX10_isOutside (σ7 33 5) 97 122) = 0 then (pX7_endOfRun σ7 97 122).bind fun v25 => (some (s1 σ7 33 2 v25)).bind fun σ27 => (some (s1 σ27 33 3 1)).bind fun σ29 => (if ((σ29 33 2) - (σ29 33 4)) = 1 then (some (s1 σ29 33 5 (σ29 33 5))).bind fun σ33 => some σ33 else (some (s1 σ29 33 5 0)).bind fun σ31 => some σ31) else (if (pX10_isOutside (σ7 33 5) 48 57) = 0 then (pX7_endOfRun σ7 48 57).bind fun v15 => (some (s1 σ7 33 2 v15)).bind fun σ17 => (some (s1 σ17 33 5 (pX7_valueOfDigits σ17))).bind fun σ19 => (if 0 ≤ (σ19 33 5) then (some (s1 σ19 33 3 2)).bind fun σ21 => some σ21 else (some (s1 σ19 33 3 4)).bind fun σ23 => some σ23) else (some (s1 σ7 33 2 ((σ7 33 2) + 1))).bind fun σ9 => (if (σ9 33 5) = 59 then (some (s1 σ9 33 3 3)).bind fun σ13 => some σ13 else (some (s1 σ9 33 3 4)).bind fun σ11 => some σ11))) else (some (s1 σ7 33 3 0)).bind fun σ35 => some σ35)
def pX7_number (σ : Sg) (x1 : Int32) (x2 : Int32) (x3 : Int32) : Option (Int32 × Sg) := (if (σ 33 6) = (-1) then (pX7_nextToken σ).bind fun u1 => (if (u1 33 3) = 2 then (if (pX10_isOutside (u1 33 5) x1 x2) = 0 then (if (u1 33 5) = x3 then (some (s1 u1 33 6 (u1 33 4))).bind fun σ7 => some (0, σ7) else some (u1 33 5, u1)) else (some (s1 u1 33 6 (u1 33 4))).bind fun σ5 => some (0, σ5)) else (some (s1 u1 33 6 (u1 33 4))).bind fun σ3 => some (0, σ3)) else some (0, σ))
def pX7_stops (σ : Sg) : Option (Int32 × Sg) := (if (σ 33 6) = (-1) then (pX7_nextToken σ).bind fun u1 => (if (u1 33 3) = 3 then (if (u1 33 6) = (-1) then some (1, u1) else some (0, u1)) else (some (s1 u1 33 6 (u1 33 4))).bind fun σ3 => (if (σ3 33 6) = (-1) then some (1, σ3) else some (0, σ3))) else some (0, σ))
def pX7_readCell (σ : Sg) : Option Sg := (pX7_number σ 0 9 (-1)).bind fun u1 => (pX7_number u1.2 1 9 (-1)).bind fun u3 => (pX7_number u3.2 0 3 (-1)).bind fun u5 => (pX7_stops u5.2).bind fun u7 => (if u7.1 = 0 then some u7.2 else (some (sA u7.2 11 (pX10_put (u7.2 11) 10 u1.1 u3.1))).bind fun σ9 => (some (sA σ9 12 (pX10_put (σ9 12) 10 u1.1 u5.1))).bind fun σ11 => some σ11)
def pX5_set (r0 : Nat) (σ : Sg) (x1 : Int32) (x2 : Int32) (x3 : Int32) : Option Sg := (some (sA σ r0 (pX10_put (σ r0) 45 (x1 + x2) x3))).bind fun σ1 => some σ1
def pX9_addRaft (σ : Sg) (x1 : Int32) : Option Sg := (pX5_set 18 σ 32 (σ 10 7) x1).bind fun u1 => (some (s1 u1 10 7 ((u1 10 7) + 1))).bind fun σ3 => some σ3
def pX7_readRaft (σ : Sg) : Option Sg := ((if (σ 10 7) < 6 then some σ else (some (s1 σ 33 6 (σ 33 4))).bind fun σ2 => some σ2) : Option (Sg)).bind fun j1 => (pX7_number j1 0 (j1 10 7) (-1)).bind fun u5 => (pX7_stops u5.2).bind fun u7 => (if u7.1 = 0 then some u7.2 else (pX9_addRaft u7.2 u5.1).bind fun u9 => some u9)
def pX9_addAnchor (σ : Sg) (x1 : Int32) (x2 : Int32) (x3 : Int32) (x4 : Int32) (x5 : Int32) : Option Sg := (some (sA σ 13 (pX10_put (σ 13) 8 (σ 10 8) x1))).bind fun σ1 => (some (sA σ1 14 (pX10_put (σ1 14) 8 (σ1 10 8) x3))).bind fun σ3 => (some (sA σ3 15 (pX10_put (σ3 15) 8 (σ3 10 8) x5))).bind fun σ5 => (pX5_set 18 σ5 0 (σ5 10 8) x2).bind fun u7 => (pX5_set 18 u7 8 (u7 10 8) x4).bind fun u9 => (some (s1 u9 10 8 ((u9 10 8) + 1))).bind fun σ11 => some σ11
def pX7_readAnchor (σ : Sg) : Option Sg := ((if (σ 10 8) < 8 then some σ else (some (s1 σ 33 6 (σ 33 4))).bind fun σ2 => some σ2) : Option (Sg)).bind fun j1 => (pX7_number j1 0 ((j1 10 7) - 1) (-1)).bind fun u5 => (pX7_number u5.2 0 9 (-1)).bind fun u7 => (pX7_number u7.2 1 9 (-1)).bind fun u9 => (pX7_number u9.2 1 60 (-1)).bind fun u11 => (pX7_number u11.2 0 99 (-1)).bind fun u13 => (pX7_stops u13.2).bind fun u15 => (if u15.1 = 0 then some u15.2 else (pX9_addAnchor u15.2 u5.1 u7.1 u9.1 u11.1 u13.1).bind fun u17 => some u17)
def pX10_bit (x0 : Int32) : Int32 := (if x0 < 0 then 0 else (if 31 ≤ x0 then 0 else ((1 : Int32) <<< (x0 &&& 31))))
def pX10_has (x0 : Int32) (x1 : Int32) : Int32 := (if (x0 &&& (pX10_bit x1)) = 0 then 0 else 1)
theorem z_pX10_has (x0 : Int32) (x1 : Int32) : pX10_has x0 x1 = 0 ∨ pX10_has x0 x1 = 1 := by
  unfold pX10_has
  (repeat' split) <;> first | exact Or.inl rfl | exact Or.inr rfl | (first | exact z_pX10_isOutside _ _ _ | exact z_pX11_in _ _ _ | exact z_pX10_has _ _)
def pX9_addRope (σ : Sg) (x1 : Int32) (x2 : Int32) : Option Sg := (if (pX10_has (pX10_at (σ 16) 6 x1) x2) = 0 then (some (sA σ 16 (pX10_put (σ 16) 6 x1 ((pX10_at (σ 16) 6 x1) ||| (pX10_bit x2))))).bind fun σ1 => (some (sA σ1 16 (pX10_put (σ1 16) 6 x2 ((pX10_at (σ1 16) 6 x2) ||| (pX10_bit x1))))).bind fun σ3 => (some (s1 σ3 10 9 ((σ3 10 9) + 1))).bind fun σ5 => some σ5 else some σ)
def pX7_readRope (σ : Sg) : Option Sg := (pX7_number σ 0 ((σ 10 7) - 1) (-1)).bind fun u1 => (pX7_number u1.2 0 ((u1.2 10 7) - 1) u1.1).bind fun u3 => (pX7_stops u3.2).bind fun u5 => (if u5.1 = 0 then some u5.2 else (pX9_addRope u5.2 u1.1 u3.1).bind fun u7 => some u7)
def pX7_readInto_L18  : Nat → Int32 → Int32 → Sg → Option (Int32 × Sg)
  | 0, _, _, _ => none
  | n + 1, x2, x3, σ => (if 200 ≤ x3 then some (x2, σ) else (pX7_nextToken σ).bind fun u7 => (if (u7 33 3) = 0 then some (x2, u7) else ((if (u7 33 3) = 1 then some (u7 33 5) else some 0) : Option (Int32)).bind fun j9 => ((if j9 = 97 then (pX7_readAnchor u7).bind fun u12 => some u12 else (if j9 = 99 then (pX7_readCell u7).bind fun u14 => some u14 else (if j9 = 114 then (pX7_readRaft u7).bind fun u16 => some u16 else (if j9 = 116 then (pX7_readRope u7).bind fun u18 => some u18 else (some (s1 u7 33 6 (u7 33 4))).bind fun σ20 => some σ20)))) : Option (Sg)).bind fun j11 => (if (j11 33 6) = (-1) then pX7_readInto_L18 n (x2 + 1) (x3 + 1) j11 else some (((-10) - (j11 33 6)), j11))))
def pX7_readInto (σ : Sg) : Option (Int32 × Sg) := (pX9_empties σ).bind fun u1 => (some (s1 u1 33 2 0)).bind fun σ3 => (some (s1 σ3 33 6 (-1))).bind fun σ5 => pX7_readInto_L18  2000 0 0 σ5
def pX5_becomes (r0 : Nat) (r1 : Nat) (σ : Sg) : Option Sg := (some (sA σ r0 (pX10_copy (σ r1) 45 0 (σ r0) 45 0 45))).bind fun σ1 => some σ1
def pX9_becomes (σ : Sg) : Option Sg := (some (sA σ 2 (pX10_copy (σ 11) 10 0 (σ 2) 10 0 10))).bind fun σ1 => (some (sA σ1 3 (pX10_copy (σ1 12) 10 0 (σ1 3) 10 0 10))).bind fun σ3 => (some (sA σ3 4 (pX10_copy (σ3 13) 8 0 (σ3 4) 8 0 8))).bind fun σ5 => (some (sA σ5 5 (pX10_copy (σ5 14) 8 0 (σ5 5) 8 0 8))).bind fun σ7 => (some (sA σ7 6 (pX10_copy (σ7 15) 8 0 (σ7 6) 8 0 8))).bind fun σ9 => (some (sA σ9 7 (pX10_copy (σ9 16) 6 0 (σ9 7) 6 0 6))).bind fun σ11 => (pX5_becomes 9 18 σ11).bind fun u13 => (some (s1 u13 1 7 (u13 10 7))).bind fun σ15 => (some (s1 σ15 1 8 (σ15 10 8))).bind fun σ17 => (some (s1 σ17 1 9 (σ17 10 9))).bind fun σ19 => some σ19
def pX10_town (σ : Sg) : Option (Int32 × Sg) := (pX7_readInto σ).bind fun u1 => (if 0 ≤ u1.1 then (pX9_becomes u1.2).bind fun u3 => (pX5_becomes 20 9 u3).bind fun u5 => (some (s1 u5 21 1 0)).bind fun σ7 => (some (s1 σ7 43 5 0)).bind fun σ9 => (some (s1 σ9 23 2 0)).bind fun σ11 => (some (s1 σ11 28 2 0)).bind fun σ13 => (some (s1 σ13 33 1 0)).bind fun σ15 => some (u1.1, σ15) else some (u1.1, u1.2))
def pX5_get (r0 : Nat) (σ : Sg) (x1 : Int32) (x2 : Int32) : Int32 := pX10_at (σ r0) 45 (x1 + x2)
def pX5_lies (r0 : Nat) (σ : Sg) (x1 : Int32) : Int32 := (if (pX5_get r0 σ 24 x1) = 0 then 1 else 0)
theorem z_pX5_lies (r0 : Nat) (σ : Sg) (x1 : Int32) : pX5_lies r0 σ x1 = 0 ∨ pX5_lies r0 σ x1 = 1 := by
  unfold pX5_lies
  (repeat' split) <;> first | exact Or.inl rfl | exact Or.inr rfl | (first | exact z_pX10_isOutside _ _ _ | exact z_pX11_in _ _ _ | exact z_pX10_has _ _)
def pX10_lyingIn_L5 (r1 : Nat) (σ : Sg) (x2 : Int32) : Nat → Int32 → Int32 → Option Int32
  | 0, _, _ => none
  | n + 1, x3, x4 => (if (σ 1 8) ≤ x4 then some x3 else (if (pX5_lies r1 σ x4) = 0 then pX10_lyingIn_L5 r1 σ x2 n x3 (x4 + 1) else (if (pX5_get r1 σ 0 x4) = x2 then (some (x3 ||| (pX10_bit x4))).bind fun v1 => pX10_lyingIn_L5 r1 σ x2 n v1 (x4 + 1) else pX10_lyingIn_L5 r1 σ x2 n x3 (x4 + 1))))
def pX10_lyingIn (r1 : Nat) (σ : Sg) (x2 : Int32) : Option Int32 := (pX10_lyingIn_L5 r1 σ x2 2000 0 0).bind fun w3 => some w3
def pX10_cell (σ : Sg) (x1 : Int32) (x2 : Int32) : Option Int32 := (if (pX10_isOutside x1 0 9) = 0 then (if (pX10_isOutside x2 0 2) = 0 then (if x2 = 0 then some (pX10_at (σ 2) 10 x1) else (if x2 = 1 then some (pX10_at (σ 3) 10 x1) else (pX10_lyingIn 20 σ x1).bind fun v1 => some v1)) else some (-1)) else some (-1))
def pX10_isNoRaft (σ : Sg) (x1 : Int32) : Int32 := pX10_isOutside x1 0 ((σ 1 7) - 1)
theorem z_pX10_isNoRaft (σ : Sg) (x1 : Int32) : pX10_isNoRaft σ x1 = 0 ∨ pX10_isNoRaft σ x1 = 1 := by
  unfold pX10_isNoRaft
  (repeat' split) <;> first | exact Or.inl rfl | exact Or.inr rfl | (first | exact z_pX10_isOutside _ _ _ | exact z_pX11_in _ _ _ | exact z_pX10_has _ _)
def pX5_goneRafts (r0 : Nat) (σ : Sg) : Int32 := pX5_get r0 σ 44 0
def pX5_isGone (r0 : Nat) (σ : Sg) (x1 : Int32) : Int32 := pX10_has (pX5_goneRafts r0 σ) x1
theorem z_pX5_isGone (r0 : Nat) (σ : Sg) (x1 : Int32) : pX5_isGone r0 σ x1 = 0 ∨ pX5_isGone r0 σ x1 = 1 := by
  unfold pX5_isGone
  (repeat' split) <;> first | exact Or.inl rfl | exact Or.inr rfl | (first | exact z_pX10_isOutside _ _ _ | exact z_pX11_in _ _ _ | exact z_pX10_has _ _)
def pX2_whoseIs_L14 (σ : Sg) : Nat → Int32 → Int32 → Option Int32
  | 0, _, _ => none
  | n + 1, x2, x3 => (if 6 ≤ x3 then some (-9) else (if (pX5_isGone 20 σ x2) = 0 then some x2 else (some (pX5_get 20 σ 32 x2)).bind fun v3 => pX2_whoseIs_L14 σ n v3 (x3 + 1)))
def pX2_whoseIs (σ : Sg) (x1 : Int32) : Option Int32 := (some (pX10_at (σ 4) 8 x1)).bind fun v1 => pX2_whoseIs_L14 σ 2000 v1 0
def pX2_valueOf (σ : Sg) (x1 : Int32) : Int32 := (if ((pX10_at (σ 6) 8 x1) - (pX5_get 20 σ 16 x1)) < 0 then 0 else ((pX10_at (σ 6) 8 x1) - (pX5_get 20 σ 16 x1)))
def pX2_estateOf_L4 (σ : Sg) (x1 : Int32) : Nat → Int32 → Int32 → Option Int32
  | 0, _, _ => none
  | n + 1, x2, x3 => (if (σ 1 8) ≤ x3 then some x2 else (if (pX5_lies 20 σ x3) = 0 then pX2_estateOf_L4 σ x1 n x2 (x3 + 1) else (pX2_whoseIs σ x3).bind fun v1 => (if v1 = x1 then (some (x2 + (pX2_valueOf σ x3))).bind fun v3 => pX2_estateOf_L4 σ x1 n v3 (x3 + 1) else pX2_estateOf_L4 σ x1 n x2 (x3 + 1))))
def pX2_estateOf (σ : Sg) (x1 : Int32) : Option Int32 := (pX2_estateOf_L4 σ x1 2000 0 0).bind fun w5 => some w5
def pX2_townOf_L16 (σ : Sg) (x3 : Int32) : Nat → Int32 → Int32 → Option Int32
  | 0, _, _ => none
  | n + 1, x2, x4 => (if (σ 1 7) ≤ x4 then some x2 else (if (pX10_has x2 x4) = 0 then pX2_townOf_L16 σ x3 n x2 (x4 + 1) else (some (x2 ||| (pX10_at (σ 7) 6 x4))).bind fun v3 => pX2_townOf_L16 σ x3 n v3 (x4 + 1)))
def pX2_townOf_L7 (σ : Sg) : Nat → Int32 → Int32 → Option Int32
  | 0, _, _ => none
  | n + 1, x2, x3 => (if 6 ≤ x3 then some x2 else (pX2_townOf_L16 σ x3 2000 x2 0).bind fun w5 => pX2_townOf_L7 σ n w5 (x3 + 1))
def pX2_townOf (σ : Sg) (x1 : Int32) : Option Int32 := (some (pX10_bit x1)).bind fun v1 => (pX2_townOf_L7 σ 2000 v1 0).bind fun w7 => some w7
def pX2_adds (σ : Sg) (x1 : Int32) (x2 : Int32) : Int32 := (if (pX5_lies 20 σ x2) = 0 then 0 else (if (pX10_has x1 (pX10_at (σ 4) 8 x2)) = 0 then 0 else 1))
theorem z_pX2_adds (σ : Sg) (x1 : Int32) (x2 : Int32) : pX2_adds σ x1 x2 = 0 ∨ pX2_adds σ x1 x2 = 1 := by
  unfold pX2_adds
  (repeat' split) <;> first | exact Or.inl rfl | exact Or.inr rfl | (first | exact z_pX10_isOutside _ _ _ | exact z_pX11_in _ _ _ | exact z_pX10_has _ _)
def pX10_divided (x0 : Int32) (x1 : Int32) : Option Int32 := (if x1 ≤ 0 then some 0 else (dvI x0 x1).bind fun v1 => some v1)
def pX9_strengthIn (σ : Sg) (x1 : Int32) (x2 : Int32) (x3 : Int32) : Option Int32 := (pX10_divided x3 (pX10_at (σ 2) 10 x1)).bind fun v1 => some (((pX10_at (σ 5) 8 x2) * ((pX10_at (σ 3) 10 x1) + 1)) + v1)
def pX9_strengthOf (r1 : Nat) (σ : Sg) (x2 : Int32) : Option Int32 := (pX9_strengthIn σ (pX5_get r1 σ 0 x2) x2 (pX5_get r1 σ 8 x2)).bind fun v1 => some v1
def pX2_mightOf_L4 (σ : Sg) (x1 : Int32) : Nat → Int32 → Int32 → Option Int32
  | 0, _, _ => none
  | n + 1, x2, x3 => (if (σ 1 8) ≤ x3 then some x2 else (if (pX2_adds σ x1 x3) = 0 then pX2_mightOf_L4 σ x1 n x2 (x3 + 1) else (pX9_strengthOf 20 σ x3).bind fun v1 => (some (x2 + v1)).bind fun v3 => pX2_mightOf_L4 σ x1 n v3 (x3 + 1)))
def pX2_mightOf (σ : Sg) (x1 : Int32) : Option Int32 := (pX2_mightOf_L4 σ x1 2000 0 0).bind fun w5 => some w5
def pX10_raft (σ : Sg) (x1 : Int32) (x2 : Int32) : Option Int32 := (if (pX10_isNoRaft σ x1) = 0 then (if (pX10_isOutside x2 0 5) = 0 then (if x2 = 0 then some (pX5_get 20 σ 32 x1) else (if x2 = 1 then (if (pX5_isGone 20 σ x1) = 0 then some 0 else some 1) else (if x2 = 2 then some (pX5_get 20 σ 38 x1) else (if x2 = 3 then (pX2_estateOf σ x1).bind fun v1 => some v1 else (if x2 = 4 then (pX2_townOf σ x1).bind fun v3 => some v3 else (pX2_townOf σ x1).bind fun v5 => (pX2_mightOf σ v5).bind fun v7 => some v7))))) else some (-1)) else some (-1))
def pX10_isNoAnchor (σ : Sg) (x1 : Int32) : Int32 := pX10_isOutside x1 0 ((σ 1 8) - 1)
theorem z_pX10_isNoAnchor (σ : Sg) (x1 : Int32) : pX10_isNoAnchor σ x1 = 0 ∨ pX10_isNoAnchor σ x1 = 1 := by
  unfold pX10_isNoAnchor
  (repeat' split) <;> first | exact Or.inl rfl | exact Or.inr rfl | (first | exact z_pX10_isOutside _ _ _ | exact z_pX11_in _ _ _ | exact z_pX10_has _ _)
def pX8_weighHolds_L10 (r1 : Nat) : Nat → Int32 → Sg → Option Sg
  | 0, _, _ => none
  | n + 1, x2, σ => (if (σ 1 8) ≤ x2 then some σ else (if (pX5_lies r1 σ x2) = 0 then pX8_weighHolds_L10 r1 n (x2 + 1) σ else (some (pX5_get r1 σ 0 x2)).bind fun v3 => (pX9_strengthOf r1 σ x2).bind fun v5 => (some (sA σ 38 (pX10_put (σ 38) 10 v3 ((pX10_at (σ 38) 10 v3) + v5)))).bind fun σ7 => pX8_weighHolds_L10 r1 n (x2 + 1) σ7))
def pX8_weighHolds (r1 : Nat) (σ : Sg) : Option Sg := (some (sA σ 38 (pX10_fill (σ 38) 10 0))).bind fun σ1 => (pX8_weighHolds_L10 r1 2000 0 σ1).bind fun w9 => some w9
def pX8_holdOf (σ : Sg) (x1 : Int32) : Option (Int32 × Sg) := (pX8_weighHolds 20 σ).bind fun u1 => some (pX10_at (u1 38) 10 (pX5_get 20 u1 0 x1), u1)
def pX10_anchor (σ : Sg) (x1 : Int32) (x2 : Int32) : Option (Int32 × Sg) := (if (pX10_isNoAnchor σ x1) = 0 then (if (pX10_isOutside x2 0 8) = 0 then (if x2 = 0 then some (pX10_at (σ 4) 8 x1, σ) else (if x2 = 1 then some (pX5_get 20 σ 0 x1, σ) else (if x2 = 2 then some (pX10_at (σ 5) 8 x1, σ) else (if x2 = 3 then some (pX5_get 20 σ 8 x1, σ) else (if x2 = 4 then some (pX10_at (σ 6) 8 x1, σ) else (if x2 = 5 then some (pX5_get 20 σ 16 x1, σ) else (if x2 = 6 then some (pX5_get 20 σ 24 x1, σ) else (if x2 = 7 then (if (pX5_lies 20 σ x1) = 0 then some ((-9), σ) else (pX8_holdOf σ x1).bind fun u1 => some (u1.1, u1.2)) else (pX2_whoseIs σ x1).bind fun v3 => some (v3, σ))))))))) else some ((-1), σ)) else some ((-1), σ))
def pX10_isNoForce (x0 : Int32) : Int32 := pX10_isOutside x0 1 99
theorem z_pX10_isNoForce (x0 : Int32) : pX10_isNoForce x0 = 0 ∨ pX10_isNoForce x0 = 1 := by
  unfold pX10_isNoForce
  (repeat' split) <;> first | exact Or.inl rfl | exact Or.inr rfl | (first | exact z_pX10_isOutside _ _ _ | exact z_pX11_in _ _ _ | exact z_pX10_has _ _)
def pX6_remembers (r1 : Nat) (σ : Sg) : Option Sg := ((if (σ 21 1) < 10 then some σ else (some (s1 σ 21 1 9)).bind fun σ2 => (some (sA σ2 22 (pX10_copy (σ2 22) 450 45 (σ2 22) 450 0 ((σ2 21 1) * 45)))).bind fun σ4 => some σ4) : Option (Sg)).bind fun j1 => (some (sA j1 22 (pX10_copy (j1 r1) 45 0 (j1 22) 450 ((j1 21 1) * 45) 45))).bind fun σ7 => (some (s1 σ7 21 1 ((σ7 21 1) + 1))).bind fun σ9 => some σ9
def pX8_blowsOver_L11 (r1 : Nat) (x2 : Int32) (x3 : Int32) : Nat → Int32 → Int32 → Sg → Option (Int32 × Sg)
  | 0, _, _, _ => none
  | n + 1, x4, x5, σ => (if (σ 1 8) ≤ x5 then some (x4, σ) else (some (pX5_get r1 σ 0 x5)).bind fun v3 => (if (pX5_lies r1 σ x5) = 0 then pX8_blowsOver_L11 r1 x2 x3 n x4 (x5 + 1) σ else (if x2 ≤ (pX10_at (σ 38) 10 v3) then pX8_blowsOver_L11 r1 x2 x3 n x4 (x5 + 1) σ else ((if x3 = 0 then some (v3 - 1) else some (v3 + 1)) : Option (Int32)).bind fun j5 => (if (pX10_isOutside j5 0 9) = 0 then (pX5_set r1 σ 0 x5 j5).bind fun u7 => pX8_blowsOver_L11 r1 x2 x3 n x4 (x5 + 1) u7 else (pX5_set r1 σ 24 x5 2).bind fun u9 => pX8_blowsOver_L11 r1 x2 x3 n (x4 + 1) (x5 + 1) u9))))
def pX8_blowsOver (r1 : Nat) (σ : Sg) (x2 : Int32) (x3 : Int32) : Option (Int32 × Sg) := (pX8_weighHolds r1 σ).bind fun u1 => (pX8_blowsOver_L11 r1 x2 x3 2000 0 0 u1).bind fun w11 => some (w11.1, w11.2)
def pX10_storms (σ : Sg) (x1 : Int32) (x2 : Int32) : Option (Int32 × Sg) := (if (pX10_isNoForce x1) = 0 then (if (pX10_isOutside x2 0 1) = 0 then (pX6_remembers 20 σ).bind fun u1 => (pX8_blowsOver 20 u1 x1 x2).bind fun u3 => some (u3.1, u3.2) else some ((-1), σ)) else some ((-1), σ))
def pX10_pays (σ : Sg) (x1 : Int32) (x2 : Int32) : Option (Int32 × Sg) := (if (pX10_isNoAnchor σ x1) = 0 then (if x2 = 0 then some ((-1), σ) else (if (pX10_isOutside x2 (-9) 9) = 0 then (some ((pX5_get 20 σ 8 x1) + x2)).bind fun v1 => (if (pX5_lies 20 σ x1) = 0 then some ((-2), σ) else (if (pX10_isOutside v1 1 60) = 0 then (pX6_remembers 20 σ).bind fun u3 => (pX5_set 20 u3 8 x1 v1).bind fun u5 => some (v1, u5) else some ((-2), σ))) else some ((-1), σ))) else some ((-1), σ))
def pX10_dies (σ : Sg) (x1 : Int32) : Option (Int32 × Sg) := (if (pX10_isNoRaft σ x1) = 0 then (if (pX5_isGone 20 σ x1) = 0 then (pX6_remembers 20 σ).bind fun u1 => (pX5_set 20 u1 44 0 ((pX5_goneRafts 20 u1) ||| (pX10_bit x1))).bind fun u3 => some (pJ6_bitCount (pX5_goneRafts 20 u3), u3) else some ((-2), σ)) else some ((-1), σ))
def pX10_wills (σ : Sg) (x1 : Int32) (x2 : Int32) : Option (Int32 × Sg) := (if (pX10_isNoRaft σ x1) = 0 then (if (pX10_isNoRaft σ x2) = 0 then (some (pX5_get 20 σ 32 x1)).bind fun v1 => (if (pX5_isGone 20 σ x1) = 0 then (if v1 = x2 then some ((-2), σ) else (pX6_remembers 20 σ).bind fun u3 => (pX5_set 20 u3 32 x1 x2).bind fun u5 => some (v1, u5)) else some ((-2), σ)) else some ((-1), σ)) else some ((-1), σ))
def pX10_year_L15  : Nat → Int32 → Int32 → Sg → Option (Int32 × Sg)
  | 0, _, _, _ => none
  | n + 1, x1, x2, σ => (if (σ 1 8) ≤ x2 then some (x1, σ) else (if (pX5_lies 20 σ x2) = 0 then pX10_year_L15 n x1 (x2 + 1) σ else (some (if 99 < ((pX5_get 20 σ 16 x2) + 1) then 99 else ((pX5_get 20 σ 16 x2) + 1))).bind fun v3 => (pX5_set 20 σ 16 x2 v3).bind fun u5 => (some (x1 + v3)).bind fun v7 => pX10_year_L15 n v7 (x2 + 1) u5))
def pX10_year (σ : Sg) : Option (Int32 × Sg) := (pX6_remembers 20 σ).bind fun u1 => (pX10_year_L15  2000 0 0 u1).bind fun w9 => some (w9.1, w9.2)
def pX2_mayHaul_L46 (σ : Sg) (x1 : Int32) (x3 : Int32) : Nat → Int32 → Option Int32
  | 0, _ => none
  | n + 1, x4 => (if (σ 1 8) ≤ x4 then some 1 else (pX2_whoseIs σ x4).bind fun v5 => (if (pX10_has x3 x4) = 0 then pX2_mayHaul_L46 σ x1 x3 n (x4 + 1) else (if v5 = x1 then pX2_mayHaul_L46 σ x1 x3 n (x4 + 1) else (if v5 = (-9) then pX2_mayHaul_L46 σ x1 x3 n (x4 + 1) else some 0))))
def pX2_mayHaul (σ : Sg) (x1 : Int32) (x2 : Int32) : Option Int32 := (if (pX5_lies 20 σ x2) = 0 then some 0 else (pX2_whoseIs σ x2).bind fun v1 => (if v1 = x1 then (pX10_lyingIn 20 σ (pX5_get 20 σ 0 x2)).bind fun v3 => pX2_mayHaul_L46 σ x1 v3 2000 0 else some 0))
def pX10_hauls (σ : Sg) (x1 : Int32) (x2 : Int32) : Option (Int32 × Sg) := (if (pX10_isNoRaft σ x1) = 0 then (if (pX10_isNoAnchor σ x2) = 0 then (pX2_mayHaul σ x1 x2).bind fun v1 => (if v1 = 0 then some ((-2), σ) else (pX6_remembers 20 σ).bind fun u3 => (some (if 9999 < ((pX5_get 20 u3 38 x1) + (pX2_valueOf u3 x2)) then 9999 else ((pX5_get 20 u3 38 x1) + (pX2_valueOf u3 x2)))).bind fun v5 => (pX5_set 20 u3 24 x2 1).bind fun u7 => (pX5_set 20 u7 38 x1 v5).bind fun u9 => some (v5, u9)) else some ((-1), σ)) else some ((-1), σ))
def pX6_bringsBack (r1 : Nat) (σ : Sg) : Option (Int32 × Sg) := (if 1 ≤ (σ 21 1) then (some (s1 σ 21 1 ((σ 21 1) - 1))).bind fun σ1 => (some (sA σ1 r1 (pX10_copy (σ1 22) 450 ((σ1 21 1) * 45) (σ1 r1) 45 0 45))).bind fun σ3 => some (1, σ3) else some (0, σ))
def pX10_undo (σ : Sg) : Option (Int32 × Sg) := (pX6_bringsBack 20 σ).bind fun u1 => (if u1.1 = 0 then some ((-2), u1.2) else some (u1.2 21 1, u1.2))
def pX2_wealthOfAll_L4 (σ : Sg) : Nat → Int32 → Int32 → Option Int32
  | 0, _, _ => none
  | n + 1, x1, x2 => (if (σ 1 7) ≤ x2 then some x1 else (some (x1 + (pX5_get 20 σ 38 x2))).bind fun v1 => pX2_wealthOfAll_L4 σ n v1 (x2 + 1))
def pX2_wealthOfAll (σ : Sg) : Option Int32 := (pX2_wealthOfAll_L4 σ 2000 0 0).bind fun w3 => some w3
def pX10_thoseThatAre_L5 (r1 : Nat) (σ : Sg) (x2 : Int32) : Nat → Int32 → Int32 → Option Int32
  | 0, _, _ => none
  | n + 1, x3, x4 => (if (σ 1 8) ≤ x4 then some x3 else (if (pX5_get r1 σ 24 x4) = x2 then (some (x3 ||| (pX10_bit x4))).bind fun v1 => pX10_thoseThatAre_L5 r1 σ x2 n v1 (x4 + 1) else pX10_thoseThatAre_L5 r1 σ x2 n x3 (x4 + 1)))
def pX10_thoseThatAre (r1 : Nat) (σ : Sg) (x2 : Int32) : Option Int32 := (pX10_thoseThatAre_L5 r1 σ x2 2000 0 0).bind fun w3 => some w3
def pX10_now (σ : Sg) (x1 : Int32) : Option Int32 := (if (pX10_isOutside x1 0 4) = 0 then (if x1 = 3 then some (pX5_goneRafts 20 σ) else (if x1 = 4 then (pX2_wealthOfAll σ).bind fun v1 => some v1 else (pX10_thoseThatAre 20 σ x1).bind fun v3 => some v3)) else some (-1))
def pX8_fewestLinks_L13 (σ : Sg) (x1 : Int32) (x2 : Int32) (x3 : Int32) : Nat → Int32 → Option Int32
  | 0, _ => none
  | n + 1, x4 => (if 60 < x4 then some (-9) else (pX9_strengthIn σ x3 x1 x4).bind fun v3 => (if v3 < x2 then pX8_fewestLinks_L13 σ x1 x2 x3 n (x4 + 1) else some x4))
def pX8_fewestLinks (σ : Sg) (x1 : Int32) (x2 : Int32) : Option Int32 := (some (pX5_get 20 σ 0 x1)).bind fun v1 => pX8_fewestLinks_L13 σ x1 x2 v1 2000 1
def pX10_needs (σ : Sg) (x1 : Int32) (x2 : Int32) : Option Int32 := (if (pX10_isNoAnchor σ x1) = 0 then (if (pX10_isNoForce x2) = 0 then (if (pX5_lies 20 σ x1) = 0 then some (-2) else (pX8_fewestLinks σ x1 x2).bind fun v1 => some v1) else some (-1)) else some (-1))
def pX8_cellBehind (σ : Sg) (x1 : Int32) (x2 : Int32) (x3 : Int32) : Option (Int32 × Sg) := (pX5_becomes 37 20 σ).bind fun u1 => (pX8_blowsOver 37 u1 x2 x3).bind fun u3 => (if (pX5_lies 37 u3.2 x1) = 0 then some ((-9), u3.2) else some (pX5_get 37 u3.2 0 x1, u3.2))
def pX10_after (σ : Sg) (x1 : Int32) (x2 : Int32) (x3 : Int32) : Option (Int32 × Sg) := (if (pX10_isNoAnchor σ x1) = 0 then (if (pX10_isNoForce x2) = 0 then (if (pX10_isOutside x3 0 1) = 0 then (pX8_cellBehind σ x1 x2 x3).bind fun u1 => some (u1.1, u1.2) else some ((-1), σ)) else some ((-1), σ)) else some ((-1), σ))
def pX8_sidesAt_L4 (σ : Sg) (x0 : Int32) (x1 : Int32) : Nat → Int32 → Int32 → Option Int32
  | 0, _, _ => none
  | n + 1, x2, x3 => (if x1 ≤ x3 then some x2 else (if (pX10_has x0 ((x1 - 1) - x3)) = 0 then pX8_sidesAt_L4 σ x0 x1 n x2 (x3 + 1) else (some (x2 ||| (pX10_bit x3))).bind fun v1 => pX8_sidesAt_L4 σ x0 x1 n v1 (x3 + 1)))
def pX8_sidesAt (σ : Sg) (x0 : Int32) (x1 : Int32) : Option Int32 := (pX8_sidesAt_L4 σ x0 x1 2000 0 0).bind fun w3 => some w3
def pX8_worstRow_L42 (x1 : Int32) (x2 : Int32) (x3 : Int32) (x4 : Int32) (x5 : Int32) (x6 : Int32) : Nat → Int32 → Int32 → Sg → Option (Int32 × Sg)
  | 0, _, _, _ => none
  | n + 1, x7, x8, σ => (if x2 ≤ x8 then some (x7, σ) else (if (pX10_has x6 x8) = 0 then (pX8_blowsOver 37 σ x1 0).bind fun u5 => (some (x7 + u5.1)).bind fun v7 => pX8_worstRow_L42 x1 x2 x3 x4 x5 x6 n v7 (x8 + 1) u5.2 else (pX8_blowsOver 37 σ x1 1).bind fun u9 => (some (x7 + u9.1)).bind fun v11 => pX8_worstRow_L42 x1 x2 x3 x4 x5 x6 n v11 (x8 + 1) u9.2))
def pX8_worstRow_L8 (x1 : Int32) (x2 : Int32) : Nat → Int32 → Int32 → Int32 → Sg → Option (Int32 × Int32 × Sg)
  | 0, _, _, _, _ => none
  | n + 1, x3, x4, x5, σ => (if (pX10_bit x2) ≤ x5 then some (x3, x4, σ) else (pX8_sidesAt σ x5 x2).bind fun v1 => (pX5_becomes 37 20 σ).bind fun u3 => (pX8_worstRow_L42 x1 x2 x3 x4 x5 v1 2000 0 0 u3).bind fun w13 => (if w13.1 ≤ x4 then pX8_worstRow_L8 x1 x2 n x3 x4 (x5 + 1) w13.2 else pX8_worstRow_L8 x1 x2 n v1 w13.1 (x5 + 1) w13.2))
def pX8_worstRow (σ : Sg) (x1 : Int32) (x2 : Int32) : Option (Int32 × Sg) := (pX8_worstRow_L8 x1 x2 2000 0 (-1) 0 σ).bind fun w15 => some (((w15.2.1 <<< (4 &&& 31)) ||| w15.1), w15.2.2)
def pX10_wreck (σ : Sg) (x1 : Int32) (x2 : Int32) (x3 : Int32) : Option (Int32 × Sg) := (if (pX10_isNoForce x1) = 0 then (if (pX10_isOutside x2 0 4) = 0 then (if (pX10_isOutside x3 0 1) = 0 then (pX8_worstRow σ x1 x2).bind fun u1 => (if x3 = 0 then some ((u1.1 >>> (4 &&& 31)), u1.2) else some ((u1.1 &&& ((pX10_bit 4) - 1)), u1.2)) else some ((-1), σ)) else some ((-1), σ)) else some ((-1), σ))
def pX0_cellsOfOthers_L4 (σ : Sg) (x1 : Int32) : Nat → Int32 → Int32 → Option Int32
  | 0, _, _ => none
  | n + 1, x2, x3 => (if 10 ≤ x3 then some x2 else (pX10_lyingIn 20 σ x3).bind fun v1 => (if (v1 &&& (x1 ^^^ (-1))) = 0 then pX0_cellsOfOthers_L4 σ x1 n x2 (x3 + 1) else (some (x2 ||| (pX10_bit x3))).bind fun v3 => pX0_cellsOfOthers_L4 σ x1 n v3 (x3 + 1)))
def pX0_cellsOfOthers (σ : Sg) (x1 : Int32) : Option Int32 := (pX0_cellsOfOthers_L4 σ x1 2000 0 0).bind fun w5 => some w5
def pX0_isHopeless (σ : Sg) (x1 : Int32) : Option Int32 := (dvI x1 16).bind fun v1 => (rmI x1 16).bind fun v3 => some (pX10_has (pX10_at (σ 41) 64 v1) v3)
def pX0_wouldHold (σ : Sg) (x1 : Int32) (x2 : Int32) (x3 : Int32) : Option Int32 := (pX9_strengthIn σ x1 x2 (pX5_get 20 σ 8 x2)).bind fun v1 => (if v1 < x3 then some 0 else some 1)
def pX0_callsHopeless (σ : Sg) (x1 : Int32) : Option Sg := (dvI x1 16).bind fun v1 => (rmI x1 16).bind fun v3 => (some (sA σ 41 (pX10_put (σ 41) 64 v1 ((pX10_at (σ 41) 64 v1) ||| (pX10_bit v3))))).bind fun σ5 => some σ5
def pX0_lays_L47 (rec : Sg → Int32 → Int32 → Int32 → Int32 → Option (Int32 × Sg)) (x1 : Int32) (x2 : Int32) (x3 : Int32) (x4 : Int32) : Nat → Int32 → Sg → Option (Int32 × Sg)
  | 0, _, _ => none
  | n + 1, x5, σ => (if 10 ≤ x5 then (pX0_callsHopeless σ x4).bind fun u3 => some (0, u3) else (if (pX10_has x4 x5) = 0 then (pX0_wouldHold σ x5 x3 x2).bind fun v5 => (if v5 = 0 then pX0_lays_L47 rec x1 x2 x3 x4 n (x5 + 1) σ else (some (sA σ 40 (pX10_put (σ 40) 8 x3 x5))).bind fun σ7 => (rec σ7 x1 x2 (x3 + 1) (x4 ||| (pX10_bit x5))).bind fun u9 => (if u9.1 = 0 then pX0_lays_L47 rec x1 x2 x3 x4 n (x5 + 1) u9.2 else some (1, u9.2))) else pX0_lays_L47 rec x1 x2 x3 x4 n (x5 + 1) σ))
def pX0_lays : Nat → Sg → Int32 → Int32 → Int32 → Int32 → Option (Int32 × Sg)
  | 0, _, _, _, _, _ => none
  | d + 1, σ, x1, x2, x3, x4 => (if x3 < (σ 1 8) then (if (pX10_has x1 x3) = 0 then ((pX0_lays d) σ x1 x2 (x3 + 1) x4).bind fun u11 => (zbI u11.1).bind fun v13 => some (v13, u11.2) else (pX0_isHopeless σ x4).bind fun v1 => (if v1 = 0 then pX0_lays_L47 (pX0_lays d) x1 x2 x3 x4 2000 0 σ else some (0, σ))) else some (1, σ))
def pX0_berthOf (σ : Sg) (x1 : Int32) (x2 : Int32) (x3 : Int32) : Option (Int32 × Sg) := (some (sA σ 41 (pX10_fill (σ 41) 64 0))).bind fun σ1 => (pX0_cellsOfOthers σ1 x1).bind fun v3 => (pX0_lays 20 σ1 x1 x2 0 v3).bind fun u5 => (if u5.1 = 0 then some ((-9), u5.2) else some (pX10_at (u5.2 40) 8 x3, u5.2))
def pX10_place (σ : Sg) (x1 : Int32) (x2 : Int32) (x3 : Int32) : Option (Int32 × Sg) := (if (pX10_isOutside x1 0 ((pX10_bit (σ 1 8)) - 1)) = 0 then (if (pX10_isNoForce x2) = 0 then (if (pX10_isNoAnchor σ x3) = 0 then (if (pX10_has x1 x3) = 0 then some ((-1), σ) else (pX10_thoseThatAre 20 σ 0).bind fun v1 => (if (x1 &&& v1) = x1 then (pX0_berthOf σ x1 x2 x3).bind fun u3 => some (u3.1, u3.2) else some ((-2), σ))) else some ((-1), σ)) else some ((-1), σ)) else some ((-1), σ))
def pX2_vitalFor_L19 (σ : Sg) (x2 : Int32) (x3 : Int32) (x4 : Int32) : Nat → Int32 → Int32 → Option Int32
  | 0, _, _ => none
  | n + 1, x5, x6 => (if (σ 1 8) ≤ x6 then some x5 else (if (pX2_adds σ x3 x6) = 0 then pX2_vitalFor_L19 σ x2 x3 x4 n x5 (x6 + 1) else (if x4 < x2 then pX2_vitalFor_L19 σ x2 x3 x4 n x5 (x6 + 1) else (pX9_strengthOf 20 σ x6).bind fun v5 => (if x2 ≤ (x4 - v5) then pX2_vitalFor_L19 σ x2 x3 x4 n x5 (x6 + 1) else (some (x5 ||| (pX10_bit x6))).bind fun v7 => pX2_vitalFor_L19 σ x2 x3 x4 n v7 (x6 + 1)))))
def pX2_vitalFor (σ : Sg) (x1 : Int32) (x2 : Int32) : Option Int32 := (pX2_townOf σ x1).bind fun v1 => (pX2_mightOf σ v1).bind fun v3 => (pX2_vitalFor_L19 σ x2 v1 v3 2000 0 0).bind fun w9 => some w9
def pX10_vital (σ : Sg) (x1 : Int32) (x2 : Int32) : Option Int32 := (if (pX10_isNoRaft σ x1) = 0 then (if (pX10_isNoForce x2) = 0 then (pX2_vitalFor σ x1 x2).bind fun v1 => some v1 else some (-1)) else some (-1))
def pX10_commonPart_L15  : Nat → Int32 → Int32 → Int32 → Option Int32
  | 0, _, _, _ => none
  | n + 1, x2, x3, x4 => (if 99 ≤ x4 then some x2 else (if x3 ≤ 0 then some x2 else (rmI x2 x3).bind fun v5 => pX10_commonPart_L15 n x3 v5 (x4 + 1)))
def pX10_commonPart (x0 : Int32) (x1 : Int32) : Option Int32 := (some (if x0 < x1 then x1 else x0)).bind fun v1 => (some (if x1 < x0 then x1 else x0)).bind fun v3 => (pX10_commonPart_L15  2000 v1 v3 0).bind fun w7 => some w7
def pX10_power_L4 (x0 : Int32) (x1 : Int32) : Nat → Int32 → Int32 → Option Int32
  | 0, _, _ => none
  | n + 1, x2, x3 => (if x1 ≤ x3 then some x2 else (some (x2 * x0)).bind fun v1 => pX10_power_L4 x0 x1 n v1 (x3 + 1))
def pX10_power (x0 : Int32) (x1 : Int32) : Option Int32 := (pX10_power_L4 x0 x1 2000 1 0).bind fun w3 => some w3
def pX10_odds (σ : Sg) (x1 : Int32) (x2 : Int32) (x3 : Int32) (x4 : Int32) : Option (Int32 × Sg) := (if (pX10_isNoAnchor σ x1) = 0 then (if (pX10_isNoForce x2) = 0 then (if (pX10_isOutside x3 0 4) = 0 then (if (pX10_isOutside x4 0 1) = 0 then (if (pX5_lies 20 σ x1) = 0 then some ((-2), σ) else (pX8_holdOf σ x1).bind fun u1 => (some (if x2 < u1.1 then x2 else u1.1)).bind fun v3 => (pX10_commonPart v3 x2).bind fun v5 => (if x4 = 0 then (pX10_divided v3 v5).bind fun v11 => (pX10_power v11 x3).bind fun v13 => some (v13, u1.2) else (pX10_divided x2 v5).bind fun v7 => (pX10_power v7 x3).bind fun v9 => some (v9, u1.2))) else some ((-1), σ)) else some ((-1), σ)) else some ((-1), σ)) else some ((-1), σ))
def pX1_takes (σ : Sg) (x1 : Int32) (x2 : Int32) : Option (Int32 × Sg) := (if (σ 43 5) < 6 then (some (sA σ 44 (pX10_put (σ 44) 6 (σ 43 5) x1))).bind fun σ1 => (some (sA σ1 45 (pX10_put (σ1 45) 6 (σ1 43 5) x2))).bind fun σ3 => (some (s1 σ3 43 5 ((σ3 43 5) + 1))).bind fun σ5 => some (1, σ5) else some (0, σ))
def pX10_hears (σ : Sg) (x1 : Int32) (x2 : Int32) : Option (Int32 × Sg) := (if (pX10_isNoForce x1) = 0 then (if (pX10_isOutside x2 0 1) = 0 then (pX1_takes σ x1 x2).bind fun u1 => (if u1.1 = 0 then some ((-3), u1.2) else some (u1.2 43 5, u1.2)) else some ((-1), σ)) else some ((-1), σ))
def pX10_forget (σ : Sg) : Option (Int32 × Sg) := (some (σ 43 5)).bind fun v1 => (some (s1 σ 43 5 0)).bind fun σ3 => some (v1, σ3)
def pX1_weighStrengths_L2  : Nat → Int32 → Sg → Option Sg
  | 0, _, _ => none
  | n + 1, x1, σ => (if (σ 1 8) ≤ x1 then some σ else (pX9_strengthOf 20 σ x1).bind fun v1 => (some (sA σ 46 (pX10_put (σ 46) 8 x1 v1))).bind fun σ3 => pX1_weighStrengths_L2 n (x1 + 1) σ3)
def pX1_weighStrengths (σ : Sg) : Option Sg := (pX1_weighStrengths_L2  2000 0 σ).bind fun w5 => some w5
def pX1_thatHold_L4 (σ : Sg) (x1 : Int32) : Nat → Int32 → Int32 → Option Int32
  | 0, _, _ => none
  | n + 1, x2, x3 => (if (σ 1 8) ≤ x3 then some x2 else (if (pX10_at (σ 46) 8 x3) < x1 then pX1_thatHold_L4 σ x1 n x2 (x3 + 1) else (some (x2 ||| (pX10_bit x3))).bind fun v1 => pX1_thatHold_L4 σ x1 n v1 (x3 + 1)))
def pX1_thatHold (σ : Sg) (x1 : Int32) : Option Int32 := (pX1_thatHold_L4 σ x1 2000 0 0).bind fun w3 => some w3
def pX1_fitting_L19 (σ : Sg) : Nat → Int32 → Int32 → Option Int32
  | 0, _, _ => none
  | n + 1, x1, x2 => (if (σ 43 5) ≤ x2 then some x1 else (pX1_thatHold σ (pX10_at (σ 44) 6 x2)).bind fun v5 => (if (pX10_at (σ 45) 6 x2) = 1 then (some (x1 &&& v5)).bind fun v9 => pX1_fitting_L19 σ n v9 (x2 + 1) else (some (x1 &&& (v5 ^^^ (-1)))).bind fun v7 => pX1_fitting_L19 σ n v7 (x2 + 1)))
def pX1_fitting (σ : Sg) : Option (Int32 × Sg) := (pX1_weighStrengths σ).bind fun u1 => (pX10_thoseThatAre 20 u1 0).bind fun v3 => (pX1_fitting_L19 u1 2000 v3 0).bind fun w11 => some (w11, u1)
def pX10_fits (σ : Sg) : Option (Int32 × Sg) := (pX1_fitting σ).bind fun u1 => some (u1.1, u1.2)
def pX1_bestQuestion_L19 (σ : Sg) (x1 : Int32) (x2 : Int32) : Nat → Int32 → Int32 → Int32 → Option Int32
  | 0, _, _, _ => none
  | n + 1, x3, x4, x5 => (if 99 < x5 then some x4 else (pX1_thatHold σ x5).bind fun v5 => (some (pJ6_bitCount (x1 &&& v5))).bind fun v7 => (some (if v7 < (x2 - v7) then (x2 - v7) else v7)).bind fun v9 => (if x3 ≤ v9 then pX1_bestQuestion_L19 σ x1 x2 n x3 x4 (x5 + 1) else pX1_bestQuestion_L19 σ x1 x2 n v9 x5 (x5 + 1)))
def pX1_bestQuestion (σ : Sg) : Option (Int32 × Sg) := (pX1_fitting σ).bind fun u1 => (some (pJ6_bitCount u1.1)).bind fun v3 => (pX1_bestQuestion_L19 u1.2 u1.1 v3 2000 v3 (-9) 1).bind fun w11 => some (w11, u1.2)
def pX10_ask (σ : Sg) : Option (Int32 × Sg) := (pX1_bestQuestion σ).bind fun u1 => some (u1.1, u1.2)
def pX4_markAs : Nat → Sg → Int64 → Int32 → Int32 → Int32 → Option (Int32 × Int64)
  | 0, _, _, _, _, _ => none
  | d + 1, σ, τ, x1, x2, x3 => (if 1 ≤ x3 then (some (τ + ((pX10_at f_LEAVES 6 x1).toInt64))).bind fun t1 => (if x1 = 0 then (pX9_strengthOf 20 σ x2).bind fun v5 => some (v5, t1) else ((pX4_markAs d) σ t1 (pX10_at f_ABOVE 6 x1) x2 (x3 - 1)).bind fun u3 => (if x1 = 1 then some ((u3.1 + (pX10_at (σ 6) 8 x2)), u3.2) else (if x1 = 2 then some ((u3.1 - (pX5_get 20 σ 16 x2)), u3.2) else (if x1 = 3 then some ((u3.1 * 2), u3.2) else (if x1 = 4 then some ((u3.1 + x2), u3.2) else (if x1 = 5 then some ((u3.1 + (pX5_get 20 σ 38 (pX10_at (σ 4) 8 x2))), u3.2) else some (u3.1, u3.2))))))) else some (0, τ))
def pX10_mark (σ : Sg) (τ : Int64) (x1 : Int32) (x2 : Int32) : Option (Int32 × Int64) := (if (pX10_isOutside x1 0 5) = 0 then (if (pX10_isNoAnchor σ x2) = 0 then (pX4_markAs 10 σ τ x1 x2 3).bind fun u1 => some (u1.1, u1.2) else some ((-1000000), τ)) else some ((-1000000), τ))
def pX10_imageOf (σ : Sg) (x1 : Int32) : Nat := (if x1 = 0 then 23 else 28)
def pX6_becomes_26_21 (σ : Sg) : Option Sg := (some (sA σ 27 (pX10_copy (σ 22) 450 0 (σ 27) 450 0 450))).bind fun σ1 => (some (s1 σ1 26 1 (σ1 21 1))).bind fun σ3 => some σ3
def pX6_becomes_31_21 (σ : Sg) : Option Sg := (some (sA σ 32 (pX10_copy (σ 22) 450 0 (σ 32) 450 0 450))).bind fun σ1 => (some (s1 σ1 31 1 (σ1 21 1))).bind fun σ3 => some σ3
def pX6_becomes_21_26 (σ : Sg) : Option Sg := (some (sA σ 22 (pX10_copy (σ 27) 450 0 (σ 22) 450 0 450))).bind fun σ1 => (some (s1 σ1 21 1 (σ1 26 1))).bind fun σ3 => some σ3
def pX6_becomes_21_31 (σ : Sg) : Option Sg := (some (sA σ 22 (pX10_copy (σ 32) 450 0 (σ 22) 450 0 450))).bind fun σ1 => (some (s1 σ1 21 1 (σ1 31 1))).bind fun σ3 => some σ3
def pX3_keeps_23 (r1 : Nat) (σ : Sg) : Option Sg := (pX5_becomes 25 r1 σ).bind fun u1 => (pX6_becomes_26_21 u1).bind fun u3 => (some (s1 u3 23 2 1)).bind fun σ5 => some σ5
def pX3_keeps_28 (r1 : Nat) (σ : Sg) : Option Sg := (pX5_becomes 30 r1 σ).bind fun u1 => (pX6_becomes_31_21 u1).bind fun u3 => (some (s1 u3 28 2 1)).bind fun σ5 => some σ5
def pX10_keep (σ : Sg) (x1 : Int32) : Option (Int32 × Sg) := (if (pX10_isOutside x1 0 1) = 0 then (if x1 = 0 then (pX3_keeps_23 20 σ).bind fun u1 => (pX10_thoseThatAre 20 u1 0).bind fun v3 => some (v3, u1) else (pX3_keeps_28 20 σ).bind fun u5 => (pX10_thoseThatAre 20 u5 0).bind fun v7 => some (v7, u5)) else some ((-1), σ))
def pX3_givesBack_23 (r1 : Nat) (σ : Sg) : Option Sg := (pX5_becomes r1 25 σ).bind fun u1 => (pX6_becomes_21_26 u1).bind fun u3 => some u3
def pX3_givesBack_28 (r1 : Nat) (σ : Sg) : Option Sg := (pX5_becomes r1 30 σ).bind fun u1 => (pX6_becomes_21_31 u1).bind fun u3 => some u3
def pX10_back (σ : Sg) (x1 : Int32) : Option (Int32 × Sg) := (if (pX10_isOutside x1 0 1) = 0 then (if x1 = 0 then (if (σ 23 2) = 0 then some ((-2), σ) else (if x1 = 0 then (pX3_givesBack_23 20 σ).bind fun u1 => (pX10_thoseThatAre 20 u1 0).bind fun v3 => some (v3, u1) else (pX3_givesBack_28 20 σ).bind fun u5 => (pX10_thoseThatAre 20 u5 0).bind fun v7 => some (v7, u5))) else (if (σ 28 2) = 0 then some ((-2), σ) else (if x1 = 0 then (pX3_givesBack_23 20 σ).bind fun u9 => (pX10_thoseThatAre 20 u9 0).bind fun v11 => some (v11, u9) else (pX3_givesBack_28 20 σ).bind fun u13 => (pX10_thoseThatAre 20 u13 0).bind fun v15 => some (v15, u13)))) else some ((-1), σ))
def pX10_count (σ : Sg) (x1 : Int32) : Int32 := (if x1 = 0 then σ 1 7 else (if x1 = 1 then σ 1 8 else (if x1 = 2 then σ 1 9 else (if x1 = 3 then σ 43 5 else (if x1 = 4 then σ 21 1 else (if x1 = 5 then σ 33 1 else (-1)))))))
def pX10_trace (σ : Sg) (τ : Int64) : Int64 := τ
def pX11_in (x0 : Int32) (x1 : Int32) (x2 : Int32) : Int32 := (if x0 < x1 then 0 else (if x2 < x0 then 0 else 1))
theorem z_pX11_in (x0 : Int32) (x1 : Int32) (x2 : Int32) : pX11_in x0 x1 x2 = 0 ∨ pX11_in x0 x1 x2 = 1 := by
  unfold pX11_in
  (repeat' split) <;> first | exact Or.inl rfl | exact Or.inr rfl | (first | exact z_pX10_isOutside _ _ _ | exact z_pX11_in _ _ _ | exact z_pX10_has _ _)
def pX11_has (x0 : Int32) (x1 : Int32) : Int32 := (if ((x0 >>> (x1 &&& 31)) &&& 1) = 1 then 1 else 0)
theorem z_pX11_has (x0 : Int32) (x1 : Int32) : pX11_has x0 x1 = 0 ∨ pX11_has x0 x1 = 1 := by
  unfold pX11_has
  (repeat' split) <;> first | exact Or.inl rfl | exact Or.inr rfl | (first | exact z_pX10_isOutside _ _ _ | exact z_pX11_in _ _ _ | exact z_pX10_has _ _)
def pX11_type (σ : Sg) (x1 : Int32) : Option (Int32 × Sg) := (if (pX11_in x1 0 255) = 0 then some ((-1), σ) else (if (σ 0 1) = 200 then some ((-3), σ) else (wrA σ 1 200 (σ 0 1) (vp_nar .byte x1.toInt8.toInt32)).bind fun σ1 => (some (s1 σ1 0 1 ((σ1 0 1) + 1))).bind fun σ3 => some (σ3 0 1, σ3)))
def pX11_clear (σ : Sg) : Option (Int32 × Sg) := (some (σ 0 1)).bind fun v1 => (some (s1 σ 0 1 0)).bind fun σ3 => some (v1, σ3)
def pX11_here (σ : Sg) : Option Int32 := (if (σ 0 1) ≤ (σ 0 13) then some (-9) else (rdA σ 1 200 (σ 0 13)).bind fun v1 => some (v1 &&& 255))
def pX11_step_L0  : Nat → Sg → Option Sg
  | 0, _ => none
  | n + 1, σ => (pX11_here σ).bind fun v1 => (if v1 = 32 then (some (s1 σ 0 13 ((σ 0 13) + 1))).bind fun σ3 => pX11_step_L0 n σ3 else some σ)
def pX11_step_L178 (x1 : Int32) : Nat → Sg → Option Sg
  | 0, _ => none
  | n + 1, σ => (pX11_here σ).bind fun v19 => (if (pX11_in v19 97 122) = 0 then some σ else (some (s1 σ 0 13 ((σ 0 13) + 1))).bind fun σ21 => pX11_step_L178 x1 n σ21)
def pX11_step_L65 (x1 : Int32) : Nat → Sg → Option Sg
  | 0, _ => none
  | n + 1, σ => (pX11_here σ).bind fun v33 => (if (pX11_in v33 48 57) = 0 then some σ else (if (σ 0 16) ≤ 99 then (pX11_here σ).bind fun v35 => (some (s1 σ 0 16 (((10 * (σ 0 16)) + v35) - 48))).bind fun σ37 => (some (s1 σ37 0 13 ((σ37 0 13) + 1))).bind fun σ39 => pX11_step_L65 x1 n σ39 else (some (s1 σ 0 16 (σ 0 16))).bind fun σ41 => (some (s1 σ41 0 13 ((σ41 0 13) + 1))).bind fun σ43 => pX11_step_L65 x1 n σ43))
def pX11_step (σ : Sg) : Option Sg := (pX11_step_L0  2000 σ).bind fun w5 => (some (s1 w5 0 14 (w5 0 13))).bind fun σ7 => (some (s1 σ7 0 16 0)).bind fun σ9 => (pX11_here σ9).bind fun v11 => (if v11 = (-9) then (some (s1 σ9 0 15 4)).bind fun σ55 => some σ55 else (if (pX11_in v11 48 57) = 0 then (if (pX11_in v11 97 122) = 0 then (some (s1 σ9 0 13 ((σ9 0 13) + 1))).bind fun σ13 => (if v11 = 59 then (some (s1 σ13 0 15 3)).bind fun σ17 => some σ17 else (some (s1 σ13 0 15 5)).bind fun σ15 => some σ15) else (pX11_step_L178 v11 2000 σ9).bind fun w23 => (if ((w23 0 13) - (w23 0 14)) = 1 then (some (s1 w23 0 16 v11)).bind fun σ29 => (some (s1 σ29 0 15 1)).bind fun σ31 => some σ31 else (some (s1 w23 0 16 0)).bind fun σ25 => (some (s1 σ25 0 15 1)).bind fun σ27 => some σ27)) else (pX11_step_L65 v11 2000 σ9).bind fun w45 => (if 99 < (w45 0 16) then (some (s1 w45 0 15 5)).bind fun σ47 => some σ47 else (if v11 = 48 then (if ((w45 0 13) - (w45 0 14)) ≤ 1 then (some (s1 w45 0 15 2)).bind fun σ51 => some σ51 else (some (s1 w45 0 15 5)).bind fun σ53 => some σ53) else (some (s1 w45 0 15 2)).bind fun σ49 => some σ49))))
def pX11_due (σ : Sg) (x1 : Int32) : Option Sg := (if (σ 0 17) = 0 then (if x1 = 0 then (some (s1 σ 0 17 1)).bind fun σ1 => some σ1 else (pX11_step σ).bind fun u3 => some u3) else some σ)
def pX11_number (σ : Sg) (x1 : Int32) (x2 : Int32) : Option (Int32 × Sg) := (some (σ 0 16)).bind fun v1 => (if (σ 0 15) = 2 then (if (pX11_in v1 x1 x2) = 0 then (pX11_due σ 0).bind fun u5 => some (v1, u5) else (pX11_due σ 1).bind fun u7 => some (v1, u7)) else (pX11_due σ 0).bind fun u3 => some (v1, u3))
def pX11_rope (σ : Sg) : Option Sg := (rdA σ 4 2 1).bind fun v1 => (pX11_number σ 0 (v1 - 1)).bind fun u3 => (some (u3.2 0 16)).bind fun v5 => ((if (u3.2 0 15) = 2 then (rdA u3.2 4 2 1).bind fun v8 => (if v8 ≤ v5 then some 0 else (if v5 = u3.1 then some 0 else some 1)) else some 0) : Option (Int32)).bind fun j7 => (pX11_due u3.2 j7).bind fun u11 => (if (u11 0 17) = 0 then (rdA u11 6 12 (6 + u3.1)).bind fun v13 => (wrA u11 6 12 (6 + u3.1) (v13 ||| ((1 : Int32) <<< (v5 &&& 31)))).bind fun σ15 => (rdA σ15 6 12 (6 + v5)).bind fun v17 => (wrA σ15 6 12 (6 + v5) (v17 ||| ((1 : Int32) <<< (u3.1 &&& 31)))).bind fun σ19 => some σ19 else some u11)
def pX11_item (σ : Sg) (x1 : Int32) : Option Sg := (if x1 = 97 then (rdA σ 7 2 1).bind fun v1 => (some (8 + v1)).bind fun v3 => (rdA σ 4 2 1).bind fun v5 => (pX11_number σ 0 (v5 - 1)).bind fun u7 => (wrA u7.2 8 16 v3 u7.1).bind fun σ9 => (pX11_number σ9 0 9).bind fun u11 => (wrA u11.2 9 16 v3 u11.1).bind fun σ13 => (pX11_number σ13 1 9).bind fun u15 => (wrA u15.2 10 16 v3 u15.1).bind fun σ17 => (pX11_number σ17 1 60).bind fun u19 => (wrA u19.2 11 16 v3 u19.1).bind fun σ21 => (pX11_number σ21 0 99).bind fun u23 => (wrA u23.2 12 16 v3 u23.1).bind fun σ25 => (rdA σ25 7 2 1).bind fun v27 => (wrA σ25 7 2 1 (v27 + 1)).bind fun σ29 => some σ29 else (if x1 = 99 then (pX11_number σ 0 9).bind fun u31 => (pX11_number u31.2 1 9).bind fun u33 => (pX11_number u33.2 0 3).bind fun u35 => (if (u35.2 0 17) = 0 then (wrA u35.2 2 20 (10 + u31.1) u33.1).bind fun σ37 => (wrA σ37 3 20 (10 + u31.1) u35.1).bind fun σ39 => some σ39 else some u35.2) else (if x1 = 114 then (rdA σ 4 2 1).bind fun v41 => (rdA σ 4 2 1).bind fun v43 => (pX11_number σ 0 v43).bind fun u45 => (wrA u45.2 5 12 (6 + v41) u45.1).bind fun σ47 => (rdA σ47 4 2 1).bind fun v49 => (wrA σ47 4 2 1 (v49 + 1)).bind fun σ51 => some σ51 else (pX11_rope σ).bind fun u53 => some u53)))
def pX11_may (σ : Sg) (x1 : Int32) : Option Int32 := (if x1 = 97 then (rdA σ 7 2 1).bind fun v1 => (if 8 ≤ v1 then some 0 else some 1) else (if x1 = 114 then (rdA σ 4 2 1).bind fun v3 => (if 6 ≤ v3 then some 0 else some 1) else (if x1 = 99 then some 1 else (if x1 = 116 then some 1 else some 0))))
def pX11_read_L31  : Nat → Int32 → Sg → Option Sg
  | 0, _, _ => none
  | n + 1, x1, σ => (if 10 ≤ x1 then some σ else (wrA σ 2 20 (10 + x1) 3).bind fun σ11 => (wrA σ11 3 20 (10 + x1) 1).bind fun σ13 => pX11_read_L31 n (x1 + 1) σ13)
def pX11_read_L65  : Nat → Int32 → Sg → Option Sg
  | 0, _, _ => none
  | n + 1, x1, σ => (if 6 ≤ x1 then some σ else (wrA σ 6 12 (6 + x1) 0).bind fun σ17 => pX11_read_L65 n (x1 + 1) σ17)
def pX11_read_L91  : Nat → Sg → Option Sg
  | 0, _ => none
  | n + 1, σ => (if (σ 0 15) = 4 then some σ else (if (σ 0 17) = 0 then ((if (σ 0 15) = 1 then some (σ 0 16) else some 0) : Option (Int32)).bind fun j23 => ((if (σ 0 15) = 1 then (pX11_may σ j23).bind fun v26 => (if v26 = 0 then some 0 else some 1) else some 0) : Option (Int32)).bind fun j25 => (pX11_due σ j25).bind fun u29 => (if (u29 0 17) = 0 then (pX11_item u29 j23).bind fun u31 => (if (u31 0 15) = 3 then (pX11_due u31 1).bind fun u37 => (some (s1 u37 0 18 ((u37 0 18) + 1))).bind fun σ39 => pX11_read_L91 n σ39 else (pX11_due u31 0).bind fun u33 => (some (s1 u33 0 18 ((u33 0 18) + 1))).bind fun σ35 => pX11_read_L91 n σ35) else pX11_read_L91 n u29) else some σ))
def pX11_read (σ : Sg) : Option Sg := (some (s1 σ 0 13 0)).bind fun σ1 => (some (s1 σ1 0 17 0)).bind fun σ3 => (some (s1 σ3 0 18 0)).bind fun σ5 => (wrA σ5 4 2 1 0).bind fun σ7 => (wrA σ7 7 2 1 0).bind fun σ9 => (pX11_read_L31  2000 0 σ9).bind fun w15 => (pX11_read_L65  2000 0 w15).bind fun w19 => (pX11_step w19).bind fun u21 => (pX11_read_L91  2000 u21).bind fun w41 => some w41
def pX11_town_L45  : Nat → Int32 → Sg → Option Sg
  | 0, _, _ => none
  | n + 1, x1, σ => (if 45 ≤ x1 then some σ else (wrA σ 13 45 x1 0).bind fun σ11 => pX11_town_L45 n (x1 + 1) σ11)
def pX11_town_L66  : Nat → Int32 → Sg → Option Sg
  | 0, _, _ => none
  | n + 1, x1, σ => (if 10 ≤ x1 then some σ else (rdA σ 2 20 (10 + x1)).bind fun v15 => (wrA σ 2 20 x1 v15).bind fun σ17 => (rdA σ17 3 20 (10 + x1)).bind fun v19 => (wrA σ17 3 20 x1 v19).bind fun σ21 => pX11_town_L66 n (x1 + 1) σ21)
def pX11_town_L110  : Nat → Int32 → Sg → Option Sg
  | 0, _, _ => none
  | n + 1, x1, σ => (if 6 ≤ x1 then some σ else (rdA σ 6 12 (6 + x1)).bind fun v25 => (wrA σ 6 12 x1 v25).bind fun σ27 => (rdA σ27 4 2 0).bind fun v29 => (if v29 ≤ x1 then (wrA σ27 13 45 (33 + x1) 0).bind fun σ31 => pX11_town_L110 n (x1 + 1) σ31 else (rdA σ27 5 12 (6 + x1)).bind fun v33 => (wrA σ27 13 45 (33 + x1) v33).bind fun σ35 => pX11_town_L110 n (x1 + 1) σ35))
def pX11_town_L171  : Nat → Int32 → Sg → Option Sg
  | 0, _, _ => none
  | n + 1, x1, σ => (rdA σ 7 2 0).bind fun v39 => (if v39 ≤ x1 then some σ else (rdA σ 8 16 (8 + x1)).bind fun v41 => (wrA σ 8 16 x1 v41).bind fun σ43 => (rdA σ43 10 16 (8 + x1)).bind fun v45 => (wrA σ43 10 16 x1 v45).bind fun σ47 => (rdA σ47 12 16 (8 + x1)).bind fun v49 => (wrA σ47 12 16 x1 v49).bind fun σ51 => (rdA σ51 9 16 (8 + x1)).bind fun v53 => (wrA σ51 13 45 (0 + x1) v53).bind fun σ55 => (rdA σ55 11 16 (8 + x1)).bind fun v57 => (wrA σ55 13 45 (8 + x1) v57).bind fun σ59 => pX11_town_L171 n (x1 + 1) σ59)
def pX11_town (σ : Sg) : Option (Int32 × Sg) := (pX11_read σ).bind fun u1 => (if (u1 0 17) = 0 then (rdA u1 4 2 1).bind fun v3 => (wrA u1 4 2 0 v3).bind fun σ5 => (rdA σ5 7 2 1).bind fun v7 => (wrA σ5 7 2 0 v7).bind fun σ9 => (pX11_town_L45  2000 0 σ9).bind fun w13 => (pX11_town_L66  2000 0 w13).bind fun w23 => (pX11_town_L110  2000 0 w23).bind fun w37 => (pX11_town_L171  2000 0 w37).bind fun w61 => (wrA w61 14 3 0 0).bind fun σ63 => (wrA σ63 17 2 0 (vp_nar .boolean 0)).bind fun σ65 => (wrA σ65 17 2 1 (vp_nar .boolean 0)).bind fun σ67 => (some (s1 σ67 0 28 0)).bind fun σ69 => (some (s1 σ69 0 1 0)).bind fun σ71 => some (σ71 0 18, σ71) else some (((-10) - (u1 0 14)), u1))
def pX11_isRaft (σ : Sg) (x1 : Int32) : Option Int32 := (rdA σ 4 2 0).bind fun v1 => some (pX11_in x1 0 (v1 - 1))
def pX11_isAnchor (σ : Sg) (x1 : Int32) : Option Int32 := (rdA σ 7 2 0).bind fun v1 => some (pX11_in x1 0 (v1 - 1))
def pX11_isLying (σ : Sg) (x1 : Int32) : Option Int32 := (rdA σ 13 45 (24 + x1)).bind fun v1 => (if v1 = 0 then some 1 else some 0)
def pX11_those_L4 (σ : Sg) (x1 : Int32) : Nat → Int32 → Int32 → Option Int32
  | 0, _, _ => none
  | n + 1, x2, x3 => (rdA σ 7 2 0).bind fun v1 => (if v1 ≤ x3 then some x2 else (rdA σ 13 45 (24 + x3)).bind fun v3 => (if v3 = x1 then (some (x2 ||| ((1 : Int32) <<< (x3 &&& 31)))).bind fun v7 => pX11_those_L4 σ x1 n v7 (x3 + 1) else (some (x2 ||| 0)).bind fun v5 => pX11_those_L4 σ x1 n v5 (x3 + 1)))
def pX11_those (σ : Sg) (x1 : Int32) : Option Int32 := (pX11_those_L4 σ x1 2000 0 0).bind fun w9 => some w9
def pX11_bitsOf_L4 (x0 : Int32) : Nat → Int32 → Int32 → Option Int32
  | 0, _, _ => none
  | n + 1, x1, x2 => (if 8 ≤ x2 then some x1 else (some (x1 + ((x0 >>> (x2 &&& 31)) &&& 1))).bind fun v1 => pX11_bitsOf_L4 x0 n v1 (x2 + 1))
def pX11_bitsOf (x0 : Int32) : Option Int32 := (pX11_bitsOf_L4 x0 2000 0 0).bind fun w3 => some w3
def pX11_strengthAt (σ : Sg) (x1 : Int32) (x2 : Int32) : Option Int32 := (rdA σ 10 16 x1).bind fun v1 => (rdA σ 3 20 x2).bind fun v3 => (rdA σ 13 45 (8 + x1)).bind fun v5 => (rdA σ 2 20 x2).bind fun v7 => (dvI v5 v7).bind fun v9 => some ((v1 * (v3 + 1)) + v9)
def pX11_strength (σ : Sg) (x1 : Int32) : Option Int32 := (rdA σ 13 45 (0 + x1)).bind fun v1 => (pX11_strengthAt σ x1 v1).bind fun v3 => some v3
def pX11_hold_L4 (σ : Sg) (x1 : Int32) : Nat → Int32 → Int32 → Option Int32
  | 0, _, _ => none
  | n + 1, x2, x3 => (rdA σ 7 2 0).bind fun v1 => (if v1 ≤ x3 then some x2 else (pX11_isLying σ x3).bind fun v3 => (if v3 = 0 then (some (x2 + 0)).bind fun v5 => pX11_hold_L4 σ x1 n v5 (x3 + 1) else (rdA σ 13 45 (0 + x3)).bind fun v7 => (rdA σ 13 45 (0 + x1)).bind fun v9 => (if v7 = v9 then (pX11_strength σ x3).bind fun v13 => (some (x2 + v13)).bind fun v15 => pX11_hold_L4 σ x1 n v15 (x3 + 1) else (some (x2 + 0)).bind fun v11 => pX11_hold_L4 σ x1 n v11 (x3 + 1))))
def pX11_hold (σ : Sg) (x1 : Int32) : Option Int32 := (pX11_hold_L4 σ x1 2000 0 0).bind fun w17 => some w17
def pX11_whose_L9 (σ : Sg) : Nat → Int32 → Int32 → Option Int32
  | 0, _, _ => none
  | n + 1, x2, x3 => (if 6 ≤ x3 then some x2 else (rdA σ 13 45 32).bind fun v3 => (if (pX11_has v3 x2) = 0 then some x2 else (rdA σ 13 45 (33 + x2)).bind fun v5 => pX11_whose_L9 σ n v5 (x3 + 1)))
def pX11_whose (σ : Sg) (x1 : Int32) : Option Int32 := (rdA σ 8 16 x1).bind fun v1 => (pX11_whose_L9 σ 2000 v1 0).bind fun w7 => (rdA σ 13 45 32).bind fun v9 => (if (pX11_has v9 w7) = 0 then some w7 else some (-9))
def pX11_leftOf (σ : Sg) (x1 : Int32) : Option Int32 := (rdA σ 12 16 x1).bind fun v1 => (rdA σ 13 45 (16 + x1)).bind fun v3 => (if v1 ≤ v3 then some 0 else (rdA σ 12 16 x1).bind fun v5 => (rdA σ 13 45 (16 + x1)).bind fun v7 => some (v5 - v7))
def pX11_cell_L57 (σ : Sg) (x1 : Int32) : Nat → Int32 → Int32 → Option Int32
  | 0, _, _ => none
  | n + 1, x3, x4 => (rdA σ 7 2 0).bind fun v5 => (if v5 ≤ x4 then some x3 else (pX11_isLying σ x4).bind fun v7 => (if v7 = 0 then (some (x3 ||| 0)).bind fun v9 => pX11_cell_L57 σ x1 n v9 (x4 + 1) else (rdA σ 13 45 (0 + x4)).bind fun v11 => (if v11 = x1 then (some (x3 ||| ((1 : Int32) <<< (x4 &&& 31)))).bind fun v15 => pX11_cell_L57 σ x1 n v15 (x4 + 1) else (some (x3 ||| 0)).bind fun v13 => pX11_cell_L57 σ x1 n v13 (x4 + 1))))
def pX11_cell (σ : Sg) (x1 : Int32) (x2 : Int32) : Option Int32 := (if (pX11_in x1 0 9) = 0 then some (-1) else (if x2 = 0 then (rdA σ 2 20 x1).bind fun v1 => some v1 else (if x2 = 1 then (rdA σ 3 20 x1).bind fun v3 => some v3 else (if x2 = 2 then (pX11_cell_L57 σ x1 2000 0 0).bind fun w17 => some w17 else some (-1)))))
def pX11_estate_L4 (σ : Sg) (x1 : Int32) : Nat → Int32 → Int32 → Option Int32
  | 0, _, _ => none
  | n + 1, x2, x3 => (rdA σ 7 2 0).bind fun v1 => (if v1 ≤ x3 then some x2 else (pX11_isLying σ x3).bind fun v3 => (if v3 = 0 then (some (x2 + 0)).bind fun v5 => pX11_estate_L4 σ x1 n v5 (x3 + 1) else (pX11_whose σ x3).bind fun v7 => (if v7 = x1 then (pX11_leftOf σ x3).bind fun v11 => (some (x2 + v11)).bind fun v13 => pX11_estate_L4 σ x1 n v13 (x3 + 1) else (some (x2 + 0)).bind fun v9 => pX11_estate_L4 σ x1 n v9 (x3 + 1))))
def pX11_estate (σ : Sg) (x1 : Int32) : Option Int32 := (pX11_estate_L4 σ x1 2000 0 0).bind fun w15 => some w15
def pX11_townOf_L15 (σ : Sg) (x3 : Int32) : Nat → Int32 → Int32 → Option Int32
  | 0, _, _ => none
  | n + 1, x2, x4 => (rdA σ 4 2 0).bind fun v3 => (if v3 ≤ x4 then some x2 else (if (pX11_has x2 x4) = 0 then (some (x2 ||| 0)).bind fun v5 => pX11_townOf_L15 σ x3 n v5 (x4 + 1) else (rdA σ 6 12 x4).bind fun v7 => (some (x2 ||| v7)).bind fun v9 => pX11_townOf_L15 σ x3 n v9 (x4 + 1)))
def pX11_townOf_L6 (σ : Sg) : Nat → Int32 → Int32 → Option Int32
  | 0, _, _ => none
  | n + 1, x2, x3 => (if 6 ≤ x3 then some x2 else (pX11_townOf_L15 σ x3 2000 x2 0).bind fun w11 => pX11_townOf_L6 σ n w11 (x3 + 1))
def pX11_townOf (σ : Sg) (x1 : Int32) : Option Int32 := (some ((1 : Int32) <<< (x1 &&& 31))).bind fun v1 => (pX11_townOf_L6 σ 2000 v1 0).bind fun w13 => some w13
def pX11_might_L11 (σ : Sg) (x2 : Int32) : Nat → Int32 → Int32 → Option Int32
  | 0, _, _ => none
  | n + 1, x3, x4 => (rdA σ 7 2 0).bind fun v3 => (if v3 ≤ x4 then some x3 else (pX11_isLying σ x4).bind fun v5 => (if v5 = 0 then (some (x3 + 0)).bind fun v7 => pX11_might_L11 σ x2 n v7 (x4 + 1) else (rdA σ 8 16 x4).bind fun v9 => (if (pX11_has x2 v9) = 0 then (some (x3 + 0)).bind fun v11 => pX11_might_L11 σ x2 n v11 (x4 + 1) else (pX11_strength σ x4).bind fun v13 => (some (x3 + v13)).bind fun v15 => pX11_might_L11 σ x2 n v15 (x4 + 1))))
def pX11_might (σ : Sg) (x1 : Int32) : Option Int32 := (pX11_townOf σ x1).bind fun v1 => (pX11_might_L11 σ v1 2000 0 0).bind fun w17 => some w17
def pX11_raft (σ : Sg) (x1 : Int32) (x2 : Int32) : Option Int32 := (pX11_isRaft σ x1).bind fun v1 => (if v1 = 0 then some (-1) else (if x2 = 0 then (rdA σ 13 45 (33 + x1)).bind fun v3 => some v3 else (if x2 = 1 then (rdA σ 13 45 32).bind fun v5 => (if (pX11_has v5 x1) = 0 then some 0 else some 1) else (if x2 = 2 then (rdA σ 13 45 (39 + x1)).bind fun v7 => some v7 else (if x2 = 3 then (pX11_estate σ x1).bind fun v9 => some v9 else (if x2 = 4 then (pX11_townOf σ x1).bind fun v11 => some v11 else (if x2 = 5 then (pX11_might σ x1).bind fun v13 => some v13 else some (-1))))))))
def pX11_anchor (σ : Sg) (x1 : Int32) (x2 : Int32) : Option Int32 := (pX11_isAnchor σ x1).bind fun v1 => (if v1 = 0 then some (-1) else (if x2 = 0 then (rdA σ 8 16 x1).bind fun v3 => some v3 else (if x2 = 1 then (rdA σ 13 45 (0 + x1)).bind fun v5 => some v5 else (if x2 = 2 then (rdA σ 10 16 x1).bind fun v7 => some v7 else (if x2 = 3 then (rdA σ 13 45 (8 + x1)).bind fun v9 => some v9 else (if x2 = 4 then (rdA σ 12 16 x1).bind fun v11 => some v11 else (if x2 = 5 then (rdA σ 13 45 (16 + x1)).bind fun v13 => some v13 else (if x2 = 6 then (rdA σ 13 45 (24 + x1)).bind fun v15 => some v15 else (if x2 = 7 then (pX11_isLying σ x1).bind fun v17 => (if v17 = 0 then some (-9) else (pX11_hold σ x1).bind fun v19 => some v19) else (if x2 = 8 then (pX11_whose σ x1).bind fun v21 => some v21 else some (-1)))))))))))
def pX11_know_L53  : Nat → Int32 → Sg → Option Sg
  | 0, _, _ => none
  | n + 1, x1, σ => (if 45 ≤ x1 then some σ else (rdA σ 14 3 0).bind fun v3 => (rdA σ 13 45 x1).bind fun v5 => (wrA σ 15 1350 ((45 * v3) + x1) v5).bind fun σ7 => pX11_know_L53 n (x1 + 1) σ7)
def pX11_know_L13  : Nat → Int32 → Sg → Option Sg
  | 0, _, _ => none
  | n + 1, x1, σ => (if 405 ≤ x1 then some σ else (rdA σ 15 1350 (45 + x1)).bind fun v15 => (wrA σ 15 1350 x1 v15).bind fun σ17 => pX11_know_L13 n (x1 + 1) σ17)
def pX11_know (σ : Sg) : Option Sg := (rdA σ 14 3 0).bind fun v1 => (if v1 = 10 then (pX11_know_L13  2000 0 σ).bind fun w19 => (rdA w19 14 3 0).bind fun v21 => (wrA w19 14 3 0 (v21 - 1)).bind fun σ23 => (pX11_know_L53  2000 0 σ23).bind fun w25 => (rdA w25 14 3 0).bind fun v27 => (wrA w25 14 3 0 (v27 + 1)).bind fun σ29 => some σ29 else (pX11_know_L53  2000 0 σ).bind fun w9 => (rdA w9 14 3 0).bind fun v11 => (wrA w9 14 3 0 (v11 + 1)).bind fun σ13 => some σ13)
def pX11_isStorm (x0 : Int32) : Int32 := pX11_in x0 1 99
theorem z_pX11_isStorm (x0 : Int32) : pX11_isStorm x0 = 0 ∨ pX11_isStorm x0 = 1 := by
  unfold pX11_isStorm
  (repeat' split) <;> first | exact Or.inl rfl | exact Or.inr rfl | (first | exact z_pX10_isOutside _ _ _ | exact z_pX11_in _ _ _ | exact z_pX10_has _ _)
def pX11_isSide (x0 : Int32) : Int32 := pX11_in x0 0 1
theorem z_pX11_isSide (x0 : Int32) : pX11_isSide x0 = 0 ∨ pX11_isSide x0 = 1 := by
  unfold pX11_isSide
  (repeat' split) <;> first | exact Or.inl rfl | exact Or.inr rfl | (first | exact z_pX10_isOutside _ _ _ | exact z_pX11_in _ _ _ | exact z_pX10_has _ _)
def pX11_blow_L8 (σ : Sg) (x1 : Int32) (x2 : Int32) (x4 : Int32) : Nat → Int32 → Int32 → Option Int32
  | 0, _, _ => none
  | n + 1, x3, x5 => (rdA σ 7 2 0).bind fun v1 => (if v1 ≤ x5 then some x3 else (pX11_isLying σ x5).bind fun v3 => (if v3 = 0 then (some (x3 ||| 0)).bind fun v5 => pX11_blow_L8 σ x1 x2 x4 n v5 (x5 + 1) else (pX11_hold σ x5).bind fun v7 => (if x1 ≤ v7 then (some (x3 ||| 0)).bind fun v9 => pX11_blow_L8 σ x1 x2 x4 n v9 (x5 + 1) else (some (x3 ||| ((1 : Int32) <<< (x5 &&& 31)))).bind fun v11 => pX11_blow_L8 σ x1 x2 x4 n v11 (x5 + 1))))
def pX11_blow_L70 (x2 : Int32) (x3 : Int32) (x5 : Int32) : Nat → Int32 → Int32 → Sg → Option (Int32 × Sg)
  | 0, _, _, _ => none
  | n + 1, x4, x6, σ => (rdA σ 7 2 0).bind fun v15 => (if v15 ≤ x6 then some (x4, σ) else (if (pX11_has x3 x6) = 0 then pX11_blow_L70 x2 x3 x5 n x4 (x6 + 1) σ else (rdA σ 13 45 (0 + x6)).bind fun v17 => (if v17 = x5 then (wrA σ 13 45 (24 + x6) 2).bind fun σ25 => pX11_blow_L70 x2 x3 x5 n (x4 + 1) (x6 + 1) σ25 else (rdA σ 13 45 (0 + x6)).bind fun v19 => (if x2 = 0 then (wrA σ 13 45 (0 + x6) (v19 + (-1))).bind fun σ23 => pX11_blow_L70 x2 x3 x5 n x4 (x6 + 1) σ23 else (wrA σ 13 45 (0 + x6) (v19 + 1)).bind fun σ21 => pX11_blow_L70 x2 x3 x5 n x4 (x6 + 1) σ21))))
def pX11_blow (σ : Sg) (x1 : Int32) (x2 : Int32) : Option (Int32 × Sg) := (pX11_blow_L8 σ x1 x2 0 2000 0 0).bind fun w13 => (if x2 = 0 then (pX11_blow_L70 x2 w13 0 2000 0 0 σ).bind fun w29 => some (w29.1, w29.2) else (pX11_blow_L70 x2 w13 9 2000 0 0 σ).bind fun w27 => some (w27.1, w27.2))
def pX11_storms (σ : Sg) (x1 : Int32) (x2 : Int32) : Option (Int32 × Sg) := (if (pX11_isStorm x1) = 0 then some ((-1), σ) else (if (pX11_isSide x2) = 0 then some ((-1), σ) else (pX11_know σ).bind fun u1 => (pX11_blow u1 x1 x2).bind fun u3 => some (u3.1, u3.2)))
def pX11_pays (σ : Sg) (x1 : Int32) (x2 : Int32) : Option (Int32 × Sg) := (pX11_isAnchor σ x1).bind fun v1 => (if v1 = 0 then some ((-1), σ) else (if (pX11_in x2 (-9) 9) = 0 then some ((-1), σ) else (if x2 = 0 then some ((-1), σ) else (pX11_isLying σ x1).bind fun v3 => (if v3 = 0 then some ((-2), σ) else (rdA σ 13 45 (8 + x1)).bind fun v5 => (if (pX11_in (v5 + x2) 1 60) = 0 then some ((-2), σ) else (pX11_know σ).bind fun u7 => (rdA u7 13 45 (8 + x1)).bind fun v9 => (wrA u7 13 45 (8 + x1) (v9 + x2)).bind fun σ11 => (rdA σ11 13 45 (8 + x1)).bind fun v13 => some (v13, σ11))))))
def pX11_dies (σ : Sg) (x1 : Int32) : Option (Int32 × Sg) := (pX11_isRaft σ x1).bind fun v1 => (if v1 = 0 then some ((-1), σ) else (rdA σ 13 45 32).bind fun v3 => (if (pX11_has v3 x1) = 0 then (pX11_know σ).bind fun u5 => (rdA u5 13 45 32).bind fun v7 => (wrA u5 13 45 32 (v7 ||| ((1 : Int32) <<< (x1 &&& 31)))).bind fun σ9 => (rdA σ9 13 45 32).bind fun v11 => (pX11_bitsOf v11).bind fun v13 => some (v13, σ9) else some ((-2), σ)))
def pX11_wills (σ : Sg) (x1 : Int32) (x2 : Int32) : Option (Int32 × Sg) := (pX11_isRaft σ x1).bind fun v1 => (if v1 = 0 then some ((-1), σ) else (pX11_isRaft σ x2).bind fun v3 => (if v3 = 0 then some ((-1), σ) else (rdA σ 13 45 (33 + x1)).bind fun v5 => (rdA σ 13 45 32).bind fun v7 => (if (pX11_has v7 x1) = 0 then (if v5 = x2 then some ((-2), σ) else (pX11_know σ).bind fun u9 => (wrA u9 13 45 (33 + x1) x2).bind fun σ11 => some (v5, σ11)) else some ((-2), σ))))
def pX11_year_L8  : Nat → Int32 → Int32 → Sg → Option (Int32 × Sg)
  | 0, _, _, _ => none
  | n + 1, x1, x2, σ => (rdA σ 7 2 0).bind fun v3 => (if v3 ≤ x2 then some (x1, σ) else (rdA σ 13 45 (16 + x2)).bind fun v5 => (pX11_isLying σ x2).bind fun v7 => ((if v7 = 0 then some 0 else (rdA σ 13 45 (16 + x2)).bind fun v10 => (if 99 ≤ v10 then some 0 else some 1)) : Option (Int32)).bind fun j9 => (wrA σ 13 45 (16 + x2) (v5 + j9)).bind fun σ13 => (pX11_isLying σ13 x2).bind fun v15 => (if v15 = 0 then (some (x1 + 0)).bind fun v17 => pX11_year_L8 n v17 (x2 + 1) σ13 else (rdA σ13 13 45 (16 + x2)).bind fun v19 => (some (x1 + v19)).bind fun v21 => pX11_year_L8 n v21 (x2 + 1) σ13))
def pX11_year (σ : Sg) : Option (Int32 × Sg) := (pX11_know σ).bind fun u1 => (pX11_year_L8  2000 0 0 u1).bind fun w23 => some (w23.1, w23.2)
def pX11_hauls_L44 (σ : Sg) (x1 : Int32) (x2 : Int32) : Nat → Int32 → Int32 → Option Int32
  | 0, _, _ => none
  | n + 1, x3, x4 => (rdA σ 7 2 0).bind fun v7 => (if v7 ≤ x4 then some x3 else (pX11_isLying σ x4).bind fun v9 => ((if v9 = 0 then some 0 else (rdA σ 13 45 (0 + x4)).bind fun v12 => (rdA σ 13 45 (0 + x2)).bind fun v14 => (if v12 = v14 then some 1 else some 0)) : Option (Int32)).bind fun j11 => (if x3 = 0 then pX11_hauls_L44 σ x1 x2 n 0 (x4 + 1) else (if j11 = 0 then pX11_hauls_L44 σ x1 x2 n 1 (x4 + 1) else (pX11_whose σ x4).bind fun v17 => (if v17 = x1 then pX11_hauls_L44 σ x1 x2 n 1 (x4 + 1) else (pX11_whose σ x4).bind fun v19 => (if v19 = (-9) then pX11_hauls_L44 σ x1 x2 n 1 (x4 + 1) else pX11_hauls_L44 σ x1 x2 n 0 (x4 + 1))))))
def pX11_hauls (σ : Sg) (x1 : Int32) (x2 : Int32) : Option (Int32 × Sg) := (pX11_isRaft σ x1).bind fun v1 => (if v1 = 0 then some ((-1), σ) else (pX11_isAnchor σ x2).bind fun v3 => (if v3 = 0 then some ((-1), σ) else (pX11_isLying σ x2).bind fun v5 => (if v5 = 0 then (pX11_hauls_L44 σ x1 x2 2000 0 0).bind fun w21 => (if w21 = 0 then some ((-2), σ) else (pX11_know σ).bind fun u23 => (wrA u23 13 45 (24 + x2) 1).bind fun σ25 => (rdA σ25 13 45 (39 + x1)).bind fun v27 => (pX11_leftOf σ25 x2).bind fun v29 => (some (v27 + v29)).bind fun v31 => (if v31 ≤ 9999 then (wrA σ25 13 45 (39 + x1) v31).bind fun σ33 => (rdA σ33 13 45 (39 + x1)).bind fun v35 => some (v35, σ33) else (wrA σ25 13 45 (39 + x1) 9999).bind fun σ37 => (rdA σ37 13 45 (39 + x1)).bind fun v39 => some (v39, σ37))) else (pX11_whose σ x2).bind fun v41 => (if v41 = x1 then (pX11_hauls_L44 σ x1 x2 2000 1 0).bind fun w63 => (if w63 = 0 then some ((-2), σ) else (pX11_know σ).bind fun u65 => (wrA u65 13 45 (24 + x2) 1).bind fun σ67 => (rdA σ67 13 45 (39 + x1)).bind fun v69 => (pX11_leftOf σ67 x2).bind fun v71 => (some (v69 + v71)).bind fun v73 => (if v73 ≤ 9999 then (wrA σ67 13 45 (39 + x1) v73).bind fun σ75 => (rdA σ75 13 45 (39 + x1)).bind fun v77 => some (v77, σ75) else (wrA σ67 13 45 (39 + x1) 9999).bind fun σ79 => (rdA σ79 13 45 (39 + x1)).bind fun v81 => some (v81, σ79))) else (pX11_hauls_L44 σ x1 x2 2000 0 0).bind fun w43 => (if w43 = 0 then some ((-2), σ) else (pX11_know σ).bind fun u45 => (wrA u45 13 45 (24 + x2) 1).bind fun σ47 => (rdA σ47 13 45 (39 + x1)).bind fun v49 => (pX11_leftOf σ47 x2).bind fun v51 => (some (v49 + v51)).bind fun v53 => (if v53 ≤ 9999 then (wrA σ47 13 45 (39 + x1) v53).bind fun σ55 => (rdA σ55 13 45 (39 + x1)).bind fun v57 => some (v57, σ55) else (wrA σ47 13 45 (39 + x1) 9999).bind fun σ59 => (rdA σ59 13 45 (39 + x1)).bind fun v61 => some (v61, σ59)))))))
def pX11_undo_L24  : Nat → Int32 → Sg → Option Sg
  | 0, _, _ => none
  | n + 1, x1, σ => (if 45 ≤ x1 then some σ else (rdA σ 14 3 0).bind fun v7 => (rdA σ 15 1350 ((45 * v7) + x1)).bind fun v9 => (wrA σ 13 45 x1 v9).bind fun σ11 => pX11_undo_L24 n (x1 + 1) σ11)
def pX11_undo (σ : Sg) : Option (Int32 × Sg) := (rdA σ 14 3 0).bind fun v1 => (if v1 = 0 then some ((-2), σ) else (rdA σ 14 3 0).bind fun v3 => (wrA σ 14 3 0 (v3 - 1)).bind fun σ5 => (pX11_undo_L24  2000 0 σ5).bind fun w13 => (rdA w13 14 3 0).bind fun v15 => some (v15, w13))
def pX11_now_L52 (σ : Sg) : Nat → Int32 → Int32 → Option Int32
  | 0, _, _ => none
  | n + 1, x2, x3 => (rdA σ 4 2 0).bind fun v9 => (if v9 ≤ x3 then some x2 else (rdA σ 13 45 (39 + x3)).bind fun v11 => (some (x2 + v11)).bind fun v13 => pX11_now_L52 σ n v13 (x3 + 1))
def pX11_now (σ : Sg) (x1 : Int32) : Option Int32 := (if x1 = 0 then (pX11_those σ x1).bind fun v1 => some v1 else (if x1 = 1 then (pX11_those σ x1).bind fun v3 => some v3 else (if x1 = 2 then (pX11_those σ x1).bind fun v5 => some v5 else (if x1 = 3 then (rdA σ 13 45 32).bind fun v7 => some v7 else (if x1 = 4 then (pX11_now_L52 σ 2000 0 0).bind fun w15 => some w15 else some (-1))))))
def pX11_needs_L40 (σ : Sg) (x1 : Int32) (x2 : Int32) (x3 : Int32) : Nat → Int32 → Option Int32
  | 0, _ => none
  | n + 1, x4 => (if 60 < x4 then some (-9) else (rdA σ 10 16 x1).bind fun v7 => (rdA σ 3 20 x3).bind fun v9 => (rdA σ 2 20 x3).bind fun v11 => (dvI x4 v11).bind fun v13 => (if ((v7 * (v9 + 1)) + v13) < x2 then pX11_needs_L40 σ x1 x2 x3 n (x4 + 1) else some x4))
def pX11_needs (σ : Sg) (x1 : Int32) (x2 : Int32) : Option Int32 := (pX11_isAnchor σ x1).bind fun v1 => (if v1 = 0 then some (-1) else (if (pX11_isStorm x2) = 0 then some (-1) else (pX11_isLying σ x1).bind fun v3 => (if v3 = 0 then some (-2) else (rdA σ 13 45 (0 + x1)).bind fun v5 => pX11_needs_L40 σ x1 x2 v5 2000 1)))
def pX11_after (σ : Sg) (x1 : Int32) (x2 : Int32) (x3 : Int32) : Option Int32 := (pX11_isAnchor σ x1).bind fun v1 => (if v1 = 0 then some (-1) else (if (pX11_isStorm x2) = 0 then some (-1) else (if (pX11_isSide x3) = 0 then some (-1) else (pX11_isLying σ x1).bind fun v3 => (if v3 = 0 then some (-9) else (rdA σ 13 45 (0 + x1)).bind fun v5 => (pX11_hold σ x1).bind fun v7 => (if v7 < x2 then ((if x3 = 0 then some 0 else some 9) : Option (Int32)).bind fun j9 => (if v5 = j9 then some (-9) else (if x3 = 0 then some (v5 + (-1)) else some (v5 + 1))) else some v5)))))
def pX11_wreck_L30 (x1 : Int32) (x2 : Int32) (x3 : Int32) : Nat → Int32 → Sg → Option Sg
  | 0, _, _ => none
  | n + 1, x4, σ => (if 45 ≤ x4 then some σ else (rdA σ 13 45 x4).bind fun v1 => (wrA σ 18 45 x4 v1).bind fun σ3 => pX11_wreck_L30 x1 x2 x3 n (x4 + 1) σ3)
def pX11_wreck_L83 (x1 : Int32) (x2 : Int32) (x3 : Int32) (x4 : Int32) (x5 : Int32) (x6 : Int32) : Nat → Int32 → Int32 → Int32 → Sg → Option (Int32 × Int32 × Sg)
  | 0, _, _, _, _ => none
  | n + 1, x7, x8, x9, σ => (if x2 ≤ x9 then some (x7, x8, σ) else (some ((x6 >>> (((x2 - 1) - x9) &&& 31)) &&& 1)).bind fun v7 => (some (x8 ||| (v7 <<< (x9 &&& 31)))).bind fun v9 => (pX11_blow σ x1 v7).bind fun u11 => (some (x7 + u11.1)).bind fun v13 => pX11_wreck_L83 x1 x2 x3 x4 x5 x6 n v13 v9 (x9 + 1) u11.2)
def pX11_wreck_L133 (x1 : Int32) (x2 : Int32) (x3 : Int32) (x4 : Int32) (x5 : Int32) (x6 : Int32) (x7 : Int32) (x8 : Int32) : Nat → Int32 → Sg → Option Sg
  | 0, _, _ => none
  | n + 1, x9, σ => (if 45 ≤ x9 then some σ else (rdA σ 18 45 x9).bind fun v17 => (wrA σ 13 45 x9 v17).bind fun σ19 => pX11_wreck_L133 x1 x2 x3 x4 x5 x6 x7 x8 n (x9 + 1) σ19)
def pX11_wreck_L66 (x1 : Int32) (x2 : Int32) (x3 : Int32) : Nat → Int32 → Int32 → Int32 → Sg → Option (Int32 × Int32 × Sg)
  | 0, _, _, _, _ => none
  | n + 1, x4, x5, x6, σ => (if ((1 : Int32) <<< (x2 &&& 31)) ≤ x6 then some (x4, x5, σ) else (pX11_wreck_L83 x1 x2 x3 x4 x5 x6 2000 0 0 0 σ).bind fun w15 => (pX11_wreck_L133 x1 x2 x3 x4 x5 x6 w15.1 w15.2.1 2000 0 w15.2.2).bind fun w21 => (if w15.1 ≤ x4 then pX11_wreck_L66 x1 x2 x3 n x4 x5 (x6 + 1) w21 else pX11_wreck_L66 x1 x2 x3 n w15.1 w15.2.1 (x6 + 1) w21))
def pX11_wreck (σ : Sg) (x1 : Int32) (x2 : Int32) (x3 : Int32) : Option (Int32 × Sg) := (if (pX11_isStorm x1) = 0 then some ((-1), σ) else (if (pX11_in x2 0 4) = 0 then some ((-1), σ) else (if (pX11_in x3 0 1) = 0 then some ((-1), σ) else (pX11_wreck_L30 x1 x2 x3 2000 0 σ).bind fun w5 => (pX11_wreck_L66 x1 x2 x3 2000 (-1) 0 0 w5).bind fun w23 => (if x3 = 0 then some (w23.1, w23.2.2) else some (w23.2.1, w23.2.2)))))
def pX11_canLie (σ : Sg) (x1 : Int32) (x2 : Int32) (x3 : Int32) (x4 : Int32) : Option Int32 := (if (pX11_has x3 x2) = 0 then (pX11_strengthAt σ x1 x2).bind fun v1 => (if v1 < x4 then some 0 else (rdA σ 19 9216 ((1024 * (x1 + 1)) + (x3 ||| ((1 : Int32) <<< (x2 &&& 31))))).bind fun v3 => (if v3 = 0 then some 0 else some 1)) else some 0)
def pX11_place_L64 (σ : Sg) (x1 : Int32) (x2 : Int32) (x3 : Int32) : Nat → Int32 → Int32 → Option Int32
  | 0, _, _ => none
  | n + 1, x4, x5 => (rdA σ 7 2 0).bind fun v7 => (if v7 ≤ x5 then some x4 else (pX11_isLying σ x5).bind fun v9 => (if v9 = 0 then (some (x4 ||| 0)).bind fun v11 => pX11_place_L64 σ x1 x2 x3 n v11 (x5 + 1) else (if (pX11_has x1 x5) = 0 then (rdA σ 13 45 (0 + x5)).bind fun v15 => (some (x4 ||| ((1 : Int32) <<< (v15 &&& 31)))).bind fun v17 => pX11_place_L64 σ x1 x2 x3 n v17 (x5 + 1) else (some (x4 ||| 0)).bind fun v13 => pX11_place_L64 σ x1 x2 x3 n v13 (x5 + 1))))
def pX11_place_L122 (x1 : Int32) (x2 : Int32) (x3 : Int32) (x4 : Int32) : Nat → Int32 → Sg → Option Sg
  | 0, _, _ => none
  | n + 1, x5, σ => (if 1024 ≤ x5 then some σ else (rdA σ 7 2 0).bind fun v21 => (wrA σ 19 9216 ((1024 * v21) + x5) (vp_nar .boolean 1)).bind fun σ23 => pX11_place_L122 x1 x2 x3 x4 n (x5 + 1) σ23)
def pX11_place_L219 (σ : Sg) (x1 : Int32) (x2 : Int32) (x3 : Int32) (x4 : Int32) (x5 : Int32) (x6 : Int32) : Nat → Int32 → Int32 → Option Int32
  | 0, _, _ => none
  | n + 1, x7, x8 => (if 10 ≤ x8 then some x7 else (if (pX11_has x1 x5) = 0 then some x7 else (if x7 = 0 then (pX11_canLie σ x5 x8 x6 x2).bind fun v31 => (if v31 = 0 then pX11_place_L219 σ x1 x2 x3 x4 x5 x6 n 0 (x8 + 1) else pX11_place_L219 σ x1 x2 x3 x4 x5 x6 n 1 (x8 + 1)) else pX11_place_L219 σ x1 x2 x3 x4 x5 x6 n 1 (x8 + 1))))
def pX11_place_L173 (x1 : Int32) (x2 : Int32) (x3 : Int32) (x4 : Int32) (x5 : Int32) : Nat → Int32 → Sg → Option Sg
  | 0, _, _ => none
  | n + 1, x6, σ => (if 1024 ≤ x6 then some σ else (if (pX11_has x1 x5) = 0 then (rdA σ 19 9216 ((1024 * (x5 + 1)) + x6)).bind fun v37 => (if v37 = 0 then (pX11_place_L219 σ x1 x2 x3 x4 x5 x6 2000 0 0).bind fun w39 => (wrA σ 19 9216 ((1024 * x5) + x6) (vp_nar .boolean w39)).bind fun σ41 => pX11_place_L173 x1 x2 x3 x4 x5 n (x6 + 1) σ41 else (pX11_place_L219 σ x1 x2 x3 x4 x5 x6 2000 1 0).bind fun w43 => (wrA σ 19 9216 ((1024 * x5) + x6) (vp_nar .boolean w43)).bind fun σ45 => pX11_place_L173 x1 x2 x3 x4 x5 n (x6 + 1) σ45) else (pX11_place_L219 σ x1 x2 x3 x4 x5 x6 2000 0 0).bind fun w33 => (wrA σ 19 9216 ((1024 * x5) + x6) (vp_nar .boolean w33)).bind fun σ35 => pX11_place_L173 x1 x2 x3 x4 x5 n (x6 + 1) σ35))
def pX11_place_L165 (x1 : Int32) (x2 : Int32) (x3 : Int32) (x4 : Int32) : Nat → Int32 → Sg → Option Sg
  | 0, _, _ => none
  | n + 1, x5, σ => (if x5 < 0 then some σ else (pX11_place_L173 x1 x2 x3 x4 x5 2000 0 σ).bind fun w47 => pX11_place_L165 x1 x2 x3 x4 n (x5 + (-1)) w47)
def pX11_place_L337 (σ : Sg) (x1 : Int32) (x2 : Int32) (x3 : Int32) (x5 : Int32) (x7 : Int32) : Nat → Int32 → Option Int32
  | 0, _ => none
  | n + 1, x6 => (pX11_canLie σ x7 x6 x5 x2).bind fun v53 => (if v53 = 0 then pX11_place_L337 σ x1 x2 x3 x5 x7 n (x6 + 1) else some x6)
def pX11_place_L319 (σ : Sg) (x1 : Int32) (x2 : Int32) (x3 : Int32) : Nat → Int32 → Int32 → Int32 → Option Int32
  | 0, _, _, _ => none
  | n + 1, x5, x6, x7 => (if x3 < x7 then some x6 else (if (pX11_has x1 x7) = 0 then pX11_place_L319 σ x1 x2 x3 n x5 x6 (x7 + 1) else (pX11_place_L337 σ x1 x2 x3 x5 x7 2000 0).bind fun w55 => (some (x5 ||| ((1 : Int32) <<< (w55 &&& 31)))).bind fun v57 => pX11_place_L319 σ x1 x2 x3 n v57 w55 (x7 + 1)))
def pX11_place (σ : Sg) (x1 : Int32) (x2 : Int32) (x3 : Int32) : Option (Int32 × Sg) := (rdA σ 7 2 0).bind fun v1 => (if (pX11_in x1 0 (((1 : Int32) <<< (v1 &&& 31)) - 1)) = 0 then some ((-1), σ) else (if (pX11_isStorm x2) = 0 then some ((-1), σ) else (pX11_isAnchor σ x3).bind fun v3 => (if v3 = 0 then some ((-1), σ) else (if (pX11_has x1 x3) = 0 then some ((-1), σ) else (pX11_those σ 0).bind fun v5 => (if (x1 &&& (v5 ^^^ (-1))) = 0 then (pX11_place_L64 σ x1 x2 x3 2000 0 0).bind fun w19 => (pX11_place_L122 x1 x2 x3 w19 2000 0 σ).bind fun w25 => (rdA w25 7 2 0).bind fun v27 => (some (v27 - 1)).bind fun v29 => (pX11_place_L165 x1 x2 x3 w19 2000 v29 w25).bind fun w49 => (rdA w49 19 9216 w19).bind fun v51 => (if v51 = 0 then some ((-9), w49) else (pX11_place_L319 w49 x1 x2 x3 2000 w19 (-9) 0).bind fun w59 => some (w59, w49)) else some ((-2), σ))))))
def pX11_vital_L36 (σ : Sg) (x2 : Int32) (x3 : Int32) (x4 : Int32) : Nat → Int32 → Int32 → Option Int32
  | 0, _, _ => none
  | n + 1, x5, x6 => (rdA σ 7 2 0).bind fun v7 => (if v7 ≤ x6 then some x5 else (pX11_isLying σ x6).bind fun v9 => ((if v9 = 0 then some 0 else (rdA σ 8 16 x6).bind fun v12 => (if (pX11_has x3 v12) = 0 then some 0 else (if x4 < x2 then some 0 else (pX11_strength σ x6).bind fun v14 => (if x2 ≤ (x4 - v14) then some 0 else some 1)))) : Option (Int32)).bind fun j11 => (if j11 = 0 then (some (x5 ||| 0)).bind fun v17 => pX11_vital_L36 σ x2 x3 x4 n v17 (x6 + 1) else (some (x5 ||| ((1 : Int32) <<< (x6 &&& 31)))).bind fun v19 => pX11_vital_L36 σ x2 x3 x4 n v19 (x6 + 1)))
def pX11_vital (σ : Sg) (x1 : Int32) (x2 : Int32) : Option Int32 := (pX11_isRaft σ x1).bind fun v1 => (if v1 = 0 then some (-1) else (if (pX11_isStorm x2) = 0 then some (-1) else (pX11_townOf σ x1).bind fun v3 => (pX11_might σ x1).bind fun v5 => (pX11_vital_L36 σ x2 v3 v5 2000 0 0).bind fun w21 => some w21))
def pX11_odds_L76 (σ : Sg) (x2 : Int32) (x3 : Int32) (x4 : Int32) (x5 : Int32) : Nat → Int32 → Int32 → Int32 → Option (Int32 × Int32)
  | 0, _, _, _ => none
  | n + 1, x6, x7, x8 => (if x3 ≤ x8 then some (x6, x7) else (some (x6 * x5)).bind fun v7 => (some (x7 * x2)).bind fun v9 => pX11_odds_L76 σ x2 x3 x4 x5 n v7 v9 (x8 + 1))
def pX11_odds_L109 (σ : Sg) (x4 : Int32) (x6 : Int32) (x7 : Int32) : Nat → Int32 → Int32 → Option Int32
  | 0, _, _ => none
  | n + 1, x8, x9 => (if x9 = 0 then some x8 else (rmI x8 x9).bind fun v13 => pX11_odds_L109 σ x4 x6 x7 n x9 v13)
def pX11_odds (σ : Sg) (x1 : Int32) (x2 : Int32) (x3 : Int32) (x4 : Int32) : Option Int32 := (pX11_isAnchor σ x1).bind fun v1 => (if v1 = 0 then some (-1) else (if (pX11_isStorm x2) = 0 then some (-1) else (if (pX11_in x3 0 4) = 0 then some (-1) else (if (pX11_in x4 0 1) = 0 then some (-1) else (pX11_isLying σ x1).bind fun v3 => (if v3 = 0 then some (-2) else (pX11_hold σ x1).bind fun v5 => (if x2 ≤ v5 then (pX11_odds_L76 σ x2 x3 x4 x2 2000 1 1 0).bind fun w11 => (pX11_odds_L109 σ x4 w11.1 w11.2 2000 w11.1 w11.2).bind fun w15 => (if x4 = 0 then (dvI w11.1 w15).bind fun v19 => some v19 else (dvI w11.2 w15).bind fun v17 => some v17) else (pX11_hold σ x1).bind fun v21 => (pX11_odds_L76 σ x2 x3 x4 v21 2000 1 1 0).bind fun w23 => (pX11_odds_L109 σ x4 w23.1 w23.2 2000 w23.1 w23.2).bind fun w25 => (if x4 = 0 then (dvI w23.1 w25).bind fun v29 => some v29 else (dvI w23.2 w25).bind fun v27 => some v27)))))))
def pX11_hears (σ : Sg) (x1 : Int32) (x2 : Int32) : Option (Int32 × Sg) := (if (pX11_isStorm x1) = 0 then some ((-1), σ) else (if (pX11_in x2 0 1) = 0 then some ((-1), σ) else (if (σ 0 28) = 6 then some ((-3), σ) else (wrA σ 20 6 (σ 0 28) x1).bind fun σ1 => (wrA σ1 21 6 (σ1 0 28) x2).bind fun σ3 => (some (s1 σ3 0 28 ((σ3 0 28) + 1))).bind fun σ5 => some (σ5 0 28, σ5))))
def pX11_forget (σ : Sg) : Option (Int32 × Sg) := (some (σ 0 28)).bind fun v1 => (some (s1 σ 0 28 0)).bind fun σ3 => some (v1, σ3)
def pX11_fits_L23 (σ : Sg) (x1 : Int32) (x2 : Int32) : Nat → Int32 → Int32 → Option Int32
  | 0, _, _ => none
  | n + 1, x3, x4 => (if (σ 0 28) ≤ x4 then some x3 else (if x3 = 0 then pX11_fits_L23 σ x1 x2 n 0 (x4 + 1) else (pX11_strength σ x2).bind fun v5 => (rdA σ 20 6 x4).bind fun v7 => ((if v5 < v7 then some 0 else some 1) : Option (Int32)).bind fun j9 => (rdA σ 21 6 x4).bind fun v11 => ((if v11 = 1 then some 1 else some 0) : Option (Int32)).bind fun j13 => (if j9 = j13 then pX11_fits_L23 σ x1 x2 n 1 (x4 + 1) else pX11_fits_L23 σ x1 x2 n 0 (x4 + 1))))
def pX11_fits_L4 (σ : Sg) : Nat → Int32 → Int32 → Option Int32
  | 0, _, _ => none
  | n + 1, x1, x2 => (rdA σ 7 2 0).bind fun v1 => (if v1 ≤ x2 then some x1 else (pX11_isLying σ x2).bind fun v3 => (pX11_fits_L23 σ x1 x2 2000 v3 0).bind fun w15 => (if w15 = 0 then (some (x1 ||| 0)).bind fun v17 => pX11_fits_L4 σ n v17 (x2 + 1) else (some (x1 ||| ((1 : Int32) <<< (x2 &&& 31)))).bind fun v19 => pX11_fits_L4 σ n v19 (x2 + 1)))
def pX11_fits (σ : Sg) : Option Int32 := (pX11_fits_L4 σ 2000 0 0).bind fun w21 => some w21
def pX11_ask_L29 (σ : Sg) (x1 : Int32) (x2 : Int32) (x3 : Int32) (x4 : Int32) : Nat → Int32 → Int32 → Option Int32
  | 0, _, _ => none
  | n + 1, x5, x6 => (rdA σ 7 2 0).bind fun v5 => (if v5 ≤ x6 then some x5 else (if (pX11_has x1 x6) = 0 then (some (x5 + 0)).bind fun v7 => pX11_ask_L29 σ x1 x2 x3 x4 n v7 (x6 + 1) else (pX11_strength σ x6).bind fun v9 => (if v9 < x4 then (some (x5 + 0)).bind fun v11 => pX11_ask_L29 σ x1 x2 x3 x4 n v11 (x6 + 1) else (some (x5 + 1)).bind fun v13 => pX11_ask_L29 σ x1 x2 x3 x4 n v13 (x6 + 1))))
def pX11_ask_L16 (σ : Sg) (x1 : Int32) : Nat → Int32 → Int32 → Int32 → Option Int32
  | 0, _, _, _ => none
  | n + 1, x2, x3, x4 => (if 99 < x4 then some x2 else (pX11_ask_L29 σ x1 x2 x3 x4 2000 0 0).bind fun w15 => (pX11_bitsOf x1).bind fun v17 => ((if (v17 - w15) ≤ w15 then some w15 else (pX11_bitsOf x1).bind fun v20 => some (v20 - w15)) : Option (Int32)).bind fun j19 => (if x3 ≤ j19 then pX11_ask_L16 σ x1 n x2 x3 (x4 + 1) else pX11_ask_L16 σ x1 n x4 j19 (x4 + 1)))
def pX11_ask (σ : Sg) : Option Int32 := (pX11_fits σ).bind fun v1 => (pX11_bitsOf v1).bind fun v3 => (pX11_ask_L16 σ v1 2000 (-9) v3 1).bind fun w23 => some w23
def pX11_bodiesOf (x0 : Int32) : Int32 := (if x0 = 0 then 1 else (if x0 = 1 then 3 else (if x0 = 2 then 5 else (if x0 = 3 then 11 else (if x0 = 4 then 21 else 33)))))
def pX11_mark_L31 (σ : Sg) (x2 : Int32) (x3 : Int32) : Nat → Int64 → Int32 → Int64 → Option Int64
  | 0, _, _, _ => none
  | n + 1, x4, x6, τ => (if 6 ≤ x6 then some τ else (if (pX11_has x3 x6) = 0 then (some (τ + 0)).bind fun t5 => pX11_mark_L31 σ x2 x3 n (x4 * 10) (x6 + 1) t5 else (some (τ + x4)).bind fun t7 => pX11_mark_L31 σ x2 x3 n (x4 * 10) (x6 + 1) t7))
def pX11_mark (σ : Sg) (τ : Int64) (x1 : Int32) (x2 : Int32) : Option (Int32 × Int64) := (if (pX11_in x1 0 5) = 0 then some ((-1000000), τ) else (pX11_isAnchor σ x2).bind fun v1 => (if v1 = 0 then some ((-1000000), τ) else (some (pX11_bodiesOf x1)).bind fun v3 => (pX11_mark_L31 σ x2 v3 2000 1 0 τ).bind fun w9 => (pX11_strength σ x2).bind fun v11 => ((if (pX11_has v3 1) = 0 then some 0 else (rdA σ 12 16 x2).bind fun v14 => some v14) : Option (Int32)).bind fun j13 => (some (v11 + j13)).bind fun v17 => ((if (pX11_has v3 2) = 0 then some 0 else (rdA σ 13 45 (16 + x2)).bind fun v20 => some v20) : Option (Int32)).bind fun j19 => (some (v17 - j19)).bind fun v23 => ((if (pX11_has v3 3) = 0 then some v23 else some (2 * v23)) : Option (Int32)).bind fun j25 => ((if (pX11_has v3 4) = 0 then some 0 else some x2) : Option (Int32)).bind fun j27 => (some (j25 + j27)).bind fun v29 => (if (pX11_has v3 5) = 0 then (some (v29 + 0)).bind fun v31 => some (v31, w9) else (rdA σ 8 16 x2).bind fun v33 => (rdA σ 13 45 (39 + v33)).bind fun v35 => (some (v29 + v35)).bind fun v37 => some (v37, w9))))
def pX11_trace (σ : Sg) (τ : Int64) : Int64 := τ
def pX11_keep_L13 (x1 : Int32) : Nat → Int32 → Sg → Option Sg
  | 0, _, _ => none
  | n + 1, x2, σ => (if 45 ≤ x2 then some σ else (rdA σ 13 45 x2).bind fun v1 => (wrA σ 16 90 ((45 * x1) + x2) v1).bind fun σ3 => pX11_keep_L13 x1 n (x2 + 1) σ3)
def pX11_keep_L44 (x1 : Int32) : Nat → Int32 → Sg → Option Sg
  | 0, _, _ => none
  | n + 1, x2, σ => (if 450 ≤ x2 then some σ else (rdA σ 15 1350 x2).bind fun v7 => (wrA σ 15 1350 ((450 * (1 + x1)) + x2) v7).bind fun σ9 => pX11_keep_L44 x1 n (x2 + 1) σ9)
def pX11_keep (σ : Sg) (x1 : Int32) : Option (Int32 × Sg) := (if (pX11_in x1 0 1) = 0 then some ((-1), σ) else (pX11_keep_L13 x1 2000 0 σ).bind fun w5 => (pX11_keep_L44 x1 2000 0 w5).bind fun w11 => (rdA w11 14 3 0).bind fun v13 => (wrA w11 14 3 (1 + x1) v13).bind fun σ15 => (wrA σ15 17 2 x1 (vp_nar .boolean 1)).bind fun σ17 => (pX11_those σ17 0).bind fun v19 => some (v19, σ17))
def pX11_back_L25 (x1 : Int32) : Nat → Int32 → Sg → Option Sg
  | 0, _, _ => none
  | n + 1, x2, σ => (if 45 ≤ x2 then some σ else (rdA σ 16 90 ((45 * x1) + x2)).bind fun v3 => (wrA σ 13 45 x2 v3).bind fun σ5 => pX11_back_L25 x1 n (x2 + 1) σ5)
def pX11_back_L56 (x1 : Int32) : Nat → Int32 → Sg → Option Sg
  | 0, _, _ => none
  | n + 1, x2, σ => (if 450 ≤ x2 then some σ else (rdA σ 15 1350 ((450 * (1 + x1)) + x2)).bind fun v9 => (wrA σ 15 1350 x2 v9).bind fun σ11 => pX11_back_L56 x1 n (x2 + 1) σ11)
def pX11_back (σ : Sg) (x1 : Int32) : Option (Int32 × Sg) := (if (pX11_in x1 0 1) = 0 then some ((-1), σ) else (rdA σ 17 2 x1).bind fun v1 => (if v1 = 0 then some ((-2), σ) else (pX11_back_L25 x1 2000 0 σ).bind fun w7 => (pX11_back_L56 x1 2000 0 w7).bind fun w13 => (rdA w13 14 3 (1 + x1)).bind fun v15 => (wrA w13 14 3 0 v15).bind fun σ17 => (pX11_those σ17 0).bind fun v19 => some (v19, σ17)))
def pX11_count_L56 (σ : Sg) : Nat → Int32 → Int32 → Option Int32
  | 0, _, _ => none
  | n + 1, x2, x3 => (rdA σ 4 2 0).bind fun v5 => (if v5 ≤ x3 then some x2 else (rdA σ 6 12 x3).bind fun v7 => (pX11_bitsOf v7).bind fun v9 => (some (x2 + v9)).bind fun v11 => pX11_count_L56 σ n v11 (x3 + 1))
def pX11_count (σ : Sg) (x1 : Int32) : Option Int32 := (if x1 = 0 then (rdA σ 4 2 0).bind fun v1 => some v1 else (if x1 = 1 then (rdA σ 7 2 0).bind fun v3 => some v3 else (if x1 = 2 then (pX11_count_L56 σ 2000 0 0).bind fun w13 => (dvI w13 2).bind fun v15 => some v15 else (if x1 = 3 then some (σ 0 28) else (if x1 = 4 then (rdA σ 14 3 0).bind fun v17 => some v17 else (if x1 = 5 then some (σ 0 1) else some (-1)))))))
