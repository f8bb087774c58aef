def F_M_min  (a0 : Int32) (a1 : Int32) (σ : Hp) : Option (Int32 × Hp) :=
  if a1 ≤ a0 then (some (a1, σ)) else (some (a0, σ))
def B_M_answered_18  (k49 : Int32 → Hp → Option (Int32 × Hp)) (k18 : Int32 → Int32 → Hp → Option (Int32 × Hp)) (x1 : Int32) (x2 : Int32) (σ : Hp) : Option (Int32 × Hp) :=
  if x1 ≤ x2 then (k49 x1 σ) else (gd (inb x2 120) (gd (inb ((60 : Int32) + x2) 120) (if (σ 20 (Int32.toNatClampNeg x2)) = (σ 20 (Int32.toNatClampNeg ((60 : Int32) + x2))) then (k18 x1 (x2 + (1 : Int32)) σ) else (some (x2, σ)))))
def L_M_answered_18  (k49 : Int32 → Hp → Option (Int32 × Hp)) : Nat → Int32 → Int32 → Hp → Option (Int32 × Hp)
  | 0, _, _, _ => none
  | n + 1, x1, x2, σ => B_M_answered_18  k49 (fun x1 x2 σ => L_M_answered_18  k49 n x1 x2 σ) x1 x2 σ
def J_M_answered_49   (x1 : Int32) (σ : Hp) : Option (Int32 × Hp) :=
  gd (inb (0 : Int32) 2) (gd (inb (1 : Int32) 2) (if (σ 21 (Int32.toNatClampNeg (0 : Int32))) = (σ 21 (Int32.toNatClampNeg (1 : Int32))) then (some ((-2 : Int32), σ)) else (some (x1, σ))))
def F_M_answered   (σ : Hp) : Option (Int32 × Hp) :=
  gd (inb (0 : Int32) 2) (gd (inb (1 : Int32) 2) ((F_M_min (σ 21 (Int32.toNatClampNeg (0 : Int32))) (σ 21 (Int32.toNatClampNeg (1 : Int32))) σ).bind fun q12 => L_M_answered_18  (J_M_answered_49) FU q12.1 (0 : Int32) q12.2))
def F_M_in  (a0 : Int32) (a1 : Int32) (a2 : Int32) (σ : Hp) : Option (Int32 × Hp) :=
  if a0 < a1 then (some ((0 : Int32), σ)) else (if a2 < a0 then (some ((0 : Int32), σ)) else (some ((1 : Int32), σ)))
def F_M_octet  (a1 : Int32) (σ : Hp) : Option (Int32 × Hp) :=
  gd (inb a1 260) (some (((σ 6 (Int32.toNatClampNeg a1)) &&& (255 : Int32)), σ))
def B_M_ants_38  (k67 : Int32 → Int32 → Hp → Option (Int32 × Hp)) (k38 : Int32 → Int32 → Int32 → Hp → Option (Int32 × Hp)) (x1 : Int32) (x2 : Int32) (x3 : Int32) (σ : Hp) : Option (Int32 × Hp) :=
  if (8 : Int32) ≤ x3 then (k67 x1 x2 σ) else ((F_M_octet x3 σ).bind fun q46 => (F_M_in q46.1 (1 : Int32) (99 : Int32) q46.2).bind fun q52 => if q52.1 = 0 then (some ((-2 : Int32), q52.2)) else (k38 x1 x2 (x3 + (1 : Int32)) q52.2))
def L_M_ants_38  (k67 : Int32 → Int32 → Hp → Option (Int32 × Hp)) : Nat → Int32 → Int32 → Int32 → Hp → Option (Int32 × Hp)
  | 0, _, _, _, _ => none
  | n + 1, x1, x2, x3, σ => B_M_ants_38  k67 (fun x1 x2 x3 σ => L_M_ants_38  k67 n x1 x2 x3 σ) x1 x2 x3 σ
def B_M_ants_82  (k114 : Int32 → Int32 → Hp → Option (Int32 × Hp)) (k82 : Int32 → Int32 → Int32 → Hp → Option (Int32 × Hp)) (x1 : Int32) (x2 : Int32) (x3 : Int32) (σ : Hp) : Option (Int32 × Hp) :=
  if (8 : Int32) ≤ x3 then (k114 x1 x2 σ) else (gd (inb (x3 - (1 : Int32)) 8) ((F_M_octet x3 σ).bind fun q103 => gd (inb x3 8) (k82 x1 x2 (x3 + (1 : Int32)) (zu q103.2 37 (Int32.toNatClampNeg x3) ((σ 37 (Int32.toNatClampNeg (x3 - (1 : Int32)))) + q103.1)))))
def L_M_ants_82  (k114 : Int32 → Int32 → Hp → Option (Int32 × Hp)) : Nat → Int32 → Int32 → Int32 → Hp → Option (Int32 × Hp)
  | 0, _, _, _, _ => none
  | n + 1, x1, x2, x3, σ => B_M_ants_82  k114 (fun x1 x2 x3 σ => L_M_ants_82  k114 n x1 x2 x3 σ) x1 x2 x3 σ
def B_M_ants_118  (k148 : Int32 → Hp → Option (Int32 × Hp)) (k118 : Int32 → Int32 → Hp → Option (Int32 × Hp)) (x2 : Int32) (x3 : Int32) (σ : Hp) : Option (Int32 × Hp) :=
  if x3 < 0 then (k148 x2 σ) else (gd (inb (x3 + (1 : Int32)) 8) ((F_M_octet x3 σ).bind fun q137 => gd (inb x3 8) (k118 x2 (x3 + (-1 : Int32)) (zu q137.2 37 (Int32.toNatClampNeg x3) ((σ 37 (Int32.toNatClampNeg (x3 + (1 : Int32)))) + q137.1)))))
def L_M_ants_118  (k148 : Int32 → Hp → Option (Int32 × Hp)) : Nat → Int32 → Int32 → Hp → Option (Int32 × Hp)
  | 0, _, _, _ => none
  | n + 1, x2, x3, σ => B_M_ants_118  k148 (fun x2 x3 σ => L_M_ants_118  k148 n x2 x3 σ) x2 x3 σ
def J_M_ants_148   (x2 : Int32) (σ : Hp) : Option (Int32 × Hp) :=
  if (8 : Int32) ≤ x2 then (gd (inb (7 : Int32) 8) (gd (inb (0 : Int32) 8) (if (σ 37 (Int32.toNatClampNeg (7 : Int32))) ≤ (σ 37 (Int32.toNatClampNeg (0 : Int32))) then (some ((0 : Int32), σ)) else (some ((7 : Int32), σ))))) else (gd (inb x2 8) (some ((σ 37 (Int32.toNatClampNeg x2)), σ)))
def J_M_ants_114   (x1 : Int32) (x2 : Int32) (σ : Hp) : Option (Int32 × Hp) :=
  L_M_ants_118  (J_M_ants_148) FU x2 (x1 - (1 : Int32)) σ
def J_M_ants_67   (x1 : Int32) (x2 : Int32) (σ : Hp) : Option (Int32 × Hp) :=
  (F_M_octet x1 σ).bind fun q74 => gd (inb x1 8) (L_M_ants_82  (J_M_ants_114) FU x1 x2 (x1 + (1 : Int32)) (zu q74.2 37 (Int32.toNatClampNeg x1) q74.1))
def F_M_ants  (a1 : Int32) (a2 : Int32) (σ : Hp) : Option (Int32 × Hp) :=
  (F_M_in a1 (0 : Int32) (7 : Int32) σ).bind fun q4 => if q4.1 = 0 then (some ((-1 : Int32), q4.2)) else ((F_M_in a2 (0 : Int32) (8 : Int32) q4.2).bind fun q14 => if q14.1 = 0 then (some ((-1 : Int32), q14.2)) else (if (8 : Int32) ≤ (q14.2 0 6) then (L_M_ants_38  (J_M_ants_67) FU a1 a2 (0 : Int32) (zu q14.2 0 6 (0 : Int32))) else (some ((-1 : Int32), q14.2))))
def B_M_isBeat_2  (k2 : Int32 → Int32 → Int32 → Hp → Option (Int32 × Hp)) (x1 : Int32) (x2 : Int32) (x3 : Int32) (σ : Hp) : Option (Int32 × Hp) :=
  gd (inb x1 2) (if (σ 21 (Int32.toNatClampNeg x1)) ≤ x3 then (some ((1 : Int32), σ)) else (gd (inb (((60 : Int32) * x1) + x3) 120) (gd (inb ((((60 : Int32) * x1) + x3) - x2) 120) (if (σ 20 (Int32.toNatClampNeg (((60 : Int32) * x1) + x3))) = (σ 20 (Int32.toNatClampNeg ((((60 : Int32) * x1) + x3) - x2))) then (k2 x1 x2 (x3 + (1 : Int32)) σ) else (some ((0 : Int32), σ))))))
def L_M_isBeat_2   : Nat → Int32 → Int32 → Int32 → Hp → Option (Int32 × Hp)
  | 0, _, _, _, _ => none
  | n + 1, x1, x2, x3, σ => B_M_isBeat_2  (fun x1 x2 x3 σ => L_M_isBeat_2   n x1 x2 x3 σ) x1 x2 x3 σ
def F_M_isBeat  (a1 : Int32) (a2 : Int32) (σ : Hp) : Option (Int32 × Hp) :=
  L_M_isBeat_2   FU a1 a2 a2 σ
def B_M_beat_13  (k13 : Int32 → Int32 → Hp → Option (Int32 × Hp)) (x1 : Int32) (x2 : Int32) (σ : Hp) : Option (Int32 × Hp) :=
  gd (inb x1 2) (if (σ 21 (Int32.toNatClampNeg x1)) < x2 then (some ((-2 : Int32), σ)) else ((F_M_isBeat x1 x2 σ).bind fun q26 => if q26.1 = 0 then (k13 x1 (x2 + (1 : Int32)) q26.2) else (some (x2, q26.2))))
def L_M_beat_13   : Nat → Int32 → Int32 → Hp → Option (Int32 × Hp)
  | 0, _, _, _ => none
  | n + 1, x1, x2, σ => B_M_beat_13  (fun x1 x2 σ => L_M_beat_13   n x1 x2 σ) x1 x2 σ
def F_M_beat  (a1 : Int32) (σ : Hp) : Option (Int32 × Hp) :=
  (F_M_in a1 (0 : Int32) (1 : Int32) σ).bind fun q3 => if q3.1 = 0 then (some ((-1 : Int32), q3.2)) else (L_M_beat_13   FU a1 (1 : Int32) q3.2)
def F_M_begins  (a1 : Int32) (a2 : Int32) (a3 : Int32) (σ : Hp) : Option Hp :=
  gd (inb a1 13) (gd (inb a1 13) (gd (inb a1 13) (gd (inb a1 13) (gd (inb a1 13) (some (zu (zu (zu (zu (zu σ 33 (Int32.toNatClampNeg a1) a2) 35 (Int32.toNatClampNeg a1) a3) 31 (Int32.toNatClampNeg a1) (-1 : Int32)) 32 (Int32.toNatClampNeg a1) (-1 : Int32)) 34 (Int32.toNatClampNeg a1) (-1 : Int32)))))))
def F_M_beginsText  (a1 : Int32) (σ : Hp) : Option Hp :=
  some (zu (zu (zu (zu σ 0 7 (0 : Int32)) 0 8 a1) 0 12 (0 : Int32)) 0 14 (0 : Int32))
def B_M_bits_4  (k4 : Int32 → Int32 → Int32 → Hp → Option (Int32 × Hp)) (x0 : Int32) (x1 : Int32) (x2 : Int32) (σ : Hp) : Option (Int32 × Hp) :=
  if (8 : Int32) ≤ x2 then (some (x1, σ)) else (k4 x0 (x1 + ((x0 >>> (x2 &&& 31)) &&& (1 : Int32))) (x2 + (1 : Int32)) σ)
def L_M_bits_4   : Nat → Int32 → Int32 → Int32 → Hp → Option (Int32 × Hp)
  | 0, _, _, _, _ => none
  | n + 1, x0, x1, x2, σ => B_M_bits_4  (fun x0 x1 x2 σ => L_M_bits_4   n x0 x1 x2 σ) x0 x1 x2 σ
def F_M_bits  (a0 : Int32) (σ : Hp) : Option (Int32 × Hp) :=
  L_M_bits_4   FU a0 (0 : Int32) (0 : Int32) σ
def F_M_has  (a0 : Int32) (a1 : Int32) (σ : Hp) : Option (Int32 × Hp) :=
  if ((a0 >>> (a1 &&& 31)) &&& (1 : Int32)) = (1 : Int32) then (some ((1 : Int32), σ)) else (some ((0 : Int32), σ))
def F_M_isAway  (a1 : Int32) (a2 : Int32) (σ : Hp) : Option (Int32 × Hp) :=
  (F_M_has (σ 0 58) (((σ 0 56) * a1) + a2) σ).bind fun q12 => gd (isb q12.1) (some (q12.1, q12.2))
def F_M_cardOf  (a1 : Int32) (a2 : Int32) (σ : Hp) : Option (Int32 × Hp) :=
  (F_M_octet (((σ 0 56) * a1) + a2) σ).bind fun q9 => some (q9.1, q9.2)
def B_M_mayPlay_53  (k53 : Int32 → Int32 → Int32 → Hp → Option (Int32 × Hp)) (x2 : Int32) (x4 : Int32) (x5 : Int32) (σ : Hp) : Option (Int32 × Hp) :=
  if (σ 0 56) ≤ x5 then (some ((1 : Int32), σ)) else ((F_M_isAway x2 x5 σ).bind fun q66 => if q66.1 = 0 then ((F_M_cardOf x2 x5 q66.2).bind fun q76 => if (q76.1 / (13 : Int32)) = x4 then (some ((0 : Int32), q76.2)) else (k53 x2 x4 (x5 + (1 : Int32)) q76.2)) else (k53 x2 x4 (x5 + (1 : Int32)) q66.2))
def L_M_mayPlay_53   : Nat → Int32 → Int32 → Int32 → Hp → Option (Int32 × Hp)
  | 0, _, _, _, _ => none
  | n + 1, x2, x4, x5, σ => B_M_mayPlay_53  (fun x2 x4 x5 σ => L_M_mayPlay_53   n x2 x4 x5 σ) x2 x4 x5 σ
def F_M_mayPlay  (a1 : Int32) (a2 : Int32) (a3 : Int32) (σ : Hp) : Option (Int32 × Hp) :=
  (F_M_isAway a2 a3 σ).bind fun q3 => if q3.1 = 0 then (if (jrem a1 (4 : Int32)) = 0 then (some ((1 : Int32), q3.2)) else (gd (inb (a1 - (jrem a1 (4 : Int32))) 13) ((F_M_cardOf a2 a3 q3.2).bind fun q37 => if (q37.1 / (13 : Int32)) = ((q3.2 30 (Int32.toNatClampNeg (a1 - (jrem a1 (4 : Int32))))) / (13 : Int32)) then (some ((1 : Int32), q37.2)) else (L_M_mayPlay_53   FU a2 ((q3.2 30 (Int32.toNatClampNeg (a1 - (jrem a1 (4 : Int32))))) / (13 : Int32)) (0 : Int32) q37.2)))) else (some ((0 : Int32), q3.2))
def J_M_mayBeBest_81   (x1 : Int32) (x2 : Int32) (x3 : Int32) (s0 : Int32) (σ : Hp) : Option Hp :=
  if s0 = 0 then (some σ) else (gd (inb x1 13) (gd (inb x1 13) (some (zu (zu σ 32 (Int32.toNatClampNeg x1) x3) 34 (Int32.toNatClampNeg x1) x2))))
def J_M_mayBeBest_76   (x1 : Int32) (x2 : Int32) (x3 : Int32) (σ : Hp) : Option Hp :=
  J_M_mayBeBest_81   x1 x2 x3 (1 : Int32) σ
def J_M_mayBeBest_80   (x1 : Int32) (x2 : Int32) (x3 : Int32) (σ : Hp) : Option Hp :=
  J_M_mayBeBest_81   x1 x2 x3 (0 : Int32) σ
def J_M_mayBeBest_56   (x1 : Int32) (x2 : Int32) (x3 : Int32) (σ : Hp) : Option Hp :=
  gd (inb x1 13) (if x3 = (σ 32 (Int32.toNatClampNeg x1)) then (gd (inb x1 13) (if (σ 34 (Int32.toNatClampNeg x1)) ≤ x2 then (J_M_mayBeBest_80   x1 x2 x3 σ) else (J_M_mayBeBest_76   x1 x2 x3 σ))) else (J_M_mayBeBest_80   x1 x2 x3 σ))
def J_M_mayBeBest_16   (x1 : Int32) (x2 : Int32) (x3 : Int32) (s0 : Int32) (σ : Hp) : Option Hp :=
  gd (inb x1 13) (if (σ 32 (Int32.toNatClampNeg x1)) = (-1 : Int32) then (J_M_mayBeBest_76   x1 x2 x3 σ) else (if s0 = 0 then (gd (inb x1 13) (if x3 < (σ 32 (Int32.toNatClampNeg x1)) then (J_M_mayBeBest_76   x1 x2 x3 σ) else (J_M_mayBeBest_56   x1 x2 x3 σ))) else (gd (inb x1 13) (if x3 ≤ (σ 32 (Int32.toNatClampNeg x1)) then (J_M_mayBeBest_56   x1 x2 x3 σ) else (J_M_mayBeBest_76   x1 x2 x3 σ)))))
def F_M_mayBeBest  (a1 : Int32) (a2 : Int32) (a3 : Int32) (σ : Hp) : Option Hp :=
  gd (inb a1 13) (if (jrem (σ 33 (Int32.toNatClampNeg a1)) (2 : Int32)) = 0 then (J_M_mayBeBest_16   a1 a2 a3 (1 : Int32) σ) else (J_M_mayBeBest_16   a1 a2 a3 (0 : Int32) σ))
def F_M_isHigher  (a1 : Int32) (a2 : Int32) (σ : Hp) : Option (Int32 × Hp) :=
  if (a1 / (13 : Int32)) = (a2 / (13 : Int32)) then (if a1 ≤ a2 then (some ((0 : Int32), σ)) else (some ((1 : Int32), σ))) else (if (a1 / (13 : Int32)) = (σ 0 57) then (some ((1 : Int32), σ)) else (some ((0 : Int32), σ)))
def B_M_takerOf_11  (k46 : Int32 → Int32 → Hp → Option (Int32 × Hp)) (k11 : Int32 → Int32 → Int32 → Int32 → Hp → Option (Int32 × Hp)) (x1 : Int32) (x2 : Int32) (x3 : Int32) (x4 : Int32) (σ : Hp) : Option (Int32 × Hp) :=
  if x1 ≤ x4 then (k46 x2 x3 σ) else (gd (inb x4 13) (gd (inb x3 13) ((F_M_isHigher (σ 30 (Int32.toNatClampNeg x4)) (σ 30 (Int32.toNatClampNeg x3)) σ).bind fun q31 => if q31.1 = 0 then (k11 x1 x2 x3 (x4 + (1 : Int32)) q31.2) else (k11 x1 x2 x4 (x4 + (1 : Int32)) q31.2))))
def L_M_takerOf_11  (k46 : Int32 → Int32 → Hp → Option (Int32 × Hp)) : Nat → Int32 → Int32 → Int32 → Int32 → Hp → Option (Int32 × Hp)
  | 0, _, _, _, _, _ => none
  | n + 1, x1, x2, x3, x4, σ => B_M_takerOf_11  k46 (fun x1 x2 x3 x4 σ => L_M_takerOf_11  k46 n x1 x2 x3 x4 σ) x1 x2 x3 x4 σ
def J_M_takerOf_46   (x2 : Int32) (x3 : Int32) (σ : Hp) : Option (Int32 × Hp) :=
  gd (inb x2 13) (some ((jrem (((σ 33 (Int32.toNatClampNeg x2)) + x3) - x2) (4 : Int32)), σ))
def F_M_takerOf  (a1 : Int32) (σ : Hp) : Option (Int32 × Hp) :=
  L_M_takerOf_11  (J_M_takerOf_46) FU a1 (a1 - (4 : Int32)) (a1 - (4 : Int32)) ((a1 - (4 : Int32)) + (1 : Int32)) σ
def B_M_playsOut_79  (k109 : Int32 → Int32 → Int32 → Int32 → Hp → Option Hp) (k79 : Int32 → Int32 → Int32 → Int32 → Hp → Option Hp) (x2 : Int32) (x3 : Int32) (x4 : Int32) (x5 : Int32) (σ : Hp) : Option Hp :=
  if (σ 0 56) ≤ x5 then (k109 x2 x3 x4 x5 σ) else ((F_M_mayPlay x3 x4 x5 σ).bind fun q94 => if q94.1 = 0 then (k79 x2 x3 x4 (x5 + (1 : Int32)) q94.2) else (k109 x2 x3 x4 x5 q94.2))
def L_M_playsOut_79  (k109 : Int32 → Int32 → Int32 → Int32 → Hp → Option Hp) : Nat → Int32 → Int32 → Int32 → Int32 → Hp → Option Hp
  | 0, _, _, _, _, _ => none
  | n + 1, x2, x3, x4, x5, σ => B_M_playsOut_79  k109 (fun x2 x3 x4 x5 σ => L_M_playsOut_79  k109 n x2 x3 x4 x5 σ) x2 x3 x4 x5 σ
def J_M_playsOut_258  (k21 : Int32 → Int32 → Hp → Option Hp) (x2 : Int32) (x3 : Int32) (x7 : Int32) (s0 : Int32) (s1 : Int32) (σ : Hp) : Option Hp :=
  if (x3 + (1 : Int32)) = x2 then (gd (inb x3 13) ((F_M_mayBeBest x3 (σ 30 (Int32.toNatClampNeg x3)) (s1 + s0) σ).bind fun q278 => k21 x2 x3 q278)) else ((F_M_begins (x3 + (1 : Int32)) x7 (s1 + s0) σ).bind fun q294 => k21 x2 (x3 + (1 : Int32)) q294)
def J_M_playsOut_257  (k21 : Int32 → Int32 → Hp → Option Hp) (x2 : Int32) (x3 : Int32) (x7 : Int32) (s0 : Int32) (σ : Hp) : Option Hp :=
  J_M_playsOut_258  k21 x2 x3 x7 (0 : Int32) s0 σ
def J_M_playsOut_233  (k21 : Int32 → Int32 → Hp → Option Hp) (x2 : Int32) (x3 : Int32) (x6 : Int32) (s0 : Int32) (σ : Hp) : Option Hp :=
  gd (inb x3 13) (if x6 = 0 then (J_M_playsOut_257  k21 x2 x3 s0 (σ 35 (Int32.toNatClampNeg x3)) σ) else (if (jrem s0 (2 : Int32)) = 0 then (J_M_playsOut_258  k21 x2 x3 s0 (1 : Int32) (σ 35 (Int32.toNatClampNeg x3)) σ) else (J_M_playsOut_257  k21 x2 x3 s0 (σ 35 (Int32.toNatClampNeg x3)) σ)))
def J_M_playsOut_210  (k21 : Int32 → Int32 → Hp → Option Hp) (x2 : Int32) (x3 : Int32) (x4 : Int32) (s0 : Int32) (σ : Hp) : Option Hp :=
  if s0 = 0 then (J_M_playsOut_233  k21 x2 x3 s0 (jrem (x4 + (1 : Int32)) (4 : Int32)) σ) else ((F_M_takerOf (x3 + (1 : Int32)) σ).bind fun q221 => J_M_playsOut_233  k21 x2 x3 s0 q221.1 q221.2)
def J_M_playsOut_109  (k21 : Int32 → Int32 → Hp → Option Hp) (x2 : Int32) (x3 : Int32) (x4 : Int32) (x5 : Int32) (σ : Hp) : Option Hp :=
  gd (inb x3 13) (if x5 = ((zu σ 31 (Int32.toNatClampNeg x3) x5) 0 56) then (gd (inb x3 13) (if (x3 - (1 : Int32)) < 0 then (k21 x2 (x3 - (1 : Int32)) (zu (zu σ 31 (Int32.toNatClampNeg x3) x5) 31 (Int32.toNatClampNeg x3) (-1 : Int32))) else (gd (inb (x3 - (1 : Int32)) 13) (gd (inb ((x3 - (1 : Int32)) + (1 : Int32)) 13) ((F_M_mayBeBest (x3 - (1 : Int32)) ((zu (zu σ 31 (Int32.toNatClampNeg x3) x5) 31 (Int32.toNatClampNeg x3) (-1 : Int32)) 30 (Int32.toNatClampNeg (x3 - (1 : Int32)))) ((zu (zu σ 31 (Int32.toNatClampNeg x3) x5) 31 (Int32.toNatClampNeg x3) (-1 : Int32)) 32 (Int32.toNatClampNeg ((x3 - (1 : Int32)) + (1 : Int32)))) (zu (zu σ 31 (Int32.toNatClampNeg x3) x5) 31 (Int32.toNatClampNeg x3) (-1 : Int32))).bind fun q157 => k21 x2 (x3 - (1 : Int32)) q157))))) else ((F_M_cardOf x4 x5 (zu σ 31 (Int32.toNatClampNeg x3) x5)).bind fun q173 => gd (inb x3 13) (if (jrem x3 (4 : Int32)) = (3 : Int32) then (J_M_playsOut_210  k21 x2 x3 x4 (1 : Int32) (zu (zu q173.2 30 (Int32.toNatClampNeg x3) q173.1) 0 58 (((zu q173.2 30 (Int32.toNatClampNeg x3) q173.1) 0 58) ||| ((1 : Int32) <<< (((((zu q173.2 30 (Int32.toNatClampNeg x3) q173.1) 0 56) * x4) + x5) &&& 31))))) else (J_M_playsOut_210  k21 x2 x3 x4 (0 : Int32) (zu (zu q173.2 30 (Int32.toNatClampNeg x3) q173.1) 0 58 (((zu q173.2 30 (Int32.toNatClampNeg x3) q173.1) 0 58) ||| ((1 : Int32) <<< (((((zu q173.2 30 (Int32.toNatClampNeg x3) q173.1) 0 56) * x4) + x5) &&& 31))))))))
def J_M_playsOut_69  (k21 : Int32 → Int32 → Hp → Option Hp) (x2 : Int32) (x3 : Int32) (x4 : Int32) (σ : Hp) : Option Hp :=
  gd (inb x3 13) (L_M_playsOut_79  (J_M_playsOut_109  k21) FU x2 x3 x4 ((σ 31 (Int32.toNatClampNeg x3)) + (1 : Int32)) σ)
def B_M_playsOut_21  (k21 : Int32 → Int32 → Hp → Option Hp) (x2 : Int32) (x3 : Int32) (σ : Hp) : Option Hp :=
  if x3 < 0 then (some σ) else (gd (inb x3 13) (gd (inb x3 13) (if (σ 31 (Int32.toNatClampNeg x3)) < 0 then (J_M_playsOut_69  k21 x2 x3 (σ 33 (Int32.toNatClampNeg x3)) σ) else (gd (inb x3 13) (J_M_playsOut_69  k21 x2 x3 (σ 33 (Int32.toNatClampNeg x3)) (zu σ 0 58 ((σ 0 58) &&& (((1 : Int32) <<< ((((σ 0 56) * (σ 33 (Int32.toNatClampNeg x3))) + (σ 31 (Int32.toNatClampNeg x3))) &&& 31)) ^^^ (-1 : Int32)))))))))
def L_M_playsOut_21   : Nat → Int32 → Int32 → Hp → Option Hp
  | 0, _, _, _ => none
  | n + 1, x2, x3, σ => B_M_playsOut_21  (fun x2 x3 σ => L_M_playsOut_21   n x2 x3 σ) x2 x3 σ
def F_M_playsOut  (a1 : Int32) (σ : Hp) : Option Hp :=
  (F_M_begins (0 : Int32) a1 (0 : Int32) (zu σ 0 58 (0 : Int32))).bind fun q18 => L_M_playsOut_21   FU ((4 : Int32) * (σ 0 56)) (0 : Int32) q18
def B_M_bridge_82  (k113 : Int32 → Int32 → Int32 → Int32 → Int32 → Hp → Option (Int32 × Hp)) (k82 : Int32 → Int32 → Int32 → Int32 → Int32 → Int32 → Hp → Option (Int32 × Hp)) (x1 : Int32) (x2 : Int32) (x3 : Int32) (x4 : Int32) (x5 : Int32) (x6 : Int32) (σ : Hp) : Option (Int32 × Hp) :=
  if x5 ≤ x6 then (k113 x1 x2 x3 x4 x5 σ) else ((F_M_octet x6 σ).bind fun q92 => (F_M_octet x5 q92.2).bind fun q98 => if q92.1 = q98.1 then (some ((-2 : Int32), q98.2)) else (k82 x1 x2 x3 x4 x5 (x6 + (1 : Int32)) q98.2))
def L_M_bridge_82  (k113 : Int32 → Int32 → Int32 → Int32 → Int32 → Hp → Option (Int32 × Hp)) : Nat → Int32 → Int32 → Int32 → Int32 → Int32 → Int32 → Hp → Option (Int32 × Hp)
  | 0, _, _, _, _, _, _, _ => none
  | n + 1, x1, x2, x3, x4, x5, x6, σ => B_M_bridge_82  k113 (fun x1 x2 x3 x4 x5 x6 σ => L_M_bridge_82  k113 n x1 x2 x3 x4 x5 x6 σ) x1 x2 x3 x4 x5 x6 σ
def J_M_bridge_113  (k57 : Int32 → Int32 → Int32 → Int32 → Int32 → Hp → Option (Int32 × Hp)) (x1 : Int32) (x2 : Int32) (x3 : Int32) (x4 : Int32) (x5 : Int32) (σ : Hp) : Option (Int32 × Hp) :=
  k57 x1 x2 x3 x4 (x5 + (1 : Int32)) σ
def B_M_bridge_57  (k119 : Int32 → Int32 → Int32 → Int32 → Hp → Option (Int32 × Hp)) (k57 : Int32 → Int32 → Int32 → Int32 → Int32 → Hp → Option (Int32 × Hp)) (x1 : Int32) (x2 : Int32) (x3 : Int32) (x4 : Int32) (x5 : Int32) (σ : Hp) : Option (Int32 × Hp) :=
  if ((4 : Int32) * x1) ≤ x5 then (k119 x1 x2 x3 x4 σ) else ((F_M_octet x5 σ).bind fun q68 => if q68.1 ≤ (51 : Int32) then (L_M_bridge_82  (J_M_bridge_113  k57) FU x1 x2 x3 x4 x5 (0 : Int32) q68.2) else (some ((-2 : Int32), q68.2)))
def L_M_bridge_57  (k119 : Int32 → Int32 → Int32 → Int32 → Hp → Option (Int32 × Hp)) : Nat → Int32 → Int32 → Int32 → Int32 → Int32 → Hp → Option (Int32 × Hp)
  | 0, _, _, _, _, _, _ => none
  | n + 1, x1, x2, x3, x4, x5, σ => B_M_bridge_57  k119 (fun x1 x2 x3 x4 x5 σ => L_M_bridge_57  k119 n x1 x2 x3 x4 x5 σ) x1 x2 x3 x4 x5 σ
def J_M_bridge_119   (x1 : Int32) (x2 : Int32) (x3 : Int32) (x4 : Int32) (σ : Hp) : Option (Int32 × Hp) :=
  (F_M_playsOut x3 (zu (zu σ 0 56 x1) 0 57 x2)).bind fun q131 => if x4 = 0 then (gd (inb (0 : Int32) 13) (some ((q131 32 (Int32.toNatClampNeg (0 : Int32))), q131))) else (gd (inb (0 : Int32) 13) (some ((q131 34 (Int32.toNatClampNeg (0 : Int32))), q131)))
def F_M_bridge  (a1 : Int32) (a2 : Int32) (a3 : Int32) (a4 : Int32) (σ : Hp) : Option (Int32 × Hp) :=
  (F_M_in a1 (1 : Int32) (3 : Int32) σ).bind fun q3 => if q3.1 = 0 then (some ((-1 : Int32), q3.2)) else ((F_M_in a2 (0 : Int32) (4 : Int32) q3.2).bind fun q12 => if q12.1 = 0 then (some ((-1 : Int32), q12.2)) else ((F_M_in a3 (0 : Int32) (3 : Int32) q12.2).bind fun q21 => if q21.1 = 0 then (some ((-1 : Int32), q21.2)) else ((F_M_in a4 (0 : Int32) (1 : Int32) q21.2).bind fun q31 => if q31.1 = 0 then (some ((-1 : Int32), q31.2)) else (if ((4 : Int32) * a1) ≤ (q31.2 0 6) then (L_M_bridge_57  (J_M_bridge_119) FU a1 a2 a3 a4 (0 : Int32) (zu q31.2 0 6 (0 : Int32))) else (some ((-1 : Int32), q31.2))))))
def F_M_reckon  (a0 : Int32) (a1 : Int32) (a2 : Int32) (σ : Hp) : Option (Int32 × Hp) :=
  if a0 = (2 : Int32) then (some ((a1 + a2), σ)) else if a0 = (3 : Int32) then (some ((a1 - a2), σ)) else if a0 = (4 : Int32) then (some ((a1 * a2), σ)) else if a0 = (5 : Int32) then (gd (nz a2) (some ((a1 / a2), σ))) else if a0 = (6 : Int32) then (gd (nz a2) (some ((jrem a1 a2), σ))) else if a0 = (7 : Int32) then (if a2 ≤ a1 then (some ((0 : Int32), σ)) else (some ((1 : Int32), σ))) else if a0 = (8 : Int32) then (if a1 ≤ a2 then (some ((0 : Int32), σ)) else (some ((1 : Int32), σ))) else (if a1 = a2 then (some ((1 : Int32), σ)) else (some ((0 : Int32), σ)))
def J_M_comesTo_85  (k16 : Int32 → Int32 → Int32 → Int32 → Hp → Option (Int32 × Hp)) (x2 : Int32) (x3 : Int32) (x4 : Int32) (x5 : Int32) (s0 : Int32) (s1 : Int32) (σ : Hp) : Option (Int32 × Hp) :=
  gd (inb s1 260) (k16 x2 (x3 + (1 : Int32)) x4 x5 (zu σ 18 (Int32.toNatClampNeg s1) s0))
def J_M_comesTo_63  (k16 : Int32 → Int32 → Int32 → Int32 → Hp → Option (Int32 × Hp)) (x2 : Int32) (x3 : Int32) (x4 : Int32) (x5 : Int32) (x6 : Int32) (x7 : Int32) (σ : Hp) : Option (Int32 × Hp) :=
  if x6 = 0 then (J_M_comesTo_85  k16 x2 x3 x4 x5 x7 x3 σ) else (gd (inb x7 11) (J_M_comesTo_85  k16 x2 x3 x4 x5 (σ 19 (Int32.toNatClampNeg x7)) x3 σ))
def J_M_comesTo_155  (k16 : Int32 → Int32 → Int32 → Int32 → Hp → Option (Int32 × Hp)) (x2 : Int32) (x3 : Int32) (x4 : Int32) (x5 : Int32) (x7 : Int32) (s0 : Int32) (s1 : Int32) (σ : Hp) : Option (Int32 × Hp) :=
  if s1 = s0 then (k16 x2 x3 x4 (x4 + x7) σ) else (k16 x2 (x3 - (1 : Int32)) x4 x5 σ)
def J_M_comesTo_135  (k16 : Int32 → Int32 → Int32 → Int32 → Hp → Option (Int32 × Hp)) (x2 : Int32) (x3 : Int32) (x4 : Int32) (x5 : Int32) (x6 : Int32) (x7 : Int32) (σ : Hp) : Option (Int32 × Hp) :=
  gd (inb (x3 - (1 : Int32)) 260) (if x6 = (12 : Int32) then (J_M_comesTo_155  k16 x2 x3 x4 x5 x7 (1 : Int32) (σ 18 (Int32.toNatClampNeg (x3 - (1 : Int32)))) σ) else (J_M_comesTo_155  k16 x2 x3 x4 x5 x7 (0 : Int32) (σ 18 (Int32.toNatClampNeg (x3 - (1 : Int32)))) σ))
def J_M_comesTo_203  (k16 : Int32 → Int32 → Int32 → Int32 → Hp → Option (Int32 × Hp)) (x2 : Int32) (x3 : Int32) (x4 : Int32) (x5 : Int32) (x6 : Int32) (σ : Hp) : Option (Int32 × Hp) :=
  gd (inb (x3 - (1 : Int32)) 260) (gd (inb x3 260) ((F_M_reckon x6 (σ 18 (Int32.toNatClampNeg (x3 - (1 : Int32)))) (σ 18 (Int32.toNatClampNeg x3)) σ).bind fun q226 => gd (inb (x3 - (1 : Int32)) 260) (k16 x2 x3 x4 x5 (zu q226.2 18 (Int32.toNatClampNeg (x3 - (1 : Int32))) q226.1))))
def J_M_comesTo_192  (k16 : Int32 → Int32 → Int32 → Int32 → Hp → Option (Int32 × Hp)) (x2 : Int32) (x3 : Int32) (x4 : Int32) (x5 : Int32) (x6 : Int32) (σ : Hp) : Option (Int32 × Hp) :=
  gd (inb x3 260) (if (σ 18 (Int32.toNatClampNeg x3)) = 0 then (some ((0 : Int32), σ)) else (J_M_comesTo_203  k16 x2 x3 x4 x5 x6 σ))
def B_M_comesTo_16  (k16 : Int32 → Int32 → Int32 → Int32 → Hp → Option (Int32 × Hp)) (x2 : Int32) (x3 : Int32) (x4 : Int32) (x5 : Int32) (σ : Hp) : Option (Int32 × Hp) :=
  if x2 ≤ x5 then (gd (inb (0 : Int32) 260) (some ((σ 18 (Int32.toNatClampNeg (0 : Int32))), σ))) else (gd (inb x5 260) (gd (inb x5 260) (if ((σ 13 (Int32.toNatClampNeg x5)) / (1048576 : Int32)) = 0 then (J_M_comesTo_63  k16 x2 x3 x4 (x5 + (1 : Int32)) ((σ 13 (Int32.toNatClampNeg x5)) / (1048576 : Int32)) (jrem (σ 13 (Int32.toNatClampNeg x5)) (1048576 : Int32)) σ) else (if ((σ 13 (Int32.toNatClampNeg x5)) / (1048576 : Int32)) = (1 : Int32) then (J_M_comesTo_63  k16 x2 x3 x4 (x5 + (1 : Int32)) ((σ 13 (Int32.toNatClampNeg x5)) / (1048576 : Int32)) (jrem (σ 13 (Int32.toNatClampNeg x5)) (1048576 : Int32)) σ) else (if ((σ 13 (Int32.toNatClampNeg x5)) / (1048576 : Int32)) = (10 : Int32) then (gd (inb (x3 - (1 : Int32)) 260) (gd (inb (x3 - (1 : Int32)) 260) (k16 x2 x3 x4 (x5 + (1 : Int32)) (zu σ 18 (Int32.toNatClampNeg (x3 - (1 : Int32))) ((1 : Int32) - (σ 18 (Int32.toNatClampNeg (x3 - (1 : Int32))))))))) else (if ((σ 13 (Int32.toNatClampNeg x5)) / (1048576 : Int32)) = (11 : Int32) then (J_M_comesTo_135  k16 x2 x3 x4 (x5 + (1 : Int32)) ((σ 13 (Int32.toNatClampNeg x5)) / (1048576 : Int32)) (jrem (σ 13 (Int32.toNatClampNeg x5)) (1048576 : Int32)) σ) else (if ((σ 13 (Int32.toNatClampNeg x5)) / (1048576 : Int32)) = (12 : Int32) then (J_M_comesTo_135  k16 x2 x3 x4 (x5 + (1 : Int32)) ((σ 13 (Int32.toNatClampNeg x5)) / (1048576 : Int32)) (jrem (σ 13 (Int32.toNatClampNeg x5)) (1048576 : Int32)) σ) else (if ((σ 13 (Int32.toNatClampNeg x5)) / (1048576 : Int32)) = (5 : Int32) then (J_M_comesTo_192  k16 x2 (x3 - (1 : Int32)) x4 (x5 + (1 : Int32)) ((σ 13 (Int32.toNatClampNeg x5)) / (1048576 : Int32)) σ) else (if ((σ 13 (Int32.toNatClampNeg x5)) / (1048576 : Int32)) = (6 : Int32) then (J_M_comesTo_192  k16 x2 (x3 - (1 : Int32)) x4 (x5 + (1 : Int32)) ((σ 13 (Int32.toNatClampNeg x5)) / (1048576 : Int32)) σ) else (J_M_comesTo_203  k16 x2 (x3 - (1 : Int32)) x4 (x5 + (1 : Int32)) ((σ 13 (Int32.toNatClampNeg x5)) / (1048576 : Int32)) σ))))))))))
def L_M_comesTo_16   : Nat → Int32 → Int32 → Int32 → Int32 → Hp → Option (Int32 × Hp)
  | 0, _, _, _, _, _ => none
  | n + 1, x2, x3, x4, x5, σ => B_M_comesTo_16  (fun x2 x3 x4 x5 σ => L_M_comesTo_16   n x2 x3 x4 x5 σ) x2 x3 x4 x5 σ
def F_M_comesTo  (a1 : Int32) (a2 : Int32) (σ : Hp) : Option (Int32 × Hp) :=
  L_M_comesTo_16   FU a2 (0 : Int32) ((260 : Int32) * (a1 / (260 : Int32))) a1 σ
def B_M_byLaw_2  (k2 : Int32 → Int32 → Int32 → Hp → Option (Int32 × Hp)) (k43 : Int32 → Int32 → Hp → Option (Int32 × Hp)) (x1 : Int32) (x2 : Int32) (x3 : Int32) (σ : Hp) : Option (Int32 × Hp) :=
  if (σ 0 15) ≤ x3 then (some ((0 : Int32), σ)) else (gd (inb x3 16) (if (σ 14 (Int32.toNatClampNeg x3)) = x1 then (gd (inb x3 16) (gd (inb x3 16) ((F_M_comesTo (σ 16 (Int32.toNatClampNeg x3)) (σ 17 (Int32.toNatClampNeg x3)) σ).bind fun q33 => if q33.1 = (1 : Int32) then (k43 x2 x3 q33.2) else (k2 x1 x2 (x3 + (1 : Int32)) q33.2)))) else (k2 x1 x2 (x3 + (1 : Int32)) σ)))
def L_M_byLaw_2  (k43 : Int32 → Int32 → Hp → Option (Int32 × Hp)) : Nat → Int32 → Int32 → Int32 → Hp → Option (Int32 × Hp)
  | 0, _, _, _, _ => none
  | n + 1, x1, x2, x3, σ => B_M_byLaw_2  (fun x1 x2 x3 σ => L_M_byLaw_2  k43 n x1 x2 x3 σ) k43 x1 x2 x3 σ
def J_M_byLaw_43   (x2 : Int32) (x3 : Int32) (σ : Hp) : Option (Int32 × Hp) :=
  gd (inb x3 16) (gd (inb x3 16) ((F_M_comesTo (σ 15 (Int32.toNatClampNeg x3)) (σ 16 (Int32.toNatClampNeg x3)) σ).bind fun q56 => if 0 ≤ q56.1 then (if q56.1 ≤ x2 then (some (q56.1, q56.2)) else (some (x2, q56.2))) else (some ((0 : Int32), q56.2))))
def F_M_byLaw  (a1 : Int32) (a2 : Int32) (σ : Hp) : Option (Int32 × Hp) :=
  L_M_byLaw_2  (J_M_byLaw_43) FU a1 a2 (0 : Int32) σ
def F_M_isChair  (a0 : Int32) (a1 : Int32) (σ : Hp) : Option (Int32 × Hp) :=
  (F_M_in a0 (0 : Int32) (1 : Int32) σ).bind fun q3 => if q3.1 = 0 then (some ((0 : Int32), q3.2)) else ((F_M_in a1 (0 : Int32) (7 : Int32) q3.2).bind fun q13 => if q13.1 = 0 then (some ((0 : Int32), q13.2)) else (some ((1 : Int32), q13.2)))
def F_M_isThere  (a1 : Int32) (a2 : Int32) (σ : Hp) : Option (Int32 × Hp) :=
  (F_M_isChair a1 a2 σ).bind fun q2 => if q2.1 = 0 then (some ((0 : Int32), q2.2)) else (gd (inb (((0 : Int32) + ((8 : Int32) * a1)) + a2) 100) (if (q2.2 1 (Int32.toNatClampNeg (((0 : Int32) + ((8 : Int32) * a1)) + a2))) = (1 : Int32) then (some ((1 : Int32), q2.2)) else (some ((0 : Int32), q2.2))))
def F_M_eyeOf  (a1 : Int32) (σ : Hp) : Option (Int32 × Hp) :=
  gd (inb (a1 / (8 : Int32)) 2) (gd (inb ((64 : Int32) + a1) 100) (some (((σ 4 (Int32.toNatClampNeg (a1 / (8 : Int32)))) + ((5 : Int32) * (σ 1 (Int32.toNatClampNeg ((64 : Int32) + a1))))), σ)))
def B_M_seesOver_3  (k3 : Int32 → Int32 → Int32 → Int32 → Hp → Option (Int32 × Hp)) (x1 : Int32) (x2 : Int32) (x3 : Int32) (x4 : Int32) (σ : Hp) : Option (Int32 × Hp) :=
  if (24 : Int32) ≤ x4 then (some ((1 : Int32), σ)) else (if x4 = x3 then (k3 x1 x2 x3 (x4 + (1 : Int32)) σ) else (gd (inb x4 24) (if ((25 : Int32) * (σ 5 (Int32.toNatClampNeg x4))) < ((x1 * ((24 : Int32) - x4)) + (x2 * (x4 + (1 : Int32)))) then (k3 x1 x2 x3 (x4 + (1 : Int32)) σ) else (some ((0 : Int32), σ)))))
def L_M_seesOver_3   : Nat → Int32 → Int32 → Int32 → Int32 → Hp → Option (Int32 × Hp)
  | 0, _, _, _, _, _ => none
  | n + 1, x1, x2, x3, x4, σ => B_M_seesOver_3  (fun x1 x2 x3 x4 σ => L_M_seesOver_3   n x1 x2 x3 x4 σ) x1 x2 x3 x4 σ
def F_M_seesOver  (a1 : Int32) (a2 : Int32) (a3 : Int32) (σ : Hp) : Option (Int32 × Hp) :=
  L_M_seesOver_3   FU a1 a2 a3 (0 : Int32) σ
def F_M_seesOne  (a1 : Int32) (a2 : Int32) (σ : Hp) : Option (Int32 × Hp) :=
  (F_M_eyeOf a1 σ).bind fun q3 => (F_M_eyeOf ((8 : Int32) + a2) q3.2).bind fun q11 => (F_M_seesOver q3.1 q11.1 (-1 : Int32) q11.2).bind fun q15 => gd (isb q15.1) (some (q15.1, q15.2))
def F_M_sitsIn  (a1 : Int32) (σ : Hp) : Option (Int32 × Hp) :=
  gd (inb ((0 : Int32) + a1) 100) (if (σ 1 (Int32.toNatClampNeg ((0 : Int32) + a1))) = (1 : Int32) then (gd (inb ((80 : Int32) + a1) 100) (if (σ 1 (Int32.toNatClampNeg ((80 : Int32) + a1))) = 0 then (some ((1 : Int32), σ)) else (some ((0 : Int32), σ)))) else (some ((0 : Int32), σ)))
def J_M_capture_70   (x4 : Int32) (x5 : Int32) (s0 : Int32) (σ : Hp) : Option (Int32 × Hp) :=
  (F_M_sitsIn x4 σ).bind fun q75 => if q75.1 = 0 then (some ((0 : Int32), q75.2)) else ((F_M_sitsIn x5 q75.2).bind fun q84 => if q84.1 = 0 then (if s0 = 0 then (some ((0 : Int32), q84.2)) else (gd (inb ((64 : Int32) + x5) 100) (if (q84.2 1 (Int32.toNatClampNeg ((64 : Int32) + x5))) = 0 then (some ((0 : Int32), q84.2)) else (gd (inb ((64 : Int32) + x4) 100) (if (q84.2 1 (Int32.toNatClampNeg ((64 : Int32) + x4))) = (9 : Int32) then (some ((0 : Int32), q84.2)) else (gd (inb ((64 : Int32) + x4) 100) (gd (inb ((64 : Int32) + x4) 100) (gd (inb ((64 : Int32) + x5) 100) (gd (inb ((64 : Int32) + x5) 100) (some ((1 : Int32), (zu (zu q84.2 1 (Int32.toNatClampNeg ((64 : Int32) + x4)) ((q84.2 1 (Int32.toNatClampNeg ((64 : Int32) + x4))) + (1 : Int32))) 1 (Int32.toNatClampNeg ((64 : Int32) + x5)) (((zu q84.2 1 (Int32.toNatClampNeg ((64 : Int32) + x4)) ((q84.2 1 (Int32.toNatClampNeg ((64 : Int32) + x4))) + (1 : Int32))) 1 (Int32.toNatClampNeg ((64 : Int32) + x5))) - (1 : Int32)))))))))))))) else (some ((0 : Int32), q84.2)))
def F_M_capture  (a1 : Int32) (a2 : Int32) (a3 : Int32) (σ : Hp) : Option (Int32 × Hp) :=
  gd (inb (96 : Int32) 100) (if (σ 1 (Int32.toNatClampNeg (96 : Int32))) = (5 : Int32) then ((F_M_isThere a1 a2 σ).bind fun q14 => if q14.1 = 0 then (some ((0 : Int32), q14.2)) else ((F_M_isThere ((1 : Int32) - a1) a3 q14.2).bind fun q25 => if q25.1 = 0 then (some ((0 : Int32), q25.2)) else (if a1 = 0 then ((F_M_seesOne a2 a3 q25.2).bind fun q58 => J_M_capture_70   (((8 : Int32) * a1) + a2) (((8 : Int32) * ((1 : Int32) - a1)) + a3) q58.1 q58.2) else ((F_M_seesOne a3 a2 q25.2).bind fun q67 => J_M_capture_70   (((8 : Int32) * a1) + a2) (((8 : Int32) * ((1 : Int32) - a1)) + a3) q67.1 q67.2)))) else (some ((0 : Int32), σ)))
def F_M_chair  (a1 : Int32) (a2 : Int32) (a3 : Int32) (a4 : Int32) (a5 : Int32) (σ : Hp) : Option (Int32 × Hp) :=
  (F_M_isChair a1 a2 σ).bind fun q2 => if q2.1 = 0 then (some ((0 : Int32), q2.2)) else ((F_M_in a3 (0 : Int32) (9 : Int32) q2.2).bind fun q12 => if q12.1 = 0 then (some ((0 : Int32), q12.2)) else ((F_M_in a4 (0 : Int32) (99 : Int32) q12.2).bind fun q23 => if q23.1 = 0 then (some ((0 : Int32), q23.2)) else ((F_M_in a5 (0 : Int32) (9 : Int32) q23.2).bind fun q34 => if q34.1 = 0 then (some ((0 : Int32), q34.2)) else (gd (inb ((0 : Int32) + (((8 : Int32) * a1) + a2)) 100) (gd (inb ((16 : Int32) + (((8 : Int32) * a1) + a2)) 100) (gd (inb ((32 : Int32) + (((8 : Int32) * a1) + a2)) 100) (gd (inb ((48 : Int32) + (((8 : Int32) * a1) + a2)) 100) (gd (inb ((64 : Int32) + (((8 : Int32) * a1) + a2)) 100) (gd (inb ((80 : Int32) + (((8 : Int32) * a1) + a2)) 100) (gd (inb (98 : Int32) 100) (some ((1 : Int32), (zu (zu (zu (zu (zu (zu (zu q34.2 1 (Int32.toNatClampNeg ((0 : Int32) + (((8 : Int32) * a1) + a2))) (1 : Int32)) 1 (Int32.toNatClampNeg ((16 : Int32) + (((8 : Int32) * a1) + a2))) a3) 1 (Int32.toNatClampNeg ((32 : Int32) + (((8 : Int32) * a1) + a2))) (0 : Int32)) 1 (Int32.toNatClampNeg ((48 : Int32) + (((8 : Int32) * a1) + a2))) a4) 1 (Int32.toNatClampNeg ((64 : Int32) + (((8 : Int32) * a1) + a2))) a5) 1 (Int32.toNatClampNeg ((80 : Int32) + (((8 : Int32) * a1) + a2))) (0 : Int32)) 1 (Int32.toNatClampNeg (98 : Int32)) (0 : Int32))))))))))))))
def B_M_setOf_5  (k5 : Int32 → Int32 → Int32 → Int32 → Hp → Option (Int32 × Hp)) (x1 : Int32) (x2 : Int32) (x3 : Int32) (x4 : Int32) (σ : Hp) : Option (Int32 × Hp) :=
  if (8 : Int32) ≤ x4 then (some (x3, σ)) else (gd (inb ((0 : Int32) + (((8 : Int32) * x1) + x4)) 100) (if (σ 1 (Int32.toNatClampNeg ((0 : Int32) + (((8 : Int32) * x1) + x4)))) = (1 : Int32) then (gd (inb ((80 : Int32) + (((8 : Int32) * x1) + x4)) 100) (if (σ 1 (Int32.toNatClampNeg ((80 : Int32) + (((8 : Int32) * x1) + x4)))) = x2 then (k5 x1 x2 (x3 ||| ((1 : Int32) <<< (x4 &&& 31))) (x4 + (1 : Int32)) σ) else (k5 x1 x2 x3 (x4 + (1 : Int32)) σ))) else (k5 x1 x2 x3 (x4 + (1 : Int32)) σ)))
def L_M_setOf_5   : Nat → Int32 → Int32 → Int32 → Int32 → Hp → Option (Int32 × Hp)
  | 0, _, _, _, _, _ => none
  | n + 1, x1, x2, x3, x4, σ => B_M_setOf_5  (fun x1 x2 x3 x4 σ => L_M_setOf_5   n x1 x2 x3 x4 σ) x1 x2 x3 x4 σ
def F_M_setOf  (a1 : Int32) (a2 : Int32) (σ : Hp) : Option (Int32 × Hp) :=
  L_M_setOf_5   FU a1 a2 (0 : Int32) (0 : Int32) σ
def J_M_seenBy_85  (k20 : Int32 → Int32 → Int32 → Int32 → Int32 → Hp → Option (Int32 × Hp)) (x1 : Int32) (x2 : Int32) (x3 : Int32) (x4 : Int32) (x5 : Int32) (s0 : Int32) (σ : Hp) : Option (Int32 × Hp) :=
  if s0 = 0 then (k20 x1 x2 x3 x4 (x5 + (1 : Int32)) σ) else (k20 x1 x2 x3 (x4 ||| ((1 : Int32) <<< (x5 &&& 31))) (x5 + (1 : Int32)) σ)
def J_M_seenBy_84  (k20 : Int32 → Int32 → Int32 → Int32 → Int32 → Hp → Option (Int32 × Hp)) (x1 : Int32) (x2 : Int32) (x3 : Int32) (x4 : Int32) (x5 : Int32) (σ : Hp) : Option (Int32 × Hp) :=
  J_M_seenBy_85  k20 x1 x2 x3 x4 x5 (0 : Int32) σ
def J_M_seenBy_54  (k20 : Int32 → Int32 → Int32 → Int32 → Int32 → Hp → Option (Int32 × Hp)) (x1 : Int32) (x2 : Int32) (x3 : Int32) (x4 : Int32) (x5 : Int32) (σ : Hp) : Option (Int32 × Hp) :=
  J_M_seenBy_85  k20 x1 x2 x3 x4 x5 (0 : Int32) σ
def B_M_seenBy_20  (k20 : Int32 → Int32 → Int32 → Int32 → Int32 → Hp → Option (Int32 × Hp)) (x1 : Int32) (x2 : Int32) (x3 : Int32) (x4 : Int32) (x5 : Int32) (σ : Hp) : Option (Int32 × Hp) :=
  if (8 : Int32) ≤ x5 then (some (x4, σ)) else (if x2 = 0 then ((F_M_has x3 x5 σ).bind fun q34 => if q34.1 = 0 then (J_M_seenBy_54  k20 x1 x2 x3 x4 x5 q34.2) else ((F_M_seesOne x1 x5 q34.2).bind fun q44 => if q44.1 = 0 then (J_M_seenBy_54  k20 x1 x2 x3 x4 x5 q44.2) else (J_M_seenBy_85  k20 x1 x2 x3 x4 x5 (1 : Int32) q44.2))) else ((F_M_has x3 x5 σ).bind fun q61 => if q61.1 = 0 then (J_M_seenBy_84  k20 x1 x2 x3 x4 x5 q61.2) else ((F_M_seesOne x5 (x1 - (8 : Int32)) q61.2).bind fun q74 => if q74.1 = 0 then (J_M_seenBy_84  k20 x1 x2 x3 x4 x5 q74.2) else (J_M_seenBy_85  k20 x1 x2 x3 x4 x5 (1 : Int32) q74.2))))
def L_M_seenBy_20   : Nat → Int32 → Int32 → Int32 → Int32 → Int32 → Hp → Option (Int32 × Hp)
  | 0, _, _, _, _, _, _ => none
  | n + 1, x1, x2, x3, x4, x5, σ => B_M_seenBy_20  (fun x1 x2 x3 x4 x5 σ => L_M_seenBy_20   n x1 x2 x3 x4 x5 σ) x1 x2 x3 x4 x5 σ
def F_M_seenBy  (a1 : Int32) (σ : Hp) : Option (Int32 × Hp) :=
  (F_M_setOf ((1 : Int32) - (a1 / (8 : Int32))) (0 : Int32) σ).bind fun q10 => L_M_seenBy_20   FU a1 (a1 / (8 : Int32)) q10.1 (0 : Int32) (0 : Int32) q10.2
def F_M_chairIs  (a1 : Int32) (a2 : Int32) (a3 : Int32) (σ : Hp) : Option (Int32 × Hp) :=
  (F_M_isThere a1 a2 σ).bind fun q3 => if q3.1 = 0 then (some ((-1 : Int32), q3.2)) else (if a3 = (0 : Int32) then (gd (inb ((16 : Int32) + (((8 : Int32) * a1) + a2)) 100) (some ((q3.2 1 (Int32.toNatClampNeg ((16 : Int32) + (((8 : Int32) * a1) + a2)))), q3.2))) else if a3 = (1 : Int32) then (gd (inb ((32 : Int32) + (((8 : Int32) * a1) + a2)) 100) (some ((q3.2 1 (Int32.toNatClampNeg ((32 : Int32) + (((8 : Int32) * a1) + a2)))), q3.2))) else if a3 = (2 : Int32) then (gd (inb ((48 : Int32) + (((8 : Int32) * a1) + a2)) 100) (some ((q3.2 1 (Int32.toNatClampNeg ((48 : Int32) + (((8 : Int32) * a1) + a2)))), q3.2))) else if a3 = (3 : Int32) then (gd (inb ((64 : Int32) + (((8 : Int32) * a1) + a2)) 100) (some ((q3.2 1 (Int32.toNatClampNeg ((64 : Int32) + (((8 : Int32) * a1) + a2)))), q3.2))) else if a3 = (4 : Int32) then (gd (inb ((80 : Int32) + (((8 : Int32) * a1) + a2)) 100) (some ((q3.2 1 (Int32.toNatClampNeg ((80 : Int32) + (((8 : Int32) * a1) + a2)))), q3.2))) else if a3 = (5 : Int32) then ((F_M_seenBy (((8 : Int32) * a1) + a2) q3.2).bind fun q122 => some (q122.1, q122.2)) else if a3 = (6 : Int32) then ((F_M_eyeOf (((8 : Int32) * a1) + a2) q3.2).bind fun q129 => some (q129.1, q129.2)) else (some ((-1 : Int32), q3.2)))
def F_M_swaps  (a1 : Int32) (a2 : Int32) (σ : Hp) : Option Hp :=
  gd (inb a1 100) (gd (inb a2 100) (gd (inb a1 100) (gd (inb a2 100) (some (zu (zu σ 1 (Int32.toNatClampNeg a1) (σ 1 (Int32.toNatClampNeg a2))) 1 (Int32.toNatClampNeg a2) (σ 1 (Int32.toNatClampNeg a1)))))))
def F_M_changes  (a1 : Int32) (a2 : Int32) (σ : Hp) : Option Hp :=
  (F_M_swaps ((0 : Int32) + a1) ((0 : Int32) + a2) σ).bind fun q7 => (F_M_swaps ((16 : Int32) + a1) ((16 : Int32) + a2) q7).bind fun q19 => (F_M_swaps ((32 : Int32) + a1) ((32 : Int32) + a2) q19).bind fun q31 => (F_M_swaps ((48 : Int32) + a1) ((48 : Int32) + a2) q31).bind fun q43 => (F_M_swaps ((80 : Int32) + a1) ((80 : Int32) + a2) q43).bind fun q55 => some q55
def J_M_check_74  (k37 : Int32 → Int32 → Int32 → Hp → Option (Int32 × Hp)) (x1 : Int32) (x2 : Int32) (x3 : Int32) (s0 : Int32) (s1 : Int32) (σ : Hp) : Option (Int32 × Hp) :=
  if s1 = s0 then (k37 x1 x2 (x3 + (1 : Int32)) σ) else (some (x3, σ))
def B_M_check_37  (k37 : Int32 → Int32 → Int32 → Hp → Option (Int32 × Hp)) (x1 : Int32) (x2 : Int32) (x3 : Int32) (σ : Hp) : Option (Int32 × Hp) :=
  if x2 ≤ x3 then (some ((-1 : Int32), σ)) else ((F_M_octet x3 σ).bind fun q44 => (F_M_isThere x1 x3 q44.2).bind fun q50 => if q50.1 = 0 then (J_M_check_74  k37 x1 x2 x3 (0 : Int32) q44.1 q50.2) else (gd (inb (((32 : Int32) + ((8 : Int32) * x1)) + x3) 100) (J_M_check_74  k37 x1 x2 x3 (q50.2 1 (Int32.toNatClampNeg (((32 : Int32) + ((8 : Int32) * x1)) + x3))) q44.1 q50.2)))
def L_M_check_37   : Nat → Int32 → Int32 → Int32 → Hp → Option (Int32 × Hp)
  | 0, _, _, _, _ => none
  | n + 1, x1, x2, x3, σ => B_M_check_37  (fun x1 x2 x3 σ => L_M_check_37   n x1 x2 x3 σ) x1 x2 x3 σ
def F_M_check  (a1 : Int32) (a2 : Int32) (σ : Hp) : Option (Int32 × Hp) :=
  (F_M_in a1 (0 : Int32) (1 : Int32) σ).bind fun q3 => if q3.1 = 0 then (some ((-2 : Int32), q3.2)) else ((F_M_in a2 (0 : Int32) (8 : Int32) q3.2).bind fun q13 => if q13.1 = 0 then (some ((-2 : Int32), q13.2)) else (if a2 ≤ (q13.2 0 6) then (L_M_check_37   FU a1 a2 (0 : Int32) (zu q13.2 0 6 (0 : Int32))) else (some ((-2 : Int32), q13.2))))
def F_M_waitTop   (σ : Hp) : Option (Int32 × Hp) :=
  if (σ 0 13) = 0 then (some ((-1 : Int32), σ)) else (gd (inb ((σ 0 13) - (1 : Int32)) 260) (some (((σ 8 (Int32.toNatClampNeg ((σ 0 13) - (1 : Int32)))) / (1048576 : Int32)), σ)))
def F_M_notes  (a1 : Int32) (a2 : Int32) (σ : Hp) : Option Hp :=
  gd (inb (σ 0 12) 260) (some (zu (zu σ 7 (Int32.toNatClampNeg (σ 0 12)) (((1048576 : Int32) * a1) + a2)) 0 12 (((zu σ 7 (Int32.toNatClampNeg (σ 0 12)) (((1048576 : Int32) * a1) + a2)) 0 12) + (1 : Int32))))
def J_M_closesSums_37  (k0 : Int32 → Hp → Option Hp) (x1 : Int32) (σ : Hp) : Option Hp :=
  (F_M_waitTop  σ).bind fun q39 => (F_M_notes q39.1 (0 : Int32) q39.2).bind fun q43 => k0 x1 (zu q43 0 13 ((q43 0 13) - (1 : Int32)))
def J_M_closesSums_17  (k0 : Int32 → Hp → Option Hp) (x1 : Int32) (σ : Hp) : Option Hp :=
  if x1 = 0 then (some σ) else ((F_M_waitTop  σ).bind fun q22 => if q22.1 = (2 : Int32) then (J_M_closesSums_37  k0 x1 q22.2) else ((F_M_waitTop  q22.2).bind fun q30 => if q30.1 = (3 : Int32) then (J_M_closesSums_37  k0 x1 q30.2) else (some q30.2)))
def B_M_closesSums_0  (k0 : Int32 → Hp → Option Hp) (x1 : Int32) (σ : Hp) : Option Hp :=
  (F_M_waitTop  σ).bind fun q1 => if q1.1 < (4 : Int32) then (J_M_closesSums_17  k0 x1 q1.2) else ((F_M_waitTop  q1.2).bind fun q9 => if q9.1 ≤ (6 : Int32) then (J_M_closesSums_37  k0 x1 q9.2) else (J_M_closesSums_17  k0 x1 q9.2))
def L_M_closesSums_0   : Nat → Int32 → Hp → Option Hp
  | 0, _, _ => none
  | n + 1, x1, σ => B_M_closesSums_0  (fun x1 σ => L_M_closesSums_0   n x1 σ) x1 σ
def F_M_closesSums  (a1 : Int32) (σ : Hp) : Option Hp :=
  L_M_closesSums_0   FU a1 σ
def F_M_column  (a1 : Int32) (a2 : Int32) (σ : Hp) : Option (Int32 × Hp) :=
  (F_M_in a1 (0 : Int32) (23 : Int32) σ).bind fun q4 => if q4.1 = 0 then (some ((0 : Int32), q4.2)) else ((F_M_in a2 (0 : Int32) (199 : Int32) q4.2).bind fun q15 => if q15.1 = 0 then (some ((0 : Int32), q15.2)) else (gd (inb a1 24) (some ((1 : Int32), (zu q15.2 5 (Int32.toNatClampNeg a1) a2)))))
def J_M_comesOut_23   (x1 : Int32) (σ : Hp) : Option Hp :=
  gd (inb ((80 : Int32) + x1) 100) (some (zu σ 1 (Int32.toNatClampNeg ((80 : Int32) + x1)) (0 : Int32)))
def F_M_comesOut  (a1 : Int32) (σ : Hp) : Option Hp :=
  gd (inb ((80 : Int32) + a1) 100) (if (σ 1 (Int32.toNatClampNeg ((80 : Int32) + a1))) = (2 : Int32) then (gd (inb ((32 : Int32) + a1) 100) (J_M_comesOut_23   a1 (zu σ 1 (Int32.toNatClampNeg ((32 : Int32) + a1)) (0 : Int32)))) else (J_M_comesOut_23   a1 σ))
def B_M_copies_2  (k2 : Nat → Nat → Nat → Nat → Int32 → Hp → Option Hp) (r0 : Nat) (r0n : Nat) (r1 : Nat) (r1n : Nat) (x2 : Int32) (σ : Hp) : Option Hp :=
  if (100 : Int32) ≤ x2 then (some σ) else (gd (inb x2 r0n) (gd (inb x2 r1n) (k2 r0 r0n r1 r1n (x2 + (1 : Int32)) (zu σ r1 (Int32.toNatClampNeg x2) (σ r0 (Int32.toNatClampNeg x2))))))
def L_M_copies_2   : Nat → Nat → Nat → Nat → Nat → Int32 → Hp → Option Hp
  | 0, _, _, _, _, _, _ => none
  | n + 1, r0, r0n, r1, r1n, x2, σ => B_M_copies_2  (fun r0 r0n r1 r1n x2 σ => L_M_copies_2   n r0 r0n r1 r1n x2 σ) r0 r0n r1 r1n x2 σ
def F_M_copies  (a0 : Nat) (a0n : Nat) (a1 : Nat) (a1n : Nat) (σ : Hp) : Option Hp :=
  L_M_copies_2   FU a0 a0n a1 a1n (0 : Int32) σ
def F_M_outside  (a1 : Int32) (σ : Hp) : Option (Int32 × Hp) :=
  (F_M_setOf a1 (0 : Int32) σ).bind fun q3 => (F_M_setOf a1 (1 : Int32) q3.2).bind fun q9 => some ((q3.1 ||| q9.1), q9.2)
def J_M_count_127   (x1 : Int32) (σ : Hp) : Option (Int32 × Hp) :=
  if (jrem x1 (10 : Int32)) = (0 : Int32) then ((F_M_outside ((x1 / (10 : Int32)) - (1 : Int32)) σ).bind fun q174 => (F_M_setOf ((x1 / (10 : Int32)) - (1 : Int32)) (2 : Int32) q174.2).bind fun q180 => some ((q174.1 ||| q180.1), q180.2)) else if (jrem x1 (10 : Int32)) = (1 : Int32) then ((F_M_setOf ((x1 / (10 : Int32)) - (1 : Int32)) (0 : Int32) σ).bind fun q188 => some (q188.1, q188.2)) else if (jrem x1 (10 : Int32)) = (2 : Int32) then ((F_M_setOf ((x1 / (10 : Int32)) - (1 : Int32)) (1 : Int32) σ).bind fun q195 => some (q195.1, q195.2)) else if (jrem x1 (10 : Int32)) = (3 : Int32) then ((F_M_setOf ((x1 / (10 : Int32)) - (1 : Int32)) (2 : Int32) σ).bind fun q202 => some (q202.1, q202.2)) else if (jrem x1 (10 : Int32)) = (4 : Int32) then (gd (inb ((x1 / (10 : Int32)) - (1 : Int32)) 2) (some ((σ 4 (Int32.toNatClampNeg ((x1 / (10 : Int32)) - (1 : Int32)))), σ))) else (gd (inb ((x1 / (10 : Int32)) - (1 : Int32)) 2) (some ((σ 21 (Int32.toNatClampNeg ((x1 / (10 : Int32)) - (1 : Int32)))), σ)))
def F_M_count  (a1 : Int32) (σ : Hp) : Option (Int32 × Hp) :=
  if a1 = (0 : Int32) then (gd (inb (97 : Int32) 100) (some ((σ 1 (Int32.toNatClampNeg (97 : Int32))), σ))) else if a1 = (1 : Int32) then (gd (inb (96 : Int32) 100) (some ((σ 1 (Int32.toNatClampNeg (96 : Int32))), σ))) else if a1 = (2 : Int32) then (gd (inb (98 : Int32) 100) (some ((σ 1 (Int32.toNatClampNeg (98 : Int32))), σ))) else if a1 = (3 : Int32) then (some ((σ 0 15), σ)) else if a1 = (4 : Int32) then (some ((σ 0 6), σ)) else if a1 = (5 : Int32) then (gd (inb (99 : Int32) 100) (some ((σ 1 (Int32.toNatClampNeg (99 : Int32))), σ))) else ((F_M_in a1 (100 : Int32) (123 : Int32) σ).bind fun q87 => if q87.1 = 0 then ((F_M_in a1 (10 : Int32) (15 : Int32) q87.2).bind fun q108 => if q108.1 = 0 then ((F_M_in a1 (20 : Int32) (25 : Int32) q108.2).bind fun q119 => if q119.1 = 0 then (some ((-1 : Int32), q119.2)) else (J_M_count_127   a1 q119.2)) else (J_M_count_127   a1 q108.2)) else (gd (inb (a1 - (100 : Int32)) 24) (some ((q87.2 5 (Int32.toNatClampNeg (a1 - (100 : Int32)))), q87.2))))
def F_M_draws   (σ : Hp) : Option Hp :=
  gd (inb (99 : Int32) 100) (gd (inb (99 : Int32) 100) (some (zu σ 1 (Int32.toNatClampNeg (99 : Int32)) (jrem (((25173 : Int32) * (σ 1 (Int32.toNatClampNeg (99 : Int32)))) + (13849 : Int32)) (65536 : Int32)))))
def B_M_endsPiece_0  (k0 : Hp → Option Hp)  (σ : Hp) : Option Hp :=
  (F_M_waitTop  σ).bind fun q1 => if q1.1 = (10 : Int32) then ((F_M_notes (10 : Int32) (0 : Int32) q1.2).bind fun q13 => k0  (zu (zu q13 0 13 ((q13 0 13) - (1 : Int32))) 0 11 (((zu q13 0 13 ((q13 0 13) - (1 : Int32))) 0 11) - (1 : Int32)))) else (some q1.2)
def L_M_endsPiece_0   : Nat → Hp → Option Hp
  | 0, _ => none
  | n + 1, σ => B_M_endsPiece_0  (fun σ => L_M_endsPiece_0   n σ)  σ
def F_M_endsPiece   (σ : Hp) : Option Hp :=
  L_M_endsPiece_0   FU  σ
def F_M_factOf  (a0 : Int32) (σ : Hp) : Option (Int32 × Hp) :=
  if a0 = (97 : Int32) then (some ((3 : Int32), σ)) else if a0 = (99 : Int32) then (some ((1 : Int32), σ)) else if a0 = (100 : Int32) then (some ((10 : Int32), σ)) else if a0 = (104 : Int32) then (some ((9 : Int32), σ)) else if a0 = (107 : Int32) then (some ((2 : Int32), σ)) else if a0 = (108 : Int32) then (some ((4 : Int32), σ)) else if a0 = (110 : Int32) then (some ((6 : Int32), σ)) else if a0 = (111 : Int32) then (some ((7 : Int32), σ)) else if a0 = (115 : Int32) then (some ((0 : Int32), σ)) else if a0 = (117 : Int32) then (some ((5 : Int32), σ)) else if a0 = (118 : Int32) then (some ((8 : Int32), σ)) else (some ((-1 : Int32), σ))
def B_M_types_2  (k2 : Int32 → Int32 → Hp → Option Hp) (x1 : Int32) (x2 : Int32) (σ : Hp) : Option Hp :=
  if x2 < 0 then (some σ) else (gd (inb (σ 0 6) 260) (k2 x1 (x2 + (-1 : Int32)) (zu (zu σ 6 (Int32.toNatClampNeg (σ 0 6)) (vp_nar .byte (Int8.toInt32 (Int32.toInt8 (x1 >>> (((8 : Int32) * x2) &&& 31)))))) 0 6 (((zu σ 6 (Int32.toNatClampNeg (σ 0 6)) (vp_nar .byte (Int8.toInt32 (Int32.toInt8 (x1 >>> (((8 : Int32) * x2) &&& 31)))))) 0 6) + (1 : Int32)))))
def L_M_types_2   : Nat → Int32 → Int32 → Hp → Option Hp
  | 0, _, _, _ => none
  | n + 1, x1, x2, σ => B_M_types_2  (fun x1 x2 σ => L_M_types_2   n x1 x2 σ) x1 x2 σ
def F_M_types  (a1 : Int32) (σ : Hp) : Option Hp :=
  L_M_types_2   FU a1 (3 : Int32) σ
def F_M_feed  (a1 : Int32) (a2 : Int32) (a3 : Int32) (a4 : Int32) (a5 : Int32) (σ : Hp) : Option (Int32 × Hp) :=
  if ((σ 0 6) + (20 : Int32)) ≤ (260 : Int32) then ((F_M_types a1 σ).bind fun q17 => (F_M_types a2 q17).bind fun q22 => (F_M_types a3 q22).bind fun q27 => (F_M_types a4 q27).bind fun q33 => (F_M_types a5 q33).bind fun q39 => some ((q39 0 6), q39)) else (some ((-1 : Int32), σ))
def F_M_feels  (a1 : Int32) (σ : Hp) : Option Hp :=
  gd (inb (0 : Int32) 11) (gd (inb (1 : Int32) 11) (gd (inb ((16 : Int32) + a1) 100) (gd (inb (2 : Int32) 11) (gd (inb ((32 : Int32) + a1) 100) (gd (inb (3 : Int32) 11) (gd (inb ((48 : Int32) + a1) 100) (gd (inb (4 : Int32) 11) (gd (inb ((64 : Int32) + a1) 100) (gd (inb (5 : Int32) 11) ((F_M_setOf (a1 / (8 : Int32)) (0 : Int32) (zu (zu (zu (zu (zu (zu σ 19 (Int32.toNatClampNeg (0 : Int32)) (a1 / (8 : Int32))) 19 (Int32.toNatClampNeg (1 : Int32)) (jrem a1 (8 : Int32))) 19 (Int32.toNatClampNeg (2 : Int32)) ((zu (zu σ 19 (Int32.toNatClampNeg (0 : Int32)) (a1 / (8 : Int32))) 19 (Int32.toNatClampNeg (1 : Int32)) (jrem a1 (8 : Int32))) 1 (Int32.toNatClampNeg ((16 : Int32) + a1)))) 19 (Int32.toNatClampNeg (3 : Int32)) ((zu (zu (zu σ 19 (Int32.toNatClampNeg (0 : Int32)) (a1 / (8 : Int32))) 19 (Int32.toNatClampNeg (1 : Int32)) (jrem a1 (8 : Int32))) 19 (Int32.toNatClampNeg (2 : Int32)) ((zu (zu σ 19 (Int32.toNatClampNeg (0 : Int32)) (a1 / (8 : Int32))) 19 (Int32.toNatClampNeg (1 : Int32)) (jrem a1 (8 : Int32))) 1 (Int32.toNatClampNeg ((16 : Int32) + a1)))) 1 (Int32.toNatClampNeg ((32 : Int32) + a1)))) 19 (Int32.toNatClampNeg (4 : Int32)) ((zu (zu (zu (zu σ 19 (Int32.toNatClampNeg (0 : Int32)) (a1 / (8 : Int32))) 19 (Int32.toNatClampNeg (1 : Int32)) (jrem a1 (8 : Int32))) 19 (Int32.toNatClampNeg (2 : Int32)) ((zu (zu σ 19 (Int32.toNatClampNeg (0 : Int32)) (a1 / (8 : Int32))) 19 (Int32.toNatClampNeg (1 : Int32)) (jrem a1 (8 : Int32))) 1 (Int32.toNatClampNeg ((16 : Int32) + a1)))) 19 (Int32.toNatClampNeg (3 : Int32)) ((zu (zu (zu σ 19 (Int32.toNatClampNeg (0 : Int32)) (a1 / (8 : Int32))) 19 (Int32.toNatClampNeg (1 : Int32)) (jrem a1 (8 : Int32))) 19 (Int32.toNatClampNeg (2 : Int32)) ((zu (zu σ 19 (Int32.toNatClampNeg (0 : Int32)) (a1 / (8 : Int32))) 19 (Int32.toNatClampNeg (1 : Int32)) (jrem a1 (8 : Int32))) 1 (Int32.toNatClampNeg ((16 : Int32) + a1)))) 1 (Int32.toNatClampNeg ((32 : Int32) + a1)))) 1 (Int32.toNatClampNeg ((48 : Int32) + a1)))) 19 (Int32.toNatClampNeg (5 : Int32)) ((zu (zu (zu (zu (zu σ 19 (Int32.toNatClampNeg (0 : Int32)) (a1 / (8 : Int32))) 19 (Int32.toNatClampNeg (1 : Int32)) (jrem a1 (8 : Int32))) 19 (Int32.toNatClampNeg (2 : Int32)) ((zu (zu σ 19 (Int32.toNatClampNeg (0 : Int32)) (a1 / (8 : Int32))) 19 (Int32.toNatClampNeg (1 : Int32)) (jrem a1 (8 : Int32))) 1 (Int32.toNatClampNeg ((16 : Int32) + a1)))) 19 (Int32.toNatClampNeg (3 : Int32)) ((zu (zu (zu σ 19 (Int32.toNatClampNeg (0 : Int32)) (a1 / (8 : Int32))) 19 (Int32.toNatClampNeg (1 : Int32)) (jrem a1 (8 : Int32))) 19 (Int32.toNatClampNeg (2 : Int32)) ((zu (zu σ 19 (Int32.toNatClampNeg (0 : Int32)) (a1 / (8 : Int32))) 19 (Int32.toNatClampNeg (1 : Int32)) (jrem a1 (8 : Int32))) 1 (Int32.toNatClampNeg ((16 : Int32) + a1)))) 1 (Int32.toNatClampNeg ((32 : Int32) + a1)))) 19 (Int32.toNatClampNeg (4 : Int32)) ((zu (zu (zu (zu σ 19 (Int32.toNatClampNeg (0 : Int32)) (a1 / (8 : Int32))) 19 (Int32.toNatClampNeg (1 : Int32)) (jrem a1 (8 : Int32))) 19 (Int32.toNatClampNeg (2 : Int32)) ((zu (zu σ 19 (Int32.toNatClampNeg (0 : Int32)) (a1 / (8 : Int32))) 19 (Int32.toNatClampNeg (1 : Int32)) (jrem a1 (8 : Int32))) 1 (Int32.toNatClampNeg ((16 : Int32) + a1)))) 19 (Int32.toNatClampNeg (3 : Int32)) ((zu (zu (zu σ 19 (Int32.toNatClampNeg (0 : Int32)) (a1 / (8 : Int32))) 19 (Int32.toNatClampNeg (1 : Int32)) (jrem a1 (8 : Int32))) 19 (Int32.toNatClampNeg (2 : Int32)) ((zu (zu σ 19 (Int32.toNatClampNeg (0 : Int32)) (a1 / (8 : Int32))) 19 (Int32.toNatClampNeg (1 : Int32)) (jrem a1 (8 : Int32))) 1 (Int32.toNatClampNeg ((16 : Int32) + a1)))) 1 (Int32.toNatClampNeg ((32 : Int32) + a1)))) 1 (Int32.toNatClampNeg ((48 : Int32) + a1)))) 1 (Int32.toNatClampNeg ((64 : Int32) + a1))))).bind fun q91 => (F_M_bits q91.1 q91.2).bind fun q94 => gd (inb (6 : Int32) 11) ((F_M_setOf ((1 : Int32) - (a1 / (8 : Int32))) (0 : Int32) (zu q94.2 19 (Int32.toNatClampNeg (6 : Int32)) q94.1)).bind fun q109 => (F_M_bits q109.1 q109.2).bind fun q112 => gd (inb (7 : Int32) 11) ((F_M_seenBy a1 (zu q112.2 19 (Int32.toNatClampNeg (7 : Int32)) q112.1)).bind fun q124 => (F_M_bits q124.1 q124.2).bind fun q127 => gd (inb (8 : Int32) 11) (gd (inb (96 : Int32) 100) (gd (inb (9 : Int32) 11) (gd (inb (97 : Int32) 100) (gd (inb (10 : Int32) 11) (some (zu (zu (zu q127.2 19 (Int32.toNatClampNeg (8 : Int32)) q127.1) 19 (Int32.toNatClampNeg (9 : Int32)) ((zu q127.2 19 (Int32.toNatClampNeg (8 : Int32)) q127.1) 1 (Int32.toNatClampNeg (96 : Int32)))) 19 (Int32.toNatClampNeg (10 : Int32)) (jrem ((zu (zu q127.2 19 (Int32.toNatClampNeg (8 : Int32)) q127.1) 19 (Int32.toNatClampNeg (9 : Int32)) ((zu q127.2 19 (Int32.toNatClampNeg (8 : Int32)) q127.1) 1 (Int32.toNatClampNeg (96 : Int32)))) 1 (Int32.toNatClampNeg (97 : Int32))) (100 : Int32))))))))))))))))))))
def F_M_max  (a0 : Int32) (a1 : Int32) (σ : Hp) : Option (Int32 × Hp) :=
  if a0 ≤ a1 then (some (a1, σ)) else (some (a0, σ))
def B_M_holdsAny_2  (k2 : Int32 → Int32 → Hp → Option (Int32 × Hp)) (x1 : Int32) (x2 : Int32) (σ : Hp) : Option (Int32 × Hp) :=
  if (σ 0 15) ≤ x2 then (some ((0 : Int32), σ)) else (gd (inb x2 16) (if (σ 14 (Int32.toNatClampNeg x2)) = x1 then (gd (inb x2 16) (gd (inb x2 16) ((F_M_comesTo (σ 16 (Int32.toNatClampNeg x2)) (σ 17 (Int32.toNatClampNeg x2)) σ).bind fun q33 => if q33.1 = (1 : Int32) then (some ((1 : Int32), q33.2)) else (k2 x1 (x2 + (1 : Int32)) q33.2)))) else (k2 x1 (x2 + (1 : Int32)) σ)))
def L_M_holdsAny_2   : Nat → Int32 → Int32 → Hp → Option (Int32 × Hp)
  | 0, _, _, _ => none
  | n + 1, x1, x2, σ => B_M_holdsAny_2  (fun x1 x2 σ => L_M_holdsAny_2   n x1 x2 σ) x1 x2 σ
def F_M_holdsAny  (a1 : Int32) (σ : Hp) : Option (Int32 × Hp) :=
  L_M_holdsAny_2   FU a1 (0 : Int32) σ
def F_M_goesIn  (a1 : Int32) (σ : Hp) : Option Hp :=
  gd (inb ((80 : Int32) + a1) 100) (gd (inb a1 16) (if ((zu (zu (zu σ 1 (Int32.toNatClampNeg ((80 : Int32) + a1)) (2 : Int32)) 0 40 (((zu σ 1 (Int32.toNatClampNeg ((80 : Int32) + a1)) (2 : Int32)) 0 40) + (1 : Int32))) 26 (Int32.toNatClampNeg a1) ((zu (zu σ 1 (Int32.toNatClampNeg ((80 : Int32) + a1)) (2 : Int32)) 0 40 (((zu σ 1 (Int32.toNatClampNeg ((80 : Int32) + a1)) (2 : Int32)) 0 40) + (1 : Int32))) 0 45)) 0 43) = (-1 : Int32) then (some (zu (zu (zu (zu (zu σ 1 (Int32.toNatClampNeg ((80 : Int32) + a1)) (2 : Int32)) 0 40 (((zu σ 1 (Int32.toNatClampNeg ((80 : Int32) + a1)) (2 : Int32)) 0 40) + (1 : Int32))) 26 (Int32.toNatClampNeg a1) ((zu (zu σ 1 (Int32.toNatClampNeg ((80 : Int32) + a1)) (2 : Int32)) 0 40 (((zu σ 1 (Int32.toNatClampNeg ((80 : Int32) + a1)) (2 : Int32)) 0 40) + (1 : Int32))) 0 45)) 0 43 a1) 0 44 ((zu (zu (zu (zu σ 1 (Int32.toNatClampNeg ((80 : Int32) + a1)) (2 : Int32)) 0 40 (((zu σ 1 (Int32.toNatClampNeg ((80 : Int32) + a1)) (2 : Int32)) 0 40) + (1 : Int32))) 26 (Int32.toNatClampNeg a1) ((zu (zu σ 1 (Int32.toNatClampNeg ((80 : Int32) + a1)) (2 : Int32)) 0 40 (((zu σ 1 (Int32.toNatClampNeg ((80 : Int32) + a1)) (2 : Int32)) 0 40) + (1 : Int32))) 0 45)) 0 43 a1) 0 45))) else (some (zu (zu (zu σ 1 (Int32.toNatClampNeg ((80 : Int32) + a1)) (2 : Int32)) 0 40 (((zu σ 1 (Int32.toNatClampNeg ((80 : Int32) + a1)) (2 : Int32)) 0 40) + (1 : Int32))) 26 (Int32.toNatClampNeg a1) ((zu (zu σ 1 (Int32.toNatClampNeg ((80 : Int32) + a1)) (2 : Int32)) 0 40 (((zu σ 1 (Int32.toNatClampNeg ((80 : Int32) + a1)) (2 : Int32)) 0 40) + (1 : Int32))) 0 45)))))
def J_M_turnOf_137   (x1 : Int32) (σ : Hp) : Option Hp :=
  (F_M_goesIn x1 σ).bind fun q139 => some q139
def F_M_turnOf  (a1 : Int32) (σ : Hp) : Option Hp :=
  (F_M_feels a1 σ).bind fun q2 => (F_M_byLaw (98 : Int32) (99 : Int32) q2).bind fun q10 => (F_M_byLaw (116 : Int32) (99 : Int32) q10.2).bind fun q19 => gd (inb ((48 : Int32) + a1) 100) (gd (inb ((32 : Int32) + a1) 100) ((F_M_min (99 : Int32) ((q19.2 1 (Int32.toNatClampNeg ((32 : Int32) + a1))) + q10.1) q19.2).bind fun q55 => gd (inb ((32 : Int32) + a1) 100) ((F_M_max (0 : Int32) ((q19.2 1 (Int32.toNatClampNeg ((48 : Int32) + a1))) - q19.1) (zu q55.2 1 (Int32.toNatClampNeg ((32 : Int32) + a1)) q55.1)).bind fun q72 => gd (inb ((48 : Int32) + a1) 100) (gd (inb ((48 : Int32) + a1) 100) ((F_M_feels a1 (zu (zu q72.2 1 (Int32.toNatClampNeg ((48 : Int32) + a1)) q72.1) 0 42 ((((zu q72.2 1 (Int32.toNatClampNeg ((48 : Int32) + a1)) q72.1) 0 42) + (q19.2 1 (Int32.toNatClampNeg ((48 : Int32) + a1)))) - ((zu q72.2 1 (Int32.toNatClampNeg ((48 : Int32) + a1)) q72.1) 1 (Int32.toNatClampNeg ((48 : Int32) + a1)))))).bind fun q99 => gd (inb ((32 : Int32) + a1) 100) (if (q99 1 (Int32.toNatClampNeg ((32 : Int32) + a1))) = (99 : Int32) then (J_M_turnOf_137   a1 q99) else (gd (inb ((48 : Int32) + a1) 100) (if (q99 1 (Int32.toNatClampNeg ((48 : Int32) + a1))) = 0 then (J_M_turnOf_137   a1 q99) else ((F_M_holdsAny (120 : Int32) q99).bind fun q131 => if q131.1 = 0 then ((F_M_byLaw (119 : Int32) (10 : Int32) q131.2).bind fun q148 => (F_M_draws  q148.2).bind fun q154 => gd (inb (99 : Int32) 100) (if (jrem (q154 1 (Int32.toNatClampNeg (99 : Int32))) (10 : Int32)) < q148.1 then (gd (inb ((80 : Int32) + a1) 100) (some (zu (zu q154 1 (Int32.toNatClampNeg ((80 : Int32) + a1)) (1 : Int32)) 0 41 (((zu q154 1 (Int32.toNatClampNeg ((80 : Int32) + a1)) (1 : Int32)) 0 41) + (1 : Int32))))) else (some q154))) else (J_M_turnOf_137   a1 q131.2))))))))))
def B_M_watchGoes_24  (k71 : Int32 → Int32 → Hp → Option Hp) (k24 : Int32 → Int32 → Int32 → Hp → Option Hp) (x1 : Int32) (x2 : Int32) (x3 : Int32) (σ : Hp) : Option Hp :=
  if (16 : Int32) ≤ x3 then (k71 x1 x2 σ) else (gd (inb ((0 : Int32) + x3) 100) (if (σ 1 (Int32.toNatClampNeg ((0 : Int32) + x3))) = (1 : Int32) then (gd (inb ((80 : Int32) + x3) 100) (if (σ 1 (Int32.toNatClampNeg ((80 : Int32) + x3))) = (1 : Int32) then (gd (inb ((80 : Int32) + x3) 100) (k24 x1 x2 (x3 + (1 : Int32)) (zu σ 1 (Int32.toNatClampNeg ((80 : Int32) + x3)) (0 : Int32)))) else (k24 x1 x2 (x3 + (1 : Int32)) σ))) else (k24 x1 x2 (x3 + (1 : Int32)) σ)))
def L_M_watchGoes_24  (k71 : Int32 → Int32 → Hp → Option Hp) : Nat → Int32 → Int32 → Int32 → Hp → Option Hp
  | 0, _, _, _, _ => none
  | n + 1, x1, x2, x3, σ => B_M_watchGoes_24  k71 (fun x1 x2 x3 σ => L_M_watchGoes_24  k71 n x1 x2 x3 σ) x1 x2 x3 σ
def B_M_watchGoes_73  (k98 : Int32 → Int32 → Hp → Option Hp) (k73 : Int32 → Int32 → Int32 → Hp → Option Hp) (x1 : Int32) (x2 : Int32) (x3 : Int32) (σ : Hp) : Option Hp :=
  if (16 : Int32) ≤ x3 then (k98 x1 x2 σ) else ((F_M_sitsIn x3 σ).bind fun q81 => if q81.1 = 0 then (k73 x1 x2 (x3 + (1 : Int32)) q81.2) else ((F_M_turnOf x3 q81.2).bind fun q89 => k73 x1 x2 (x3 + (1 : Int32)) q89))
def L_M_watchGoes_73  (k98 : Int32 → Int32 → Hp → Option Hp) : Nat → Int32 → Int32 → Int32 → Hp → Option Hp
  | 0, _, _, _, _ => none
  | n + 1, x1, x2, x3, σ => B_M_watchGoes_73  k98 (fun x1 x2 x3 σ => L_M_watchGoes_73  k98 n x1 x2 x3 σ) x1 x2 x3 σ
def J_M_watchGoes_154    (σ : Hp) : Option Hp :=
  gd (inb (96 : Int32) 100) (gd (inb (96 : Int32) 100) (gd (inb (96 : Int32) 100) (if (6 : Int32) ≤ ((zu σ 1 (Int32.toNatClampNeg (96 : Int32)) ((σ 1 (Int32.toNatClampNeg (96 : Int32))) + (1 : Int32))) 1 (Int32.toNatClampNeg (96 : Int32))) then (gd (inb (96 : Int32) 100) (gd (inb (97 : Int32) 100) (gd (inb (97 : Int32) 100) (some (zu (zu (zu σ 1 (Int32.toNatClampNeg (96 : Int32)) ((σ 1 (Int32.toNatClampNeg (96 : Int32))) + (1 : Int32))) 1 (Int32.toNatClampNeg (96 : Int32)) (0 : Int32)) 1 (Int32.toNatClampNeg (97 : Int32)) (((zu (zu σ 1 (Int32.toNatClampNeg (96 : Int32)) ((σ 1 (Int32.toNatClampNeg (96 : Int32))) + (1 : Int32))) 1 (Int32.toNatClampNeg (96 : Int32)) (0 : Int32)) 1 (Int32.toNatClampNeg (97 : Int32))) + (1 : Int32))))))) else (some (zu σ 1 (Int32.toNatClampNeg (96 : Int32)) ((σ 1 (Int32.toNatClampNeg (96 : Int32))) + (1 : Int32)))))))
def J_M_watchGoes_126   (x2 : Int32) (σ : Hp) : Option Hp :=
  if x2 = 0 then (J_M_watchGoes_154    σ) else ((F_M_outside (1 : Int32) σ).bind fun q132 => if q132.1 = 0 then (gd (inb (98 : Int32) 100) (gd (inb (98 : Int32) 100) (J_M_watchGoes_154    (zu q132.2 1 (Int32.toNatClampNeg (98 : Int32)) ((q132.2 1 (Int32.toNatClampNeg (98 : Int32))) ||| (2 : Int32)))))) else (J_M_watchGoes_154    q132.2))
def J_M_watchGoes_98   (x1 : Int32) (x2 : Int32) (σ : Hp) : Option Hp :=
  if x1 = 0 then (J_M_watchGoes_126   x2 σ) else ((F_M_outside (0 : Int32) σ).bind fun q104 => if q104.1 = 0 then (gd (inb (98 : Int32) 100) (gd (inb (98 : Int32) 100) (J_M_watchGoes_126   x2 (zu q104.2 1 (Int32.toNatClampNeg (98 : Int32)) ((q104.2 1 (Int32.toNatClampNeg (98 : Int32))) ||| (1 : Int32)))))) else (J_M_watchGoes_126   x2 q104.2))
def J_M_watchGoes_71   (x1 : Int32) (x2 : Int32) (σ : Hp) : Option Hp :=
  L_M_watchGoes_73  (J_M_watchGoes_98) FU x1 x2 (0 : Int32) σ
def F_M_watchGoes   (σ : Hp) : Option Hp :=
  (F_M_outside (0 : Int32) (zu σ 0 45 ((σ 0 45) + (1 : Int32)))).bind fun q12 => (F_M_outside (1 : Int32) q12.2).bind fun q18 => L_M_watchGoes_24  (J_M_watchGoes_71) FU q12.1 q18.1 (0 : Int32) q18.2
def B_M_watchesGo_33  (k53 : Int32 → Hp → Option Hp) (k33 : Int32 → Int32 → Hp → Option Hp) (x1 : Int32) (x2 : Int32) (σ : Hp) : Option Hp :=
  if (16 : Int32) ≤ x2 then (k53 x1 σ) else (gd (inb x2 16) (k33 x1 (x2 + (1 : Int32)) (zu σ 26 (Int32.toNatClampNeg x2) (-2 : Int32))))
def L_M_watchesGo_33  (k53 : Int32 → Hp → Option Hp) : Nat → Int32 → Int32 → Hp → Option Hp
  | 0, _, _, _ => none
  | n + 1, x1, x2, σ => B_M_watchesGo_33  k53 (fun x1 x2 σ => L_M_watchesGo_33  k53 n x1 x2 σ) x1 x2 σ
def B_M_watchesGo_55  (k55 : Int32 → Int32 → Hp → Option Hp) (x1 : Int32) (x2 : Int32) (σ : Hp) : Option Hp :=
  if x1 ≤ x2 then (some σ) else (gd (inb (98 : Int32) 100) (if (σ 1 (Int32.toNatClampNeg (98 : Int32))) = 0 then (gd (inb (97 : Int32) 100) (if (9999 : Int32) ≤ (σ 1 (Int32.toNatClampNeg (97 : Int32))) then (some σ) else ((F_M_watchGoes  σ).bind fun q84 => k55 x1 (x2 + (1 : Int32)) q84))) else (some σ)))
def L_M_watchesGo_55   : Nat → Int32 → Int32 → Hp → Option Hp
  | 0, _, _, _ => none
  | n + 1, x1, x2, σ => B_M_watchesGo_55  (fun x1 x2 σ => L_M_watchesGo_55   n x1 x2 σ) x1 x2 σ
def J_M_watchesGo_53   (x1 : Int32) (σ : Hp) : Option Hp :=
  L_M_watchesGo_55   FU x1 (0 : Int32) σ
def F_M_watchesGo  (a1 : Int32) (σ : Hp) : Option Hp :=
  L_M_watchesGo_33  (J_M_watchesGo_53) FU a1 (0 : Int32) (zu (zu (zu (zu (zu (zu σ 0 40 (0 : Int32)) 0 41 (0 : Int32)) 0 42 (0 : Int32)) 0 43 (-1 : Int32)) 0 44 (-2 : Int32)) 0 45 (0 : Int32))
def F_M_triesWatches  (a1 : Int32) (σ : Hp) : Option Hp :=
  (F_M_copies 1 100 2 100 σ).bind fun q8 => (F_M_watchesGo a1 q8).bind fun q13 => some q13
def F_M_first  (a1 : Int32) (a2 : Int32) (σ : Hp) : Option (Int32 × Hp) :=
  (F_M_in a1 (1 : Int32) (120 : Int32) σ).bind fun q4 => if q4.1 = 0 then (some ((-1 : Int32), q4.2)) else ((F_M_in a2 (0 : Int32) (2 : Int32) q4.2).bind fun q13 => if q13.1 = 0 then (some ((-1 : Int32), q13.2)) else ((F_M_triesWatches a1 q13.2).bind fun q23 => (F_M_copies 2 100 1 100 q23).bind fun q34 => if (q34 0 43) = (-1 : Int32) then (some ((-2 : Int32), q34)) else (if a2 = 0 then (some (((q34 0 43) / (8 : Int32)), q34)) else (if a2 = (1 : Int32) then (some ((jrem (q34 0 43) (8 : Int32)), q34)) else (some ((q34 0 44), q34))))))
def F_M_floor  (a1 : Int32) (a2 : Int32) (σ : Hp) : Option (Int32 × Hp) :=
  (F_M_in a1 (0 : Int32) (1 : Int32) σ).bind fun q3 => if q3.1 = 0 then (some ((0 : Int32), q3.2)) else ((F_M_in a2 (0 : Int32) (99 : Int32) q3.2).bind fun q13 => if q13.1 = 0 then (some ((0 : Int32), q13.2)) else (gd (inb a1 2) (some ((1 : Int32), (zu q13.2 4 (Int32.toNatClampNeg a1) a2)))))
def B_M_gcd_4  (k4 : Int32 → Int32 → Hp → Option (Int32 × Hp)) (x2 : Int32) (x3 : Int32) (σ : Hp) : Option (Int32 × Hp) :=
  if x3 = 0 then (some (x2, σ)) else (gd (nz x3) (k4 x3 (jrem x2 x3) σ))
def L_M_gcd_4   : Nat → Int32 → Int32 → Hp → Option (Int32 × Hp)
  | 0, _, _, _ => none
  | n + 1, x2, x3, σ => B_M_gcd_4  (fun x2 x3 σ => L_M_gcd_4   n x2 x3 σ) x2 x3 σ
def F_M_gcd  (a0 : Int32) (a1 : Int32) (σ : Hp) : Option (Int32 × Hp) :=
  L_M_gcd_4   FU a0 a1 σ
def F_M_size  (a0 : Int32) (σ : Hp) : Option (Int32 × Hp) :=
  if 0 ≤ a0 then (some (a0, σ)) else (some ((0 - a0), σ))
def B_M_laysGlasses_2  (k26 : Int32 → Int32 → Hp → Option Hp) (k2 : Int32 → Int32 → Int32 → Hp → Option Hp) (x1 : Int32) (x2 : Int32) (x3 : Int32) (σ : Hp) : Option Hp :=
  if (256 : Int32) ≤ x3 then (k26 x1 x2 σ) else (gd (inb ((2048 : Int32) + x3) 2304) (k2 x1 x2 (x3 + (1 : Int32)) (zu σ 27 (Int32.toNatClampNeg ((2048 : Int32) + x3)) (0 : Int32))))
def L_M_laysGlasses_2  (k26 : Int32 → Int32 → Hp → Option Hp) : Nat → Int32 → Int32 → Int32 → Hp → Option Hp
  | 0, _, _, _, _ => none
  | n + 1, x1, x2, x3, σ => B_M_laysGlasses_2  k26 (fun x1 x2 x3 σ => L_M_laysGlasses_2  k26 n x1 x2 x3 σ) x1 x2 x3 σ
def B_M_laysGlasses_80  (k153 : Int32 → Int32 → Int32 → Int32 → Int32 → Hp → Option Hp) (k80 : Int32 → Int32 → Int32 → Int32 → Int32 → Int32 → Hp → Option Hp) (x1 : Int32) (x2 : Int32) (x3 : Int32) (x4 : Int32) (x5 : Int32) (x6 : Int32) (σ : Hp) : Option Hp :=
  if (8 : Int32) ≤ x6 then (k153 x1 x2 x3 x4 x5 σ) else ((F_M_has x1 x3 σ).bind fun q89 => if q89.1 = 0 then (k80 x1 x2 x3 x4 x5 (x6 + (1 : Int32)) q89.2) else ((F_M_has (x2 &&& (x4 ^^^ (-1 : Int32))) x6 q89.2).bind fun q103 => if q103.1 = 0 then (k80 x1 x2 x3 x4 x5 (x6 + (1 : Int32)) q103.2) else (gd (inb (((256 : Int32) * (x3 + (1 : Int32))) + (x4 ||| ((1 : Int32) <<< (x6 &&& 31)))) 2304) ((F_M_size (x3 - x6) q103.2).bind fun q138 => (F_M_min x5 ((q103.2 27 (Int32.toNatClampNeg (((256 : Int32) * (x3 + (1 : Int32))) + (x4 ||| ((1 : Int32) <<< (x6 &&& 31)))))) + q138.1) q138.2).bind fun q142 => k80 x1 x2 x3 x4 q142.1 (x6 + (1 : Int32)) q142.2))))
def L_M_laysGlasses_80  (k153 : Int32 → Int32 → Int32 → Int32 → Int32 → Hp → Option Hp) : Nat → Int32 → Int32 → Int32 → Int32 → Int32 → Int32 → Hp → Option Hp
  | 0, _, _, _, _, _, _, _ => none
  | n + 1, x1, x2, x3, x4, x5, x6, σ => B_M_laysGlasses_80  k153 (fun x1 x2 x3 x4 x5 x6 σ => L_M_laysGlasses_80  k153 n x1 x2 x3 x4 x5 x6 σ) x1 x2 x3 x4 x5 x6 σ
def J_M_laysGlasses_153  (k36 : Int32 → Int32 → Int32 → Int32 → Hp → Option Hp) (x1 : Int32) (x2 : Int32) (x3 : Int32) (x4 : Int32) (x5 : Int32) (σ : Hp) : Option Hp :=
  gd (inb (((256 : Int32) * x3) + x4) 2304) (k36 x1 x2 x3 (x4 + (1 : Int32)) (zu σ 27 (Int32.toNatClampNeg (((256 : Int32) * x3) + x4)) x5))
def B_M_laysGlasses_36  (k174 : Int32 → Int32 → Int32 → Hp → Option Hp) (k36 : Int32 → Int32 → Int32 → Int32 → Hp → Option Hp) (x1 : Int32) (x2 : Int32) (x3 : Int32) (x4 : Int32) (σ : Hp) : Option Hp :=
  if (256 : Int32) ≤ x4 then (k174 x1 x2 x3 σ) else (gd (inb (((256 : Int32) * (x3 + (1 : Int32))) + x4) 2304) ((F_M_has x1 x3 σ).bind fun q61 => if q61.1 = 0 then (L_M_laysGlasses_80  (J_M_laysGlasses_153  k36) FU x1 x2 x3 x4 ((σ 27 (Int32.toNatClampNeg (((256 : Int32) * (x3 + (1 : Int32))) + x4))) + (0 : Int32)) (0 : Int32) q61.2) else (L_M_laysGlasses_80  (J_M_laysGlasses_153  k36) FU x1 x2 x3 x4 ((σ 27 (Int32.toNatClampNeg (((256 : Int32) * (x3 + (1 : Int32))) + x4))) + (1000 : Int32)) (0 : Int32) q61.2)))
def L_M_laysGlasses_36  (k174 : Int32 → Int32 → Int32 → Hp → Option Hp) : Nat → Int32 → Int32 → Int32 → Int32 → Hp → Option Hp
  | 0, _, _, _, _, _ => none
  | n + 1, x1, x2, x3, x4, σ => B_M_laysGlasses_36  k174 (fun x1 x2 x3 x4 σ => L_M_laysGlasses_36  k174 n x1 x2 x3 x4 σ) x1 x2 x3 x4 σ
def J_M_laysGlasses_174  (k29 : Int32 → Int32 → Int32 → Hp → Option Hp) (x1 : Int32) (x2 : Int32) (x3 : Int32) (σ : Hp) : Option Hp :=
  k29 x1 x2 (x3 + (-1 : Int32)) σ
def B_M_laysGlasses_29  (k29 : Int32 → Int32 → Int32 → Hp → Option Hp) (x1 : Int32) (x2 : Int32) (x3 : Int32) (σ : Hp) : Option Hp :=
  if x3 < 0 then (some σ) else (L_M_laysGlasses_36  (J_M_laysGlasses_174  k29) FU x1 x2 x3 (0 : Int32) σ)
def L_M_laysGlasses_29   : Nat → Int32 → Int32 → Int32 → Hp → Option Hp
  | 0, _, _, _, _ => none
  | n + 1, x1, x2, x3, σ => B_M_laysGlasses_29  (fun x1 x2 x3 σ => L_M_laysGlasses_29   n x1 x2 x3 σ) x1 x2 x3 σ
def J_M_laysGlasses_26   (x1 : Int32) (x2 : Int32) (σ : Hp) : Option Hp :=
  L_M_laysGlasses_29   FU x1 x2 (7 : Int32) σ
def F_M_laysGlasses  (a1 : Int32) (a2 : Int32) (σ : Hp) : Option Hp :=
  L_M_laysGlasses_2  (J_M_laysGlasses_26) FU a1 a2 (0 : Int32) σ
def B_M_glasses_105  (k202 : Int32 → Int32 → Int32 → Int32 → Int32 → Int32 → Hp → Option (Int32 × Hp)) (k105 : Int32 → Int32 → Int32 → Int32 → Int32 → Int32 → Int32 → Hp → Option (Int32 × Hp)) (x1 : Int32) (x2 : Int32) (x3 : Int32) (x4 : Int32) (x5 : Int32) (x6 : Int32) (x7 : Int32) (σ : Hp) : Option (Int32 × Hp) :=
  if (8 : Int32) ≤ x7 then (k202 x1 x2 x3 x4 x5 x6 σ) else (if x5 = (-2 : Int32) then ((F_M_has x2 x6 σ).bind fun q122 => if q122.1 = 0 then (k105 x1 x2 x3 x4 x5 x6 (x7 + (1 : Int32)) q122.2) else ((F_M_has (x3 &&& (x4 ^^^ (-1 : Int32))) x7 q122.2).bind fun q136 => if q136.1 = 0 then (k105 x1 x2 x3 x4 x5 x6 (x7 + (1 : Int32)) q136.2) else (gd (inb (((256 : Int32) * (x6 + (1 : Int32))) + (x4 ||| ((1 : Int32) <<< (x7 &&& 31)))) 2304) ((F_M_size (x6 - x7) q136.2).bind fun q171 => gd (inb (((256 : Int32) * x6) + x4) 2304) (if ((q136.2 27 (Int32.toNatClampNeg (((256 : Int32) * (x6 + (1 : Int32))) + (x4 ||| ((1 : Int32) <<< (x7 &&& 31)))))) + q171.1) = (q171.2 27 (Int32.toNatClampNeg (((256 : Int32) * x6) + x4))) then (k105 x1 x2 x3 x4 x7 x6 (x7 + (1 : Int32)) q171.2) else (k105 x1 x2 x3 x4 x5 x6 (x7 + (1 : Int32)) q171.2)))))) else (k202 x1 x2 x3 x4 x5 x6 σ))
def L_M_glasses_105  (k202 : Int32 → Int32 → Int32 → Int32 → Int32 → Int32 → Hp → Option (Int32 × Hp)) : Nat → Int32 → Int32 → Int32 → Int32 → Int32 → Int32 → Int32 → Hp → Option (Int32 × Hp)
  | 0, _, _, _, _, _, _, _, _ => none
  | n + 1, x1, x2, x3, x4, x5, x6, x7, σ => B_M_glasses_105  k202 (fun x1 x2 x3 x4 x5 x6 x7 σ => L_M_glasses_105  k202 n x1 x2 x3 x4 x5 x6 x7 σ) x1 x2 x3 x4 x5 x6 x7 σ
def J_M_glasses_202  (k92 : Int32 → Int32 → Int32 → Int32 → Int32 → Int32 → Hp → Option (Int32 × Hp)) (x1 : Int32) (x2 : Int32) (x3 : Int32) (x4 : Int32) (x5 : Int32) (x6 : Int32) (σ : Hp) : Option (Int32 × Hp) :=
  if x5 < 0 then (k92 x1 x2 x3 x4 x5 (x6 + (1 : Int32)) σ) else (k92 x1 x2 x3 (x4 ||| ((1 : Int32) <<< (x5 &&& 31))) x5 (x6 + (1 : Int32)) σ)
def B_M_glasses_92  (k92 : Int32 → Int32 → Int32 → Int32 → Int32 → Int32 → Hp → Option (Int32 × Hp)) (x1 : Int32) (x2 : Int32) (x3 : Int32) (x4 : Int32) (x5 : Int32) (x6 : Int32) (σ : Hp) : Option (Int32 × Hp) :=
  if x1 < x6 then (some (x5, σ)) else (L_M_glasses_105  (J_M_glasses_202  k92) FU x1 x2 x3 x4 (-2 : Int32) x6 (0 : Int32) σ)
def L_M_glasses_92   : Nat → Int32 → Int32 → Int32 → Int32 → Int32 → Int32 → Hp → Option (Int32 × Hp)
  | 0, _, _, _, _, _, _, _ => none
  | n + 1, x1, x2, x3, x4, x5, x6, σ => B_M_glasses_92  (fun x1 x2 x3 x4 x5 x6 σ => L_M_glasses_92   n x1 x2 x3 x4 x5 x6 σ) x1 x2 x3 x4 x5 x6 σ
def J_M_glasses_23   (x1 : Int32) (σ : Hp) : Option (Int32 × Hp) :=
  (F_M_setOf (0 : Int32) (0 : Int32) σ).bind fun q26 => (F_M_setOf (1 : Int32) (0 : Int32) q26.2).bind fun q33 => (F_M_laysGlasses q26.1 q33.1 q33.2).bind fun q40 => if x1 = (100 : Int32) then (gd (inb (0 : Int32) 2304) (some ((jrem (q40 27 (Int32.toNatClampNeg (0 : Int32))) (1000 : Int32)), q40))) else (if x1 = (101 : Int32) then ((F_M_bits q26.1 q40).bind fun q67 => gd (inb (0 : Int32) 2304) (some ((q67.1 - ((q67.2 27 (Int32.toNatClampNeg (0 : Int32))) / (1000 : Int32))), q67.2))) else (L_M_glasses_92   FU x1 q26.1 q33.1 (0 : Int32) (-2 : Int32) (0 : Int32) q40))
def F_M_glasses  (a1 : Int32) (σ : Hp) : Option (Int32 × Hp) :=
  (F_M_in a1 (0 : Int32) (7 : Int32) σ).bind fun q4 => if q4.1 = 0 then ((F_M_in a1 (100 : Int32) (101 : Int32) q4.2).bind fun q15 => if q15.1 = 0 then (some ((-1 : Int32), q15.2)) else (J_M_glasses_23   a1 q15.2)) else (J_M_glasses_23   a1 q4.2)
def B_M_hasOpenSum_2  (k2 : Int32 → Hp → Option (Int32 × Hp)) (x2 : Int32) (σ : Hp) : Option (Int32 × Hp) :=
  if (σ 0 13) ≤ x2 then (some ((0 : Int32), σ)) else (gd (inb x2 260) (if ((σ 8 (Int32.toNatClampNeg x2)) / (1048576 : Int32)) = (14 : Int32) then (some ((1 : Int32), σ)) else (k2 (x2 + (1 : Int32)) σ)))
def L_M_hasOpenSum_2   : Nat → Int32 → Hp → Option (Int32 × Hp)
  | 0, _, _ => none
  | n + 1, x2, σ => B_M_hasOpenSum_2  (fun x2 σ => L_M_hasOpenSum_2   n x2 σ) x2 σ
def F_M_hasOpenSum  (a1 : Int32) (σ : Hp) : Option (Int32 × Hp) :=
  L_M_hasOpenSum_2   FU a1 σ
def F_M_here   (σ : Hp) : Option (Int32 × Hp) :=
  if (σ 0 8) ≤ (σ 0 7) then (some ((-1 : Int32), σ)) else (gd (inb (σ 0 7) 260) (some (((σ 6 (Int32.toNatClampNeg (σ 0 7))) &&& (255 : Int32)), σ)))
def B_M_hidden_57  (k95 : Int32 → Int32 → Int32 → Int32 → Int32 → Int32 → Int32 → Hp → Option (Int32 × Hp)) (k57 : Int32 → Int32 → Int32 → Int32 → Int32 → Int32 → Int32 → Int32 → Hp → Option (Int32 × Hp)) (x1 : Int32) (x2 : Int32) (x3 : Int32) (x4 : Int32) (x5 : Int32) (x6 : Int32) (x7 : Int32) (x8 : Int32) (σ : Hp) : Option (Int32 × Hp) :=
  if (8 : Int32) ≤ x8 then (k95 x1 x2 x3 x4 x5 x6 x7 σ) else ((F_M_has (x2 &&& (x6 ^^^ (-1 : Int32))) x8 σ).bind fun q72 => if q72.1 = 0 then (k57 x1 x2 x3 x4 x5 x6 x7 (x8 + (1 : Int32)) q72.2) else ((F_M_seenBy x8 q72.2).bind fun q83 => k57 x1 x2 x3 x4 x5 x6 (x7 ||| q83.1) (x8 + (1 : Int32)) q83.2))
def L_M_hidden_57  (k95 : Int32 → Int32 → Int32 → Int32 → Int32 → Int32 → Int32 → Hp → Option (Int32 × Hp)) : Nat → Int32 → Int32 → Int32 → Int32 → Int32 → Int32 → Int32 → Int32 → Hp → Option (Int32 × Hp)
  | 0, _, _, _, _, _, _, _, _, _ => none
  | n + 1, x1, x2, x3, x4, x5, x6, x7, x8, σ => B_M_hidden_57  k95 (fun x1 x2 x3 x4 x5 x6 x7 x8 σ => L_M_hidden_57  k95 n x1 x2 x3 x4 x5 x6 x7 x8 σ) x1 x2 x3 x4 x5 x6 x7 x8 σ
def J_M_hidden_95  (k31 : Int32 → Int32 → Int32 → Int32 → Int32 → Int32 → Hp → Option (Int32 × Hp)) (x1 : Int32) (x2 : Int32) (x3 : Int32) (x4 : Int32) (x5 : Int32) (x6 : Int32) (x7 : Int32) (σ : Hp) : Option (Int32 × Hp) :=
  (F_M_bits x6 σ).bind fun q97 => (F_M_bits x7 q97.2).bind fun q102 => if (q97.1 + q102.1) < x5 then ((F_M_bits x6 q102.2).bind fun q116 => (F_M_bits x7 q116.2).bind fun q121 => k31 x1 x2 x6 x7 (q116.1 + q121.1) (x6 + (1 : Int32)) q121.2) else (k31 x1 x2 x3 x4 x5 (x6 + (1 : Int32)) q102.2)
def B_M_hidden_31  (k140 : Int32 → Int32 → Int32 → Int32 → Hp → Option (Int32 × Hp)) (k31 : Int32 → Int32 → Int32 → Int32 → Int32 → Int32 → Hp → Option (Int32 × Hp)) (x1 : Int32) (x2 : Int32) (x3 : Int32) (x4 : Int32) (x5 : Int32) (x6 : Int32) (σ : Hp) : Option (Int32 × Hp) :=
  if (256 : Int32) ≤ x6 then (k140 x1 x3 x4 x5 σ) else (if (x6 &&& (x2 ^^^ (-1 : Int32))) = 0 then (L_M_hidden_57  (J_M_hidden_95  k31) FU x1 x2 x3 x4 x5 x6 (0 : Int32) (0 : Int32) σ) else (k31 x1 x2 x3 x4 x5 (x6 + (1 : Int32)) σ))
def L_M_hidden_31  (k140 : Int32 → Int32 → Int32 → Int32 → Hp → Option (Int32 × Hp)) : Nat → Int32 → Int32 → Int32 → Int32 → Int32 → Int32 → Hp → Option (Int32 × Hp)
  | 0, _, _, _, _, _, _, _ => none
  | n + 1, x1, x2, x3, x4, x5, x6, σ => B_M_hidden_31  k140 (fun x1 x2 x3 x4 x5 x6 σ => L_M_hidden_31  k140 n x1 x2 x3 x4 x5 x6 σ) x1 x2 x3 x4 x5 x6 σ
def J_M_hidden_140   (x1 : Int32) (x3 : Int32) (x4 : Int32) (x5 : Int32) (σ : Hp) : Option (Int32 × Hp) :=
  if x1 = 0 then (some (x5, σ)) else (if x1 = (1 : Int32) then (some (x3, σ)) else (some (x4, σ)))
def F_M_hidden  (a1 : Int32) (σ : Hp) : Option (Int32 × Hp) :=
  (F_M_in a1 (0 : Int32) (2 : Int32) σ).bind fun q3 => if q3.1 = 0 then (some ((-1 : Int32), q3.2)) else ((F_M_setOf (0 : Int32) (0 : Int32) q3.2).bind fun q14 => L_M_hidden_31  (J_M_hidden_140) FU a1 q14.1 (0 : Int32) (0 : Int32) (1000000 : Int32) (0 : Int32) q14.2)
def J_M_laysCommon_136  (k18 : Int32 → Int32 → Hp → Option Hp) (x1 : Int32) (x2 : Int32) (x3 : Int32) (σ : Hp) : Option Hp :=
  gd (inb (((61 : Int32) * x1) + x2) 3721) (k18 x1 (x2 + (-1 : Int32)) (zu σ 29 (Int32.toNatClampNeg (((61 : Int32) * x1) + x2)) (vp_nar .byte (Int8.toInt32 (Int32.toInt8 x3)))))
def J_M_laysCommon_76  (k18 : Int32 → Int32 → Hp → Option Hp) (x1 : Int32) (x2 : Int32) (x3 : Int32) (σ : Hp) : Option Hp :=
  gd (inb (0 : Int32) 2) (if (σ 21 (Int32.toNatClampNeg (0 : Int32))) ≤ x1 then (J_M_laysCommon_136  k18 x1 x2 x3 σ) else (gd (inb (1 : Int32) 2) (if (σ 21 (Int32.toNatClampNeg (1 : Int32))) ≤ x2 then (J_M_laysCommon_136  k18 x1 x2 x3 σ) else (gd (inb x1 120) (gd (inb ((60 : Int32) + x2) 120) (if (σ 20 (Int32.toNatClampNeg x1)) = (σ 20 (Int32.toNatClampNeg ((60 : Int32) + x2))) then (gd (inb ((((61 : Int32) * (x1 + (1 : Int32))) + x2) + (1 : Int32)) 3721) ((F_M_max x3 ((1 : Int32) + (σ 29 (Int32.toNatClampNeg ((((61 : Int32) * (x1 + (1 : Int32))) + x2) + (1 : Int32))))) σ).bind fun q132 => J_M_laysCommon_136  k18 x1 x2 q132.1 q132.2)) else (J_M_laysCommon_136  k18 x1 x2 x3 σ)))))))
def J_M_laysCommon_48  (k18 : Int32 → Int32 → Hp → Option Hp) (x1 : Int32) (x2 : Int32) (x3 : Int32) (σ : Hp) : Option Hp :=
  gd (inb (1 : Int32) 2) (if (σ 21 (Int32.toNatClampNeg (1 : Int32))) ≤ x2 then (J_M_laysCommon_76  k18 x1 x2 x3 σ) else (gd (inb ((((61 : Int32) * x1) + x2) + (1 : Int32)) 3721) ((F_M_max x3 (σ 29 (Int32.toNatClampNeg ((((61 : Int32) * x1) + x2) + (1 : Int32)))) σ).bind fun q72 => J_M_laysCommon_76  k18 x1 x2 q72.1 q72.2)))
def B_M_laysCommon_18  (k155 : Int32 → Hp → Option Hp) (k18 : Int32 → Int32 → Hp → Option Hp) (x1 : Int32) (x2 : Int32) (σ : Hp) : Option Hp :=
  if x2 < 0 then (k155 x1 σ) else (gd (inb (0 : Int32) 2) (if (σ 21 (Int32.toNatClampNeg (0 : Int32))) ≤ x1 then (J_M_laysCommon_48  k18 x1 x2 (0 : Int32) σ) else (gd (inb (((61 : Int32) * (x1 + (1 : Int32))) + x2) 3721) (J_M_laysCommon_48  k18 x1 x2 (σ 29 (Int32.toNatClampNeg (((61 : Int32) * (x1 + (1 : Int32))) + x2))) σ))))
def L_M_laysCommon_18  (k155 : Int32 → Hp → Option Hp) : Nat → Int32 → Int32 → Hp → Option Hp
  | 0, _, _, _ => none
  | n + 1, x1, x2, σ => B_M_laysCommon_18  k155 (fun x1 x2 σ => L_M_laysCommon_18  k155 n x1 x2 σ) x1 x2 σ
def J_M_laysCommon_155  (k7 : Int32 → Hp → Option Hp) (x1 : Int32) (σ : Hp) : Option Hp :=
  k7 (x1 + (-1 : Int32)) σ
def B_M_laysCommon_7  (k7 : Int32 → Hp → Option Hp) (x1 : Int32) (σ : Hp) : Option Hp :=
  if x1 < 0 then (some σ) else (gd (inb (1 : Int32) 2) (L_M_laysCommon_18  (J_M_laysCommon_155  k7) FU x1 (σ 21 (Int32.toNatClampNeg (1 : Int32))) σ))
def L_M_laysCommon_7   : Nat → Int32 → Hp → Option Hp
  | 0, _, _ => none
  | n + 1, x1, σ => B_M_laysCommon_7  (fun x1 σ => L_M_laysCommon_7   n x1 σ) x1 σ
def F_M_laysCommon   (σ : Hp) : Option Hp :=
  gd (inb (0 : Int32) 2) (L_M_laysCommon_7   FU (σ 21 (Int32.toNatClampNeg (0 : Int32))) σ)
def B_M_nextOf_3  (k3 : Int32 → Int32 → Int32 → Hp → Option (Int32 × Hp)) (x1 : Int32) (x3 : Int32) (x4 : Int32) (σ : Hp) : Option (Int32 × Hp) :=
  gd (inb x1 2) (if (σ 21 (Int32.toNatClampNeg x1)) ≤ x4 then (some ((-1 : Int32), σ)) else (gd (inb (((60 : Int32) * x1) + x4) 120) (if (σ 20 (Int32.toNatClampNeg (((60 : Int32) * x1) + x4))) = x3 then (some (x4, σ)) else (k3 x1 x3 (x4 + (1 : Int32)) σ))))
def L_M_nextOf_3   : Nat → Int32 → Int32 → Int32 → Hp → Option (Int32 × Hp)
  | 0, _, _, _, _ => none
  | n + 1, x1, x3, x4, σ => B_M_nextOf_3  (fun x1 x3 x4 σ => L_M_nextOf_3   n x1 x3 x4 σ) x1 x3 x4 σ
def F_M_nextOf  (a1 : Int32) (a2 : Int32) (a3 : Int32) (σ : Hp) : Option (Int32 × Hp) :=
  L_M_nextOf_3   FU a1 a3 a2 σ
def B_M_inCommon_81  (k173 : Int32 → Int32 → Int32 → Int32 → Int32 → Hp → Option (Int32 × Hp)) (k81 : Int32 → Int32 → Int32 → Int32 → Int32 → Int32 → Int32 → Hp → Option (Int32 × Hp)) (x1 : Int32) (x2 : Int32) (x3 : Int32) (x4 : Int32) (x5 : Int32) (x6 : Int32) (x7 : Int32) (σ : Hp) : Option (Int32 × Hp) :=
  if (6 : Int32) ≤ x7 then (k173 x1 x2 x3 x4 x5 σ) else (if x4 = (-1 : Int32) then ((F_M_nextOf (0 : Int32) x2 x7 σ).bind fun q99 => (F_M_nextOf (1 : Int32) x3 x7 q99.2).bind fun q109 => if q99.1 = (-1 : Int32) then (k81 x1 x2 x3 x4 x5 x6 (x7 + (1 : Int32)) q109.2) else (if q109.1 = (-1 : Int32) then (k81 x1 x2 x3 x4 x5 x6 (x7 + (1 : Int32)) q109.2) else (gd (inb ((((61 : Int32) * (q99.1 + (1 : Int32))) + q109.1) + (1 : Int32)) 3721) (if ((1 : Int32) + (q109.2 29 (Int32.toNatClampNeg ((((61 : Int32) * (q99.1 + (1 : Int32))) + q109.1) + (1 : Int32))))) = x6 then (k81 x1 (q99.1 + (1 : Int32)) (q109.1 + (1 : Int32)) x7 x5 x6 (x7 + (1 : Int32)) q109.2) else (k81 x1 x2 x3 x4 x5 x6 (x7 + (1 : Int32)) q109.2))))) else (k173 x1 x2 x3 x4 x5 σ))
def L_M_inCommon_81  (k173 : Int32 → Int32 → Int32 → Int32 → Int32 → Hp → Option (Int32 × Hp)) : Nat → Int32 → Int32 → Int32 → Int32 → Int32 → Int32 → Int32 → Hp → Option (Int32 × Hp)
  | 0, _, _, _, _, _, _, _, _ => none
  | n + 1, x1, x2, x3, x4, x5, x6, x7, σ => B_M_inCommon_81  k173 (fun x1 x2 x3 x4 x5 x6 x7 σ => L_M_inCommon_81  k173 n x1 x2 x3 x4 x5 x6 x7 σ) x1 x2 x3 x4 x5 x6 x7 σ
def J_M_inCommon_173  (k58 : Int32 → Int32 → Int32 → Int32 → Int32 → Hp → Option (Int32 × Hp)) (x1 : Int32) (x2 : Int32) (x3 : Int32) (x4 : Int32) (x5 : Int32) (σ : Hp) : Option (Int32 × Hp) :=
  k58 x1 x2 x3 x4 (x5 + (1 : Int32)) σ
def B_M_inCommon_58  (k58 : Int32 → Int32 → Int32 → Int32 → Int32 → Hp → Option (Int32 × Hp)) (x1 : Int32) (x2 : Int32) (x3 : Int32) (x4 : Int32) (x5 : Int32) (σ : Hp) : Option (Int32 × Hp) :=
  if x1 < x5 then (some (x4, σ)) else (gd (inb (0 : Int32) 3721) (L_M_inCommon_81  (J_M_inCommon_173  k58) FU x1 x2 x3 (-1 : Int32) x5 ((σ 29 (Int32.toNatClampNeg (0 : Int32))) - x5) (0 : Int32) σ))
def L_M_inCommon_58   : Nat → Int32 → Int32 → Int32 → Int32 → Int32 → Hp → Option (Int32 × Hp)
  | 0, _, _, _, _, _, _ => none
  | n + 1, x1, x2, x3, x4, x5, σ => B_M_inCommon_58  (fun x1 x2 x3 x4 x5 σ => L_M_inCommon_58   n x1 x2 x3 x4 x5 σ) x1 x2 x3 x4 x5 σ
def J_M_inCommon_18   (x1 : Int32) (σ : Hp) : Option (Int32 × Hp) :=
  (F_M_laysCommon  σ).bind fun q19 => if x1 = (100 : Int32) then (gd (inb (0 : Int32) 3721) (some ((q19 29 (Int32.toNatClampNeg (0 : Int32))), q19))) else (gd (inb (0 : Int32) 3721) (if x1 < (q19 29 (Int32.toNatClampNeg (0 : Int32))) then (L_M_inCommon_58   FU x1 (0 : Int32) (0 : Int32) (-1 : Int32) (0 : Int32) q19) else (some ((-4 : Int32), q19))))
def F_M_inCommon  (a1 : Int32) (σ : Hp) : Option (Int32 × Hp) :=
  if a1 = (100 : Int32) then (J_M_inCommon_18   a1 σ) else ((F_M_in a1 (0 : Int32) (59 : Int32) σ).bind fun q10 => if q10.1 = 0 then (some ((-1 : Int32), q10.2)) else (J_M_inCommon_18   a1 q10.2))
def F_M_isDigit   (σ : Hp) : Option (Int32 × Hp) :=
  (F_M_here  σ).bind fun q1 => if q1.1 < (48 : Int32) then (some ((0 : Int32), q1.2)) else ((F_M_here  q1.2).bind fun q10 => if (57 : Int32) < q10.1 then (some ((0 : Int32), q10.2)) else (some ((1 : Int32), q10.2)))
def F_M_jumps  (a1 : Int32) (σ : Hp) : Option Hp :=
  gd (inb (σ 0 13) 260) ((F_M_notes a1 (0 : Int32) (zu (zu σ 8 (Int32.toNatClampNeg (σ 0 13)) (((1048576 : Int32) * a1) + (σ 0 12))) 0 13 (((zu σ 8 (Int32.toNatClampNeg (σ 0 13)) (((1048576 : Int32) * a1) + (σ 0 12))) 0 13) + (1 : Int32)))).bind fun q31 => some (zu q31 0 7 ((q31 0 7) + (1 : Int32))))
def F_M_keep   (σ : Hp) : Option (Int32 × Hp) :=
  gd (isb (1 : Int32)) ((F_M_copies 1 100 3 100 (zu σ 0 61 (1 : Int32))).bind fun q13 => gd (inb (97 : Int32) 100) (some ((q13 1 (Int32.toNatClampNeg (97 : Int32))), q13)))
def B_M_lamps_25  (k25 : Int32 → Int32 → Int32 → Int32 → Hp → Option (Int32 × Hp)) (x1 : Int32) (x2 : Int32) (x3 : Int32) (x4 : Int32) (σ : Hp) : Option (Int32 × Hp) :=
  gd (inb x1 2) (if (σ 21 (Int32.toNatClampNeg x1)) ≤ x4 then (some (x3, σ)) else (gd (inb (((60 : Int32) * x1) + x4) 120) (if (σ 20 (Int32.toNatClampNeg (((60 : Int32) * x1) + x4))) = x2 then (k25 x1 x2 (x3 + (1 : Int32)) (x4 + (1 : Int32)) σ) else (k25 x1 x2 (x3 + (0 : Int32)) (x4 + (1 : Int32)) σ))))
def L_M_lamps_25   : Nat → Int32 → Int32 → Int32 → Int32 → Hp → Option (Int32 × Hp)
  | 0, _, _, _, _, _ => none
  | n + 1, x1, x2, x3, x4, σ => B_M_lamps_25  (fun x1 x2 x3 x4 σ => L_M_lamps_25   n x1 x2 x3 x4 σ) x1 x2 x3 x4 σ
def F_M_lamps  (a1 : Int32) (a2 : Int32) (σ : Hp) : Option (Int32 × Hp) :=
  (F_M_in a1 (0 : Int32) (1 : Int32) σ).bind fun q3 => if q3.1 = 0 then (some ((-1 : Int32), q3.2)) else ((F_M_in a2 (0 : Int32) (5 : Int32) q3.2).bind fun q12 => if q12.1 = 0 then (some ((-1 : Int32), q12.2)) else (L_M_lamps_25   FU a1 a2 (0 : Int32) (0 : Int32) q12.2))
def J_M_lands_22  (k0 : Int32 → Hp → Option Hp) (x1 : Int32) (σ : Hp) : Option Hp :=
  gd (inb ((σ 0 13) - (1 : Int32)) 260) (gd (inb (jrem (σ 8 (Int32.toNatClampNeg ((σ 0 13) - (1 : Int32)))) (1048576 : Int32)) 260) (gd (inb (jrem (σ 8 (Int32.toNatClampNeg ((σ 0 13) - (1 : Int32)))) (1048576 : Int32)) 260) (k0 x1 (zu (zu σ 7 (Int32.toNatClampNeg (jrem (σ 8 (Int32.toNatClampNeg ((σ 0 13) - (1 : Int32)))) (1048576 : Int32))) (((1048576 : Int32) * ((σ 7 (Int32.toNatClampNeg (jrem (σ 8 (Int32.toNatClampNeg ((σ 0 13) - (1 : Int32)))) (1048576 : Int32)))) / (1048576 : Int32))) + (σ 0 12))) 0 13 (((zu σ 7 (Int32.toNatClampNeg (jrem (σ 8 (Int32.toNatClampNeg ((σ 0 13) - (1 : Int32)))) (1048576 : Int32))) (((1048576 : Int32) * ((σ 7 (Int32.toNatClampNeg (jrem (σ 8 (Int32.toNatClampNeg ((σ 0 13) - (1 : Int32)))) (1048576 : Int32)))) / (1048576 : Int32))) + (σ 0 12))) 0 13) - (1 : Int32))))))
def B_M_lands_0  (k0 : Int32 → Hp → Option Hp) (x1 : Int32) (σ : Hp) : Option Hp :=
  (F_M_waitTop  σ).bind fun q1 => if q1.1 = (11 : Int32) then (J_M_lands_22  k0 x1 q1.2) else (if x1 = 0 then (some q1.2) else ((F_M_waitTop  q1.2).bind fun q14 => if q14.1 = (12 : Int32) then (J_M_lands_22  k0 x1 q14.2) else (some q14.2)))
def L_M_lands_0   : Nat → Int32 → Hp → Option Hp
  | 0, _, _ => none
  | n + 1, x1, σ => B_M_lands_0  (fun x1 σ => L_M_lands_0   n x1 σ) x1 σ
def F_M_lands  (a1 : Int32) (σ : Hp) : Option Hp :=
  L_M_lands_0   FU a1 σ
def B_M_lastsWith_22  (k22 : Int32 → Int32 → Int32 → Int32 → Hp → Option (Int32 × Hp)) (x2 : Int32) (x4 : Int32) (x5 : Int32) (x6 : Int32) (σ : Hp) : Option (Int32 × Hp) :=
  if x2 ≤ x6 then (some ((1 : Int32), σ)) else (gd (inb (3 : Int32) 11) (gd (inb (4 : Int32) 11) (gd (inb (96 : Int32) 100) (gd (inb (9 : Int32) 11) (gd (inb (97 : Int32) 100) (gd (inb (96 : Int32) 100) (gd (inb (10 : Int32) 11) ((F_M_byLaw (98 : Int32) (99 : Int32) (zu (zu (zu (zu σ 19 (Int32.toNatClampNeg (3 : Int32)) x5) 19 (Int32.toNatClampNeg (4 : Int32)) x4) 19 (Int32.toNatClampNeg (9 : Int32)) (jrem (((zu (zu σ 19 (Int32.toNatClampNeg (3 : Int32)) x5) 19 (Int32.toNatClampNeg (4 : Int32)) x4) 1 (Int32.toNatClampNeg (96 : Int32))) + x6) (6 : Int32))) 19 (Int32.toNatClampNeg (10 : Int32)) (jrem (((zu (zu (zu σ 19 (Int32.toNatClampNeg (3 : Int32)) x5) 19 (Int32.toNatClampNeg (4 : Int32)) x4) 19 (Int32.toNatClampNeg (9 : Int32)) (jrem (((zu (zu σ 19 (Int32.toNatClampNeg (3 : Int32)) x5) 19 (Int32.toNatClampNeg (4 : Int32)) x4) 1 (Int32.toNatClampNeg (96 : Int32))) + x6) (6 : Int32))) 1 (Int32.toNatClampNeg (97 : Int32))) + ((((zu (zu (zu σ 19 (Int32.toNatClampNeg (3 : Int32)) x5) 19 (Int32.toNatClampNeg (4 : Int32)) x4) 19 (Int32.toNatClampNeg (9 : Int32)) (jrem (((zu (zu σ 19 (Int32.toNatClampNeg (3 : Int32)) x5) 19 (Int32.toNatClampNeg (4 : Int32)) x4) 1 (Int32.toNatClampNeg (96 : Int32))) + x6) (6 : Int32))) 1 (Int32.toNatClampNeg (96 : Int32))) + x6) / (6 : Int32))) (100 : Int32)))).bind fun q100 => (F_M_byLaw (116 : Int32) (99 : Int32) q100.2).bind fun q112 => (F_M_min (99 : Int32) (x5 + q100.1) q112.2).bind fun q125 => if 0 < (x4 - q112.1) then (k22 x2 (x4 - q112.1) q125.1 (x6 + (1 : Int32)) q125.2) else (some ((0 : Int32), q125.2))))))))))
def L_M_lastsWith_22   : Nat → Int32 → Int32 → Int32 → Int32 → Hp → Option (Int32 × Hp)
  | 0, _, _, _, _, _ => none
  | n + 1, x2, x4, x5, x6, σ => B_M_lastsWith_22  (fun x2 x4 x5 x6 σ => L_M_lastsWith_22   n x2 x4 x5 x6 σ) x2 x4 x5 x6 σ
def F_M_lastsWith  (a1 : Int32) (a2 : Int32) (a3 : Int32) (σ : Hp) : Option (Int32 × Hp) :=
  (F_M_feels a1 σ).bind fun q2 => gd (inb ((32 : Int32) + a1) 100) (L_M_lastsWith_22   FU a2 a3 (q2 1 (Int32.toNatClampNeg ((32 : Int32) + a1))) (0 : Int32) q2)
def B_M_lasts_45  (k45 : Int32 → Int32 → Int32 → Hp → Option (Int32 × Hp)) (x3 : Int32) (x4 : Int32) (x5 : Int32) (σ : Hp) : Option (Int32 × Hp) :=
  if (99 : Int32) < x5 then (some ((-2 : Int32), σ)) else (gd (inb ((48 : Int32) + x4) 100) ((F_M_lastsWith x4 x3 ((σ 1 (Int32.toNatClampNeg ((48 : Int32) + x4))) + x5) σ).bind fun q69 => if q69.1 = 0 then (k45 x3 x4 (x5 + (1 : Int32)) q69.2) else (some (x5, q69.2))))
def L_M_lasts_45   : Nat → Int32 → Int32 → Int32 → Hp → Option (Int32 × Hp)
  | 0, _, _, _, _ => none
  | n + 1, x3, x4, x5, σ => B_M_lasts_45  (fun x3 x4 x5 σ => L_M_lasts_45   n x3 x4 x5 σ) x3 x4 x5 σ
def F_M_lasts  (a1 : Int32) (a2 : Int32) (a3 : Int32) (σ : Hp) : Option (Int32 × Hp) :=
  (F_M_isThere a1 a2 σ).bind fun q3 => if q3.1 = 0 then (some ((-1 : Int32), q3.2)) else ((F_M_sitsIn (((8 : Int32) * a1) + a2) q3.2).bind fun q16 => if q16.1 = 0 then (some ((-1 : Int32), q16.2)) else ((F_M_in a3 (1 : Int32) (60 : Int32) q16.2).bind fun q26 => if q26.1 = 0 then (some ((-1 : Int32), q26.2)) else (L_M_lasts_45   FU a3 (((8 : Int32) * a1) + a2) (0 : Int32) q26.2)))
def F_M_wrongAt  (a1 : Int32) (a2 : Int32) (σ : Hp) : Option (Int32 × Hp) :=
  some ((0 : Int32), (zu σ 0 9 (((-1000 : Int32) * a1) - a2)))
def F_M_opens  (a1 : Int32) (σ : Hp) : Option (Int32 × Hp) :=
  if (σ 0 11) = (6 : Int32) then ((F_M_wrongAt (5 : Int32) (σ 0 7) σ).bind fun q15 => gd (isb q15.1) (some (q15.1, q15.2))) else (gd (inb ((zu σ 0 11 ((σ 0 11) + (1 : Int32))) 0 13) 260) (some ((1 : Int32), (zu (zu (zu (zu σ 0 11 ((σ 0 11) + (1 : Int32))) 8 (Int32.toNatClampNeg ((zu σ 0 11 ((σ 0 11) + (1 : Int32))) 0 13)) ((1048576 : Int32) * a1)) 0 13 (((zu (zu σ 0 11 ((σ 0 11) + (1 : Int32))) 8 (Int32.toNatClampNeg ((zu σ 0 11 ((σ 0 11) + (1 : Int32))) 0 13)) ((1048576 : Int32) * a1)) 0 13) + (1 : Int32))) 0 7 (((zu (zu (zu σ 0 11 ((σ 0 11) + (1 : Int32))) 8 (Int32.toNatClampNeg ((zu σ 0 11 ((σ 0 11) + (1 : Int32))) 0 13)) ((1048576 : Int32) * a1)) 0 13 (((zu (zu σ 0 11 ((σ 0 11) + (1 : Int32))) 8 (Int32.toNatClampNeg ((zu σ 0 11 ((σ 0 11) + (1 : Int32))) 0 13)) ((1048576 : Int32) * a1)) 0 13) + (1 : Int32))) 0 7) + (1 : Int32))))))
def B_M_readsNumber_10  (k10 : Int32 → Hp → Option (Int32 × Hp)) (k27 : Hp → Option (Int32 × Hp)) (x1 : Int32) (σ : Hp) : Option (Int32 × Hp) :=
  (F_M_isDigit  σ).bind fun q11 => if q11.1 = 0 then (some ((1 : Int32), q11.2)) else (if (q11.2 0 7) = (x1 + (5 : Int32)) then (k27  q11.2) else ((F_M_here  q11.2).bind fun q46 => k10 x1 (zu (zu q46.2 0 10 ((((10 : Int32) * (q11.2 0 10)) + q46.1) - (48 : Int32))) 0 7 (((zu q46.2 0 10 ((((10 : Int32) * (q11.2 0 10)) + q46.1) - (48 : Int32))) 0 7) + (1 : Int32)))))
def L_M_readsNumber_10  (k27 : Hp → Option (Int32 × Hp)) : Nat → Int32 → Hp → Option (Int32 × Hp)
  | 0, _, _ => none
  | n + 1, x1, σ => B_M_readsNumber_10  (fun x1 σ => L_M_readsNumber_10  k27 n x1 σ) k27 x1 σ
def J_M_readsNumber_27    (σ : Hp) : Option (Int32 × Hp) :=
  (F_M_wrongAt (2 : Int32) (σ 0 7) σ).bind fun q33 => gd (isb q33.1) (some (q33.1, q33.2))
def F_M_readsNumber   (σ : Hp) : Option (Int32 × Hp) :=
  L_M_readsNumber_10  (J_M_readsNumber_27) FU (σ 0 7) (zu σ 0 10 (0 : Int32))
def B_M_readsFactor_0  (k20 : Hp → Option (Int32 × Hp)) (k0 : Hp → Option (Int32 × Hp))  (σ : Hp) : Option (Int32 × Hp) :=
  (F_M_here  σ).bind fun q1 => if q1.1 = (91 : Int32) then ((F_M_opens (14 : Int32) q1.2).bind fun q12 => if q12.1 = 0 then (some ((0 : Int32), q12.2)) else (k0  q12.2)) else (k20  q1.2)
def L_M_readsFactor_0  (k20 : Hp → Option (Int32 × Hp)) : Nat → Hp → Option (Int32 × Hp)
  | 0, _ => none
  | n + 1, σ => B_M_readsFactor_0  k20 (fun σ => L_M_readsFactor_0  k20 n σ)  σ
def J_M_readsFactor_20    (σ : Hp) : Option (Int32 × Hp) :=
  (F_M_isDigit  σ).bind fun q21 => if q21.1 = 0 then ((F_M_here  q21.2).bind fun q48 => (F_M_factOf q48.1 q48.2).bind fun q51 => if q51.1 = (-1 : Int32) then ((F_M_wrongAt (1 : Int32) (q51.2 0 7) q51.2).bind fun q66 => gd (isb q66.1) (some (q66.1, q66.2))) else ((F_M_notes (1 : Int32) q51.1 q51.2).bind fun q73 => some ((1 : Int32), (zu q73 0 7 ((q73 0 7) + (1 : Int32)))))) else ((F_M_readsNumber  q21.2).bind fun q28 => if q28.1 = 0 then (some ((0 : Int32), q28.2)) else ((F_M_notes (0 : Int32) (q28.2 0 10) q28.2).bind fun q42 => some ((1 : Int32), q42)))
def F_M_readsFactor   (σ : Hp) : Option (Int32 × Hp) :=
  L_M_readsFactor_0  (J_M_readsFactor_20) FU  σ
def F_M_sumSign  (a0 : Int32) (σ : Hp) : Option (Int32 × Hp) :=
  if a0 = (43 : Int32) then (some ((2 : Int32), σ)) else (if a0 = (45 : Int32) then (some ((3 : Int32), σ)) else (if a0 = (42 : Int32) then (some ((4 : Int32), σ)) else (if a0 = (47 : Int32) then (some ((5 : Int32), σ)) else (if a0 = (37 : Int32) then (some ((6 : Int32), σ)) else (some ((-1 : Int32), σ))))))
def J_M_readsSum_38  (k14 : Int32 → Hp → Option (Int32 × Hp)) (x1 : Int32) (x2 : Int32) (s0 : Int32) (σ : Hp) : Option (Int32 × Hp) :=
  (F_M_closesSums s0 σ).bind fun q38 => gd (inb (q38 0 13) 260) ((F_M_readsFactor  (zu (zu (zu q38 8 (Int32.toNatClampNeg (q38 0 13)) ((1048576 : Int32) * x2)) 0 13 (((zu q38 8 (Int32.toNatClampNeg (q38 0 13)) ((1048576 : Int32) * x2)) 0 13) + (1 : Int32))) 0 7 (((zu (zu q38 8 (Int32.toNatClampNeg (q38 0 13)) ((1048576 : Int32) * x2)) 0 13 (((zu q38 8 (Int32.toNatClampNeg (q38 0 13)) ((1048576 : Int32) * x2)) 0 13) + (1 : Int32))) 0 7) + (1 : Int32)))).bind fun q75 => if q75.1 = 0 then (some ((0 : Int32), q75.2)) else (k14 x1 q75.2))
def B_M_readsSum_14  (k138 : Int32 → Hp → Option (Int32 × Hp)) (k14 : Int32 → Hp → Option (Int32 × Hp)) (x1 : Int32) (σ : Hp) : Option (Int32 × Hp) :=
  (F_M_here  σ).bind fun q15 => (F_M_sumSign q15.1 q15.2).bind fun q18 => if q18.1 = (-1 : Int32) then ((F_M_here  q18.2).bind fun q84 => if q84.1 = (93 : Int32) then ((F_M_hasOpenSum x1 q84.2).bind fun q94 => if q94.1 = 0 then (k138 x1 q94.2) else ((F_M_closesSums (1 : Int32) q94.2).bind fun q102 => k14 x1 (zu (zu (zu q102 0 13 ((q102 0 13) - (1 : Int32))) 0 11 (((zu q102 0 13 ((q102 0 13) - (1 : Int32))) 0 11) - (1 : Int32))) 0 7 (((zu (zu q102 0 13 ((q102 0 13) - (1 : Int32))) 0 11 (((zu q102 0 13 ((q102 0 13) - (1 : Int32))) 0 11) - (1 : Int32))) 0 7) + (1 : Int32))))) else (k138 x1 q84.2)) else (if (4 : Int32) ≤ q18.1 then (J_M_readsSum_38  k14 x1 q18.1 (0 : Int32) q18.2) else (J_M_readsSum_38  k14 x1 q18.1 (1 : Int32) q18.2))
def L_M_readsSum_14  (k138 : Int32 → Hp → Option (Int32 × Hp)) : Nat → Int32 → Hp → Option (Int32 × Hp)
  | 0, _, _ => none
  | n + 1, x1, σ => B_M_readsSum_14  k138 (fun x1 σ => L_M_readsSum_14  k138 n x1 σ) x1 σ
def J_M_readsSum_138   (x1 : Int32) (σ : Hp) : Option (Int32 × Hp) :=
  (F_M_hasOpenSum x1 σ).bind fun q140 => if q140.1 = 0 then ((F_M_closesSums (1 : Int32) q140.2).bind fun q158 => some ((1 : Int32), q158)) else ((F_M_wrongAt (1 : Int32) (q140.2 0 7) q140.2).bind fun q152 => gd (isb q152.1) (some (q152.1, q152.2)))
def F_M_readsSum   (σ : Hp) : Option (Int32 × Hp) :=
  (F_M_readsFactor  σ).bind fun q6 => if q6.1 = 0 then (some ((0 : Int32), q6.2)) else (L_M_readsSum_14  (J_M_readsSum_138) FU (σ 0 13) q6.2)
def J_M_readsCompared_52   (s0 : Int32) (σ : Hp) : Option (Int32 × Hp) :=
  if s0 = (-1 : Int32) then ((F_M_wrongAt (1 : Int32) (σ 0 7) σ).bind fun q64 => gd (isb q64.1) (some (q64.1, q64.2))) else ((F_M_readsSum  (zu σ 0 7 ((σ 0 7) + (1 : Int32)))).bind fun q79 => if q79.1 = 0 then (some ((0 : Int32), q79.2)) else ((F_M_notes s0 (0 : Int32) q79.2).bind fun q90 => (F_M_endsPiece  q90).bind fun q94 => some ((1 : Int32), q94)))
def F_M_readsCompared   (σ : Hp) : Option (Int32 × Hp) :=
  (F_M_readsSum  σ).bind fun q1 => if q1.1 = 0 then (some ((0 : Int32), q1.2)) else ((F_M_here  q1.2).bind fun q10 => if q10.1 = (60 : Int32) then (J_M_readsCompared_52   (7 : Int32) q10.2) else ((F_M_here  q10.2).bind fun q24 => if q24.1 = (62 : Int32) then (J_M_readsCompared_52   (8 : Int32) q24.2) else ((F_M_here  q24.2).bind fun q38 => if q38.1 = (61 : Int32) then (J_M_readsCompared_52   (9 : Int32) q38.2) else (J_M_readsCompared_52   (-1 : Int32) q38.2))))
def J_M_readsCondition_75  (k40 : Hp → Option (Int32 × Hp)) (s0 : Int32) (σ : Hp) : Option (Int32 × Hp) :=
  (F_M_opens s0 σ).bind fun q75 => if q75.1 = 0 then (some ((0 : Int32), q75.2)) else (k40  q75.2)
def J_M_readsCondition_58  (k40 : Hp → Option (Int32 × Hp))  (σ : Hp) : Option (Int32 × Hp) :=
  (F_M_here  σ).bind fun q60 => if q60.1 = (33 : Int32) then (J_M_readsCondition_75  k40 (10 : Int32) q60.2) else (J_M_readsCondition_75  k40 (13 : Int32) q60.2)
def B_M_readsCondition_92  (k152 : Hp → Option (Int32 × Hp)) (k92 : Hp → Option (Int32 × Hp))  (σ : Hp) : Option (Int32 × Hp) :=
  (F_M_here  σ).bind fun q93 => if q93.1 = (41 : Int32) then ((F_M_lands (1 : Int32) q93.2).bind fun q103 => if ((zu (zu (zu q103 0 13 ((q103 0 13) - (1 : Int32))) 0 11 (((zu q103 0 13 ((q103 0 13) - (1 : Int32))) 0 11) - (1 : Int32))) 0 7 (((zu (zu q103 0 13 ((q103 0 13) - (1 : Int32))) 0 11 (((zu q103 0 13 ((q103 0 13) - (1 : Int32))) 0 11) - (1 : Int32))) 0 7) + (1 : Int32))) 0 13) = 0 then (some ((1 : Int32), (zu (zu (zu q103 0 13 ((q103 0 13) - (1 : Int32))) 0 11 (((zu q103 0 13 ((q103 0 13) - (1 : Int32))) 0 11) - (1 : Int32))) 0 7 (((zu (zu q103 0 13 ((q103 0 13) - (1 : Int32))) 0 11 (((zu q103 0 13 ((q103 0 13) - (1 : Int32))) 0 11) - (1 : Int32))) 0 7) + (1 : Int32))))) else ((F_M_endsPiece  (zu (zu (zu q103 0 13 ((q103 0 13) - (1 : Int32))) 0 11 (((zu q103 0 13 ((q103 0 13) - (1 : Int32))) 0 11) - (1 : Int32))) 0 7 (((zu (zu q103 0 13 ((q103 0 13) - (1 : Int32))) 0 11 (((zu q103 0 13 ((q103 0 13) - (1 : Int32))) 0 11) - (1 : Int32))) 0 7) + (1 : Int32)))).bind fun q146 => k92  q146)) else (k152  q93.2)
def L_M_readsCondition_92  (k152 : Hp → Option (Int32 × Hp)) : Nat → Hp → Option (Int32 × Hp)
  | 0, _ => none
  | n + 1, σ => B_M_readsCondition_92  k152 (fun σ => L_M_readsCondition_92  k152 n σ)  σ
def J_M_readsCondition_215  (k40 : Hp → Option (Int32 × Hp)) (s0 : Int32) (σ : Hp) : Option (Int32 × Hp) :=
  (F_M_jumps s0 σ).bind fun q215 => k40  q215
def J_M_readsCondition_195  (k40 : Hp → Option (Int32 × Hp)) (s0 : Int32) (σ : Hp) : Option (Int32 × Hp) :=
  (F_M_lands s0 σ).bind fun q195 => (F_M_here  q195).bind fun q200 => if q200.1 = (38 : Int32) then (J_M_readsCondition_215  k40 (11 : Int32) q200.2) else (J_M_readsCondition_215  k40 (12 : Int32) q200.2)
def J_M_readsCondition_180  (k40 : Hp → Option (Int32 × Hp))  (σ : Hp) : Option (Int32 × Hp) :=
  (F_M_here  σ).bind fun q182 => if q182.1 = (124 : Int32) then (J_M_readsCondition_195  k40 (1 : Int32) q182.2) else (J_M_readsCondition_195  k40 (0 : Int32) q182.2)
def J_M_readsCondition_152  (k40 : Hp → Option (Int32 × Hp)) (k170 : Hp → Option (Int32 × Hp))  (σ : Hp) : Option (Int32 × Hp) :=
  (F_M_here  σ).bind fun q153 => if q153.1 = (38 : Int32) then (J_M_readsCondition_180  k40  q153.2) else ((F_M_here  q153.2).bind fun q162 => if q162.1 = (124 : Int32) then (J_M_readsCondition_180  k40  q162.2) else (k170  q162.2))
def B_M_readsCondition_40  (k40 : Hp → Option (Int32 × Hp)) (k170 : Hp → Option (Int32 × Hp))  (σ : Hp) : Option (Int32 × Hp) :=
  (F_M_here  σ).bind fun q41 => if q41.1 = (33 : Int32) then (J_M_readsCondition_58  k40  q41.2) else ((F_M_here  q41.2).bind fun q50 => if q50.1 = (40 : Int32) then (J_M_readsCondition_58  k40  q50.2) else ((F_M_readsCompared  q50.2).bind fun q84 => if q84.1 = 0 then (some ((0 : Int32), q84.2)) else (L_M_readsCondition_92  (J_M_readsCondition_152  k40 k170) FU  q84.2)))
def L_M_readsCondition_40  (k170 : Hp → Option (Int32 × Hp)) : Nat → Hp → Option (Int32 × Hp)
  | 0, _ => none
  | n + 1, σ => B_M_readsCondition_40  (fun σ => L_M_readsCondition_40  k170 n σ) k170  σ
def J_M_readsCondition_170    (σ : Hp) : Option (Int32 × Hp) :=
  (F_M_wrongAt (1 : Int32) (σ 0 7) σ).bind fun q176 => gd (isb q176.1) (some (q176.1, q176.2))
def F_M_readsCondition   (σ : Hp) : Option (Int32 × Hp) :=
  (F_M_here  σ).bind fun q1 => if q1.1 = (40 : Int32) then ((F_M_opens (13 : Int32) (zu (zu q1.2 0 11 (0 : Int32)) 0 13 (0 : Int32))).bind fun q32 => if q32.1 = 0 then (some ((0 : Int32), q32.2)) else (L_M_readsCondition_40  (J_M_readsCondition_170) FU  q32.2)) else ((F_M_wrongAt (1 : Int32) (q1.2 0 7) q1.2).bind fun q15 => gd (isb q15.1) (some (q15.1, q15.2)))
def J_M_readsRule_116    (σ : Hp) : Option (Int32 × Hp) :=
  gd (inb (σ 0 14) 16) ((F_M_readsCondition  (zu σ 11 (Int32.toNatClampNeg (σ 0 14)) (σ 0 12))).bind fun q130 => if q130.1 = 0 then (some ((0 : Int32), q130.2)) else (gd (inb (q130.2 0 14) 16) (some ((1 : Int32), (zu (zu q130.2 12 (Int32.toNatClampNeg (q130.2 0 14)) (q130.2 0 12)) 0 14 (((zu q130.2 12 (Int32.toNatClampNeg (q130.2 0 14)) (q130.2 0 12)) 0 14) + (1 : Int32)))))))
def J_M_readsRule_39   (x1 : Int32) (σ : Hp) : Option (Int32 × Hp) :=
  if (σ 0 14) = (16 : Int32) then ((F_M_wrongAt (4 : Int32) (σ 0 7) σ).bind fun q54 => gd (isb q54.1) (some (q54.1, q54.2))) else (gd (inb (σ 0 14) 16) (gd (inb ((zu (zu σ 9 (Int32.toNatClampNeg (σ 0 14)) x1) 0 7 (((zu σ 9 (Int32.toNatClampNeg (σ 0 14)) x1) 0 7) + (1 : Int32))) 0 14) 16) (if x1 = (120 : Int32) then (J_M_readsRule_116    (zu (zu (zu (zu (zu σ 9 (Int32.toNatClampNeg (σ 0 14)) x1) 0 7 (((zu σ 9 (Int32.toNatClampNeg (σ 0 14)) x1) 0 7) + (1 : Int32))) 10 (Int32.toNatClampNeg ((zu (zu σ 9 (Int32.toNatClampNeg (σ 0 14)) x1) 0 7 (((zu σ 9 (Int32.toNatClampNeg (σ 0 14)) x1) 0 7) + (1 : Int32))) 0 14)) ((zu (zu σ 9 (Int32.toNatClampNeg (σ 0 14)) x1) 0 7 (((zu σ 9 (Int32.toNatClampNeg (σ 0 14)) x1) 0 7) + (1 : Int32))) 0 12)) 0 11 (0 : Int32)) 0 13 (0 : Int32))) else ((F_M_readsSum  (zu (zu (zu (zu (zu σ 9 (Int32.toNatClampNeg (σ 0 14)) x1) 0 7 (((zu σ 9 (Int32.toNatClampNeg (σ 0 14)) x1) 0 7) + (1 : Int32))) 10 (Int32.toNatClampNeg ((zu (zu σ 9 (Int32.toNatClampNeg (σ 0 14)) x1) 0 7 (((zu σ 9 (Int32.toNatClampNeg (σ 0 14)) x1) 0 7) + (1 : Int32))) 0 14)) ((zu (zu σ 9 (Int32.toNatClampNeg (σ 0 14)) x1) 0 7 (((zu σ 9 (Int32.toNatClampNeg (σ 0 14)) x1) 0 7) + (1 : Int32))) 0 12)) 0 11 (0 : Int32)) 0 13 (0 : Int32))).bind fun q108 => if q108.1 = 0 then (some ((0 : Int32), q108.2)) else (J_M_readsRule_116    q108.2)))))
def F_M_readsRule   (σ : Hp) : Option (Int32 × Hp) :=
  (F_M_here  σ).bind fun q1 => if q1.1 = (98 : Int32) then (J_M_readsRule_39   q1.1 q1.2) else (if q1.1 = (116 : Int32) then (J_M_readsRule_39   q1.1 q1.2) else (if q1.1 = (119 : Int32) then (J_M_readsRule_39   q1.1 q1.2) else (if q1.1 = (120 : Int32) then (J_M_readsRule_39   q1.1 q1.2) else ((F_M_wrongAt (1 : Int32) (q1.2 0 7) q1.2).bind fun q35 => gd (isb q35.1) (some (q35.1, q35.2))))))
def F_M_takes  (a1 : Int32) (σ : Hp) : Option (Int32 × Hp) :=
  (F_M_here  σ).bind fun q1 => if q1.1 = a1 then (some ((1 : Int32), (zu q1.2 0 7 ((q1.2 0 7) + (1 : Int32))))) else ((F_M_wrongAt (1 : Int32) (q1.2 0 7) q1.2).bind fun q14 => gd (isb q14.1) (some (q14.1, q14.2)))
def B_M_law_31  (k71 : Int32 → Hp → Option (Int32 × Hp)) (k31 : Int32 → Hp → Option (Int32 × Hp)) (x2 : Int32) (σ : Hp) : Option (Int32 × Hp) :=
  if x2 = 0 then (k71 x2 σ) else (if (σ 0 8) ≤ (σ 0 7) then (k71 x2 σ) else ((F_M_takes (59 : Int32) σ).bind fun q49 => if q49.1 = 0 then (k31 (0 : Int32) q49.2) else ((F_M_readsRule  q49.2).bind fun q56 => if q56.1 = 0 then (k31 (0 : Int32) q56.2) else (k31 (1 : Int32) q56.2))))
def L_M_law_31  (k71 : Int32 → Hp → Option (Int32 × Hp)) : Nat → Int32 → Hp → Option (Int32 × Hp)
  | 0, _, _ => none
  | n + 1, x2, σ => B_M_law_31  k71 (fun x2 σ => L_M_law_31  k71 n x2 σ) x2 σ
def B_M_law_95  (k121 : Hp → Option (Int32 × Hp)) (k95 : Int32 → Hp → Option (Int32 × Hp)) (x3 : Int32) (σ : Hp) : Option (Int32 × Hp) :=
  if (σ 0 12) ≤ x3 then (k121  σ) else (gd (inb x3 260) (gd (inb x3 260) (k95 (x3 + (1 : Int32)) (zu σ 13 (Int32.toNatClampNeg x3) (σ 7 (Int32.toNatClampNeg x3))))))
def L_M_law_95  (k121 : Hp → Option (Int32 × Hp)) : Nat → Int32 → Hp → Option (Int32 × Hp)
  | 0, _, _ => none
  | n + 1, x3, σ => B_M_law_95  k121 (fun x3 σ => L_M_law_95  k121 n x3 σ) x3 σ
def B_M_law_123  (k123 : Int32 → Hp → Option (Int32 × Hp)) (x3 : Int32) (σ : Hp) : Option (Int32 × Hp) :=
  if (σ 0 14) ≤ x3 then (some ((σ 0 14), σ)) else (gd (inb x3 16) (gd (inb x3 16) (gd (inb x3 16) (gd (inb x3 16) (gd (inb x3 16) (gd (inb x3 16) (gd (inb x3 16) (gd (inb x3 16) (k123 (x3 + (1 : Int32)) (zu (zu (zu (zu σ 14 (Int32.toNatClampNeg x3) (σ 9 (Int32.toNatClampNeg x3))) 15 (Int32.toNatClampNeg x3) ((zu σ 14 (Int32.toNatClampNeg x3) (σ 9 (Int32.toNatClampNeg x3))) 10 (Int32.toNatClampNeg x3))) 16 (Int32.toNatClampNeg x3) ((zu (zu σ 14 (Int32.toNatClampNeg x3) (σ 9 (Int32.toNatClampNeg x3))) 15 (Int32.toNatClampNeg x3) ((zu σ 14 (Int32.toNatClampNeg x3) (σ 9 (Int32.toNatClampNeg x3))) 10 (Int32.toNatClampNeg x3))) 11 (Int32.toNatClampNeg x3))) 17 (Int32.toNatClampNeg x3) ((zu (zu (zu σ 14 (Int32.toNatClampNeg x3) (σ 9 (Int32.toNatClampNeg x3))) 15 (Int32.toNatClampNeg x3) ((zu σ 14 (Int32.toNatClampNeg x3) (σ 9 (Int32.toNatClampNeg x3))) 10 (Int32.toNatClampNeg x3))) 16 (Int32.toNatClampNeg x3) ((zu (zu σ 14 (Int32.toNatClampNeg x3) (σ 9 (Int32.toNatClampNeg x3))) 15 (Int32.toNatClampNeg x3) ((zu σ 14 (Int32.toNatClampNeg x3) (σ 9 (Int32.toNatClampNeg x3))) 10 (Int32.toNatClampNeg x3))) 11 (Int32.toNatClampNeg x3))) 12 (Int32.toNatClampNeg x3))))))))))))
def L_M_law_123   : Nat → Int32 → Hp → Option (Int32 × Hp)
  | 0, _, _ => none
  | n + 1, x3, σ => B_M_law_123  (fun x3 σ => L_M_law_123   n x3 σ) x3 σ
def J_M_law_121    (σ : Hp) : Option (Int32 × Hp) :=
  L_M_law_123   FU (0 : Int32) σ
def J_M_law_71   (x2 : Int32) (σ : Hp) : Option (Int32 × Hp) :=
  if x2 = 0 then (some (((zu σ 0 6 (0 : Int32)) 0 9), (zu σ 0 6 (0 : Int32)))) else (L_M_law_95  (J_M_law_121) FU (0 : Int32) (zu (zu σ 0 6 (0 : Int32)) 0 15 ((zu σ 0 6 (0 : Int32)) 0 14)))
def F_M_law  (a1 : Int32) (σ : Hp) : Option (Int32 × Hp) :=
  (F_M_in a1 (1 : Int32) (240 : Int32) σ).bind fun q5 => if q5.1 = 0 then (some ((-1 : Int32), q5.2)) else (if a1 ≤ (q5.2 0 6) then ((F_M_beginsText a1 q5.2).bind fun q23 => (F_M_readsRule  q23).bind fun q27 => L_M_law_31  (J_M_law_71) FU q27.1 q27.2) else (some ((-1 : Int32), q5.2)))
def F_M_loses  (a1 : Int32) (a2 : Int32) (σ : Hp) : Option (Int32 × Hp) :=
  (F_M_in a1 (1 : Int32) (120 : Int32) σ).bind fun q4 => if q4.1 = 0 then (some ((-1 : Int32), q4.2)) else ((F_M_in a2 (0 : Int32) (1 : Int32) q4.2).bind fun q13 => if q13.1 = 0 then (some ((-1 : Int32), q13.2)) else ((F_M_triesWatches a1 q13.2).bind fun q23 => gd (inb (98 : Int32) 100) ((F_M_copies 2 100 1 100 q23).bind fun q42 => if a2 = 0 then (some ((q23 1 (Int32.toNatClampNeg (98 : Int32))), q42)) else (if (q23 1 (Int32.toNatClampNeg (98 : Int32))) = 0 then (some ((-2 : Int32), q42)) else (some ((q42 0 45), q42))))))
def B_M_march_35  (k103 : Int32 → Int32 → Int32 → Int32 → Hp → Option (Int32 × Hp)) (k35 : Int32 → Int32 → Int32 → Int32 → Int32 → Hp → Option (Int32 × Hp)) (x1 : Int32) (x2 : Int32) (x3 : Int32) (x4 : Int32) (x5 : Int32) (σ : Hp) : Option (Int32 × Hp) :=
  if (8 : Int32) ≤ x5 then (k103 x1 x2 x3 x4 σ) else ((F_M_has x2 x4 σ).bind fun q45 => if q45.1 = 0 then (k35 x1 x2 x3 x4 (x5 + (1 : Int32)) q45.2) else ((F_M_has x2 x5 q45.2).bind fun q54 => if q54.1 = 0 then (k35 x1 x2 x3 x4 (x5 + (1 : Int32)) q54.2) else (gd (inb (((16 : Int32) + ((8 : Int32) * x1)) + x4) 100) (gd (inb (((16 : Int32) + ((8 : Int32) * x1)) + x5) 100) (if (q54.2 1 (Int32.toNatClampNeg (((16 : Int32) + ((8 : Int32) * x1)) + x4))) ≤ (q54.2 1 (Int32.toNatClampNeg (((16 : Int32) + ((8 : Int32) * x1)) + x5))) then (k35 x1 x2 x3 x4 (x5 + (1 : Int32)) q54.2) else (k35 x1 x2 (x3 + (1 : Int32)) x4 (x5 + (1 : Int32)) q54.2))))))
def L_M_march_35  (k103 : Int32 → Int32 → Int32 → Int32 → Hp → Option (Int32 × Hp)) : Nat → Int32 → Int32 → Int32 → Int32 → Int32 → Hp → Option (Int32 × Hp)
  | 0, _, _, _, _, _, _ => none
  | n + 1, x1, x2, x3, x4, x5, σ => B_M_march_35  k103 (fun x1 x2 x3 x4 x5 σ => L_M_march_35  k103 n x1 x2 x3 x4 x5 σ) x1 x2 x3 x4 x5 σ
def J_M_march_103  (k22 : Int32 → Int32 → Int32 → Int32 → Hp → Option (Int32 × Hp)) (x1 : Int32) (x2 : Int32) (x3 : Int32) (x4 : Int32) (σ : Hp) : Option (Int32 × Hp) :=
  k22 x1 x2 x3 (x4 + (1 : Int32)) σ
def B_M_march_22  (k22 : Int32 → Int32 → Int32 → Int32 → Hp → Option (Int32 × Hp)) (x1 : Int32) (x2 : Int32) (x3 : Int32) (x4 : Int32) (σ : Hp) : Option (Int32 × Hp) :=
  if (8 : Int32) ≤ x4 then (some (x3, σ)) else (L_M_march_35  (J_M_march_103  k22) FU x1 x2 x3 x4 (x4 + (1 : Int32)) σ)
def L_M_march_22   : Nat → Int32 → Int32 → Int32 → Int32 → Hp → Option (Int32 × Hp)
  | 0, _, _, _, _, _ => none
  | n + 1, x1, x2, x3, x4, σ => B_M_march_22  (fun x1 x2 x3 x4 σ => L_M_march_22   n x1 x2 x3 x4 σ) x1 x2 x3 x4 σ
def F_M_march  (a1 : Int32) (σ : Hp) : Option (Int32 × Hp) :=
  (F_M_in a1 (0 : Int32) (1 : Int32) σ).bind fun q3 => if q3.1 = 0 then (some ((-1 : Int32), q3.2)) else ((F_M_outside a1 q3.2).bind fun q13 => L_M_march_22   FU a1 q13.1 (0 : Int32) (0 : Int32) q13.2)
def F_M_readsPlace   (σ : Hp) : Option (Int32 × Hp) :=
  (F_M_here  σ).bind fun q1 => (F_M_in q1.1 (48 : Int32) (55 : Int32) q1.2).bind fun q8 => if q8.1 = 0 then ((F_M_wrongAt (1 : Int32) (q8.2 0 7) q8.2).bind fun q20 => gd (isb q20.1) (some (q20.1, q20.2))) else ((F_M_here  q8.2).bind fun q26 => some ((1 : Int32), (zu q26.2 0 10 (q26.1 - (48 : Int32)))))
def B_M_readsAmount_27  (k27 : Int32 → Hp → Option (Int32 × Hp)) (k44 : Hp → Option (Int32 × Hp)) (x1 : Int32) (σ : Hp) : Option (Int32 × Hp) :=
  (F_M_isDigit  σ).bind fun q28 => if q28.1 = 0 then (some ((1 : Int32), q28.2)) else (if (q28.2 0 7) = (x1 + (2 : Int32)) then (k44  q28.2) else ((F_M_here  q28.2).bind fun q63 => k27 x1 (zu (zu q63.2 0 10 ((((10 : Int32) * (q28.2 0 10)) + q63.1) - (48 : Int32))) 0 7 (((zu q63.2 0 10 ((((10 : Int32) * (q28.2 0 10)) + q63.1) - (48 : Int32))) 0 7) + (1 : Int32)))))
def L_M_readsAmount_27  (k44 : Hp → Option (Int32 × Hp)) : Nat → Int32 → Hp → Option (Int32 × Hp)
  | 0, _, _ => none
  | n + 1, x1, σ => B_M_readsAmount_27  (fun x1 σ => L_M_readsAmount_27  k44 n x1 σ) k44 x1 σ
def J_M_readsAmount_44    (σ : Hp) : Option (Int32 × Hp) :=
  (F_M_wrongAt (2 : Int32) (σ 0 7) σ).bind fun q50 => gd (isb q50.1) (some (q50.1, q50.2))
def F_M_readsAmount   (σ : Hp) : Option (Int32 × Hp) :=
  (F_M_isDigit  σ).bind fun q6 => if q6.1 = 0 then ((F_M_wrongAt (1 : Int32) (q6.2 0 7) q6.2).bind fun q18 => gd (isb q18.1) (some (q18.1, q18.2))) else (L_M_readsAmount_27  (J_M_readsAmount_44) FU (σ 0 7) (zu q6.2 0 10 (0 : Int32)))
def J_M_readsDeed_103   (x1 : Int32) (x2 : Int32) (σ : Hp) : Option (Int32 × Hp) :=
  if x2 = (67 : Int32) then (gd (inb ((64 : Int32) + x1) 100) (some ((1 : Int32), (zu σ 1 (Int32.toNatClampNeg ((64 : Int32) + x1)) (σ 0 10))))) else (gd (inb ((48 : Int32) + x1) 100) ((F_M_min (99 : Int32) ((σ 1 (Int32.toNatClampNeg ((48 : Int32) + x1))) + (σ 0 10)) σ).bind fun q149 => gd (inb ((48 : Int32) + x1) 100) (some ((1 : Int32), (zu q149.2 1 (Int32.toNatClampNeg ((48 : Int32) + x1)) q149.1)))))
def J_M_readsDeed_72   (x1 : Int32) (x2 : Int32) (x3 : Int32) (σ : Hp) : Option (Int32 × Hp) :=
  (F_M_readsAmount  σ).bind fun q73 => if q73.1 = 0 then (some ((0 : Int32), q73.2)) else (if x2 = (67 : Int32) then (if (q73.2 0 10) ≤ (9 : Int32) then (J_M_readsDeed_103   x1 x2 q73.2) else ((F_M_wrongAt (3 : Int32) x3 q73.2).bind fun q99 => gd (isb q99.1) (some (q99.1, q99.2)))) else (J_M_readsDeed_103   x1 x2 q73.2))
def J_M_readsDeed_45   (x1 : Int32) (x2 : Int32) (σ : Hp) : Option (Int32 × Hp) :=
  if x2 = (76 : Int32) then (J_M_readsDeed_72   x1 x2 ((zu σ 0 7 ((σ 0 7) + (1 : Int32))) 0 7) (zu σ 0 7 ((σ 0 7) + (1 : Int32)))) else (if x2 = (67 : Int32) then (J_M_readsDeed_72   x1 x2 ((zu σ 0 7 ((σ 0 7) + (1 : Int32))) 0 7) (zu σ 0 7 ((σ 0 7) + (1 : Int32)))) else (if x2 = (71 : Int32) then ((F_M_readsPlace  (zu σ 0 7 ((σ 0 7) + (1 : Int32)))).bind fun q163 => if q163.1 = 0 then (some ((0 : Int32), q163.2)) else ((F_M_changes x1 (((x1 / (8 : Int32)) * (8 : Int32)) + ((zu q163.2 0 7 ((q163.2 0 7) + (1 : Int32))) 0 10)) (zu q163.2 0 7 ((q163.2 0 7) + (1 : Int32)))).bind fun q195 => some ((1 : Int32), q195))) else (if x2 = (73 : Int32) then (gd (inb ((80 : Int32) + x1) 100) (some ((1 : Int32), (zu (zu σ 0 7 ((σ 0 7) + (1 : Int32))) 1 (Int32.toNatClampNeg ((80 : Int32) + x1)) (2 : Int32))))) else ((F_M_comesOut x1 (zu σ 0 7 ((σ 0 7) + (1 : Int32)))).bind fun q222 => some ((1 : Int32), q222)))))
def F_M_readsDeed  (a1 : Int32) (σ : Hp) : Option (Int32 × Hp) :=
  (F_M_here  σ).bind fun q1 => if q1.1 = (76 : Int32) then (J_M_readsDeed_45   a1 q1.1 q1.2) else (if q1.1 = (67 : Int32) then (J_M_readsDeed_45   a1 q1.1 q1.2) else (if q1.1 = (71 : Int32) then (J_M_readsDeed_45   a1 q1.1 q1.2) else (if q1.1 = (73 : Int32) then (J_M_readsDeed_45   a1 q1.1 q1.2) else (if q1.1 = (79 : Int32) then (J_M_readsDeed_45   a1 q1.1 q1.2) else ((F_M_wrongAt (1 : Int32) (q1.2 0 7) q1.2).bind fun q41 => gd (isb q41.1) (some (q41.1, q41.2)))))))
def J_M_readsLine_27   (s0 : Int32) (σ : Hp) : Option (Int32 × Hp) :=
  if s0 = (-1 : Int32) then ((F_M_wrongAt (1 : Int32) (σ 0 7) σ).bind fun q39 => gd (isb q39.1) (some (q39.1, q39.2))) else (if (σ 0 29) = (20 : Int32) then ((F_M_wrongAt (4 : Int32) (σ 0 7) σ).bind fun q58 => gd (isb q58.1) (some (q58.1, q58.2))) else ((F_M_readsPlace  (zu σ 0 7 ((σ 0 7) + (1 : Int32)))).bind fun q73 => if q73.1 = 0 then (some ((0 : Int32), q73.2)) else ((F_M_isThere s0 (q73.2 0 10) q73.2).bind fun q87 => if q87.1 = 0 then ((F_M_wrongAt (7 : Int32) (q87.2 0 7) q87.2).bind fun q100 => gd (isb q100.1) (some (q100.1, q100.2))) else ((F_M_readsDeed (((8 : Int32) * s0) + ((zu (zu q87.2 0 7 ((q87.2 0 7) + (1 : Int32))) 0 29 (((zu q87.2 0 7 ((q87.2 0 7) + (1 : Int32))) 0 29) + (1 : Int32))) 0 10)) (zu (zu q87.2 0 7 ((q87.2 0 7) + (1 : Int32))) 0 29 (((zu q87.2 0 7 ((q87.2 0 7) + (1 : Int32))) 0 29) + (1 : Int32)))).bind fun q134 => gd (isb q134.1) (some (q134.1, q134.2))))))
def F_M_readsLine   (σ : Hp) : Option (Int32 × Hp) :=
  (F_M_here  σ).bind fun q1 => if q1.1 = (60 : Int32) then (J_M_readsLine_27   (0 : Int32) q1.2) else ((F_M_here  q1.2).bind fun q14 => if q14.1 = (62 : Int32) then (J_M_readsLine_27   (1 : Int32) q14.2) else (J_M_readsLine_27   (-1 : Int32) q14.2))
def B_M_orders_46  (k86 : Int32 → Hp → Option (Int32 × Hp)) (k46 : Int32 → Hp → Option (Int32 × Hp)) (x2 : Int32) (σ : Hp) : Option (Int32 × Hp) :=
  if x2 = 0 then (k86 x2 σ) else (if (σ 0 8) ≤ (σ 0 7) then (k86 x2 σ) else ((F_M_takes (59 : Int32) σ).bind fun q64 => if q64.1 = 0 then (k46 (0 : Int32) q64.2) else ((F_M_readsLine  q64.2).bind fun q71 => if q71.1 = 0 then (k46 (0 : Int32) q71.2) else (k46 (1 : Int32) q71.2))))
def L_M_orders_46  (k86 : Int32 → Hp → Option (Int32 × Hp)) : Nat → Int32 → Hp → Option (Int32 × Hp)
  | 0, _, _ => none
  | n + 1, x2, σ => B_M_orders_46  k86 (fun x2 σ => L_M_orders_46  k86 n x2 σ) x2 σ
def J_M_orders_86   (x2 : Int32) (σ : Hp) : Option (Int32 × Hp) :=
  if x2 = 0 then ((F_M_copies 2 100 1 100 (zu σ 0 6 (0 : Int32))).bind fun q108 => some ((q108 0 9), q108)) else (some (((zu σ 0 6 (0 : Int32)) 0 29), (zu σ 0 6 (0 : Int32))))
def F_M_orders  (a1 : Int32) (σ : Hp) : Option (Int32 × Hp) :=
  (F_M_in a1 (1 : Int32) (120 : Int32) σ).bind fun q4 => if q4.1 = 0 then (some ((-1 : Int32), q4.2)) else (if a1 ≤ (q4.2 0 6) then ((F_M_beginsText a1 q4.2).bind fun q22 => (F_M_copies 1 100 2 100 (zu q22 0 29 (0 : Int32))).bind fun q38 => (F_M_readsLine  q38).bind fun q42 => L_M_orders_46  (J_M_orders_86) FU q42.1 q42.2) else (some ((-1 : Int32), q4.2)))
def B_M_twosWithout_13  (k72 : Int32 → Int32 → Int32 → Hp → Option (Int32 × Hp)) (k13 : Int32 → Int32 → Int32 → Int32 → Hp → Option (Int32 × Hp)) (x1 : Int32) (x2 : Int32) (x3 : Int32) (x4 : Int32) (σ : Hp) : Option (Int32 × Hp) :=
  if (8 : Int32) ≤ x4 then (k72 x1 x2 x3 σ) else ((F_M_sitsIn x3 σ).bind fun q22 => if q22.1 = 0 then (k13 x1 x2 x3 (x4 + (1 : Int32)) q22.2) else ((F_M_sitsIn ((8 : Int32) + x4) q22.2).bind fun q34 => if q34.1 = 0 then (k13 x1 x2 x3 (x4 + (1 : Int32)) q34.2) else ((F_M_eyeOf x3 q34.2).bind fun q43 => (F_M_eyeOf ((8 : Int32) + x4) q43.2).bind fun q52 => (F_M_seesOver q43.1 q52.1 x1 q52.2).bind fun q56 => if q56.1 = 0 then (k13 x1 x2 x3 (x4 + (1 : Int32)) q56.2) else (k13 x1 (x2 + (1 : Int32)) x3 (x4 + (1 : Int32)) q56.2))))
def L_M_twosWithout_13  (k72 : Int32 → Int32 → Int32 → Hp → Option (Int32 × Hp)) : Nat → Int32 → Int32 → Int32 → Int32 → Hp → Option (Int32 × Hp)
  | 0, _, _, _, _, _ => none
  | n + 1, x1, x2, x3, x4, σ => B_M_twosWithout_13  k72 (fun x1 x2 x3 x4 σ => L_M_twosWithout_13  k72 n x1 x2 x3 x4 σ) x1 x2 x3 x4 σ
def J_M_twosWithout_72  (k4 : Int32 → Int32 → Int32 → Hp → Option (Int32 × Hp)) (x1 : Int32) (x2 : Int32) (x3 : Int32) (σ : Hp) : Option (Int32 × Hp) :=
  k4 x1 x2 (x3 + (1 : Int32)) σ
def B_M_twosWithout_4  (k4 : Int32 → Int32 → Int32 → Hp → Option (Int32 × Hp)) (x1 : Int32) (x2 : Int32) (x3 : Int32) (σ : Hp) : Option (Int32 × Hp) :=
  if (8 : Int32) ≤ x3 then (some (x2, σ)) else (L_M_twosWithout_13  (J_M_twosWithout_72  k4) FU x1 x2 x3 (0 : Int32) σ)
def L_M_twosWithout_4   : Nat → Int32 → Int32 → Int32 → Hp → Option (Int32 × Hp)
  | 0, _, _, _, _ => none
  | n + 1, x1, x2, x3, σ => B_M_twosWithout_4  (fun x1 x2 x3 σ => L_M_twosWithout_4   n x1 x2 x3 σ) x1 x2 x3 σ
def F_M_twosWithout  (a1 : Int32) (σ : Hp) : Option (Int32 × Hp) :=
  L_M_twosWithout_4   FU a1 (0 : Int32) (0 : Int32) σ
def F_M_twosOver  (a1 : Int32) (σ : Hp) : Option (Int32 × Hp) :=
  gd (inb a1 24) (gd (inb a1 24) ((F_M_twosWithout (-1 : Int32) (zu σ 5 (Int32.toNatClampNeg a1) (0 : Int32))).bind fun q16 => gd (inb a1 24) (some (q16.1, (zu q16.2 5 (Int32.toNatClampNeg a1) (σ 5 (Int32.toNatClampNeg a1)))))))
def B_M_overTrees_26  (k64 : Int32 → Int32 → Int32 → Int32 → Hp → Option (Int32 × Hp)) (k26 : Int32 → Int32 → Int32 → Int32 → Int32 → Hp → Option (Int32 × Hp)) (x1 : Int32) (x2 : Int32) (x3 : Int32) (x4 : Int32) (x5 : Int32) (σ : Hp) : Option (Int32 × Hp) :=
  if (24 : Int32) ≤ x5 then (k64 x1 x2 x3 x4 σ) else ((F_M_twosOver x5 σ).bind fun q36 => if x4 < q36.1 then (k26 x1 x2 x5 q36.1 (x5 + (1 : Int32)) q36.2) else (k26 x1 x2 x3 x4 (x5 + (1 : Int32)) q36.2))
def L_M_overTrees_26  (k64 : Int32 → Int32 → Int32 → Int32 → Hp → Option (Int32 × Hp)) : Nat → Int32 → Int32 → Int32 → Int32 → Int32 → Hp → Option (Int32 × Hp)
  | 0, _, _, _, _, _, _ => none
  | n + 1, x1, x2, x3, x4, x5, σ => B_M_overTrees_26  k64 (fun x1 x2 x3 x4 x5 σ => L_M_overTrees_26  k64 n x1 x2 x3 x4 x5 σ) x1 x2 x3 x4 x5 σ
def J_M_overTrees_64   (x1 : Int32) (x2 : Int32) (x3 : Int32) (x4 : Int32) (σ : Hp) : Option (Int32 × Hp) :=
  if x1 = 0 then (some (x2, σ)) else (if x1 = (1 : Int32) then (some (x3, σ)) else (some ((x4 - x2), σ)))
def F_M_overTrees  (a1 : Int32) (σ : Hp) : Option (Int32 × Hp) :=
  (F_M_in a1 (0 : Int32) (2 : Int32) σ).bind fun q3 => if q3.1 = 0 then (some ((-1 : Int32), q3.2)) else ((F_M_twosWithout (-1 : Int32) q3.2).bind fun q13 => L_M_overTrees_26  (J_M_overTrees_64) FU a1 q13.1 (-2 : Int32) q13.1 (0 : Int32) q13.2)
def B_M_parrots_50  (k80 : Int32 → Int32 → Int32 → Int32 → Hp → Option (Int32 × Hp)) (k50 : Int32 → Int32 → Int32 → Int32 → Int32 → Hp → Option (Int32 × Hp)) (x1 : Int32) (x2 : Int32) (x3 : Int32) (x4 : Int32) (x5 : Int32) (σ : Hp) : Option (Int32 × Hp) :=
  if (10 : Int32) ≤ x5 then (k80 x1 x2 x3 x4 σ) else (if x5 = 0 then (gd (inb x5 10) (k50 x1 x2 x3 x4 (x5 + (1 : Int32)) (zu σ 36 (Int32.toNatClampNeg x5) (1 : Int32)))) else (gd (inb x5 10) (k50 x1 x2 x3 x4 (x5 + (1 : Int32)) (zu σ 36 (Int32.toNatClampNeg x5) (0 : Int32)))))
def L_M_parrots_50  (k80 : Int32 → Int32 → Int32 → Int32 → Hp → Option (Int32 × Hp)) : Nat → Int32 → Int32 → Int32 → Int32 → Int32 → Hp → Option (Int32 × Hp)
  | 0, _, _, _, _, _, _ => none
  | n + 1, x1, x2, x3, x4, x5, σ => B_M_parrots_50  k80 (fun x1 x2 x3 x4 x5 σ => L_M_parrots_50  k80 n x1 x2 x3 x4 x5 σ) x1 x2 x3 x4 x5 σ
def B_M_parrots_118  (k171 : Int32 → Int32 → Int32 → Int32 → Int32 → Hp → Option (Int32 × Hp)) (k118 : Int32 → Int32 → Int32 → Int32 → Int32 → Int32 → Int32 → Hp → Option (Int32 × Hp)) (x1 : Int32) (x2 : Int32) (x3 : Int32) (x4 : Int32) (x5 : Int32) (x6 : Int32) (x7 : Int32) (σ : Hp) : Option (Int32 × Hp) :=
  if x7 < 0 then (k171 x1 x2 x3 x4 x5 σ) else (gd (inb x7 10) (if x7 = 0 then (gd (inb x7 10) (k118 x1 x2 x3 x4 x5 x6 (x7 + (-1 : Int32)) (zu σ 36 (Int32.toNatClampNeg x7) (((σ 36 (Int32.toNatClampNeg x7)) * ((10 : Int32) - x6)) + (0 : Int32))))) else (gd (inb (x7 - (1 : Int32)) 10) (gd (inb x7 10) (k118 x1 x2 x3 x4 x5 x6 (x7 + (-1 : Int32)) (zu σ 36 (Int32.toNatClampNeg x7) (((σ 36 (Int32.toNatClampNeg x7)) * ((10 : Int32) - x6)) + ((σ 36 (Int32.toNatClampNeg (x7 - (1 : Int32)))) * x6))))))))
def L_M_parrots_118  (k171 : Int32 → Int32 → Int32 → Int32 → Int32 → Hp → Option (Int32 × Hp)) : Nat → Int32 → Int32 → Int32 → Int32 → Int32 → Int32 → Int32 → Hp → Option (Int32 × Hp)
  | 0, _, _, _, _, _, _, _, _ => none
  | n + 1, x1, x2, x3, x4, x5, x6, x7, σ => B_M_parrots_118  k171 (fun x1 x2 x3 x4 x5 x6 x7 σ => L_M_parrots_118  k171 n x1 x2 x3 x4 x5 x6 x7 σ) x1 x2 x3 x4 x5 x6 x7 σ
def J_M_parrots_171  (k83 : Int32 → Int32 → Int32 → Int32 → Int32 → Hp → Option (Int32 × Hp)) (x1 : Int32) (x2 : Int32) (x3 : Int32) (x4 : Int32) (x5 : Int32) (σ : Hp) : Option (Int32 × Hp) :=
  k83 x1 x2 x3 x4 (x5 + (1 : Int32)) σ
def B_M_parrots_83  (k177 : Int32 → Int32 → Int32 → Hp → Option (Int32 × Hp)) (k83 : Int32 → Int32 → Int32 → Int32 → Int32 → Hp → Option (Int32 × Hp)) (x1 : Int32) (x2 : Int32) (x3 : Int32) (x4 : Int32) (x5 : Int32) (σ : Hp) : Option (Int32 × Hp) :=
  if x1 ≤ x5 then (k177 x2 x3 x4 σ) else ((F_M_octet x5 σ).bind fun q92 => if q92.1 ≤ (10 : Int32) then (L_M_parrots_118  (J_M_parrots_171  k83) FU x1 x2 x3 (x4 * (10 : Int32)) x5 q92.1 (8 : Int32) q92.2) else (some ((-2 : Int32), q92.2)))
def L_M_parrots_83  (k177 : Int32 → Int32 → Int32 → Hp → Option (Int32 × Hp)) : Nat → Int32 → Int32 → Int32 → Int32 → Int32 → Hp → Option (Int32 × Hp)
  | 0, _, _, _, _, _, _ => none
  | n + 1, x1, x2, x3, x4, x5, σ => B_M_parrots_83  k177 (fun x1 x2 x3 x4 x5 σ => L_M_parrots_83  k177 n x1 x2 x3 x4 x5 σ) x1 x2 x3 x4 x5 σ
def B_M_parrots_190  (k220 : Int32 → Int32 → Int32 → Hp → Option (Int32 × Hp)) (k190 : Int32 → Int32 → Int32 → Int32 → Hp → Option (Int32 × Hp)) (x3 : Int32) (x4 : Int32) (x5 : Int32) (x6 : Int32) (σ : Hp) : Option (Int32 × Hp) :=
  if (8 : Int32) < x6 then (k220 x3 x4 x5 σ) else (if (2 : Int32) ≤ x3 then (k220 x3 x4 x5 σ) else (gd (inb x6 10) (k190 x3 x4 (x5 + (σ 36 (Int32.toNatClampNeg x6))) (x6 + (1 : Int32)) σ)))
def L_M_parrots_190  (k220 : Int32 → Int32 → Int32 → Hp → Option (Int32 × Hp)) : Nat → Int32 → Int32 → Int32 → Int32 → Hp → Option (Int32 × Hp)
  | 0, _, _, _, _, _ => none
  | n + 1, x3, x4, x5, x6, σ => B_M_parrots_190  k220 (fun x3 x4 x5 x6 σ => L_M_parrots_190  k220 n x3 x4 x5 x6 σ) x3 x4 x5 x6 σ
def J_M_parrots_220   (x3 : Int32) (x4 : Int32) (x5 : Int32) (σ : Hp) : Option (Int32 × Hp) :=
  (F_M_gcd x4 x5 σ).bind fun q224 => if (jrem x3 (2 : Int32)) = 0 then (gd (nz q224.1) (some ((x5 / q224.1), q224.2))) else (gd (nz q224.1) (some ((x4 / q224.1), q224.2)))
def J_M_parrots_177   (x2 : Int32) (x3 : Int32) (x4 : Int32) (σ : Hp) : Option (Int32 × Hp) :=
  gd (inb x2 10) (L_M_parrots_190  (J_M_parrots_220) FU x3 x4 (σ 36 (Int32.toNatClampNeg x2)) (x2 + (1 : Int32)) σ)
def J_M_parrots_80   (x1 : Int32) (x2 : Int32) (x3 : Int32) (x4 : Int32) (σ : Hp) : Option (Int32 × Hp) :=
  L_M_parrots_83  (J_M_parrots_177) FU x1 x2 x3 x4 (0 : Int32) σ
def F_M_parrots  (a1 : Int32) (a2 : Int32) (a3 : Int32) (σ : Hp) : Option (Int32 × Hp) :=
  (F_M_in a1 (1 : Int32) (8 : Int32) σ).bind fun q4 => if q4.1 = 0 then (some ((-1 : Int32), q4.2)) else ((F_M_in a2 (0 : Int32) (8 : Int32) q4.2).bind fun q14 => if q14.1 = 0 then (some ((-1 : Int32), q14.2)) else ((F_M_in a3 (0 : Int32) (3 : Int32) q14.2).bind fun q23 => if q23.1 = 0 then (some ((-1 : Int32), q23.2)) else (if a1 ≤ (q23.2 0 6) then (L_M_parrots_50  (J_M_parrots_80) FU a1 a2 a3 (1 : Int32) (0 : Int32) (zu q23.2 0 6 (0 : Int32))) else (some ((-1 : Int32), q23.2)))))
def F_M_readsTimes   (σ : Hp) : Option Hp :=
  (F_M_here  (zu (zu σ 0 38 (σ 0 7)) 0 39 (1 : Int32))).bind fun q14 => (F_M_in q14.1 (50 : Int32) (57 : Int32) q14.2).bind fun q21 => if q21.1 = 0 then (some q21.2) else ((F_M_here  q21.2).bind fun q30 => some (zu (zu q30.2 0 39 (q30.1 - (48 : Int32))) 0 7 (((zu q30.2 0 39 (q30.1 - (48 : Int32))) 0 7) + (1 : Int32))))
def B_M_repeats_31  (k67 : Int32 → Int32 → Int32 → Hp → Option (Int32 × Hp)) (k31 : Int32 → Int32 → Int32 → Int32 → Hp → Option (Int32 × Hp)) (x1 : Int32) (x2 : Int32) (x4 : Int32) (x5 : Int32) (σ : Hp) : Option (Int32 × Hp) :=
  if (x4 * x2) ≤ x5 then (k67 x1 x2 x4 σ) else (gd (inb ((x1 + x5) - x4) 60) (gd (inb (x1 + x5) 60) (k31 x1 x2 x4 (x5 + (1 : Int32)) (zu σ 22 (Int32.toNatClampNeg (x1 + x5)) (σ 22 (Int32.toNatClampNeg ((x1 + x5) - x4)))))))
def L_M_repeats_31  (k67 : Int32 → Int32 → Int32 → Hp → Option (Int32 × Hp)) : Nat → Int32 → Int32 → Int32 → Int32 → Hp → Option (Int32 × Hp)
  | 0, _, _, _, _, _ => none
  | n + 1, x1, x2, x4, x5, σ => B_M_repeats_31  k67 (fun x1 x2 x4 x5 σ => L_M_repeats_31  k67 n x1 x2 x4 x5 σ) x1 x2 x4 x5 σ
def J_M_repeats_67   (x1 : Int32) (x2 : Int32) (x4 : Int32) (σ : Hp) : Option (Int32 × Hp) :=
  some ((1 : Int32), (zu σ 0 36 (x1 + (x4 * x2))))
def F_M_repeats  (a1 : Int32) (a2 : Int32) (a3 : Int32) (σ : Hp) : Option (Int32 × Hp) :=
  if (a1 + (((σ 0 36) - a1) * a2)) ≤ (60 : Int32) then (L_M_repeats_31  (J_M_repeats_67) FU a1 a2 ((σ 0 36) - a1) ((σ 0 36) - a1) σ) else ((F_M_wrongAt (6 : Int32) a3 σ).bind fun q23 => gd (isb q23.1) (some (q23.1, q23.2)))
def B_M_readsItem_4  (k97 : Hp → Option (Int32 × Hp)) (k4 : Hp → Option (Int32 × Hp)) (k21 : Hp → Option (Int32 × Hp))  (σ : Hp) : Option (Int32 × Hp) :=
  (F_M_here  σ).bind fun q5 => if q5.1 = (40 : Int32) then (if (q5.2 0 37) = (2 : Int32) then (k21  q5.2) else (gd (inb (q5.2 0 37) 2) (gd (inb ((zu q5.2 23 (Int32.toNatClampNeg (q5.2 0 37)) (q5.2 0 38)) 0 37) 2) (gd (inb ((zu (zu q5.2 23 (Int32.toNatClampNeg (q5.2 0 37)) (q5.2 0 38)) 24 (Int32.toNatClampNeg ((zu q5.2 23 (Int32.toNatClampNeg (q5.2 0 37)) (q5.2 0 38)) 0 37)) ((zu q5.2 23 (Int32.toNatClampNeg (q5.2 0 37)) (q5.2 0 38)) 0 36)) 0 37) 2) ((F_M_readsTimes  (zu (zu (zu (zu (zu q5.2 23 (Int32.toNatClampNeg (q5.2 0 37)) (q5.2 0 38)) 24 (Int32.toNatClampNeg ((zu q5.2 23 (Int32.toNatClampNeg (q5.2 0 37)) (q5.2 0 38)) 0 37)) ((zu q5.2 23 (Int32.toNatClampNeg (q5.2 0 37)) (q5.2 0 38)) 0 36)) 25 (Int32.toNatClampNeg ((zu (zu q5.2 23 (Int32.toNatClampNeg (q5.2 0 37)) (q5.2 0 38)) 24 (Int32.toNatClampNeg ((zu q5.2 23 (Int32.toNatClampNeg (q5.2 0 37)) (q5.2 0 38)) 0 37)) ((zu q5.2 23 (Int32.toNatClampNeg (q5.2 0 37)) (q5.2 0 38)) 0 36)) 0 37)) ((zu (zu q5.2 23 (Int32.toNatClampNeg (q5.2 0 37)) (q5.2 0 38)) 24 (Int32.toNatClampNeg ((zu q5.2 23 (Int32.toNatClampNeg (q5.2 0 37)) (q5.2 0 38)) 0 37)) ((zu q5.2 23 (Int32.toNatClampNeg (q5.2 0 37)) (q5.2 0 38)) 0 36)) 0 39)) 0 37 (((zu (zu (zu q5.2 23 (Int32.toNatClampNeg (q5.2 0 37)) (q5.2 0 38)) 24 (Int32.toNatClampNeg ((zu q5.2 23 (Int32.toNatClampNeg (q5.2 0 37)) (q5.2 0 38)) 0 37)) ((zu q5.2 23 (Int32.toNatClampNeg (q5.2 0 37)) (q5.2 0 38)) 0 36)) 25 (Int32.toNatClampNeg ((zu (zu q5.2 23 (Int32.toNatClampNeg (q5.2 0 37)) (q5.2 0 38)) 24 (Int32.toNatClampNeg ((zu q5.2 23 (Int32.toNatClampNeg (q5.2 0 37)) (q5.2 0 38)) 0 37)) ((zu q5.2 23 (Int32.toNatClampNeg (q5.2 0 37)) (q5.2 0 38)) 0 36)) 0 37)) ((zu (zu q5.2 23 (Int32.toNatClampNeg (q5.2 0 37)) (q5.2 0 38)) 24 (Int32.toNatClampNeg ((zu q5.2 23 (Int32.toNatClampNeg (q5.2 0 37)) (q5.2 0 38)) 0 37)) ((zu q5.2 23 (Int32.toNatClampNeg (q5.2 0 37)) (q5.2 0 38)) 0 36)) 0 39)) 0 37) + (1 : Int32))) 0 7 (((zu (zu (zu (zu q5.2 23 (Int32.toNatClampNeg (q5.2 0 37)) (q5.2 0 38)) 24 (Int32.toNatClampNeg ((zu q5.2 23 (Int32.toNatClampNeg (q5.2 0 37)) (q5.2 0 38)) 0 37)) ((zu q5.2 23 (Int32.toNatClampNeg (q5.2 0 37)) (q5.2 0 38)) 0 36)) 25 (Int32.toNatClampNeg ((zu (zu q5.2 23 (Int32.toNatClampNeg (q5.2 0 37)) (q5.2 0 38)) 24 (Int32.toNatClampNeg ((zu q5.2 23 (Int32.toNatClampNeg (q5.2 0 37)) (q5.2 0 38)) 0 37)) ((zu q5.2 23 (Int32.toNatClampNeg (q5.2 0 37)) (q5.2 0 38)) 0 36)) 0 37)) ((zu (zu q5.2 23 (Int32.toNatClampNeg (q5.2 0 37)) (q5.2 0 38)) 24 (Int32.toNatClampNeg ((zu q5.2 23 (Int32.toNatClampNeg (q5.2 0 37)) (q5.2 0 38)) 0 37)) ((zu q5.2 23 (Int32.toNatClampNeg (q5.2 0 37)) (q5.2 0 38)) 0 36)) 0 39)) 0 37 (((zu (zu (zu q5.2 23 (Int32.toNatClampNeg (q5.2 0 37)) (q5.2 0 38)) 24 (Int32.toNatClampNeg ((zu q5.2 23 (Int32.toNatClampNeg (q5.2 0 37)) (q5.2 0 38)) 0 37)) ((zu q5.2 23 (Int32.toNatClampNeg (q5.2 0 37)) (q5.2 0 38)) 0 36)) 25 (Int32.toNatClampNeg ((zu (zu q5.2 23 (Int32.toNatClampNeg (q5.2 0 37)) (q5.2 0 38)) 24 (Int32.toNatClampNeg ((zu q5.2 23 (Int32.toNatClampNeg (q5.2 0 37)) (q5.2 0 38)) 0 37)) ((zu q5.2 23 (Int32.toNatClampNeg (q5.2 0 37)) (q5.2 0 38)) 0 36)) 0 37)) ((zu (zu q5.2 23 (Int32.toNatClampNeg (q5.2 0 37)) (q5.2 0 38)) 24 (Int32.toNatClampNeg ((zu q5.2 23 (Int32.toNatClampNeg (q5.2 0 37)) (q5.2 0 38)) 0 37)) ((zu q5.2 23 (Int32.toNatClampNeg (q5.2 0 37)) (q5.2 0 38)) 0 36)) 0 39)) 0 37) + (1 : Int32))) 0 7) + (1 : Int32)))).bind fun q91 => k4  q91))))) else (k97  q5.2)
def L_M_readsItem_4  (k97 : Hp → Option (Int32 × Hp)) (k21 : Hp → Option (Int32 × Hp)) : Nat → Hp → Option (Int32 × Hp)
  | 0, _ => none
  | n + 1, σ => B_M_readsItem_4  k97 (fun σ => L_M_readsItem_4  k97 k21 n σ) k21  σ
def B_M_readsItem_220  (k220 : Hp → Option (Int32 × Hp))  (σ : Hp) : Option (Int32 × Hp) :=
  (F_M_here  σ).bind fun q221 => if q221.1 = (41 : Int32) then (if (q221.2 0 37) ≤ 0 then (some ((1 : Int32), q221.2)) else (gd (inb ((zu (zu q221.2 0 7 ((q221.2 0 7) + (1 : Int32))) 0 37 (((zu q221.2 0 7 ((q221.2 0 7) + (1 : Int32))) 0 37) - (1 : Int32))) 0 37) 2) (gd (inb ((zu (zu q221.2 0 7 ((q221.2 0 7) + (1 : Int32))) 0 37 (((zu q221.2 0 7 ((q221.2 0 7) + (1 : Int32))) 0 37) - (1 : Int32))) 0 37) 2) (gd (inb ((zu (zu q221.2 0 7 ((q221.2 0 7) + (1 : Int32))) 0 37 (((zu q221.2 0 7 ((q221.2 0 7) + (1 : Int32))) 0 37) - (1 : Int32))) 0 37) 2) ((F_M_repeats ((zu (zu q221.2 0 7 ((q221.2 0 7) + (1 : Int32))) 0 37 (((zu q221.2 0 7 ((q221.2 0 7) + (1 : Int32))) 0 37) - (1 : Int32))) 24 (Int32.toNatClampNeg ((zu (zu q221.2 0 7 ((q221.2 0 7) + (1 : Int32))) 0 37 (((zu q221.2 0 7 ((q221.2 0 7) + (1 : Int32))) 0 37) - (1 : Int32))) 0 37))) ((zu (zu q221.2 0 7 ((q221.2 0 7) + (1 : Int32))) 0 37 (((zu q221.2 0 7 ((q221.2 0 7) + (1 : Int32))) 0 37) - (1 : Int32))) 25 (Int32.toNatClampNeg ((zu (zu q221.2 0 7 ((q221.2 0 7) + (1 : Int32))) 0 37 (((zu q221.2 0 7 ((q221.2 0 7) + (1 : Int32))) 0 37) - (1 : Int32))) 0 37))) ((zu (zu q221.2 0 7 ((q221.2 0 7) + (1 : Int32))) 0 37 (((zu q221.2 0 7 ((q221.2 0 7) + (1 : Int32))) 0 37) - (1 : Int32))) 23 (Int32.toNatClampNeg ((zu (zu q221.2 0 7 ((q221.2 0 7) + (1 : Int32))) 0 37 (((zu q221.2 0 7 ((q221.2 0 7) + (1 : Int32))) 0 37) - (1 : Int32))) 0 37))) (zu (zu q221.2 0 7 ((q221.2 0 7) + (1 : Int32))) 0 37 (((zu q221.2 0 7 ((q221.2 0 7) + (1 : Int32))) 0 37) - (1 : Int32)))).bind fun q284 => if q284.1 = 0 then (some ((0 : Int32), q284.2)) else (k220  q284.2)))))) else (some ((1 : Int32), q221.2))
def L_M_readsItem_220   : Nat → Hp → Option (Int32 × Hp)
  | 0, _ => none
  | n + 1, σ => B_M_readsItem_220  (fun σ => L_M_readsItem_220   n σ)  σ
def J_M_readsItem_182   (x1 : Int32) (x2 : Int32) (s0 : Int32) (s1 : Int32) (σ : Hp) : Option (Int32 × Hp) :=
  gd (inb s1 60) ((F_M_repeats (((zu (zu (zu σ 22 (Int32.toNatClampNeg s1) s0) 0 36 (((zu σ 22 (Int32.toNatClampNeg s1) s0) 0 36) + (1 : Int32))) 0 7 (((zu (zu σ 22 (Int32.toNatClampNeg s1) s0) 0 36 (((zu σ 22 (Int32.toNatClampNeg s1) s0) 0 36) + (1 : Int32))) 0 7) + (1 : Int32))) 0 36) - (1 : Int32)) x2 x1 (zu (zu (zu σ 22 (Int32.toNatClampNeg s1) s0) 0 36 (((zu σ 22 (Int32.toNatClampNeg s1) s0) 0 36) + (1 : Int32))) 0 7 (((zu (zu σ 22 (Int32.toNatClampNeg s1) s0) 0 36 (((zu σ 22 (Int32.toNatClampNeg s1) s0) 0 36) + (1 : Int32))) 0 7) + (1 : Int32)))).bind fun q212 => if q212.1 = 0 then (some ((0 : Int32), q212.2)) else (L_M_readsItem_220   FU  q212.2))
def J_M_readsItem_139   (x1 : Int32) (x2 : Int32) (x3 : Int32) (σ : Hp) : Option (Int32 × Hp) :=
  if ((σ 0 36) + x2) ≤ (60 : Int32) then (if x3 = (46 : Int32) then (J_M_readsItem_182   x1 x2 (0 : Int32) (σ 0 36) σ) else (J_M_readsItem_182   x1 x2 ((x3 - (97 : Int32)) + (1 : Int32)) (σ 0 36) σ)) else ((F_M_wrongAt (6 : Int32) x1 σ).bind fun q154 => gd (isb q154.1) (some (q154.1, q154.2)))
def J_M_readsItem_97    (σ : Hp) : Option (Int32 × Hp) :=
  (F_M_here  σ).bind fun q108 => if q108.1 = (46 : Int32) then (J_M_readsItem_139   (σ 0 38) (σ 0 39) q108.1 q108.2) else ((F_M_in q108.1 (97 : Int32) (101 : Int32) q108.2).bind fun q123 => if q123.1 = 0 then ((F_M_wrongAt (1 : Int32) (q123.2 0 7) q123.2).bind fun q135 => gd (isb q135.1) (some (q135.1, q135.2))) else (J_M_readsItem_139   (σ 0 38) (σ 0 39) q108.1 q123.2))
def J_M_readsItem_21    (σ : Hp) : Option (Int32 × Hp) :=
  (F_M_wrongAt (5 : Int32) (σ 0 7) σ).bind fun q27 => gd (isb q27.1) (some (q27.1, q27.2))
def F_M_readsItem   (σ : Hp) : Option (Int32 × Hp) :=
  (F_M_readsTimes  σ).bind fun q1 => L_M_readsItem_4  (J_M_readsItem_97) (J_M_readsItem_21) FU  q1
def B_M_ridge_39  (k95 : Int32 → Int32 → Int32 → Int32 → Int32 → Hp → Option (Int32 × Hp)) (k39 : Int32 → Int32 → Int32 → Int32 → Int32 → Int32 → Hp → Option (Int32 × Hp)) (x1 : Int32) (x2 : Int32) (x3 : Int32) (x4 : Int32) (x5 : Int32) (x6 : Int32) (σ : Hp) : Option (Int32 × Hp) :=
  if x5 ≤ x6 then (k95 x1 x2 x3 x4 x5 σ) else (gd (inb x6 24) (gd (inb x5 24) (if (σ 5 (Int32.toNatClampNeg x5)) ≤ (σ 5 (Int32.toNatClampNeg x6)) then (k39 x1 x2 x3 x4 x5 (x6 + (1 : Int32)) σ) else (gd (inb x5 24) (gd (inb x6 24) ((F_M_max (σ 28 (Int32.toNatClampNeg x5)) ((σ 28 (Int32.toNatClampNeg x6)) + (1 : Int32)) σ).bind fun q85 => gd (inb x5 24) (k39 x1 x2 x3 x4 x5 (x6 + (1 : Int32)) (zu q85.2 28 (Int32.toNatClampNeg x5) q85.1))))))))
def L_M_ridge_39  (k95 : Int32 → Int32 → Int32 → Int32 → Int32 → Hp → Option (Int32 × Hp)) : Nat → Int32 → Int32 → Int32 → Int32 → Int32 → Int32 → Hp → Option (Int32 × Hp)
  | 0, _, _, _, _, _, _, _ => none
  | n + 1, x1, x2, x3, x4, x5, x6, σ => B_M_ridge_39  k95 (fun x1 x2 x3 x4 x5 x6 σ => L_M_ridge_39  k95 n x1 x2 x3 x4 x5 x6 σ) x1 x2 x3 x4 x5 x6 σ
def J_M_ridge_95  (k21 : Int32 → Int32 → Int32 → Int32 → Int32 → Hp → Option (Int32 × Hp)) (x1 : Int32) (x2 : Int32) (x3 : Int32) (x4 : Int32) (x5 : Int32) (σ : Hp) : Option (Int32 × Hp) :=
  gd (inb x5 24) ((F_M_max x4 (σ 28 (Int32.toNatClampNeg x5)) σ).bind fun q104 => gd (inb x5 24) (if x3 < (q104.2 5 (Int32.toNatClampNeg x5)) then (gd (inb x5 24) (k21 x1 (x2 + (1 : Int32)) (q104.2 5 (Int32.toNatClampNeg x5)) q104.1 (x5 + (1 : Int32)) q104.2)) else (k21 x1 x2 x3 q104.1 (x5 + (1 : Int32)) q104.2)))
def B_M_ridge_21  (k141 : Int32 → Int32 → Int32 → Hp → Option (Int32 × Hp)) (k21 : Int32 → Int32 → Int32 → Int32 → Int32 → Hp → Option (Int32 × Hp)) (x1 : Int32) (x2 : Int32) (x3 : Int32) (x4 : Int32) (x5 : Int32) (σ : Hp) : Option (Int32 × Hp) :=
  if (24 : Int32) ≤ x5 then (k141 x1 x2 x4 σ) else (gd (inb x5 24) (L_M_ridge_39  (J_M_ridge_95  k21) FU x1 x2 x3 x4 x5 (0 : Int32) (zu σ 28 (Int32.toNatClampNeg x5) (1 : Int32))))
def L_M_ridge_21  (k141 : Int32 → Int32 → Int32 → Hp → Option (Int32 × Hp)) : Nat → Int32 → Int32 → Int32 → Int32 → Int32 → Hp → Option (Int32 × Hp)
  | 0, _, _, _, _, _, _ => none
  | n + 1, x1, x2, x3, x4, x5, σ => B_M_ridge_21  k141 (fun x1 x2 x3 x4 x5 σ => L_M_ridge_21  k141 n x1 x2 x3 x4 x5 σ) x1 x2 x3 x4 x5 σ
def J_M_ridge_141   (x1 : Int32) (x2 : Int32) (x4 : Int32) (σ : Hp) : Option (Int32 × Hp) :=
  if x1 = 0 then (some (x2, σ)) else (some (x4, σ))
def F_M_ridge  (a1 : Int32) (σ : Hp) : Option (Int32 × Hp) :=
  (F_M_in a1 (0 : Int32) (1 : Int32) σ).bind fun q3 => if q3.1 = 0 then (some ((-1 : Int32), q3.2)) else (L_M_ridge_21  (J_M_ridge_141) FU a1 (0 : Int32) (-1 : Int32) (0 : Int32) (0 : Int32) q3.2)
def F_M_seed  (a1 : Int32) (σ : Hp) : Option (Int32 × Hp) :=
  (F_M_in a1 (0 : Int32) (65535 : Int32) σ).bind fun q5 => if q5.1 = 0 then (some ((0 : Int32), q5.2)) else (gd (inb (99 : Int32) 100) (some ((1 : Int32), (zu q5.2 1 (Int32.toNatClampNeg (99 : Int32)) a1))))
def F_M_sees  (a1 : Int32) (a2 : Int32) (σ : Hp) : Option (Int32 × Hp) :=
  (F_M_isThere (0 : Int32) a1 σ).bind fun q3 => if q3.1 = 0 then (some ((-1 : Int32), q3.2)) else ((F_M_isThere (1 : Int32) a2 q3.2).bind fun q12 => if q12.1 = 0 then (some ((-1 : Int32), q12.2)) else ((F_M_seesOne a1 a2 q12.2).bind fun q23 => if q23.1 = 0 then (some ((0 : Int32), q23.2)) else (some ((1 : Int32), q23.2))))
def J_M_signals_71  (k49 : Int32 → Int32 → Hp → Option (Int32 × Hp)) (x1 : Int32) (σ : Hp) : Option (Int32 × Hp) :=
  (F_M_readsItem  σ).bind fun q72 => k49 x1 q72.1 q72.2
def B_M_signals_49  (k79 : Int32 → Int32 → Hp → Option (Int32 × Hp)) (k49 : Int32 → Int32 → Hp → Option (Int32 × Hp)) (x1 : Int32) (x3 : Int32) (σ : Hp) : Option (Int32 × Hp) :=
  if x3 = 0 then (k79 x1 x3 σ) else (if (σ 0 7) < (σ 0 8) then (J_M_signals_71  k49 x1 σ) else (if (σ 0 37) ≤ 0 then (k79 x1 x3 σ) else (J_M_signals_71  k49 x1 σ)))
def L_M_signals_49  (k79 : Int32 → Int32 → Hp → Option (Int32 × Hp)) : Nat → Int32 → Int32 → Hp → Option (Int32 × Hp)
  | 0, _, _, _ => none
  | n + 1, x1, x3, σ => B_M_signals_49  k79 (fun x1 x3 σ => L_M_signals_49  k79 n x1 x3 σ) x1 x3 σ
def B_M_signals_106  (k106 : Int32 → Int32 → Hp → Option (Int32 × Hp)) (x1 : Int32) (x4 : Int32) (σ : Hp) : Option (Int32 × Hp) :=
  if (σ 0 36) ≤ x4 then (some ((σ 0 36), σ)) else (gd (inb x4 60) (gd (inb (((60 : Int32) * x1) + x4) 120) (k106 x1 (x4 + (1 : Int32)) (zu σ 20 (Int32.toNatClampNeg (((60 : Int32) * x1) + x4)) (vp_nar .byte (Int8.toInt32 (Int32.toInt8 (σ 22 (Int32.toNatClampNeg x4)))))))))
def L_M_signals_106   : Nat → Int32 → Int32 → Hp → Option (Int32 × Hp)
  | 0, _, _, _ => none
  | n + 1, x1, x4, σ => B_M_signals_106  (fun x1 x4 σ => L_M_signals_106   n x1 x4 σ) x1 x4 σ
def J_M_signals_79   (x1 : Int32) (x3 : Int32) (σ : Hp) : Option (Int32 × Hp) :=
  if x3 = 0 then (some (((zu σ 0 6 (0 : Int32)) 0 9), (zu σ 0 6 (0 : Int32)))) else (gd (inb x1 2) (L_M_signals_106   FU x1 (0 : Int32) (zu (zu σ 0 6 (0 : Int32)) 21 (Int32.toNatClampNeg x1) ((zu σ 0 6 (0 : Int32)) 0 36))))
def F_M_signals  (a1 : Int32) (a2 : Int32) (σ : Hp) : Option (Int32 × Hp) :=
  (F_M_in a1 (0 : Int32) (1 : Int32) σ).bind fun q3 => if q3.1 = 0 then (some ((-1 : Int32), q3.2)) else ((F_M_in a2 (1 : Int32) (40 : Int32) q3.2).bind fun q13 => if q13.1 = 0 then (some ((-1 : Int32), q13.2)) else (if a2 ≤ (q13.2 0 6) then ((F_M_beginsText a2 q13.2).bind fun q31 => (F_M_readsItem  (zu (zu q31 0 36 (0 : Int32)) 0 37 (0 : Int32))).bind fun q45 => L_M_signals_49  (J_M_signals_79) FU a1 q45.1 q45.2) else (some ((-1 : Int32), q13.2))))
def B_M_toSee_51  (k51 : Int32 → Int32 → Int32 → Int32 → Int32 → Hp → Option (Int32 × Hp)) (x1 : Int32) (x2 : Int32) (x4 : Int32) (x5 : Int32) (x6 : Int32) (σ : Hp) : Option (Int32 × Hp) :=
  gd (inb (((64 : Int32) + ((8 : Int32) * x1)) + x2) 100) (if (9 : Int32) < (x6 + (σ 1 (Int32.toNatClampNeg (((64 : Int32) + ((8 : Int32) * x1)) + x2)))) then (some ((-2 : Int32), σ)) else (if x1 = 0 then ((F_M_seesOver (x4 + ((5 : Int32) * x6)) x5 (-1 : Int32) σ).bind fun q92 => if q92.1 = 0 then (k51 x1 x2 x4 x5 (x6 + (1 : Int32)) q92.2) else (some (x6, q92.2))) else ((F_M_seesOver x5 (x4 + ((5 : Int32) * x6)) (-1 : Int32) σ).bind fun q107 => if q107.1 = 0 then (k51 x1 x2 x4 x5 (x6 + (1 : Int32)) q107.2) else (some (x6, q107.2)))))
def L_M_toSee_51   : Nat → Int32 → Int32 → Int32 → Int32 → Int32 → Hp → Option (Int32 × Hp)
  | 0, _, _, _, _, _, _ => none
  | n + 1, x1, x2, x4, x5, x6, σ => B_M_toSee_51  (fun x1 x2 x4 x5 x6 σ => L_M_toSee_51   n x1 x2 x4 x5 x6 σ) x1 x2 x4 x5 x6 σ
def F_M_toSee  (a1 : Int32) (a2 : Int32) (a3 : Int32) (σ : Hp) : Option (Int32 × Hp) :=
  (F_M_isThere a1 a2 σ).bind fun q3 => if q3.1 = 0 then (some ((-1 : Int32), q3.2)) else ((F_M_isThere ((1 : Int32) - a1) a3 q3.2).bind fun q14 => if q14.1 = 0 then (some ((-1 : Int32), q14.2)) else ((F_M_eyeOf (((8 : Int32) * a1) + a2) q14.2).bind fun q29 => (F_M_eyeOf (((8 : Int32) * ((1 : Int32) - a1)) + a3) q29.2).bind fun q43 => L_M_toSee_51   FU a1 a2 q29.1 q43.1 (0 : Int32) q43.2))
def J_M_tried_147   (s0 : Int32) (σ : Hp) : Option (Int32 × Hp) :=
  (F_M_copies 2 100 1 100 σ).bind fun q156 => some (s0, q156)
def J_M_tried_145   (s0 : Int32) (s1 : Int32) (σ : Hp) : Option (Int32 × Hp) :=
  gd (inb (s1 + s0) 100) (J_M_tried_147   (σ 1 (Int32.toNatClampNeg (s1 + s0))) σ)
def J_M_tried_67   (x1 : Int32) (x2 : Int32) (σ : Hp) : Option (Int32 × Hp) :=
  (F_M_triesWatches x1 σ).bind fun q69 => if x2 = 0 then (J_M_tried_147   (q69 0 40) q69) else (if x2 = (1 : Int32) then (J_M_tried_147   (q69 0 41) q69) else (if x2 = (2 : Int32) then (J_M_tried_147   (q69 0 42) q69) else (if x2 = (3 : Int32) then (gd (inb (98 : Int32) 100) (J_M_tried_147   (q69 1 (Int32.toNatClampNeg (98 : Int32))) q69)) else (if (20 : Int32) ≤ x2 then (J_M_tried_145   (x2 - (12 : Int32)) (32 : Int32) q69) else (J_M_tried_145   (x2 - (10 : Int32)) (32 : Int32) q69)))))
def J_M_tried_42   (x1 : Int32) (x2 : Int32) (σ : Hp) : Option (Int32 × Hp) :=
  (F_M_in x2 (20 : Int32) (27 : Int32) σ).bind fun q47 => if q47.1 = 0 then (some ((-1 : Int32), q47.2)) else ((F_M_isThere (1 : Int32) (x2 - (20 : Int32)) q47.2).bind fun q59 => if q59.1 = 0 then (some ((-1 : Int32), q59.2)) else (J_M_tried_67   x1 x2 q59.2))
def F_M_tried  (a1 : Int32) (a2 : Int32) (σ : Hp) : Option (Int32 × Hp) :=
  (F_M_in a1 (1 : Int32) (120 : Int32) σ).bind fun q4 => if q4.1 = 0 then (some ((-1 : Int32), q4.2)) else ((F_M_in a2 (0 : Int32) (3 : Int32) q4.2).bind fun q13 => if q13.1 = 0 then ((F_M_in a2 (10 : Int32) (17 : Int32) q13.2).bind fun q24 => if q24.1 = 0 then (J_M_tried_42   a1 a2 q24.2) else ((F_M_isThere (0 : Int32) (a2 - (10 : Int32)) q24.2).bind fun q36 => if q36.1 = 0 then (J_M_tried_42   a1 a2 q36.2) else (J_M_tried_67   a1 a2 q36.2))) else (J_M_tried_67   a1 a2 q13.2))
def F_M_undo   (σ : Hp) : Option (Int32 × Hp) :=
  if (σ 0 61) = 0 then (some ((0 : Int32), σ)) else ((F_M_copies 3 100 1 100 σ).bind fun q17 => some ((1 : Int32), q17))
def F_M_watches  (a1 : Int32) (σ : Hp) : Option (Int32 × Hp) :=
  (F_M_in a1 (1 : Int32) (120 : Int32) σ).bind fun q4 => if q4.1 = 0 then (some ((-1 : Int32), q4.2)) else ((F_M_watchesGo a1 q4.2).bind fun q14 => some ((q14 0 40), q14))
def F_M_whenIn  (a1 : Int32) (a2 : Int32) (a3 : Int32) (σ : Hp) : Option (Int32 × Hp) :=
  (F_M_isThere a1 a2 σ).bind fun q3 => if q3.1 = 0 then (some ((-1 : Int32), q3.2)) else ((F_M_in a3 (1 : Int32) (120 : Int32) q3.2).bind fun q13 => if q13.1 = 0 then (some ((-1 : Int32), q13.2)) else (gd (inb ((80 : Int32) + (((8 : Int32) * a1) + a2)) 100) (if (q13.2 1 (Int32.toNatClampNeg ((80 : Int32) + (((8 : Int32) * a1) + a2)))) = (2 : Int32) then (some ((0 : Int32), q13.2)) else ((F_M_triesWatches a3 q13.2).bind fun q47 => (F_M_copies 2 100 1 100 q47).bind fun q58 => gd (inb (((8 : Int32) * a1) + a2) 16) (some ((q58 26 (Int32.toNatClampNeg (((8 : Int32) * a1) + a2))), q58))))))
