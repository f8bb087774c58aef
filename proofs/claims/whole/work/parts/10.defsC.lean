def B_V_answered_20  (k54 : Int32 → Hp → Option (Int32 × Hp)) (k20 : Int32 → Int32 → Hp → Option (Int32 × Hp)) (x1 : Int32) (x2 : Int32) (σ : Hp) : Option (Int32 × Hp) :=
  if x1 ≤ x2 then (k54 x1 σ) else (gd (inb x2 60) (gd (inb x2 60) (if (σ 29 (Int32.toNatClampNeg x2)) = (σ 31 (Int32.toNatClampNeg x2)) then (k20 x1 (x2 + (1 : Int32)) σ) else (some (x2, σ)))))
def L_V_answered_20  (k54 : Int32 → Hp → Option (Int32 × Hp)) : Nat → Int32 → Int32 → Hp → Option (Int32 × Hp)
  | 0, _, _, _ => none
  | n + 1, x1, x2, σ => B_V_answered_20  k54 (fun x1 x2 σ => L_V_answered_20  k54 n x1 x2 σ) x1 x2 σ
def J_V_answered_54   (x1 : Int32) (σ : Hp) : Option (Int32 × Hp) :=
  if (σ 28 1) = (σ 30 1) then (some ((-2 : Int32), σ)) else (some (x1, σ))
def F_V_answered   (σ : Hp) : Option (Int32 × Hp) :=
  L_V_answered_20  (J_V_answered_54) FU (jmin (σ 28 1) (σ 30 1)) (0 : Int32) σ
def F_V_within  (a0 : Int32) (a1 : Int32) (a2 : Int32) (σ : Hp) : Option (Int32 × Hp) :=
  if a0 < a1 then (some ((0 : Int32), σ)) else (if a2 < a0 then (some ((0 : Int32), σ)) else (some ((1 : Int32), σ)))
def F_X8_has  (a1 : Int32) (σ : Hp) : Option (Int32 × Hp) :=
  if (σ 23 1) < a1 then (some ((0 : Int32), σ)) else (some ((1 : Int32), σ))
def F_X8_byteAt  (a1 : Int32) (σ : Hp) : Option (Int32 × Hp) :=
  if a1 < 0 then (some ((-1 : Int32), σ)) else (if (Int32.ofNat 260) ≤ a1 then (some ((-1 : Int32), σ)) else (gd (inb a1 260) (some ((σ 24 (Int32.toNatClampNeg a1)), σ))))
def F_X8_clear   (σ : Hp) : Option Hp :=
  some (zu σ 23 1 (0 : Int32))
def B_V_ants_39  (k94 : Int32 → Int32 → Int32 → Hp → Option (Int32 × Hp)) (k39 : Int32 → Int32 → Int32 → Int32 → Hp → Option (Int32 × Hp)) (x1 : Int32) (x2 : Int32) (x3 : Int32) (x4 : Int32) (σ : Hp) : Option (Int32 × Hp) :=
  if (8 : Int32) ≤ x4 then (k94 x1 x2 x3 σ) else ((F_X8_byteAt x4 σ).bind fun q58 => gd (inb x4 24) (if x3 = 0 then (k39 x1 x2 (0 : Int32) (x4 + (1 : Int32)) (zu q58.2 41 (Int32.toNatClampNeg x4) q58.1)) else (gd (inb x4 24) ((F_V_within ((zu q58.2 41 (Int32.toNatClampNeg x4) q58.1) 41 (Int32.toNatClampNeg x4)) (1 : Int32) (99 : Int32) (zu q58.2 41 (Int32.toNatClampNeg x4) q58.1)).bind fun q76 => if q76.1 = 0 then (k39 x1 x2 (0 : Int32) (x4 + (1 : Int32)) q76.2) else (k39 x1 x2 (1 : Int32) (x4 + (1 : Int32)) q76.2)))))
def L_V_ants_39  (k94 : Int32 → Int32 → Int32 → Hp → Option (Int32 × Hp)) : Nat → Int32 → Int32 → Int32 → Int32 → Hp → Option (Int32 × Hp)
  | 0, _, _, _, _, _ => none
  | n + 1, x1, x2, x3, x4, σ => B_V_ants_39  k94 (fun x1 x2 x3 x4 σ => L_V_ants_39  k94 n x1 x2 x3 x4 σ) x1 x2 x3 x4 σ
def B_V_ants_113  (k145 : Int32 → Int32 → Hp → Option (Int32 × Hp)) (k113 : Int32 → Int32 → Int32 → Hp → Option (Int32 × Hp)) (x1 : Int32) (x2 : Int32) (x4 : Int32) (σ : Hp) : Option (Int32 × Hp) :=
  if (8 : Int32) ≤ x4 then (k145 x1 x2 σ) else (gd (inb x4 24) (gd (inb (x4 - (1 : Int32)) 24) (gd (inb x4 24) (k113 x1 x2 (x4 + (1 : Int32)) (zu σ 41 (Int32.toNatClampNeg x4) ((σ 41 (Int32.toNatClampNeg x4)) + (σ 41 (Int32.toNatClampNeg (x4 - (1 : Int32))))))))))
def L_V_ants_113  (k145 : Int32 → Int32 → Hp → Option (Int32 × Hp)) : Nat → Int32 → Int32 → Int32 → Hp → Option (Int32 × Hp)
  | 0, _, _, _, _ => none
  | n + 1, x1, x2, x4, σ => B_V_ants_113  k145 (fun x1 x2 x4 σ => L_V_ants_113  k145 n x1 x2 x4 σ) x1 x2 x4 σ
def B_V_ants_150  (k180 : Int32 → Hp → Option (Int32 × Hp)) (k150 : Int32 → Int32 → Hp → Option (Int32 × Hp)) (x2 : Int32) (x4 : Int32) (σ : Hp) : Option (Int32 × Hp) :=
  if x4 < 0 then (k180 x2 σ) else (gd (inb x4 24) (gd (inb (x4 + (1 : Int32)) 24) (gd (inb x4 24) (k150 x2 (x4 + (-1 : Int32)) (zu σ 41 (Int32.toNatClampNeg x4) ((σ 41 (Int32.toNatClampNeg x4)) + (σ 41 (Int32.toNatClampNeg (x4 + (1 : Int32))))))))))
def L_V_ants_150  (k180 : Int32 → Hp → Option (Int32 × Hp)) : Nat → Int32 → Int32 → Hp → Option (Int32 × Hp)
  | 0, _, _, _ => none
  | n + 1, x2, x4, σ => B_V_ants_150  k180 (fun x2 x4 σ => L_V_ants_150  k180 n x2 x4 σ) x2 x4 σ
def B_V_ants_199  (k199 : Int32 → Int32 → Hp → Option (Int32 × Hp)) (x4 : Int32) (x5 : Int32) (σ : Hp) : Option (Int32 × Hp) :=
  if (8 : Int32) ≤ x5 then (some (x4, σ)) else (gd (inb x5 24) (gd (inb x4 24) (if (σ 41 (Int32.toNatClampNeg x5)) ≤ (σ 41 (Int32.toNatClampNeg x4)) then (k199 x4 (x5 + (1 : Int32)) σ) else (k199 x5 (x5 + (1 : Int32)) σ))))
def L_V_ants_199   : Nat → Int32 → Int32 → Hp → Option (Int32 × Hp)
  | 0, _, _, _ => none
  | n + 1, x4, x5, σ => B_V_ants_199  (fun x4 x5 σ => L_V_ants_199   n x4 x5 σ) x4 x5 σ
def J_V_ants_180   (x2 : Int32) (σ : Hp) : Option (Int32 × Hp) :=
  if (8 : Int32) ≤ x2 then (L_V_ants_199   FU (0 : Int32) (1 : Int32) σ) else (gd (inb x2 24) (some ((σ 41 (Int32.toNatClampNeg x2)), σ)))
def J_V_ants_145   (x1 : Int32) (x2 : Int32) (σ : Hp) : Option (Int32 × Hp) :=
  L_V_ants_150  (J_V_ants_180) FU x2 (x1 - (1 : Int32)) σ
def J_V_ants_94   (x1 : Int32) (x2 : Int32) (x3 : Int32) (σ : Hp) : Option (Int32 × Hp) :=
  (F_X8_clear  σ).bind fun q98 => if x3 = 0 then (some ((-2 : Int32), q98)) else (L_V_ants_113  (J_V_ants_145) FU x1 x2 (x1 + (1 : Int32)) q98)
def F_V_ants  (a1 : Int32) (a2 : Int32) (σ : Hp) : Option (Int32 × Hp) :=
  (F_V_within a1 (0 : Int32) (7 : Int32) σ).bind fun q4 => if q4.1 = 0 then (some ((-1 : Int32), q4.2)) else ((F_V_within a2 (0 : Int32) (8 : Int32) q4.2).bind fun q14 => if q14.1 = 0 then (some ((-1 : Int32), q14.2)) else ((F_X8_has (8 : Int32) q14.2).bind fun q26 => if q26.1 = 0 then (some ((-1 : Int32), q26.2)) else (L_V_ants_39  (J_V_ants_94) FU a1 a2 (1 : Int32) (0 : Int32) q26.2)))
def F_V_isSide  (a0 : Int32) (σ : Hp) : Option (Int32 × Hp) :=
  if a0 = 0 then (some ((1 : Int32), σ)) else (if a0 = (1 : Int32) then (some ((1 : Int32), σ)) else (some ((0 : Int32), σ)))
def F_V_signalsOf  (a1 : Int32) (σ : Hp) : Option (Nat × Hp) :=
  if a1 = 0 then (some ((28 : Nat), σ)) else (some ((30 : Nat), σ))
def B_X7_repeatsAfter_2  (k2 : Nat → Int32 → Int32 → Hp → Option (Int32 × Hp)) (r0 : Nat) (x1 : Int32) (x2 : Int32) (σ : Hp) : Option (Int32 × Hp) :=
  if (σ r0 1) ≤ (x2 + x1) then (some ((1 : Int32), σ)) else (gd (inb x2 60) (gd (inb (x2 + x1) 60) (if (σ (r0 + 1) (Int32.toNatClampNeg x2)) = (σ (r0 + 1) (Int32.toNatClampNeg (x2 + x1))) then (k2 r0 x1 (x2 + (1 : Int32)) σ) else (some ((0 : Int32), σ)))))
def L_X7_repeatsAfter_2   : Nat → Nat → Int32 → Int32 → Hp → Option (Int32 × Hp)
  | 0, _, _, _, _ => none
  | n + 1, r0, x1, x2, σ => B_X7_repeatsAfter_2  (fun r0 x1 x2 σ => L_X7_repeatsAfter_2   n r0 x1 x2 σ) r0 x1 x2 σ
def F_X7_repeatsAfter  (t : Nat) (a1 : Int32) (σ : Hp) : Option (Int32 × Hp) :=
  L_X7_repeatsAfter_2   FU t a1 (0 : Int32) σ
def B_V_beat_17  (k17 : Nat → Int32 → Hp → Option (Int32 × Hp)) (r2 : Nat) (x3 : Int32) (σ : Hp) : Option (Int32 × Hp) :=
  if (σ r2 1) < x3 then (some ((-2 : Int32), σ)) else ((F_X7_repeatsAfter r2 x3 σ).bind fun q27 => if q27.1 = 0 then (k17 r2 (x3 + (1 : Int32)) q27.2) else (some (x3, q27.2)))
def L_V_beat_17   : Nat → Nat → Int32 → Hp → Option (Int32 × Hp)
  | 0, _, _, _ => none
  | n + 1, r2, x3, σ => B_V_beat_17  (fun r2 x3 σ => L_V_beat_17   n r2 x3 σ) r2 x3 σ
def F_V_beat  (a1 : Int32) (σ : Hp) : Option (Int32 × Hp) :=
  (F_V_isSide a1 σ).bind fun q1 => if q1.1 = 0 then (some ((-1 : Int32), q1.2)) else ((F_V_signalsOf a1 q1.2).bind fun q11 => gd (isS q11.1) (L_V_beat_17   FU q11.1 (1 : Int32) q11.2))
def B_X0_deal_16  (k16 : Int32 → Int64 → Int32 → Hp → Option (Int32 × Hp)) (x2 : Int32) (y4 : Int64) (x6 : Int32) (σ : Hp) : Option (Int32 × Hp) :=
  if ((4 : Int32) * x2) ≤ x6 then (some ((1 : Int32), σ)) else (if x2 < (1 : Int32) then (some ((1 : Int32), σ)) else (if (3 : Int32) < x2 then (some ((1 : Int32), σ)) else ((F_X8_byteAt x6 σ).bind fun q37 => if q37.1 < 0 then (some ((0 : Int32), q37.2)) else (if (51 : Int32) < q37.1 then (some ((0 : Int32), q37.2)) else (if (lg_cmp ((y4 >>> (Int32.toInt64 q37.1 &&& 63)) &&& (Int64.ofNat 1)) (Int64.ofNat 1)) = 0 then (some ((0 : Int32), q37.2)) else (gd (nz x2) (gd (nz x2) (gd (inb (((x6 / x2) * (3 : Int32)) + (jrem x6 x2)) 12) (k16 x2 (y4 ||| ((Int64.ofNat 1) <<< (Int32.toInt64 q37.1 &&& 63))) (x6 + (1 : Int32)) (zu (zu q37.2 40 (Int32.toNatClampNeg (((x6 / x2) * (3 : Int32)) + (jrem x6 x2))) q37.1) 39 2 (((zu q37.2 40 (Int32.toNatClampNeg (((x6 / x2) * (3 : Int32)) + (jrem x6 x2))) q37.1) 39 2) ||| ((1 : Int32) <<< ((((x6 / x2) * (3 : Int32)) + (jrem x6 x2)) &&& 31)))))))))))))
def L_X0_deal_16   : Nat → Int32 → Int64 → Int32 → Hp → Option (Int32 × Hp)
  | 0, _, _, _, _ => none
  | n + 1, x2, y4, x6, σ => B_X0_deal_16  (fun x2 y4 x6 σ => L_X0_deal_16   n x2 y4 x6 σ) x2 y4 x6 σ
def F_X0_deal  (a2 : Int32) (a3 : Int32) (σ : Hp) : Option (Int32 × Hp) :=
  L_X0_deal_16   FU a2 (Int64.ofNat 0) (0 : Int32) (zu (zu σ 39 1 a3) 39 2 (0 : Int32))
def F_X0_isLeft  (a0 : Int32) (a1 : Int32) (σ : Hp) : Option (Int32 × Hp) :=
  if ((a0 >>> (a1 &&& 31)) &&& (1 : Int32)) = (1 : Int32) then (some ((1 : Int32), σ)) else (some ((0 : Int32), σ))
def F_X0_suit  (a1 : Int32) (σ : Hp) : Option (Int32 × Hp) :=
  gd (inb a1 12) (some (((σ 40 (Int32.toNatClampNeg a1)) / (13 : Int32)), σ))
def F_X0_beats  (a1 : Int32) (a2 : Int32) (σ : Hp) : Option (Int32 × Hp) :=
  (F_X0_suit a1 σ).bind fun q2 => (F_X0_suit a2 q2.2).bind fun q7 => if q2.1 = q7.1 then (gd (inb a1 12) (gd (inb a2 12) (if (q7.2 40 (Int32.toNatClampNeg a1)) ≤ (q7.2 40 (Int32.toNatClampNeg a2)) then (some ((0 : Int32), q7.2)) else (some ((1 : Int32), q7.2))))) else ((F_X0_suit a1 q7.2).bind fun q38 => if q38.1 = (q38.2 39 1) then (some ((1 : Int32), q38.2)) else (some ((0 : Int32), q38.2)))
def B_X0_hasSuit_5  (k5 : Int32 → Int32 → Int32 → Int32 → Hp → Option (Int32 × Hp)) (x1 : Int32) (x2 : Int32) (x3 : Int32) (x4 : Int32) (σ : Hp) : Option (Int32 × Hp) :=
  if ((x2 * (3 : Int32)) + (3 : Int32)) ≤ x4 then (some ((0 : Int32), σ)) else (if (Int32.ofNat 12) ≤ x4 then (some ((0 : Int32), σ)) else ((F_X0_isLeft x1 x4 σ).bind fun q28 => if q28.1 = 0 then (k5 x1 x2 x3 (x4 + (1 : Int32)) q28.2) else ((F_X0_suit x4 q28.2).bind fun q37 => if q37.1 = x3 then (some ((1 : Int32), q37.2)) else (k5 x1 x2 x3 (x4 + (1 : Int32)) q37.2))))
def L_X0_hasSuit_5   : Nat → Int32 → Int32 → Int32 → Int32 → Hp → Option (Int32 × Hp)
  | 0, _, _, _, _, _ => none
  | n + 1, x1, x2, x3, x4, σ => B_X0_hasSuit_5  (fun x1 x2 x3 x4 σ => L_X0_hasSuit_5   n x1 x2 x3 x4 σ) x1 x2 x3 x4 σ
def F_X0_hasSuit  (a1 : Int32) (a2 : Int32) (a3 : Int32) (σ : Hp) : Option (Int32 × Hp) :=
  L_X0_hasSuit_5   FU a1 a2 a3 (a2 * (3 : Int32)) σ
def F_X0_isBetter  (a0 : Int32) (a1 : Int32) (a2 : Int32) (σ : Hp) : Option (Int32 × Hp) :=
  if (jrem a0 (2 : Int32)) = 0 then (if a1 ≤ a2 then (some ((0 : Int32), σ)) else (some ((1 : Int32), σ))) else (if a2 ≤ a1 then (some ((0 : Int32), σ)) else (some ((1 : Int32), σ)))
def J_X0_lay_87 (o_X0_playBest : Int32 → Int32 → Int32 → Int32 → Int32 → Hp → Option (Int32 × Hp))  (x8 : Int32) (x9 : Int32) (s0 : Int32) (σ : Hp) : Option (Int32 × Hp) :=
  if x8 = 0 then (some (s0, σ)) else ((o_X0_playBest x8 x9 (0 : Int32) (0 : Int32) (0 : Int32) σ).bind fun q109 => some ((s0 + q109.1), q109.2))
def J_X0_lay_32 (o_X0_playBest : Int32 → Int32 → Int32 → Int32 → Int32 → Hp → Option (Int32 × Hp))  (x1 : Int32) (x2 : Int32) (x3 : Int32) (x6 : Int32) (s0 : Int32) (σ : Hp) : Option (Int32 × Hp) :=
  if (3 : Int32) ≤ x3 then (if (jrem (s0 / (3 : Int32)) (2 : Int32)) = 0 then (J_X0_lay_87 o_X0_playBest  (x1 &&& (((1 : Int32) <<< (x2 &&& 31)) ^^^ (-1 : Int32))) (s0 / (3 : Int32)) (1 : Int32) σ) else (J_X0_lay_87 o_X0_playBest  (x1 &&& (((1 : Int32) <<< (x2 &&& 31)) ^^^ (-1 : Int32))) (s0 / (3 : Int32)) (0 : Int32) σ)) else ((o_X0_playBest (x1 &&& (((1 : Int32) <<< (x2 &&& 31)) ^^^ (-1 : Int32))) (jrem ((x2 / (3 : Int32)) + (1 : Int32)) (4 : Int32)) (x3 + (1 : Int32)) x6 s0 σ).bind fun q65 => some (q65.1, q65.2))
def J_X0_lay_26 (o_X0_playBest : Int32 → Int32 → Int32 → Int32 → Int32 → Hp → Option (Int32 × Hp))  (x1 : Int32) (x2 : Int32) (x3 : Int32) (x6 : Int32) (σ : Hp) : Option (Int32 × Hp) :=
  J_X0_lay_32 o_X0_playBest  x1 x2 x3 x6 x2 σ
def J_X0_lay_10 (o_X0_playBest : Int32 → Int32 → Int32 → Int32 → Int32 → Hp → Option (Int32 × Hp))  (x1 : Int32) (x2 : Int32) (x3 : Int32) (x5 : Int32) (s0 : Int32) (σ : Hp) : Option (Int32 × Hp) :=
  if x3 = 0 then (J_X0_lay_26 o_X0_playBest  x1 x2 x3 s0 σ) else ((F_X0_beats x2 x5 σ).bind fun q20 => if q20.1 = 0 then (J_X0_lay_32 o_X0_playBest  x1 x2 x3 s0 x5 q20.2) else (J_X0_lay_26 o_X0_playBest  x1 x2 x3 s0 q20.2))
def F_X0_lay (o_X0_playBest : Int32 → Int32 → Int32 → Int32 → Int32 → Hp → Option (Int32 × Hp)) (a1 : Int32) (a2 : Int32) (a3 : Int32) (a4 : Int32) (a5 : Int32) (σ : Hp) : Option (Int32 × Hp) :=
  if a3 = 0 then (J_X0_lay_10 o_X0_playBest  a1 a2 a3 a5 a2 σ) else (J_X0_lay_10 o_X0_playBest  a1 a2 a3 a5 a4 σ)
def J_X0_playBest_83 (o_X0_lay : Int32 → Int32 → Int32 → Int32 → Int32 → Hp → Option (Int32 × Hp)) (k34 : Int32 → Int32 → Int32 → Int32 → Int32 → Int32 → Int32 → Int32 → Hp → Option (Int32 × Hp)) (x1 : Int32) (x2 : Int32) (x3 : Int32) (x4 : Int32) (x5 : Int32) (x6 : Int32) (x7 : Int32) (x8 : Int32) (σ : Hp) : Option (Int32 × Hp) :=
  (o_X0_lay x1 x8 x3 x4 x5 σ).bind fun q92 => if x7 = (-1 : Int32) then (k34 x1 x2 x3 x4 x5 x6 q92.1 (x8 + (1 : Int32)) q92.2) else ((F_X0_isBetter x2 q92.1 x7 q92.2).bind fun q108 => if q108.1 = 0 then (k34 x1 x2 x3 x4 x5 x6 x7 (x8 + (1 : Int32)) q108.2) else (k34 x1 x2 x3 x4 x5 x6 q92.1 (x8 + (1 : Int32)) q108.2))
def B_X0_playBest_34 (o_X0_lay : Int32 → Int32 → Int32 → Int32 → Int32 → Hp → Option (Int32 × Hp)) (k129 : Int32 → Hp → Option (Int32 × Hp)) (k34 : Int32 → Int32 → Int32 → Int32 → Int32 → Int32 → Int32 → Int32 → Hp → Option (Int32 × Hp)) (x1 : Int32) (x2 : Int32) (x3 : Int32) (x4 : Int32) (x5 : Int32) (x6 : Int32) (x7 : Int32) (x8 : Int32) (σ : Hp) : Option (Int32 × Hp) :=
  if ((x2 * (3 : Int32)) + (3 : Int32)) ≤ x8 then (k129 x7 σ) else (if (Int32.ofNat 12) ≤ x8 then (k129 x7 σ) else ((F_X0_isLeft x1 x8 σ).bind fun q57 => if q57.1 = 0 then (k34 x1 x2 x3 x4 x5 x6 x7 (x8 + (1 : Int32)) q57.2) else (if x6 = 0 then (J_X0_playBest_83 o_X0_lay k34 x1 x2 x3 x4 x5 x6 x7 x8 q57.2) else ((F_X0_suit x8 q57.2).bind fun q71 => (F_X0_suit x4 q71.2).bind fun q77 => if q71.1 = q77.1 then (J_X0_playBest_83 o_X0_lay k34 x1 x2 x3 x4 x5 x6 x7 x8 q77.2) else (k34 x1 x2 x3 x4 x5 x6 x7 (x8 + (1 : Int32)) q77.2)))))
def L_X0_playBest_34 (o_X0_lay : Int32 → Int32 → Int32 → Int32 → Int32 → Hp → Option (Int32 × Hp)) (k129 : Int32 → Hp → Option (Int32 × Hp)) : Nat → Int32 → Int32 → Int32 → Int32 → Int32 → Int32 → Int32 → Int32 → Hp → Option (Int32 × Hp)
  | 0, _, _, _, _, _, _, _, _, _ => none
  | n + 1, x1, x2, x3, x4, x5, x6, x7, x8, σ => B_X0_playBest_34 o_X0_lay k129 (fun x1 x2 x3 x4 x5 x6 x7 x8 σ => L_X0_playBest_34 o_X0_lay k129 n x1 x2 x3 x4 x5 x6 x7 x8 σ) x1 x2 x3 x4 x5 x6 x7 x8 σ
def J_X0_playBest_129 (o_X0_lay : Int32 → Int32 → Int32 → Int32 → Int32 → Hp → Option (Int32 × Hp))  (x7 : Int32) (σ : Hp) : Option (Int32 × Hp) :=
  some ((jmax (0 : Int32) x7), σ)
def J_X0_playBest_24 (o_X0_lay : Int32 → Int32 → Int32 → Int32 → Int32 → Hp → Option (Int32 × Hp))  (x1 : Int32) (x2 : Int32) (x3 : Int32) (x4 : Int32) (x5 : Int32) (s0 : Int32) (σ : Hp) : Option (Int32 × Hp) :=
  L_X0_playBest_34 o_X0_lay (J_X0_playBest_129 o_X0_lay) FU x1 x2 x3 x4 x5 s0 (-1 : Int32) (x2 * (3 : Int32)) σ
def J_X0_playBest_23 (o_X0_lay : Int32 → Int32 → Int32 → Int32 → Int32 → Hp → Option (Int32 × Hp))  (x1 : Int32) (x2 : Int32) (x3 : Int32) (x4 : Int32) (x5 : Int32) (σ : Hp) : Option (Int32 × Hp) :=
  J_X0_playBest_24 o_X0_lay  x1 x2 x3 x4 x5 (0 : Int32) σ
def F_X0_playBest (o_X0_lay : Int32 → Int32 → Int32 → Int32 → Int32 → Hp → Option (Int32 × Hp)) (a1 : Int32) (a2 : Int32) (a3 : Int32) (a4 : Int32) (a5 : Int32) (σ : Hp) : Option (Int32 × Hp) :=
  if a3 ≤ 0 then (J_X0_playBest_23 o_X0_lay  a1 a2 a3 a4 a5 σ) else ((F_X0_suit a4 σ).bind fun q10 => (F_X0_hasSuit a1 a2 q10.1 q10.2).bind fun q13 => if q13.1 = 0 then (J_X0_playBest_23 o_X0_lay  a1 a2 a3 a4 a5 q13.2) else (J_X0_playBest_24 o_X0_lay  a1 a2 a3 a4 a5 (1 : Int32) q13.2))
def G_X0_lay : Nat → Nat → Int32 → Int32 → Int32 → Int32 → Int32 → Hp → Option (Int32 × Hp)
  | 0, _ => fun _ _ _ _ _ _ => none
  | n + 1, i => match i with
    | 0 => F_X0_lay (G_X0_lay n 1)
    | _ => F_X0_playBest (G_X0_lay n 0)
theorem G_X0_lay_z (i : Nat) : G_X0_lay 0 i = fun _ _ _ _ _ _ => none := by simp only [G_X0_lay]
theorem G_X0_lay_0 (n : Nat) : G_X0_lay (n + 1) 0 = F_X0_lay (G_X0_lay n 1) := by simp only [G_X0_lay]
def D_X0_lay : Int32 → Int32 → Int32 → Int32 → Int32 → Hp → Option (Int32 × Hp) := G_X0_lay 30 0
theorem G_X0_lay_1 (n : Nat) : G_X0_lay (n + 1) 1 = F_X0_playBest (G_X0_lay n 0) := by simp only [G_X0_lay]
def D_X0_playBest : Int32 → Int32 → Int32 → Int32 → Int32 → Hp → Option (Int32 × Hp) := G_X0_lay 30 1

def J_X0_playFrom_104  (k9 : Int32 → Int32 → Hp → Option Hp) (x1 : Int32) (x2 : Int32) (x3 : Int32) (σ : Hp) : Option Hp :=
  gd (inb x2 12) (k9 x1 (x2 + (1 : Int32)) (zu (zu σ 39 3 x3) 39 4 ((zu σ 39 3 x3) 40 (Int32.toNatClampNeg x2))))
def J_X0_playFrom_76  (k9 : Int32 → Int32 → Hp → Option Hp) (x1 : Int32) (x2 : Int32) (x3 : Int32) (s0 : Int32) (σ : Hp) : Option Hp :=
  if s0 = 0 then (if x3 = (σ 39 3) then (gd (inb x2 12) (if (σ 39 4) ≤ (σ 40 (Int32.toNatClampNeg x2)) then (k9 x1 (x2 + (1 : Int32)) σ) else (J_X0_playFrom_104  k9 x1 x2 x3 σ))) else (k9 x1 (x2 + (1 : Int32)) σ)) else (J_X0_playFrom_104  k9 x1 x2 x3 σ)
def J_X0_playFrom_71  (k9 : Int32 → Int32 → Hp → Option Hp) (x1 : Int32) (x2 : Int32) (x3 : Int32) (σ : Hp) : Option Hp :=
  J_X0_playFrom_76  k9 x1 x2 x3 (1 : Int32) σ
def B_X0_playFrom_9  (k9 : Int32 → Int32 → Hp → Option Hp) (x1 : Int32) (x2 : Int32) (σ : Hp) : Option Hp :=
  if ((x1 * (3 : Int32)) + (3 : Int32)) ≤ x2 then (some σ) else (if (Int32.ofNat 12) ≤ x2 then (some σ) else ((F_X0_isLeft (σ 39 2) x2 σ).bind fun q32 => if q32.1 = 0 then (k9 x1 (x2 + (1 : Int32)) q32.2) else ((D_X0_lay (q32.2 39 2) x2 (0 : Int32) (0 : Int32) (0 : Int32) q32.2).bind fun q47 => if (q47.2 39 4) = (-1 : Int32) then (J_X0_playFrom_71  k9 x1 x2 q47.1 q47.2) else ((F_X0_isBetter x1 q47.1 (q47.2 39 3) q47.2).bind fun q65 => if q65.1 = 0 then (J_X0_playFrom_76  k9 x1 x2 q47.1 (0 : Int32) q65.2) else (J_X0_playFrom_71  k9 x1 x2 q47.1 q65.2)))))
def L_X0_playFrom_9   : Nat → Int32 → Int32 → Hp → Option Hp
  | 0, _, _, _ => none
  | n + 1, x1, x2, σ => B_X0_playFrom_9  (fun x1 x2 σ => L_X0_playFrom_9   n x1 x2 σ) x1 x2 σ
def F_X0_playFrom  (a1 : Int32) (σ : Hp) : Option Hp :=
  L_X0_playFrom_9   FU a1 (a1 * (3 : Int32)) (zu σ 39 4 (-1 : Int32))
def F_V_bridge  (a1 : Int32) (a2 : Int32) (a3 : Int32) (a4 : Int32) (σ : Hp) : Option (Int32 × Hp) :=
  (F_V_within a1 (1 : Int32) (3 : Int32) σ).bind fun q3 => if q3.1 = 0 then (some ((-1 : Int32), q3.2)) else ((F_V_within a2 (0 : Int32) (4 : Int32) q3.2).bind fun q12 => if q12.1 = 0 then (some ((-1 : Int32), q12.2)) else ((F_V_within a3 (0 : Int32) (3 : Int32) q12.2).bind fun q21 => if q21.1 = 0 then (some ((-1 : Int32), q21.2)) else ((F_V_within a4 (0 : Int32) (1 : Int32) q21.2).bind fun q31 => if q31.1 = 0 then (some ((-1 : Int32), q31.2)) else ((F_X8_has ((4 : Int32) * a1) q31.2).bind fun q44 => if q44.1 = 0 then (some ((-1 : Int32), q44.2)) else ((F_X0_deal a1 a2 q44.2).bind fun q62 => (F_X8_clear  q62.2).bind fun q71 => if q62.1 = 0 then (some ((-2 : Int32), q71)) else ((F_X0_playFrom a3 q71).bind fun q87 => if a4 = 0 then (some ((q87 39 3), q87)) else (some ((q87 39 4), q87))))))))
def F_V_isChair  (a0 : Int32) (a1 : Int32) (σ : Hp) : Option (Int32 × Hp) :=
  (F_V_isSide a0 σ).bind fun q1 => if q1.1 = 0 then (some ((0 : Int32), q1.2)) else ((F_V_within a1 (0 : Int32) (7 : Int32) q1.2).bind fun q11 => if q11.1 = 0 then (some ((0 : Int32), q11.2)) else (some ((1 : Int32), q11.2)))
def F_V_isGentleman  (a1 : Int32) (a2 : Int32) (σ : Hp) : Option (Int32 × Hp) :=
  (F_V_isChair a1 a2 σ).bind fun q2 => if q2.1 = 0 then (some ((0 : Int32), q2.2)) else (gd (inb ((a1 * (8 : Int32)) + a2) 16) (if (q2.2 6 (Int32.toNatClampNeg ((a1 * (8 : Int32)) + a2))) = (3 : Int32) then (some ((0 : Int32), q2.2)) else (some ((1 : Int32), q2.2))))
def F_X9_eye  (a1 : Int32) (a2 : Int32) (σ : Hp) : Option (Int32 × Hp) :=
  gd (inb a1 2) (some (((σ 21 (Int32.toNatClampNeg a1)) + ((5 : Int32) * a2)), σ))
def J_X9_isFree_27  (k3 : Int32 → Int32 → Int32 → Int32 → Hp → Option (Int32 × Hp)) (x1 : Int32) (x2 : Int32) (x3 : Int32) (x4 : Int32) (s0 : Int32) (σ : Hp) : Option (Int32 × Hp) :=
  if ((25 : Int32) * s0) < ((((24 : Int32) - x4) * x1) + ((x4 + (1 : Int32)) * x2)) then (k3 x1 x2 x3 (x4 + (1 : Int32)) σ) else (some ((0 : Int32), σ))
def B_X9_isFree_3  (k3 : Int32 → Int32 → Int32 → Int32 → Hp → Option (Int32 × Hp)) (x1 : Int32) (x2 : Int32) (x3 : Int32) (x4 : Int32) (σ : Hp) : Option (Int32 × Hp) :=
  if (24 : Int32) ≤ x4 then (some ((1 : Int32), σ)) else (if x4 = x3 then (J_X9_isFree_27  k3 x1 x2 x3 x4 (0 : Int32) σ) else (gd (inb x4 24) (J_X9_isFree_27  k3 x1 x2 x3 x4 (σ 20 (Int32.toNatClampNeg x4)) σ)))
def L_X9_isFree_3   : Nat → Int32 → Int32 → Int32 → Int32 → Hp → Option (Int32 × Hp)
  | 0, _, _, _, _, _ => none
  | n + 1, x1, x2, x3, x4, σ => B_X9_isFree_3  (fun x1 x2 x3 x4 σ => L_X9_isFree_3   n x1 x2 x3 x4 σ) x1 x2 x3 x4 σ
def F_X9_isFree  (a1 : Int32) (a2 : Int32) (a3 : Int32) (σ : Hp) : Option (Int32 × Hp) :=
  L_X9_isFree_3   FU a1 a2 a3 (0 : Int32) σ
def F_X9_sighted  (a1 : Nat) (a2 : Int32) (a3 : Int32) (σ : Hp) : Option (Int32 × Hp) :=
  gd (inb a2 16) ((F_X9_eye (0 : Int32) (σ (a1 + 4) (Int32.toNatClampNeg a2)) σ).bind fun q9 => gd (inb ((8 : Int32) + a3) 16) ((F_X9_eye (1 : Int32) (q9.2 (a1 + 4) (Int32.toNatClampNeg ((8 : Int32) + a3))) q9.2).bind fun q23 => (F_X9_isFree q9.1 q23.1 (-1 : Int32) q23.2).bind fun q27 => gd (isb q27.1) (some (q27.1, q27.2))))
def J_V_capture_143   (x4 : Int32) (x5 : Int32) (s0 : Int32) (σ : Hp) : Option (Int32 × Hp) :=
  if s0 = 0 then (some ((0 : Int32), σ)) else (gd (inb x4 16) (gd (inb x4 16) (gd (inb x5 16) (gd (inb x5 16) (some ((1 : Int32), (zu (zu σ 5 (Int32.toNatClampNeg x4) ((σ 5 (Int32.toNatClampNeg x4)) + (1 : Int32))) 5 (Int32.toNatClampNeg x5) (((zu σ 5 (Int32.toNatClampNeg x4) ((σ 5 (Int32.toNatClampNeg x4)) + (1 : Int32))) 5 (Int32.toNatClampNeg x5)) - (1 : Int32)))))))))
def F_V_capture  (a1 : Int32) (a2 : Int32) (a3 : Int32) (σ : Hp) : Option (Int32 × Hp) :=
  (F_V_isGentleman a1 a2 σ).bind fun q3 => if q3.1 = 0 then (some ((0 : Int32), q3.2)) else ((F_V_isGentleman ((1 : Int32) - a1) a3 q3.2).bind fun q14 => if q14.1 = 0 then (some ((0 : Int32), q14.2)) else (if (q14.2 1 5) = (5 : Int32) then (gd (inb ((a1 * (8 : Int32)) + a2) 16) (if (q14.2 6 (Int32.toNatClampNeg ((a1 * (8 : Int32)) + a2))) = 0 then (gd (inb ((((1 : Int32) - a1) * (8 : Int32)) + a3) 16) (if (q14.2 6 (Int32.toNatClampNeg ((((1 : Int32) - a1) * (8 : Int32)) + a3))) = 0 then (some ((0 : Int32), q14.2)) else (gd (inb ((a1 * (8 : Int32)) + a2) 16) (if (9 : Int32) ≤ (q14.2 5 (Int32.toNatClampNeg ((a1 * (8 : Int32)) + a2))) then (some ((0 : Int32), q14.2)) else (gd (inb ((((1 : Int32) - a1) * (8 : Int32)) + a3) 16) (if (1 : Int32) ≤ (q14.2 5 (Int32.toNatClampNeg ((((1 : Int32) - a1) * (8 : Int32)) + a3))) then (if a1 = 0 then ((F_X9_sighted 1 a2 a3 q14.2).bind fun q124 => J_V_capture_143   ((a1 * (8 : Int32)) + a2) ((((1 : Int32) - a1) * (8 : Int32)) + a3) q124.1 q124.2) else ((F_X9_sighted 1 a3 a2 q14.2).bind fun q140 => J_V_capture_143   ((a1 * (8 : Int32)) + a2) ((((1 : Int32) - a1) * (8 : Int32)) + a3) q140.1 q140.2)) else (some ((0 : Int32), q14.2)))))))) else (some ((0 : Int32), q14.2)))) else (some ((0 : Int32), q14.2))))
def F_X10_seat  (t : Nat) (a1 : Int32) (a2 : Int32) (a3 : Int32) (a4 : Int32) (σ : Hp) : Option Hp :=
  gd (inb a1 16) (gd (inb a1 16) (gd (inb a1 16) (gd (inb a1 16) (gd (inb a1 16) (some (zu (zu (zu (zu (zu σ (t + 1) (Int32.toNatClampNeg a1) a2) (t + 2) (Int32.toNatClampNeg a1) (0 : Int32)) (t + 3) (Int32.toNatClampNeg a1) a3) (t + 4) (Int32.toNatClampNeg a1) a4) (t + 5) (Int32.toNatClampNeg a1) (0 : Int32)))))))
def F_V_chair  (a1 : Int32) (a2 : Int32) (a3 : Int32) (a4 : Int32) (a5 : Int32) (σ : Hp) : Option (Int32 × Hp) :=
  (F_V_isChair a1 a2 σ).bind fun q2 => if q2.1 = 0 then (some ((0 : Int32), q2.2)) else ((F_V_within a3 (0 : Int32) (9 : Int32) q2.2).bind fun q12 => if q12.1 = 0 then (some ((0 : Int32), q12.2)) else ((F_V_within a4 (0 : Int32) (99 : Int32) q12.2).bind fun q23 => if q23.1 = 0 then (some ((0 : Int32), q23.2)) else ((F_V_within a5 (0 : Int32) (9 : Int32) q23.2).bind fun q34 => if q34.1 = 0 then (some ((0 : Int32), q34.2)) else ((F_X10_seat 1 ((a1 * (8 : Int32)) + a2) a3 a4 a5 q34.2).bind fun q57 => some ((1 : Int32), (zu q57 1 8 (0 : Int32)))))))
def B_J7_fill_5  (k5 : Nat → Nat → Int32 → Int32 → Int32 → Hp → Option Hp) (r0 : Nat) (r0n : Nat) (x1 : Int32) (x2 : Int32) (x3 : Int32) (σ : Hp) : Option Hp :=
  if x3 ≤ x2 then (some σ) else (gd (inb x2 r0n) (k5 r0 r0n x1 (x2 + (1 : Int32)) x3 (zu σ r0 (Int32.toNatClampNeg x2) x1)))
def L_J7_fill_5   : Nat → Nat → Nat → Int32 → Int32 → Int32 → Hp → Option Hp
  | 0, _, _, _, _, _, _ => none
  | n + 1, r0, r0n, x1, x2, x3, σ => B_J7_fill_5  (fun r0 r0n x1 x2 x3 σ => L_J7_fill_5   n r0 r0n x1 x2 x3 σ) r0 r0n x1 x2 x3 σ
def F_J7_fill  (a0 : Nat) (a0n : Nat) (a1 : Int32) (σ : Hp) : Option Hp :=
  L_J7_fill_5   FU a0 a0n a1 (0 : Int32) (Int32.ofNat a0n) σ
def J_X9_lookAround_52  (k18 : Nat → Int32 → Int32 → Hp → Option Hp) (r1 : Nat) (x2 : Int32) (x3 : Int32) (s0 : Int32) (σ : Hp) : Option Hp :=
  if s0 = 0 then (k18 r1 x2 (x3 + (1 : Int32)) σ) else ((F_X9_sighted r1 x2 x3 σ).bind fun q63 => if q63.1 = 0 then (k18 r1 x2 (x3 + (1 : Int32)) q63.2) else (gd (inb x2 16) (gd (inb x2 16) (gd (inb ((8 : Int32) + x3) 16) (gd (inb ((8 : Int32) + x3) 16) (k18 r1 x2 (x3 + (1 : Int32)) (zu (zu q63.2 22 (Int32.toNatClampNeg x2) ((q63.2 22 (Int32.toNatClampNeg x2)) ||| ((1 : Int32) <<< (x3 &&& 31)))) 22 (Int32.toNatClampNeg ((8 : Int32) + x3)) (((zu q63.2 22 (Int32.toNatClampNeg x2) ((q63.2 22 (Int32.toNatClampNeg x2)) ||| ((1 : Int32) <<< (x3 &&& 31)))) 22 (Int32.toNatClampNeg ((8 : Int32) + x3))) ||| ((1 : Int32) <<< (x2 &&& 31))))))))))
def J_X9_lookAround_51  (k18 : Nat → Int32 → Int32 → Hp → Option Hp) (r1 : Nat) (x2 : Int32) (x3 : Int32) (σ : Hp) : Option Hp :=
  J_X9_lookAround_52  k18 r1 x2 x3 (0 : Int32) σ
def B_X9_lookAround_18  (k102 : Nat → Int32 → Hp → Option Hp) (k18 : Nat → Int32 → Int32 → Hp → Option Hp) (r1 : Nat) (x2 : Int32) (x3 : Int32) (σ : Hp) : Option Hp :=
  if (8 : Int32) ≤ x3 then (k102 r1 x2 σ) else (gd (inb x2 16) (if (σ (r1 + 5) (Int32.toNatClampNeg x2)) = (3 : Int32) then (J_X9_lookAround_51  k18 r1 x2 x3 σ) else (gd (inb ((8 : Int32) + x3) 16) (if (σ (r1 + 5) (Int32.toNatClampNeg ((8 : Int32) + x3))) = (3 : Int32) then (J_X9_lookAround_51  k18 r1 x2 x3 σ) else (J_X9_lookAround_52  k18 r1 x2 x3 (1 : Int32) σ)))))
def L_X9_lookAround_18  (k102 : Nat → Int32 → Hp → Option Hp) : Nat → Nat → Int32 → Int32 → Hp → Option Hp
  | 0, _, _, _, _ => none
  | n + 1, r1, x2, x3, σ => B_X9_lookAround_18  k102 (fun r1 x2 x3 σ => L_X9_lookAround_18  k102 n r1 x2 x3 σ) r1 x2 x3 σ
def J_X9_lookAround_102  (k10 : Nat → Int32 → Hp → Option Hp) (r1 : Nat) (x2 : Int32) (σ : Hp) : Option Hp :=
  k10 r1 (x2 + (1 : Int32)) σ
def B_X9_lookAround_10  (k10 : Nat → Int32 → Hp → Option Hp) (r1 : Nat) (x2 : Int32) (σ : Hp) : Option Hp :=
  if (8 : Int32) ≤ x2 then (some σ) else (L_X9_lookAround_18  (J_X9_lookAround_102  k10) FU r1 x2 (0 : Int32) σ)
def L_X9_lookAround_10   : Nat → Nat → Int32 → Hp → Option Hp
  | 0, _, _, _ => none
  | n + 1, r1, x2, σ => B_X9_lookAround_10  (fun r1 x2 σ => L_X9_lookAround_10   n r1 x2 σ) r1 x2 σ
def F_X9_lookAround  (a1 : Nat) (σ : Hp) : Option Hp :=
  (F_J7_fill 22 16 (0 : Int32) σ).bind fun q5 => L_X9_lookAround_10   FU a1 (0 : Int32) q5
def B_X10_bits_5  (k5 : Nat → Int32 → Int32 → Int32 → Int32 → Hp → Option (Int32 × Hp)) (r0 : Nat) (x1 : Int32) (x2 : Int32) (x3 : Int32) (x4 : Int32) (σ : Hp) : Option (Int32 × Hp) :=
  if (8 : Int32) ≤ x4 then (some (x3, σ)) else (gd (inb ((x1 * (8 : Int32)) + x4) 16) (if (σ (r0 + 5) (Int32.toNatClampNeg ((x1 * (8 : Int32)) + x4))) = x2 then (k5 r0 x1 x2 (x3 ||| ((1 : Int32) <<< (x4 &&& 31))) (x4 + (1 : Int32)) σ) else (k5 r0 x1 x2 x3 (x4 + (1 : Int32)) σ)))
def L_X10_bits_5   : Nat → Nat → Int32 → Int32 → Int32 → Int32 → Hp → Option (Int32 × Hp)
  | 0, _, _, _, _, _, _ => none
  | n + 1, r0, x1, x2, x3, x4, σ => B_X10_bits_5  (fun r0 x1 x2 x3 x4 σ => L_X10_bits_5   n r0 x1 x2 x3 x4 σ) r0 x1 x2 x3 x4 σ
def F_X10_bits  (t : Nat) (a1 : Int32) (a2 : Int32) (σ : Hp) : Option (Int32 × Hp) :=
  L_X10_bits_5   FU t a1 a2 (0 : Int32) (0 : Int32) σ
def F_V_chairIs  (a1 : Int32) (a2 : Int32) (a3 : Int32) (σ : Hp) : Option (Int32 × Hp) :=
  (F_V_isGentleman a1 a2 σ).bind fun q3 => if q3.1 = 0 then (some ((-1 : Int32), q3.2)) else (if a3 = (0 : Int32) then (gd (inb ((a1 * (8 : Int32)) + a2) 16) (some ((q3.2 2 (Int32.toNatClampNeg ((a1 * (8 : Int32)) + a2))), q3.2))) else if a3 = (1 : Int32) then (gd (inb ((a1 * (8 : Int32)) + a2) 16) (some ((q3.2 3 (Int32.toNatClampNeg ((a1 * (8 : Int32)) + a2))), q3.2))) else if a3 = (2 : Int32) then (gd (inb ((a1 * (8 : Int32)) + a2) 16) (some ((q3.2 4 (Int32.toNatClampNeg ((a1 * (8 : Int32)) + a2))), q3.2))) else if a3 = (3 : Int32) then (gd (inb ((a1 * (8 : Int32)) + a2) 16) (some ((q3.2 5 (Int32.toNatClampNeg ((a1 * (8 : Int32)) + a2))), q3.2))) else if a3 = (4 : Int32) then (gd (inb ((a1 * (8 : Int32)) + a2) 16) (some ((q3.2 6 (Int32.toNatClampNeg ((a1 * (8 : Int32)) + a2))), q3.2))) else if a3 = (5 : Int32) then ((F_X9_lookAround 1 q3.2).bind fun q127 => gd (inb ((a1 * (8 : Int32)) + a2) 16) ((F_X10_bits 1 ((1 : Int32) - a1) (0 : Int32) q127).bind fun q148 => some (((q127 22 (Int32.toNatClampNeg ((a1 * (8 : Int32)) + a2))) &&& q148.1), q148.2))) else if a3 = (6 : Int32) then (gd (inb ((a1 * (8 : Int32)) + a2) 16) ((F_X9_eye a1 (q3.2 5 (Int32.toNatClampNeg ((a1 * (8 : Int32)) + a2))) q3.2).bind fun q168 => some (q168.1, q168.2))) else (some ((-1 : Int32), q3.2)))
def J_V_check_84  (k36 : Int32 → Int32 → Int32 → Int32 → Hp → Option (Int32 × Hp)) (x1 : Int32) (x2 : Int32) (x3 : Int32) (x4 : Int32) (s0 : Int32) (σ : Hp) : Option (Int32 × Hp) :=
  (F_X8_byteAt x4 σ).bind fun q92 => if q92.1 = s0 then (k36 x1 x2 x3 (x4 + (1 : Int32)) q92.2) else (k36 x1 x2 x4 (x4 + (1 : Int32)) q92.2)
def B_V_check_36  (k109 : Int32 → Hp → Option (Int32 × Hp)) (k36 : Int32 → Int32 → Int32 → Int32 → Hp → Option (Int32 × Hp)) (x1 : Int32) (x2 : Int32) (x3 : Int32) (x4 : Int32) (σ : Hp) : Option (Int32 × Hp) :=
  if x2 ≤ x4 then (k109 x3 σ) else (if x3 = (-1 : Int32) then (gd (inb ((x1 * (8 : Int32)) + x4) 16) (if (σ 6 (Int32.toNatClampNeg ((x1 * (8 : Int32)) + x4))) = (3 : Int32) then (J_V_check_84  k36 x1 x2 x3 x4 (0 : Int32) σ) else (gd (inb ((x1 * (8 : Int32)) + x4) 16) (J_V_check_84  k36 x1 x2 x3 x4 (σ 3 (Int32.toNatClampNeg ((x1 * (8 : Int32)) + x4))) σ)))) else (k109 x3 σ))
def L_V_check_36  (k109 : Int32 → Hp → Option (Int32 × Hp)) : Nat → Int32 → Int32 → Int32 → Int32 → Hp → Option (Int32 × Hp)
  | 0, _, _, _, _, _ => none
  | n + 1, x1, x2, x3, x4, σ => B_V_check_36  k109 (fun x1 x2 x3 x4 σ => L_V_check_36  k109 n x1 x2 x3 x4 σ) x1 x2 x3 x4 σ
def J_V_check_109   (x3 : Int32) (σ : Hp) : Option (Int32 × Hp) :=
  (F_X8_clear  σ).bind fun q113 => some (x3, q113)
def F_V_check  (a1 : Int32) (a2 : Int32) (σ : Hp) : Option (Int32 × Hp) :=
  (F_V_isSide a1 σ).bind fun q1 => if q1.1 = 0 then (some ((-2 : Int32), q1.2)) else ((F_V_within a2 (0 : Int32) (8 : Int32) q1.2).bind fun q11 => if q11.1 = 0 then (some ((-2 : Int32), q11.2)) else ((F_X8_has a2 q11.2).bind fun q22 => if q22.1 = 0 then (some ((-2 : Int32), q22.2)) else (L_V_check_36  (J_V_check_109) FU a1 a2 (-1 : Int32) (0 : Int32) q22.2)))
def F_V_column  (a1 : Int32) (a2 : Int32) (σ : Hp) : Option (Int32 × Hp) :=
  (F_V_within a1 (0 : Int32) (23 : Int32) σ).bind fun q4 => if q4.1 = 0 then (some ((0 : Int32), q4.2)) else ((F_V_within a2 (0 : Int32) (199 : Int32) q4.2).bind fun q15 => if q15.1 = 0 then (some ((0 : Int32), q15.2)) else (gd (inb a1 24) (some ((1 : Int32), (zu q15.2 20 (Int32.toNatClampNeg a1) a2)))))
def B_V_commonDivisor_7  (k7 : Int32 → Int32 → Int32 → Hp → Option (Int32 × Hp)) (x2 : Int32) (x3 : Int32) (x4 : Int32) (σ : Hp) : Option (Int32 × Hp) :=
  if (100 : Int32) ≤ x4 then (some (x2, σ)) else (if x3 = 0 then (some (x2, σ)) else (gd (nz x3) (k7 x3 (jrem x2 x3) (x4 + (1 : Int32)) σ)))
def L_V_commonDivisor_7   : Nat → Int32 → Int32 → Int32 → Hp → Option (Int32 × Hp)
  | 0, _, _, _, _ => none
  | n + 1, x2, x3, x4, σ => B_V_commonDivisor_7  (fun x2 x3 x4 σ => L_V_commonDivisor_7   n x2 x3 x4 σ) x2 x3 x4 σ
def F_V_commonDivisor  (a0 : Int32) (a1 : Int32) (σ : Hp) : Option (Int32 × Hp) :=
  L_V_commonDivisor_7   FU a0 a1 (0 : Int32) σ
def F_X10_gentlemen  (t : Nat) (a1 : Int32) (σ : Hp) : Option (Int32 × Hp) :=
  (F_X10_bits t a1 (3 : Int32) σ).bind fun q6 => some (((255 : Int32) &&& (q6.1 ^^^ (-1 : Int32))), q6.2)
def F_V_countOfSide  (a1 : Int32) (a2 : Int32) (σ : Hp) : Option (Int32 × Hp) :=
  if a2 = (0 : Int32) then ((F_X10_gentlemen 1 a1 σ).bind fun q41 => some (q41.1, q41.2)) else if a2 = (1 : Int32) then ((F_X10_bits 1 a1 (0 : Int32) σ).bind fun q51 => some (q51.1, q51.2)) else if a2 = (2 : Int32) then ((F_X10_bits 1 a1 (1 : Int32) σ).bind fun q61 => some (q61.1, q61.2)) else if a2 = (3 : Int32) then ((F_X10_bits 1 a1 (2 : Int32) σ).bind fun q71 => some (q71.1, q71.2)) else if a2 = (4 : Int32) then (gd (inb a1 2) (some ((σ 21 (Int32.toNatClampNeg a1)), σ))) else ((F_V_signalsOf a1 σ).bind fun q87 => gd (isS q87.1) (some ((q87.2 q87.1 1), q87.2)))
def F_V_count  (a1 : Int32) (σ : Hp) : Option (Int32 × Hp) :=
  (F_V_within a1 (100 : Int32) (123 : Int32) σ).bind fun q5 => if q5.1 = 0 then ((F_V_within a1 (10 : Int32) (15 : Int32) q5.2).bind fun q29 => if q29.1 = 0 then ((F_V_within a1 (20 : Int32) (25 : Int32) q29.2).bind fun q50 => if q50.1 = 0 then (if a1 = (0 : Int32) then (some ((q50.2 1 6), q50.2)) else if a1 = (1 : Int32) then (some ((q50.2 1 5), q50.2)) else if a1 = (2 : Int32) then (some ((q50.2 1 8), q50.2)) else if a1 = (3 : Int32) then (gd (isL (Int32.toNatClampNeg (q50.2 0 14))) (some ((q50.2 (Int32.toNatClampNeg (q50.2 0 14)) 8), q50.2))) else if a1 = (4 : Int32) then (some ((q50.2 23 1), q50.2)) else if a1 = (5 : Int32) then (some ((q50.2 1 7), q50.2)) else (some ((-1 : Int32), q50.2))) else ((F_V_countOfSide (1 : Int32) (a1 - (20 : Int32)) q50.2).bind fun q62 => some (q62.1, q62.2))) else ((F_V_countOfSide (0 : Int32) (a1 - (10 : Int32)) q29.2).bind fun q41 => some (q41.1, q41.2))) else (gd (inb (a1 - (100 : Int32)) 24) (some ((q5.2 20 (Int32.toNatClampNeg (a1 - (100 : Int32)))), q5.2)))
def B_V_crests_6  (k6 : Int32 → Int32 → Int32 → Hp → Option (Int32 × Hp)) (x1 : Int32) (x2 : Int32) (x3 : Int32) (σ : Hp) : Option (Int32 × Hp) :=
  if (24 : Int32) ≤ x3 then (some (x2, σ)) else (gd (inb x3 24) (if (σ 20 (Int32.toNatClampNeg x3)) ≤ x1 then (k6 x1 x2 (x3 + (1 : Int32)) σ) else (gd (inb x3 24) (k6 (σ 20 (Int32.toNatClampNeg x3)) (x2 + (1 : Int32)) (x3 + (1 : Int32)) σ))))
def L_V_crests_6   : Nat → Int32 → Int32 → Int32 → Hp → Option (Int32 × Hp)
  | 0, _, _, _, _ => none
  | n + 1, x1, x2, x3, σ => B_V_crests_6  (fun x1 x2 x3 σ => L_V_crests_6   n x1 x2 x3 σ) x1 x2 x3 σ
def F_V_crests   (σ : Hp) : Option (Int32 × Hp) :=
  L_V_crests_6   FU (-1 : Int32) (0 : Int32) (0 : Int32) σ
def F_X8_hasRoom  (a1 : Int32) (σ : Hp) : Option (Int32 × Hp) :=
  if (Int32.ofNat 260) < ((σ 23 1) + a1) then (some ((0 : Int32), σ)) else (some ((1 : Int32), σ))
def B_X8_add_3  (k3 : Int32 → Int32 → Hp → Option Hp) (x1 : Int32) (x2 : Int32) (σ : Hp) : Option Hp :=
  if x2 < 0 then (some σ) else (if (Int32.ofNat 260) ≤ (σ 23 1) then (some σ) else (gd (inb (σ 23 1) 260) (k3 x1 (x2 + (-8 : Int32)) (zu (zu σ 24 (Int32.toNatClampNeg (σ 23 1)) ((x1 >>> (x2 &&& 31)) &&& (255 : Int32))) 23 1 (((zu σ 24 (Int32.toNatClampNeg (σ 23 1)) ((x1 >>> (x2 &&& 31)) &&& (255 : Int32))) 23 1) + (1 : Int32))))))
def L_X8_add_3   : Nat → Int32 → Int32 → Hp → Option Hp
  | 0, _, _, _ => none
  | n + 1, x1, x2, σ => B_X8_add_3  (fun x1 x2 σ => L_X8_add_3   n x1 x2 σ) x1 x2 σ
def F_X8_add  (a1 : Int32) (σ : Hp) : Option Hp :=
  L_X8_add_3   FU a1 (24 : Int32) σ
def F_V_feed  (a1 : Int32) (a2 : Int32) (a3 : Int32) (a4 : Int32) (a5 : Int32) (σ : Hp) : Option (Int32 × Hp) :=
  (F_X8_hasRoom (20 : Int32) σ).bind fun q6 => if q6.1 = 0 then (some ((-1 : Int32), q6.2)) else ((F_X8_add a1 q6.2).bind fun q19 => (F_X8_add a2 q19).bind fun q27 => (F_X8_add a3 q27).bind fun q35 => (F_X8_add a4 q35).bind fun q44 => (F_X8_add a5 q44).bind fun q53 => some ((q53 23 1), q53))
def F_X10_copy  (t : Nat) (a1 : Nat) (σ : Hp) : Option Hp :=
  some (zu (zu (zu (zu (zcp (zcp (zcp (zcp (zcp σ (t + 1) (a1 + 1) 16) (t + 2) (a1 + 2) 16) (t + 3) (a1 + 3) 16) (t + 4) (a1 + 4) 16) (t + 5) (a1 + 5) 16) t 5 ((zcp (zcp (zcp (zcp (zcp σ (t + 1) (a1 + 1) 16) (t + 2) (a1 + 2) 16) (t + 3) (a1 + 3) 16) (t + 4) (a1 + 4) 16) (t + 5) (a1 + 5) 16) a1 5)) t 6 ((zu (zcp (zcp (zcp (zcp (zcp σ (t + 1) (a1 + 1) 16) (t + 2) (a1 + 2) 16) (t + 3) (a1 + 3) 16) (t + 4) (a1 + 4) 16) (t + 5) (a1 + 5) 16) t 5 ((zcp (zcp (zcp (zcp (zcp σ (t + 1) (a1 + 1) 16) (t + 2) (a1 + 2) 16) (t + 3) (a1 + 3) 16) (t + 4) (a1 + 4) 16) (t + 5) (a1 + 5) 16) a1 5)) a1 6)) t 7 ((zu (zu (zcp (zcp (zcp (zcp (zcp σ (t + 1) (a1 + 1) 16) (t + 2) (a1 + 2) 16) (t + 3) (a1 + 3) 16) (t + 4) (a1 + 4) 16) (t + 5) (a1 + 5) 16) t 5 ((zcp (zcp (zcp (zcp (zcp σ (t + 1) (a1 + 1) 16) (t + 2) (a1 + 2) 16) (t + 3) (a1 + 3) 16) (t + 4) (a1 + 4) 16) (t + 5) (a1 + 5) 16) a1 5)) t 6 ((zu (zcp (zcp (zcp (zcp (zcp σ (t + 1) (a1 + 1) 16) (t + 2) (a1 + 2) 16) (t + 3) (a1 + 3) 16) (t + 4) (a1 + 4) 16) (t + 5) (a1 + 5) 16) t 5 ((zcp (zcp (zcp (zcp (zcp σ (t + 1) (a1 + 1) 16) (t + 2) (a1 + 2) 16) (t + 3) (a1 + 3) 16) (t + 4) (a1 + 4) 16) (t + 5) (a1 + 5) 16) a1 5)) a1 6)) a1 7)) t 8 ((zu (zu (zu (zcp (zcp (zcp (zcp (zcp σ (t + 1) (a1 + 1) 16) (t + 2) (a1 + 2) 16) (t + 3) (a1 + 3) 16) (t + 4) (a1 + 4) 16) (t + 5) (a1 + 5) 16) t 5 ((zcp (zcp (zcp (zcp (zcp σ (t + 1) (a1 + 1) 16) (t + 2) (a1 + 2) 16) (t + 3) (a1 + 3) 16) (t + 4) (a1 + 4) 16) (t + 5) (a1 + 5) 16) a1 5)) t 6 ((zu (zcp (zcp (zcp (zcp (zcp σ (t + 1) (a1 + 1) 16) (t + 2) (a1 + 2) 16) (t + 3) (a1 + 3) 16) (t + 4) (a1 + 4) 16) (t + 5) (a1 + 5) 16) t 5 ((zcp (zcp (zcp (zcp (zcp σ (t + 1) (a1 + 1) 16) (t + 2) (a1 + 2) 16) (t + 3) (a1 + 3) 16) (t + 4) (a1 + 4) 16) (t + 5) (a1 + 5) 16) a1 5)) a1 6)) t 7 ((zu (zu (zcp (zcp (zcp (zcp (zcp σ (t + 1) (a1 + 1) 16) (t + 2) (a1 + 2) 16) (t + 3) (a1 + 3) 16) (t + 4) (a1 + 4) 16) (t + 5) (a1 + 5) 16) t 5 ((zcp (zcp (zcp (zcp (zcp σ (t + 1) (a1 + 1) 16) (t + 2) (a1 + 2) 16) (t + 3) (a1 + 3) 16) (t + 4) (a1 + 4) 16) (t + 5) (a1 + 5) 16) a1 5)) t 6 ((zu (zcp (zcp (zcp (zcp (zcp σ (t + 1) (a1 + 1) 16) (t + 2) (a1 + 2) 16) (t + 3) (a1 + 3) 16) (t + 4) (a1 + 4) 16) (t + 5) (a1 + 5) 16) t 5 ((zcp (zcp (zcp (zcp (zcp σ (t + 1) (a1 + 1) 16) (t + 2) (a1 + 2) 16) (t + 3) (a1 + 3) 16) (t + 4) (a1 + 4) 16) (t + 5) (a1 + 5) 16) a1 5)) a1 6)) a1 7)) a1 8))
def F_X10_goesOn  (t : Nat) (σ : Hp) : Option (Int32 × Hp) :=
  if (σ t 8) = 0 then (if (9999 : Int32) ≤ (σ t 6) then (some ((0 : Int32), σ)) else (some ((1 : Int32), σ))) else (some ((0 : Int32), σ))
def J_X10_sidesOut_29  (k4 : Nat → Int32 → Int32 → Hp → Option (Int32 × Hp)) (r0 : Nat) (x1 : Int32) (x2 : Int32) (σ : Hp) : Option (Int32 × Hp) :=
  k4 r0 (x1 ||| ((1 : Int32) <<< ((x2 / (8 : Int32)) &&& 31))) (x2 + (1 : Int32)) σ
def B_X10_sidesOut_4  (k4 : Nat → Int32 → Int32 → Hp → Option (Int32 × Hp)) (r0 : Nat) (x1 : Int32) (x2 : Int32) (σ : Hp) : Option (Int32 × Hp) :=
  if (16 : Int32) ≤ x2 then (some (x1, σ)) else (gd (inb x2 16) (if (σ (r0 + 5) (Int32.toNatClampNeg x2)) = 0 then (J_X10_sidesOut_29  k4 r0 x1 x2 σ) else (gd (inb x2 16) (if (σ (r0 + 5) (Int32.toNatClampNeg x2)) = (1 : Int32) then (J_X10_sidesOut_29  k4 r0 x1 x2 σ) else (k4 r0 x1 (x2 + (1 : Int32)) σ)))))
def L_X10_sidesOut_4   : Nat → Nat → Int32 → Int32 → Hp → Option (Int32 × Hp)
  | 0, _, _, _, _ => none
  | n + 1, r0, x1, x2, σ => B_X10_sidesOut_4  (fun r0 x1 x2 σ => L_X10_sidesOut_4   n r0 x1 x2 σ) r0 x1 x2 σ
def F_X10_sidesOut  (t : Nat) (σ : Hp) : Option (Int32 × Hp) :=
  L_X10_sidesOut_4   FU t (0 : Int32) (0 : Int32) σ
def F_J6_bitCount  (a0 : Int32) (σ : Hp) : Option (Int32 × Hp) :=
  some (((((((((a0 - ((jushr a0 (1 : Int32)) &&& (1431655765 : Int32))) &&& (858993459 : Int32)) + ((jushr (a0 - ((jushr a0 (1 : Int32)) &&& (1431655765 : Int32))) (2 : Int32)) &&& (858993459 : Int32))) + (jushr (((a0 - ((jushr a0 (1 : Int32)) &&& (1431655765 : Int32))) &&& (858993459 : Int32)) + ((jushr (a0 - ((jushr a0 (1 : Int32)) &&& (1431655765 : Int32))) (2 : Int32)) &&& (858993459 : Int32))) (4 : Int32))) &&& (252645135 : Int32)) + (jushr (((((a0 - ((jushr a0 (1 : Int32)) &&& (1431655765 : Int32))) &&& (858993459 : Int32)) + ((jushr (a0 - ((jushr a0 (1 : Int32)) &&& (1431655765 : Int32))) (2 : Int32)) &&& (858993459 : Int32))) + (jushr (((a0 - ((jushr a0 (1 : Int32)) &&& (1431655765 : Int32))) &&& (858993459 : Int32)) + ((jushr (a0 - ((jushr a0 (1 : Int32)) &&& (1431655765 : Int32))) (2 : Int32)) &&& (858993459 : Int32))) (4 : Int32))) &&& (252645135 : Int32)) (8 : Int32))) + (jushr ((((((a0 - ((jushr a0 (1 : Int32)) &&& (1431655765 : Int32))) &&& (858993459 : Int32)) + ((jushr (a0 - ((jushr a0 (1 : Int32)) &&& (1431655765 : Int32))) (2 : Int32)) &&& (858993459 : Int32))) + (jushr (((a0 - ((jushr a0 (1 : Int32)) &&& (1431655765 : Int32))) &&& (858993459 : Int32)) + ((jushr (a0 - ((jushr a0 (1 : Int32)) &&& (1431655765 : Int32))) (2 : Int32)) &&& (858993459 : Int32))) (4 : Int32))) &&& (252645135 : Int32)) + (jushr (((((a0 - ((jushr a0 (1 : Int32)) &&& (1431655765 : Int32))) &&& (858993459 : Int32)) + ((jushr (a0 - ((jushr a0 (1 : Int32)) &&& (1431655765 : Int32))) (2 : Int32)) &&& (858993459 : Int32))) + (jushr (((a0 - ((jushr a0 (1 : Int32)) &&& (1431655765 : Int32))) &&& (858993459 : Int32)) + ((jushr (a0 - ((jushr a0 (1 : Int32)) &&& (1431655765 : Int32))) (2 : Int32)) &&& (858993459 : Int32))) (4 : Int32))) &&& (252645135 : Int32)) (8 : Int32))) (16 : Int32))) &&& (63 : Int32)), σ)
def F_X2_look  (a1 : Nat) (a2 : Nat) (a3 : Int32) (σ : Hp) : Option Hp :=
  (F_X10_bits a1 ((1 : Int32) - (a3 / (8 : Int32))) (0 : Int32) σ).bind fun q12 => gd (inb (0 : Int32) 11) (gd (inb (1 : Int32) 11) (gd (inb a3 16) (gd (inb (2 : Int32) 11) (gd (inb a3 16) (gd (inb (3 : Int32) 11) (gd (inb a3 16) (gd (inb (4 : Int32) 11) (gd (inb a3 16) (gd (inb (5 : Int32) 11) ((F_X10_bits a1 (a3 / (8 : Int32)) (0 : Int32) (zu (zu (zu (zu (zu (zu q12.2 (a2 + 7) (Int32.toNatClampNeg (0 : Int32)) (a3 / (8 : Int32))) (a2 + 7) (Int32.toNatClampNeg (1 : Int32)) (jrem a3 (8 : Int32))) (a2 + 7) (Int32.toNatClampNeg (2 : Int32)) ((zu (zu q12.2 (a2 + 7) (Int32.toNatClampNeg (0 : Int32)) (a3 / (8 : Int32))) (a2 + 7) (Int32.toNatClampNeg (1 : Int32)) (jrem a3 (8 : Int32))) (a1 + 1) (Int32.toNatClampNeg a3))) (a2 + 7) (Int32.toNatClampNeg (3 : Int32)) ((zu (zu (zu q12.2 (a2 + 7) (Int32.toNatClampNeg (0 : Int32)) (a3 / (8 : Int32))) (a2 + 7) (Int32.toNatClampNeg (1 : Int32)) (jrem a3 (8 : Int32))) (a2 + 7) (Int32.toNatClampNeg (2 : Int32)) ((zu (zu q12.2 (a2 + 7) (Int32.toNatClampNeg (0 : Int32)) (a3 / (8 : Int32))) (a2 + 7) (Int32.toNatClampNeg (1 : Int32)) (jrem a3 (8 : Int32))) (a1 + 1) (Int32.toNatClampNeg a3))) (a1 + 2) (Int32.toNatClampNeg a3))) (a2 + 7) (Int32.toNatClampNeg (4 : Int32)) ((zu (zu (zu (zu q12.2 (a2 + 7) (Int32.toNatClampNeg (0 : Int32)) (a3 / (8 : Int32))) (a2 + 7) (Int32.toNatClampNeg (1 : Int32)) (jrem a3 (8 : Int32))) (a2 + 7) (Int32.toNatClampNeg (2 : Int32)) ((zu (zu q12.2 (a2 + 7) (Int32.toNatClampNeg (0 : Int32)) (a3 / (8 : Int32))) (a2 + 7) (Int32.toNatClampNeg (1 : Int32)) (jrem a3 (8 : Int32))) (a1 + 1) (Int32.toNatClampNeg a3))) (a2 + 7) (Int32.toNatClampNeg (3 : Int32)) ((zu (zu (zu q12.2 (a2 + 7) (Int32.toNatClampNeg (0 : Int32)) (a3 / (8 : Int32))) (a2 + 7) (Int32.toNatClampNeg (1 : Int32)) (jrem a3 (8 : Int32))) (a2 + 7) (Int32.toNatClampNeg (2 : Int32)) ((zu (zu q12.2 (a2 + 7) (Int32.toNatClampNeg (0 : Int32)) (a3 / (8 : Int32))) (a2 + 7) (Int32.toNatClampNeg (1 : Int32)) (jrem a3 (8 : Int32))) (a1 + 1) (Int32.toNatClampNeg a3))) (a1 + 2) (Int32.toNatClampNeg a3))) (a1 + 3) (Int32.toNatClampNeg a3))) (a2 + 7) (Int32.toNatClampNeg (5 : Int32)) ((zu (zu (zu (zu (zu q12.2 (a2 + 7) (Int32.toNatClampNeg (0 : Int32)) (a3 / (8 : Int32))) (a2 + 7) (Int32.toNatClampNeg (1 : Int32)) (jrem a3 (8 : Int32))) (a2 + 7) (Int32.toNatClampNeg (2 : Int32)) ((zu (zu q12.2 (a2 + 7) (Int32.toNatClampNeg (0 : Int32)) (a3 / (8 : Int32))) (a2 + 7) (Int32.toNatClampNeg (1 : Int32)) (jrem a3 (8 : Int32))) (a1 + 1) (Int32.toNatClampNeg a3))) (a2 + 7) (Int32.toNatClampNeg (3 : Int32)) ((zu (zu (zu q12.2 (a2 + 7) (Int32.toNatClampNeg (0 : Int32)) (a3 / (8 : Int32))) (a2 + 7) (Int32.toNatClampNeg (1 : Int32)) (jrem a3 (8 : Int32))) (a2 + 7) (Int32.toNatClampNeg (2 : Int32)) ((zu (zu q12.2 (a2 + 7) (Int32.toNatClampNeg (0 : Int32)) (a3 / (8 : Int32))) (a2 + 7) (Int32.toNatClampNeg (1 : Int32)) (jrem a3 (8 : Int32))) (a1 + 1) (Int32.toNatClampNeg a3))) (a1 + 2) (Int32.toNatClampNeg a3))) (a2 + 7) (Int32.toNatClampNeg (4 : Int32)) ((zu (zu (zu (zu q12.2 (a2 + 7) (Int32.toNatClampNeg (0 : Int32)) (a3 / (8 : Int32))) (a2 + 7) (Int32.toNatClampNeg (1 : Int32)) (jrem a3 (8 : Int32))) (a2 + 7) (Int32.toNatClampNeg (2 : Int32)) ((zu (zu q12.2 (a2 + 7) (Int32.toNatClampNeg (0 : Int32)) (a3 / (8 : Int32))) (a2 + 7) (Int32.toNatClampNeg (1 : Int32)) (jrem a3 (8 : Int32))) (a1 + 1) (Int32.toNatClampNeg a3))) (a2 + 7) (Int32.toNatClampNeg (3 : Int32)) ((zu (zu (zu q12.2 (a2 + 7) (Int32.toNatClampNeg (0 : Int32)) (a3 / (8 : Int32))) (a2 + 7) (Int32.toNatClampNeg (1 : Int32)) (jrem a3 (8 : Int32))) (a2 + 7) (Int32.toNatClampNeg (2 : Int32)) ((zu (zu q12.2 (a2 + 7) (Int32.toNatClampNeg (0 : Int32)) (a3 / (8 : Int32))) (a2 + 7) (Int32.toNatClampNeg (1 : Int32)) (jrem a3 (8 : Int32))) (a1 + 1) (Int32.toNatClampNeg a3))) (a1 + 2) (Int32.toNatClampNeg a3))) (a1 + 3) (Int32.toNatClampNeg a3))) (a1 + 4) (Int32.toNatClampNeg a3)))).bind fun q85 => (F_J6_bitCount q85.1 q85.2).bind fun q88 => gd (inb (6 : Int32) 11) ((F_J6_bitCount q12.1 (zu q88.2 (a2 + 7) (Int32.toNatClampNeg (6 : Int32)) q88.1)).bind fun q98 => gd (inb (7 : Int32) 11) (gd (inb a3 16) ((F_J6_bitCount (((zu q98.2 (a2 + 7) (Int32.toNatClampNeg (7 : Int32)) q98.1) 22 (Int32.toNatClampNeg a3)) &&& q12.1) (zu q98.2 (a2 + 7) (Int32.toNatClampNeg (7 : Int32)) q98.1)).bind fun q118 => gd (inb (8 : Int32) 11) (gd (inb (9 : Int32) 11) (gd (inb (10 : Int32) 11) (some (zu (zu (zu q118.2 (a2 + 7) (Int32.toNatClampNeg (8 : Int32)) q118.1) (a2 + 7) (Int32.toNatClampNeg (9 : Int32)) ((zu q118.2 (a2 + 7) (Int32.toNatClampNeg (8 : Int32)) q118.1) a1 5)) (a2 + 7) (Int32.toNatClampNeg (10 : Int32)) (jrem ((zu (zu q118.2 (a2 + 7) (Int32.toNatClampNeg (8 : Int32)) q118.1) (a2 + 7) (Int32.toNatClampNeg (9 : Int32)) ((zu q118.2 (a2 + 7) (Int32.toNatClampNeg (8 : Int32)) q118.1) a1 5)) a1 6) (100 : Int32)))))))))))))))))))
def F_X4_valueOf  (t : Nat) (a1 : Int32) (σ : Hp) : Option (Int32 × Hp) :=
  if a1 < 0 then (some ((0 : Int32), σ)) else (if (11 : Int32) ≤ a1 then (some ((0 : Int32), σ)) else (gd (inb a1 11) (some ((σ (t + 7) (Int32.toNatClampNeg a1)), σ))))
def F_X4_push  (t : Nat) (a1 : Int32) (a2 : Int32) (σ : Hp) : Option (Int32 × Hp) :=
  if (a1 + (1 : Int32)) < (Int32.ofNat 64) then (gd (inb (a1 + (1 : Int32)) 64) (some ((a1 + (1 : Int32)), (zu σ (t + 8) (Int32.toNatClampNeg (a1 + (1 : Int32))) a2)))) else (some (a1, σ))
def J_X4_combine_115   (r0 : Nat) (x1 : Int32) (x2 : Int32) (x3 : Int32) (s0 : Int32) (s1 : Nat) (σ : Hp) : Option (Int32 × Hp) :=
  gd (isb s0) (if ((zu σ s1 10 s0) r0 10) = 0 then (if x1 = (47 : Int32) then (gd (nz x3) (some ((x2 / x3), (zu σ s1 10 s0)))) else (gd (nz x3) (some ((jrem x2 x3), (zu σ s1 10 s0))))) else (some ((0 : Int32), (zu σ s1 10 s0))))
def F_X4_combine  (t : Nat) (a1 : Int32) (a2 : Int32) (a3 : Int32) (σ : Hp) : Option (Int32 × Hp) :=
  if a1 = (42 : Int32) then (some ((a2 * a3), σ)) else if a1 = (43 : Int32) then (some ((a2 + a3), σ)) else if a1 = (45 : Int32) then (some ((a2 - a3), σ)) else if a1 = (60 : Int32) then (if a3 ≤ a2 then (some ((0 : Int32), σ)) else (some ((1 : Int32), σ))) else if a1 = (61 : Int32) then (if a2 = a3 then (some ((1 : Int32), σ)) else (some ((0 : Int32), σ))) else if a1 = (62 : Int32) then (if a2 ≤ a3 then (some ((0 : Int32), σ)) else (some ((1 : Int32), σ))) else (if a3 = 0 then (J_X4_combine_115   t a1 a2 a3 (1 : Int32) t σ) else (J_X4_combine_115   t a1 a2 a3 (0 : Int32) t σ))
def J_X4_reckon_241  (k13 : Nat → Int32 → Int32 → Int32 → Int32 → Hp → Option (Int32 × Hp)) (r0 : Nat) (x2 : Int32) (x3 : Int32) (x4 : Int32) (x5 : Int32) (x7 : Int32) (σ : Hp) : Option (Int32 × Hp) :=
  if x7 = 0 then (k13 r0 x2 x3 (x4 + (1 : Int32)) (x5 + (1 : Int32)) σ) else (gd (inb x4 240) (k13 r0 x2 x3 (σ (r0 + 2) (Int32.toNatClampNeg x4)) (x5 + (1 : Int32)) σ))
def J_X4_reckon_103  (k13 : Nat → Int32 → Int32 → Int32 → Int32 → Hp → Option (Int32 × Hp)) (r0 : Nat) (x2 : Int32) (x4 : Int32) (x5 : Int32) (x7 : Int32) (s0 : Int32) (s1 : Int32) (s2 : Nat) (σ : Hp) : Option (Int32 × Hp) :=
  (F_X4_push s2 s1 s0 σ).bind fun q103 => J_X4_reckon_241  k13 r0 x2 q103.1 x4 x5 x7 q103.2
def J_X4_reckon_73  (k13 : Nat → Int32 → Int32 → Int32 → Int32 → Hp → Option (Int32 × Hp)) (r0 : Nat) (x2 : Int32) (x3 : Int32) (x4 : Int32) (x5 : Int32) (x6 : Int32) (x7 : Int32) (σ : Hp) : Option (Int32 × Hp) :=
  if x6 = (110 : Int32) then (gd (inb x4 240) (J_X4_reckon_103  k13 r0 x2 x4 x5 x7 (σ (r0 + 2) (Int32.toNatClampNeg x4)) x3 r0 σ)) else (gd (inb x4 240) ((F_X4_valueOf r0 (σ (r0 + 2) (Int32.toNatClampNeg x4)) σ).bind fun q100 => J_X4_reckon_103  k13 r0 x2 x4 x5 x7 q100.1 x3 r0 q100.2))
def J_X4_reckon_202  (k13 : Nat → Int32 → Int32 → Int32 → Int32 → Hp → Option (Int32 × Hp)) (r0 : Nat) (x2 : Int32) (x4 : Int32) (x5 : Int32) (x7 : Int32) (s0 : Int32) (σ : Hp) : Option (Int32 × Hp) :=
  J_X4_reckon_241  k13 r0 x2 s0 x4 x5 x7 σ
def J_X4_reckon_188  (k13 : Nat → Int32 → Int32 → Int32 → Int32 → Hp → Option (Int32 × Hp)) (r0 : Nat) (x2 : Int32) (x3 : Int32) (x4 : Int32) (x5 : Int32) (s0 : Int32) (σ : Hp) : Option (Int32 × Hp) :=
  if s0 = 0 then (J_X4_reckon_202  k13 r0 x2 x4 x5 s0 (x3 - (1 : Int32)) σ) else (J_X4_reckon_202  k13 r0 x2 x4 x5 s0 x3 σ)
def J_X4_reckon_180  (k13 : Nat → Int32 → Int32 → Int32 → Int32 → Hp → Option (Int32 × Hp)) (r0 : Nat) (x2 : Int32) (x3 : Int32) (x4 : Int32) (x5 : Int32) (s0 : Int32) (s1 : Int32) (σ : Hp) : Option (Int32 × Hp) :=
  if s1 = s0 then (J_X4_reckon_188  k13 r0 x2 x3 x4 x5 (1 : Int32) σ) else (J_X4_reckon_188  k13 r0 x2 x3 x4 x5 (0 : Int32) σ)
def J_X4_reckon_168  (k13 : Nat → Int32 → Int32 → Int32 → Int32 → Hp → Option (Int32 × Hp)) (r0 : Nat) (x2 : Int32) (x3 : Int32) (x4 : Int32) (x5 : Int32) (x6 : Int32) (s0 : Int32) (σ : Hp) : Option (Int32 × Hp) :=
  if x6 = (124 : Int32) then (J_X4_reckon_180  k13 r0 x2 x3 x4 x5 (1 : Int32) s0 σ) else (J_X4_reckon_180  k13 r0 x2 x3 x4 x5 (0 : Int32) s0 σ)
def J_X4_reckon_154  (k13 : Nat → Int32 → Int32 → Int32 → Int32 → Hp → Option (Int32 × Hp)) (r0 : Nat) (x2 : Int32) (x3 : Int32) (x4 : Int32) (x5 : Int32) (x6 : Int32) (σ : Hp) : Option (Int32 × Hp) :=
  gd (inb x3 64) (if (σ (r0 + 8) (Int32.toNatClampNeg x3)) = 0 then (J_X4_reckon_168  k13 r0 x2 x3 x4 x5 x6 (0 : Int32) σ) else (J_X4_reckon_168  k13 r0 x2 x3 x4 x5 x6 (1 : Int32) σ))
def B_X4_reckon_13  (k268 : Nat → Int32 → Hp → Option (Int32 × Hp)) (k13 : Nat → Int32 → Int32 → Int32 → Int32 → Hp → Option (Int32 × Hp)) (r0 : Nat) (x2 : Int32) (x3 : Int32) (x4 : Int32) (x5 : Int32) (σ : Hp) : Option (Int32 × Hp) :=
  if (240 : Int32) ≤ x5 then (k268 r0 x3 σ) else (if x4 < 0 then (k268 r0 x3 σ) else (if x2 ≤ x4 then (k268 r0 x3 σ) else (if (240 : Int32) ≤ x4 then (k268 r0 x3 σ) else (if (σ r0 10) = 0 then (gd (inb x4 240) (if (σ (r0 + 1) (Int32.toNatClampNeg x4)) = (110 : Int32) then (J_X4_reckon_73  k13 r0 x2 x3 x4 x5 (σ (r0 + 1) (Int32.toNatClampNeg x4)) (0 : Int32) σ) else (if (σ (r0 + 1) (Int32.toNatClampNeg x4)) = (108 : Int32) then (J_X4_reckon_73  k13 r0 x2 x3 x4 x5 (σ (r0 + 1) (Int32.toNatClampNeg x4)) (0 : Int32) σ) else (if 0 ≤ x3 then (if (σ (r0 + 1) (Int32.toNatClampNeg x4)) = (33 : Int32) then (gd (inb x3 64) (gd (inb x3 64) (J_X4_reckon_241  k13 r0 x2 x3 x4 x5 (0 : Int32) (zu σ (r0 + 8) (Int32.toNatClampNeg x3) ((1 : Int32) - (σ (r0 + 8) (Int32.toNatClampNeg x3))))))) else (if (σ (r0 + 1) (Int32.toNatClampNeg x4)) = (38 : Int32) then (J_X4_reckon_154  k13 r0 x2 x3 x4 x5 (σ (r0 + 1) (Int32.toNatClampNeg x4)) σ) else (if (σ (r0 + 1) (Int32.toNatClampNeg x4)) = (124 : Int32) then (J_X4_reckon_154  k13 r0 x2 x3 x4 x5 (σ (r0 + 1) (Int32.toNatClampNeg x4)) σ) else (if x3 ≤ 0 then (J_X4_reckon_241  k13 r0 x2 x3 x4 x5 (0 : Int32) σ) else (gd (inb (x3 - (1 : Int32)) 64) (gd (inb x3 64) ((F_X4_combine r0 (σ (r0 + 1) (Int32.toNatClampNeg x4)) (σ (r0 + 8) (Int32.toNatClampNeg (x3 - (1 : Int32)))) (σ (r0 + 8) (Int32.toNatClampNeg x3)) σ).bind fun q234 => gd (inb (x3 - (1 : Int32)) 64) (J_X4_reckon_241  k13 r0 x2 (x3 + (-1 : Int32)) x4 x5 (0 : Int32) (zu q234.2 (r0 + 8) (Int32.toNatClampNeg (x3 - (1 : Int32))) q234.1))))))))) else (some ((0 : Int32), σ)))))) else (k268 r0 x3 σ)))))
def L_X4_reckon_13  (k268 : Nat → Int32 → Hp → Option (Int32 × Hp)) : Nat → Nat → Int32 → Int32 → Int32 → Int32 → Hp → Option (Int32 × Hp)
  | 0, _, _, _, _, _, _ => none
  | n + 1, r0, x2, x3, x4, x5, σ => B_X4_reckon_13  k268 (fun r0 x2 x3 x4 x5 σ => L_X4_reckon_13  k268 n r0 x2 x3 x4 x5 σ) r0 x2 x3 x4 x5 σ
def J_X4_reckon_268   (r0 : Nat) (x3 : Int32) (σ : Hp) : Option (Int32 × Hp) :=
  if x3 < 0 then (some ((0 : Int32), σ)) else (gd (inb x3 64) (some ((σ (r0 + 8) (Int32.toNatClampNeg x3)), σ)))
def F_X4_reckon  (t : Nat) (a1 : Int32) (a2 : Int32) (σ : Hp) : Option (Int32 × Hp) :=
  gd (isb (0 : Int32)) (L_X4_reckon_13  (J_X4_reckon_268) FU t a2 (-1 : Int32) a1 (0 : Int32) (zu σ t 10 (0 : Int32)))
def B_X4_amount_2  (k2 : Nat → Int32 → Int32 → Int32 → Hp → Option (Int32 × Hp)) (k46 : Nat → Int32 → Int32 → Hp → Option (Int32 × Hp)) (r0 : Nat) (x1 : Int32) (x2 : Int32) (x3 : Int32) (σ : Hp) : Option (Int32 × Hp) :=
  if (σ r0 8) ≤ x3 then (some ((0 : Int32), σ)) else (gd (inb x3 16) (if (σ (r0 + 3) (Int32.toNatClampNeg x3)) = x1 then (gd (inb x3 16) (gd (inb x3 16) ((F_X4_reckon r0 (σ (r0 + 5) (Int32.toNatClampNeg x3)) (σ (r0 + 6) (Int32.toNatClampNeg x3)) σ).bind fun q33 => if q33.1 = 0 then (k2 r0 x1 x2 (x3 + (1 : Int32)) q33.2) else (if (q33.2 r0 10) = 0 then (k46 r0 x2 x3 q33.2) else (k2 r0 x1 x2 (x3 + (1 : Int32)) q33.2))))) else (k2 r0 x1 x2 (x3 + (1 : Int32)) σ)))
def L_X4_amount_2  (k46 : Nat → Int32 → Int32 → Hp → Option (Int32 × Hp)) : Nat → Nat → Int32 → Int32 → Int32 → Hp → Option (Int32 × Hp)
  | 0, _, _, _, _, _ => none
  | n + 1, r0, x1, x2, x3, σ => B_X4_amount_2  (fun r0 x1 x2 x3 σ => L_X4_amount_2  k46 n r0 x1 x2 x3 σ) k46 r0 x1 x2 x3 σ
def J_X4_amount_46   (r0 : Nat) (x2 : Int32) (x3 : Int32) (σ : Hp) : Option (Int32 × Hp) :=
  gd (inb x3 16) (gd (inb x3 16) ((F_X4_reckon r0 (σ (r0 + 4) (Int32.toNatClampNeg x3)) (σ (r0 + 5) (Int32.toNatClampNeg x3)) σ).bind fun q59 => if (q59.2 r0 10) = 0 then (some ((jmax (0 : Int32) (jmin x2 q59.1)), q59.2)) else (some ((0 : Int32), q59.2))))
def F_X4_amount  (t : Nat) (a1 : Int32) (a2 : Int32) (σ : Hp) : Option (Int32 × Hp) :=
  L_X4_amount_2  (J_X4_amount_46) FU t a1 a2 (0 : Int32) σ
def F_X2_drinkAndYawn  (a1 : Nat) (a2 : Nat) (a3 : Int32) (σ : Hp) : Option Hp :=
  (F_X2_look a1 a2 a3 σ).bind fun q4 => (F_X4_amount a2 (98 : Int32) (99 : Int32) q4).bind fun q12 => gd (inb a3 16) ((F_X4_amount a2 (116 : Int32) (99 : Int32) q12.2).bind fun q28 => gd (inb a3 16) (gd (inb a3 16) (gd (inb a3 16) (gd (inb a3 16) (some (zu (zu (zu q28.2 (a1 + 2) (Int32.toNatClampNeg a3) (jmin (99 : Int32) ((q28.2 (a1 + 2) (Int32.toNatClampNeg a3)) + q12.1))) (a1 + 3) (Int32.toNatClampNeg a3) (((zu q28.2 (a1 + 2) (Int32.toNatClampNeg a3) (jmin (99 : Int32) ((q28.2 (a1 + 2) (Int32.toNatClampNeg a3)) + q12.1))) (a1 + 3) (Int32.toNatClampNeg a3)) - (jmin (q12.2 (a1 + 3) (Int32.toNatClampNeg a3)) q28.1))) 26 4 (((zu (zu q28.2 (a1 + 2) (Int32.toNatClampNeg a3) (jmin (99 : Int32) ((q28.2 (a1 + 2) (Int32.toNatClampNeg a3)) + q12.1))) (a1 + 3) (Int32.toNatClampNeg a3) (((zu q28.2 (a1 + 2) (Int32.toNatClampNeg a3) (jmin (99 : Int32) ((q28.2 (a1 + 2) (Int32.toNatClampNeg a3)) + q12.1))) (a1 + 3) (Int32.toNatClampNeg a3)) - (jmin (q12.2 (a1 + 3) (Int32.toNatClampNeg a3)) q28.1))) 26 4) + (jmin (q12.2 (a1 + 3) (Int32.toNatClampNeg a3)) q28.1))))))))
def B_X4_sendsIn_2  (k2 : Nat → Int32 → Hp → Option (Int32 × Hp)) (r0 : Nat) (x1 : Int32) (σ : Hp) : Option (Int32 × Hp) :=
  if (σ r0 8) ≤ x1 then (some ((0 : Int32), σ)) else (gd (inb x1 16) (if (σ (r0 + 3) (Int32.toNatClampNeg x1)) = (120 : Int32) then (gd (inb x1 16) (gd (inb x1 16) ((F_X4_reckon r0 (σ (r0 + 5) (Int32.toNatClampNeg x1)) (σ (r0 + 6) (Int32.toNatClampNeg x1)) σ).bind fun q34 => if q34.1 = 0 then (k2 r0 (x1 + (1 : Int32)) q34.2) else (if (q34.2 r0 10) = 0 then (some ((1 : Int32), q34.2)) else (k2 r0 (x1 + (1 : Int32)) q34.2))))) else (k2 r0 (x1 + (1 : Int32)) σ)))
def L_X4_sendsIn_2   : Nat → Nat → Int32 → Hp → Option (Int32 × Hp)
  | 0, _, _, _ => none
  | n + 1, r0, x1, σ => B_X4_sendsIn_2  (fun r0 x1 σ => L_X4_sendsIn_2   n r0 x1 σ) r0 x1 σ
def F_X4_sendsIn  (t : Nat) (σ : Hp) : Option (Int32 × Hp) :=
  L_X4_sendsIn_2   FU t (0 : Int32) σ
def F_X10_draw  (t : Nat) (σ : Hp) : Option (Int32 × Hp) :=
  some ((jrem ((zu σ t 7 ((((25173 : Int32) * (σ t 7)) + (13849 : Int32)) &&& (65535 : Int32))) t 7) (10 : Int32)), (zu σ t 7 ((((25173 : Int32) * (σ t 7)) + (13849 : Int32)) &&& (65535 : Int32))))
def J_X2_stayOrGo_34   (r1 : Nat) (x3 : Int32) (x4 : Int32) (σ : Hp) : Option Hp :=
  gd (inb x3 16) (gd (inb x3 16) (if ((zu (zu (zu σ (r1 + 5) (Int32.toNatClampNeg x3) (2 : Int32)) 27 (Int32.toNatClampNeg x3) x4) 26 2 (((zu (zu σ (r1 + 5) (Int32.toNatClampNeg x3) (2 : Int32)) 27 (Int32.toNatClampNeg x3) x4) 26 2) + (1 : Int32))) 26 5) = (-1 : Int32) then (some (zu (zu (zu (zu σ (r1 + 5) (Int32.toNatClampNeg x3) (2 : Int32)) 27 (Int32.toNatClampNeg x3) x4) 26 2 (((zu (zu σ (r1 + 5) (Int32.toNatClampNeg x3) (2 : Int32)) 27 (Int32.toNatClampNeg x3) x4) 26 2) + (1 : Int32))) 26 5 x3)) else (some (zu (zu (zu (zu σ (r1 + 5) (Int32.toNatClampNeg x3) (2 : Int32)) 27 (Int32.toNatClampNeg x3) x4) 26 2 (((zu (zu σ (r1 + 5) (Int32.toNatClampNeg x3) (2 : Int32)) 27 (Int32.toNatClampNeg x3) x4) 26 2) + (1 : Int32))) 26 5 ((zu (zu (zu σ (r1 + 5) (Int32.toNatClampNeg x3) (2 : Int32)) 27 (Int32.toNatClampNeg x3) x4) 26 2 (((zu (zu σ (r1 + 5) (Int32.toNatClampNeg x3) (2 : Int32)) 27 (Int32.toNatClampNeg x3) x4) 26 2) + (1 : Int32))) 26 5)))))
def F_X2_stayOrGo  (a1 : Nat) (a2 : Nat) (a3 : Int32) (a4 : Int32) (σ : Hp) : Option Hp :=
  (F_X2_look a1 a2 a3 σ).bind fun q4 => gd (inb a3 16) (if (99 : Int32) ≤ (q4 (a1 + 2) (Int32.toNatClampNeg a3)) then (J_X2_stayOrGo_34   a1 a3 a4 q4) else (gd (inb a3 16) (if (q4 (a1 + 3) (Int32.toNatClampNeg a3)) ≤ 0 then (J_X2_stayOrGo_34   a1 a3 a4 q4) else ((F_X4_sendsIn a2 q4).bind fun q28 => if q28.1 = 0 then ((F_X10_draw a1 q28.2).bind fun q83 => (F_X4_amount a2 (119 : Int32) (10 : Int32) q83.2).bind fun q91 => if q91.1 ≤ q83.1 then (some q91.2) else (gd (inb a3 16) (some (zu (zu q91.2 (a1 + 5) (Int32.toNatClampNeg a3) (1 : Int32)) 26 3 (((zu q91.2 (a1 + 5) (Int32.toNatClampNeg a3) (1 : Int32)) 26 3) + (1 : Int32)))))) else (J_X2_stayOrGo_34   a1 a3 a4 q28.2)))))
def F_X10_nextWatch  (t : Nat) (σ : Hp) : Option Hp :=
  if ((zu σ t 5 ((σ t 5) + (1 : Int32))) t 5) ≤ (5 : Int32) then (some (zu σ t 5 ((σ t 5) + (1 : Int32)))) else (some (zu (zu (zu σ t 5 ((σ t 5) + (1 : Int32))) t 5 (0 : Int32)) t 6 (((zu (zu σ t 5 ((σ t 5) + (1 : Int32))) t 5 (0 : Int32)) t 6) + (1 : Int32))))
def B_X2_passWatch_9  (k51 : Nat → Nat → Int32 → Int32 → Hp → Option Hp) (k9 : Nat → Nat → Int32 → Int32 → Int32 → Hp → Option Hp) (r1 : Nat) (r2 : Nat) (x3 : Int32) (x4 : Int32) (x5 : Int32) (σ : Hp) : Option Hp :=
  if (16 : Int32) ≤ x5 then (k51 r1 r2 x3 x4 σ) else (gd (inb x5 16) (if (σ (r1 + 5) (Int32.toNatClampNeg x5)) = (1 : Int32) then (gd (inb x5 16) (k9 r1 r2 x3 x4 (x5 + (1 : Int32)) (zu σ (r1 + 5) (Int32.toNatClampNeg x5) (0 : Int32)))) else (gd (inb x5 16) (gd (inb x5 16) (k9 r1 r2 x3 x4 (x5 + (1 : Int32)) (zu σ (r1 + 5) (Int32.toNatClampNeg x5) (σ (r1 + 5) (Int32.toNatClampNeg x5))))))))
def L_X2_passWatch_9  (k51 : Nat → Nat → Int32 → Int32 → Hp → Option Hp) : Nat → Nat → Nat → Int32 → Int32 → Int32 → Hp → Option Hp
  | 0, _, _, _, _, _, _ => none
  | n + 1, r1, r2, x3, x4, x5, σ => B_X2_passWatch_9  k51 (fun r1 r2 x3 x4 x5 σ => L_X2_passWatch_9  k51 n r1 r2 x3 x4 x5 σ) r1 r2 x3 x4 x5 σ
def B_X2_passWatch_54  (k94 : Nat → Int32 → Int32 → Hp → Option Hp) (k54 : Nat → Nat → Int32 → Int32 → Int32 → Hp → Option Hp) (r1 : Nat) (r2 : Nat) (x3 : Int32) (x4 : Int32) (x5 : Int32) (σ : Hp) : Option Hp :=
  if (16 : Int32) ≤ x5 then (k94 r1 x3 x4 σ) else (gd (inb x5 16) (if (σ (r1 + 5) (Int32.toNatClampNeg x5)) = 0 then ((F_X2_drinkAndYawn r1 r2 x5 σ).bind fun q76 => (F_X2_stayOrGo r1 r2 x5 x3 q76).bind fun q85 => k54 r1 r2 x3 x4 (x5 + (1 : Int32)) q85) else (k54 r1 r2 x3 x4 (x5 + (1 : Int32)) σ)))
def L_X2_passWatch_54  (k94 : Nat → Int32 → Int32 → Hp → Option Hp) : Nat → Nat → Nat → Int32 → Int32 → Int32 → Hp → Option Hp
  | 0, _, _, _, _, _, _ => none
  | n + 1, r1, r2, x3, x4, x5, σ => B_X2_passWatch_54  k94 (fun r1 r2 x3 x4 x5 σ => L_X2_passWatch_54  k94 n r1 r2 x3 x4 x5 σ) r1 r2 x3 x4 x5 σ
def J_X2_passWatch_119   (r1 : Nat) (σ : Hp) : Option Hp :=
  (F_X10_nextWatch r1 σ).bind fun q120 => some q120
def J_X2_passWatch_94   (r1 : Nat) (x3 : Int32) (x4 : Int32) (σ : Hp) : Option Hp :=
  (F_X10_sidesOut r1 σ).bind fun q98 => if ((zu q98.2 r1 8 (x4 &&& (q98.1 ^^^ (-1 : Int32)))) r1 8) = 0 then (J_X2_passWatch_119   r1 (zu q98.2 r1 8 (x4 &&& (q98.1 ^^^ (-1 : Int32))))) else (J_X2_passWatch_119   r1 (zu (zu q98.2 r1 8 (x4 &&& (q98.1 ^^^ (-1 : Int32)))) 26 6 x3))
def J_X2_passWatch_51   (r1 : Nat) (r2 : Nat) (x3 : Int32) (x4 : Int32) (σ : Hp) : Option Hp :=
  L_X2_passWatch_54  (J_X2_passWatch_94) FU r1 r2 x3 x4 (0 : Int32) σ
def F_X2_passWatch  (a1 : Nat) (a2 : Nat) (a3 : Int32) (σ : Hp) : Option Hp :=
  (F_X10_sidesOut a1 σ).bind fun q1 => L_X2_passWatch_9  (J_X2_passWatch_51) FU a1 a2 a3 q1.1 (0 : Int32) q1.2
def B_X2_run_44  (k44 : Nat → Nat → Int32 → Int32 → Hp → Option Hp) (r1 : Nat) (r2 : Nat) (x3 : Int32) (x4 : Int32) (σ : Hp) : Option Hp :=
  if x3 < x4 then (some σ) else ((F_X10_goesOn r1 σ).bind fun q51 => if q51.1 = 0 then (some q51.2) else ((F_X2_passWatch r1 r2 x4 q51.2).bind fun q62 => k44 r1 r2 x3 (x4 + (1 : Int32)) q62))
def L_X2_run_44   : Nat → Nat → Nat → Int32 → Int32 → Hp → Option Hp
  | 0, _, _, _, _, _ => none
  | n + 1, r1, r2, x3, x4, σ => B_X2_run_44  (fun r1 r2 x3 x4 σ => L_X2_run_44   n r1 r2 x3 x4 σ) r1 r2 x3 x4 σ
def F_X2_run  (a1 : Nat) (a2 : Nat) (a3 : Int32) (σ : Hp) : Option Hp :=
  (F_J7_fill 27 16 (0 : Int32) σ).bind fun q5 => (F_X9_lookAround a1 (zu (zu (zu (zu (zu q5 26 2 (0 : Int32)) 26 3 (0 : Int32)) 26 4 (0 : Int32)) 26 5 (-1 : Int32)) 26 6 (0 : Int32))).bind fun q38 => L_X2_run_44   FU a1 a2 a3 (1 : Int32) q38
def F_V_tryWatches  (a1 : Int32) (σ : Hp) : Option Hp :=
  (F_X10_copy 13 1 σ).bind fun q8 => gd (isL (Int32.toNatClampNeg (q8 0 14))) ((F_X2_run 13 (Int32.toNatClampNeg (q8 0 14)) a1 q8).bind fun q24 => some q24)
def F_V_first  (a1 : Int32) (a2 : Int32) (σ : Hp) : Option (Int32 × Hp) :=
  (F_V_within a1 (1 : Int32) (120 : Int32) σ).bind fun q4 => if q4.1 = 0 then (some ((-1 : Int32), q4.2)) else ((F_V_within a2 (0 : Int32) (2 : Int32) q4.2).bind fun q13 => if q13.1 = 0 then (some ((-1 : Int32), q13.2)) else ((F_V_tryWatches a1 q13.2).bind fun q23 => if (q23 26 5) < 0 then (some ((-2 : Int32), q23)) else (if (q23 26 5) < (16 : Int32) then (if a2 = 0 then (some (((q23 26 5) / (8 : Int32)), q23)) else (if a2 = (1 : Int32) then (some ((jrem (q23 26 5) (8 : Int32)), q23)) else (gd (inb (q23 26 5) 16) (some ((q23 27 (Int32.toNatClampNeg (q23 26 5))), q23))))) else (some ((-2 : Int32), q23)))))
def F_V_floor  (a1 : Int32) (a2 : Int32) (σ : Hp) : Option (Int32 × Hp) :=
  (F_V_isSide a1 σ).bind fun q1 => if q1.1 = 0 then (some ((0 : Int32), q1.2)) else ((F_V_within a2 (0 : Int32) (99 : Int32) q1.2).bind fun q11 => if q11.1 = 0 then (some ((0 : Int32), q11.2)) else (gd (inb a1 2) (some ((1 : Int32), (zu q11.2 21 (Int32.toNatClampNeg a1) a2)))))
def F_X3_sits  (a0 : Int32) (a1 : Int32) (σ : Hp) : Option (Int32 × Hp) :=
  if ((a0 >>> (a1 &&& 31)) &&& (1 : Int32)) = (1 : Int32) then (some ((1 : Int32), σ)) else (some ((0 : Int32), σ))
def F_X3_mayPass  (a0 : Int32) (a1 : Int32) (a2 : Int32) (σ : Hp) : Option (Int32 × Hp) :=
  (F_X3_sits a0 a2 σ).bind fun q2 => if q2.1 = 0 then (some ((1 : Int32), q2.2)) else ((F_J6_bitCount a0 q2.2).bind fun q9 => (F_J6_bitCount a1 q9.2).bind fun q13 => if q9.1 ≤ q13.1 then (some ((0 : Int32), q13.2)) else (some ((1 : Int32), q13.2)))
def J_X3_leastWay_96   (x1 : Int32) (x2 : Int32) (x3 : Int32) (σ : Hp) : Option (Int32 × Hp) :=
  if (8 : Int32) ≤ x1 then (some (x3, σ)) else (if (8 : Int32) ≤ x2 then (some (x3, σ)) else ((F_X3_sits (σ 36 2) x1 σ).bind fun q113 => if q113.1 = 0 then (some (x3, q113.2)) else ((F_X3_sits (q113.2 36 3) x2 q113.2).bind fun q124 => if q124.1 = 0 then (some (x3, q124.2)) else (gd (inb ((((x1 + (1 : Int32)) * (9 : Int32)) + x2) + (1 : Int32)) 81) (some ((jmin x3 ((jabs (x1 - x2)) + (q124.2 37 (Int32.toNatClampNeg ((((x1 + (1 : Int32)) * (9 : Int32)) + x2) + (1 : Int32)))))), q124.2))))))
def J_X3_leastWay_57   (x1 : Int32) (x2 : Int32) (x3 : Int32) (σ : Hp) : Option (Int32 × Hp) :=
  if (8 : Int32) ≤ x2 then (J_X3_leastWay_96   x1 x2 x3 σ) else ((F_X3_mayPass (σ 36 3) (σ 36 2) x2 σ).bind fun q72 => if q72.1 = 0 then (J_X3_leastWay_96   x1 x2 x3 q72.2) else (gd (inb (((x1 * (9 : Int32)) + x2) + (1 : Int32)) 81) (J_X3_leastWay_96   x1 x2 (jmin x3 (q72.2 37 (Int32.toNatClampNeg (((x1 * (9 : Int32)) + x2) + (1 : Int32))))) q72.2)))
def J_X3_leastWay_14   (x1 : Int32) (x2 : Int32) (σ : Hp) : Option (Int32 × Hp) :=
  if (8 : Int32) ≤ x1 then (J_X3_leastWay_57   x1 x2 (1000 : Int32) σ) else ((F_X3_mayPass (σ 36 2) (σ 36 3) x1 σ).bind fun q33 => if q33.1 = 0 then (J_X3_leastWay_57   x1 x2 (1000 : Int32) q33.2) else (gd (inb (((x1 + (1 : Int32)) * (9 : Int32)) + x2) 81) (J_X3_leastWay_57   x1 x2 (jmin (1000 : Int32) (q33.2 37 (Int32.toNatClampNeg (((x1 + (1 : Int32)) * (9 : Int32)) + x2)))) q33.2)))
def F_X3_leastWay  (a1 : Int32) (a2 : Int32) (σ : Hp) : Option (Int32 × Hp) :=
  if a1 < (8 : Int32) then (J_X3_leastWay_14   a1 a2 σ) else (if a2 < (8 : Int32) then (J_X3_leastWay_14   a1 a2 σ) else (some ((0 : Int32), σ)))
def J_X3_leastPartner_71  (k16 : Int32 → Int32 → Int32 → Hp → Option (Int32 × Hp)) (x1 : Int32) (x2 : Int32) (x3 : Int32) (σ : Hp) : Option (Int32 × Hp) :=
  (F_X3_mayPass (σ 36 3) (σ 36 2) x3 σ).bind fun q80 => if q80.1 = 0 then (some ((8 : Int32), q80.2)) else (k16 x1 x2 (x3 + (1 : Int32)) q80.2)
def B_X3_leastPartner_16  (k16 : Int32 → Int32 → Int32 → Hp → Option (Int32 × Hp)) (x1 : Int32) (x2 : Int32) (x3 : Int32) (σ : Hp) : Option (Int32 × Hp) :=
  if (8 : Int32) ≤ x3 then (some ((8 : Int32), σ)) else ((F_X3_sits (σ 36 3) x3 σ).bind fun q27 => if q27.1 = 0 then (J_X3_leastPartner_71  k16 x1 x2 x3 q27.2) else (gd (inb ((((x1 + (1 : Int32)) * (9 : Int32)) + x3) + (1 : Int32)) 81) (gd (inb ((x1 * (9 : Int32)) + x2) 81) (if ((jabs (x1 - x3)) + (q27.2 37 (Int32.toNatClampNeg ((((x1 + (1 : Int32)) * (9 : Int32)) + x3) + (1 : Int32))))) = (q27.2 37 (Int32.toNatClampNeg ((x1 * (9 : Int32)) + x2))) then (some (x3, q27.2)) else (J_X3_leastPartner_71  k16 x1 x2 x3 q27.2)))))
def L_X3_leastPartner_16   : Nat → Int32 → Int32 → Int32 → Hp → Option (Int32 × Hp)
  | 0, _, _, _, _ => none
  | n + 1, x1, x2, x3, σ => B_X3_leastPartner_16  (fun x1 x2 x3 σ => L_X3_leastPartner_16   n x1 x2 x3 σ) x1 x2 x3 σ
def F_X3_leastPartner  (a1 : Int32) (a2 : Int32) (σ : Hp) : Option (Int32 × Hp) :=
  (F_X3_sits (σ 36 2) a1 σ).bind fun q5 => if q5.1 = 0 then (some ((8 : Int32), q5.2)) else (L_X3_leastPartner_16   FU a1 a2 a2 q5.2)
def B_X3_carry_21  (k51 : Int32 → Hp → Option Hp) (k21 : Int32 → Int32 → Hp → Option Hp) (x3 : Int32) (x4 : Int32) (σ : Hp) : Option Hp :=
  if x4 < 0 then (k51 x3 σ) else ((F_X3_leastWay x3 x4 σ).bind fun q41 => gd (inb ((x3 * (9 : Int32)) + x4) 81) (k21 x3 (x4 + (-1 : Int32)) (zu q41.2 37 (Int32.toNatClampNeg ((x3 * (9 : Int32)) + x4)) q41.1)))
def L_X3_carry_21  (k51 : Int32 → Hp → Option Hp) : Nat → Int32 → Int32 → Hp → Option Hp
  | 0, _, _, _ => none
  | n + 1, x3, x4, σ => B_X3_carry_21  k51 (fun x3 x4 σ => L_X3_carry_21  k51 n x3 x4 σ) x3 x4 σ
def J_X3_carry_51  (k13 : Int32 → Hp → Option Hp) (x3 : Int32) (σ : Hp) : Option Hp :=
  k13 (x3 + (-1 : Int32)) σ
def B_X3_carry_13  (k57 : Hp → Option Hp) (k13 : Int32 → Hp → Option Hp) (x3 : Int32) (σ : Hp) : Option Hp :=
  if x3 < 0 then (k57  σ) else (L_X3_carry_21  (J_X3_carry_51  k13) FU x3 (8 : Int32) σ)
def L_X3_carry_13  (k57 : Hp → Option Hp) : Nat → Int32 → Hp → Option Hp
  | 0, _, _ => none
  | n + 1, x3, σ => B_X3_carry_13  k57 (fun x3 σ => L_X3_carry_13  k57 n x3 σ) x3 σ
def B_X3_carry_62  (k62 : Int32 → Int32 → Hp → Option Hp) (x3 : Int32) (x4 : Int32) (σ : Hp) : Option Hp :=
  if (8 : Int32) ≤ x4 then (some σ) else ((F_X3_leastPartner x4 x3 σ).bind fun q79 => gd (inb x4 8) (gd (inb x4 8) (if ((zu q79.2 38 (Int32.toNatClampNeg x4) q79.1) 38 (Int32.toNatClampNeg x4)) = (8 : Int32) then (k62 x3 (x4 + (1 : Int32)) (zu q79.2 38 (Int32.toNatClampNeg x4) q79.1)) else (gd (inb x4 8) (k62 (((zu q79.2 38 (Int32.toNatClampNeg x4) q79.1) 38 (Int32.toNatClampNeg x4)) + (1 : Int32)) (x4 + (1 : Int32)) (zu q79.2 38 (Int32.toNatClampNeg x4) q79.1))))))
def L_X3_carry_62   : Nat → Int32 → Int32 → Hp → Option Hp
  | 0, _, _, _ => none
  | n + 1, x3, x4, σ => B_X3_carry_62  (fun x3 x4 σ => L_X3_carry_62   n x3 x4 σ) x3 x4 σ
def J_X3_carry_57    (σ : Hp) : Option Hp :=
  L_X3_carry_62   FU (0 : Int32) (0 : Int32) σ
def F_X3_carry  (a1 : Int32) (a2 : Int32) (σ : Hp) : Option Hp :=
  L_X3_carry_13  (J_X3_carry_57) FU (8 : Int32) (zu (zu σ 36 2 a1) 36 3 a2)
def F_X3_apart   (σ : Hp) : Option (Int32 × Hp) :=
  gd (inb (0 : Int32) 81) (some ((σ 37 (Int32.toNatClampNeg (0 : Int32))), σ))
def F_X3_twos   (σ : Hp) : Option (Int32 × Hp) :=
  (F_J6_bitCount (σ 36 2) σ).bind fun q4 => (F_J6_bitCount (q4.2 36 3) q4.2).bind fun q11 => some ((jmin q4.1 q11.1), q11.2)
def J_V_glasses_23   (x1 : Int32) (σ : Hp) : Option (Int32 × Hp) :=
  (F_X10_bits 1 (0 : Int32) (0 : Int32) σ).bind fun q33 => (F_X10_bits 1 (1 : Int32) (0 : Int32) q33.2).bind fun q42 => (F_X3_carry q33.1 q42.1 q42.2).bind fun q45 => if x1 = (100 : Int32) then ((F_X3_apart  q45).bind fun q58 => some (q58.1, q58.2)) else (if x1 = (101 : Int32) then ((F_X3_twos  q45).bind fun q72 => some (q72.1, q72.2)) else (gd (inb x1 8) (if (q45 38 (Int32.toNatClampNeg x1)) = (8 : Int32) then (some ((-2 : Int32), q45)) else (gd (inb x1 8) (some ((q45 38 (Int32.toNatClampNeg x1)), q45))))))
def F_V_glasses  (a1 : Int32) (σ : Hp) : Option (Int32 × Hp) :=
  (F_V_within a1 (0 : Int32) (7 : Int32) σ).bind fun q4 => if q4.1 = 0 then ((F_V_within a1 (100 : Int32) (101 : Int32) q4.2).bind fun q15 => if q15.1 = 0 then (some ((-1 : Int32), q15.2)) else (J_V_glasses_23   a1 q15.2)) else (J_V_glasses_23   a1 q4.2)
def B_X9_seenBy_4  (k4 : Int32 → Int32 → Int32 → Hp → Option (Int32 × Hp)) (x1 : Int32) (x2 : Int32) (x3 : Int32) (σ : Hp) : Option (Int32 × Hp) :=
  if (8 : Int32) ≤ x3 then (some (x2, σ)) else (if ((x1 >>> (x3 &&& 31)) &&& (1 : Int32)) = (1 : Int32) then (gd (inb x3 16) (k4 x1 (x2 ||| (σ 22 (Int32.toNatClampNeg x3))) (x3 + (1 : Int32)) σ)) else (k4 x1 x2 (x3 + (1 : Int32)) σ))
def L_X9_seenBy_4   : Nat → Int32 → Int32 → Int32 → Hp → Option (Int32 × Hp)
  | 0, _, _, _, _ => none
  | n + 1, x1, x2, x3, σ => B_X9_seenBy_4  (fun x1 x2 x3 σ => L_X9_seenBy_4   n x1 x2 x3 σ) x1 x2 x3 σ
def F_X9_seenBy  (a1 : Int32) (σ : Hp) : Option (Int32 × Hp) :=
  L_X9_seenBy_4   FU a1 (0 : Int32) (0 : Int32) σ
def B_V_hidden_55  (k127 : Int32 → Int32 → Int32 → Int32 → Hp → Option (Int32 × Hp)) (k55 : Int32 → Int32 → Int32 → Int32 → Int32 → Int32 → Int32 → Hp → Option (Int32 × Hp)) (x1 : Int32) (x2 : Int32) (x3 : Int32) (x4 : Int32) (x5 : Int32) (x6 : Int32) (x7 : Int32) (σ : Hp) : Option (Int32 × Hp) :=
  if (256 : Int32) ≤ x7 then (k127 x1 x4 x5 x6 σ) else (if (x7 &&& (x2 ^^^ (-1 : Int32))) = 0 then ((F_X9_seenBy (x2 &&& (x7 ^^^ (-1 : Int32))) σ).bind fun q82 => (F_J6_bitCount x7 q82.2).bind fun q91 => (F_J6_bitCount (q82.1 &&& x3) q91.2).bind fun q96 => if x4 ≤ (q91.1 + q96.1) then (k55 x1 x2 x3 x4 x5 x6 (x7 + (1 : Int32)) q96.2) else (k55 x1 x2 x3 (q91.1 + q96.1) x7 (q82.1 &&& x3) (x7 + (1 : Int32)) q96.2)) else (k55 x1 x2 x3 x4 x5 x6 (x7 + (1 : Int32)) σ))
def L_V_hidden_55  (k127 : Int32 → Int32 → Int32 → Int32 → Hp → Option (Int32 × Hp)) : Nat → Int32 → Int32 → Int32 → Int32 → Int32 → Int32 → Int32 → Hp → Option (Int32 × Hp)
  | 0, _, _, _, _, _, _, _, _ => none
  | n + 1, x1, x2, x3, x4, x5, x6, x7, σ => B_V_hidden_55  k127 (fun x1 x2 x3 x4 x5 x6 x7 σ => L_V_hidden_55  k127 n x1 x2 x3 x4 x5 x6 x7 σ) x1 x2 x3 x4 x5 x6 x7 σ
def J_V_hidden_127   (x1 : Int32) (x4 : Int32) (x5 : Int32) (x6 : Int32) (σ : Hp) : Option (Int32 × Hp) :=
  if x1 = 0 then (some (x4, σ)) else (if x1 = (1 : Int32) then (some (x5, σ)) else (some (x6, σ)))
def F_V_hidden  (a1 : Int32) (σ : Hp) : Option (Int32 × Hp) :=
  (F_V_within a1 (0 : Int32) (2 : Int32) σ).bind fun q3 => if q3.1 = 0 then (some ((-1 : Int32), q3.2)) else ((F_X9_lookAround 1 q3.2).bind fun q19 => (F_X10_bits 1 (0 : Int32) (0 : Int32) q19).bind fun q28 => (F_X10_bits 1 (1 : Int32) (0 : Int32) q28.2).bind fun q38 => L_V_hidden_55  (J_V_hidden_127) FU a1 q28.1 q38.1 (17 : Int32) (0 : Int32) (0 : Int32) (0 : Int32) q38.2)
def F_X1_reckon  (a1 : Nat) (a2 : Nat) (a3 : Int32) (a4 : Int32) (σ : Hp) : Option (Int32 × Hp) :=
  if (σ a1 1) ≤ a3 then (some ((0 : Int32), σ)) else (if a4 < (σ a2 1) then (gd (inb a3 60) (gd (inb a4 60) (if (σ (a1 + 1) (Int32.toNatClampNeg a3)) = (σ (a2 + 1) (Int32.toNatClampNeg a4)) then (gd (inb ((((a3 + (1 : Int32)) * (61 : Int32)) + a4) + (1 : Int32)) 3721) (some (((σ 35 (Int32.toNatClampNeg ((((a3 + (1 : Int32)) * (61 : Int32)) + a4) + (1 : Int32)))) + (1 : Int32)), σ))) else (gd (inb (((a3 + (1 : Int32)) * (61 : Int32)) + a4) 3721) (gd (inb (((a3 * (61 : Int32)) + a4) + (1 : Int32)) 3721) (some ((jmax (σ 35 (Int32.toNatClampNeg (((a3 + (1 : Int32)) * (61 : Int32)) + a4))) (σ 35 (Int32.toNatClampNeg (((a3 * (61 : Int32)) + a4) + (1 : Int32))))), σ))))))) else (some ((0 : Int32), σ)))
def B_X1_compare_15  (k47 : Nat → Nat → Int32 → Hp → Option Hp) (k15 : Nat → Nat → Int32 → Int32 → Hp → Option Hp) (r1 : Nat) (r2 : Nat) (x3 : Int32) (x4 : Int32) (σ : Hp) : Option Hp :=
  if x4 < 0 then (k47 r1 r2 x3 σ) else ((F_X1_reckon r1 r2 x3 x4 σ).bind fun q37 => gd (inb ((x3 * (61 : Int32)) + x4) 3721) (k15 r1 r2 x3 (x4 + (-1 : Int32)) (zu q37.2 35 (Int32.toNatClampNeg ((x3 * (61 : Int32)) + x4)) q37.1)))
def L_X1_compare_15  (k47 : Nat → Nat → Int32 → Hp → Option Hp) : Nat → Nat → Nat → Int32 → Int32 → Hp → Option Hp
  | 0, _, _, _, _, _ => none
  | n + 1, r1, r2, x3, x4, σ => B_X1_compare_15  k47 (fun r1 r2 x3 x4 σ => L_X1_compare_15  k47 n r1 r2 x3 x4 σ) r1 r2 x3 x4 σ
def J_X1_compare_47  (k5 : Nat → Nat → Int32 → Hp → Option Hp) (r1 : Nat) (r2 : Nat) (x3 : Int32) (σ : Hp) : Option Hp :=
  k5 r1 r2 (x3 + (-1 : Int32)) σ
def B_X1_compare_5  (k5 : Nat → Nat → Int32 → Hp → Option Hp) (r1 : Nat) (r2 : Nat) (x3 : Int32) (σ : Hp) : Option Hp :=
  if x3 < 0 then (some σ) else (L_X1_compare_15  (J_X1_compare_47  k5) FU r1 r2 x3 (σ r2 1) σ)
def L_X1_compare_5   : Nat → Nat → Nat → Int32 → Hp → Option Hp
  | 0, _, _, _, _ => none
  | n + 1, r1, r2, x3, σ => B_X1_compare_5  (fun r1 r2 x3 σ => L_X1_compare_5   n r1 r2 x3 σ) r1 r2 x3 σ
def F_X1_compare  (a1 : Nat) (a2 : Nat) (σ : Hp) : Option Hp :=
  L_X1_compare_5   FU a1 a2 (σ a1 1) σ
def F_X1_length   (σ : Hp) : Option (Int32 × Hp) :=
  gd (inb (0 : Int32) 3721) (some ((σ 35 (Int32.toNatClampNeg (0 : Int32))), σ))
def B_X7_next_2  (k2 : Nat → Int32 → Int32 → Hp → Option (Int32 × Hp)) (r0 : Nat) (x1 : Int32) (x3 : Int32) (σ : Hp) : Option (Int32 × Hp) :=
  if (σ r0 1) ≤ x3 then (some ((σ r0 1), σ)) else (gd (inb x3 60) (if (σ (r0 + 1) (Int32.toNatClampNeg x3)) = x1 then (some (x3, σ)) else (k2 r0 x1 (x3 + (1 : Int32)) σ)))
def L_X7_next_2   : Nat → Nat → Int32 → Int32 → Hp → Option (Int32 × Hp)
  | 0, _, _, _, _ => none
  | n + 1, r0, x1, x3, σ => B_X7_next_2  (fun r0 x1 x3 σ => L_X7_next_2   n r0 x1 x3 σ) r0 x1 x3 σ
def F_X7_next  (t : Nat) (a1 : Int32) (a2 : Int32) (σ : Hp) : Option (Int32 × Hp) :=
  L_X7_next_2   FU t a1 a2 σ
def B_X1_leastSign_3  (k3 : Nat → Nat → Int32 → Int32 → Int32 → Hp → Option (Int32 × Hp)) (r1 : Nat) (r2 : Nat) (x3 : Int32) (x4 : Int32) (x5 : Int32) (σ : Hp) : Option (Int32 × Hp) :=
  if (5 : Int32) ≤ x5 then (some ((5 : Int32), σ)) else ((F_X7_next r1 x5 x3 σ).bind fun q13 => (F_X7_next r2 x5 x4 q13.2).bind fun q23 => if (q23.2 r1 1) ≤ q13.1 then (k3 r1 r2 x3 x4 (x5 + (1 : Int32)) q23.2) else (if (q23.2 r2 1) ≤ q23.1 then (k3 r1 r2 x3 x4 (x5 + (1 : Int32)) q23.2) else (gd (inb ((((q13.1 + (1 : Int32)) * (61 : Int32)) + q23.1) + (1 : Int32)) 3721) (gd (inb ((x3 * (61 : Int32)) + x4) 3721) (if ((q23.2 35 (Int32.toNatClampNeg ((((q13.1 + (1 : Int32)) * (61 : Int32)) + q23.1) + (1 : Int32)))) + (1 : Int32)) = (q23.2 35 (Int32.toNatClampNeg ((x3 * (61 : Int32)) + x4))) then (some (x5, q23.2)) else (k3 r1 r2 x3 x4 (x5 + (1 : Int32)) q23.2))))))
def L_X1_leastSign_3   : Nat → Nat → Nat → Int32 → Int32 → Int32 → Hp → Option (Int32 × Hp)
  | 0, _, _, _, _, _, _ => none
  | n + 1, r1, r2, x3, x4, x5, σ => B_X1_leastSign_3  (fun r1 r2 x3 x4 x5 σ => L_X1_leastSign_3   n r1 r2 x3 x4 x5 σ) r1 r2 x3 x4 x5 σ
def F_X1_leastSign  (a1 : Nat) (a2 : Nat) (a3 : Int32) (a4 : Int32) (σ : Hp) : Option (Int32 × Hp) :=
  L_X1_leastSign_3   FU a1 a2 a3 a4 (0 : Int32) σ
def B_X1_lampAt_23  (k23 : Nat → Nat → Int32 → Int32 → Int32 → Int32 → Int32 → Hp → Option (Int32 × Hp)) (r1 : Nat) (r2 : Nat) (x3 : Int32) (x4 : Int32) (x5 : Int32) (x6 : Int32) (x7 : Int32) (σ : Hp) : Option (Int32 × Hp) :=
  if x3 < x7 then (some (x6, σ)) else ((F_X1_leastSign r1 r2 x4 x5 σ).bind fun q36 => (F_X7_next r1 q36.1 x4 q36.2).bind fun q50 => (F_X7_next r2 q36.1 x5 q50.2).bind fun q69 => k23 r1 r2 x3 (jmin (q36.2 r1 1) (q50.1 + (1 : Int32))) (jmin (q50.2 r2 1) (q69.1 + (1 : Int32))) q36.1 (x7 + (1 : Int32)) q69.2)
def L_X1_lampAt_23   : Nat → Nat → Nat → Int32 → Int32 → Int32 → Int32 → Int32 → Hp → Option (Int32 × Hp)
  | 0, _, _, _, _, _, _, _, _ => none
  | n + 1, r1, r2, x3, x4, x5, x6, x7, σ => B_X1_lampAt_23  (fun r1 r2 x3 x4 x5 x6 x7 σ => L_X1_lampAt_23   n r1 r2 x3 x4 x5 x6 x7 σ) r1 r2 x3 x4 x5 x6 x7 σ
def F_X1_lampAt  (a1 : Nat) (a2 : Nat) (a3 : Int32) (σ : Hp) : Option (Int32 × Hp) :=
  (F_X1_length  σ).bind fun q2 => if a3 < q2.1 then (L_X1_lampAt_23   FU a1 a2 a3 (0 : Int32) (0 : Int32) (0 : Int32) (0 : Int32) q2.2) else (some ((-4 : Int32), q2.2))
def J_V_inCommon_18   (x1 : Int32) (σ : Hp) : Option (Int32 × Hp) :=
  (F_X1_compare 28 30 σ).bind fun q30 => if x1 = (100 : Int32) then ((F_X1_length  q30).bind fun q43 => some (q43.1, q43.2)) else ((F_X1_lampAt 28 30 x1 q30).bind fun q62 => some (q62.1, q62.2))
def F_V_inCommon  (a1 : Int32) (σ : Hp) : Option (Int32 × Hp) :=
  if a1 = (100 : Int32) then (J_V_inCommon_18   a1 σ) else ((F_V_within a1 (0 : Int32) (59 : Int32) σ).bind fun q10 => if q10.1 = 0 then (some ((-1 : Int32), q10.2)) else (J_V_inCommon_18   a1 q10.2))
def F_V_keep   (σ : Hp) : Option (Int32 × Hp) :=
  (F_X10_copy 7 1 σ).bind fun q8 => gd (isb (1 : Int32)) (some (((zu q8 0 17 (1 : Int32)) 1 6), (zu q8 0 17 (1 : Int32))))
def B_X7_howOften_4  (k4 : Nat → Int32 → Int32 → Int32 → Hp → Option (Int32 × Hp)) (r0 : Nat) (x1 : Int32) (x2 : Int32) (x3 : Int32) (σ : Hp) : Option (Int32 × Hp) :=
  if (σ r0 1) ≤ x3 then (some (x2, σ)) else (gd (inb x3 60) (if (σ (r0 + 1) (Int32.toNatClampNeg x3)) = x1 then (k4 r0 x1 (x2 + (1 : Int32)) (x3 + (1 : Int32)) σ) else (k4 r0 x1 (x2 + (0 : Int32)) (x3 + (1 : Int32)) σ)))
def L_X7_howOften_4   : Nat → Nat → Int32 → Int32 → Int32 → Hp → Option (Int32 × Hp)
  | 0, _, _, _, _, _ => none
  | n + 1, r0, x1, x2, x3, σ => B_X7_howOften_4  (fun r0 x1 x2 x3 σ => L_X7_howOften_4   n r0 x1 x2 x3 σ) r0 x1 x2 x3 σ
def F_X7_howOften  (t : Nat) (a1 : Int32) (σ : Hp) : Option (Int32 × Hp) :=
  L_X7_howOften_4   FU t a1 (0 : Int32) (0 : Int32) σ
def F_V_lamps  (a1 : Int32) (a2 : Int32) (σ : Hp) : Option (Int32 × Hp) :=
  (F_V_isSide a1 σ).bind fun q1 => if q1.1 = 0 then (some ((-1 : Int32), q1.2)) else ((F_V_within a2 (0 : Int32) (5 : Int32) q1.2).bind fun q10 => if q10.1 = 0 then (some ((-1 : Int32), q10.2)) else ((F_V_signalsOf a1 q10.2).bind fun q20 => gd (isS q20.1) ((F_X7_howOften q20.1 a2 q20.2).bind fun q24 => some (q24.1, q24.2))))
def B_X2_outlasts_3  (k3 : Nat → Nat → Int32 → Int32 → Int32 → Hp → Option (Int32 × Hp)) (r1 : Nat) (r2 : Nat) (x3 : Int32) (x4 : Int32) (x5 : Int32) (σ : Hp) : Option (Int32 × Hp) :=
  if x4 ≤ x5 then (some ((1 : Int32), σ)) else ((F_X2_drinkAndYawn r1 r2 x3 σ).bind fun q14 => gd (inb x3 16) (if 0 < (q14 (r1 + 3) (Int32.toNatClampNeg x3)) then ((F_X10_nextWatch r1 q14).bind fun q29 => k3 r1 r2 x3 x4 (x5 + (1 : Int32)) q29) else (some ((0 : Int32), q14))))
def L_X2_outlasts_3   : Nat → Nat → Nat → Int32 → Int32 → Int32 → Hp → Option (Int32 × Hp)
  | 0, _, _, _, _, _, _ => none
  | n + 1, r1, r2, x3, x4, x5, σ => B_X2_outlasts_3  (fun r1 r2 x3 x4 x5 σ => L_X2_outlasts_3   n r1 r2 x3 x4 x5 σ) r1 r2 x3 x4 x5 σ
def F_X2_outlasts  (a1 : Nat) (a2 : Nat) (a3 : Int32) (a4 : Int32) (σ : Hp) : Option (Int32 × Hp) :=
  L_X2_outlasts_3   FU a1 a2 a3 a4 (0 : Int32) σ
def B_V_lasts_58  (k58 : Int32 → Int32 → Int32 → Hp → Option (Int32 × Hp)) (x3 : Int32) (x4 : Int32) (x5 : Int32) (σ : Hp) : Option (Int32 × Hp) :=
  if (99 : Int32) < x5 then (some ((-2 : Int32), σ)) else ((F_X10_copy 13 1 σ).bind fun q73 => gd (inb x4 16) (gd (inb x4 16) (gd (isL (Int32.toNatClampNeg ((zu q73 16 (Int32.toNatClampNeg x4) ((q73 16 (Int32.toNatClampNeg x4)) + x5)) 0 14))) ((F_X2_outlasts 13 (Int32.toNatClampNeg ((zu q73 16 (Int32.toNatClampNeg x4) ((q73 16 (Int32.toNatClampNeg x4)) + x5)) 0 14)) x4 x3 (zu q73 16 (Int32.toNatClampNeg x4) ((q73 16 (Int32.toNatClampNeg x4)) + x5))).bind fun q106 => if q106.1 = 0 then (k58 x3 x4 (x5 + (1 : Int32)) q106.2) else (some (x5, q106.2))))))
def L_V_lasts_58   : Nat → Int32 → Int32 → Int32 → Hp → Option (Int32 × Hp)
  | 0, _, _, _, _ => none
  | n + 1, x3, x4, x5, σ => B_V_lasts_58  (fun x3 x4 x5 σ => L_V_lasts_58   n x3 x4 x5 σ) x3 x4 x5 σ
def F_V_lasts  (a1 : Int32) (a2 : Int32) (a3 : Int32) (σ : Hp) : Option (Int32 × Hp) :=
  (F_V_isGentleman a1 a2 σ).bind fun q3 => if q3.1 = 0 then (some ((-1 : Int32), q3.2)) else ((F_V_within a3 (1 : Int32) (60 : Int32) q3.2).bind fun q13 => if q13.1 = 0 then (some ((-1 : Int32), q13.2)) else (gd (inb ((a1 * (8 : Int32)) + a2) 16) (if (q13.2 6 (Int32.toNatClampNeg ((a1 * (8 : Int32)) + a2))) = 0 then ((F_X9_lookAround 1 q13.2).bind fun q52 => L_V_lasts_58   FU a3 ((a1 * (8 : Int32)) + a2) (0 : Int32) q52) else (some ((-1 : Int32), q13.2)))))
def F_X4_begin  (t : Nat) (σ : Hp) : Option Hp :=
  some (zu (zu σ t 8 (0 : Int32)) t 9 (0 : Int32))
def F_X8_begin  (a1 : Int32) (σ : Hp) : Option Hp :=
  some (zu (zu (zu σ 23 2 a1) 23 3 (0 : Int32)) 23 4 (0 : Int32))
def F_X8_here   (σ : Hp) : Option (Int32 × Hp) :=
  if (σ 23 2) ≤ (σ 23 3) then (some ((-1 : Int32), σ)) else (if (Int32.ofNat 260) ≤ (σ 23 3) then (some ((-1 : Int32), σ)) else (gd (inb (σ 23 3) 260) (some ((σ 24 (Int32.toNatClampNeg (σ 23 3))), σ))))
def F_X8_refuseAt  (a1 : Int32) (a2 : Int32) (σ : Hp) : Option (Int32 × Hp) :=
  some ((0 : Int32), (zu σ 23 4 (((-1000 : Int32) * a1) - a2)))
def F_X8_refuse  (a1 : Int32) (σ : Hp) : Option (Int32 × Hp) :=
  (F_X8_refuseAt a1 (σ 23 3) σ).bind fun q6 => gd (isb q6.1) (some (q6.1, q6.2))
def F_X8_takes  (a1 : Int32) (σ : Hp) : Option (Int32 × Hp) :=
  (F_X8_here  σ).bind fun q1 => if q1.1 = a1 then (some ((1 : Int32), (zu q1.2 23 3 ((q1.2 23 3) + (1 : Int32))))) else (some ((0 : Int32), q1.2))
def F_X5_readClosing  (a1 : Int32) (σ : Hp) : Option (Int32 × Hp) :=
  (F_X8_takes a1 σ).bind fun q5 => if q5.1 = 0 then ((F_X8_refuse (1 : Int32) q5.2).bind fun q16 => if q16.1 = 0 then (some ((0 : Int32), q16.2)) else (some ((1 : Int32), q16.2))) else (some ((1 : Int32), q5.2))
def F_X8_digit   (σ : Hp) : Option (Int32 × Hp) :=
  (F_X8_here  σ).bind fun q1 => if q1.1 < (48 : Int32) then (some ((-1 : Int32), q1.2)) else (if (57 : Int32) < q1.1 then (some ((-1 : Int32), q1.2)) else (some ((q1.1 - (48 : Int32)), q1.2)))
def B_X8_number_20  (k20 : Int32 → Int32 → Int32 → Hp → Option (Int32 × Hp)) (k38 : Hp → Option (Int32 × Hp)) (x1 : Int32) (x2 : Int32) (x3 : Int32) (σ : Hp) : Option (Int32 × Hp) :=
  if x1 < x3 then (some (x2, σ)) else ((F_X8_digit  σ).bind fun q26 => if q26.1 = (-1 : Int32) then (some (x2, q26.2)) else (if x3 = x1 then (k38  q26.2) else ((F_X8_digit  q26.2).bind fun q51 => k20 x1 (((10 : Int32) * x2) + q51.1) (x3 + (1 : Int32)) (zu q51.2 23 3 ((q51.2 23 3) + (1 : Int32))))))
def L_X8_number_20  (k38 : Hp → Option (Int32 × Hp)) : Nat → Int32 → Int32 → Int32 → Hp → Option (Int32 × Hp)
  | 0, _, _, _, _ => none
  | n + 1, x1, x2, x3, σ => B_X8_number_20  (fun x1 x2 x3 σ => L_X8_number_20  k38 n x1 x2 x3 σ) k38 x1 x2 x3 σ
def J_X8_number_38    (σ : Hp) : Option (Int32 × Hp) :=
  (F_X8_refuse (2 : Int32) σ).bind fun q40 => some ((-1 : Int32), q40.2)
def F_X8_number  (a1 : Int32) (σ : Hp) : Option (Int32 × Hp) :=
  (F_X8_digit  σ).bind fun q1 => if q1.1 = (-1 : Int32) then ((F_X8_refuse (1 : Int32) q1.2).bind fun q10 => some ((-1 : Int32), q10.2)) else (L_X8_number_20  (J_X8_number_38) FU a1 (0 : Int32) (0 : Int32) q1.2)
def F_X4_add  (t : Nat) (a1 : Int32) (a2 : Int32) (σ : Hp) : Option (Int32 × Hp) :=
  if (240 : Int32) ≤ (σ t 9) then (some (((σ t 9) - (1 : Int32)), σ)) else (gd (inb (σ t 9) 240) (gd (inb ((zu σ (t + 1) (Int32.toNatClampNeg (σ t 9)) a1) t 9) 240) (some ((((zu (zu (zu σ (t + 1) (Int32.toNatClampNeg (σ t 9)) a1) (t + 2) (Int32.toNatClampNeg ((zu σ (t + 1) (Int32.toNatClampNeg (σ t 9)) a1) t 9)) a2) t 9 (((zu (zu σ (t + 1) (Int32.toNatClampNeg (σ t 9)) a1) (t + 2) (Int32.toNatClampNeg ((zu σ (t + 1) (Int32.toNatClampNeg (σ t 9)) a1) t 9)) a2) t 9) + (1 : Int32))) t 9) - (1 : Int32)), (zu (zu (zu σ (t + 1) (Int32.toNatClampNeg (σ t 9)) a1) (t + 2) (Int32.toNatClampNeg ((zu σ (t + 1) (Int32.toNatClampNeg (σ t 9)) a1) t 9)) a2) t 9 (((zu (zu σ (t + 1) (Int32.toNatClampNeg (σ t 9)) a1) (t + 2) (Int32.toNatClampNeg ((zu σ (t + 1) (Int32.toNatClampNeg (σ t 9)) a1) t 9)) a2) t 9) + (1 : Int32)))))))
def J_X5_readAmount_41 (o_X5_readTerm : Int32 → Hp → Option (Int32 × Hp)) (k12 : Int32 → Int32 → Hp → Option (Int32 × Hp)) (x1 : Int32) (x2 : Int32) (x3 : Int32) (σ : Hp) : Option (Int32 × Hp) :=
  (o_X5_readTerm x1 (zu σ 23 3 ((σ 23 3) + (1 : Int32)))).bind fun q56 => if q56.1 = 0 then (some ((0 : Int32), q56.2)) else (gd (isL (Int32.toNatClampNeg (q56.2 60 1))) ((F_X4_add (Int32.toNatClampNeg (q56.2 60 1)) x3 (0 : Int32) q56.2).bind fun q70 => k12 x1 (x2 + (1 : Int32)) q70.2))
def B_X5_readAmount_12 (o_X5_readTerm : Int32 → Hp → Option (Int32 × Hp)) (k12 : Int32 → Int32 → Hp → Option (Int32 × Hp)) (x1 : Int32) (x2 : Int32) (σ : Hp) : Option (Int32 × Hp) :=
  if (240 : Int32) ≤ x2 then (some ((1 : Int32), σ)) else ((F_X8_here  σ).bind fun q23 => if q23.1 = (43 : Int32) then (J_X5_readAmount_41 o_X5_readTerm k12 x1 x2 q23.1 q23.2) else (if q23.1 = (45 : Int32) then (J_X5_readAmount_41 o_X5_readTerm k12 x1 x2 q23.1 q23.2) else (some ((1 : Int32), q23.2))))
def L_X5_readAmount_12 (o_X5_readTerm : Int32 → Hp → Option (Int32 × Hp))  : Nat → Int32 → Int32 → Hp → Option (Int32 × Hp)
  | 0, _, _, _ => none
  | n + 1, x1, x2, σ => B_X5_readAmount_12 o_X5_readTerm (fun x1 x2 σ => L_X5_readAmount_12 o_X5_readTerm  n x1 x2 σ) x1 x2 σ
def F_X5_readAmount (o_X5_readTerm : Int32 → Hp → Option (Int32 × Hp)) (a1 : Int32) (σ : Hp) : Option (Int32 × Hp) :=
  (o_X5_readTerm a1 σ).bind fun q2 => if q2.1 = 0 then (some ((0 : Int32), q2.2)) else (L_X5_readAmount_12 o_X5_readTerm  FU a1 (0 : Int32) q2.2)
def J_X5_readFactor_134 (o_X5_readAmount : Int32 → Hp → Option (Int32 × Hp))  (s0 : Int32) (σ : Hp) : Option (Int32 × Hp) :=
  if 0 ≤ s0 then (gd (isL (Int32.toNatClampNeg ((zu σ 23 3 ((σ 23 3) + (1 : Int32))) 60 1))) ((F_X4_add (Int32.toNatClampNeg ((zu σ 23 3 ((σ 23 3) + (1 : Int32))) 60 1)) (108 : Int32) s0 (zu σ 23 3 ((σ 23 3) + (1 : Int32)))).bind fun q168 => some ((1 : Int32), q168.2))) else ((F_X8_refuse (1 : Int32) σ).bind fun q144 => gd (isb q144.1) (some (q144.1, q144.2)))
def F_X5_readFactor (o_X5_readAmount : Int32 → Hp → Option (Int32 × Hp)) (a1 : Int32) (σ : Hp) : Option (Int32 × Hp) :=
  (F_X8_here  σ).bind fun q4 => if q4.1 = (91 : Int32) then (if a1 < (6 : Int32) then ((o_X5_readAmount (a1 + (1 : Int32)) (zu q4.2 23 3 ((q4.2 23 3) + (1 : Int32)))).bind fun q44 => if q44.1 = 0 then (some ((0 : Int32), q44.2)) else ((F_X5_readClosing (93 : Int32) q44.2).bind fun q53 => if q53.1 = 0 then (some ((0 : Int32), q53.2)) else (some ((1 : Int32), q53.2)))) else ((F_X8_refuse (5 : Int32) q4.2).bind fun q23 => gd (isb q23.1) (some (q23.1, q23.2)))) else ((F_X8_digit  q4.2).bind fun q69 => if q69.1 = (-1 : Int32) then ((F_X8_here  q69.2).bind fun q110 => if q110.1 = (-1 : Int32) then (J_X5_readFactor_134 o_X5_readAmount  (-1 : Int32) q110.2) else ((F_X8_here  q110.2).bind fun q127 => J_X5_readFactor_134 o_X5_readAmount  (sidx (UInt32.toInt32 (Int32.toUInt32 q127.1 % 65536))) q127.2)) else ((F_X8_number (5 : Int32) q69.2).bind fun q81 => gd (isL (Int32.toNatClampNeg (q81.2 60 1))) ((F_X4_add (Int32.toNatClampNeg (q81.2 60 1)) (110 : Int32) q81.1 q81.2).bind fun q92 => if q81.1 < 0 then (some ((0 : Int32), q92.2)) else (some ((1 : Int32), q92.2)))))
def J_X5_readTerm_47 (o_X5_readFactor : Int32 → Hp → Option (Int32 × Hp)) (k12 : Int32 → Int32 → Hp → Option (Int32 × Hp)) (x1 : Int32) (x2 : Int32) (x3 : Int32) (σ : Hp) : Option (Int32 × Hp) :=
  (o_X5_readFactor x1 (zu σ 23 3 ((σ 23 3) + (1 : Int32)))).bind fun q62 => if q62.1 = 0 then (some ((0 : Int32), q62.2)) else (gd (isL (Int32.toNatClampNeg (q62.2 60 1))) ((F_X4_add (Int32.toNatClampNeg (q62.2 60 1)) x3 (0 : Int32) q62.2).bind fun q76 => k12 x1 (x2 + (1 : Int32)) q76.2))
def B_X5_readTerm_12 (o_X5_readFactor : Int32 → Hp → Option (Int32 × Hp)) (k12 : Int32 → Int32 → Hp → Option (Int32 × Hp)) (x1 : Int32) (x2 : Int32) (σ : Hp) : Option (Int32 × Hp) :=
  if (240 : Int32) ≤ x2 then (some ((1 : Int32), σ)) else ((F_X8_here  σ).bind fun q23 => if q23.1 = (42 : Int32) then (J_X5_readTerm_47 o_X5_readFactor k12 x1 x2 q23.1 q23.2) else (if q23.1 = (47 : Int32) then (J_X5_readTerm_47 o_X5_readFactor k12 x1 x2 q23.1 q23.2) else (if q23.1 = (37 : Int32) then (J_X5_readTerm_47 o_X5_readFactor k12 x1 x2 q23.1 q23.2) else (some ((1 : Int32), q23.2)))))
def L_X5_readTerm_12 (o_X5_readFactor : Int32 → Hp → Option (Int32 × Hp))  : Nat → Int32 → Int32 → Hp → Option (Int32 × Hp)
  | 0, _, _, _ => none
  | n + 1, x1, x2, σ => B_X5_readTerm_12 o_X5_readFactor (fun x1 x2 σ => L_X5_readTerm_12 o_X5_readFactor  n x1 x2 σ) x1 x2 σ
def F_X5_readTerm (o_X5_readFactor : Int32 → Hp → Option (Int32 × Hp)) (a1 : Int32) (σ : Hp) : Option (Int32 × Hp) :=
  (o_X5_readFactor a1 σ).bind fun q2 => if q2.1 = 0 then (some ((0 : Int32), q2.2)) else (L_X5_readTerm_12 o_X5_readFactor  FU a1 (0 : Int32) q2.2)
def G_X5_readAmount : Nat → Nat → Int32 → Hp → Option (Int32 × Hp)
  | 0, _ => fun _ _ => none
  | n + 1, i => match i with
    | 0 => F_X5_readAmount (G_X5_readAmount n 2)
    | 1 => F_X5_readFactor (G_X5_readAmount n 0)
    | _ => F_X5_readTerm (G_X5_readAmount n 1)
theorem G_X5_readAmount_z (i : Nat) : G_X5_readAmount 0 i = fun _ _ => none := by simp only [G_X5_readAmount]
theorem G_X5_readAmount_0 (n : Nat) : G_X5_readAmount (n + 1) 0 = F_X5_readAmount (G_X5_readAmount n 2) := by simp only [G_X5_readAmount]
def D_X5_readAmount : Int32 → Hp → Option (Int32 × Hp) := G_X5_readAmount 40 0
theorem G_X5_readAmount_1 (n : Nat) : G_X5_readAmount (n + 1) 1 = F_X5_readFactor (G_X5_readAmount n 0) := by simp only [G_X5_readAmount]
def D_X5_readFactor : Int32 → Hp → Option (Int32 × Hp) := G_X5_readAmount 40 1
theorem G_X5_readAmount_2 (n : Nat) : G_X5_readAmount (n + 1) 2 = F_X5_readTerm (G_X5_readAmount n 1) := by simp only [G_X5_readAmount]
def D_X5_readTerm : Int32 → Hp → Option (Int32 × Hp) := G_X5_readAmount 40 2

def F_X4_jumpHere  (t : Nat) (a1 : Int32) (σ : Hp) : Option Hp :=
  if a1 < 0 then (some σ) else (if (240 : Int32) ≤ a1 then (some σ) else (gd (inb a1 240) (some (zu σ (t + 2) (Int32.toNatClampNeg a1) (σ t 9)))))
def B_X5_readChoice_12 (o_X5_readPart : Int32 → Hp → Option (Int32 × Hp)) (k12 : Int32 → Int32 → Hp → Option (Int32 × Hp)) (x1 : Int32) (x2 : Int32) (σ : Hp) : Option (Int32 × Hp) :=
  if (240 : Int32) ≤ x2 then (some ((1 : Int32), σ)) else ((F_X8_takes (124 : Int32) σ).bind fun q25 => if q25.1 = 0 then (some ((1 : Int32), q25.2)) else (gd (isL (Int32.toNatClampNeg (q25.2 60 1))) ((F_X4_add (Int32.toNatClampNeg (q25.2 60 1)) (124 : Int32) (0 : Int32) q25.2).bind fun q38 => (o_X5_readPart x1 q38.2).bind fun q44 => if q44.1 = 0 then (some ((0 : Int32), q44.2)) else (gd (isL (Int32.toNatClampNeg (q44.2 60 1))) ((F_X4_jumpHere (Int32.toNatClampNeg (q44.2 60 1)) q38.1 q44.2).bind fun q57 => k12 x1 (x2 + (1 : Int32)) q57)))))
def L_X5_readChoice_12 (o_X5_readPart : Int32 → Hp → Option (Int32 × Hp))  : Nat → Int32 → Int32 → Hp → Option (Int32 × Hp)
  | 0, _, _, _ => none
  | n + 1, x1, x2, σ => B_X5_readChoice_12 o_X5_readPart (fun x1 x2 σ => L_X5_readChoice_12 o_X5_readPart  n x1 x2 σ) x1 x2 σ
def F_X5_readChoice (o_X5_readPart : Int32 → Hp → Option (Int32 × Hp)) (a1 : Int32) (σ : Hp) : Option (Int32 × Hp) :=
  (o_X5_readPart a1 σ).bind fun q2 => if q2.1 = 0 then (some ((0 : Int32), q2.2)) else (L_X5_readChoice_12 o_X5_readPart  FU a1 (0 : Int32) q2.2)
def F_X5_readOpened (o_X5_readChoice : Int32 → Hp → Option (Int32 × Hp)) (o_X5_readTest : Int32 → Hp → Option (Int32 × Hp)) (a1 : Int32) (σ : Hp) : Option (Int32 × Hp) :=
  if a1 < (6 : Int32) then ((F_X8_takes (40 : Int32) σ).bind fun q21 => if q21.1 = 0 then ((o_X5_readTest (a1 + (1 : Int32)) (zu q21.2 23 3 ((q21.2 23 3) + (1 : Int32)))).bind fun q69 => if q69.1 = 0 then (some ((0 : Int32), q69.2)) else (gd (isL (Int32.toNatClampNeg (q69.2 60 1))) ((F_X4_add (Int32.toNatClampNeg (q69.2 60 1)) (33 : Int32) (0 : Int32) q69.2).bind fun q84 => some ((1 : Int32), q84.2)))) else ((o_X5_readChoice (a1 + (1 : Int32)) q21.2).bind fun q31 => if q31.1 = 0 then (some ((0 : Int32), q31.2)) else ((F_X5_readClosing (41 : Int32) q31.2).bind fun q40 => if q40.1 = 0 then (some ((0 : Int32), q40.2)) else (some ((1 : Int32), q40.2))))) else ((F_X8_refuse (5 : Int32) σ).bind fun q11 => gd (isb q11.1) (some (q11.1, q11.2)))
def B_X5_readPart_12 (o_X5_readTest : Int32 → Hp → Option (Int32 × Hp)) (k12 : Int32 → Int32 → Hp → Option (Int32 × Hp)) (x1 : Int32) (x2 : Int32) (σ : Hp) : Option (Int32 × Hp) :=
  if (240 : Int32) ≤ x2 then (some ((1 : Int32), σ)) else ((F_X8_takes (38 : Int32) σ).bind fun q25 => if q25.1 = 0 then (some ((1 : Int32), q25.2)) else (gd (isL (Int32.toNatClampNeg (q25.2 60 1))) ((F_X4_add (Int32.toNatClampNeg (q25.2 60 1)) (38 : Int32) (0 : Int32) q25.2).bind fun q38 => (o_X5_readTest x1 q38.2).bind fun q44 => if q44.1 = 0 then (some ((0 : Int32), q44.2)) else (gd (isL (Int32.toNatClampNeg (q44.2 60 1))) ((F_X4_jumpHere (Int32.toNatClampNeg (q44.2 60 1)) q38.1 q44.2).bind fun q57 => k12 x1 (x2 + (1 : Int32)) q57)))))
def L_X5_readPart_12 (o_X5_readTest : Int32 → Hp → Option (Int32 × Hp))  : Nat → Int32 → Int32 → Hp → Option (Int32 × Hp)
  | 0, _, _, _ => none
  | n + 1, x1, x2, σ => B_X5_readPart_12 o_X5_readTest (fun x1 x2 σ => L_X5_readPart_12 o_X5_readTest  n x1 x2 σ) x1 x2 σ
def F_X5_readPart (o_X5_readTest : Int32 → Hp → Option (Int32 × Hp)) (a1 : Int32) (σ : Hp) : Option (Int32 × Hp) :=
  (o_X5_readTest a1 σ).bind fun q2 => if q2.1 = 0 then (some ((0 : Int32), q2.2)) else (L_X5_readPart_12 o_X5_readTest  FU a1 (0 : Int32) q2.2)
def J_X5_readTest_24 (o_X5_readOpened : Int32 → Hp → Option (Int32 × Hp))  (x1 : Int32) (σ : Hp) : Option (Int32 × Hp) :=
  (o_X5_readOpened x1 σ).bind fun q26 => gd (isb q26.1) (some (q26.1, q26.2))
def J_X5_readTest_75 (o_X5_readOpened : Int32 → Hp → Option (Int32 × Hp))  (x1 : Int32) (x2 : Int32) (σ : Hp) : Option (Int32 × Hp) :=
  (D_X5_readAmount x1 (zu σ 23 3 ((σ 23 3) + (1 : Int32)))).bind fun q90 => if q90.1 = 0 then (some ((0 : Int32), q90.2)) else (gd (isL (Int32.toNatClampNeg (q90.2 60 1))) ((F_X4_add (Int32.toNatClampNeg (q90.2 60 1)) x2 (0 : Int32) q90.2).bind fun q104 => some ((1 : Int32), q104.2)))
def F_X5_readTest (o_X5_readOpened : Int32 → Hp → Option (Int32 × Hp)) (a1 : Int32) (σ : Hp) : Option (Int32 × Hp) :=
  (F_X8_here  σ).bind fun q4 => if q4.1 = (33 : Int32) then (J_X5_readTest_24 o_X5_readOpened  a1 q4.2) else ((F_X8_here  q4.2).bind fun q16 => if q16.1 = (40 : Int32) then (J_X5_readTest_24 o_X5_readOpened  a1 q16.2) else ((D_X5_readAmount a1 q16.2).bind fun q32 => if q32.1 = 0 then (some ((0 : Int32), q32.2)) else ((F_X8_here  q32.2).bind fun q44 => if q44.1 = (60 : Int32) then (J_X5_readTest_75 o_X5_readOpened  a1 q44.1 q44.2) else (if q44.1 = (62 : Int32) then (J_X5_readTest_75 o_X5_readOpened  a1 q44.1 q44.2) else (if q44.1 = (61 : Int32) then (J_X5_readTest_75 o_X5_readOpened  a1 q44.1 q44.2) else ((F_X8_refuse (1 : Int32) q44.2).bind fun q71 => gd (isb q71.1) (some (q71.1, q71.2))))))))
def G_X5_readChoice : Nat → Nat → Int32 → Hp → Option (Int32 × Hp)
  | 0, _ => fun _ _ => none
  | n + 1, i => match i with
    | 0 => F_X5_readChoice (G_X5_readChoice n 2)
    | 1 => F_X5_readOpened (G_X5_readChoice n 0) (G_X5_readChoice n 3)
    | 2 => F_X5_readPart (G_X5_readChoice n 3)
    | _ => F_X5_readTest (G_X5_readChoice n 1)
theorem G_X5_readChoice_z (i : Nat) : G_X5_readChoice 0 i = fun _ _ => none := by simp only [G_X5_readChoice]
theorem G_X5_readChoice_0 (n : Nat) : G_X5_readChoice (n + 1) 0 = F_X5_readChoice (G_X5_readChoice n 2) := by simp only [G_X5_readChoice]
def D_X5_readChoice : Int32 → Hp → Option (Int32 × Hp) := G_X5_readChoice 40 0
theorem G_X5_readChoice_1 (n : Nat) : G_X5_readChoice (n + 1) 1 = F_X5_readOpened (G_X5_readChoice n 0) (G_X5_readChoice n 3) := by simp only [G_X5_readChoice]
def D_X5_readOpened : Int32 → Hp → Option (Int32 × Hp) := G_X5_readChoice 40 1
theorem G_X5_readChoice_2 (n : Nat) : G_X5_readChoice (n + 1) 2 = F_X5_readPart (G_X5_readChoice n 3) := by simp only [G_X5_readChoice]
def D_X5_readPart : Int32 → Hp → Option (Int32 × Hp) := G_X5_readChoice 40 2
theorem G_X5_readChoice_3 (n : Nat) : G_X5_readChoice (n + 1) 3 = F_X5_readTest (G_X5_readChoice n 1) := by simp only [G_X5_readChoice]
def D_X5_readTest : Int32 → Hp → Option (Int32 × Hp) := G_X5_readChoice 40 3

def J_X5_readRule_67   (x1 : Int32) (σ : Hp) : Option (Int32 × Hp) :=
  gd (isL (Int32.toNatClampNeg (σ 60 1))) (gd (isL (Int32.toNatClampNeg (σ 60 1))) (gd (inb x1 16) ((F_X8_takes (40 : Int32) (zu σ ((Int32.toNatClampNeg (σ 60 1)) + 5) (Int32.toNatClampNeg x1) (σ (Int32.toNatClampNeg (σ 60 1)) 9))).bind fun q89 => if q89.1 = 0 then ((F_X8_refuse (1 : Int32) q89.2).bind fun q100 => gd (isb q100.1) (some (q100.1, q100.2))) else ((D_X5_readChoice (1 : Int32) q89.2).bind fun q106 => if q106.1 = 0 then (some ((0 : Int32), q106.2)) else ((F_X5_readClosing (41 : Int32) q106.2).bind fun q115 => if q115.1 = 0 then (some ((0 : Int32), q115.2)) else (gd (isL (Int32.toNatClampNeg (q115.2 60 1))) (gd (isL (Int32.toNatClampNeg (q115.2 60 1))) (gd (inb x1 16) (gd (isL (Int32.toNatClampNeg ((zu q115.2 ((Int32.toNatClampNeg (q115.2 60 1)) + 6) (Int32.toNatClampNeg x1) (q115.2 (Int32.toNatClampNeg (q115.2 60 1)) 9)) 60 1))) (some ((1 : Int32), (zu (zu q115.2 ((Int32.toNatClampNeg (q115.2 60 1)) + 6) (Int32.toNatClampNeg x1) (q115.2 (Int32.toNatClampNeg (q115.2 60 1)) 9)) (Int32.toNatClampNeg ((zu q115.2 ((Int32.toNatClampNeg (q115.2 60 1)) + 6) (Int32.toNatClampNeg x1) (q115.2 (Int32.toNatClampNeg (q115.2 60 1)) 9)) 60 1)) 8 (x1 + (1 : Int32))))))))))))))
def F_X5_readRule  (a1 : Int32) (a2 : Int32) (σ : Hp) : Option (Int32 × Hp) :=
  if a1 < 0 then (some ((0 : Int32), σ)) else (if a1 < (16 : Int32) then (gd (isL (Int32.toNatClampNeg ((zu σ 23 3 ((σ 23 3) + (1 : Int32))) 60 1))) (gd (inb a1 16) (gd (isL (Int32.toNatClampNeg ((zu (zu σ 23 3 ((σ 23 3) + (1 : Int32))) ((Int32.toNatClampNeg ((zu σ 23 3 ((σ 23 3) + (1 : Int32))) 60 1)) + 3) (Int32.toNatClampNeg a1) a2) 60 1))) (gd (isL (Int32.toNatClampNeg ((zu (zu σ 23 3 ((σ 23 3) + (1 : Int32))) ((Int32.toNatClampNeg ((zu σ 23 3 ((σ 23 3) + (1 : Int32))) 60 1)) + 3) (Int32.toNatClampNeg a1) a2) 60 1))) (gd (inb a1 16) (if a2 = (120 : Int32) then (J_X5_readRule_67   a1 (zu (zu (zu σ 23 3 ((σ 23 3) + (1 : Int32))) ((Int32.toNatClampNeg ((zu σ 23 3 ((σ 23 3) + (1 : Int32))) 60 1)) + 3) (Int32.toNatClampNeg a1) a2) ((Int32.toNatClampNeg ((zu (zu σ 23 3 ((σ 23 3) + (1 : Int32))) ((Int32.toNatClampNeg ((zu σ 23 3 ((σ 23 3) + (1 : Int32))) 60 1)) + 3) (Int32.toNatClampNeg a1) a2) 60 1)) + 4) (Int32.toNatClampNeg a1) ((zu (zu σ 23 3 ((σ 23 3) + (1 : Int32))) ((Int32.toNatClampNeg ((zu σ 23 3 ((σ 23 3) + (1 : Int32))) 60 1)) + 3) (Int32.toNatClampNeg a1) a2) (Int32.toNatClampNeg ((zu (zu σ 23 3 ((σ 23 3) + (1 : Int32))) ((Int32.toNatClampNeg ((zu σ 23 3 ((σ 23 3) + (1 : Int32))) 60 1)) + 3) (Int32.toNatClampNeg a1) a2) 60 1)) 9))) else ((D_X5_readAmount (0 : Int32) (zu (zu (zu σ 23 3 ((σ 23 3) + (1 : Int32))) ((Int32.toNatClampNeg ((zu σ 23 3 ((σ 23 3) + (1 : Int32))) 60 1)) + 3) (Int32.toNatClampNeg a1) a2) ((Int32.toNatClampNeg ((zu (zu σ 23 3 ((σ 23 3) + (1 : Int32))) ((Int32.toNatClampNeg ((zu σ 23 3 ((σ 23 3) + (1 : Int32))) 60 1)) + 3) (Int32.toNatClampNeg a1) a2) 60 1)) + 4) (Int32.toNatClampNeg a1) ((zu (zu σ 23 3 ((σ 23 3) + (1 : Int32))) ((Int32.toNatClampNeg ((zu σ 23 3 ((σ 23 3) + (1 : Int32))) 60 1)) + 3) (Int32.toNatClampNeg a1) a2) (Int32.toNatClampNeg ((zu (zu σ 23 3 ((σ 23 3) + (1 : Int32))) ((Int32.toNatClampNeg ((zu σ 23 3 ((σ 23 3) + (1 : Int32))) 60 1)) + 3) (Int32.toNatClampNeg a1) a2) 60 1)) 9))).bind fun q59 => if q59.1 = 0 then (some ((0 : Int32), q59.2)) else (J_X5_readRule_67   a1 q59.2)))))))) else (some ((0 : Int32), σ)))
def J_X5_readInto_74  (k22 : Int32 → Hp → Option (Int32 × Hp)) (k126 : Hp → Option (Int32 × Hp)) (k80 : Hp → Option (Int32 × Hp)) (x3 : Int32) (x4 : Int32) (σ : Hp) : Option (Int32 × Hp) :=
  if x3 = (16 : Int32) then (k80  σ) else ((F_X5_readRule x3 x4 σ).bind fun q93 => if q93.1 = 0 then (some ((0 : Int32), q93.2)) else ((F_X8_here  q93.2).bind fun q105 => if q105.1 = (-1 : Int32) then (some ((1 : Int32), q105.2)) else ((F_X8_takes (59 : Int32) q105.2).bind fun q120 => if q120.1 = 0 then (k126  q120.2) else (k22 (x3 + (1 : Int32)) q120.2))))
def B_X5_readInto_22  (k22 : Int32 → Hp → Option (Int32 × Hp)) (k126 : Hp → Option (Int32 × Hp)) (k80 : Hp → Option (Int32 × Hp)) (k65 : Hp → Option (Int32 × Hp)) (x3 : Int32) (σ : Hp) : Option (Int32 × Hp) :=
  if (16 : Int32) < x3 then (some ((0 : Int32), σ)) else ((F_X8_here  σ).bind fun q32 => if q32.1 = (98 : Int32) then (J_X5_readInto_74  k22 k126 k80 x3 q32.1 q32.2) else (if q32.1 = (116 : Int32) then (J_X5_readInto_74  k22 k126 k80 x3 q32.1 q32.2) else (if q32.1 = (119 : Int32) then (J_X5_readInto_74  k22 k126 k80 x3 q32.1 q32.2) else (if q32.1 = (120 : Int32) then (J_X5_readInto_74  k22 k126 k80 x3 q32.1 q32.2) else (k65  q32.2)))))
def L_X5_readInto_22  (k126 : Hp → Option (Int32 × Hp)) (k80 : Hp → Option (Int32 × Hp)) (k65 : Hp → Option (Int32 × Hp)) : Nat → Int32 → Hp → Option (Int32 × Hp)
  | 0, _, _ => none
  | n + 1, x3, σ => B_X5_readInto_22  (fun x3 σ => L_X5_readInto_22  k126 k80 k65 n x3 σ) k126 k80 k65 x3 σ
def J_X5_readInto_126    (σ : Hp) : Option (Int32 × Hp) :=
  (F_X8_refuse (1 : Int32) σ).bind fun q131 => gd (isb q131.1) (some (q131.1, q131.2))
def J_X5_readInto_80    (σ : Hp) : Option (Int32 × Hp) :=
  (F_X8_refuse (4 : Int32) σ).bind fun q85 => gd (isb q85.1) (some (q85.1, q85.2))
def J_X5_readInto_65    (σ : Hp) : Option (Int32 × Hp) :=
  (F_X8_refuse (1 : Int32) σ).bind fun q70 => gd (isb q70.1) (some (q70.1, q70.2))
def F_X5_readInto  (a1 : Nat) (a2 : Int32) (σ : Hp) : Option (Int32 × Hp) :=
  gd (isL (Int32.toNatClampNeg ((zu σ 60 1 (nI a1)) 60 1))) ((F_X4_begin (Int32.toNatClampNeg ((zu σ 60 1 (nI a1)) 60 1)) (zu σ 60 1 (nI a1))).bind fun q9 => (F_X8_begin a2 q9).bind fun q17 => L_X5_readInto_22  (J_X5_readInto_126) (J_X5_readInto_80) (J_X5_readInto_65) FU (0 : Int32) q17)
def F_V_law  (a1 : Int32) (σ : Hp) : Option (Int32 × Hp) :=
  (F_V_within a1 (1 : Int32) (240 : Int32) σ).bind fun q5 => if q5.1 = 0 then (some ((-1 : Int32), q5.2)) else ((F_X8_has a1 q5.2).bind fun q16 => if q16.1 = 0 then (some ((-1 : Int32), q16.2)) else (gd (isL (Int32.toNatClampNeg (q16.2 0 15))) ((F_X5_readInto (Int32.toNatClampNeg (q16.2 0 15)) a1 q16.2).bind fun q33 => (F_X8_clear  q33.2).bind fun q41 => if q33.1 = 0 then (some ((q41 23 4), q41)) else (gd (isL (Int32.toNatClampNeg (q41 0 14))) (gd (isL (Int32.toNatClampNeg (q41 0 15))) (gd (isL (Int32.toNatClampNeg ((zu (zu q41 0 14 (nI (Int32.toNatClampNeg (q41 0 15)))) 0 15 (nI (Int32.toNatClampNeg (q41 0 14)))) 0 14))) (some (((zu (zu q41 0 14 (nI (Int32.toNatClampNeg (q41 0 15)))) 0 15 (nI (Int32.toNatClampNeg (q41 0 14)))) (Int32.toNatClampNeg ((zu (zu q41 0 14 (nI (Int32.toNatClampNeg (q41 0 15)))) 0 15 (nI (Int32.toNatClampNeg (q41 0 14)))) 0 14)) 8), (zu (zu q41 0 14 (nI (Int32.toNatClampNeg (q41 0 15)))) 0 15 (nI (Int32.toNatClampNeg (q41 0 14))))))))))))
def B_V_longestRise_19  (k80 : Int32 → Int32 → Hp → Option (Int32 × Hp)) (k19 : Int32 → Int32 → Int32 → Hp → Option (Int32 × Hp)) (x1 : Int32) (x2 : Int32) (x3 : Int32) (σ : Hp) : Option (Int32 × Hp) :=
  if x2 ≤ x3 then (k80 x1 x2 σ) else (gd (inb x3 24) (gd (inb x2 24) (if (σ 20 (Int32.toNatClampNeg x2)) ≤ (σ 20 (Int32.toNatClampNeg x3)) then (k19 x1 x2 (x3 + (1 : Int32)) σ) else (gd (inb x3 24) (gd (inb x2 24) (if (σ 41 (Int32.toNatClampNeg x3)) < (σ 41 (Int32.toNatClampNeg x2)) then (k19 x1 x2 (x3 + (1 : Int32)) σ) else (gd (inb x3 24) (gd (inb x2 24) (k19 x1 x2 (x3 + (1 : Int32)) (zu σ 41 (Int32.toNatClampNeg x2) ((σ 41 (Int32.toNatClampNeg x3)) + (1 : Int32))))))))))))
def L_V_longestRise_19  (k80 : Int32 → Int32 → Hp → Option (Int32 × Hp)) : Nat → Int32 → Int32 → Int32 → Hp → Option (Int32 × Hp)
  | 0, _, _, _, _ => none
  | n + 1, x1, x2, x3, σ => B_V_longestRise_19  k80 (fun x1 x2 x3 σ => L_V_longestRise_19  k80 n x1 x2 x3 σ) x1 x2 x3 σ
def J_V_longestRise_80  (k4 : Int32 → Int32 → Hp → Option (Int32 × Hp)) (x1 : Int32) (x2 : Int32) (σ : Hp) : Option (Int32 × Hp) :=
  gd (inb x2 24) (k4 (jmax x1 (σ 41 (Int32.toNatClampNeg x2))) (x2 + (1 : Int32)) σ)
def B_V_longestRise_4  (k4 : Int32 → Int32 → Hp → Option (Int32 × Hp)) (x1 : Int32) (x2 : Int32) (σ : Hp) : Option (Int32 × Hp) :=
  if (24 : Int32) ≤ x2 then (some (x1, σ)) else (gd (inb x2 24) (L_V_longestRise_19  (J_V_longestRise_80  k4) FU x1 x2 (0 : Int32) (zu σ 41 (Int32.toNatClampNeg x2) (1 : Int32))))
def L_V_longestRise_4   : Nat → Int32 → Int32 → Hp → Option (Int32 × Hp)
  | 0, _, _, _ => none
  | n + 1, x1, x2, σ => B_V_longestRise_4  (fun x1 x2 σ => L_V_longestRise_4   n x1 x2 σ) x1 x2 σ
def F_V_longestRise   (σ : Hp) : Option (Int32 × Hp) :=
  L_V_longestRise_4   FU (0 : Int32) (0 : Int32) σ
def F_V_loses  (a1 : Int32) (a2 : Int32) (σ : Hp) : Option (Int32 × Hp) :=
  (F_V_within a1 (1 : Int32) (120 : Int32) σ).bind fun q4 => if q4.1 = 0 then (some ((-1 : Int32), q4.2)) else ((F_V_within a2 (0 : Int32) (1 : Int32) q4.2).bind fun q13 => if q13.1 = 0 then (some ((-1 : Int32), q13.2)) else (if (q13.2 1 8) = 0 then ((F_V_tryWatches a1 q13.2).bind fun q49 => if a2 = 0 then (some ((q49 13 8), q49)) else (if (q49 13 8) = 0 then (some ((-2 : Int32), q49)) else (some ((q49 26 6), q49)))) else (if a2 = 0 then (some ((q13.2 1 8), q13.2)) else (some ((0 : Int32), q13.2)))))
def J_V_march_79  (k47 : Int32 → Int32 → Int32 → Int32 → Int32 → Hp → Option (Int32 × Hp)) (x1 : Int32) (x2 : Int32) (x3 : Int32) (x4 : Int32) (x5 : Int32) (s0 : Int32) (σ : Hp) : Option (Int32 × Hp) :=
  if s0 = 0 then (k47 x1 x2 x3 x4 (x5 + (1 : Int32)) σ) else (gd (inb ((x1 * (8 : Int32)) + x4) 16) (gd (inb ((x1 * (8 : Int32)) + x5) 16) (if (σ 2 (Int32.toNatClampNeg ((x1 * (8 : Int32)) + x4))) ≤ (σ 2 (Int32.toNatClampNeg ((x1 * (8 : Int32)) + x5))) then (k47 x1 x2 x3 x4 (x5 + (1 : Int32)) σ) else (k47 x1 x2 (x3 + (1 : Int32)) x4 (x5 + (1 : Int32)) σ))))
def J_V_march_78  (k47 : Int32 → Int32 → Int32 → Int32 → Int32 → Hp → Option (Int32 × Hp)) (x1 : Int32) (x2 : Int32) (x3 : Int32) (x4 : Int32) (x5 : Int32) (σ : Hp) : Option (Int32 × Hp) :=
  J_V_march_79  k47 x1 x2 x3 x4 x5 (0 : Int32) σ
def B_V_march_47  (k128 : Int32 → Int32 → Int32 → Int32 → Hp → Option (Int32 × Hp)) (k47 : Int32 → Int32 → Int32 → Int32 → Int32 → Hp → Option (Int32 × Hp)) (x1 : Int32) (x2 : Int32) (x3 : Int32) (x4 : Int32) (x5 : Int32) (σ : Hp) : Option (Int32 × Hp) :=
  if (8 : Int32) ≤ x5 then (k128 x1 x2 x3 x4 σ) else (if ((x2 >>> (x4 &&& 31)) &&& (1 : Int32)) = (1 : Int32) then (if ((x2 >>> (x5 &&& 31)) &&& (1 : Int32)) = (1 : Int32) then (J_V_march_79  k47 x1 x2 x3 x4 x5 (1 : Int32) σ) else (J_V_march_78  k47 x1 x2 x3 x4 x5 σ)) else (J_V_march_78  k47 x1 x2 x3 x4 x5 σ))
def L_V_march_47  (k128 : Int32 → Int32 → Int32 → Int32 → Hp → Option (Int32 × Hp)) : Nat → Int32 → Int32 → Int32 → Int32 → Int32 → Hp → Option (Int32 × Hp)
  | 0, _, _, _, _, _, _ => none
  | n + 1, x1, x2, x3, x4, x5, σ => B_V_march_47  k128 (fun x1 x2 x3 x4 x5 σ => L_V_march_47  k128 n x1 x2 x3 x4 x5 σ) x1 x2 x3 x4 x5 σ
def J_V_march_128  (k34 : Int32 → Int32 → Int32 → Int32 → Hp → Option (Int32 × Hp)) (x1 : Int32) (x2 : Int32) (x3 : Int32) (x4 : Int32) (σ : Hp) : Option (Int32 × Hp) :=
  k34 x1 x2 x3 (x4 + (1 : Int32)) σ
def B_V_march_34  (k34 : Int32 → Int32 → Int32 → Int32 → Hp → Option (Int32 × Hp)) (x1 : Int32) (x2 : Int32) (x3 : Int32) (x4 : Int32) (σ : Hp) : Option (Int32 × Hp) :=
  if (8 : Int32) ≤ x4 then (some (x3, σ)) else (L_V_march_47  (J_V_march_128  k34) FU x1 x2 x3 x4 (x4 + (1 : Int32)) σ)
def L_V_march_34   : Nat → Int32 → Int32 → Int32 → Int32 → Hp → Option (Int32 × Hp)
  | 0, _, _, _, _, _ => none
  | n + 1, x1, x2, x3, x4, σ => B_V_march_34  (fun x1 x2 x3 x4 σ => L_V_march_34   n x1 x2 x3 x4 σ) x1 x2 x3 x4 σ
def F_V_march  (a1 : Int32) (σ : Hp) : Option (Int32 × Hp) :=
  (F_V_isSide a1 σ).bind fun q1 => if q1.1 = 0 then (some ((-1 : Int32), q1.2)) else ((F_X10_bits 1 a1 (0 : Int32) q1.2).bind fun q15 => (F_X10_bits 1 a1 (1 : Int32) q15.2).bind fun q24 => L_V_march_34   FU a1 (q15.1 ||| q24.1) (0 : Int32) (0 : Int32) q24.2)
def F_X6_readGift  (a1 : Nat) (a2 : Int32) (a3 : Int32) (σ : Hp) : Option (Int32 × Hp) :=
  (F_X8_number (2 : Int32) σ).bind fun q14 => if q14.1 = (-1 : Int32) then (some ((0 : Int32), q14.2)) else (if a3 = (76 : Int32) then (gd (inb a2 16) (gd (inb a2 16) (some ((1 : Int32), (zu q14.2 (a1 + 3) (Int32.toNatClampNeg a2) (jmin (99 : Int32) ((q14.2 (a1 + 3) (Int32.toNatClampNeg a2)) + q14.1))))))) else (if q14.1 ≤ (9 : Int32) then (gd (inb a2 16) (some ((1 : Int32), (zu q14.2 (a1 + 4) (Int32.toNatClampNeg a2) q14.1)))) else ((F_X8_refuseAt (3 : Int32) (σ 23 3) q14.2).bind fun q69 => gd (isb q69.1) (some (q69.1, q69.2)))))
def F_X10_turn  (a0 : Nat) (a0n : Nat) (a1 : Int32) (a2 : Int32) (σ : Hp) : Option Hp :=
  gd (inb a1 a0n) (gd (inb a2 a0n) (gd (inb a1 a0n) (gd (inb a2 a0n) (some (zu (zu σ a0 (Int32.toNatClampNeg a1) (σ a0 (Int32.toNatClampNeg a2))) a0 (Int32.toNatClampNeg a2) (σ a0 (Int32.toNatClampNeg a1)))))))
def F_X10_change  (t : Nat) (a1 : Int32) (a2 : Int32) (σ : Hp) : Option Hp :=
  (F_X10_turn (t + 1) 16 a1 a2 σ).bind fun q6 => (F_X10_turn (t + 2) 16 a1 a2 q6).bind fun q15 => (F_X10_turn (t + 3) 16 a1 a2 q15).bind fun q24 => (F_X10_turn (t + 5) 16 a1 a2 q24).bind fun q33 => some q33
def F_X6_readChange  (a1 : Nat) (a2 : Int32) (σ : Hp) : Option (Int32 × Hp) :=
  (F_X8_digit  σ).bind fun q4 => (F_V_within q4.1 (0 : Int32) (7 : Int32) q4.2).bind fun q12 => if q12.1 = 0 then ((F_X8_refuse (1 : Int32) q12.2).bind fun q23 => gd (isb q23.1) (some (q23.1, q23.2))) else ((F_X10_change a1 a2 (((a2 / (8 : Int32)) * (8 : Int32)) + q4.1) (zu q12.2 23 3 ((q12.2 23 3) + (1 : Int32)))).bind fun q55 => some ((1 : Int32), q55))
def J_X6_readLine_256   (r1 : Nat) (x4 : Int32) (s0 : Int32) (s1 : Int32) (s2 : Nat) (s2n : Nat) (σ : Hp) : Option (Int32 × Hp) :=
  gd (inb s1 s2n) (gd (inb x4 16) (some ((1 : Int32), (zu (zu σ s2 (Int32.toNatClampNeg s1) s0) (r1 + 5) (Int32.toNatClampNeg x4) (0 : Int32)))))
def F_X6_readLine  (a1 : Nat) (a2 : Int32) (σ : Hp) : Option (Int32 × Hp) :=
  (F_X8_digit  σ).bind fun q4 => (F_V_within q4.1 (0 : Int32) (7 : Int32) q4.2).bind fun q12 => if q12.1 = 0 then ((F_X8_refuse (1 : Int32) q12.2).bind fun q23 => gd (isb q23.1) (some (q23.1, q23.2))) else (gd (inb ((a2 * (8 : Int32)) + q4.1) 16) (if (q12.2 (a1 + 5) (Int32.toNatClampNeg ((a2 * (8 : Int32)) + q4.1))) = (3 : Int32) then ((F_X8_refuse (7 : Int32) q12.2).bind fun q52 => gd (isb q52.1) (some (q52.1, q52.2))) else ((F_X8_here  (zu q12.2 23 3 ((q12.2 23 3) + (1 : Int32)))).bind fun q73 => if q73.1 = (67 : Int32) then ((F_X6_readGift a1 ((a2 * (8 : Int32)) + q4.1) q73.1 (zu q73.2 23 3 ((q73.2 23 3) + (1 : Int32)))).bind fun q167 => gd (isb q167.1) (some (q167.1, q167.2))) else if q73.1 = (71 : Int32) then ((F_X6_readChange a1 ((a2 * (8 : Int32)) + q4.1) (zu q73.2 23 3 ((q73.2 23 3) + (1 : Int32)))).bind fun q188 => gd (isb q188.1) (some (q188.1, q188.2))) else if q73.1 = (73 : Int32) then (gd (inb ((a2 * (8 : Int32)) + q4.1) 16) (some ((1 : Int32), (zu (zu q73.2 23 3 ((q73.2 23 3) + (1 : Int32))) (a1 + 5) (Int32.toNatClampNeg ((a2 * (8 : Int32)) + q4.1)) (2 : Int32))))) else if q73.1 = (76 : Int32) then ((F_X6_readGift a1 ((a2 * (8 : Int32)) + q4.1) q73.1 (zu q73.2 23 3 ((q73.2 23 3) + (1 : Int32)))).bind fun q167 => gd (isb q167.1) (some (q167.1, q167.2))) else if q73.1 = (79 : Int32) then (gd (inb ((a2 * (8 : Int32)) + q4.1) 16) (if ((zu q73.2 23 3 ((q73.2 23 3) + (1 : Int32))) (a1 + 5) (Int32.toNatClampNeg ((a2 * (8 : Int32)) + q4.1))) = (2 : Int32) then (J_X6_readLine_256   a1 ((a2 * (8 : Int32)) + q4.1) (0 : Int32) ((a2 * (8 : Int32)) + q4.1) (a1 + 2) 16 (zu q73.2 23 3 ((q73.2 23 3) + (1 : Int32)))) else (gd (inb ((a2 * (8 : Int32)) + q4.1) 16) (J_X6_readLine_256   a1 ((a2 * (8 : Int32)) + q4.1) ((zu q73.2 23 3 ((q73.2 23 3) + (1 : Int32))) (a1 + 2) (Int32.toNatClampNeg ((a2 * (8 : Int32)) + q4.1))) ((a2 * (8 : Int32)) + q4.1) (a1 + 2) 16 (zu q73.2 23 3 ((q73.2 23 3) + (1 : Int32))))))) else ((F_X8_refuse (1 : Int32) q73.2).bind fun q272 => gd (isb q272.1) (some (q272.1, q272.2))))))
def J_X6_readOnto_95  (k13 : Nat → Hp → Option (Int32 × Hp)) (k138 : Hp → Option (Int32 × Hp)) (k114 : Hp → Option (Int32 × Hp)) (r1 : Nat) (s0 : Int32) (s1 : Nat) (σ : Hp) : Option (Int32 × Hp) :=
  (F_X6_readLine s1 s0 σ).bind fun q95 => if q95.1 = 0 then (some ((0 : Int32), q95.2)) else ((F_X8_here  q95.2).bind fun q107 => if q107.1 = (-1 : Int32) then (k114  q107.2) else ((F_X8_takes (59 : Int32) q107.2).bind fun q132 => if q132.1 = 0 then (k138  q132.2) else (k13 r1 (zu q132.2 25 1 ((q132.2 25 1) + (1 : Int32))))))
def J_X6_readOnto_51  (k13 : Nat → Hp → Option (Int32 × Hp)) (k138 : Hp → Option (Int32 × Hp)) (k114 : Hp → Option (Int32 × Hp)) (k60 : Hp → Option (Int32 × Hp)) (r1 : Nat) (x3 : Int32) (σ : Hp) : Option (Int32 × Hp) :=
  if (σ 25 1) = (20 : Int32) then (k60  σ) else (if x3 = (60 : Int32) then (J_X6_readOnto_95  k13 k138 k114 r1 (0 : Int32) r1 (zu σ 23 3 ((σ 23 3) + (1 : Int32)))) else (J_X6_readOnto_95  k13 k138 k114 r1 (1 : Int32) r1 (zu σ 23 3 ((σ 23 3) + (1 : Int32)))))
def B_X6_readOnto_13  (k13 : Nat → Hp → Option (Int32 × Hp)) (k138 : Hp → Option (Int32 × Hp)) (k114 : Hp → Option (Int32 × Hp)) (k60 : Hp → Option (Int32 × Hp)) (k42 : Hp → Option (Int32 × Hp)) (r1 : Nat) (σ : Hp) : Option (Int32 × Hp) :=
  if (20 : Int32) < (σ 25 1) then (some ((0 : Int32), σ)) else ((F_X8_here  σ).bind fun q26 => if q26.1 = (60 : Int32) then (J_X6_readOnto_51  k13 k138 k114 k60 r1 q26.1 q26.2) else (if q26.1 = (62 : Int32) then (J_X6_readOnto_51  k13 k138 k114 k60 r1 q26.1 q26.2) else (k42  q26.2)))
def L_X6_readOnto_13  (k138 : Hp → Option (Int32 × Hp)) (k114 : Hp → Option (Int32 × Hp)) (k60 : Hp → Option (Int32 × Hp)) (k42 : Hp → Option (Int32 × Hp)) : Nat → Nat → Hp → Option (Int32 × Hp)
  | 0, _, _ => none
  | n + 1, r1, σ => B_X6_readOnto_13  (fun r1 σ => L_X6_readOnto_13  k138 k114 k60 k42 n r1 σ) k138 k114 k60 k42 r1 σ
def J_X6_readOnto_138    (σ : Hp) : Option (Int32 × Hp) :=
  (F_X8_refuse (1 : Int32) σ).bind fun q143 => gd (isb q143.1) (some (q143.1, q143.2))
def J_X6_readOnto_114    (σ : Hp) : Option (Int32 × Hp) :=
  some ((1 : Int32), (zu σ 25 1 ((σ 25 1) + (1 : Int32))))
def J_X6_readOnto_60    (σ : Hp) : Option (Int32 × Hp) :=
  (F_X8_refuse (4 : Int32) σ).bind fun q65 => gd (isb q65.1) (some (q65.1, q65.2))
def J_X6_readOnto_42    (σ : Hp) : Option (Int32 × Hp) :=
  (F_X8_refuse (1 : Int32) σ).bind fun q47 => gd (isb q47.1) (some (q47.1, q47.2))
def F_X6_readOnto  (a1 : Nat) (a2 : Int32) (σ : Hp) : Option (Int32 × Hp) :=
  (F_X8_begin a2 σ).bind fun q5 => L_X6_readOnto_13  (J_X6_readOnto_138) (J_X6_readOnto_114) (J_X6_readOnto_60) (J_X6_readOnto_42) FU a1 (zu q5 25 1 (0 : Int32))
def F_V_orders  (a1 : Int32) (σ : Hp) : Option (Int32 × Hp) :=
  (F_V_within a1 (1 : Int32) (120 : Int32) σ).bind fun q4 => if q4.1 = 0 then (some ((-1 : Int32), q4.2)) else ((F_X8_has a1 q4.2).bind fun q15 => if q15.1 = 0 then (some ((-1 : Int32), q15.2)) else ((F_X10_copy 13 1 q15.2).bind fun q31 => (F_X6_readOnto 13 a1 q31).bind fun q43 => (F_X8_clear  q43.2).bind fun q51 => if q43.1 = 0 then (some ((q51 23 4), q51)) else ((F_X10_copy 1 13 q51).bind fun q74 => some ((q74 25 1), q74))))
def J_X9_twos_50  (k15 : Nat → Int32 → Int32 → Int32 → Int32 → Hp → Option (Int32 × Hp)) (r1 : Nat) (x2 : Int32) (x3 : Int32) (x4 : Int32) (x5 : Int32) (s0 : Int32) (σ : Hp) : Option (Int32 × Hp) :=
  if s0 = 0 then (k15 r1 x2 x3 x4 (x5 + (1 : Int32)) σ) else (gd (inb x4 16) ((F_X9_eye (0 : Int32) (σ (r1 + 4) (Int32.toNatClampNeg x4)) σ).bind fun q67 => gd (inb ((8 : Int32) + x5) 16) ((F_X9_eye (1 : Int32) (q67.2 (r1 + 4) (Int32.toNatClampNeg ((8 : Int32) + x5))) q67.2).bind fun q82 => (F_X9_isFree q67.1 q82.1 x2 q82.2).bind fun q86 => if q86.1 = 0 then (k15 r1 x2 x3 x4 (x5 + (1 : Int32)) q86.2) else (k15 r1 x2 (x3 + (1 : Int32)) x4 (x5 + (1 : Int32)) q86.2))))
def J_X9_twos_49  (k15 : Nat → Int32 → Int32 → Int32 → Int32 → Hp → Option (Int32 × Hp)) (r1 : Nat) (x2 : Int32) (x3 : Int32) (x4 : Int32) (x5 : Int32) (σ : Hp) : Option (Int32 × Hp) :=
  J_X9_twos_50  k15 r1 x2 x3 x4 x5 (0 : Int32) σ
def B_X9_twos_15  (k101 : Nat → Int32 → Int32 → Int32 → Hp → Option (Int32 × Hp)) (k15 : Nat → Int32 → Int32 → Int32 → Int32 → Hp → Option (Int32 × Hp)) (r1 : Nat) (x2 : Int32) (x3 : Int32) (x4 : Int32) (x5 : Int32) (σ : Hp) : Option (Int32 × Hp) :=
  if (8 : Int32) ≤ x5 then (k101 r1 x2 x3 x4 σ) else (gd (inb x4 16) (if (σ (r1 + 5) (Int32.toNatClampNeg x4)) = 0 then (gd (inb ((8 : Int32) + x5) 16) (if (σ (r1 + 5) (Int32.toNatClampNeg ((8 : Int32) + x5))) = 0 then (J_X9_twos_50  k15 r1 x2 x3 x4 x5 (1 : Int32) σ) else (J_X9_twos_49  k15 r1 x2 x3 x4 x5 σ))) else (J_X9_twos_49  k15 r1 x2 x3 x4 x5 σ)))
def L_X9_twos_15  (k101 : Nat → Int32 → Int32 → Int32 → Hp → Option (Int32 × Hp)) : Nat → Nat → Int32 → Int32 → Int32 → Int32 → Hp → Option (Int32 × Hp)
  | 0, _, _, _, _, _, _ => none
  | n + 1, r1, x2, x3, x4, x5, σ => B_X9_twos_15  k101 (fun r1 x2 x3 x4 x5 σ => L_X9_twos_15  k101 n r1 x2 x3 x4 x5 σ) r1 x2 x3 x4 x5 σ
def J_X9_twos_101  (k5 : Nat → Int32 → Int32 → Int32 → Hp → Option (Int32 × Hp)) (r1 : Nat) (x2 : Int32) (x3 : Int32) (x4 : Int32) (σ : Hp) : Option (Int32 × Hp) :=
  k5 r1 x2 x3 (x4 + (1 : Int32)) σ
def B_X9_twos_5  (k5 : Nat → Int32 → Int32 → Int32 → Hp → Option (Int32 × Hp)) (r1 : Nat) (x2 : Int32) (x3 : Int32) (x4 : Int32) (σ : Hp) : Option (Int32 × Hp) :=
  if (8 : Int32) ≤ x4 then (some (x3, σ)) else (L_X9_twos_15  (J_X9_twos_101  k5) FU r1 x2 x3 x4 (0 : Int32) σ)
def L_X9_twos_5   : Nat → Nat → Int32 → Int32 → Int32 → Hp → Option (Int32 × Hp)
  | 0, _, _, _, _, _ => none
  | n + 1, r1, x2, x3, x4, σ => B_X9_twos_5  (fun r1 x2 x3 x4 σ => L_X9_twos_5   n r1 x2 x3 x4 σ) r1 x2 x3 x4 σ
def F_X9_twos  (a1 : Nat) (a2 : Int32) (σ : Hp) : Option (Int32 × Hp) :=
  L_X9_twos_5   FU a1 a2 (0 : Int32) (0 : Int32) σ
def J_V_overTrees_78  (k39 : Int32 → Int32 → Int32 → Int32 → Int32 → Hp → Option (Int32 × Hp)) (x1 : Int32) (x2 : Int32) (x3 : Int32) (x4 : Int32) (x5 : Int32) (s0 : Int32) (σ : Hp) : Option (Int32 × Hp) :=
  if s0 ≤ x4 then (k39 x1 x2 x3 x4 (x5 + (1 : Int32)) σ) else (k39 x1 x2 x5 s0 (x5 + (1 : Int32)) σ)
def B_V_overTrees_39  (k100 : Int32 → Int32 → Int32 → Hp → Option (Int32 × Hp)) (k39 : Int32 → Int32 → Int32 → Int32 → Int32 → Hp → Option (Int32 × Hp)) (x1 : Int32) (x2 : Int32) (x3 : Int32) (x4 : Int32) (x5 : Int32) (σ : Hp) : Option (Int32 × Hp) :=
  if (24 : Int32) ≤ x5 then (k100 x1 x3 x4 σ) else (gd (inb x5 24) (if (σ 20 (Int32.toNatClampNeg x5)) = 0 then (J_V_overTrees_78  k39 x1 x2 x3 x4 x5 (0 : Int32) σ) else ((F_X9_twos 1 x5 σ).bind fun q73 => J_V_overTrees_78  k39 x1 x2 x3 x4 x5 (q73.1 - x2) q73.2)))
def L_V_overTrees_39  (k100 : Int32 → Int32 → Int32 → Hp → Option (Int32 × Hp)) : Nat → Int32 → Int32 → Int32 → Int32 → Int32 → Hp → Option (Int32 × Hp)
  | 0, _, _, _, _, _, _ => none
  | n + 1, x1, x2, x3, x4, x5, σ => B_V_overTrees_39  k100 (fun x1 x2 x3 x4 x5 σ => L_V_overTrees_39  k100 n x1 x2 x3 x4 x5 σ) x1 x2 x3 x4 x5 σ
def J_V_overTrees_100   (x1 : Int32) (x3 : Int32) (x4 : Int32) (σ : Hp) : Option (Int32 × Hp) :=
  if x1 = (1 : Int32) then (some (x3, σ)) else (some (x4, σ))
def F_V_overTrees  (a1 : Int32) (σ : Hp) : Option (Int32 × Hp) :=
  (F_V_within a1 (0 : Int32) (2 : Int32) σ).bind fun q3 => if q3.1 = 0 then (some ((-1 : Int32), q3.2)) else ((F_X9_twos 1 (-1 : Int32) q3.2).bind fun q20 => if a1 = 0 then (some (q20.1, q20.2)) else (L_V_overTrees_39  (J_V_overTrees_100) FU a1 q20.1 (-2 : Int32) (0 : Int32) (0 : Int32) q20.2))
def B_V_reckonArrivals_48  (k91 : Int32 → Int32 → Int32 → Hp → Option (Int32 × Hp)) (k48 : Int32 → Int32 → Int32 → Int32 → Hp → Option (Int32 × Hp)) (x1 : Int32) (x2 : Int32) (x3 : Int32) (x4 : Int32) (σ : Hp) : Option (Int32 × Hp) :=
  if x4 < (1 : Int32) then (k91 x1 x2 x3 σ) else (gd (inb x4 24) (gd (inb (x4 - (1 : Int32)) 24) (gd (inb x4 24) (k48 x1 x2 x3 (x4 + (-1 : Int32)) (zu σ 41 (Int32.toNatClampNeg x4) (((σ 41 (Int32.toNatClampNeg x4)) * ((10 : Int32) - x3)) + ((σ 41 (Int32.toNatClampNeg (x4 - (1 : Int32)))) * x3)))))))
def L_V_reckonArrivals_48  (k91 : Int32 → Int32 → Int32 → Hp → Option (Int32 × Hp)) : Nat → Int32 → Int32 → Int32 → Int32 → Hp → Option (Int32 × Hp)
  | 0, _, _, _, _, _ => none
  | n + 1, x1, x2, x3, x4, σ => B_V_reckonArrivals_48  k91 (fun x1 x2 x3 x4 σ => L_V_reckonArrivals_48  k91 n x1 x2 x3 x4 σ) x1 x2 x3 x4 σ
def J_V_reckonArrivals_91  (k17 : Int32 → Int32 → Hp → Option (Int32 × Hp)) (x1 : Int32) (x2 : Int32) (x3 : Int32) (σ : Hp) : Option (Int32 × Hp) :=
  gd (inb (0 : Int32) 24) (gd (inb (0 : Int32) 24) (k17 x1 (x2 + (1 : Int32)) (zu σ 41 (Int32.toNatClampNeg (0 : Int32)) ((σ 41 (Int32.toNatClampNeg (0 : Int32))) * ((10 : Int32) - x3)))))
def B_V_reckonArrivals_17  (k17 : Int32 → Int32 → Hp → Option (Int32 × Hp)) (x1 : Int32) (x2 : Int32) (σ : Hp) : Option (Int32 × Hp) :=
  if x1 ≤ x2 then (some ((1 : Int32), σ)) else ((F_X8_byteAt x2 σ).bind fun q27 => (F_V_within q27.1 (0 : Int32) (10 : Int32) q27.2).bind fun q35 => if q35.1 = 0 then (some ((0 : Int32), q35.2)) else (L_V_reckonArrivals_48  (J_V_reckonArrivals_91  k17) FU x1 x2 q27.1 (x2 + (1 : Int32)) q35.2))
def L_V_reckonArrivals_17   : Nat → Int32 → Int32 → Hp → Option (Int32 × Hp)
  | 0, _, _, _ => none
  | n + 1, x1, x2, σ => B_V_reckonArrivals_17  (fun x1 x2 σ => L_V_reckonArrivals_17   n x1 x2 σ) x1 x2 σ
def F_V_reckonArrivals  (a1 : Int32) (σ : Hp) : Option (Int32 × Hp) :=
  (F_J7_fill 41 24 (0 : Int32) σ).bind fun q5 => gd (inb (0 : Int32) 24) (L_V_reckonArrivals_17   FU a1 (0 : Int32) (zu q5 41 (Int32.toNatClampNeg (0 : Int32)) (1 : Int32)))
def B_V_parrots_73  (k92 : Int32 → Int32 → Int32 → Int32 → Int32 → Hp → Option (Int32 × Hp)) (k73 : Int32 → Int32 → Int32 → Int32 → Int32 → Int32 → Hp → Option (Int32 × Hp)) (x1 : Int32) (x2 : Int32) (x3 : Int32) (x5 : Int32) (x6 : Int32) (x7 : Int32) (σ : Hp) : Option (Int32 × Hp) :=
  if x1 ≤ x7 then (k92 x1 x2 x3 x5 x6 σ) else (k73 x1 x2 x3 x5 (x6 * (10 : Int32)) (x7 + (1 : Int32)) σ)
def L_V_parrots_73  (k92 : Int32 → Int32 → Int32 → Int32 → Int32 → Hp → Option (Int32 × Hp)) : Nat → Int32 → Int32 → Int32 → Int32 → Int32 → Int32 → Hp → Option (Int32 × Hp)
  | 0, _, _, _, _, _, _, _ => none
  | n + 1, x1, x2, x3, x5, x6, x7, σ => B_V_parrots_73  k92 (fun x1 x2 x3 x5 x6 x7 σ => L_V_parrots_73  k92 n x1 x2 x3 x5 x6 x7 σ) x1 x2 x3 x5 x6 x7 σ
def J_V_parrots_112  (k95 : Int32 → Int32 → Int32 → Int32 → Int32 → Int32 → Hp → Option (Int32 × Hp)) (x1 : Int32) (x2 : Int32) (x3 : Int32) (x5 : Int32) (x6 : Int32) (x7 : Int32) (σ : Hp) : Option (Int32 × Hp) :=
  gd (inb x7 24) (k95 x1 x2 x3 (x5 + (σ 41 (Int32.toNatClampNeg x7))) x6 (x7 + (1 : Int32)) σ)
def B_V_parrots_95  (k130 : Int32 → Int32 → Int32 → Hp → Option (Int32 × Hp)) (k95 : Int32 → Int32 → Int32 → Int32 → Int32 → Int32 → Hp → Option (Int32 × Hp)) (x1 : Int32) (x2 : Int32) (x3 : Int32) (x5 : Int32) (x6 : Int32) (x7 : Int32) (σ : Hp) : Option (Int32 × Hp) :=
  if x1 < x7 then (k130 x3 x5 x6 σ) else (if x3 < (2 : Int32) then (J_V_parrots_112  k95 x1 x2 x3 x5 x6 x7 σ) else (if x7 = x2 then (J_V_parrots_112  k95 x1 x2 x3 x5 x6 x7 σ) else (k95 x1 x2 x3 x5 x6 (x7 + (1 : Int32)) σ)))
def L_V_parrots_95  (k130 : Int32 → Int32 → Int32 → Hp → Option (Int32 × Hp)) : Nat → Int32 → Int32 → Int32 → Int32 → Int32 → Int32 → Hp → Option (Int32 × Hp)
  | 0, _, _, _, _, _, _, _ => none
  | n + 1, x1, x2, x3, x5, x6, x7, σ => B_V_parrots_95  k130 (fun x1 x2 x3 x5 x6 x7 σ => L_V_parrots_95  k130 n x1 x2 x3 x5 x6 x7 σ) x1 x2 x3 x5 x6 x7 σ
def J_V_parrots_130   (x3 : Int32) (x5 : Int32) (x6 : Int32) (σ : Hp) : Option (Int32 × Hp) :=
  (F_V_commonDivisor x5 x6 σ).bind fun q134 => if (1 : Int32) ≤ q134.1 then (if (jrem x3 (2 : Int32)) = 0 then (gd (nz q134.1) (some ((x5 / q134.1), q134.2))) else (gd (nz q134.1) (some ((x6 / q134.1), q134.2)))) else (some ((-1 : Int32), q134.2))
def J_V_parrots_92   (x1 : Int32) (x2 : Int32) (x3 : Int32) (x5 : Int32) (x6 : Int32) (σ : Hp) : Option (Int32 × Hp) :=
  L_V_parrots_95  (J_V_parrots_130) FU x1 x2 x3 x5 x6 x2 σ
def F_V_parrots  (a1 : Int32) (a2 : Int32) (a3 : Int32) (σ : Hp) : Option (Int32 × Hp) :=
  (F_V_within a1 (1 : Int32) (8 : Int32) σ).bind fun q4 => if q4.1 = 0 then (some ((-1 : Int32), q4.2)) else ((F_V_within a2 (0 : Int32) (8 : Int32) q4.2).bind fun q14 => if q14.1 = 0 then (some ((-1 : Int32), q14.2)) else ((F_V_within a3 (0 : Int32) (3 : Int32) q14.2).bind fun q23 => if q23.1 = 0 then (some ((-1 : Int32), q23.2)) else ((F_X8_has a1 q23.2).bind fun q34 => if q34.1 = 0 then (some ((-1 : Int32), q34.2)) else ((F_V_reckonArrivals a1 q34.2).bind fun q44 => (F_X8_clear  q44.2).bind fun q53 => if q44.1 = 0 then (some ((-2 : Int32), q53)) else (L_V_parrots_73  (J_V_parrots_92) FU a1 a2 a3 (0 : Int32) (1 : Int32) (0 : Int32) q53)))))
def F_V_ridge  (a1 : Int32) (σ : Hp) : Option (Int32 × Hp) :=
  (F_V_within a1 (0 : Int32) (1 : Int32) σ).bind fun q3 => if q3.1 = 0 then (some ((-1 : Int32), q3.2)) else (if a1 = 0 then ((F_V_crests  q3.2).bind fun q16 => some (q16.1, q16.2)) else ((F_V_longestRise  q3.2).bind fun q23 => some (q23.1, q23.2)))
def F_V_seed  (a1 : Int32) (σ : Hp) : Option (Int32 × Hp) :=
  (F_V_within a1 (0 : Int32) (65535 : Int32) σ).bind fun q5 => if q5.1 = 0 then (some ((0 : Int32), q5.2)) else (some ((1 : Int32), (zu q5.2 1 7 a1)))
def F_V_sees  (a1 : Int32) (a2 : Int32) (σ : Hp) : Option (Int32 × Hp) :=
  (F_V_isGentleman (0 : Int32) a1 σ).bind fun q3 => if q3.1 = 0 then (some ((-1 : Int32), q3.2)) else ((F_V_isGentleman (1 : Int32) a2 q3.2).bind fun q12 => if q12.1 = 0 then (some ((-1 : Int32), q12.2)) else ((F_X9_sighted 1 a1 a2 q12.2).bind fun q30 => if q30.1 = 0 then (some ((0 : Int32), q30.2)) else (some ((1 : Int32), q30.2))))
def B_X7_repeat_41  (k41 : Nat → Int32 → Int32 → Int32 → Hp → Option (Int32 × Hp)) (r0 : Nat) (x3 : Int32) (x4 : Int32) (x5 : Int32) (σ : Hp) : Option (Int32 × Hp) :=
  if x3 ≤ x5 then (some ((1 : Int32), σ)) else (gd (inb ((σ r0 1) - x4) 60) (gd (inb (σ r0 1) 60) (k41 r0 x3 x4 (x5 + (1 : Int32)) (zu (zu σ (r0 + 1) (Int32.toNatClampNeg (σ r0 1)) (σ (r0 + 1) (Int32.toNatClampNeg ((σ r0 1) - x4)))) r0 1 (((zu σ (r0 + 1) (Int32.toNatClampNeg (σ r0 1)) (σ (r0 + 1) (Int32.toNatClampNeg ((σ r0 1) - x4)))) r0 1) + (1 : Int32))))))
def L_X7_repeat_41   : Nat → Nat → Int32 → Int32 → Int32 → Hp → Option (Int32 × Hp)
  | 0, _, _, _, _, _ => none
  | n + 1, r0, x3, x4, x5, σ => B_X7_repeat_41  (fun r0 x3 x4 x5 σ => L_X7_repeat_41   n r0 x3 x4 x5 σ) r0 x3 x4 x5 σ
def F_X7_repeat  (t : Nat) (a1 : Int32) (a2 : Int32) (σ : Hp) : Option (Int32 × Hp) :=
  if a1 < 0 then (some ((0 : Int32), σ)) else (if (((σ t 1) - a1) * a2) < 0 then (some ((0 : Int32), σ)) else (if ((σ t 1) + (((σ t 1) - a1) * a2)) ≤ (60 : Int32) then (L_X7_repeat_41   FU t (((σ t 1) - a1) * a2) ((σ t 1) - a1) (0 : Int32) σ) else (some ((0 : Int32), σ))))
def J_X7_readItem_207 (o_X7_readLamps : Nat → Int32 → Hp → Option (Int32 × Hp))  (r0 : Nat) (x3 : Int32) (x4 : Int32) (x5 : Int32) (s0 : Int32) (s1 : Int32) (s2 : Nat) (s2n : Nat) (σ : Hp) : Option (Int32 × Hp) :=
  gd (inb s1 s2n) ((F_X7_repeat r0 x5 (x4 - (1 : Int32)) (zu (zu σ s2 (Int32.toNatClampNeg s1) s0) r0 1 (((zu σ s2 (Int32.toNatClampNeg s1) s0) r0 1) + (1 : Int32)))).bind fun q225 => if q225.1 = 0 then ((F_X8_refuseAt (6 : Int32) x3 q225.2).bind fun q235 => if q235.1 = 0 then (some ((0 : Int32), q235.2)) else (some ((1 : Int32), q235.2))) else (some ((1 : Int32), q225.2)))
def J_X7_readItem_154 (o_X7_readLamps : Nat → Int32 → Hp → Option (Int32 × Hp))  (r0 : Nat) (x3 : Int32) (x4 : Int32) (x5 : Int32) (x6 : Int32) (σ : Hp) : Option (Int32 × Hp) :=
  if ((zu σ 23 3 ((σ 23 3) + (1 : Int32))) r0 1) < (60 : Int32) then (if x6 = (46 : Int32) then (J_X7_readItem_207 o_X7_readLamps  r0 x3 x4 x5 (0 : Int32) ((zu σ 23 3 ((σ 23 3) + (1 : Int32))) r0 1) (r0 + 1) 60 (zu σ 23 3 ((σ 23 3) + (1 : Int32)))) else (J_X7_readItem_207 o_X7_readLamps  r0 x3 x4 x5 ((x6 - (97 : Int32)) + (1 : Int32)) ((zu σ 23 3 ((σ 23 3) + (1 : Int32))) r0 1) (r0 + 1) 60 (zu σ 23 3 ((σ 23 3) + (1 : Int32))))) else ((F_X8_refuseAt (6 : Int32) x3 (zu σ 23 3 ((σ 23 3) + (1 : Int32)))).bind fun q177 => gd (isb q177.1) (some (q177.1, q177.2)))
def J_X7_readItem_32 (o_X7_readLamps : Nat → Int32 → Hp → Option (Int32 × Hp))  (r0 : Nat) (x2 : Int32) (x3 : Int32) (x4 : Int32) (σ : Hp) : Option (Int32 × Hp) :=
  (F_X8_here  σ).bind fun q39 => if q39.1 = (40 : Int32) then (if x2 < (2 : Int32) then ((o_X7_readLamps r0 (x2 + (1 : Int32)) (zu q39.2 23 3 ((q39.2 23 3) + (1 : Int32)))).bind fun q77 => if q77.1 = 0 then (some ((0 : Int32), q77.2)) else ((F_X8_takes (41 : Int32) q77.2).bind fun q88 => if q88.1 = 0 then ((F_X8_refuse (1 : Int32) q88.2).bind fun q96 => gd (isb q96.1) (some (q96.1, q96.2))) else ((F_X7_repeat r0 (σ r0 1) (x4 - (1 : Int32)) q88.2).bind fun q107 => if q107.1 = 0 then ((F_X8_refuseAt (6 : Int32) x3 q107.2).bind fun q117 => if q117.1 = 0 then (some ((0 : Int32), q117.2)) else (some ((1 : Int32), q117.2))) else (some ((1 : Int32), q107.2))))) else ((F_X8_refuse (5 : Int32) q39.2).bind fun q58 => gd (isb q58.1) (some (q58.1, q58.2)))) else (if q39.1 = (46 : Int32) then (J_X7_readItem_154 o_X7_readLamps  r0 x3 x4 (σ r0 1) q39.1 q39.2) else ((F_V_within q39.1 (97 : Int32) (101 : Int32) q39.2).bind fun q142 => if q142.1 = 0 then ((F_X8_refuse (1 : Int32) q142.2).bind fun q150 => gd (isb q150.1) (some (q150.1, q150.2))) else (J_X7_readItem_154 o_X7_readLamps  r0 x3 x4 (σ r0 1) q39.1 q142.2)))
def F_X7_readItem (o_X7_readLamps : Nat → Int32 → Hp → Option (Int32 × Hp)) (t : Nat) (a2 : Int32) (σ : Hp) : Option (Int32 × Hp) :=
  (F_X8_digit  σ).bind fun q9 => if q9.1 < (2 : Int32) then (J_X7_readItem_32 o_X7_readLamps  t a2 (σ 23 3) (1 : Int32) q9.2) else ((F_X8_digit  q9.2).bind fun q17 => J_X7_readItem_32 o_X7_readLamps  t a2 (σ 23 3) q17.1 (zu q17.2 23 3 ((q17.2 23 3) + (1 : Int32))))
def B_X7_readLamps_2 (o_X7_readItem : Nat → Int32 → Hp → Option (Int32 × Hp)) (k2 : Nat → Int32 → Int32 → Hp → Option (Int32 × Hp)) (r0 : Nat) (x2 : Int32) (x3 : Int32) (σ : Hp) : Option (Int32 × Hp) :=
  if (40 : Int32) ≤ x3 then (some ((1 : Int32), σ)) else ((o_X7_readItem r0 x2 σ).bind fun q11 => if q11.1 = 0 then (some ((0 : Int32), q11.2)) else ((F_X8_here  q11.2).bind fun q20 => if q20.1 = (-1 : Int32) then (some ((1 : Int32), q20.2)) else ((F_X8_here  q20.2).bind fun q28 => if q28.1 = (41 : Int32) then (some ((1 : Int32), q28.2)) else (k2 r0 x2 (x3 + (1 : Int32)) q28.2))))
def L_X7_readLamps_2 (o_X7_readItem : Nat → Int32 → Hp → Option (Int32 × Hp))  : Nat → Nat → Int32 → Int32 → Hp → Option (Int32 × Hp)
  | 0, _, _, _, _ => none
  | n + 1, r0, x2, x3, σ => B_X7_readLamps_2 o_X7_readItem (fun r0 x2 x3 σ => L_X7_readLamps_2 o_X7_readItem  n r0 x2 x3 σ) r0 x2 x3 σ
def F_X7_readLamps (o_X7_readItem : Nat → Int32 → Hp → Option (Int32 × Hp)) (t : Nat) (a2 : Int32) (σ : Hp) : Option (Int32 × Hp) :=
  L_X7_readLamps_2 o_X7_readItem  FU t a2 (0 : Int32) σ
def G_X7_readItem : Nat → Nat → Nat → Int32 → Hp → Option (Int32 × Hp)
  | 0, _ => fun _ _ _ => none
  | n + 1, i => match i with
    | 0 => F_X7_readItem (G_X7_readItem n 1)
    | _ => F_X7_readLamps (G_X7_readItem n 0)
theorem G_X7_readItem_z (i : Nat) : G_X7_readItem 0 i = fun _ _ _ => none := by simp only [G_X7_readItem]
theorem G_X7_readItem_0 (n : Nat) : G_X7_readItem (n + 1) 0 = F_X7_readItem (G_X7_readItem n 1) := by simp only [G_X7_readItem]
def D_X7_readItem : Nat → Int32 → Hp → Option (Int32 × Hp) := G_X7_readItem 10 0
theorem G_X7_readItem_1 (n : Nat) : G_X7_readItem (n + 1) 1 = F_X7_readLamps (G_X7_readItem n 0) := by simp only [G_X7_readItem]
def D_X7_readLamps : Nat → Int32 → Hp → Option (Int32 × Hp) := G_X7_readItem 10 1

def F_X7_readFrom  (t : Nat) (a2 : Int32) (σ : Hp) : Option (Int32 × Hp) :=
  (F_X8_begin a2 σ).bind fun q2 => (D_X7_readLamps t (0 : Int32) (zu q2 t 1 (0 : Int32))).bind fun q13 => if q13.1 = 0 then (some ((0 : Int32), q13.2)) else ((F_X8_here  q13.2).bind fun q22 => if q22.1 = (-1 : Int32) then (some ((1 : Int32), q22.2)) else ((F_X8_refuse (1 : Int32) q22.2).bind fun q31 => if q31.1 = 0 then (some ((0 : Int32), q31.2)) else (some ((1 : Int32), q31.2))))
def F_X7_copy  (t : Nat) (a1 : Nat) (σ : Hp) : Option Hp :=
  some (zu (zcp σ (t + 1) (a1 + 1) 60) t 1 ((zcp σ (t + 1) (a1 + 1) 60) a1 1))
def F_V_signals  (a1 : Int32) (a2 : Int32) (σ : Hp) : Option (Int32 × Hp) :=
  (F_V_isSide a1 σ).bind fun q1 => if q1.1 = 0 then (some ((-1 : Int32), q1.2)) else ((F_V_within a2 (1 : Int32) (40 : Int32) q1.2).bind fun q11 => if q11.1 = 0 then (some ((-1 : Int32), q11.2)) else ((F_X8_has a2 q11.2).bind fun q22 => if q22.1 = 0 then (some ((-1 : Int32), q22.2)) else ((F_X7_readFrom 32 a2 q22.2).bind fun q39 => (F_X8_clear  q39.2).bind fun q47 => if q39.1 = 0 then (some ((q47 23 4), q47)) else ((F_V_signalsOf a1 q47).bind fun q64 => gd (isS q64.1) ((F_X7_copy q64.1 32 q64.2).bind fun q75 => some ((q75 q64.1 1), q75))))))
def J_V_toSee_125  (k69 : Int32 → Int32 → Int32 → Int32 → Hp → Option (Int32 × Hp)) (x1 : Int32) (x4 : Int32) (x5 : Int32) (x6 : Int32) (s0 : Int32) (σ : Hp) : Option (Int32 × Hp) :=
  if s0 = 0 then (k69 x1 x4 x5 (x6 + (1 : Int32)) σ) else (some (x6, σ))
def B_V_toSee_69  (k69 : Int32 → Int32 → Int32 → Int32 → Hp → Option (Int32 × Hp)) (x1 : Int32) (x4 : Int32) (x5 : Int32) (x6 : Int32) (σ : Hp) : Option (Int32 × Hp) :=
  if (9 : Int32) < (x4 + x6) then (some ((-2 : Int32), σ)) else ((F_X9_eye x1 (x4 + x6) σ).bind fun q89 => if x1 = 0 then ((F_X9_isFree q89.1 x5 (-1 : Int32) q89.2).bind fun q107 => J_V_toSee_125  k69 x1 x4 x5 x6 q107.1 q107.2) else ((F_X9_isFree x5 q89.1 (-1 : Int32) q89.2).bind fun q122 => J_V_toSee_125  k69 x1 x4 x5 x6 q122.1 q122.2))
def L_V_toSee_69   : Nat → Int32 → Int32 → Int32 → Int32 → Hp → Option (Int32 × Hp)
  | 0, _, _, _, _, _ => none
  | n + 1, x1, x4, x5, x6, σ => B_V_toSee_69  (fun x1 x4 x5 x6 σ => L_V_toSee_69   n x1 x4 x5 x6 σ) x1 x4 x5 x6 σ
def F_V_toSee  (a1 : Int32) (a2 : Int32) (a3 : Int32) (σ : Hp) : Option (Int32 × Hp) :=
  (F_V_isGentleman a1 a2 σ).bind fun q3 => if q3.1 = 0 then (some ((-1 : Int32), q3.2)) else ((F_V_isGentleman ((1 : Int32) - a1) a3 q3.2).bind fun q14 => if q14.1 = 0 then (some ((-1 : Int32), q14.2)) else (gd (inb ((a1 * (8 : Int32)) + a2) 16) (gd (inb ((((1 : Int32) - a1) * (8 : Int32)) + a3) 16) ((F_X9_eye ((1 : Int32) - a1) (q14.2 5 (Int32.toNatClampNeg ((((1 : Int32) - a1) * (8 : Int32)) + a3))) q14.2).bind fun q61 => L_V_toSee_69   FU a1 (q14.2 5 (Int32.toNatClampNeg ((a1 * (8 : Int32)) + a2))) q61.1 (0 : Int32) q61.2))))
def J_V_tried_53   (x1 : Int32) (x2 : Int32) (x3 : Int32) (σ : Hp) : Option (Int32 × Hp) :=
  (F_V_tryWatches x1 σ).bind fun q55 => if x3 = 0 then (if x2 = (0 : Int32) then (some ((q55 26 2), q55)) else if x2 = (1 : Int32) then (some ((q55 26 3), q55)) else if x2 = (2 : Int32) then (some ((q55 26 4), q55)) else (some ((q55 13 8), q55))) else (gd (inb ((((x2 / (10 : Int32)) - (1 : Int32)) * (8 : Int32)) + (jrem x2 (10 : Int32))) 16) (if (q55 18 (Int32.toNatClampNeg ((((x2 / (10 : Int32)) - (1 : Int32)) * (8 : Int32)) + (jrem x2 (10 : Int32))))) = (3 : Int32) then (some ((-1 : Int32), q55)) else (gd (inb ((((x2 / (10 : Int32)) - (1 : Int32)) * (8 : Int32)) + (jrem x2 (10 : Int32))) 16) (some ((q55 15 (Int32.toNatClampNeg ((((x2 / (10 : Int32)) - (1 : Int32)) * (8 : Int32)) + (jrem x2 (10 : Int32))))), q55)))))
def J_V_tried_27   (x1 : Int32) (x2 : Int32) (s0 : Int32) (σ : Hp) : Option (Int32 × Hp) :=
  (F_V_within x1 (1 : Int32) (120 : Int32) σ).bind fun q32 => if q32.1 = 0 then (some ((-1 : Int32), q32.2)) else ((F_V_within x2 (0 : Int32) (3 : Int32) q32.2).bind fun q41 => if q41.1 = 0 then (if s0 = 0 then (some ((-1 : Int32), q41.2)) else (J_V_tried_53   x1 x2 s0 q41.2)) else (J_V_tried_53   x1 x2 s0 q41.2))
def J_V_tried_22   (x1 : Int32) (x2 : Int32) (σ : Hp) : Option (Int32 × Hp) :=
  J_V_tried_27   x1 x2 (1 : Int32) σ
def F_V_tried  (a1 : Int32) (a2 : Int32) (σ : Hp) : Option (Int32 × Hp) :=
  (F_V_within a2 (10 : Int32) (17 : Int32) σ).bind fun q5 => if q5.1 = 0 then ((F_V_within a2 (20 : Int32) (27 : Int32) q5.2).bind fun q16 => if q16.1 = 0 then (J_V_tried_27   a1 a2 (0 : Int32) q16.2) else (J_V_tried_22   a1 a2 q16.2)) else (J_V_tried_22   a1 a2 q5.2)
def F_V_undo   (σ : Hp) : Option (Int32 × Hp) :=
  if (σ 0 17) = 0 then (some ((0 : Int32), σ)) else ((F_X10_copy 1 7 σ).bind fun q17 => some ((1 : Int32), q17))
def F_V_watches  (a1 : Int32) (σ : Hp) : Option (Int32 × Hp) :=
  (F_V_within a1 (1 : Int32) (120 : Int32) σ).bind fun q4 => if q4.1 = 0 then (some ((-1 : Int32), q4.2)) else (gd (isL (Int32.toNatClampNeg (q4.2 0 14))) ((F_X2_run 1 (Int32.toNatClampNeg (q4.2 0 14)) a1 q4.2).bind fun q25 => some ((q25 26 2), q25)))
def F_V_whenIn  (a1 : Int32) (a2 : Int32) (a3 : Int32) (σ : Hp) : Option (Int32 × Hp) :=
  (F_V_isGentleman a1 a2 σ).bind fun q3 => if q3.1 = 0 then (some ((-1 : Int32), q3.2)) else ((F_V_within a3 (1 : Int32) (120 : Int32) q3.2).bind fun q13 => if q13.1 = 0 then (some ((-1 : Int32), q13.2)) else (gd (inb ((a1 * (8 : Int32)) + a2) 16) (if (q13.2 6 (Int32.toNatClampNeg ((a1 * (8 : Int32)) + a2))) = (2 : Int32) then (some ((0 : Int32), q13.2)) else ((F_V_tryWatches a3 q13.2).bind fun q47 => gd (inb ((a1 * (8 : Int32)) + a2) 16) (if (q47 27 (Int32.toNatClampNeg ((a1 * (8 : Int32)) + a2))) ≤ 0 then (some ((-2 : Int32), q47)) else (gd (inb ((a1 * (8 : Int32)) + a2) 16) (some ((q47 27 (Int32.toNatClampNeg ((a1 * (8 : Int32)) + a2))), q47))))))))
