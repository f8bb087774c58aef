def sC0 : Hp := fun k => match k with
  | 0 => fun j => [0, 0, 0, 0, 0, 0, 0, 0, 0, 0, 0, 0, 0, 0, 42, 51, 0, 0].getD j 0
  | 1 => fun j => [0, 0, 0, 0, 0, 0, 0, 1, 0].getD j 0
  | 2 => fun _ => 0
  | 3 => fun _ => 0
  | 4 => fun _ => 0
  | 5 => fun _ => 0
  | 6 => fill 16 3 (fun _ => 0)
  | 7 => fun j => [0, 0, 0, 0, 0, 0, 0, 1, 0].getD j 0
  | 8 => fun _ => 0
  | 9 => fun _ => 0
  | 10 => fun _ => 0
  | 11 => fun _ => 0
  | 12 => fill 16 3 (fun _ => 0)
  | 13 => fun j => [0, 0, 0, 0, 0, 0, 0, 1, 0].getD j 0
  | 14 => fun _ => 0
  | 15 => fun _ => 0
  | 16 => fun _ => 0
  | 17 => fun _ => 0
  | 18 => fill 16 3 (fun _ => 0)
  | 19 => fun j => [0, 0, 0].getD j 0
  | 20 => fun _ => 0
  | 21 => upd (upd (fun _ => 0) (0 : Int32).toNatClampNeg 50) (1 : Int32).toNatClampNeg 50
  | 22 => fun _ => 0
  | 23 => fun j => [0, 0, 0, 0, 0].getD j 0
  | 24 => fun _ => 0
  | 25 => fun j => [0, 0].getD j 0
  | 26 => fun j => [0, 0, 0, 0, 0, (-1), 0].getD j 0
  | 27 => fun _ => 0
  | 28 => fun j => [0, 0].getD j 0
  | 29 => fun _ => 0
  | 30 => fun j => [0, 0].getD j 0
  | 31 => fun _ => 0
  | 32 => fun j => [0, 0].getD j 0
  | 33 => fun _ => 0
  | 34 => fun j => [0].getD j 0
  | 35 => fun _ => 0
  | 36 => fun j => [0, 0, 0, 0].getD j 0
  | 37 => fun _ => 0
  | 38 => fun _ => 0
  | 39 => fun j => [0, 0, 0, 0, 0].getD j 0
  | 40 => fun _ => 0
  | 41 => fun _ => 0
  | 42 => fun j => [0, 0, 0, 0, 0, 0, 0, 0, 0, 0, 0].getD j 0
  | 43 => fun _ => 0
  | 44 => fun _ => 0
  | 45 => fun _ => 0
  | 46 => fun _ => 0
  | 47 => fun _ => 0
  | 48 => fun _ => 0
  | 49 => fun _ => 0
  | 50 => fun _ => 0
  | 51 => fun j => [0, 0, 0, 0, 0, 0, 0, 0, 0, 0, 0].getD j 0
  | 52 => fun _ => 0
  | 53 => fun _ => 0
  | 54 => fun _ => 0
  | 55 => fun _ => 0
  | 56 => fun _ => 0
  | 57 => fun _ => 0
  | 58 => fun _ => 0
  | 59 => fun _ => 0
  | 60 => fun j => [0, 51].getD j 0
  | _ => fun _ => 0
def sM0 : Hp := fun k => match k with
  | 0 => fun j => [0, 0, 0, 0, 0, 0, 0, 0, 0, 0, 0, 0, 0, 0, 0, 0, 0, 0, 0, 0, 0, 0, 0, 0, 0, 0, 0, 0, 0, 0, 0, 0, 0, 0, 0, 0, 0, 0, 0, 0, 0, 0, 0, 0, 0, 0, 0, 0, 0, 0, 0, 0, 0, 0, 0, 0, 0, 0, 0, 0, 0, 0].getD j 0
  | 1 => upd (fun _ => 0) (99 : Int32).toNatClampNeg 1
  | 2 => fun _ => 0
  | 3 => fun _ => 0
  | 4 => upd (upd (fun _ => 0) (0 : Int32).toNatClampNeg 50) (1 : Int32).toNatClampNeg 50
  | 5 => fun _ => 0
  | 6 => fun _ => 0
  | 7 => fun _ => 0
  | 8 => fun _ => 0
  | 9 => fun _ => 0
  | 10 => fun _ => 0
  | 11 => fun _ => 0
  | 12 => fun _ => 0
  | 13 => fun _ => 0
  | 14 => fun _ => 0
  | 15 => fun _ => 0
  | 16 => fun _ => 0
  | 17 => fun _ => 0
  | 18 => fun _ => 0
  | 19 => fun _ => 0
  | 20 => fun _ => 0
  | 21 => fun _ => 0
  | 22 => fun _ => 0
  | 23 => fun _ => 0
  | 24 => fun _ => 0
  | 25 => fun _ => 0
  | 26 => fun _ => 0
  | 27 => fun _ => 0
  | 28 => fun _ => 0
  | 29 => fun _ => 0
  | 30 => fun _ => 0
  | 31 => fun _ => 0
  | 32 => fun _ => 0
  | 33 => fun _ => 0
  | 34 => fun _ => 0
  | 35 => fun _ => 0
  | 36 => fun _ => 0
  | 37 => fun _ => 0
  | _ => fun _ => 0
set_option maxRecDepth 100000 in
set_option maxHeartbeats 8000000 in
theorem cvV {D : va_G} {cI cB : ClassId} {X : State → Prop} {A : Nat → Prop} {H : Heap} {h0 q5 war9_0 war9_1 war9_2 war9_3 war9_4 q16 war20_0 war20_1 war20_2 war20_3 war20_4 q27 war31_0 war31_1 war31_2 war31_3 war31_4 q38 valley42_0 valley42_1 valley42_2 q49 tape53_0 q60 q75 course83_0 q90 signals94_0 q101 signals105_0 q112 signals116_0 q123 common127_0 q134 glasses138_0 glasses138_1 q145 bridge149_0 q158 q164 law168_0 law168_1 law168_2 law168_3 law168_4 law168_5 law168_6 law168_7 q175 law179_0 law179_1 law179_2 law179_3 law179_4 law179_5 law179_6 law179_7 q186 adS adV : Nat} (hP : va_P D vwCl [(h0, .inr (11, [.ref q5, .ref q16, .ref q27, .ref q38, .ref q49, .ref q60, .ref q75, .ref q90, .ref q101, .ref q112, .ref q123, .ref q134, .ref q145, .ref q158, .ref q164, .ref q175, .ref q186, .int 0])), (q5, .inr (10, [.ref war9_0, .ref war9_1, .ref war9_2, .ref war9_3, .ref war9_4, .int 0, .int 0, .int 1, .int 0])), (war9_0, .inl (cI, 16, .inl (fun _ => 0))), (war9_1, .inl (cI, 16, .inl (fun _ => 0))), (war9_2, .inl (cI, 16, .inl (fun _ => 0))), (war9_3, .inl (cI, 16, .inl (fun _ => 0))), (war9_4, .inl (cI, 16, .inl (fill 16 3 (fun _ => 0)))), (q16, .inr (10, [.ref war20_0, .ref war20_1, .ref war20_2, .ref war20_3, .ref war20_4, .int 0, .int 0, .int 1, .int 0])), (war20_0, .inl (cI, 16, .inl (fun _ => 0))), (war20_1, .inl (cI, 16, .inl (fun _ => 0))), (war20_2, .inl (cI, 16, .inl (fun _ => 0))), (war20_3, .inl (cI, 16, .inl (fun _ => 0))), (war20_4, .inl (cI, 16, .inl (fill 16 3 (fun _ => 0)))), (q27, .inr (10, [.ref war31_0, .ref war31_1, .ref war31_2, .ref war31_3, .ref war31_4, .int 0, .int 0, .int 1, .int 0])), (war31_0, .inl (cI, 16, .inl (fun _ => 0))), (war31_1, .inl (cI, 16, .inl (fun _ => 0))), (war31_2, .inl (cI, 16, .inl (fun _ => 0))), (war31_3, .inl (cI, 16, .inl (fun _ => 0))), (war31_4, .inl (cI, 16, .inl (fill 16 3 (fun _ => 0)))), (q38, .inr (9, [.ref valley42_0, .ref valley42_1, .ref valley42_2])), (valley42_0, .inl (cI, 24, .inl (fun _ => 0))), (valley42_1, .inl (cI, 2, .inl (upd (upd (fun _ => 0) (0 : Int32).toNatClampNeg 50) (1 : Int32).toNatClampNeg 50))), (valley42_2, .inl (cI, 16, .inl (fun _ => 0))), (q49, .inr (8, [.ref tape53_0, .int 0, .int 0, .int 0, .int 0])), (tape53_0, .inl (cI, 260, .inl (fun _ => 0))), (q60, .inr (6, [.ref q49, .int 0])), (q75, .inr (2, [.ref q38, .ref course83_0, .int 0, .int 0, .int 0, .int (-1), .int 0])), (course83_0, .inl (cI, 16, .inl (fun _ => 0))), (q90, .inr (7, [.ref signals94_0, .int 0])), (signals94_0, .inl (cI, 60, .inl (fun _ => 0))), (q101, .inr (7, [.ref signals105_0, .int 0])), (signals105_0, .inl (cI, 60, .inl (fun _ => 0))), (q112, .inr (7, [.ref signals116_0, .int 0])), (signals116_0, .inl (cI, 60, .inl (fun _ => 0))), (q123, .inr (1, [.ref common127_0])), (common127_0, .inl (cI, 3721, .inl (fun _ => 0))), (q134, .inr (3, [.ref glasses138_0, .ref glasses138_1, .int 0, .int 0])), (glasses138_0, .inl (cI, 81, .inl (fun _ => 0))), (glasses138_1, .inl (cI, 8, .inl (fun _ => 0))), (q145, .inr (0, [.ref bridge149_0, .int 0, .int 0, .int 0, .int 0])), (bridge149_0, .inl (cI, 12, .inl (fun _ => 0))), (q158, .inl (cI, 24, .inl (fun _ => 0))), (q164, .inr (4, [.ref law168_0, .ref law168_1, .ref law168_2, .ref law168_3, .ref law168_4, .ref law168_5, .ref law168_6, .ref law168_7, .int 0, .int 0, .int 0])), (law168_0, .inl (cI, 240, .inl (fun _ => 0))), (law168_1, .inl (cI, 240, .inl (fun _ => 0))), (law168_2, .inl (cI, 16, .inl (fun _ => 0))), (law168_3, .inl (cI, 16, .inl (fun _ => 0))), (law168_4, .inl (cI, 16, .inl (fun _ => 0))), (law168_5, .inl (cI, 16, .inl (fun _ => 0))), (law168_6, .inl (cI, 11, .inl (fun _ => 0))), (law168_7, .inl (cI, 64, .inl (fun _ => 0))), (q175, .inr (4, [.ref law179_0, .ref law179_1, .ref law179_2, .ref law179_3, .ref law179_4, .ref law179_5, .ref law179_6, .ref law179_7, .int 0, .int 0, .int 0])), (law179_0, .inl (cI, 240, .inl (fun _ => 0))), (law179_1, .inl (cI, 240, .inl (fun _ => 0))), (law179_2, .inl (cI, 16, .inl (fun _ => 0))), (law179_3, .inl (cI, 16, .inl (fun _ => 0))), (law179_4, .inl (cI, 16, .inl (fun _ => 0))), (law179_5, .inl (cI, 16, .inl (fun _ => 0))), (law179_6, .inl (cI, 11, .inl (fun _ => 0))), (law179_7, .inl (cI, 64, .inl (fun _ => 0))), (q186, .inr (5, [.ref q49, .ref q175]))] H) (hD : va_D A [(h0, .inr (11, [.ref q5, .ref q16, .ref q27, .ref q38, .ref q49, .ref q60, .ref q75, .ref q90, .ref q101, .ref q112, .ref q123, .ref q134, .ref q145, .ref q158, .ref q164, .ref q175, .ref q186, .int 0])), (q5, .inr (10, [.ref war9_0, .ref war9_1, .ref war9_2, .ref war9_3, .ref war9_4, .int 0, .int 0, .int 1, .int 0])), (war9_0, .inl (cI, 16, .inl (fun _ => 0))), (war9_1, .inl (cI, 16, .inl (fun _ => 0))), (war9_2, .inl (cI, 16, .inl (fun _ => 0))), (war9_3, .inl (cI, 16, .inl (fun _ => 0))), (war9_4, .inl (cI, 16, .inl (fill 16 3 (fun _ => 0)))), (q16, .inr (10, [.ref war20_0, .ref war20_1, .ref war20_2, .ref war20_3, .ref war20_4, .int 0, .int 0, .int 1, .int 0])), (war20_0, .inl (cI, 16, .inl (fun _ => 0))), (war20_1, .inl (cI, 16, .inl (fun _ => 0))), (war20_2, .inl (cI, 16, .inl (fun _ => 0))), (war20_3, .inl (cI, 16, .inl (fun _ => 0))), (war20_4, .inl (cI, 16, .inl (fill 16 3 (fun _ => 0)))), (q27, .inr (10, [.ref war31_0, .ref war31_1, .ref war31_2, .ref war31_3, .ref war31_4, .int 0, .int 0, .int 1, .int 0])), (war31_0, .inl (cI, 16, .inl (fun _ => 0))), (war31_1, .inl (cI, 16, .inl (fun _ => 0))), (war31_2, .inl (cI, 16, .inl (fun _ => 0))), (war31_3, .inl (cI, 16, .inl (fun _ => 0))), (war31_4, .inl (cI, 16, .inl (fill 16 3 (fun _ => 0)))), (q38, .inr (9, [.ref valley42_0, .ref valley42_1, .ref valley42_2])), (valley42_0, .inl (cI, 24, .inl (fun _ => 0))), (valley42_1, .inl (cI, 2, .inl (upd (upd (fun _ => 0) (0 : Int32).toNatClampNeg 50) (1 : Int32).toNatClampNeg 50))), (valley42_2, .inl (cI, 16, .inl (fun _ => 0))), (q49, .inr (8, [.ref tape53_0, .int 0, .int 0, .int 0, .int 0])), (tape53_0, .inl (cI, 260, .inl (fun _ => 0))), (q60, .inr (6, [.ref q49, .int 0])), (q75, .inr (2, [.ref q38, .ref course83_0, .int 0, .int 0, .int 0, .int (-1), .int 0])), (course83_0, .inl (cI, 16, .inl (fun _ => 0))), (q90, .inr (7, [.ref signals94_0, .int 0])), (signals94_0, .inl (cI, 60, .inl (fun _ => 0))), (q101, .inr (7, [.ref signals105_0, .int 0])), (signals105_0, .inl (cI, 60, .inl (fun _ => 0))), (q112, .inr (7, [.ref signals116_0, .int 0])), (signals116_0, .inl (cI, 60, .inl (fun _ => 0))), (q123, .inr (1, [.ref common127_0])), (common127_0, .inl (cI, 3721, .inl (fun _ => 0))), (q134, .inr (3, [.ref glasses138_0, .ref glasses138_1, .int 0, .int 0])), (glasses138_0, .inl (cI, 81, .inl (fun _ => 0))), (glasses138_1, .inl (cI, 8, .inl (fun _ => 0))), (q145, .inr (0, [.ref bridge149_0, .int 0, .int 0, .int 0, .int 0])), (bridge149_0, .inl (cI, 12, .inl (fun _ => 0))), (q158, .inl (cI, 24, .inl (fun _ => 0))), (q164, .inr (4, [.ref law168_0, .ref law168_1, .ref law168_2, .ref law168_3, .ref law168_4, .ref law168_5, .ref law168_6, .ref law168_7, .int 0, .int 0, .int 0])), (law168_0, .inl (cI, 240, .inl (fun _ => 0))), (law168_1, .inl (cI, 240, .inl (fun _ => 0))), (law168_2, .inl (cI, 16, .inl (fun _ => 0))), (law168_3, .inl (cI, 16, .inl (fun _ => 0))), (law168_4, .inl (cI, 16, .inl (fun _ => 0))), (law168_5, .inl (cI, 16, .inl (fun _ => 0))), (law168_6, .inl (cI, 11, .inl (fun _ => 0))), (law168_7, .inl (cI, 64, .inl (fun _ => 0))), (q175, .inr (4, [.ref law179_0, .ref law179_1, .ref law179_2, .ref law179_3, .ref law179_4, .ref law179_5, .ref law179_6, .ref law179_7, .int 0, .int 0, .int 0])), (law179_0, .inl (cI, 240, .inl (fun _ => 0))), (law179_1, .inl (cI, 240, .inl (fun _ => 0))), (law179_2, .inl (cI, 16, .inl (fun _ => 0))), (law179_3, .inl (cI, 16, .inl (fun _ => 0))), (law179_4, .inl (cI, 16, .inl (fun _ => 0))), (law179_5, .inl (cI, 16, .inl (fun _ => 0))), (law179_6, .inl (cI, 11, .inl (fun _ => 0))), (law179_7, .inl (cI, 64, .inl (fun _ => 0))), (q186, .inr (5, [.ref q49, .ref q175]))]) : zP wC ((fun k => [h0, q5, war9_0, war9_1, war9_2, war9_3, war9_4, q16, war20_0, war20_1, war20_2, war20_3, war20_4, q27, war31_0, war31_1, war31_2, war31_3, war31_4, q38, valley42_0, valley42_1, valley42_2, q49, tape53_0, q60, q75, course83_0, q90, signals94_0, q101, signals105_0, q112, signals116_0, q123, common127_0, q134, glasses138_0, glasses138_1, q145, bridge149_0, q158, q164, law168_0, law168_1, law168_2, law168_3, law168_4, law168_5, law168_6, law168_7, q175, law179_0, law179_1, law179_2, law179_3, law179_4, law179_5, law179_6, law179_7, q186, adS, adV].getD k 0), D, cI, cB, X) sC0 H ∧ zInj wC ((fun k => [h0, q5, war9_0, war9_1, war9_2, war9_3, war9_4, q16, war20_0, war20_1, war20_2, war20_3, war20_4, q27, war31_0, war31_1, war31_2, war31_3, war31_4, q38, valley42_0, valley42_1, valley42_2, q49, tape53_0, q60, q75, course83_0, q90, signals94_0, q101, signals105_0, q112, signals116_0, q123, common127_0, q134, glasses138_0, glasses138_1, q145, bridge149_0, q158, q164, law168_0, law168_1, law168_2, law168_3, law168_4, law168_5, law168_6, law168_7, q175, law179_0, law179_1, law179_2, law179_3, law179_4, law179_5, law179_6, law179_7, q186, adS, adV].getD k 0), D, cI, cB, X) ∧ (∀ k, k < wC.1 → A ((((fun k => [h0, q5, war9_0, war9_1, war9_2, war9_3, war9_4, q16, war20_0, war20_1, war20_2, war20_3, war20_4, q27, war31_0, war31_1, war31_2, war31_3, war31_4, q38, valley42_0, valley42_1, valley42_2, q49, tape53_0, q60, q75, course83_0, q90, signals94_0, q101, signals105_0, q112, signals116_0, q123, common127_0, q134, glasses138_0, glasses138_1, q145, bridge149_0, q158, q164, law168_0, law168_1, law168_2, law168_3, law168_4, law168_5, law168_6, law168_7, q175, law179_0, law179_1, law179_2, law179_3, law179_4, law179_5, law179_6, law179_7, q186, adS, adV].getD k 0), D, cI, cB, X) : ZV).1 k)) := by
  have hat : ∀ k : Nat, k < 61 → ∃ x, ([(h0, .inr (11, [.ref q5, .ref q16, .ref q27, .ref q38, .ref q49, .ref q60, .ref q75, .ref q90, .ref q101, .ref q112, .ref q123, .ref q134, .ref q145, .ref q158, .ref q164, .ref q175, .ref q186, .int 0])), (q5, .inr (10, [.ref war9_0, .ref war9_1, .ref war9_2, .ref war9_3, .ref war9_4, .int 0, .int 0, .int 1, .int 0])), (war9_0, .inl (cI, 16, .inl (fun _ => 0))), (war9_1, .inl (cI, 16, .inl (fun _ => 0))), (war9_2, .inl (cI, 16, .inl (fun _ => 0))), (war9_3, .inl (cI, 16, .inl (fun _ => 0))), (war9_4, .inl (cI, 16, .inl (fill 16 3 (fun _ => 0)))), (q16, .inr (10, [.ref war20_0, .ref war20_1, .ref war20_2, .ref war20_3, .ref war20_4, .int 0, .int 0, .int 1, .int 0])), (war20_0, .inl (cI, 16, .inl (fun _ => 0))), (war20_1, .inl (cI, 16, .inl (fun _ => 0))), (war20_2, .inl (cI, 16, .inl (fun _ => 0))), (war20_3, .inl (cI, 16, .inl (fun _ => 0))), (war20_4, .inl (cI, 16, .inl (fill 16 3 (fun _ => 0)))), (q27, .inr (10, [.ref war31_0, .ref war31_1, .ref war31_2, .ref war31_3, .ref war31_4, .int 0, .int 0, .int 1, .int 0])), (war31_0, .inl (cI, 16, .inl (fun _ => 0))), (war31_1, .inl (cI, 16, .inl (fun _ => 0))), (war31_2, .inl (cI, 16, .inl (fun _ => 0))), (war31_3, .inl (cI, 16, .inl (fun _ => 0))), (war31_4, .inl (cI, 16, .inl (fill 16 3 (fun _ => 0)))), (q38, .inr (9, [.ref valley42_0, .ref valley42_1, .ref valley42_2])), (valley42_0, .inl (cI, 24, .inl (fun _ => 0))), (valley42_1, .inl (cI, 2, .inl (upd (upd (fun _ => 0) (0 : Int32).toNatClampNeg 50) (1 : Int32).toNatClampNeg 50))), (valley42_2, .inl (cI, 16, .inl (fun _ => 0))), (q49, .inr (8, [.ref tape53_0, .int 0, .int 0, .int 0, .int 0])), (tape53_0, .inl (cI, 260, .inl (fun _ => 0))), (q60, .inr (6, [.ref q49, .int 0])), (q75, .inr (2, [.ref q38, .ref course83_0, .int 0, .int 0, .int 0, .int (-1), .int 0])), (course83_0, .inl (cI, 16, .inl (fun _ => 0))), (q90, .inr (7, [.ref signals94_0, .int 0])), (signals94_0, .inl (cI, 60, .inl (fun _ => 0))), (q101, .inr (7, [.ref signals105_0, .int 0])), (signals105_0, .inl (cI, 60, .inl (fun _ => 0))), (q112, .inr (7, [.ref signals116_0, .int 0])), (signals116_0, .inl (cI, 60, .inl (fun _ => 0))), (q123, .inr (1, [.ref common127_0])), (common127_0, .inl (cI, 3721, .inl (fun _ => 0))), (q134, .inr (3, [.ref glasses138_0, .ref glasses138_1, .int 0, .int 0])), (glasses138_0, .inl (cI, 81, .inl (fun _ => 0))), (glasses138_1, .inl (cI, 8, .inl (fun _ => 0))), (q145, .inr (0, [.ref bridge149_0, .int 0, .int 0, .int 0, .int 0])), (bridge149_0, .inl (cI, 12, .inl (fun _ => 0))), (q158, .inl (cI, 24, .inl (fun _ => 0))), (q164, .inr (4, [.ref law168_0, .ref law168_1, .ref law168_2, .ref law168_3, .ref law168_4, .ref law168_5, .ref law168_6, .ref law168_7, .int 0, .int 0, .int 0])), (law168_0, .inl (cI, 240, .inl (fun _ => 0))), (law168_1, .inl (cI, 240, .inl (fun _ => 0))), (law168_2, .inl (cI, 16, .inl (fun _ => 0))), (law168_3, .inl (cI, 16, .inl (fun _ => 0))), (law168_4, .inl (cI, 16, .inl (fun _ => 0))), (law168_5, .inl (cI, 16, .inl (fun _ => 0))), (law168_6, .inl (cI, 11, .inl (fun _ => 0))), (law168_7, .inl (cI, 64, .inl (fun _ => 0))), (q175, .inr (4, [.ref law179_0, .ref law179_1, .ref law179_2, .ref law179_3, .ref law179_4, .ref law179_5, .ref law179_6, .ref law179_7, .int 0, .int 0, .int 0])), (law179_0, .inl (cI, 240, .inl (fun _ => 0))), (law179_1, .inl (cI, 240, .inl (fun _ => 0))), (law179_2, .inl (cI, 16, .inl (fun _ => 0))), (law179_3, .inl (cI, 16, .inl (fun _ => 0))), (law179_4, .inl (cI, 16, .inl (fun _ => 0))), (law179_5, .inl (cI, 16, .inl (fun _ => 0))), (law179_6, .inl (cI, 11, .inl (fun _ => 0))), (law179_7, .inl (cI, 64, .inl (fun _ => 0))), (q186, .inr (5, [.ref q49, .ref q175]))] : va_W)[([0, 1, 2, 3, 4, 5, 6, 7, 8, 9, 10, 11, 12, 13, 14, 15, 16, 17, 18, 19, 20, 21, 22, 23, 24, 25, 26, 27, 28, 29, 30, 31, 32, 33, 34, 35, 36, 37, 38, 39, 40, 41, 42, 43, 44, 45, 46, 47, 48, 49, 50, 51, 52, 53, 54, 55, 56, 57, 58, 59, 60] : List Nat).getD k 0]? = some ((((fun k => [h0, q5, war9_0, war9_1, war9_2, war9_3, war9_4, q16, war20_0, war20_1, war20_2, war20_3, war20_4, q27, war31_0, war31_1, war31_2, war31_3, war31_4, q38, valley42_0, valley42_1, valley42_2, q49, tape53_0, q60, q75, course83_0, q90, signals94_0, q101, signals105_0, q112, signals116_0, q123, common127_0, q134, glasses138_0, glasses138_1, q145, bridge149_0, q158, q164, law168_0, law168_1, law168_2, law168_3, law168_4, law168_5, law168_6, law168_7, q175, law179_0, law179_1, law179_2, law179_3, law179_4, law179_5, law179_6, law179_7, q186, adS, adV].getD k 0), D, cI, cB, X) : ZV).1 k, x) := by
    intro k hk
    match k, hk with
    | 0, _ => exact ⟨_, rfl⟩
    | 1, _ => exact ⟨_, rfl⟩
    | 2, _ => exact ⟨_, rfl⟩
    | 3, _ => exact ⟨_, rfl⟩
    | 4, _ => exact ⟨_, rfl⟩
    | 5, _ => exact ⟨_, rfl⟩
    | 6, _ => exact ⟨_, rfl⟩
    | 7, _ => exact ⟨_, rfl⟩
    | 8, _ => exact ⟨_, rfl⟩
    | 9, _ => exact ⟨_, rfl⟩
    | 10, _ => exact ⟨_, rfl⟩
    | 11, _ => exact ⟨_, rfl⟩
    | 12, _ => exact ⟨_, rfl⟩
    | 13, _ => exact ⟨_, rfl⟩
    | 14, _ => exact ⟨_, rfl⟩
    | 15, _ => exact ⟨_, rfl⟩
    | 16, _ => exact ⟨_, rfl⟩
    | 17, _ => exact ⟨_, rfl⟩
    | 18, _ => exact ⟨_, rfl⟩
    | 19, _ => exact ⟨_, rfl⟩
    | 20, _ => exact ⟨_, rfl⟩
    | 21, _ => exact ⟨_, rfl⟩
    | 22, _ => exact ⟨_, rfl⟩
    | 23, _ => exact ⟨_, rfl⟩
    | 24, _ => exact ⟨_, rfl⟩
    | 25, _ => exact ⟨_, rfl⟩
    | 26, _ => exact ⟨_, rfl⟩
    | 27, _ => exact ⟨_, rfl⟩
    | 28, _ => exact ⟨_, rfl⟩
    | 29, _ => exact ⟨_, rfl⟩
    | 30, _ => exact ⟨_, rfl⟩
    | 31, _ => exact ⟨_, rfl⟩
    | 32, _ => exact ⟨_, rfl⟩
    | 33, _ => exact ⟨_, rfl⟩
    | 34, _ => exact ⟨_, rfl⟩
    | 35, _ => exact ⟨_, rfl⟩
    | 36, _ => exact ⟨_, rfl⟩
    | 37, _ => exact ⟨_, rfl⟩
    | 38, _ => exact ⟨_, rfl⟩
    | 39, _ => exact ⟨_, rfl⟩
    | 40, _ => exact ⟨_, rfl⟩
    | 41, _ => exact ⟨_, rfl⟩
    | 42, _ => exact ⟨_, rfl⟩
    | 43, _ => exact ⟨_, rfl⟩
    | 44, _ => exact ⟨_, rfl⟩
    | 45, _ => exact ⟨_, rfl⟩
    | 46, _ => exact ⟨_, rfl⟩
    | 47, _ => exact ⟨_, rfl⟩
    | 48, _ => exact ⟨_, rfl⟩
    | 49, _ => exact ⟨_, rfl⟩
    | 50, _ => exact ⟨_, rfl⟩
    | 51, _ => exact ⟨_, rfl⟩
    | 52, _ => exact ⟨_, rfl⟩
    | 53, _ => exact ⟨_, rfl⟩
    | 54, _ => exact ⟨_, rfl⟩
    | 55, _ => exact ⟨_, rfl⟩
    | 56, _ => exact ⟨_, rfl⟩
    | 57, _ => exact ⟨_, rfl⟩
    | 58, _ => exact ⟨_, rfl⟩
    | 59, _ => exact ⟨_, rfl⟩
    | 60, _ => exact ⟨_, rfl⟩
    | k + 61, hk => exact absurd hk (by omega)
  refine ⟨fun k q hq => ?_, fun i j hi hj h => ?_, fun k hk => ?_⟩
  · have hk := zw_lt hq
    rw [zw_at hk] at hq
    cases hq
    match k, hk with
    | 0, _ => exact hP 0 _ rfl
    | 1, _ => exact hP 1 _ rfl
    | 2, _ => exact hP 2 _ rfl
    | 3, _ => exact hP 3 _ rfl
    | 4, _ => exact hP 4 _ rfl
    | 5, _ => exact hP 5 _ rfl
    | 6, _ => exact hP 6 _ rfl
    | 7, _ => exact hP 7 _ rfl
    | 8, _ => exact hP 8 _ rfl
    | 9, _ => exact hP 9 _ rfl
    | 10, _ => exact hP 10 _ rfl
    | 11, _ => exact hP 11 _ rfl
    | 12, _ => exact hP 12 _ rfl
    | 13, _ => exact hP 13 _ rfl
    | 14, _ => exact hP 14 _ rfl
    | 15, _ => exact hP 15 _ rfl
    | 16, _ => exact hP 16 _ rfl
    | 17, _ => exact hP 17 _ rfl
    | 18, _ => exact hP 18 _ rfl
    | 19, _ => exact hP 19 _ rfl
    | 20, _ => exact hP 20 _ rfl
    | 21, _ => exact hP 21 _ rfl
    | 22, _ => exact hP 22 _ rfl
    | 23, _ => exact hP 23 _ rfl
    | 24, _ => exact hP 24 _ rfl
    | 25, _ => exact hP 25 _ rfl
    | 26, _ => exact hP 26 _ rfl
    | 27, _ => exact hP 27 _ rfl
    | 28, _ => exact hP 28 _ rfl
    | 29, _ => exact hP 29 _ rfl
    | 30, _ => exact hP 30 _ rfl
    | 31, _ => exact hP 31 _ rfl
    | 32, _ => exact hP 32 _ rfl
    | 33, _ => exact hP 33 _ rfl
    | 34, _ => exact hP 34 _ rfl
    | 35, _ => exact hP 35 _ rfl
    | 36, _ => exact hP 36 _ rfl
    | 37, _ => exact hP 37 _ rfl
    | 38, _ => exact hP 38 _ rfl
    | 39, _ => exact hP 39 _ rfl
    | 40, _ => exact hP 40 _ rfl
    | 41, _ => exact hP 41 _ rfl
    | 42, _ => exact hP 42 _ rfl
    | 43, _ => exact hP 43 _ rfl
    | 44, _ => exact hP 44 _ rfl
    | 45, _ => exact hP 45 _ rfl
    | 46, _ => exact hP 46 _ rfl
    | 47, _ => exact hP 47 _ rfl
    | 48, _ => exact hP 48 _ rfl
    | 49, _ => exact hP 49 _ rfl
    | 50, _ => exact hP 50 _ rfl
    | 51, _ => exact hP 51 _ rfl
    | 52, _ => exact hP 52 _ rfl
    | 53, _ => exact hP 53 _ rfl
    | 54, _ => exact hP 54 _ rfl
    | 55, _ => exact hP 55 _ rfl
    | 56, _ => exact hP 56 _ rfl
    | 57, _ => exact hP 57 _ rfl
    | 58, _ => exact hP 58 _ rfl
    | 59, _ => exact hP 59 _ rfl
    | 60, _ => exact hP 60 _ rfl
    | k + 61, hk => exact absurd hk (by show ¬ k + 61 < 61; omega)
  · obtain ⟨x, h1⟩ := hat i hi
    obtain ⟨y, h2⟩ := hat j hj
    have h3 := hD.1 _ _ _ _ h1 h2 h
    have key : ∀ i : Nat, i < 61 → ∀ j : Nat, j < 61 → ([0, 1, 2, 3, 4, 5, 6, 7, 8, 9, 10, 11, 12, 13, 14, 15, 16, 17, 18, 19, 20, 21, 22, 23, 24, 25, 26, 27, 28, 29, 30, 31, 32, 33, 34, 35, 36, 37, 38, 39, 40, 41, 42, 43, 44, 45, 46, 47, 48, 49, 50, 51, 52, 53, 54, 55, 56, 57, 58, 59, 60] : List Nat).getD i 0 = ([0, 1, 2, 3, 4, 5, 6, 7, 8, 9, 10, 11, 12, 13, 14, 15, 16, 17, 18, 19, 20, 21, 22, 23, 24, 25, 26, 27, 28, 29, 30, 31, 32, 33, 34, 35, 36, 37, 38, 39, 40, 41, 42, 43, 44, 45, 46, 47, 48, 49, 50, 51, 52, 53, 54, 55, 56, 57, 58, 59, 60] : List Nat).getD j 0 → i = j := by decide
    exact key i hi j hj h3
  · obtain ⟨x, h1⟩ := hat k hk
    exact hD.2 _ _ h1
set_option maxRecDepth 100000 in
set_option maxHeartbeats 8000000 in
theorem cvM {D : va_G} {cI cB : ClassId} {X : State → Prop} {A : Nat → Prop} {H : Heap} {h0 q7 q15 q23 q30 q38 q47 q56 q65 q73 q81 q89 q97 q106 q114 q122 q130 q138 q147 q155 q163 q170 q178 q185 q192 q199 q207 q216 q224 q233 q241 q249 q257 q265 q273 q281 q289 q297  : Nat} (hP : va_P D vwCl [(h0, .inr (12, [.ref q7, .ref q15, .ref q23, .ref q30, .ref q38, .ref q47, .int 0, .int 0, .int 0, .int 0, .int 0, .int 0, .int 0, .int 0, .int 0, .int 0, .ref q56, .ref q65, .ref q73, .ref q81, .ref q89, .ref q97, .ref q106, .ref q114, .ref q122, .ref q130, .ref q138, .ref q147, .ref q155, .int 0, .ref q163, .ref q170, .ref q178, .ref q185, .ref q192, .ref q199, .int 0, .int 0, .int 0, .int 0, .int 0, .int 0, .int 0, .int 0, .int 0, .int 0, .ref q207, .ref q216, .ref q224, .ref q233, .ref q241, .ref q249, .ref q257, .ref q265, .ref q273, .ref q281, .int 0, .int 0, .int 0, .ref q289, .ref q297, .int 0])), (q7, .inl (cI, 100, .inl (upd (fun _ => 0) (99 : Int32).toNatClampNeg 1))), (q15, .inl (cI, 100, .inl (fun _ => 0))), (q23, .inl (cI, 100, .inl (fun _ => 0))), (q30, .inl (cI, 2, .inl (upd (upd (fun _ => 0) (0 : Int32).toNatClampNeg 50) (1 : Int32).toNatClampNeg 50))), (q38, .inl (cI, 24, .inl (fun _ => 0))), (q47, .inl (cB, 260, .inl (fun _ => 0))), (q56, .inl (cI, 260, .inl (fun _ => 0))), (q65, .inl (cI, 260, .inl (fun _ => 0))), (q73, .inl (cI, 16, .inl (fun _ => 0))), (q81, .inl (cI, 16, .inl (fun _ => 0))), (q89, .inl (cI, 16, .inl (fun _ => 0))), (q97, .inl (cI, 16, .inl (fun _ => 0))), (q106, .inl (cI, 260, .inl (fun _ => 0))), (q114, .inl (cI, 16, .inl (fun _ => 0))), (q122, .inl (cI, 16, .inl (fun _ => 0))), (q130, .inl (cI, 16, .inl (fun _ => 0))), (q138, .inl (cI, 16, .inl (fun _ => 0))), (q147, .inl (cI, 260, .inl (fun _ => 0))), (q155, .inl (cI, 11, .inl (fun _ => 0))), (q163, .inl (cB, 120, .inl (fun _ => 0))), (q170, .inl (cI, 2, .inl (fun _ => 0))), (q178, .inl (cI, 60, .inl (fun _ => 0))), (q185, .inl (cI, 2, .inl (fun _ => 0))), (q192, .inl (cI, 2, .inl (fun _ => 0))), (q199, .inl (cI, 2, .inl (fun _ => 0))), (q207, .inl (cI, 16, .inl (fun _ => 0))), (q216, .inl (cI, 2304, .inl (fun _ => 0))), (q224, .inl (cI, 24, .inl (fun _ => 0))), (q233, .inl (cB, 3721, .inl (fun _ => 0))), (q241, .inl (cI, 13, .inl (fun _ => 0))), (q249, .inl (cI, 13, .inl (fun _ => 0))), (q257, .inl (cI, 13, .inl (fun _ => 0))), (q265, .inl (cI, 13, .inl (fun _ => 0))), (q273, .inl (cI, 13, .inl (fun _ => 0))), (q281, .inl (cI, 13, .inl (fun _ => 0))), (q289, .inl (cI, 10, .inl (fun _ => 0))), (q297, .inl (cI, 8, .inl (fun _ => 0)))] H) (hD : va_D A [(h0, .inr (12, [.ref q7, .ref q15, .ref q23, .ref q30, .ref q38, .ref q47, .int 0, .int 0, .int 0, .int 0, .int 0, .int 0, .int 0, .int 0, .int 0, .int 0, .ref q56, .ref q65, .ref q73, .ref q81, .ref q89, .ref q97, .ref q106, .ref q114, .ref q122, .ref q130, .ref q138, .ref q147, .ref q155, .int 0, .ref q163, .ref q170, .ref q178, .ref q185, .ref q192, .ref q199, .int 0, .int 0, .int 0, .int 0, .int 0, .int 0, .int 0, .int 0, .int 0, .int 0, .ref q207, .ref q216, .ref q224, .ref q233, .ref q241, .ref q249, .ref q257, .ref q265, .ref q273, .ref q281, .int 0, .int 0, .int 0, .ref q289, .ref q297, .int 0])), (q7, .inl (cI, 100, .inl (upd (fun _ => 0) (99 : Int32).toNatClampNeg 1))), (q15, .inl (cI, 100, .inl (fun _ => 0))), (q23, .inl (cI, 100, .inl (fun _ => 0))), (q30, .inl (cI, 2, .inl (upd (upd (fun _ => 0) (0 : Int32).toNatClampNeg 50) (1 : Int32).toNatClampNeg 50))), (q38, .inl (cI, 24, .inl (fun _ => 0))), (q47, .inl (cB, 260, .inl (fun _ => 0))), (q56, .inl (cI, 260, .inl (fun _ => 0))), (q65, .inl (cI, 260, .inl (fun _ => 0))), (q73, .inl (cI, 16, .inl (fun _ => 0))), (q81, .inl (cI, 16, .inl (fun _ => 0))), (q89, .inl (cI, 16, .inl (fun _ => 0))), (q97, .inl (cI, 16, .inl (fun _ => 0))), (q106, .inl (cI, 260, .inl (fun _ => 0))), (q114, .inl (cI, 16, .inl (fun _ => 0))), (q122, .inl (cI, 16, .inl (fun _ => 0))), (q130, .inl (cI, 16, .inl (fun _ => 0))), (q138, .inl (cI, 16, .inl (fun _ => 0))), (q147, .inl (cI, 260, .inl (fun _ => 0))), (q155, .inl (cI, 11, .inl (fun _ => 0))), (q163, .inl (cB, 120, .inl (fun _ => 0))), (q170, .inl (cI, 2, .inl (fun _ => 0))), (q178, .inl (cI, 60, .inl (fun _ => 0))), (q185, .inl (cI, 2, .inl (fun _ => 0))), (q192, .inl (cI, 2, .inl (fun _ => 0))), (q199, .inl (cI, 2, .inl (fun _ => 0))), (q207, .inl (cI, 16, .inl (fun _ => 0))), (q216, .inl (cI, 2304, .inl (fun _ => 0))), (q224, .inl (cI, 24, .inl (fun _ => 0))), (q233, .inl (cB, 3721, .inl (fun _ => 0))), (q241, .inl (cI, 13, .inl (fun _ => 0))), (q249, .inl (cI, 13, .inl (fun _ => 0))), (q257, .inl (cI, 13, .inl (fun _ => 0))), (q265, .inl (cI, 13, .inl (fun _ => 0))), (q273, .inl (cI, 13, .inl (fun _ => 0))), (q281, .inl (cI, 13, .inl (fun _ => 0))), (q289, .inl (cI, 10, .inl (fun _ => 0))), (q297, .inl (cI, 8, .inl (fun _ => 0)))]) : zP wM ((fun k => [h0, q7, q15, q23, q30, q38, q47, q56, q65, q73, q81, q89, q97, q106, q114, q122, q130, q138, q147, q155, q163, q170, q178, q185, q192, q199, q207, q216, q224, q233, q241, q249, q257, q265, q273, q281, q289, q297].getD k 0), D, cI, cB, X) sM0 H ∧ zInj wM ((fun k => [h0, q7, q15, q23, q30, q38, q47, q56, q65, q73, q81, q89, q97, q106, q114, q122, q130, q138, q147, q155, q163, q170, q178, q185, q192, q199, q207, q216, q224, q233, q241, q249, q257, q265, q273, q281, q289, q297].getD k 0), D, cI, cB, X) ∧ (∀ k, k < wM.1 → A ((((fun k => [h0, q7, q15, q23, q30, q38, q47, q56, q65, q73, q81, q89, q97, q106, q114, q122, q130, q138, q147, q155, q163, q170, q178, q185, q192, q199, q207, q216, q224, q233, q241, q249, q257, q265, q273, q281, q289, q297].getD k 0), D, cI, cB, X) : ZV).1 k)) := by
  have hat : ∀ k : Nat, k < 38 → ∃ x, ([(h0, .inr (12, [.ref q7, .ref q15, .ref q23, .ref q30, .ref q38, .ref q47, .int 0, .int 0, .int 0, .int 0, .int 0, .int 0, .int 0, .int 0, .int 0, .int 0, .ref q56, .ref q65, .ref q73, .ref q81, .ref q89, .ref q97, .ref q106, .ref q114, .ref q122, .ref q130, .ref q138, .ref q147, .ref q155, .int 0, .ref q163, .ref q170, .ref q178, .ref q185, .ref q192, .ref q199, .int 0, .int 0, .int 0, .int 0, .int 0, .int 0, .int 0, .int 0, .int 0, .int 0, .ref q207, .ref q216, .ref q224, .ref q233, .ref q241, .ref q249, .ref q257, .ref q265, .ref q273, .ref q281, .int 0, .int 0, .int 0, .ref q289, .ref q297, .int 0])), (q7, .inl (cI, 100, .inl (upd (fun _ => 0) (99 : Int32).toNatClampNeg 1))), (q15, .inl (cI, 100, .inl (fun _ => 0))), (q23, .inl (cI, 100, .inl (fun _ => 0))), (q30, .inl (cI, 2, .inl (upd (upd (fun _ => 0) (0 : Int32).toNatClampNeg 50) (1 : Int32).toNatClampNeg 50))), (q38, .inl (cI, 24, .inl (fun _ => 0))), (q47, .inl (cB, 260, .inl (fun _ => 0))), (q56, .inl (cI, 260, .inl (fun _ => 0))), (q65, .inl (cI, 260, .inl (fun _ => 0))), (q73, .inl (cI, 16, .inl (fun _ => 0))), (q81, .inl (cI, 16, .inl (fun _ => 0))), (q89, .inl (cI, 16, .inl (fun _ => 0))), (q97, .inl (cI, 16, .inl (fun _ => 0))), (q106, .inl (cI, 260, .inl (fun _ => 0))), (q114, .inl (cI, 16, .inl (fun _ => 0))), (q122, .inl (cI, 16, .inl (fun _ => 0))), (q130, .inl (cI, 16, .inl (fun _ => 0))), (q138, .inl (cI, 16, .inl (fun _ => 0))), (q147, .inl (cI, 260, .inl (fun _ => 0))), (q155, .inl (cI, 11, .inl (fun _ => 0))), (q163, .inl (cB, 120, .inl (fun _ => 0))), (q170, .inl (cI, 2, .inl (fun _ => 0))), (q178, .inl (cI, 60, .inl (fun _ => 0))), (q185, .inl (cI, 2, .inl (fun _ => 0))), (q192, .inl (cI, 2, .inl (fun _ => 0))), (q199, .inl (cI, 2, .inl (fun _ => 0))), (q207, .inl (cI, 16, .inl (fun _ => 0))), (q216, .inl (cI, 2304, .inl (fun _ => 0))), (q224, .inl (cI, 24, .inl (fun _ => 0))), (q233, .inl (cB, 3721, .inl (fun _ => 0))), (q241, .inl (cI, 13, .inl (fun _ => 0))), (q249, .inl (cI, 13, .inl (fun _ => 0))), (q257, .inl (cI, 13, .inl (fun _ => 0))), (q265, .inl (cI, 13, .inl (fun _ => 0))), (q273, .inl (cI, 13, .inl (fun _ => 0))), (q281, .inl (cI, 13, .inl (fun _ => 0))), (q289, .inl (cI, 10, .inl (fun _ => 0))), (q297, .inl (cI, 8, .inl (fun _ => 0)))] : va_W)[([0, 1, 2, 3, 4, 5, 6, 7, 8, 9, 10, 11, 12, 13, 14, 15, 16, 17, 18, 19, 20, 21, 22, 23, 24, 25, 26, 27, 28, 29, 30, 31, 32, 33, 34, 35, 36, 37] : List Nat).getD k 0]? = some ((((fun k => [h0, q7, q15, q23, q30, q38, q47, q56, q65, q73, q81, q89, q97, q106, q114, q122, q130, q138, q147, q155, q163, q170, q178, q185, q192, q199, q207, q216, q224, q233, q241, q249, q257, q265, q273, q281, q289, q297].getD k 0), D, cI, cB, X) : ZV).1 k, x) := by
    intro k hk
    match k, hk with
    | 0, _ => exact ⟨_, rfl⟩
    | 1, _ => exact ⟨_, rfl⟩
    | 2, _ => exact ⟨_, rfl⟩
    | 3, _ => exact ⟨_, rfl⟩
    | 4, _ => exact ⟨_, rfl⟩
    | 5, _ => exact ⟨_, rfl⟩
    | 6, _ => exact ⟨_, rfl⟩
    | 7, _ => exact ⟨_, rfl⟩
    | 8, _ => exact ⟨_, rfl⟩
    | 9, _ => exact ⟨_, rfl⟩
    | 10, _ => exact ⟨_, rfl⟩
    | 11, _ => exact ⟨_, rfl⟩
    | 12, _ => exact ⟨_, rfl⟩
    | 13, _ => exact ⟨_, rfl⟩
    | 14, _ => exact ⟨_, rfl⟩
    | 15, _ => exact ⟨_, rfl⟩
    | 16, _ => exact ⟨_, rfl⟩
    | 17, _ => exact ⟨_, rfl⟩
    | 18, _ => exact ⟨_, rfl⟩
    | 19, _ => exact ⟨_, rfl⟩
    | 20, _ => exact ⟨_, rfl⟩
    | 21, _ => exact ⟨_, rfl⟩
    | 22, _ => exact ⟨_, rfl⟩
    | 23, _ => exact ⟨_, rfl⟩
    | 24, _ => exact ⟨_, rfl⟩
    | 25, _ => exact ⟨_, rfl⟩
    | 26, _ => exact ⟨_, rfl⟩
    | 27, _ => exact ⟨_, rfl⟩
    | 28, _ => exact ⟨_, rfl⟩
    | 29, _ => exact ⟨_, rfl⟩
    | 30, _ => exact ⟨_, rfl⟩
    | 31, _ => exact ⟨_, rfl⟩
    | 32, _ => exact ⟨_, rfl⟩
    | 33, _ => exact ⟨_, rfl⟩
    | 34, _ => exact ⟨_, rfl⟩
    | 35, _ => exact ⟨_, rfl⟩
    | 36, _ => exact ⟨_, rfl⟩
    | 37, _ => exact ⟨_, rfl⟩
    | k + 38, hk => exact absurd hk (by omega)
  refine ⟨fun k q hq => ?_, fun i j hi hj h => ?_, fun k hk => ?_⟩
  · have hk := zw_lt hq
    rw [zw_at hk] at hq
    cases hq
    match k, hk with
    | 0, _ => exact hP 0 _ rfl
    | 1, _ => exact hP 1 _ rfl
    | 2, _ => exact hP 2 _ rfl
    | 3, _ => exact hP 3 _ rfl
    | 4, _ => exact hP 4 _ rfl
    | 5, _ => exact hP 5 _ rfl
    | 6, _ => exact hP 6 _ rfl
    | 7, _ => exact hP 7 _ rfl
    | 8, _ => exact hP 8 _ rfl
    | 9, _ => exact hP 9 _ rfl
    | 10, _ => exact hP 10 _ rfl
    | 11, _ => exact hP 11 _ rfl
    | 12, _ => exact hP 12 _ rfl
    | 13, _ => exact hP 13 _ rfl
    | 14, _ => exact hP 14 _ rfl
    | 15, _ => exact hP 15 _ rfl
    | 16, _ => exact hP 16 _ rfl
    | 17, _ => exact hP 17 _ rfl
    | 18, _ => exact hP 18 _ rfl
    | 19, _ => exact hP 19 _ rfl
    | 20, _ => exact hP 20 _ rfl
    | 21, _ => exact hP 21 _ rfl
    | 22, _ => exact hP 22 _ rfl
    | 23, _ => exact hP 23 _ rfl
    | 24, _ => exact hP 24 _ rfl
    | 25, _ => exact hP 25 _ rfl
    | 26, _ => exact hP 26 _ rfl
    | 27, _ => exact hP 27 _ rfl
    | 28, _ => exact hP 28 _ rfl
    | 29, _ => exact hP 29 _ rfl
    | 30, _ => exact hP 30 _ rfl
    | 31, _ => exact hP 31 _ rfl
    | 32, _ => exact hP 32 _ rfl
    | 33, _ => exact hP 33 _ rfl
    | 34, _ => exact hP 34 _ rfl
    | 35, _ => exact hP 35 _ rfl
    | 36, _ => exact hP 36 _ rfl
    | 37, _ => exact hP 37 _ rfl
    | k + 38, hk => exact absurd hk (by show ¬ k + 38 < 38; omega)
  · obtain ⟨x, h1⟩ := hat i hi
    obtain ⟨y, h2⟩ := hat j hj
    have h3 := hD.1 _ _ _ _ h1 h2 h
    have key : ∀ i : Nat, i < 38 → ∀ j : Nat, j < 38 → ([0, 1, 2, 3, 4, 5, 6, 7, 8, 9, 10, 11, 12, 13, 14, 15, 16, 17, 18, 19, 20, 21, 22, 23, 24, 25, 26, 27, 28, 29, 30, 31, 32, 33, 34, 35, 36, 37] : List Nat).getD i 0 = ([0, 1, 2, 3, 4, 5, 6, 7, 8, 9, 10, 11, 12, 13, 14, 15, 16, 17, 18, 19, 20, 21, 22, 23, 24, 25, 26, 27, 28, 29, 30, 31, 32, 33, 34, 35, 36, 37] : List Nat).getD j 0 → i = j := by decide
    exact key i hi j hj h3
  · obtain ⟨x, h1⟩ := hat k hk
    exact hD.2 _ _ h1
