noncomputable def F_L_law_1106 (L : Nat) (xs : Nat → Int32) (w18 : (Int32 × zSt) → Option (Int32 × zSt)) (x3 : Int32) (σ : zSt) : Option (Int32 × zSt) :=
  nm (x3 + (6 : Int32)) (fun v11 =>
    w18 (v11, σ))
set_option maxHeartbeats 4000000 in
set_option maxRecDepth 100000 in
theorem p_L_law_1106 {G : zG} {C : zC} {b : Nat} {τ : zSt} (hR : zRL G C b) (L : Nat) (xs : Nat → Int32) (w18 : (Int32 × zSt) → Option (Int32 × zSt)) (x3 : Int32) (hw18 : ∀ (x3 : Int32) (σ : zSt), w18 (x3, σ) = some ((1 : Int32), τ) → zAW G 2000 RL cL_law 4 C 18 [(0, .ref b), (1, .ref (zad G 0)), (2, .ref (zad G 69)), (3, .int x3)] [] σ) (hX : zX G C b L xs) (σ : zSt) (h : F_L_law_1106 L xs w18 x3 σ = some ((1 : Int32), τ)) : zAW G 2000 RL cL_law 4 C 1106 [(0, .ref b), (1, .ref (zad G 0)), (2, .ref (zad G 69)), (3, .int x3)] [] σ := by
  unfold F_L_law_1106 at h
  refine z_iinc e_L_law_1106 3 rfl (by decide) (by decide) h (fun y => [(3, .int y), (0, .ref b), (1, .ref (zad G 0)), (2, .ref (zad G 69))]) (fun _ => rfl) (fun v11 h => ?_)
  refine z_goto e_L_law_1109 ?_
  exact z_sub [1, 2, 3, 0] rfl (hw18 v11 σ h)
noncomputable def F_L_law_18 (L : Nat) (xs : Nat → Int32) (w18 : (Int32 × zSt) → Option (Int32 × zSt)) (x3 : Int32) (σ : zSt) : Option (Int32 × zSt) :=
  if ((Int32.ofNat L) - (6 : Int32)) < x3 then (
    some ((1 : Int32), σ))
  else (
    gd (vp_in x3 L) (
      nm ((xs x3.toNatClampNeg) &&& (31 : Int32)) (fun v2 =>
        if v2 = (0 : Int32) then (
          gd (vp_in (x3 + (1 : Int32)) L) (
            gd (vp_in (x3 + (2 : Int32)) L) (
              gd (vp_in (x3 + (3 : Int32)) L) (
                bd (F_X11_way (xs (x3 + (1 : Int32)).toNatClampNeg) (xs (x3 + (2 : Int32)).toNatClampNeg) (xs (x3 + (3 : Int32)).toNatClampNeg) σ) (fun q5 s4 =>
                  gd (vp_in (x3 + (1 : Int32)) L) (
                    gd (vp_in (x3 + (2 : Int32)) L) (
                      gd (vp_in (x3 + (3 : Int32)) L) (
                        bd (F_X12_way (xs (x3 + (1 : Int32)).toNatClampNeg) (xs (x3 + (2 : Int32)).toNatClampNeg) (xs (x3 + (3 : Int32)).toNatClampNeg) s4) (fun q8 s7 =>
                          if q5 = q8 then (
                            F_L_law_1106 L xs w18 x3 s7)
                          else (
                            some ((0 : Int32), s7)))))))))))
        else (
          if v2 = (1 : Int32) then (
            gd (vp_in (x3 + (1 : Int32)) L) (
              gd (vp_in (x3 + (2 : Int32)) L) (
                gd (vp_in (x3 + (3 : Int32)) L) (
                  gd (vp_in (x3 + (4 : Int32)) L) (
                    bd (F_X11_place (xs (x3 + (1 : Int32)).toNatClampNeg) (xs (x3 + (2 : Int32)).toNatClampNeg) (xs (x3 + (3 : Int32)).toNatClampNeg) (xs (x3 + (4 : Int32)).toNatClampNeg) σ) (fun q14 s13 =>
                      gd (vp_in (x3 + (1 : Int32)) L) (
                        gd (vp_in (x3 + (2 : Int32)) L) (
                          gd (vp_in (x3 + (3 : Int32)) L) (
                            gd (vp_in (x3 + (4 : Int32)) L) (
                              bd (F_X12_place (xs (x3 + (1 : Int32)).toNatClampNeg) (xs (x3 + (2 : Int32)).toNatClampNeg) (xs (x3 + (3 : Int32)).toNatClampNeg) (xs (x3 + (4 : Int32)).toNatClampNeg) s13) (fun q17 s16 =>
                                if q14 = q17 then (
                                  F_L_law_1106 L xs w18 x3 s16)
                                else (
                                  some ((0 : Int32), s16)))))))))))))
          else (
            if v2 = (2 : Int32) then (
              gd (vp_in (x3 + (1 : Int32)) L) (
                gd (vp_in (x3 + (2 : Int32)) L) (
                  nm (if (xs (x3 + (2 : Int32)).toNatClampNeg) = 0 then (0 : Int32) else (1 : Int32)) (fun v21 =>
                    gd (vp_in (x3 + (3 : Int32)) L) (
                      bd (F_X11_more (xs (x3 + (1 : Int32)).toNatClampNeg) v21 (xs (x3 + (3 : Int32)).toNatClampNeg) σ) (fun q23 s22 =>
                        gd (vp_in (x3 + (1 : Int32)) L) (
                          gd (vp_in (x3 + (2 : Int32)) L) (
                            nm (if (xs (x3 + (2 : Int32)).toNatClampNeg) = 0 then (0 : Int32) else (1 : Int32)) (fun v25 =>
                              gd (vp_in (x3 + (3 : Int32)) L) (
                                bd (F_X12_more (xs (x3 + (1 : Int32)).toNatClampNeg) v25 (xs (x3 + (3 : Int32)).toNatClampNeg) s22) (fun q27 s26 =>
                                  if q23 = q27 then (
                                    F_L_law_1106 L xs w18 x3 s26)
                                  else (
                                    some ((0 : Int32), s26)))))))))))))
            else (
              if v2 = (3 : Int32) then (
                gd (vp_in (x3 + (1 : Int32)) L) (
                  gd (vp_in (x3 + (2 : Int32)) L) (
                    bd (F_X11_key (xs (x3 + (1 : Int32)).toNatClampNeg) (xs (x3 + (2 : Int32)).toNatClampNeg) σ) (fun q34 s33 =>
                      gd (vp_in (x3 + (1 : Int32)) L) (
                        gd (vp_in (x3 + (2 : Int32)) L) (
                          bd (F_X12_key (xs (x3 + (1 : Int32)).toNatClampNeg) (xs (x3 + (2 : Int32)).toNatClampNeg) s33) (fun q37 s36 =>
                            if q34 = q37 then (
                              F_L_law_1106 L xs w18 x3 s36)
                            else (
                              some ((0 : Int32), s36)))))))))
              else (
                if v2 = (4 : Int32) then (
                  gd (vp_in (x3 + (1 : Int32)) L) (
                    bd (F_X11_heart (xs (x3 + (1 : Int32)).toNatClampNeg) σ) (fun q42 s41 =>
                      gd (vp_in (x3 + (1 : Int32)) L) (
                        bd (F_X12_heart (xs (x3 + (1 : Int32)).toNatClampNeg) s41) (fun q45 s44 =>
                          if q42 = q45 then (
                            F_L_law_1106 L xs w18 x3 s44)
                          else (
                            some ((0 : Int32), s44)))))))
                else (
                  if v2 = (5 : Int32) then (
                    gd (vp_in (x3 + (1 : Int32)) L) (
                      gd (vp_in (x3 + (2 : Int32)) L) (
                        gd (vp_in (x3 + (3 : Int32)) L) (
                          gd (vp_in (x3 + (4 : Int32)) L) (
                            gd (vp_in (x3 + (5 : Int32)) L) (
                              bd (F_X11_feed (xs (x3 + (1 : Int32)).toNatClampNeg) (xs (x3 + (2 : Int32)).toNatClampNeg) (xs (x3 + (3 : Int32)).toNatClampNeg) (xs (x3 + (4 : Int32)).toNatClampNeg) (xs (x3 + (5 : Int32)).toNatClampNeg) σ) (fun q50 s49 =>
                                gd (vp_in (x3 + (1 : Int32)) L) (
                                  gd (vp_in (x3 + (2 : Int32)) L) (
                                    gd (vp_in (x3 + (3 : Int32)) L) (
                                      gd (vp_in (x3 + (4 : Int32)) L) (
                                        gd (vp_in (x3 + (5 : Int32)) L) (
                                          bd (F_X12_feed (xs (x3 + (1 : Int32)).toNatClampNeg) (xs (x3 + (2 : Int32)).toNatClampNeg) (xs (x3 + (3 : Int32)).toNatClampNeg) (xs (x3 + (4 : Int32)).toNatClampNeg) (xs (x3 + (5 : Int32)).toNatClampNeg) s49) (fun q53 s52 =>
                                            if q50 = q53 then (
                                              F_L_law_1106 L xs w18 x3 s52)
                                            else (
                                              some ((0 : Int32), s52)))))))))))))))
                  else (
                    if v2 = (6 : Int32) then (
                      gd (vp_in (x3 + (1 : Int32)) L) (
                        bd (F_X11_law (xs (x3 + (1 : Int32)).toNatClampNeg) σ) (fun q58 s57 =>
                          gd (vp_in (x3 + (1 : Int32)) L) (
                            bd (F_X12_law (xs (x3 + (1 : Int32)).toNatClampNeg) s57) (fun q61 s60 =>
                              if q58 = q61 then (
                                F_L_law_1106 L xs w18 x3 s60)
                              else (
                                some ((0 : Int32), s60)))))))
                    else (
                      if v2 = (7 : Int32) then (
                        gd (vp_in (x3 + (1 : Int32)) L) (
                          gd (vp_in (x3 + (2 : Int32)) L) (
                            bd (F_X11_tale (xs (x3 + (1 : Int32)).toNatClampNeg) (xs (x3 + (2 : Int32)).toNatClampNeg) σ) (fun q66 s65 =>
                              gd (vp_in (x3 + (1 : Int32)) L) (
                                gd (vp_in (x3 + (2 : Int32)) L) (
                                  bd (F_X12_tale (xs (x3 + (1 : Int32)).toNatClampNeg) (xs (x3 + (2 : Int32)).toNatClampNeg) s65) (fun q69 s68 =>
                                    if q66 = q69 then (
                                      F_L_law_1106 L xs w18 x3 s68)
                                    else (
                                      some ((0 : Int32), s68)))))))))
                      else (
                        if v2 = (8 : Int32) then (
                          gd (vp_in (x3 + (1 : Int32)) L) (
                            bd (F_X11_soonest (xs (x3 + (1 : Int32)).toNatClampNeg) σ) (fun q74 s73 =>
                              gd (vp_in (x3 + (1 : Int32)) L) (
                                bd (F_X12_soonest (xs (x3 + (1 : Int32)).toNatClampNeg) s73) (fun q77 s76 =>
                                  if q74 = q77 then (
                                    F_L_law_1106 L xs w18 x3 s76)
                                  else (
                                    some ((0 : Int32), s76)))))))
                        else (
                          if v2 = (9 : Int32) then (
                            gd (vp_in (x3 + (1 : Int32)) L) (
                              bd (F_X11_plan (xs (x3 + (1 : Int32)).toNatClampNeg) σ) (fun q82 s81 =>
                                gd (vp_in (x3 + (1 : Int32)) L) (
                                  bd (F_X12_plan (xs (x3 + (1 : Int32)).toNatClampNeg) s81) (fun q85 s84 =>
                                    if q82 = q85 then (
                                      F_L_law_1106 L xs w18 x3 s84)
                                    else (
                                      some ((0 : Int32), s84)))))))
                          else (
                            if v2 = (10 : Int32) then (
                              gd (vp_in (x3 + (1 : Int32)) L) (
                                bd (F_X11_missed (xs (x3 + (1 : Int32)).toNatClampNeg) σ) (fun q90 s89 =>
                                  gd (vp_in (x3 + (1 : Int32)) L) (
                                    bd (F_X12_missed (xs (x3 + (1 : Int32)).toNatClampNeg) s89) (fun q93 s92 =>
                                      if q90 = q93 then (
                                        F_L_law_1106 L xs w18 x3 s92)
                                      else (
                                        some ((0 : Int32), s92)))))))
                            else (
                              if v2 = (11 : Int32) then (
                                gd (vp_in (x3 + (1 : Int32)) L) (
                                  gd (vp_in (x3 + (2 : Int32)) L) (
                                    bd (F_X11_hidden (xs (x3 + (1 : Int32)).toNatClampNeg) (xs (x3 + (2 : Int32)).toNatClampNeg) σ) (fun q98 s97 =>
                                      gd (vp_in (x3 + (1 : Int32)) L) (
                                        gd (vp_in (x3 + (2 : Int32)) L) (
                                          bd (F_X12_hidden (xs (x3 + (1 : Int32)).toNatClampNeg) (xs (x3 + (2 : Int32)).toNatClampNeg) s97) (fun q101 s100 =>
                                            if q98 = q101 then (
                                              F_L_law_1106 L xs w18 x3 s100)
                                            else (
                                              some ((0 : Int32), s100)))))))))
                              else (
                                if v2 = (12 : Int32) then (
                                  gd (vp_in (x3 + (1 : Int32)) L) (
                                    bd (F_X11_night (xs (x3 + (1 : Int32)).toNatClampNeg) σ) (fun q106 s105 =>
                                      gd (vp_in (x3 + (1 : Int32)) L) (
                                        bd (F_X12_night (xs (x3 + (1 : Int32)).toNatClampNeg) s105) (fun q109 s108 =>
                                          if q106 = q109 then (
                                            F_L_law_1106 L xs w18 x3 s108)
                                          else (
                                            some ((0 : Int32), s108)))))))
                                else (
                                  if v2 = (13 : Int32) then (
                                    gd (vp_in (x3 + (1 : Int32)) L) (
                                      gd (vp_in (x3 + (2 : Int32)) L) (
                                        bd (F_X11_tried (xs (x3 + (1 : Int32)).toNatClampNeg) (xs (x3 + (2 : Int32)).toNatClampNeg) σ) (fun q114 s113 =>
                                          gd (vp_in (x3 + (1 : Int32)) L) (
                                            gd (vp_in (x3 + (2 : Int32)) L) (
                                              bd (F_X12_tried (xs (x3 + (1 : Int32)).toNatClampNeg) (xs (x3 + (2 : Int32)).toNatClampNeg) s113) (fun q117 s116 =>
                                                if q114 = q117 then (
                                                  F_L_law_1106 L xs w18 x3 s116)
                                                else (
                                                  some ((0 : Int32), s116)))))))))
                                  else (
                                    if v2 = (14 : Int32) then (
                                      gd (vp_in (x3 + (1 : Int32)) L) (
                                        gd (vp_in (x3 + (2 : Int32)) L) (
                                          gd (vp_in (x3 + (3 : Int32)) L) (
                                            bd (F_X11_story (xs (x3 + (1 : Int32)).toNatClampNeg) (xs (x3 + (2 : Int32)).toNatClampNeg) (xs (x3 + (3 : Int32)).toNatClampNeg) σ) (fun q122 s121 =>
                                              gd (vp_in (x3 + (1 : Int32)) L) (
                                                gd (vp_in (x3 + (2 : Int32)) L) (
                                                  gd (vp_in (x3 + (3 : Int32)) L) (
                                                    bd (F_X12_story (xs (x3 + (1 : Int32)).toNatClampNeg) (xs (x3 + (2 : Int32)).toNatClampNeg) (xs (x3 + (3 : Int32)).toNatClampNeg) s121) (fun q125 s124 =>
                                                      if (lg_cmp q122 q125) = 0 then (
                                                        F_L_law_1106 L xs w18 x3 s124)
                                                      else (
                                                        some ((0 : Int32), s124)))))))))))
                                    else (
                                      if v2 = (15 : Int32) then (
                                        gd (vp_in (x3 + (1 : Int32)) L) (
                                          gd (vp_in (x3 + (2 : Int32)) L) (
                                            gd (vp_in (x3 + (3 : Int32)) L) (
                                              bd (F_X11_toDust (xs (x3 + (1 : Int32)).toNatClampNeg) (xs (x3 + (2 : Int32)).toNatClampNeg) (xs (x3 + (3 : Int32)).toNatClampNeg) σ) (fun q130 s129 =>
                                                gd (vp_in (x3 + (1 : Int32)) L) (
                                                  gd (vp_in (x3 + (2 : Int32)) L) (
                                                    gd (vp_in (x3 + (3 : Int32)) L) (
                                                      bd (F_X12_toDust (xs (x3 + (1 : Int32)).toNatClampNeg) (xs (x3 + (2 : Int32)).toNatClampNeg) (xs (x3 + (3 : Int32)).toNatClampNeg) s129) (fun q133 s132 =>
                                                        if (lg_cmp q130 q133) = 0 then (
                                                          F_L_law_1106 L xs w18 x3 s132)
                                                        else (
                                                          some ((0 : Int32), s132)))))))))))
                                      else (
                                        if v2 = (16 : Int32) then (
                                          gd (vp_in (x3 + (1 : Int32)) L) (
                                            gd (vp_in (x3 + (2 : Int32)) L) (
                                              bd (F_X11_lots (xs (x3 + (1 : Int32)).toNatClampNeg) (xs (x3 + (2 : Int32)).toNatClampNeg) σ) (fun q138 s137 =>
                                                gd (vp_in (x3 + (1 : Int32)) L) (
                                                  gd (vp_in (x3 + (2 : Int32)) L) (
                                                    bd (F_X12_lots (xs (x3 + (1 : Int32)).toNatClampNeg) (xs (x3 + (2 : Int32)).toNatClampNeg) s137) (fun q141 s140 =>
                                                      if (lg_cmp q138 q141) = 0 then (
                                                        F_L_law_1106 L xs w18 x3 s140)
                                                      else (
                                                        some ((0 : Int32), s140)))))))))
                                        else (
                                          if v2 = (17 : Int32) then (
                                            gd (vp_in (x3 + (1 : Int32)) L) (
                                              gd (vp_in (x3 + (2 : Int32)) L) (
                                                nm (if (xs (x3 + (2 : Int32)).toNatClampNeg) = 0 then (0 : Int32) else (1 : Int32)) (fun v145 =>
                                                  bd (F_X11_egg (xs (x3 + (1 : Int32)).toNatClampNeg) v145 σ) (fun q147 s146 =>
                                                    gd (vp_in (x3 + (1 : Int32)) L) (
                                                      gd (vp_in (x3 + (2 : Int32)) L) (
                                                        nm (if (xs (x3 + (2 : Int32)).toNatClampNeg) = 0 then (0 : Int32) else (1 : Int32)) (fun v149 =>
                                                          bd (F_X12_egg (xs (x3 + (1 : Int32)).toNatClampNeg) v149 s146) (fun q151 s150 =>
                                                            if q147 = q151 then (
                                                              F_L_law_1106 L xs w18 x3 s150)
                                                            else (
                                                              some ((0 : Int32), s150)))))))))))
                                          else (
                                            if v2 = (18 : Int32) then (
                                              gd (vp_in (x3 + (1 : Int32)) L) (
                                                gd (vp_in (x3 + (2 : Int32)) L) (
                                                  bd (F_X11_test (xs (x3 + (1 : Int32)).toNatClampNeg) (xs (x3 + (2 : Int32)).toNatClampNeg) σ) (fun q158 s157 =>
                                                    gd (vp_in (x3 + (1 : Int32)) L) (
                                                      gd (vp_in (x3 + (2 : Int32)) L) (
                                                        bd (F_X12_test (xs (x3 + (1 : Int32)).toNatClampNeg) (xs (x3 + (2 : Int32)).toNatClampNeg) s157) (fun q161 s160 =>
                                                          if q158 = q161 then (
                                                            F_L_law_1106 L xs w18 x3 s160)
                                                          else (
                                                            some ((0 : Int32), s160)))))))))
                                            else (
                                              if v2 = (19 : Int32) then (
                                                gd (vp_in (x3 + (1 : Int32)) L) (
                                                  bd (F_X11_apart (xs (x3 + (1 : Int32)).toNatClampNeg) σ) (fun q166 s165 =>
                                                    gd (vp_in (x3 + (1 : Int32)) L) (
                                                      bd (F_X12_apart (xs (x3 + (1 : Int32)).toNatClampNeg) s165) (fun q169 s168 =>
                                                        if q166 = q169 then (
                                                          F_L_law_1106 L xs w18 x3 s168)
                                                        else (
                                                          some ((0 : Int32), s168)))))))
                                              else (
                                                if v2 = (20 : Int32) then (
                                                  gd (vp_in (x3 + (1 : Int32)) L) (
                                                    gd (vp_in (x3 + (2 : Int32)) L) (
                                                      bd (F_X11_alike (xs (x3 + (1 : Int32)).toNatClampNeg) (xs (x3 + (2 : Int32)).toNatClampNeg) σ) (fun q174 s173 =>
                                                        gd (vp_in (x3 + (1 : Int32)) L) (
                                                          gd (vp_in (x3 + (2 : Int32)) L) (
                                                            bd (F_X12_alike (xs (x3 + (1 : Int32)).toNatClampNeg) (xs (x3 + (2 : Int32)).toNatClampNeg) s173) (fun q177 s176 =>
                                                              if q174 = q177 then (
                                                                F_L_law_1106 L xs w18 x3 s176)
                                                              else (
                                                                some ((0 : Int32), s176)))))))))
                                                else (
                                                  if v2 = (21 : Int32) then (
                                                    gd (vp_in (x3 + (1 : Int32)) L) (
                                                      gd (vp_in (x3 + (2 : Int32)) L) (
                                                        bd (F_X11_owes (xs (x3 + (1 : Int32)).toNatClampNeg) (xs (x3 + (2 : Int32)).toNatClampNeg) σ) (fun q182 s181 =>
                                                          gd (vp_in (x3 + (1 : Int32)) L) (
                                                            gd (vp_in (x3 + (2 : Int32)) L) (
                                                              bd (F_X12_owes (xs (x3 + (1 : Int32)).toNatClampNeg) (xs (x3 + (2 : Int32)).toNatClampNeg) s181) (fun q185 s184 =>
                                                                if q182 = q185 then (
                                                                  F_L_law_1106 L xs w18 x3 s184)
                                                                else (
                                                                  some ((0 : Int32), s184)))))))))
                                                  else (
                                                    if v2 = (22 : Int32) then (
                                                      gd (vp_in (x3 + (1 : Int32)) L) (
                                                        gd (vp_in (x3 + (2 : Int32)) L) (
                                                          bd (F_X11_rings (xs (x3 + (1 : Int32)).toNatClampNeg) (xs (x3 + (2 : Int32)).toNatClampNeg) σ) (fun q190 s189 =>
                                                            gd (vp_in (x3 + (1 : Int32)) L) (
                                                              gd (vp_in (x3 + (2 : Int32)) L) (
                                                                bd (F_X12_rings (xs (x3 + (1 : Int32)).toNatClampNeg) (xs (x3 + (2 : Int32)).toNatClampNeg) s189) (fun q193 s192 =>
                                                                  if q190 = q193 then (
                                                                    F_L_law_1106 L xs w18 x3 s192)
                                                                  else (
                                                                    some ((0 : Int32), s192)))))))))
                                                    else (
                                                      if v2 = (23 : Int32) then (
                                                        gd (vp_in (x3 + (1 : Int32)) L) (
                                                          gd (vp_in (x3 + (2 : Int32)) L) (
                                                            bd (F_X11_placeIs (xs (x3 + (1 : Int32)).toNatClampNeg) (xs (x3 + (2 : Int32)).toNatClampNeg) σ) (fun q198 s197 =>
                                                              gd (vp_in (x3 + (1 : Int32)) L) (
                                                                gd (vp_in (x3 + (2 : Int32)) L) (
                                                                  bd (F_X12_placeIs (xs (x3 + (1 : Int32)).toNatClampNeg) (xs (x3 + (2 : Int32)).toNatClampNeg) s197) (fun q201 s200 =>
                                                                    if q198 = q201 then (
                                                                      F_L_law_1106 L xs w18 x3 s200)
                                                                    else (
                                                                      some ((0 : Int32), s200)))))))))
                                                      else (
                                                        if v2 = (24 : Int32) then (
                                                          gd (vp_in (x3 + (1 : Int32)) L) (
                                                            bd (F_X11_seed (xs (x3 + (1 : Int32)).toNatClampNeg) σ) (fun q206 s205 =>
                                                              gd (vp_in (x3 + (1 : Int32)) L) (
                                                                bd (F_X12_seed (xs (x3 + (1 : Int32)).toNatClampNeg) s205) (fun q209 s208 =>
                                                                  if q206 = q209 then (
                                                                    F_L_law_1106 L xs w18 x3 s208)
                                                                  else (
                                                                    some ((0 : Int32), s208)))))))
                                                        else (
                                                          if v2 = (25 : Int32) then (
                                                            bd (F_X11_keep σ) (fun q214 s213 =>
                                                              bd (F_X12_keep s213) (fun q217 s216 =>
                                                                if q214 = q217 then (
                                                                  F_L_law_1106 L xs w18 x3 s216)
                                                                else (
                                                                  some ((0 : Int32), s216)))))
                                                          else (
                                                            if v2 = (26 : Int32) then (
                                                              bd (F_X11_undo σ) (fun q222 s221 =>
                                                                bd (F_X12_undo s221) (fun q225 s224 =>
                                                                  if q222 = q225 then (
                                                                    F_L_law_1106 L xs w18 x3 s224)
                                                                  else (
                                                                    some ((0 : Int32), s224)))))
                                                            else (
                                                              if v2 = (27 : Int32) then (
                                                                gd (vp_in (x3 + (1 : Int32)) L) (
                                                                  bd (F_X11_check (xs (x3 + (1 : Int32)).toNatClampNeg) σ) (fun q230 s229 =>
                                                                    gd (vp_in (x3 + (1 : Int32)) L) (
                                                                      bd (F_X12_check (xs (x3 + (1 : Int32)).toNatClampNeg) s229) (fun q233 s232 =>
                                                                        if q230 = q233 then (
                                                                          F_L_law_1106 L xs w18 x3 s232)
                                                                        else (
                                                                          some ((0 : Int32), s232)))))))
                                                              else (
                                                                if v2 = (28 : Int32) then (
                                                                  gd (vp_in (x3 + (1 : Int32)) L) (
                                                                    bd (F_X11_count (xs (x3 + (1 : Int32)).toNatClampNeg) σ) (fun q238 s237 =>
                                                                      gd (vp_in (x3 + (1 : Int32)) L) (
                                                                        bd (F_X12_count (xs (x3 + (1 : Int32)).toNatClampNeg) s237) (fun q241 s240 =>
                                                                          if q238 = q241 then (
                                                                            F_L_law_1106 L xs w18 x3 s240)
                                                                          else (
                                                                            some ((0 : Int32), s240)))))))
                                                                else (
                                                                  F_L_law_1106 L xs w18 x3 σ))))))))))))))))))))))))))))))))
set_option maxHeartbeats 4000000 in
set_option maxRecDepth 100000 in
theorem b_L_law_18 {G : zG} {C : zC} {b : Nat} {τ : zSt} (hR : zRL G C b) (L : Nat) (xs : Nat → Int32) (w18 : (Int32 × zSt) → Option (Int32 × zSt)) (hw18 : ∀ (x3 : Int32) (σ : zSt), w18 (x3, σ) = some ((1 : Int32), τ) → zAW G 2000 RL cL_law 4 C 18 [(0, .ref b), (1, .ref (zad G 0)), (2, .ref (zad G 69)), (3, .int x3)] [] σ) (hX : zX G C b L xs) (x3 : Int32) (σ : zSt) (h : F_L_law_18 L xs w18 x3 σ = some ((1 : Int32), τ)) : zAW G 2000 RL cL_law 4 C 18 [(0, .ref b), (1, .ref (zad G 0)), (2, .ref (zad G 69)), (3, .int x3)] [] σ := by
  unfold F_L_law_18 at h
  refine z_iload e_L_law_18 3 rfl ?_
  refine z_aload e_L_law_19 0 rfl ?_
  refine z_scrlen hX e_L_law_20 ?_
  refine z_ic e_L_law_21 ?_
  refine z_isub e_L_law_23 ?_
  refine z_icmp_gt e_L_law_24 h (fun c1 h => ?_) (fun c1 h => ?_)
  · refine z_ic e_L_law_1112 ?_
    cases h
    exact z_lawret hR e_L_law_1113
  · refine z_aload e_L_law_27 0 rfl ?_
    refine z_iload e_L_law_28 3 rfl ?_
    refine z_scr hX e_L_law_29 h (fun h => ?_)
    refine z_ic e_L_law_30 ?_
    refine z_iand e_L_law_32 ?_
    refine z_nmI h (fun v2 h => ?_)
    by_cases c3 : v2 = (0 : Int32)
    · rw [if_pos c3] at h
      refine z_tin (tgt := 164) e_L_law_33 (0 : Int32) c3 (131) (by decide +kernel) ?_
      refine z_aload e_L_law_164 1 rfl ?_
      refine z_aload e_L_law_165 0 rfl ?_
      refine z_iload e_L_law_166 3 rfl ?_
      refine z_ic e_L_law_167 ?_
      refine z_iadd e_L_law_168 ?_
      refine z_scr hX e_L_law_169 h (fun h => ?_)
      refine z_aload e_L_law_170 0 rfl ?_
      refine z_iload e_L_law_171 3 rfl ?_
      refine z_ic e_L_law_172 ?_
      refine z_iadd e_L_law_173 ?_
      refine z_scr hX e_L_law_174 h (fun h => ?_)
      refine z_aload e_L_law_175 0 rfl ?_
      refine z_iload e_L_law_176 3 rfl ?_
      refine z_ic e_L_law_177 ?_
      refine z_iadd e_L_law_178 ?_
      refine z_scr hX e_L_law_179 h (fun h => ?_)
      obtain ⟨q5, s4, e6, h⟩ := bd_e h
      refine z_callVi (c0 := 0) (As := [.int (xs (x3 + (1 : Int32)).toNatClampNeg), .int (xs (x3 + (2 : Int32)).toNatClampNeg), .int (xs (x3 + (3 : Int32)).toNatClampNeg)]) (rest := []) lk_L_13 ob_0 e_L_law_180 (m_X11_way G (xs (x3 + (1 : Int32)).toNatClampNeg) (xs (x3 + (2 : Int32)).toNatClampNeg) (xs (x3 + (3 : Int32)).toNatClampNeg) σ _ _ e6) (by decide) rfl (Nat.le_of_ble_eq_true rfl) ?_
      refine z_aload e_L_law_183 2 rfl ?_
      refine z_aload e_L_law_184 0 rfl ?_
      refine z_iload e_L_law_185 3 rfl ?_
      refine z_ic e_L_law_186 ?_
      refine z_iadd e_L_law_187 ?_
      refine z_scr hX e_L_law_188 h (fun h => ?_)
      refine z_aload e_L_law_189 0 rfl ?_
      refine z_iload e_L_law_190 3 rfl ?_
      refine z_ic e_L_law_191 ?_
      refine z_iadd e_L_law_192 ?_
      refine z_scr hX e_L_law_193 h (fun h => ?_)
      refine z_aload e_L_law_194 0 rfl ?_
      refine z_iload e_L_law_195 3 rfl ?_
      refine z_ic e_L_law_196 ?_
      refine z_iadd e_L_law_197 ?_
      refine z_scr hX e_L_law_198 h (fun h => ?_)
      obtain ⟨q8, s7, e9, h⟩ := bd_e h
      refine z_callVi (c0 := 69) (As := [.int (xs (x3 + (1 : Int32)).toNatClampNeg), .int (xs (x3 + (2 : Int32)).toNatClampNeg), .int (xs (x3 + (3 : Int32)).toNatClampNeg)]) (rest := [.int q5]) lk_L_17 ob_69 e_L_law_199 (m_X12_way G (xs (x3 + (1 : Int32)).toNatClampNeg) (xs (x3 + (2 : Int32)).toNatClampNeg) (xs (x3 + (3 : Int32)).toNatClampNeg) s4 _ _ e9) (by decide) rfl (Nat.le_of_ble_eq_true rfl) ?_
      refine z_icmp_eq e_L_law_202 h (fun c10 h => ?_) (fun c10 h => ?_)
      · exact z_sub [0, 1, 2, 3] rfl (p_L_law_1106 hR L xs w18 x3 hw18 hX s7 h)
      · refine z_ic e_L_law_205 ?_
        exact absurd (congrArg Prod.fst (Option.some.inj h)) (show ¬ (0 : Int32) = 1 by decide)
    · rw [if_neg c3] at h
      by_cases c12 : v2 = (1 : Int32)
      · rw [if_pos c12] at h
        refine z_tin (tgt := 207) e_L_law_33 (1 : Int32) c12 (174) (by decide +kernel) ?_
        refine z_aload e_L_law_207 1 rfl ?_
        refine z_aload e_L_law_208 0 rfl ?_
        refine z_iload e_L_law_209 3 rfl ?_
        refine z_ic e_L_law_210 ?_
        refine z_iadd e_L_law_211 ?_
        refine z_scr hX e_L_law_212 h (fun h => ?_)
        refine z_aload e_L_law_213 0 rfl ?_
        refine z_iload e_L_law_214 3 rfl ?_
        refine z_ic e_L_law_215 ?_
        refine z_iadd e_L_law_216 ?_
        refine z_scr hX e_L_law_217 h (fun h => ?_)
        refine z_aload e_L_law_218 0 rfl ?_
        refine z_iload e_L_law_219 3 rfl ?_
        refine z_ic e_L_law_220 ?_
        refine z_iadd e_L_law_221 ?_
        refine z_scr hX e_L_law_222 h (fun h => ?_)
        refine z_aload e_L_law_223 0 rfl ?_
        refine z_iload e_L_law_224 3 rfl ?_
        refine z_ic e_L_law_225 ?_
        refine z_iadd e_L_law_226 ?_
        refine z_scr hX e_L_law_227 h (fun h => ?_)
        obtain ⟨q14, s13, e15, h⟩ := bd_e h
        refine z_callVi (c0 := 0) (As := [.int (xs (x3 + (1 : Int32)).toNatClampNeg), .int (xs (x3 + (2 : Int32)).toNatClampNeg), .int (xs (x3 + (3 : Int32)).toNatClampNeg), .int (xs (x3 + (4 : Int32)).toNatClampNeg)]) (rest := []) lk_L_18 ob_0 e_L_law_228 (m_X11_place G (xs (x3 + (1 : Int32)).toNatClampNeg) (xs (x3 + (2 : Int32)).toNatClampNeg) (xs (x3 + (3 : Int32)).toNatClampNeg) (xs (x3 + (4 : Int32)).toNatClampNeg) σ _ _ e15) (by decide) rfl (Nat.le_of_ble_eq_true rfl) ?_
        refine z_aload e_L_law_231 2 rfl ?_
        refine z_aload e_L_law_232 0 rfl ?_
        refine z_iload e_L_law_233 3 rfl ?_
        refine z_ic e_L_law_234 ?_
        refine z_iadd e_L_law_235 ?_
        refine z_scr hX e_L_law_236 h (fun h => ?_)
        refine z_aload e_L_law_237 0 rfl ?_
        refine z_iload e_L_law_238 3 rfl ?_
        refine z_ic e_L_law_239 ?_
        refine z_iadd e_L_law_240 ?_
        refine z_scr hX e_L_law_241 h (fun h => ?_)
        refine z_aload e_L_law_242 0 rfl ?_
        refine z_iload e_L_law_243 3 rfl ?_
        refine z_ic e_L_law_244 ?_
        refine z_iadd e_L_law_245 ?_
        refine z_scr hX e_L_law_246 h (fun h => ?_)
        refine z_aload e_L_law_247 0 rfl ?_
        refine z_iload e_L_law_248 3 rfl ?_
        refine z_ic e_L_law_249 ?_
        refine z_iadd e_L_law_250 ?_
        refine z_scr hX e_L_law_251 h (fun h => ?_)
        obtain ⟨q17, s16, e18, h⟩ := bd_e h
        refine z_callVi (c0 := 69) (As := [.int (xs (x3 + (1 : Int32)).toNatClampNeg), .int (xs (x3 + (2 : Int32)).toNatClampNeg), .int (xs (x3 + (3 : Int32)).toNatClampNeg), .int (xs (x3 + (4 : Int32)).toNatClampNeg)]) (rest := [.int q14]) lk_L_22 ob_69 e_L_law_252 (m_X12_place G (xs (x3 + (1 : Int32)).toNatClampNeg) (xs (x3 + (2 : Int32)).toNatClampNeg) (xs (x3 + (3 : Int32)).toNatClampNeg) (xs (x3 + (4 : Int32)).toNatClampNeg) s13 _ _ e18) (by decide) rfl (Nat.le_of_ble_eq_true rfl) ?_
        refine z_icmp_eq e_L_law_255 h (fun c19 h => ?_) (fun c19 h => ?_)
        · exact z_sub [0, 1, 2, 3] rfl (p_L_law_1106 hR L xs w18 x3 hw18 hX s16 h)
        · refine z_ic e_L_law_258 ?_
          exact absurd (congrArg Prod.fst (Option.some.inj h)) (show ¬ (0 : Int32) = 1 by decide)
      · rw [if_neg c12] at h
        by_cases c20 : v2 = (2 : Int32)
        · rw [if_pos c20] at h
          refine z_tin (tgt := 260) e_L_law_33 (2 : Int32) c20 (227) (by decide +kernel) ?_
          refine z_aload e_L_law_260 1 rfl ?_
          refine z_aload e_L_law_261 0 rfl ?_
          refine z_iload e_L_law_262 3 rfl ?_
          refine z_ic e_L_law_263 ?_
          refine z_iadd e_L_law_264 ?_
          refine z_scr hX e_L_law_265 h (fun h => ?_)
          refine z_aload e_L_law_266 0 rfl ?_
          refine z_iload e_L_law_267 3 rfl ?_
          refine z_ic e_L_law_268 ?_
          refine z_iadd e_L_law_269 ?_
          refine z_scr hX e_L_law_270 h (fun h => ?_)
          obtain ⟨v21, ev21, h⟩ := nm_i h
          have jv21 : zAW G 2000 RL cL_law 4 C 279 [(0, .ref b), (1, .ref (zad G 0)), (2, .ref (zad G 69)), (3, .int x3)] [.int v21, .int (xs (x3 + (1 : Int32)).toNatClampNeg), .ref (zad G 0)] σ := by
            refine z_aload e_L_law_279 0 rfl ?_
            refine z_iload e_L_law_280 3 rfl ?_
            refine z_ic e_L_law_281 ?_
            refine z_iadd e_L_law_282 ?_
            refine z_scr hX e_L_law_283 h (fun h => ?_)
            obtain ⟨q23, s22, e24, h⟩ := bd_e h
            refine z_callVi (c0 := 0) (As := [.int (xs (x3 + (1 : Int32)).toNatClampNeg), .int v21, .int (xs (x3 + (3 : Int32)).toNatClampNeg)]) (rest := []) lk_L_23 ob_0 e_L_law_284 (m_X11_more G (xs (x3 + (1 : Int32)).toNatClampNeg) v21 (xs (x3 + (3 : Int32)).toNatClampNeg) σ _ _ e24) (by decide) rfl (Nat.le_of_ble_eq_true rfl) ?_
            refine z_aload e_L_law_287 2 rfl ?_
            refine z_aload e_L_law_288 0 rfl ?_
            refine z_iload e_L_law_289 3 rfl ?_
            refine z_ic e_L_law_290 ?_
            refine z_iadd e_L_law_291 ?_
            refine z_scr hX e_L_law_292 h (fun h => ?_)
            refine z_aload e_L_law_293 0 rfl ?_
            refine z_iload e_L_law_294 3 rfl ?_
            refine z_ic e_L_law_295 ?_
            refine z_iadd e_L_law_296 ?_
            refine z_scr hX e_L_law_297 h (fun h => ?_)
            obtain ⟨v25, ev25, h⟩ := nm_i h
            have jv25 : zAW G 2000 RL cL_law 4 C 306 [(0, .ref b), (1, .ref (zad G 0)), (2, .ref (zad G 69)), (3, .int x3)] [.int v25, .int (xs (x3 + (1 : Int32)).toNatClampNeg), .ref (zad G 69), .int q23] s22 := by
              refine z_aload e_L_law_306 0 rfl ?_
              refine z_iload e_L_law_307 3 rfl ?_
              refine z_ic e_L_law_308 ?_
              refine z_iadd e_L_law_309 ?_
              refine z_scr hX e_L_law_310 h (fun h => ?_)
              obtain ⟨q27, s26, e28, h⟩ := bd_e h
              refine z_callVi (c0 := 69) (As := [.int (xs (x3 + (1 : Int32)).toNatClampNeg), .int v25, .int (xs (x3 + (3 : Int32)).toNatClampNeg)]) (rest := [.int q23]) lk_L_27 ob_69 e_L_law_311 (m_X12_more G (xs (x3 + (1 : Int32)).toNatClampNeg) v25 (xs (x3 + (3 : Int32)).toNatClampNeg) s22 _ _ e28) (by decide) rfl (Nat.le_of_ble_eq_true rfl) ?_
              refine z_icmp_eq e_L_law_314 h (fun c29 h => ?_) (fun c29 h => ?_)
              · exact z_sub [0, 1, 2, 3] rfl (p_L_law_1106 hR L xs w18 x3 hw18 hX s26 h)
              · refine z_ic e_L_law_317 ?_
                exact absurd (congrArg Prod.fst (Option.some.inj h)) (show ¬ (0 : Int32) = 1 by decide)
            refine y_if_eq e_L_law_298 (fun c30 => ?_) (fun c30 => ?_)
            · refine z_ic e_L_law_305 ?_
              rw [if_pos c30] at ev25
              subst ev25
              exact z_sub [0, 1, 2, 3] rfl jv25
            · refine z_ic e_L_law_301 ?_
              refine z_goto e_L_law_302 ?_
              rw [if_neg c30] at ev25
              subst ev25
              exact z_sub [0, 1, 2, 3] rfl jv25
          refine y_if_eq e_L_law_271 (fun c31 => ?_) (fun c31 => ?_)
          · refine z_ic e_L_law_278 ?_
            rw [if_pos c31] at ev21
            subst ev21
            exact z_sub [0, 1, 2, 3] rfl jv21
          · refine z_ic e_L_law_274 ?_
            refine z_goto e_L_law_275 ?_
            rw [if_neg c31] at ev21
            subst ev21
            exact z_sub [0, 1, 2, 3] rfl jv21
        · rw [if_neg c20] at h
          by_cases c32 : v2 = (3 : Int32)
          · rw [if_pos c32] at h
            refine z_tin (tgt := 319) e_L_law_33 (3 : Int32) c32 (286) (by decide +kernel) ?_
            refine z_aload e_L_law_319 1 rfl ?_
            refine z_aload e_L_law_320 0 rfl ?_
            refine z_iload e_L_law_321 3 rfl ?_
            refine z_ic e_L_law_322 ?_
            refine z_iadd e_L_law_323 ?_
            refine z_scr hX e_L_law_324 h (fun h => ?_)
            refine z_aload e_L_law_325 0 rfl ?_
            refine z_iload e_L_law_326 3 rfl ?_
            refine z_ic e_L_law_327 ?_
            refine z_iadd e_L_law_328 ?_
            refine z_scr hX e_L_law_329 h (fun h => ?_)
            obtain ⟨q34, s33, e35, h⟩ := bd_e h
            refine z_callVi (c0 := 0) (As := [.int (xs (x3 + (1 : Int32)).toNatClampNeg), .int (xs (x3 + (2 : Int32)).toNatClampNeg)]) (rest := []) lk_L_28 ob_0 e_L_law_330 (m_X11_key G (xs (x3 + (1 : Int32)).toNatClampNeg) (xs (x3 + (2 : Int32)).toNatClampNeg) σ _ _ e35) (by decide) rfl (Nat.le_of_ble_eq_true rfl) ?_
            refine z_aload e_L_law_333 2 rfl ?_
            refine z_aload e_L_law_334 0 rfl ?_
            refine z_iload e_L_law_335 3 rfl ?_
            refine z_ic e_L_law_336 ?_
            refine z_iadd e_L_law_337 ?_
            refine z_scr hX e_L_law_338 h (fun h => ?_)
            refine z_aload e_L_law_339 0 rfl ?_
            refine z_iload e_L_law_340 3 rfl ?_
            refine z_ic e_L_law_341 ?_
            refine z_iadd e_L_law_342 ?_
            refine z_scr hX e_L_law_343 h (fun h => ?_)
            obtain ⟨q37, s36, e38, h⟩ := bd_e h
            refine z_callVi (c0 := 69) (As := [.int (xs (x3 + (1 : Int32)).toNatClampNeg), .int (xs (x3 + (2 : Int32)).toNatClampNeg)]) (rest := [.int q34]) lk_L_32 ob_69 e_L_law_344 (m_X12_key G (xs (x3 + (1 : Int32)).toNatClampNeg) (xs (x3 + (2 : Int32)).toNatClampNeg) s33 _ _ e38) (by decide) rfl (Nat.le_of_ble_eq_true rfl) ?_
            refine z_icmp_eq e_L_law_347 h (fun c39 h => ?_) (fun c39 h => ?_)
            · exact z_sub [0, 1, 2, 3] rfl (p_L_law_1106 hR L xs w18 x3 hw18 hX s36 h)
            · refine z_ic e_L_law_350 ?_
              exact absurd (congrArg Prod.fst (Option.some.inj h)) (show ¬ (0 : Int32) = 1 by decide)
          · rw [if_neg c32] at h
            by_cases c40 : v2 = (4 : Int32)
            · rw [if_pos c40] at h
              refine z_tin (tgt := 352) e_L_law_33 (4 : Int32) c40 (319) (by decide +kernel) ?_
              refine z_aload e_L_law_352 1 rfl ?_
              refine z_aload e_L_law_353 0 rfl ?_
              refine z_iload e_L_law_354 3 rfl ?_
              refine z_ic e_L_law_355 ?_
              refine z_iadd e_L_law_356 ?_
              refine z_scr hX e_L_law_357 h (fun h => ?_)
              obtain ⟨q42, s41, e43, h⟩ := bd_e h
              refine z_callVi (c0 := 0) (As := [.int (xs (x3 + (1 : Int32)).toNatClampNeg)]) (rest := []) lk_L_33 ob_0 e_L_law_358 (m_X11_heart G (xs (x3 + (1 : Int32)).toNatClampNeg) σ _ _ e43) (by decide) rfl (Nat.le_of_ble_eq_true rfl) ?_
              refine z_aload e_L_law_361 2 rfl ?_
              refine z_aload e_L_law_362 0 rfl ?_
              refine z_iload e_L_law_363 3 rfl ?_
              refine z_ic e_L_law_364 ?_
              refine z_iadd e_L_law_365 ?_
              refine z_scr hX e_L_law_366 h (fun h => ?_)
              obtain ⟨q45, s44, e46, h⟩ := bd_e h
              refine z_callVi (c0 := 69) (As := [.int (xs (x3 + (1 : Int32)).toNatClampNeg)]) (rest := [.int q42]) lk_L_37 ob_69 e_L_law_367 (m_X12_heart G (xs (x3 + (1 : Int32)).toNatClampNeg) s41 _ _ e46) (by decide) rfl (Nat.le_of_ble_eq_true rfl) ?_
              refine z_icmp_eq e_L_law_370 h (fun c47 h => ?_) (fun c47 h => ?_)
              · exact z_sub [0, 1, 2, 3] rfl (p_L_law_1106 hR L xs w18 x3 hw18 hX s44 h)
              · refine z_ic e_L_law_373 ?_
                exact absurd (congrArg Prod.fst (Option.some.inj h)) (show ¬ (0 : Int32) = 1 by decide)
            · rw [if_neg c40] at h
              by_cases c48 : v2 = (5 : Int32)
              · rw [if_pos c48] at h
                refine z_tin (tgt := 375) e_L_law_33 (5 : Int32) c48 (342) (by decide +kernel) ?_
                refine z_aload e_L_law_375 1 rfl ?_
                refine z_aload e_L_law_376 0 rfl ?_
                refine z_iload e_L_law_377 3 rfl ?_
                refine z_ic e_L_law_378 ?_
                refine z_iadd e_L_law_379 ?_
                refine z_scr hX e_L_law_380 h (fun h => ?_)
                refine z_aload e_L_law_381 0 rfl ?_
                refine z_iload e_L_law_382 3 rfl ?_
                refine z_ic e_L_law_383 ?_
                refine z_iadd e_L_law_384 ?_
                refine z_scr hX e_L_law_385 h (fun h => ?_)
                refine z_aload e_L_law_386 0 rfl ?_
                refine z_iload e_L_law_387 3 rfl ?_
                refine z_ic e_L_law_388 ?_
                refine z_iadd e_L_law_389 ?_
                refine z_scr hX e_L_law_390 h (fun h => ?_)
                refine z_aload e_L_law_391 0 rfl ?_
                refine z_iload e_L_law_392 3 rfl ?_
                refine z_ic e_L_law_393 ?_
                refine z_iadd e_L_law_394 ?_
                refine z_scr hX e_L_law_395 h (fun h => ?_)
                refine z_aload e_L_law_396 0 rfl ?_
                refine z_iload e_L_law_397 3 rfl ?_
                refine z_ic e_L_law_398 ?_
                refine z_iadd e_L_law_399 ?_
                refine z_scr hX e_L_law_400 h (fun h => ?_)
                obtain ⟨q50, s49, e51, h⟩ := bd_e h
                refine z_callVi (c0 := 0) (As := [.int (xs (x3 + (1 : Int32)).toNatClampNeg), .int (xs (x3 + (2 : Int32)).toNatClampNeg), .int (xs (x3 + (3 : Int32)).toNatClampNeg), .int (xs (x3 + (4 : Int32)).toNatClampNeg), .int (xs (x3 + (5 : Int32)).toNatClampNeg)]) (rest := []) lk_L_38 ob_0 e_L_law_401 (m_X11_feed G (xs (x3 + (1 : Int32)).toNatClampNeg) (xs (x3 + (2 : Int32)).toNatClampNeg) (xs (x3 + (3 : Int32)).toNatClampNeg) (xs (x3 + (4 : Int32)).toNatClampNeg) (xs (x3 + (5 : Int32)).toNatClampNeg) σ _ _ e51) (by decide) rfl (Nat.le_of_ble_eq_true rfl) ?_
                refine z_aload e_L_law_404 2 rfl ?_
                refine z_aload e_L_law_405 0 rfl ?_
                refine z_iload e_L_law_406 3 rfl ?_
                refine z_ic e_L_law_407 ?_
                refine z_iadd e_L_law_408 ?_
                refine z_scr hX e_L_law_409 h (fun h => ?_)
                refine z_aload e_L_law_410 0 rfl ?_
                refine z_iload e_L_law_411 3 rfl ?_
                refine z_ic e_L_law_412 ?_
                refine z_iadd e_L_law_413 ?_
                refine z_scr hX e_L_law_414 h (fun h => ?_)
                refine z_aload e_L_law_415 0 rfl ?_
                refine z_iload e_L_law_416 3 rfl ?_
                refine z_ic e_L_law_417 ?_
                refine z_iadd e_L_law_418 ?_
                refine z_scr hX e_L_law_419 h (fun h => ?_)
                refine z_aload e_L_law_420 0 rfl ?_
                refine z_iload e_L_law_421 3 rfl ?_
                refine z_ic e_L_law_422 ?_
                refine z_iadd e_L_law_423 ?_
                refine z_scr hX e_L_law_424 h (fun h => ?_)
                refine z_aload e_L_law_425 0 rfl ?_
                refine z_iload e_L_law_426 3 rfl ?_
                refine z_ic e_L_law_427 ?_
                refine z_iadd e_L_law_428 ?_
                refine z_scr hX e_L_law_429 h (fun h => ?_)
                obtain ⟨q53, s52, e54, h⟩ := bd_e h
                refine z_callVi (c0 := 69) (As := [.int (xs (x3 + (1 : Int32)).toNatClampNeg), .int (xs (x3 + (2 : Int32)).toNatClampNeg), .int (xs (x3 + (3 : Int32)).toNatClampNeg), .int (xs (x3 + (4 : Int32)).toNatClampNeg), .int (xs (x3 + (5 : Int32)).toNatClampNeg)]) (rest := [.int q50]) lk_L_42 ob_69 e_L_law_430 (m_X12_feed G (xs (x3 + (1 : Int32)).toNatClampNeg) (xs (x3 + (2 : Int32)).toNatClampNeg) (xs (x3 + (3 : Int32)).toNatClampNeg) (xs (x3 + (4 : Int32)).toNatClampNeg) (xs (x3 + (5 : Int32)).toNatClampNeg) s49 _ _ e54) (by decide) rfl (Nat.le_of_ble_eq_true rfl) ?_
                refine z_icmp_eq e_L_law_433 h (fun c55 h => ?_) (fun c55 h => ?_)
                · exact z_sub [0, 1, 2, 3] rfl (p_L_law_1106 hR L xs w18 x3 hw18 hX s52 h)
                · refine z_ic e_L_law_436 ?_
                  exact absurd (congrArg Prod.fst (Option.some.inj h)) (show ¬ (0 : Int32) = 1 by decide)
              · rw [if_neg c48] at h
                by_cases c56 : v2 = (6 : Int32)
                · rw [if_pos c56] at h
                  refine z_tin (tgt := 438) e_L_law_33 (6 : Int32) c56 (405) (by decide +kernel) ?_
                  refine z_aload e_L_law_438 1 rfl ?_
                  refine z_aload e_L_law_439 0 rfl ?_
                  refine z_iload e_L_law_440 3 rfl ?_
                  refine z_ic e_L_law_441 ?_
                  refine z_iadd e_L_law_442 ?_
                  refine z_scr hX e_L_law_443 h (fun h => ?_)
                  obtain ⟨q58, s57, e59, h⟩ := bd_e h
                  refine z_callVi (c0 := 0) (As := [.int (xs (x3 + (1 : Int32)).toNatClampNeg)]) (rest := []) lk_L_43 ob_0 e_L_law_444 (m_X11_law G (xs (x3 + (1 : Int32)).toNatClampNeg) σ _ _ e59) (by decide) rfl (Nat.le_of_ble_eq_true rfl) ?_
                  refine z_aload e_L_law_447 2 rfl ?_
                  refine z_aload e_L_law_448 0 rfl ?_
                  refine z_iload e_L_law_449 3 rfl ?_
                  refine z_ic e_L_law_450 ?_
                  refine z_iadd e_L_law_451 ?_
                  refine z_scr hX e_L_law_452 h (fun h => ?_)
                  obtain ⟨q61, s60, e62, h⟩ := bd_e h
                  refine z_callVi (c0 := 69) (As := [.int (xs (x3 + (1 : Int32)).toNatClampNeg)]) (rest := [.int q58]) lk_L_47 ob_69 e_L_law_453 (m_X12_law G (xs (x3 + (1 : Int32)).toNatClampNeg) s57 _ _ e62) (by decide) rfl (Nat.le_of_ble_eq_true rfl) ?_
                  refine z_icmp_eq e_L_law_456 h (fun c63 h => ?_) (fun c63 h => ?_)
                  · exact z_sub [0, 1, 2, 3] rfl (p_L_law_1106 hR L xs w18 x3 hw18 hX s60 h)
                  · refine z_ic e_L_law_459 ?_
                    exact absurd (congrArg Prod.fst (Option.some.inj h)) (show ¬ (0 : Int32) = 1 by decide)
                · rw [if_neg c56] at h
                  by_cases c64 : v2 = (7 : Int32)
                  · rw [if_pos c64] at h
                    refine z_tin (tgt := 461) e_L_law_33 (7 : Int32) c64 (428) (by decide +kernel) ?_
                    refine z_aload e_L_law_461 1 rfl ?_
                    refine z_aload e_L_law_462 0 rfl ?_
                    refine z_iload e_L_law_463 3 rfl ?_
                    refine z_ic e_L_law_464 ?_
                    refine z_iadd e_L_law_465 ?_
                    refine z_scr hX e_L_law_466 h (fun h => ?_)
                    refine z_aload e_L_law_467 0 rfl ?_
                    refine z_iload e_L_law_468 3 rfl ?_
                    refine z_ic e_L_law_469 ?_
                    refine z_iadd e_L_law_470 ?_
                    refine z_scr hX e_L_law_471 h (fun h => ?_)
                    obtain ⟨q66, s65, e67, h⟩ := bd_e h
                    refine z_callVi (c0 := 0) (As := [.int (xs (x3 + (1 : Int32)).toNatClampNeg), .int (xs (x3 + (2 : Int32)).toNatClampNeg)]) (rest := []) lk_L_48 ob_0 e_L_law_472 (m_X11_tale G (xs (x3 + (1 : Int32)).toNatClampNeg) (xs (x3 + (2 : Int32)).toNatClampNeg) σ _ _ e67) (by decide) rfl (Nat.le_of_ble_eq_true rfl) ?_
                    refine z_aload e_L_law_475 2 rfl ?_
                    refine z_aload e_L_law_476 0 rfl ?_
                    refine z_iload e_L_law_477 3 rfl ?_
                    refine z_ic e_L_law_478 ?_
                    refine z_iadd e_L_law_479 ?_
                    refine z_scr hX e_L_law_480 h (fun h => ?_)
                    refine z_aload e_L_law_481 0 rfl ?_
                    refine z_iload e_L_law_482 3 rfl ?_
                    refine z_ic e_L_law_483 ?_
                    refine z_iadd e_L_law_484 ?_
                    refine z_scr hX e_L_law_485 h (fun h => ?_)
                    obtain ⟨q69, s68, e70, h⟩ := bd_e h
                    refine z_callVi (c0 := 69) (As := [.int (xs (x3 + (1 : Int32)).toNatClampNeg), .int (xs (x3 + (2 : Int32)).toNatClampNeg)]) (rest := [.int q66]) lk_L_52 ob_69 e_L_law_486 (m_X12_tale G (xs (x3 + (1 : Int32)).toNatClampNeg) (xs (x3 + (2 : Int32)).toNatClampNeg) s65 _ _ e70) (by decide) rfl (Nat.le_of_ble_eq_true rfl) ?_
                    refine z_icmp_eq e_L_law_489 h (fun c71 h => ?_) (fun c71 h => ?_)
                    · exact z_sub [0, 1, 2, 3] rfl (p_L_law_1106 hR L xs w18 x3 hw18 hX s68 h)
                    · refine z_ic e_L_law_492 ?_
                      exact absurd (congrArg Prod.fst (Option.some.inj h)) (show ¬ (0 : Int32) = 1 by decide)
                  · rw [if_neg c64] at h
                    by_cases c72 : v2 = (8 : Int32)
                    · rw [if_pos c72] at h
                      refine z_tin (tgt := 494) e_L_law_33 (8 : Int32) c72 (461) (by decide +kernel) ?_
                      refine z_aload e_L_law_494 1 rfl ?_
                      refine z_aload e_L_law_495 0 rfl ?_
                      refine z_iload e_L_law_496 3 rfl ?_
                      refine z_ic e_L_law_497 ?_
                      refine z_iadd e_L_law_498 ?_
                      refine z_scr hX e_L_law_499 h (fun h => ?_)
                      obtain ⟨q74, s73, e75, h⟩ := bd_e h
                      refine z_callVi (c0 := 0) (As := [.int (xs (x3 + (1 : Int32)).toNatClampNeg)]) (rest := []) lk_L_53 ob_0 e_L_law_500 (m_X11_soonest G (xs (x3 + (1 : Int32)).toNatClampNeg) σ _ _ e75) (by decide) rfl (Nat.le_of_ble_eq_true rfl) ?_
                      refine z_aload e_L_law_503 2 rfl ?_
                      refine z_aload e_L_law_504 0 rfl ?_
                      refine z_iload e_L_law_505 3 rfl ?_
                      refine z_ic e_L_law_506 ?_
                      refine z_iadd e_L_law_507 ?_
                      refine z_scr hX e_L_law_508 h (fun h => ?_)
                      obtain ⟨q77, s76, e78, h⟩ := bd_e h
                      refine z_callVi (c0 := 69) (As := [.int (xs (x3 + (1 : Int32)).toNatClampNeg)]) (rest := [.int q74]) lk_L_56 ob_69 e_L_law_509 (m_X12_soonest G (xs (x3 + (1 : Int32)).toNatClampNeg) s73 _ _ e78) (by decide) rfl (Nat.le_of_ble_eq_true rfl) ?_
                      refine z_icmp_eq e_L_law_512 h (fun c79 h => ?_) (fun c79 h => ?_)
                      · exact z_sub [0, 1, 2, 3] rfl (p_L_law_1106 hR L xs w18 x3 hw18 hX s76 h)
                      · refine z_ic e_L_law_515 ?_
                        exact absurd (congrArg Prod.fst (Option.some.inj h)) (show ¬ (0 : Int32) = 1 by decide)
                    · rw [if_neg c72] at h
                      by_cases c80 : v2 = (9 : Int32)
                      · rw [if_pos c80] at h
                        refine z_tin (tgt := 517) e_L_law_33 (9 : Int32) c80 (484) (by decide +kernel) ?_
                        refine z_aload e_L_law_517 1 rfl ?_
                        refine z_aload e_L_law_518 0 rfl ?_
                        refine z_iload e_L_law_519 3 rfl ?_
                        refine z_ic e_L_law_520 ?_
                        refine z_iadd e_L_law_521 ?_
                        refine z_scr hX e_L_law_522 h (fun h => ?_)
                        obtain ⟨q82, s81, e83, h⟩ := bd_e h
                        refine z_callVi (c0 := 0) (As := [.int (xs (x3 + (1 : Int32)).toNatClampNeg)]) (rest := []) lk_L_57 ob_0 e_L_law_523 (m_X11_plan G (xs (x3 + (1 : Int32)).toNatClampNeg) σ _ _ e83) (by decide) rfl (Nat.le_of_ble_eq_true rfl) ?_
                        refine z_aload e_L_law_526 2 rfl ?_
                        refine z_aload e_L_law_527 0 rfl ?_
                        refine z_iload e_L_law_528 3 rfl ?_
                        refine z_ic e_L_law_529 ?_
                        refine z_iadd e_L_law_530 ?_
                        refine z_scr hX e_L_law_531 h (fun h => ?_)
                        obtain ⟨q85, s84, e86, h⟩ := bd_e h
                        refine z_callVi (c0 := 69) (As := [.int (xs (x3 + (1 : Int32)).toNatClampNeg)]) (rest := [.int q82]) lk_L_60 ob_69 e_L_law_532 (m_X12_plan G (xs (x3 + (1 : Int32)).toNatClampNeg) s81 _ _ e86) (by decide) rfl (Nat.le_of_ble_eq_true rfl) ?_
                        refine z_icmp_eq e_L_law_535 h (fun c87 h => ?_) (fun c87 h => ?_)
                        · exact z_sub [0, 1, 2, 3] rfl (p_L_law_1106 hR L xs w18 x3 hw18 hX s84 h)
                        · refine z_ic e_L_law_538 ?_
                          exact absurd (congrArg Prod.fst (Option.some.inj h)) (show ¬ (0 : Int32) = 1 by decide)
                      · rw [if_neg c80] at h
                        by_cases c88 : v2 = (10 : Int32)
                        · rw [if_pos c88] at h
                          refine z_tin (tgt := 540) e_L_law_33 (10 : Int32) c88 (507) (by decide +kernel) ?_
                          refine z_aload e_L_law_540 1 rfl ?_
                          refine z_aload e_L_law_541 0 rfl ?_
                          refine z_iload e_L_law_542 3 rfl ?_
                          refine z_ic e_L_law_543 ?_
                          refine z_iadd e_L_law_544 ?_
                          refine z_scr hX e_L_law_545 h (fun h => ?_)
                          obtain ⟨q90, s89, e91, h⟩ := bd_e h
                          refine z_callVi (c0 := 0) (As := [.int (xs (x3 + (1 : Int32)).toNatClampNeg)]) (rest := []) lk_L_61 ob_0 e_L_law_546 (m_X11_missed G (xs (x3 + (1 : Int32)).toNatClampNeg) σ _ _ e91) (by decide) rfl (Nat.le_of_ble_eq_true rfl) ?_
                          refine z_aload e_L_law_549 2 rfl ?_
                          refine z_aload e_L_law_550 0 rfl ?_
                          refine z_iload e_L_law_551 3 rfl ?_
                          refine z_ic e_L_law_552 ?_
                          refine z_iadd e_L_law_553 ?_
                          refine z_scr hX e_L_law_554 h (fun h => ?_)
                          obtain ⟨q93, s92, e94, h⟩ := bd_e h
                          refine z_callVi (c0 := 69) (As := [.int (xs (x3 + (1 : Int32)).toNatClampNeg)]) (rest := [.int q90]) lk_L_64 ob_69 e_L_law_555 (m_X12_missed G (xs (x3 + (1 : Int32)).toNatClampNeg) s89 _ _ e94) (by decide) rfl (Nat.le_of_ble_eq_true rfl) ?_
                          refine z_icmp_eq e_L_law_558 h (fun c95 h => ?_) (fun c95 h => ?_)
                          · exact z_sub [0, 1, 2, 3] rfl (p_L_law_1106 hR L xs w18 x3 hw18 hX s92 h)
                          · refine z_ic e_L_law_561 ?_
                            exact absurd (congrArg Prod.fst (Option.some.inj h)) (show ¬ (0 : Int32) = 1 by decide)
                        · rw [if_neg c88] at h
                          by_cases c96 : v2 = (11 : Int32)
                          · rw [if_pos c96] at h
                            refine z_tin (tgt := 563) e_L_law_33 (11 : Int32) c96 (530) (by decide +kernel) ?_
                            refine z_aload e_L_law_563 1 rfl ?_
                            refine z_aload e_L_law_564 0 rfl ?_
                            refine z_iload e_L_law_565 3 rfl ?_
                            refine z_ic e_L_law_566 ?_
                            refine z_iadd e_L_law_567 ?_
                            refine z_scr hX e_L_law_568 h (fun h => ?_)
                            refine z_aload e_L_law_569 0 rfl ?_
                            refine z_iload e_L_law_570 3 rfl ?_
                            refine z_ic e_L_law_571 ?_
                            refine z_iadd e_L_law_572 ?_
                            refine z_scr hX e_L_law_573 h (fun h => ?_)
                            obtain ⟨q98, s97, e99, h⟩ := bd_e h
                            refine z_callVi (c0 := 0) (As := [.int (xs (x3 + (1 : Int32)).toNatClampNeg), .int (xs (x3 + (2 : Int32)).toNatClampNeg)]) (rest := []) lk_L_65 ob_0 e_L_law_574 (m_X11_hidden G (xs (x3 + (1 : Int32)).toNatClampNeg) (xs (x3 + (2 : Int32)).toNatClampNeg) σ _ _ e99) (by decide) rfl (Nat.le_of_ble_eq_true rfl) ?_
                            refine z_aload e_L_law_577 2 rfl ?_
                            refine z_aload e_L_law_578 0 rfl ?_
                            refine z_iload e_L_law_579 3 rfl ?_
                            refine z_ic e_L_law_580 ?_
                            refine z_iadd e_L_law_581 ?_
                            refine z_scr hX e_L_law_582 h (fun h => ?_)
                            refine z_aload e_L_law_583 0 rfl ?_
                            refine z_iload e_L_law_584 3 rfl ?_
                            refine z_ic e_L_law_585 ?_
                            refine z_iadd e_L_law_586 ?_
                            refine z_scr hX e_L_law_587 h (fun h => ?_)
                            obtain ⟨q101, s100, e102, h⟩ := bd_e h
                            refine z_callVi (c0 := 69) (As := [.int (xs (x3 + (1 : Int32)).toNatClampNeg), .int (xs (x3 + (2 : Int32)).toNatClampNeg)]) (rest := [.int q98]) lk_L_68 ob_69 e_L_law_588 (m_X12_hidden G (xs (x3 + (1 : Int32)).toNatClampNeg) (xs (x3 + (2 : Int32)).toNatClampNeg) s97 _ _ e102) (by decide) rfl (Nat.le_of_ble_eq_true rfl) ?_
                            refine z_icmp_eq e_L_law_591 h (fun c103 h => ?_) (fun c103 h => ?_)
                            · exact z_sub [0, 1, 2, 3] rfl (p_L_law_1106 hR L xs w18 x3 hw18 hX s100 h)
                            · refine z_ic e_L_law_594 ?_
                              exact absurd (congrArg Prod.fst (Option.some.inj h)) (show ¬ (0 : Int32) = 1 by decide)
                          · rw [if_neg c96] at h
                            by_cases c104 : v2 = (12 : Int32)
                            · rw [if_pos c104] at h
                              refine z_tin (tgt := 596) e_L_law_33 (12 : Int32) c104 (563) (by decide +kernel) ?_
                              refine z_aload e_L_law_596 1 rfl ?_
                              refine z_aload e_L_law_597 0 rfl ?_
                              refine z_iload e_L_law_598 3 rfl ?_
                              refine z_ic e_L_law_599 ?_
                              refine z_iadd e_L_law_600 ?_
                              refine z_scr hX e_L_law_601 h (fun h => ?_)
                              obtain ⟨q106, s105, e107, h⟩ := bd_e h
                              refine z_callVi (c0 := 0) (As := [.int (xs (x3 + (1 : Int32)).toNatClampNeg)]) (rest := []) lk_L_69 ob_0 e_L_law_602 (m_X11_night G (xs (x3 + (1 : Int32)).toNatClampNeg) σ _ _ e107) (by decide) rfl (Nat.le_of_ble_eq_true rfl) ?_
                              refine z_aload e_L_law_605 2 rfl ?_
                              refine z_aload e_L_law_606 0 rfl ?_
                              refine z_iload e_L_law_607 3 rfl ?_
                              refine z_ic e_L_law_608 ?_
                              refine z_iadd e_L_law_609 ?_
                              refine z_scr hX e_L_law_610 h (fun h => ?_)
                              obtain ⟨q109, s108, e110, h⟩ := bd_e h
                              refine z_callVi (c0 := 69) (As := [.int (xs (x3 + (1 : Int32)).toNatClampNeg)]) (rest := [.int q106]) lk_L_72 ob_69 e_L_law_611 (m_X12_night G (xs (x3 + (1 : Int32)).toNatClampNeg) s105 _ _ e110) (by decide) rfl (Nat.le_of_ble_eq_true rfl) ?_
                              refine z_icmp_eq e_L_law_614 h (fun c111 h => ?_) (fun c111 h => ?_)
                              · exact z_sub [0, 1, 2, 3] rfl (p_L_law_1106 hR L xs w18 x3 hw18 hX s108 h)
                              · refine z_ic e_L_law_617 ?_
                                exact absurd (congrArg Prod.fst (Option.some.inj h)) (show ¬ (0 : Int32) = 1 by decide)
                            · rw [if_neg c104] at h
                              by_cases c112 : v2 = (13 : Int32)
                              · rw [if_pos c112] at h
                                refine z_tin (tgt := 619) e_L_law_33 (13 : Int32) c112 (586) (by decide +kernel) ?_
                                refine z_aload e_L_law_619 1 rfl ?_
                                refine z_aload e_L_law_620 0 rfl ?_
                                refine z_iload e_L_law_621 3 rfl ?_
                                refine z_ic e_L_law_622 ?_
                                refine z_iadd e_L_law_623 ?_
                                refine z_scr hX e_L_law_624 h (fun h => ?_)
                                refine z_aload e_L_law_625 0 rfl ?_
                                refine z_iload e_L_law_626 3 rfl ?_
                                refine z_ic e_L_law_627 ?_
                                refine z_iadd e_L_law_628 ?_
                                refine z_scr hX e_L_law_629 h (fun h => ?_)
                                obtain ⟨q114, s113, e115, h⟩ := bd_e h
                                refine z_callVi (c0 := 0) (As := [.int (xs (x3 + (1 : Int32)).toNatClampNeg), .int (xs (x3 + (2 : Int32)).toNatClampNeg)]) (rest := []) lk_L_73 ob_0 e_L_law_630 (m_X11_tried G (xs (x3 + (1 : Int32)).toNatClampNeg) (xs (x3 + (2 : Int32)).toNatClampNeg) σ _ _ e115) (by decide) rfl (Nat.le_of_ble_eq_true rfl) ?_
                                refine z_aload e_L_law_633 2 rfl ?_
                                refine z_aload e_L_law_634 0 rfl ?_
                                refine z_iload e_L_law_635 3 rfl ?_
                                refine z_ic e_L_law_636 ?_
                                refine z_iadd e_L_law_637 ?_
                                refine z_scr hX e_L_law_638 h (fun h => ?_)
                                refine z_aload e_L_law_639 0 rfl ?_
                                refine z_iload e_L_law_640 3 rfl ?_
                                refine z_ic e_L_law_641 ?_
                                refine z_iadd e_L_law_642 ?_
                                refine z_scr hX e_L_law_643 h (fun h => ?_)
                                obtain ⟨q117, s116, e118, h⟩ := bd_e h
                                refine z_callVi (c0 := 69) (As := [.int (xs (x3 + (1 : Int32)).toNatClampNeg), .int (xs (x3 + (2 : Int32)).toNatClampNeg)]) (rest := [.int q114]) lk_L_76 ob_69 e_L_law_644 (m_X12_tried G (xs (x3 + (1 : Int32)).toNatClampNeg) (xs (x3 + (2 : Int32)).toNatClampNeg) s113 _ _ e118) (by decide) rfl (Nat.le_of_ble_eq_true rfl) ?_
                                refine z_icmp_eq e_L_law_647 h (fun c119 h => ?_) (fun c119 h => ?_)
                                · exact z_sub [0, 1, 2, 3] rfl (p_L_law_1106 hR L xs w18 x3 hw18 hX s116 h)
                                · refine z_ic e_L_law_650 ?_
                                  exact absurd (congrArg Prod.fst (Option.some.inj h)) (show ¬ (0 : Int32) = 1 by decide)
                              · rw [if_neg c112] at h
                                by_cases c120 : v2 = (14 : Int32)
                                · rw [if_pos c120] at h
                                  refine z_tin (tgt := 652) e_L_law_33 (14 : Int32) c120 (619) (by decide +kernel) ?_
                                  refine z_aload e_L_law_652 1 rfl ?_
                                  refine z_aload e_L_law_653 0 rfl ?_
                                  refine z_iload e_L_law_654 3 rfl ?_
                                  refine z_ic e_L_law_655 ?_
                                  refine z_iadd e_L_law_656 ?_
                                  refine z_scr hX e_L_law_657 h (fun h => ?_)
                                  refine z_aload e_L_law_658 0 rfl ?_
                                  refine z_iload e_L_law_659 3 rfl ?_
                                  refine z_ic e_L_law_660 ?_
                                  refine z_iadd e_L_law_661 ?_
                                  refine z_scr hX e_L_law_662 h (fun h => ?_)
                                  refine z_aload e_L_law_663 0 rfl ?_
                                  refine z_iload e_L_law_664 3 rfl ?_
                                  refine z_ic e_L_law_665 ?_
                                  refine z_iadd e_L_law_666 ?_
                                  refine z_scr hX e_L_law_667 h (fun h => ?_)
                                  obtain ⟨q122, s121, e123, h⟩ := bd_e h
                                  refine z_callVl (c0 := 0) (As := [.int (xs (x3 + (1 : Int32)).toNatClampNeg), .int (xs (x3 + (2 : Int32)).toNatClampNeg), .int (xs (x3 + (3 : Int32)).toNatClampNeg)]) (rest := []) lk_L_77 ob_0 e_L_law_668 (m_X11_story G (xs (x3 + (1 : Int32)).toNatClampNeg) (xs (x3 + (2 : Int32)).toNatClampNeg) (xs (x3 + (3 : Int32)).toNatClampNeg) σ _ _ e123) (by decide) rfl (Nat.le_of_ble_eq_true rfl) ?_
                                  refine z_aload e_L_law_671 2 rfl ?_
                                  refine z_aload e_L_law_672 0 rfl ?_
                                  refine z_iload e_L_law_673 3 rfl ?_
                                  refine z_ic e_L_law_674 ?_
                                  refine z_iadd e_L_law_675 ?_
                                  refine z_scr hX e_L_law_676 h (fun h => ?_)
                                  refine z_aload e_L_law_677 0 rfl ?_
                                  refine z_iload e_L_law_678 3 rfl ?_
                                  refine z_ic e_L_law_679 ?_
                                  refine z_iadd e_L_law_680 ?_
                                  refine z_scr hX e_L_law_681 h (fun h => ?_)
                                  refine z_aload e_L_law_682 0 rfl ?_
                                  refine z_iload e_L_law_683 3 rfl ?_
                                  refine z_ic e_L_law_684 ?_
                                  refine z_iadd e_L_law_685 ?_
                                  refine z_scr hX e_L_law_686 h (fun h => ?_)
                                  obtain ⟨q125, s124, e126, h⟩ := bd_e h
                                  refine z_callVl (c0 := 69) (As := [.int (xs (x3 + (1 : Int32)).toNatClampNeg), .int (xs (x3 + (2 : Int32)).toNatClampNeg), .int (xs (x3 + (3 : Int32)).toNatClampNeg)]) (rest := [.long q122]) lk_L_81 ob_69 e_L_law_687 (m_X12_story G (xs (x3 + (1 : Int32)).toNatClampNeg) (xs (x3 + (2 : Int32)).toNatClampNeg) (xs (x3 + (3 : Int32)).toNatClampNeg) s121 _ _ e126) (by decide) rfl (Nat.le_of_ble_eq_true rfl) ?_
                                  refine z_lcmp e_L_law_690 ?_
                                  refine z_if_eq e_L_law_691 h (fun c127 h => ?_) (fun c127 h => ?_)
                                  · exact z_sub [0, 1, 2, 3] rfl (p_L_law_1106 hR L xs w18 x3 hw18 hX s124 h)
                                  · refine z_ic e_L_law_694 ?_
                                    exact absurd (congrArg Prod.fst (Option.some.inj h)) (show ¬ (0 : Int32) = 1 by decide)
                                · rw [if_neg c120] at h
                                  by_cases c128 : v2 = (15 : Int32)
                                  · rw [if_pos c128] at h
                                    refine z_tin (tgt := 696) e_L_law_33 (15 : Int32) c128 (663) (by decide +kernel) ?_
                                    refine z_aload e_L_law_696 1 rfl ?_
                                    refine z_aload e_L_law_697 0 rfl ?_
                                    refine z_iload e_L_law_698 3 rfl ?_
                                    refine z_ic e_L_law_699 ?_
                                    refine z_iadd e_L_law_700 ?_
                                    refine z_scr hX e_L_law_701 h (fun h => ?_)
                                    refine z_aload e_L_law_702 0 rfl ?_
                                    refine z_iload e_L_law_703 3 rfl ?_
                                    refine z_ic e_L_law_704 ?_
                                    refine z_iadd e_L_law_705 ?_
                                    refine z_scr hX e_L_law_706 h (fun h => ?_)
                                    refine z_aload e_L_law_707 0 rfl ?_
                                    refine z_iload e_L_law_708 3 rfl ?_
                                    refine z_ic e_L_law_709 ?_
                                    refine z_iadd e_L_law_710 ?_
                                    refine z_scr hX e_L_law_711 h (fun h => ?_)
                                    obtain ⟨q130, s129, e131, h⟩ := bd_e h
                                    refine z_callVl (c0 := 0) (As := [.int (xs (x3 + (1 : Int32)).toNatClampNeg), .int (xs (x3 + (2 : Int32)).toNatClampNeg), .int (xs (x3 + (3 : Int32)).toNatClampNeg)]) (rest := []) lk_L_82 ob_0 e_L_law_712 (m_X11_toDust G (xs (x3 + (1 : Int32)).toNatClampNeg) (xs (x3 + (2 : Int32)).toNatClampNeg) (xs (x3 + (3 : Int32)).toNatClampNeg) σ _ _ e131) (by decide) rfl (Nat.le_of_ble_eq_true rfl) ?_
                                    refine z_aload e_L_law_715 2 rfl ?_
                                    refine z_aload e_L_law_716 0 rfl ?_
                                    refine z_iload e_L_law_717 3 rfl ?_
                                    refine z_ic e_L_law_718 ?_
                                    refine z_iadd e_L_law_719 ?_
                                    refine z_scr hX e_L_law_720 h (fun h => ?_)
                                    refine z_aload e_L_law_721 0 rfl ?_
                                    refine z_iload e_L_law_722 3 rfl ?_
                                    refine z_ic e_L_law_723 ?_
                                    refine z_iadd e_L_law_724 ?_
                                    refine z_scr hX e_L_law_725 h (fun h => ?_)
                                    refine z_aload e_L_law_726 0 rfl ?_
                                    refine z_iload e_L_law_727 3 rfl ?_
                                    refine z_ic e_L_law_728 ?_
                                    refine z_iadd e_L_law_729 ?_
                                    refine z_scr hX e_L_law_730 h (fun h => ?_)
                                    obtain ⟨q133, s132, e134, h⟩ := bd_e h
                                    refine z_callVl (c0 := 69) (As := [.int (xs (x3 + (1 : Int32)).toNatClampNeg), .int (xs (x3 + (2 : Int32)).toNatClampNeg), .int (xs (x3 + (3 : Int32)).toNatClampNeg)]) (rest := [.long q130]) lk_L_85 ob_69 e_L_law_731 (m_X12_toDust G (xs (x3 + (1 : Int32)).toNatClampNeg) (xs (x3 + (2 : Int32)).toNatClampNeg) (xs (x3 + (3 : Int32)).toNatClampNeg) s129 _ _ e134) (by decide) rfl (Nat.le_of_ble_eq_true rfl) ?_
                                    refine z_lcmp e_L_law_734 ?_
                                    refine z_if_eq e_L_law_735 h (fun c135 h => ?_) (fun c135 h => ?_)
                                    · exact z_sub [0, 1, 2, 3] rfl (p_L_law_1106 hR L xs w18 x3 hw18 hX s132 h)
                                    · refine z_ic e_L_law_738 ?_
                                      exact absurd (congrArg Prod.fst (Option.some.inj h)) (show ¬ (0 : Int32) = 1 by decide)
                                  · rw [if_neg c128] at h
                                    by_cases c136 : v2 = (16 : Int32)
                                    · rw [if_pos c136] at h
                                      refine z_tin (tgt := 740) e_L_law_33 (16 : Int32) c136 (707) (by decide +kernel) ?_
                                      refine z_aload e_L_law_740 1 rfl ?_
                                      refine z_aload e_L_law_741 0 rfl ?_
                                      refine z_iload e_L_law_742 3 rfl ?_
                                      refine z_ic e_L_law_743 ?_
                                      refine z_iadd e_L_law_744 ?_
                                      refine z_scr hX e_L_law_745 h (fun h => ?_)
                                      refine z_aload e_L_law_746 0 rfl ?_
                                      refine z_iload e_L_law_747 3 rfl ?_
                                      refine z_ic e_L_law_748 ?_
                                      refine z_iadd e_L_law_749 ?_
                                      refine z_scr hX e_L_law_750 h (fun h => ?_)
                                      obtain ⟨q138, s137, e139, h⟩ := bd_e h
                                      refine z_callVl (c0 := 0) (As := [.int (xs (x3 + (1 : Int32)).toNatClampNeg), .int (xs (x3 + (2 : Int32)).toNatClampNeg)]) (rest := []) lk_L_86 ob_0 e_L_law_751 (m_X11_lots G (xs (x3 + (1 : Int32)).toNatClampNeg) (xs (x3 + (2 : Int32)).toNatClampNeg) σ _ _ e139) (by decide) rfl (Nat.le_of_ble_eq_true rfl) ?_
                                      refine z_aload e_L_law_754 2 rfl ?_
                                      refine z_aload e_L_law_755 0 rfl ?_
                                      refine z_iload e_L_law_756 3 rfl ?_
                                      refine z_ic e_L_law_757 ?_
                                      refine z_iadd e_L_law_758 ?_
                                      refine z_scr hX e_L_law_759 h (fun h => ?_)
                                      refine z_aload e_L_law_760 0 rfl ?_
                                      refine z_iload e_L_law_761 3 rfl ?_
                                      refine z_ic e_L_law_762 ?_
                                      refine z_iadd e_L_law_763 ?_
                                      refine z_scr hX e_L_law_764 h (fun h => ?_)
                                      obtain ⟨q141, s140, e142, h⟩ := bd_e h
                                      refine z_callVl (c0 := 69) (As := [.int (xs (x3 + (1 : Int32)).toNatClampNeg), .int (xs (x3 + (2 : Int32)).toNatClampNeg)]) (rest := [.long q138]) lk_L_90 ob_69 e_L_law_765 (m_X12_lots G (xs (x3 + (1 : Int32)).toNatClampNeg) (xs (x3 + (2 : Int32)).toNatClampNeg) s137 _ _ e142) (by decide) rfl (Nat.le_of_ble_eq_true rfl) ?_
                                      refine z_lcmp e_L_law_768 ?_
                                      refine z_if_eq e_L_law_769 h (fun c143 h => ?_) (fun c143 h => ?_)
                                      · exact z_sub [0, 1, 2, 3] rfl (p_L_law_1106 hR L xs w18 x3 hw18 hX s140 h)
                                      · refine z_ic e_L_law_772 ?_
                                        exact absurd (congrArg Prod.fst (Option.some.inj h)) (show ¬ (0 : Int32) = 1 by decide)
                                    · rw [if_neg c136] at h
                                      by_cases c144 : v2 = (17 : Int32)
                                      · rw [if_pos c144] at h
                                        refine z_tin (tgt := 774) e_L_law_33 (17 : Int32) c144 (741) (by decide +kernel) ?_
                                        refine z_aload e_L_law_774 1 rfl ?_
                                        refine z_aload e_L_law_775 0 rfl ?_
                                        refine z_iload e_L_law_776 3 rfl ?_
                                        refine z_ic e_L_law_777 ?_
                                        refine z_iadd e_L_law_778 ?_
                                        refine z_scr hX e_L_law_779 h (fun h => ?_)
                                        refine z_aload e_L_law_780 0 rfl ?_
                                        refine z_iload e_L_law_781 3 rfl ?_
                                        refine z_ic e_L_law_782 ?_
                                        refine z_iadd e_L_law_783 ?_
                                        refine z_scr hX e_L_law_784 h (fun h => ?_)
                                        obtain ⟨v145, ev145, h⟩ := nm_i h
                                        have jv145 : zAW G 2000 RL cL_law 4 C 793 [(0, .ref b), (1, .ref (zad G 0)), (2, .ref (zad G 69)), (3, .int x3)] [.int v145, .int (xs (x3 + (1 : Int32)).toNatClampNeg), .ref (zad G 0)] σ := by
                                          obtain ⟨q147, s146, e148, h⟩ := bd_e h
                                          refine z_callVi (c0 := 0) (As := [.int (xs (x3 + (1 : Int32)).toNatClampNeg), .int v145]) (rest := []) lk_L_91 ob_0 e_L_law_793 (m_X11_egg G (xs (x3 + (1 : Int32)).toNatClampNeg) v145 σ _ _ e148) (by decide) rfl (Nat.le_of_ble_eq_true rfl) ?_
                                          refine z_aload e_L_law_796 2 rfl ?_
                                          refine z_aload e_L_law_797 0 rfl ?_
                                          refine z_iload e_L_law_798 3 rfl ?_
                                          refine z_ic e_L_law_799 ?_
                                          refine z_iadd e_L_law_800 ?_
                                          refine z_scr hX e_L_law_801 h (fun h => ?_)
                                          refine z_aload e_L_law_802 0 rfl ?_
                                          refine z_iload e_L_law_803 3 rfl ?_
                                          refine z_ic e_L_law_804 ?_
                                          refine z_iadd e_L_law_805 ?_
                                          refine z_scr hX e_L_law_806 h (fun h => ?_)
                                          obtain ⟨v149, ev149, h⟩ := nm_i h
                                          have jv149 : zAW G 2000 RL cL_law 4 C 815 [(0, .ref b), (1, .ref (zad G 0)), (2, .ref (zad G 69)), (3, .int x3)] [.int v149, .int (xs (x3 + (1 : Int32)).toNatClampNeg), .ref (zad G 69), .int q147] s146 := by
                                            obtain ⟨q151, s150, e152, h⟩ := bd_e h
                                            refine z_callVi (c0 := 69) (As := [.int (xs (x3 + (1 : Int32)).toNatClampNeg), .int v149]) (rest := [.int q147]) lk_L_95 ob_69 e_L_law_815 (m_X12_egg G (xs (x3 + (1 : Int32)).toNatClampNeg) v149 s146 _ _ e152) (by decide) rfl (Nat.le_of_ble_eq_true rfl) ?_
                                            refine z_icmp_eq e_L_law_818 h (fun c153 h => ?_) (fun c153 h => ?_)
                                            · exact z_sub [0, 1, 2, 3] rfl (p_L_law_1106 hR L xs w18 x3 hw18 hX s150 h)
                                            · refine z_ic e_L_law_821 ?_
                                              exact absurd (congrArg Prod.fst (Option.some.inj h)) (show ¬ (0 : Int32) = 1 by decide)
                                          refine y_if_eq e_L_law_807 (fun c154 => ?_) (fun c154 => ?_)
                                          · refine z_ic e_L_law_814 ?_
                                            rw [if_pos c154] at ev149
                                            subst ev149
                                            exact z_sub [0, 1, 2, 3] rfl jv149
                                          · refine z_ic e_L_law_810 ?_
                                            refine z_goto e_L_law_811 ?_
                                            rw [if_neg c154] at ev149
                                            subst ev149
                                            exact z_sub [0, 1, 2, 3] rfl jv149
                                        refine y_if_eq e_L_law_785 (fun c155 => ?_) (fun c155 => ?_)
                                        · refine z_ic e_L_law_792 ?_
                                          rw [if_pos c155] at ev145
                                          subst ev145
                                          exact z_sub [0, 1, 2, 3] rfl jv145
                                        · refine z_ic e_L_law_788 ?_
                                          refine z_goto e_L_law_789 ?_
                                          rw [if_neg c155] at ev145
                                          subst ev145
                                          exact z_sub [0, 1, 2, 3] rfl jv145
                                      · rw [if_neg c144] at h
                                        by_cases c156 : v2 = (18 : Int32)
                                        · rw [if_pos c156] at h
                                          refine z_tin (tgt := 823) e_L_law_33 (18 : Int32) c156 (790) (by decide +kernel) ?_
                                          refine z_aload e_L_law_823 1 rfl ?_
                                          refine z_aload e_L_law_824 0 rfl ?_
                                          refine z_iload e_L_law_825 3 rfl ?_
                                          refine z_ic e_L_law_826 ?_
                                          refine z_iadd e_L_law_827 ?_
                                          refine z_scr hX e_L_law_828 h (fun h => ?_)
                                          refine z_aload e_L_law_829 0 rfl ?_
                                          refine z_iload e_L_law_830 3 rfl ?_
                                          refine z_ic e_L_law_831 ?_
                                          refine z_iadd e_L_law_832 ?_
                                          refine z_scr hX e_L_law_833 h (fun h => ?_)
                                          obtain ⟨q158, s157, e159, h⟩ := bd_e h
                                          refine z_callVi (c0 := 0) (As := [.int (xs (x3 + (1 : Int32)).toNatClampNeg), .int (xs (x3 + (2 : Int32)).toNatClampNeg)]) (rest := []) lk_L_96 ob_0 e_L_law_834 (m_X11_test G (xs (x3 + (1 : Int32)).toNatClampNeg) (xs (x3 + (2 : Int32)).toNatClampNeg) σ _ _ e159) (by decide) rfl (Nat.le_of_ble_eq_true rfl) ?_
                                          refine z_aload e_L_law_837 2 rfl ?_
                                          refine z_aload e_L_law_838 0 rfl ?_
                                          refine z_iload e_L_law_839 3 rfl ?_
                                          refine z_ic e_L_law_840 ?_
                                          refine z_iadd e_L_law_841 ?_
                                          refine z_scr hX e_L_law_842 h (fun h => ?_)
                                          refine z_aload e_L_law_843 0 rfl ?_
                                          refine z_iload e_L_law_844 3 rfl ?_
                                          refine z_ic e_L_law_845 ?_
                                          refine z_iadd e_L_law_846 ?_
                                          refine z_scr hX e_L_law_847 h (fun h => ?_)
                                          obtain ⟨q161, s160, e162, h⟩ := bd_e h
                                          refine z_callVi (c0 := 69) (As := [.int (xs (x3 + (1 : Int32)).toNatClampNeg), .int (xs (x3 + (2 : Int32)).toNatClampNeg)]) (rest := [.int q158]) lk_L_99 ob_69 e_L_law_848 (m_X12_test G (xs (x3 + (1 : Int32)).toNatClampNeg) (xs (x3 + (2 : Int32)).toNatClampNeg) s157 _ _ e162) (by decide) rfl (Nat.le_of_ble_eq_true rfl) ?_
                                          refine z_icmp_eq e_L_law_851 h (fun c163 h => ?_) (fun c163 h => ?_)
                                          · exact z_sub [0, 1, 2, 3] rfl (p_L_law_1106 hR L xs w18 x3 hw18 hX s160 h)
                                          · refine z_ic e_L_law_854 ?_
                                            exact absurd (congrArg Prod.fst (Option.some.inj h)) (show ¬ (0 : Int32) = 1 by decide)
                                        · rw [if_neg c156] at h
                                          by_cases c164 : v2 = (19 : Int32)
                                          · rw [if_pos c164] at h
                                            refine z_tin (tgt := 856) e_L_law_33 (19 : Int32) c164 (823) (by decide +kernel) ?_
                                            refine z_aload e_L_law_856 1 rfl ?_
                                            refine z_aload e_L_law_857 0 rfl ?_
                                            refine z_iload e_L_law_858 3 rfl ?_
                                            refine z_ic e_L_law_859 ?_
                                            refine z_iadd e_L_law_860 ?_
                                            refine z_scr hX e_L_law_861 h (fun h => ?_)
                                            obtain ⟨q166, s165, e167, h⟩ := bd_e h
                                            refine z_callVi (c0 := 0) (As := [.int (xs (x3 + (1 : Int32)).toNatClampNeg)]) (rest := []) lk_L_100 ob_0 e_L_law_862 (m_X11_apart G (xs (x3 + (1 : Int32)).toNatClampNeg) σ _ _ e167) (by decide) rfl (Nat.le_of_ble_eq_true rfl) ?_
                                            refine z_aload e_L_law_865 2 rfl ?_
                                            refine z_aload e_L_law_866 0 rfl ?_
                                            refine z_iload e_L_law_867 3 rfl ?_
                                            refine z_ic e_L_law_868 ?_
                                            refine z_iadd e_L_law_869 ?_
                                            refine z_scr hX e_L_law_870 h (fun h => ?_)
                                            obtain ⟨q169, s168, e170, h⟩ := bd_e h
                                            refine z_callVi (c0 := 69) (As := [.int (xs (x3 + (1 : Int32)).toNatClampNeg)]) (rest := [.int q166]) lk_L_103 ob_69 e_L_law_871 (m_X12_apart G (xs (x3 + (1 : Int32)).toNatClampNeg) s165 _ _ e170) (by decide) rfl (Nat.le_of_ble_eq_true rfl) ?_
                                            refine z_icmp_eq e_L_law_874 h (fun c171 h => ?_) (fun c171 h => ?_)
                                            · exact z_sub [0, 1, 2, 3] rfl (p_L_law_1106 hR L xs w18 x3 hw18 hX s168 h)
                                            · refine z_ic e_L_law_877 ?_
                                              exact absurd (congrArg Prod.fst (Option.some.inj h)) (show ¬ (0 : Int32) = 1 by decide)
                                          · rw [if_neg c164] at h
                                            by_cases c172 : v2 = (20 : Int32)
                                            · rw [if_pos c172] at h
                                              refine z_tin (tgt := 879) e_L_law_33 (20 : Int32) c172 (846) (by decide +kernel) ?_
                                              refine z_aload e_L_law_879 1 rfl ?_
                                              refine z_aload e_L_law_880 0 rfl ?_
                                              refine z_iload e_L_law_881 3 rfl ?_
                                              refine z_ic e_L_law_882 ?_
                                              refine z_iadd e_L_law_883 ?_
                                              refine z_scr hX e_L_law_884 h (fun h => ?_)
                                              refine z_aload e_L_law_885 0 rfl ?_
                                              refine z_iload e_L_law_886 3 rfl ?_
                                              refine z_ic e_L_law_887 ?_
                                              refine z_iadd e_L_law_888 ?_
                                              refine z_scr hX e_L_law_889 h (fun h => ?_)
                                              obtain ⟨q174, s173, e175, h⟩ := bd_e h
                                              refine z_callVi (c0 := 0) (As := [.int (xs (x3 + (1 : Int32)).toNatClampNeg), .int (xs (x3 + (2 : Int32)).toNatClampNeg)]) (rest := []) lk_L_104 ob_0 e_L_law_890 (m_X11_alike G (xs (x3 + (1 : Int32)).toNatClampNeg) (xs (x3 + (2 : Int32)).toNatClampNeg) σ _ _ e175) (by decide) rfl (Nat.le_of_ble_eq_true rfl) ?_
                                              refine z_aload e_L_law_893 2 rfl ?_
                                              refine z_aload e_L_law_894 0 rfl ?_
                                              refine z_iload e_L_law_895 3 rfl ?_
                                              refine z_ic e_L_law_896 ?_
                                              refine z_iadd e_L_law_897 ?_
                                              refine z_scr hX e_L_law_898 h (fun h => ?_)
                                              refine z_aload e_L_law_899 0 rfl ?_
                                              refine z_iload e_L_law_900 3 rfl ?_
                                              refine z_ic e_L_law_901 ?_
                                              refine z_iadd e_L_law_902 ?_
                                              refine z_scr hX e_L_law_903 h (fun h => ?_)
                                              obtain ⟨q177, s176, e178, h⟩ := bd_e h
                                              refine z_callVi (c0 := 69) (As := [.int (xs (x3 + (1 : Int32)).toNatClampNeg), .int (xs (x3 + (2 : Int32)).toNatClampNeg)]) (rest := [.int q174]) lk_L_107 ob_69 e_L_law_904 (m_X12_alike G (xs (x3 + (1 : Int32)).toNatClampNeg) (xs (x3 + (2 : Int32)).toNatClampNeg) s173 _ _ e178) (by decide) rfl (Nat.le_of_ble_eq_true rfl) ?_
                                              refine z_icmp_eq e_L_law_907 h (fun c179 h => ?_) (fun c179 h => ?_)
                                              · exact z_sub [0, 1, 2, 3] rfl (p_L_law_1106 hR L xs w18 x3 hw18 hX s176 h)
                                              · refine z_ic e_L_law_910 ?_
                                                exact absurd (congrArg Prod.fst (Option.some.inj h)) (show ¬ (0 : Int32) = 1 by decide)
                                            · rw [if_neg c172] at h
                                              by_cases c180 : v2 = (21 : Int32)
                                              · rw [if_pos c180] at h
                                                refine z_tin (tgt := 912) e_L_law_33 (21 : Int32) c180 (879) (by decide +kernel) ?_
                                                refine z_aload e_L_law_912 1 rfl ?_
                                                refine z_aload e_L_law_913 0 rfl ?_
                                                refine z_iload e_L_law_914 3 rfl ?_
                                                refine z_ic e_L_law_915 ?_
                                                refine z_iadd e_L_law_916 ?_
                                                refine z_scr hX e_L_law_917 h (fun h => ?_)
                                                refine z_aload e_L_law_918 0 rfl ?_
                                                refine z_iload e_L_law_919 3 rfl ?_
                                                refine z_ic e_L_law_920 ?_
                                                refine z_iadd e_L_law_921 ?_
                                                refine z_scr hX e_L_law_922 h (fun h => ?_)
                                                obtain ⟨q182, s181, e183, h⟩ := bd_e h
                                                refine z_callVi (c0 := 0) (As := [.int (xs (x3 + (1 : Int32)).toNatClampNeg), .int (xs (x3 + (2 : Int32)).toNatClampNeg)]) (rest := []) lk_L_108 ob_0 e_L_law_923 (m_X11_owes G (xs (x3 + (1 : Int32)).toNatClampNeg) (xs (x3 + (2 : Int32)).toNatClampNeg) σ _ _ e183) (by decide) rfl (Nat.le_of_ble_eq_true rfl) ?_
                                                refine z_aload e_L_law_926 2 rfl ?_
                                                refine z_aload e_L_law_927 0 rfl ?_
                                                refine z_iload e_L_law_928 3 rfl ?_
                                                refine z_ic e_L_law_929 ?_
                                                refine z_iadd e_L_law_930 ?_
                                                refine z_scr hX e_L_law_931 h (fun h => ?_)
                                                refine z_aload e_L_law_932 0 rfl ?_
                                                refine z_iload e_L_law_933 3 rfl ?_
                                                refine z_ic e_L_law_934 ?_
                                                refine z_iadd e_L_law_935 ?_
                                                refine z_scr hX e_L_law_936 h (fun h => ?_)
                                                obtain ⟨q185, s184, e186, h⟩ := bd_e h
                                                refine z_callVi (c0 := 69) (As := [.int (xs (x3 + (1 : Int32)).toNatClampNeg), .int (xs (x3 + (2 : Int32)).toNatClampNeg)]) (rest := [.int q182]) lk_L_111 ob_69 e_L_law_937 (m_X12_owes G (xs (x3 + (1 : Int32)).toNatClampNeg) (xs (x3 + (2 : Int32)).toNatClampNeg) s181 _ _ e186) (by decide) rfl (Nat.le_of_ble_eq_true rfl) ?_
                                                refine z_icmp_eq e_L_law_940 h (fun c187 h => ?_) (fun c187 h => ?_)
                                                · exact z_sub [0, 1, 2, 3] rfl (p_L_law_1106 hR L xs w18 x3 hw18 hX s184 h)
                                                · refine z_ic e_L_law_943 ?_
                                                  exact absurd (congrArg Prod.fst (Option.some.inj h)) (show ¬ (0 : Int32) = 1 by decide)
                                              · rw [if_neg c180] at h
                                                by_cases c188 : v2 = (22 : Int32)
                                                · rw [if_pos c188] at h
                                                  refine z_tin (tgt := 945) e_L_law_33 (22 : Int32) c188 (912) (by decide +kernel) ?_
                                                  refine z_aload e_L_law_945 1 rfl ?_
                                                  refine z_aload e_L_law_946 0 rfl ?_
                                                  refine z_iload e_L_law_947 3 rfl ?_
                                                  refine z_ic e_L_law_948 ?_
                                                  refine z_iadd e_L_law_949 ?_
                                                  refine z_scr hX e_L_law_950 h (fun h => ?_)
                                                  refine z_aload e_L_law_951 0 rfl ?_
                                                  refine z_iload e_L_law_952 3 rfl ?_
                                                  refine z_ic e_L_law_953 ?_
                                                  refine z_iadd e_L_law_954 ?_
                                                  refine z_scr hX e_L_law_955 h (fun h => ?_)
                                                  obtain ⟨q190, s189, e191, h⟩ := bd_e h
                                                  refine z_callVi (c0 := 0) (As := [.int (xs (x3 + (1 : Int32)).toNatClampNeg), .int (xs (x3 + (2 : Int32)).toNatClampNeg)]) (rest := []) lk_L_112 ob_0 e_L_law_956 (m_X11_rings G (xs (x3 + (1 : Int32)).toNatClampNeg) (xs (x3 + (2 : Int32)).toNatClampNeg) σ _ _ e191) (by decide) rfl (Nat.le_of_ble_eq_true rfl) ?_
                                                  refine z_aload e_L_law_959 2 rfl ?_
                                                  refine z_aload e_L_law_960 0 rfl ?_
                                                  refine z_iload e_L_law_961 3 rfl ?_
                                                  refine z_ic e_L_law_962 ?_
                                                  refine z_iadd e_L_law_963 ?_
                                                  refine z_scr hX e_L_law_964 h (fun h => ?_)
                                                  refine z_aload e_L_law_965 0 rfl ?_
                                                  refine z_iload e_L_law_966 3 rfl ?_
                                                  refine z_ic e_L_law_967 ?_
                                                  refine z_iadd e_L_law_968 ?_
                                                  refine z_scr hX e_L_law_969 h (fun h => ?_)
                                                  obtain ⟨q193, s192, e194, h⟩ := bd_e h
                                                  refine z_callVi (c0 := 69) (As := [.int (xs (x3 + (1 : Int32)).toNatClampNeg), .int (xs (x3 + (2 : Int32)).toNatClampNeg)]) (rest := [.int q190]) lk_L_115 ob_69 e_L_law_970 (m_X12_rings G (xs (x3 + (1 : Int32)).toNatClampNeg) (xs (x3 + (2 : Int32)).toNatClampNeg) s189 _ _ e194) (by decide) rfl (Nat.le_of_ble_eq_true rfl) ?_
                                                  refine z_icmp_eq e_L_law_973 h (fun c195 h => ?_) (fun c195 h => ?_)
                                                  · exact z_sub [0, 1, 2, 3] rfl (p_L_law_1106 hR L xs w18 x3 hw18 hX s192 h)
                                                  · refine z_ic e_L_law_976 ?_
                                                    exact absurd (congrArg Prod.fst (Option.some.inj h)) (show ¬ (0 : Int32) = 1 by decide)
                                                · rw [if_neg c188] at h
                                                  by_cases c196 : v2 = (23 : Int32)
                                                  · rw [if_pos c196] at h
                                                    refine z_tin (tgt := 978) e_L_law_33 (23 : Int32) c196 (945) (by decide +kernel) ?_
                                                    refine z_aload e_L_law_978 1 rfl ?_
                                                    refine z_aload e_L_law_979 0 rfl ?_
                                                    refine z_iload e_L_law_980 3 rfl ?_
                                                    refine z_ic e_L_law_981 ?_
                                                    refine z_iadd e_L_law_982 ?_
                                                    refine z_scr hX e_L_law_983 h (fun h => ?_)
                                                    refine z_aload e_L_law_984 0 rfl ?_
                                                    refine z_iload e_L_law_985 3 rfl ?_
                                                    refine z_ic e_L_law_986 ?_
                                                    refine z_iadd e_L_law_987 ?_
                                                    refine z_scr hX e_L_law_988 h (fun h => ?_)
                                                    obtain ⟨q198, s197, e199, h⟩ := bd_e h
                                                    refine z_callVi (c0 := 0) (As := [.int (xs (x3 + (1 : Int32)).toNatClampNeg), .int (xs (x3 + (2 : Int32)).toNatClampNeg)]) (rest := []) lk_L_116 ob_0 e_L_law_989 (m_X11_placeIs G (xs (x3 + (1 : Int32)).toNatClampNeg) (xs (x3 + (2 : Int32)).toNatClampNeg) σ _ _ e199) (by decide) rfl (Nat.le_of_ble_eq_true rfl) ?_
                                                    refine z_aload e_L_law_992 2 rfl ?_
                                                    refine z_aload e_L_law_993 0 rfl ?_
                                                    refine z_iload e_L_law_994 3 rfl ?_
                                                    refine z_ic e_L_law_995 ?_
                                                    refine z_iadd e_L_law_996 ?_
                                                    refine z_scr hX e_L_law_997 h (fun h => ?_)
                                                    refine z_aload e_L_law_998 0 rfl ?_
                                                    refine z_iload e_L_law_999 3 rfl ?_
                                                    refine z_ic e_L_law_1000 ?_
                                                    refine z_iadd e_L_law_1001 ?_
                                                    refine z_scr hX e_L_law_1002 h (fun h => ?_)
                                                    obtain ⟨q201, s200, e202, h⟩ := bd_e h
                                                    refine z_callVi (c0 := 69) (As := [.int (xs (x3 + (1 : Int32)).toNatClampNeg), .int (xs (x3 + (2 : Int32)).toNatClampNeg)]) (rest := [.int q198]) lk_L_119 ob_69 e_L_law_1003 (m_X12_placeIs G (xs (x3 + (1 : Int32)).toNatClampNeg) (xs (x3 + (2 : Int32)).toNatClampNeg) s197 _ _ e202) (by decide) rfl (Nat.le_of_ble_eq_true rfl) ?_
                                                    refine z_icmp_eq e_L_law_1006 h (fun c203 h => ?_) (fun c203 h => ?_)
                                                    · exact z_sub [0, 1, 2, 3] rfl (p_L_law_1106 hR L xs w18 x3 hw18 hX s200 h)
                                                    · refine z_ic e_L_law_1009 ?_
                                                      exact absurd (congrArg Prod.fst (Option.some.inj h)) (show ¬ (0 : Int32) = 1 by decide)
                                                  · rw [if_neg c196] at h
                                                    by_cases c204 : v2 = (24 : Int32)
                                                    · rw [if_pos c204] at h
                                                      refine z_tin (tgt := 1011) e_L_law_33 (24 : Int32) c204 (978) (by decide +kernel) ?_
                                                      refine z_aload e_L_law_1011 1 rfl ?_
                                                      refine z_aload e_L_law_1012 0 rfl ?_
                                                      refine z_iload e_L_law_1013 3 rfl ?_
                                                      refine z_ic e_L_law_1014 ?_
                                                      refine z_iadd e_L_law_1015 ?_
                                                      refine z_scr hX e_L_law_1016 h (fun h => ?_)
                                                      obtain ⟨q206, s205, e207, h⟩ := bd_e h
                                                      refine z_callVi (c0 := 0) (As := [.int (xs (x3 + (1 : Int32)).toNatClampNeg)]) (rest := []) lk_L_120 ob_0 e_L_law_1017 (m_X11_seed G (xs (x3 + (1 : Int32)).toNatClampNeg) σ _ _ e207) (by decide) rfl (Nat.le_of_ble_eq_true rfl) ?_
                                                      refine z_aload e_L_law_1020 2 rfl ?_
                                                      refine z_aload e_L_law_1021 0 rfl ?_
                                                      refine z_iload e_L_law_1022 3 rfl ?_
                                                      refine z_ic e_L_law_1023 ?_
                                                      refine z_iadd e_L_law_1024 ?_
                                                      refine z_scr hX e_L_law_1025 h (fun h => ?_)
                                                      obtain ⟨q209, s208, e210, h⟩ := bd_e h
                                                      refine z_callVi (c0 := 69) (As := [.int (xs (x3 + (1 : Int32)).toNatClampNeg)]) (rest := [.int q206]) lk_L_123 ob_69 e_L_law_1026 (m_X12_seed G (xs (x3 + (1 : Int32)).toNatClampNeg) s205 _ _ e210) (by decide) rfl (Nat.le_of_ble_eq_true rfl) ?_
                                                      refine z_icmp_eq e_L_law_1029 h (fun c211 h => ?_) (fun c211 h => ?_)
                                                      · exact z_sub [0, 1, 2, 3] rfl (p_L_law_1106 hR L xs w18 x3 hw18 hX s208 h)
                                                      · refine z_ic e_L_law_1032 ?_
                                                        exact absurd (congrArg Prod.fst (Option.some.inj h)) (show ¬ (0 : Int32) = 1 by decide)
                                                    · rw [if_neg c204] at h
                                                      by_cases c212 : v2 = (25 : Int32)
                                                      · rw [if_pos c212] at h
                                                        refine z_tin (tgt := 1034) e_L_law_33 (25 : Int32) c212 (1001) (by decide +kernel) ?_
                                                        refine z_aload e_L_law_1034 1 rfl ?_
                                                        obtain ⟨q214, s213, e215, h⟩ := bd_e h
                                                        refine z_callVi (c0 := 0) (As := []) (rest := []) lk_L_124 ob_0 e_L_law_1035 (m_X11_keep G σ _ _ e215) (by decide) rfl (Nat.le_of_ble_eq_true rfl) ?_
                                                        refine z_aload e_L_law_1038 2 rfl ?_
                                                        obtain ⟨q217, s216, e218, h⟩ := bd_e h
                                                        refine z_callVi (c0 := 69) (As := []) (rest := [.int q214]) lk_L_128 ob_69 e_L_law_1039 (m_X12_keep G s213 _ _ e218) (by decide) rfl (Nat.le_of_ble_eq_true rfl) ?_
                                                        refine z_icmp_eq e_L_law_1042 h (fun c219 h => ?_) (fun c219 h => ?_)
                                                        · exact z_sub [0, 1, 2, 3] rfl (p_L_law_1106 hR L xs w18 x3 hw18 hX s216 h)
                                                        · refine z_ic e_L_law_1045 ?_
                                                          exact absurd (congrArg Prod.fst (Option.some.inj h)) (show ¬ (0 : Int32) = 1 by decide)
                                                      · rw [if_neg c212] at h
                                                        by_cases c220 : v2 = (26 : Int32)
                                                        · rw [if_pos c220] at h
                                                          refine z_tin (tgt := 1047) e_L_law_33 (26 : Int32) c220 (1014) (by decide +kernel) ?_
                                                          refine z_aload e_L_law_1047 1 rfl ?_
                                                          obtain ⟨q222, s221, e223, h⟩ := bd_e h
                                                          refine z_callVi (c0 := 0) (As := []) (rest := []) lk_L_129 ob_0 e_L_law_1048 (m_X11_undo G σ _ _ e223) (by decide) rfl (Nat.le_of_ble_eq_true rfl) ?_
                                                          refine z_aload e_L_law_1051 2 rfl ?_
                                                          obtain ⟨q225, s224, e226, h⟩ := bd_e h
                                                          refine z_callVi (c0 := 69) (As := []) (rest := [.int q222]) lk_L_133 ob_69 e_L_law_1052 (m_X12_undo G s221 _ _ e226) (by decide) rfl (Nat.le_of_ble_eq_true rfl) ?_
                                                          refine z_icmp_eq e_L_law_1055 h (fun c227 h => ?_) (fun c227 h => ?_)
                                                          · exact z_sub [0, 1, 2, 3] rfl (p_L_law_1106 hR L xs w18 x3 hw18 hX s224 h)
                                                          · refine z_ic e_L_law_1058 ?_
                                                            exact absurd (congrArg Prod.fst (Option.some.inj h)) (show ¬ (0 : Int32) = 1 by decide)
                                                        · rw [if_neg c220] at h
                                                          by_cases c228 : v2 = (27 : Int32)
                                                          · rw [if_pos c228] at h
                                                            refine z_tin (tgt := 1060) e_L_law_33 (27 : Int32) c228 (1027) (by decide +kernel) ?_
                                                            refine z_aload e_L_law_1060 1 rfl ?_
                                                            refine z_aload e_L_law_1061 0 rfl ?_
                                                            refine z_iload e_L_law_1062 3 rfl ?_
                                                            refine z_ic e_L_law_1063 ?_
                                                            refine z_iadd e_L_law_1064 ?_
                                                            refine z_scr hX e_L_law_1065 h (fun h => ?_)
                                                            obtain ⟨q230, s229, e231, h⟩ := bd_e h
                                                            refine z_callVi (c0 := 0) (As := [.int (xs (x3 + (1 : Int32)).toNatClampNeg)]) (rest := []) lk_L_134 ob_0 e_L_law_1066 (m_X11_check G (xs (x3 + (1 : Int32)).toNatClampNeg) σ _ _ e231) (by decide) rfl (Nat.le_of_ble_eq_true rfl) ?_
                                                            refine z_aload e_L_law_1069 2 rfl ?_
                                                            refine z_aload e_L_law_1070 0 rfl ?_
                                                            refine z_iload e_L_law_1071 3 rfl ?_
                                                            refine z_ic e_L_law_1072 ?_
                                                            refine z_iadd e_L_law_1073 ?_
                                                            refine z_scr hX e_L_law_1074 h (fun h => ?_)
                                                            obtain ⟨q233, s232, e234, h⟩ := bd_e h
                                                            refine z_callVi (c0 := 69) (As := [.int (xs (x3 + (1 : Int32)).toNatClampNeg)]) (rest := [.int q230]) lk_L_137 ob_69 e_L_law_1075 (m_X12_check G (xs (x3 + (1 : Int32)).toNatClampNeg) s229 _ _ e234) (by decide) rfl (Nat.le_of_ble_eq_true rfl) ?_
                                                            refine z_icmp_eq e_L_law_1078 h (fun c235 h => ?_) (fun c235 h => ?_)
                                                            · exact z_sub [0, 1, 2, 3] rfl (p_L_law_1106 hR L xs w18 x3 hw18 hX s232 h)
                                                            · refine z_ic e_L_law_1081 ?_
                                                              exact absurd (congrArg Prod.fst (Option.some.inj h)) (show ¬ (0 : Int32) = 1 by decide)
                                                          · rw [if_neg c228] at h
                                                            by_cases c236 : v2 = (28 : Int32)
                                                            · rw [if_pos c236] at h
                                                              refine z_tin (tgt := 1083) e_L_law_33 (28 : Int32) c236 (1050) (by decide +kernel) ?_
                                                              refine z_aload e_L_law_1083 1 rfl ?_
                                                              refine z_aload e_L_law_1084 0 rfl ?_
                                                              refine z_iload e_L_law_1085 3 rfl ?_
                                                              refine z_ic e_L_law_1086 ?_
                                                              refine z_iadd e_L_law_1087 ?_
                                                              refine z_scr hX e_L_law_1088 h (fun h => ?_)
                                                              obtain ⟨q238, s237, e239, h⟩ := bd_e h
                                                              refine z_callVi (c0 := 0) (As := [.int (xs (x3 + (1 : Int32)).toNatClampNeg)]) (rest := []) lk_L_138 ob_0 e_L_law_1089 (m_X11_count G (xs (x3 + (1 : Int32)).toNatClampNeg) σ _ _ e239) (by decide) rfl (Nat.le_of_ble_eq_true rfl) ?_
                                                              refine z_aload e_L_law_1092 2 rfl ?_
                                                              refine z_aload e_L_law_1093 0 rfl ?_
                                                              refine z_iload e_L_law_1094 3 rfl ?_
                                                              refine z_ic e_L_law_1095 ?_
                                                              refine z_iadd e_L_law_1096 ?_
                                                              refine z_scr hX e_L_law_1097 h (fun h => ?_)
                                                              obtain ⟨q241, s240, e242, h⟩ := bd_e h
                                                              refine z_callVi (c0 := 69) (As := [.int (xs (x3 + (1 : Int32)).toNatClampNeg)]) (rest := [.int q238]) lk_L_141 ob_69 e_L_law_1098 (m_X12_count G (xs (x3 + (1 : Int32)).toNatClampNeg) s237 _ _ e242) (by decide) rfl (Nat.le_of_ble_eq_true rfl) ?_
                                                              refine z_icmp_eq e_L_law_1101 h (fun c243 h => ?_) (fun c243 h => ?_)
                                                              · exact z_sub [0, 1, 2, 3] rfl (p_L_law_1106 hR L xs w18 x3 hw18 hX s240 h)
                                                              · refine z_ic e_L_law_1104 ?_
                                                                exact absurd (congrArg Prod.fst (Option.some.inj h)) (show ¬ (0 : Int32) = 1 by decide)
                                                            · rw [if_neg c236] at h
                                                              refine z_tout (tgt := 1106) e_L_law_33 (by
                                                                have := lv_neT c3 (show (0 : Int32).toInt = 0 by decide)
                                                                have := lv_neT c12 (show (1 : Int32).toInt = 1 by decide)
                                                                have := lv_neT c20 (show (2 : Int32).toInt = 2 by decide)
                                                                have := lv_neT c32 (show (3 : Int32).toInt = 3 by decide)
                                                                have := lv_neT c40 (show (4 : Int32).toInt = 4 by decide)
                                                                have := lv_neT c48 (show (5 : Int32).toInt = 5 by decide)
                                                                have := lv_neT c56 (show (6 : Int32).toInt = 6 by decide)
                                                                have := lv_neT c64 (show (7 : Int32).toInt = 7 by decide)
                                                                have := lv_neT c72 (show (8 : Int32).toInt = 8 by decide)
                                                                have := lv_neT c80 (show (9 : Int32).toInt = 9 by decide)
                                                                have := lv_neT c88 (show (10 : Int32).toInt = 10 by decide)
                                                                have := lv_neT c96 (show (11 : Int32).toInt = 11 by decide)
                                                                have := lv_neT c104 (show (12 : Int32).toInt = 12 by decide)
                                                                have := lv_neT c112 (show (13 : Int32).toInt = 13 by decide)
                                                                have := lv_neT c120 (show (14 : Int32).toInt = 14 by decide)
                                                                have := lv_neT c128 (show (15 : Int32).toInt = 15 by decide)
                                                                have := lv_neT c136 (show (16 : Int32).toInt = 16 by decide)
                                                                have := lv_neT c144 (show (17 : Int32).toInt = 17 by decide)
                                                                have := lv_neT c156 (show (18 : Int32).toInt = 18 by decide)
                                                                have := lv_neT c164 (show (19 : Int32).toInt = 19 by decide)
                                                                have := lv_neT c172 (show (20 : Int32).toInt = 20 by decide)
                                                                have := lv_neT c180 (show (21 : Int32).toInt = 21 by decide)
                                                                have := lv_neT c188 (show (22 : Int32).toInt = 22 by decide)
                                                                have := lv_neT c196 (show (23 : Int32).toInt = 23 by decide)
                                                                have := lv_neT c204 (show (24 : Int32).toInt = 24 by decide)
                                                                have := lv_neT c212 (show (25 : Int32).toInt = 25 by decide)
                                                                have := lv_neT c220 (show (26 : Int32).toInt = 26 by decide)
                                                                have := lv_neT c228 (show (27 : Int32).toInt = 27 by decide)
                                                                have := lv_neT c236 (show (28 : Int32).toInt = 28 by decide)
                                                                omega) (by decide) ?_
                                                              exact z_sub [0, 1, 2, 3] rfl (p_L_law_1106 hR L xs w18 x3 hw18 hX σ h)
noncomputable def F_L_law_18L (L : Nat) (xs : Nat → Int32) : ((Int32 × zSt) → Option (Int32 × zSt)) → (Int32 × zSt) → Option (Int32 × zSt) := fun w s => F_L_law_18 L xs w s.1 s.2
set_option maxRecDepth 100000 in
theorem l_L_law_18 {G : zG} {C : zC} {b : Nat} {τ : zSt} (hR : zRL G C b) (L : Nat) (xs : Nat → Int32) (hX : zX G C b L xs) : ∀ (N : Nat) (x3 : Int32) (σ : zSt), zfix (F_L_law_18L L xs) N (x3, σ) = some ((1 : Int32), τ) → zAW G 2000 RL cL_law 4 C 18 [(0, .ref b), (1, .ref (zad G 0)), (2, .ref (zad G 69)), (3, .int x3)] [] σ := by
  intro N
  induction N with
  | zero =>
    intro x3 σ h
    exact nomatch (show (none : Option (Int32 × zSt)) = some ((1 : Int32), τ) from h)
  | succ N ih =>
    intro x3 σ h
    exact b_L_law_18 hR L xs (zfix (F_L_law_18L L xs) N) ih hX x3 σ h
