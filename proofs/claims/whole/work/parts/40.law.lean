/-! the law's loop, printed by wip/whole/gen_law.py -/
def rdS (V : eV) (i : Int32) : Option Int32 := if i < 0 ∨ vN V ≤ i.toNatClampNeg then none else some (vX V i.toNatClampNeg)
theorem p_xld {V : eV} {K : kX} {pc : Nat} {ls : List (Nat × Value)} {st : List Value} {h h' : aH} {r : Option Value} {i v : Int32} (hd : decode K.1 pc = .ok (.iaload, 1)) (e : rdS V i = some v) (k : gG V K (pc + 1) ls (.int v :: st) h r h') : gG V K pc ls (.int i :: .ref (vS V) :: st) h r h' := by
  unfold rdS at e
  split at e
  · cases e
  · rename_i hi
    cases e
    exact g_xld hd hi k
abbrev k_L_law (nm : String) : kX := (cL_law, "WhoseHourItIsLaw", nm, some .boolean, 4, 21)
def f_L_law_L18 (V : eV) : Nat → Int32 → mM → Option ((Int32 × mM) ⊕ (mM))
  | 0, _, _ => none
  | n + 1, b3, m =>
      if ((vN V).toInt32 - (4 : Int32)) < b3 then (
      some (.inr m))
      else (
      bnd (rdS V b3) fun v1 =>
      if (v1 &&& (63 : Int32)) = (0 : Int32) then (
      bnd (rdS V (b3 + (1 : Int32))) fun v4 =>
      bnd (rdS V (b3 + (2 : Int32))) fun v6 =>
      bnd (rdS V (b3 + (3 : Int32))) fun v8 =>
      bnd (f_X8_feed v4 ((v6.toInt64 <<< ((32 : Int32).toInt64 &&& 63)) ||| (v8.toInt64 &&& (4294967295 : Int64))) m) fun q10 =>
      bnd (rdS V (b3 + (1 : Int32))) fun v12 =>
      bnd (rdS V (b3 + (2 : Int32))) fun v14 =>
      bnd (rdS V (b3 + (3 : Int32))) fun v16 =>
      bnd (f_X9_feed v12 ((v14.toInt64 <<< ((32 : Int32).toInt64 &&& 63)) ||| (v16.toInt64 &&& (4294967295 : Int64))) q10.2) fun q18 =>
      if q10.1 = q18.1 then (
      f_L_law_L18 V n (b3 + (4 : Int32)) q18.2)
      else (
      some (.inl ((0 : Int32), q18.2))))
      else (
      if (v1 &&& (63 : Int32)) = (1 : Int32) then (
      bnd (f_X8_town m) fun q22 =>
      bnd (f_X9_town q22.2) fun q24 =>
      if q22.1 = q24.1 then (
      f_L_law_L18 V n (b3 + (4 : Int32)) q24.2)
      else (
      some (.inl ((0 : Int32), q24.2))))
      else (
      if (v1 &&& (63 : Int32)) = (2 : Int32) then (
      bnd (rdS V (b3 + (1 : Int32))) fun v28 =>
      bnd (rdS V (b3 + (2 : Int32))) fun v30 =>
      bnd (f_X8_holder v28 v30 m) fun q32 =>
      bnd (rdS V (b3 + (1 : Int32))) fun v34 =>
      bnd (rdS V (b3 + (2 : Int32))) fun v36 =>
      bnd (f_X9_holder v34 v36 q32.2) fun q38 =>
      if q32.1 = q38.1 then (
      f_L_law_L18 V n (b3 + (4 : Int32)) q38.2)
      else (
      some (.inl ((0 : Int32), q38.2))))
      else (
      if (v1 &&& (63 : Int32)) = (3 : Int32) then (
      bnd (rdS V (b3 + (1 : Int32))) fun v42 =>
      bnd (rdS V (b3 + (2 : Int32))) fun v44 =>
      bnd (f_X8_hour v42 v44 m) fun q46 =>
      bnd (rdS V (b3 + (1 : Int32))) fun v48 =>
      bnd (rdS V (b3 + (2 : Int32))) fun v50 =>
      bnd (f_X9_hour v48 v50 q46.2) fun q52 =>
      if q46.1 = q52.1 then (
      f_L_law_L18 V n (b3 + (4 : Int32)) q52.2)
      else (
      some (.inl ((0 : Int32), q52.2))))
      else (
      if (v1 &&& (63 : Int32)) = (4 : Int32) then (
      bnd (rdS V (b3 + (1 : Int32))) fun v56 =>
      bnd (rdS V (b3 + (2 : Int32))) fun v58 =>
      bnd (f_X8_work v56 v58 m) fun q60 =>
      bnd (rdS V (b3 + (1 : Int32))) fun v62 =>
      bnd (rdS V (b3 + (2 : Int32))) fun v64 =>
      bnd (f_X9_work v62 v64 q60.2) fun q66 =>
      if q60.1 = q66.1 then (
      f_L_law_L18 V n (b3 + (4 : Int32)) q66.2)
      else (
      some (.inl ((0 : Int32), q66.2))))
      else (
      if (v1 &&& (63 : Int32)) = (5 : Int32) then (
      bnd (rdS V (b3 + (1 : Int32))) fun v70 =>
      bnd (rdS V (b3 + (2 : Int32))) fun v72 =>
      bnd (f_X8_price v70 v72 m) fun q74 =>
      bnd (rdS V (b3 + (1 : Int32))) fun v76 =>
      bnd (rdS V (b3 + (2 : Int32))) fun v78 =>
      bnd (f_X9_price v76 v78 q74.2) fun q80 =>
      if q74.1 = q80.1 then (
      f_L_law_L18 V n (b3 + (4 : Int32)) q80.2)
      else (
      some (.inl ((0 : Int32), q80.2))))
      else (
      if (v1 &&& (63 : Int32)) = (6 : Int32) then (
      bnd (rdS V (b3 + (1 : Int32))) fun v84 =>
      bnd (f_X8_strike v84 m) fun q86 =>
      bnd (rdS V (b3 + (1 : Int32))) fun v88 =>
      bnd (f_X9_strike v88 q86.2) fun q90 =>
      if q86.1 = q90.1 then (
      f_L_law_L18 V n (b3 + (4 : Int32)) q90.2)
      else (
      some (.inl ((0 : Int32), q90.2))))
      else (
      if (v1 &&& (63 : Int32)) = (7 : Int32) then (
      bnd (rdS V (b3 + (1 : Int32))) fun v94 =>
      bnd (rdS V (b3 + (2 : Int32))) fun v96 =>
      bnd (f_X8_bell v94 v96 m) fun q98 =>
      bnd (rdS V (b3 + (1 : Int32))) fun v100 =>
      bnd (rdS V (b3 + (2 : Int32))) fun v102 =>
      bnd (f_X9_bell v100 v102 q98.2) fun q104 =>
      if q98.1 = q104.1 then (
      f_L_law_L18 V n (b3 + (4 : Int32)) q104.2)
      else (
      some (.inl ((0 : Int32), q104.2))))
      else (
      if (v1 &&& (63 : Int32)) = (8 : Int32) then (
      bnd (rdS V (b3 + (1 : Int32))) fun v108 =>
      bnd (rdS V (b3 + (2 : Int32))) fun v110 =>
      bnd (rdS V (b3 + (3 : Int32))) fun v112 =>
      bnd (f_X8_leave v108 v110 v112 m) fun q114 =>
      bnd (rdS V (b3 + (1 : Int32))) fun v116 =>
      bnd (rdS V (b3 + (2 : Int32))) fun v118 =>
      bnd (rdS V (b3 + (3 : Int32))) fun v120 =>
      bnd (f_X9_leave v116 v118 v120 q114.2) fun q122 =>
      if q114.1 = q122.1 then (
      f_L_law_L18 V n (b3 + (4 : Int32)) q122.2)
      else (
      some (.inl ((0 : Int32), q122.2))))
      else (
      if (v1 &&& (63 : Int32)) = (9 : Int32) then (
      bnd (rdS V (b3 + (1 : Int32))) fun v126 =>
      bnd (f_X8_one v126 m) fun q128 =>
      bnd (rdS V (b3 + (1 : Int32))) fun v130 =>
      bnd (f_X9_one v130 q128.2) fun q132 =>
      if q128.1 = q132.1 then (
      f_L_law_L18 V n (b3 + (4 : Int32)) q132.2)
      else (
      some (.inl ((0 : Int32), q132.2))))
      else (
      if (v1 &&& (63 : Int32)) = (10 : Int32) then (
      bnd (rdS V (b3 + (1 : Int32))) fun v136 =>
      bnd (f_X8_cost v136 m) fun q138 =>
      bnd (rdS V (b3 + (1 : Int32))) fun v140 =>
      bnd (f_X9_cost v140 q138.2) fun q142 =>
      if q138.1 = q142.1 then (
      f_L_law_L18 V n (b3 + (4 : Int32)) q142.2)
      else (
      some (.inl ((0 : Int32), q142.2))))
      else (
      if (v1 &&& (63 : Int32)) = (11 : Int32) then (
      bnd (rdS V (b3 + (1 : Int32))) fun v146 =>
      bnd (f_X8_net v146 m) fun q148 =>
      bnd (rdS V (b3 + (1 : Int32))) fun v150 =>
      bnd (f_X9_net v150 q148.2) fun q152 =>
      if q148.1 = q152.1 then (
      f_L_law_L18 V n (b3 + (4 : Int32)) q152.2)
      else (
      some (.inl ((0 : Int32), q152.2))))
      else (
      if (v1 &&& (63 : Int32)) = (12 : Int32) then (
      bnd (rdS V (b3 + (1 : Int32))) fun v156 =>
      bnd (f_X8_bars v156 m) fun q158 =>
      bnd (rdS V (b3 + (1 : Int32))) fun v160 =>
      bnd (f_X9_bars v160 q158.2) fun q162 =>
      if q158.1 = q162.1 then (
      f_L_law_L18 V n (b3 + (4 : Int32)) q162.2)
      else (
      some (.inl ((0 : Int32), q162.2))))
      else (
      if (v1 &&& (63 : Int32)) = (13 : Int32) then (
      bnd (f_X8_all m) fun q166 =>
      bnd (f_X9_all q166.2) fun q168 =>
      if q166.1 = q168.1 then (
      f_L_law_L18 V n (b3 + (4 : Int32)) q168.2)
      else (
      some (.inl ((0 : Int32), q168.2))))
      else (
      if (v1 &&& (63 : Int32)) = (14 : Int32) then (
      bnd (rdS V (b3 + (1 : Int32))) fun v172 =>
      bnd (f_X8_begin v172 m) fun q174 =>
      bnd (rdS V (b3 + (1 : Int32))) fun v176 =>
      bnd (f_X9_begin v176 q174.2) fun q178 =>
      if q174.1 = q178.1 then (
      f_L_law_L18 V n (b3 + (4 : Int32)) q178.2)
      else (
      some (.inl ((0 : Int32), q178.2))))
      else (
      if (v1 &&& (63 : Int32)) = (15 : Int32) then (
      bnd (rdS V (b3 + (1 : Int32))) fun v182 =>
      bnd (f_X8_ask v182 m) fun q184 =>
      bnd (rdS V (b3 + (1 : Int32))) fun v186 =>
      bnd (f_X9_ask v186 q184.2) fun q188 =>
      if q184.1 = q188.1 then (
      f_L_law_L18 V n (b3 + (4 : Int32)) q188.2)
      else (
      some (.inl ((0 : Int32), q188.2))))
      else (
      if (v1 &&& (63 : Int32)) = (16 : Int32) then (
      bnd (f_X8_rest m) fun q192 =>
      bnd (f_X9_rest q192.2) fun q194 =>
      if q192.1 = q194.1 then (
      f_L_law_L18 V n (b3 + (4 : Int32)) q194.2)
      else (
      some (.inl ((0 : Int32), q194.2))))
      else (
      if (v1 &&& (63 : Int32)) = (17 : Int32) then (
      bnd (rdS V (b3 + (1 : Int32))) fun v198 =>
      bnd (f_X8_stop v198 m) fun q200 =>
      bnd (rdS V (b3 + (1 : Int32))) fun v202 =>
      bnd (f_X9_stop v202 q200.2) fun q204 =>
      if q200.1 = q204.1 then (
      f_L_law_L18 V n (b3 + (4 : Int32)) q204.2)
      else (
      some (.inl ((0 : Int32), q204.2))))
      else (
      if (v1 &&& (63 : Int32)) = (18 : Int32) then (
      bnd (f_X8_stopAll m) fun q208 =>
      bnd (f_X9_stopAll q208.2) fun q210 =>
      if q208.1 = q210.1 then (
      f_L_law_L18 V n (b3 + (4 : Int32)) q210.2)
      else (
      some (.inl ((0 : Int32), q210.2))))
      else (
      if (v1 &&& (63 : Int32)) = (19 : Int32) then (
      bnd (rdS V (b3 + (1 : Int32))) fun v214 =>
      bnd (rdS V (b3 + (2 : Int32))) fun v216 =>
      bnd (rdS V (b3 + (3 : Int32))) fun v218 =>
      bnd (f_X8_power v214 v216 v218 m) fun q220 =>
      bnd (rdS V (b3 + (1 : Int32))) fun v222 =>
      bnd (rdS V (b3 + (2 : Int32))) fun v224 =>
      bnd (rdS V (b3 + (3 : Int32))) fun v226 =>
      bnd (f_X9_power v222 v224 v226 q220.2) fun q228 =>
      if q220.1 = q228.1 then (
      f_L_law_L18 V n (b3 + (4 : Int32)) q228.2)
      else (
      some (.inl ((0 : Int32), q228.2))))
      else (
      if (v1 &&& (63 : Int32)) = (20 : Int32) then (
      bnd (rdS V (b3 + (1 : Int32))) fun v232 =>
      bnd (f_X8_wed v232 m) fun q234 =>
      bnd (rdS V (b3 + (1 : Int32))) fun v236 =>
      bnd (f_X9_wed v236 q234.2) fun q238 =>
      if q234.1 = q238.1 then (
      f_L_law_L18 V n (b3 + (4 : Int32)) q238.2)
      else (
      some (.inl ((0 : Int32), q238.2))))
      else (
      if (v1 &&& (63 : Int32)) = (21 : Int32) then (
      bnd (rdS V (b3 + (1 : Int32))) fun v242 =>
      bnd (rdS V (b3 + (2 : Int32))) fun v244 =>
      bnd (f_X8_marry v242 v244 m) fun q246 =>
      bnd (rdS V (b3 + (1 : Int32))) fun v248 =>
      bnd (rdS V (b3 + (2 : Int32))) fun v250 =>
      bnd (f_X9_marry v248 v250 q246.2) fun q252 =>
      if q246.1 = q252.1 then (
      f_L_law_L18 V n (b3 + (4 : Int32)) q252.2)
      else (
      some (.inl ((0 : Int32), q252.2))))
      else (
      if (v1 &&& (63 : Int32)) = (22 : Int32) then (
      bnd (rdS V (b3 + (1 : Int32))) fun v256 =>
      bnd (f_X8_wedTo v256 m) fun q258 =>
      bnd (rdS V (b3 + (1 : Int32))) fun v260 =>
      bnd (f_X9_wedTo v260 q258.2) fun q262 =>
      if q258.1 = q262.1 then (
      f_L_law_L18 V n (b3 + (4 : Int32)) q262.2)
      else (
      some (.inl ((0 : Int32), q262.2))))
      else (
      if (v1 &&& (63 : Int32)) = (23 : Int32) then (
      bnd (rdS V (b3 + (1 : Int32))) fun v266 =>
      bnd (rdS V (b3 + (2 : Int32))) fun v268 =>
      bnd (f_X8_heirs v266 v268 m) fun q270 =>
      bnd (rdS V (b3 + (1 : Int32))) fun v272 =>
      bnd (rdS V (b3 + (2 : Int32))) fun v274 =>
      bnd (f_X9_heirs v272 v274 q270.2) fun q276 =>
      if q270.1 = q276.1 then (
      f_L_law_L18 V n (b3 + (4 : Int32)) q276.2)
      else (
      some (.inl ((0 : Int32), q276.2))))
      else (
      if (v1 &&& (63 : Int32)) = (24 : Int32) then (
      bnd (f_X8_give m) fun q280 =>
      bnd (f_X9_give q280.2) fun q282 =>
      if q280.1 = q282.1 then (
      f_L_law_L18 V n (b3 + (4 : Int32)) q282.2)
      else (
      some (.inl ((0 : Int32), q282.2))))
      else (
      if (v1 &&& (63 : Int32)) = (25 : Int32) then (
      bnd (rdS V (b3 + (1 : Int32))) fun v286 =>
      bnd (rdS V (b3 + (2 : Int32))) fun v288 =>
      bnd (f_X8_together v286 v288 m) fun q290 =>
      bnd (rdS V (b3 + (1 : Int32))) fun v292 =>
      bnd (rdS V (b3 + (2 : Int32))) fun v294 =>
      bnd (f_X9_together v292 v294 q290.2) fun q296 =>
      if q290.1 = q296.1 then (
      f_L_law_L18 V n (b3 + (4 : Int32)) q296.2)
      else (
      some (.inl ((0 : Int32), q296.2))))
      else (
      if (v1 &&& (63 : Int32)) = (26 : Int32) then (
      bnd (rdS V (b3 + (1 : Int32))) fun v300 =>
      bnd (rdS V (b3 + (2 : Int32))) fun v302 =>
      bnd (f_X8_season v300 v302 m) fun q304 =>
      bnd (rdS V (b3 + (1 : Int32))) fun v306 =>
      bnd (rdS V (b3 + (2 : Int32))) fun v308 =>
      bnd (f_X9_season v306 v308 q304.2) fun q310 =>
      if q304.1 = q310.1 then (
      f_L_law_L18 V n (b3 + (4 : Int32)) q310.2)
      else (
      some (.inl ((0 : Int32), q310.2))))
      else (
      if (v1 &&& (63 : Int32)) = (27 : Int32) then (
      bnd (f_X8_year m) fun q314 =>
      bnd (f_X9_year q314.2) fun q316 =>
      if q314.1 = q316.1 then (
      f_L_law_L18 V n (b3 + (4 : Int32)) q316.2)
      else (
      some (.inl ((0 : Int32), q316.2))))
      else (
      if (v1 &&& (63 : Int32)) = (28 : Int32) then (
      bnd (rdS V (b3 + (1 : Int32))) fun v320 =>
      bnd (rdS V (b3 + (2 : Int32))) fun v322 =>
      bnd (f_X8_years v320 v322 m) fun q324 =>
      bnd (rdS V (b3 + (1 : Int32))) fun v326 =>
      bnd (rdS V (b3 + (2 : Int32))) fun v328 =>
      bnd (f_X9_years v326 v328 q324.2) fun q330 =>
      if q324.1 = q330.1 then (
      f_L_law_L18 V n (b3 + (4 : Int32)) q330.2)
      else (
      some (.inl ((0 : Int32), q330.2))))
      else (
      if (v1 &&& (63 : Int32)) = (29 : Int32) then (
      bnd (rdS V (b3 + (1 : Int32))) fun v334 =>
      bnd (f_X8_row v334 m) fun q336 =>
      bnd (rdS V (b3 + (1 : Int32))) fun v338 =>
      bnd (f_X9_row v338 q336.2) fun q340 =>
      if q336.1 = q340.1 then (
      f_L_law_L18 V n (b3 + (4 : Int32)) q340.2)
      else (
      some (.inl ((0 : Int32), q340.2))))
      else (
      if (v1 &&& (63 : Int32)) = (30 : Int32) then (
      bnd (rdS V (b3 + (1 : Int32))) fun v344 =>
      bnd (f_X8_judge v344 m) fun q346 =>
      bnd (rdS V (b3 + (1 : Int32))) fun v348 =>
      bnd (f_X9_judge v348 q346.2) fun q350 =>
      if q346.1 = q350.1 then (
      f_L_law_L18 V n (b3 + (4 : Int32)) q350.2)
      else (
      some (.inl ((0 : Int32), q350.2))))
      else (
      if (v1 &&& (63 : Int32)) = (31 : Int32) then (
      bnd (f_X8_image m) fun q354 =>
      bnd (f_X9_image q354.2) fun q356 =>
      if q354.1 = q356.1 then (
      f_L_law_L18 V n (b3 + (4 : Int32)) q356.2)
      else (
      some (.inl ((0 : Int32), q356.2))))
      else (
      if (v1 &&& (63 : Int32)) = (32 : Int32) then (
      bnd (f_X8_on m) fun q360 =>
      bnd (f_X9_on q360.2) fun q362 =>
      if q360.1 = q362.1 then (
      f_L_law_L18 V n (b3 + (4 : Int32)) q362.2)
      else (
      some (.inl ((0 : Int32), q362.2))))
      else (
      if (v1 &&& (63 : Int32)) = (33 : Int32) then (
      bnd (rdS V (b3 + (1 : Int32))) fun v366 =>
      bnd (f_X8_count v366 m) fun q368 =>
      bnd (rdS V (b3 + (1 : Int32))) fun v370 =>
      bnd (f_X9_count v370 m) fun q372 =>
      if q368 = q372 then (
      f_L_law_L18 V n (b3 + (4 : Int32)) m)
      else (
      some (.inl ((0 : Int32), m))))
      else (
      f_L_law_L18 V n (b3 + (4 : Int32)) m)))))))))))))))))))))))))))))))))))
set_option maxRecDepth 100000 in
theorem t_L_law_L18 {V : eV} {nm : String} {r : Option Value} {h' : aH} : ∀ (n : Nat) (b3 : Int32) (m : mM) (o : (Int32 × mM) ⊕ (mM)), f_L_law_L18 V n b3 m = some o → lxI hS o r h' (fun x => gG V (k_L_law nm) 1072 [] [] (hS x) r h') → gG V (k_L_law nm) 18 [(0, .ref (vS V)), (1, .ref (vB V + 0)), (2, .ref (vB V + 187)), (3, .int b3)] [] (hS m) r h' := by
  intro n
  induction n with
  | zero => intro b3 m o hf; cases hf
  | succ n ih =>
    intro b3 m o hf hk
    rw [f_L_law_L18] at hf
    refine g_iload_n 3 dL_law_18 rfl rfl ?_
    refine g_aload_n 0 dL_law_19 rfl rfl ?_
    refine g_xlen dL_law_20 rfl ?_
    refine g_iconst (v := 4) dL_law_21 rfl ?_
    refine g_isub dL_law_22 ?_
    refine g_icmp_gt (tgt := 1072) dL_law_23 (by decide) (fun c375 => ?_) (fun c375 => ?_)
    · replace hf := (if_pos c375).symm.trans hf
      cases hf
      refine g_sub [] rfl ?_
      exact hk
    · replace hf := (if_neg c375).symm.trans hf
      refine g_aload_n 0 dL_law_26 rfl rfl ?_
      refine g_iload_n 3 dL_law_27 rfl rfl ?_
      obtain ⟨v1, e2, hf⟩ := bnd_some hf
      refine p_xld dL_law_28 e2 ?_
      refine g_bipush (v := 63) dL_law_29 rfl ?_
      refine g_iand dL_law_31 ?_
      by_cases c3 : (v1 &&& (63 : Int32)) = (0 : Int32)
      · replace hf := (if_pos c3).symm.trans hf
        refine g_tableIn (tgt := 184) (off := 152) dL_law_32 (by rw [c3]; decide) (by rw [c3]; decide) (by rw [c3]; rfl) (by decide) ?_
        refine g_aload_n 1 dL_law_184 rfl rfl ?_
        refine g_aload_n 0 dL_law_185 rfl rfl ?_
        refine g_iload_n 3 dL_law_186 rfl rfl ?_
        refine g_iconst (v := 1) dL_law_187 rfl ?_
        refine g_iadd dL_law_188 ?_
        obtain ⟨v4, e5, hf⟩ := bnd_some hf
        refine p_xld dL_law_189 e5 ?_
        refine g_aload_n 0 dL_law_190 rfl rfl ?_
        refine g_iload_n 3 dL_law_191 rfl rfl ?_
        refine g_iconst (v := 2) dL_law_192 rfl ?_
        refine g_iadd dL_law_193 ?_
        obtain ⟨v6, e7, hf⟩ := bnd_some hf
        refine p_xld dL_law_194 e7 ?_
        refine g_i2l dL_law_195 ?_
        refine g_bipush (v := 32) dL_law_196 rfl ?_
        refine g_lshl dL_law_198 ?_
        refine g_aload_n 0 dL_law_199 rfl rfl ?_
        refine g_iload_n 3 dL_law_200 rfl rfl ?_
        refine g_iconst (v := 3) dL_law_201 rfl ?_
        refine g_iadd dL_law_202 ?_
        obtain ⟨v8, e9, hf⟩ := bnd_some hf
        refine p_xld dL_law_203 e9 ?_
        refine g_i2l dL_law_204 ?_
        refine g_ldc2 w_1301 dL_law_205 ?_
        refine g_land dL_law_208 ?_
        refine g_lor dL_law_209 ?_
        obtain ⟨q10, e11, hf⟩ := bnd_some hf
        refine p_callV (As := [.int v4, .long ((v6.toInt64 <<< ((32 : Int32).toInt64 &&& 63)) ||| (v8.toInt64 &&& (4294967295 : Int64)))]) (rest := []) (t_X8_feed e11) cw_351 w_352 w_353 ob_0 rfl (Nat.le_of_ble_eq_true rfl) rfl rfl (Nat.le_of_ble_eq_true rfl) dL_law_210 ?_
        refine g_aload_n 2 dL_law_213 rfl rfl ?_
        refine g_aload_n 0 dL_law_214 rfl rfl ?_
        refine g_iload_n 3 dL_law_215 rfl rfl ?_
        refine g_iconst (v := 1) dL_law_216 rfl ?_
        refine g_iadd dL_law_217 ?_
        obtain ⟨v12, e13, hf⟩ := bnd_some hf
        refine p_xld dL_law_218 e13 ?_
        refine g_aload_n 0 dL_law_219 rfl rfl ?_
        refine g_iload_n 3 dL_law_220 rfl rfl ?_
        refine g_iconst (v := 2) dL_law_221 rfl ?_
        refine g_iadd dL_law_222 ?_
        obtain ⟨v14, e15, hf⟩ := bnd_some hf
        refine p_xld dL_law_223 e15 ?_
        refine g_i2l dL_law_224 ?_
        refine g_bipush (v := 32) dL_law_225 rfl ?_
        refine g_lshl dL_law_227 ?_
        refine g_aload_n 0 dL_law_228 rfl rfl ?_
        refine g_iload_n 3 dL_law_229 rfl rfl ?_
        refine g_iconst (v := 3) dL_law_230 rfl ?_
        refine g_iadd dL_law_231 ?_
        obtain ⟨v16, e17, hf⟩ := bnd_some hf
        refine p_xld dL_law_232 e17 ?_
        refine g_i2l dL_law_233 ?_
        refine g_ldc2 w_1301 dL_law_234 ?_
        refine g_land dL_law_237 ?_
        refine g_lor dL_law_238 ?_
        obtain ⟨q18, e19, hf⟩ := bnd_some hf
        refine p_callV (As := [.int v12, .long ((v14.toInt64 <<< ((32 : Int32).toInt64 &&& 63)) ||| (v16.toInt64 &&& (4294967295 : Int64)))]) (rest := [.int q10.1]) (t_X9_feed e19) cw_996 w_997 w_998 ob_187 rfl (Nat.le_of_ble_eq_true rfl) rfl rfl (Nat.le_of_ble_eq_true rfl) dL_law_239 ?_
        refine g_icmp_eq (tgt := 1066) dL_law_242 (by decide) (fun c20 => ?_) (fun c20 => ?_)
        · replace hf := (if_pos c20).symm.trans hf
          refine g_iinc (q := 3) (v := (b3 + (4 : Int32))) dL_law_1066 rfl rfl (Nat.le_of_ble_eq_true rfl) rfl ?_
          refine g_goto (tgt := 18) dL_law_1069 (by decide) ?_
          refine g_sub [1, 2, 3, 0] rfl ?_
          exact ih (b3 + (4 : Int32)) q18.2 _ hf hk
        · replace hf := (if_neg c20).symm.trans hf
          refine g_iconst (v := 0) dL_law_245 rfl ?_
          cases hf
          obtain ⟨rfl, rfl⟩ := hk
          exact g_iret dL_law_246 .boolean rfl rfl
      · replace hf := (if_neg c3).symm.trans hf
        by_cases c21 : (v1 &&& (63 : Int32)) = (1 : Int32)
        · replace hf := (if_pos c21).symm.trans hf
          refine g_tableIn (tgt := 247) (off := 215) dL_law_32 (by rw [c21]; decide) (by rw [c21]; decide) (by rw [c21]; rfl) (by decide) ?_
          refine g_aload_n 1 dL_law_247 rfl rfl ?_
          obtain ⟨q22, e23, hf⟩ := bnd_some hf
          refine p_callV (As := []) (rest := []) (t_X8_town e23) cw_364 w_365 w_366 ob_0 rfl (Nat.le_of_ble_eq_true rfl) rfl rfl (Nat.le_of_ble_eq_true rfl) dL_law_248 ?_
          refine g_aload_n 2 dL_law_251 rfl rfl ?_
          obtain ⟨q24, e25, hf⟩ := bnd_some hf
          refine p_callV (As := []) (rest := [.int q22.1]) (t_X9_town e25) cw_1005 w_1006 w_1007 ob_187 rfl (Nat.le_of_ble_eq_true rfl) rfl rfl (Nat.le_of_ble_eq_true rfl) dL_law_252 ?_
          refine g_icmp_eq (tgt := 1066) dL_law_255 (by decide) (fun c26 => ?_) (fun c26 => ?_)
          · replace hf := (if_pos c26).symm.trans hf
            refine g_iinc (q := 3) (v := (b3 + (4 : Int32))) dL_law_1066 rfl rfl (Nat.le_of_ble_eq_true rfl) rfl ?_
            refine g_goto (tgt := 18) dL_law_1069 (by decide) ?_
            refine g_sub [1, 2, 3, 0] rfl ?_
            exact ih (b3 + (4 : Int32)) q24.2 _ hf hk
          · replace hf := (if_neg c26).symm.trans hf
            refine g_iconst (v := 0) dL_law_258 rfl ?_
            cases hf
            obtain ⟨rfl, rfl⟩ := hk
            exact g_iret dL_law_259 .boolean rfl rfl
        · replace hf := (if_neg c21).symm.trans hf
          by_cases c27 : (v1 &&& (63 : Int32)) = (2 : Int32)
          · replace hf := (if_pos c27).symm.trans hf
            refine g_tableIn (tgt := 260) (off := 228) dL_law_32 (by rw [c27]; decide) (by rw [c27]; decide) (by rw [c27]; rfl) (by decide) ?_
            refine g_aload_n 1 dL_law_260 rfl rfl ?_
            refine g_aload_n 0 dL_law_261 rfl rfl ?_
            refine g_iload_n 3 dL_law_262 rfl rfl ?_
            refine g_iconst (v := 1) dL_law_263 rfl ?_
            refine g_iadd dL_law_264 ?_
            obtain ⟨v28, e29, hf⟩ := bnd_some hf
            refine p_xld dL_law_265 e29 ?_
            refine g_aload_n 0 dL_law_266 rfl rfl ?_
            refine g_iload_n 3 dL_law_267 rfl rfl ?_
            refine g_iconst (v := 2) dL_law_268 rfl ?_
            refine g_iadd dL_law_269 ?_
            obtain ⟨v30, e31, hf⟩ := bnd_some hf
            refine p_xld dL_law_270 e31 ?_
            obtain ⟨q32, e33, hf⟩ := bnd_some hf
            refine p_callV (As := [.int v28, .int v30]) (rest := []) (t_X8_holder e33) cw_545 w_546 w_547 ob_0 rfl (Nat.le_of_ble_eq_true rfl) rfl rfl (Nat.le_of_ble_eq_true rfl) dL_law_271 ?_
            refine g_aload_n 2 dL_law_274 rfl rfl ?_
            refine g_aload_n 0 dL_law_275 rfl rfl ?_
            refine g_iload_n 3 dL_law_276 rfl rfl ?_
            refine g_iconst (v := 1) dL_law_277 rfl ?_
            refine g_iadd dL_law_278 ?_
            obtain ⟨v34, e35, hf⟩ := bnd_some hf
            refine p_xld dL_law_279 e35 ?_
            refine g_aload_n 0 dL_law_280 rfl rfl ?_
            refine g_iload_n 3 dL_law_281 rfl rfl ?_
            refine g_iconst (v := 2) dL_law_282 rfl ?_
            refine g_iadd dL_law_283 ?_
            obtain ⟨v36, e37, hf⟩ := bnd_some hf
            refine p_xld dL_law_284 e37 ?_
            obtain ⟨q38, e39, hf⟩ := bnd_some hf
            refine p_callV (As := [.int v34, .int v36]) (rest := [.int q32.1]) (t_X9_holder e39) cw_1049 w_1050 w_1051 ob_187 rfl (Nat.le_of_ble_eq_true rfl) rfl rfl (Nat.le_of_ble_eq_true rfl) dL_law_285 ?_
            refine g_icmp_eq (tgt := 1066) dL_law_288 (by decide) (fun c40 => ?_) (fun c40 => ?_)
            · replace hf := (if_pos c40).symm.trans hf
              refine g_iinc (q := 3) (v := (b3 + (4 : Int32))) dL_law_1066 rfl rfl (Nat.le_of_ble_eq_true rfl) rfl ?_
              refine g_goto (tgt := 18) dL_law_1069 (by decide) ?_
              refine g_sub [1, 2, 3, 0] rfl ?_
              exact ih (b3 + (4 : Int32)) q38.2 _ hf hk
            · replace hf := (if_neg c40).symm.trans hf
              refine g_iconst (v := 0) dL_law_291 rfl ?_
              cases hf
              obtain ⟨rfl, rfl⟩ := hk
              exact g_iret dL_law_292 .boolean rfl rfl
          · replace hf := (if_neg c27).symm.trans hf
            by_cases c41 : (v1 &&& (63 : Int32)) = (3 : Int32)
            · replace hf := (if_pos c41).symm.trans hf
              refine g_tableIn (tgt := 293) (off := 261) dL_law_32 (by rw [c41]; decide) (by rw [c41]; decide) (by rw [c41]; rfl) (by decide) ?_
              refine g_aload_n 1 dL_law_293 rfl rfl ?_
              refine g_aload_n 0 dL_law_294 rfl rfl ?_
              refine g_iload_n 3 dL_law_295 rfl rfl ?_
              refine g_iconst (v := 1) dL_law_296 rfl ?_
              refine g_iadd dL_law_297 ?_
              obtain ⟨v42, e43, hf⟩ := bnd_some hf
              refine p_xld dL_law_298 e43 ?_
              refine g_aload_n 0 dL_law_299 rfl rfl ?_
              refine g_iload_n 3 dL_law_300 rfl rfl ?_
              refine g_iconst (v := 2) dL_law_301 rfl ?_
              refine g_iadd dL_law_302 ?_
              obtain ⟨v44, e45, hf⟩ := bnd_some hf
              refine p_xld dL_law_303 e45 ?_
              obtain ⟨q46, e47, hf⟩ := bnd_some hf
              refine p_callV (As := [.int v42, .int v44]) (rest := []) (t_X8_hour e47) cw_614 w_615 w_616 ob_0 rfl (Nat.le_of_ble_eq_true rfl) rfl rfl (Nat.le_of_ble_eq_true rfl) dL_law_304 ?_
              refine g_aload_n 2 dL_law_307 rfl rfl ?_
              refine g_aload_n 0 dL_law_308 rfl rfl ?_
              refine g_iload_n 3 dL_law_309 rfl rfl ?_
              refine g_iconst (v := 1) dL_law_310 rfl ?_
              refine g_iadd dL_law_311 ?_
              obtain ⟨v48, e49, hf⟩ := bnd_some hf
              refine p_xld dL_law_312 e49 ?_
              refine g_aload_n 0 dL_law_313 rfl rfl ?_
              refine g_iload_n 3 dL_law_314 rfl rfl ?_
              refine g_iconst (v := 2) dL_law_315 rfl ?_
              refine g_iadd dL_law_316 ?_
              obtain ⟨v50, e51, hf⟩ := bnd_some hf
              refine p_xld dL_law_317 e51 ?_
              obtain ⟨q52, e53, hf⟩ := bnd_some hf
              refine p_callV (As := [.int v48, .int v50]) (rest := [.int q46.1]) (t_X9_hour e53) cw_1109 w_1110 w_1111 ob_187 rfl (Nat.le_of_ble_eq_true rfl) rfl rfl (Nat.le_of_ble_eq_true rfl) dL_law_318 ?_
              refine g_icmp_eq (tgt := 1066) dL_law_321 (by decide) (fun c54 => ?_) (fun c54 => ?_)
              · replace hf := (if_pos c54).symm.trans hf
                refine g_iinc (q := 3) (v := (b3 + (4 : Int32))) dL_law_1066 rfl rfl (Nat.le_of_ble_eq_true rfl) rfl ?_
                refine g_goto (tgt := 18) dL_law_1069 (by decide) ?_
                refine g_sub [1, 2, 3, 0] rfl ?_
                exact ih (b3 + (4 : Int32)) q52.2 _ hf hk
              · replace hf := (if_neg c54).symm.trans hf
                refine g_iconst (v := 0) dL_law_324 rfl ?_
                cases hf
                obtain ⟨rfl, rfl⟩ := hk
                exact g_iret dL_law_325 .boolean rfl rfl
            · replace hf := (if_neg c41).symm.trans hf
              by_cases c55 : (v1 &&& (63 : Int32)) = (4 : Int32)
              · replace hf := (if_pos c55).symm.trans hf
                refine g_tableIn (tgt := 326) (off := 294) dL_law_32 (by rw [c55]; decide) (by rw [c55]; decide) (by rw [c55]; rfl) (by decide) ?_
                refine g_aload_n 1 dL_law_326 rfl rfl ?_
                refine g_aload_n 0 dL_law_327 rfl rfl ?_
                refine g_iload_n 3 dL_law_328 rfl rfl ?_
                refine g_iconst (v := 1) dL_law_329 rfl ?_
                refine g_iadd dL_law_330 ?_
                obtain ⟨v56, e57, hf⟩ := bnd_some hf
                refine p_xld dL_law_331 e57 ?_
                refine g_aload_n 0 dL_law_332 rfl rfl ?_
                refine g_iload_n 3 dL_law_333 rfl rfl ?_
                refine g_iconst (v := 2) dL_law_334 rfl ?_
                refine g_iadd dL_law_335 ?_
                obtain ⟨v58, e59, hf⟩ := bnd_some hf
                refine p_xld dL_law_336 e59 ?_
                obtain ⟨q60, e61, hf⟩ := bnd_some hf
                refine p_callV (As := [.int v56, .int v58]) (rest := []) (t_X8_work e61) cw_619 w_620 w_621 ob_0 rfl (Nat.le_of_ble_eq_true rfl) rfl rfl (Nat.le_of_ble_eq_true rfl) dL_law_337 ?_
                refine g_aload_n 2 dL_law_340 rfl rfl ?_
                refine g_aload_n 0 dL_law_341 rfl rfl ?_
                refine g_iload_n 3 dL_law_342 rfl rfl ?_
                refine g_iconst (v := 1) dL_law_343 rfl ?_
                refine g_iadd dL_law_344 ?_
                obtain ⟨v62, e63, hf⟩ := bnd_some hf
                refine p_xld dL_law_345 e63 ?_
                refine g_aload_n 0 dL_law_346 rfl rfl ?_
                refine g_iload_n 3 dL_law_347 rfl rfl ?_
                refine g_iconst (v := 2) dL_law_348 rfl ?_
                refine g_iadd dL_law_349 ?_
                obtain ⟨v64, e65, hf⟩ := bnd_some hf
                refine p_xld dL_law_350 e65 ?_
                obtain ⟨q66, e67, hf⟩ := bnd_some hf
                refine p_callV (As := [.int v62, .int v64]) (rest := [.int q60.1]) (t_X9_work e67) cw_1116 w_1117 w_1118 ob_187 rfl (Nat.le_of_ble_eq_true rfl) rfl rfl (Nat.le_of_ble_eq_true rfl) dL_law_351 ?_
                refine g_icmp_eq (tgt := 1066) dL_law_354 (by decide) (fun c68 => ?_) (fun c68 => ?_)
                · replace hf := (if_pos c68).symm.trans hf
                  refine g_iinc (q := 3) (v := (b3 + (4 : Int32))) dL_law_1066 rfl rfl (Nat.le_of_ble_eq_true rfl) rfl ?_
                  refine g_goto (tgt := 18) dL_law_1069 (by decide) ?_
                  refine g_sub [1, 2, 3, 0] rfl ?_
                  exact ih (b3 + (4 : Int32)) q66.2 _ hf hk
                · replace hf := (if_neg c68).symm.trans hf
                  refine g_iconst (v := 0) dL_law_357 rfl ?_
                  cases hf
                  obtain ⟨rfl, rfl⟩ := hk
                  exact g_iret dL_law_358 .boolean rfl rfl
              · replace hf := (if_neg c55).symm.trans hf
                by_cases c69 : (v1 &&& (63 : Int32)) = (5 : Int32)
                · replace hf := (if_pos c69).symm.trans hf
                  refine g_tableIn (tgt := 359) (off := 327) dL_law_32 (by rw [c69]; decide) (by rw [c69]; decide) (by rw [c69]; rfl) (by decide) ?_
                  refine g_aload_n 1 dL_law_359 rfl rfl ?_
                  refine g_aload_n 0 dL_law_360 rfl rfl ?_
                  refine g_iload_n 3 dL_law_361 rfl rfl ?_
                  refine g_iconst (v := 1) dL_law_362 rfl ?_
                  refine g_iadd dL_law_363 ?_
                  obtain ⟨v70, e71, hf⟩ := bnd_some hf
                  refine p_xld dL_law_364 e71 ?_
                  refine g_aload_n 0 dL_law_365 rfl rfl ?_
                  refine g_iload_n 3 dL_law_366 rfl rfl ?_
                  refine g_iconst (v := 2) dL_law_367 rfl ?_
                  refine g_iadd dL_law_368 ?_
                  obtain ⟨v72, e73, hf⟩ := bnd_some hf
                  refine p_xld dL_law_369 e73 ?_
                  obtain ⟨q74, e75, hf⟩ := bnd_some hf
                  refine p_callV (As := [.int v70, .int v72]) (rest := []) (t_X8_price e75) cw_627 w_628 w_629 ob_0 rfl (Nat.le_of_ble_eq_true rfl) rfl rfl (Nat.le_of_ble_eq_true rfl) dL_law_370 ?_
                  refine g_aload_n 2 dL_law_373 rfl rfl ?_
                  refine g_aload_n 0 dL_law_374 rfl rfl ?_
                  refine g_iload_n 3 dL_law_375 rfl rfl ?_
                  refine g_iconst (v := 1) dL_law_376 rfl ?_
                  refine g_iadd dL_law_377 ?_
                  obtain ⟨v76, e77, hf⟩ := bnd_some hf
                  refine p_xld dL_law_378 e77 ?_
                  refine g_aload_n 0 dL_law_379 rfl rfl ?_
                  refine g_iload_n 3 dL_law_380 rfl rfl ?_
                  refine g_iconst (v := 2) dL_law_381 rfl ?_
                  refine g_iadd dL_law_382 ?_
                  obtain ⟨v78, e79, hf⟩ := bnd_some hf
                  refine p_xld dL_law_383 e79 ?_
                  obtain ⟨q80, e81, hf⟩ := bnd_some hf
                  refine p_callV (As := [.int v76, .int v78]) (rest := [.int q74.1]) (t_X9_price e81) cw_1124 w_1125 w_1126 ob_187 rfl (Nat.le_of_ble_eq_true rfl) rfl rfl (Nat.le_of_ble_eq_true rfl) dL_law_384 ?_
                  refine g_icmp_eq (tgt := 1066) dL_law_387 (by decide) (fun c82 => ?_) (fun c82 => ?_)
                  · replace hf := (if_pos c82).symm.trans hf
                    refine g_iinc (q := 3) (v := (b3 + (4 : Int32))) dL_law_1066 rfl rfl (Nat.le_of_ble_eq_true rfl) rfl ?_
                    refine g_goto (tgt := 18) dL_law_1069 (by decide) ?_
                    refine g_sub [1, 2, 3, 0] rfl ?_
                    exact ih (b3 + (4 : Int32)) q80.2 _ hf hk
                  · replace hf := (if_neg c82).symm.trans hf
                    refine g_iconst (v := 0) dL_law_390 rfl ?_
                    cases hf
                    obtain ⟨rfl, rfl⟩ := hk
                    exact g_iret dL_law_391 .boolean rfl rfl
                · replace hf := (if_neg c69).symm.trans hf
                  by_cases c83 : (v1 &&& (63 : Int32)) = (6 : Int32)
                  · replace hf := (if_pos c83).symm.trans hf
                    refine g_tableIn (tgt := 392) (off := 360) dL_law_32 (by rw [c83]; decide) (by rw [c83]; decide) (by rw [c83]; rfl) (by decide) ?_
                    refine g_aload_n 1 dL_law_392 rfl rfl ?_
                    refine g_aload_n 0 dL_law_393 rfl rfl ?_
                    refine g_iload_n 3 dL_law_394 rfl rfl ?_
                    refine g_iconst (v := 1) dL_law_395 rfl ?_
                    refine g_iadd dL_law_396 ?_
                    obtain ⟨v84, e85, hf⟩ := bnd_some hf
                    refine p_xld dL_law_397 e85 ?_
                    obtain ⟨q86, e87, hf⟩ := bnd_some hf
                    refine p_callV (As := [.int v84]) (rest := []) (t_X8_strike e87) cw_634 w_635 w_636 ob_0 rfl (Nat.le_of_ble_eq_true rfl) rfl rfl (Nat.le_of_ble_eq_true rfl) dL_law_398 ?_
                    refine g_aload_n 2 dL_law_401 rfl rfl ?_
                    refine g_aload_n 0 dL_law_402 rfl rfl ?_
                    refine g_iload_n 3 dL_law_403 rfl rfl ?_
                    refine g_iconst (v := 1) dL_law_404 rfl ?_
                    refine g_iadd dL_law_405 ?_
                    obtain ⟨v88, e89, hf⟩ := bnd_some hf
                    refine p_xld dL_law_406 e89 ?_
                    obtain ⟨q90, e91, hf⟩ := bnd_some hf
                    refine p_callV (As := [.int v88]) (rest := [.int q86.1]) (t_X9_strike e91) cw_1135 w_1136 w_1137 ob_187 rfl (Nat.le_of_ble_eq_true rfl) rfl rfl (Nat.le_of_ble_eq_true rfl) dL_law_407 ?_
                    refine g_icmp_eq (tgt := 1066) dL_law_410 (by decide) (fun c92 => ?_) (fun c92 => ?_)
                    · replace hf := (if_pos c92).symm.trans hf
                      refine g_iinc (q := 3) (v := (b3 + (4 : Int32))) dL_law_1066 rfl rfl (Nat.le_of_ble_eq_true rfl) rfl ?_
                      refine g_goto (tgt := 18) dL_law_1069 (by decide) ?_
                      refine g_sub [1, 2, 3, 0] rfl ?_
                      exact ih (b3 + (4 : Int32)) q90.2 _ hf hk
                    · replace hf := (if_neg c92).symm.trans hf
                      refine g_iconst (v := 0) dL_law_413 rfl ?_
                      cases hf
                      obtain ⟨rfl, rfl⟩ := hk
                      exact g_iret dL_law_414 .boolean rfl rfl
                  · replace hf := (if_neg c83).symm.trans hf
                    by_cases c93 : (v1 &&& (63 : Int32)) = (7 : Int32)
                    · replace hf := (if_pos c93).symm.trans hf
                      refine g_tableIn (tgt := 415) (off := 383) dL_law_32 (by rw [c93]; decide) (by rw [c93]; decide) (by rw [c93]; rfl) (by decide) ?_
                      refine g_aload_n 1 dL_law_415 rfl rfl ?_
                      refine g_aload_n 0 dL_law_416 rfl rfl ?_
                      refine g_iload_n 3 dL_law_417 rfl rfl ?_
                      refine g_iconst (v := 1) dL_law_418 rfl ?_
                      refine g_iadd dL_law_419 ?_
                      obtain ⟨v94, e95, hf⟩ := bnd_some hf
                      refine p_xld dL_law_420 e95 ?_
                      refine g_aload_n 0 dL_law_421 rfl rfl ?_
                      refine g_iload_n 3 dL_law_422 rfl rfl ?_
                      refine g_iconst (v := 2) dL_law_423 rfl ?_
                      refine g_iadd dL_law_424 ?_
                      obtain ⟨v96, e97, hf⟩ := bnd_some hf
                      refine p_xld dL_law_425 e97 ?_
                      obtain ⟨q98, e99, hf⟩ := bnd_some hf
                      refine p_callV (As := [.int v94, .int v96]) (rest := []) (t_X8_bell e99) cw_642 w_643 w_644 ob_0 rfl (Nat.le_of_ble_eq_true rfl) rfl rfl (Nat.le_of_ble_eq_true rfl) dL_law_426 ?_
                      refine g_aload_n 2 dL_law_429 rfl rfl ?_
                      refine g_aload_n 0 dL_law_430 rfl rfl ?_
                      refine g_iload_n 3 dL_law_431 rfl rfl ?_
                      refine g_iconst (v := 1) dL_law_432 rfl ?_
                      refine g_iadd dL_law_433 ?_
                      obtain ⟨v100, e101, hf⟩ := bnd_some hf
                      refine p_xld dL_law_434 e101 ?_
                      refine g_aload_n 0 dL_law_435 rfl rfl ?_
                      refine g_iload_n 3 dL_law_436 rfl rfl ?_
                      refine g_iconst (v := 2) dL_law_437 rfl ?_
                      refine g_iadd dL_law_438 ?_
                      obtain ⟨v102, e103, hf⟩ := bnd_some hf
                      refine p_xld dL_law_439 e103 ?_
                      obtain ⟨q104, e105, hf⟩ := bnd_some hf
                      refine p_callV (As := [.int v100, .int v102]) (rest := [.int q98.1]) (t_X9_bell e105) cw_1139 w_1140 w_1141 ob_187 rfl (Nat.le_of_ble_eq_true rfl) rfl rfl (Nat.le_of_ble_eq_true rfl) dL_law_440 ?_
                      refine g_icmp_eq (tgt := 1066) dL_law_443 (by decide) (fun c106 => ?_) (fun c106 => ?_)
                      · replace hf := (if_pos c106).symm.trans hf
                        refine g_iinc (q := 3) (v := (b3 + (4 : Int32))) dL_law_1066 rfl rfl (Nat.le_of_ble_eq_true rfl) rfl ?_
                        refine g_goto (tgt := 18) dL_law_1069 (by decide) ?_
                        refine g_sub [1, 2, 3, 0] rfl ?_
                        exact ih (b3 + (4 : Int32)) q104.2 _ hf hk
                      · replace hf := (if_neg c106).symm.trans hf
                        refine g_iconst (v := 0) dL_law_446 rfl ?_
                        cases hf
                        obtain ⟨rfl, rfl⟩ := hk
                        exact g_iret dL_law_447 .boolean rfl rfl
                    · replace hf := (if_neg c93).symm.trans hf
                      by_cases c107 : (v1 &&& (63 : Int32)) = (8 : Int32)
                      · replace hf := (if_pos c107).symm.trans hf
                        refine g_tableIn (tgt := 448) (off := 416) dL_law_32 (by rw [c107]; decide) (by rw [c107]; decide) (by rw [c107]; rfl) (by decide) ?_
                        refine g_aload_n 1 dL_law_448 rfl rfl ?_
                        refine g_aload_n 0 dL_law_449 rfl rfl ?_
                        refine g_iload_n 3 dL_law_450 rfl rfl ?_
                        refine g_iconst (v := 1) dL_law_451 rfl ?_
                        refine g_iadd dL_law_452 ?_
                        obtain ⟨v108, e109, hf⟩ := bnd_some hf
                        refine p_xld dL_law_453 e109 ?_
                        refine g_aload_n 0 dL_law_454 rfl rfl ?_
                        refine g_iload_n 3 dL_law_455 rfl rfl ?_
                        refine g_iconst (v := 2) dL_law_456 rfl ?_
                        refine g_iadd dL_law_457 ?_
                        obtain ⟨v110, e111, hf⟩ := bnd_some hf
                        refine p_xld dL_law_458 e111 ?_
                        refine g_aload_n 0 dL_law_459 rfl rfl ?_
                        refine g_iload_n 3 dL_law_460 rfl rfl ?_
                        refine g_iconst (v := 3) dL_law_461 rfl ?_
                        refine g_iadd dL_law_462 ?_
                        obtain ⟨v112, e113, hf⟩ := bnd_some hf
                        refine p_xld dL_law_463 e113 ?_
                        obtain ⟨q114, e115, hf⟩ := bnd_some hf
                        refine p_callV (As := [.int v108, .int v110, .int v112]) (rest := []) (t_X8_leave e115) cw_646 w_647 w_648 ob_0 rfl (Nat.le_of_ble_eq_true rfl) rfl rfl (Nat.le_of_ble_eq_true rfl) dL_law_464 ?_
                        refine g_aload_n 2 dL_law_467 rfl rfl ?_
                        refine g_aload_n 0 dL_law_468 rfl rfl ?_
                        refine g_iload_n 3 dL_law_469 rfl rfl ?_
                        refine g_iconst (v := 1) dL_law_470 rfl ?_
                        refine g_iadd dL_law_471 ?_
                        obtain ⟨v116, e117, hf⟩ := bnd_some hf
                        refine p_xld dL_law_472 e117 ?_
                        refine g_aload_n 0 dL_law_473 rfl rfl ?_
                        refine g_iload_n 3 dL_law_474 rfl rfl ?_
                        refine g_iconst (v := 2) dL_law_475 rfl ?_
                        refine g_iadd dL_law_476 ?_
                        obtain ⟨v118, e119, hf⟩ := bnd_some hf
                        refine p_xld dL_law_477 e119 ?_
                        refine g_aload_n 0 dL_law_478 rfl rfl ?_
                        refine g_iload_n 3 dL_law_479 rfl rfl ?_
                        refine g_iconst (v := 3) dL_law_480 rfl ?_
                        refine g_iadd dL_law_481 ?_
                        obtain ⟨v120, e121, hf⟩ := bnd_some hf
                        refine p_xld dL_law_482 e121 ?_
                        obtain ⟨q122, e123, hf⟩ := bnd_some hf
                        refine p_callV (As := [.int v116, .int v118, .int v120]) (rest := [.int q114.1]) (t_X9_leave e123) cw_1143 w_1144 w_1145 ob_187 rfl (Nat.le_of_ble_eq_true rfl) rfl rfl (Nat.le_of_ble_eq_true rfl) dL_law_483 ?_
                        refine g_icmp_eq (tgt := 1066) dL_law_486 (by decide) (fun c124 => ?_) (fun c124 => ?_)
                        · replace hf := (if_pos c124).symm.trans hf
                          refine g_iinc (q := 3) (v := (b3 + (4 : Int32))) dL_law_1066 rfl rfl (Nat.le_of_ble_eq_true rfl) rfl ?_
                          refine g_goto (tgt := 18) dL_law_1069 (by decide) ?_
                          refine g_sub [1, 2, 3, 0] rfl ?_
                          exact ih (b3 + (4 : Int32)) q122.2 _ hf hk
                        · replace hf := (if_neg c124).symm.trans hf
                          refine g_iconst (v := 0) dL_law_489 rfl ?_
                          cases hf
                          obtain ⟨rfl, rfl⟩ := hk
                          exact g_iret dL_law_490 .boolean rfl rfl
                      · replace hf := (if_neg c107).symm.trans hf
                        by_cases c125 : (v1 &&& (63 : Int32)) = (9 : Int32)
                        · replace hf := (if_pos c125).symm.trans hf
                          refine g_tableIn (tgt := 491) (off := 459) dL_law_32 (by rw [c125]; decide) (by rw [c125]; decide) (by rw [c125]; rfl) (by decide) ?_
                          refine g_aload_n 1 dL_law_491 rfl rfl ?_
                          refine g_aload_n 0 dL_law_492 rfl rfl ?_
                          refine g_iload_n 3 dL_law_493 rfl rfl ?_
                          refine g_iconst (v := 1) dL_law_494 rfl ?_
                          refine g_iadd dL_law_495 ?_
                          obtain ⟨v126, e127, hf⟩ := bnd_some hf
                          refine p_xld dL_law_496 e127 ?_
                          obtain ⟨q128, e129, hf⟩ := bnd_some hf
                          refine p_callV (As := [.int v126]) (rest := []) (t_X8_one e129) cw_652 w_653 w_654 ob_0 rfl (Nat.le_of_ble_eq_true rfl) rfl rfl (Nat.le_of_ble_eq_true rfl) dL_law_497 ?_
                          refine g_aload_n 2 dL_law_500 rfl rfl ?_
                          refine g_aload_n 0 dL_law_501 rfl rfl ?_
                          refine g_iload_n 3 dL_law_502 rfl rfl ?_
                          refine g_iconst (v := 1) dL_law_503 rfl ?_
                          refine g_iadd dL_law_504 ?_
                          obtain ⟨v130, e131, hf⟩ := bnd_some hf
                          refine p_xld dL_law_505 e131 ?_
                          obtain ⟨q132, e133, hf⟩ := bnd_some hf
                          refine p_callV (As := [.int v130]) (rest := [.int q128.1]) (t_X9_one e133) cw_1147 w_1148 w_1149 ob_187 rfl (Nat.le_of_ble_eq_true rfl) rfl rfl (Nat.le_of_ble_eq_true rfl) dL_law_506 ?_
                          refine g_icmp_eq (tgt := 1066) dL_law_509 (by decide) (fun c134 => ?_) (fun c134 => ?_)
                          · replace hf := (if_pos c134).symm.trans hf
                            refine g_iinc (q := 3) (v := (b3 + (4 : Int32))) dL_law_1066 rfl rfl (Nat.le_of_ble_eq_true rfl) rfl ?_
                            refine g_goto (tgt := 18) dL_law_1069 (by decide) ?_
                            refine g_sub [1, 2, 3, 0] rfl ?_
                            exact ih (b3 + (4 : Int32)) q132.2 _ hf hk
                          · replace hf := (if_neg c134).symm.trans hf
                            refine g_iconst (v := 0) dL_law_512 rfl ?_
                            cases hf
                            obtain ⟨rfl, rfl⟩ := hk
                            exact g_iret dL_law_513 .boolean rfl rfl
                        · replace hf := (if_neg c125).symm.trans hf
                          by_cases c135 : (v1 &&& (63 : Int32)) = (10 : Int32)
                          · replace hf := (if_pos c135).symm.trans hf
                            refine g_tableIn (tgt := 514) (off := 482) dL_law_32 (by rw [c135]; decide) (by rw [c135]; decide) (by rw [c135]; rfl) (by decide) ?_
                            refine g_aload_n 1 dL_law_514 rfl rfl ?_
                            refine g_aload_n 0 dL_law_515 rfl rfl ?_
                            refine g_iload_n 3 dL_law_516 rfl rfl ?_
                            refine g_iconst (v := 1) dL_law_517 rfl ?_
                            refine g_iadd dL_law_518 ?_
                            obtain ⟨v136, e137, hf⟩ := bnd_some hf
                            refine p_xld dL_law_519 e137 ?_
                            obtain ⟨q138, e139, hf⟩ := bnd_some hf
                            refine p_callV (As := [.int v136]) (rest := []) (t_X8_cost e139) cw_657 w_658 w_659 ob_0 rfl (Nat.le_of_ble_eq_true rfl) rfl rfl (Nat.le_of_ble_eq_true rfl) dL_law_520 ?_
                            refine g_aload_n 2 dL_law_523 rfl rfl ?_
                            refine g_aload_n 0 dL_law_524 rfl rfl ?_
                            refine g_iload_n 3 dL_law_525 rfl rfl ?_
                            refine g_iconst (v := 1) dL_law_526 rfl ?_
                            refine g_iadd dL_law_527 ?_
                            obtain ⟨v140, e141, hf⟩ := bnd_some hf
                            refine p_xld dL_law_528 e141 ?_
                            obtain ⟨q142, e143, hf⟩ := bnd_some hf
                            refine p_callV (As := [.int v140]) (rest := [.int q138.1]) (t_X9_cost e143) cw_1151 w_1152 w_1153 ob_187 rfl (Nat.le_of_ble_eq_true rfl) rfl rfl (Nat.le_of_ble_eq_true rfl) dL_law_529 ?_
                            refine g_icmp_eq (tgt := 1066) dL_law_532 (by decide) (fun c144 => ?_) (fun c144 => ?_)
                            · replace hf := (if_pos c144).symm.trans hf
                              refine g_iinc (q := 3) (v := (b3 + (4 : Int32))) dL_law_1066 rfl rfl (Nat.le_of_ble_eq_true rfl) rfl ?_
                              refine g_goto (tgt := 18) dL_law_1069 (by decide) ?_
                              refine g_sub [1, 2, 3, 0] rfl ?_
                              exact ih (b3 + (4 : Int32)) q142.2 _ hf hk
                            · replace hf := (if_neg c144).symm.trans hf
                              refine g_iconst (v := 0) dL_law_535 rfl ?_
                              cases hf
                              obtain ⟨rfl, rfl⟩ := hk
                              exact g_iret dL_law_536 .boolean rfl rfl
                          · replace hf := (if_neg c135).symm.trans hf
                            by_cases c145 : (v1 &&& (63 : Int32)) = (11 : Int32)
                            · replace hf := (if_pos c145).symm.trans hf
                              refine g_tableIn (tgt := 537) (off := 505) dL_law_32 (by rw [c145]; decide) (by rw [c145]; decide) (by rw [c145]; rfl) (by decide) ?_
                              refine g_aload_n 1 dL_law_537 rfl rfl ?_
                              refine g_aload_n 0 dL_law_538 rfl rfl ?_
                              refine g_iload_n 3 dL_law_539 rfl rfl ?_
                              refine g_iconst (v := 1) dL_law_540 rfl ?_
                              refine g_iadd dL_law_541 ?_
                              obtain ⟨v146, e147, hf⟩ := bnd_some hf
                              refine p_xld dL_law_542 e147 ?_
                              obtain ⟨q148, e149, hf⟩ := bnd_some hf
                              refine p_callV (As := [.int v146]) (rest := []) (t_X8_net e149) cw_661 w_662 w_663 ob_0 rfl (Nat.le_of_ble_eq_true rfl) rfl rfl (Nat.le_of_ble_eq_true rfl) dL_law_543 ?_
                              refine g_aload_n 2 dL_law_546 rfl rfl ?_
                              refine g_aload_n 0 dL_law_547 rfl rfl ?_
                              refine g_iload_n 3 dL_law_548 rfl rfl ?_
                              refine g_iconst (v := 1) dL_law_549 rfl ?_
                              refine g_iadd dL_law_550 ?_
                              obtain ⟨v150, e151, hf⟩ := bnd_some hf
                              refine p_xld dL_law_551 e151 ?_
                              obtain ⟨q152, e153, hf⟩ := bnd_some hf
                              refine p_callV (As := [.int v150]) (rest := [.int q148.1]) (t_X9_net e153) cw_1155 w_1156 w_1157 ob_187 rfl (Nat.le_of_ble_eq_true rfl) rfl rfl (Nat.le_of_ble_eq_true rfl) dL_law_552 ?_
                              refine g_icmp_eq (tgt := 1066) dL_law_555 (by decide) (fun c154 => ?_) (fun c154 => ?_)
                              · replace hf := (if_pos c154).symm.trans hf
                                refine g_iinc (q := 3) (v := (b3 + (4 : Int32))) dL_law_1066 rfl rfl (Nat.le_of_ble_eq_true rfl) rfl ?_
                                refine g_goto (tgt := 18) dL_law_1069 (by decide) ?_
                                refine g_sub [1, 2, 3, 0] rfl ?_
                                exact ih (b3 + (4 : Int32)) q152.2 _ hf hk
                              · replace hf := (if_neg c154).symm.trans hf
                                refine g_iconst (v := 0) dL_law_558 rfl ?_
                                cases hf
                                obtain ⟨rfl, rfl⟩ := hk
                                exact g_iret dL_law_559 .boolean rfl rfl
                            · replace hf := (if_neg c145).symm.trans hf
                              by_cases c155 : (v1 &&& (63 : Int32)) = (12 : Int32)
                              · replace hf := (if_pos c155).symm.trans hf
                                refine g_tableIn (tgt := 560) (off := 528) dL_law_32 (by rw [c155]; decide) (by rw [c155]; decide) (by rw [c155]; rfl) (by decide) ?_
                                refine g_aload_n 1 dL_law_560 rfl rfl ?_
                                refine g_aload_n 0 dL_law_561 rfl rfl ?_
                                refine g_iload_n 3 dL_law_562 rfl rfl ?_
                                refine g_iconst (v := 1) dL_law_563 rfl ?_
                                refine g_iadd dL_law_564 ?_
                                obtain ⟨v156, e157, hf⟩ := bnd_some hf
                                refine p_xld dL_law_565 e157 ?_
                                obtain ⟨q158, e159, hf⟩ := bnd_some hf
                                refine p_callV (As := [.int v156]) (rest := []) (t_X8_bars e159) cw_666 w_667 w_668 ob_0 rfl (Nat.le_of_ble_eq_true rfl) rfl rfl (Nat.le_of_ble_eq_true rfl) dL_law_566 ?_
                                refine g_aload_n 2 dL_law_569 rfl rfl ?_
                                refine g_aload_n 0 dL_law_570 rfl rfl ?_
                                refine g_iload_n 3 dL_law_571 rfl rfl ?_
                                refine g_iconst (v := 1) dL_law_572 rfl ?_
                                refine g_iadd dL_law_573 ?_
                                obtain ⟨v160, e161, hf⟩ := bnd_some hf
                                refine p_xld dL_law_574 e161 ?_
                                obtain ⟨q162, e163, hf⟩ := bnd_some hf
                                refine p_callV (As := [.int v160]) (rest := [.int q158.1]) (t_X9_bars e163) cw_1159 w_1160 w_1161 ob_187 rfl (Nat.le_of_ble_eq_true rfl) rfl rfl (Nat.le_of_ble_eq_true rfl) dL_law_575 ?_
                                refine g_icmp_eq (tgt := 1066) dL_law_578 (by decide) (fun c164 => ?_) (fun c164 => ?_)
                                · replace hf := (if_pos c164).symm.trans hf
                                  refine g_iinc (q := 3) (v := (b3 + (4 : Int32))) dL_law_1066 rfl rfl (Nat.le_of_ble_eq_true rfl) rfl ?_
                                  refine g_goto (tgt := 18) dL_law_1069 (by decide) ?_
                                  refine g_sub [1, 2, 3, 0] rfl ?_
                                  exact ih (b3 + (4 : Int32)) q162.2 _ hf hk
                                · replace hf := (if_neg c164).symm.trans hf
                                  refine g_iconst (v := 0) dL_law_581 rfl ?_
                                  cases hf
                                  obtain ⟨rfl, rfl⟩ := hk
                                  exact g_iret dL_law_582 .boolean rfl rfl
                              · replace hf := (if_neg c155).symm.trans hf
                                by_cases c165 : (v1 &&& (63 : Int32)) = (13 : Int32)
                                · replace hf := (if_pos c165).symm.trans hf
                                  refine g_tableIn (tgt := 583) (off := 551) dL_law_32 (by rw [c165]; decide) (by rw [c165]; decide) (by rw [c165]; rfl) (by decide) ?_
                                  refine g_aload_n 1 dL_law_583 rfl rfl ?_
                                  obtain ⟨q166, e167, hf⟩ := bnd_some hf
                                  refine p_callV (As := []) (rest := []) (t_X8_all e167) cw_692 w_693 w_694 ob_0 rfl (Nat.le_of_ble_eq_true rfl) rfl rfl (Nat.le_of_ble_eq_true rfl) dL_law_584 ?_
                                  refine g_aload_n 2 dL_law_587 rfl rfl ?_
                                  obtain ⟨q168, e169, hf⟩ := bnd_some hf
                                  refine p_callV (As := []) (rest := [.int q166.1]) (t_X9_all e169) cw_1163 w_1164 w_1165 ob_187 rfl (Nat.le_of_ble_eq_true rfl) rfl rfl (Nat.le_of_ble_eq_true rfl) dL_law_588 ?_
                                  refine g_icmp_eq (tgt := 1066) dL_law_591 (by decide) (fun c170 => ?_) (fun c170 => ?_)
                                  · replace hf := (if_pos c170).symm.trans hf
                                    refine g_iinc (q := 3) (v := (b3 + (4 : Int32))) dL_law_1066 rfl rfl (Nat.le_of_ble_eq_true rfl) rfl ?_
                                    refine g_goto (tgt := 18) dL_law_1069 (by decide) ?_
                                    refine g_sub [1, 2, 3, 0] rfl ?_
                                    exact ih (b3 + (4 : Int32)) q168.2 _ hf hk
                                  · replace hf := (if_neg c170).symm.trans hf
                                    refine g_iconst (v := 0) dL_law_594 rfl ?_
                                    cases hf
                                    obtain ⟨rfl, rfl⟩ := hk
                                    exact g_iret dL_law_595 .boolean rfl rfl
                                · replace hf := (if_neg c165).symm.trans hf
                                  by_cases c171 : (v1 &&& (63 : Int32)) = (14 : Int32)
                                  · replace hf := (if_pos c171).symm.trans hf
                                    refine g_tableIn (tgt := 596) (off := 564) dL_law_32 (by rw [c171]; decide) (by rw [c171]; decide) (by rw [c171]; rfl) (by decide) ?_
                                    refine g_aload_n 1 dL_law_596 rfl rfl ?_
                                    refine g_aload_n 0 dL_law_597 rfl rfl ?_
                                    refine g_iload_n 3 dL_law_598 rfl rfl ?_
                                    refine g_iconst (v := 1) dL_law_599 rfl ?_
                                    refine g_iadd dL_law_600 ?_
                                    obtain ⟨v172, e173, hf⟩ := bnd_some hf
                                    refine p_xld dL_law_601 e173 ?_
                                    obtain ⟨q174, e175, hf⟩ := bnd_some hf
                                    refine p_callV (As := [.int v172]) (rest := []) (t_X8_begin e175) cw_716 w_717 w_718 ob_0 rfl (Nat.le_of_ble_eq_true rfl) rfl rfl (Nat.le_of_ble_eq_true rfl) dL_law_602 ?_
                                    refine g_aload_n 2 dL_law_605 rfl rfl ?_
                                    refine g_aload_n 0 dL_law_606 rfl rfl ?_
                                    refine g_iload_n 3 dL_law_607 rfl rfl ?_
                                    refine g_iconst (v := 1) dL_law_608 rfl ?_
                                    refine g_iadd dL_law_609 ?_
                                    obtain ⟨v176, e177, hf⟩ := bnd_some hf
                                    refine p_xld dL_law_610 e177 ?_
                                    obtain ⟨q178, e179, hf⟩ := bnd_some hf
                                    refine p_callV (As := [.int v176]) (rest := [.int q174.1]) (t_X9_begin e179) cw_1180 w_1181 w_1182 ob_187 rfl (Nat.le_of_ble_eq_true rfl) rfl rfl (Nat.le_of_ble_eq_true rfl) dL_law_611 ?_
                                    refine g_icmp_eq (tgt := 1066) dL_law_614 (by decide) (fun c180 => ?_) (fun c180 => ?_)
                                    · replace hf := (if_pos c180).symm.trans hf
                                      refine g_iinc (q := 3) (v := (b3 + (4 : Int32))) dL_law_1066 rfl rfl (Nat.le_of_ble_eq_true rfl) rfl ?_
                                      refine g_goto (tgt := 18) dL_law_1069 (by decide) ?_
                                      refine g_sub [1, 2, 3, 0] rfl ?_
                                      exact ih (b3 + (4 : Int32)) q178.2 _ hf hk
                                    · replace hf := (if_neg c180).symm.trans hf
                                      refine g_iconst (v := 0) dL_law_617 rfl ?_
                                      cases hf
                                      obtain ⟨rfl, rfl⟩ := hk
                                      exact g_iret dL_law_618 .boolean rfl rfl
                                  · replace hf := (if_neg c171).symm.trans hf
                                    by_cases c181 : (v1 &&& (63 : Int32)) = (15 : Int32)
                                    · replace hf := (if_pos c181).symm.trans hf
                                      refine g_tableIn (tgt := 619) (off := 587) dL_law_32 (by rw [c181]; decide) (by rw [c181]; decide) (by rw [c181]; rfl) (by decide) ?_
                                      refine g_aload_n 1 dL_law_619 rfl rfl ?_
                                      refine g_aload_n 0 dL_law_620 rfl rfl ?_
                                      refine g_iload_n 3 dL_law_621 rfl rfl ?_
                                      refine g_iconst (v := 1) dL_law_622 rfl ?_
                                      refine g_iadd dL_law_623 ?_
                                      obtain ⟨v182, e183, hf⟩ := bnd_some hf
                                      refine p_xld dL_law_624 e183 ?_
                                      obtain ⟨q184, e185, hf⟩ := bnd_some hf
                                      refine p_callV (As := [.int v182]) (rest := []) (t_X8_ask e185) cw_724 w_725 w_726 ob_0 rfl (Nat.le_of_ble_eq_true rfl) rfl rfl (Nat.le_of_ble_eq_true rfl) dL_law_625 ?_
                                      refine g_aload_n 2 dL_law_628 rfl rfl ?_
                                      refine g_aload_n 0 dL_law_629 rfl rfl ?_
                                      refine g_iload_n 3 dL_law_630 rfl rfl ?_
                                      refine g_iconst (v := 1) dL_law_631 rfl ?_
                                      refine g_iadd dL_law_632 ?_
                                      obtain ⟨v186, e187, hf⟩ := bnd_some hf
                                      refine p_xld dL_law_633 e187 ?_
                                      obtain ⟨q188, e189, hf⟩ := bnd_some hf
                                      refine p_callV (As := [.int v186]) (rest := [.int q184.1]) (t_X9_ask e189) cw_1184 w_1185 w_1186 ob_187 rfl (Nat.le_of_ble_eq_true rfl) rfl rfl (Nat.le_of_ble_eq_true rfl) dL_law_634 ?_
                                      refine g_icmp_eq (tgt := 1066) dL_law_637 (by decide) (fun c190 => ?_) (fun c190 => ?_)
                                      · replace hf := (if_pos c190).symm.trans hf
                                        refine g_iinc (q := 3) (v := (b3 + (4 : Int32))) dL_law_1066 rfl rfl (Nat.le_of_ble_eq_true rfl) rfl ?_
                                        refine g_goto (tgt := 18) dL_law_1069 (by decide) ?_
                                        refine g_sub [1, 2, 3, 0] rfl ?_
                                        exact ih (b3 + (4 : Int32)) q188.2 _ hf hk
                                      · replace hf := (if_neg c190).symm.trans hf
                                        refine g_iconst (v := 0) dL_law_640 rfl ?_
                                        cases hf
                                        obtain ⟨rfl, rfl⟩ := hk
                                        exact g_iret dL_law_641 .boolean rfl rfl
                                    · replace hf := (if_neg c181).symm.trans hf
                                      by_cases c191 : (v1 &&& (63 : Int32)) = (16 : Int32)
                                      · replace hf := (if_pos c191).symm.trans hf
                                        refine g_tableIn (tgt := 642) (off := 610) dL_law_32 (by rw [c191]; decide) (by rw [c191]; decide) (by rw [c191]; rfl) (by decide) ?_
                                        refine g_aload_n 1 dL_law_642 rfl rfl ?_
                                        obtain ⟨q192, e193, hf⟩ := bnd_some hf
                                        refine p_callV (As := []) (rest := []) (t_X8_rest e193) cw_733 w_734 w_735 ob_0 rfl (Nat.le_of_ble_eq_true rfl) rfl rfl (Nat.le_of_ble_eq_true rfl) dL_law_643 ?_
                                        refine g_aload_n 2 dL_law_646 rfl rfl ?_
                                        obtain ⟨q194, e195, hf⟩ := bnd_some hf
                                        refine p_callV (As := []) (rest := [.int q192.1]) (t_X9_rest e195) cw_1192 w_1193 w_1194 ob_187 rfl (Nat.le_of_ble_eq_true rfl) rfl rfl (Nat.le_of_ble_eq_true rfl) dL_law_647 ?_
                                        refine g_icmp_eq (tgt := 1066) dL_law_650 (by decide) (fun c196 => ?_) (fun c196 => ?_)
                                        · replace hf := (if_pos c196).symm.trans hf
                                          refine g_iinc (q := 3) (v := (b3 + (4 : Int32))) dL_law_1066 rfl rfl (Nat.le_of_ble_eq_true rfl) rfl ?_
                                          refine g_goto (tgt := 18) dL_law_1069 (by decide) ?_
                                          refine g_sub [1, 2, 3, 0] rfl ?_
                                          exact ih (b3 + (4 : Int32)) q194.2 _ hf hk
                                        · replace hf := (if_neg c196).symm.trans hf
                                          refine g_iconst (v := 0) dL_law_653 rfl ?_
                                          cases hf
                                          obtain ⟨rfl, rfl⟩ := hk
                                          exact g_iret dL_law_654 .boolean rfl rfl
                                      · replace hf := (if_neg c191).symm.trans hf
                                        by_cases c197 : (v1 &&& (63 : Int32)) = (17 : Int32)
                                        · replace hf := (if_pos c197).symm.trans hf
                                          refine g_tableIn (tgt := 655) (off := 623) dL_law_32 (by rw [c197]; decide) (by rw [c197]; decide) (by rw [c197]; rfl) (by decide) ?_
                                          refine g_aload_n 1 dL_law_655 rfl rfl ?_
                                          refine g_aload_n 0 dL_law_656 rfl rfl ?_
                                          refine g_iload_n 3 dL_law_657 rfl rfl ?_
                                          refine g_iconst (v := 1) dL_law_658 rfl ?_
                                          refine g_iadd dL_law_659 ?_
                                          obtain ⟨v198, e199, hf⟩ := bnd_some hf
                                          refine p_xld dL_law_660 e199 ?_
                                          obtain ⟨q200, e201, hf⟩ := bnd_some hf
                                          refine p_callV (As := [.int v198]) (rest := []) (t_X8_stop e201) cw_742 w_743 w_744 ob_0 rfl (Nat.le_of_ble_eq_true rfl) rfl rfl (Nat.le_of_ble_eq_true rfl) dL_law_661 ?_
                                          refine g_aload_n 2 dL_law_664 rfl rfl ?_
                                          refine g_aload_n 0 dL_law_665 rfl rfl ?_
                                          refine g_iload_n 3 dL_law_666 rfl rfl ?_
                                          refine g_iconst (v := 1) dL_law_667 rfl ?_
                                          refine g_iadd dL_law_668 ?_
                                          obtain ⟨v202, e203, hf⟩ := bnd_some hf
                                          refine p_xld dL_law_669 e203 ?_
                                          obtain ⟨q204, e205, hf⟩ := bnd_some hf
                                          refine p_callV (As := [.int v202]) (rest := [.int q200.1]) (t_X9_stop e205) cw_1196 w_1197 w_1198 ob_187 rfl (Nat.le_of_ble_eq_true rfl) rfl rfl (Nat.le_of_ble_eq_true rfl) dL_law_670 ?_
                                          refine g_icmp_eq (tgt := 1066) dL_law_673 (by decide) (fun c206 => ?_) (fun c206 => ?_)
                                          · replace hf := (if_pos c206).symm.trans hf
                                            refine g_iinc (q := 3) (v := (b3 + (4 : Int32))) dL_law_1066 rfl rfl (Nat.le_of_ble_eq_true rfl) rfl ?_
                                            refine g_goto (tgt := 18) dL_law_1069 (by decide) ?_
                                            refine g_sub [1, 2, 3, 0] rfl ?_
                                            exact ih (b3 + (4 : Int32)) q204.2 _ hf hk
                                          · replace hf := (if_neg c206).symm.trans hf
                                            refine g_iconst (v := 0) dL_law_676 rfl ?_
                                            cases hf
                                            obtain ⟨rfl, rfl⟩ := hk
                                            exact g_iret dL_law_677 .boolean rfl rfl
                                        · replace hf := (if_neg c197).symm.trans hf
                                          by_cases c207 : (v1 &&& (63 : Int32)) = (18 : Int32)
                                          · replace hf := (if_pos c207).symm.trans hf
                                            refine g_tableIn (tgt := 678) (off := 646) dL_law_32 (by rw [c207]; decide) (by rw [c207]; decide) (by rw [c207]; rfl) (by decide) ?_
                                            refine g_aload_n 1 dL_law_678 rfl rfl ?_
                                            obtain ⟨q208, e209, hf⟩ := bnd_some hf
                                            refine p_callV (As := []) (rest := []) (t_X8_stopAll e209) cw_752 w_753 w_754 ob_0 rfl (Nat.le_of_ble_eq_true rfl) rfl rfl (Nat.le_of_ble_eq_true rfl) dL_law_679 ?_
                                            refine g_aload_n 2 dL_law_682 rfl rfl ?_
                                            obtain ⟨q210, e211, hf⟩ := bnd_some hf
                                            refine p_callV (As := []) (rest := [.int q208.1]) (t_X9_stopAll e211) cw_1203 w_1204 w_1205 ob_187 rfl (Nat.le_of_ble_eq_true rfl) rfl rfl (Nat.le_of_ble_eq_true rfl) dL_law_683 ?_
                                            refine g_icmp_eq (tgt := 1066) dL_law_686 (by decide) (fun c212 => ?_) (fun c212 => ?_)
                                            · replace hf := (if_pos c212).symm.trans hf
                                              refine g_iinc (q := 3) (v := (b3 + (4 : Int32))) dL_law_1066 rfl rfl (Nat.le_of_ble_eq_true rfl) rfl ?_
                                              refine g_goto (tgt := 18) dL_law_1069 (by decide) ?_
                                              refine g_sub [1, 2, 3, 0] rfl ?_
                                              exact ih (b3 + (4 : Int32)) q210.2 _ hf hk
                                            · replace hf := (if_neg c212).symm.trans hf
                                              refine g_iconst (v := 0) dL_law_689 rfl ?_
                                              cases hf
                                              obtain ⟨rfl, rfl⟩ := hk
                                              exact g_iret dL_law_690 .boolean rfl rfl
                                          · replace hf := (if_neg c207).symm.trans hf
                                            by_cases c213 : (v1 &&& (63 : Int32)) = (19 : Int32)
                                            · replace hf := (if_pos c213).symm.trans hf
                                              refine g_tableIn (tgt := 691) (off := 659) dL_law_32 (by rw [c213]; decide) (by rw [c213]; decide) (by rw [c213]; rfl) (by decide) ?_
                                              refine g_aload_n 1 dL_law_691 rfl rfl ?_
                                              refine g_aload_n 0 dL_law_692 rfl rfl ?_
                                              refine g_iload_n 3 dL_law_693 rfl rfl ?_
                                              refine g_iconst (v := 1) dL_law_694 rfl ?_
                                              refine g_iadd dL_law_695 ?_
                                              obtain ⟨v214, e215, hf⟩ := bnd_some hf
                                              refine p_xld dL_law_696 e215 ?_
                                              refine g_aload_n 0 dL_law_697 rfl rfl ?_
                                              refine g_iload_n 3 dL_law_698 rfl rfl ?_
                                              refine g_iconst (v := 2) dL_law_699 rfl ?_
                                              refine g_iadd dL_law_700 ?_
                                              obtain ⟨v216, e217, hf⟩ := bnd_some hf
                                              refine p_xld dL_law_701 e217 ?_
                                              refine g_aload_n 0 dL_law_702 rfl rfl ?_
                                              refine g_iload_n 3 dL_law_703 rfl rfl ?_
                                              refine g_iconst (v := 3) dL_law_704 rfl ?_
                                              refine g_iadd dL_law_705 ?_
                                              obtain ⟨v218, e219, hf⟩ := bnd_some hf
                                              refine p_xld dL_law_706 e219 ?_
                                              obtain ⟨q220, e221, hf⟩ := bnd_some hf
                                              refine p_callV (As := [.int v214, .int v216, .int v218]) (rest := []) (t_X8_power e221) cw_764 w_765 w_766 ob_0 rfl (Nat.le_of_ble_eq_true rfl) rfl rfl (Nat.le_of_ble_eq_true rfl) dL_law_707 ?_
                                              refine g_aload_n 2 dL_law_710 rfl rfl ?_
                                              refine g_aload_n 0 dL_law_711 rfl rfl ?_
                                              refine g_iload_n 3 dL_law_712 rfl rfl ?_
                                              refine g_iconst (v := 1) dL_law_713 rfl ?_
                                              refine g_iadd dL_law_714 ?_
                                              obtain ⟨v222, e223, hf⟩ := bnd_some hf
                                              refine p_xld dL_law_715 e223 ?_
                                              refine g_aload_n 0 dL_law_716 rfl rfl ?_
                                              refine g_iload_n 3 dL_law_717 rfl rfl ?_
                                              refine g_iconst (v := 2) dL_law_718 rfl ?_
                                              refine g_iadd dL_law_719 ?_
                                              obtain ⟨v224, e225, hf⟩ := bnd_some hf
                                              refine p_xld dL_law_720 e225 ?_
                                              refine g_aload_n 0 dL_law_721 rfl rfl ?_
                                              refine g_iload_n 3 dL_law_722 rfl rfl ?_
                                              refine g_iconst (v := 3) dL_law_723 rfl ?_
                                              refine g_iadd dL_law_724 ?_
                                              obtain ⟨v226, e227, hf⟩ := bnd_some hf
                                              refine p_xld dL_law_725 e227 ?_
                                              obtain ⟨q228, e229, hf⟩ := bnd_some hf
                                              refine p_callV (As := [.int v222, .int v224, .int v226]) (rest := [.int q220.1]) (t_X9_power e229) cw_1211 w_1212 w_1213 ob_187 rfl (Nat.le_of_ble_eq_true rfl) rfl rfl (Nat.le_of_ble_eq_true rfl) dL_law_726 ?_
                                              refine g_icmp_eq (tgt := 1066) dL_law_729 (by decide) (fun c230 => ?_) (fun c230 => ?_)
                                              · replace hf := (if_pos c230).symm.trans hf
                                                refine g_iinc (q := 3) (v := (b3 + (4 : Int32))) dL_law_1066 rfl rfl (Nat.le_of_ble_eq_true rfl) rfl ?_
                                                refine g_goto (tgt := 18) dL_law_1069 (by decide) ?_
                                                refine g_sub [1, 2, 3, 0] rfl ?_
                                                exact ih (b3 + (4 : Int32)) q228.2 _ hf hk
                                              · replace hf := (if_neg c230).symm.trans hf
                                                refine g_iconst (v := 0) dL_law_732 rfl ?_
                                                cases hf
                                                obtain ⟨rfl, rfl⟩ := hk
                                                exact g_iret dL_law_733 .boolean rfl rfl
                                            · replace hf := (if_neg c213).symm.trans hf
                                              by_cases c231 : (v1 &&& (63 : Int32)) = (20 : Int32)
                                              · replace hf := (if_pos c231).symm.trans hf
                                                refine g_tableIn (tgt := 734) (off := 702) dL_law_32 (by rw [c231]; decide) (by rw [c231]; decide) (by rw [c231]; rfl) (by decide) ?_
                                                refine g_aload_n 1 dL_law_734 rfl rfl ?_
                                                refine g_aload_n 0 dL_law_735 rfl rfl ?_
                                                refine g_iload_n 3 dL_law_736 rfl rfl ?_
                                                refine g_iconst (v := 1) dL_law_737 rfl ?_
                                                refine g_iadd dL_law_738 ?_
                                                obtain ⟨v232, e233, hf⟩ := bnd_some hf
                                                refine p_xld dL_law_739 e233 ?_
                                                obtain ⟨q234, e235, hf⟩ := bnd_some hf
                                                refine p_callV (As := [.int v232]) (rest := []) (t_X8_wed e235) cw_786 w_787 w_788 ob_0 rfl (Nat.le_of_ble_eq_true rfl) rfl rfl (Nat.le_of_ble_eq_true rfl) dL_law_740 ?_
                                                refine g_aload_n 2 dL_law_743 rfl rfl ?_
                                                refine g_aload_n 0 dL_law_744 rfl rfl ?_
                                                refine g_iload_n 3 dL_law_745 rfl rfl ?_
                                                refine g_iconst (v := 1) dL_law_746 rfl ?_
                                                refine g_iadd dL_law_747 ?_
                                                obtain ⟨v236, e237, hf⟩ := bnd_some hf
                                                refine p_xld dL_law_748 e237 ?_
                                                obtain ⟨q238, e239, hf⟩ := bnd_some hf
                                                refine p_callV (As := [.int v236]) (rest := [.int q234.1]) (t_X9_wed e239) cw_1222 w_1223 w_1224 ob_187 rfl (Nat.le_of_ble_eq_true rfl) rfl rfl (Nat.le_of_ble_eq_true rfl) dL_law_749 ?_
                                                refine g_icmp_eq (tgt := 1066) dL_law_752 (by decide) (fun c240 => ?_) (fun c240 => ?_)
                                                · replace hf := (if_pos c240).symm.trans hf
                                                  refine g_iinc (q := 3) (v := (b3 + (4 : Int32))) dL_law_1066 rfl rfl (Nat.le_of_ble_eq_true rfl) rfl ?_
                                                  refine g_goto (tgt := 18) dL_law_1069 (by decide) ?_
                                                  refine g_sub [1, 2, 3, 0] rfl ?_
                                                  exact ih (b3 + (4 : Int32)) q238.2 _ hf hk
                                                · replace hf := (if_neg c240).symm.trans hf
                                                  refine g_iconst (v := 0) dL_law_755 rfl ?_
                                                  cases hf
                                                  obtain ⟨rfl, rfl⟩ := hk
                                                  exact g_iret dL_law_756 .boolean rfl rfl
                                              · replace hf := (if_neg c231).symm.trans hf
                                                by_cases c241 : (v1 &&& (63 : Int32)) = (21 : Int32)
                                                · replace hf := (if_pos c241).symm.trans hf
                                                  refine g_tableIn (tgt := 757) (off := 725) dL_law_32 (by rw [c241]; decide) (by rw [c241]; decide) (by rw [c241]; rfl) (by decide) ?_
                                                  refine g_aload_n 1 dL_law_757 rfl rfl ?_
                                                  refine g_aload_n 0 dL_law_758 rfl rfl ?_
                                                  refine g_iload_n 3 dL_law_759 rfl rfl ?_
                                                  refine g_iconst (v := 1) dL_law_760 rfl ?_
                                                  refine g_iadd dL_law_761 ?_
                                                  obtain ⟨v242, e243, hf⟩ := bnd_some hf
                                                  refine p_xld dL_law_762 e243 ?_
                                                  refine g_aload_n 0 dL_law_763 rfl rfl ?_
                                                  refine g_iload_n 3 dL_law_764 rfl rfl ?_
                                                  refine g_iconst (v := 2) dL_law_765 rfl ?_
                                                  refine g_iadd dL_law_766 ?_
                                                  obtain ⟨v244, e245, hf⟩ := bnd_some hf
                                                  refine p_xld dL_law_767 e245 ?_
                                                  obtain ⟨q246, e247, hf⟩ := bnd_some hf
                                                  refine p_callV (As := [.int v242, .int v244]) (rest := []) (t_X8_marry e247) cw_799 w_800 w_801 ob_0 rfl (Nat.le_of_ble_eq_true rfl) rfl rfl (Nat.le_of_ble_eq_true rfl) dL_law_768 ?_
                                                  refine g_aload_n 2 dL_law_771 rfl rfl ?_
                                                  refine g_aload_n 0 dL_law_772 rfl rfl ?_
                                                  refine g_iload_n 3 dL_law_773 rfl rfl ?_
                                                  refine g_iconst (v := 1) dL_law_774 rfl ?_
                                                  refine g_iadd dL_law_775 ?_
                                                  obtain ⟨v248, e249, hf⟩ := bnd_some hf
                                                  refine p_xld dL_law_776 e249 ?_
                                                  refine g_aload_n 0 dL_law_777 rfl rfl ?_
                                                  refine g_iload_n 3 dL_law_778 rfl rfl ?_
                                                  refine g_iconst (v := 2) dL_law_779 rfl ?_
                                                  refine g_iadd dL_law_780 ?_
                                                  obtain ⟨v250, e251, hf⟩ := bnd_some hf
                                                  refine p_xld dL_law_781 e251 ?_
                                                  obtain ⟨q252, e253, hf⟩ := bnd_some hf
                                                  refine p_callV (As := [.int v248, .int v250]) (rest := [.int q246.1]) (t_X9_marry e253) cw_1234 w_1235 w_1236 ob_187 rfl (Nat.le_of_ble_eq_true rfl) rfl rfl (Nat.le_of_ble_eq_true rfl) dL_law_782 ?_
                                                  refine g_icmp_eq (tgt := 1066) dL_law_785 (by decide) (fun c254 => ?_) (fun c254 => ?_)
                                                  · replace hf := (if_pos c254).symm.trans hf
                                                    refine g_iinc (q := 3) (v := (b3 + (4 : Int32))) dL_law_1066 rfl rfl (Nat.le_of_ble_eq_true rfl) rfl ?_
                                                    refine g_goto (tgt := 18) dL_law_1069 (by decide) ?_
                                                    refine g_sub [1, 2, 3, 0] rfl ?_
                                                    exact ih (b3 + (4 : Int32)) q252.2 _ hf hk
                                                  · replace hf := (if_neg c254).symm.trans hf
                                                    refine g_iconst (v := 0) dL_law_788 rfl ?_
                                                    cases hf
                                                    obtain ⟨rfl, rfl⟩ := hk
                                                    exact g_iret dL_law_789 .boolean rfl rfl
                                                · replace hf := (if_neg c241).symm.trans hf
                                                  by_cases c255 : (v1 &&& (63 : Int32)) = (22 : Int32)
                                                  · replace hf := (if_pos c255).symm.trans hf
                                                    refine g_tableIn (tgt := 790) (off := 758) dL_law_32 (by rw [c255]; decide) (by rw [c255]; decide) (by rw [c255]; rfl) (by decide) ?_
                                                    refine g_aload_n 1 dL_law_790 rfl rfl ?_
                                                    refine g_aload_n 0 dL_law_791 rfl rfl ?_
                                                    refine g_iload_n 3 dL_law_792 rfl rfl ?_
                                                    refine g_iconst (v := 1) dL_law_793 rfl ?_
                                                    refine g_iadd dL_law_794 ?_
                                                    obtain ⟨v256, e257, hf⟩ := bnd_some hf
                                                    refine p_xld dL_law_795 e257 ?_
                                                    obtain ⟨q258, e259, hf⟩ := bnd_some hf
                                                    refine p_callV (As := [.int v256]) (rest := []) (t_X8_wedTo e259) cw_807 w_808 w_809 ob_0 rfl (Nat.le_of_ble_eq_true rfl) rfl rfl (Nat.le_of_ble_eq_true rfl) dL_law_796 ?_
                                                    refine g_aload_n 2 dL_law_799 rfl rfl ?_
                                                    refine g_aload_n 0 dL_law_800 rfl rfl ?_
                                                    refine g_iload_n 3 dL_law_801 rfl rfl ?_
                                                    refine g_iconst (v := 1) dL_law_802 rfl ?_
                                                    refine g_iadd dL_law_803 ?_
                                                    obtain ⟨v260, e261, hf⟩ := bnd_some hf
                                                    refine p_xld dL_law_804 e261 ?_
                                                    obtain ⟨q262, e263, hf⟩ := bnd_some hf
                                                    refine p_callV (As := [.int v260]) (rest := [.int q258.1]) (t_X9_wedTo e263) cw_1238 w_1239 w_1240 ob_187 rfl (Nat.le_of_ble_eq_true rfl) rfl rfl (Nat.le_of_ble_eq_true rfl) dL_law_805 ?_
                                                    refine g_icmp_eq (tgt := 1066) dL_law_808 (by decide) (fun c264 => ?_) (fun c264 => ?_)
                                                    · replace hf := (if_pos c264).symm.trans hf
                                                      refine g_iinc (q := 3) (v := (b3 + (4 : Int32))) dL_law_1066 rfl rfl (Nat.le_of_ble_eq_true rfl) rfl ?_
                                                      refine g_goto (tgt := 18) dL_law_1069 (by decide) ?_
                                                      refine g_sub [1, 2, 3, 0] rfl ?_
                                                      exact ih (b3 + (4 : Int32)) q262.2 _ hf hk
                                                    · replace hf := (if_neg c264).symm.trans hf
                                                      refine g_iconst (v := 0) dL_law_811 rfl ?_
                                                      cases hf
                                                      obtain ⟨rfl, rfl⟩ := hk
                                                      exact g_iret dL_law_812 .boolean rfl rfl
                                                  · replace hf := (if_neg c255).symm.trans hf
                                                    by_cases c265 : (v1 &&& (63 : Int32)) = (23 : Int32)
                                                    · replace hf := (if_pos c265).symm.trans hf
                                                      refine g_tableIn (tgt := 813) (off := 781) dL_law_32 (by rw [c265]; decide) (by rw [c265]; decide) (by rw [c265]; rfl) (by decide) ?_
                                                      refine g_aload_n 1 dL_law_813 rfl rfl ?_
                                                      refine g_aload_n 0 dL_law_814 rfl rfl ?_
                                                      refine g_iload_n 3 dL_law_815 rfl rfl ?_
                                                      refine g_iconst (v := 1) dL_law_816 rfl ?_
                                                      refine g_iadd dL_law_817 ?_
                                                      obtain ⟨v266, e267, hf⟩ := bnd_some hf
                                                      refine p_xld dL_law_818 e267 ?_
                                                      refine g_aload_n 0 dL_law_819 rfl rfl ?_
                                                      refine g_iload_n 3 dL_law_820 rfl rfl ?_
                                                      refine g_iconst (v := 2) dL_law_821 rfl ?_
                                                      refine g_iadd dL_law_822 ?_
                                                      obtain ⟨v268, e269, hf⟩ := bnd_some hf
                                                      refine p_xld dL_law_823 e269 ?_
                                                      obtain ⟨q270, e271, hf⟩ := bnd_some hf
                                                      refine p_callV (As := [.int v266, .int v268]) (rest := []) (t_X8_heirs e271) cw_811 w_812 w_813 ob_0 rfl (Nat.le_of_ble_eq_true rfl) rfl rfl (Nat.le_of_ble_eq_true rfl) dL_law_824 ?_
                                                      refine g_aload_n 2 dL_law_827 rfl rfl ?_
                                                      refine g_aload_n 0 dL_law_828 rfl rfl ?_
                                                      refine g_iload_n 3 dL_law_829 rfl rfl ?_
                                                      refine g_iconst (v := 1) dL_law_830 rfl ?_
                                                      refine g_iadd dL_law_831 ?_
                                                      obtain ⟨v272, e273, hf⟩ := bnd_some hf
                                                      refine p_xld dL_law_832 e273 ?_
                                                      refine g_aload_n 0 dL_law_833 rfl rfl ?_
                                                      refine g_iload_n 3 dL_law_834 rfl rfl ?_
                                                      refine g_iconst (v := 2) dL_law_835 rfl ?_
                                                      refine g_iadd dL_law_836 ?_
                                                      obtain ⟨v274, e275, hf⟩ := bnd_some hf
                                                      refine p_xld dL_law_837 e275 ?_
                                                      obtain ⟨q276, e277, hf⟩ := bnd_some hf
                                                      refine p_callV (As := [.int v272, .int v274]) (rest := [.int q270.1]) (t_X9_heirs e277) cw_1242 w_1243 w_1244 ob_187 rfl (Nat.le_of_ble_eq_true rfl) rfl rfl (Nat.le_of_ble_eq_true rfl) dL_law_838 ?_
                                                      refine g_icmp_eq (tgt := 1066) dL_law_841 (by decide) (fun c278 => ?_) (fun c278 => ?_)
                                                      · replace hf := (if_pos c278).symm.trans hf
                                                        refine g_iinc (q := 3) (v := (b3 + (4 : Int32))) dL_law_1066 rfl rfl (Nat.le_of_ble_eq_true rfl) rfl ?_
                                                        refine g_goto (tgt := 18) dL_law_1069 (by decide) ?_
                                                        refine g_sub [1, 2, 3, 0] rfl ?_
                                                        exact ih (b3 + (4 : Int32)) q276.2 _ hf hk
                                                      · replace hf := (if_neg c278).symm.trans hf
                                                        refine g_iconst (v := 0) dL_law_844 rfl ?_
                                                        cases hf
                                                        obtain ⟨rfl, rfl⟩ := hk
                                                        exact g_iret dL_law_845 .boolean rfl rfl
                                                    · replace hf := (if_neg c265).symm.trans hf
                                                      by_cases c279 : (v1 &&& (63 : Int32)) = (24 : Int32)
                                                      · replace hf := (if_pos c279).symm.trans hf
                                                        refine g_tableIn (tgt := 846) (off := 814) dL_law_32 (by rw [c279]; decide) (by rw [c279]; decide) (by rw [c279]; rfl) (by decide) ?_
                                                        refine g_aload_n 1 dL_law_846 rfl rfl ?_
                                                        obtain ⟨q280, e281, hf⟩ := bnd_some hf
                                                        refine p_callV (As := []) (rest := []) (t_X8_give e281) cw_815 w_816 w_817 ob_0 rfl (Nat.le_of_ble_eq_true rfl) rfl rfl (Nat.le_of_ble_eq_true rfl) dL_law_847 ?_
                                                        refine g_aload_n 2 dL_law_850 rfl rfl ?_
                                                        obtain ⟨q282, e283, hf⟩ := bnd_some hf
                                                        refine p_callV (As := []) (rest := [.int q280.1]) (t_X9_give e283) cw_1246 w_1247 w_1248 ob_187 rfl (Nat.le_of_ble_eq_true rfl) rfl rfl (Nat.le_of_ble_eq_true rfl) dL_law_851 ?_
                                                        refine g_icmp_eq (tgt := 1066) dL_law_854 (by decide) (fun c284 => ?_) (fun c284 => ?_)
                                                        · replace hf := (if_pos c284).symm.trans hf
                                                          refine g_iinc (q := 3) (v := (b3 + (4 : Int32))) dL_law_1066 rfl rfl (Nat.le_of_ble_eq_true rfl) rfl ?_
                                                          refine g_goto (tgt := 18) dL_law_1069 (by decide) ?_
                                                          refine g_sub [1, 2, 3, 0] rfl ?_
                                                          exact ih (b3 + (4 : Int32)) q282.2 _ hf hk
                                                        · replace hf := (if_neg c284).symm.trans hf
                                                          refine g_iconst (v := 0) dL_law_857 rfl ?_
                                                          cases hf
                                                          obtain ⟨rfl, rfl⟩ := hk
                                                          exact g_iret dL_law_858 .boolean rfl rfl
                                                      · replace hf := (if_neg c279).symm.trans hf
                                                        by_cases c285 : (v1 &&& (63 : Int32)) = (25 : Int32)
                                                        · replace hf := (if_pos c285).symm.trans hf
                                                          refine g_tableIn (tgt := 859) (off := 827) dL_law_32 (by rw [c285]; decide) (by rw [c285]; decide) (by rw [c285]; rfl) (by decide) ?_
                                                          refine g_aload_n 1 dL_law_859 rfl rfl ?_
                                                          refine g_aload_n 0 dL_law_860 rfl rfl ?_
                                                          refine g_iload_n 3 dL_law_861 rfl rfl ?_
                                                          refine g_iconst (v := 1) dL_law_862 rfl ?_
                                                          refine g_iadd dL_law_863 ?_
                                                          obtain ⟨v286, e287, hf⟩ := bnd_some hf
                                                          refine p_xld dL_law_864 e287 ?_
                                                          refine g_aload_n 0 dL_law_865 rfl rfl ?_
                                                          refine g_iload_n 3 dL_law_866 rfl rfl ?_
                                                          refine g_iconst (v := 2) dL_law_867 rfl ?_
                                                          refine g_iadd dL_law_868 ?_
                                                          obtain ⟨v288, e289, hf⟩ := bnd_some hf
                                                          refine p_xld dL_law_869 e289 ?_
                                                          obtain ⟨q290, e291, hf⟩ := bnd_some hf
                                                          refine p_callV (As := [.int v286, .int v288]) (rest := []) (t_X8_together e291) cw_843 w_844 w_845 ob_0 rfl (Nat.le_of_ble_eq_true rfl) rfl rfl (Nat.le_of_ble_eq_true rfl) dL_law_870 ?_
                                                          refine g_aload_n 2 dL_law_873 rfl rfl ?_
                                                          refine g_aload_n 0 dL_law_874 rfl rfl ?_
                                                          refine g_iload_n 3 dL_law_875 rfl rfl ?_
                                                          refine g_iconst (v := 1) dL_law_876 rfl ?_
                                                          refine g_iadd dL_law_877 ?_
                                                          obtain ⟨v292, e293, hf⟩ := bnd_some hf
                                                          refine p_xld dL_law_878 e293 ?_
                                                          refine g_aload_n 0 dL_law_879 rfl rfl ?_
                                                          refine g_iload_n 3 dL_law_880 rfl rfl ?_
                                                          refine g_iconst (v := 2) dL_law_881 rfl ?_
                                                          refine g_iadd dL_law_882 ?_
                                                          obtain ⟨v294, e295, hf⟩ := bnd_some hf
                                                          refine p_xld dL_law_883 e295 ?_
                                                          obtain ⟨q296, e297, hf⟩ := bnd_some hf
                                                          refine p_callV (As := [.int v292, .int v294]) (rest := [.int q290.1]) (t_X9_together e297) cw_1254 w_1255 w_1256 ob_187 rfl (Nat.le_of_ble_eq_true rfl) rfl rfl (Nat.le_of_ble_eq_true rfl) dL_law_884 ?_
                                                          refine g_icmp_eq (tgt := 1066) dL_law_887 (by decide) (fun c298 => ?_) (fun c298 => ?_)
                                                          · replace hf := (if_pos c298).symm.trans hf
                                                            refine g_iinc (q := 3) (v := (b3 + (4 : Int32))) dL_law_1066 rfl rfl (Nat.le_of_ble_eq_true rfl) rfl ?_
                                                            refine g_goto (tgt := 18) dL_law_1069 (by decide) ?_
                                                            refine g_sub [1, 2, 3, 0] rfl ?_
                                                            exact ih (b3 + (4 : Int32)) q296.2 _ hf hk
                                                          · replace hf := (if_neg c298).symm.trans hf
                                                            refine g_iconst (v := 0) dL_law_890 rfl ?_
                                                            cases hf
                                                            obtain ⟨rfl, rfl⟩ := hk
                                                            exact g_iret dL_law_891 .boolean rfl rfl
                                                        · replace hf := (if_neg c285).symm.trans hf
                                                          by_cases c299 : (v1 &&& (63 : Int32)) = (26 : Int32)
                                                          · replace hf := (if_pos c299).symm.trans hf
                                                            refine g_tableIn (tgt := 892) (off := 860) dL_law_32 (by rw [c299]; decide) (by rw [c299]; decide) (by rw [c299]; rfl) (by decide) ?_
                                                            refine g_aload_n 1 dL_law_892 rfl rfl ?_
                                                            refine g_aload_n 0 dL_law_893 rfl rfl ?_
                                                            refine g_iload_n 3 dL_law_894 rfl rfl ?_
                                                            refine g_iconst (v := 1) dL_law_895 rfl ?_
                                                            refine g_iadd dL_law_896 ?_
                                                            obtain ⟨v300, e301, hf⟩ := bnd_some hf
                                                            refine p_xld dL_law_897 e301 ?_
                                                            refine g_aload_n 0 dL_law_898 rfl rfl ?_
                                                            refine g_iload_n 3 dL_law_899 rfl rfl ?_
                                                            refine g_iconst (v := 2) dL_law_900 rfl ?_
                                                            refine g_iadd dL_law_901 ?_
                                                            obtain ⟨v302, e303, hf⟩ := bnd_some hf
                                                            refine p_xld dL_law_902 e303 ?_
                                                            obtain ⟨q304, e305, hf⟩ := bnd_some hf
                                                            refine p_callV (As := [.int v300, .int v302]) (rest := []) (t_X8_season e305) cw_847 w_848 w_849 ob_0 rfl (Nat.le_of_ble_eq_true rfl) rfl rfl (Nat.le_of_ble_eq_true rfl) dL_law_903 ?_
                                                            refine g_aload_n 2 dL_law_906 rfl rfl ?_
                                                            refine g_aload_n 0 dL_law_907 rfl rfl ?_
                                                            refine g_iload_n 3 dL_law_908 rfl rfl ?_
                                                            refine g_iconst (v := 1) dL_law_909 rfl ?_
                                                            refine g_iadd dL_law_910 ?_
                                                            obtain ⟨v306, e307, hf⟩ := bnd_some hf
                                                            refine p_xld dL_law_911 e307 ?_
                                                            refine g_aload_n 0 dL_law_912 rfl rfl ?_
                                                            refine g_iload_n 3 dL_law_913 rfl rfl ?_
                                                            refine g_iconst (v := 2) dL_law_914 rfl ?_
                                                            refine g_iadd dL_law_915 ?_
                                                            obtain ⟨v308, e309, hf⟩ := bnd_some hf
                                                            refine p_xld dL_law_916 e309 ?_
                                                            obtain ⟨q310, e311, hf⟩ := bnd_some hf
                                                            refine p_callV (As := [.int v306, .int v308]) (rest := [.int q304.1]) (t_X9_season e311) cw_1258 w_1259 w_1260 ob_187 rfl (Nat.le_of_ble_eq_true rfl) rfl rfl (Nat.le_of_ble_eq_true rfl) dL_law_917 ?_
                                                            refine g_icmp_eq (tgt := 1066) dL_law_920 (by decide) (fun c312 => ?_) (fun c312 => ?_)
                                                            · replace hf := (if_pos c312).symm.trans hf
                                                              refine g_iinc (q := 3) (v := (b3 + (4 : Int32))) dL_law_1066 rfl rfl (Nat.le_of_ble_eq_true rfl) rfl ?_
                                                              refine g_goto (tgt := 18) dL_law_1069 (by decide) ?_
                                                              refine g_sub [1, 2, 3, 0] rfl ?_
                                                              exact ih (b3 + (4 : Int32)) q310.2 _ hf hk
                                                            · replace hf := (if_neg c312).symm.trans hf
                                                              refine g_iconst (v := 0) dL_law_923 rfl ?_
                                                              cases hf
                                                              obtain ⟨rfl, rfl⟩ := hk
                                                              exact g_iret dL_law_924 .boolean rfl rfl
                                                          · replace hf := (if_neg c299).symm.trans hf
                                                            by_cases c313 : (v1 &&& (63 : Int32)) = (27 : Int32)
                                                            · replace hf := (if_pos c313).symm.trans hf
                                                              refine g_tableIn (tgt := 925) (off := 893) dL_law_32 (by rw [c313]; decide) (by rw [c313]; decide) (by rw [c313]; rfl) (by decide) ?_
                                                              refine g_aload_n 1 dL_law_925 rfl rfl ?_
                                                              obtain ⟨q314, e315, hf⟩ := bnd_some hf
                                                              refine p_callV (As := []) (rest := []) (t_X8_year e315) cw_851 w_852 w_853 ob_0 rfl (Nat.le_of_ble_eq_true rfl) rfl rfl (Nat.le_of_ble_eq_true rfl) dL_law_926 ?_
                                                              refine g_aload_n 2 dL_law_929 rfl rfl ?_
                                                              obtain ⟨q316, e317, hf⟩ := bnd_some hf
                                                              refine p_callV (As := []) (rest := [.int q314.1]) (t_X9_year e317) cw_1262 w_1263 w_1264 ob_187 rfl (Nat.le_of_ble_eq_true rfl) rfl rfl (Nat.le_of_ble_eq_true rfl) dL_law_930 ?_
                                                              refine g_icmp_eq (tgt := 1066) dL_law_933 (by decide) (fun c318 => ?_) (fun c318 => ?_)
                                                              · replace hf := (if_pos c318).symm.trans hf
                                                                refine g_iinc (q := 3) (v := (b3 + (4 : Int32))) dL_law_1066 rfl rfl (Nat.le_of_ble_eq_true rfl) rfl ?_
                                                                refine g_goto (tgt := 18) dL_law_1069 (by decide) ?_
                                                                refine g_sub [1, 2, 3, 0] rfl ?_
                                                                exact ih (b3 + (4 : Int32)) q316.2 _ hf hk
                                                              · replace hf := (if_neg c318).symm.trans hf
                                                                refine g_iconst (v := 0) dL_law_936 rfl ?_
                                                                cases hf
                                                                obtain ⟨rfl, rfl⟩ := hk
                                                                exact g_iret dL_law_937 .boolean rfl rfl
                                                            · replace hf := (if_neg c313).symm.trans hf
                                                              by_cases c319 : (v1 &&& (63 : Int32)) = (28 : Int32)
                                                              · replace hf := (if_pos c319).symm.trans hf
                                                                refine g_tableIn (tgt := 938) (off := 906) dL_law_32 (by rw [c319]; decide) (by rw [c319]; decide) (by rw [c319]; rfl) (by decide) ?_
                                                                refine g_aload_n 1 dL_law_938 rfl rfl ?_
                                                                refine g_aload_n 0 dL_law_939 rfl rfl ?_
                                                                refine g_iload_n 3 dL_law_940 rfl rfl ?_
                                                                refine g_iconst (v := 1) dL_law_941 rfl ?_
                                                                refine g_iadd dL_law_942 ?_
                                                                obtain ⟨v320, e321, hf⟩ := bnd_some hf
                                                                refine p_xld dL_law_943 e321 ?_
                                                                refine g_aload_n 0 dL_law_944 rfl rfl ?_
                                                                refine g_iload_n 3 dL_law_945 rfl rfl ?_
                                                                refine g_iconst (v := 2) dL_law_946 rfl ?_
                                                                refine g_iadd dL_law_947 ?_
                                                                obtain ⟨v322, e323, hf⟩ := bnd_some hf
                                                                refine p_xld dL_law_948 e323 ?_
                                                                obtain ⟨q324, e325, hf⟩ := bnd_some hf
                                                                refine p_callV (As := [.int v320, .int v322]) (rest := []) (t_X8_years e325) cw_859 w_860 w_861 ob_0 rfl (Nat.le_of_ble_eq_true rfl) rfl rfl (Nat.le_of_ble_eq_true rfl) dL_law_949 ?_
                                                                refine g_aload_n 2 dL_law_952 rfl rfl ?_
                                                                refine g_aload_n 0 dL_law_953 rfl rfl ?_
                                                                refine g_iload_n 3 dL_law_954 rfl rfl ?_
                                                                refine g_iconst (v := 1) dL_law_955 rfl ?_
                                                                refine g_iadd dL_law_956 ?_
                                                                obtain ⟨v326, e327, hf⟩ := bnd_some hf
                                                                refine p_xld dL_law_957 e327 ?_
                                                                refine g_aload_n 0 dL_law_958 rfl rfl ?_
                                                                refine g_iload_n 3 dL_law_959 rfl rfl ?_
                                                                refine g_iconst (v := 2) dL_law_960 rfl ?_
                                                                refine g_iadd dL_law_961 ?_
                                                                obtain ⟨v328, e329, hf⟩ := bnd_some hf
                                                                refine p_xld dL_law_962 e329 ?_
                                                                obtain ⟨q330, e331, hf⟩ := bnd_some hf
                                                                refine p_callV (As := [.int v326, .int v328]) (rest := [.int q324.1]) (t_X9_years e331) cw_1266 w_1267 w_1268 ob_187 rfl (Nat.le_of_ble_eq_true rfl) rfl rfl (Nat.le_of_ble_eq_true rfl) dL_law_963 ?_
                                                                refine g_icmp_eq (tgt := 1066) dL_law_966 (by decide) (fun c332 => ?_) (fun c332 => ?_)
                                                                · replace hf := (if_pos c332).symm.trans hf
                                                                  refine g_iinc (q := 3) (v := (b3 + (4 : Int32))) dL_law_1066 rfl rfl (Nat.le_of_ble_eq_true rfl) rfl ?_
                                                                  refine g_goto (tgt := 18) dL_law_1069 (by decide) ?_
                                                                  refine g_sub [1, 2, 3, 0] rfl ?_
                                                                  exact ih (b3 + (4 : Int32)) q330.2 _ hf hk
                                                                · replace hf := (if_neg c332).symm.trans hf
                                                                  refine g_iconst (v := 0) dL_law_969 rfl ?_
                                                                  cases hf
                                                                  obtain ⟨rfl, rfl⟩ := hk
                                                                  exact g_iret dL_law_970 .boolean rfl rfl
                                                              · replace hf := (if_neg c319).symm.trans hf
                                                                by_cases c333 : (v1 &&& (63 : Int32)) = (29 : Int32)
                                                                · replace hf := (if_pos c333).symm.trans hf
                                                                  refine g_tableIn (tgt := 971) (off := 939) dL_law_32 (by rw [c333]; decide) (by rw [c333]; decide) (by rw [c333]; rfl) (by decide) ?_
                                                                  refine g_aload_n 1 dL_law_971 rfl rfl ?_
                                                                  refine g_aload_n 0 dL_law_972 rfl rfl ?_
                                                                  refine g_iload_n 3 dL_law_973 rfl rfl ?_
                                                                  refine g_iconst (v := 1) dL_law_974 rfl ?_
                                                                  refine g_iadd dL_law_975 ?_
                                                                  obtain ⟨v334, e335, hf⟩ := bnd_some hf
                                                                  refine p_xld dL_law_976 e335 ?_
                                                                  obtain ⟨q336, e337, hf⟩ := bnd_some hf
                                                                  refine p_callV (As := [.int v334]) (rest := []) (t_X8_row e337) cw_870 w_871 w_872 ob_0 rfl (Nat.le_of_ble_eq_true rfl) rfl rfl (Nat.le_of_ble_eq_true rfl) dL_law_977 ?_
                                                                  refine g_aload_n 2 dL_law_980 rfl rfl ?_
                                                                  refine g_aload_n 0 dL_law_981 rfl rfl ?_
                                                                  refine g_iload_n 3 dL_law_982 rfl rfl ?_
                                                                  refine g_iconst (v := 1) dL_law_983 rfl ?_
                                                                  refine g_iadd dL_law_984 ?_
                                                                  obtain ⟨v338, e339, hf⟩ := bnd_some hf
                                                                  refine p_xld dL_law_985 e339 ?_
                                                                  obtain ⟨q340, e341, hf⟩ := bnd_some hf
                                                                  refine p_callV (As := [.int v338]) (rest := [.int q336.1]) (t_X9_row e341) cw_1273 w_1274 w_1275 ob_187 rfl (Nat.le_of_ble_eq_true rfl) rfl rfl (Nat.le_of_ble_eq_true rfl) dL_law_986 ?_
                                                                  refine g_icmp_eq (tgt := 1066) dL_law_989 (by decide) (fun c342 => ?_) (fun c342 => ?_)
                                                                  · replace hf := (if_pos c342).symm.trans hf
                                                                    refine g_iinc (q := 3) (v := (b3 + (4 : Int32))) dL_law_1066 rfl rfl (Nat.le_of_ble_eq_true rfl) rfl ?_
                                                                    refine g_goto (tgt := 18) dL_law_1069 (by decide) ?_
                                                                    refine g_sub [1, 2, 3, 0] rfl ?_
                                                                    exact ih (b3 + (4 : Int32)) q340.2 _ hf hk
                                                                  · replace hf := (if_neg c342).symm.trans hf
                                                                    refine g_iconst (v := 0) dL_law_992 rfl ?_
                                                                    cases hf
                                                                    obtain ⟨rfl, rfl⟩ := hk
                                                                    exact g_iret dL_law_993 .boolean rfl rfl
                                                                · replace hf := (if_neg c333).symm.trans hf
                                                                  by_cases c343 : (v1 &&& (63 : Int32)) = (30 : Int32)
                                                                  · replace hf := (if_pos c343).symm.trans hf
                                                                    refine g_tableIn (tgt := 994) (off := 962) dL_law_32 (by rw [c343]; decide) (by rw [c343]; decide) (by rw [c343]; rfl) (by decide) ?_
                                                                    refine g_aload_n 1 dL_law_994 rfl rfl ?_
                                                                    refine g_aload_n 0 dL_law_995 rfl rfl ?_
                                                                    refine g_iload_n 3 dL_law_996 rfl rfl ?_
                                                                    refine g_iconst (v := 1) dL_law_997 rfl ?_
                                                                    refine g_iadd dL_law_998 ?_
                                                                    obtain ⟨v344, e345, hf⟩ := bnd_some hf
                                                                    refine p_xld dL_law_999 e345 ?_
                                                                    obtain ⟨q346, e347, hf⟩ := bnd_some hf
                                                                    refine p_callV (As := [.int v344]) (rest := []) (t_X8_judge e347) cw_878 w_879 w_880 ob_0 rfl (Nat.le_of_ble_eq_true rfl) rfl rfl (Nat.le_of_ble_eq_true rfl) dL_law_1000 ?_
                                                                    refine g_aload_n 2 dL_law_1003 rfl rfl ?_
                                                                    refine g_aload_n 0 dL_law_1004 rfl rfl ?_
                                                                    refine g_iload_n 3 dL_law_1005 rfl rfl ?_
                                                                    refine g_iconst (v := 1) dL_law_1006 rfl ?_
                                                                    refine g_iadd dL_law_1007 ?_
                                                                    obtain ⟨v348, e349, hf⟩ := bnd_some hf
                                                                    refine p_xld dL_law_1008 e349 ?_
                                                                    obtain ⟨q350, e351, hf⟩ := bnd_some hf
                                                                    refine p_callV (As := [.int v348]) (rest := [.int q346.1]) (t_X9_judge e351) cw_1277 w_1278 w_1279 ob_187 rfl (Nat.le_of_ble_eq_true rfl) rfl rfl (Nat.le_of_ble_eq_true rfl) dL_law_1009 ?_
                                                                    refine g_icmp_eq (tgt := 1066) dL_law_1012 (by decide) (fun c352 => ?_) (fun c352 => ?_)
                                                                    · replace hf := (if_pos c352).symm.trans hf
                                                                      refine g_iinc (q := 3) (v := (b3 + (4 : Int32))) dL_law_1066 rfl rfl (Nat.le_of_ble_eq_true rfl) rfl ?_
                                                                      refine g_goto (tgt := 18) dL_law_1069 (by decide) ?_
                                                                      refine g_sub [1, 2, 3, 0] rfl ?_
                                                                      exact ih (b3 + (4 : Int32)) q350.2 _ hf hk
                                                                    · replace hf := (if_neg c352).symm.trans hf
                                                                      refine g_iconst (v := 0) dL_law_1015 rfl ?_
                                                                      cases hf
                                                                      obtain ⟨rfl, rfl⟩ := hk
                                                                      exact g_iret dL_law_1016 .boolean rfl rfl
                                                                  · replace hf := (if_neg c343).symm.trans hf
                                                                    by_cases c353 : (v1 &&& (63 : Int32)) = (31 : Int32)
                                                                    · replace hf := (if_pos c353).symm.trans hf
                                                                      refine g_tableIn (tgt := 1017) (off := 985) dL_law_32 (by rw [c353]; decide) (by rw [c353]; decide) (by rw [c353]; rfl) (by decide) ?_
                                                                      refine g_aload_n 1 dL_law_1017 rfl rfl ?_
                                                                      obtain ⟨q354, e355, hf⟩ := bnd_some hf
                                                                      refine p_callV (As := []) (rest := []) (t_X8_image e355) cw_903 w_904 w_905 ob_0 rfl (Nat.le_of_ble_eq_true rfl) rfl rfl (Nat.le_of_ble_eq_true rfl) dL_law_1018 ?_
                                                                      refine g_aload_n 2 dL_law_1021 rfl rfl ?_
                                                                      obtain ⟨q356, e357, hf⟩ := bnd_some hf
                                                                      refine p_callV (As := []) (rest := [.int q354.1]) (t_X9_image e357) cw_1289 w_1290 w_1291 ob_187 rfl (Nat.le_of_ble_eq_true rfl) rfl rfl (Nat.le_of_ble_eq_true rfl) dL_law_1022 ?_
                                                                      refine g_icmp_eq (tgt := 1066) dL_law_1025 (by decide) (fun c358 => ?_) (fun c358 => ?_)
                                                                      · replace hf := (if_pos c358).symm.trans hf
                                                                        refine g_iinc (q := 3) (v := (b3 + (4 : Int32))) dL_law_1066 rfl rfl (Nat.le_of_ble_eq_true rfl) rfl ?_
                                                                        refine g_goto (tgt := 18) dL_law_1069 (by decide) ?_
                                                                        refine g_sub [1, 2, 3, 0] rfl ?_
                                                                        exact ih (b3 + (4 : Int32)) q356.2 _ hf hk
                                                                      · replace hf := (if_neg c358).symm.trans hf
                                                                        refine g_iconst (v := 0) dL_law_1028 rfl ?_
                                                                        cases hf
                                                                        obtain ⟨rfl, rfl⟩ := hk
                                                                        exact g_iret dL_law_1029 .boolean rfl rfl
                                                                    · replace hf := (if_neg c353).symm.trans hf
                                                                      by_cases c359 : (v1 &&& (63 : Int32)) = (32 : Int32)
                                                                      · replace hf := (if_pos c359).symm.trans hf
                                                                        refine g_tableIn (tgt := 1030) (off := 998) dL_law_32 (by rw [c359]; decide) (by rw [c359]; decide) (by rw [c359]; rfl) (by decide) ?_
                                                                        refine g_aload_n 1 dL_law_1030 rfl rfl ?_
                                                                        obtain ⟨q360, e361, hf⟩ := bnd_some hf
                                                                        refine p_callV (As := []) (rest := []) (t_X8_on e361) cw_907 w_908 w_909 ob_0 rfl (Nat.le_of_ble_eq_true rfl) rfl rfl (Nat.le_of_ble_eq_true rfl) dL_law_1031 ?_
                                                                        refine g_aload_n 2 dL_law_1034 rfl rfl ?_
                                                                        obtain ⟨q362, e363, hf⟩ := bnd_some hf
                                                                        refine p_callV (As := []) (rest := [.int q360.1]) (t_X9_on e363) cw_1293 w_1294 w_1295 ob_187 rfl (Nat.le_of_ble_eq_true rfl) rfl rfl (Nat.le_of_ble_eq_true rfl) dL_law_1035 ?_
                                                                        refine g_icmp_eq (tgt := 1066) dL_law_1038 (by decide) (fun c364 => ?_) (fun c364 => ?_)
                                                                        · replace hf := (if_pos c364).symm.trans hf
                                                                          refine g_iinc (q := 3) (v := (b3 + (4 : Int32))) dL_law_1066 rfl rfl (Nat.le_of_ble_eq_true rfl) rfl ?_
                                                                          refine g_goto (tgt := 18) dL_law_1069 (by decide) ?_
                                                                          refine g_sub [1, 2, 3, 0] rfl ?_
                                                                          exact ih (b3 + (4 : Int32)) q362.2 _ hf hk
                                                                        · replace hf := (if_neg c364).symm.trans hf
                                                                          refine g_iconst (v := 0) dL_law_1041 rfl ?_
                                                                          cases hf
                                                                          obtain ⟨rfl, rfl⟩ := hk
                                                                          exact g_iret dL_law_1042 .boolean rfl rfl
                                                                      · replace hf := (if_neg c359).symm.trans hf
                                                                        by_cases c365 : (v1 &&& (63 : Int32)) = (33 : Int32)
                                                                        · replace hf := (if_pos c365).symm.trans hf
                                                                          refine g_tableIn (tgt := 1043) (off := 1011) dL_law_32 (by rw [c365]; decide) (by rw [c365]; decide) (by rw [c365]; rfl) (by decide) ?_
                                                                          refine g_aload_n 1 dL_law_1043 rfl rfl ?_
                                                                          refine g_aload_n 0 dL_law_1044 rfl rfl ?_
                                                                          refine g_iload_n 3 dL_law_1045 rfl rfl ?_
                                                                          refine g_iconst (v := 1) dL_law_1046 rfl ?_
                                                                          refine g_iadd dL_law_1047 ?_
                                                                          obtain ⟨v366, e367, hf⟩ := bnd_some hf
                                                                          refine p_xld dL_law_1048 e367 ?_
                                                                          obtain ⟨q368, e369, hf⟩ := bnd_some hf
                                                                          refine p_callV (As := [.int v366]) (rest := []) (t_X8_count e369) cw_911 w_912 w_913 ob_0 rfl (Nat.le_of_ble_eq_true rfl) rfl rfl (Nat.le_of_ble_eq_true rfl) dL_law_1049 ?_
                                                                          refine g_aload_n 2 dL_law_1052 rfl rfl ?_
                                                                          refine g_aload_n 0 dL_law_1053 rfl rfl ?_
                                                                          refine g_iload_n 3 dL_law_1054 rfl rfl ?_
                                                                          refine g_iconst (v := 1) dL_law_1055 rfl ?_
                                                                          refine g_iadd dL_law_1056 ?_
                                                                          obtain ⟨v370, e371, hf⟩ := bnd_some hf
                                                                          refine p_xld dL_law_1057 e371 ?_
                                                                          obtain ⟨q372, e373, hf⟩ := bnd_some hf
                                                                          refine p_callV (As := [.int v370]) (rest := [.int q368]) (t_X9_count e373) cw_1297 w_1298 w_1299 ob_187 rfl (Nat.le_of_ble_eq_true rfl) rfl rfl (Nat.le_of_ble_eq_true rfl) dL_law_1058 ?_
                                                                          refine g_icmp_eq (tgt := 1066) dL_law_1061 (by decide) (fun c374 => ?_) (fun c374 => ?_)
                                                                          · replace hf := (if_pos c374).symm.trans hf
                                                                            refine g_iinc (q := 3) (v := (b3 + (4 : Int32))) dL_law_1066 rfl rfl (Nat.le_of_ble_eq_true rfl) rfl ?_
                                                                            refine g_goto (tgt := 18) dL_law_1069 (by decide) ?_
                                                                            refine g_sub [1, 2, 3, 0] rfl ?_
                                                                            exact ih (b3 + (4 : Int32)) m _ hf hk
                                                                          · replace hf := (if_neg c374).symm.trans hf
                                                                            refine g_iconst (v := 0) dL_law_1064 rfl ?_
                                                                            cases hf
                                                                            obtain ⟨rfl, rfl⟩ := hk
                                                                            exact g_iret dL_law_1065 .boolean rfl rfl
                                                                        · replace hf := (if_neg c365).symm.trans hf
                                                                          have hsw := sw_out (lo := 0) (hi := 33) (x := (v1 &&& (63 : Int32))) (fun z z1 z2 => by
                                                                              have zz : z = 0 ∨ z = 1 ∨ z = 2 ∨ z = 3 ∨ z = 4 ∨ z = 5 ∨ z = 6 ∨ z = 7 ∨ z = 8 ∨ z = 9 ∨ z = 10 ∨ z = 11 ∨ z = 12 ∨ z = 13 ∨ z = 14 ∨ z = 15 ∨ z = 16 ∨ z = 17 ∨ z = 18 ∨ z = 19 ∨ z = 20 ∨ z = 21 ∨ z = 22 ∨ z = 23 ∨ z = 24 ∨ z = 25 ∨ z = 26 ∨ z = 27 ∨ z = 28 ∨ z = 29 ∨ z = 30 ∨ z = 31 ∨ z = 32 ∨ z = 33 := by omega
                                                                              rcases zz with rfl | rfl | rfl | rfl | rfl | rfl | rfl | rfl | rfl | rfl | rfl | rfl | rfl | rfl | rfl | rfl | rfl | rfl | rfl | rfl | rfl | rfl | rfl | rfl | rfl | rfl | rfl | rfl | rfl | rfl | rfl | rfl | rfl | rfl <;> assumption)
                                                                          refine g_tableOut (tgt := 1066) dL_law_32 hsw (by decide) ?_
                                                                          refine g_iinc (q := 3) (v := (b3 + (4 : Int32))) dL_law_1066 rfl rfl (Nat.le_of_ble_eq_true rfl) rfl ?_
                                                                          refine g_goto (tgt := 18) dL_law_1069 (by decide) ?_
                                                                          refine g_sub [1, 2, 3, 0] rfl ?_
                                                                          exact ih (b3 + (4 : Int32)) m _ hf hk

def sh0 : Nat → hSh := fun _ => .inl 0
def mm0 : mM := fun _ _ => 0
def shA : Nat → hSh := s_up sh0 0 (.inr (.inr (8, [1, 1, 1, 0, 1, 1, 1, 1, 1, 1, 1, 1])))
def mmA : mM := m_clr mm0 0
def shB : Nat → hSh := sF_X8_init_0 shA
def mmB : mM := mF_X8_init_0 mmA
def shC : Nat → hSh := s_up shB 187 (.inr (.inr (9, [1, 1, 1, 1, 1, 0, 1, 1, 0, 0, 0, 0, 0, 1, 1, 1, 1, 0, 0, 0, 1, 0])))
def mmC : mM := m_clr mmB 187
def shD : Nat → hSh := sF_X9_init_187 shC
/-- the contents behind both constructors -/
def mStart : mM := mF_X9_init_187 mmC
theorem shD_ok : ∀ a, a < 200 → sH a = shD a := by decide +kernel
set_option maxRecDepth 100000 in
theorem t_L_law {V : eV} {nm : String} {q : mM} (hf : f_L_law_L18 V fU 0 mStart = some (.inr q)) : gG V (k_L_law nm) 0 [(0, .ref (vS V))] [] (0, 0, sh0, mm0) (some (.int 1)) (hS q) := by
  refine g_new (ci := 8) (ty0 := tyX8) (fs := [1, 1, 1, 0, 1, 1, 1, 1, 1, 1, 1, 1]) w_75 w_76 w_57 dL_law_0 rfl inT_8 tyX8_ok nf_8 (by decide) ?_
  show gG V (k_L_law nm) 3 [(0, .ref (vS V))] [.ref (vB V + 0)] (1, 12, shA, mmA) _ _
  refine g_dup dL_law_3 rfl ?_
  refine g_callI (As := []) (rest := [.ref (vB V + 0)]) (i_X8_init_0 (V := V) (sh := shA) (m := mmA) rfl) cw_77 w_78 rfl (Nat.le_of_ble_eq_true rfl) rfl rfl (Nat.le_of_ble_eq_true rfl) dL_law_4 ?_
  show gG V (k_L_law nm) 7 [(0, .ref (vS V))] [.ref (vB V + 0)] (187, 1377, shB, mmB) _ _
  refine g_astore_n dL_law_7 rfl (Nat.le_of_ble_eq_true rfl) rfl ?_
  refine g_new (ci := 9) (ty0 := tyX9) (fs := [1, 1, 1, 1, 1, 0, 1, 1, 0, 0, 0, 0, 0, 1, 1, 1, 1, 0, 0, 0, 1, 0]) w_923 w_924 w_66 dL_law_8 rfl inT_9 tyX9_ok nf_9 (by decide) ?_
  show gG V (k_L_law nm) 11 [(1, .ref (vB V + 0)), (0, .ref (vS V))] [.ref (vB V + 187)] (188, 1399, shC, mmC) _ _
  refine g_dup dL_law_11 rfl ?_
  refine g_callI (As := []) (rest := [.ref (vB V + 187)]) (i_X9_init_187 (V := V) (sh := shC) (m := mmC) rfl) cw_925 w_926 rfl (Nat.le_of_ble_eq_true rfl) rfl rfl (Nat.le_of_ble_eq_true rfl) dL_law_12 ?_
  show gG V (k_L_law nm) 15 [(1, .ref (vB V + 0)), (0, .ref (vS V))] [.ref (vB V + 187)] (200, 2286, shD, mStart) _ _
  refine g_congr (h2 := hS mStart) rfl rfl shD_ok rfl ?_
  refine g_astore_n dL_law_15 rfl (Nat.le_of_ble_eq_true rfl) rfl ?_
  refine g_iconst (v := 0) dL_law_16 rfl ?_
  refine g_istore_n dL_law_17 rfl (Nat.le_of_ble_eq_true rfl) rfl ?_
  refine g_sub [3, 2, 1, 0] rfl ?_
  refine t_L_law_L18 fU 0 mStart _ hf ?_
  show gG V (k_L_law nm) 1072 [] [] (hS q) _ _
  refine g_iconst (v := 1) dL_law_1072 rfl ?_
  exact g_iret dL_law_1073 .boolean rfl rfl
