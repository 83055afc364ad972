/-! steps: what was told -/
section TELL
variable {G : JG} {X : Int}
theorem tans_b {w k x : Int} {l : List TR} (h : ¬ (0 ≤ x ∧ x < w)) : tans w l k x = -2 := if_neg h
theorem tans_n {w k x : Int} {l : List TR} (h : 0 ≤ x ∧ x < w) (h2 : ¬ (0 ≤ k ∧ k < l.length)) : tans w l k x = -1 := (if_pos h).trans (if_neg h2)
theorem tans_y {w k x : Int} {l : List TR} (h : 0 ≤ x ∧ x < w) (h2 : 0 ≤ k ∧ k < l.length) : tans w l k x = rowx l k x := (if_pos h).trans (if_pos h2)
theorem st_match (k x : Int) : JSt (IV X) 3072 G X 134 213 [(0, k), (0, x)] := mk_obs fun n M T K P D C H A hX => by
  refine ⟨tans 2 (D.1 0) k x, fun Q hQ => ?_, fun M1 Q R hQ => ?_⟩
  · have W := C.1
    refine rn_X11_match _ _ _ M (sg_X11_match_0 _ _ _ M ?_)
    rw [wa_1207 W]
    exact ⟨wa_t W, w_tmatches_t W, c_answer C.2.2.2.2.2.1.1 (fun _ => hQ)⟩
  · have W := R.1
    have wt := w_model_t W
    have R1 := R.2.2.2.2.1
    have en := R1.1
    have hl : ((D.1 0).length : Int) ≤ 3840 := C.2.2.2.2.2.1.1.2.2.1.2
    refine rn_X12_match _ _ _ M1 (sg_X12_match_0 _ _ _ M1 ?_)
    by_cases hx : 0 ≤ x ∧ x < 2
    · by_cases hk : 0 ≤ k ∧ k < (D.1 0).length
      · rw [tans_y hx hk] at hQ
        have e := R1.2 k hk.1 hk.2
        have hx2 : x = 0 ∨ x = 1 := by omega
        rcases hx2 with rfl | rfl
        · rw [← e.1] at hQ
          repeat' first | rw [wa_1200 W] | (refine r_in ?_ ?_) | (rw [w_model_1314 W]) | exact w_m1314_t W | (rw [w_m1314_n W]) | (rw [w_model_1315 W]) | exact w_m1315_t W | (rw [w_m1315_n W]) | (rw [en]) | apply And.intro | intro _ | exact wt | exact wa_t W | exact w_shelf_t W | assumption | exact Or.inl rfl | exact Or.inr rfl | rfl | omega | (unfold jR; omega)
        · rw [← e.2] at hQ
          repeat' first | rw [wa_1200 W] | (refine r_in ?_ ?_) | (rw [w_model_1314 W]) | exact w_m1314_t W | (rw [w_m1314_n W]) | (rw [w_model_1315 W]) | exact w_m1315_t W | (rw [w_m1315_n W]) | (rw [en]) | apply And.intro | intro _ | exact wt | exact wa_t W | exact w_shelf_t W | assumption | exact Or.inl rfl | exact Or.inr rfl | rfl | omega | (unfold jR; omega)
      · rw [tans_n hx hk] at hQ
        repeat' first | rw [wa_1200 W] | (refine r_in ?_ ?_) | (rw [en]) | apply And.intro | intro _ | exact wt | exact wa_t W | exact w_shelf_t W | assumption | exact Or.inl rfl | exact Or.inr rfl | rfl | omega | (unfold jR; omega)
    · rw [tans_b hx] at hQ
      repeat' first | rw [wa_1200 W] | (refine r_in ?_ ?_) | apply And.intro | intro _ | exact wt | exact wa_t W | exact w_shelf_t W | assumption | exact Or.inl rfl | exact Or.inr rfl | rfl | omega | (unfold jR; omega)
theorem st_run (k x : Int) : JSt (IV X) 3072 G X 141 229 [(0, k), (0, x)] := mk_obs fun n M T K P D C H A hX => by
  refine ⟨tans 3 (D.1 2) k x, fun Q hQ => ?_, fun M1 Q R hQ => ?_⟩
  · have W := C.1
    refine rn_X11_run _ _ _ M (sg_X11_run_0 _ _ _ M ?_)
    rw [wa_1209 W]
    exact ⟨wa_t W, w_truns_t W, c_answer C.2.2.2.2.2.1.2.2.1 (fun _ => hQ)⟩
  · have W := R.1
    have wt := w_model_t W
    have R1 := R.2.2.2.2.2.2.1
    have en := R1.1
    have hl : ((D.1 2).length : Int) ≤ 240 := C.2.2.2.2.2.1.2.2.1.2.2.1.2
    refine rn_X12_run _ _ _ M1 (sg_X12_run_0 _ _ _ M1 ?_)
    by_cases hx : 0 ≤ x ∧ x < 3
    · by_cases hk : 0 ≤ k ∧ k < (D.1 2).length
      · rw [tans_y hx hk] at hQ
        have e := R1.2 k hk.1 hk.2
        have hx2 : x = 0 ∨ x = 1 ∨ x = 2 := by omega
        rcases hx2 with rfl | rfl | rfl
        · rw [← e.1] at hQ
          repeat' first | rw [wa_1200 W] | (refine r_in ?_ ?_) | (rw [w_model_1328 W]) | exact w_m1328_t W | (rw [w_m1328_n W]) | (rw [w_model_1329 W]) | exact w_m1329_t W | (rw [w_m1329_n W]) | (rw [w_model_1330 W]) | exact w_m1330_t W | (rw [w_m1330_n W]) | (rw [en]) | apply And.intro | intro _ | exact wt | exact wa_t W | exact w_shelf_t W | assumption | exact Or.inl rfl | exact Or.inr rfl | rfl | omega | (unfold jR; omega)
        · rw [← e.2.1] at hQ
          repeat' first | rw [wa_1200 W] | (refine r_in ?_ ?_) | (rw [w_model_1328 W]) | exact w_m1328_t W | (rw [w_m1328_n W]) | (rw [w_model_1329 W]) | exact w_m1329_t W | (rw [w_m1329_n W]) | (rw [w_model_1330 W]) | exact w_m1330_t W | (rw [w_m1330_n W]) | (rw [en]) | apply And.intro | intro _ | exact wt | exact wa_t W | exact w_shelf_t W | assumption | exact Or.inl rfl | exact Or.inr rfl | rfl | omega | (unfold jR; omega)
        · rw [← e.2.2] at hQ
          repeat' first | rw [wa_1200 W] | (refine r_in ?_ ?_) | (rw [w_model_1328 W]) | exact w_m1328_t W | (rw [w_m1328_n W]) | (rw [w_model_1329 W]) | exact w_m1329_t W | (rw [w_m1329_n W]) | (rw [w_model_1330 W]) | exact w_m1330_t W | (rw [w_m1330_n W]) | (rw [en]) | apply And.intro | intro _ | exact wt | exact wa_t W | exact w_shelf_t W | assumption | exact Or.inl rfl | exact Or.inr rfl | rfl | omega | (unfold jR; omega)
      · rw [tans_n hx hk] at hQ
        repeat' first | rw [wa_1200 W] | (refine r_in ?_ ?_) | (rw [en]) | apply And.intro | intro _ | exact wt | exact wa_t W | exact w_shelf_t W | assumption | exact Or.inl rfl | exact Or.inr rfl | rfl | omega | (unfold jR; omega)
    · rw [tans_b hx] at hQ
      repeat' first | rw [wa_1200 W] | (refine r_in ?_ ?_) | apply And.intro | intro _ | exact wt | exact wa_t W | exact w_shelf_t W | assumption | exact Or.inl rfl | exact Or.inr rfl | rfl | omega | (unfold jR; omega)
theorem st_script (k x : Int) : JSt (IV X) 3072 G X 154 248 [(0, k), (0, x)] := mk_obs fun n M T K P D C H A hX => by
  refine ⟨tans 3 (D.1 3) k x, fun Q hQ => ?_, fun M1 Q R hQ => ?_⟩
  · have W := C.1
    refine rn_X11_script _ _ _ M (sg_X11_script_0 _ _ _ M ?_)
    rw [wa_1210 W]
    exact ⟨wa_t W, w_tsteps_t W, c_answer C.2.2.2.2.2.1.2.2.2.1 (fun _ => hQ)⟩
  · have W := R.1
    have wt := w_model_t W
    have R1 := R.2.2.2.2.2.2.2.1
    have en := R1.1
    have hl : ((D.1 3).length : Int) ≤ 240 := C.2.2.2.2.2.1.2.2.2.1.2.2.1.2
    refine rn_X12_script _ _ _ M1 (sg_X12_script_0 _ _ _ M1 ?_)
    by_cases hx : 0 ≤ x ∧ x < 3
    · by_cases hk : 0 ≤ k ∧ k < (D.1 3).length
      · rw [tans_y hx hk] at hQ
        have e := R1.2 k hk.1 hk.2
        have hx2 : x = 0 ∨ x = 1 ∨ x = 2 := by omega
        rcases hx2 with rfl | rfl | rfl
        · rw [← e.1] at hQ
          repeat' first | rw [wa_1200 W] | (refine r_in ?_ ?_) | (rw [w_model_1336 W]) | exact w_m1336_t W | (rw [w_m1336_n W]) | (rw [w_model_1337 W]) | exact w_m1337_t W | (rw [w_m1337_n W]) | (rw [w_model_1338 W]) | exact w_m1338_t W | (rw [w_m1338_n W]) | (rw [en]) | apply And.intro | intro _ | exact wt | exact wa_t W | exact w_shelf_t W | assumption | exact Or.inl rfl | exact Or.inr rfl | rfl | omega | (unfold jR; omega)
        · rw [← e.2.1] at hQ
          repeat' first | rw [wa_1200 W] | (refine r_in ?_ ?_) | (rw [w_model_1336 W]) | exact w_m1336_t W | (rw [w_m1336_n W]) | (rw [w_model_1337 W]) | exact w_m1337_t W | (rw [w_m1337_n W]) | (rw [w_model_1338 W]) | exact w_m1338_t W | (rw [w_m1338_n W]) | (rw [en]) | apply And.intro | intro _ | exact wt | exact wa_t W | exact w_shelf_t W | assumption | exact Or.inl rfl | exact Or.inr rfl | rfl | omega | (unfold jR; omega)
        · rw [← e.2.2] at hQ
          repeat' first | rw [wa_1200 W] | (refine r_in ?_ ?_) | (rw [w_model_1336 W]) | exact w_m1336_t W | (rw [w_m1336_n W]) | (rw [w_model_1337 W]) | exact w_m1337_t W | (rw [w_m1337_n W]) | (rw [w_model_1338 W]) | exact w_m1338_t W | (rw [w_m1338_n W]) | (rw [en]) | apply And.intro | intro _ | exact wt | exact wa_t W | exact w_shelf_t W | assumption | exact Or.inl rfl | exact Or.inr rfl | rfl | omega | (unfold jR; omega)
      · rw [tans_n hx hk] at hQ
        repeat' first | rw [wa_1200 W] | (refine r_in ?_ ?_) | (rw [en]) | apply And.intro | intro _ | exact wt | exact wa_t W | exact w_shelf_t W | assumption | exact Or.inl rfl | exact Or.inr rfl | rfl | omega | (unfold jR; omega)
    · rw [tans_b hx] at hQ
      repeat' first | rw [wa_1200 W] | (refine r_in ?_ ?_) | apply And.intro | intro _ | exact wt | exact wa_t W | exact w_shelf_t W | assumption | exact Or.inl rfl | exact Or.inr rfl | rfl | omega | (unfold jR; omega)
theorem st_pair (k x : Int) : JSt (IV X) 3072 G X 156 250 [(0, k), (0, x)] := mk_obs fun n M T K P D C H A hX => by
  refine ⟨tans 2 (D.1 4) k x, fun Q hQ => ?_, fun M1 Q R hQ => ?_⟩
  · have W := C.1
    refine rn_X11_pair _ _ _ M (sg_X11_pair_0 _ _ _ M ?_)
    rw [wa_1211 W]
    exact ⟨wa_t W, w_tpairs_t W, c_answer C.2.2.2.2.2.1.2.2.2.2.1 (fun _ => hQ)⟩
  · have W := R.1
    have wt := w_model_t W
    have R1 := R.2.2.2.2.2.2.2.2.1
    have en := R1.1
    have hl : ((D.1 4).length : Int) ≤ 240 := C.2.2.2.2.2.1.2.2.2.2.1.2.2.1.2
    refine rn_X12_pair _ _ _ M1 (sg_X12_pair_0 _ _ _ M1 ?_)
    by_cases hx : 0 ≤ x ∧ x < 2
    · by_cases hk : 0 ≤ k ∧ k < (D.1 4).length
      · rw [tans_y hx hk] at hQ
        have e := R1.2 k hk.1 hk.2
        have hx2 : x = 0 ∨ x = 1 := by omega
        rcases hx2 with rfl | rfl
        · rw [← e.1] at hQ
          repeat' first | rw [wa_1200 W] | (refine r_in ?_ ?_) | (rw [w_model_1340 W]) | exact w_m1340_t W | (rw [w_m1340_n W]) | (rw [w_model_1341 W]) | exact w_m1341_t W | (rw [w_m1341_n W]) | (rw [en]) | apply And.intro | intro _ | exact wt | exact wa_t W | exact w_shelf_t W | assumption | exact Or.inl rfl | exact Or.inr rfl | rfl | omega | (unfold jR; omega)
        · rw [← e.2] at hQ
          repeat' first | rw [wa_1200 W] | (refine r_in ?_ ?_) | (rw [w_model_1340 W]) | exact w_m1340_t W | (rw [w_m1340_n W]) | (rw [w_model_1341 W]) | exact w_m1341_t W | (rw [w_m1341_n W]) | (rw [en]) | apply And.intro | intro _ | exact wt | exact wa_t W | exact w_shelf_t W | assumption | exact Or.inl rfl | exact Or.inr rfl | rfl | omega | (unfold jR; omega)
      · rw [tans_n hx hk] at hQ
        repeat' first | rw [wa_1200 W] | (refine r_in ?_ ?_) | (rw [en]) | apply And.intro | intro _ | exact wt | exact wa_t W | exact w_shelf_t W | assumption | exact Or.inl rfl | exact Or.inr rfl | rfl | omega | (unfold jR; omega)
    · rw [tans_b hx] at hQ
      repeat' first | rw [wa_1200 W] | (refine r_in ?_ ?_) | apply And.intro | intro _ | exact wt | exact wa_t W | exact w_shelf_t W | assumption | exact Or.inl rfl | exact Or.inr rfl | rfl | omega | (unfold jR; omega)
theorem st_squeezed (k x : Int) : JSt (IV X) 3072 G X 158 255 [(0, k), (0, x)] := mk_obs fun n M T K P D C H A hX => by
  refine ⟨tans 3 (D.1 5) k x, fun Q hQ => ?_, fun M1 Q R hQ => ?_⟩
  · have W := C.1
    refine rn_X11_squeezed _ _ _ M (sg_X11_squeezed_0 _ _ _ M ?_)
    rw [wa_1205 W, w_squeezer_700 W]
    exact ⟨wa_t W, w_squeezer_t W, w_qitems_t W, c_answer C.2.2.2.2.2.1.2.2.2.2.2.1 (fun _ => hQ)⟩
  · have W := R.1
    have wt := w_model_t W
    have R1 := R.2.2.2.2.2.2.2.2.2.1
    have en := R1.1
    have hl : ((D.1 5).length : Int) ≤ 240 := C.2.2.2.2.2.1.2.2.2.2.2.1.2.2.1.2
    refine rn_X12_squeezed _ _ _ M1 (sg_X12_squeezed_0 _ _ _ M1 ?_)
    by_cases hx : 0 ≤ x ∧ x < 3
    · by_cases hk : 0 ≤ k ∧ k < (D.1 5).length
      · rw [tans_y hx hk] at hQ
        have e := R1.2 k hk.1 hk.2
        have hx2 : x = 0 ∨ x = 1 ∨ x = 2 := by omega
        rcases hx2 with rfl | rfl | rfl
        · rw [← e.1] at hQ
          repeat' first | rw [wa_1200 W] | (refine r_in ?_ ?_) | (rw [w_model_1344 W]) | exact w_m1344_t W | (rw [w_m1344_n W]) | (rw [w_model_1345 W]) | exact w_m1345_t W | (rw [w_m1345_n W]) | (rw [w_model_1346 W]) | exact w_m1346_t W | (rw [w_m1346_n W]) | (rw [en]) | apply And.intro | intro _ | exact wt | exact wa_t W | exact w_shelf_t W | assumption | exact Or.inl rfl | exact Or.inr rfl | rfl | omega | (unfold jR; omega)
        · rw [← e.2.1] at hQ
          repeat' first | rw [wa_1200 W] | (refine r_in ?_ ?_) | (rw [w_model_1344 W]) | exact w_m1344_t W | (rw [w_m1344_n W]) | (rw [w_model_1345 W]) | exact w_m1345_t W | (rw [w_m1345_n W]) | (rw [w_model_1346 W]) | exact w_m1346_t W | (rw [w_m1346_n W]) | (rw [en]) | apply And.intro | intro _ | exact wt | exact wa_t W | exact w_shelf_t W | assumption | exact Or.inl rfl | exact Or.inr rfl | rfl | omega | (unfold jR; omega)
        · rw [← e.2.2] at hQ
          repeat' first | rw [wa_1200 W] | (refine r_in ?_ ?_) | (rw [w_model_1344 W]) | exact w_m1344_t W | (rw [w_m1344_n W]) | (rw [w_model_1345 W]) | exact w_m1345_t W | (rw [w_m1345_n W]) | (rw [w_model_1346 W]) | exact w_m1346_t W | (rw [w_m1346_n W]) | (rw [en]) | apply And.intro | intro _ | exact wt | exact wa_t W | exact w_shelf_t W | assumption | exact Or.inl rfl | exact Or.inr rfl | rfl | omega | (unfold jR; omega)
      · rw [tans_n hx hk] at hQ
        repeat' first | rw [wa_1200 W] | (refine r_in ?_ ?_) | (rw [en]) | apply And.intro | intro _ | exact wt | exact wa_t W | exact w_shelf_t W | assumption | exact Or.inl rfl | exact Or.inr rfl | rfl | omega | (unfold jR; omega)
    · rw [tans_b hx] at hQ
      repeat' first | rw [wa_1200 W] | (refine r_in ?_ ?_) | apply And.intro | intro _ | exact wt | exact wa_t W | exact w_shelf_t W | assumption | exact Or.inl rfl | exact Or.inr rfl | rfl | omega | (unfold jR; omega)
theorem st_word (k : Int) : JSt (IV X) 3072 G X 152 216 [(0, k)] := mk_obs fun n M T K P D C H A hX => by
  refine ⟨tans 1 (D.1 1) k 0, fun Q hQ => ?_, fun M1 Q R hQ => ?_⟩
  · have W := C.1
    refine rn_X11_word _ _ M (sg_X11_word_0 _ _ M ?_)
    rw [wa_1208 W]
    exact ⟨wa_t W, w_twords_t W, c_answer C.2.2.2.2.2.1.2.1 (fun _ => hQ)⟩
  · have W := R.1
    have wt := w_model_t W
    have R1 := R.2.2.2.2.2.1
    have en := R1.1
    have hl : ((D.1 1).length : Int) ≤ 240 := C.2.2.2.2.2.1.2.1.2.2.1.2
    refine rn_X12_word _ _ M1 (sg_X12_word_0 _ _ M1 ?_)
    by_cases hk : 0 ≤ k ∧ k < (D.1 1).length
    · rw [tans_y (by decide) hk, ← R1.2 k hk.1 hk.2] at hQ
      repeat' first | rw [wa_1200 W] | (refine r_in ?_ ?_) | (rw [w_model_1317 W]) | exact w_m1317_t W | (rw [w_m1317_n W]) | (rw [en]) | apply And.intro | intro _ | exact wt | exact wa_t W | exact w_shelf_t W | assumption | exact Or.inl rfl | exact Or.inr rfl | rfl | omega | (unfold jR; omega)
    · rw [tans_n (by decide) hk] at hQ
      repeat' first | rw [wa_1200 W] | (refine r_in ?_ ?_) | (rw [en]) | apply And.intro | intro _ | exact wt | exact wa_t W | exact w_shelf_t W | assumption | exact Or.inl rfl | exact Or.inr rfl | rfl | omega | (unfold jR; omega)
theorem st_sorted (k : Int) : JSt (IV X) 3072 G X 161 259 [(0, k)] := mk_obs fun n M T K P D C H A hX => by
  have W := C.1
  have T6 := C.2.2.2.2.2.1.2.2.2.2.2.2.1
  have e3 := T6.2.2.1.1
  have hl : ((D.1 6).length : Int) ≤ 241 := T6.2.2.1.2
  by_cases hk : 0 ≤ k ∧ k < (D.1 6).length
  · refine ⟨rowx (D.1 6) k 0, fun Q hQ => ?_, fun M1 Q R hQ => ?_⟩
    · rw [← tans_y (w := 1) (by decide) hk] at hQ
      refine rn_X11_sorted _ _ M (sg_X11_sorted_0 _ _ M ?_)
      rw [wa_1206 W, w_sorter_600 W, e3]
      exact ⟨wa_t W, w_sorter_t W, w_olast_t W, fun q => absurd q (by omega), fun _ => ⟨fun _ => ⟨wa_t W, w_sorter_t W, w_olast_t W, c_answer T6 (fun _ => hQ)⟩, fun q => absurd hk.2 q⟩⟩
    · have W := R.1
      have wt := w_model_t W
      have R1 := R.2.2.2.2.2.2.2.2.2.2.1
      have en := R1.1
      refine rn_X12_sorted _ _ M1 (sg_X12_sorted_0 _ _ M1 ?_)
      rw [← R1.2 k hk.1 hk.2] at hQ
      repeat' first | rw [wa_1200 W] | (refine r_in ?_ ?_) | (rw [w_model_1350 W]) | exact w_m1350_t W | (rw [w_m1350_n W]) | (rw [en]) | apply And.intro | intro _ | exact wt | exact wa_t W | exact w_shelf_t W | assumption | exact Or.inl rfl | exact Or.inr rfl | rfl | omega | (unfold jR; omega)
  · refine ⟨-2, fun Q hQ => ?_, fun M1 Q R hQ => ?_⟩
    · refine rn_X11_sorted _ _ M (sg_X11_sorted_0 _ _ M ?_)
      rw [wa_1206 W, w_sorter_600 W, e3]
      exact ⟨wa_t W, w_sorter_t W, w_olast_t W, fun q => hQ, fun _ => ⟨fun _ => absurd ⟨by omega, by omega⟩ hk, fun q => hQ⟩⟩
    · have W := R.1
      have wt := w_model_t W
      have R1 := R.2.2.2.2.2.2.2.2.2.2.1
      have en := R1.1
      refine rn_X12_sorted _ _ M1 (sg_X12_sorted_0 _ _ M1 ?_)
      repeat' first | rw [wa_1200 W] | (refine r_in ?_ ?_) | (rw [en]) | apply And.intro | intro _ | exact wt | exact wa_t W | exact w_shelf_t W | assumption | exact Or.inl rfl | exact Or.inr rfl | rfl | omega | (unfold jR; omega)
/-- all units -/
theorem st_count (x : Int) : JSt (IV X) 3072 G X 163 261 [(0, x)] := mk_obs fun n M T K P D C H A hX => by
  have a1 := A.1.1
  have a2 := A.1.2.1
  have hT := A.1.2.2
  have bd : ∀ t : Nat, (t : Int) ≤ T.1 → 0 ≤ smI T.2.1 t ∧ smI T.2.1 t ≤ 240 * t := fun t => by
    induction t with
    | zero => intro _; rw [smI_z (by omega)]; omega
    | succ t ih =>
      intro h
      have := ih (by omega)
      obtain ⟨u1, u2, -⟩ := hT t (by omega) (by omega)
      rw [show ((t + 1 : Nat) : Int) = t + 1 by omega, smI_s (by omega)]
      omega
  have bd : ∀ t : Int, 0 ≤ t → t ≤ T.1 → 0 ≤ smI T.2.1 t ∧ smI T.2.1 t ≤ 240 * t := fun t h0 h1 => by
    obtain ⟨k, rfl⟩ := Int.eq_ofNat_of_zero_le h0
    exact bd k h1
  refine ⟨if x = 0 then T.1 else if x = 1 then P.1 else if x = 2 then K.1 else if x = 3 then smI T.2.1 T.1 else -2, fun Q hQ => ?_, fun M1 Q R hQ => ?_⟩
  · have W := C.1
    refine rn_X11_count _ _ M (sg_X11_count_0 _ _ M ?_)
    rw [wa_1200 W, wa_1204 W, C.2.1.1, C.2.2.2.2.1.1.1, C.2.2.2.1.1]
    refine ⟨fun q => ?_, fun q => ?_, fun q => ?_, fun q => ?_, fun q => ?_, trivial⟩
    · rw [if_neg (by omega), if_neg (by omega), if_neg (by omega), if_neg (by omega)] at hQ; exact hQ
    · subst q; exact ⟨wa_t W, w_shelf_t W, hQ⟩
    · subst q; exact ⟨wa_t W, w_patterns_t W, hQ⟩
    · subst q; exact ⟨wa_t W, w_shelf_t W, hQ⟩
    · subst q
      refine ⟨wa_t W, w_shelf_t W, lp_X4_allUnits (fun v0 v1 v2 N => M = N ∧ X + 1 = v0 ∧ 0 ≤ v2 ∧ v2 ≤ T.1 ∧ v1 = smI T.2.1 v2) (fun _ _ v2 => (100 - v2).toNat) ?_ _ M ⟨rfl, rfl, by omega, by omega, (smI_z (by omega)).symm⟩⟩
      rintro v0 v1 v2 N ⟨rfl, rfl, i1, i2, rfl⟩
      rw [C.2.1.1]
      refine ⟨w_shelf_t W, fun q _ => ?_, fun q => ⟨fun q2 => absurd q2 (by omega), fun _ => ⟨w_shelf_t W, ?_⟩⟩⟩
      · have : v2 = T.1 := by omega
        rw [this]; exact hQ
      · obtain ⟨w1, w2, -⟩ := w_text W i1 (show v2 < 40 by omega)
        obtain ⟨-, e1, -⟩ := c_txt C A (t := v2) ⟨i1, by omega⟩
        rw [w_shelf_500 W, w1, e1]
        have b1 := bd v2 i1 i2
        have b2 := bd (v2 + 1) (by omega) (by omega)
        rw [smI_s i1] at b2
        exact ⟨⟨Or.inl (w_texts_t W), i1, by rw [w_texts_n W]; omega⟩, w2, by unfold jR; omega, by unfold jR; omega, ⟨rfl, rfl, by omega, by omega, (smI_s i1).symm⟩, by omega⟩
  · have W := R.1
    have wt := w_model_t W
    refine lp_X12_count (fun v0 v2 v3 N => M1 = N ∧ X + 218 = v0 ∧ x = 3 ∧ 0 ≤ v3 ∧ v3 ≤ T.1 ∧ v2 = smI T.2.1 v3) (fun _ _ v3 => (100 - v3).toNat) ?_ _ _ M1 ?_
    · rintro v0 v2 v3 N ⟨rfl, rfl, rfl, i1, i2, rfl⟩
      rw [R.2.1.1]
      refine ⟨wt, fun q => ?_, fun q => ⟨wt, ?_⟩⟩
      · have : v3 = T.1 := by omega
        rw [this]; exact hQ
      · obtain ⟨e1, -⟩ := r_txt R A (t := v3) ⟨i1, by omega⟩
        rw [w_model_1301 W, w_m1301_t W, w_m1301_n W, e1]
        have b1 := bd v3 i1 i2
        have b2 := bd (v3 + 1) (by omega) (by omega)
        rw [smI_s i1] at b2
        exact ⟨⟨rfl, i1, by omega⟩, by unfold jR; omega, by unfold jR; omega, ⟨rfl, rfl, rfl, by omega, by omega, (smI_s i1).symm⟩, by omega⟩
    · rw [R.2.1.1, R.2.2.1.1, R.2.2.2.1.1]
      refine ⟨fun q3 => ⟨fun q0 => ⟨fun q1 => ⟨fun q2 => ?_, fun q2 => ⟨wt, ?_⟩⟩, fun q1 => ⟨wt, ?_⟩⟩, fun q0 => ⟨wt, ?_⟩⟩, fun q3 => ⟨rfl, rfl, by omega, by omega, by omega, (smI_z (by omega)).symm⟩⟩
      · rw [if_neg q0, if_neg q1, if_neg q2, if_neg q3] at hQ; exact hQ
      · rw [if_neg q0, if_neg q1, if_pos (by omega)] at hQ; exact hQ
      · rw [if_neg q0, if_pos (by omega)] at hQ; exact hQ
      · rw [if_pos (by omega)] at hQ; exact hQ
end TELL
