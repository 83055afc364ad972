/-! rules of J: what is made; the machine's own methods; ends -/
def jnew (M : JM) (t n : Int) : JM := fun k a j => if k = 4 ∧ a = 0 ∧ j = 0 then M 4 0 0 + 1 else if a = M 4 0 0 then (if k = 0 ∧ j = 0 then t else if k = 1 ∧ j = 0 then n else 0) else M k a j
theorem jnew_nx (M : JM) (t n : Int) : jnew M t n 4 0 0 = M 4 0 0 + 1 := if_pos ⟨rfl, rfl, rfl⟩
theorem jnew_old {M : JM} {t n a : Int} (h : a ≠ M 4 0 0) {k : Nat} {j : Int} (h4 : k ≠ 4) : jnew M t n k a j = M k a j := by
  unfold jnew
  rw [if_neg (fun e => h4 e.1), if_neg h]
theorem jnew_0 {M : JM} {t n : Int} : jnew M t n 0 (M 4 0 0) 0 = t := by
  unfold jnew
  rw [if_neg (by simp), if_pos rfl, if_pos ⟨rfl, rfl⟩]
theorem jnew_1 {M : JM} {t n : Int} : jnew M t n 1 (M 4 0 0) 0 = n := by
  unfold jnew
  rw [if_neg (by simp), if_pos rfl, if_neg (by simp), if_pos ⟨rfl, rfl⟩]
theorem jnew_z {M : JM} {t n j : Int} {k : Nat} (h : k = 2 ∨ k = 3 ∨ 100 ≤ k) : jnew M t n k (M 4 0 0) j = 0 := by
  unfold jnew
  rw [if_neg (by omega), if_pos rfl, if_neg (by omega), if_neg (by omega)]
theorem jokM_new {M : JM} {t n : Int} (h : jokM M) (hn : jR n) : jokM (jnew M t n) := by
  intro k a j hk
  unfold jnew
  split
  · omega
  · split
    · split
      · omega
      · split
        · exact hn
        · exact jR_0
    · exact h k a j hk
theorem JR.new {G : JG} {M : JM} {H H1 : Heap} {t n : Int} (h : JR G M H) (hz : H1.size = H.size + 1) (ho : ∀ q, q < H.size → H1[q]? = H[q]?) (hn : t = 1 ∨ t = 2 ∨ t = 3 ∨ t = 4 → 0 ≤ n) (he : va_at G.1 vwCl (H.size, jcell G (jnew M t n) H.size) H1) : JR G (jnew M t n) H1 := by
  obtain ⟨g1, g2, g3, g4, g5, g6⟩ := h
  refine ⟨fun q hq1 hq2 => ?_, by rw [jnew_nx, g2, hz]; omega, by omega, g4, fun q hq => ?_, fun q hq => ?_⟩
  · by_cases hqa : q = H.size
    · subst hqa; exact he
    · have hne : (q : Int) ≠ M 4 0 0 := by rw [g2]; omega
      rw [jcell_same (M := M) (jnew_old hne (by omega)) (jnew_old hne (by omega)) (fun j => jnew_old hne (by omega)) (fun j => jnew_old hne (by omega)) (fun k hk => jnew_old hne (by omega))]
      exact (g1 q hq1 (by omega)).kept (ho q (by omega))
  · rw [jnew_nx]
    by_cases hqa : q = M 4 0 0
    · omega
    · rw [jnew_old hqa (by omega)] at hq
      have := g5 q hq
      omega
  · by_cases hqa : q = M 4 0 0
    · subst hqa
      rw [jnew_1]
      rw [jnew_0] at hq
      exact hn hq
    · rw [jnew_old hqa (by omega)] at hq ⊢
      exact g6 q hq
theorem va_S.grow {A : Nat → Prop} {H0 H H1 : Heap} {locs : List Loc} (hS : va_S A H0 H locs) (hz : H1.size = H.size + 1) (ho : ∀ q, q < H.size → H1[q]? = H[q]?) : va_S A H0 H1 locs :=
  ⟨Nat.le_trans hS.1 (by omega), fun x h1 h2 => (ho x (Nat.lt_of_lt_of_le h1 hS.1)).trans (hS.2.1 x h1 h2), hS.2.2⟩
section JNEW
variable {G : JG} {x mc ms : Nat} {Q : Int → JM → Prop} {cells slots pc : Nat} {lv : JL} {st : List JV} {M : JM}
theorem jdef {tag : Nat} {ty : FieldType} (h : jkty tag ty = true) : defaultValue ty = jv (tag, 0) := by
  unfold jkty at h
  split at h
  · rfl
  · rfl
  · rfl
  · rfl
  · cases h
theorem jr_new {i ci N : Nat} {C0 : String} {T : u_T} (hd : decode (jcode x) pc = .ok (.new i, 3)) (hc : jclass ci C0 T N) (hlk : Cond.classLink (jname x).cls i C0 ∈ jtbl) (hinst : Cond.instantiable C0 N ∈ jtbl) (hini : Cond.initialized C0 ∈ jtbl) (h1 : cells + 1 ≤ mc) (h2 : slots + N ≤ ms) (kk : J G x mc ms Q (cells + 1) (slots + N) (pc + 3) lv ((1, M 4 0 0) :: st) (jnew M (10 + (ci : Int)) 0)) : J G x mc ms Q cells slots pc lv st M := by
  intro hcm hsm p e R s m args below meth c H locs ls X
  obtain ⟨C, hl, hr, hS, ol, os, oM⟩ := X
  have hts := C.2.2.2.2.2.1
  have hK := C.2.2.2.2.2.2.2.2.1
  have hR := C.2.2.2.2.2.2.2.2.2.2
  obtain ⟨hv, hin, ⟨ty, hty, hkt⟩, hnm, hlen, hnd, -⟩ := hc
  have hKn := hK.1 ci _ hv
  have hsz := hr.2.1
  have h0 : 0 < H.size := by have := hr.2.2.1; have := hr.2.2.2.1; omega
  refine W.newcK C.1 C.2.1 C.2.2.2.2.1 (hts _ hlk) (hts _ hinst) (hts _ hini) rfl hd (by rw [hR]; exact h1) (by rw [hR]; exact h2) hKn.2.1 rfl fun H1 kC hkC e1 z1 o1 => ?_
  have kk := kk h1 h2 p e R s m args below meth c H1 locs ls ⟨C, hl, hr.new z1 o1 (fun h => by omega) ?_, hS.grow z1 o1, ol, jok_c (jok_r _) os, jokM_new oM jR_0⟩
  · rw [hsz, List.map_cons, jv_ref h0] at kk
    exact kk
  · have e0 : jnew M (10 + (ci : Int)) 0 0 ((H.size : Nat) : Int) 0 = 10 + (ci : Int) := by rw [← hsz]; exact jnew_0
    rw [jcell_obj e0]
    refine ⟨_, hv, (u_born ty hts hin hKn hkC e1 hty).to (fun j hj => ?_)⟩
    have hj' : j < (jkinds ci).length := by rw [hlen]; exact hj
    obtain ⟨⟨tag, fid⟩, hq⟩ : ∃ q, (jkinds ci)[j]? = some q := ⟨_, List.getElem?_eq_getElem hj'⟩
    have hk2 := hkt j hj
    rw [jnth_get hq] at hk2
    have h3 : 100 ≤ fid := by
      have := List.all_eq_true.mp (jclass_all ci _ hv).2.2.2.2.2.2 _ (List.mem_of_getElem? hq)
      unfold jfok at this
      simp only [Bool.or_eq_true, Bool.and_eq_true, Nat.ble_eq] at this
      omega
    have e4 : jnew M (10 + (ci : Int)) 0 fid ((H.size : Nat) : Int) 0 = 0 := by rw [← hsz]; exact jnew_z (Or.inr (Or.inr h3))
    show defaultValue (ty j) = (jfs ci _ _).getD j .null
    rw [List.getD_eq_getElem?_getD, jfs_get hq, e4]
    exact jdef hk2
theorem jlen {n : Int} (hn : jR n) (h0 : 0 ≤ n) : ¬ Int32.ofInt n < 0 := by
  rw [show (0 : Int32) = Int32.ofInt 0 from rfl, j32_lt hn jR_0]; omega
theorem jr_newarray {atype : ArrayType} {n t : Int} {j : Nat} {ty : FieldType} (hd : decode (jcode x) pc = .ok (.newarray atype, 2)) (hty : newarray.typeOf atype = ty) (ht : (t = 1 ∧ j = 0 ∧ ty = .int) ∨ (t = 2 ∧ j = 1 ∧ ty = .boolean)) (hac : Cond.arrayClass ty ∈ jtbl) (h0 : 0 ≤ n) (hb : n ≤ 100000000) (h1 : cells + 1 ≤ mc) (h2 : slots + n.toNat ≤ ms) (kk : J G x mc ms Q (cells + 1) (slots + n.toNat) (pc + 2) lv ((1, M 4 0 0) :: st) (jnew M t n)) : J G x mc ms Q cells slots pc lv ((0, n) :: st) M := by
  intro hcm hsm p e R s m args below meth c H locs ls X
  obtain ⟨C, hl, hr, hS, ol, os, oM⟩ := X
  have hts := C.2.2.2.2.2.1
  have hK := C.2.2.2.2.2.2.2.2.1
  have hR := C.2.2.2.2.2.2.2.2.2.2
  have rn := jok_R (jok_h os)
  have hsz := hr.2.1
  have hp : 0 < H.size := by have := hr.2.2.1; have := hr.2.2.2.1; omega
  subst hty
  refine va_newaK C.1 C.2.1 (hts _ hac) rfl hd rfl (jlen rn h0) (j32_nat rn h0) ?_ (by rw [hR]; exact h1) (by rw [hR]; exact h2) rfl fun H1 cA e1 z1 o1 hAr hNm => ?_
  · have : componentBytes (newarray.typeOf atype) ≤ 4 := by
      rcases ht with ⟨-, -, h⟩ | ⟨-, -, h⟩ <;> rw [h] <;> decide
    have := Nat.mul_le_mul_left n.toNat this
    omega
  have hcA : cA = G.2.1 j := by
    rcases ht with ⟨-, rfl, h⟩ | ⟨-, rfl, h⟩
    · rw [h] at hNm
      exact Option.some.inj (hNm.symm.trans (hK.2 0 _ rfl).2)
    · rw [h] at hNm
      exact Option.some.inj (hNm.symm.trans (hK.2 1 _ rfl).2)
  subst hcA
  have kk := kk h1 h2 p e R s m args below meth c H1 locs ls ⟨C, hl, hr.new z1 o1 (fun _ => h0) ?_, hS.grow z1 o1, ol, jok_c (jok_r _) (jok_t os), jokM_new oM rn⟩
  · rw [hsz, List.map_cons, jv_ref hp] at kk
    exact kk
  · have e0 : jnew M t n 0 ((H.size : Nat) : Int) 0 = t := by rw [← hsz]; exact jnew_0
    have e2 : jnew M t n 1 ((H.size : Nat) : Int) 0 = n := by rw [← hsz]; exact jnew_1
    have e3 : ∀ i : Int, jnew M t n 2 ((H.size : Nat) : Int) i = 0 := fun i => by rw [← hsz]; exact jnew_z (Or.inl rfl)
    rcases ht with ⟨rfl, rfl, h⟩ | ⟨rfl, rfl, h⟩
    · rw [jcell_1 e0]
      show H1[H.size]? = some (vp_cell _ _)
      rw [e1, vp_cell_i, e2, h]
      simp only [e3]
      rfl
    · rw [jcell_2 e0]
      show H1[H.size]? = some (vp_cell _ _)
      rw [e1, vp_cell_i, e2, h]
      simp only [e3]
      rfl
theorem jr_anewarray {i : Nat} {n t : Int} {j : Nat} {C0 : String} (hd : decode (jcode x) pc = .ok (.anewarray i, 3)) (ht : (t = 3 ∧ j = 2 ∧ C0 = "UnitAtlas$Text") ∨ (t = 4 ∧ j = 3 ∧ C0 = "UnitAtlas$Kept")) (hlk : Cond.classLink (jname x).cls i C0 ∈ jtbl) (hov : Cond.arrayOver (.object C0) ∈ jtbl) (h0 : 0 ≤ n) (hb : n ≤ 100000000) (h1 : cells + 1 ≤ mc) (h2 : slots + n.toNat ≤ ms) (kk : J G x mc ms Q (cells + 1) (slots + n.toNat) (pc + 3) lv ((1, M 4 0 0) :: st) (jnew M t n)) : J G x mc ms Q cells slots pc lv ((0, n) :: st) M := by
  intro hcm hsm p e R s m args below meth c H locs ls X
  obtain ⟨C, hl, hr, hS, ol, os, oM⟩ := X
  have hts := C.2.2.2.2.2.1
  have hK := C.2.2.2.2.2.2.2.2.1
  have hR := C.2.2.2.2.2.2.2.2.2.2
  have rn := jok_R (jok_h os)
  have hsz := hr.2.1
  have hp : 0 < H.size := by have := hr.2.2.1; have := hr.2.2.2.1; omega
  have hnat := j32_nat rn h0
  refine W.anew C.1 C.2.1 C.2.2.2.2.1 (hts _ hlk) (hts _ hov) rfl hd rfl (jlen rn h0) (by rw [hnat]; omega) (by rw [hR]; exact h1) (by rw [hR, hnat]; exact h2) fun cA kA comp f1 f2 f3 f4 => ?_
  rw [hnat]
  generalize hH1 : H.push ({ cls := cA, slots := Array.replicate n.toNat .null, vm := .none } : Cell) = H1
  have z1 : H1.size = H.size + 1 := by rw [← hH1, Array.size_push]
  have e1 : H1[H.size]? = some (arrV cA n.toNat (fun _ => .null)) := by rw [← hH1, Array.getElem?_push_size, ← arrV_new]
  have o1 : ∀ q : Nat, q < H.size → H1[q]? = H[q]? := fun q hq => by rw [← hH1, Array.getElem?_push, if_neg (Nat.ne_of_lt hq)]
  have hcA : cA = G.2.1 j := by
    rcases ht with ⟨-, rfl, rfl⟩ | ⟨-, rfl, rfl⟩
    · obtain ⟨kA', comp', g1, g2, g3, g4⟩ := (hK.2 2 _ rfl).2
      exact Option.some.inj (f1.symm.trans g4)
    · obtain ⟨kA', comp', g1, g2, g3, g4⟩ := (hK.2 3 _ rfl).2
      exact Option.some.inj (f1.symm.trans g4)
  subst hcA
  have kk := kk h1 h2 p e R s m args below meth c H1 locs ls ⟨C, hl, hr.new z1 o1 (fun _ => h0) ?_, hS.grow z1 o1, ol, jok_c (jok_r _) (jok_t os), jokM_new oM rn⟩
  · rw [hsz, List.map_cons, jv_ref hp] at kk
    exact kk
  · have e0 : jnew M t n 0 ((H.size : Nat) : Int) 0 = t := by rw [← hsz]; exact jnew_0
    have e2 : jnew M t n 1 ((H.size : Nat) : Int) 0 = n := by rw [← hsz]; exact jnew_1
    have e3 : ∀ i : Int, jnew M t n 3 ((H.size : Nat) : Int) i = 0 := fun i => by rw [← hsz]; exact jnew_z (Or.inr (Or.inl rfl))
    rcases ht with ⟨rfl, rfl, h⟩ | ⟨rfl, rfl, h⟩
    · rw [jcell_3 e0]
      show H1[H.size]? = some (vp_cell _ _)
      rw [e1, vp_cell_q, e2]
      simp only [e3]
      rfl
    · rw [jcell_4 e0]
      show H1[H.size]? = some (vp_cell _ _)
      rw [e1, vp_cell_q, e2]
      simp only [e3]
      rfl
def jwd (st : List JV) : Nat := match st with
  | [] => 0
  | v :: st => (if v.1 = 0 ∨ v.1 = 1 ∨ v.1 = 5 then 1 else 2) + jwd st
theorem jwd_eq : ∀ st : List JV, ((st.map jv).map fun v => v.category).sum = jwd st
  | [] => rfl
  | v :: st => by
    rw [List.map_cons, List.map_cons, List.sum_cons, jwd_eq st, jv_cat]; rfl
theorem jr_ret {v : Int} (hd : decode (jcode x) pc = .ok (.ireturn, 1)) (hr0 : jret x = some .int) (ht : jtag x = 0) (hq : Q v M) : J G x mc ms Q cells slots pc lv [(0, v)] M := by
  intro hcm hsm p e R s m args below meth c H locs ls X
  obtain ⟨C, hl, hr, hS, ol, os, oM⟩ := X
  refine W.widen hcm hsm (W.iret C.1 C.2.1 (C.2.2.1.trans hr0) (fun t h1 _ => ?_) hS.2.2 hd (hlocks := C.2.2.2.2.2.2.1))
  refine ⟨v, M, ?_, hq, ?_, oM, by rw [h1]; exact hr, hS.F h1⟩
  · rw [ht]; rfl
  · rw [ht]; exact jok_h os
theorem jr_retz {v : Int} (hd : decode (jcode x) pc = .ok (.ireturn, 1)) (hr0 : jret x = some .boolean) (ht : jtag x = 0) (hb : v = 0 ∨ v = 1) (hq : Q v M) : J G x mc ms Q cells slots pc lv [(0, v)] M := by
  intro hcm hsm p e R s m args below meth c H locs ls X
  obtain ⟨C, hl, hr, hS, ol, os, oM⟩ := X
  refine W.widen hcm hsm (W.zret C.1 C.2.1 (C.2.2.1.trans hr0) (j01 hb).1 (fun t h1 _ => ?_) hS.2.2 hd (hlocks := C.2.2.2.2.2.2.1))
  refine ⟨v, M, ?_, hq, ?_, oM, by rw [h1]; exact hr, hS.F h1⟩
  · rw [ht]; rfl
  · rw [ht]; exact jok_h os
theorem jr_retv (hd : decode (jcode x) pc = .ok (.return_, 1)) (hr0 : jret x = none) (ht : jtag x = 3) (hq : Q 0 M) : J G x mc ms Q cells slots pc lv [] M := by
  intro hcm hsm p e R s m args below meth c H locs ls X
  obtain ⟨C, hl, hr, hS, ol, os, oM⟩ := X
  refine W.widen hcm hsm (W.vret C.1 C.2.1 (C.2.2.1.trans hr0) (fun t h1 _ => ?_) hS.2.2 hd (hlocks := C.2.2.2.2.2.2.1))
  refine ⟨0, M, ?_, hq, ?_, oM, by rw [h1]; exact hr, hS.F h1⟩
  · rw [ht]; rfl
  · rw [ht]; exact jok_3 _
theorem jr_reta {v : Int} {nm : String} (hd : decode (jcode x) pc = .ok (.areturn, 1)) (hr0 : jret x = some (.object nm)) (ht : jtag x = 1) (hq : Q v M) : J G x mc ms Q cells slots pc lv [(1, v)] M := by
  intro hcm hsm p e R s m args below meth c H locs ls X
  obtain ⟨C, hl, hr, hS, ol, os, oM⟩ := X
  have hv : jv (1, v) = .null ∨ ∃ a, jv (1, v) = .ref a := va_rf_or (jrf v)
  refine W.widen hcm hsm (W.aret C.1 C.2.1 (C.2.2.1.trans hr0) (Or.inl ⟨_, rfl⟩) hv (fun t h1 _ => ?_) hS.2.2 hd (hlocks := C.2.2.2.2.2.2.1))
  refine ⟨v, M, ?_, hq, ?_, oM, by rw [h1]; exact hr, hS.F h1⟩
  · rw [ht]; rfl
  · rw [ht]; exact jok_h os
end JNEW
