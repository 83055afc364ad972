/-! rules of J over the heap -/
theorem jset_k {M : JM} {k : Nat} {a j v : Int} {k' : Nat} (h : k' ≠ k) (a' j' : Int) : jset M k a j v k' a' j' = M k' a' j' := if_neg fun e => h e.1
theorem jset_a {M : JM} {k : Nat} {a j v : Int} {a' : Int} (h : a' ≠ a) (k' : Nat) (j' : Int) : jset M k a j v k' a' j' = M k' a' j' := if_neg fun e => h e.2.1
theorem jset_s {M : JM} {k : Nat} {a j v : Int} : jset M k a j v k a j = v := if_pos ⟨rfl, rfl, rfl⟩
theorem jset_j {M : JM} {k : Nat} {a j v : Int} {j' : Int} (h : j' ≠ j) (k' : Nat) (a' : Int) : jset M k a j v k' a' j' = M k' a' j' := if_neg fun e => h e.2.2
theorem jokM_set {M : JM} {k : Nat} {a j v : Int} (h : jokM M) (hv : (k = 1 ∨ k = 2 ∨ 2000 ≤ k) → jR v) : jokM (jset M k a j v) := by
  intro k' a' j' hk
  unfold jset
  split
  · rename_i e
    exact hv (e.1 ▸ hk)
  · exact h k' a' j' hk
theorem jcell_obj {G : JG} {M : JM} {a ci : Nat} (h : M 0 a 0 = 10 + (ci : Int)) : jcell G M a = .inr (ci, jfs ci M a) := by
  unfold jcell
  rw [if_neg (by omega), if_neg (by omega), if_neg (by omega), if_neg (by omega), h, show (10 + (ci : Int)).toNat - 10 = ci by omega]
theorem jcell_1 {G : JG} {M : JM} {a : Nat} (h : M 0 a 0 = 1) : jcell G M a = .inl (G.2.1 0, (M 1 a 0).toNat, .inl (fun j => Int32.ofInt (M 2 a j))) := if_pos h
theorem jcell_2 {G : JG} {M : JM} {a : Nat} (h : M 0 a 0 = 2) : jcell G M a = .inl (G.2.1 1, (M 1 a 0).toNat, .inl (fun j => Int32.ofInt (M 2 a j))) := by
  unfold jcell
  rw [if_neg (by omega), if_pos h]
theorem jcell_3 {G : JG} {M : JM} {a : Nat} (h : M 0 a 0 = 3) : jcell G M a = .inl (G.2.1 2, (M 1 a 0).toNat, .inr (.inr (.inr (.inr (fun j => jrf (M 3 a j)))))) := by
  unfold jcell
  rw [if_neg (by omega), if_neg (by omega), if_pos h]
theorem jcell_4 {G : JG} {M : JM} {a : Nat} (h : M 0 a 0 = 4) : jcell G M a = .inl (G.2.1 3, (M 1 a 0).toNat, .inr (.inr (.inr (.inr (fun j => jrf (M 3 a j)))))) := by
  unfold jcell
  rw [if_neg (by omega), if_neg (by omega), if_neg (by omega), if_pos h]
theorem jcell_same {G : JG} {M M' : JM} {a : Nat} (h0 : M' 0 a 0 = M 0 a 0) (h1 : M' 1 a 0 = M 1 a 0) (h2 : ∀ j, M' 2 a j = M 2 a j) (h3 : ∀ j, M' 3 a j = M 3 a j) (hf : ∀ k, 100 ≤ k → M' k a 0 = M k a 0) : jcell G M' a = jcell G M a := by
  have e : ∀ ci, jfs ci M' a = jfs ci M a := by
    intro ci
    unfold jfs
    apply List.map_congr_left
    intro q hq
    have h100 : 100 ≤ q.2 := by
      have h13 : ci < 13 := by
        apply Classical.byContradiction
        intro h
        have : jkinds ci = [] := by
          unfold jkinds
          split <;> first | omega | rfl
        rw [this] at hq
        cases hq
      have hv : ∃ r, vwCl[ci]? = some r := ⟨vwCl[ci]'h13, List.getElem?_eq_getElem h13⟩
      obtain ⟨r, hr⟩ := hv
      have := List.all_eq_true.mp (jclass_all ci r hr).2.2.2.2.2.2 q hq
      unfold jfok at this
      simp only [Bool.or_eq_true, Bool.and_eq_true, Nat.ble_eq] at this
      omega
    rw [hf q.2 h100]
  unfold jcell
  rw [h0, h1]
  simp only [h2, h3, e]
/-- where something stands -/
theorem JR.at {G : JG} {M : JM} {H : Heap} (h : JR G M H) {a : Int} (ha : M 0 a 0 ≠ 0) : ∃ q : Nat, a = (q : Int) ∧ G.2.2.1 ≤ q ∧ q < H.size ∧ 0 < q ∧ va_at G.1 vwCl (q, jcell G M q) H := by
  obtain ⟨h1, h2, h3, h4, h5, -⟩ := h
  have h6 := h5 a ha
  rw [h2] at h6
  refine ⟨a.toNat, by omega, by omega, by omega, by omega, h1 a.toNat (by omega) (by omega)⟩
theorem JR.upd {G : JG} {M M' : JM} {H H1 : Heap} {a : Nat} (h : JR G M H) (hz : H1.size = H.size) (ho : ∀ q, q ≠ a → H1[q]? = H[q]?) (hc : ∀ q : Nat, q ≠ a → jcell G M' q = jcell G M q) (he : va_at G.1 vwCl (a, jcell G M' a) H1) (h0 : ∀ q, M' 0 q 0 = M 0 q 0) (h1 : ∀ q, M' 1 q 0 = M 1 q 0) (h4 : M' 4 0 0 = M 4 0 0) : JR G M' H1 := by
  obtain ⟨g1, g2, g3, g4, g5, g6⟩ := h
  refine ⟨fun q hq1 hq2 => ?_, by rw [h4, hz]; exact g2, by omega, g4, fun q hq => ?_, fun q hq => ?_⟩
  · by_cases hqa : q = a
    · subst hqa; exact he
    · rw [hc q hqa]
      exact (g1 q hq1 (by omega)).kept (ho q hqa)
  · rw [h0] at hq; rw [h4]; exact g5 q hq
  · rw [h0] at hq; rw [h1]; exact g6 q hq
theorem va_P1 {D : va_G} {cl : List vw_C} {q : Nat × va_E} {H : Heap} (h : va_at D cl q H) : va_P D cl [q] H := by
  intro k r hk
  cases k with
  | zero => cases hk; exact h
  | succ k => cases hk
theorem jfs_get {ci k tag fid : Nat} {M : JM} {a : Int} (hk : (jkinds ci)[k]? = some (tag, fid)) : (jfs ci M a)[k]? = some (jv (tag, M fid a 0)) := by
  unfold jfs
  rw [List.getElem?_map, hk]; rfl
theorem jfs_set {ci k tag fid : Nat} {M : JM} {a v : Int} (hk : (jkinds ci)[k]? = some (tag, fid)) (hn : ((jkinds ci).map (fun q => q.2)).Nodup) : jfs ci (jset M fid a 0 v) a = (jfs ci M a).set k (jv (tag, v)) := by
  have hlt := (List.getElem?_eq_some_iff.mp hk).1
  apply List.ext_getElem?
  intro i
  by_cases hi : i = k
  · subst hi
    rw [jfs_get hk, jset_s, List.getElem?_set_self (by unfold jfs; rw [List.length_map]; exact hlt)]
  · rw [List.getElem?_set_ne (Ne.symm hi)]
    unfold jfs
    rw [List.getElem?_map, List.getElem?_map]
    cases hq : (jkinds ci)[i]? with
    | none => rfl
    | some q =>
      have hne : q.2 ≠ fid := by
        intro e
        apply hi
        have h1 : ((jkinds ci).map (fun q => q.2))[i]? = some fid := by rw [List.getElem?_map, hq, ← e]; rfl
        have h2 : ((jkinds ci).map (fun q => q.2))[k]? = some fid := by rw [List.getElem?_map, hk]; rfl
        have hl1 := (List.getElem?_eq_some_iff.mp h1).1
        exact (List.getElem?_inj hl1 hn).mp (h1.trans h2.symm)
      simp only [Option.map_some, jset_k hne]
theorem jnth_get {α : Type} {d : α} : ∀ {l : List α} {k : Nat} {v : α}, l[k]? = some v → jnth d l k = v
  | [], _, _, h => by cases h
  | a :: l, 0, v, h => by cases h; rfl
  | a :: l, k + 1, v, h => jnth_get (l := l) (k := k) h
def jt (tag : Nat) : Nat := if tag = 5 then 0 else tag
theorem jv_jt (tag : Nat) (v : Int) : jv (jt tag, v) = jv (tag, v) := by
  unfold jt
  split
  · rename_i h; subst h; rfl
  · rfl
theorem jfok_of {ci k tag fid : Nat} {C : String} {T : u_T} {N : Nat} (hc : jclass ci C T N) (hk : (jkinds ci)[k]? = some (tag, fid)) : (tag = 0 ∧ 2000 ≤ fid) ∨ (tag = 5 ∧ 2000 ≤ fid) ∨ (tag = 1 ∧ 100 ≤ fid ∧ fid < 2000) := by
  have := List.all_eq_true.mp hc.2.2.2.2.2.2 _ (List.mem_of_getElem? hk)
  unfold jfok at this
  simp only [Bool.or_eq_true, Bool.and_eq_true, Nat.ble_eq, beq_iff_eq, Nat.blt_eq] at this
  omega
theorem jty_of {ci k tag fid : Nat} {C : String} {T : u_T} {N : Nat} (hc : jclass ci C T N) (hk : (jkinds ci)[k]? = some (tag, fid)) : k < N ∧ ∃ ty, parseFieldDescriptor (T k).2.2.1 = some ty ∧ jkty tag ty = true := by
  have hl := (List.getElem?_eq_some_iff.mp hk).1
  obtain ⟨-, -, ⟨ty, h1, h2⟩, -, h4, -, -⟩ := hc
  rw [h4] at hl
  refine ⟨hl, ty k, h1 k hl, ?_⟩
  have := h2 k hl
  rw [jnth_get hk] at this
  exact this
section JHEAP
variable {G : JG} {x mc ms : Nat} {Q : Int → JM → Prop} {cells slots pc : Nat} {lv : JL} {st : List JV} {M : JM}
def jlinked (x i : Nat) (T : u_T) (k : Nat) : Prop := Cond.fieldLink (jname x).cls i (T k).1 (T k).2.1 (T k).2.2.1 ∈ jtbl ∨ Cond.fieldLinkNest (jname x).cls i (T k).1 (T k).2.1 (T k).2.2.1 "UnitAtlas" ∈ jtbl
theorem jr_get {i k tag fid ci : Nat} {a : Int} {C0 : String} {T : u_T} {N : Nat} (hd : decode (jcode x) pc = .ok (.getfield i, 3)) (hc : jclass ci C0 T N) (hk : (jkinds ci)[k]? = some (tag, fid)) (hlk : jlinked x i T k) (ha : M 0 a 0 = 10 + (ci : Int)) (kk : J G x mc ms Q cells slots (pc + 3) lv ((jt tag, M fid a 0) :: st) M) : J G x mc ms Q cells slots pc lv ((1, a) :: st) M := by
  intro hcm hsm p e R s m args below meth c H locs ls X
  obtain ⟨C, hl, hr, hS, ol, os, oM⟩ := X
  have hf := jfok_of hc hk
  have hok : jok (jt tag, M fid a 0) := by
    rcases hf with ⟨rfl, h⟩ | ⟨rfl, h⟩ | ⟨rfl, h⟩
    · exact jok_i (oM fid a 0 (Or.inr (Or.inr h)))
    · exact jok_i (oM fid a 0 (Or.inr (Or.inr h)))
    · exact jok_r _
  have kk := kk hcm hsm p e R s m args below meth c H locs ls ⟨C, hl, hr, hS, ol, jok_c hok (jok_t os), oM⟩
  rw [List.map_cons, jv_jt] at kk
  obtain ⟨q, rfl, -, -, hq0, hat⟩ := hr.at (a := a) (by omega)
  rw [jcell_obj ha] at hat
  have hkn := (jty_of hc hk).1
  rw [List.map_cons, show jv (1, (q : Int)) = .ref q from by show va_rf (jrf (q : Int)) = _; rw [show jrf (q : Int) = some q from by unfold jrf; rw [if_neg (by omega)]; simp]; rfl]
  rcases hlk with hlk | hlk
  · exact va_get (D := G.1) C.1 C.2.1 C.2.2.2.2.2.1 hc.2.1 C.2.2.2.2.1 C.2.2.2.2.2.2.2.2.1 (va_P1 hat) 0 rfl hc.1 k hkn (C.2.2.2.2.2.1 _ hlk) (fun _ h => h) (jfs_get hk) hd kk
  · exact va_getN (D := G.1) C.1 C.2.1 C.2.2.2.2.2.1 hc.2.1 C.2.2.2.2.1 C.2.2.2.2.2.2.2.2.1 (va_P1 hat) 0 rfl hc.1 k hkn (C.2.2.2.2.2.1 _ hlk) (fun _ h => h) (jfs_get hk) hd kk
theorem jv_ref {q : Nat} (h : 0 < q) : jv (1, (q : Int)) = .ref q := by
  show va_rf (jrf (q : Int)) = _
  rw [show jrf (q : Int) = some q from by unfold jrf; rw [if_neg (by omega)]; simp]; rfl
def jputl (x i : Nat) (T : u_T) (k : Nat) : Prop := ((T k).2.2.2 = false ∧ jlinked x i T k) ∨ ((T k).2.2.2 = true ∧ Cond.fieldLink (jname x).cls i (T k).1 (T k).2.1 (T k).2.2.1 ∈ jtbl ∧ (T k).1 = (jname x).cls ∧ (jname x).name = "<init>")
theorem j01 {v : Int} (h : v = 0 ∨ v = 1) : narrow .boolean (.int (Int32.ofInt v)) = .int (Int32.ofInt v) ∧ fits .boolean (.int (Int32.ofInt v)) = true := by
  rcases h with rfl | rfl <;> exact ⟨by decide +kernel, by decide +kernel⟩
theorem jfit {tag : Nat} {ty : FieldType} {v : Int} (h : jkty tag ty = true) (hb : tag = 5 → v = 0 ∨ v = 1) : narrow ty (jv (tag, v)) = jv (tag, v) ∧ fits ty (jv (tag, v)) = true := by
  unfold jkty at h
  split at h
  · exact ⟨rfl, rfl⟩
  · exact j01 (hb rfl)
  · show narrow _ (va_rf (jrf v)) = va_rf (jrf v) ∧ fits _ (va_rf (jrf v)) = true
    cases jrf v <;> exact ⟨rfl, rfl⟩
  · show narrow _ (va_rf (jrf v)) = va_rf (jrf v) ∧ fits _ (va_rf (jrf v)) = true
    cases jrf v <;> exact ⟨rfl, rfl⟩
  · cases h
theorem jr_put {i k tag fid ci : Nat} {a v : Int} {C0 : String} {T : u_T} {N : Nat} (hd : decode (jcode x) pc = .ok (.putfield i, 3)) (hc : jclass ci C0 T N) (hk : (jkinds ci)[k]? = some (tag, fid)) (hlk : jputl x i T k) (ha : M 0 a 0 = 10 + (ci : Int)) (hb : tag = 5 → v = 0 ∨ v = 1) (kk : J G x mc ms Q cells slots (pc + 3) lv st (jset M fid a 0 v)) : J G x mc ms Q cells slots pc lv ((jt tag, v) :: (1, a) :: st) M := by
  intro hcm hsm p e R s m args below meth c H locs ls X
  obtain ⟨C, hl, hr, hS, ol, os, oM⟩ := X
  have hf := jfok_of hc hk
  have h100 : 100 ≤ fid := by omega
  have hoM : jokM (jset M fid a 0 v) := jokM_set oM (fun hk2 => by
    rcases hf with ⟨rfl, h⟩ | ⟨rfl, h⟩ | ⟨rfl, h⟩
    · exact jok_R (jok_h os)
    · exact jok_R (jok_h os)
    · omega)
  obtain ⟨q, rfl, hqb, hqs, hq0, hat⟩ := hr.at (a := a) (by omega)
  rw [List.map_cons, List.map_cons, jv_jt, jv_ref hq0]
  have kk : ∀ H1 locs1, JR G (jset M fid q 0 v) H1 → va_S (jA G) s.heap H1 locs1 → W p G.2.2.2.1 e R s m args below meth c H1 locs1 cells slots (MQ below (JQ G (jtag x) Q) args s mc ms (jA G)) (F0 m (pc + 3) ls (st.map jv)) := fun H1 locs1 h1 h2 => kk hcm hsm p e R s m args below meth c H1 locs1 ls ⟨C, hl, h1, h2, ol, jok_t (jok_t os), hoM⟩
  rw [jcell_obj ha] at hat
  obtain ⟨hkn, ty, hpt, hkt⟩ := jty_of hc hk
  obtain ⟨hn, hfit⟩ := jfit (v := v) hkt hb
  obtain ⟨hx, hcb, -, -, hown, hts, -, hname, hK, -, -⟩ := C
  obtain ⟨hv, hin, ⟨ty0, hty, -⟩, hnm, hlen, hnd, -⟩ := hc
  have hap := va_apart (own := (jname x).cls) hts hin ty0 hty hnm hK hv
  obtain ⟨r, h1, cell, q1, q2, q3, q4⟩ := hat
  have hr' : r = (C0, T, N) := Option.some.inj (h1.symm.trans hv)
  subst hr'
  obtain ⟨hSl, hfc, kC, hkC, hkind⟩ := hK.1 ci _ hv
  obtain ⟨cf, kf, fi, f, hi, hsl⟩ := hSl k hkn
  have hst := (u_facts hfc hkC (u_lays hts hin hkn) hi).1
  have hlay := hts _ (hin _ (u_in_lay hkn))
  unfold u_lay at hlay
  have fin : ∀ H' : Heap, H'[q]? = some (cell.setSlot f.slot (jv (tag, v))) → H'.size = H.size → (∀ z, z ≠ q → H'[z]? = H[z]?) → W p G.2.2.2.1 e R s m args below meth c H' (locs ++ [⟨q, f.slot⟩]) cells slots (MQ below (JQ G (jtag x) Q) args s mc ms (jA G)) (F0 m (pc + 3) ls (st.map jv)) := by
    intro H' e1 e2 e3
    refine kk H' _ (hr.upd e2 e3 (fun z hz => jcell_same (jset_k (by omega) _ _) (jset_k (by omega) _ _) (fun j => jset_k (by omega) _ _) (fun j => jset_k (by omega) _ _) (fun k _ => jset_a (by omega) _ _)) ?_ (fun z => jset_k (by omega) _ _) (fun z => jset_k (by omega) _ _) (jset_k (by omega) _ _)) (hS.put e2 e3 hqb)
    rw [jcell_obj (by rw [jset_k (by omega)]; exact ha), jfs_set hk hnd]
    rw [hsl] at e1
    refine ⟨_, hv, t_OB.to (V := updV (vp_V (jfs ci M q)) k (jv (tag, v))) ⟨_, e1, q2, q3, t_set q4 hap hkn _⟩ (fun j _ => vp_updV_set (by unfold jfs; rw [List.length_map, hlen]; exact hkn) _ j)⟩
  rcases hlk with ⟨hfin, hlk⟩ | ⟨hfin, hlk, hdecl, hini⟩
  · rw [if_neg (by rw [hfin]; decide)] at hlay
    have h6 := u_store hfc hkC hkind hlay hi hpt hn hfit
    rcases hlk with hlk | hlk
    · exact W.putK hx hcb (f := f) ⟨hown, hts _ hlk, ⟨_, _, _, hi⟩, hst⟩ (by rw [q2]; exact h6) q1 q3 (by rw [hsl]; exact k2_hasslot (q4 k hkn)) rfl rfl hd fin
    · exact va_WputK hx hcb (f := f) hown (hts _ hlk) hi hst (by rw [q2]; exact h6) q1 q3 (by rw [hsl]; exact k2_hasslot (q4 k hkn)) rfl rfl hd fin
  · rw [if_pos hfin] at hlay
    have hcf : m.cls = cf := by
      obtain ⟨_, _, c', _, _, _, -, -, hf', -, -, -, hown2, -⟩ := Cond.laysFinal_spec hlay
      have e1 : c' = cf := by have := hi.symm.trans hf'; simp at this; exact this.1.symm
      rw [hdecl] at hown2
      rw [← e1]; exact Option.some.inj (hown.symm.trans hown2)
    have h6 := u_fits hfc hkC hkind (Or.inr hlay) hi hpt hn hfit
    exact W.putFinK hx hcb hown (hts _ hlk) hi hst hcf (hname.trans hini) (by rw [q2]; exact h6) q1 q3 (by rw [hsl]; exact k2_hasslot (q4 k hkn)) rfl rfl hd fin
end JHEAP
