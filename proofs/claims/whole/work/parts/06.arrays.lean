/-! arrays -/
theorem ma_in_inv {S : ma_S} {a : Nat} {ty : FieldType} {i : Int32} (h : ma_in S a ty i) : ∃ j n, a = j + 2 ∧ S[j]? = some (.inr (ty, n)) ∧ vp_in i n := by
  obtain ⟨n, h1, h2⟩ := h
  obtain ⟨j, rfl, h3⟩ := ma_sh_some h1
  exact ⟨j, n, rfl, h3, h2⟩
theorem ma_ws_arr (g : ma_G) (S : ma_S) (h : ma_H) (j n : Nat) (ty : FieldType) (hS : S[j]? = some (.inr (ty, n))) : (ma_ws g S h)[j]? = some (g.2.2.1 + j, .inl (g.2.2.2 ty, n, ma_cont g h (j + 2) ty)) := by
  rw [ma_ws_at, hS]
  rfl
theorem ma_uI_other {h : ma_H} {a k a' : Nat} {v : Int32} (hn : a' ≠ a) (sh : Nat ⊕ (FieldType × Nat)) (g : ma_G) : ma_cell g (ma_uI h a k v) a' sh = ma_cell g h a' sh :=
  ma_cell_other (h := h) (h' := ma_uI h a k v) (fun i => by simp [ma_uI, hn]) (fun i => rfl) (fun i => rfl) sh
theorem ma_uL_other {h : ma_H} {a k a' : Nat} {v : Int64} (hn : a' ≠ a) (sh : Nat ⊕ (FieldType × Nat)) (g : ma_G) : ma_cell g (ma_uL h a k v) a' sh = ma_cell g h a' sh :=
  ma_cell_other (h := h) (h' := ma_uL h a k v) (fun i => rfl) (fun i => by simp [ma_uL, hn]) (fun i => rfl) sh
theorem ma_uR_other {h : ma_H} {a k a' : Nat} {v : Nat} (hn : a' ≠ a) (sh : Nat ⊕ (FieldType × Nat)) (g : ma_G) : ma_cell g (ma_uR h a k v) a' sh = ma_cell g h a' sh :=
  ma_cell_other (h := h) (h' := ma_uR h a k v) (fun i => rfl) (fun i => rfl) (fun i => by simp [ma_uR, hn]) sh
theorem ma_uI_upd (h : ma_H) (a k : Nat) (v : Int32) : (ma_uI h a k v).1 a = upd (h.1 a) k v := by
  funext j
  simp [ma_uI, upd]
theorem ma_uL_upd (h : ma_H) (a k : Nat) (v : Int64) : (ma_uL h a k v).2.1 a = vp_updL (h.2.1 a) k v := by
  funext j
  simp [ma_uL, vp_updL]
theorem ma_uR_upd (g : ma_G) (h : ma_H) (a k : Nat) (v : Nat) : (fun i => ma_ro g ((ma_uR h a k v).2.2 a i)) = va_up (fun i => ma_ro g (h.2.2 a i)) k (ma_ro g v) := by
  funext j
  simp only [ma_uR, va_up, true_and]
  split <;> rfl
theorem ma_ws_uI (g : ma_G) (S : ma_S) (h : ma_H) (j n k : Nat) (ty : FieldType) (v : Int32) (hS : S[j]? = some (.inr (ty, n))) (ht : ma_cont g h (j + 2) ty = .inl (h.1 (j + 2))) (ht' : ma_cont g (ma_uI h (j + 2) k v) (j + 2) ty = .inl ((ma_uI h (j + 2) k v).1 (j + 2))) :
    (ma_ws g S h).set j (g.2.2.1 + j, .inl (g.2.2.2 ty, n, .inl (upd (h.1 (j + 2)) k v))) = ma_ws g S (ma_uI h (j + 2) k v) := by
  refine ma_ws_set g S h _ j hS ?_ (fun j' sh' hj _ => ma_uI_other (by omega) sh' g)
  show Sum.inl (_, _, _) = _
  rw [ht', ma_uI_upd]
section
variable {l : Launch} {g : ma_G} {x : Bool} {scr : Option (Nat × (Nat → Int32))} {mi : ma_M} {P : List ma_E} {Q : ma_P} {K : ma_K}
theorem ma_s_iaload (aux : List Nat) : ma_Snd .iaload aux := by
  intro l g x scr mi P Q K k ls st c sl S h p e s m args below meth cd H locs la pc hK hd hn ho hx hB hw hL
  obtain ⟨i, st1, rfl, hx⟩ := ma_i1_inv hx
  obtain ⟨a, st2, rfl, hx⟩ := ma_r1_inv hx
  have hKK := hB.2.2.2.2.2.2.2.2.1.1
  match aux, hx with
  | [], hx =>
    obtain ⟨j, n, rfl, hS, hi⟩ := ma_in_inv hx.1
    exact va_iald hB.1 hB.2.1 hKK hw.1 j 0 (ma_ws_arr g S h j n _ hS) rfl hi hd (ma_next hK hx.2 (hn rfl) hB hw hL)
  | _ :: _, hx =>
    match scr, hx, hB, hK with
    | some (L, xs), hx, hB, hK =>
      obtain ⟨rfl, hi, hx⟩ := hx
      obtain ⟨hX, h1, h2⟩ := hB.2.2.2.2.2.2.2.2.2.2 L xs rfl
      exact va_sld hB.1 hB.2.1 hX h1 (fun q => by have : g.2.2.1 ≤ g.2.1 := q; omega) hw.2.1 hi hd (ma_next hK hx (hn rfl) hB hw hL)
theorem ma_s_baload (aux : List Nat) : ma_Snd .baload aux := by
  intro l g x scr mi P Q K k ls st c sl S h p e s m args below meth cd H locs la pc hK hd hn ho hx hB hw hL
  obtain ⟨i, st1, rfl, hx⟩ := ma_i1_inv hx
  obtain ⟨a, st2, rfl, hx⟩ := ma_r1_inv hx
  have hKK := hB.2.2.2.2.2.2.2.2.1.1
  obtain ⟨j, n, rfl, hS, hi⟩ := ma_in_inv hx.1
  by_cases ha : ma_a aux 0 = 0
  · rw [if_pos ha] at hS
    exact va_bald hB.1 hB.2.1 hKK hw.1 j 1 (ma_ws_arr g S h j n _ hS) rfl hi hd (ma_next hK hx.2 (hn rfl) hB hw hL)
  · rw [if_neg ha] at hS
    exact va_zald hB.1 hB.2.1 hKK hw.1 j 2 (ma_ws_arr g S h j n _ hS) rfl hi hd (ma_next hK hx.2 (hn rfl) hB hw hL)
theorem ma_s_laload (aux : List Nat) : ma_Snd .laload aux := by
  intro l g x scr mi P Q K k ls st c sl S h p e s m args below meth cd H locs la pc hK hd hn ho hx hB hw hL
  obtain ⟨i, st1, rfl, hx⟩ := ma_i1_inv hx
  obtain ⟨a, st2, rfl, hx⟩ := ma_r1_inv hx
  have hKK := hB.2.2.2.2.2.2.2.2.1.1
  obtain ⟨j, n, rfl, hS, hi⟩ := ma_in_inv hx.1
  exact va_lald hB.1 hB.2.1 hKK hw.1 j 3 (ma_ws_arr g S h j n _ hS) rfl hi hd (ma_next hK hx.2 (hn rfl) hB hw hL)
theorem ma_s_aaload (aux : List Nat) : ma_Snd .aaload aux := by
  intro l g x scr mi P Q K k ls st c sl S h p e s m args below meth cd H locs la pc hK hd hn ho hx hB hw hL
  obtain ⟨i, st1, rfl, hx⟩ := ma_i1_inv hx
  obtain ⟨a, st2, rfl, hx⟩ := ma_r1_inv hx
  have hKK := hB.2.2.2.2.2.2.2.2.1.1
  obtain ⟨j, n, rfl, hS, hi⟩ := ma_in_inv hx.1
  exact va_aldq hB.1 hB.2.1 hKK hw.1 j 4 (ma_ws_arr g S h j n _ hS) rfl hi hd (ma_next hK hx.2 (hn rfl) hB hw hL)
theorem ma_s_iastore (aux : List Nat) : ma_Snd .iastore aux := by
  intro l g x scr mi P Q K k ls st c sl S h p e s m args below meth cd H locs la pc hK hd hn ho hx hB hw hL
  obtain ⟨v, st0, rfl, hx⟩ := ma_i1_inv hx
  obtain ⟨i, st1, rfl, hx⟩ := ma_i1_inv hx
  obtain ⟨a, st2, rfl, hx⟩ := ma_r1_inv hx
  have hKK := hB.2.2.2.2.2.2.2.2.1.1
  obtain ⟨j, n, rfl, hS, hi⟩ := ma_in_inv hx.1
  refine va_iast hB.1 hB.2.1 hKK hw.1 (ma_D g S h) hw.rfS j 0 (ma_ws_arr g S h j n _ hS) rfl hi hd (fun H1 locs1 hP1 hD1 hS1 => ?_)
  rw [ma_ws_uI g S h j n _ _ v hS rfl rfl] at hP1
  exact ma_Wsz fun hz => ma_next hK hx.2 (hn rfl) hB (hw.step hS1 hP1 hz) hL
theorem ma_s_bastore (aux : List Nat) : ma_Snd .bastore aux := by
  intro l g x scr mi P Q K k ls st c sl S h p e s m args below meth cd H locs la pc hK hd hn ho hx hB hw hL
  obtain ⟨v, st0, rfl, hx⟩ := ma_i1_inv hx
  obtain ⟨i, st1, rfl, hx⟩ := ma_i1_inv hx
  obtain ⟨a, st2, rfl, hx⟩ := ma_r1_inv hx
  have hKK := hB.2.2.2.2.2.2.2.2.1.1
  obtain ⟨j, n, rfl, hS, hi⟩ := ma_in_inv hx.1
  have hx2 := hx.2
  by_cases ha : ma_a aux 0 = 0
  · rw [if_pos ha] at hS hx2
    refine va_bast hB.1 hB.2.1 hKK hw.1 (ma_D g S h) hw.rfS j 1 (ma_ws_arr g S h j n _ hS) rfl hi hd (fun H1 locs1 hP1 hD1 hS1 => ?_)
    rw [ma_ws_uI g S h j n _ _ _ hS rfl rfl] at hP1
    exact ma_Wsz fun hz => ma_next hK hx2 (hn rfl) hB (hw.step hS1 hP1 hz) hL
  · rw [if_neg ha] at hS hx2
    refine va_zast hB.1 hB.2.1 hKK hw.1 (ma_D g S h) hw.rfS j 2 (ma_ws_arr g S h j n _ hS) rfl hi hd (fun H1 locs1 hP1 hD1 hS1 => ?_)
    rw [ma_ws_uI g S h j n _ _ _ hS rfl rfl] at hP1
    exact ma_Wsz fun hz => ma_next hK hx2 (hn rfl) hB (hw.step hS1 hP1 hz) hL
theorem ma_s_lastore (aux : List Nat) : ma_Snd .lastore aux := by
  intro l g x scr mi P Q K k ls st c sl S h p e s m args below meth cd H locs la pc hK hd hn ho hx hB hw hL
  obtain ⟨v, st0, rfl, hx⟩ := ma_l1_inv hx
  obtain ⟨i, st1, rfl, hx⟩ := ma_i1_inv hx
  obtain ⟨a, st2, rfl, hx⟩ := ma_r1_inv hx
  have hKK := hB.2.2.2.2.2.2.2.2.1.1
  obtain ⟨j, n, rfl, hS, hi⟩ := ma_in_inv hx.1
  refine va_last hB.1 hB.2.1 hKK hw.1 (ma_D g S h) hw.rfS j 3 (ma_ws_arr g S h j n _ hS) rfl hi hd (fun H1 locs1 hP1 hD1 hS1 => ?_)
  have e1 : (ma_ws g S h).set j (g.2.2.1 + j, .inl (g.2.2.2 .long, n, .inr (.inl (vp_updL (h.2.1 (j + 2)) i.toNatClampNeg v)))) = ma_ws g S (ma_uL h (j + 2) i.toNatClampNeg v) := by
    refine ma_ws_set g S h _ j hS ?_ (fun j' sh' hj _ => ma_uL_other (by omega) sh' g)
    show Sum.inl (_, _, Sum.inr (Sum.inl ((ma_uL h (j + 2) i.toNatClampNeg v).2.1 (j + 2)))) = _
    rw [ma_uL_upd]
  rw [e1] at hP1
  exact ma_Wsz fun hz => ma_next hK hx.2 (hn rfl) hB (hw.step hS1 hP1 hz) hL
theorem ma_s_aastore (aux : List Nat) : ma_Snd .aastore aux := by
  intro l g x scr mi P Q K k ls st c sl S h p e s m args below meth cd H locs la pc hK hd hn ho hx hB hw hL
  obtain ⟨v, st0, rfl, hx⟩ := ma_r1_inv hx
  obtain ⟨i, st1, rfl, hx⟩ := ma_i1_inv hx
  obtain ⟨a, st2, rfl, hx⟩ := ma_r1_inv hx
  have hKK := hB.2.2.2.2.2.2.2.2.1.1
  obtain ⟨h1, h2, hx⟩ := hx
  obtain ⟨j, n, rfl, hS, hi⟩ := ma_in_inv h1
  obtain ⟨j2, rfl, hS2⟩ := ma_sh_some h2
  have hv : (ma_ws g S h)[j2]? = some (g.2.2.1 + j2, .inr (ma_rowi, (ma_ty ma_rowi).mapIdx (fun k ty => ma_fv g h (j2 + 2) k ty))) := by rw [ma_ws_at, hS2]; rfl
  refine va_astq hB.1 hB.2.1 hKK hw.1 (ma_D g S h) hw.rfS j 4 j2 ma_rowi (r := ma_rowc) (ma_ws_arr g S h j n _ hS) rfl hv ma_rowok hi hd (fun H1 locs1 hP1 hD1 hS1 => ?_)
  have e1 : (ma_ws g S h).set j (g.2.2.1 + j, .inl (g.2.2.2 (.object ma_row), n, .inr (.inr (.inr (.inr (va_up (fun i => ma_ro g (h.2.2 (j + 2) i)) i.toNatClampNeg (some (g.2.2.1 + j2)))))))) = ma_ws g S (ma_uR h (j + 2) i.toNatClampNeg (j2 + 2)) := by
    refine ma_ws_set g S h _ j hS ?_ (fun j' sh' hj _ => ma_uR_other (by omega) sh' g)
    show Sum.inl (_, _, Sum.inr (Sum.inr (Sum.inr (Sum.inr (fun i' => ma_ro g ((ma_uR h (j + 2) i.toNatClampNeg (j2 + 2)).2.2 (j + 2) i')))))) = _
    rw [ma_uR_upd]
    rfl
  rw [e1] at hP1
  exact ma_Wsz fun hz => ma_next hK hx (hn rfl) hB (hw.step hS1 hP1 hz) hL
theorem ma_s_arraylength (aux : List Nat) : ma_Snd .arraylength aux := by
  intro l g x scr mi P Q K k ls st c sl S h p e s m args below meth cd H locs la pc hK hd hn ho hx hB hw hL
  obtain ⟨a, st2, rfl, hx⟩ := ma_r1_inv hx
  have hKK := hB.2.2.2.2.2.2.2.2.1.1
  match aux, hx with
  | [], hx =>
    obtain ⟨n, h1, hx2⟩ := hx
    obtain ⟨j, rfl, hS⟩ := ma_sh_some h1
    exact va_alen hB.1 hB.2.1 hKK hw.1 j 0 (ma_ws_arr g S h j n _ hS) rfl rfl hd (ma_next hK hx2 (hn rfl) hB hw hL)
  | _ :: _, hx =>
    match scr, hx, hB, hK with
    | some (L, xs), hx, hB, hK =>
      obtain ⟨rfl, hx2⟩ := hx
      obtain ⟨hX, h1, h2⟩ := hB.2.2.2.2.2.2.2.2.2.2 L xs rfl
      exact va_slen hB.1 hB.2.1 hX h1 (fun q => by have : g.2.2.1 ≤ g.2.1 := q; omega) hw.2.1 hd (ma_next hK hx2 (hn rfl) hB hw hL)
/-! making -/
theorem ma_z_other {h : ma_H} {a a' : Nat} (hn : a' ≠ a) (sh : Nat ⊕ (FieldType × Nat)) (g : ma_G) : ma_cell g (ma_z h a) a' sh = ma_cell g h a' sh :=
  ma_cell_other (fun i => by simp [ma_z, hn]) (fun i => by simp [ma_z, hn]) (fun i => by simp [ma_z, hn]) sh
theorem ma_s_new (i : Nat) (aux : List Nat) : ma_Snd (.new i) aux := by
  intro l g x scr mi P Q K k ls st c sl S h p e s m args below meth cd H locs la pc hK hd hn ho hx hB hw hL
  obtain ⟨hxt, hc1, hs1, hx⟩ := hx
  have hKK := hB.2.2.2.2.2.2.2.2.1.1
  simp only [ma_okx] at ho
  split at ho
  · rename_i C T N hc
    simp only [Bool.and_eq_true, decide_eq_true_eq] at ho
    obtain ⟨⟨⟨hN, h1⟩, h2⟩, h3⟩ := ho
    rw [← hN] at hs1 hx
    have h1 := ma_has_in h1
    have h2 := ma_has_in h2
    have h3 := ma_has_in h3
    obtain ⟨hk1, hk2, hk3, hk4⟩ := ma_clok hc
    have hty0 : ∀ k, k < N → parseFieldDescriptor (T k).2.2.1 = some ((ma_ty (ma_a aux 0)).getD k .int) := by
      intro k hk
      rw [hk2 k hk, List.getD_eq_getElem?_getD]
      have : k < (ma_ty (ma_a aux 0)).length := by rw [hk1]; exact hk
      rw [List.getElem?_eq_getElem this]
      rfl
    have hfs : ∀ j, j < N → defaultValue ((ma_ty (ma_a aux 0)).getD j .int) = vp_V ((ma_ty (ma_a aux 0)).mapIdx (fun k ty => ma_fv g (ma_z h (S.length + 2)) (S.length + 2) k ty)) j := by
      intro j hj
      have hj2 : j < (ma_ty (ma_a aux 0)).length := by rw [hk1]; exact hj
      rw [vp_V, List.getD_eq_getElem?_getD, List.getD_eq_getElem?_getD, List.getElem?_mapIdx, List.getElem?_eq_getElem hj2]
      have hplain := ma_plain (ma_a aux 0) j hj2
      simp only [Option.getD_some, Option.map_some]
      revert hplain
      generalize (ma_ty (ma_a aux 0))[j] = ty
      intro hplain
      cases ty <;> simp [ma_tc] at hplain <;> simp [ma_fv, ma_z, defaultValue, ma_ro, va_rf]
    refine va_new (c0 := cd) (own := mi.1.cls) hB.1 hB.2.1 hB.2.2.2.2.2.2.1 (ma_in_wo hk4) _ hty0 hB.2.2.2.2.2.2.2.1 (ma_wB hB h1) (ma_wB hB h2) (ma_wB hB h3) hKK hw.1 (ma_D g S h) hw.rfS (fun q hq => Nat.le_trans (Nat.le_trans hB.2.2.2.2.2.2.2.2.2.1 hw.2.1.1) hq) hc hfs hc1 hs1 hd (fun q H1 hP1 hD1 hS1 => ?_)
    refine ma_Wsz fun hz => ?_
    obtain ⟨rfl, hw1⟩ := hw.new (h' := ma_z h (S.length + 2)) (sh := .inl (ma_a aux 0)) hxt hS1 hP1 hD1 hz rfl (fun j sh' hj => ma_z_other (by have := (List.getElem?_eq_some_iff.mp hj).1; omega) sh' g)
    exact ma_next hK hx (hn rfl) hB hw1 hL
  · cases ho
theorem ma_s_newarray (aty : ArrayType) (aux : List Nat) : ma_Snd (.newarray aty) aux := by
  intro l g x scr mi P Q K k ls st c sl S h p e s m args below meth cd H locs la pc hK hd hn ho hx hB hw hL
  obtain ⟨n, st', rfl, hxt, N, rfl, hN, hc1, hs1, hx⟩ := ma_i1_inv hx
  have hKK := hB.2.2.2.2.2.2.2.2.1.1
  simp only [ma_okx, Bool.and_eq_true, decide_eq_true_eq] at ho
  obtain ⟨hat, h1⟩ := ho
  have h1 := ma_has_in h1
  have hfin : ∀ (a0 : vp_A) (ty : FieldType), newarray.typeOf aty = ty → (∀ cA : ClassId, vp_cell cA a0 = arrV cA N (fun _ => defaultValue ty)) → componentBytes ty ≤ 8 → a0 = (N, ma_cont g (ma_z h (S.length + 2)) (S.length + 2) ty) → (∃ t0 : Nat, (ma_tl g)[t0]? = some (g.2.2.2 ty, ty)) → ty ≠ .object ma_row → ma_W l g x mi Q p e s m args below meth cd H locs c sl pc la ((Value.int (nI N) :: st').map (ma_tv g)) := by
    intro a0 ty hty ha hbytes hcont htl hno
    obtain ⟨t0, ht0⟩ := htl
    subst hty
    refine va_newa hB.1 hB.2.1 (ma_wB hB h1) rfl hKK hw.1 (ma_D g S h) hw.rfS (fun q hq => Nat.le_trans (Nat.le_trans hB.2.2.2.2.2.2.2.2.2.1 hw.2.1.1) hq) ha (nI_pos (by omega)) (nI_clamp (by omega)) (Nat.le_trans (Nat.mul_le_mul hN hbytes) (by decide)) hc1 hs1 hd (fun q cA H1 hK1 hP1 hD1 hS1 => ?_)
    have hcA : cA = g.2.2.2 (newarray.typeOf aty) := by
      have e1 := (hK1.2 5 (cA, newarray.typeOf aty) (by simp [ma_tl])).2
      have e2 := (hK1.2 t0 (g.2.2.2 (newarray.typeOf aty), newarray.typeOf aty) (by rw [List.getElem?_append_left (List.getElem?_eq_some_iff.mp ht0).1]; exact ht0)).2
      revert e1 e2
      cases aty <;> exact fun e1 e2 => Option.some.inj (e1.symm.trans e2)
    subst hcA
    refine ma_Wsz fun hz => ?_
    obtain ⟨rfl, hw1⟩ := hw.new (h' := ma_z h (S.length + 2)) (sh := .inr (newarray.typeOf aty, N)) hxt hS1 hP1 hD1 hz (by rw [hcont]; rfl) (fun j sh' hj => ma_z_other (by have := (List.getElem?_eq_some_iff.mp hj).1; omega) sh' g)
    exact ma_next hK hx (hn rfl) hB hw1 hL
  rcases hat with rfl | rfl | rfl | rfl
  · exact hfin (N, .inl (fun _ => 0)) .int rfl (fun cA => rfl) (by decide) (by simp [ma_cont, ma_z]) ⟨0, rfl⟩ (by simp)
  · exact hfin (N, .inl (fun _ => 0)) .byte rfl (fun cA => rfl) (by decide) (by simp [ma_cont, ma_z]) ⟨1, rfl⟩ (by simp)
  · exact hfin (N, .inl (fun _ => 0)) .boolean rfl (fun cA => rfl) (by decide) (by simp [ma_cont, ma_z]) ⟨2, rfl⟩ (by simp)
  · exact hfin (N, .inr (.inl (fun _ => 0))) .long rfl (fun cA => rfl) (by decide) (by simp [ma_cont, ma_z]) ⟨3, rfl⟩ (by simp)
theorem ma_s_anewarray (i : Nat) (aux : List Nat) : ma_Snd (.anewarray i) aux := by
  intro l g x scr mi P Q K k ls st c sl S h p e s m args below meth cd H locs la pc hK hd hn ho hx hB hw hL
  obtain ⟨n, st', rfl, hxt, N, rfl, hN, hc1, hs1, hx⟩ := ma_i1_inv hx
  have hKK := hB.2.2.2.2.2.2.2.2.1.1
  refine va_newq hB.1 hB.2.1 (own := mi.1.cls) (C := ma_row) hB.2.2.2.2.2.2.2.1 (ma_wB hB (ma_has_in ho)) hB.2.2.2.2.2.2.2.2.1.2.2.2 hKK hw.1 (ma_D g S h) hw.rfS (fun q hq => Nat.le_trans (Nat.le_trans hB.2.2.2.2.2.2.2.2.2.1 hw.2.1.1) hq) (nI_pos (by omega)) (nI_clamp (by omega)) (by omega) hc1 hs1 hd (fun q cA H1 hK1 hP1 hD1 hS1 => ?_)
  have hcA : cA = g.2.2.2 (.object ma_row) := by
    obtain ⟨_, _, _, _, _, e1⟩ := (hK1.2 5 (cA, .object ma_row) (by simp [ma_tl])).2
    obtain ⟨_, _, _, _, _, e2⟩ := (hK1.2 4 (g.2.2.2 (.object ma_row), .object ma_row) (by simp [ma_tl])).2
    exact Option.some.inj (e1.symm.trans e2)
  subst hcA
  refine ma_Wsz fun hz => ?_
  obtain ⟨rfl, hw1⟩ := hw.new (h' := ma_z h (S.length + 2)) (sh := .inr (.object ma_row, N)) hxt hS1 hP1 hD1 hz (by show Sum.inl (_, _, _) = Sum.inl (_, _, _); simp [ma_cont, ma_z, ma_ro]) (fun j sh' hj => ma_z_other (by have := (List.getElem?_eq_some_iff.mp hj).1; omega) sh' g)
  exact ma_next hK hx (hn rfl) hB hw1 hL
end
