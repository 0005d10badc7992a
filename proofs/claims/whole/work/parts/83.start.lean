/-! the law's start: the two objects and the array are made, and the state holds -/
theorem law_e {k pc len : Nat} {ins : Instr} {aux : List Nat} (h : pr_Law_law[k]? = some (pc, len, ins, aux)) (hk : k ∉ ma_hs) : decode code pc = .ok (ins, len) ∧ ma_okx me_Law_law pr_Law_law k pc ins aux = true := by
  have h1 := po_Law_law k _ h hk
  unfold ma_ok1 at h1
  simp only [Bool.and_eq_true] at h1
  exact ⟨of_decide_eq_true h1.1.1.1, h1.2⟩
def hZ : ma_H := (fun _ _ => 0, fun _ _ => 0, fun _ _ => 0)
theorem pt_far (a k : Nat) (h : a < 2 ∨ 201 < a) : pt_R a k = 0 := by
  unfold pt_R
  split <;> first | rfl | omega
theorem ST_start {hA hM : ma_H}
    (a1 : mk (fun a => 2 ≤ a ∧ a ≤ 183) (ma_z hZ 2) hA) (a2 : ∀ a, 2 ≤ a → a ≤ 183 → ∀ k, hA.2.2 a k = pt0 a k) (a3 : hA.1 2 2 = nI 0) (a4 : hA.1 2 4 = nI 0) (a5 : ar hA 3 160 (fun _ => 0)) (a6 : ∀ i, i < 255 → hA.1 161 i = nI (gf_ex i)) (a7 : ∀ a, 1 ≤ a → a < 256 → hA.1 162 a = nI (gf_lg a)) (a8 : bd hA 173 (fun _ => 0)) (a9 : bd hA 177 (fun _ => 0)) (a10 : hA.1 175 5 = nI 0) (a11 : hA.1 175 6 = nI 0) (a12 : hA.1 175 7 = nI 0)
    (b1 : mk (fun a => 184 ≤ a ∧ a ≤ 200) (ma_z hA 184) hM) (b2 : ∀ a, 184 ≤ a → a ≤ 200 → ∀ k, hM.2.2 a k = pt0 a k) (b3 : mt_ok hM) (b4 : hM.1 184 = (ma_z hA 184).1 184) (b5 : ar hM 185 160 (fun _ => 0)) : ST (ma_z hM 201) := by
  have up1 : mk (fun a => 184 ≤ a) hA (ma_z hM 201) := mk_mo (mk_tr (mk_tr (mk_z _ _) b1) (mk_z _ _)) (fun a ha => by omega)
  have up2 : mk (fun a => a = 201) hM (ma_z hM 201) := mk_z _ _
  have hp : pt_ok (ma_z hM 201) := by
    intro a k h1 h2
    by_cases q1 : a < 2 ∨ 201 < a
    · rw [pt_far a k q1, (mk_to up2 (by omega)).2.2, (mk_to b1 (by omega)).2.2, (mk_to (mk_z hA 184) (by omega)).2.2, (mk_to a1 (by omega)).2.2, (mk_to (mk_z hZ 2) (by omega)).2.2]
      rfl
    · by_cases q2 : a ≤ 183
      · rw [(mk_to up1 (by omega)).2.2, a2 a (by omega) q2 k]
        exact if_neg h1
      · rw [(mk_to up2 h2).2.2, b2 a (by omega) (by omega) k]
        exact if_neg h1
  have z184 : ∀ k, (ma_z hM 201).1 184 k = nI 0 := fun k => by
    rw [(mk_to up2 (by omega)).1, b4, zI, if_pos rfl]
    rfl
  have hw0 : wf (fun _ => 0) := fun _ _ => Nat.zero_lt_succ 3
  have p69 : ∀ k, k < 90 → (ma_z hM 201).2.2 69 k = 70 + k := fun k hk => by
    rw [(mk_to up1 (by omega)).2.2, a2 69 (by omega) (by omega) k]
    unfold pt0
    rw [if_pos rfl, if_pos hk]
  refine ⟨⟨hp, ⟨pt_160_0 hp, pt_160_1 hp, fun i hi => ?_, fun a h1 h2 => ?_⟩, ⟨fun i hi => ?_, fun a h1 h2 => ?_⟩, ⟨_, hw0, bd_mk up1 (by omega) (by omega) a8⟩, _, hw0, bd_mk up1 (by omega) (by omega) a9⟩, ⟨fun _ => 0, fun _ _ => Nat.zero_lt_succ 255, fun i hi => ?_, fun i hi => ?_⟩, ⟨0, fun _ _ => 0, by decide, ?_, z184 2, fun t ht => by omega⟩, ⟨0, fun _ => 0, fun _ _ => 0, by decide, ?_, z184 4, fun k hk => ?_, fun i j hi hj e => ?_, fun k hk => by omega, fun k hk => by omega⟩, 0, by decide, ?_, z184 7, ?_, ?_, fun i hi => by omega, fun b hb => ?_⟩
  · rw [(mk_to up1 (by omega)).1]; exact a6 i hi
  · rw [(mk_to up1 (by omega)).1]; exact a7 a h1 h2
  · rw [(mk_to up2 (by omega)).1]; exact b3.1 i hi
  · rw [(mk_to up2 (by omega)).1]; exact b3.2 a h1 h2
  · rw [(mk_to up1 (by omega)).1]; exact a5 i hi
  · rw [(mk_to up2 (by omega)).1]; exact b5 i hi
  · rw [(mk_to up1 (by omega)).1]; exact a3
  · rw [(mk_to up1 (by omega)).1]; exact a4
  · rw [p69 k hk]; omega
  · rw [p69 i hi, p69 j hj] at e; omega
  · rw [(mk_to up1 (by omega)).1]; exact a10
  · rw [z184, (mk_to up1 (by omega)).1]; exact a11
  · rw [z184, (mk_to up1 (by omega)).1]; exact a12
  · unfold bl at hb; omega
theorem law_make {l : Launch} {g : ma_G} {Z : State → Prop} {L : Nat} {xs : Nat → Int32} {p : Program} {e : Env} {s : State} {m : MethodId} {args : Array Value} {below : List Frame} {meth : Method} {cd : Code} (hB : ma_B g (some (L, xs)) me_Law_law p s m args meth cd) (hb : g.2.2.1 = s.heap.size) {la : Array Slot} (hL : ma_L g 7 la [some (.ref 1), none, none, none, none, none, none])
    (kk : ∀ h H locs la', ST h → ma_wH g true GS h s H locs 200 → ma_L g 7 la' [some (.ref 1), some (.ref 2), some (.ref 184), none, none, none, none] → W p l e (ma_rm me_Law_law) s m args below meth cd H locs 200 11568 Z (F0 m 19 la' ([Value.ref 201].map (ma_tv g)))) : W p l e (ma_rm me_Law_law) s m args below meth cd s.heap [] 0 0 Z (F0 m 0 la []) := by
  have hw0 : ma_wH g true [] hZ s s.heap [] 0 := ⟨fun k q h => (by simp [ma_ws] at h), ⟨Nat.le_refl _, fun _ _ _ => rfl, fun _ h => (by cases h)⟩, fun _ => ⟨by simp [hb], by simp⟩⟩
  have e0 := law_e pa_Law_law_0 (by decide)
  have e1 := law_e pa_Law_law_1 (by decide)
  have e2 := law_e pa_Law_law_2 (by decide)
  have e3 := law_e pa_Law_law_3 (by decide)
  have e4 := law_e pa_Law_law_4 (by decide)
  have e5 := law_e pa_Law_law_5 (by decide)
  have e6 := law_e pa_Law_law_6 (by decide)
  have e7 := law_e pa_Law_law_7 (by decide)
  have e8 := law_e pa_Law_law_8 (by decide)
  have e9 := law_e pa_Law_law_9 (by decide)
  refine ma_newZ (st := []) e0.1 e0.2 hB hw0 (by decide) (by decide) (fun H1 hw1 => ?_)
  have t1 : ([] ++ [.inl 6] : ma_S) = GS.take 1 := tk_ap (k := 0) gs_2
  have hw1' : ma_wH g true (GS.take 1) (ma_z hZ 2) s H1 [] 1 := by rw [← t1]; exact hw1
  show W p l e (ma_rm me_Law_law) s m args below meth cd H1 [] 1 10 Z (F0 m 3 la [ma_tv g (.ref 2)])
  refine lv_dup hB.1 hB.2.1 e1.1 rfl ?_
  show W p l e (ma_rm me_Law_law) s m args below meth cd H1 [] 1 10 Z (F0 m 4 la ((Value.ref 2 :: [Value.ref 2]).map (ma_tv g)))
  refine ma_initZ (st := []) (aux := [101, 0, 0, 58, 59, 40]) (mj := me_Arc_init) (S := GS.take 1) (by decide) rfl mt_Arc_init e2.1 e2.2 hB hw1' hL.1 ⟨6, by rw [tk_sh (by decide)]; exact gs_2⟩ (by decide) (m_Arc_init l g (fun k => by rw [zR, if_pos rfl])) (by decide) (by decide) (fun v S' hA H2 locs2 hp2 hw2 => ?_)
  obtain ⟨rfl, rfl, a1, a2, a3, a4, a5, a6, a7, a8, a9, a10, a11, a12⟩ := hp2
  show W p l e (ma_rm me_Law_law) s m args below meth cd H2 locs2 182 2018 Z (F0 m 7 la (Value.ref (g.2.2.1 + 0) :: []))
  refine lv_astore_n (i := 1) hB.1 hB.2.1 e3.1 rfl hL.has (by decide) rfl (fun la1 hl1 => ?_)
  have hL1 : ma_L g 7 la1 [some (.ref 1), some (.ref 2), none, none, none, none, none] := hL.set1 (i := 1) (v := .ref 2) hl1
  show W p l e (ma_rm me_Law_law) s m args below meth cd H2 locs2 182 2018 Z (F0 m 8 la1 (([] : List Value).map (ma_tv g)))
  refine ma_newZ e4.1 e4.2 hB hw2 (by decide) (by decide) (fun H3 hw3 => ?_)
  have l2 : (GS.take 182).length = 182 := tk_len (by decide)
  have t2 : GS.take 182 ++ [.inl 7] = GS.take 183 := tk_ap gs_184
  have hw3' : ma_wH g true (GS.take 183) (ma_z hA 184) s H3 locs2 183 := by
    have := hw3
    rw [l2] at this
    rw [← t2]
    exact this
  rw [l2]
  show W p l e (ma_rm me_Law_law) s m args below meth cd H3 locs2 183 2040 Z (F0 m 11 la1 [ma_tv g (.ref 184)])
  refine lv_dup hB.1 hB.2.1 e5.1 rfl ?_
  show W p l e (ma_rm me_Law_law) s m args below meth cd H3 locs2 183 2040 Z (F0 m 12 la1 ((Value.ref 184 :: [Value.ref 184]).map (ma_tv g)))
  refine ma_initZ (st := []) (aux := [88, 0, 0, 607, 608, 47]) (mj := me_Mod_init) (S := GS.take 183) (by decide) rfl mt_Mod_init e6.1 e6.2 hB hw3' hL1.1 ⟨7, by rw [tk_sh (by decide)]; exact gs_184⟩ (by decide) (m_Mod_init l g (fun k => by rw [zR, if_pos rfl])) (by decide) (by decide) (fun v S' hM H4 locs4 hp4 hw4 => ?_)
  obtain ⟨rfl, rfl, b1, b2, b3, b4, b5⟩ := hp4
  show W p l e (ma_rm me_Law_law) s m args below meth cd H4 locs4 199 11567 Z (F0 m 15 la1 (Value.ref (g.2.2.1 + 182) :: []))
  refine lv_astore_n (i := 2) hB.1 hB.2.1 e7.1 rfl hL1.has (by decide) rfl (fun la2 hl2 => ?_)
  have hL2 : ma_L g 7 la2 [some (.ref 1), some (.ref 2), some (.ref 184), none, none, none, none] := hL1.set1 (i := 2) (v := .ref 184) hl2
  refine lv_iconst (v := nI 1) hB.1 hB.2.1 e8.1 (of_decide_eq_true e8.2) ?_
  show W p l e (ma_rm me_Law_law) s m args below meth cd H4 locs4 199 11567 Z (F0 m 17 la2 ((Value.int (nI 1) :: []).map (ma_tv g)))
  refine ma_newaZ (N := 1) e9.1 e9.2 hB hw4 (by decide) (by decide) (by decide) (fun H5 hw5 => ?_)
  have l3 : (GS.take 199).length = 199 := tk_len (by decide)
  have t3 : GS.take 199 ++ [.inr (.long, 1)] = GS.take 200 := tk_ap gs_201
  have t4 : GS.take 200 = GS := List.take_of_length_le (by rw [gs_len]; exact Nat.le_refl _)
  have hw5' : ma_wH g true GS (ma_z hM 201) s H5 locs4 200 := by
    have := hw5
    rw [l3] at this
    rw [← t4, ← t3]
    exact this
  rw [l3]
  exact kk _ H5 locs4 la2 (ST_start a1 a2 a3 a4 a5 a6 a7 a8 a9 a10 a11 a12 b1 b2 b3 b4 b5) hw5' hL2
