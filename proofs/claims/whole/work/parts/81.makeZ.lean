/-! making in front of any end: the law makes its two objects and its array -/
theorem ma_newZ {l : Launch} {g : ma_G} {scr : Option (Nat × (Nat → Int32))} {mi : ma_M} {P : List ma_E} {Z : State → Prop} {k : Nat} {st : List Value} {c sl : Nat} {S : ma_S} {h : ma_H} {p : Program} {e : Env} {s : State} {m : MethodId} {args : Array Value} {below : List Frame} {meth : Method} {cd : Code} {H : Heap} {locs : List Loc} {la : Array Slot} {pc : Nat} {i : Nat} {aux : List Nat} (hd : decode mi.2.1 pc = .ok (.new i, 3)) (ho : ma_okx mi P k pc (.new i) aux = true) (hB : ma_B g scr mi p s m args meth cd) (hw : ma_wH g true S h s H locs c) (hc1 : c + 1 ≤ mi.2.2.2.2.2.1) (hs1 : sl + ma_a aux 1 ≤ mi.2.2.2.2.2.2) (kk : ∀ H1, ma_wH g true (S ++ [.inl (ma_a aux 0)]) (ma_z h (S.length + 2)) s H1 locs (c + 1) → W p l e (ma_rm mi) s m args below meth cd H1 locs (c + 1) (sl + ma_a aux 1) Z (F0 m (pc + 3) la ((Value.ref (S.length + 2) :: st).map (ma_tv g)))) : W p l e (ma_rm mi) s m args below meth cd H locs c sl Z (F0 m pc la (st.map (ma_tv g))) := by
  have hKK := hB.2.2.2.2.2.2.2.2.1.1
  simp only [ma_okx] at ho
  split at ho
  · rename_i C T N hc
    simp only [Bool.and_eq_true, decide_eq_true_eq] at ho
    obtain ⟨⟨⟨hN, h1⟩, h2⟩, h3⟩ := ho
    rw [← hN] at hs1 kk
    have h1 := ma_has_in h1
    have h2 := ma_has_in h2
    have h3 := ma_has_in h3
    obtain ⟨hk1, hk2, hk3, hk4⟩ := ma_clok hc
    have hty0 : ∀ k, k < N → parseFieldDescriptor (T k).2.2.1 = some ((ma_ty (ma_a aux 0)).getD k .int) := by
      intro k hk
      rw [hk2 k hk, List.getD_eq_getElem?_getD]
      have : k < (ma_ty (ma_a aux 0)).length := by rw [hk1]; exact hk
      rw [List.getElem?_eq_getElem this]
      rfl
    have hfs : ∀ j, j < N → defaultValue ((ma_ty (ma_a aux 0)).getD j .int) = vp_V ((ma_ty (ma_a aux 0)).mapIdx (fun k ty => ma_fv g (ma_z h (S.length + 2)) (S.length + 2) k ty)) j := by
      intro j hj
      have hj2 : j < (ma_ty (ma_a aux 0)).length := by rw [hk1]; exact hj
      rw [vp_V, List.getD_eq_getElem?_getD, List.getD_eq_getElem?_getD, List.getElem?_mapIdx, List.getElem?_eq_getElem hj2]
      have hplain := ma_plain (ma_a aux 0) j hj2
      simp only [Option.getD_some, Option.map_some]
      revert hplain
      generalize (ma_ty (ma_a aux 0))[j] = ty
      intro hplain
      cases ty <;> simp [ma_tc] at hplain <;> simp [ma_fv, ma_z, defaultValue, ma_ro, va_rf]
    refine va_new (c0 := cd) (own := mi.1.cls) hB.1 hB.2.1 hB.2.2.2.2.2.2.1 (ma_in_wo hk4) _ hty0 hB.2.2.2.2.2.2.2.1 (ma_wB hB h1) (ma_wB hB h2) (ma_wB hB h3) hKK hw.1 (ma_D g S h) hw.rfS (fun q hq => Nat.le_trans (Nat.le_trans hB.2.2.2.2.2.2.2.2.2.1 hw.2.1.1) hq) hc hfs hc1 hs1 hd (fun q H1 hP1 hD1 hS1 => ?_)
    refine ma_Wsz fun hz => ?_
    obtain ⟨rfl, hw1⟩ := hw.new (h' := ma_z h (S.length + 2)) (sh := .inl (ma_a aux 0)) rfl hS1 hP1 hD1 hz rfl (fun j sh' hj => ma_z_other (by have := (List.getElem?_eq_some_iff.mp hj).1; omega) sh' g)
    exact kk _ hw1
  · cases ho
theorem ma_newaZ {l : Launch} {g : ma_G} {scr : Option (Nat × (Nat → Int32))} {mi : ma_M} {P : List ma_E} {Z : State → Prop} {k : Nat} {st : List Value} {c sl : Nat} {S : ma_S} {h : ma_H} {p : Program} {e : Env} {s : State} {m : MethodId} {args : Array Value} {below : List Frame} {meth : Method} {cd : Code} {H : Heap} {locs : List Loc} {la : Array Slot} {pc : Nat} {aty : ArrayType} {aux : List Nat} {N : Nat} (hd : decode mi.2.1 pc = .ok (.newarray aty, 2)) (ho : ma_okx mi P k pc (.newarray aty) aux = true) (hB : ma_B g scr mi p s m args meth cd) (hw : ma_wH g true S h s H locs c) (hN : N ≤ 100000) (hc1 : c + 1 ≤ mi.2.2.2.2.2.1) (hs1 : sl + N ≤ mi.2.2.2.2.2.2) (kk : ∀ H1, ma_wH g true (S ++ [.inr (newarray.typeOf aty, N)]) (ma_z h (S.length + 2)) s H1 locs (c + 1) → W p l e (ma_rm mi) s m args below meth cd H1 locs (c + 1) (sl + N) Z (F0 m (pc + 2) la ((Value.ref (S.length + 2) :: st).map (ma_tv g)))) : W p l e (ma_rm mi) s m args below meth cd H locs c sl Z (F0 m pc la ((Value.int (nI N) :: st).map (ma_tv g))) := by
  have hKK := hB.2.2.2.2.2.2.2.2.1.1
  simp only [ma_okx, Bool.and_eq_true, decide_eq_true_eq] at ho
  obtain ⟨hat, h1⟩ := ho
  have h1 := ma_has_in h1
  have hfin : ∀ (a0 : vp_A) (ty : FieldType), newarray.typeOf aty = ty → (∀ cA : ClassId, vp_cell cA a0 = arrV cA N (fun _ => defaultValue ty)) → componentBytes ty ≤ 8 → a0 = (N, ma_cont g (ma_z h (S.length + 2)) (S.length + 2) ty) → (∃ t0 : Nat, (ma_tl g)[t0]? = some (g.2.2.2 ty, ty)) → ty ≠ .object ma_row → W p l e (ma_rm mi) s m args below meth cd H locs c sl Z (F0 m pc la ((Value.int (nI N) :: st).map (ma_tv g))) := by
    intro a0 ty hty ha hbytes hcont htl hno
    obtain ⟨t0, ht0⟩ := htl
    subst hty
    refine va_newa hB.1 hB.2.1 (ma_wB hB h1) rfl hKK hw.1 (ma_D g S h) hw.rfS (fun q hq => Nat.le_trans (Nat.le_trans hB.2.2.2.2.2.2.2.2.2.1 hw.2.1.1) hq) ha (nI_pos (by omega)) (nI_clamp (by omega)) (Nat.le_trans (Nat.mul_le_mul hN hbytes) (by decide)) hc1 hs1 hd (fun q cA H1 hK1 hP1 hD1 hS1 => ?_)
    have hcA : cA = g.2.2.2 (newarray.typeOf aty) := by
      have e1 := (hK1.2 5 (cA, newarray.typeOf aty) (by simp [ma_tl])).2
      have e2 := (hK1.2 t0 (g.2.2.2 (newarray.typeOf aty), newarray.typeOf aty) (by rw [List.getElem?_append_left (List.getElem?_eq_some_iff.mp ht0).1]; exact ht0)).2
      revert e1 e2
      cases aty <;> exact fun e1 e2 => Option.some.inj (e1.symm.trans e2)
    subst hcA
    refine ma_Wsz fun hz => ?_
    obtain ⟨rfl, hw1⟩ := hw.new (h' := ma_z h (S.length + 2)) (sh := .inr (newarray.typeOf aty, N)) rfl hS1 hP1 hD1 hz (by rw [hcont]; rfl) (fun j sh' hj => ma_z_other (by have := (List.getElem?_eq_some_iff.mp hj).1; omega) sh' g)
    exact kk _ hw1
  rcases hat with rfl | rfl | rfl | rfl
  · exact hfin (N, .inl (fun _ => 0)) .int rfl (fun cA => rfl) (by decide) (by simp [ma_cont, ma_z]) ⟨0, rfl⟩ (by simp)
  · exact hfin (N, .inl (fun _ => 0)) .byte rfl (fun cA => rfl) (by decide) (by simp [ma_cont, ma_z]) ⟨1, rfl⟩ (by simp)
  · exact hfin (N, .inl (fun _ => 0)) .boolean rfl (fun cA => rfl) (by decide) (by simp [ma_cont, ma_z]) ⟨2, rfl⟩ (by simp)
  · exact hfin (N, .inr (.inl (fun _ => 0))) .long rfl (fun cA => rfl) (by decide) (by simp [ma_cont, ma_z]) ⟨3, rfl⟩ (by simp)
theorem ma_ranZ {l : Launch} {g : ma_G} {x : Bool} {R : Room} {mc ms : Nat} {post : ma_P} {Z : State → Prop} {rest : List Value} {st : List Value} {c sl : Nat} {S : ma_S} {h : ma_H} {p : Program} {e : Env} {s : State} {m : MethodId} {args av : Array Value} {below : List Frame} {meth : Method} {cd : Code} {H : Heap} {locs : List Loc} {la : Array Slot} {pc : Nat} (hw : ma_wH g x S h s H locs c)
    (hr : va_Run p l e R s m args below meth cd H locs c sl mc ms (F0 m pc la st) (rest.map (ma_tv g)) (ma_Qc g x mc post av) (fun q => g.2.2.1 ≤ q))
    (kk : ∀ v S' h' H1 locs1, post v S' h' → ma_wH g x S' h' s H1 locs1 (c + mc) → W p l e R s m args below meth cd H1 locs1 (c + mc) (sl + ms) Z (F0 m (pc + 3) la ((v.toList ++ rest).map (ma_tv g)))) : W p l e R s m args below meth cd H locs c sl Z (F0 m pc la st) := by
  intro T hT X
  obtain ⟨v, st₀, t, T', L, h0, X', hLf, e1, e2, ⟨⟨v', S', h', hv, hp, hat⟩, ⟨hz, hk⟩, hzz⟩, go⟩ := hr T hT X
  have hv' : v = v'.map (ma_tv g) := by cases hv; rfl
  subst hv'
  rw [h0] at hz hk hzz
  have hw' : ma_wH g x S' h' s T'.heap (locs ++ L) (c + mc) := by
    refine ⟨by rw [e1]; exact hat.1, ⟨Nat.le_trans hw.2.1.1 (by rw [e1]; exact hz), fun q g1 g2 => ?_, fun q hq => ?_⟩, fun hxt => ⟨by rw [e1]; exact hat.2 hxt, by rw [e1, hzz hxt, (hw.2.2 hxt).2]; omega⟩⟩
    · rw [e1, hk q (Nat.lt_of_lt_of_le g1 hw.2.1.1) g2]
      exact hw.2.1.2.1 q g1 g2
    · rcases List.mem_append.mp hq with h | h
      · exact hw.2.1.2.2 q h
      · exact hLf q h
  obtain ⟨t2, a1, b1⟩ := kk v' S' h' T'.heap (locs ++ L) hp hw' T' rfl X'
  refine ⟨t2, go t2 ?_, b1⟩
  have e3 : (v'.toList ++ rest).map (ma_tv g) = (v'.map (ma_tv g)).toList ++ rest.map (ma_tv g) := by
    cases v' <;> simp
  rw [← e3]
  exact a1
theorem ma_initZ {l : Launch} {g : ma_G} {scr : Option (Nat × (Nat → Int32))} {mi : ma_M} {P : List ma_E} {Z : State → Prop} {k : Nat} {st : List Value} {c sl : Nat} {S : ma_S} {h : ma_H} {p : Program} {e : Env} {s : State} {m : MethodId} {args : Array Value} {below : List Frame} {meth : Method} {cd : Code} {H : Heap} {locs : List Loc} {la : Array Slot} {pc : Nat} {i : Nat} {aux : List Nat} {mj : ma_M} {post : ma_P} {a : Nat} {rest : List Value} (ha : ¬ ma_a aux 0 = 0) (ha1 : ma_a aux 1 = 0) (hm' : ma_mt[ma_a aux 0]? = some mj) (hd : decode mi.2.1 pc = .ok (.invokespecial i, 3)) (ho : ma_okx mi P k pc (.invokespecial i) aux = true) (hB : ma_B g scr mi p s m args meth cd) (hw : ma_wH g true S h s H locs c) (hL : la.size = mi.2.2.1) (hsh : ∃ ci, ma_sh S a = some (.inl ci)) (hcat : ma_cat rest ≤ 8) (hM : ma_PM l g true mj [.ref a] S h post) (hc1 : c + mj.2.2.2.2.2.1 ≤ mi.2.2.2.2.2.1) (hs1 : sl + mj.2.2.2.2.2.2 ≤ mi.2.2.2.2.2.2) (kk : ∀ v S' h' H1 locs1, post v S' h' → ma_wH g true S' h' s H1 locs1 (c + mj.2.2.2.2.2.1) → W p l e (ma_rm mi) s m args below meth cd H1 locs1 (c + mj.2.2.2.2.2.1) (sl + mj.2.2.2.2.2.2) Z (F0 m (pc + 3) la ((v.toList ++ rest).map (ma_tv g)))) : W p l e (ma_rm mi) s m args below meth cd H locs c sl Z (F0 m pc la ((Value.ref a :: rest).map (ma_tv g))) := by
  simp only [ma_okx, if_neg ha, Bool.and_eq_true] at ho
  obtain ⟨ho1, ho2⟩ := ho
  obtain ⟨mj2, hm, hdd, hR, hcode, hini⟩ := ma_okm_inv ho1
  cases hm.symm.trans hm'
  obtain ⟨ci, hsh⟩ := hsh
  obtain ⟨j, rfl, hS⟩ := ma_sh_some hsh
  simp only [ma_oki, hm, Bool.and_eq_true, decide_eq_true_eq] at ho2
  obtain ⟨⟨ho3, ho2⟩, hi1⟩ := ho2
  have hpre := ma_pre hw hB.2.2.2.2.2.2.2.2.2.1 hB.2.2.2.2.2.2.2.2.1 [.ref (j + 2)]
  have hi1 := ma_wB hB (ma_has_in hi1)
  have hini2 := ma_wB hB hini
  have hcat2 : 2 * (F0 m pc la ((Value.ref (j + 2) :: rest).map (ma_tv g))).monitorRoom + ((rest.map (ma_tv g)).map fun v => v.category).sum ≤ 8 := by
    rw [ma_cat_eq]
    exact Nat.le_trans (Nat.le_of_eq (by show 2 * 0 + _ = _; omega)) hcat
  have hwo : ma_wo mj = Cond.code mj.1 mj.2.1 mj.2.2.1 none :: ma_wd := by rw [← ho3.2]; rfl
  rcases ma_okl_inv ho2 hB with hl1 | ⟨host, hl1⟩
  · exact ma_ranZ hw (va_runI (As := []) ⟨hB.1, hB.2.1, hB.2.2.1, hB.2.2.2.2.2.2.2.1, hB.2.2.2.2.2.2.1⟩ hM ⟨callB_of (bytes := mj.2.1) (maxL := mj.2.2.1) (ret := none) (ma_a aux 1) hB.2.2.2.2.2.2.1 (ma_good hcode) hwo rfl rfl hini2 hl1 hdd hR, ho3.1, hi1⟩ hpre rfl ha1.symm hL rfl hcat2 hd ⟨hc1, hs1⟩) kk
  · exact ma_ranZ hw (va_runIN (As := []) ⟨hB.1, hB.2.1, hB.2.2.1, hB.2.2.2.2.2.2.2.1, hB.2.2.2.2.2.2.1⟩ hM ⟨va_cnB (bytes := mj.2.1) (maxL := mj.2.2.1) (ret := none) (ma_a aux 1) hB.2.2.2.2.2.2.1 (ma_good hcode) hwo rfl rfl hl1 hini2 hdd hR, ho3.1, hi1⟩ hpre rfl ha1.symm hL rfl hcat2 hd ⟨hc1, hs1⟩) kk
