/-! the size of the heap -/
theorem ma_Wsz {p : Program} {l : Launch} {e : Env} {R : Room} {s : State} {m : MethodId} {args : Array Value} {below : List Frame} {meth : Method} {c : Code} {H : Heap} {locs : List Loc} {cells slots : Nat} {Q : State → Prop} {f : JFrame} (k : H.size ≤ s.heap.size + cells → W p l e R s m args below meth c H locs cells slots Q f) : W p l e R s m args below meth c H locs cells slots Q f := by
  intro T hT X
  refine k ?_ T hT X
  rw [← hT]
  exact X.same.2.2.1
theorem ma_wH.rfS {g : ma_G} {x : Bool} {S : ma_S} {h : ma_H} {s : State} {H : Heap} {locs : List Loc} {c : Nat} (hw : ma_wH g x S h s H locs c) : va_S (fun q => g.2.2.1 ≤ q) H H locs := ⟨Nat.le_refl _, fun _ _ _ => rfl, hw.2.1.2.2⟩
theorem ma_wH.step {g : ma_G} {x : Bool} {S : ma_S} {h h' : ma_H} {s : State} {H H1 : Heap} {locs locs1 : List Loc} {c : Nat} (hw : ma_wH g x S h s H locs c) (hS1 : va_S (fun q => g.2.2.1 ≤ q) H H1 locs1) (hP1 : va_P g.1 ma_cl (ma_ws g S h') H1) (hz : H1.size ≤ s.heap.size + c) : ma_wH g x S h' s H1 locs1 c := by
  refine ⟨hP1, ⟨Nat.le_trans hw.2.1.1 hS1.1, fun q h1 h2 => ?_, hS1.2.2⟩, fun hx => ?_⟩
  · rw [hS1.2.1 q (Nat.lt_of_lt_of_le h1 hw.2.1.1) h2]
    exact hw.2.1.2.1 q h1 h2
  · obtain ⟨e1, e2⟩ := hw.2.2 hx
    have := hS1.1
    omega
theorem ma_wH.new {g : ma_G} {x : Bool} {S : ma_S} {h h' : ma_H} {s : State} {H H1 : Heap} {locs locs1 : List Loc} {c q : Nat} {e : va_E} {sh : Nat ⊕ (FieldType × Nat)} (hw : ma_wH g x S h s H locs c) (hx : x = true) (hS1 : va_S (fun q => g.2.2.1 ≤ q) H H1 locs1) (hP1 : va_P g.1 ma_cl (ma_ws g S h ++ [(q, e)]) H1) (hD1 : va_D (fun q => g.2.2.1 ≤ q) (ma_ws g S h ++ [(q, e)])) (hz : H1.size ≤ s.heap.size + (c + 1))
    (he : e = ma_cell g h' (S.length + 2) sh) (ho : ∀ j sh', S[j]? = some sh' → ma_cell g h' (j + 2) sh' = ma_cell g h (j + 2) sh') : q = g.2.2.1 + S.length ∧ ma_wH g x (S ++ [sh]) h' s H1 locs1 (c + 1) := by
  obtain ⟨e1, e2⟩ := hw.2.2 hx
  have hl : (ma_ws g S h).length = S.length := by simp [ma_ws]
  have hlast : (ma_ws g S h ++ [(q, e)])[S.length]? = some (q, e) := by rw [List.getElem?_append_right (by omega), hl]; simp
  have hq1 : q < H1.size := (hP1 _ _ hlast).lt
  have hq2 : g.2.2.1 ≤ q := hD1.2 _ _ hlast
  have hq3 : ¬ q < g.2.2.1 + S.length := by
    intro hq
    obtain ⟨i, rfl⟩ : ∃ i, q = g.2.2.1 + i := ⟨q - g.2.2.1, by omega⟩
    have hi : i < S.length := by omega
    have h1 : (ma_ws g S h ++ [(g.2.2.1 + i, e)])[i]? = some (g.2.2.1 + i, ma_cell g h (i + 2) S[i]) := by
      rw [List.getElem?_append_left (by omega), ma_ws_at, List.getElem?_eq_getElem hi]; rfl
    have := hD1.1 i S.length _ _ h1 hlast rfl
    omega
  have hq : q = g.2.2.1 + S.length := by omega
  refine ⟨hq, ?_, ⟨Nat.le_trans hw.2.1.1 hS1.1, fun q h1 h2 => ?_, hS1.2.2⟩, fun _ => ⟨?_, ?_⟩⟩
  · have e3 : ma_ws g S h ++ [(q, e)] = ma_ws g (S ++ [sh]) h' := by
      apply List.ext_getElem?
      intro i
      rw [ma_ws_at]
      by_cases hi : i < S.length
      · rw [List.getElem?_append_left (by omega), List.getElem?_append_left hi, ma_ws_at, List.getElem?_eq_getElem hi]
        simp only [Option.map_some]
        rw [ho i _ (List.getElem?_eq_getElem hi)]
      · by_cases hi2 : i = S.length
        · subst hi2
          rw [hlast, List.getElem?_append_right (Nat.le_refl _), hq, he]
          simp
        · rw [List.getElem?_eq_none (by simp; omega), List.getElem?_eq_none (by simp; omega)]
          rfl
    rw [← e3]
    exact hP1
  · rw [hS1.2.1 q (Nat.lt_of_lt_of_le h1 hw.2.1.1) h2]
    exact hw.2.1.2.1 q h1 h2
  · simp
    omega
  · omega
/-! fields and arrays -/
theorem ma_okf_inv {own : String} {idx : Nat} {aux : List Nat} (ho : ma_okf own idx aux = true) : ∃ C T N fty, ma_cl[ma_a aux 0]? = some (C, T, N) ∧ ma_a aux 1 < N ∧ (ma_ty (ma_a aux 0))[ma_a aux 1]? = some fty ∧ ma_tc fty = ma_a aux 2 ∧ ma_a aux 2 ≤ 2 ∧ (T (ma_a aux 1)).1 = C ∧
    ((ma_a aux 3 = 0 ∧ Cond.fieldLink own idx C (T (ma_a aux 1)).2.1 (T (ma_a aux 1)).2.2.1 ∈ ma_wd) ∨ (¬ ma_a aux 3 = 0 ∧ ∃ host, (own, idx, C, (T (ma_a aux 1)).2.1, (T (ma_a aux 1)).2.2.1, host) ∈ ma_nf)) := by
  unfold ma_okf at ho
  split at ho
  · rename_i C T N hc
    simp only [Bool.and_eq_true, decide_eq_true_eq] at ho
    obtain ⟨⟨⟨⟨h1, h2⟩, h3⟩, h4⟩, h5⟩ := ho
    obtain ⟨fty, h6, h7⟩ := Option.map_eq_some_iff.mp h2
    refine ⟨C, T, N, fty, hc, h1, h6, h7, h3, h4, ?_⟩
    split at h5
    · rename_i h8
      exact Or.inl ⟨h8, ma_has_in h5⟩
    · rename_i h8
      split at h5
      · rename_i q hq
        obtain ⟨e1, e2, e3, e4, e5⟩ := of_decide_eq_true h5
        refine Or.inr ⟨h8, q.2.2.2.2.2, ?_⟩
        rw [← e1, ← e2, ← e3, ← e4, ← e5]
        exact List.mem_of_getElem? hq
      · cases h5
  · cases ho
theorem ma_fs_at (g : ma_G) (h : ma_H) (a ci k : Nat) {fty : FieldType} (hf : (ma_ty ci)[k]? = some fty) : ((ma_ty ci).mapIdx (fun k ty => ma_fv g h a k ty))[k]? = some (ma_fv g h a k fty) := by
  simp [hf]
theorem ma_pv_fv (g : ma_G) (h : ma_H) (a k : Nat) {fty : FieldType} {w : Nat} (hc : ma_tc fty = w) (hw : w ≤ 2) : ma_tv g (ma_pv h a k w) = ma_fv g h a k fty := by
  cases fty <;> simp [ma_tc] at hc <;> subst hc <;> first | rfl | (exfalso; omega)
theorem ma_in_wo {mi : ma_M} {C : String} {T : u_T} {N : Nat} (h : ∀ w ∈ u_ws C T N, w ∈ ma_wd) : ∀ w ∈ u_ws C T N, w ∈ ma_wo mi := fun w hw => List.mem_cons_of_mem _ (h w hw)
theorem ma_s_getfield (i : Nat) (aux : List Nat) : ma_Snd (.getfield i) aux := by
  intro l g x scr mi P Q K k ls st c sl S h p e s m args below meth cd H locs la pc hK hd hn ho hx hB hw hL
  obtain ⟨a, st', rfl, hsh, hx⟩ := ma_r1_inv hx
  obtain ⟨j, rfl, hS⟩ := ma_sh_some hsh
  obtain ⟨C, T, N, fty, hc, hk, hf, htc, hw2, hT1, hlink⟩ := ma_okf_inv ho
  obtain ⟨hk1, hk2, hk3, hk4⟩ := ma_clok hc
  have he : (ma_ws g S h)[j]? = some (g.2.2.1 + j, .inr (ma_a aux 0, (ma_ty (ma_a aux 0)).mapIdx (fun k ty => ma_fv g h (j + 2) k ty))) := by rw [ma_ws_at, hS]; rfl
  have h3 := ma_next (below := below) (e := e) hK hx (hn rfl) hB hw hL
  rw [List.map_cons, ma_pv_fv g h _ _ htc hw2] at h3
  obtain ⟨-, h5⟩ | ⟨-, host, h5⟩ := hlink
  · exact va_get (T := T) (ref := C) hB.1 hB.2.1 hB.2.2.2.2.2.2.1 (ma_in_wo hk4) hB.2.2.2.2.2.2.2.1 hB.2.2.2.2.2.2.2.2.1.1 hw.1 j he hc _ hk (ma_wB hB h5) (fun y hy => by rw [hT1] at hy; exact hy) (ma_fs_at g h _ _ _ hf) hd h3
  · exact va_getN (T := T) (ref := C) hB.1 hB.2.1 hB.2.2.2.2.2.2.1 (ma_in_wo hk4) hB.2.2.2.2.2.2.2.1 hB.2.2.2.2.2.2.2.2.1.1 hw.1 j he hc _ hk (va_Nw.use rfl (hB.2.2.2.2.2.2.2.2.1.2.1 _ h5)) (fun y hy => by rw [hT1] at hy; exact hy) (ma_fs_at g h _ _ _ hf) hd h3
theorem ma_put_other {h : ma_H} {a k a' k' : Nat} {v : Value} (hn : ¬ (a' = a ∧ k' = k)) : (ma_put h a k v).1 a' k' = h.1 a' k' ∧ (ma_put h a k v).2.1 a' k' = h.2.1 a' k' ∧ (ma_put h a k v).2.2 a' k' = h.2.2 a' k' := by
  cases v <;> simp [ma_put, ma_uI, ma_uL, ma_uR, hn]
theorem ma_fv_other {g : ma_G} {h h' : ma_H} {a k : Nat} (h1 : h'.1 a k = h.1 a k) (h2 : h'.2.1 a k = h.2.1 a k) (h3 : h'.2.2 a k = h.2.2 a k) (ty : FieldType) : ma_fv g h' a k ty = ma_fv g h a k ty := by
  cases ty <;> simp [ma_fv, h1, h2, h3]
theorem ma_fv_put {g : ma_G} {h : ma_H} {a k : Nat} {v : Value} {fty : FieldType} (hv : ma_vc v = ma_tc fty) (h2 : ma_tc fty ≤ 2) : ma_fv g (ma_put h a k v) a k fty = ma_tv g v := by
  cases fty <;> cases v <;> simp [ma_vc, ma_tc] at hv h2 <;> simp [ma_fv, ma_put, ma_uI, ma_uL, ma_uR, ma_tv]
theorem ma_ws_put (g : ma_G) (S : ma_S) (h : ma_H) (j ci k : Nat) (hS : S[j]? = some (.inl ci)) {fty : FieldType} (hf : (ma_ty ci)[k]? = some fty) {v : Value} (hv : ma_vc v = ma_tc fty) (h2 : ma_tc fty ≤ 2) :
    (ma_ws g S h).set j (g.2.2.1 + j, .inr (ci, ((ma_ty ci).mapIdx (fun k ty => ma_fv g h (j + 2) k ty)).set k (ma_tv g v))) = ma_ws g S (ma_put h (j + 2) k v) := by
  refine ma_ws_set g S h _ j hS ?_ (fun j' sh' hj _ => ?_)
  · show Sum.inr (ci, _) = _
    congr 2
    apply List.ext_getElem?
    intro i
    rw [List.getElem?_set]
    by_cases hi : k = i
    · subst hi
      have hl : k < (ma_ty ci).length := (List.getElem?_eq_some_iff.mp hf).1
      rw [if_pos rfl, if_pos (by simpa using hl)]
      simp [hf, ma_fv_put hv h2]
    · rw [if_neg hi]
      simp only [List.getElem?_mapIdx]
      cases (ma_ty ci)[i]? with
      | none => rfl
      | some ty =>
        obtain ⟨e1, e2, e3⟩ := ma_put_other (h := h) (a := j + 2) (k := k) (a' := j + 2) (k' := i) (v := v) (fun q => hi q.2.symm)
        simp [ma_fv_other e1 e2 e3]
  · refine ma_cell_other (fun i => ?_) (fun i => ?_) (fun i => ?_) sh'
    · exact (ma_put_other (fun q => hj (by omega))).1
    · exact (ma_put_other (fun q => hj (by omega))).2.1
    · exact (ma_put_other (fun q => hj (by omega))).2.2
theorem ma_tv_fits (g : ma_G) {v : Value} {fty : FieldType} (hv : ma_vc v = ma_tc fty) (h2 : ma_tc fty ≤ 2) : narrow fty (ma_tv g v) = ma_tv g v ∧ fits fty (ma_tv g v) = true := by
  cases fty <;> cases v <;> simp [ma_vc, ma_tc] at hv h2
  case int.int z => exact ⟨rfl, rfl⟩
  case long.long z => exact ⟨rfl, rfl⟩
  case object.ref C z =>
    show narrow _ (va_rf (ma_ro g z)) = va_rf (ma_ro g z) ∧ fits _ (va_rf (ma_ro g z)) = true
    cases ma_ro g z <;> exact ⟨rfl, rfl⟩
  case array.ref C z =>
    show narrow _ (va_rf (ma_ro g z)) = va_rf (ma_ro g z) ∧ fits _ (va_rf (ma_ro g z)) = true
    cases ma_ro g z <;> exact ⟨rfl, rfl⟩
theorem ma_s_putfield (i : Nat) (aux : List Nat) : ma_Snd (.putfield i) aux := by
  intro l g x scr mi P Q K k ls st c sl S h p e s m args below meth cd H locs la pc hK hd hn ho hx hB hw hL
  match st, hx with
  | v :: st1, hx =>
    obtain ⟨hvc, hx⟩ := hx
    obtain ⟨a, st', rfl, hsh, hx⟩ := ma_r1_inv hx
    obtain ⟨j, rfl, hS⟩ := ma_sh_some hsh
    simp only [ma_okx, Bool.and_eq_true] at ho
    obtain ⟨C, T, N, fty, hc, hk, hf, htc, hw2, hT1, hlink⟩ := ma_okf_inv ho.1
    obtain ⟨hk1, hk2, hk3, hk4⟩ := ma_clok hc
    have hvt : ma_vc v = ma_tc fty := by rw [htc]; exact hvc
    have ht2 : ma_tc fty ≤ 2 := by rw [htc]; exact hw2
    have hd2 : parseFieldDescriptor (T (ma_a aux 1)).2.2.1 = some fty := by rw [hk2 _ hk]; exact hf
    obtain ⟨hnar, hfit⟩ := ma_tv_fits g hvt ht2
    have he : (ma_ws g S h)[j]? = some (g.2.2.1 + j, .inr (ma_a aux 0, (ma_ty (ma_a aux 0)).mapIdx (fun k ty => ma_fv g h (j + 2) k ty))) := by rw [ma_ws_at, hS]; rfl
    have hlen : ma_a aux 1 < ((ma_ty (ma_a aux 0)).mapIdx (fun k ty => ma_fv g h (j + 2) k ty)).length := by simp [hk1]; exact hk
    have hty0 : ∀ k, k < N → parseFieldDescriptor (T k).2.2.1 = some ((ma_ty (ma_a aux 0)).getD k .int) := by
      intro k hk
      rw [hk2 k hk, List.getD_eq_getElem?_getD]
      have : k < (ma_ty (ma_a aux 0)).length := by rw [hk1]; exact hk
      rw [List.getElem?_eq_getElem this]
      rfl
    have kk : ∀ (H1 : Heap) (locs1 : List Loc), va_P g.1 ma_cl ((ma_ws g S h).set j (g.2.2.1 + j, .inr (ma_a aux 0, ((ma_ty (ma_a aux 0)).mapIdx (fun k ty => ma_fv g h (j + 2) k ty)).set (ma_a aux 1) (ma_tv g v)))) H1 → va_D (fun q => g.2.2.1 ≤ q) ((ma_ws g S h).set j (g.2.2.1 + j, .inr (ma_a aux 0, ((ma_ty (ma_a aux 0)).mapIdx (fun k ty => ma_fv g h (j + 2) k ty)).set (ma_a aux 1) (ma_tv g v)))) → va_S (fun q => g.2.2.1 ≤ q) H H1 locs1 → ma_W l g x mi Q p e s m args below meth cd H1 locs1 c sl (pc + 3) la (st'.map (ma_tv g)) := by
      intro H1 locs1 hP1 hD1 hS1
      rw [ma_ws_put g S h j _ _ hS hf hvt ht2] at hP1
      exact ma_Wsz fun hz => ma_next hK hx (hn rfl) hB (hw.step hS1 hP1 hz) hL
    obtain ⟨h6, h5⟩ | ⟨h6, host, h5⟩ := hlink
    · by_cases hfin : (T (ma_a aux 1)).2.2.2 = true
      · have ho2 := ho.2
        simp only [ma_okp, hc, hfin, if_true, Bool.and_eq_true, decide_eq_true_eq] at ho2
        exact va_putF (T := T) (ref := C) hB.1 hB.2.1 hB.2.2.2.2.2.2.1 (ma_in_wo hk4) _ hty0 hk3 hB.2.2.2.2.2.2.2.1 hB.2.2.2.2.2.2.2.2.1.1 hw.1 (ma_D g S h) hw.rfS j he hc _ hk (ma_wB hB h5) (fun y hy => by rw [hT1] at hy; exact hy) hfin (by rw [hB.2.2.2.2.2.1]; exact ho2.1.1) ho2.1.2 hd2 hnar hfit hlen hd kk
      · exact va_put (T := T) (ref := C) hB.1 hB.2.1 hB.2.2.2.2.2.2.1 (ma_in_wo hk4) _ hty0 hk3 hB.2.2.2.2.2.2.2.1 hB.2.2.2.2.2.2.2.2.1.1 hw.1 (ma_D g S h) hw.rfS j he hc _ hk (ma_wB hB h5) (fun y hy => by rw [hT1] at hy; exact hy) (by simpa using hfin) hd2 hnar hfit hlen hd kk
    · have hfin : ¬ (T (ma_a aux 1)).2.2.2 = true := by
        intro hfin
        have ho2 := ho.2
        simp only [ma_okp, hc, hfin, if_true, Bool.and_eq_true, decide_eq_true_eq] at ho2
        exact h6 ho2.2
      exact va_putN (T := T) (ref := C) hB.1 hB.2.1 hB.2.2.2.2.2.2.1 (ma_in_wo hk4) _ hty0 hk3 hB.2.2.2.2.2.2.2.1 hB.2.2.2.2.2.2.2.2.1.1 hw.1 (ma_D g S h) hw.rfS j he hc _ hk (va_Nw.use rfl (hB.2.2.2.2.2.2.2.2.1.2.1 _ h5)) (fun y hy => by rw [hT1] at hy; exact hy) (by simpa using hfin) hd2 hnar hfit hlen hd kk
