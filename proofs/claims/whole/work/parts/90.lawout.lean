/-! the law's two helpers: the call, come back or caught -/
section
variable {w0 : Cond} {Z : State → Prop} {H : Heap} {locs : List Loc} {p : Program} {e : Env} {s : State} {m : MethodId} {args : Array Value} {below : List Frame} {meth : Method} {cd : Code} {l : Launch} {g : ma_G} {mi mj : ma_M} {P : List ma_E} {kc kh pcc pch idx nn ee : Nat} {ls : List (Option Value)} {av rest : List Value} {h : ma_H}
theorem wH_recv {x : Bool} {c : Nat} (hK : ma_KK g s) (hw : ma_wH g x GS h s H locs c) : ∃ cell : Cell, H[g.2.2.1]? = some cell ∧ cell.vm.isStatics = false ∧ s.vm.findClass "StrandArchive" = some cell.cls := by
  have he : (ma_ws g GS h)[0]? = some (g.2.2.1 + 0, .inr (6, (ma_ty 6).mapIdx (fun k ty => ma_fv g h 2 k ty))) := by
    rw [ma_ws_at, show GS[0]? = some (.inl 6) from rfl]
    rfl
  exact va_recv (ci := 6) (q := ("StrandArchive", ma_T6, 10)) hK.1 hw.1 rfl he
theorem catch_JF (hcls : mi.1.cls = "StrandArchiveLaw") (hTW : TW g.2.2.1 s) (hM : MetFree l mj.1 (headSpec (ma_wo mj) rmT) (PcT g (.ref 2 :: av) h) (fun _ _ _ _ _ => True) QT) (hcode : Cond.code mj.1 mj.2.1 mj.2.2.1 mj.2.2.2.1 ∈ ma_wd) (hmj : mj.1.cls = "StrandArchive")
    (hlink : Cond.methodLink "StrandArchiveLaw" idx mj.1 ∈ ma_wd) (hinst : Cond.instanceMethod mj.1 ∈ ma_wd) (hsel : Cond.selects "StrandArchive" mj.1 mj.1 ∈ ma_wd) (hdd : (parseMethodDescriptor mj.1.desc).map (fun d => d.parameters.length) = some nn) (hav : av.length = nn) (hlo : 8 + (mj.2.2.1 + 11) + 150 ≤ 200)
    (htab : cd.exceptionTable.toList = [⟨0, ee, pch, 13⟩]) (hcov : covers ⟨0, ee, pch, 13⟩ pcc = true) (hcl : Cond.classLink "StrandArchiveLaw" 13 nse ∈ ma_wd) (hini : Cond.initialized "StrandArchive" ∈ ma_wd)
    (hd : decode mi.2.1 pcc = .ok (.invokevirtual idx, 3)) (hpc : ma_pcAt P kc = some pcc) (hph : ma_pcAt P kh = some pch) (hcat : ma_cat rest ≤ 8) (hrm : (ma_rm mi).frames ≤ 7 ∧ (ma_rm mi).cells ≤ 1 ∧ (ma_rm mi).slots ≤ 6 ∧ (ma_rm mi).locals ≤ 200)
    (hJ : ∀ r, ma_JS w0 Z p e s m args below meth cd l g false none mi P kh ls [.ref r] (0 + 1) (0 + 6) GS h) :
    ma_JF w0 Z rmL H locs p e s m args below meth cd l g false none mi P kc ls (av.reverse ++ .ref 2 :: rest) 0 0 GS h := by
  intro la pc hB hw hL hp T hT X
  cases hpc.symm.trans hp
  obtain ⟨cellB, hcB, hoB, hclB⟩ := wH_recv hB.2.2.2.2.2.2.2.2.1 hw
  have hown : s.vm.findClass "StrandArchiveLaw" = some m.cls := by rw [← hcls]; exact hB.2.2.2.2.2.2.2.1
  have hlen : ∀ sig, parseMethodDescriptor mj.1.desc = some sig → (av.map (ma_tv g)).length = sig.parameters.length := by
    intro sig hs
    rw [hs] at hdd
    rw [List.length_map, hav]
    exact (Option.some.inj hdd).symm
  have hstk : (F0 m pcc la ((av.reverse ++ Value.ref 2 :: rest).map (ma_tv g))).stack = (av.map (ma_tv g)).reverse ++ Value.ref g.2.2.1 :: rest.map (ma_tv g) := by
    show (av.reverse ++ Value.ref 2 :: rest).map (ma_tv g) = _
    simp [ma_tv, ma_ro, va_rf]
  have hcat2 : 2 * (F0 m pcc la ((av.reverse ++ Value.ref 2 :: rest).map (ma_tv g))).monitorRoom + ((rest.map (ma_tv g)).map fun v => v.category).sum ≤ 8 := by
    rw [ma_cat_eq]
    exact Nat.le_trans (Nat.le_of_eq (by show 2 * 0 + _ = _; omega)) hcat
  obtain ⟨x, U, X', hx2, ⟨ce, hce, hcc, hcv⟩, hkeep, come⟩ := callVT X hB.1 hM (Nat.le_refl _) hlo (Nat.le_of_ble_eq_true rfl) (Nat.le_of_ble_eq_true rfl) (fun w hw => ma_wBS hB hw) hcode (by rw [hmj]; exact hini) (own := "StrandArchiveLaw") (C := "StrandArchive") (index := idx) hown hlink hinst hsel ⟨by rw [hmj]; decide, by rw [hmj]; decide⟩ (by rw [hT]; exact hcB) hoB hclB
    (g := F0 m pcc la ((av.reverse ++ Value.ref 2 :: rest).map (ma_tv g))) rfl (hL.1.trans hB.2.2.1.symm) (argsL := av.map (ma_tv g)) (rest := rest.map (ma_tv g)) hlen hstk hcat2 (by rw [hB.2.1]; exact hd)
    (fun vm₁ hW₁ => ⟨by simp [ma_tv, ma_ro, va_rf], ⟨by show va_P _ _ _ T.heap; rw [hT]; exact hw.1, fun q => by cases q⟩, by show _ ≤ T.heap.size; rw [hT]; exact Nat.le_trans hB.2.2.2.2.2.2.2.2.2.1 hw.2.1.1, hB.2.2.2.2.2.2.2.2.1.moved (U := T.setVm vm₁) hW₁, hTW.move (U' := T.setVm vm₁) hW₁ (fun q c hq hc => by
      show T.heap[q]? = some c
      rw [hT, hw.2.1.2.1 q (Array.getElem?_eq_some_iff.mp hc).1 (Nat.not_le.mpr hq)]
      exact hc)⟩)
  obtain ⟨c3, cT, hc3, hcT, hasg⟩ := Cond.castable_spec (hTW.use (A := args) (w := .castable nse nse) (by simp [ow_nse, Jvm.Bundle.ownAtoms0]))
  cases hc3.symm.trans hcc
  obtain ⟨vm', XV, come2⟩ := caught_one X' x (g := { F0 m pcc la ((av.reverse ++ Value.ref 2 :: rest).map (ma_tv g)) with stack := rest.map (ma_tv g) }) rfl (own := "StrandArchiveLaw") (name := nse) hown (en := ⟨0, ee, pch, 13⟩) htab hcov (by show (13 : Nat) ≠ 0; decide) (ma_wBS hB hcl) hcT hce (by rw [hcv]; rfl) hasg
  have hTs : T.heap.size ≤ U.heap.size := by
    by_cases q : T.heap.size = 0
    · omega
    · have : T.heap[T.heap.size - 1]? = some (T.heap[T.heap.size - 1]'(by omega)) := by simp
      have := (Array.getElem?_eq_some_iff.mp (hkeep _ _ this)).1
      omega
  have keep : ∀ q, q < T.heap.size → U.heap[q]? = T.heap[q]? := fun q hq => by
    have : T.heap[q]? = some (T.heap[q]'hq) := by simp
    rw [this]
    exact hkeep _ _ this
  have hw' : ma_wH g false GS h s U.heap locs (0 + 1) := by
    refine ⟨hw.1.kept (fun k q hk2 => ?_), ⟨Nat.le_trans hw.2.1.1 (by rw [← hT]; exact hTs), fun q g1 g2 => ?_, hw.2.1.2.2⟩, fun q => by cases q⟩
    · rw [← hT]
      exact keep q.1 (by rw [hT]; exact (hw.1 k q hk2).lt)
    · rw [keep q (by rw [hT]; exact Nat.lt_of_lt_of_le g1 hw.2.1.1), hT]
      exact hw.2.1.2.1 q g1 g2
  have hbx : g.2.2.1 ≤ x := Nat.le_trans hB.2.2.2.2.2.2.2.2.2.1 (Nat.le_trans hw.2.1.1 (by rw [← hT]; exact hx2))
  obtain ⟨t2, a1, b1⟩ := hJ (x - g.2.2.1 + 2) U.heap locs la pch hB hw' hL hph (U.setVm vm') rfl (Stand_le XV hrm.1 hrm.2.1 hrm.2.2.1 hrm.2.2.2)
  refine ⟨t2, come.trans (come2.trans ?_), b1⟩
  have e9 : ([Value.ref (x - g.2.2.1 + 2)].map (ma_tv g)) = [Value.ref x] := by
    show [va_rf (some (g.2.2.1 + (x - g.2.2.1)))] = _
    rw [show g.2.2.1 + (x - g.2.2.1) = x by omega]
    rfl
  rw [e9] at a1
  exact a1
theorem ans_JF {post : ma_P} (hcls : mi.1.cls = "StrandArchiveLaw") (hM : ma_PM l g false mj (.ref 2 :: av) GS h post) (h16 : mj.2.2.2.2.2.1 = 1 ∧ mj.2.2.2.2.2.2 = 6) (hcode : Cond.code mj.1 mj.2.1 mj.2.2.1 mj.2.2.2.1 ∈ ma_wd) (hmj : mj.1.cls = "StrandArchive")
    (hlink : Cond.methodLink "StrandArchiveLaw" idx mj.1 ∈ ma_wd) (hinst : Cond.instanceMethod mj.1 ∈ ma_wd) (hsel : Cond.selects "StrandArchive" mj.1 mj.1 ∈ ma_wd) (hdd : (parseMethodDescriptor mj.1.desc).map (fun d => d.parameters.length) = some nn) (hav : av.length = nn) (hR : (ma_rm mj).frames + 1 ≤ rmL.frames ∧ 8 + (mj.2.2.1 + 11) + (ma_rm mj).locals ≤ rmL.locals) (hini : Cond.initialized "StrandArchive" ∈ ma_wd)
    (hd : decode mi.2.1 pcc = .ok (.invokevirtual idx, 3)) (hpc : ma_pcAt P kc = some pcc) (hpn : ma_pcAt P (kc + 1) = some (pcc + 3)) (hcat : ma_cat rest ≤ 8) (hrm : (ma_rm mi).frames ≤ 7 ∧ (ma_rm mi).cells ≤ 1 ∧ (ma_rm mi).slots ≤ 6 ∧ (ma_rm mi).locals ≤ 200)
    (hJ : ∀ v S' h', post v S' h' → ma_JS w0 Z p e s m args below meth cd l g false none mi P (kc + 1) ls (v.toList ++ rest) (0 + 1) (0 + 6) S' h') :
    ma_JF w0 Z rmL H locs p e s m args below meth cd l g false none mi P kc ls (av.reverse ++ .ref 2 :: rest) 0 0 GS h := by
  intro la pc hB hw hL hp T hT X
  cases hpc.symm.trans hp
  obtain ⟨y1, y2⟩ := h16
  have hrecv := wH_recv hB.2.2.2.2.2.2.2.2.1 hw
  have hpre := ma_pre hw hB.2.2.2.2.2.2.2.2.2.1 hB.2.2.2.2.2.2.2.2.1 (.ref 2 :: av)
  have hown : s.vm.findClass "StrandArchiveLaw" = some m.cls := by rw [← hcls]; exact hB.2.2.2.2.2.2.2.1
  have hstk : (F0 m pcc la ((av.reverse ++ Value.ref 2 :: rest).map (ma_tv g))).stack = (av.map (ma_tv g)).reverse ++ Value.ref g.2.2.1 :: rest.map (ma_tv g) := by
    show (av.reverse ++ Value.ref 2 :: rest).map (ma_tv g) = _
    simp [ma_tv, ma_ro, va_rf]
  have hcat2 : 2 * (F0 m pcc la ((av.reverse ++ Value.ref 2 :: rest).map (ma_tv g))).monitorRoom + ((rest.map (ma_tv g)).map fun v => v.category).sum ≤ 8 := by
    rw [ma_cat_eq]
    exact Nat.le_trans (Nat.le_of_eq (by show 2 * 0 + _ = _; omega)) hcat
  have hr := va_runV (l := l) (e := e) (R := rmL) (below := below) (meth := meth) (H := H) (locs := locs) (cells := 0) (slots := 0) (g := F0 m pcc la ((av.reverse ++ Value.ref 2 :: rest).map (ma_tv g))) (rest := rest.map (ma_tv g)) (As := av.map (ma_tv g)) (own := "StrandArchiveLaw") (C := "StrandArchive") (b := g.2.2.1) ⟨hB.1, hB.2.1, hB.2.2.1, hown, hB.2.2.2.2.2.2.1⟩ hM ⟨callB_of (bytes := mj.2.1) (maxL := mj.2.2.1) (ret := mj.2.2.2.1) nn hB.2.2.2.2.2.2.1 (ma_goodS hcode) rfl rfl rfl (by rw [hmj]; exact ma_wBS hB hini) (ma_wBS hB hlink) ⟨by rw [hmj]; decide, by rw [hmj]; decide, hdd⟩ hR, ma_wBS hB hinst, ma_wBS hB hsel⟩ ⟨hpre.1, hrecv, fun U hU hW => by
      have := hpre.2 U hU hW
      simpa [ma_tv, ma_ro, va_rf] using this⟩ rfl (by rw [List.length_map]; exact hav) hL.1 hstk hcat2 hd ⟨by rw [y1]; decide, by rw [y2]; decide⟩
  obtain ⟨v, st₀, t, T', L, h0, X', hLf, e1, e2, ⟨⟨v', S', h', hv, hpo, hat⟩, ⟨hz, hk⟩, hzz⟩, go⟩ := hr T hT X
  have hv' : v = v'.map (ma_tv g) := by cases hv; rfl
  subst hv'
  rw [h0] at hz hk
  rw [y1, y2] at X'
  have hw' : ma_wH g false S' h' s T'.heap (locs ++ L) (0 + 1) := by
    refine ⟨by rw [e1]; exact hat.1, ⟨Nat.le_trans hw.2.1.1 (by rw [e1]; exact hz), fun q g1 g2 => ?_, fun q hq => ?_⟩, fun q => by cases q⟩
    · rw [e1, hk q (Nat.lt_of_lt_of_le g1 hw.2.1.1) g2]
      exact hw.2.1.2.1 q g1 g2
    · rcases List.mem_append.mp hq with h | h
      · exact hw.2.1.2.2 q h
      · exact hLf q h
  obtain ⟨t2, a1, b1⟩ := hJ v' S' h' hpo T'.heap (locs ++ L) la (pcc + 3) hB hw' hL hpn T' rfl (Stand_le X' hrm.1 hrm.2.1 hrm.2.2.1 hrm.2.2.2)
  refine ⟨t2, go t2 ?_, b1⟩
  have e3 : (v'.toList ++ rest).map (ma_tv g) = (v'.map (ma_tv g)).toList ++ rest.map (ma_tv g) := by
    cases v' <;> simp
  rw [← e3]
  exact a1
end
