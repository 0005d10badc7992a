/-! what makes: runs, calls, the cells so far -/
theorem ma_runX {l : Launch} {g : ma_G} {x : Bool} {scr : Option (Nat × (Nat → Int32))} {mi : ma_M} {P : List ma_E} {Q : ma_P} {mc ms : Nat} (hok : ma_ok mi P) (h1 : mi.2.2.2.2.2.1 = mc) (h2 : mi.2.2.2.2.2.2 = ms) (cuts : List Nat) (n : Nat) {k : Nat} {ls : List (Option Value)} {st : List Value} {c sl : Nat} {S : ma_S} {h : ma_H} (hx : ma_go x scr mc ms (ma_or l g x) P Q (ma_wp x scr mc ms (ma_or l g x) P Q cuts (ma_J l g x scr mi P Q) n) k ls st c sl S h) : ma_J l g x scr mi P Q k ls st c sl S h := by
  subst h1
  subst h2
  exact ma_run hok cuts n hx
theorem ma_callX {l : Launch} {g : ma_G} {x : Bool} {mc ms t mc' ms' : Nat} {mi : ma_M} {av rest : List Value} {c sl : Nat} {S : ma_S} {h : ma_H} {post : ma_P} {F : List Value → Nat → Nat → ma_S → ma_H → Prop} (hm : ma_mt[t]? = some mi) (e1 : mi.2.2.2.2.2.1 = mc') (e2 : mi.2.2.2.2.2.2 = ms') (hcat : ma_cat rest ≤ 8) (hc : c + mc' ≤ mc) (hs : sl + ms' ≤ ms) (hM : ma_PM l g x mi av S h post) (hF : ∀ v S' h', post v S' h' → F (v.toList ++ rest) (c + mc') (sl + ms') S' h') : ma_call mc ms (ma_or l g x) t av rest c sl S h F :=
  ⟨hcat, mc', ms', _, ⟨mi, hm, e1, e2, hM⟩, hc, hs, hF⟩
theorem nI_inj {a b : Nat} (ha : a ≤ 100000) (hb : b ≤ 100000) (h : nI a = nI b) : a = b := (nI_eq (by omega) (by omega)).mp h
theorem na_iff {N0 : Nat} {R : Nat → Prop} (h : N0 ≤ 100000) : (∃ N, nI N0 = nI N ∧ N ≤ 100000 ∧ R N) ↔ R N0 :=
  ⟨fun ⟨N, e, hN, r⟩ => by rw [nI_inj h hN e]; exact r, fun r => ⟨N0, rfl, h, r⟩⟩
theorem ex_inl (n : Nat) : (∃ ci, (some (.inl n) : Option (Nat ⊕ (FieldType × Nat))) = some (.inl ci)) ↔ True := ⟨fun _ => trivial, fun _ => ⟨n, rfl⟩⟩
theorem tk_len {k : Nat} (h : k ≤ 200) : (GS.take k).length = k := by
  rw [List.length_take, gs_len]
  omega
theorem tk_sh {k a : Nat} (h : a < k + 2) : ma_sh (GS.take k) a = ma_sh GS a := by
  match a, h with
  | 0, _ => rfl
  | 1, _ => rfl
  | a + 2, h =>
    show (GS.take k)[a]? = GS[a]?
    rw [List.getElem?_take, if_pos (by omega)]
theorem tk_ap {k : Nat} {s : Nat ⊕ (FieldType × Nat)} (h : ma_sh GS (k + 2) = some s) : GS.take k ++ [s] = GS.take (k + 1) := by
  have : GS[k]? = some s := h
  rw [List.take_add_one, this]
  rfl
theorem zI (h : ma_H) (a b k : Nat) : (ma_z h a).1 b k = if b = a then 0 else h.1 b k := rfl
theorem zL (h : ma_H) (a b k : Nat) : (ma_z h a).2.1 b k = if b = a then 0 else h.2.1 b k := rfl
theorem zR (h : ma_H) (a b k : Nat) : (ma_z h a).2.2 b k = if b = a then 0 else h.2.2 b k := rfl
theorem uR_1 (h : ma_H) (a k v : Nat) : (ma_uR h a k v).1 = h.1 := rfl
theorem uR_2 (h : ma_H) (a k v : Nat) : (ma_uR h a k v).2.1 = h.2.1 := rfl
theorem uL_1 (h : ma_H) (a k : Nat) (v : Int64) : (ma_uL h a k v).1 = h.1 := rfl
theorem uL_2 (h : ma_H) (a k : Nat) (v : Int64) : (ma_uL h a k v).2.2 = h.2.2 := rfl
/-- the pointers as they are made -/
def pt0 (a k : Nat) : Nat := if a = 69 then (if k < 90 then 70 + k else 0) else pt_R a k
theorem pt_hi (a k : Nat) (h : 22 ≤ k) (h4 : a ≠ 4) : pt_R a k = 0 := by
  obtain ⟨j, rfl⟩ : ∃ j, k = j + 22 := ⟨k - 22, by omega⟩
  unfold pt_R
  split <;> first | rfl | omega
theorem pt_row (a k : Nat) (h : 5 ≤ a) (h2 : a < 160) : pt_R a k = 0 := by
  unfold pt_R
  split <;> first | rfl | omega
/-- only the cells A have changed -/
def mk (A : Nat → Prop) (h h' : ma_H) : Prop := ∀ a, ¬ A a → h'.1 a = h.1 a ∧ h'.2.1 a = h.2.1 a ∧ h'.2.2 a = h.2.2 a
theorem mk_rf (A : Nat → Prop) (h : ma_H) : mk A h h := fun _ _ => ⟨rfl, rfl, rfl⟩
theorem mk_tr {A B : Nat → Prop} {h h1 h2 : ma_H} (p : mk A h h1) (q : mk B h1 h2) : mk (fun a => A a ∨ B a) h h2 := fun a ha => by
  obtain ⟨p1, p2, p3⟩ := p a (fun z => ha (Or.inl z))
  obtain ⟨q1, q2, q3⟩ := q a (fun z => ha (Or.inr z))
  exact ⟨q1.trans p1, q2.trans p2, q3.trans p3⟩
theorem mk_mo {A B : Nat → Prop} {h h1 : ma_H} (p : mk A h h1) (hAB : ∀ a, A a → B a) : mk B h h1 := fun a ha => p a (fun z => ha (hAB a z))
theorem mk_uI (h : ma_H) (a k : Nat) (v : Int32) : mk (fun b => b = a) h (ma_uI h a k v) := fun b hb => ⟨by funext j; exact uI_ne (fun z => hb z.1), rfl, rfl⟩
theorem mk_uL (h : ma_H) (a k : Nat) (v : Int64) : mk (fun b => b = a) h (ma_uL h a k v) := fun b hb => ⟨rfl, by funext j; exact uL_ne (fun z => hb z.1), rfl⟩
theorem mk_uR (h : ma_H) (a k v : Nat) : mk (fun b => b = a) h (ma_uR h a k v) := fun b hb => ⟨rfl, rfl, by funext j; rw [uR_e, if_neg (fun z => hb z.1)]⟩
theorem mk_z (h : ma_H) (a : Nat) : mk (fun b => b = a) h (ma_z h a) := fun b hb => ⟨by funext j; rw [zI, if_neg hb], by funext j; rw [zL, if_neg hb], by funext j; rw [zR, if_neg hb]⟩
theorem m_Row_init (l : Launch) (g : ma_G) (x : Bool) {S : ma_S} {h : ma_H} {a : Nat} (ha : ma_sh S a = some (.inl 0)) : ma_PM l g x me_Row_init [.ref a] S h (fun v S' h' => v = none ∧ S' = S ∧ h' = ma_uI (ma_uL (ma_uL h a 0 (lN 0)) a 1 (lN 0)) a 2 (nI 0)) := by
  refine ma_PM_of (P := pr_Row_init) (by decide) rfl (Nat.le_of_ble_eq_true rfl) ?_
  show ma_J l g x none me_Row_init pr_Row_init _ 0 [some (.ref a)] [] 0 0 S h
  refine ma_run0 po_Row_init rfl rfl [] 60 ?_
  simp only [pa_Row_init, ma_go, ev_A, ev_B, ev_C, ev_D, Nat.reduceAdd, List.mem_cons, List.not_mem_nil, or_false, or_true, true_or, false_or, or_self, Nat.reduceEqDiff, reduceCtorEq, ↓reduceIte, List.length_cons, List.length_nil, Nat.reduceLT, Nat.reduceLeDiff, Nat.le_refl, implies_true, true_and, and_true, Option.toList, List.cons_append, List.nil_append, ha, ex_inl]
abbrev rJ (l : Launch) (g : ma_G) (mi : ma_M) (Q : ma_P) : ma_K := ma_J l g true none mi pr_Arc_newRows Q
theorem nr_all (l : Launch) (g : ma_G) {mi : ma_M} {Q : ma_P} {p n : Nat} (hok : ma_ok mi pr_Arc_newRows) (h1 : mi.2.2.2.2.2.1 = n + 1) (h2 : mi.2.2.2.2.2.2 = 4 * n) (hn : n ≤ 100) (hp : p + 1 + n ≤ 200) (hA : ma_sh GS (p + 2) = some (.inr (.object ma_row, n))) (hR : ∀ k, k < n → ma_sh GS (p + 1 + k + 2) = some (.inl 0)) {h : ma_H}
    (hQ : ∀ H, mk (fun a => p + 2 ≤ a ∧ a ≤ p + 2 + n) h H → (∀ j, H.2.2 (p + 2) j = if j < n then p + 3 + j else 0) → (∀ a, p + 2 < a → a ≤ p + 2 + n → ∀ j, H.2.2 a j = 0) → Q (some (.ref (p + 2))) (GS.take (p + 1 + n)) H) : rJ l g mi Q 0 [some (.int (nI n)), none, none] [] 0 0 (GS.take p) h := by
  have loop : ∀ m k H, k + m = n → mk (fun a => p + 2 ≤ a ∧ a ≤ p + 2 + k) h H → (∀ j, H.2.2 (p + 2) j = if j < k then p + 3 + j else 0) → (∀ a, p + 2 < a → a ≤ p + 2 + k → ∀ j, H.2.2 a j = 0) → rJ l g mi Q 5 [some (.int (nI n)), some (.ref (p + 2)), some (.int (nI k))] [] (1 + k) (n + 3 * k) (GS.take (p + 1 + k)) H := by
    intro m
    induction m with
    | zero =>
      intro k H hk hm hj ha
      have e : k = n := by omega
      subst e
      have t := hQ H hm hj ha
      refine ma_runX hok h1 h2 [5, 8] 60 ?_
      simp only [pa_Arc_newRows, ma_go, ev_A, ev_B, ev_C, ev_D, Nat.reduceAdd, List.mem_cons, List.not_mem_nil, or_false, or_true, true_or, false_or, or_self, Nat.reduceEqDiff, reduceCtorEq, ↓reduceIte, List.length_cons, List.length_nil, Nat.reduceLT, Nat.reduceLeDiff, Nat.le_refl, implies_true, true_and, and_true, Option.toList, List.cons_append, List.nil_append]
      exact ⟨fun _ => ⟨by omega, by omega, by omega, t⟩, fun q => absurd (nI_le (Nat.le_refl _) (by omega)) q⟩
    | succ m ih =>
      intro k H hk hm hj ha
      have hl : (GS.take (p + 1 + k)).length = p + 1 + k := tk_len (by omega)
      have hS : GS.take (p + 1 + k) ++ [.inl 0] = GS.take (p + 1 + k + 1) := tk_ap (hR k (by omega))
      have hs : ma_sh (GS.take (p + 1 + k + 1)) (p + 1 + k + 2) = some (.inl 0) := by rw [tk_sh (by omega)]; exact hR k (by omega)
      have hq : ma_sh (GS.take (p + 1 + k + 1)) (p + 2) = some (.inr (.object ma_row, n)) := by rw [tk_sh (by omega)]; exact hA
      refine ma_runX hok h1 h2 [5, 16] 60 ?_
      simp only [pa_Arc_newRows, ma_go, ev_A, ev_B, ev_C, ev_D, Nat.reduceAdd, List.mem_cons, List.not_mem_nil, or_false, or_true, true_or, false_or, or_self, Nat.reduceEqDiff, reduceCtorEq, ↓reduceIte, List.length_cons, List.length_nil, Nat.reduceLT, Nat.reduceLeDiff, Nat.le_refl, implies_true, true_and, and_true, Option.toList, List.cons_append, List.nil_append, hl, hS, hs, ex_inl]
      refine ⟨fun q => absurd q (nI_ge (by omega) (by omega)), fun _ => ⟨by omega, by omega, ?_⟩⟩
      refine ma_callP mt_Row_init rfl rfl (Nat.le_of_ble_eq_true rfl) (by omega) (by omega) (m_Row_init l g true hs) ?_
      intro v S' H2 hpost
      obtain ⟨rfl, rfl, rfl⟩ := hpost
      simp only [pa_Arc_newRows, ma_go, ev_A, ev_B, ev_C, ev_D, Nat.reduceAdd, List.mem_cons, List.not_mem_nil, or_false, or_true, true_or, false_or, or_self, Nat.reduceEqDiff, reduceCtorEq, ↓reduceIte, List.length_cons, List.length_nil, Nat.reduceLT, Nat.reduceLeDiff, Nat.le_refl, implies_true, true_and, and_true, Option.toList, List.cons_append, List.nil_append, hs]
      rw [nI_clamp (n := k) (by omega), nx_1]
      refine ⟨ma_in_of hq (by omega) (by omega), ?_⟩
      have st : ∀ H0 : ma_H, H0 = ma_uR (ma_uI (ma_uL (ma_uL (ma_z H (p + 1 + k + 2)) (p + 1 + k + 2) 0 (lN 0)) (p + 1 + k + 2) 1 (lN 0)) (p + 1 + k + 2) 2 (nI 0)) (p + 2) k (p + 1 + k + 2) → mk (fun a => p + 2 ≤ a ∧ a ≤ p + 2 + (k + 1)) h H0 ∧ (∀ j, H0.2.2 (p + 2) j = if j < k + 1 then p + 3 + j else 0) ∧ ∀ a, p + 2 < a → a ≤ p + 2 + (k + 1) → ∀ j, H0.2.2 a j = 0 := by
        intro H0 e0
        subst e0
        refine ⟨?_, fun j => ?_, fun a a1 a2 j => ?_⟩
        · refine mk_mo (mk_tr hm (mk_tr (mk_z _ _) (mk_tr (mk_uL _ _ _ _) (mk_tr (mk_uL _ _ _ _) (mk_tr (mk_uI _ _ _ _) (mk_uR _ _ _ _)))))) (fun a ha => by omega)
        · rw [uR_e]
          by_cases e : j = k
          · rw [if_pos ⟨rfl, e⟩, if_pos (by omega)]; omega
          · rw [if_neg (fun z => e z.2)]
            show (ma_z H (p + 1 + k + 2)).2.2 (p + 2) j = _
            rw [zR, if_neg (by omega), hj j]
            by_cases q : j < k
            · rw [if_pos q, if_pos (by omega)]
            · rw [if_neg q, if_neg (by omega)]
        · rw [uR_e, if_neg (by omega)]
          show (ma_z H (p + 1 + k + 2)).2.2 a j = 0
          rw [zR]
          by_cases e : a = p + 1 + k + 2
          · rw [if_pos e]
          · rw [if_neg e]; exact ha a a1 (by omega) j
      obtain ⟨s1, s2, s3⟩ := st _ rfl
      have i2 := ih (k + 1) _ (by omega) s1 s2 s3
      rw [show 1 + (k + 1) = 1 + k + 1 by omega, show n + 3 * (k + 1) = n + 3 * k + 3 by omega] at i2
      exact i2
  have hl : (GS.take p).length = p := tk_len (by omega)
  have hS : GS.take p ++ [.inr (.object ma_row, n)] = GS.take (p + 1) := tk_ap hA
  refine ma_runX hok h1 h2 [5] 60 ?_
  simp only [pa_Arc_newRows, ma_go, ev_A, ev_B, ev_C, ev_D, Nat.reduceAdd, List.mem_cons, List.not_mem_nil, or_false, or_true, true_or, false_or, or_self, Nat.reduceEqDiff, reduceCtorEq, ↓reduceIte, List.length_cons, List.length_nil, Nat.reduceLT, Nat.reduceLeDiff, Nat.le_refl, implies_true, true_and, and_true, Option.toList, List.cons_append, List.nil_append, hl]
  refine ⟨n, rfl, by omega, by omega, ?_⟩
  rw [hS]
  have i2 := loop n 0 (ma_z h (p + 2)) (by omega) (mk_mo (mk_z _ _) (fun a ha => by omega)) (fun j => by rw [zR, if_pos rfl, if_neg (by omega)]) (fun a a1 a2 => by omega)
  rw [show 1 + 0 = 0 + 1 from rfl, show n + 3 * 0 = 0 + n by omega] at i2
  exact i2
theorem po_newRows90 : ma_ok me_Arc_newRows90 pr_Arc_newRows := ma_ok_of (by decide +kernel)
theorem m_newRows (l : Launch) (g : ma_G) {h : ma_H} : ma_PM l g true me_Arc_newRows [.int (nI 64)] (GS.take 2) h (fun v S' h' => v = some (.ref 4) ∧ S' = GS.take 67 ∧ mk (fun a => 4 ≤ a ∧ a ≤ 68) h h' ∧ ∀ a, 4 ≤ a → a ≤ 68 → ∀ j, h'.2.2 a j = pt0 a j) := by
  refine ma_PM_of (P := pr_Arc_newRows) (by decide) rfl (Nat.le_of_ble_eq_true rfl) ?_
  refine nr_all (p := 2) (n := 64) l g po_Arc_newRows rfl rfl (by decide) (by decide) gs_4 (fun k hk => gs_row (by omega)) (fun H m1 m2 m3 => ⟨rfl, rfl, m1, fun a a1 a2 j => ?_⟩)
  by_cases e : a = 4
  · subst e
    rw [m2 j]
    rfl
  · rw [m3 a (by omega) a2 j]
    unfold pt0
    rw [if_neg (by omega), pt_row a j (by omega) (by omega)]
theorem m_newRows90 (l : Launch) (g : ma_G) {h : ma_H} : ma_PM l g true me_Arc_newRows90 [.int (nI 90)] (GS.take 67) h (fun v S' h' => v = some (.ref 69) ∧ S' = GS.take 158 ∧ mk (fun a => 69 ≤ a ∧ a ≤ 159) h h' ∧ ∀ a, 69 ≤ a → a ≤ 159 → ∀ j, h'.2.2 a j = pt0 a j) := by
  refine ma_PM_of (P := pr_Arc_newRows) (by decide) rfl (Nat.le_of_ble_eq_true rfl) ?_
  refine nr_all (p := 67) (n := 90) l g po_newRows90 rfl rfl (by decide) (by decide) gs_69 (fun k hk => gs_row (by omega)) (fun H m1 m2 m3 => ⟨rfl, rfl, m1, fun a a1 a2 j => ?_⟩)
  by_cases e : a = 69
  · subst e
    rw [m2 j]
    rfl
  · rw [m3 a (by omega) a2 j]
    unfold pt0
    rw [if_neg e, pt_row a j (by omega) (by omega)]
