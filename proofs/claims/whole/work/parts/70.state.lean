/-! the state that both sides keep between calls -/
def sA (h : ma_H) : Prop := pt_ok h ∧ fd_ok h ∧ mt_ok h ∧ (∃ w, wf w ∧ bd h 173 w) ∧ ∃ w, wf w ∧ bd h 177 w
def sB (h : ma_H) (D : Nat → Nat) : Prop := (∀ i, i < 160 → D i < 256) ∧ ar h 3 160 D ∧ ar h 185 160 D
def sC (h : ma_H) (B : Nat) (T : Nat → Nat → Nat) : Prop := B ≤ 4 ∧ h.1 2 2 = nI (16 * B) ∧ h.1 184 2 = nI (16 * B) ∧ ∀ t, t < 16 * B → rz h (5 + t) 45 (T t) ∧ ∀ k, k < 45 → T t k < 4 ∧ h.1 186 (45 * t + k) = nI (T t k)
def sD (h : ma_H) (R : Nat) (N : Nat → Nat) (F : Nat → Nat → Nat) : Prop := R ≤ 90 ∧ h.1 2 4 = nI R ∧ h.1 184 4 = nI R ∧ (∀ k, k < 90 → 70 ≤ h.2.2 69 k ∧ h.2.2 69 k ≤ 159) ∧ (∀ i j, i < 90 → j < 90 → h.2.2 69 i = h.2.2 69 j → i = j) ∧ rd h R N F ∧ md h R N F
def sE (h : ma_H) (n : Nat) : Prop := n ≤ 160 ∧ h.1 175 5 = nI n ∧ h.1 184 7 = nI n ∧ h.1 175 6 = h.1 184 8 ∧ h.1 175 7 = h.1 184 9 ∧ (∀ i, i < n → h.1 181 i = h.1 189 i) ∧ ∀ b, b < bl n → h.1 182 b = h.1 190 b ∧ h.1 183 b = h.1 191 b
def ST (h : ma_H) : Prop := sA h ∧ (∃ D, sB h D) ∧ (∃ B T, sC h B T) ∧ (∃ R N F, sD h R N F) ∧ ∃ n, sE h n
section
variable {h h' : ma_H} {L : List Nat}
theorem fd_onr (ho : onr h h' L) (h1 : 161 ∉ L) (h2 : 162 ∉ L) (hf : fd_ok h) : fd_ok h' := by
  obtain ⟨f1, f2, f3, f4⟩ := hf
  exact ⟨by rw [ho.1]; exact f1, by rw [ho.1]; exact f2, fun i hi => by rw [ho.2.1 161 h1]; exact f3 i hi, fun a h0 ha => by rw [ho.2.1 162 h2]; exact f4 a h0 ha⟩
theorem mt_onr (ho : onr h h' L) (h1 : 199 ∉ L) (h2 : 200 ∉ L) (hf : mt_ok h) : mt_ok h' := ⟨fun i hi => by rw [ho.2.1 199 h1]; exact hf.1 i hi, fun a h0 ha => by rw [ho.2.1 200 h2]; exact hf.2 a h0 ha⟩
theorem sA_o (ho : onr h h' L) (h1 : ∀ a, a = 161 ∨ a = 162 ∨ a = 199 ∨ a = 200 ∨ a = 173 ∨ a = 174 ∨ a = 177 ∨ a = 178 → a ∉ L) (hs : sA h) : sA h' := by
  obtain ⟨s1, s2, s3, ⟨w, s4, s5⟩, v, s6, s7⟩ := hs
  exact ⟨onr_pt ho s1, fd_onr ho (h1 _ (by omega)) (h1 _ (by omega)) s2, mt_onr ho (h1 _ (by omega)) (h1 _ (by omega)) s3, ⟨w, s4, bd_onr ho (h1 _ (by omega)) (h1 _ (by omega)) s5⟩, v, s6, bd_onr ho (h1 _ (by omega)) (h1 _ (by omega)) s7⟩
theorem sB_o (ho : onr h h' L) (h1 : 3 ∉ L) (h2 : 185 ∉ L) {D : Nat → Nat} (hs : sB h D) : sB h' D := ⟨hs.1, ar_onr ho h1 hs.2.1, ar_onr ho h2 hs.2.2⟩
theorem sC_o (ho : onr h h' L) (h1 : ∀ a, 5 ≤ a → a ≤ 68 → a ∉ L) (h2 : 186 ∉ L) (e1 : h'.1 2 2 = h.1 2 2) (e2 : h'.1 184 2 = h.1 184 2) {B : Nat} {T : Nat → Nat → Nat} (hs : sC h B T) : sC h' B T := by
  obtain ⟨s1, s2, s3, s4⟩ := hs
  refine ⟨s1, by rw [e1]; exact s2, by rw [e2]; exact s3, fun t ht => ⟨rz_onr ho (h1 _ (by omega) (by omega)) (s4 t ht).1, fun k hk => ?_⟩⟩
  rw [ho.2.1 186 h2]
  exact (s4 t ht).2 k hk
theorem rd_onr (ho : onr h h' L) (hL : ∀ a, 70 ≤ a → a ≤ 159 → a ∉ L) {R : Nat} {N : Nat → Nat} {F : Nat → Nat → Nat} (hr : rd h R N F) : rd h' R N F := fun k hk => by
  obtain ⟨h1, h2, h3⟩ := hr k hk
  rw [show h'.2.2 69 k = h.2.2 69 k by rw [ho.1]]
  exact ⟨h1, h2, rf_onr ho (hL _ h1.1 h1.2) h3⟩
theorem md_onr (ho : onr h h' L) (h1 : 187 ∉ L) (h2 : 188 ∉ L) {R : Nat} {N : Nat → Nat} {F : Nat → Nat → Nat} (hr : md h R N F) : md h' R N F := fun k hk => by
  rw [ho.2.1 187 h1, ho.2.1 188 h2]
  exact hr k hk
theorem sD_o (ho : onr h h' L) (h1 : ∀ a, 70 ≤ a → a ≤ 159 → a ∉ L) (h2 : 187 ∉ L) (h3 : 188 ∉ L) (e1 : h'.1 2 4 = h.1 2 4) (e2 : h'.1 184 4 = h.1 184 4) {R : Nat} {N : Nat → Nat} {F : Nat → Nat → Nat} (hs : sD h R N F) : sD h' R N F := by
  obtain ⟨s1, s2, s3, s4, s5, s6, s7⟩ := hs
  exact ⟨s1, by rw [e1]; exact s2, by rw [e2]; exact s3, by rw [ho.1]; exact s4, by rw [ho.1]; exact s5, rd_onr ho h1 s6, md_onr ho h2 h3 s7⟩
theorem sE_o (ho : onr h h' L) (h1 : ∀ a, a = 175 ∨ a = 181 ∨ a = 182 ∨ a = 183 ∨ a = 189 ∨ a = 190 ∨ a = 191 → a ∉ L) (e1 : ∀ k, 7 ≤ k → k ≤ 9 → h'.1 184 k = h.1 184 k) {n : Nat} (hs : sE h n) : sE h' n := by
  unfold sE
  rw [ho.2.1 175 (h1 _ (by omega)), ho.2.1 181 (h1 _ (by omega)), ho.2.1 182 (h1 _ (by omega)), ho.2.1 183 (h1 _ (by omega)), ho.2.1 189 (h1 _ (by omega)), ho.2.1 190 (h1 _ (by omega)), ho.2.1 191 (h1 _ (by omega)), e1 7 (by omega) (by omega), e1 8 (by omega) (by omega), e1 9 (by omega) (by omega)]
  exact hs
/-- nothing that the state speaks of has changed -/
theorem ST_o (ho : onr h h' L) (hL : ∀ a, a ∈ L → a = 184 ∨ (192 ≤ a ∧ a ≤ 198) ∨ (163 ≤ a ∧ a ≤ 172)) (e : ∀ k, k ≠ 0 → h'.1 184 k = h.1 184 k) (hs : ST h) : ST h' := by
  obtain ⟨s1, ⟨D, s2⟩, ⟨B, T, s3⟩, ⟨R, N, F, s4⟩, n, s5⟩ := hs
  refine ⟨sA_o ho (fun a ha q => by have := hL a q; omega) s1, ⟨D, sB_o ho (fun q => by have := hL _ q; omega) (fun q => by have := hL _ q; omega) s2⟩, ⟨B, T, sC_o ho (fun a h1 h2 q => by have := hL a q; omega) (fun q => by have := hL _ q; omega) ?_ (e 2 (by decide)) s3⟩, ⟨R, N, F, sD_o ho (fun a h1 h2 q => by have := hL a q; omega) (fun q => by have := hL _ q; omega) (fun q => by have := hL _ q; omega) ?_ (e 4 (by decide)) s4⟩, n, sE_o ho (fun a ha q => by have := hL a q; omega) (fun k h1 h2 => e k (by omega)) s5⟩
  · rw [ho.2.1 2 (fun q => by have := hL _ q; omega)]
  · rw [ho.2.1 2 (fun q => by have := hL _ q; omega)]
end
theorem ST_0 {h : ma_H} (v : Int32) (hs : ST h) : ST (ma_uI h 184 0 v) := ST_o (L := [184]) (onr_uI1 h 0 v (by simp)) (fun a ha => by simp at ha; omega) (fun k hk => uI_ne (fun z => hk z.2)) hs
/-- a call of both sides: the same answer, and the state again -/
def PAIR (l : Launch) (g : ma_G) (x : Bool) (mx mm : ma_M) (ax am : List Value) (h : ma_H) : Prop := ∃ P1 : ma_P, ma_PM l g x mx ax GS h P1 ∧ ∀ r S1 h1, P1 r S1 h1 → (∃ w, r = some (.int w)) ∧ S1 = GS ∧ ∃ P2 : ma_P, ma_PM l g x mm am GS h1 P2 ∧ ∀ r2 S2 h2, P2 r2 S2 h2 → S2 = GS ∧ r2 = r ∧ ST h2
/-- the same of a call that answers nothing -/
def PAIR0 (l : Launch) (g : ma_G) (x : Bool) (mx mm : ma_M) (ax am : List Value) (h : ma_H) : Prop := ∃ P1 : ma_P, ma_PM l g x mx ax GS h P1 ∧ ∀ r S1 h1, P1 r S1 h1 → r = none ∧ S1 = GS ∧ ∃ P2 : ma_P, ma_PM l g x mm am GS h1 P2 ∧ ∀ r2 S2 h2, P2 r2 S2 h2 → S2 = GS ∧ r2 = r ∧ ST h2
section
variable (l : Launch) (g : ma_G) (x : Bool) {h : ma_H}
theorem pc_load (hs : ST h) (i b : Int32) : PAIR l g x me_Arc_load me_Mod_load [.ref 2, .int i, .int b] [.ref 184, .int i, .int b] h := by
  by_cases q : nI 0 ≤ i ∧ i ≤ nI 159
  · obtain ⟨k, hk, rfl⟩ := iR (by decide) q
    obtain ⟨j, hj, eb⟩ := i255 b
    refine ⟨_, m_load l g x hs.1.1 (show k < 160 by omega) eb, fun r S1 h1 hq => ?_⟩
    obtain ⟨rfl, rfl, rfl⟩ := hq
    have o1 := onr_uI1 h (L := [3]) (a := 3) k (nI j) (by simp)
    refine ⟨⟨_, rfl⟩, rfl, _, m_mload l g x (onr_pt o1 hs.1.1) (show k < 160 by omega) eb, fun r S1 h1 hq => ?_⟩
    obtain ⟨rfl, rfl, rfl⟩ := hq
    have o2 : onr h (ma_uI (ma_uI (ma_uI h 3 k (nI j)) 184 0 (nI 0)) 185 k (nI j)) [3, 184, 185] := onr_uI (onr_uI (onr_uI1 h _ _ (by simp)) _ _ (by simp)) _ _ (by simp)
    have e4 : ∀ m, m ≠ 0 → (ma_uI (ma_uI (ma_uI h 3 k (nI j)) 184 0 (nI 0)) 185 k (nI j)).1 184 m = h.1 184 m := fun m hm => by rw [uI_ne (by omega), uI_ne (fun z => hm z.2), uI_ne (by omega)]
    obtain ⟨s1, ⟨D, d1, d2, d3⟩, ⟨B, T, s3⟩, ⟨R, N, F, s4⟩, n, s5⟩ := hs
    refine ⟨rfl, rfl, sA_o o2 (fun a ha => by simp; omega) s1, ⟨up D k j, fun i hi => ?_, fun i hi => ?_, fun i hi => ?_⟩, ⟨B, T, sC_o o2 (fun a h1 h2 => by simp; omega) (by decide) (by rw [o2.2.1 2 (by decide)]) (e4 2 (by decide)) s3⟩, ⟨R, N, F, sD_o o2 (fun a h1 h2 => by simp; omega) (by decide) (by decide) (by rw [o2.2.1 2 (by decide)]) (e4 4 (by decide)) s4⟩, n, sE_o o2 (fun a ha => by simp; omega) (fun k h1 h2 => e4 k (by omega)) s5⟩
    · unfold up
      split
      · exact hj
      · exact d1 i hi
    · unfold up
      rw [uI_ne (by omega), uI_ne (by omega)]
      by_cases e : i = k
      · rw [if_pos e, e, uI_same]
      · rw [if_neg e, uI_ne (fun z => e z.2)]; exact d2 i hi
    · unfold up
      by_cases e : i = k
      · rw [if_pos e, e, uI_same]
      · rw [if_neg e, uI_ne (fun z => e z.2), uI_ne (by omega), uI_ne (by omega)]; exact d3 i hi
  · refine ⟨_, m_loadN l g x q, fun r S1 h1 hq => ?_⟩
    obtain ⟨rfl, rfl, rfl⟩ := hq
    refine ⟨⟨_, rfl⟩, rfl, _, m_mloadN l g x q, fun r S1 h1 hq => ?_⟩
    obtain ⟨rfl, rfl, rfl⟩ := hq
    exact ⟨rfl, rfl, ST_0 _ hs⟩
theorem pc_heap (hs : ST h) : PAIR l g x me_Arc_heap me_Mod_heap [.ref 2] [.ref 184] h := by
  refine ⟨_, m_heap l g x, fun r S1 h1 hq => ?_⟩
  obtain ⟨rfl, rfl, rfl⟩ := hq
  refine ⟨⟨_, rfl⟩, rfl, _, m_mheap l g x, fun r S1 h1 hq => ?_⟩
  obtain ⟨rfl, rfl, rfl⟩ := hq
  obtain ⟨R, N, F, s4⟩ := hs.2.2.2.1
  exact ⟨rfl, by rw [s4.2.1, s4.2.2.1], ST_0 _ hs⟩
theorem pc_clear (hs : ST h) : PAIR0 l g x me_Arc_clear me_Mod_clear [.ref 2] [.ref 184] h := by
  refine ⟨_, m_clear l g x, fun r S1 h1 hq => ?_⟩
  obtain ⟨rfl, rfl, rfl⟩ := hq
  refine ⟨rfl, rfl, _, m_mclear l g x, fun r S1 h1 hq => ?_⟩
  obtain ⟨rfl, rfl, rfl⟩ := hq
  have o2 : onr h (ma_uI (ma_uI (ma_uI h 2 4 (nI 0)) 184 0 (nI 0)) 184 4 (nI 0)) [2, 184] := onr_uI (onr_uI (onr_uI1 h _ _ (by simp)) _ _ (by simp)) _ _ (by simp)
  have e4 : ∀ m, m ≠ 0 → m ≠ 4 → (ma_uI (ma_uI (ma_uI h 2 4 (nI 0)) 184 0 (nI 0)) 184 4 (nI 0)).1 184 m = h.1 184 m := fun m h0 h4 => by rw [uI_ne (fun z => h4 z.2), uI_ne (fun z => h0 z.2), uI_ne (by omega)]
  obtain ⟨s1, ⟨D, s2⟩, ⟨B, T, s3⟩, ⟨R, N, F, s4⟩, n, s5⟩ := hs
  refine ⟨rfl, rfl, sA_o o2 (fun a ha => by simp; omega) s1, ⟨D, sB_o o2 (by decide) (by decide) s2⟩, ⟨B, T, sC_o o2 (fun a h1 h2 => by simp; omega) (by decide) ?_ (e4 2 (by decide) (by decide)) s3⟩, ⟨0, N, F, Nat.zero_le _, ?_, uI_same _ _ _ _, s4.2.2.2.1, s4.2.2.2.2.1, fun k hk => by omega, fun k hk => by omega⟩, n, sE_o o2 (fun a ha => by simp; omega) (fun k h1 h2 => e4 k (by omega) (by omega)) s5⟩
  · rw [uI_ne (by omega), uI_ne (by omega), uI_ne (by omega)]
  · rw [uI_ne (by omega), uI_ne (by omega), uI_same]
theorem pc_product (hs : ST h) (a b : Int32) : PAIR l g x me_Arc_product me_Mod_product [.ref 2, .int a, .int b] [.ref 184, .int a, .int b] h := by
  obtain ⟨i, hi, ea⟩ := i255 a
  obtain ⟨j, hj, eb⟩ := i255 b
  refine ⟨_, m_product l g x hs.1.1 hs.1.2.1 hi hj ea eb, fun r S1 h1 hq => ?_⟩
  obtain ⟨rfl, rfl, rfl⟩ := hq
  refine ⟨⟨_, rfl⟩, rfl, _, m_mproduct l g x hi hj ea eb, fun r S1 h1 hq => ?_⟩
  obtain ⟨rfl, rfl, rfl⟩ := hq
  exact ⟨rfl, rfl, ST_0 _ hs⟩
theorem pc_count (hs : ST h) (w : Int32) : PAIR l g x me_Arc_count me_Mod_count [.ref 2, .int w] [.ref 184, .int w] h := by
  refine ⟨_, m_count l g x hs.1.1 w, fun r S1 h1 hq => ?_⟩
  obtain ⟨rfl, rfl, rfl⟩ := hq
  refine ⟨⟨_, rfl⟩, rfl, _, m_mcount l g x w, fun r S1 h1 hq => ?_⟩
  obtain ⟨rfl, rfl, rfl⟩ := hq
  obtain ⟨n, s1, s2, s3, s4, s5, -⟩ := hs.2.2.2.2
  exact ⟨rfl, by rw [s2, s3, s4, s5], ST_0 _ hs⟩
theorem pc_letter (hs : ST h) (t i : Int32) : PAIR l g x me_Arc_letter me_Mod_letter [.ref 2, .int t, .int i] [.ref 184, .int t, .int i] h := by
  obtain ⟨B, T, b1, b2, b3, b4⟩ := hs.2.2.1
  by_cases q : (nI 0 ≤ t ∧ t < nI (16 * B)) ∧ nI 0 ≤ i ∧ i ≤ nI 44
  · obtain ⟨k, hk, rfl⟩ := iW (by omega) q.1
    obtain ⟨j, hj, rfl⟩ := iR (by decide) q.2
    refine ⟨_, m_letter l g x hs.1.1 b2 (by omega) hk (show j < 45 by omega) (b4 k hk).1, fun r S1 h1 hq => ?_⟩
    obtain ⟨rfl, rfl, rfl⟩ := hq
    refine ⟨⟨_, rfl⟩, rfl, _, m_mletter l g x hs.1.1 (T := T k) (show 16 * B ≤ 64 by omega) b3 hk (show j < 45 by omega) ((b4 k hk).2 j (by omega)).2, fun r S1 h1 hq => ?_⟩
    obtain ⟨rfl, rfl, rfl⟩ := hq
    exact ⟨rfl, rfl, ST_0 _ hs⟩
  · refine ⟨_, m_letterN l g x b2 q, fun r S1 h1 hq => ?_⟩
    obtain ⟨rfl, rfl, rfl⟩ := hq
    refine ⟨⟨_, rfl⟩, rfl, _, m_mletterN l g x (show 16 * B ≤ 64 by omega) b3 q, fun r S1 h1 hq => ?_⟩
    obtain ⟨rfl, rfl, rfl⟩ := hq
    exact ⟨rfl, rfl, ST_0 _ hs⟩
end
