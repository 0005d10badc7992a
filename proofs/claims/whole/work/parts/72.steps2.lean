/-! shuffle, write, decode: both sides -/
theorem s69_rf {h H : ma_H} {p : Nat → Nat} (hs : s69 h H p) {a n : Nat} {f : Nat → Nat} (hr : rf h a n f) : rf H a n f := by
  unfold rf
  rw [hs.1, hs.2.1]
  exact hr
theorem s69_rz {h H : ma_H} {p : Nat → Nat} (hs : s69 h H p) {a n : Nat} {f : Nat → Nat} (hr : rz h a n f) : rz H a n f := by
  unfold rz
  rw [hs.1, hs.2.1]
  exact hr
section
variable (l : Launch) (g : ma_G) (x : Bool) {h : ma_H}
theorem pc_shuffle (hs : ST h) (s : Int32) : PAIR l g x me_Arc_shuffle me_Mod_shuffle [.ref 2, .int s] [.ref 184, .int s] h := by
  by_cases q : nI 0 ≤ s
  · obtain ⟨k, hk, rfl⟩ := iP q
    obtain ⟨⟨s1, s2, s3, ⟨w, s4, s5⟩, w2, s6, s7⟩, ⟨D, b1, b2, b3⟩, ⟨B, T, c1, c2, c3, c4⟩, ⟨R, N, F, d1, d2, d3, d4, d5, d6, d7⟩, n, e5⟩ := hs
    refine ⟨_, m_shuffle l g x s1 d1 hk d2 d4, fun r S1 h1 hq => ?_⟩
    obtain ⟨rfl, rfl, h69⟩ := hq
    have pm0 : pm (sh (R - 1) k (fun i => i)) R := pm_sh _ _ _ (by omega) (pm_id R)
    have z1 : h1.1 = h.1 := h69.1
    have m1 : md h1 R N F := fun i hi => by rw [z1]; exact d7 i hi
    refine ⟨⟨_, rfl⟩, rfl, _, m_mshuffle l g x (s69_pt h69 s1) d1 hk (by rw [z1]; exact d3) m1, fun r S1 h2 hq => ?_⟩
    obtain ⟨rfl, rfl, o2, e2, m2⟩ := hq
    generalize sh (R - 1) k (fun i => i) = p at h69 pm0 m2
    have p90 : ∀ i, i < 90 → p i < 90 := fun i hi => by
      by_cases z : i < R
      · have := pm0.1 i z; omega
      · rw [pm0.2.1 i (by omega)]; exact hi
    have g4 : ∀ i, i < 90 → 70 ≤ h1.2.2 69 i ∧ h1.2.2 69 i ≤ 159 := fun i hi => by rw [h69.2.2.2 i hi]; exact d4 _ (p90 i hi)
    have o3 := onr_on o2
    have pp : h2.2.2 = h1.2.2 := o3.1
    have A1 : sA h1 := ⟨s69_pt h69 s1, ⟨by rw [h69.2.2.1 160 (by decide)]; exact s2.1, by rw [h69.2.2.1 160 (by decide)]; exact s2.2.1, fun i hi => by rw [z1]; exact s2.2.2.1 i hi, fun a h0 ha => by rw [z1]; exact s2.2.2.2 a h0 ha⟩, ⟨fun i hi => by rw [z1]; exact s3.1 i hi, fun a h0 ha => by rw [z1]; exact s3.2 a h0 ha⟩, ⟨w, s4, by unfold bd ar; rw [z1]; exact s5⟩, w2, s6, by unfold bd ar; rw [z1]; exact s7⟩
    have B1 : sB h1 D := ⟨b1, by unfold ar; rw [z1]; exact b2, by unfold ar; rw [z1]; exact b3⟩
    have C1 : sC h1 B T := ⟨c1, by rw [z1]; exact c2, by rw [z1]; exact c3, fun t ht => ⟨s69_rz h69 (c4 t ht).1, by rw [z1]; exact (c4 t ht).2⟩⟩
    have E1 : sE h1 n := by unfold sE; rw [z1]; exact e5
    have r1 : rd h1 R (fun i => N (p i)) (fun i => F (p i)) := fun i hi => by
      obtain ⟨y1, y2, y3⟩ := d6 (p i) (pm0.1 i hi)
      rw [h69.2.2.2 i (by omega)]
      exact ⟨y1, y2, s69_rf h69 y3⟩
    refine ⟨rfl, rfl, sA_o o3 (fun a ha => by simp; omega) A1, ⟨D, sB_o o3 (by decide) (by decide) B1⟩, ⟨B, T, sC_o o3 (fun a h1 h2 => by simp; omega) (by decide) (by rw [o3.2.1 2 (by decide)]) (e2 2 (by decide)) C1⟩, ⟨R, _, _, d1, ?_, ?_, by rw [pp]; exact g4, fun i j hi hj e => ?_, rd_onr o3 (fun a h1 h2 => by simp; omega) r1, m2⟩, n, sE_o o3 (fun a ha => by simp; omega) (fun k h1 h2 => e2 k (by omega)) E1⟩
    · rw [o3.2.1 2 (by decide), z1]; exact d2
    · rw [e2 4 (by decide), z1]; exact d3
    · rw [pp, h69.2.2.2 i hi, h69.2.2.2 j hj] at e
      exact pm0.2.2 i j (d5 _ _ (p90 i hi) (p90 j hj) e)
  · refine ⟨_, m_shuffleN l g x q, fun r S1 h1 hq => ?_⟩
    obtain ⟨rfl, rfl, rfl⟩ := hq
    refine ⟨⟨_, rfl⟩, rfl, _, m_mshuffleN l g x q, fun r S1 h1 hq => ?_⟩
    obtain ⟨rfl, rfl, rfl⟩ := hq
    exact ⟨rfl, rfl, ST_0 _ hs⟩
theorem pc_write (hs : ST h) (s : Int32) : PAIR l g x me_Arc_write me_Mod_write [.ref 2, .int s] [.ref 184, .int s] h := by
  by_cases q : nI 1 ≤ s ∧ s ≤ nI 160
  · obtain ⟨k, hk, rfl⟩ := iR (i := s) (m := 160) (by decide) ⟨Int32.le_trans (by decide +kernel) q.1, q.2⟩
    have k1 : 1 ≤ k := (nI_leI (by omega) (by omega)).mp q.1
    obtain ⟨⟨s1, s2, s3, ⟨w, s4, s5⟩, w2, s6, s7⟩, ⟨D, b1, b2, b3⟩, -, ⟨R, N, F, d1, d2, d3, d4, d5, d6, d7⟩, n, e5⟩ := hs
    have hB : bl k ≤ 4 := by unfold bl; omega
    refine ⟨_, m_write l g x s1 s2 ⟨k1, hk⟩ b1 b2 s4 s5, fun r S1 h1 hq => ?_⟩
    obtain ⟨rfl, rfl, o1, x1, x2, x3, x4⟩ := hq
    have nr : ∀ a, ¬ (a = 2 ∨ (164 ≤ a ∧ a ≤ 174) ∨ (5 ≤ a ∧ a < 69)) → a ∉ RL := fun a ha z => ha (RL_in.mp z)
    refine ⟨⟨_, rfl⟩, rfl, _, m_mwrite l g x (onr_pt o1 s1) (mt_onr o1 (nr _ (by omega)) (nr _ (by omega)) s3) ⟨k1, hk⟩ b1 (ar_onr o1 (nr _ (by omega)) b3), fun r S1 h2 hq => ?_⟩
    obtain ⟨rfl, rfl, o2, y1, y2, y3, y4⟩ := hq
    have o3 := onr_on o2
    have e2 : h2.1 2 = h1.1 2 := o3.2.1 2 (by decide)
    have o4 : onr h h2 (RL ++ [184, 186, 192, 195, 196, 197, 198]) := onr_tr (onr_mo o1 (fun a ha => List.mem_append_left _ ha)) (onr_mo o3 (fun a ha => List.mem_append_right _ ha))
    have nr2 : ∀ a, ¬ (a = 2 ∨ (164 ≤ a ∧ a ≤ 174) ∨ (5 ≤ a ∧ a < 69)) → a ≠ 184 → a ≠ 186 → a ≠ 192 → (a < 195 ∨ 198 < a) → a ∉ RL ++ [184, 186, 192, 195, 196, 197, 198] := fun a ha h1 h2 h3 h4 z => by
      rcases List.mem_append.mp z with z | z
      · exact nr a ha z
      · simp at z; omega
    obtain ⟨w3, x31, x32⟩ := x3
    have e184 : h1.1 184 = h.1 184 := o1.2.1 184 (nr _ (by omega))
    refine ⟨rfl, rfl, ⟨onr_pt o4 s1, fd_onr o4 (nr2 _ (by omega) (by omega) (by omega) (by omega) (by omega)) (nr2 _ (by omega) (by omega) (by omega) (by omega) (by omega)) s2, mt_onr o4 (nr2 _ (by omega) (by omega) (by omega) (by omega) (by omega)) (nr2 _ (by omega) (by omega) (by omega) (by omega) (by omega)) s3, ⟨w3, x31, bd_onr o3 (by decide) (by decide) x32⟩, w2, s6, bd_onr o4 (nr2 _ (by omega) (by omega) (by omega) (by omega) (by omega)) (nr2 _ (by omega) (by omega) (by omega) (by omega) (by omega)) s7⟩, ⟨D, b1, ar_onr o4 (nr2 _ (by omega) (by omega) (by omega) (by omega) (by omega)) b2, ar_onr o4 (nr2 _ (by omega) (by omega) (by omega) (by omega) (by omega)) b3⟩, ⟨bl k, TT D k, hB, by rw [e2]; exact x1, y1, fun t ht => ⟨rz_onr o3 (by simp; omega) (x4 t ht), fun j hj => ⟨TT_lt D k t j, y4 t ht j hj⟩⟩⟩, ⟨0, N, F, Nat.zero_le _, by rw [e2]; exact x2, y2, by rw [o4.1]; exact d4, by rw [o4.1]; exact d5, fun i hi => by omega, fun i hi => by omega⟩, n, sE_o o4 (fun a ha => nr2 _ (by omega) (by omega) (by omega) (by omega) (by omega)) (fun k h1 h2 => by rw [y3 k (by omega) (by omega) (by omega), e184]) e5⟩
  · refine ⟨_, m_writeN l g x q, fun r S1 h1 hq => ?_⟩
    obtain ⟨rfl, rfl, rfl⟩ := hq
    refine ⟨⟨_, rfl⟩, rfl, _, m_mwriteN l g x q, fun r S1 h1 hq => ?_⟩
    obtain ⟨rfl, rfl, rfl⟩ := hq
    exact ⟨rfl, rfl, ST_0 _ hs⟩
theorem pc_decode (hs : ST h) (s : Int32) : PAIR l g x me_Arc_decode me_Mod_decode [.ref 2, .int s] [.ref 184, .int s] h := by
  by_cases q : nI 1 ≤ s ∧ s ≤ nI 160
  · obtain ⟨k, hk, rfl⟩ := iR (i := s) (m := 160) (by decide) ⟨Int32.le_trans (by decide +kernel) q.1, q.2⟩
    have k1 : 1 ≤ k := (nI_leI (by omega) (by omega)).mp q.1
    obtain ⟨⟨s1, s2, s3, ⟨w, s4, s5⟩, w2, s6, s7⟩, ⟨D, b1, b2, b3⟩, ⟨B, T, c⟩, ⟨R, N, F, dd⟩, n, e5⟩ := hs
    have dd' := dd
    obtain ⟨d1, d2, d3, d4, d5, d6, d7⟩ := dd
    refine ⟨_, m_decode l g x s1 s2 ⟨k1, hk⟩ d1 d2 d6 s6 s7, fun r S1 h1 hq => ?_⟩
    obtain ⟨rfl, o1, ⟨w3, x31, x32⟩, o, V, x1, x2, rfl⟩ := hq
    refine ⟨⟨_, rfl⟩, rfl, _, m_mdecode l g x (on_pt o1 s1) (mt_on o1 (by decide) (by decide) s3) ⟨k1, hk⟩ d1 (by rw [o1.2 184 (by decide)]; exact d3) (md_on o1 (by decide) (by decide) d7), fun r S1 h2 hq => ?_⟩
    obtain ⟨rfl, o2, o', V', y1, y2, rfl⟩ := hq
    have one : ∀ b, b < bl k → V b = V' b ∧ h1.1 183 b = h2.1 191 b ∧ ∀ j, j < k → 40 * b ≤ j ∧ j < 40 * b + 40 → h1.1 181 j = h2.1 189 j := fun b hb => BR_one (fun c hc s _ => d_co hc o o') (x2 b hb).2 (y2 b hb).2
    have ho := onr_tr (onr_mo (L' := [164, 165, 166, 167, 168, 169, 170, 171, 175, 176, 177, 178, 179, 180, 181, 182, 183, 184, 189, 190, 191, 192, 193, 194, 195, 196, 197, 198]) (onr_on o1) (by simp)) (onr_mo (L' := [164, 165, 166, 167, 168, 169, 170, 171, 175, 176, 177, 178, 179, 180, 181, 182, 183, 184, 189, 190, 191, 192, 193, 194, 195, 196, 197, 198]) (onr_on o2) (by simp))
    have e184 : h1.1 184 = h.1 184 := o1.2 184 (by decide)
    obtain ⟨u1, u2, u3, u4, u5⟩ := x1
    obtain ⟨v1, v2, v3, v4, v5, v6, v7⟩ := y1
    refine ⟨rfl, ?_, ⟨onr_pt ho s1, fd_onr ho (by decide) (by decide) s2, mt_onr ho (by decide) (by decide) s3, ⟨w, s4, bd_onr ho (by decide) (by decide) s5⟩, w3, x31, bd_on o2 (by decide) (by decide) x32⟩, ⟨D, b1, ar_onr ho (by decide) b2, ar_onr ho (by decide) b3⟩, ⟨B, T, sC_o ho (fun a h1 h2 => by simp; omega) (by decide) (by rw [ho.2.1 2 (by decide)]) (by rw [v7, e184]) c⟩, ⟨R, N, F, sD_o ho (fun a h1 h2 => by simp; omega) (by decide) (by decide) (by rw [ho.2.1 2 (by decide)]) (by rw [v6, d3]) dd'⟩, k, hk, ?_, v1, ?_, ?_, fun j hj => ?_, fun b hb => ?_⟩
    · rw [aw_congr (bl k) (fun b hb => (one b hb).1)]
    · rw [o2.2 175 (by decide)]; exact u1
    · rw [o2.2 175 (by decide), u2, v2]
    · rw [o2.2 175 (by decide), u3, v3]
    · rw [o2.2 181 (by decide)]
      exact (one (j / 40) (by unfold bl; omega)).2.2 j hj (by omega)
    · rw [o2.2 182 (by decide), o2.2 183 (by decide), (x2 b hb).1, (y2 b hb).1]
      exact ⟨rfl, (one b hb).2.1⟩
  · refine ⟨_, m_decodeN l g x q, fun r S1 h1 hq => ?_⟩
    obtain ⟨rfl, rfl, rfl⟩ := hq
    refine ⟨⟨_, rfl⟩, rfl, _, m_mdecodeN l g x q, fun r S1 h1 hq => ?_⟩
    obtain ⟨rfl, rfl, rfl⟩ := hq
    exact ⟨rfl, rfl, ST_0 _ hs⟩
end
