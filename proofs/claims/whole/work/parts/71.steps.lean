/-! read, readCut, readGrown, forge: both sides -/
theorem st_add {h h1 h2 : ma_H} {R n a : Nat} {f N : Nat → Nat} {F : Nat → Nat → Nat} (hs : ST h) (s4 : sD h R N F) (hR : R < 90) (ea : h.2.2 69 R = a) (o1 : onr h h1 [2, a]) (e22 : h1.1 2 2 = h.1 2 2) (e24 : h1.1 2 4 = nI (R + 1)) (hr : rf h1 a n f) (hn : n ≤ 60) (ha : am h1 h2 R n f) : ST h2 := by
  obtain ⟨s1, ⟨D, s2⟩, ⟨B, T, s3⟩, -, m, s5⟩ := hs
  obtain ⟨d1, d2, d3, d4, d5, d6, d7⟩ := s4
  obtain ⟨a1, a2, a3, a4, a5, a6⟩ := ha
  have ra := d4 R hR
  rw [ea] at ra
  have o2 := onr_on a1
  have o : onr h h2 [2, a, 184, 187, 188] := onr_tr (onr_mo o1 (by simp)) (onr_mo o2 (by simp))
  have e184 : ∀ k, k ≠ 0 → k ≠ 4 → h2.1 184 k = h.1 184 k := fun k h0 h4 => by rw [a3 k h0 h4, o1.2.1 184 (by simp; omega)]
  have e2 : h2.1 2 = h1.1 2 := o2.2.1 2 (by decide)
  have p2 : h2.2.2 = h.2.2 := o.1
  refine ⟨sA_o o (fun b hb => by simp; omega) s1, ⟨D, sB_o o (by simp; omega) (by simp; omega) s2⟩, ⟨B, T, sC_o o (fun b h1 h2 => by simp; omega) (by simp; omega) (by rw [e2, e22]) (e184 2 (by decide) (by decide)) s3⟩, ⟨R + 1, fun k => if k = R then n else N k, fun k => if k = R then f else F k, by omega, by rw [e2]; exact e24, a2, by rw [p2]; exact d4, by rw [p2]; exact d5, fun k hk => ?_, fun k hk => ?_⟩, m, sE_o o (fun b hb => by simp; omega) (fun k h1 h2 => e184 k (by omega) (by omega)) s5⟩
  · dsimp only
    rw [p2]
    by_cases e : k = R
    · rw [e, if_pos rfl, if_pos rfl, ea]
      exact ⟨ra, hn, rf_onr o2 (by simp; omega) hr⟩
    · rw [if_neg e, if_neg e]
      obtain ⟨r1, r2, r3⟩ := d6 k (by omega)
      have ne : h.2.2 69 k ≠ a := fun z => e (d5 k R (by omega) hR (by rw [z, ea]))
      exact ⟨r1, r2, rf_onr o (by simp; omega) r3⟩
  · dsimp only
    by_cases e : k = R
    · rw [e, if_pos rfl, if_pos rfl]
      refine ⟨hn, a4, fun i hi => ⟨rf_lt hr hi, ?_⟩⟩
      rw [a6, if_pos (by omega), show 60 * R + i - 60 * R = i by omega]
    · rw [if_neg e, if_neg e]
      obtain ⟨r1, r2, r3⟩ := d7 k (by omega)
      refine ⟨r1, ?_, fun i hi => ⟨(r3 i hi).1, ?_⟩⟩
      · rw [a5 k e, o1.2.1 188 (by simp; omega)]; exact r2
      · rw [a6, if_neg (by omega), o1.2.1 187 (by simp; omega)]
        exact (r3 i hi).2
section
variable (l : Launch) (g : ma_G) (x : Bool) {h : ma_H}
theorem pc_read (hs : ST h) (t : Int32) : PAIR l g x me_Arc_read me_Mod_read [.ref 2, .int t] [.ref 184, .int t] h := by
  obtain ⟨B, T, b1, b2, b3, b4⟩ := hs.2.2.1
  obtain ⟨R, N, F, s4⟩ := hs.2.2.2.1
  have s4' := s4
  obtain ⟨d1, d2, d3, d4, d5, d6, d7⟩ := s4
  by_cases q : (nI 0 ≤ t ∧ t < nI (16 * B)) ∧ R < 90
  · obtain ⟨k, hk, rfl⟩ := iW (by omega) q.1
    refine ⟨_, m_read l g x hs.1.1 b2 (show 16 * B ≤ 64 by omega) d2 q.2 hk rfl (d4 R q.2) (b4 k hk).1, fun r S1 h1 hq => ?_⟩
    obtain ⟨rfl, rfl, o1, c1, c2, c3⟩ := hq
    have ra := d4 R q.2
    have x4 : h1.1 184 = h.1 184 := o1.2.1 184 (by simp; omega)
    refine ⟨⟨_, rfl⟩, rfl, _, m_mread l g x (T := T k) (onr_pt o1 hs.1.1) (show 16 * B ≤ 64 by omega) (by rw [x4]; exact b3) q.2 (by rw [x4]; exact d3) hk (fun j hj => by rw [o1.2.1 186 (by simp; omega)]; exact (b4 k hk).2 j hj), fun r S1 h2 hq => ?_⟩
    obtain ⟨rfl, rfl, ad⟩ := hq
    exact ⟨rfl, rfl, st_add hs s4' q.2 rfl o1 (by rw [c1, b2]) c2 c3 (by decide) ad⟩
  · refine ⟨_, m_readN l g x b2 d1 d2 q, fun r S1 h1 hq => ?_⟩
    obtain ⟨rfl, rfl, rfl⟩ := hq
    refine ⟨⟨_, rfl⟩, rfl, _, m_mreadN l g x (show 16 * B ≤ 64 by omega) b3 d1 d3 q, fun r S1 h1 hq => ?_⟩
    obtain ⟨rfl, rfl, rfl⟩ := hq
    exact ⟨rfl, rfl, ST_0 _ hs⟩
theorem pc_readCut (hs : ST h) (t i : Int32) : PAIR l g x me_Arc_readCut me_Mod_readCut [.ref 2, .int t, .int i] [.ref 184, .int t, .int i] h := by
  obtain ⟨B, T, b1, b2, b3, b4⟩ := hs.2.2.1
  obtain ⟨R, N, F, s4⟩ := hs.2.2.2.1
  have s4' := s4
  obtain ⟨d1, d2, d3, d4, d5, d6, d7⟩ := s4
  by_cases q : (nI 0 ≤ t ∧ t < nI (16 * B)) ∧ R < 90 ∧ nI 0 ≤ i ∧ i ≤ nI 32
  · obtain ⟨k, hk, rfl⟩ := iW (by omega) q.1
    obtain ⟨j, hj, rfl⟩ := iR (by decide) q.2.2
    refine ⟨_, m_readCut l g x hs.1.1 b2 (show 16 * B ≤ 64 by omega) d2 q.2.1 hk (show j < 33 by omega) rfl (d4 R q.2.1) (b4 k hk).1, fun r S1 h1 hq => ?_⟩
    obtain ⟨rfl, rfl, o1, c1, c2, c3⟩ := hq
    have ra := d4 R q.2.1
    have x4 : h1.1 184 = h.1 184 := o1.2.1 184 (by simp; omega)
    refine ⟨⟨_, rfl⟩, rfl, _, m_mreadCut l g x (T := T k) (onr_pt o1 hs.1.1) (show 16 * B ≤ 64 by omega) (by rw [x4]; exact b3) q.2.1 (by rw [x4]; exact d3) hk (show j < 33 by omega) (fun j hj => by rw [o1.2.1 186 (by simp; omega)]; exact (b4 k hk).2 j hj), fun r S1 h2 hq => ?_⟩
    obtain ⟨rfl, rfl, ad⟩ := hq
    exact ⟨rfl, rfl, st_add hs s4' q.2.1 rfl o1 (by rw [c1, b2]) c2 c3 (by decide) ad⟩
  · refine ⟨_, m_readCutN l g x b2 d1 d2 q, fun r S1 h1 hq => ?_⟩
    obtain ⟨rfl, rfl, rfl⟩ := hq
    refine ⟨⟨_, rfl⟩, rfl, _, m_mreadCutN l g x (show 16 * B ≤ 64 by omega) b3 d1 d3 q, fun r S1 h1 hq => ?_⟩
    obtain ⟨rfl, rfl, rfl⟩ := hq
    exact ⟨rfl, rfl, ST_0 _ hs⟩
theorem pc_readGrown (hs : ST h) (t i c : Int32) : PAIR l g x me_Arc_readGrown me_Mod_readGrown [.ref 2, .int t, .int i, .int c] [.ref 184, .int t, .int i, .int c] h := by
  obtain ⟨B, T, b1, b2, b3, b4⟩ := hs.2.2.1
  obtain ⟨R, N, F, s4⟩ := hs.2.2.2.1
  have s4' := s4
  obtain ⟨d1, d2, d3, d4, d5, d6, d7⟩ := s4
  by_cases q : (nI 0 ≤ t ∧ t < nI (16 * B)) ∧ R < 90 ∧ (nI 0 ≤ i ∧ i ≤ nI 33) ∧ nI 0 ≤ c ∧ c ≤ nI 3
  · obtain ⟨k, hk, rfl⟩ := iW (by omega) q.1
    obtain ⟨j, hj, rfl⟩ := iR (by decide) q.2.2.1
    obtain ⟨e, he, rfl⟩ := iR (by decide) q.2.2.2
    refine ⟨_, m_readGrown l g x hs.1.1 b2 (show 16 * B ≤ 64 by omega) d2 q.2.1 hk hj (show e < 4 by omega) rfl (d4 R q.2.1) (b4 k hk).1, fun r S1 h1 hq => ?_⟩
    obtain ⟨rfl, rfl, o1, c1, c2, c3⟩ := hq
    have ra := d4 R q.2.1
    have x4 : h1.1 184 = h.1 184 := o1.2.1 184 (by simp; omega)
    refine ⟨⟨_, rfl⟩, rfl, _, m_mreadGrown l g x (T := T k) (onr_pt o1 hs.1.1) (show 16 * B ≤ 64 by omega) (by rw [x4]; exact b3) q.2.1 (by rw [x4]; exact d3) hk hj (show e < 4 by omega) (fun j hj => by rw [o1.2.1 186 (by simp; omega)]; exact (b4 k hk).2 j hj), fun r S1 h2 hq => ?_⟩
    obtain ⟨rfl, rfl, ad⟩ := hq
    exact ⟨rfl, rfl, st_add hs s4' q.2.1 rfl o1 (by rw [c1, b2]) c2 c3 (by decide) ad⟩
  · refine ⟨_, m_readGrownN l g x b2 d1 d2 q, fun r S1 h1 hq => ?_⟩
    obtain ⟨rfl, rfl, rfl⟩ := hq
    refine ⟨⟨_, rfl⟩, rfl, _, m_mreadGrownN l g x (show 16 * B ≤ 64 by omega) b3 d1 d3 q, fun r S1 h1 hq => ?_⟩
    obtain ⟨rfl, rfl, rfl⟩ := hq
    exact ⟨rfl, rfl, ST_0 _ hs⟩
theorem pc_forge (hs : ST h) (u v : Int64) (n : Int32) : PAIR l g x me_Arc_forge me_Mod_forge [.ref 2, .long u, .long v, .int n] [.ref 184, .long u, .long v, .int n] h := by
  obtain ⟨R, N, F, s4⟩ := hs.2.2.2.1
  have s4' := s4
  obtain ⟨d1, d2, d3, d4, d5, d6, d7⟩ := s4
  by_cases q : R < 90 ∧ nI 0 ≤ n ∧ n ≤ nI 60
  · obtain ⟨k, hk, rfl⟩ := iR (by decide) q.2
    obtain ⟨lo, hlo, rfl⟩ := wb_of u
    obtain ⟨hi, hhi, rfl⟩ := wb_of v
    refine ⟨_, m_forge l g x hs.1.1 d2 q.1 hk hlo hhi rfl (d4 R q.1), fun r S1 h1 hq => ?_⟩
    obtain ⟨rfl, rfl, o1, c1, c2, c3⟩ := hq
    have ra := d4 R q.1
    have x4 : h1.1 184 = h.1 184 := o1.2.1 184 (by simp; omega)
    refine ⟨⟨_, rfl⟩, rfl, _, m_mforge l g x (onr_pt o1 hs.1.1) q.1 (by rw [x4]; exact d3) hk hlo hhi, fun r S1 h2 hq => ?_⟩
    obtain ⟨rfl, rfl, ad⟩ := hq
    exact ⟨rfl, rfl, st_add hs s4' q.1 rfl o1 c1 c2 c3 hk ad⟩
  · refine ⟨_, m_forgeN l g x d1 d2 q, fun r S1 h1 hq => ?_⟩
    obtain ⟨rfl, rfl, rfl⟩ := hq
    refine ⟨⟨_, rfl⟩, rfl, _, m_mforgeN l g x d1 d3 q, fun r S1 h1 hq => ?_⟩
    obtain ⟨rfl, rfl, rfl⟩ := hq
    exact ⟨rfl, rfl, ST_0 _ hs⟩
end
