/-! what is written: the bytes of a block, the letters of a strand -/
def M10 : Nat → Bool := fun s => decide (10 ≤ s)
def m10 (c : Nat → Nat) : Nat → Nat := fun s => c s ^^^ gf_fix c M10 s
theorem m10_md {c : Nat → Nat} (hc : ∀ s, s < 16 → c s < 256) : gf_md c M10 (m10 c) := by
  refine ⟨fun s hs => gf_xor_lt (hc s hs) (gf_fix_lt c M10 s), fun j hj => gf_fix_first hc M10 j (by rw [show gf_cn 16 M10 = 6 by decide]; exact hj), ?_⟩
  rw [gf_cn_congr (q := fun _ => false) (fun s hs => by
    unfold m10
    cases e : M10 s
    · rw [gf_fix_out e, Nat.xor_zero]; simp
    · rfl)]
  decide
def dcol (D : Nat → Nat) (n b c : Nat) : Nat → Nat := fun s => if s < 10 ∧ 40 * b + 4 * s + c < n then D (40 * b + 4 * s + c) else 0
theorem dcol_lt {D : Nat → Nat} (hD : ∀ i, i < 160 → D i < 256) {n b c : Nat} (hn : n ≤ 160) (s : Nat) : dcol D n b c s < 256 := by
  unfold dcol
  split
  · exact hD _ (by omega)
  · decide
def cb (D : Nat → Nat) (n b : Nat) : Nat → Nat := fun k => m10 (dcol D n b (k % 4)) (k / 4)
theorem cb_lt {D : Nat → Nat} (hD : ∀ i, i < 160 → D i < 256) {n b : Nat} (hn : n ≤ 160) {k : Nat} (hk : k < 64) : cb D n b k < 256 := (m10_md (fun s _ => dcol_lt hD hn s)).1 _ (by omega)
def ltr (d p : Nat) : Nat := if d < p then d else d + 1
def spd (v : Nat → Nat) (i : Nat) : Nat := v (i / 11) / (59049 / 3 ^ (i % 11)) % 3
def spw (v : Nat → Nat) : Nat → Nat
  | 0 => ltr (spd v 0) 3
  | i + 1 => ltr (spd v (i + 1)) (spw v i)
theorem spw_e (v : Nat → Nat) : ∀ i, spw v i = ltr (spd v i) (ah (spw v) i)
  | 0 => rfl
  | i + 1 => by
    rw [spw, ah, if_neg (Nat.succ_ne_zero i)]
    rfl
theorem spw_lt (v : Nat → Nat) (i : Nat) : spw v i < 4 := by
  rw [spw_e]
  have : spd v i < 3 := Nat.mod_lt _ (by decide)
  unfold ltr
  split <;> omega
def VV (b s : Nat) (c : Nat → Nat) : Nat → Nat := fun g => if g = 0 then 256 * b + s else 256 * c (4 * s + 2 * g - 2) + c (4 * s + 2 * g - 1)
theorem VV_lt {b s : Nat} {c : Nat → Nat} (hb : b < 4) (hs : s < 16) (hc : ∀ k, k < 64 → c k < 256) {g : Nat} (hg : g < 3) : VV b s c g < 65536 := by
  unfold VV
  split
  · omega
  · have h1 := hc (4 * s + 2 * g - 2) (by omega)
    have h2 := hc (4 * s + 2 * g - 1) (by omega)
    omega
def stl (w : Nat → Nat) (k : Nat) : Nat := if k < 33 then w k else if k < 36 then sm 33 w % 4 else if k < 39 then sm 33 (ri w) % 33 / 16 else if k < 42 then sm 33 (ri w) % 33 / 4 % 4 else sm 33 (ri w) % 33 % 4
theorem stl_lt {w : Nat → Nat} (hw : wf w) (k : Nat) : stl w k < 4 := by
  have := Nat.mod_lt (sm 33 (ri w)) (show 33 > 0 by decide)
  unfold stl
  split
  · exact hw k (by omega)
  · split
    · omega
    · split
      · omega
      · split <;> omega
theorem stl_congr {w w' : Nat → Nat} (h : ∀ k, k < 33 → w k = w' k) (k : Nat) : stl w k = stl w' k := by
  have e1 : sm 33 w = sm 33 w' := sm_congr 33 h
  have e2 : sm 33 (ri w) = sm 33 (ri w') := sm_congr 33 (fun i hi => by
    unfold ri
    by_cases z : i = 0
    · rw [if_neg (fun q => q.1 z), if_neg (fun q => q.1 z)]
    · rw [h i hi, h (i - 1) (by omega)])
  unfold stl
  rw [e1, e2]
  by_cases z : k < 33
  · rw [if_pos z, if_pos z, h k z]
  · rw [if_neg z, if_neg z]
/-- the letters of the strand t -/
def TT (D : Nat → Nat) (n t : Nat) : Nat → Nat := stl (spw (VV (t / 16) (t % 16) (cb D n (t / 16))))
theorem TT_lt (D : Nat → Nat) (n t k : Nat) : TT D n t k < 4 := stl_lt (fun i _ => spw_lt _ i) k
theorem p3_pos : ∀ j, j < 11 → 0 < 59049 / 3 ^ j := by decide
theorem p3_le : ∀ j, j < 12 → 59049 / 3 ^ j < 59050 := by decide
theorem p3_st (j : Nat) : 59049 / 3 ^ j / 3 = 59049 / 3 ^ (j + 1) := by rw [Nat.div_div_eq_div_mul, Nat.pow_succ]
