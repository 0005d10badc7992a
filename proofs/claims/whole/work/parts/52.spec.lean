/-! what both decodings tell: the blocks -/
def BR (n : Nat) (cl sd : Nat → Nat) (b : Nat) (v : Nat) (ch : Int32) (by' : Nat → Int32) : Prop :=
  (v = 1 ∧ ∃ ws, ws.length = 4 ∧ mdL cl sd b ws ∧ ch = nI (gf_cn 16 (hcL cl sd b ws)) ∧ ∀ k, k < n → 40 * b ≤ k ∧ k < 40 * b + 40 → by' k = cwL b (fun _ => 0) ws k) ∨
  (v = 0 ∧ (∃ c, c < 4 ∧ ∀ w, ¬ gf_md (co cl sd b c) (gn cl b) w) ∧ ch = -1 ∧ ∀ k, k < n → 40 * b ≤ k ∧ k < 40 * b + 40 → by' k = nI 0)
theorem cwL_in {b k : Nat} (hk : 40 * b ≤ k ∧ k < 40 * b + 40) (o o' : Nat → Int32) : ∀ ws : List (Nat → Nat), ws.length = 4 → cwL b o ws k = cwL b o' ws k
  | [w3, w2, w1, w0], _ => by
    show cw b 3 16 w3 (cw b 2 16 w2 (cw b 1 16 w1 (cw b 0 16 w0 o))) k = cw b 3 16 w3 (cw b 2 16 w2 (cw b 1 16 w1 (cw b 0 16 w0 o'))) k
    have d : (k - 40 * b) / 4 < 16 := by omega
    have r : (k - 40 * b) % 4 = 0 ∨ (k - 40 * b) % 4 = 1 ∨ (k - 40 * b) % 4 = 2 ∨ (k - 40 * b) % 4 = 3 := by omega
    unfold cw
    rcases r with r | r | r | r <;> simp [r, d, hk.1, hk.2]
theorem md_congr {c c' : Nat → Nat} {M : Nat → Bool} {w : Nat → Nat} (h : ∀ s, s < 16 → c s = c' s) (hw : gf_md c M w) : gf_md c' M w := by
  refine ⟨hw.1, hw.2.1, ?_⟩
  have := hw.2.2
  rwa [gf_cn_congr (q := fun s => !M s && (w s != c' s)) (fun s hs => by rw [h s hs])] at this
theorem mdL_at {cl sd : Nat → Nat} {b c : Nat} : ∀ ws : List (Nat → Nat), mdL cl sd b ws → c < ws.length → ∃ w, gf_md (co cl sd b c) (gn cl b) w
  | [], _, h => absurd h (Nat.not_lt_zero _)
  | w :: ws, hm, h => by
    by_cases e : c = ws.length
    · rw [e]; exact ⟨w, hm.1⟩
    · exact mdL_at ws hm.2 (by have : (w :: ws).length = ws.length + 1 := rfl; omega)
theorem L_one {cl sd sd' : Nat → Nat} {b : Nat} (hco : ∀ c, c < 4 → ∀ s, s < 16 → co cl sd b c s = co cl sd' b c s) : ∀ ws ws' : List (Nat → Nat), ws.length = ws'.length → ws.length ≤ 4 → mdL cl sd b ws → mdL cl sd' b ws' → (∀ t, t < 16 → hcL cl sd b ws t = hcL cl sd' b ws' t) ∧ ∀ k o, 40 * b ≤ k ∧ k < 40 * b + 40 → cwL b o ws k = cwL b o ws' k
  | [], [], _, _, _, _ => ⟨fun _ _ => rfl, fun _ _ _ => rfl⟩
  | [], _ :: _, h, _, _, _ => by cases h
  | _ :: _, [], h, _, _, _ => by cases h
  | w :: ws, w' :: ws', h, h4, m, m' => by
    have hl : ws.length = ws'.length := by
      have h1 : (w :: ws).length = ws.length + 1 := rfl
      have h2 : (w' :: ws').length = ws'.length + 1 := rfl
      omega
    have hl4 : ws.length < 4 := by
      have h1 : (w :: ws).length = ws.length + 1 := rfl
      omega
    obtain ⟨i1, i2⟩ := L_one hco ws ws' hl (by omega) m.2 m'.2
    have e : ∀ s, s < 16 → w s = w' s := gf_md_one m.1 (by
      have := m'.1
      rw [← hl] at this
      exact md_congr (fun s hs => (hco _ hl4 s hs).symm) this)
    refine ⟨fun t t16 => ?_, fun k o hk => ?_⟩
    · show tR (hcL cl sd b ws) (ht cl sd w b ws.length) 16 t = tR (hcL cl sd' b ws') (ht cl sd' w' b ws'.length) 16 t
      unfold tR ht
      rw [i1 t t16, ← hl, hco _ hl4 t t16, e t t16]
    · show cw b ws.length 16 w (cwL b o ws) k = cw b ws'.length 16 w' (cwL b o ws') k
      unfold cw
      rw [← hl, i2 k o hk, e _ (by omega)]
theorem BR_one {n : Nat} {cl sd sd' : Nat → Nat} {b v v' : Nat} {ch ch' : Int32} {y y' : Nat → Int32} (hco : ∀ c, c < 4 → ∀ s, s < 16 → co cl sd b c s = co cl sd' b c s) (h : BR n cl sd b v ch y) (h' : BR n cl sd' b v' ch' y') : v = v' ∧ ch = ch' ∧ ∀ k, k < n → 40 * b ≤ k ∧ k < 40 * b + 40 → y k = y' k := by
  rcases h with ⟨rfl, ws, l4, md, rfl, hy⟩ | ⟨rfl, ⟨c, c4, no⟩, rfl, hy⟩
  · rcases h' with ⟨rfl, ws', l4', md', rfl, hy'⟩ | ⟨rfl, ⟨c, c4, no⟩, rfl, hy'⟩
    · obtain ⟨i1, i2⟩ := L_one hco ws ws' (by omega) (by omega) md md'
      refine ⟨rfl, by rw [gf_cn_congr i1], fun k hk hb => by rw [hy k hk hb, hy' k hk hb, i2 k _ hb]⟩
    · obtain ⟨w, hw⟩ := mdL_at ws md (show c < ws.length by omega)
      exact absurd (md_congr (hco c c4) hw) (no w)
  · rcases h' with ⟨rfl, ws', l4', md', rfl, hy'⟩ | ⟨rfl, ⟨c', c4', no'⟩, rfl, hy'⟩
    · obtain ⟨w, hw⟩ := mdL_at ws' md' (show c < ws'.length by omega)
      exact absurd (md_congr (fun s hs => (hco c c4 s hs).symm) hw) (no w)
    · exact ⟨rfl, rfl, fun k hk hb => by rw [hy k hk hb, hy' k hk hb]⟩
theorem BR_keep {n : Nat} {cl sd : Nat → Nat} {b v : Nat} {ch : Int32} {y y' : Nat → Int32} (e : ∀ k, k < n → 40 * b ≤ k ∧ k < 40 * b + 40 → y' k = y k) (h : BR n cl sd b v ch y) : BR n cl sd b v ch y' := by
  rcases h with ⟨h1, ws, h2, h3, h4, h5⟩ | ⟨h1, h2, h3, h4⟩
  · exact Or.inl ⟨h1, ws, h2, h3, h4, fun k hk hb => by rw [e k hk hb]; exact h5 k hk hb⟩
  · exact Or.inr ⟨h1, h2, h3, fun k hk hb => by rw [e k hk hb]; exact h4 k hk hb⟩
/-- the answer of a decoding whose blocks answer V -/
def aw (V : Nat → Nat) : Nat → Nat
  | 0 => 1
  | b + 1 => if V b = 1 then aw V b else 0
theorem aw_congr {V V' : Nat → Nat} : ∀ n, (∀ b, b < n → V b = V' b) → aw V n = aw V' n
  | 0, _ => rfl
  | n + 1, h => by
    rw [aw, aw, h n (by omega), aw_congr n (fun b hb => h b (by omega))]
theorem aw_01 (V : Nat → Nat) : ∀ n, aw V n = 0 ∨ aw V n = 1
  | 0 => Or.inr rfl
  | n + 1 => by
    rw [aw]
    split
    · exact aw_01 V n
    · exact Or.inl rfl
/-! the reads, one after another -/
theorem tk_lt {B : Nat} {f : Nat → Nat} {n p : Nat} {w : Nat → Nat} (h : tk B f n = some (p, w)) : p < 16 * B ∧ ∀ j, b4 w j < 256 := by
  unfold tk at h
  cases e : wr f n with
  | none => rw [e] at h; cases h
  | some v =>
    rw [e] at h
    dsimp only at h
    cases e2 : sl B v with
    | none => rw [e2] at h; cases h
    | some q =>
      rw [e2] at h
      cases h
      unfold sl at e2
      split at e2
      · rename_i c
        cases e2
        obtain ⟨c1, c2, c3, c4⟩ := c
        have g1 := c2 1 (by omega)
        have g2 := c2 2 (by omega)
        refine ⟨by omega, fun j => ?_⟩
        unfold b4
        split
        · omega
        · split
          · omega
          · split <;> omega
      · cases e2
section
variable (B : Nat) (N : Nat → Nat) (F : Nat → Nat → Nat)
def dcl : Nat → Nat → Nat
  | 0 => fun _ => 0
  | r + 1 => match tk B (F r) (N r) with
    | none => dcl r
    | some (p, _) => up (dcl r) p (dcl r p + 1)
def dsd (o : Nat → Nat) : Nat → Nat → Nat
  | 0 => o
  | r + 1 => match tk B (F r) (N r) with
    | none => dsd o r
    | some (p, w) => s4 (dsd o r) w p
def dfx : Nat → Nat
  | 0 => 0
  | r + 1 => match tk B (F r) (N r) with
    | none => dfx r
    | some _ => dfx r + (if N r = 45 then 0 else 1)
def ddr : Nat → Nat
  | 0 => 0
  | r + 1 => match tk B (F r) (N r) with
    | none => ddr r + 1
    | some _ => ddr r
variable {B N F}
theorem d_no {r : Nat} (h : tk B (F r) (N r) = none) : dcl B N F (r + 1) = dcl B N F r ∧ (∀ o, dsd B N F o (r + 1) = dsd B N F o r) ∧ dfx B N F (r + 1) = dfx B N F r ∧ ddr B N F (r + 1) = ddr B N F r + 1 := by
  refine ⟨?_, fun o => ?_, ?_, ?_⟩
  · rw [dcl, h]
  · rw [dsd, h]
  · rw [dfx, h]
  · rw [ddr, h]
theorem d_so {r p : Nat} {w : Nat → Nat} (h : tk B (F r) (N r) = some (p, w)) : dcl B N F (r + 1) = up (dcl B N F r) p (dcl B N F r p + 1) ∧ (∀ o, dsd B N F o (r + 1) = s4 (dsd B N F o r) w p) ∧ dfx B N F (r + 1) = dfx B N F r + (if N r = 45 then 0 else 1) ∧ ddr B N F (r + 1) = ddr B N F r := by
  refine ⟨?_, fun o => ?_, ?_, ?_⟩
  · rw [dcl, h]
  · rw [dsd, h]
  · rw [dfx, h]
  · rw [ddr, h]
theorem dcl_le (k : Nat) : ∀ r, dcl B N F r k ≤ r
  | 0 => Nat.le_refl _
  | r + 1 => by
    have ih := dcl_le k r
    cases e : tk B (F r) (N r) with
    | none => rw [(d_no e).1]; omega
    | some q =>
      obtain ⟨p, w⟩ := q
      rw [(d_so e).1]
      unfold up
      split
      · rename_i c
        rw [← c]; omega
      · omega
theorem dcl_hi {k : Nat} (hk : 16 * B ≤ k) : ∀ r, dcl B N F r k = 0
  | 0 => rfl
  | r + 1 => by
    have ih := dcl_hi hk r
    cases e : tk B (F r) (N r) with
    | none => rw [(d_no e).1]; exact ih
    | some q =>
      obtain ⟨p, w⟩ := q
      have := (tk_lt e).1
      rw [(d_so e).1]
      unfold up
      rw [if_neg (by omega)]
      exact ih
theorem dsd_eq {p c : Nat} (hc : c < 4) (o o' : Nat → Nat) : ∀ r, dcl B N F r p ≠ 0 → dsd B N F o r (4 * p + c) = dsd B N F o' r (4 * p + c) ∧ dsd B N F o r (4 * p + c) < 256
  | 0, h => absurd rfl h
  | r + 1, h => by
    cases e : tk B (F r) (N r) with
    | none =>
      rw [(d_no e).1] at h
      rw [(d_no e).2.1, (d_no e).2.1]
      exact dsd_eq hc o o' r h
    | some q =>
      obtain ⟨q, w⟩ := q
      rw [(d_so e).1] at h
      rw [(d_so e).2.1, (d_so e).2.1]
      unfold s4
      by_cases z : (4 * p + c) / 4 = q
      · rw [if_pos z, if_pos z]
        exact ⟨rfl, (tk_lt e).2 _⟩
      · rw [if_neg z, if_neg z]
        refine dsd_eq hc o o' r ?_
        unfold up at h
        rw [if_neg (by omega)] at h
        exact h
theorem d_co {b c s r : Nat} (hc : c < 4) (o o' : Nat → Nat) : co (dcl B N F r) (dsd B N F o r) b c s = co (dcl B N F r) (dsd B N F o' r) b c s := by
  unfold co
  by_cases e : dcl B N F r (16 * b + s) = 1
  · rw [if_pos e, if_pos e]
    exact (dsd_eq hc o o' r (by omega)).1
  · rw [if_neg e, if_neg e]
end
def dq (cl : Nat → Nat) : Nat → Nat := fun k => if 1 < cl k then cl k else 0
theorem sm_cat (f : Nat → Nat) (a : Nat) : ∀ b, sm (a + b) f = sm a f + sm b (fun i => f (a + i))
  | 0 => rfl
  | b + 1 => by
    rw [show a + (b + 1) = (a + b) + 1 from rfl, sm, sm, sm_cat f a b, Nat.add_assoc]
theorem sm_0 {f : Nat → Nat} : ∀ n, (∀ k, k < n → f k = 0) → sm n f = 0
  | 0, _ => rfl
  | n + 1, h => by rw [sm, sm_0 n (fun k hk => h k (by omega)), h n (by omega)]
theorem dq_st (cl : Nat → Nat) (b : Nat) : sm (16 * b) (dq cl) + sm 16 (dp cl b) = sm (16 * (b + 1)) (dq cl) := by
  rw [show 16 * (b + 1) = 16 * b + 16 by omega, sm_cat]
  rfl
theorem dq_all {cl : Nat → Nat} {B : Nat} (hB : B ≤ 4) (h : ∀ k, 16 * B ≤ k → cl k = 0) : sm 64 (dq cl) = sm (16 * B) (dq cl) := by
  rw [show 64 = 16 * B + (64 - 16 * B) by omega, sm_cat, sm_0 (f := fun i => dq cl (16 * B + i)) _ (fun k _ => by unfold dq; rw [h _ (by omega)]; rfl), Nat.add_zero]
