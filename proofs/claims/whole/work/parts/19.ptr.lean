/-! the pointers, which nobody changes but those of the reads; what a method writes -/
def pt_R : Nat → Nat → Nat
  | 2, 0 => 3
  | 2, 1 => 4
  | 2, 3 => 69
  | 2, 5 => 160
  | 2, 6 => 163
  | 2, 7 => 172
  | 2, 8 => 173
  | 2, 9 => 175
  | 160, 0 => 161
  | 160, 1 => 162
  | 163, 0 => 160
  | 163, 1 => 164
  | 163, 2 => 165
  | 163, 3 => 166
  | 163, 4 => 167
  | 163, 5 => 168
  | 163, 6 => 169
  | 163, 7 => 170
  | 163, 8 => 171
  | 173, 0 => 174
  | 175, 0 => 163
  | 175, 1 => 176
  | 175, 2 => 179
  | 175, 3 => 180
  | 175, 8 => 181
  | 175, 9 => 182
  | 175, 10 => 183
  | 176, 0 => 177
  | 177, 0 => 178
  | 184, 1 => 185
  | 184, 3 => 186
  | 184, 5 => 187
  | 184, 6 => 188
  | 184, 10 => 189
  | 184, 11 => 190
  | 184, 12 => 191
  | 184, 13 => 192
  | 184, 14 => 193
  | 184, 15 => 194
  | 184, 16 => 195
  | 184, 17 => 196
  | 184, 18 => 197
  | 184, 19 => 198
  | 184, 20 => 199
  | 184, 21 => 200
  | 4, k => if k < 64 then 5 + k else 0
  | _, _ => 0
def pt_ok (h : ma_H) : Prop := ∀ a k, a ≠ 69 → a ≠ 201 → h.2.2 a k = pt_R a k
theorem pt_2_0 {h : ma_H} (hp : pt_ok h) : h.2.2 2 0 = 3 := hp 2 0 (by decide) (by decide)
theorem pt_2_1 {h : ma_H} (hp : pt_ok h) : h.2.2 2 1 = 4 := hp 2 1 (by decide) (by decide)
theorem pt_2_3 {h : ma_H} (hp : pt_ok h) : h.2.2 2 3 = 69 := hp 2 3 (by decide) (by decide)
theorem pt_2_5 {h : ma_H} (hp : pt_ok h) : h.2.2 2 5 = 160 := hp 2 5 (by decide) (by decide)
theorem pt_2_6 {h : ma_H} (hp : pt_ok h) : h.2.2 2 6 = 163 := hp 2 6 (by decide) (by decide)
theorem pt_2_7 {h : ma_H} (hp : pt_ok h) : h.2.2 2 7 = 172 := hp 2 7 (by decide) (by decide)
theorem pt_2_8 {h : ma_H} (hp : pt_ok h) : h.2.2 2 8 = 173 := hp 2 8 (by decide) (by decide)
theorem pt_2_9 {h : ma_H} (hp : pt_ok h) : h.2.2 2 9 = 175 := hp 2 9 (by decide) (by decide)
theorem pt_Arc {h : ma_H} (hp : pt_ok h) : h.2.2 2 0 = 3 ∧ h.2.2 2 1 = 4 ∧ h.2.2 2 3 = 69 ∧ h.2.2 2 5 = 160 ∧ h.2.2 2 6 = 163 ∧ h.2.2 2 7 = 172 ∧ h.2.2 2 8 = 173 ∧ h.2.2 2 9 = 175 := ⟨pt_2_0 hp, pt_2_1 hp, pt_2_3 hp, pt_2_5 hp, pt_2_6 hp, pt_2_7 hp, pt_2_8 hp, pt_2_9 hp⟩
theorem pt_160_0 {h : ma_H} (hp : pt_ok h) : h.2.2 160 0 = 161 := hp 160 0 (by decide) (by decide)
theorem pt_160_1 {h : ma_H} (hp : pt_ok h) : h.2.2 160 1 = 162 := hp 160 1 (by decide) (by decide)
theorem pt_Fld {h : ma_H} (hp : pt_ok h) : h.2.2 160 0 = 161 ∧ h.2.2 160 1 = 162 := ⟨pt_160_0 hp, pt_160_1 hp⟩
theorem pt_163_0 {h : ma_H} (hp : pt_ok h) : h.2.2 163 0 = 160 := hp 163 0 (by decide) (by decide)
theorem pt_163_1 {h : ma_H} (hp : pt_ok h) : h.2.2 163 1 = 164 := hp 163 1 (by decide) (by decide)
theorem pt_163_2 {h : ma_H} (hp : pt_ok h) : h.2.2 163 2 = 165 := hp 163 2 (by decide) (by decide)
theorem pt_163_3 {h : ma_H} (hp : pt_ok h) : h.2.2 163 3 = 166 := hp 163 3 (by decide) (by decide)
theorem pt_163_4 {h : ma_H} (hp : pt_ok h) : h.2.2 163 4 = 167 := hp 163 4 (by decide) (by decide)
theorem pt_163_5 {h : ma_H} (hp : pt_ok h) : h.2.2 163 5 = 168 := hp 163 5 (by decide) (by decide)
theorem pt_163_6 {h : ma_H} (hp : pt_ok h) : h.2.2 163 6 = 169 := hp 163 6 (by decide) (by decide)
theorem pt_163_7 {h : ma_H} (hp : pt_ok h) : h.2.2 163 7 = 170 := hp 163 7 (by decide) (by decide)
theorem pt_163_8 {h : ma_H} (hp : pt_ok h) : h.2.2 163 8 = 171 := hp 163 8 (by decide) (by decide)
theorem pt_Col {h : ma_H} (hp : pt_ok h) : h.2.2 163 0 = 160 ∧ h.2.2 163 1 = 164 ∧ h.2.2 163 2 = 165 ∧ h.2.2 163 3 = 166 ∧ h.2.2 163 4 = 167 ∧ h.2.2 163 5 = 168 ∧ h.2.2 163 6 = 169 ∧ h.2.2 163 7 = 170 ∧ h.2.2 163 8 = 171 := ⟨pt_163_0 hp, pt_163_1 hp, pt_163_2 hp, pt_163_3 hp, pt_163_4 hp, pt_163_5 hp, pt_163_6 hp, pt_163_7 hp, pt_163_8 hp⟩
theorem pt_173_0 {h : ma_H} (hp : pt_ok h) : h.2.2 173 0 = 174 := hp 173 0 (by decide) (by decide)
theorem pt_Bod {h : ma_H} (hp : pt_ok h) : h.2.2 173 0 = 174 := pt_173_0 hp
theorem pt_175_0 {h : ma_H} (hp : pt_ok h) : h.2.2 175 0 = 163 := hp 175 0 (by decide) (by decide)
theorem pt_175_1 {h : ma_H} (hp : pt_ok h) : h.2.2 175 1 = 176 := hp 175 1 (by decide) (by decide)
theorem pt_175_2 {h : ma_H} (hp : pt_ok h) : h.2.2 175 2 = 179 := hp 175 2 (by decide) (by decide)
theorem pt_175_3 {h : ma_H} (hp : pt_ok h) : h.2.2 175 3 = 180 := hp 175 3 (by decide) (by decide)
theorem pt_175_8 {h : ma_H} (hp : pt_ok h) : h.2.2 175 8 = 181 := hp 175 8 (by decide) (by decide)
theorem pt_175_9 {h : ma_H} (hp : pt_ok h) : h.2.2 175 9 = 182 := hp 175 9 (by decide) (by decide)
theorem pt_175_10 {h : ma_H} (hp : pt_ok h) : h.2.2 175 10 = 183 := hp 175 10 (by decide) (by decide)
theorem pt_Dec {h : ma_H} (hp : pt_ok h) : h.2.2 175 0 = 163 ∧ h.2.2 175 1 = 176 ∧ h.2.2 175 2 = 179 ∧ h.2.2 175 3 = 180 ∧ h.2.2 175 8 = 181 ∧ h.2.2 175 9 = 182 ∧ h.2.2 175 10 = 183 := ⟨pt_175_0 hp, pt_175_1 hp, pt_175_2 hp, pt_175_3 hp, pt_175_8 hp, pt_175_9 hp, pt_175_10 hp⟩
theorem pt_176_0 {h : ma_H} (hp : pt_ok h) : h.2.2 176 0 = 177 := hp 176 0 (by decide) (by decide)
theorem pt_Rdr {h : ma_H} (hp : pt_ok h) : h.2.2 176 0 = 177 := pt_176_0 hp
theorem pt_177_0 {h : ma_H} (hp : pt_ok h) : h.2.2 177 0 = 178 := hp 177 0 (by decide) (by decide)
theorem pt_Bod2 {h : ma_H} (hp : pt_ok h) : h.2.2 177 0 = 178 := pt_177_0 hp
theorem pt_184_1 {h : ma_H} (hp : pt_ok h) : h.2.2 184 1 = 185 := hp 184 1 (by decide) (by decide)
theorem pt_184_3 {h : ma_H} (hp : pt_ok h) : h.2.2 184 3 = 186 := hp 184 3 (by decide) (by decide)
theorem pt_184_5 {h : ma_H} (hp : pt_ok h) : h.2.2 184 5 = 187 := hp 184 5 (by decide) (by decide)
theorem pt_184_6 {h : ma_H} (hp : pt_ok h) : h.2.2 184 6 = 188 := hp 184 6 (by decide) (by decide)
theorem pt_184_10 {h : ma_H} (hp : pt_ok h) : h.2.2 184 10 = 189 := hp 184 10 (by decide) (by decide)
theorem pt_184_11 {h : ma_H} (hp : pt_ok h) : h.2.2 184 11 = 190 := hp 184 11 (by decide) (by decide)
theorem pt_184_12 {h : ma_H} (hp : pt_ok h) : h.2.2 184 12 = 191 := hp 184 12 (by decide) (by decide)
theorem pt_184_13 {h : ma_H} (hp : pt_ok h) : h.2.2 184 13 = 192 := hp 184 13 (by decide) (by decide)
theorem pt_184_14 {h : ma_H} (hp : pt_ok h) : h.2.2 184 14 = 193 := hp 184 14 (by decide) (by decide)
theorem pt_184_15 {h : ma_H} (hp : pt_ok h) : h.2.2 184 15 = 194 := hp 184 15 (by decide) (by decide)
theorem pt_184_16 {h : ma_H} (hp : pt_ok h) : h.2.2 184 16 = 195 := hp 184 16 (by decide) (by decide)
theorem pt_184_17 {h : ma_H} (hp : pt_ok h) : h.2.2 184 17 = 196 := hp 184 17 (by decide) (by decide)
theorem pt_184_18 {h : ma_H} (hp : pt_ok h) : h.2.2 184 18 = 197 := hp 184 18 (by decide) (by decide)
theorem pt_184_19 {h : ma_H} (hp : pt_ok h) : h.2.2 184 19 = 198 := hp 184 19 (by decide) (by decide)
theorem pt_184_20 {h : ma_H} (hp : pt_ok h) : h.2.2 184 20 = 199 := hp 184 20 (by decide) (by decide)
theorem pt_184_21 {h : ma_H} (hp : pt_ok h) : h.2.2 184 21 = 200 := hp 184 21 (by decide) (by decide)
theorem pt_Mod {h : ma_H} (hp : pt_ok h) : h.2.2 184 1 = 185 ∧ h.2.2 184 3 = 186 ∧ h.2.2 184 5 = 187 ∧ h.2.2 184 6 = 188 ∧ h.2.2 184 10 = 189 ∧ h.2.2 184 11 = 190 ∧ h.2.2 184 12 = 191 ∧ h.2.2 184 13 = 192 ∧ h.2.2 184 14 = 193 ∧ h.2.2 184 15 = 194 ∧ h.2.2 184 16 = 195 ∧ h.2.2 184 17 = 196 ∧ h.2.2 184 18 = 197 ∧ h.2.2 184 19 = 198 ∧ h.2.2 184 20 = 199 ∧ h.2.2 184 21 = 200 := ⟨pt_184_1 hp, pt_184_3 hp, pt_184_5 hp, pt_184_6 hp, pt_184_10 hp, pt_184_11 hp, pt_184_12 hp, pt_184_13 hp, pt_184_14 hp, pt_184_15 hp, pt_184_16 hp, pt_184_17 hp, pt_184_18 hp, pt_184_19 hp, pt_184_20 hp, pt_184_21 hp⟩
/-- ints of the cells L alone have changed -/
def on (h h' : ma_H) (L : List Nat) : Prop := h'.2 = h.2 ∧ ∀ a, a ∉ L → h'.1 a = h.1 a
theorem on_rf (h : ma_H) (L : List Nat) : on h h L := ⟨rfl, fun _ _ => rfl⟩
theorem on_uI {h h' : ma_H} {L : List Nat} (ho : on h h' L) {a : Nat} (k : Nat) (v : Int32) (ha : a ∈ L) : on h (ma_uI h' a k v) L := by
  refine ⟨ho.1, fun b hb => ?_⟩
  rw [← ho.2 b hb]
  funext j
  have : ¬ b = a := fun e => hb (by rw [e]; exact ha)
  simp [ma_uI, this]
theorem on_tr {h h1 h2 : ma_H} {L : List Nat} (a : on h h1 L) (b : on h1 h2 L) : on h h2 L := ⟨b.1.trans a.1, fun q hq => (b.2 q hq).trans (a.2 q hq)⟩
theorem on_mo {h h1 : ma_H} {L L' : List Nat} (a : on h h1 L) (hL : ∀ q, q ∈ L → q ∈ L') : on h h1 L' := ⟨a.1, fun q hq => a.2 q (fun z => hq (hL q z))⟩
theorem on_pt {h h' : ma_H} {L : List Nat} (ho : on h h' L) (hp : pt_ok h) : pt_ok h' := fun a k h1 h2 => by rw [ho.1]; exact hp a k h1 h2
theorem uI_same (h : ma_H) (a k : Nat) (v : Int32) : (ma_uI h a k v).1 a k = v := by simp [ma_uI]
theorem uI_ne {h : ma_H} {a k b j : Nat} {v : Int32} (hn : ¬ (b = a ∧ j = k)) : (ma_uI h a k v).1 b j = h.1 b j := by simp [ma_uI, hn]
theorem uI_2 (h : ma_H) (a k : Nat) (v : Int32) : (ma_uI h a k v).2 = h.2 := rfl
theorem fd_on {h h' : ma_H} {L : List Nat} (ho : on h h' L) (h1 : 161 ∉ L) (h2 : 162 ∉ L) (hf : fd_ok h) : fd_ok h' := by
  obtain ⟨f1, f2, f3, f4⟩ := hf
  refine ⟨by rw [ho.1]; exact f1, by rw [ho.1]; exact f2, fun i hi => by rw [ho.2 161 h1]; exact f3 i hi, fun a h0 ha => by rw [ho.2 162 h2]; exact f4 a h0 ha⟩
