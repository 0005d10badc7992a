/-! the judgement at one heap: the instructions that leave it alone; any room R, any end Z -/
abbrev ma_WF (Z : State → Prop) (l : Launch) (R : Room) (p : Program) (e : Env) (s : State) (m : MethodId) (args : Array Value) (below : List Frame) (meth : Method) (cd : Code) (H : Heap) (locs : List Loc) (c sl : Nat) (pc : Nat) (la : Array Slot) (st : List Value) : Prop :=
  W p l e R s m args below meth cd H locs c sl Z (F0 m pc la st)
def ma_JF (w0 : Cond) (Z : State → Prop) (R : Room) (H : Heap) (locs : List Loc) (p : Program) (e : Env) (s : State) (m : MethodId) (args : Array Value) (below : List Frame) (meth : Method) (cd : Code) (l : Launch) (g : ma_G) (x : Bool) (scr : Option (Nat × (Nat → Int32))) (mi : ma_M) (P : List ma_E) : ma_K := fun k ls st c sl S h =>
  ∀ (la : Array Slot) (pc : Nat),
    ma_BS w0 g scr mi p s m args meth cd → ma_wH g x S h s H locs c → ma_L g mi.2.2.1 la ls → ma_pcAt P k = some pc → ma_WF Z l R p e s m args below meth cd H locs c sl pc la (st.map (ma_tv g))
def ma_SndF (ins : Instr) (aux : List Nat) : Prop := ∀ {l : Launch} {g : ma_G} {x : Bool} {scr : Option (Nat × (Nat → Int32))} {mi : ma_M} {P : List ma_E} {Q : ma_P} {K : ma_K} {k : Nat} {ls : List (Option Value)} {st : List Value} {c sl : Nat} {S : ma_S} {h : ma_H} {p : Program} {e : Env} {s : State} {m : MethodId} {args : Array Value} {below : List Frame} {meth : Method} {cd : Code} {H : Heap} {locs : List Loc} {la : Array Slot} {pc : Nat} {w0 : Cond} {Z : State → Prop} {R : Room},
  (∀ k ls st c sl S h, K k ls st c sl S h → ma_JF w0 Z R H locs p e s m args below meth cd l g x scr mi P k ls st c sl S h) → decode mi.2.1 pc = .ok (ins, ma_len ins) → (ma_thru ins = true → ma_pcAt P (k + 1) = some (pc + ma_len ins)) → ma_okx mi P k pc ins aux = true →
  ma_x x scr mi.2.2.2.2.2.1 mi.2.2.2.2.2.2 (ma_or l g x) ins aux k ls st c sl S h K Q → ma_BS w0 g scr mi p s m args meth cd → ma_wH g x S h s H locs c → ma_L g mi.2.2.1 la ls → ma_WF Z l R p e s m args below meth cd H locs c sl pc la (st.map (ma_tv g))

theorem ma_nextF {w0 : Cond} {Z : State → Prop} {R : Room} {l : Launch} {g : ma_G} {x : Bool} {scr : Option (Nat × (Nat → Int32))} {mi : ma_M} {P : List ma_E} {K : ma_K} {k : Nat} {ls : List (Option Value)} {st : List Value} {c sl : Nat} {S : ma_S} {h : ma_H} {p : Program} {e : Env} {s : State} {m : MethodId} {args : Array Value} {below : List Frame} {meth : Method} {cd : Code} {H : Heap} {locs : List Loc} {la : Array Slot} {pc : Nat}
    (hK : ∀ k ls st c sl S h, K k ls st c sl S h → ma_JF w0 Z R H locs p e s m args below meth cd l g x scr mi P k ls st c sl S h) (hx : K k ls st c sl S h) (hp : ma_pcAt P k = some pc) (hB : ma_BS w0 g scr mi p s m args meth cd) (hw : ma_wH g x S h s H locs c) (hL : ma_L g mi.2.2.1 la ls) : ma_WF Z l R p e s m args below meth cd H locs c sl pc la (st.map (ma_tv g)) :=
  hK _ _ _ _ _ _ _ hx la pc hB hw hL hp
theorem ma_f_iconst (n : Int) (aux : List Nat) : ma_SndF (.iconst n) aux := by
  intro l g x scr mi P Q K k ls st c sl S h p e s m args below meth cd H locs la pc w0 Z R hK hd hn ho hx hB hw hL
  exact lv_iconst hB.1 hB.2.1 hd (of_decide_eq_true ho) (ma_nextF hK hx (hn rfl) hB hw hL)
theorem ma_f_bipush (n : Int) (aux : List Nat) : ma_SndF (.bipush n) aux := by
  intro l g x scr mi P Q K k ls st c sl S h p e s m args below meth cd H locs la pc w0 Z R hK hd hn ho hx hB hw hL
  exact lv_bipush hB.1 hB.2.1 hd (of_decide_eq_true ho) (ma_nextF hK hx (hn rfl) hB hw hL)
theorem ma_f_sipush (n : Int) (aux : List Nat) : ma_SndF (.sipush n) aux := by
  intro l g x scr mi P Q K k ls st c sl S h p e s m args below meth cd H locs la pc w0 Z R hK hd hn ho hx hB hw hL
  exact lv_sipush hB.1 hB.2.1 hd (of_decide_eq_true ho) (ma_nextF hK hx (hn rfl) hB hw hL)
theorem ma_f_iload (i : Nat) (aux : List Nat) : ma_SndF (.iload i) aux := by
  intro l g x scr mi P Q K k ls st c sl S h p e s m args below meth cd H locs la pc w0 Z R hK hd hn ho hx hB hw hL
  obtain ⟨z, h1, hx⟩ := ma_gi_inv hx
  exact lv_iload hB.1 hB.2.1 hd (hL.2.2.2 _ _ h1) (ma_nextF hK hx (hn rfl) hB hw hL)
theorem ma_f_iload_n (i : Fin 4) (aux : List Nat) : ma_SndF (.iload_n i) aux := by
  intro l g x scr mi P Q K k ls st c sl S h p e s m args below meth cd H locs la pc w0 Z R hK hd hn ho hx hB hw hL
  obtain ⟨z, h1, hx⟩ := ma_gi_inv hx
  exact lv_iload_n hB.1 hB.2.1 hd rfl (hL.2.2.2 _ _ h1) (ma_nextF hK hx (hn rfl) hB hw hL)
theorem ma_f_aload (i : Nat) (aux : List Nat) : ma_SndF (.aload i) aux := by
  intro l g x scr mi P Q K k ls st c sl S h p e s m args below meth cd H locs la pc w0 Z R hK hd hn ho hx hB hw hL
  obtain ⟨z, h1, hx⟩ := ma_gr_inv hx
  have h2 := hL.2.2.2 _ _ h1
  have h3 := ma_nextF (below := below) (e := e) hK hx (hn rfl) hB hw hL
  have e0 : ma_tv g (.ref z) = va_rf (ma_ro g z) := rfl
  rw [List.map_cons, e0] at h3
  rw [e0] at h2
  cases hz : ma_ro g z with
  | none =>
    rw [hz] at h2 h3
    exact lv_aloadN hB.1 hB.2.1 hd h2 h3
  | some a =>
    rw [hz] at h2 h3
    exact lv_aload hB.1 hB.2.1 hd h2 h3
theorem ma_f_aload_n (i : Fin 4) (aux : List Nat) : ma_SndF (.aload_n i) aux := by
  intro l g x scr mi P Q K k ls st c sl S h p e s m args below meth cd H locs la pc w0 Z R hK hd hn ho hx hB hw hL
  obtain ⟨z, h1, hx⟩ := ma_gr_inv hx
  have h2 := hL.2.2.2 _ _ h1
  have h3 := ma_nextF (below := below) (e := e) hK hx (hn rfl) hB hw hL
  have e0 : ma_tv g (.ref z) = va_rf (ma_ro g z) := rfl
  rw [List.map_cons, e0] at h3
  rw [e0] at h2
  cases hz : ma_ro g z with
  | none =>
    rw [hz] at h2 h3
    exact lv_aload_nN hB.1 hB.2.1 hd rfl h2 h3
  | some a =>
    rw [hz] at h2 h3
    exact lv_aload_n hB.1 hB.2.1 hd rfl h2 h3
theorem ma_f_iadd (aux : List Nat) : ma_SndF .iadd aux := by
  intro l g x scr mi P Q K k ls st c sl S h p e s m args below meth cd H locs la pc w0 Z R hK hd hn ho hx hB hw hL
  obtain ⟨z, y, st', rfl, hx⟩ := ma_ii_inv hx
  exact lv_iadd hB.1 hB.2.1 hd (ma_nextF hK hx (hn rfl) hB hw hL)
theorem ma_f_isub (aux : List Nat) : ma_SndF .isub aux := by
  intro l g x scr mi P Q K k ls st c sl S h p e s m args below meth cd H locs la pc w0 Z R hK hd hn ho hx hB hw hL
  obtain ⟨z, y, st', rfl, hx⟩ := ma_ii_inv hx
  exact lv_isub hB.1 hB.2.1 hd (ma_nextF hK hx (hn rfl) hB hw hL)
theorem ma_f_goto (off : Int) (aux : List Nat) : ma_SndF (.goto off) aux := by
  intro l g x scr mi P Q K k ls st c sl S h p e s m args below meth cd H locs la pc w0 Z R hK hd hn ho hx hB hw hL
  obtain ⟨q, h1, h2⟩ := ma_tgt_inv ho
  exact lv_goto hB.1 hB.2.1 hd h2 (ma_nextF hK hx h1 hB hw hL)
theorem ma_f_icmp (cnd : ClassFile.Cond) (off : Int) (aux : List Nat) : ma_SndF (.if_icmp cnd off) aux := by
  intro l g x scr mi P Q K k ls st c sl S h p e s m args below meth cd H locs la pc w0 Z R hK hd hn ho hx hB hw hL
  obtain ⟨q, h1, h2⟩ := ma_tgt_inv ho
  obtain ⟨z, y, st', rfl, hx⟩ := ma_ii_inv hx
  cases cnd
  · exact lv_icmp_eq hB.1 hB.2.1 hd h2 (fun q => ma_nextF hK (hx.1 q) h1 hB hw hL) (fun q => ma_nextF hK (hx.2 q) (hn rfl) hB hw hL)
  · exact lv_icmp_ne hB.1 hB.2.1 hd h2 (fun q => ma_nextF hK (hx.1 q) h1 hB hw hL) (fun q => ma_nextF hK (hx.2 q) (hn rfl) hB hw hL)
  · exact lv_icmp_lt hB.1 hB.2.1 hd h2 (fun q => ma_nextF hK (hx.1 q) h1 hB hw hL) (fun q => ma_nextF hK (hx.2 q) (hn rfl) hB hw hL)
  · exact lv_icmp_ge hB.1 hB.2.1 hd h2 (fun q => ma_nextF hK (hx.1 q) h1 hB hw hL) (fun q => ma_nextF hK (hx.2 q) (hn rfl) hB hw hL)
  · exact lv_icmp_gt hB.1 hB.2.1 hd h2 (fun q => ma_nextF hK (hx.1 q) h1 hB hw hL) (fun q => ma_nextF hK (hx.2 q) (hn rfl) hB hw hL)
  · exact lv_icmp_le hB.1 hB.2.1 hd h2 (fun q => ma_nextF hK (hx.1 q) h1 hB hw hL) (fun q => ma_nextF hK (hx.2 q) (hn rfl) hB hw hL)
theorem ma_f_if (cnd : ClassFile.Cond) (off : Int) (aux : List Nat) : ma_SndF (.ifCond cnd off) aux := by
  intro l g x scr mi P Q K k ls st c sl S h p e s m args below meth cd H locs la pc w0 Z R hK hd hn ho hx hB hw hL
  obtain ⟨q, h1, h2⟩ := ma_tgt_inv ho
  obtain ⟨z, st', rfl, hx⟩ := ma_i1_inv hx
  cases cnd
  · exact lv_if_eq hB.1 hB.2.1 hd h2 (fun q => ma_nextF hK (hx.1 q) h1 hB hw hL) (fun q => ma_nextF hK (hx.2 q) (hn rfl) hB hw hL)
  · exact lv_if_ne hB.1 hB.2.1 hd h2 (fun q => ma_nextF hK (hx.1 q) h1 hB hw hL) (fun q => ma_nextF hK (hx.2 q) (hn rfl) hB hw hL)
  · exact lv_if_lt hB.1 hB.2.1 hd h2 (fun q => ma_nextF hK (hx.1 q) h1 hB hw hL) (fun q => ma_nextF hK (hx.2 q) (hn rfl) hB hw hL)
  · exact lv_if_ge hB.1 hB.2.1 hd h2 (fun q => ma_nextF hK (hx.1 q) h1 hB hw hL) (fun q => ma_nextF hK (hx.2 q) (hn rfl) hB hw hL)
  · exact lv_if_gt hB.1 hB.2.1 hd h2 (fun q => ma_nextF hK (hx.1 q) h1 hB hw hL) (fun q => ma_nextF hK (hx.2 q) (hn rfl) hB hw hL)
  · exact lv_if_le hB.1 hB.2.1 hd h2 (fun q => ma_nextF hK (hx.1 q) h1 hB hw hL) (fun q => ma_nextF hK (hx.2 q) (hn rfl) hB hw hL)
theorem ma_f_dup (aux : List Nat) : ma_SndF .dup aux := by
  intro l g x scr mi P Q K k ls st c sl S h p e s m args below meth cd H locs la pc w0 Z R hK hd hn ho hx hB hw hL
  match st, hx with
  | v :: st', hx => exact lv_dup hB.1 hB.2.1 hd (by rw [ma_tv_cat]; exact hx.1) (ma_nextF hK hx.2 (hn rfl) hB hw hL)
theorem ma_f_getfield (i : Nat) (aux : List Nat) : ma_SndF (.getfield i) aux := by
  intro l g x scr mi P Q K k ls st c sl S h p e s m args below meth cd H locs la pc w0 Z R hK hd hn ho hx hB hw hL
  obtain ⟨a, st', rfl, hsh, hx⟩ := ma_r1_inv hx
  obtain ⟨j, rfl, hS⟩ := ma_sh_some hsh
  obtain ⟨C, T, N, fty, hc, hk, hf, htc, hw2, hT1, hlink⟩ := ma_okf_inv ho
  obtain ⟨hk1, hk2, hk3, hk4⟩ := ma_clok hc
  have he : (ma_ws g S h)[j]? = some (g.2.2.1 + j, .inr (ma_a aux 0, (ma_ty (ma_a aux 0)).mapIdx (fun k ty => ma_fv g h (j + 2) k ty))) := by rw [ma_ws_at, hS]; rfl
  have h3 := ma_nextF (below := below) (e := e) hK hx (hn rfl) hB hw hL
  rw [List.map_cons, ma_pv_fv g h _ _ htc hw2] at h3
  obtain ⟨-, h5⟩ | ⟨-, host, h5⟩ := hlink
  · exact va_get (T := T) (ref := C) hB.1 hB.2.1 hB.2.2.2.2.2.2.1 (fun w hw => List.mem_cons_of_mem _ (hk4 w hw)) hB.2.2.2.2.2.2.2.1 hB.2.2.2.2.2.2.2.2.1.1 hw.1 j he hc _ hk (ma_wBS hB h5) (fun y hy => by rw [hT1] at hy; exact hy) (ma_fs_at g h _ _ _ hf) hd h3
  · exact va_getN (T := T) (ref := C) hB.1 hB.2.1 hB.2.2.2.2.2.2.1 (fun w hw => List.mem_cons_of_mem _ (hk4 w hw)) hB.2.2.2.2.2.2.2.1 hB.2.2.2.2.2.2.2.2.1.1 hw.1 j he hc _ hk (va_Nw.use rfl (hB.2.2.2.2.2.2.2.2.1.2.1 _ h5)) (fun y hy => by rw [hT1] at hy; exact hy) (ma_fs_at g h _ _ _ hf) hd h3
theorem ma_f_iaload (aux : List Nat) : ma_SndF .iaload aux := by
  intro l g x scr mi P Q K k ls st c sl S h p e s m args below meth cd H locs la pc w0 Z R hK hd hn ho hx hB hw hL
  obtain ⟨i, st1, rfl, hx⟩ := ma_i1_inv hx
  obtain ⟨a, st2, rfl, hx⟩ := ma_r1_inv hx
  have hKK := hB.2.2.2.2.2.2.2.2.1.1
  match aux, hx with
  | [], hx =>
    obtain ⟨j, n, rfl, hS, hi⟩ := ma_in_inv hx.1
    exact va_iald hB.1 hB.2.1 hKK hw.1 j 0 (ma_ws_arr g S h j n _ hS) rfl hi hd (ma_nextF hK hx.2 (hn rfl) hB hw hL)
  | _ :: _, hx =>
    match scr, hx, hB, hK with
    | some (L, xs), hx, hB, hK =>
      obtain ⟨rfl, hi, hx⟩ := hx
      obtain ⟨hX, h1, h2⟩ := hB.2.2.2.2.2.2.2.2.2.2 L xs rfl
      exact va_sld hB.1 hB.2.1 hX h1 (fun q => by have : g.2.2.1 ≤ g.2.1 := q; omega) hw.2.1 hi hd (ma_nextF hK hx (hn rfl) hB hw hL)
def ma_pu : Instr → Bool
  | .iconst _ => true
  | .bipush _ => true
  | .sipush _ => true
  | .iload _ => true
  | .iload_n _ => true
  | .aload _ => true
  | .aload_n _ => true
  | .iadd => true
  | .isub => true
  | .goto _ => true
  | .if_icmp _ _ => true
  | .ifCond _ _ => true
  | .dup => true
  | .getfield _ => true
  | .iaload => true
  | _ => false
def ma_okF (mi : ma_M) (P : List ma_E) (hs : List Nat) : Prop := ∀ k en, P[k]? = some en → k ∉ hs → ma_ok1 mi P k en = true ∧ ma_pu en.2.2.1 = true
def ma_okFb (mi : ma_M) (P : List ma_E) (hs : List Nat) : Bool := (List.range P.length).all (fun k => decide (k ∈ hs) || (match P[k]? with
  | some en => ma_ok1 mi P k en && ma_pu en.2.2.1
  | none => true))
theorem ma_okF_of {mi : ma_M} {P : List ma_E} {hs : List Nat} (h : ma_okFb mi P hs = true) : ma_okF mi P hs := by
  intro k en hk hn
  have h1 := List.all_eq_true.mp h k (List.mem_range.mpr (List.getElem?_eq_some_iff.mp hk).1)
  rw [hk] at h1
  simpa [hn] using h1
theorem ma_soundF {w0 : Cond} {Z : State → Prop} {R : Room} {H : Heap} {locs : List Loc} {p : Program} {e : Env} {s : State} {m : MethodId} {args : Array Value} {below : List Frame} {meth : Method} {cd : Code} {l : Launch} {g : ma_G} {x : Bool} {scr : Option (Nat × (Nat → Int32))} {mi : ma_M} {P : List ma_E} {Q : ma_P} {hs : List Nat} {K : ma_K} {k : Nat} {ls : List (Option Value)} {st : List Value} {c sl : Nat} {S : ma_S} {h : ma_H} (hok : ma_okF mi P hs) (hk0 : k ∉ hs)
    (hK : ∀ k ls st c sl S h, K k ls st c sl S h → ma_JF w0 Z R H locs p e s m args below meth cd l g x scr mi P k ls st c sl S h) (hx : ma_go x scr mi.2.2.2.2.2.1 mi.2.2.2.2.2.2 (ma_or l g x) P Q K k ls st c sl S h) : ma_JF w0 Z R H locs p e s m args below meth cd l g x scr mi P k ls st c sl S h := by
  intro la pc hB hw hL hpc
  unfold ma_go at hx
  split at hx
  · rename_i en hen
    obtain ⟨h1, hpu⟩ := hok k en hen hk0
    obtain ⟨pc', len, ins, aux⟩ := en
    have hpc' : pc' = pc := by
      rw [ma_pcAt, hen] at hpc
      exact Option.some.inj hpc
    subst hpc'
    unfold ma_ok1 at h1
    simp only [Bool.and_eq_true] at h1
    obtain ⟨⟨⟨hd, hlen⟩, hnx⟩, ho⟩ := h1
    have hd := of_decide_eq_true hd
    dsimp only at hd hlen hnx ho hx hpu
    have key : ma_SndF ins aux → len = ma_len ins → ma_WF Z l R p e s m args below meth cd H locs c sl pc' la (st.map (ma_tv g)) := by
      intro hS hl
      subst hl
      exact hS hK hd (fun ht => by rw [if_pos ht] at hnx; exact of_decide_eq_true hnx) ho hx hB hw hL
    cases ins
    case iconst => exact key (ma_f_iconst _ aux) (of_decide_eq_true hlen)
    case bipush => exact key (ma_f_bipush _ aux) (of_decide_eq_true hlen)
    case sipush => exact key (ma_f_sipush _ aux) (of_decide_eq_true hlen)
    case iload => exact key (ma_f_iload _ aux) (of_decide_eq_true hlen)
    case iload_n => exact key (ma_f_iload_n _ aux) (of_decide_eq_true hlen)
    case aload => exact key (ma_f_aload _ aux) (of_decide_eq_true hlen)
    case aload_n => exact key (ma_f_aload_n _ aux) (of_decide_eq_true hlen)
    case iadd => exact key (ma_f_iadd aux) (of_decide_eq_true hlen)
    case isub => exact key (ma_f_isub aux) (of_decide_eq_true hlen)
    case goto => exact key (ma_f_goto _ aux) (of_decide_eq_true hlen)
    case if_icmp => exact key (ma_f_icmp _ _ aux) (of_decide_eq_true hlen)
    case ifCond => exact key (ma_f_if _ _ aux) (of_decide_eq_true hlen)
    case dup => exact key (ma_f_dup aux) (of_decide_eq_true hlen)
    case getfield => exact key (ma_f_getfield _ aux) (of_decide_eq_true hlen)
    case iaload => exact key (ma_f_iaload aux) (of_decide_eq_true hlen)
    all_goals cases hpu
  · exact hx.elim
theorem ma_wp_JF {w0 : Cond} {Z : State → Prop} {R : Room} {H : Heap} {locs : List Loc} {p : Program} {e : Env} {s : State} {m : MethodId} {args : Array Value} {below : List Frame} {meth : Method} {cd : Code} {l : Launch} {g : ma_G} {x : Bool} {scr : Option (Nat × (Nat → Int32))} {mi : ma_M} {P : List ma_E} {Q : ma_P} {hs : List Nat} (hok : ma_okF mi P hs) (cuts : List Nat) (hcut : ∀ k, k ∈ hs → k ∈ cuts) : ∀ (n k : Nat) (ls : List (Option Value)) (st : List Value) (c sl : Nat) (S : ma_S) (h : ma_H), ma_wp x scr mi.2.2.2.2.2.1 mi.2.2.2.2.2.2 (ma_or l g x) P Q cuts (ma_JF w0 Z R H locs p e s m args below meth cd l g x scr mi P) n k ls st c sl S h → ma_JF w0 Z R H locs p e s m args below meth cd l g x scr mi P k ls st c sl S h
  | 0, _, _, _, _, _, _, _, hx => hx.elim
  | n + 1, k, ls, st, c, sl, S, h, hx => by
    rw [ma_wp] at hx
    split at hx
    · exact hx
    · rename_i hn
      exact ma_soundF hok (fun z => hn (hcut k z)) (ma_wp_JF hok cuts hcut n) hx
theorem ma_runF {w0 : Cond} {Z : State → Prop} {R : Room} {H : Heap} {locs : List Loc} {p : Program} {e : Env} {s : State} {m : MethodId} {args : Array Value} {below : List Frame} {meth : Method} {cd : Code} {l : Launch} {g : ma_G} {x : Bool} {scr : Option (Nat × (Nat → Int32))} {mi : ma_M} {P : List ma_E} {hs : List Nat} {mc ms : Nat} (Q : ma_P) (hok : ma_okF mi P hs) (h1 : mi.2.2.2.2.2.1 = mc) (h2 : mi.2.2.2.2.2.2 = ms) (cuts : List Nat) (hcut : ∀ k, k ∈ hs → k ∈ cuts) (n : Nat) {k : Nat} (hk : k ∉ hs) {ls : List (Option Value)} {st : List Value} {c sl : Nat} {S : ma_S} {h : ma_H} (hx : ma_go x scr mc ms (ma_or l g x) P Q (ma_wp x scr mc ms (ma_or l g x) P Q cuts (ma_JF w0 Z R H locs p e s m args below meth cd l g x scr mi P) n) k ls st c sl S h) : ma_JF w0 Z R H locs p e s m args below meth cd l g x scr mi P k ls st c sl S h := by
  subst h1
  subst h2
  exact ma_soundF hok hk (ma_wp_JF hok cuts hcut n) hx
