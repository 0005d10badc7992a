/-! how the pure machine is evaluated: a row an instruction -/
section
variable {x : Bool} {scr : Option (Nat × (Nat → Int32))} {mc ms : Nat} {O : ma_O} {aux : List Nat} {k : Nat} {ls : List (Option Value)} {st rest : List Value} {c sl : Nat} {S : ma_S} {h : ma_H} {K : ma_K} {Q : ma_P}
theorem ev_iconst {i : Int} {v : Nat} : ma_x x scr mc ms O (.iconst i) [v, 0] k ls st c sl S h K Q = (K (k + 1) ls (.int (nI v) :: st) c sl S h) := rfl
theorem ev_iconst_m {i : Int} {v : Nat} : ma_x x scr mc ms O (.iconst i) [v, 1] k ls st c sl S h K Q = (K (k + 1) ls (.int (-1) :: st) c sl S h) := rfl
theorem ev_bipush {i : Int} {v : Nat} : ma_x x scr mc ms O (.bipush i) [v, 0] k ls st c sl S h K Q = (K (k + 1) ls (.int (nI v) :: st) c sl S h) := rfl
theorem ev_bipush_m {i : Int} {v : Nat} : ma_x x scr mc ms O (.bipush i) [v, 1] k ls st c sl S h K Q = (K (k + 1) ls (.int (-1) :: st) c sl S h) := rfl
theorem ev_sipush {i : Int} {v : Nat} : ma_x x scr mc ms O (.sipush i) [v, 0] k ls st c sl S h K Q = (K (k + 1) ls (.int (nI v) :: st) c sl S h) := rfl
theorem ev_sipush_m {i : Int} {v : Nat} : ma_x x scr mc ms O (.sipush i) [v, 1] k ls st c sl S h K Q = (K (k + 1) ls (.int (-1) :: st) c sl S h) := rfl
theorem ev_ldc {i v w : Nat} : ma_x x scr mc ms O (.ldc i) [v, 0, w] k ls st c sl S h K Q = (K (k + 1) ls (.int (nI v) :: st) c sl S h) := rfl
theorem ev_ldc_w {i v w : Nat} : ma_x x scr mc ms O (.ldc_w i) [v, 0, w] k ls st c sl S h K Q = (K (k + 1) ls (.int (nI v) :: st) c sl S h) := rfl
theorem ev_ldc2_w {i v w : Nat} : ma_x x scr mc ms O (.ldc2_w i) [v, 0, w] k ls st c sl S h K Q = (K (k + 1) ls (.long (lN v) :: st) c sl S h) := rfl
theorem ev_lconst {i : Fin 2} {v : Nat} : ma_x x scr mc ms O (.lconst i) [v] k ls st c sl S h K Q = (K (k + 1) ls (.long (lN v) :: st) c sl S h) := rfl
theorem ev_iload {i : Nat} : ma_x x scr mc ms O (.iload i) aux k ls st c sl S h K Q = (ma_gi ls i fun z => K (k + 1) ls (.int z :: st) c sl S h) := rfl
theorem ev_iload_0 : ma_x x scr mc ms O (.iload_n 0) aux k ls st c sl S h K Q = (ma_gi ls 0 fun z => K (k + 1) ls (.int z :: st) c sl S h) := rfl
theorem ev_iload_1 : ma_x x scr mc ms O (.iload_n 1) aux k ls st c sl S h K Q = (ma_gi ls 1 fun z => K (k + 1) ls (.int z :: st) c sl S h) := rfl
theorem ev_iload_2 : ma_x x scr mc ms O (.iload_n 2) aux k ls st c sl S h K Q = (ma_gi ls 2 fun z => K (k + 1) ls (.int z :: st) c sl S h) := rfl
theorem ev_iload_3 : ma_x x scr mc ms O (.iload_n 3) aux k ls st c sl S h K Q = (ma_gi ls 3 fun z => K (k + 1) ls (.int z :: st) c sl S h) := rfl
theorem ev_lload {i : Nat} : ma_x x scr mc ms O (.lload i) aux k ls st c sl S h K Q = (ma_gl ls i fun z => K (k + 1) ls (.long z :: st) c sl S h) := rfl
theorem ev_lload_0 : ma_x x scr mc ms O (.lload_n 0) aux k ls st c sl S h K Q = (ma_gl ls 0 fun z => K (k + 1) ls (.long z :: st) c sl S h) := rfl
theorem ev_lload_1 : ma_x x scr mc ms O (.lload_n 1) aux k ls st c sl S h K Q = (ma_gl ls 1 fun z => K (k + 1) ls (.long z :: st) c sl S h) := rfl
theorem ev_lload_2 : ma_x x scr mc ms O (.lload_n 2) aux k ls st c sl S h K Q = (ma_gl ls 2 fun z => K (k + 1) ls (.long z :: st) c sl S h) := rfl
theorem ev_lload_3 : ma_x x scr mc ms O (.lload_n 3) aux k ls st c sl S h K Q = (ma_gl ls 3 fun z => K (k + 1) ls (.long z :: st) c sl S h) := rfl
theorem ev_aload {i : Nat} : ma_x x scr mc ms O (.aload i) aux k ls st c sl S h K Q = (ma_gr ls i fun z => K (k + 1) ls (.ref z :: st) c sl S h) := rfl
theorem ev_aload_0 : ma_x x scr mc ms O (.aload_n 0) aux k ls st c sl S h K Q = (ma_gr ls 0 fun z => K (k + 1) ls (.ref z :: st) c sl S h) := rfl
theorem ev_aload_1 : ma_x x scr mc ms O (.aload_n 1) aux k ls st c sl S h K Q = (ma_gr ls 1 fun z => K (k + 1) ls (.ref z :: st) c sl S h) := rfl
theorem ev_aload_2 : ma_x x scr mc ms O (.aload_n 2) aux k ls st c sl S h K Q = (ma_gr ls 2 fun z => K (k + 1) ls (.ref z :: st) c sl S h) := rfl
theorem ev_aload_3 : ma_x x scr mc ms O (.aload_n 3) aux k ls st c sl S h K Q = (ma_gr ls 3 fun z => K (k + 1) ls (.ref z :: st) c sl S h) := rfl
theorem ev_istore {i : Nat} {z : Int32} : ma_x x scr mc ms O (.istore i) aux k ls (.int z :: st) c sl S h K Q = (i < ls.length ∧ K (k + 1) (ma_set1 ls i (.int z)) st c sl S h) := rfl
theorem ev_istore_0 {z : Int32} : ma_x x scr mc ms O (.istore_n 0) aux k ls (.int z :: st) c sl S h K Q = (0 < ls.length ∧ K (k + 1) (ma_set1 ls 0 (.int z)) st c sl S h) := rfl
theorem ev_istore_1 {z : Int32} : ma_x x scr mc ms O (.istore_n 1) aux k ls (.int z :: st) c sl S h K Q = (1 < ls.length ∧ K (k + 1) (ma_set1 ls 1 (.int z)) st c sl S h) := rfl
theorem ev_istore_2 {z : Int32} : ma_x x scr mc ms O (.istore_n 2) aux k ls (.int z :: st) c sl S h K Q = (2 < ls.length ∧ K (k + 1) (ma_set1 ls 2 (.int z)) st c sl S h) := rfl
theorem ev_istore_3 {z : Int32} : ma_x x scr mc ms O (.istore_n 3) aux k ls (.int z :: st) c sl S h K Q = (3 < ls.length ∧ K (k + 1) (ma_set1 ls 3 (.int z)) st c sl S h) := rfl
theorem ev_astore {i : Nat} {z : Nat} : ma_x x scr mc ms O (.astore i) aux k ls (.ref z :: st) c sl S h K Q = (i < ls.length ∧ K (k + 1) (ma_set1 ls i (.ref z)) st c sl S h) := rfl
theorem ev_astore_0 {z : Nat} : ma_x x scr mc ms O (.astore_n 0) aux k ls (.ref z :: st) c sl S h K Q = (0 < ls.length ∧ K (k + 1) (ma_set1 ls 0 (.ref z)) st c sl S h) := rfl
theorem ev_astore_1 {z : Nat} : ma_x x scr mc ms O (.astore_n 1) aux k ls (.ref z :: st) c sl S h K Q = (1 < ls.length ∧ K (k + 1) (ma_set1 ls 1 (.ref z)) st c sl S h) := rfl
theorem ev_astore_2 {z : Nat} : ma_x x scr mc ms O (.astore_n 2) aux k ls (.ref z :: st) c sl S h K Q = (2 < ls.length ∧ K (k + 1) (ma_set1 ls 2 (.ref z)) st c sl S h) := rfl
theorem ev_astore_3 {z : Nat} : ma_x x scr mc ms O (.astore_n 3) aux k ls (.ref z :: st) c sl S h K Q = (3 < ls.length ∧ K (k + 1) (ma_set1 ls 3 (.ref z)) st c sl S h) := rfl
theorem ev_lstore {i : Nat} {z : Int64} : ma_x x scr mc ms O (.lstore i) aux k ls (.long z :: st) c sl S h K Q = (i + 1 < ls.length ∧ K (k + 1) (ma_set2 ls i (.long z)) st c sl S h) := rfl
theorem ev_lstore_0 {z : Int64} : ma_x x scr mc ms O (.lstore_n 0) aux k ls (.long z :: st) c sl S h K Q = (1 < ls.length ∧ K (k + 1) (ma_set2 ls 0 (.long z)) st c sl S h) := rfl
theorem ev_lstore_1 {z : Int64} : ma_x x scr mc ms O (.lstore_n 1) aux k ls (.long z :: st) c sl S h K Q = (2 < ls.length ∧ K (k + 1) (ma_set2 ls 1 (.long z)) st c sl S h) := rfl
theorem ev_lstore_2 {z : Int64} : ma_x x scr mc ms O (.lstore_n 2) aux k ls (.long z :: st) c sl S h K Q = (3 < ls.length ∧ K (k + 1) (ma_set2 ls 2 (.long z)) st c sl S h) := rfl
theorem ev_lstore_3 {z : Int64} : ma_x x scr mc ms O (.lstore_n 3) aux k ls (.long z :: st) c sl S h K Q = (4 < ls.length ∧ K (k + 1) (ma_set2 ls 3 (.long z)) st c sl S h) := rfl
theorem ev_iinc {i v : Nat} {n : Int} : ma_x x scr mc ms O (.iinc i n) [v, 0] k ls st c sl S h K Q = (ma_gi ls i fun z => K (k + 1) (ma_set1 ls i (.int (z + nI v))) st c sl S h) := rfl
theorem ev_iinc_m {i v : Nat} {n : Int} : ma_x x scr mc ms O (.iinc i n) [v, 1] k ls st c sl S h K Q = (ma_gi ls i fun z => K (k + 1) (ma_set1 ls i (.int (z + -1))) st c sl S h) := rfl
theorem ev_iadd {z y : Int32} : ma_x x scr mc ms O (.iadd) aux k ls (.int y :: .int z :: st) c sl S h K Q = (K (k + 1) ls (.int (z + y) :: st) c sl S h) := rfl
theorem ev_isub {z y : Int32} : ma_x x scr mc ms O (.isub) aux k ls (.int y :: .int z :: st) c sl S h K Q = (K (k + 1) ls (.int (z - y) :: st) c sl S h) := rfl
theorem ev_imul {z y : Int32} : ma_x x scr mc ms O (.imul) aux k ls (.int y :: .int z :: st) c sl S h K Q = (K (k + 1) ls (.int (z * y) :: st) c sl S h) := rfl
theorem ev_iand {z y : Int32} : ma_x x scr mc ms O (.iand) aux k ls (.int y :: .int z :: st) c sl S h K Q = (K (k + 1) ls (.int (z &&& y) :: st) c sl S h) := rfl
theorem ev_ior {z y : Int32} : ma_x x scr mc ms O (.ior) aux k ls (.int y :: .int z :: st) c sl S h K Q = (K (k + 1) ls (.int (z ||| y) :: st) c sl S h) := rfl
theorem ev_ixor {z y : Int32} : ma_x x scr mc ms O (.ixor) aux k ls (.int y :: .int z :: st) c sl S h K Q = (K (k + 1) ls (.int (z ^^^ y) :: st) c sl S h) := rfl
theorem ev_ishl {z y : Int32} : ma_x x scr mc ms O (.ishl) aux k ls (.int y :: .int z :: st) c sl S h K Q = (K (k + 1) ls (.int (ma_shl z y) :: st) c sl S h) := rfl
theorem ev_ishr {z y : Int32} : ma_x x scr mc ms O (.ishr) aux k ls (.int y :: .int z :: st) c sl S h K Q = (K (k + 1) ls (.int (ma_shr z y) :: st) c sl S h) := rfl
theorem ev_iushr {z y : Int32} : ma_x x scr mc ms O (.iushr) aux k ls (.int y :: .int z :: st) c sl S h K Q = (K (k + 1) ls (.int (ma_ushr z y) :: st) c sl S h) := rfl
theorem ev_idiv {z y : Int32} : ma_x x scr mc ms O (.idiv) aux k ls (.int y :: .int z :: st) c sl S h K Q = (¬ y = 0 ∧ K (k + 1) ls (.int (z / y) :: st) c sl S h) := rfl
theorem ev_irem {z y : Int32} : ma_x x scr mc ms O (.irem) aux k ls (.int y :: .int z :: st) c sl S h K Q = (¬ y = 0 ∧ K (k + 1) ls (.int (ma_irem z y) :: st) c sl S h) := rfl
theorem ev_ladd {z y : Int64} : ma_x x scr mc ms O (.ladd) aux k ls (.long y :: .long z :: st) c sl S h K Q = (K (k + 1) ls (.long (z + y) :: st) c sl S h) := rfl
theorem ev_lmul {z y : Int64} : ma_x x scr mc ms O (.lmul) aux k ls (.long y :: .long z :: st) c sl S h K Q = (K (k + 1) ls (.long (z * y) :: st) c sl S h) := rfl
theorem ev_land {z y : Int64} : ma_x x scr mc ms O (.land) aux k ls (.long y :: .long z :: st) c sl S h K Q = (K (k + 1) ls (.long (z &&& y) :: st) c sl S h) := rfl
theorem ev_lor {z y : Int64} : ma_x x scr mc ms O (.lor) aux k ls (.long y :: .long z :: st) c sl S h K Q = (K (k + 1) ls (.long (z ||| y) :: st) c sl S h) := rfl
theorem ev_ldiv {z y : Int64} : ma_x x scr mc ms O (.ldiv) aux k ls (.long y :: .long z :: st) c sl S h K Q = (¬ y = 0 ∧ K (k + 1) ls (.long (z / y) :: st) c sl S h) := rfl
theorem ev_lrem {z y : Int64} : ma_x x scr mc ms O (.lrem) aux k ls (.long y :: .long z :: st) c sl S h K Q = (¬ y = 0 ∧ K (k + 1) ls (.long (ma_lrem z y) :: st) c sl S h) := rfl
theorem ev_lcmp {z y : Int64} : ma_x x scr mc ms O (.lcmp) aux k ls (.long y :: .long z :: st) c sl S h K Q = (K (k + 1) ls (.int (lg_cmp z y) :: st) c sl S h) := rfl
theorem ev_lshl {z : Int64} {y : Int32} : ma_x x scr mc ms O (.lshl) aux k ls (.int y :: .long z :: st) c sl S h K Q = (K (k + 1) ls (.long (ma_lshl z y) :: st) c sl S h) := rfl
theorem ev_lushr {z : Int64} {y : Int32} : ma_x x scr mc ms O (.lushr) aux k ls (.int y :: .long z :: st) c sl S h K Q = (K (k + 1) ls (.long (ma_lushr z y) :: st) c sl S h) := rfl
theorem ev_i2l {z : Int32} : ma_x x scr mc ms O (.i2l) aux k ls (.int z :: st) c sl S h K Q = (K (k + 1) ls (.long z.toInt64 :: st) c sl S h) := rfl
theorem ev_l2i {z : Int64} : ma_x x scr mc ms O (.l2i) aux k ls (.long z :: st) c sl S h K Q = (K (k + 1) ls (.int z.toInt32 :: st) c sl S h) := rfl
theorem ev_i2b {z : Int32} : ma_x x scr mc ms O (.i2b) aux k ls (.int z :: st) c sl S h K Q = (K (k + 1) ls (.int z.toInt8.toInt32 :: st) c sl S h) := rfl
theorem ev_goto {o : Int} {t : Nat} : ma_x x scr mc ms O (.goto o) [t] k ls st c sl S h K Q = (K t ls st c sl S h) := rfl
theorem ev_icmp_eq {o : Int} {t : Nat} {z y : Int32} : ma_x x scr mc ms O (.if_icmp .eq o) [t] k ls (.int y :: .int z :: st) c sl S h K Q = ((z = y → K t ls st c sl S h) ∧ (¬ z = y → K (k + 1) ls st c sl S h)) := rfl
theorem ev_if_eq {o : Int} {t : Nat} {z : Int32} : ma_x x scr mc ms O (.ifCond .eq o) [t] k ls (.int z :: st) c sl S h K Q = ((z = nI 0 → K t ls st c sl S h) ∧ (¬ z = nI 0 → K (k + 1) ls st c sl S h)) := rfl
theorem ev_icmp_ne {o : Int} {t : Nat} {z y : Int32} : ma_x x scr mc ms O (.if_icmp .ne o) [t] k ls (.int y :: .int z :: st) c sl S h K Q = ((¬ z = y → K t ls st c sl S h) ∧ (z = y → K (k + 1) ls st c sl S h)) := rfl
theorem ev_if_ne {o : Int} {t : Nat} {z : Int32} : ma_x x scr mc ms O (.ifCond .ne o) [t] k ls (.int z :: st) c sl S h K Q = ((¬ z = nI 0 → K t ls st c sl S h) ∧ (z = nI 0 → K (k + 1) ls st c sl S h)) := rfl
theorem ev_icmp_lt {o : Int} {t : Nat} {z y : Int32} : ma_x x scr mc ms O (.if_icmp .lt o) [t] k ls (.int y :: .int z :: st) c sl S h K Q = ((z < y → K t ls st c sl S h) ∧ (¬ z < y → K (k + 1) ls st c sl S h)) := rfl
theorem ev_if_lt {o : Int} {t : Nat} {z : Int32} : ma_x x scr mc ms O (.ifCond .lt o) [t] k ls (.int z :: st) c sl S h K Q = ((z < nI 0 → K t ls st c sl S h) ∧ (¬ z < nI 0 → K (k + 1) ls st c sl S h)) := rfl
theorem ev_icmp_ge {o : Int} {t : Nat} {z y : Int32} : ma_x x scr mc ms O (.if_icmp .ge o) [t] k ls (.int y :: .int z :: st) c sl S h K Q = ((y ≤ z → K t ls st c sl S h) ∧ (¬ y ≤ z → K (k + 1) ls st c sl S h)) := rfl
theorem ev_if_ge {o : Int} {t : Nat} {z : Int32} : ma_x x scr mc ms O (.ifCond .ge o) [t] k ls (.int z :: st) c sl S h K Q = ((nI 0 ≤ z → K t ls st c sl S h) ∧ (¬ nI 0 ≤ z → K (k + 1) ls st c sl S h)) := rfl
theorem ev_icmp_gt {o : Int} {t : Nat} {z y : Int32} : ma_x x scr mc ms O (.if_icmp .gt o) [t] k ls (.int y :: .int z :: st) c sl S h K Q = ((y < z → K t ls st c sl S h) ∧ (¬ y < z → K (k + 1) ls st c sl S h)) := rfl
theorem ev_if_gt {o : Int} {t : Nat} {z : Int32} : ma_x x scr mc ms O (.ifCond .gt o) [t] k ls (.int z :: st) c sl S h K Q = ((nI 0 < z → K t ls st c sl S h) ∧ (¬ nI 0 < z → K (k + 1) ls st c sl S h)) := rfl
theorem ev_icmp_le {o : Int} {t : Nat} {z y : Int32} : ma_x x scr mc ms O (.if_icmp .le o) [t] k ls (.int y :: .int z :: st) c sl S h K Q = ((z ≤ y → K t ls st c sl S h) ∧ (¬ z ≤ y → K (k + 1) ls st c sl S h)) := rfl
theorem ev_if_le {o : Int} {t : Nat} {z : Int32} : ma_x x scr mc ms O (.ifCond .le o) [t] k ls (.int z :: st) c sl S h K Q = ((z ≤ nI 0 → K t ls st c sl S h) ∧ (¬ z ≤ nI 0 → K (k + 1) ls st c sl S h)) := rfl
theorem ev_dup_int {z : Int32} : ma_x x scr mc ms O (.dup) aux k ls (.int z :: st) c sl S h K Q = (K (k + 1) ls (.int z :: .int z :: st) c sl S h) := propext ⟨fun q => q.2, fun q => ⟨rfl, q⟩⟩
theorem ev_pop_int {z : Int32} : ma_x x scr mc ms O (.pop) aux k ls (.int z :: st) c sl S h K Q = (K (k + 1) ls st c sl S h) := propext ⟨fun q => q.2, fun q => ⟨rfl, q⟩⟩
theorem ev_dup_ref {z : Nat} : ma_x x scr mc ms O (.dup) aux k ls (.ref z :: st) c sl S h K Q = (K (k + 1) ls (.ref z :: .ref z :: st) c sl S h) := propext ⟨fun q => q.2, fun q => ⟨rfl, q⟩⟩
theorem ev_pop_ref {z : Nat} : ma_x x scr mc ms O (.pop) aux k ls (.ref z :: st) c sl S h K Q = (K (k + 1) ls st c sl S h) := propext ⟨fun q => q.2, fun q => ⟨rfl, q⟩⟩
theorem ev_dup2 {i : Int32} {a : Nat} : ma_x x scr mc ms O (.dup2) aux k ls (.int i :: .ref a :: st) c sl S h K Q = (K (k + 1) ls (.int i :: .ref a :: .int i :: .ref a :: st) c sl S h) := propext ⟨fun q => q.2.2, fun q => ⟨rfl, rfl, q⟩⟩
theorem ev_get_int {i ci f n w a : Nat} : ma_x x scr mc ms O (.getfield i) [ci, f, 0, n, w] k ls (.ref a :: st) c sl S h K Q = (ma_sh S a = some (.inl ci) ∧ K (k + 1) ls (.int (h.1 a f) :: st) c sl S h) := rfl
theorem ev_put_int {i ci f n w a : Nat} {z : Int32} : ma_x x scr mc ms O (.putfield i) [ci, f, 0, n, w] k ls (.int z :: .ref a :: st) c sl S h K Q = (ma_sh S a = some (.inl ci) ∧ K (k + 1) ls st c sl S (ma_uI h a f z)) := propext ⟨fun q => q.2, fun q => ⟨rfl, q⟩⟩
theorem ev_get_long {i ci f n w a : Nat} : ma_x x scr mc ms O (.getfield i) [ci, f, 1, n, w] k ls (.ref a :: st) c sl S h K Q = (ma_sh S a = some (.inl ci) ∧ K (k + 1) ls (.long (h.2.1 a f) :: st) c sl S h) := rfl
theorem ev_put_long {i ci f n w a : Nat} {z : Int64} : ma_x x scr mc ms O (.putfield i) [ci, f, 1, n, w] k ls (.long z :: .ref a :: st) c sl S h K Q = (ma_sh S a = some (.inl ci) ∧ K (k + 1) ls st c sl S (ma_uL h a f z)) := propext ⟨fun q => q.2, fun q => ⟨rfl, q⟩⟩
theorem ev_get_ref {i ci f n w a : Nat} : ma_x x scr mc ms O (.getfield i) [ci, f, 2, n, w] k ls (.ref a :: st) c sl S h K Q = (ma_sh S a = some (.inl ci) ∧ K (k + 1) ls (.ref (h.2.2 a f) :: st) c sl S h) := rfl
theorem ev_put_ref {i ci f n w a : Nat} {z : Nat} : ma_x x scr mc ms O (.putfield i) [ci, f, 2, n, w] k ls (.ref z :: .ref a :: st) c sl S h K Q = (ma_sh S a = some (.inl ci) ∧ K (k + 1) ls st c sl S (ma_uR h a f z)) := propext ⟨fun q => q.2, fun q => ⟨rfl, q⟩⟩
theorem ev_iaload {i : Int32} {a : Nat} : ma_x x scr mc ms O (.iaload) [] k ls (.int i :: .ref a :: st) c sl S h K Q = (ma_in S a .int i ∧ K (k + 1) ls (.int (h.1 a i.toNatClampNeg) :: st) c sl S h) := rfl
theorem ev_baload {i : Int32} {a : Nat} : ma_x x scr mc ms O (.baload) [0] k ls (.int i :: .ref a :: st) c sl S h K Q = (ma_in S a .byte i ∧ K (k + 1) ls (.int (h.1 a i.toNatClampNeg) :: st) c sl S h) := rfl
theorem ev_zaload {i : Int32} {a : Nat} : ma_x x scr mc ms O (.baload) [1] k ls (.int i :: .ref a :: st) c sl S h K Q = (ma_in S a .boolean i ∧ K (k + 1) ls (.int (h.1 a i.toNatClampNeg) :: st) c sl S h) := rfl
theorem ev_laload {i : Int32} {a : Nat} : ma_x x scr mc ms O (.laload) aux k ls (.int i :: .ref a :: st) c sl S h K Q = (ma_in S a .long i ∧ K (k + 1) ls (.long (h.2.1 a i.toNatClampNeg) :: st) c sl S h) := rfl
theorem ev_aaload {i : Int32} {a : Nat} : ma_x x scr mc ms O (.aaload) aux k ls (.int i :: .ref a :: st) c sl S h K Q = (ma_in S a (.object ma_row) i ∧ K (k + 1) ls (.ref (h.2.2 a i.toNatClampNeg) :: st) c sl S h) := rfl
theorem ev_iastore {i v : Int32} {a : Nat} : ma_x x scr mc ms O (.iastore) aux k ls (.int v :: .int i :: .ref a :: st) c sl S h K Q = (ma_in S a .int i ∧ K (k + 1) ls st c sl S (ma_uI h a i.toNatClampNeg v)) := rfl
theorem ev_bastore {i v : Int32} {a : Nat} : ma_x x scr mc ms O (.bastore) [0] k ls (.int v :: .int i :: .ref a :: st) c sl S h K Q = (ma_in S a .byte i ∧ K (k + 1) ls st c sl S (ma_uI h a i.toNatClampNeg (vp_nar .byte v))) := rfl
theorem ev_zastore {i v : Int32} {a : Nat} : ma_x x scr mc ms O (.bastore) [1] k ls (.int v :: .int i :: .ref a :: st) c sl S h K Q = (ma_in S a .boolean i ∧ K (k + 1) ls st c sl S (ma_uI h a i.toNatClampNeg (vp_nar .boolean v))) := rfl
theorem ev_lastore {i : Int32} {v : Int64} {a : Nat} : ma_x x scr mc ms O (.lastore) aux k ls (.long v :: .int i :: .ref a :: st) c sl S h K Q = (ma_in S a .long i ∧ K (k + 1) ls st c sl S (ma_uL h a i.toNatClampNeg v)) := rfl
theorem ev_aastore {i : Int32} {v a : Nat} : ma_x x scr mc ms O (.aastore) aux k ls (.ref v :: .int i :: .ref a :: st) c sl S h K Q = (ma_in S a (.object ma_row) i ∧ ma_sh S v = some (.inl ma_rowi) ∧ K (k + 1) ls st c sl S (ma_uR h a i.toNatClampNeg v)) := rfl
theorem ev_arraylength {a : Nat} : ma_x x scr mc ms O (.arraylength) [] k ls (.ref a :: st) c sl S h K Q = (∃ n, ma_sh S a = some (.inr (.int, n)) ∧ K (k + 1) ls (.int (nI n) :: st) c sl S h) := rfl
theorem ev_newarray_int {n : Int32} : ma_x x scr mc ms O (.newarray .int) aux k ls (.int n :: st) c sl S h K Q = (x = true ∧ ∃ N, n = nI N ∧ N ≤ 100000 ∧ c + 1 ≤ mc ∧ sl + N ≤ ms ∧ K (k + 1) ls (.ref (S.length + 2) :: st) (c + 1) (sl + N) (S ++ [.inr (.int, N)]) (ma_z h (S.length + 2))) := rfl
theorem ev_newarray_byte {n : Int32} : ma_x x scr mc ms O (.newarray .byte) aux k ls (.int n :: st) c sl S h K Q = (x = true ∧ ∃ N, n = nI N ∧ N ≤ 100000 ∧ c + 1 ≤ mc ∧ sl + N ≤ ms ∧ K (k + 1) ls (.ref (S.length + 2) :: st) (c + 1) (sl + N) (S ++ [.inr (.byte, N)]) (ma_z h (S.length + 2))) := rfl
theorem ev_newarray_boolean {n : Int32} : ma_x x scr mc ms O (.newarray .boolean) aux k ls (.int n :: st) c sl S h K Q = (x = true ∧ ∃ N, n = nI N ∧ N ≤ 100000 ∧ c + 1 ≤ mc ∧ sl + N ≤ ms ∧ K (k + 1) ls (.ref (S.length + 2) :: st) (c + 1) (sl + N) (S ++ [.inr (.boolean, N)]) (ma_z h (S.length + 2))) := rfl
theorem ev_newarray_long {n : Int32} : ma_x x scr mc ms O (.newarray .long) aux k ls (.int n :: st) c sl S h K Q = (x = true ∧ ∃ N, n = nI N ∧ N ≤ 100000 ∧ c + 1 ≤ mc ∧ sl + N ≤ ms ∧ K (k + 1) ls (.ref (S.length + 2) :: st) (c + 1) (sl + N) (S ++ [.inr (.long, N)]) (ma_z h (S.length + 2))) := rfl
theorem ev_anewarray {i : Nat} {n : Int32} : ma_x x scr mc ms O (.anewarray i) aux k ls (.int n :: st) c sl S h K Q = (x = true ∧ ∃ N, n = nI N ∧ N ≤ 100000 ∧ c + 1 ≤ mc ∧ sl + N ≤ ms ∧ K (k + 1) ls (.ref (S.length + 2) :: st) (c + 1) (sl + N) (S ++ [.inr (.object ma_row, N)]) (ma_z h (S.length + 2))) := rfl
theorem ev_new {i ci N : Nat} {l : List Nat} : ma_x x scr mc ms O (.new i) (ci :: N :: l) k ls st c sl S h K Q = (x = true ∧ c + 1 ≤ mc ∧ sl + N ≤ ms ∧ K (k + 1) ls (.ref (S.length + 2) :: st) (c + 1) (sl + N) (S ++ [.inl ci]) (ma_z h (S.length + 2))) := rfl
theorem ev_virt_0 {i t ci a : Nat} {l : List Nat}  : ma_x x scr mc ms O (.invokevirtual i) (t :: 0 :: ci :: l) k ls (.ref a :: rest) c sl S h K Q = (ma_sh S a = some (.inl ci) ∧ ma_call mc ms O t [.ref a] rest c sl S h (K (k + 1) ls)) := rfl
theorem ev_spec_0 {i t a : Nat} {l : List Nat}  : ma_x x scr mc ms O (.invokespecial i) ((t + 1) :: 0 :: l) k ls (.ref a :: rest) c sl S h K Q = ((∃ ci, ma_sh S a = some (.inl ci)) ∧ ma_call mc ms O (t + 1) [.ref a] rest c sl S h (K (k + 1) ls)) := rfl
theorem ev_stat_0 {i t : Nat} {l : List Nat}  : ma_x x scr mc ms O (.invokestatic i) ((t + 1) :: 0 :: l) k ls (rest) c sl S h K Q = (ma_call mc ms O (t + 1) [] rest c sl S h (K (k + 1) ls)) := rfl
theorem ev_virt_1 {i t ci a : Nat} {l : List Nat} {v1 : Value}  : ma_x x scr mc ms O (.invokevirtual i) (t :: 1 :: ci :: l) k ls (v1 :: .ref a :: rest) c sl S h K Q = (ma_sh S a = some (.inl ci) ∧ ma_call mc ms O t [.ref a, v1] rest c sl S h (K (k + 1) ls)) := rfl
theorem ev_spec_1 {i t a : Nat} {l : List Nat} {v1 : Value}  : ma_x x scr mc ms O (.invokespecial i) ((t + 1) :: 1 :: l) k ls (v1 :: .ref a :: rest) c sl S h K Q = ((∃ ci, ma_sh S a = some (.inl ci)) ∧ ma_call mc ms O (t + 1) [.ref a, v1] rest c sl S h (K (k + 1) ls)) := rfl
theorem ev_stat_1 {i t : Nat} {l : List Nat} {v1 : Value}  : ma_x x scr mc ms O (.invokestatic i) ((t + 1) :: 1 :: l) k ls (v1 :: rest) c sl S h K Q = (ma_call mc ms O (t + 1) [v1] rest c sl S h (K (k + 1) ls)) := rfl
theorem ev_virt_2 {i t ci a : Nat} {l : List Nat} {v1 v2 : Value}  : ma_x x scr mc ms O (.invokevirtual i) (t :: 2 :: ci :: l) k ls (v2 :: v1 :: .ref a :: rest) c sl S h K Q = (ma_sh S a = some (.inl ci) ∧ ma_call mc ms O t [.ref a, v1, v2] rest c sl S h (K (k + 1) ls)) := rfl
theorem ev_spec_2 {i t a : Nat} {l : List Nat} {v1 v2 : Value}  : ma_x x scr mc ms O (.invokespecial i) ((t + 1) :: 2 :: l) k ls (v2 :: v1 :: .ref a :: rest) c sl S h K Q = ((∃ ci, ma_sh S a = some (.inl ci)) ∧ ma_call mc ms O (t + 1) [.ref a, v1, v2] rest c sl S h (K (k + 1) ls)) := rfl
theorem ev_stat_2 {i t : Nat} {l : List Nat} {v1 v2 : Value}  : ma_x x scr mc ms O (.invokestatic i) ((t + 1) :: 2 :: l) k ls (v2 :: v1 :: rest) c sl S h K Q = (ma_call mc ms O (t + 1) [v1, v2] rest c sl S h (K (k + 1) ls)) := rfl
theorem ev_virt_3 {i t ci a : Nat} {l : List Nat} {v1 v2 v3 : Value}  : ma_x x scr mc ms O (.invokevirtual i) (t :: 3 :: ci :: l) k ls (v3 :: v2 :: v1 :: .ref a :: rest) c sl S h K Q = (ma_sh S a = some (.inl ci) ∧ ma_call mc ms O t [.ref a, v1, v2, v3] rest c sl S h (K (k + 1) ls)) := rfl
theorem ev_spec_3 {i t a : Nat} {l : List Nat} {v1 v2 v3 : Value}  : ma_x x scr mc ms O (.invokespecial i) ((t + 1) :: 3 :: l) k ls (v3 :: v2 :: v1 :: .ref a :: rest) c sl S h K Q = ((∃ ci, ma_sh S a = some (.inl ci)) ∧ ma_call mc ms O (t + 1) [.ref a, v1, v2, v3] rest c sl S h (K (k + 1) ls)) := rfl
theorem ev_stat_3 {i t : Nat} {l : List Nat} {v1 v2 v3 : Value}  : ma_x x scr mc ms O (.invokestatic i) ((t + 1) :: 3 :: l) k ls (v3 :: v2 :: v1 :: rest) c sl S h K Q = (ma_call mc ms O (t + 1) [v1, v2, v3] rest c sl S h (K (k + 1) ls)) := rfl
theorem ev_virt_4 {i t ci a : Nat} {l : List Nat} {v1 v2 v3 v4 : Value} : ma_x x scr mc ms O (.invokevirtual i) (t :: 4 :: ci :: l) k ls (v4 :: v3 :: v2 :: v1 :: .ref a :: rest) c sl S h K Q = (ma_sh S a = some (.inl ci) ∧ ma_call mc ms O t [.ref a, v1, v2, v3, v4] rest c sl S h (K (k + 1) ls)) := rfl
theorem ev_objinit {i a : Nat} {l : List Nat} : ma_x x scr mc ms O (.invokespecial i) (0 :: l) k ls (.ref a :: st) c sl S h K Q = ((∃ ci, ma_sh S a = some (.inl ci)) ∧ ma_cat st ≤ 8 ∧ K (k + 1) ls st c sl S h) := rfl
theorem ev_arraycopy {i a a0 : Nat} {n dp sp : Int32} {l : List Nat} : ma_x x scr mc ms O (.invokestatic i) (0 :: l) k ls (.int n :: .int dp :: .ref a :: .int sp :: .ref a0 :: rest) c sl S h K Q = (ma_cat rest ≤ 8 ∧ ∃ N0 N1 d0 d1 m, ma_sh S a0 = some (.inr (.int, N0)) ∧ ma_sh S a = some (.inr (.int, N1)) ∧ sp = nI d0 ∧ dp = nI d1 ∧ n = nI m ∧ d0 + m ≤ N0 ∧ d1 + m ≤ N1 ∧ N0 < 100000 ∧ N1 < 100000 ∧ K (k + 1) ls rest c sl S (ma_cp h a0 d0 a d1 m)) := rfl
theorem ev_ireturn {v : Int32} : ma_x x scr mc ms O (.ireturn) [0] k ls [.int v] c sl S h K Q = (c ≤ mc ∧ sl ≤ ms ∧ (x = true → c = mc) ∧ Q (some (.int v)) S h) := propext ⟨fun q => q.2, fun q => ⟨fun e => absurd e (by decide), q⟩⟩
theorem ev_zreturn {v : Int32} : ma_x x scr mc ms O (.ireturn) [1] k ls [.int v] c sl S h K Q = ((v = nI 0 ∨ v = nI 1) ∧ c ≤ mc ∧ sl ≤ ms ∧ (x = true → c = mc) ∧ Q (some (.int v)) S h) := propext ⟨fun q => ⟨q.1 rfl, q.2⟩, fun q => ⟨fun _ => q.1, q.2⟩⟩
theorem ev_areturn {v : Nat} : ma_x x scr mc ms O (.areturn) aux k ls [.ref v] c sl S h K Q = (c ≤ mc ∧ sl ≤ ms ∧ (x = true → c = mc) ∧ Q (some (.ref v)) S h) := rfl
theorem ev_return : ma_x x scr mc ms O (.return_) aux k ls [] c sl S h K Q = (c ≤ mc ∧ sl ≤ ms ∧ (x = true → c = mc) ∧ Q none S h) := rfl
theorem ev_switch {d lo hi : Int} {offs : Array Int} {t : Nat} {ts : List Nat} {z : Int32} : ma_x x scr mc ms O (.tableswitch d lo hi offs) (t :: ts) k ls (.int z :: st) c sl S h K Q = (ma_sw z (fun t => K t ls st c sl S h) 0 ts ∧ (¬ vp_in z ts.length → K t ls st c sl S h)) := rfl
end
theorem ev_ma_gi_0 {z : Int32} {t : List (Option Value)} {F : Int32 → Prop} : ma_gi (some (.int z) :: t) 0 F = F z := rfl
theorem ev_ma_gi_s {a : Option Value} {n : Nat} {t : List (Option Value)} {F : Int32 → Prop} : ma_gi (a :: t) (n + 1) F = ma_gi t n F := by
  unfold ma_gi
  rw [List.getElem?_cons_succ]
theorem ev_ma_gl_0 {z : Int64} {t : List (Option Value)} {F : Int64 → Prop} : ma_gl (some (.long z) :: t) 0 F = F z := rfl
theorem ev_ma_gl_s {a : Option Value} {n : Nat} {t : List (Option Value)} {F : Int64 → Prop} : ma_gl (a :: t) (n + 1) F = ma_gl t n F := by
  unfold ma_gl
  rw [List.getElem?_cons_succ]
theorem ev_ma_gr_0 {z : Nat} {t : List (Option Value)} {F : Nat → Prop} : ma_gr (some (.ref z) :: t) 0 F = F z := rfl
theorem ev_ma_gr_s {a : Option Value} {n : Nat} {t : List (Option Value)} {F : Nat → Prop} : ma_gr (a :: t) (n + 1) F = ma_gr t n F := by
  unfold ma_gr
  rw [List.getElem?_cons_succ]
theorem ev_set_0 {a : Option Value} {t : List (Option Value)} {v : Value} : ma_set1 (a :: t) 0 v = some v :: t := rfl
theorem ev_set_1n {b : Option Value} {t : List (Option Value)} {v : Value} : ma_set1 (none :: b :: t) 1 v = none :: some v :: t := rfl
theorem ev_set_1i {z : Int32} {b : Option Value} {t : List (Option Value)} {v : Value} : ma_set1 (some (.int z) :: b :: t) 1 v = some (.int z) :: some v :: t := rfl
theorem ev_set_1r {z : Nat} {b : Option Value} {t : List (Option Value)} {v : Value} : ma_set1 (some (.ref z) :: b :: t) 1 v = some (.ref z) :: some v :: t := rfl
theorem ev_set_1l {z : Int64} {b : Option Value} {t : List (Option Value)} {v : Value} : ma_set1 (some (.long z) :: b :: t) 1 v = none :: some v :: t := rfl
theorem ma_kill_s {a : Option Value} {n : Nat} {t : List (Option Value)} : ma_kill (a :: t) (n + 2) = a :: ma_kill t (n + 1) := by
  show (match (a :: t)[n + 1]? with
    | some (some v) => if v.category = 2 then (a :: t).set (n + 1) none else a :: t
    | _ => a :: t) = a :: (match t[n]? with
    | some (some v) => if v.category = 2 then t.set n none else t
    | _ => t)
  rw [List.getElem?_cons_succ]
  split
  · split <;> rfl
  · rfl
theorem ev_set_s {a : Option Value} {n : Nat} {t : List (Option Value)} {v : Value} : ma_set1 (a :: t) (n + 2) v = a :: ma_set1 t (n + 1) v := by
  unfold ma_set1
  rw [ma_kill_s]
  rfl
theorem ev_sel_0 {a b : Option Value} {t : List (Option Value)} {v : Value} : ma_set2 (a :: b :: t) 0 v = some v :: none :: t := rfl
theorem ev_sel_1n {a b : Option Value} {t : List (Option Value)} {v : Value} : ma_set2 (none :: a :: b :: t) 1 v = none :: some v :: none :: t := rfl
theorem ev_sel_1i {z : Int32} {a b : Option Value} {t : List (Option Value)} {v : Value} : ma_set2 (some (.int z) :: a :: b :: t) 1 v = some (.int z) :: some v :: none :: t := rfl
theorem ev_sel_1r {z : Nat} {a b : Option Value} {t : List (Option Value)} {v : Value} : ma_set2 (some (.ref z) :: a :: b :: t) 1 v = some (.ref z) :: some v :: none :: t := rfl
theorem ev_sel_1l {z : Int64} {a b : Option Value} {t : List (Option Value)} {v : Value} : ma_set2 (some (.long z) :: a :: b :: t) 1 v = none :: some v :: none :: t := rfl
theorem ev_sel_s {a : Option Value} {n : Nat} {t : List (Option Value)} {v : Value} : ma_set2 (a :: t) (n + 2) v = a :: ma_set2 t (n + 1) v := by
  unfold ma_set2
  rw [ma_kill_s]
  rfl
theorem ev_cat_0 : ma_cat [] = 0 := rfl
theorem ev_cat_i {z : Int32} {t : List Value} : ma_cat (.int z :: t) = 1 + ma_cat t := rfl
theorem ev_cat_r {z : Nat} {t : List Value} : ma_cat (.ref z :: t) = 1 + ma_cat t := rfl
theorem ev_cat_l {z : Int64} {t : List Value} : ma_cat (.long z :: t) = 2 + ma_cat t := rfl
theorem ev_wp {x : Bool} {scr : Option (Nat × (Nat → Int32))} {mc ms : Nat} {O : ma_O} {P : List ma_E} {Q : ma_P} {cuts : List Nat} {C : ma_K} {n k : Nat} {ls : List (Option Value)} {st : List Value} {c sl : Nat} {S : ma_S} {h : ma_H} : ma_wp x scr mc ms O P Q cuts C (n + 1) k ls st c sl S h = if k ∈ cuts then C k ls st c sl S h else ma_go x scr mc ms O P Q (ma_wp x scr mc ms O P Q cuts C n) k ls st c sl S h := rfl
def ev_A := (And.intro @ev_iconst (And.intro @ev_iconst_m (And.intro @ev_bipush (And.intro @ev_bipush_m (And.intro @ev_sipush (And.intro @ev_sipush_m (And.intro @ev_ldc (And.intro @ev_ldc_w (And.intro @ev_ldc2_w (And.intro @ev_lconst (And.intro @ev_iload (And.intro @ev_iload_0 (And.intro @ev_iload_1 (And.intro @ev_iload_2 (And.intro @ev_iload_3 (And.intro @ev_lload (And.intro @ev_lload_0 (And.intro @ev_lload_1 (And.intro @ev_lload_2 (And.intro @ev_lload_3 (And.intro @ev_aload (And.intro @ev_aload_0 (And.intro @ev_aload_1 (And.intro @ev_aload_2 (And.intro @ev_aload_3 (And.intro @ev_istore (And.intro @ev_istore_0 (And.intro @ev_istore_1 (And.intro @ev_istore_2 (And.intro @ev_istore_3 (And.intro @ev_astore (And.intro @ev_astore_0 (And.intro @ev_astore_1 (And.intro @ev_astore_2 (And.intro @ev_astore_3 (And.intro @ev_lstore (And.intro @ev_lstore_0 (And.intro @ev_lstore_1 (And.intro @ev_lstore_2 @ev_lstore_3)))))))))))))))))))))))))))))))))))))))
def ev_B := (And.intro @ev_iinc (And.intro @ev_iinc_m (And.intro @ev_iadd (And.intro @ev_isub (And.intro @ev_imul (And.intro @ev_iand (And.intro @ev_ior (And.intro @ev_ixor (And.intro @ev_ishl (And.intro @ev_ishr (And.intro @ev_iushr (And.intro @ev_idiv (And.intro @ev_irem (And.intro @ev_ladd (And.intro @ev_lmul (And.intro @ev_land (And.intro @ev_lor (And.intro @ev_ldiv (And.intro @ev_lrem (And.intro @ev_lcmp (And.intro @ev_lshl (And.intro @ev_lushr (And.intro @ev_i2l (And.intro @ev_l2i (And.intro @ev_i2b (And.intro @ev_goto (And.intro @ev_icmp_eq (And.intro @ev_if_eq (And.intro @ev_icmp_ne (And.intro @ev_if_ne (And.intro @ev_icmp_lt (And.intro @ev_if_lt (And.intro @ev_icmp_ge (And.intro @ev_if_ge (And.intro @ev_icmp_gt (And.intro @ev_if_gt (And.intro @ev_icmp_le (And.intro @ev_if_le (And.intro @ev_dup_int @ev_pop_int)))))))))))))))))))))))))))))))))))))))
def ev_C := (And.intro @ev_dup_ref (And.intro @ev_pop_ref (And.intro @ev_dup2 (And.intro @ev_get_int (And.intro @ev_put_int (And.intro @ev_get_long (And.intro @ev_put_long (And.intro @ev_get_ref (And.intro @ev_put_ref (And.intro @ev_iaload (And.intro @ev_baload (And.intro @ev_zaload (And.intro @ev_laload (And.intro @ev_aaload (And.intro @ev_iastore (And.intro @ev_bastore (And.intro @ev_zastore (And.intro @ev_lastore (And.intro @ev_aastore (And.intro @ev_arraylength (And.intro @ev_newarray_int (And.intro @ev_newarray_byte (And.intro @ev_newarray_boolean (And.intro @ev_newarray_long (And.intro @ev_anewarray (And.intro @ev_new (And.intro @ev_virt_0 (And.intro @ev_spec_0 (And.intro @ev_stat_0 (And.intro @ev_virt_1 (And.intro @ev_spec_1 (And.intro @ev_stat_1 (And.intro @ev_virt_2 (And.intro @ev_spec_2 (And.intro @ev_stat_2 (And.intro @ev_virt_3 (And.intro @ev_spec_3 (And.intro @ev_stat_3 (And.intro @ev_virt_4 @ev_objinit)))))))))))))))))))))))))))))))))))))))
def ev_D := (And.intro @ev_arraycopy (And.intro @ev_ireturn (And.intro @ev_zreturn (And.intro @ev_areturn (And.intro @ev_return (And.intro @ev_switch (And.intro @ev_ma_gi_0 (And.intro @ev_ma_gi_s (And.intro @ev_ma_gl_0 (And.intro @ev_ma_gl_s (And.intro @ev_ma_gr_0 (And.intro @ev_ma_gr_s (And.intro @ev_set_0 (And.intro @ev_set_1n (And.intro @ev_set_1i (And.intro @ev_set_1r (And.intro @ev_set_1l (And.intro @ev_set_s (And.intro @ev_sel_0 (And.intro @ev_sel_1n (And.intro @ev_sel_1i (And.intro @ev_sel_1r (And.intro @ev_sel_1l (And.intro @ev_sel_s (And.intro @ev_cat_0 (And.intro @ev_cat_i (And.intro @ev_cat_r (And.intro @ev_cat_l @ev_wp))))))))))))))))))))))))))))
/-- what a method makes nothing: its counts are 0 -/
theorem ma_run0 {l : Launch} {g : ma_G} {x : Bool} {scr : Option (Nat × (Nat → Int32))} {mi : ma_M} {P : List ma_E} {Q : ma_P} (hok : ma_ok mi P) (h1 : mi.2.2.2.2.2.1 = 0) (h2 : mi.2.2.2.2.2.2 = 0) (cuts : List Nat) (n : Nat) {k : Nat} {ls : List (Option Value)} {st : List Value} {c sl : Nat} {S : ma_S} {h : ma_H} (hx : ma_go x scr 0 0 (ma_or l g x) P Q (ma_wp x scr 0 0 (ma_or l g x) P Q cuts (ma_J l g x scr mi P Q) n) k ls st c sl S h) : ma_J l g x scr mi P Q k ls st c sl S h := by
  refine ma_run hok cuts n ?_
  rw [h1, h2]
  exact hx
/-- a call of what makes nothing and answers one thing -/
theorem ma_callD {l : Launch} {g : ma_G} {x : Bool} {mc ms t : Nat} {mi : ma_M} {av rest : List Value} {c sl : Nat} {S : ma_S} {h h1 : ma_H} {r : Option Value} {F : List Value → Nat → Nat → ma_S → ma_H → Prop} (hm : ma_mt[t]? = some mi) (e1 : mi.2.2.2.2.2.1 = 0) (e2 : mi.2.2.2.2.2.2 = 0) (hcat : ma_cat rest ≤ 8) (hc : c ≤ mc) (hs : sl ≤ ms) (hM : ma_PM l g x mi av S h (fun v S' h' => v = r ∧ S' = S ∧ h' = h1)) (hF : F (r.toList ++ rest) c sl S h1) : ma_call mc ms (ma_or l g x) t av rest c sl S h F :=
  ⟨hcat, 0, 0, _, ⟨mi, hm, e1, e2, hM⟩, hc, hs, fun v S' h' q => by obtain ⟨rfl, rfl, rfl⟩ := q; exact hF⟩
/-- a call of what makes nothing -/
theorem ma_callP {l : Launch} {g : ma_G} {x : Bool} {mc ms t : Nat} {mi : ma_M} {av rest : List Value} {c sl : Nat} {S : ma_S} {h : ma_H} {post : ma_P} {F : List Value → Nat → Nat → ma_S → ma_H → Prop} (hm : ma_mt[t]? = some mi) (e1 : mi.2.2.2.2.2.1 = 0) (e2 : mi.2.2.2.2.2.2 = 0) (hcat : ma_cat rest ≤ 8) (hc : c ≤ mc) (hs : sl ≤ ms) (hM : ma_PM l g x mi av S h post) (hF : ∀ v S' h', post v S' h' → F (v.toList ++ rest) c sl S' h') : ma_call mc ms (ma_or l g x) t av rest c sl S h F :=
  ⟨hcat, 0, 0, _, ⟨mi, hm, e1, e2, hM⟩, hc, hs, hF⟩
