section XRows
variable {l : Launch} {x : xX} {d mc ms : Nat} {μ : xM} {n0 : Nat} {Q : xO → xH → Prop} {cl : Bool} {k : Nat} {L : xL} {S : List Value} {H : xH} {uc us : Nat}
variable {a b : Int32} {f g : Int64} {i r : Nat} {v w : Value}
theorem xs_iconst {n : Int} (hc : μ.2.2.2.2.2[k]? = some (.iconst n)) (kk : xW l x d mc ms μ n0 Q cl (k + 1) L (.int (Int32.ofInt n) :: S) H uc us) : xW l x d mc ms μ n0 Q cl k L (S) H uc us :=
  xW.pure (S' := .int (Int32.ofInt n) :: S) hc (fun p e s m args below meth c ls Hh locs Qw pc hx hb hd w => lv_iconst hx hb hd rfl w) kk
theorem xs_bipush {n : Int} (hc : μ.2.2.2.2.2[k]? = some (.bipush n)) (kk : xW l x d mc ms μ n0 Q cl (k + 1) L (.int (Int8.ofInt n).toInt32 :: S) H uc us) : xW l x d mc ms μ n0 Q cl k L (S) H uc us :=
  xW.pure (S' := .int (Int8.ofInt n).toInt32 :: S) hc (fun p e s m args below meth c ls Hh locs Qw pc hx hb hd w => lv_bipush hx hb hd rfl w) kk
theorem xs_sipush {n : Int} (hc : μ.2.2.2.2.2[k]? = some (.sipush n)) (kk : xW l x d mc ms μ n0 Q cl (k + 1) L (.int (Int16.ofInt n).toInt32 :: S) H uc us) : xW l x d mc ms μ n0 Q cl k L (S) H uc us :=
  xW.pure (S' := .int (Int16.ofInt n).toInt32 :: S) hc (fun p e s m args below meth c ls Hh locs Qw pc hx hb hd w => lv_sipush hx hb hd rfl w) kk
theorem xs_lconst {n : Fin 2} (hc : μ.2.2.2.2.2[k]? = some (.lconst n)) (kk : xW l x d mc ms μ n0 Q cl (k + 1) L (.long (Int64.ofNat (n : Nat)) :: S) H uc us) : xW l x d mc ms μ n0 Q cl k L (S) H uc us :=
  xW.pure (S' := .long (Int64.ofNat (n : Nat)) :: S) hc (fun p e s m args below meth c ls Hh locs Qw pc hx hb hd w => lv_lconst hx hb hd rfl w) kk
theorem xs_iadd (hc : μ.2.2.2.2.2[k]? = some .iadd) (kk : xW l x d mc ms μ n0 Q cl (k + 1) L (.int (a + b) :: S) H uc us) : xW l x d mc ms μ n0 Q cl k L (.int b :: .int a :: S) H uc us :=
  xW.pure (S' := .int (a + b) :: S) hc (fun p e s m args below meth c ls Hh locs Qw pc hx hb hd w => lv_iadd hx hb hd w) kk
theorem xs_isub (hc : μ.2.2.2.2.2[k]? = some .isub) (kk : xW l x d mc ms μ n0 Q cl (k + 1) L (.int (a - b) :: S) H uc us) : xW l x d mc ms μ n0 Q cl k L (.int b :: .int a :: S) H uc us :=
  xW.pure (S' := .int (a - b) :: S) hc (fun p e s m args below meth c ls Hh locs Qw pc hx hb hd w => lv_isub hx hb hd w) kk
theorem xs_imul (hc : μ.2.2.2.2.2[k]? = some .imul) (kk : xW l x d mc ms μ n0 Q cl (k + 1) L (.int (a * b) :: S) H uc us) : xW l x d mc ms μ n0 Q cl k L (.int b :: .int a :: S) H uc us :=
  xW.pure (S' := .int (a * b) :: S) hc (fun p e s m args below meth c ls Hh locs Qw pc hx hb hd w => lv_imul hx hb hd w) kk
theorem xs_iand (hc : μ.2.2.2.2.2[k]? = some .iand) (kk : xW l x d mc ms μ n0 Q cl (k + 1) L (.int (a &&& b) :: S) H uc us) : xW l x d mc ms μ n0 Q cl k L (.int b :: .int a :: S) H uc us :=
  xW.pure (S' := .int (a &&& b) :: S) hc (fun p e s m args below meth c ls Hh locs Qw pc hx hb hd w => lv_iand hx hb hd w) kk
theorem xs_ior (hc : μ.2.2.2.2.2[k]? = some .ior) (kk : xW l x d mc ms μ n0 Q cl (k + 1) L (.int (a ||| b) :: S) H uc us) : xW l x d mc ms μ n0 Q cl k L (.int b :: .int a :: S) H uc us :=
  xW.pure (S' := .int (a ||| b) :: S) hc (fun p e s m args below meth c ls Hh locs Qw pc hx hb hd w => lv_ior hx hb hd w) kk
theorem xs_ixor (hc : μ.2.2.2.2.2[k]? = some .ixor) (kk : xW l x d mc ms μ n0 Q cl (k + 1) L (.int (a ^^^ b) :: S) H uc us) : xW l x d mc ms μ n0 Q cl k L (.int b :: .int a :: S) H uc us :=
  xW.pure (S' := .int (a ^^^ b) :: S) hc (fun p e s m args below meth c ls Hh locs Qw pc hx hb hd w => lv_ixor hx hb hd w) kk
theorem xs_ishl (hc : μ.2.2.2.2.2[k]? = some .ishl) (kk : xW l x d mc ms μ n0 Q cl (k + 1) L (.int (a <<< (b &&& 31)) :: S) H uc us) : xW l x d mc ms μ n0 Q cl k L (.int b :: .int a :: S) H uc us :=
  xW.pure (S' := .int (a <<< (b &&& 31)) :: S) hc (fun p e s m args below meth c ls Hh locs Qw pc hx hb hd w => lv_ishl hx hb hd w) kk
theorem xs_ishr (hc : μ.2.2.2.2.2[k]? = some .ishr) (kk : xW l x d mc ms μ n0 Q cl (k + 1) L (.int (a >>> (b &&& 31)) :: S) H uc us) : xW l x d mc ms μ n0 Q cl k L (.int b :: .int a :: S) H uc us :=
  xW.pure (S' := .int (a >>> (b &&& 31)) :: S) hc (fun p e s m args below meth c ls Hh locs Qw pc hx hb hd w => lv_ishr hx hb hd w) kk
theorem xs_idiv (hc : μ.2.2.2.2.2[k]? = some .idiv) (hne : ¬ b = 0) (kk : xW l x d mc ms μ n0 Q cl (k + 1) L (.int (a / b) :: S) H uc us) : xW l x d mc ms μ n0 Q cl k L (.int b :: .int a :: S) H uc us :=
  xW.pure (S' := .int (a / b) :: S) hc (fun p e s m args below meth c ls Hh locs Qw pc hx hb hd w => lv_idiv hx hb hd hne w) kk
theorem xs_irem (hc : μ.2.2.2.2.2[k]? = some .irem) (hne : ¬ b = 0) (kk : xW l x d mc ms μ n0 Q cl (k + 1) L (.int (a - a / b * b) :: S) H uc us) : xW l x d mc ms μ n0 Q cl k L (.int b :: .int a :: S) H uc us :=
  xW.pure (S' := .int (a - a / b * b) :: S) hc (fun p e s m args below meth c ls Hh locs Qw pc hx hb hd w => lv_irem hx hb hd hne w) kk
theorem xs_ineg (hc : μ.2.2.2.2.2[k]? = some .ineg) (kk : xW l x d mc ms μ n0 Q cl (k + 1) L (.int (-a) :: S) H uc us) : xW l x d mc ms μ n0 Q cl k L (.int a :: S) H uc us :=
  xW.pure (S' := .int (-a) :: S) hc (fun p e s m args below meth c ls Hh locs Qw pc hx hb hd w => lv_ineg hx hb hd w) kk
theorem xs_iushr (hc : μ.2.2.2.2.2[k]? = some .iushr) (kk : xW l x d mc ms μ n0 Q cl (k + 1) L (.int (a.toUInt32 >>> (b.toUInt32 &&& Int32.toUInt32 31)).toInt32 :: S) H uc us) : xW l x d mc ms μ n0 Q cl k L (.int b :: .int a :: S) H uc us :=
  xW.pure (S' := .int (a.toUInt32 >>> (b.toUInt32 &&& Int32.toUInt32 31)).toInt32 :: S) hc (fun p e s m args below meth c ls Hh locs Qw pc hx hb hd w => lv_iushr hx hb hd rfl w) kk
theorem xs_ladd (hc : μ.2.2.2.2.2[k]? = some .ladd) (kk : xW l x d mc ms μ n0 Q cl (k + 1) L (.long (f + g) :: S) H uc us) : xW l x d mc ms μ n0 Q cl k L (.long g :: .long f :: S) H uc us :=
  xW.pure (S' := .long (f + g) :: S) hc (fun p e s m args below meth c ls Hh locs Qw pc hx hb hd w => lv_ladd hx hb hd w) kk
theorem xs_lsub (hc : μ.2.2.2.2.2[k]? = some .lsub) (kk : xW l x d mc ms μ n0 Q cl (k + 1) L (.long (f - g) :: S) H uc us) : xW l x d mc ms μ n0 Q cl k L (.long g :: .long f :: S) H uc us :=
  xW.pure (S' := .long (f - g) :: S) hc (fun p e s m args below meth c ls Hh locs Qw pc hx hb hd w => lv_lsub hx hb hd w) kk
theorem xs_lmul (hc : μ.2.2.2.2.2[k]? = some .lmul) (kk : xW l x d mc ms μ n0 Q cl (k + 1) L (.long (f * g) :: S) H uc us) : xW l x d mc ms μ n0 Q cl k L (.long g :: .long f :: S) H uc us :=
  xW.pure (S' := .long (f * g) :: S) hc (fun p e s m args below meth c ls Hh locs Qw pc hx hb hd w => lv_lmul hx hb hd w) kk
theorem xs_land (hc : μ.2.2.2.2.2[k]? = some .land) (kk : xW l x d mc ms μ n0 Q cl (k + 1) L (.long (f &&& g) :: S) H uc us) : xW l x d mc ms μ n0 Q cl k L (.long g :: .long f :: S) H uc us :=
  xW.pure (S' := .long (f &&& g) :: S) hc (fun p e s m args below meth c ls Hh locs Qw pc hx hb hd w => lv_land hx hb hd w) kk
theorem xs_lor (hc : μ.2.2.2.2.2[k]? = some .lor) (kk : xW l x d mc ms μ n0 Q cl (k + 1) L (.long (f ||| g) :: S) H uc us) : xW l x d mc ms μ n0 Q cl k L (.long g :: .long f :: S) H uc us :=
  xW.pure (S' := .long (f ||| g) :: S) hc (fun p e s m args below meth c ls Hh locs Qw pc hx hb hd w => lv_lor hx hb hd w) kk
theorem xs_lxor (hc : μ.2.2.2.2.2[k]? = some .lxor) (kk : xW l x d mc ms μ n0 Q cl (k + 1) L (.long (f ^^^ g) :: S) H uc us) : xW l x d mc ms μ n0 Q cl k L (.long g :: .long f :: S) H uc us :=
  xW.pure (S' := .long (f ^^^ g) :: S) hc (fun p e s m args below meth c ls Hh locs Qw pc hx hb hd w => lv_lxor hx hb hd w) kk
theorem xs_ldiv (hc : μ.2.2.2.2.2[k]? = some .ldiv) (hne : ¬ g = 0) (kk : xW l x d mc ms μ n0 Q cl (k + 1) L (.long (f / g) :: S) H uc us) : xW l x d mc ms μ n0 Q cl k L (.long g :: .long f :: S) H uc us :=
  xW.pure (S' := .long (f / g) :: S) hc (fun p e s m args below meth c ls Hh locs Qw pc hx hb hd w => lv_ldiv hx hb hd hne w) kk
theorem xs_lrem (hc : μ.2.2.2.2.2[k]? = some .lrem) (hne : ¬ g = 0) (kk : xW l x d mc ms μ n0 Q cl (k + 1) L (.long (f - f / g * g) :: S) H uc us) : xW l x d mc ms μ n0 Q cl k L (.long g :: .long f :: S) H uc us :=
  xW.pure (S' := .long (f - f / g * g) :: S) hc (fun p e s m args below meth c ls Hh locs Qw pc hx hb hd w => lv_lrem hx hb hd hne w) kk
theorem xs_lshl (hc : μ.2.2.2.2.2[k]? = some .lshl) (kk : xW l x d mc ms μ n0 Q cl (k + 1) L (.long (f <<< (b.toInt64 &&& 63)) :: S) H uc us) : xW l x d mc ms μ n0 Q cl k L (.int b :: .long f :: S) H uc us :=
  xW.pure (S' := .long (f <<< (b.toInt64 &&& 63)) :: S) hc (fun p e s m args below meth c ls Hh locs Qw pc hx hb hd w => lv_lshl hx hb hd rfl w) kk
theorem xs_lshr (hc : μ.2.2.2.2.2[k]? = some .lshr) (kk : xW l x d mc ms μ n0 Q cl (k + 1) L (.long (f >>> (b.toInt64 &&& 63)) :: S) H uc us) : xW l x d mc ms μ n0 Q cl k L (.int b :: .long f :: S) H uc us :=
  xW.pure (S' := .long (f >>> (b.toInt64 &&& 63)) :: S) hc (fun p e s m args below meth c ls Hh locs Qw pc hx hb hd w => lv_lshr hx hb hd rfl w) kk
theorem xs_i2l (hc : μ.2.2.2.2.2[k]? = some .i2l) (kk : xW l x d mc ms μ n0 Q cl (k + 1) L (.long a.toInt64 :: S) H uc us) : xW l x d mc ms μ n0 Q cl k L (.int a :: S) H uc us :=
  xW.pure (S' := .long a.toInt64 :: S) hc (fun p e s m args below meth c ls Hh locs Qw pc hx hb hd w => lv_i2l hx hb hd rfl w) kk
theorem xs_l2i (hc : μ.2.2.2.2.2[k]? = some .l2i) (kk : xW l x d mc ms μ n0 Q cl (k + 1) L (.int f.toInt32 :: S) H uc us) : xW l x d mc ms μ n0 Q cl k L (.long f :: S) H uc us :=
  xW.pure (S' := .int f.toInt32 :: S) hc (fun p e s m args below meth c ls Hh locs Qw pc hx hb hd w => lv_l2i hx hb hd rfl w) kk
theorem xs_i2b (hc : μ.2.2.2.2.2[k]? = some .i2b) (kk : xW l x d mc ms μ n0 Q cl (k + 1) L (.int a.toInt8.toInt32 :: S) H uc us) : xW l x d mc ms μ n0 Q cl k L (.int a :: S) H uc us :=
  xW.pure (S' := .int a.toInt8.toInt32 :: S) hc (fun p e s m args below meth c ls Hh locs Qw pc hx hb hd w => lv_i2b hx hb hd rfl w) kk
theorem xs_dup (hc : μ.2.2.2.2.2[k]? = some .dup) (hv : v.category = 1) (kk : xW l x d mc ms μ n0 Q cl (k + 1) L (v :: v :: S) H uc us) : xW l x d mc ms μ n0 Q cl k L (v :: S) H uc us :=
  xW.pure (S' := v :: v :: S) hc (fun p e s m args below meth c ls Hh locs Qw pc hx hb hd w => lv_dup hx hb hd ((x_rv_cat x v).trans hv) w) kk
theorem xs_pop (hc : μ.2.2.2.2.2[k]? = some .pop) (hv : v.category = 1) (kk : xW l x d mc ms μ n0 Q cl (k + 1) L (S) H uc us) : xW l x d mc ms μ n0 Q cl k L (v :: S) H uc us :=
  xW.pure (S' := S) hc (fun p e s m args below meth c ls Hh locs Qw pc hx hb hd w => lv_pop hx hb hd ((x_rv_cat x v).trans hv) w) kk
theorem xs_dup2 (hc : μ.2.2.2.2.2[k]? = some .dup2) (hv : v.category = 1) (hw : w.category = 1) (kk : xW l x d mc ms μ n0 Q cl (k + 1) L (v :: w :: v :: w :: S) H uc us) : xW l x d mc ms μ n0 Q cl k L (v :: w :: S) H uc us :=
  xW.pure (S' := v :: w :: v :: w :: S) hc (fun p e s m args below meth c ls Hh locs Qw pc hx hb hd z => lv_dup2_11 hx hb hd ((x_rv_cat x v).trans hv) ((x_rv_cat x w).trans hw) z) kk
theorem xs_lcmp (hc : μ.2.2.2.2.2[k]? = some .lcmp) (kk : xW l x d mc ms μ n0 Q cl (k + 1) L (.int (lg_cmp f g) :: S) H uc us) : xW l x d mc ms μ n0 Q cl k L (.long g :: .long f :: S) H uc us :=
  xW.pure (S' := .int (lg_cmp f g) :: S) hc (fun p e s m args below meth c ls Hh locs Qw pc hx hb hd w => W.lcmp hx hb hd w) kk
theorem xs_iload (hc : μ.2.2.2.2.2[k]? = some (.iload i)) (hl : L[i]? = some (some (.int a))) (kk : xW l x d mc ms μ n0 Q cl (k + 1) L (.int a :: S) H uc us) : xW l x d mc ms μ n0 Q cl k L S H uc us :=
  xW.go (fun p e s m args below meth c ls Hh locs Qw E R hS hL w => lv_iload E.1 E.2.1 (E.dec hc) (hL.get hl) (by have := w ls hL; rw [x_pcS _ _ _ hc] at this; exact this)) kk
theorem xs_iload_n {n : Fin 4} (hc : μ.2.2.2.2.2[k]? = some (.iload_n n)) (hl : L[(n : Nat)]? = some (some (.int a))) (kk : xW l x d mc ms μ n0 Q cl (k + 1) L (.int a :: S) H uc us) : xW l x d mc ms μ n0 Q cl k L S H uc us :=
  xW.go (fun p e s m args below meth c ls Hh locs Qw E R hS hL w => lv_iload_n E.1 E.2.1 (E.dec hc) rfl (hL.get hl) (by have := w ls hL; rw [x_pcS _ _ _ hc] at this; exact this)) kk
theorem xs_lload (hc : μ.2.2.2.2.2[k]? = some (.lload i)) (hl : L[i]? = some (some (.long f))) (kk : xW l x d mc ms μ n0 Q cl (k + 1) L (.long f :: S) H uc us) : xW l x d mc ms μ n0 Q cl k L S H uc us :=
  xW.go (fun p e s m args below meth c ls Hh locs Qw E R hS hL w => lv_lload E.1 E.2.1 (E.dec hc) (hL.get hl) (by have := w ls hL; rw [x_pcS _ _ _ hc] at this; exact this)) kk
theorem xs_lload_n {n : Fin 4} (hc : μ.2.2.2.2.2[k]? = some (.lload_n n)) (hl : L[(n : Nat)]? = some (some (.long f))) (kk : xW l x d mc ms μ n0 Q cl (k + 1) L (.long f :: S) H uc us) : xW l x d mc ms μ n0 Q cl k L S H uc us :=
  xW.go (fun p e s m args below meth c ls Hh locs Qw E R hS hL w => lv_lload_n E.1 E.2.1 (E.dec hc) rfl (hL.get hl) (by have := w ls hL; rw [x_pcS _ _ _ hc] at this; exact this)) kk
theorem xs_aload (hc : μ.2.2.2.2.2[k]? = some (.aload i)) (hl : L[i]? = some (some (.ref r))) (kk : xW l x d mc ms μ n0 Q cl (k + 1) L (.ref r :: S) H uc us) : xW l x d mc ms μ n0 Q cl k L S H uc us :=
  xW.go (fun p e s m args below meth c ls Hh locs Qw E R hS hL w => lv_aload E.1 E.2.1 (E.dec hc) (hL.get hl) (by have := w ls hL; rw [x_pcS _ _ _ hc] at this; exact this)) kk
theorem xs_aload_n {n : Fin 4} (hc : μ.2.2.2.2.2[k]? = some (.aload_n n)) (hl : L[(n : Nat)]? = some (some (.ref r))) (kk : xW l x d mc ms μ n0 Q cl (k + 1) L (.ref r :: S) H uc us) : xW l x d mc ms μ n0 Q cl k L S H uc us :=
  xW.go (fun p e s m args below meth c ls Hh locs Qw E R hS hL w => lv_aload_n E.1 E.2.1 (E.dec hc) rfl (hL.get hl) (by have := w ls hL; rw [x_pcS _ _ _ hc] at this; exact this)) kk
theorem xs_istore (hc : μ.2.2.2.2.2[k]? = some (.istore i)) {L' : xL} (hL' : x_st L i (.int a) = L') (hok : x_sok L i = true) (kk : xW l x d mc ms μ n0 Q cl (k + 1) L' S H uc us) : xW l x d mc ms μ n0 Q cl k L (.int a :: S) H uc us := by
  subst hL'
  refine xW.go (fun p e s m args below meth c ls Hh locs Qw E R hS hL w => ?_) kk
  refine lv_istore E.1 E.2.1 (E.dec hc) (xLv.has hL) (x_sok.lt hL hok) rfl (fun ls' h => ?_)
  have := w ls' (x_sok.put hL hok h)
  rw [x_pcS _ _ _ hc] at this
  exact this
theorem xs_istore_n {n : Fin 4} (hc : μ.2.2.2.2.2[k]? = some (.istore_n n)) {L' : xL} (hL' : x_st L (n : Nat) (.int a) = L') (hok : x_sok L (n : Nat) = true) (kk : xW l x d mc ms μ n0 Q cl (k + 1) L' S H uc us) : xW l x d mc ms μ n0 Q cl k L (.int a :: S) H uc us := by
  subst hL'
  refine xW.go (fun p e s m args below meth c ls Hh locs Qw E R hS hL w => ?_) kk
  refine lv_istore_n E.1 E.2.1 (E.dec hc) rfl (xLv.has hL) (x_sok.lt hL hok) rfl (fun ls' h => ?_)
  have := w ls' (x_sok.put hL hok h)
  rw [x_pcS _ _ _ hc] at this
  exact this
theorem xs_lstore (hc : μ.2.2.2.2.2[k]? = some (.lstore i)) {L' : xL} (hL' : x_st2 L i (.long f) = L') (hok : x_sok2 L i = true) (kk : xW l x d mc ms μ n0 Q cl (k + 1) L' S H uc us) : xW l x d mc ms μ n0 Q cl k L (.long f :: S) H uc us := by
  subst hL'
  refine xW.go (fun p e s m args below meth c ls Hh locs Qw E R hS hL w => ?_) kk
  refine lv_lstore E.1 E.2.1 (E.dec hc) (xLv.has hL) (x_sok2.lt hL hok) rfl (fun ls' h => ?_)
  have := w ls' (x_sok2.put hL hok h)
  rw [x_pcS _ _ _ hc] at this
  exact this
theorem xs_lstore_n {n : Fin 4} (hc : μ.2.2.2.2.2[k]? = some (.lstore_n n)) {L' : xL} (hL' : x_st2 L (n : Nat) (.long f) = L') (hok : x_sok2 L (n : Nat) = true) (kk : xW l x d mc ms μ n0 Q cl (k + 1) L' S H uc us) : xW l x d mc ms μ n0 Q cl k L (.long f :: S) H uc us := by
  subst hL'
  refine xW.go (fun p e s m args below meth c ls Hh locs Qw E R hS hL w => ?_) kk
  refine lv_lstore_n E.1 E.2.1 (E.dec hc) rfl (xLv.has hL) (x_sok2.lt hL hok) rfl (fun ls' h => ?_)
  have := w ls' (x_sok2.put hL hok h)
  rw [x_pcS _ _ _ hc] at this
  exact this
theorem xs_astore (hc : μ.2.2.2.2.2[k]? = some (.astore i)) {L' : xL} (hL' : x_st L i (.ref r) = L') (hok : x_sok L i = true) (kk : xW l x d mc ms μ n0 Q cl (k + 1) L' S H uc us) : xW l x d mc ms μ n0 Q cl k L (.ref r :: S) H uc us := by
  subst hL'
  refine xW.go (fun p e s m args below meth c ls Hh locs Qw E R hS hL w => ?_) kk
  refine lv_astore E.1 E.2.1 (E.dec hc) (xLv.has hL) (x_sok.lt hL hok) rfl (fun ls' h => ?_)
  have := w ls' (x_sok.put hL hok h)
  rw [x_pcS _ _ _ hc] at this
  exact this
theorem xs_astore_n {n : Fin 4} (hc : μ.2.2.2.2.2[k]? = some (.astore_n n)) {L' : xL} (hL' : x_st L (n : Nat) (.ref r) = L') (hok : x_sok L (n : Nat) = true) (kk : xW l x d mc ms μ n0 Q cl (k + 1) L' S H uc us) : xW l x d mc ms μ n0 Q cl k L (.ref r :: S) H uc us := by
  subst hL'
  refine xW.go (fun p e s m args below meth c ls Hh locs Qw E R hS hL w => ?_) kk
  refine lv_astore_n E.1 E.2.1 (E.dec hc) rfl (xLv.has hL) (x_sok.lt hL hok) rfl (fun ls' h => ?_)
  have := w ls' (x_sok.put hL hok h)
  rw [x_pcS _ _ _ hc] at this
  exact this
theorem xs_iinc {n : Int} (hc : μ.2.2.2.2.2[k]? = some (.iinc i n)) {L' : xL} (hl : L[i]? = some (some (.int a))) (hL' : x_st L i (.int (a + Int32.ofInt n)) = L') (hok : x_sok L i = true) (kk : xW l x d mc ms μ n0 Q cl (k + 1) L' S H uc us) : xW l x d mc ms μ n0 Q cl k L S H uc us := by
  subst hL'
  refine xW.go (fun p e s m args below meth c ls Hh locs Qw E R hS hL w => ?_) kk
  obtain ⟨j, hj⟩ := xLv.place hL hl
  refine lv_iinc E.1 E.2.1 (E.dec hc) (xLv.has hL) hj rfl (x_sok.lt hL hok) rfl (fun ls' h => ?_)
  have := w ls' (x_sok.put hL hok h)
  rw [x_pcS _ _ _ hc] at this
  exact this
theorem xs_if_eq {off : Int} {k' : Nat} (hc : μ.2.2.2.2.2[k]? = some (.ifCond .eq off)) (ht : (x_pc μ.2.2.2.2.2 k : Int) + off = (x_pc μ.2.2.2.2.2 k' : Int)) (k1 : a = 0 → xW l x d mc ms μ n0 Q cl k' L S H uc us) (k2 : ¬ a = 0 → xW l x d mc ms μ n0 Q cl (k + 1) L S H uc us) : xW l x d mc ms μ n0 Q cl k L (.int a :: S) H uc us := by
  intro p e s m args below meth c ls Hh locs E R hS hL hn hcl
  refine lv_if_eq E.1 E.2.1 (E.dec hc) ht (fun h => k1 h p e s m args below meth c ls Hh locs E R hS hL hn hcl) (fun h => ?_)
  have := k2 h p e s m args below meth c ls Hh locs E R hS hL hn hcl
  rw [x_pcS _ _ _ hc] at this
  exact this
theorem xs_icmp_eq {off : Int} {k' : Nat} (hc : μ.2.2.2.2.2[k]? = some (.if_icmp .eq off)) (ht : (x_pc μ.2.2.2.2.2 k : Int) + off = (x_pc μ.2.2.2.2.2 k' : Int)) (k1 : a = b → xW l x d mc ms μ n0 Q cl k' L S H uc us) (k2 : ¬ a = b → xW l x d mc ms μ n0 Q cl (k + 1) L S H uc us) : xW l x d mc ms μ n0 Q cl k L (.int b :: .int a :: S) H uc us := by
  intro p e s m args below meth c ls Hh locs E R hS hL hn hcl
  refine lv_icmp_eq E.1 E.2.1 (E.dec hc) ht (fun h => k1 h p e s m args below meth c ls Hh locs E R hS hL hn hcl) (fun h => ?_)
  have := k2 h p e s m args below meth c ls Hh locs E R hS hL hn hcl
  rw [x_pcS _ _ _ hc] at this
  exact this
theorem xs_if_ne {off : Int} {k' : Nat} (hc : μ.2.2.2.2.2[k]? = some (.ifCond .ne off)) (ht : (x_pc μ.2.2.2.2.2 k : Int) + off = (x_pc μ.2.2.2.2.2 k' : Int)) (k1 : ¬ a = 0 → xW l x d mc ms μ n0 Q cl k' L S H uc us) (k2 : a = 0 → xW l x d mc ms μ n0 Q cl (k + 1) L S H uc us) : xW l x d mc ms μ n0 Q cl k L (.int a :: S) H uc us := by
  intro p e s m args below meth c ls Hh locs E R hS hL hn hcl
  refine lv_if_ne E.1 E.2.1 (E.dec hc) ht (fun h => k1 h p e s m args below meth c ls Hh locs E R hS hL hn hcl) (fun h => ?_)
  have := k2 h p e s m args below meth c ls Hh locs E R hS hL hn hcl
  rw [x_pcS _ _ _ hc] at this
  exact this
theorem xs_icmp_ne {off : Int} {k' : Nat} (hc : μ.2.2.2.2.2[k]? = some (.if_icmp .ne off)) (ht : (x_pc μ.2.2.2.2.2 k : Int) + off = (x_pc μ.2.2.2.2.2 k' : Int)) (k1 : ¬ a = b → xW l x d mc ms μ n0 Q cl k' L S H uc us) (k2 : a = b → xW l x d mc ms μ n0 Q cl (k + 1) L S H uc us) : xW l x d mc ms μ n0 Q cl k L (.int b :: .int a :: S) H uc us := by
  intro p e s m args below meth c ls Hh locs E R hS hL hn hcl
  refine lv_icmp_ne E.1 E.2.1 (E.dec hc) ht (fun h => k1 h p e s m args below meth c ls Hh locs E R hS hL hn hcl) (fun h => ?_)
  have := k2 h p e s m args below meth c ls Hh locs E R hS hL hn hcl
  rw [x_pcS _ _ _ hc] at this
  exact this
theorem xs_if_lt {off : Int} {k' : Nat} (hc : μ.2.2.2.2.2[k]? = some (.ifCond .lt off)) (ht : (x_pc μ.2.2.2.2.2 k : Int) + off = (x_pc μ.2.2.2.2.2 k' : Int)) (k1 : a < 0 → xW l x d mc ms μ n0 Q cl k' L S H uc us) (k2 : ¬ a < 0 → xW l x d mc ms μ n0 Q cl (k + 1) L S H uc us) : xW l x d mc ms μ n0 Q cl k L (.int a :: S) H uc us := by
  intro p e s m args below meth c ls Hh locs E R hS hL hn hcl
  refine lv_if_lt E.1 E.2.1 (E.dec hc) ht (fun h => k1 h p e s m args below meth c ls Hh locs E R hS hL hn hcl) (fun h => ?_)
  have := k2 h p e s m args below meth c ls Hh locs E R hS hL hn hcl
  rw [x_pcS _ _ _ hc] at this
  exact this
theorem xs_icmp_lt {off : Int} {k' : Nat} (hc : μ.2.2.2.2.2[k]? = some (.if_icmp .lt off)) (ht : (x_pc μ.2.2.2.2.2 k : Int) + off = (x_pc μ.2.2.2.2.2 k' : Int)) (k1 : a < b → xW l x d mc ms μ n0 Q cl k' L S H uc us) (k2 : ¬ a < b → xW l x d mc ms μ n0 Q cl (k + 1) L S H uc us) : xW l x d mc ms μ n0 Q cl k L (.int b :: .int a :: S) H uc us := by
  intro p e s m args below meth c ls Hh locs E R hS hL hn hcl
  refine lv_icmp_lt E.1 E.2.1 (E.dec hc) ht (fun h => k1 h p e s m args below meth c ls Hh locs E R hS hL hn hcl) (fun h => ?_)
  have := k2 h p e s m args below meth c ls Hh locs E R hS hL hn hcl
  rw [x_pcS _ _ _ hc] at this
  exact this
theorem xs_if_ge {off : Int} {k' : Nat} (hc : μ.2.2.2.2.2[k]? = some (.ifCond .ge off)) (ht : (x_pc μ.2.2.2.2.2 k : Int) + off = (x_pc μ.2.2.2.2.2 k' : Int)) (k1 : 0 ≤ a → xW l x d mc ms μ n0 Q cl k' L S H uc us) (k2 : ¬ 0 ≤ a → xW l x d mc ms μ n0 Q cl (k + 1) L S H uc us) : xW l x d mc ms μ n0 Q cl k L (.int a :: S) H uc us := by
  intro p e s m args below meth c ls Hh locs E R hS hL hn hcl
  refine lv_if_ge E.1 E.2.1 (E.dec hc) ht (fun h => k1 h p e s m args below meth c ls Hh locs E R hS hL hn hcl) (fun h => ?_)
  have := k2 h p e s m args below meth c ls Hh locs E R hS hL hn hcl
  rw [x_pcS _ _ _ hc] at this
  exact this
theorem xs_icmp_ge {off : Int} {k' : Nat} (hc : μ.2.2.2.2.2[k]? = some (.if_icmp .ge off)) (ht : (x_pc μ.2.2.2.2.2 k : Int) + off = (x_pc μ.2.2.2.2.2 k' : Int)) (k1 : b ≤ a → xW l x d mc ms μ n0 Q cl k' L S H uc us) (k2 : ¬ b ≤ a → xW l x d mc ms μ n0 Q cl (k + 1) L S H uc us) : xW l x d mc ms μ n0 Q cl k L (.int b :: .int a :: S) H uc us := by
  intro p e s m args below meth c ls Hh locs E R hS hL hn hcl
  refine lv_icmp_ge E.1 E.2.1 (E.dec hc) ht (fun h => k1 h p e s m args below meth c ls Hh locs E R hS hL hn hcl) (fun h => ?_)
  have := k2 h p e s m args below meth c ls Hh locs E R hS hL hn hcl
  rw [x_pcS _ _ _ hc] at this
  exact this
theorem xs_if_gt {off : Int} {k' : Nat} (hc : μ.2.2.2.2.2[k]? = some (.ifCond .gt off)) (ht : (x_pc μ.2.2.2.2.2 k : Int) + off = (x_pc μ.2.2.2.2.2 k' : Int)) (k1 : 0 < a → xW l x d mc ms μ n0 Q cl k' L S H uc us) (k2 : ¬ 0 < a → xW l x d mc ms μ n0 Q cl (k + 1) L S H uc us) : xW l x d mc ms μ n0 Q cl k L (.int a :: S) H uc us := by
  intro p e s m args below meth c ls Hh locs E R hS hL hn hcl
  refine lv_if_gt E.1 E.2.1 (E.dec hc) ht (fun h => k1 h p e s m args below meth c ls Hh locs E R hS hL hn hcl) (fun h => ?_)
  have := k2 h p e s m args below meth c ls Hh locs E R hS hL hn hcl
  rw [x_pcS _ _ _ hc] at this
  exact this
theorem xs_icmp_gt {off : Int} {k' : Nat} (hc : μ.2.2.2.2.2[k]? = some (.if_icmp .gt off)) (ht : (x_pc μ.2.2.2.2.2 k : Int) + off = (x_pc μ.2.2.2.2.2 k' : Int)) (k1 : b < a → xW l x d mc ms μ n0 Q cl k' L S H uc us) (k2 : ¬ b < a → xW l x d mc ms μ n0 Q cl (k + 1) L S H uc us) : xW l x d mc ms μ n0 Q cl k L (.int b :: .int a :: S) H uc us := by
  intro p e s m args below meth c ls Hh locs E R hS hL hn hcl
  refine lv_icmp_gt E.1 E.2.1 (E.dec hc) ht (fun h => k1 h p e s m args below meth c ls Hh locs E R hS hL hn hcl) (fun h => ?_)
  have := k2 h p e s m args below meth c ls Hh locs E R hS hL hn hcl
  rw [x_pcS _ _ _ hc] at this
  exact this
theorem xs_if_le {off : Int} {k' : Nat} (hc : μ.2.2.2.2.2[k]? = some (.ifCond .le off)) (ht : (x_pc μ.2.2.2.2.2 k : Int) + off = (x_pc μ.2.2.2.2.2 k' : Int)) (k1 : a ≤ 0 → xW l x d mc ms μ n0 Q cl k' L S H uc us) (k2 : ¬ a ≤ 0 → xW l x d mc ms μ n0 Q cl (k + 1) L S H uc us) : xW l x d mc ms μ n0 Q cl k L (.int a :: S) H uc us := by
  intro p e s m args below meth c ls Hh locs E R hS hL hn hcl
  refine lv_if_le E.1 E.2.1 (E.dec hc) ht (fun h => k1 h p e s m args below meth c ls Hh locs E R hS hL hn hcl) (fun h => ?_)
  have := k2 h p e s m args below meth c ls Hh locs E R hS hL hn hcl
  rw [x_pcS _ _ _ hc] at this
  exact this
theorem xs_icmp_le {off : Int} {k' : Nat} (hc : μ.2.2.2.2.2[k]? = some (.if_icmp .le off)) (ht : (x_pc μ.2.2.2.2.2 k : Int) + off = (x_pc μ.2.2.2.2.2 k' : Int)) (k1 : a ≤ b → xW l x d mc ms μ n0 Q cl k' L S H uc us) (k2 : ¬ a ≤ b → xW l x d mc ms μ n0 Q cl (k + 1) L S H uc us) : xW l x d mc ms μ n0 Q cl k L (.int b :: .int a :: S) H uc us := by
  intro p e s m args below meth c ls Hh locs E R hS hL hn hcl
  refine lv_icmp_le E.1 E.2.1 (E.dec hc) ht (fun h => k1 h p e s m args below meth c ls Hh locs E R hS hL hn hcl) (fun h => ?_)
  have := k2 h p e s m args below meth c ls Hh locs E R hS hL hn hcl
  rw [x_pcS _ _ _ hc] at this
  exact this
theorem xs_goto {off : Int} {k' : Nat} (hc : μ.2.2.2.2.2[k]? = some (.goto off)) (ht : (x_pc μ.2.2.2.2.2 k : Int) + off = (x_pc μ.2.2.2.2.2 k' : Int)) (kk : xW l x d mc ms μ n0 Q cl k' L S H uc us) : xW l x d mc ms μ n0 Q cl k L S H uc us :=
  fun p e s m args below meth c ls Hh locs E R hS hL hn hcl => lv_goto E.1 E.2.1 (E.dec hc) ht (kk p e s m args below meth c ls Hh locs E R hS hL hn hcl)
end XRows
