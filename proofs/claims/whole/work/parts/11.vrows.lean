def gI (H : xH) (r ci k : Nat) (a : Int32) : Prop := ∃ fs, H[r]? = some (.inr (ci, fs)) ∧ fs[k]? = some (.int a)
def gR (H : xH) (r ci k : Nat) (q : Nat) : Prop := ∃ fs, H[r]? = some (.inr (ci, fs)) ∧ fs[k]? = some (.ref q)
section XV
variable {l : Launch} {x : xX} {d mc ms : Nat} {μ : xM} {n0 : Nat} {Q : xO → xH → Prop} {cl : Bool} {k : Nat} {L L' : xL} {S : List Value} {H : xH} {uc us i : Nat} {n : Int} {v w a : Int32}
theorem xs_iconstV (hc : μ.2.2.2.2.2[k]? = some (.iconst n)) (hv : Int32.ofInt n = v) (kk : xW l x d mc ms μ n0 Q cl (k + 1) L (.int v :: S) H uc us) : xW l x d mc ms μ n0 Q cl k L S H uc us := by
  subst hv; exact xs_iconst hc kk
theorem xs_bipushV (hc : μ.2.2.2.2.2[k]? = some (.bipush n)) (hv : (Int8.ofInt n).toInt32 = v) (kk : xW l x d mc ms μ n0 Q cl (k + 1) L (.int v :: S) H uc us) : xW l x d mc ms μ n0 Q cl k L S H uc us := by
  subst hv; exact xs_bipush hc kk
theorem xs_sipushV (hc : μ.2.2.2.2.2[k]? = some (.sipush n)) (hv : (Int16.ofInt n).toInt32 = v) (kk : xW l x d mc ms μ n0 Q cl (k + 1) L (.int v :: S) H uc us) : xW l x d mc ms μ n0 Q cl k L S H uc us := by
  subst hv; exact xs_sipush hc kk
theorem xs_lconstV {n : Fin 2} {v : Int64} (hc : μ.2.2.2.2.2[k]? = some (.lconst n)) (hv : Int64.ofNat (n : Nat) = v) (kk : xW l x d mc ms μ n0 Q cl (k + 1) L (.long v :: S) H uc us) : xW l x d mc ms μ n0 Q cl k L S H uc us := by
  subst hv; exact xs_lconst hc kk
theorem xs_iincV (hc : μ.2.2.2.2.2[k]? = some (.iinc i n)) (hv : Int32.ofInt n = w) (hl : L[i]? = some (some (.int a))) (hL' : x_st L i (.int (a + w)) = L') (hok : x_sok L i = true) (kk : xW l x d mc ms μ n0 Q cl (k + 1) L' S H uc us) : xW l x d mc ms μ n0 Q cl k L S H uc us := by
  subst hv; exact xs_iinc hc hl hL' hok kk
end XV
