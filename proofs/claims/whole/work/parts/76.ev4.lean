section EV4
variable {A0 A : Mem} {va : Nat → UInt64} {mr mc : Nat → Nat} {S : Nat → Nat → Int32 → Int32 → Mem → (UInt64 → Mem → Prop) → Prop} {base loc : List UInt64} {fd : Nat → Bool} {ca : Nat → UInt64 → EV} {K : Mem → Prop} {p2 p3 : Int32}
theorem oKS_ok {l : List UInt64} (k : oKS A0 va base (.ok l) K) (h : EvS A0 va (l ++ base) 0 A) : K A := k.1 l rfl A h
theorem ap_0 (hW : WC A0) (hl : (loc ++ base).length < 240) (h : EvS A0 va (loc ++ base) 0 A) (k : oKS A0 va base (.ok (FP.ddiv (FP.i2d p2) 4652007308841189376 :: loc)) K) : wp_Ca_apply S 8 0 p2 p3 A K := by
  unfold wp_Ca_apply
  exact ⟨(fun _ => ⟨vfn_thou p2, rfl, n_push hW h (okd_thou p2) hl (fun A1 h1 => k.1 _ rfl A1 h1)⟩), (fun q => absurd q (by decide)), (fun q => absurd q (by decide)), (fun q => absurd q (by decide)), (fun q => absurd q (by decide)), (fun q => absurd q (by decide)), (fun q => absurd q (by decide)), (fun q => absurd q (by decide)), (fun q => absurd q (by decide)), (fun q => absurd q (by decide)), (fun q => absurd q (by decide)), (fun q => absurd q (by decide)), (fun q => absurd q (by decide)), (fun q => absurd q (by decide)), (fun q0 q1 q2 q3 q4 q5 q6 q7 q8 q9 q10 q11 q12 q13 => absurd rfl q0)⟩
theorem ap_1 (hW : WC A0) (hl : (loc ++ base).length < 240) (h : EvS A0 va (loc ++ base) 0 A) {i : Nat} (hi : i < 26) (hp : p2 = iN i) (k : oKS A0 va base (.ok (va i :: loc)) K) : wp_Ca_apply S 8 1 p2 p3 A K := by
  unfold wp_Ca_apply
  rw [hp]
  exact ⟨(fun q => absurd q (by decide)), (fun _ => ⟨rfl, n_get26 hW h hi (n_push hW h (h.2.2.2 i) hl (fun A1 h1 => k.1 _ rfl A1 h1))⟩), (fun q => absurd q (by decide)), (fun q => absurd q (by decide)), (fun q => absurd q (by decide)), (fun q => absurd q (by decide)), (fun q => absurd q (by decide)), (fun q => absurd q (by decide)), (fun q => absurd q (by decide)), (fun q => absurd q (by decide)), (fun q => absurd q (by decide)), (fun q => absurd q (by decide)), (fun q => absurd q (by decide)), (fun q => absurd q (by decide)), (fun q0 q1 q2 q3 q4 q5 q6 q7 q8 q9 q10 q11 q12 q13 => absurd rfl q1)⟩
theorem ap_2 (hW : WC A0) (hM : MxA A0 mr mc) {x y : UInt64} {r : List UInt64} (h : EvS A0 va (y :: x :: r ++ base) 0 A) {m : Nat} (hm : m < 3) (hp : p2 = iN m) (k : oKS A0 va base (psE r (elA A0 mr mc m x y)) K) : wp_Ca_apply S 8 2 p2 p3 A K := by
  unfold wp_Ca_apply
  rw [hp]
  exact ⟨(fun q => absurd q (by decide)), (fun q => absurd q (by decide)), (fun _ => ⟨rfl, n_matrixAt hW h hm (n_element hW hM hm h k)⟩), (fun q => absurd q (by decide)), (fun q => absurd q (by decide)), (fun q => absurd q (by decide)), (fun q => absurd q (by decide)), (fun q => absurd q (by decide)), (fun q => absurd q (by decide)), (fun q => absurd q (by decide)), (fun q => absurd q (by decide)), (fun q => absurd q (by decide)), (fun q => absurd q (by decide)), (fun q => absurd q (by decide)), (fun q0 q1 q2 q3 q4 q5 q6 q7 q8 q9 q10 q11 q12 q13 => absurd rfl q2)⟩
theorem ap_3 (hW : WC A0) {x : UInt64} {r : List UInt64} (h : EvS A0 va (x :: r ++ base) 0 A) (k : oKS A0 va base (.ok (FP.dneg x :: r)) K) : wp_Ca_apply S 8 3 p2 p3 A K := by
  unfold wp_Ca_apply
  have hl := h.2.2.1.2.1
  simp only [List.cons_append, List.length_cons] at hl
  exact ⟨(fun q => absurd q (by decide)), (fun q => absurd q (by decide)), (fun q => absurd q (by decide)), (fun _ => ⟨rfl, n_pop (s := r ++ base) hW h (fun hx A1 h1 => n_push hW h1 (okd_neg hx) (by omega) (fun A2 h2 => k.1 _ rfl A2 h2))⟩), (fun q => absurd q (by decide)), (fun q => absurd q (by decide)), (fun q => absurd q (by decide)), (fun q => absurd q (by decide)), (fun q => absurd q (by decide)), (fun q => absurd q (by decide)), (fun q => absurd q (by decide)), (fun q => absurd q (by decide)), (fun q => absurd q (by decide)), (fun q => absurd q (by decide)), (fun q0 q1 q2 q3 q4 q5 q6 q7 q8 q9 q10 q11 q12 q13 => absurd rfl q3)⟩
theorem ap_4 (hW : WC A0) {x y : UInt64} {r : List UInt64} (h : EvS A0 va (y :: x :: r ++ base) 0 A) (k : oKS A0 va base (psE r (ftE 4 (kpF (FP.dadd x y)))) K) : wp_Ca_apply S 8 4 p2 p3 A K := by
  unfold wp_Ca_apply
  have hl := h.2.2.1.2.1
  simp only [List.cons_append, List.length_cons] at hl
  exact ⟨(fun q => absurd q (by decide)), (fun q => absurd q (by decide)), (fun q => absurd q (by decide)), (fun q => absurd q (by decide)), (fun _ => ⟨rfl, n_pop (s := x :: (r ++ base)) hW h (fun hy A1 h1 => n_pop hW h1 (fun hx A2 h2 => ⟨vfn_add hx hy, n_result h2 (FP.Core.dadd_out (okd_nn hx) (okd_fin hy)) (n_tail hW (by decide) (by omega) k)⟩))⟩), (fun q => absurd q (by decide)), (fun q => absurd q (by decide)), (fun q => absurd q (by decide)), (fun q => absurd q (by decide)), (fun q => absurd q (by decide)), (fun q => absurd q (by decide)), (fun q => absurd q (by decide)), (fun q => absurd q (by decide)), (fun q => absurd q (by decide)), (fun q0 q1 q2 q3 q4 q5 q6 q7 q8 q9 q10 q11 q12 q13 => absurd rfl q4)⟩
theorem ap_5 (hW : WC A0) {x y : UInt64} {r : List UInt64} (h : EvS A0 va (y :: x :: r ++ base) 0 A) (k : oKS A0 va base (psE r (ftE 4 (kpF (FP.dsub x y)))) K) : wp_Ca_apply S 8 5 p2 p3 A K := by
  unfold wp_Ca_apply
  have hl := h.2.2.1.2.1
  simp only [List.cons_append, List.length_cons] at hl
  exact ⟨(fun q => absurd q (by decide)), (fun q => absurd q (by decide)), (fun q => absurd q (by decide)), (fun q => absurd q (by decide)), (fun q => absurd q (by decide)), (fun _ => ⟨rfl, n_pop (s := x :: (r ++ base)) hW h (fun hy A1 h1 => n_pop hW h1 (fun hx A2 h2 => ⟨vfn_sub hx hy, n_result h2 (FP.Core.dsub_out (okd_nn hx) (okd_fin hy)) (n_tail hW (by decide) (by omega) k)⟩))⟩), (fun q => absurd q (by decide)), (fun q => absurd q (by decide)), (fun q => absurd q (by decide)), (fun q => absurd q (by decide)), (fun q => absurd q (by decide)), (fun q => absurd q (by decide)), (fun q => absurd q (by decide)), (fun q => absurd q (by decide)), (fun q0 q1 q2 q3 q4 q5 q6 q7 q8 q9 q10 q11 q12 q13 => absurd rfl q5)⟩
theorem ap_6 (hW : WC A0) {x y : UInt64} {r : List UInt64} (h : EvS A0 va (y :: x :: r ++ base) 0 A) (k : oKS A0 va base (psE r (ftE 4 (kpF (FP.dmul x y)))) K) : wp_Ca_apply S 8 6 p2 p3 A K := by
  unfold wp_Ca_apply
  have hl := h.2.2.1.2.1
  simp only [List.cons_append, List.length_cons] at hl
  exact ⟨(fun q => absurd q (by decide)), (fun q => absurd q (by decide)), (fun q => absurd q (by decide)), (fun q => absurd q (by decide)), (fun q => absurd q (by decide)), (fun q => absurd q (by decide)), (fun _ => ⟨rfl, n_pop (s := x :: (r ++ base)) hW h (fun hy A1 h1 => n_pop hW h1 (fun hx A2 h2 => ⟨vfn_mul hx hy, n_result h2 (FP.Core.dmul_out (okd_fin hx) (okd_fin hy)) (n_tail hW (by decide) (by omega) k)⟩))⟩), (fun q => absurd q (by decide)), (fun q => absurd q (by decide)), (fun q => absurd q (by decide)), (fun q => absurd q (by decide)), (fun q => absurd q (by decide)), (fun q => absurd q (by decide)), (fun q => absurd q (by decide)), (fun q0 q1 q2 q3 q4 q5 q6 q7 q8 q9 q10 q11 q12 q13 => absurd rfl q6)⟩
theorem ap_7 (hW : WC A0) {x y : UInt64} {r : List UInt64} (h : EvS A0 va (y :: x :: r ++ base) 0 A) (k : oKS A0 va base (psE r (ftE 4 (dvF x y))) K) : wp_Ca_apply S 8 7 p2 p3 A K := by
  unfold wp_Ca_apply
  have hl := h.2.2.1.2.1
  simp only [List.cons_append, List.length_cons] at hl
  exact ⟨(fun q => absurd q (by decide)), (fun q => absurd q (by decide)), (fun q => absurd q (by decide)), (fun q => absurd q (by decide)), (fun q => absurd q (by decide)), (fun q => absurd q (by decide)), (fun q => absurd q (by decide)), (fun _ => ⟨rfl, n_pop (s := x :: (r ++ base)) hW h (fun hy A1 h1 => n_pop hW h1 (fun hx A2 h2 => n_quotient h2 hx hy (n_tail hW (by decide) (by omega) k)))⟩), (fun q => absurd q (by decide)), (fun q => absurd q (by decide)), (fun q => absurd q (by decide)), (fun q => absurd q (by decide)), (fun q => absurd q (by decide)), (fun q => absurd q (by decide)), (fun q0 q1 q2 q3 q4 q5 q6 q7 q8 q9 q10 q11 q12 q13 => absurd rfl q7)⟩
theorem ap_8 (hW : WC A0) {x y : UInt64} {r : List UInt64} (h : EvS A0 va (y :: x :: r ++ base) 0 A) (k : oKS A0 va base (psE r (ftE 4 (pwF x y))) K) : wp_Ca_apply S 8 8 p2 p3 A K := by
  unfold wp_Ca_apply
  have hl := h.2.2.1.2.1
  simp only [List.cons_append, List.length_cons] at hl
  exact ⟨(fun q => absurd q (by decide)), (fun q => absurd q (by decide)), (fun q => absurd q (by decide)), (fun q => absurd q (by decide)), (fun q => absurd q (by decide)), (fun q => absurd q (by decide)), (fun q => absurd q (by decide)), (fun q => absurd q (by decide)), (fun _ => ⟨rfl, n_pop (s := x :: (r ++ base)) hW h (fun hy A1 h1 => n_pop hW h1 (fun hx A2 h2 => n_power h2 hx hy (n_tail hW (by decide) (by omega) k)))⟩), (fun q => absurd q (by decide)), (fun q => absurd q (by decide)), (fun q => absurd q (by decide)), (fun q => absurd q (by decide)), (fun q => absurd q (by decide)), (fun q0 q1 q2 q3 q4 q5 q6 q7 q8 q9 q10 q11 q12 q13 => absurd rfl q8)⟩
theorem ap_9 (hW : WC A0) {x : UInt64} {r : List UInt64} (h : EvS A0 va (x :: r ++ base) 0 A) (k : oKS A0 va base (.ok (szF x :: r)) K) : wp_Ca_apply S 8 9 p2 p3 A K := by
  unfold wp_Ca_apply
  have hl := h.2.2.1.2.1
  simp only [List.cons_append, List.length_cons] at hl
  exact ⟨(fun q => absurd q (by decide)), (fun q => absurd q (by decide)), (fun q => absurd q (by decide)), (fun q => absurd q (by decide)), (fun q => absurd q (by decide)), (fun q => absurd q (by decide)), (fun q => absurd q (by decide)), (fun q => absurd q (by decide)), (fun q => absurd q (by decide)), (fun _ => ⟨rfl, n_pop (s := r ++ base) hW h (fun hx A1 h1 => n_sizeO hx (fun ho => n_push hW h1 ho (by omega) (fun A2 h2 => k.1 _ rfl A2 h2)))⟩), (fun q => absurd q (by decide)), (fun q => absurd q (by decide)), (fun q => absurd q (by decide)), (fun q => absurd q (by decide)), (fun q0 q1 q2 q3 q4 q5 q6 q7 q8 q9 q10 q11 q12 q13 => absurd rfl q9)⟩
theorem ap_10 (hW : WC A0) {x : UInt64} {r : List UInt64} (h : EvS A0 va (x :: r ++ base) 0 A) (k : oKS A0 va base (.ok (flF x :: r)) K) : wp_Ca_apply S 8 10 p2 p3 A K := by
  unfold wp_Ca_apply
  have hl := h.2.2.1.2.1
  simp only [List.cons_append, List.length_cons] at hl
  exact ⟨(fun q => absurd q (by decide)), (fun q => absurd q (by decide)), (fun q => absurd q (by decide)), (fun q => absurd q (by decide)), (fun q => absurd q (by decide)), (fun q => absurd q (by decide)), (fun q => absurd q (by decide)), (fun q => absurd q (by decide)), (fun q => absurd q (by decide)), (fun q => absurd q (by decide)), (fun _ => ⟨rfl, n_pop (s := r ++ base) hW h (fun hx A1 h1 => n_floorO hx (fun ho => n_push hW h1 ho (by omega) (fun A2 h2 => k.1 _ rfl A2 h2)))⟩), (fun q => absurd q (by decide)), (fun q => absurd q (by decide)), (fun q => absurd q (by decide)), (fun q0 q1 q2 q3 q4 q5 q6 q7 q8 q9 q10 q11 q12 q13 => absurd rfl q10)⟩
theorem ap_11 (hW : WC A0) {x : UInt64} {r : List UInt64} (h : EvS A0 va (x :: r ++ base) 0 A) (k : oKS A0 va base (.ok (sgF x :: r)) K) : wp_Ca_apply S 8 11 p2 p3 A K := by
  unfold wp_Ca_apply
  have hl := h.2.2.1.2.1
  simp only [List.cons_append, List.length_cons] at hl
  exact ⟨(fun q => absurd q (by decide)), (fun q => absurd q (by decide)), (fun q => absurd q (by decide)), (fun q => absurd q (by decide)), (fun q => absurd q (by decide)), (fun q => absurd q (by decide)), (fun q => absurd q (by decide)), (fun q => absurd q (by decide)), (fun q => absurd q (by decide)), (fun q => absurd q (by decide)), (fun q => absurd q (by decide)), (fun _ => ⟨rfl, n_pop (s := r ++ base) hW h (fun hx A1 h1 => n_signO hx (fun ho => n_push hW h1 ho (by omega) (fun A2 h2 => k.1 _ rfl A2 h2)))⟩), (fun q => absurd q (by decide)), (fun q => absurd q (by decide)), (fun q0 q1 q2 q3 q4 q5 q6 q7 q8 q9 q10 q11 q12 q13 => absurd rfl q11)⟩
theorem ap_12 (hW : WC A0) (h : EvS A0 va (loc ++ base) 0 A) {f : Nat} (hf : f < 3) (hp : p2 = iN f) (hfd : fd f = decide (gR A0 10 f ≠ 0)) (k : oKS A0 va base (if fd f then .ok loc else .error 3) K) : wp_Ca_apply S 8 12 p2 p3 A K := by
  unfold wp_Ca_apply
  rw [hp]
  exact ⟨(fun q => absurd q (by decide)), (fun q => absurd q (by decide)), (fun q => absurd q (by decide)), (fun q => absurd q (by decide)), (fun q => absurd q (by decide)), (fun q => absurd q (by decide)), (fun q => absurd q (by decide)), (fun q => absurd q (by decide)), (fun q => absurd q (by decide)), (fun q => absurd q (by decide)), (fun q => absurd q (by decide)), (fun q => absurd q (by decide)), (fun _ => ⟨rfl, rfl, n_functionAt hW h hf ⟨fun hn => by rw [hfd, if_pos (decide_eq_true hn)] at k; exact oKS_ok k h, fun hz => n_fail h (f := 3) (by omega) (fun A1 h1 => by rw [hfd, if_neg (by simp [hz])] at k; exact k.2 3 rfl (by decide) _ A1 h1)⟩⟩), (fun q => absurd q (by decide)), (fun q0 q1 q2 q3 q4 q5 q6 q7 q8 q9 q10 q11 q12 q13 => absurd rfl q12)⟩
theorem ap_13 (hW : WC A0) {x : UInt64} {r : List UInt64} (h : EvS A0 va (x :: r ++ base) 0 A) {f : Nat} (hf : f < 3) (hp : p2 = iN f) (k : wp_Ca_callFunction S 8 (gR A0 10 f) p3 A K) : wp_Ca_apply S 8 13 p2 p3 A K := by
  unfold wp_Ca_apply
  rw [hp]
  exact ⟨(fun q => absurd q (by decide)), (fun q => absurd q (by decide)), (fun q => absurd q (by decide)), (fun q => absurd q (by decide)), (fun q => absurd q (by decide)), (fun q => absurd q (by decide)), (fun q => absurd q (by decide)), (fun q => absurd q (by decide)), (fun q => absurd q (by decide)), (fun q => absurd q (by decide)), (fun q => absurd q (by decide)), (fun q => absurd q (by decide)), (fun q => absurd q (by decide)), (fun _ => ⟨rfl, n_functionAt hW h hf k⟩), (fun q0 q1 q2 q3 q4 q5 q6 q7 q8 q9 q10 q11 q12 q13 => absurd rfl q13)⟩
end EV4
