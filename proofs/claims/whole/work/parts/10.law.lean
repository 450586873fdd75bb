abbrev mL_law : Mi_ := (yL_law, cL_law, 4, some .boolean)
abbrev rL_law : Room := room_1
set_option maxRecDepth 100000 in
def BL_law_18 (L : Nat) (xs : Nat → Int32) (kb18 : (Option Nat) → (Option Nat) → Int32 → Mm → Prop) (post : Int32 → Mm → Prop) (x1 : Option Nat) (x2 : Option Nat) (x3 : Int32) (M : Mm) : Prop := (((Int32.ofNat L) - 7) < x3 → (post 1 M)) ∧ (¬ ((Int32.ofNat L) - 7) < x3 → (vp_in x3 L ∧ (((Int32.toInt ((xs (Int32.toNatClampNeg x3)) &&& 31)) = 0 → (vp_in (x3 + 1) L ∧ (∃ aq13 : Nat, x1 = some aq13 ∧ (ddT M aq13 = 11 ∧ (PX10_now aq13 (xs (Int32.toNatClampNeg (x3 + 1))) M (fun r16 M17 => vp_in (x3 + 1) L ∧ (∃ aq19 : Nat, x2 = some aq19 ∧ (ddT M17 aq19 = 12 ∧ (PX11_now aq19 (xs (Int32.toNatClampNeg (x3 + 1))) M17 (fun r22 M23 => (r16 = r22 → (kb18 x1 x2 (x3 + 7) M23)) ∧ (¬ r16 = r22 → (post 0 M23)))))))))))) ∧ ((Int32.toInt ((xs (Int32.toNatClampNeg x3)) &&& 31)) = 1 → (vp_in (x3 + 1) L ∧ (vp_in (x3 + 2) L ∧ (vp_in (x3 + 3) L ∧ (vp_in (x3 + 4) L ∧ (vp_in (x3 + 5) L ∧ (∃ aq30 : Nat, x1 = some aq30 ∧ (ddT M aq30 = 11 ∧ (PX10_block aq30 (xs (Int32.toNatClampNeg (x3 + 1))) (xs (Int32.toNatClampNeg (x3 + 2))) (xs (Int32.toNatClampNeg (x3 + 3))) (xs (Int32.toNatClampNeg (x3 + 4))) (xs (Int32.toNatClampNeg (x3 + 5))) M (fun r33 M34 => vp_in (x3 + 1) L ∧ (vp_in (x3 + 2) L ∧ (vp_in (x3 + 3) L ∧ (vp_in (x3 + 4) L ∧ (vp_in (x3 + 5) L ∧ (∃ aq40 : Nat, x2 = some aq40 ∧ (ddT M34 aq40 = 12 ∧ (PX11_block aq40 (xs (Int32.toNatClampNeg (x3 + 1))) (xs (Int32.toNatClampNeg (x3 + 2))) (xs (Int32.toNatClampNeg (x3 + 3))) (xs (Int32.toNatClampNeg (x3 + 4))) (xs (Int32.toNatClampNeg (x3 + 5))) M34 (fun r43 M44 => (r33 = r43 → (kb18 x1 x2 (x3 + 7) M44)) ∧ (¬ r33 = r43 → (post 0 M44)))))))))))))))))))) ∧ ((Int32.toInt ((xs (Int32.toNatClampNeg x3)) &&& 31)) = 2 → (vp_in (x3 + 1) L ∧ (vp_in (x3 + 2) L ∧ (vp_in (x3 + 3) L ∧ (∃ aq49 : Nat, x1 = some aq49 ∧ (ddT M aq49 = 11 ∧ (PX10_service aq49 (xs (Int32.toNatClampNeg (x3 + 1))) (xs (Int32.toNatClampNeg (x3 + 2))) (xs (Int32.toNatClampNeg (x3 + 3))) M (fun r52 M53 => vp_in (x3 + 1) L ∧ (vp_in (x3 + 2) L ∧ (vp_in (x3 + 3) L ∧ (∃ aq57 : Nat, x2 = some aq57 ∧ (ddT M53 aq57 = 12 ∧ (PX11_service aq57 (xs (Int32.toNatClampNeg (x3 + 1))) (xs (Int32.toNatClampNeg (x3 + 2))) (xs (Int32.toNatClampNeg (x3 + 3))) M53 (fun r60 M61 => (r52 = r60 → (kb18 x1 x2 (x3 + 7) M61)) ∧ (¬ r52 = r60 → (post 0 M61)))))))))))))))) ∧ ((Int32.toInt ((xs (Int32.toNatClampNeg x3)) &&& 31)) = 3 → (vp_in (x3 + 1) L ∧ (vp_in (x3 + 2) L ∧ (vp_in (x3 + 3) L ∧ (vp_in (x3 + 4) L ∧ (∃ aq67 : Nat, x1 = some aq67 ∧ (ddT M aq67 = 11 ∧ (PX10_foreign aq67 (xs (Int32.toNatClampNeg (x3 + 1))) (xs (Int32.toNatClampNeg (x3 + 2))) (xs (Int32.toNatClampNeg (x3 + 3))) (xs (Int32.toNatClampNeg (x3 + 4))) M (fun r70 M71 => vp_in (x3 + 1) L ∧ (vp_in (x3 + 2) L ∧ (vp_in (x3 + 3) L ∧ (vp_in (x3 + 4) L ∧ (∃ aq76 : Nat, x2 = some aq76 ∧ (ddT M71 aq76 = 12 ∧ (PX11_foreign aq76 (xs (Int32.toNatClampNeg (x3 + 1))) (xs (Int32.toNatClampNeg (x3 + 2))) (xs (Int32.toNatClampNeg (x3 + 3))) (xs (Int32.toNatClampNeg (x3 + 4))) M71 (fun r79 M80 => (r70 = r79 → (kb18 x1 x2 (x3 + 7) M80)) ∧ (¬ r70 = r79 → (post 0 M80)))))))))))))))))) ∧ ((Int32.toInt ((xs (Int32.toNatClampNeg x3)) &&& 31)) = 4 → (vp_in (x3 + 1) L ∧ (vp_in (x3 + 2) L ∧ (∃ aq84 : Nat, x1 = some aq84 ∧ (ddT M aq84 = 11 ∧ (PX10_finish aq84 (xs (Int32.toNatClampNeg (x3 + 1))) (xs (Int32.toNatClampNeg (x3 + 2))) M (fun r87 M88 => vp_in (x3 + 1) L ∧ (vp_in (x3 + 2) L ∧ (∃ aq91 : Nat, x2 = some aq91 ∧ (ddT M88 aq91 = 12 ∧ (PX11_finish aq91 (xs (Int32.toNatClampNeg (x3 + 1))) (xs (Int32.toNatClampNeg (x3 + 2))) M88 (fun r94 M95 => (r87 = r94 → (kb18 x1 x2 (x3 + 7) M95)) ∧ (¬ r87 = r94 → (post 0 M95)))))))))))))) ∧ ((Int32.toInt ((xs (Int32.toNatClampNeg x3)) &&& 31)) = 5 → (vp_in (x3 + 1) L ∧ (vp_in (x3 + 2) L ∧ (vp_in (x3 + 3) L ∧ (vp_in (x3 + 4) L ∧ (vp_in (x3 + 5) L ∧ (vp_in (x3 + 6) L ∧ (∃ aq103 : Nat, x1 = some aq103 ∧ (ddT M aq103 = 11 ∧ (PX10_split aq103 (xs (Int32.toNatClampNeg (x3 + 1))) (xs (Int32.toNatClampNeg (x3 + 2))) (xs (Int32.toNatClampNeg (x3 + 3))) (xs (Int32.toNatClampNeg (x3 + 4))) (xs (Int32.toNatClampNeg (x3 + 5))) (xs (Int32.toNatClampNeg (x3 + 6))) M (fun r106 M107 => vp_in (x3 + 1) L ∧ (vp_in (x3 + 2) L ∧ (vp_in (x3 + 3) L ∧ (vp_in (x3 + 4) L ∧ (vp_in (x3 + 5) L ∧ (vp_in (x3 + 6) L ∧ (∃ aq114 : Nat, x2 = some aq114 ∧ (ddT M107 aq114 = 12 ∧ (PX11_split aq114 (xs (Int32.toNatClampNeg (x3 + 1))) (xs (Int32.toNatClampNeg (x3 + 2))) (xs (Int32.toNatClampNeg (x3 + 3))) (xs (Int32.toNatClampNeg (x3 + 4))) (xs (Int32.toNatClampNeg (x3 + 5))) (xs (Int32.toNatClampNeg (x3 + 6))) M107 (fun r117 M118 => (r106 = r117 → (kb18 x1 x2 (x3 + 7) M118)) ∧ (¬ r106 = r117 → (post 0 M118)))))))))))))))))))))) ∧ ((Int32.toInt ((xs (Int32.toNatClampNeg x3)) &&& 31)) = 6 → (vp_in (x3 + 1) L ∧ (vp_in (x3 + 2) L ∧ (vp_in (x3 + 3) L ∧ (vp_in (x3 + 4) L ∧ (∃ aq124 : Nat, x1 = some aq124 ∧ (ddT M aq124 = 11 ∧ (PX10_lengthen aq124 (xs (Int32.toNatClampNeg (x3 + 1))) (xs (Int32.toNatClampNeg (x3 + 2))) (xs (Int32.toNatClampNeg (x3 + 3))) (xs (Int32.toNatClampNeg (x3 + 4))) M (fun r127 M128 => vp_in (x3 + 1) L ∧ (vp_in (x3 + 2) L ∧ (vp_in (x3 + 3) L ∧ (vp_in (x3 + 4) L ∧ (∃ aq133 : Nat, x2 = some aq133 ∧ (ddT M128 aq133 = 12 ∧ (PX11_lengthen aq133 (xs (Int32.toNatClampNeg (x3 + 1))) (xs (Int32.toNatClampNeg (x3 + 2))) (xs (Int32.toNatClampNeg (x3 + 3))) (xs (Int32.toNatClampNeg (x3 + 4))) M128 (fun r136 M137 => (r127 = r136 → (kb18 x1 x2 (x3 + 7) M137)) ∧ (¬ r127 = r136 → (post 0 M137)))))))))))))))))) ∧ ((Int32.toInt ((xs (Int32.toNatClampNeg x3)) &&& 31)) = 7 → (vp_in (x3 + 1) L ∧ (vp_in (x3 + 2) L ∧ (∃ aq141 : Nat, x1 = some aq141 ∧ (ddT M aq141 = 11 ∧ (PX10_entry aq141 (xs (Int32.toNatClampNeg (x3 + 1))) (xs (Int32.toNatClampNeg (x3 + 2))) M (fun r144 M145 => vp_in (x3 + 1) L ∧ (vp_in (x3 + 2) L ∧ (∃ aq148 : Nat, x2 = some aq148 ∧ (ddT M145 aq148 = 12 ∧ (PX11_entry aq148 (xs (Int32.toNatClampNeg (x3 + 1))) (xs (Int32.toNatClampNeg (x3 + 2))) M145 (fun r151 M152 => (r144 = r151 → (kb18 x1 x2 (x3 + 7) M152)) ∧ (¬ r144 = r151 → (post 0 M152)))))))))))))) ∧ ((Int32.toInt ((xs (Int32.toNatClampNeg x3)) &&& 31)) = 8 → (vp_in (x3 + 1) L ∧ (∃ aq155 : Nat, x1 = some aq155 ∧ (ddT M aq155 = 11 ∧ (PX10_pairs aq155 (xs (Int32.toNatClampNeg (x3 + 1))) M (fun r158 M159 => vp_in (x3 + 1) L ∧ (∃ aq161 : Nat, x2 = some aq161 ∧ (ddT M159 aq161 = 12 ∧ (PX11_pairs aq161 (xs (Int32.toNatClampNeg (x3 + 1))) M159 (fun r164 M165 => (r158 = r164 → (kb18 x1 x2 (x3 + 7) M165)) ∧ (¬ r158 = r164 → (post 0 M165)))))))))))) ∧ ((Int32.toInt ((xs (Int32.toNatClampNeg x3)) &&& 31)) = 9 → (vp_in (x3 + 1) L ∧ (vp_in (x3 + 2) L ∧ (vp_in (x3 + 3) L ∧ (∃ aq170 : Nat, x1 = some aq170 ∧ (ddT M aq170 = 11 ∧ (PX10_pair aq170 (xs (Int32.toNatClampNeg (x3 + 1))) (xs (Int32.toNatClampNeg (x3 + 2))) (xs (Int32.toNatClampNeg (x3 + 3))) M (fun r173 M174 => vp_in (x3 + 1) L ∧ (vp_in (x3 + 2) L ∧ (vp_in (x3 + 3) L ∧ (∃ aq178 : Nat, x2 = some aq178 ∧ (ddT M174 aq178 = 12 ∧ (PX11_pair aq178 (xs (Int32.toNatClampNeg (x3 + 1))) (xs (Int32.toNatClampNeg (x3 + 2))) (xs (Int32.toNatClampNeg (x3 + 3))) M174 (fun r181 M182 => (r173 = r181 → (kb18 x1 x2 (x3 + 7) M182)) ∧ (¬ r173 = r181 → (post 0 M182)))))))))))))))) ∧ ((Int32.toInt ((xs (Int32.toNatClampNeg x3)) &&& 31)) = 10 → (vp_in (x3 + 1) L ∧ (vp_in (x3 + 2) L ∧ (∃ aq186 : Nat, x1 = some aq186 ∧ (ddT M aq186 = 11 ∧ (PX10_line aq186 (xs (Int32.toNatClampNeg (x3 + 1))) (xs (Int32.toNatClampNeg (x3 + 2))) M (fun r189 M190 => vp_in (x3 + 1) L ∧ (vp_in (x3 + 2) L ∧ (∃ aq193 : Nat, x2 = some aq193 ∧ (ddT M190 aq193 = 12 ∧ (PX11_line aq193 (xs (Int32.toNatClampNeg (x3 + 1))) (xs (Int32.toNatClampNeg (x3 + 2))) M190 (fun r196 M197 => (r189 = r196 → (kb18 x1 x2 (x3 + 7) M197)) ∧ (¬ r189 = r196 → (post 0 M197)))))))))))))) ∧ ((Int32.toInt ((xs (Int32.toNatClampNeg x3)) &&& 31)) = 11 → (vp_in (x3 + 1) L ∧ (∃ aq200 : Nat, x1 = some aq200 ∧ (ddT M aq200 = 11 ∧ (PX10_drop aq200 (xs (Int32.toNatClampNeg (x3 + 1))) M (fun r203 M204 => vp_in (x3 + 1) L ∧ (∃ aq206 : Nat, x2 = some aq206 ∧ (ddT M204 aq206 = 12 ∧ (PX11_drop aq206 (xs (Int32.toNatClampNeg (x3 + 1))) M204 (fun r209 M210 => (r203 = r209 → (kb18 x1 x2 (x3 + 7) M210)) ∧ (¬ r203 = r209 → (post 0 M210)))))))))))) ∧ ((Int32.toInt ((xs (Int32.toNatClampNeg x3)) &&& 31)) = 12 → (vp_in (x3 + 1) L ∧ (vp_in (x3 + 2) L ∧ (∃ aq214 : Nat, x1 = some aq214 ∧ (ddT M aq214 = 11 ∧ (PX10_port aq214 (xs (Int32.toNatClampNeg (x3 + 1))) (xs (Int32.toNatClampNeg (x3 + 2))) M (fun r217 M218 => vp_in (x3 + 1) L ∧ (vp_in (x3 + 2) L ∧ (∃ aq221 : Nat, x2 = some aq221 ∧ (ddT M218 aq221 = 12 ∧ (PX11_port aq221 (xs (Int32.toNatClampNeg (x3 + 1))) (xs (Int32.toNatClampNeg (x3 + 2))) M218 (fun r224 M225 => (r217 = r224 → (kb18 x1 x2 (x3 + 7) M225)) ∧ (¬ r217 = r224 → (post 0 M225)))))))))))))) ∧ ((Int32.toInt ((xs (Int32.toNatClampNeg x3)) &&& 31)) = 13 → (vp_in (x3 + 1) L ∧ (vp_in (x3 + 2) L ∧ (∃ aq229 : Nat, x1 = some aq229 ∧ (ddT M aq229 = 11 ∧ (PX10_numberOf aq229 (xs (Int32.toNatClampNeg (x3 + 1))) (xs (Int32.toNatClampNeg (x3 + 2))) M (fun r232 M233 => vp_in (x3 + 1) L ∧ (vp_in (x3 + 2) L ∧ (∃ aq236 : Nat, x2 = some aq236 ∧ (ddT M233 aq236 = 12 ∧ (PX11_numberOf aq236 (xs (Int32.toNatClampNeg (x3 + 1))) (xs (Int32.toNatClampNeg (x3 + 2))) M233 (fun r239 M240 => ((lg_cmp r232 r239) = 0 → (kb18 x1 x2 (x3 + 7) M240)) ∧ (¬ (lg_cmp r232 r239) = 0 → (post 0 M240)))))))))))))) ∧ ((Int32.toInt ((xs (Int32.toNatClampNeg x3)) &&& 31)) = 14 → (vp_in (x3 + 1) L ∧ (vp_in (x3 + 2) L ∧ (vp_in (x3 + 3) L ∧ (∃ aq245 : Nat, x1 = some aq245 ∧ (ddT M aq245 = 11 ∧ (PX10_lineAt aq245 (xs (Int32.toNatClampNeg (x3 + 1))) (xs (Int32.toNatClampNeg (x3 + 2))) (xs (Int32.toNatClampNeg (x3 + 3))) M (fun r248 M249 => vp_in (x3 + 1) L ∧ (vp_in (x3 + 2) L ∧ (vp_in (x3 + 3) L ∧ (∃ aq253 : Nat, x2 = some aq253 ∧ (ddT M249 aq253 = 12 ∧ (PX11_lineAt aq253 (xs (Int32.toNatClampNeg (x3 + 1))) (xs (Int32.toNatClampNeg (x3 + 2))) (xs (Int32.toNatClampNeg (x3 + 3))) M249 (fun r256 M257 => (r248 = r256 → (kb18 x1 x2 (x3 + 7) M257)) ∧ (¬ r248 = r256 → (post 0 M257)))))))))))))))) ∧ ((Int32.toInt ((xs (Int32.toNatClampNeg x3)) &&& 31)) = 15 → (vp_in (x3 + 1) L ∧ (∃ aq260 : Nat, x1 = some aq260 ∧ (ddT M aq260 = 11 ∧ (PX10_call aq260 (xs (Int32.toNatClampNeg (x3 + 1))) M (fun r263 M264 => vp_in (x3 + 1) L ∧ (∃ aq266 : Nat, x2 = some aq266 ∧ (ddT M264 aq266 = 12 ∧ (PX11_call aq266 (xs (Int32.toNatClampNeg (x3 + 1))) M264 (fun r269 M270 => (r263 = r269 → (kb18 x1 x2 (x3 + 7) M270)) ∧ (¬ r263 = r269 → (post 0 M270)))))))))))) ∧ ((Int32.toInt ((xs (Int32.toNatClampNeg x3)) &&& 31)) = 16 → (vp_in (x3 + 1) L ∧ (vp_in (x3 + 2) L ∧ (∃ aq274 : Nat, x1 = some aq274 ∧ (ddT M aq274 = 11 ∧ (PX10_figure aq274 (xs (Int32.toNatClampNeg (x3 + 1))) (xs (Int32.toNatClampNeg (x3 + 2))) M (fun r277 M278 => vp_in (x3 + 1) L ∧ (vp_in (x3 + 2) L ∧ (∃ aq281 : Nat, x2 = some aq281 ∧ (ddT M278 aq281 = 12 ∧ (PX11_figure aq281 (xs (Int32.toNatClampNeg (x3 + 1))) (xs (Int32.toNatClampNeg (x3 + 2))) M278 (fun r284 M285 => (r277 = r284 → (kb18 x1 x2 (x3 + 7) M285)) ∧ (¬ r277 = r284 → (post 0 M285)))))))))))))) ∧ ((Int32.toInt ((xs (Int32.toNatClampNeg x3)) &&& 31)) = 17 → (vp_in (x3 + 1) L ∧ (∃ aq288 : Nat, x1 = some aq288 ∧ (ddT M aq288 = 11 ∧ (PX10_waits aq288 (xs (Int32.toNatClampNeg (x3 + 1))) M (fun r291 M292 => vp_in (x3 + 1) L ∧ (∃ aq294 : Nat, x2 = some aq294 ∧ (ddT M292 aq294 = 12 ∧ (PX11_waits aq294 (xs (Int32.toNatClampNeg (x3 + 1))) M292 (fun r297 M298 => (r291 = r297 → (kb18 x1 x2 (x3 + 7) M298)) ∧ (¬ r291 = r297 → (post 0 M298)))))))))))) ∧ ((Int32.toInt ((xs (Int32.toNatClampNeg x3)) &&& 31)) = 18 → (vp_in (x3 + 1) L ∧ (vp_in (x3 + 2) L ∧ (∃ aq302 : Nat, x1 = some aq302 ∧ (ddT M aq302 = 11 ∧ (PX10_told aq302 (xs (Int32.toNatClampNeg (x3 + 1))) (xs (Int32.toNatClampNeg (x3 + 2))) M (fun r305 M306 => vp_in (x3 + 1) L ∧ (vp_in (x3 + 2) L ∧ (∃ aq309 : Nat, x2 = some aq309 ∧ (ddT M306 aq309 = 12 ∧ (PX11_told aq309 (xs (Int32.toNatClampNeg (x3 + 1))) (xs (Int32.toNatClampNeg (x3 + 2))) M306 (fun r312 M313 => (r305 = r312 → (kb18 x1 x2 (x3 + 7) M313)) ∧ (¬ r305 = r312 → (post 0 M313)))))))))))))) ∧ ((Int32.toInt ((xs (Int32.toNatClampNeg x3)) &&& 31)) = 19 → (vp_in (x3 + 1) L ∧ (vp_in (x3 + 2) L ∧ (vp_in (x3 + 3) L ∧ (∃ aq318 : Nat, x1 = some aq318 ∧ (ddT M aq318 = 11 ∧ (PX10_leads aq318 (((Int32.toInt64 (xs (Int32.toNatClampNeg (x3 + 1)))) <<< ((Int32.toInt64 32) &&& 63)) ||| ((Int32.toInt64 (xs (Int32.toNatClampNeg (x3 + 2)))) &&& 4294967295)) (xs (Int32.toNatClampNeg (x3 + 3))) M (fun r321 M322 => vp_in (x3 + 1) L ∧ (vp_in (x3 + 2) L ∧ (vp_in (x3 + 3) L ∧ (∃ aq326 : Nat, x2 = some aq326 ∧ (ddT M322 aq326 = 12 ∧ (PX11_leads aq326 (((Int32.toInt64 (xs (Int32.toNatClampNeg (x3 + 1)))) <<< ((Int32.toInt64 32) &&& 63)) ||| ((Int32.toInt64 (xs (Int32.toNatClampNeg (x3 + 2)))) &&& 4294967295)) (xs (Int32.toNatClampNeg (x3 + 3))) M322 (fun r329 M330 => (r321 = r329 → (kb18 x1 x2 (x3 + 7) M330)) ∧ (¬ r321 = r329 → (post 0 M330)))))))))))))))) ∧ ((Int32.toInt ((xs (Int32.toNatClampNeg x3)) &&& 31)) = 20 → (vp_in (x3 + 1) L ∧ (vp_in (x3 + 2) L ∧ (vp_in (x3 + 3) L ∧ (∃ aq335 : Nat, x1 = some aq335 ∧ (ddT M aq335 = 11 ∧ (PX10_demand aq335 (xs (Int32.toNatClampNeg (x3 + 1))) (xs (Int32.toNatClampNeg (x3 + 2))) (xs (Int32.toNatClampNeg (x3 + 3))) M (fun r338 M339 => vp_in (x3 + 1) L ∧ (vp_in (x3 + 2) L ∧ (vp_in (x3 + 3) L ∧ (∃ aq343 : Nat, x2 = some aq343 ∧ (ddT M339 aq343 = 12 ∧ (PX11_demand aq343 (xs (Int32.toNatClampNeg (x3 + 1))) (xs (Int32.toNatClampNeg (x3 + 2))) (xs (Int32.toNatClampNeg (x3 + 3))) M339 (fun r346 M347 => (r338 = r346 → (kb18 x1 x2 (x3 + 7) M347)) ∧ (¬ r338 = r346 → (post 0 M347)))))))))))))))) ∧ ((Int32.toInt ((xs (Int32.toNatClampNeg x3)) &&& 31)) = 21 → (vp_in (x3 + 1) L ∧ (vp_in (x3 + 2) L ∧ (∃ aq351 : Nat, x1 = some aq351 ∧ (ddT M aq351 = 11 ∧ (PX10_room aq351 (xs (Int32.toNatClampNeg (x3 + 1))) (xs (Int32.toNatClampNeg (x3 + 2))) M (fun r354 M355 => vp_in (x3 + 1) L ∧ (vp_in (x3 + 2) L ∧ (∃ aq358 : Nat, x2 = some aq358 ∧ (ddT M355 aq358 = 12 ∧ (PX11_room aq358 (xs (Int32.toNatClampNeg (x3 + 1))) (xs (Int32.toNatClampNeg (x3 + 2))) M355 (fun r361 M362 => ((lg_cmp r354 r361) = 0 → (kb18 x1 x2 (x3 + 7) M362)) ∧ (¬ (lg_cmp r354 r361) = 0 → (post 0 M362)))))))))))))) ∧ ((Int32.toInt ((xs (Int32.toNatClampNeg x3)) &&& 31)) = 22 → (vp_in (x3 + 1) L ∧ (∃ aq365 : Nat, x1 = some aq365 ∧ (ddT M aq365 = 11 ∧ (PX10_shortage aq365 (xs (Int32.toNatClampNeg (x3 + 1))) M (fun r368 M369 => vp_in (x3 + 1) L ∧ (∃ aq371 : Nat, x2 = some aq371 ∧ (ddT M369 aq371 = 12 ∧ (PX11_shortage aq371 (xs (Int32.toNatClampNeg (x3 + 1))) M369 (fun r374 M375 => (r368 = r374 → (kb18 x1 x2 (x3 + 7) M375)) ∧ (¬ r368 = r374 → (post 0 M375)))))))))))) ∧ ((Int32.toInt ((xs (Int32.toNatClampNeg x3)) &&& 31)) = 23 → (vp_in (x3 + 1) L ∧ (vp_in (x3 + 2) L ∧ (vp_in (x3 + 3) L ∧ (vp_in (x3 + 4) L ∧ (vp_in (x3 + 5) L ∧ (vp_in (x3 + 6) L ∧ (∃ aq383 : Nat, x1 = some aq383 ∧ (ddT M aq383 = 11 ∧ (PX10_mightCome aq383 (xs (Int32.toNatClampNeg (x3 + 1))) (xs (Int32.toNatClampNeg (x3 + 2))) (xs (Int32.toNatClampNeg (x3 + 3))) (xs (Int32.toNatClampNeg (x3 + 4))) (xs (Int32.toNatClampNeg (x3 + 5))) (xs (Int32.toNatClampNeg (x3 + 6))) M (fun r386 M387 => vp_in (x3 + 1) L ∧ (vp_in (x3 + 2) L ∧ (vp_in (x3 + 3) L ∧ (vp_in (x3 + 4) L ∧ (vp_in (x3 + 5) L ∧ (vp_in (x3 + 6) L ∧ (∃ aq394 : Nat, x2 = some aq394 ∧ (ddT M387 aq394 = 12 ∧ (PX11_mightCome aq394 (xs (Int32.toNatClampNeg (x3 + 1))) (xs (Int32.toNatClampNeg (x3 + 2))) (xs (Int32.toNatClampNeg (x3 + 3))) (xs (Int32.toNatClampNeg (x3 + 4))) (xs (Int32.toNatClampNeg (x3 + 5))) (xs (Int32.toNatClampNeg (x3 + 6))) M387 (fun r397 M398 => (r386 = r397 → (kb18 x1 x2 (x3 + 7) M398)) ∧ (¬ r386 = r397 → (post 0 M398)))))))))))))))))))))) ∧ ((Int32.toInt ((xs (Int32.toNatClampNeg x3)) &&& 31)) = 24 → (vp_in (x3 + 1) L ∧ (vp_in (x3 + 2) L ∧ (∃ aq402 : Nat, x1 = some aq402 ∧ (ddT M aq402 = 11 ∧ (PX10_relief aq402 (xs (Int32.toNatClampNeg (x3 + 1))) (xs (Int32.toNatClampNeg (x3 + 2))) M (fun r405 M406 => vp_in (x3 + 1) L ∧ (vp_in (x3 + 2) L ∧ (∃ aq409 : Nat, x2 = some aq409 ∧ (ddT M406 aq409 = 12 ∧ (PX11_relief aq409 (xs (Int32.toNatClampNeg (x3 + 1))) (xs (Int32.toNatClampNeg (x3 + 2))) M406 (fun r412 M413 => (r405 = r412 → (kb18 x1 x2 (x3 + 7) M413)) ∧ (¬ r405 = r412 → (post 0 M413)))))))))))))) ∧ ((Int32.toInt ((xs (Int32.toNatClampNeg x3)) &&& 31)) = 25 → (vp_in (x3 + 1) L ∧ (∃ aq416 : Nat, x1 = some aq416 ∧ (ddT M aq416 = 11 ∧ (PX10_take aq416 (xs (Int32.toNatClampNeg (x3 + 1))) M (fun r419 M420 => vp_in (x3 + 1) L ∧ (∃ aq422 : Nat, x2 = some aq422 ∧ (ddT M420 aq422 = 12 ∧ (PX11_take aq422 (xs (Int32.toNatClampNeg (x3 + 1))) M420 (fun r425 M426 => (r419 = r425 → (kb18 x1 x2 (x3 + 7) M426)) ∧ (¬ r419 = r425 → (post 0 M426)))))))))))) ∧ ((Int32.toInt ((xs (Int32.toNatClampNeg x3)) &&& 31)) = 26 → (vp_in (x3 + 1) L ∧ (∃ aq429 : Nat, x1 = some aq429 ∧ (ddT M aq429 = 11 ∧ (PX10_count aq429 (xs (Int32.toNatClampNeg (x3 + 1))) M (fun r432 M433 => vp_in (x3 + 1) L ∧ (∃ aq435 : Nat, x2 = some aq435 ∧ (ddT M433 aq435 = 12 ∧ (PX11_count aq435 (xs (Int32.toNatClampNeg (x3 + 1))) M433 (fun r438 M439 => (r432 = r438 → (kb18 x1 x2 (x3 + 7) M439)) ∧ (¬ r432 = r438 → (post 0 M439)))))))))))) ∧ (¬ (0 ≤ (Int32.toInt ((xs (Int32.toNatClampNeg x3)) &&& 31)) ∧ (Int32.toInt ((xs (Int32.toNatClampNeg x3)) &&& 31)) ≤ 26) → (kb18 x1 x2 (x3 + 7) M)))))
def DL_law_18 (L : Nat) (xs : Nat → Int32) (post : Int32 → Mm → Prop) : Nat → (Option Nat) → (Option Nat) → Int32 → Mm → Prop
  | 0 => fun _ _ _ _ => False
  | fu + 1 => BL_law_18 L xs (DL_law_18 L xs post fu) post
def PL_law (L : Nat) (xs : Nat → Int32) (M : Mm) (post : Int32 → Mm → Prop) : Prop := ∀ n1 : Nat, n1 = ddZ M → (∀ M2 : Mm, M2 = suN M 11 0 → (PX10_init n1 M2 (fun M4 => ∀ n5 : Nat, n5 = ddZ M4 → (∀ M6 : Mm, M6 = suN M4 12 0 → (PX11_init n5 M6 (fun M8 => DL_law_18 L xs post 513 (some n1) (some n5) 0 M8))))))
theorem rs_ok : 7300000 ≤ room_1.slots := Nat.le_of_ble_eq_true rfl
set_option maxHeartbeats 40000000 in
set_option maxRecDepth 100000 in
theorem bL_law_18 {X : Cx_} {kb18 : (Option Nat) → (Option Nat) → Int32 → Mm → Prop} {post : Int32 → Mm → Prop} (kk nn : Nat) (hkk : kk + 6 ≤ 600000) (hnn : nn + 78 ≤ 7300000) (hb18 : ∀ (x1 : Option Nat) (x2 : Option Nat) (x3 : Int32) (M : Mm), kb18 x1 x2 x3 M → VV X mL_law rL_law (pI_ post) 18 [(0, .inr (.inr (some X.2.2.2.2.2.1))), (1, .inr (.inr x1)), (2, .inr (.inr x2)), (3, .inl x3)] [] M (kk + 6) (nn + 78)) {x1 : Option Nat} {x2 : Option Nat} {x3 : Int32} {M : Mm} (h : BL_law_18 X.2.2.2.2.2.2.1 X.2.2.2.2.2.2.2 kb18 post x1 x2 x3 M) : VV X mL_law rL_law (pI_ post) 18 [(0, .inr (.inr (some X.2.2.2.2.2.1))), (1, .inr (.inr x1)), (2, .inr (.inr x2)), (3, .inl x3)] [] M kk nn := by
  unfold BL_law_18 at h
  refine vv_iload_n (mi := mL_law) (pc := 18) 3 dL_law_18 rfl rfl ?_
  refine vv_aload_n (mi := mL_law) (pc := 19) 0 dL_law_19 rfl rfl ?_
  refine vv_slen (mi := mL_law) (pc := 20) dL_law_20 ?_
  refine vv_bipush (mi := mL_law) (pc := 21) 7 dL_law_21 rfl ?_
  refine vv_isub (mi := mL_law) (pc := 23) dL_law_23 ?_
  refine vv_icmp_gt (mi := mL_law) (pc := 24) 1199 dL_law_24 rfl (fun c9 => ?_) (fun c9 => ?_)
  · replace h := h.1 c9
    refine vv_iconst (mi := mL_law) (pc := 1199) 1 dL_law_1199 rfl ?_
    exact vv_zret (mi := mL_law) (pc := 1200) dL_law_1200 rfl (Or.inr rfl) (by show kk + 0 ≤ 600000; omega) (by have hs_ := rs_ok; show nn + 0 ≤ room_1.slots; omega) h
  · replace h := h.2 c9
    refine vv_aload_n (mi := mL_law) (pc := 27) 0 dL_law_27 rfl rfl ?_
    refine vv_iload_n (mi := mL_law) (pc := 28) 3 dL_law_28 rfl rfl ?_
    obtain ⟨hi10, h⟩ := h
    refine vv_sld (mi := mL_law) (pc := 29) hi10 dL_law_29 ?_
    refine vv_bipush (mi := mL_law) (pc := 30) 31 dL_law_30 rfl ?_
    refine vv_iand (mi := mL_law) (pc := 32) dL_law_32 ?_
    refine vv_tsw (mi := mL_law) (pc := 33) 1193 [156, 179, 242, 285, 338, 371, 446, 499, 532, 555, 598, 631, 654, 687, 721, 764, 787, 820, 843, 876, 939, 982, 1016, 1039, 1114, 1147, 1170] dL_law_33 rfl rfl rfl (fun j t c11 c11e => ?_) (fun c11 => ?_)
    · match j, c11, c11e with
      | 0, c11, c11e =>
        cases c11
        replace h := h.1 c11e
        refine vv_aload_n (mi := mL_law) (pc := 156) 1 dL_law_156 rfl rfl ?_
        refine vv_aload_n (mi := mL_law) (pc := 157) 0 dL_law_157 rfl rfl ?_
        refine vv_iload_n (mi := mL_law) (pc := 158) 3 dL_law_158 rfl rfl ?_
        refine vv_iconst (mi := mL_law) (pc := 159) 1 dL_law_159 rfl ?_
        refine vv_iadd (mi := mL_law) (pc := 160) dL_law_160 ?_
        obtain ⟨hi12, h⟩ := h
        refine vv_sld (mi := mL_law) (pc := 161) hi12 dL_law_161 ?_
        obtain ⟨aq13, hs14, h⟩ := h
        obtain ⟨ht15, h⟩ := h
        refine vv_callV (mi := mL_law) (pc := 162) (rest := []) (As := [.inl (X.2.2.2.2.2.2.2 (Int32.toNatClampNeg (x3 + 1)))]) (ctX10_now (X := X) h) dL_law_162 hs14 ht15 (Nat.le_of_ble_eq_true rfl) rfl mb_X10_now rfl ml_L_13 im_X10_now se_X10_now ⟨(Nat.le_of_ble_eq_true rfl), (Nat.le_of_ble_eq_true rfl)⟩ ⟨by show kk + 0 ≤ 600000; omega, by have hs_ := rs_ok; show nn + 0 ≤ room_1.slots; omega⟩ (Nat.le_of_ble_eq_true rfl) rfl (kI_ (F := fun st M' => VV X mL_law rL_law (pI_ post) 165 [(0, .inr (.inr (some X.2.2.2.2.2.1))), (1, .inr (.inr x1)), (2, .inr (.inr x2)), (3, .inl x3)] st M' (kk + 0) (nn + 0)) (fun r16 M17 h => ?_))
        refine vv_aload_n (mi := mL_law) (pc := 165) 2 dL_law_165 rfl rfl ?_
        refine vv_aload_n (mi := mL_law) (pc := 166) 0 dL_law_166 rfl rfl ?_
        refine vv_iload_n (mi := mL_law) (pc := 167) 3 dL_law_167 rfl rfl ?_
        refine vv_iconst (mi := mL_law) (pc := 168) 1 dL_law_168 rfl ?_
        refine vv_iadd (mi := mL_law) (pc := 169) dL_law_169 ?_
        obtain ⟨hi18, h⟩ := h
        refine vv_sld (mi := mL_law) (pc := 170) hi18 dL_law_170 ?_
        obtain ⟨aq19, hs20, h⟩ := h
        obtain ⟨ht21, h⟩ := h
        refine vv_callV (mi := mL_law) (pc := 171) (rest := [.inl r16]) (As := [.inl (X.2.2.2.2.2.2.2 (Int32.toNatClampNeg (x3 + 1)))]) (ctX11_now (X := X) h) dL_law_171 hs20 ht21 (Nat.le_of_ble_eq_true rfl) rfl mb_X11_now rfl ml_L_17 im_X11_now se_X11_now ⟨(Nat.le_of_ble_eq_true rfl), (Nat.le_of_ble_eq_true rfl)⟩ ⟨by show kk + 0 ≤ 600000; omega, by have hs_ := rs_ok; show nn + 0 ≤ room_1.slots; omega⟩ (Nat.le_of_ble_eq_true rfl) rfl (kI_ (F := fun st M' => VV X mL_law rL_law (pI_ post) 174 [(0, .inr (.inr (some X.2.2.2.2.2.1))), (1, .inr (.inr x1)), (2, .inr (.inr x2)), (3, .inl x3)] st M' (kk + 0) (nn + 0)) (fun r22 M23 h => ?_))
        refine vv_icmp_eq (mi := mL_law) (pc := 174) 1193 dL_law_174 rfl (fun c24 => ?_) (fun c24 => ?_)
        · replace h := h.1 c24
          refine vv_iinc (mi := mL_law) (pc := 1193) (x3 + 7) 3 [(3, .inl (x3 + 7)), (0, .inr (.inr (some X.2.2.2.2.2.1))), (1, .inr (.inr x1)), (2, .inr (.inr x2))] dL_law_1193 rfl rfl (Nat.le_of_ble_eq_true rfl) rfl ?_
          refine vv_goto (mi := mL_law) (pc := 1196) 18 dL_law_1196 rfl ?_
          refine vv_sub (mi := mL_law) [(0, .inr (.inr (some X.2.2.2.2.2.1))), (1, .inr (.inr x1)), (2, .inr (.inr x2)), (3, .inl (x3 + 7))] [1, 2, 3, 0] rfl ?_
          refine vv_widen (kk + 6) (nn + 78) (by omega) (by omega) ?_
          exact hb18 _ _ _ _ h
        · replace h := h.2 c24
          refine vv_iconst (mi := mL_law) (pc := 177) 0 dL_law_177 rfl ?_
          exact vv_zret (mi := mL_law) (pc := 178) dL_law_178 rfl (Or.inl rfl) (by show kk + 0 ≤ 600000; omega) (by have hs_ := rs_ok; show nn + 0 ≤ room_1.slots; omega) h
      | 1, c11, c11e =>
        cases c11
        replace h := h.2.1 c11e
        refine vv_aload_n (mi := mL_law) (pc := 179) 1 dL_law_179 rfl rfl ?_
        refine vv_aload_n (mi := mL_law) (pc := 180) 0 dL_law_180 rfl rfl ?_
        refine vv_iload_n (mi := mL_law) (pc := 181) 3 dL_law_181 rfl rfl ?_
        refine vv_iconst (mi := mL_law) (pc := 182) 1 dL_law_182 rfl ?_
        refine vv_iadd (mi := mL_law) (pc := 183) dL_law_183 ?_
        obtain ⟨hi25, h⟩ := h
        refine vv_sld (mi := mL_law) (pc := 184) hi25 dL_law_184 ?_
        refine vv_aload_n (mi := mL_law) (pc := 185) 0 dL_law_185 rfl rfl ?_
        refine vv_iload_n (mi := mL_law) (pc := 186) 3 dL_law_186 rfl rfl ?_
        refine vv_iconst (mi := mL_law) (pc := 187) 2 dL_law_187 rfl ?_
        refine vv_iadd (mi := mL_law) (pc := 188) dL_law_188 ?_
        obtain ⟨hi26, h⟩ := h
        refine vv_sld (mi := mL_law) (pc := 189) hi26 dL_law_189 ?_
        refine vv_aload_n (mi := mL_law) (pc := 190) 0 dL_law_190 rfl rfl ?_
        refine vv_iload_n (mi := mL_law) (pc := 191) 3 dL_law_191 rfl rfl ?_
        refine vv_iconst (mi := mL_law) (pc := 192) 3 dL_law_192 rfl ?_
        refine vv_iadd (mi := mL_law) (pc := 193) dL_law_193 ?_
        obtain ⟨hi27, h⟩ := h
        refine vv_sld (mi := mL_law) (pc := 194) hi27 dL_law_194 ?_
        refine vv_aload_n (mi := mL_law) (pc := 195) 0 dL_law_195 rfl rfl ?_
        refine vv_iload_n (mi := mL_law) (pc := 196) 3 dL_law_196 rfl rfl ?_
        refine vv_iconst (mi := mL_law) (pc := 197) 4 dL_law_197 rfl ?_
        refine vv_iadd (mi := mL_law) (pc := 198) dL_law_198 ?_
        obtain ⟨hi28, h⟩ := h
        refine vv_sld (mi := mL_law) (pc := 199) hi28 dL_law_199 ?_
        refine vv_aload_n (mi := mL_law) (pc := 200) 0 dL_law_200 rfl rfl ?_
        refine vv_iload_n (mi := mL_law) (pc := 201) 3 dL_law_201 rfl rfl ?_
        refine vv_iconst (mi := mL_law) (pc := 202) 5 dL_law_202 rfl ?_
        refine vv_iadd (mi := mL_law) (pc := 203) dL_law_203 ?_
        obtain ⟨hi29, h⟩ := h
        refine vv_sld (mi := mL_law) (pc := 204) hi29 dL_law_204 ?_
        obtain ⟨aq30, hs31, h⟩ := h
        obtain ⟨ht32, h⟩ := h
        refine vv_callV (mi := mL_law) (pc := 205) (rest := []) (As := [.inl (X.2.2.2.2.2.2.2 (Int32.toNatClampNeg (x3 + 1))), .inl (X.2.2.2.2.2.2.2 (Int32.toNatClampNeg (x3 + 2))), .inl (X.2.2.2.2.2.2.2 (Int32.toNatClampNeg (x3 + 3))), .inl (X.2.2.2.2.2.2.2 (Int32.toNatClampNeg (x3 + 4))), .inl (X.2.2.2.2.2.2.2 (Int32.toNatClampNeg (x3 + 5)))]) (ctX10_block (X := X) h) dL_law_205 hs31 ht32 (Nat.le_of_ble_eq_true rfl) rfl mb_X10_block rfl ml_L_18 im_X10_block se_X10_block ⟨(Nat.le_of_ble_eq_true rfl), (Nat.le_of_ble_eq_true rfl)⟩ ⟨by show kk + 2 ≤ 600000; omega, by have hs_ := rs_ok; show nn + 26 ≤ room_1.slots; omega⟩ (Nat.le_of_ble_eq_true rfl) rfl (kI_ (F := fun st M' => VV X mL_law rL_law (pI_ post) 208 [(0, .inr (.inr (some X.2.2.2.2.2.1))), (1, .inr (.inr x1)), (2, .inr (.inr x2)), (3, .inl x3)] st M' (kk + 2) (nn + 26)) (fun r33 M34 h => ?_))
        refine vv_aload_n (mi := mL_law) (pc := 208) 2 dL_law_208 rfl rfl ?_
        refine vv_aload_n (mi := mL_law) (pc := 209) 0 dL_law_209 rfl rfl ?_
        refine vv_iload_n (mi := mL_law) (pc := 210) 3 dL_law_210 rfl rfl ?_
        refine vv_iconst (mi := mL_law) (pc := 211) 1 dL_law_211 rfl ?_
        refine vv_iadd (mi := mL_law) (pc := 212) dL_law_212 ?_
        obtain ⟨hi35, h⟩ := h
        refine vv_sld (mi := mL_law) (pc := 213) hi35 dL_law_213 ?_
        refine vv_aload_n (mi := mL_law) (pc := 214) 0 dL_law_214 rfl rfl ?_
        refine vv_iload_n (mi := mL_law) (pc := 215) 3 dL_law_215 rfl rfl ?_
        refine vv_iconst (mi := mL_law) (pc := 216) 2 dL_law_216 rfl ?_
        refine vv_iadd (mi := mL_law) (pc := 217) dL_law_217 ?_
        obtain ⟨hi36, h⟩ := h
        refine vv_sld (mi := mL_law) (pc := 218) hi36 dL_law_218 ?_
        refine vv_aload_n (mi := mL_law) (pc := 219) 0 dL_law_219 rfl rfl ?_
        refine vv_iload_n (mi := mL_law) (pc := 220) 3 dL_law_220 rfl rfl ?_
        refine vv_iconst (mi := mL_law) (pc := 221) 3 dL_law_221 rfl ?_
        refine vv_iadd (mi := mL_law) (pc := 222) dL_law_222 ?_
        obtain ⟨hi37, h⟩ := h
        refine vv_sld (mi := mL_law) (pc := 223) hi37 dL_law_223 ?_
        refine vv_aload_n (mi := mL_law) (pc := 224) 0 dL_law_224 rfl rfl ?_
        refine vv_iload_n (mi := mL_law) (pc := 225) 3 dL_law_225 rfl rfl ?_
        refine vv_iconst (mi := mL_law) (pc := 226) 4 dL_law_226 rfl ?_
        refine vv_iadd (mi := mL_law) (pc := 227) dL_law_227 ?_
        obtain ⟨hi38, h⟩ := h
        refine vv_sld (mi := mL_law) (pc := 228) hi38 dL_law_228 ?_
        refine vv_aload_n (mi := mL_law) (pc := 229) 0 dL_law_229 rfl rfl ?_
        refine vv_iload_n (mi := mL_law) (pc := 230) 3 dL_law_230 rfl rfl ?_
        refine vv_iconst (mi := mL_law) (pc := 231) 5 dL_law_231 rfl ?_
        refine vv_iadd (mi := mL_law) (pc := 232) dL_law_232 ?_
        obtain ⟨hi39, h⟩ := h
        refine vv_sld (mi := mL_law) (pc := 233) hi39 dL_law_233 ?_
        obtain ⟨aq40, hs41, h⟩ := h
        obtain ⟨ht42, h⟩ := h
        refine vv_callV (mi := mL_law) (pc := 234) (rest := [.inl r33]) (As := [.inl (X.2.2.2.2.2.2.2 (Int32.toNatClampNeg (x3 + 1))), .inl (X.2.2.2.2.2.2.2 (Int32.toNatClampNeg (x3 + 2))), .inl (X.2.2.2.2.2.2.2 (Int32.toNatClampNeg (x3 + 3))), .inl (X.2.2.2.2.2.2.2 (Int32.toNatClampNeg (x3 + 4))), .inl (X.2.2.2.2.2.2.2 (Int32.toNatClampNeg (x3 + 5)))]) (ctX11_block (X := X) h) dL_law_234 hs41 ht42 (Nat.le_of_ble_eq_true rfl) rfl mb_X11_block rfl ml_L_22 im_X11_block se_X11_block ⟨(Nat.le_of_ble_eq_true rfl), (Nat.le_of_ble_eq_true rfl)⟩ ⟨by show kk + 2 ≤ 600000; omega, by have hs_ := rs_ok; show nn + 26 ≤ room_1.slots; omega⟩ (Nat.le_of_ble_eq_true rfl) rfl (kI_ (F := fun st M' => VV X mL_law rL_law (pI_ post) 237 [(0, .inr (.inr (some X.2.2.2.2.2.1))), (1, .inr (.inr x1)), (2, .inr (.inr x2)), (3, .inl x3)] st M' (kk + 2) (nn + 26)) (fun r43 M44 h => ?_))
        refine vv_icmp_eq (mi := mL_law) (pc := 237) 1193 dL_law_237 rfl (fun c45 => ?_) (fun c45 => ?_)
        · replace h := h.1 c45
          refine vv_iinc (mi := mL_law) (pc := 1193) (x3 + 7) 3 [(3, .inl (x3 + 7)), (0, .inr (.inr (some X.2.2.2.2.2.1))), (1, .inr (.inr x1)), (2, .inr (.inr x2))] dL_law_1193 rfl rfl (Nat.le_of_ble_eq_true rfl) rfl ?_
          refine vv_goto (mi := mL_law) (pc := 1196) 18 dL_law_1196 rfl ?_
          refine vv_sub (mi := mL_law) [(0, .inr (.inr (some X.2.2.2.2.2.1))), (1, .inr (.inr x1)), (2, .inr (.inr x2)), (3, .inl (x3 + 7))] [1, 2, 3, 0] rfl ?_
          refine vv_widen (kk + 6) (nn + 78) (by omega) (by omega) ?_
          exact hb18 _ _ _ _ h
        · replace h := h.2 c45
          refine vv_iconst (mi := mL_law) (pc := 240) 0 dL_law_240 rfl ?_
          exact vv_zret (mi := mL_law) (pc := 241) dL_law_241 rfl (Or.inl rfl) (by show kk + 2 ≤ 600000; omega) (by have hs_ := rs_ok; show nn + 26 ≤ room_1.slots; omega) h
      | 2, c11, c11e =>
        cases c11
        replace h := h.2.2.1 c11e
        refine vv_aload_n (mi := mL_law) (pc := 242) 1 dL_law_242 rfl rfl ?_
        refine vv_aload_n (mi := mL_law) (pc := 243) 0 dL_law_243 rfl rfl ?_
        refine vv_iload_n (mi := mL_law) (pc := 244) 3 dL_law_244 rfl rfl ?_
        refine vv_iconst (mi := mL_law) (pc := 245) 1 dL_law_245 rfl ?_
        refine vv_iadd (mi := mL_law) (pc := 246) dL_law_246 ?_
        obtain ⟨hi46, h⟩ := h
        refine vv_sld (mi := mL_law) (pc := 247) hi46 dL_law_247 ?_
        refine vv_aload_n (mi := mL_law) (pc := 248) 0 dL_law_248 rfl rfl ?_
        refine vv_iload_n (mi := mL_law) (pc := 249) 3 dL_law_249 rfl rfl ?_
        refine vv_iconst (mi := mL_law) (pc := 250) 2 dL_law_250 rfl ?_
        refine vv_iadd (mi := mL_law) (pc := 251) dL_law_251 ?_
        obtain ⟨hi47, h⟩ := h
        refine vv_sld (mi := mL_law) (pc := 252) hi47 dL_law_252 ?_
        refine vv_aload_n (mi := mL_law) (pc := 253) 0 dL_law_253 rfl rfl ?_
        refine vv_iload_n (mi := mL_law) (pc := 254) 3 dL_law_254 rfl rfl ?_
        refine vv_iconst (mi := mL_law) (pc := 255) 3 dL_law_255 rfl ?_
        refine vv_iadd (mi := mL_law) (pc := 256) dL_law_256 ?_
        obtain ⟨hi48, h⟩ := h
        refine vv_sld (mi := mL_law) (pc := 257) hi48 dL_law_257 ?_
        obtain ⟨aq49, hs50, h⟩ := h
        obtain ⟨ht51, h⟩ := h
        refine vv_callV (mi := mL_law) (pc := 258) (rest := []) (As := [.inl (X.2.2.2.2.2.2.2 (Int32.toNatClampNeg (x3 + 1))), .inl (X.2.2.2.2.2.2.2 (Int32.toNatClampNeg (x3 + 2))), .inl (X.2.2.2.2.2.2.2 (Int32.toNatClampNeg (x3 + 3)))]) (ctX10_service (X := X) h) dL_law_258 hs50 ht51 (Nat.le_of_ble_eq_true rfl) rfl mb_X10_service rfl ml_L_23 im_X10_service se_X10_service ⟨(Nat.le_of_ble_eq_true rfl), (Nat.le_of_ble_eq_true rfl)⟩ ⟨by show kk + 2 ≤ 600000; omega, by have hs_ := rs_ok; show nn + 26 ≤ room_1.slots; omega⟩ (Nat.le_of_ble_eq_true rfl) rfl (kI_ (F := fun st M' => VV X mL_law rL_law (pI_ post) 261 [(0, .inr (.inr (some X.2.2.2.2.2.1))), (1, .inr (.inr x1)), (2, .inr (.inr x2)), (3, .inl x3)] st M' (kk + 2) (nn + 26)) (fun r52 M53 h => ?_))
        refine vv_aload_n (mi := mL_law) (pc := 261) 2 dL_law_261 rfl rfl ?_
        refine vv_aload_n (mi := mL_law) (pc := 262) 0 dL_law_262 rfl rfl ?_
        refine vv_iload_n (mi := mL_law) (pc := 263) 3 dL_law_263 rfl rfl ?_
        refine vv_iconst (mi := mL_law) (pc := 264) 1 dL_law_264 rfl ?_
        refine vv_iadd (mi := mL_law) (pc := 265) dL_law_265 ?_
        obtain ⟨hi54, h⟩ := h
        refine vv_sld (mi := mL_law) (pc := 266) hi54 dL_law_266 ?_
        refine vv_aload_n (mi := mL_law) (pc := 267) 0 dL_law_267 rfl rfl ?_
        refine vv_iload_n (mi := mL_law) (pc := 268) 3 dL_law_268 rfl rfl ?_
        refine vv_iconst (mi := mL_law) (pc := 269) 2 dL_law_269 rfl ?_
        refine vv_iadd (mi := mL_law) (pc := 270) dL_law_270 ?_
        obtain ⟨hi55, h⟩ := h
        refine vv_sld (mi := mL_law) (pc := 271) hi55 dL_law_271 ?_
        refine vv_aload_n (mi := mL_law) (pc := 272) 0 dL_law_272 rfl rfl ?_
        refine vv_iload_n (mi := mL_law) (pc := 273) 3 dL_law_273 rfl rfl ?_
        refine vv_iconst (mi := mL_law) (pc := 274) 3 dL_law_274 rfl ?_
        refine vv_iadd (mi := mL_law) (pc := 275) dL_law_275 ?_
        obtain ⟨hi56, h⟩ := h
        refine vv_sld (mi := mL_law) (pc := 276) hi56 dL_law_276 ?_
        obtain ⟨aq57, hs58, h⟩ := h
        obtain ⟨ht59, h⟩ := h
        refine vv_callV (mi := mL_law) (pc := 277) (rest := [.inl r52]) (As := [.inl (X.2.2.2.2.2.2.2 (Int32.toNatClampNeg (x3 + 1))), .inl (X.2.2.2.2.2.2.2 (Int32.toNatClampNeg (x3 + 2))), .inl (X.2.2.2.2.2.2.2 (Int32.toNatClampNeg (x3 + 3)))]) (ctX11_service (X := X) h) dL_law_277 hs58 ht59 (Nat.le_of_ble_eq_true rfl) rfl mb_X11_service rfl ml_L_27 im_X11_service se_X11_service ⟨(Nat.le_of_ble_eq_true rfl), (Nat.le_of_ble_eq_true rfl)⟩ ⟨by show kk + 2 ≤ 600000; omega, by have hs_ := rs_ok; show nn + 26 ≤ room_1.slots; omega⟩ (Nat.le_of_ble_eq_true rfl) rfl (kI_ (F := fun st M' => VV X mL_law rL_law (pI_ post) 280 [(0, .inr (.inr (some X.2.2.2.2.2.1))), (1, .inr (.inr x1)), (2, .inr (.inr x2)), (3, .inl x3)] st M' (kk + 2) (nn + 26)) (fun r60 M61 h => ?_))
        refine vv_icmp_eq (mi := mL_law) (pc := 280) 1193 dL_law_280 rfl (fun c62 => ?_) (fun c62 => ?_)
        · replace h := h.1 c62
          refine vv_iinc (mi := mL_law) (pc := 1193) (x3 + 7) 3 [(3, .inl (x3 + 7)), (0, .inr (.inr (some X.2.2.2.2.2.1))), (1, .inr (.inr x1)), (2, .inr (.inr x2))] dL_law_1193 rfl rfl (Nat.le_of_ble_eq_true rfl) rfl ?_
          refine vv_goto (mi := mL_law) (pc := 1196) 18 dL_law_1196 rfl ?_
          refine vv_sub (mi := mL_law) [(0, .inr (.inr (some X.2.2.2.2.2.1))), (1, .inr (.inr x1)), (2, .inr (.inr x2)), (3, .inl (x3 + 7))] [1, 2, 3, 0] rfl ?_
          refine vv_widen (kk + 6) (nn + 78) (by omega) (by omega) ?_
          exact hb18 _ _ _ _ h
        · replace h := h.2 c62
          refine vv_iconst (mi := mL_law) (pc := 283) 0 dL_law_283 rfl ?_
          exact vv_zret (mi := mL_law) (pc := 284) dL_law_284 rfl (Or.inl rfl) (by show kk + 2 ≤ 600000; omega) (by have hs_ := rs_ok; show nn + 26 ≤ room_1.slots; omega) h
      | 3, c11, c11e =>
        cases c11
        replace h := h.2.2.2.1 c11e
        refine vv_aload_n (mi := mL_law) (pc := 285) 1 dL_law_285 rfl rfl ?_
        refine vv_aload_n (mi := mL_law) (pc := 286) 0 dL_law_286 rfl rfl ?_
        refine vv_iload_n (mi := mL_law) (pc := 287) 3 dL_law_287 rfl rfl ?_
        refine vv_iconst (mi := mL_law) (pc := 288) 1 dL_law_288 rfl ?_
        refine vv_iadd (mi := mL_law) (pc := 289) dL_law_289 ?_
        obtain ⟨hi63, h⟩ := h
        refine vv_sld (mi := mL_law) (pc := 290) hi63 dL_law_290 ?_
        refine vv_aload_n (mi := mL_law) (pc := 291) 0 dL_law_291 rfl rfl ?_
        refine vv_iload_n (mi := mL_law) (pc := 292) 3 dL_law_292 rfl rfl ?_
        refine vv_iconst (mi := mL_law) (pc := 293) 2 dL_law_293 rfl ?_
        refine vv_iadd (mi := mL_law) (pc := 294) dL_law_294 ?_
        obtain ⟨hi64, h⟩ := h
        refine vv_sld (mi := mL_law) (pc := 295) hi64 dL_law_295 ?_
        refine vv_aload_n (mi := mL_law) (pc := 296) 0 dL_law_296 rfl rfl ?_
        refine vv_iload_n (mi := mL_law) (pc := 297) 3 dL_law_297 rfl rfl ?_
        refine vv_iconst (mi := mL_law) (pc := 298) 3 dL_law_298 rfl ?_
        refine vv_iadd (mi := mL_law) (pc := 299) dL_law_299 ?_
        obtain ⟨hi65, h⟩ := h
        refine vv_sld (mi := mL_law) (pc := 300) hi65 dL_law_300 ?_
        refine vv_aload_n (mi := mL_law) (pc := 301) 0 dL_law_301 rfl rfl ?_
        refine vv_iload_n (mi := mL_law) (pc := 302) 3 dL_law_302 rfl rfl ?_
        refine vv_iconst (mi := mL_law) (pc := 303) 4 dL_law_303 rfl ?_
        refine vv_iadd (mi := mL_law) (pc := 304) dL_law_304 ?_
        obtain ⟨hi66, h⟩ := h
        refine vv_sld (mi := mL_law) (pc := 305) hi66 dL_law_305 ?_
        obtain ⟨aq67, hs68, h⟩ := h
        obtain ⟨ht69, h⟩ := h
        refine vv_callV (mi := mL_law) (pc := 306) (rest := []) (As := [.inl (X.2.2.2.2.2.2.2 (Int32.toNatClampNeg (x3 + 1))), .inl (X.2.2.2.2.2.2.2 (Int32.toNatClampNeg (x3 + 2))), .inl (X.2.2.2.2.2.2.2 (Int32.toNatClampNeg (x3 + 3))), .inl (X.2.2.2.2.2.2.2 (Int32.toNatClampNeg (x3 + 4)))]) (ctX10_foreign (X := X) h) dL_law_306 hs68 ht69 (Nat.le_of_ble_eq_true rfl) rfl mb_X10_foreign rfl ml_L_28 im_X10_foreign se_X10_foreign ⟨(Nat.le_of_ble_eq_true rfl), (Nat.le_of_ble_eq_true rfl)⟩ ⟨by show kk + 2 ≤ 600000; omega, by have hs_ := rs_ok; show nn + 26 ≤ room_1.slots; omega⟩ (Nat.le_of_ble_eq_true rfl) rfl (kI_ (F := fun st M' => VV X mL_law rL_law (pI_ post) 309 [(0, .inr (.inr (some X.2.2.2.2.2.1))), (1, .inr (.inr x1)), (2, .inr (.inr x2)), (3, .inl x3)] st M' (kk + 2) (nn + 26)) (fun r70 M71 h => ?_))
        refine vv_aload_n (mi := mL_law) (pc := 309) 2 dL_law_309 rfl rfl ?_
        refine vv_aload_n (mi := mL_law) (pc := 310) 0 dL_law_310 rfl rfl ?_
        refine vv_iload_n (mi := mL_law) (pc := 311) 3 dL_law_311 rfl rfl ?_
        refine vv_iconst (mi := mL_law) (pc := 312) 1 dL_law_312 rfl ?_
        refine vv_iadd (mi := mL_law) (pc := 313) dL_law_313 ?_
        obtain ⟨hi72, h⟩ := h
        refine vv_sld (mi := mL_law) (pc := 314) hi72 dL_law_314 ?_
        refine vv_aload_n (mi := mL_law) (pc := 315) 0 dL_law_315 rfl rfl ?_
        refine vv_iload_n (mi := mL_law) (pc := 316) 3 dL_law_316 rfl rfl ?_
        refine vv_iconst (mi := mL_law) (pc := 317) 2 dL_law_317 rfl ?_
        refine vv_iadd (mi := mL_law) (pc := 318) dL_law_318 ?_
        obtain ⟨hi73, h⟩ := h
        refine vv_sld (mi := mL_law) (pc := 319) hi73 dL_law_319 ?_
        refine vv_aload_n (mi := mL_law) (pc := 320) 0 dL_law_320 rfl rfl ?_
        refine vv_iload_n (mi := mL_law) (pc := 321) 3 dL_law_321 rfl rfl ?_
        refine vv_iconst (mi := mL_law) (pc := 322) 3 dL_law_322 rfl ?_
        refine vv_iadd (mi := mL_law) (pc := 323) dL_law_323 ?_
        obtain ⟨hi74, h⟩ := h
        refine vv_sld (mi := mL_law) (pc := 324) hi74 dL_law_324 ?_
        refine vv_aload_n (mi := mL_law) (pc := 325) 0 dL_law_325 rfl rfl ?_
        refine vv_iload_n (mi := mL_law) (pc := 326) 3 dL_law_326 rfl rfl ?_
        refine vv_iconst (mi := mL_law) (pc := 327) 4 dL_law_327 rfl ?_
        refine vv_iadd (mi := mL_law) (pc := 328) dL_law_328 ?_
        obtain ⟨hi75, h⟩ := h
        refine vv_sld (mi := mL_law) (pc := 329) hi75 dL_law_329 ?_
        obtain ⟨aq76, hs77, h⟩ := h
        obtain ⟨ht78, h⟩ := h
        refine vv_callV (mi := mL_law) (pc := 330) (rest := [.inl r70]) (As := [.inl (X.2.2.2.2.2.2.2 (Int32.toNatClampNeg (x3 + 1))), .inl (X.2.2.2.2.2.2.2 (Int32.toNatClampNeg (x3 + 2))), .inl (X.2.2.2.2.2.2.2 (Int32.toNatClampNeg (x3 + 3))), .inl (X.2.2.2.2.2.2.2 (Int32.toNatClampNeg (x3 + 4)))]) (ctX11_foreign (X := X) h) dL_law_330 hs77 ht78 (Nat.le_of_ble_eq_true rfl) rfl mb_X11_foreign rfl ml_L_32 im_X11_foreign se_X11_foreign ⟨(Nat.le_of_ble_eq_true rfl), (Nat.le_of_ble_eq_true rfl)⟩ ⟨by show kk + 2 ≤ 600000; omega, by have hs_ := rs_ok; show nn + 26 ≤ room_1.slots; omega⟩ (Nat.le_of_ble_eq_true rfl) rfl (kI_ (F := fun st M' => VV X mL_law rL_law (pI_ post) 333 [(0, .inr (.inr (some X.2.2.2.2.2.1))), (1, .inr (.inr x1)), (2, .inr (.inr x2)), (3, .inl x3)] st M' (kk + 2) (nn + 26)) (fun r79 M80 h => ?_))
        refine vv_icmp_eq (mi := mL_law) (pc := 333) 1193 dL_law_333 rfl (fun c81 => ?_) (fun c81 => ?_)
        · replace h := h.1 c81
          refine vv_iinc (mi := mL_law) (pc := 1193) (x3 + 7) 3 [(3, .inl (x3 + 7)), (0, .inr (.inr (some X.2.2.2.2.2.1))), (1, .inr (.inr x1)), (2, .inr (.inr x2))] dL_law_1193 rfl rfl (Nat.le_of_ble_eq_true rfl) rfl ?_
          refine vv_goto (mi := mL_law) (pc := 1196) 18 dL_law_1196 rfl ?_
          refine vv_sub (mi := mL_law) [(0, .inr (.inr (some X.2.2.2.2.2.1))), (1, .inr (.inr x1)), (2, .inr (.inr x2)), (3, .inl (x3 + 7))] [1, 2, 3, 0] rfl ?_
          refine vv_widen (kk + 6) (nn + 78) (by omega) (by omega) ?_
          exact hb18 _ _ _ _ h
        · replace h := h.2 c81
          refine vv_iconst (mi := mL_law) (pc := 336) 0 dL_law_336 rfl ?_
          exact vv_zret (mi := mL_law) (pc := 337) dL_law_337 rfl (Or.inl rfl) (by show kk + 2 ≤ 600000; omega) (by have hs_ := rs_ok; show nn + 26 ≤ room_1.slots; omega) h
      | 4, c11, c11e =>
        cases c11
        replace h := h.2.2.2.2.1 c11e
        refine vv_aload_n (mi := mL_law) (pc := 338) 1 dL_law_338 rfl rfl ?_
        refine vv_aload_n (mi := mL_law) (pc := 339) 0 dL_law_339 rfl rfl ?_
        refine vv_iload_n (mi := mL_law) (pc := 340) 3 dL_law_340 rfl rfl ?_
        refine vv_iconst (mi := mL_law) (pc := 341) 1 dL_law_341 rfl ?_
        refine vv_iadd (mi := mL_law) (pc := 342) dL_law_342 ?_
        obtain ⟨hi82, h⟩ := h
        refine vv_sld (mi := mL_law) (pc := 343) hi82 dL_law_343 ?_
        refine vv_aload_n (mi := mL_law) (pc := 344) 0 dL_law_344 rfl rfl ?_
        refine vv_iload_n (mi := mL_law) (pc := 345) 3 dL_law_345 rfl rfl ?_
        refine vv_iconst (mi := mL_law) (pc := 346) 2 dL_law_346 rfl ?_
        refine vv_iadd (mi := mL_law) (pc := 347) dL_law_347 ?_
        obtain ⟨hi83, h⟩ := h
        refine vv_sld (mi := mL_law) (pc := 348) hi83 dL_law_348 ?_
        obtain ⟨aq84, hs85, h⟩ := h
        obtain ⟨ht86, h⟩ := h
        refine vv_callV (mi := mL_law) (pc := 349) (rest := []) (As := [.inl (X.2.2.2.2.2.2.2 (Int32.toNatClampNeg (x3 + 1))), .inl (X.2.2.2.2.2.2.2 (Int32.toNatClampNeg (x3 + 2)))]) (ctX10_finish (X := X) h) dL_law_349 hs85 ht86 (Nat.le_of_ble_eq_true rfl) rfl mb_X10_finish rfl ml_L_33 im_X10_finish se_X10_finish ⟨(Nat.le_of_ble_eq_true rfl), (Nat.le_of_ble_eq_true rfl)⟩ ⟨by show kk + 0 ≤ 600000; omega, by have hs_ := rs_ok; show nn + 0 ≤ room_1.slots; omega⟩ (Nat.le_of_ble_eq_true rfl) rfl (kI_ (F := fun st M' => VV X mL_law rL_law (pI_ post) 352 [(0, .inr (.inr (some X.2.2.2.2.2.1))), (1, .inr (.inr x1)), (2, .inr (.inr x2)), (3, .inl x3)] st M' (kk + 0) (nn + 0)) (fun r87 M88 h => ?_))
        refine vv_aload_n (mi := mL_law) (pc := 352) 2 dL_law_352 rfl rfl ?_
        refine vv_aload_n (mi := mL_law) (pc := 353) 0 dL_law_353 rfl rfl ?_
        refine vv_iload_n (mi := mL_law) (pc := 354) 3 dL_law_354 rfl rfl ?_
        refine vv_iconst (mi := mL_law) (pc := 355) 1 dL_law_355 rfl ?_
        refine vv_iadd (mi := mL_law) (pc := 356) dL_law_356 ?_
        obtain ⟨hi89, h⟩ := h
        refine vv_sld (mi := mL_law) (pc := 357) hi89 dL_law_357 ?_
        refine vv_aload_n (mi := mL_law) (pc := 358) 0 dL_law_358 rfl rfl ?_
        refine vv_iload_n (mi := mL_law) (pc := 359) 3 dL_law_359 rfl rfl ?_
        refine vv_iconst (mi := mL_law) (pc := 360) 2 dL_law_360 rfl ?_
        refine vv_iadd (mi := mL_law) (pc := 361) dL_law_361 ?_
        obtain ⟨hi90, h⟩ := h
        refine vv_sld (mi := mL_law) (pc := 362) hi90 dL_law_362 ?_
        obtain ⟨aq91, hs92, h⟩ := h
        obtain ⟨ht93, h⟩ := h
        refine vv_callV (mi := mL_law) (pc := 363) (rest := [.inl r87]) (As := [.inl (X.2.2.2.2.2.2.2 (Int32.toNatClampNeg (x3 + 1))), .inl (X.2.2.2.2.2.2.2 (Int32.toNatClampNeg (x3 + 2)))]) (ctX11_finish (X := X) h) dL_law_363 hs92 ht93 (Nat.le_of_ble_eq_true rfl) rfl mb_X11_finish rfl ml_L_37 im_X11_finish se_X11_finish ⟨(Nat.le_of_ble_eq_true rfl), (Nat.le_of_ble_eq_true rfl)⟩ ⟨by show kk + 0 ≤ 600000; omega, by have hs_ := rs_ok; show nn + 0 ≤ room_1.slots; omega⟩ (Nat.le_of_ble_eq_true rfl) rfl (kI_ (F := fun st M' => VV X mL_law rL_law (pI_ post) 366 [(0, .inr (.inr (some X.2.2.2.2.2.1))), (1, .inr (.inr x1)), (2, .inr (.inr x2)), (3, .inl x3)] st M' (kk + 0) (nn + 0)) (fun r94 M95 h => ?_))
        refine vv_icmp_eq (mi := mL_law) (pc := 366) 1193 dL_law_366 rfl (fun c96 => ?_) (fun c96 => ?_)
        · replace h := h.1 c96
          refine vv_iinc (mi := mL_law) (pc := 1193) (x3 + 7) 3 [(3, .inl (x3 + 7)), (0, .inr (.inr (some X.2.2.2.2.2.1))), (1, .inr (.inr x1)), (2, .inr (.inr x2))] dL_law_1193 rfl rfl (Nat.le_of_ble_eq_true rfl) rfl ?_
          refine vv_goto (mi := mL_law) (pc := 1196) 18 dL_law_1196 rfl ?_
          refine vv_sub (mi := mL_law) [(0, .inr (.inr (some X.2.2.2.2.2.1))), (1, .inr (.inr x1)), (2, .inr (.inr x2)), (3, .inl (x3 + 7))] [1, 2, 3, 0] rfl ?_
          refine vv_widen (kk + 6) (nn + 78) (by omega) (by omega) ?_
          exact hb18 _ _ _ _ h
        · replace h := h.2 c96
          refine vv_iconst (mi := mL_law) (pc := 369) 0 dL_law_369 rfl ?_
          exact vv_zret (mi := mL_law) (pc := 370) dL_law_370 rfl (Or.inl rfl) (by show kk + 0 ≤ 600000; omega) (by have hs_ := rs_ok; show nn + 0 ≤ room_1.slots; omega) h
      | 5, c11, c11e =>
        cases c11
        replace h := h.2.2.2.2.2.1 c11e
        refine vv_aload_n (mi := mL_law) (pc := 371) 1 dL_law_371 rfl rfl ?_
        refine vv_aload_n (mi := mL_law) (pc := 372) 0 dL_law_372 rfl rfl ?_
        refine vv_iload_n (mi := mL_law) (pc := 373) 3 dL_law_373 rfl rfl ?_
        refine vv_iconst (mi := mL_law) (pc := 374) 1 dL_law_374 rfl ?_
        refine vv_iadd (mi := mL_law) (pc := 375) dL_law_375 ?_
        obtain ⟨hi97, h⟩ := h
        refine vv_sld (mi := mL_law) (pc := 376) hi97 dL_law_376 ?_
        refine vv_aload_n (mi := mL_law) (pc := 377) 0 dL_law_377 rfl rfl ?_
        refine vv_iload_n (mi := mL_law) (pc := 378) 3 dL_law_378 rfl rfl ?_
        refine vv_iconst (mi := mL_law) (pc := 379) 2 dL_law_379 rfl ?_
        refine vv_iadd (mi := mL_law) (pc := 380) dL_law_380 ?_
        obtain ⟨hi98, h⟩ := h
        refine vv_sld (mi := mL_law) (pc := 381) hi98 dL_law_381 ?_
        refine vv_aload_n (mi := mL_law) (pc := 382) 0 dL_law_382 rfl rfl ?_
        refine vv_iload_n (mi := mL_law) (pc := 383) 3 dL_law_383 rfl rfl ?_
        refine vv_iconst (mi := mL_law) (pc := 384) 3 dL_law_384 rfl ?_
        refine vv_iadd (mi := mL_law) (pc := 385) dL_law_385 ?_
        obtain ⟨hi99, h⟩ := h
        refine vv_sld (mi := mL_law) (pc := 386) hi99 dL_law_386 ?_
        refine vv_aload_n (mi := mL_law) (pc := 387) 0 dL_law_387 rfl rfl ?_
        refine vv_iload_n (mi := mL_law) (pc := 388) 3 dL_law_388 rfl rfl ?_
        refine vv_iconst (mi := mL_law) (pc := 389) 4 dL_law_389 rfl ?_
        refine vv_iadd (mi := mL_law) (pc := 390) dL_law_390 ?_
        obtain ⟨hi100, h⟩ := h
        refine vv_sld (mi := mL_law) (pc := 391) hi100 dL_law_391 ?_
        refine vv_aload_n (mi := mL_law) (pc := 392) 0 dL_law_392 rfl rfl ?_
        refine vv_iload_n (mi := mL_law) (pc := 393) 3 dL_law_393 rfl rfl ?_
        refine vv_iconst (mi := mL_law) (pc := 394) 5 dL_law_394 rfl ?_
        refine vv_iadd (mi := mL_law) (pc := 395) dL_law_395 ?_
        obtain ⟨hi101, h⟩ := h
        refine vv_sld (mi := mL_law) (pc := 396) hi101 dL_law_396 ?_
        refine vv_aload_n (mi := mL_law) (pc := 397) 0 dL_law_397 rfl rfl ?_
        refine vv_iload_n (mi := mL_law) (pc := 398) 3 dL_law_398 rfl rfl ?_
        refine vv_bipush (mi := mL_law) (pc := 399) 6 dL_law_399 rfl ?_
        refine vv_iadd (mi := mL_law) (pc := 401) dL_law_401 ?_
        obtain ⟨hi102, h⟩ := h
        refine vv_sld (mi := mL_law) (pc := 402) hi102 dL_law_402 ?_
        obtain ⟨aq103, hs104, h⟩ := h
        obtain ⟨ht105, h⟩ := h
        refine vv_callV (mi := mL_law) (pc := 403) (rest := []) (As := [.inl (X.2.2.2.2.2.2.2 (Int32.toNatClampNeg (x3 + 1))), .inl (X.2.2.2.2.2.2.2 (Int32.toNatClampNeg (x3 + 2))), .inl (X.2.2.2.2.2.2.2 (Int32.toNatClampNeg (x3 + 3))), .inl (X.2.2.2.2.2.2.2 (Int32.toNatClampNeg (x3 + 4))), .inl (X.2.2.2.2.2.2.2 (Int32.toNatClampNeg (x3 + 5))), .inl (X.2.2.2.2.2.2.2 (Int32.toNatClampNeg (x3 + 6)))]) (ctX10_split (X := X) h) dL_law_403 hs104 ht105 (Nat.le_of_ble_eq_true rfl) rfl mb_X10_split rfl ml_L_38 im_X10_split se_X10_split ⟨(Nat.le_of_ble_eq_true rfl), (Nat.le_of_ble_eq_true rfl)⟩ ⟨by show kk + 6 ≤ 600000; omega, by have hs_ := rs_ok; show nn + 78 ≤ room_1.slots; omega⟩ (Nat.le_of_ble_eq_true rfl) rfl (kI_ (F := fun st M' => VV X mL_law rL_law (pI_ post) 406 [(0, .inr (.inr (some X.2.2.2.2.2.1))), (1, .inr (.inr x1)), (2, .inr (.inr x2)), (3, .inl x3)] st M' (kk + 6) (nn + 78)) (fun r106 M107 h => ?_))
        refine vv_aload_n (mi := mL_law) (pc := 406) 2 dL_law_406 rfl rfl ?_
        refine vv_aload_n (mi := mL_law) (pc := 407) 0 dL_law_407 rfl rfl ?_
        refine vv_iload_n (mi := mL_law) (pc := 408) 3 dL_law_408 rfl rfl ?_
        refine vv_iconst (mi := mL_law) (pc := 409) 1 dL_law_409 rfl ?_
        refine vv_iadd (mi := mL_law) (pc := 410) dL_law_410 ?_
        obtain ⟨hi108, h⟩ := h
        refine vv_sld (mi := mL_law) (pc := 411) hi108 dL_law_411 ?_
        refine vv_aload_n (mi := mL_law) (pc := 412) 0 dL_law_412 rfl rfl ?_
        refine vv_iload_n (mi := mL_law) (pc := 413) 3 dL_law_413 rfl rfl ?_
        refine vv_iconst (mi := mL_law) (pc := 414) 2 dL_law_414 rfl ?_
        refine vv_iadd (mi := mL_law) (pc := 415) dL_law_415 ?_
        obtain ⟨hi109, h⟩ := h
        refine vv_sld (mi := mL_law) (pc := 416) hi109 dL_law_416 ?_
        refine vv_aload_n (mi := mL_law) (pc := 417) 0 dL_law_417 rfl rfl ?_
        refine vv_iload_n (mi := mL_law) (pc := 418) 3 dL_law_418 rfl rfl ?_
        refine vv_iconst (mi := mL_law) (pc := 419) 3 dL_law_419 rfl ?_
        refine vv_iadd (mi := mL_law) (pc := 420) dL_law_420 ?_
        obtain ⟨hi110, h⟩ := h
        refine vv_sld (mi := mL_law) (pc := 421) hi110 dL_law_421 ?_
        refine vv_aload_n (mi := mL_law) (pc := 422) 0 dL_law_422 rfl rfl ?_
        refine vv_iload_n (mi := mL_law) (pc := 423) 3 dL_law_423 rfl rfl ?_
        refine vv_iconst (mi := mL_law) (pc := 424) 4 dL_law_424 rfl ?_
        refine vv_iadd (mi := mL_law) (pc := 425) dL_law_425 ?_
        obtain ⟨hi111, h⟩ := h
        refine vv_sld (mi := mL_law) (pc := 426) hi111 dL_law_426 ?_
        refine vv_aload_n (mi := mL_law) (pc := 427) 0 dL_law_427 rfl rfl ?_
        refine vv_iload_n (mi := mL_law) (pc := 428) 3 dL_law_428 rfl rfl ?_
        refine vv_iconst (mi := mL_law) (pc := 429) 5 dL_law_429 rfl ?_
        refine vv_iadd (mi := mL_law) (pc := 430) dL_law_430 ?_
        obtain ⟨hi112, h⟩ := h
        refine vv_sld (mi := mL_law) (pc := 431) hi112 dL_law_431 ?_
        refine vv_aload_n (mi := mL_law) (pc := 432) 0 dL_law_432 rfl rfl ?_
        refine vv_iload_n (mi := mL_law) (pc := 433) 3 dL_law_433 rfl rfl ?_
        refine vv_bipush (mi := mL_law) (pc := 434) 6 dL_law_434 rfl ?_
        refine vv_iadd (mi := mL_law) (pc := 436) dL_law_436 ?_
        obtain ⟨hi113, h⟩ := h
        refine vv_sld (mi := mL_law) (pc := 437) hi113 dL_law_437 ?_
        obtain ⟨aq114, hs115, h⟩ := h
        obtain ⟨ht116, h⟩ := h
        refine vv_callV (mi := mL_law) (pc := 438) (rest := [.inl r106]) (As := [.inl (X.2.2.2.2.2.2.2 (Int32.toNatClampNeg (x3 + 1))), .inl (X.2.2.2.2.2.2.2 (Int32.toNatClampNeg (x3 + 2))), .inl (X.2.2.2.2.2.2.2 (Int32.toNatClampNeg (x3 + 3))), .inl (X.2.2.2.2.2.2.2 (Int32.toNatClampNeg (x3 + 4))), .inl (X.2.2.2.2.2.2.2 (Int32.toNatClampNeg (x3 + 5))), .inl (X.2.2.2.2.2.2.2 (Int32.toNatClampNeg (x3 + 6)))]) (ctX11_split (X := X) h) dL_law_438 hs115 ht116 (Nat.le_of_ble_eq_true rfl) rfl mb_X11_split rfl ml_L_42 im_X11_split se_X11_split ⟨(Nat.le_of_ble_eq_true rfl), (Nat.le_of_ble_eq_true rfl)⟩ ⟨by show kk + 6 ≤ 600000; omega, by have hs_ := rs_ok; show nn + 78 ≤ room_1.slots; omega⟩ (Nat.le_of_ble_eq_true rfl) rfl (kI_ (F := fun st M' => VV X mL_law rL_law (pI_ post) 441 [(0, .inr (.inr (some X.2.2.2.2.2.1))), (1, .inr (.inr x1)), (2, .inr (.inr x2)), (3, .inl x3)] st M' (kk + 6) (nn + 78)) (fun r117 M118 h => ?_))
        refine vv_icmp_eq (mi := mL_law) (pc := 441) 1193 dL_law_441 rfl (fun c119 => ?_) (fun c119 => ?_)
        · replace h := h.1 c119
          refine vv_iinc (mi := mL_law) (pc := 1193) (x3 + 7) 3 [(3, .inl (x3 + 7)), (0, .inr (.inr (some X.2.2.2.2.2.1))), (1, .inr (.inr x1)), (2, .inr (.inr x2))] dL_law_1193 rfl rfl (Nat.le_of_ble_eq_true rfl) rfl ?_
          refine vv_goto (mi := mL_law) (pc := 1196) 18 dL_law_1196 rfl ?_
          refine vv_sub (mi := mL_law) [(0, .inr (.inr (some X.2.2.2.2.2.1))), (1, .inr (.inr x1)), (2, .inr (.inr x2)), (3, .inl (x3 + 7))] [1, 2, 3, 0] rfl ?_
          refine vv_widen (kk + 6) (nn + 78) (by omega) (by omega) ?_
          exact hb18 _ _ _ _ h
        · replace h := h.2 c119
          refine vv_iconst (mi := mL_law) (pc := 444) 0 dL_law_444 rfl ?_
          exact vv_zret (mi := mL_law) (pc := 445) dL_law_445 rfl (Or.inl rfl) (by show kk + 6 ≤ 600000; omega) (by have hs_ := rs_ok; show nn + 78 ≤ room_1.slots; omega) h
      | 6, c11, c11e =>
        cases c11
        replace h := h.2.2.2.2.2.2.1 c11e
        refine vv_aload_n (mi := mL_law) (pc := 446) 1 dL_law_446 rfl rfl ?_
        refine vv_aload_n (mi := mL_law) (pc := 447) 0 dL_law_447 rfl rfl ?_
        refine vv_iload_n (mi := mL_law) (pc := 448) 3 dL_law_448 rfl rfl ?_
        refine vv_iconst (mi := mL_law) (pc := 449) 1 dL_law_449 rfl ?_
        refine vv_iadd (mi := mL_law) (pc := 450) dL_law_450 ?_
        obtain ⟨hi120, h⟩ := h
        refine vv_sld (mi := mL_law) (pc := 451) hi120 dL_law_451 ?_
        refine vv_aload_n (mi := mL_law) (pc := 452) 0 dL_law_452 rfl rfl ?_
        refine vv_iload_n (mi := mL_law) (pc := 453) 3 dL_law_453 rfl rfl ?_
        refine vv_iconst (mi := mL_law) (pc := 454) 2 dL_law_454 rfl ?_
        refine vv_iadd (mi := mL_law) (pc := 455) dL_law_455 ?_
        obtain ⟨hi121, h⟩ := h
        refine vv_sld (mi := mL_law) (pc := 456) hi121 dL_law_456 ?_
        refine vv_aload_n (mi := mL_law) (pc := 457) 0 dL_law_457 rfl rfl ?_
        refine vv_iload_n (mi := mL_law) (pc := 458) 3 dL_law_458 rfl rfl ?_
        refine vv_iconst (mi := mL_law) (pc := 459) 3 dL_law_459 rfl ?_
        refine vv_iadd (mi := mL_law) (pc := 460) dL_law_460 ?_
        obtain ⟨hi122, h⟩ := h
        refine vv_sld (mi := mL_law) (pc := 461) hi122 dL_law_461 ?_
        refine vv_aload_n (mi := mL_law) (pc := 462) 0 dL_law_462 rfl rfl ?_
        refine vv_iload_n (mi := mL_law) (pc := 463) 3 dL_law_463 rfl rfl ?_
        refine vv_iconst (mi := mL_law) (pc := 464) 4 dL_law_464 rfl ?_
        refine vv_iadd (mi := mL_law) (pc := 465) dL_law_465 ?_
        obtain ⟨hi123, h⟩ := h
        refine vv_sld (mi := mL_law) (pc := 466) hi123 dL_law_466 ?_
        obtain ⟨aq124, hs125, h⟩ := h
        obtain ⟨ht126, h⟩ := h
        refine vv_callV (mi := mL_law) (pc := 467) (rest := []) (As := [.inl (X.2.2.2.2.2.2.2 (Int32.toNatClampNeg (x3 + 1))), .inl (X.2.2.2.2.2.2.2 (Int32.toNatClampNeg (x3 + 2))), .inl (X.2.2.2.2.2.2.2 (Int32.toNatClampNeg (x3 + 3))), .inl (X.2.2.2.2.2.2.2 (Int32.toNatClampNeg (x3 + 4)))]) (ctX10_lengthen (X := X) h) dL_law_467 hs125 ht126 (Nat.le_of_ble_eq_true rfl) rfl mb_X10_lengthen rfl ml_L_43 im_X10_lengthen se_X10_lengthen ⟨(Nat.le_of_ble_eq_true rfl), (Nat.le_of_ble_eq_true rfl)⟩ ⟨by show kk + 6 ≤ 600000; omega, by have hs_ := rs_ok; show nn + 78 ≤ room_1.slots; omega⟩ (Nat.le_of_ble_eq_true rfl) rfl (kI_ (F := fun st M' => VV X mL_law rL_law (pI_ post) 470 [(0, .inr (.inr (some X.2.2.2.2.2.1))), (1, .inr (.inr x1)), (2, .inr (.inr x2)), (3, .inl x3)] st M' (kk + 6) (nn + 78)) (fun r127 M128 h => ?_))
        refine vv_aload_n (mi := mL_law) (pc := 470) 2 dL_law_470 rfl rfl ?_
        refine vv_aload_n (mi := mL_law) (pc := 471) 0 dL_law_471 rfl rfl ?_
        refine vv_iload_n (mi := mL_law) (pc := 472) 3 dL_law_472 rfl rfl ?_
        refine vv_iconst (mi := mL_law) (pc := 473) 1 dL_law_473 rfl ?_
        refine vv_iadd (mi := mL_law) (pc := 474) dL_law_474 ?_
        obtain ⟨hi129, h⟩ := h
        refine vv_sld (mi := mL_law) (pc := 475) hi129 dL_law_475 ?_
        refine vv_aload_n (mi := mL_law) (pc := 476) 0 dL_law_476 rfl rfl ?_
        refine vv_iload_n (mi := mL_law) (pc := 477) 3 dL_law_477 rfl rfl ?_
        refine vv_iconst (mi := mL_law) (pc := 478) 2 dL_law_478 rfl ?_
        refine vv_iadd (mi := mL_law) (pc := 479) dL_law_479 ?_
        obtain ⟨hi130, h⟩ := h
        refine vv_sld (mi := mL_law) (pc := 480) hi130 dL_law_480 ?_
        refine vv_aload_n (mi := mL_law) (pc := 481) 0 dL_law_481 rfl rfl ?_
        refine vv_iload_n (mi := mL_law) (pc := 482) 3 dL_law_482 rfl rfl ?_
        refine vv_iconst (mi := mL_law) (pc := 483) 3 dL_law_483 rfl ?_
        refine vv_iadd (mi := mL_law) (pc := 484) dL_law_484 ?_
        obtain ⟨hi131, h⟩ := h
        refine vv_sld (mi := mL_law) (pc := 485) hi131 dL_law_485 ?_
        refine vv_aload_n (mi := mL_law) (pc := 486) 0 dL_law_486 rfl rfl ?_
        refine vv_iload_n (mi := mL_law) (pc := 487) 3 dL_law_487 rfl rfl ?_
        refine vv_iconst (mi := mL_law) (pc := 488) 4 dL_law_488 rfl ?_
        refine vv_iadd (mi := mL_law) (pc := 489) dL_law_489 ?_
        obtain ⟨hi132, h⟩ := h
        refine vv_sld (mi := mL_law) (pc := 490) hi132 dL_law_490 ?_
        obtain ⟨aq133, hs134, h⟩ := h
        obtain ⟨ht135, h⟩ := h
        refine vv_callV (mi := mL_law) (pc := 491) (rest := [.inl r127]) (As := [.inl (X.2.2.2.2.2.2.2 (Int32.toNatClampNeg (x3 + 1))), .inl (X.2.2.2.2.2.2.2 (Int32.toNatClampNeg (x3 + 2))), .inl (X.2.2.2.2.2.2.2 (Int32.toNatClampNeg (x3 + 3))), .inl (X.2.2.2.2.2.2.2 (Int32.toNatClampNeg (x3 + 4)))]) (ctX11_lengthen (X := X) h) dL_law_491 hs134 ht135 (Nat.le_of_ble_eq_true rfl) rfl mb_X11_lengthen rfl ml_L_46 im_X11_lengthen se_X11_lengthen ⟨(Nat.le_of_ble_eq_true rfl), (Nat.le_of_ble_eq_true rfl)⟩ ⟨by show kk + 6 ≤ 600000; omega, by have hs_ := rs_ok; show nn + 78 ≤ room_1.slots; omega⟩ (Nat.le_of_ble_eq_true rfl) rfl (kI_ (F := fun st M' => VV X mL_law rL_law (pI_ post) 494 [(0, .inr (.inr (some X.2.2.2.2.2.1))), (1, .inr (.inr x1)), (2, .inr (.inr x2)), (3, .inl x3)] st M' (kk + 6) (nn + 78)) (fun r136 M137 h => ?_))
        refine vv_icmp_eq (mi := mL_law) (pc := 494) 1193 dL_law_494 rfl (fun c138 => ?_) (fun c138 => ?_)
        · replace h := h.1 c138
          refine vv_iinc (mi := mL_law) (pc := 1193) (x3 + 7) 3 [(3, .inl (x3 + 7)), (0, .inr (.inr (some X.2.2.2.2.2.1))), (1, .inr (.inr x1)), (2, .inr (.inr x2))] dL_law_1193 rfl rfl (Nat.le_of_ble_eq_true rfl) rfl ?_
          refine vv_goto (mi := mL_law) (pc := 1196) 18 dL_law_1196 rfl ?_
          refine vv_sub (mi := mL_law) [(0, .inr (.inr (some X.2.2.2.2.2.1))), (1, .inr (.inr x1)), (2, .inr (.inr x2)), (3, .inl (x3 + 7))] [1, 2, 3, 0] rfl ?_
          refine vv_widen (kk + 6) (nn + 78) (by omega) (by omega) ?_
          exact hb18 _ _ _ _ h
        · replace h := h.2 c138
          refine vv_iconst (mi := mL_law) (pc := 497) 0 dL_law_497 rfl ?_
          exact vv_zret (mi := mL_law) (pc := 498) dL_law_498 rfl (Or.inl rfl) (by show kk + 6 ≤ 600000; omega) (by have hs_ := rs_ok; show nn + 78 ≤ room_1.slots; omega) h
      | 7, c11, c11e =>
        cases c11
        replace h := h.2.2.2.2.2.2.2.1 c11e
        refine vv_aload_n (mi := mL_law) (pc := 499) 1 dL_law_499 rfl rfl ?_
        refine vv_aload_n (mi := mL_law) (pc := 500) 0 dL_law_500 rfl rfl ?_
        refine vv_iload_n (mi := mL_law) (pc := 501) 3 dL_law_501 rfl rfl ?_
        refine vv_iconst (mi := mL_law) (pc := 502) 1 dL_law_502 rfl ?_
        refine vv_iadd (mi := mL_law) (pc := 503) dL_law_503 ?_
        obtain ⟨hi139, h⟩ := h
        refine vv_sld (mi := mL_law) (pc := 504) hi139 dL_law_504 ?_
        refine vv_aload_n (mi := mL_law) (pc := 505) 0 dL_law_505 rfl rfl ?_
        refine vv_iload_n (mi := mL_law) (pc := 506) 3 dL_law_506 rfl rfl ?_
        refine vv_iconst (mi := mL_law) (pc := 507) 2 dL_law_507 rfl ?_
        refine vv_iadd (mi := mL_law) (pc := 508) dL_law_508 ?_
        obtain ⟨hi140, h⟩ := h
        refine vv_sld (mi := mL_law) (pc := 509) hi140 dL_law_509 ?_
        obtain ⟨aq141, hs142, h⟩ := h
        obtain ⟨ht143, h⟩ := h
        refine vv_callV (mi := mL_law) (pc := 510) (rest := []) (As := [.inl (X.2.2.2.2.2.2.2 (Int32.toNatClampNeg (x3 + 1))), .inl (X.2.2.2.2.2.2.2 (Int32.toNatClampNeg (x3 + 2)))]) (ctX10_entry (X := X) h) dL_law_510 hs142 ht143 (Nat.le_of_ble_eq_true rfl) rfl mb_X10_entry rfl ml_L_47 im_X10_entry se_X10_entry ⟨(Nat.le_of_ble_eq_true rfl), (Nat.le_of_ble_eq_true rfl)⟩ ⟨by show kk + 0 ≤ 600000; omega, by have hs_ := rs_ok; show nn + 0 ≤ room_1.slots; omega⟩ (Nat.le_of_ble_eq_true rfl) rfl (kI_ (F := fun st M' => VV X mL_law rL_law (pI_ post) 513 [(0, .inr (.inr (some X.2.2.2.2.2.1))), (1, .inr (.inr x1)), (2, .inr (.inr x2)), (3, .inl x3)] st M' (kk + 0) (nn + 0)) (fun r144 M145 h => ?_))
        refine vv_aload_n (mi := mL_law) (pc := 513) 2 dL_law_513 rfl rfl ?_
        refine vv_aload_n (mi := mL_law) (pc := 514) 0 dL_law_514 rfl rfl ?_
        refine vv_iload_n (mi := mL_law) (pc := 515) 3 dL_law_515 rfl rfl ?_
        refine vv_iconst (mi := mL_law) (pc := 516) 1 dL_law_516 rfl ?_
        refine vv_iadd (mi := mL_law) (pc := 517) dL_law_517 ?_
        obtain ⟨hi146, h⟩ := h
        refine vv_sld (mi := mL_law) (pc := 518) hi146 dL_law_518 ?_
        refine vv_aload_n (mi := mL_law) (pc := 519) 0 dL_law_519 rfl rfl ?_
        refine vv_iload_n (mi := mL_law) (pc := 520) 3 dL_law_520 rfl rfl ?_
        refine vv_iconst (mi := mL_law) (pc := 521) 2 dL_law_521 rfl ?_
        refine vv_iadd (mi := mL_law) (pc := 522) dL_law_522 ?_
        obtain ⟨hi147, h⟩ := h
        refine vv_sld (mi := mL_law) (pc := 523) hi147 dL_law_523 ?_
        obtain ⟨aq148, hs149, h⟩ := h
        obtain ⟨ht150, h⟩ := h
        refine vv_callV (mi := mL_law) (pc := 524) (rest := [.inl r144]) (As := [.inl (X.2.2.2.2.2.2.2 (Int32.toNatClampNeg (x3 + 1))), .inl (X.2.2.2.2.2.2.2 (Int32.toNatClampNeg (x3 + 2)))]) (ctX11_entry (X := X) h) dL_law_524 hs149 ht150 (Nat.le_of_ble_eq_true rfl) rfl mb_X11_entry rfl ml_L_50 im_X11_entry se_X11_entry ⟨(Nat.le_of_ble_eq_true rfl), (Nat.le_of_ble_eq_true rfl)⟩ ⟨by show kk + 0 ≤ 600000; omega, by have hs_ := rs_ok; show nn + 0 ≤ room_1.slots; omega⟩ (Nat.le_of_ble_eq_true rfl) rfl (kI_ (F := fun st M' => VV X mL_law rL_law (pI_ post) 527 [(0, .inr (.inr (some X.2.2.2.2.2.1))), (1, .inr (.inr x1)), (2, .inr (.inr x2)), (3, .inl x3)] st M' (kk + 0) (nn + 0)) (fun r151 M152 h => ?_))
        refine vv_icmp_eq (mi := mL_law) (pc := 527) 1193 dL_law_527 rfl (fun c153 => ?_) (fun c153 => ?_)
        · replace h := h.1 c153
          refine vv_iinc (mi := mL_law) (pc := 1193) (x3 + 7) 3 [(3, .inl (x3 + 7)), (0, .inr (.inr (some X.2.2.2.2.2.1))), (1, .inr (.inr x1)), (2, .inr (.inr x2))] dL_law_1193 rfl rfl (Nat.le_of_ble_eq_true rfl) rfl ?_
          refine vv_goto (mi := mL_law) (pc := 1196) 18 dL_law_1196 rfl ?_
          refine vv_sub (mi := mL_law) [(0, .inr (.inr (some X.2.2.2.2.2.1))), (1, .inr (.inr x1)), (2, .inr (.inr x2)), (3, .inl (x3 + 7))] [1, 2, 3, 0] rfl ?_
          refine vv_widen (kk + 6) (nn + 78) (by omega) (by omega) ?_
          exact hb18 _ _ _ _ h
        · replace h := h.2 c153
          refine vv_iconst (mi := mL_law) (pc := 530) 0 dL_law_530 rfl ?_
          exact vv_zret (mi := mL_law) (pc := 531) dL_law_531 rfl (Or.inl rfl) (by show kk + 0 ≤ 600000; omega) (by have hs_ := rs_ok; show nn + 0 ≤ room_1.slots; omega) h
      | 8, c11, c11e =>
        cases c11
        replace h := h.2.2.2.2.2.2.2.2.1 c11e
        refine vv_aload_n (mi := mL_law) (pc := 532) 1 dL_law_532 rfl rfl ?_
        refine vv_aload_n (mi := mL_law) (pc := 533) 0 dL_law_533 rfl rfl ?_
        refine vv_iload_n (mi := mL_law) (pc := 534) 3 dL_law_534 rfl rfl ?_
        refine vv_iconst (mi := mL_law) (pc := 535) 1 dL_law_535 rfl ?_
        refine vv_iadd (mi := mL_law) (pc := 536) dL_law_536 ?_
        obtain ⟨hi154, h⟩ := h
        refine vv_sld (mi := mL_law) (pc := 537) hi154 dL_law_537 ?_
        obtain ⟨aq155, hs156, h⟩ := h
        obtain ⟨ht157, h⟩ := h
        refine vv_callV (mi := mL_law) (pc := 538) (rest := []) (As := [.inl (X.2.2.2.2.2.2.2 (Int32.toNatClampNeg (x3 + 1)))]) (ctX10_pairs (X := X) h) dL_law_538 hs156 ht157 (Nat.le_of_ble_eq_true rfl) rfl mb_X10_pairs rfl ml_L_51 im_X10_pairs se_X10_pairs ⟨(Nat.le_of_ble_eq_true rfl), (Nat.le_of_ble_eq_true rfl)⟩ ⟨by show kk + 0 ≤ 600000; omega, by have hs_ := rs_ok; show nn + 0 ≤ room_1.slots; omega⟩ (Nat.le_of_ble_eq_true rfl) rfl (kI_ (F := fun st M' => VV X mL_law rL_law (pI_ post) 541 [(0, .inr (.inr (some X.2.2.2.2.2.1))), (1, .inr (.inr x1)), (2, .inr (.inr x2)), (3, .inl x3)] st M' (kk + 0) (nn + 0)) (fun r158 M159 h => ?_))
        refine vv_aload_n (mi := mL_law) (pc := 541) 2 dL_law_541 rfl rfl ?_
        refine vv_aload_n (mi := mL_law) (pc := 542) 0 dL_law_542 rfl rfl ?_
        refine vv_iload_n (mi := mL_law) (pc := 543) 3 dL_law_543 rfl rfl ?_
        refine vv_iconst (mi := mL_law) (pc := 544) 1 dL_law_544 rfl ?_
        refine vv_iadd (mi := mL_law) (pc := 545) dL_law_545 ?_
        obtain ⟨hi160, h⟩ := h
        refine vv_sld (mi := mL_law) (pc := 546) hi160 dL_law_546 ?_
        obtain ⟨aq161, hs162, h⟩ := h
        obtain ⟨ht163, h⟩ := h
        refine vv_callV (mi := mL_law) (pc := 547) (rest := [.inl r158]) (As := [.inl (X.2.2.2.2.2.2.2 (Int32.toNatClampNeg (x3 + 1)))]) (ctX11_pairs (X := X) h) dL_law_547 hs162 ht163 (Nat.le_of_ble_eq_true rfl) rfl mb_X11_pairs rfl ml_L_54 im_X11_pairs se_X11_pairs ⟨(Nat.le_of_ble_eq_true rfl), (Nat.le_of_ble_eq_true rfl)⟩ ⟨by show kk + 0 ≤ 600000; omega, by have hs_ := rs_ok; show nn + 0 ≤ room_1.slots; omega⟩ (Nat.le_of_ble_eq_true rfl) rfl (kI_ (F := fun st M' => VV X mL_law rL_law (pI_ post) 550 [(0, .inr (.inr (some X.2.2.2.2.2.1))), (1, .inr (.inr x1)), (2, .inr (.inr x2)), (3, .inl x3)] st M' (kk + 0) (nn + 0)) (fun r164 M165 h => ?_))
        refine vv_icmp_eq (mi := mL_law) (pc := 550) 1193 dL_law_550 rfl (fun c166 => ?_) (fun c166 => ?_)
        · replace h := h.1 c166
          refine vv_iinc (mi := mL_law) (pc := 1193) (x3 + 7) 3 [(3, .inl (x3 + 7)), (0, .inr (.inr (some X.2.2.2.2.2.1))), (1, .inr (.inr x1)), (2, .inr (.inr x2))] dL_law_1193 rfl rfl (Nat.le_of_ble_eq_true rfl) rfl ?_
          refine vv_goto (mi := mL_law) (pc := 1196) 18 dL_law_1196 rfl ?_
          refine vv_sub (mi := mL_law) [(0, .inr (.inr (some X.2.2.2.2.2.1))), (1, .inr (.inr x1)), (2, .inr (.inr x2)), (3, .inl (x3 + 7))] [1, 2, 3, 0] rfl ?_
          refine vv_widen (kk + 6) (nn + 78) (by omega) (by omega) ?_
          exact hb18 _ _ _ _ h
        · replace h := h.2 c166
          refine vv_iconst (mi := mL_law) (pc := 553) 0 dL_law_553 rfl ?_
          exact vv_zret (mi := mL_law) (pc := 554) dL_law_554 rfl (Or.inl rfl) (by show kk + 0 ≤ 600000; omega) (by have hs_ := rs_ok; show nn + 0 ≤ room_1.slots; omega) h
      | 9, c11, c11e =>
        cases c11
        replace h := h.2.2.2.2.2.2.2.2.2.1 c11e
        refine vv_aload_n (mi := mL_law) (pc := 555) 1 dL_law_555 rfl rfl ?_
        refine vv_aload_n (mi := mL_law) (pc := 556) 0 dL_law_556 rfl rfl ?_
        refine vv_iload_n (mi := mL_law) (pc := 557) 3 dL_law_557 rfl rfl ?_
        refine vv_iconst (mi := mL_law) (pc := 558) 1 dL_law_558 rfl ?_
        refine vv_iadd (mi := mL_law) (pc := 559) dL_law_559 ?_
        obtain ⟨hi167, h⟩ := h
        refine vv_sld (mi := mL_law) (pc := 560) hi167 dL_law_560 ?_
        refine vv_aload_n (mi := mL_law) (pc := 561) 0 dL_law_561 rfl rfl ?_
        refine vv_iload_n (mi := mL_law) (pc := 562) 3 dL_law_562 rfl rfl ?_
        refine vv_iconst (mi := mL_law) (pc := 563) 2 dL_law_563 rfl ?_
        refine vv_iadd (mi := mL_law) (pc := 564) dL_law_564 ?_
        obtain ⟨hi168, h⟩ := h
        refine vv_sld (mi := mL_law) (pc := 565) hi168 dL_law_565 ?_
        refine vv_aload_n (mi := mL_law) (pc := 566) 0 dL_law_566 rfl rfl ?_
        refine vv_iload_n (mi := mL_law) (pc := 567) 3 dL_law_567 rfl rfl ?_
        refine vv_iconst (mi := mL_law) (pc := 568) 3 dL_law_568 rfl ?_
        refine vv_iadd (mi := mL_law) (pc := 569) dL_law_569 ?_
        obtain ⟨hi169, h⟩ := h
        refine vv_sld (mi := mL_law) (pc := 570) hi169 dL_law_570 ?_
        obtain ⟨aq170, hs171, h⟩ := h
        obtain ⟨ht172, h⟩ := h
        refine vv_callV (mi := mL_law) (pc := 571) (rest := []) (As := [.inl (X.2.2.2.2.2.2.2 (Int32.toNatClampNeg (x3 + 1))), .inl (X.2.2.2.2.2.2.2 (Int32.toNatClampNeg (x3 + 2))), .inl (X.2.2.2.2.2.2.2 (Int32.toNatClampNeg (x3 + 3)))]) (ctX10_pair (X := X) h) dL_law_571 hs171 ht172 (Nat.le_of_ble_eq_true rfl) rfl mb_X10_pair rfl ml_L_55 im_X10_pair se_X10_pair ⟨(Nat.le_of_ble_eq_true rfl), (Nat.le_of_ble_eq_true rfl)⟩ ⟨by show kk + 0 ≤ 600000; omega, by have hs_ := rs_ok; show nn + 0 ≤ room_1.slots; omega⟩ (Nat.le_of_ble_eq_true rfl) rfl (kI_ (F := fun st M' => VV X mL_law rL_law (pI_ post) 574 [(0, .inr (.inr (some X.2.2.2.2.2.1))), (1, .inr (.inr x1)), (2, .inr (.inr x2)), (3, .inl x3)] st M' (kk + 0) (nn + 0)) (fun r173 M174 h => ?_))
        refine vv_aload_n (mi := mL_law) (pc := 574) 2 dL_law_574 rfl rfl ?_
        refine vv_aload_n (mi := mL_law) (pc := 575) 0 dL_law_575 rfl rfl ?_
        refine vv_iload_n (mi := mL_law) (pc := 576) 3 dL_law_576 rfl rfl ?_
        refine vv_iconst (mi := mL_law) (pc := 577) 1 dL_law_577 rfl ?_
        refine vv_iadd (mi := mL_law) (pc := 578) dL_law_578 ?_
        obtain ⟨hi175, h⟩ := h
        refine vv_sld (mi := mL_law) (pc := 579) hi175 dL_law_579 ?_
        refine vv_aload_n (mi := mL_law) (pc := 580) 0 dL_law_580 rfl rfl ?_
        refine vv_iload_n (mi := mL_law) (pc := 581) 3 dL_law_581 rfl rfl ?_
        refine vv_iconst (mi := mL_law) (pc := 582) 2 dL_law_582 rfl ?_
        refine vv_iadd (mi := mL_law) (pc := 583) dL_law_583 ?_
        obtain ⟨hi176, h⟩ := h
        refine vv_sld (mi := mL_law) (pc := 584) hi176 dL_law_584 ?_
        refine vv_aload_n (mi := mL_law) (pc := 585) 0 dL_law_585 rfl rfl ?_
        refine vv_iload_n (mi := mL_law) (pc := 586) 3 dL_law_586 rfl rfl ?_
        refine vv_iconst (mi := mL_law) (pc := 587) 3 dL_law_587 rfl ?_
        refine vv_iadd (mi := mL_law) (pc := 588) dL_law_588 ?_
        obtain ⟨hi177, h⟩ := h
        refine vv_sld (mi := mL_law) (pc := 589) hi177 dL_law_589 ?_
        obtain ⟨aq178, hs179, h⟩ := h
        obtain ⟨ht180, h⟩ := h
        refine vv_callV (mi := mL_law) (pc := 590) (rest := [.inl r173]) (As := [.inl (X.2.2.2.2.2.2.2 (Int32.toNatClampNeg (x3 + 1))), .inl (X.2.2.2.2.2.2.2 (Int32.toNatClampNeg (x3 + 2))), .inl (X.2.2.2.2.2.2.2 (Int32.toNatClampNeg (x3 + 3)))]) (ctX11_pair (X := X) h) dL_law_590 hs179 ht180 (Nat.le_of_ble_eq_true rfl) rfl mb_X11_pair rfl ml_L_58 im_X11_pair se_X11_pair ⟨(Nat.le_of_ble_eq_true rfl), (Nat.le_of_ble_eq_true rfl)⟩ ⟨by show kk + 0 ≤ 600000; omega, by have hs_ := rs_ok; show nn + 0 ≤ room_1.slots; omega⟩ (Nat.le_of_ble_eq_true rfl) rfl (kI_ (F := fun st M' => VV X mL_law rL_law (pI_ post) 593 [(0, .inr (.inr (some X.2.2.2.2.2.1))), (1, .inr (.inr x1)), (2, .inr (.inr x2)), (3, .inl x3)] st M' (kk + 0) (nn + 0)) (fun r181 M182 h => ?_))
        refine vv_icmp_eq (mi := mL_law) (pc := 593) 1193 dL_law_593 rfl (fun c183 => ?_) (fun c183 => ?_)
        · replace h := h.1 c183
          refine vv_iinc (mi := mL_law) (pc := 1193) (x3 + 7) 3 [(3, .inl (x3 + 7)), (0, .inr (.inr (some X.2.2.2.2.2.1))), (1, .inr (.inr x1)), (2, .inr (.inr x2))] dL_law_1193 rfl rfl (Nat.le_of_ble_eq_true rfl) rfl ?_
          refine vv_goto (mi := mL_law) (pc := 1196) 18 dL_law_1196 rfl ?_
          refine vv_sub (mi := mL_law) [(0, .inr (.inr (some X.2.2.2.2.2.1))), (1, .inr (.inr x1)), (2, .inr (.inr x2)), (3, .inl (x3 + 7))] [1, 2, 3, 0] rfl ?_
          refine vv_widen (kk + 6) (nn + 78) (by omega) (by omega) ?_
          exact hb18 _ _ _ _ h
        · replace h := h.2 c183
          refine vv_iconst (mi := mL_law) (pc := 596) 0 dL_law_596 rfl ?_
          exact vv_zret (mi := mL_law) (pc := 597) dL_law_597 rfl (Or.inl rfl) (by show kk + 0 ≤ 600000; omega) (by have hs_ := rs_ok; show nn + 0 ≤ room_1.slots; omega) h
      | 10, c11, c11e =>
        cases c11
        replace h := h.2.2.2.2.2.2.2.2.2.2.1 c11e
        refine vv_aload_n (mi := mL_law) (pc := 598) 1 dL_law_598 rfl rfl ?_
        refine vv_aload_n (mi := mL_law) (pc := 599) 0 dL_law_599 rfl rfl ?_
        refine vv_iload_n (mi := mL_law) (pc := 600) 3 dL_law_600 rfl rfl ?_
        refine vv_iconst (mi := mL_law) (pc := 601) 1 dL_law_601 rfl ?_
        refine vv_iadd (mi := mL_law) (pc := 602) dL_law_602 ?_
        obtain ⟨hi184, h⟩ := h
        refine vv_sld (mi := mL_law) (pc := 603) hi184 dL_law_603 ?_
        refine vv_aload_n (mi := mL_law) (pc := 604) 0 dL_law_604 rfl rfl ?_
        refine vv_iload_n (mi := mL_law) (pc := 605) 3 dL_law_605 rfl rfl ?_
        refine vv_iconst (mi := mL_law) (pc := 606) 2 dL_law_606 rfl ?_
        refine vv_iadd (mi := mL_law) (pc := 607) dL_law_607 ?_
        obtain ⟨hi185, h⟩ := h
        refine vv_sld (mi := mL_law) (pc := 608) hi185 dL_law_608 ?_
        obtain ⟨aq186, hs187, h⟩ := h
        obtain ⟨ht188, h⟩ := h
        refine vv_callV (mi := mL_law) (pc := 609) (rest := []) (As := [.inl (X.2.2.2.2.2.2.2 (Int32.toNatClampNeg (x3 + 1))), .inl (X.2.2.2.2.2.2.2 (Int32.toNatClampNeg (x3 + 2)))]) (ctX10_line (X := X) h) dL_law_609 hs187 ht188 (Nat.le_of_ble_eq_true rfl) rfl mb_X10_line rfl ml_L_59 im_X10_line se_X10_line ⟨(Nat.le_of_ble_eq_true rfl), (Nat.le_of_ble_eq_true rfl)⟩ ⟨by show kk + 1 ≤ 600000; omega, by have hs_ := rs_ok; show nn + 6 ≤ room_1.slots; omega⟩ (Nat.le_of_ble_eq_true rfl) rfl (kI_ (F := fun st M' => VV X mL_law rL_law (pI_ post) 612 [(0, .inr (.inr (some X.2.2.2.2.2.1))), (1, .inr (.inr x1)), (2, .inr (.inr x2)), (3, .inl x3)] st M' (kk + 1) (nn + 6)) (fun r189 M190 h => ?_))
        refine vv_aload_n (mi := mL_law) (pc := 612) 2 dL_law_612 rfl rfl ?_
        refine vv_aload_n (mi := mL_law) (pc := 613) 0 dL_law_613 rfl rfl ?_
        refine vv_iload_n (mi := mL_law) (pc := 614) 3 dL_law_614 rfl rfl ?_
        refine vv_iconst (mi := mL_law) (pc := 615) 1 dL_law_615 rfl ?_
        refine vv_iadd (mi := mL_law) (pc := 616) dL_law_616 ?_
        obtain ⟨hi191, h⟩ := h
        refine vv_sld (mi := mL_law) (pc := 617) hi191 dL_law_617 ?_
        refine vv_aload_n (mi := mL_law) (pc := 618) 0 dL_law_618 rfl rfl ?_
        refine vv_iload_n (mi := mL_law) (pc := 619) 3 dL_law_619 rfl rfl ?_
        refine vv_iconst (mi := mL_law) (pc := 620) 2 dL_law_620 rfl ?_
        refine vv_iadd (mi := mL_law) (pc := 621) dL_law_621 ?_
        obtain ⟨hi192, h⟩ := h
        refine vv_sld (mi := mL_law) (pc := 622) hi192 dL_law_622 ?_
        obtain ⟨aq193, hs194, h⟩ := h
        obtain ⟨ht195, h⟩ := h
        refine vv_callV (mi := mL_law) (pc := 623) (rest := [.inl r189]) (As := [.inl (X.2.2.2.2.2.2.2 (Int32.toNatClampNeg (x3 + 1))), .inl (X.2.2.2.2.2.2.2 (Int32.toNatClampNeg (x3 + 2)))]) (ctX11_line (X := X) h) dL_law_623 hs194 ht195 (Nat.le_of_ble_eq_true rfl) rfl mb_X11_line rfl ml_L_62 im_X11_line se_X11_line ⟨(Nat.le_of_ble_eq_true rfl), (Nat.le_of_ble_eq_true rfl)⟩ ⟨by show kk + 1 ≤ 600000; omega, by have hs_ := rs_ok; show nn + 6 ≤ room_1.slots; omega⟩ (Nat.le_of_ble_eq_true rfl) rfl (kI_ (F := fun st M' => VV X mL_law rL_law (pI_ post) 626 [(0, .inr (.inr (some X.2.2.2.2.2.1))), (1, .inr (.inr x1)), (2, .inr (.inr x2)), (3, .inl x3)] st M' (kk + 1) (nn + 6)) (fun r196 M197 h => ?_))
        refine vv_icmp_eq (mi := mL_law) (pc := 626) 1193 dL_law_626 rfl (fun c198 => ?_) (fun c198 => ?_)
        · replace h := h.1 c198
          refine vv_iinc (mi := mL_law) (pc := 1193) (x3 + 7) 3 [(3, .inl (x3 + 7)), (0, .inr (.inr (some X.2.2.2.2.2.1))), (1, .inr (.inr x1)), (2, .inr (.inr x2))] dL_law_1193 rfl rfl (Nat.le_of_ble_eq_true rfl) rfl ?_
          refine vv_goto (mi := mL_law) (pc := 1196) 18 dL_law_1196 rfl ?_
          refine vv_sub (mi := mL_law) [(0, .inr (.inr (some X.2.2.2.2.2.1))), (1, .inr (.inr x1)), (2, .inr (.inr x2)), (3, .inl (x3 + 7))] [1, 2, 3, 0] rfl ?_
          refine vv_widen (kk + 6) (nn + 78) (by omega) (by omega) ?_
          exact hb18 _ _ _ _ h
        · replace h := h.2 c198
          refine vv_iconst (mi := mL_law) (pc := 629) 0 dL_law_629 rfl ?_
          exact vv_zret (mi := mL_law) (pc := 630) dL_law_630 rfl (Or.inl rfl) (by show kk + 1 ≤ 600000; omega) (by have hs_ := rs_ok; show nn + 6 ≤ room_1.slots; omega) h
      | 11, c11, c11e =>
        cases c11
        replace h := h.2.2.2.2.2.2.2.2.2.2.2.1 c11e
        refine vv_aload_n (mi := mL_law) (pc := 631) 1 dL_law_631 rfl rfl ?_
        refine vv_aload_n (mi := mL_law) (pc := 632) 0 dL_law_632 rfl rfl ?_
        refine vv_iload_n (mi := mL_law) (pc := 633) 3 dL_law_633 rfl rfl ?_
        refine vv_iconst (mi := mL_law) (pc := 634) 1 dL_law_634 rfl ?_
        refine vv_iadd (mi := mL_law) (pc := 635) dL_law_635 ?_
        obtain ⟨hi199, h⟩ := h
        refine vv_sld (mi := mL_law) (pc := 636) hi199 dL_law_636 ?_
        obtain ⟨aq200, hs201, h⟩ := h
        obtain ⟨ht202, h⟩ := h
        refine vv_callV (mi := mL_law) (pc := 637) (rest := []) (As := [.inl (X.2.2.2.2.2.2.2 (Int32.toNatClampNeg (x3 + 1)))]) (ctX10_drop (X := X) h) dL_law_637 hs201 ht202 (Nat.le_of_ble_eq_true rfl) rfl mb_X10_drop rfl ml_L_63 im_X10_drop se_X10_drop ⟨(Nat.le_of_ble_eq_true rfl), (Nat.le_of_ble_eq_true rfl)⟩ ⟨by show kk + 0 ≤ 600000; omega, by have hs_ := rs_ok; show nn + 0 ≤ room_1.slots; omega⟩ (Nat.le_of_ble_eq_true rfl) rfl (kI_ (F := fun st M' => VV X mL_law rL_law (pI_ post) 640 [(0, .inr (.inr (some X.2.2.2.2.2.1))), (1, .inr (.inr x1)), (2, .inr (.inr x2)), (3, .inl x3)] st M' (kk + 0) (nn + 0)) (fun r203 M204 h => ?_))
        refine vv_aload_n (mi := mL_law) (pc := 640) 2 dL_law_640 rfl rfl ?_
        refine vv_aload_n (mi := mL_law) (pc := 641) 0 dL_law_641 rfl rfl ?_
        refine vv_iload_n (mi := mL_law) (pc := 642) 3 dL_law_642 rfl rfl ?_
        refine vv_iconst (mi := mL_law) (pc := 643) 1 dL_law_643 rfl ?_
        refine vv_iadd (mi := mL_law) (pc := 644) dL_law_644 ?_
        obtain ⟨hi205, h⟩ := h
        refine vv_sld (mi := mL_law) (pc := 645) hi205 dL_law_645 ?_
        obtain ⟨aq206, hs207, h⟩ := h
        obtain ⟨ht208, h⟩ := h
        refine vv_callV (mi := mL_law) (pc := 646) (rest := [.inl r203]) (As := [.inl (X.2.2.2.2.2.2.2 (Int32.toNatClampNeg (x3 + 1)))]) (ctX11_drop (X := X) h) dL_law_646 hs207 ht208 (Nat.le_of_ble_eq_true rfl) rfl mb_X11_drop rfl ml_L_66 im_X11_drop se_X11_drop ⟨(Nat.le_of_ble_eq_true rfl), (Nat.le_of_ble_eq_true rfl)⟩ ⟨by show kk + 0 ≤ 600000; omega, by have hs_ := rs_ok; show nn + 0 ≤ room_1.slots; omega⟩ (Nat.le_of_ble_eq_true rfl) rfl (kI_ (F := fun st M' => VV X mL_law rL_law (pI_ post) 649 [(0, .inr (.inr (some X.2.2.2.2.2.1))), (1, .inr (.inr x1)), (2, .inr (.inr x2)), (3, .inl x3)] st M' (kk + 0) (nn + 0)) (fun r209 M210 h => ?_))
        refine vv_icmp_eq (mi := mL_law) (pc := 649) 1193 dL_law_649 rfl (fun c211 => ?_) (fun c211 => ?_)
        · replace h := h.1 c211
          refine vv_iinc (mi := mL_law) (pc := 1193) (x3 + 7) 3 [(3, .inl (x3 + 7)), (0, .inr (.inr (some X.2.2.2.2.2.1))), (1, .inr (.inr x1)), (2, .inr (.inr x2))] dL_law_1193 rfl rfl (Nat.le_of_ble_eq_true rfl) rfl ?_
          refine vv_goto (mi := mL_law) (pc := 1196) 18 dL_law_1196 rfl ?_
          refine vv_sub (mi := mL_law) [(0, .inr (.inr (some X.2.2.2.2.2.1))), (1, .inr (.inr x1)), (2, .inr (.inr x2)), (3, .inl (x3 + 7))] [1, 2, 3, 0] rfl ?_
          refine vv_widen (kk + 6) (nn + 78) (by omega) (by omega) ?_
          exact hb18 _ _ _ _ h
        · replace h := h.2 c211
          refine vv_iconst (mi := mL_law) (pc := 652) 0 dL_law_652 rfl ?_
          exact vv_zret (mi := mL_law) (pc := 653) dL_law_653 rfl (Or.inl rfl) (by show kk + 0 ≤ 600000; omega) (by have hs_ := rs_ok; show nn + 0 ≤ room_1.slots; omega) h
      | 12, c11, c11e =>
        cases c11
        replace h := h.2.2.2.2.2.2.2.2.2.2.2.2.1 c11e
        refine vv_aload_n (mi := mL_law) (pc := 654) 1 dL_law_654 rfl rfl ?_
        refine vv_aload_n (mi := mL_law) (pc := 655) 0 dL_law_655 rfl rfl ?_
        refine vv_iload_n (mi := mL_law) (pc := 656) 3 dL_law_656 rfl rfl ?_
        refine vv_iconst (mi := mL_law) (pc := 657) 1 dL_law_657 rfl ?_
        refine vv_iadd (mi := mL_law) (pc := 658) dL_law_658 ?_
        obtain ⟨hi212, h⟩ := h
        refine vv_sld (mi := mL_law) (pc := 659) hi212 dL_law_659 ?_
        refine vv_aload_n (mi := mL_law) (pc := 660) 0 dL_law_660 rfl rfl ?_
        refine vv_iload_n (mi := mL_law) (pc := 661) 3 dL_law_661 rfl rfl ?_
        refine vv_iconst (mi := mL_law) (pc := 662) 2 dL_law_662 rfl ?_
        refine vv_iadd (mi := mL_law) (pc := 663) dL_law_663 ?_
        obtain ⟨hi213, h⟩ := h
        refine vv_sld (mi := mL_law) (pc := 664) hi213 dL_law_664 ?_
        obtain ⟨aq214, hs215, h⟩ := h
        obtain ⟨ht216, h⟩ := h
        refine vv_callV (mi := mL_law) (pc := 665) (rest := []) (As := [.inl (X.2.2.2.2.2.2.2 (Int32.toNatClampNeg (x3 + 1))), .inl (X.2.2.2.2.2.2.2 (Int32.toNatClampNeg (x3 + 2)))]) (ctX10_port (X := X) h) dL_law_665 hs215 ht216 (Nat.le_of_ble_eq_true rfl) rfl mb_X10_port rfl ml_L_67 im_X10_port se_X10_port ⟨(Nat.le_of_ble_eq_true rfl), (Nat.le_of_ble_eq_true rfl)⟩ ⟨by show kk + 1 ≤ 600000; omega, by have hs_ := rs_ok; show nn + 3 ≤ room_1.slots; omega⟩ (Nat.le_of_ble_eq_true rfl) rfl (kI_ (F := fun st M' => VV X mL_law rL_law (pI_ post) 668 [(0, .inr (.inr (some X.2.2.2.2.2.1))), (1, .inr (.inr x1)), (2, .inr (.inr x2)), (3, .inl x3)] st M' (kk + 1) (nn + 3)) (fun r217 M218 h => ?_))
        refine vv_aload_n (mi := mL_law) (pc := 668) 2 dL_law_668 rfl rfl ?_
        refine vv_aload_n (mi := mL_law) (pc := 669) 0 dL_law_669 rfl rfl ?_
        refine vv_iload_n (mi := mL_law) (pc := 670) 3 dL_law_670 rfl rfl ?_
        refine vv_iconst (mi := mL_law) (pc := 671) 1 dL_law_671 rfl ?_
        refine vv_iadd (mi := mL_law) (pc := 672) dL_law_672 ?_
        obtain ⟨hi219, h⟩ := h
        refine vv_sld (mi := mL_law) (pc := 673) hi219 dL_law_673 ?_
        refine vv_aload_n (mi := mL_law) (pc := 674) 0 dL_law_674 rfl rfl ?_
        refine vv_iload_n (mi := mL_law) (pc := 675) 3 dL_law_675 rfl rfl ?_
        refine vv_iconst (mi := mL_law) (pc := 676) 2 dL_law_676 rfl ?_
        refine vv_iadd (mi := mL_law) (pc := 677) dL_law_677 ?_
        obtain ⟨hi220, h⟩ := h
        refine vv_sld (mi := mL_law) (pc := 678) hi220 dL_law_678 ?_
        obtain ⟨aq221, hs222, h⟩ := h
        obtain ⟨ht223, h⟩ := h
        refine vv_callV (mi := mL_law) (pc := 679) (rest := [.inl r217]) (As := [.inl (X.2.2.2.2.2.2.2 (Int32.toNatClampNeg (x3 + 1))), .inl (X.2.2.2.2.2.2.2 (Int32.toNatClampNeg (x3 + 2)))]) (ctX11_port (X := X) h) dL_law_679 hs222 ht223 (Nat.le_of_ble_eq_true rfl) rfl mb_X11_port rfl ml_L_70 im_X11_port se_X11_port ⟨(Nat.le_of_ble_eq_true rfl), (Nat.le_of_ble_eq_true rfl)⟩ ⟨by show kk + 1 ≤ 600000; omega, by have hs_ := rs_ok; show nn + 3 ≤ room_1.slots; omega⟩ (Nat.le_of_ble_eq_true rfl) rfl (kI_ (F := fun st M' => VV X mL_law rL_law (pI_ post) 682 [(0, .inr (.inr (some X.2.2.2.2.2.1))), (1, .inr (.inr x1)), (2, .inr (.inr x2)), (3, .inl x3)] st M' (kk + 1) (nn + 3)) (fun r224 M225 h => ?_))
        refine vv_icmp_eq (mi := mL_law) (pc := 682) 1193 dL_law_682 rfl (fun c226 => ?_) (fun c226 => ?_)
        · replace h := h.1 c226
          refine vv_iinc (mi := mL_law) (pc := 1193) (x3 + 7) 3 [(3, .inl (x3 + 7)), (0, .inr (.inr (some X.2.2.2.2.2.1))), (1, .inr (.inr x1)), (2, .inr (.inr x2))] dL_law_1193 rfl rfl (Nat.le_of_ble_eq_true rfl) rfl ?_
          refine vv_goto (mi := mL_law) (pc := 1196) 18 dL_law_1196 rfl ?_
          refine vv_sub (mi := mL_law) [(0, .inr (.inr (some X.2.2.2.2.2.1))), (1, .inr (.inr x1)), (2, .inr (.inr x2)), (3, .inl (x3 + 7))] [1, 2, 3, 0] rfl ?_
          refine vv_widen (kk + 6) (nn + 78) (by omega) (by omega) ?_
          exact hb18 _ _ _ _ h
        · replace h := h.2 c226
          refine vv_iconst (mi := mL_law) (pc := 685) 0 dL_law_685 rfl ?_
          exact vv_zret (mi := mL_law) (pc := 686) dL_law_686 rfl (Or.inl rfl) (by show kk + 1 ≤ 600000; omega) (by have hs_ := rs_ok; show nn + 3 ≤ room_1.slots; omega) h
      | 13, c11, c11e =>
        cases c11
        replace h := h.2.2.2.2.2.2.2.2.2.2.2.2.2.1 c11e
        refine vv_aload_n (mi := mL_law) (pc := 687) 1 dL_law_687 rfl rfl ?_
        refine vv_aload_n (mi := mL_law) (pc := 688) 0 dL_law_688 rfl rfl ?_
        refine vv_iload_n (mi := mL_law) (pc := 689) 3 dL_law_689 rfl rfl ?_
        refine vv_iconst (mi := mL_law) (pc := 690) 1 dL_law_690 rfl ?_
        refine vv_iadd (mi := mL_law) (pc := 691) dL_law_691 ?_
        obtain ⟨hi227, h⟩ := h
        refine vv_sld (mi := mL_law) (pc := 692) hi227 dL_law_692 ?_
        refine vv_aload_n (mi := mL_law) (pc := 693) 0 dL_law_693 rfl rfl ?_
        refine vv_iload_n (mi := mL_law) (pc := 694) 3 dL_law_694 rfl rfl ?_
        refine vv_iconst (mi := mL_law) (pc := 695) 2 dL_law_695 rfl ?_
        refine vv_iadd (mi := mL_law) (pc := 696) dL_law_696 ?_
        obtain ⟨hi228, h⟩ := h
        refine vv_sld (mi := mL_law) (pc := 697) hi228 dL_law_697 ?_
        obtain ⟨aq229, hs230, h⟩ := h
        obtain ⟨ht231, h⟩ := h
        refine vv_callV (mi := mL_law) (pc := 698) (rest := []) (As := [.inl (X.2.2.2.2.2.2.2 (Int32.toNatClampNeg (x3 + 1))), .inl (X.2.2.2.2.2.2.2 (Int32.toNatClampNeg (x3 + 2)))]) (ctX10_numberOf (X := X) h) dL_law_698 hs230 ht231 (Nat.le_of_ble_eq_true rfl) rfl mb_X10_numberOf rfl ml_L_71 im_X10_numberOf se_X10_numberOf ⟨(Nat.le_of_ble_eq_true rfl), (Nat.le_of_ble_eq_true rfl)⟩ ⟨by show kk + 0 ≤ 600000; omega, by have hs_ := rs_ok; show nn + 0 ≤ room_1.slots; omega⟩ (Nat.le_of_ble_eq_true rfl) rfl (kL_ (F := fun st M' => VV X mL_law rL_law (pI_ post) 701 [(0, .inr (.inr (some X.2.2.2.2.2.1))), (1, .inr (.inr x1)), (2, .inr (.inr x2)), (3, .inl x3)] st M' (kk + 0) (nn + 0)) (fun r232 M233 h => ?_))
        refine vv_aload_n (mi := mL_law) (pc := 701) 2 dL_law_701 rfl rfl ?_
        refine vv_aload_n (mi := mL_law) (pc := 702) 0 dL_law_702 rfl rfl ?_
        refine vv_iload_n (mi := mL_law) (pc := 703) 3 dL_law_703 rfl rfl ?_
        refine vv_iconst (mi := mL_law) (pc := 704) 1 dL_law_704 rfl ?_
        refine vv_iadd (mi := mL_law) (pc := 705) dL_law_705 ?_
        obtain ⟨hi234, h⟩ := h
        refine vv_sld (mi := mL_law) (pc := 706) hi234 dL_law_706 ?_
        refine vv_aload_n (mi := mL_law) (pc := 707) 0 dL_law_707 rfl rfl ?_
        refine vv_iload_n (mi := mL_law) (pc := 708) 3 dL_law_708 rfl rfl ?_
        refine vv_iconst (mi := mL_law) (pc := 709) 2 dL_law_709 rfl ?_
        refine vv_iadd (mi := mL_law) (pc := 710) dL_law_710 ?_
        obtain ⟨hi235, h⟩ := h
        refine vv_sld (mi := mL_law) (pc := 711) hi235 dL_law_711 ?_
        obtain ⟨aq236, hs237, h⟩ := h
        obtain ⟨ht238, h⟩ := h
        refine vv_callV (mi := mL_law) (pc := 712) (rest := [.inr (.inl r232)]) (As := [.inl (X.2.2.2.2.2.2.2 (Int32.toNatClampNeg (x3 + 1))), .inl (X.2.2.2.2.2.2.2 (Int32.toNatClampNeg (x3 + 2)))]) (ctX11_numberOf (X := X) h) dL_law_712 hs237 ht238 (Nat.le_of_ble_eq_true rfl) rfl mb_X11_numberOf rfl ml_L_75 im_X11_numberOf se_X11_numberOf ⟨(Nat.le_of_ble_eq_true rfl), (Nat.le_of_ble_eq_true rfl)⟩ ⟨by show kk + 0 ≤ 600000; omega, by have hs_ := rs_ok; show nn + 0 ≤ room_1.slots; omega⟩ (Nat.le_of_ble_eq_true rfl) rfl (kL_ (F := fun st M' => VV X mL_law rL_law (pI_ post) 715 [(0, .inr (.inr (some X.2.2.2.2.2.1))), (1, .inr (.inr x1)), (2, .inr (.inr x2)), (3, .inl x3)] st M' (kk + 0) (nn + 0)) (fun r239 M240 h => ?_))
        refine vv_lcmp (mi := mL_law) (pc := 715) dL_law_715 ?_
        refine vv_if_eq (mi := mL_law) (pc := 716) 1193 dL_law_716 rfl (fun c241 => ?_) (fun c241 => ?_)
        · replace h := h.1 c241
          refine vv_iinc (mi := mL_law) (pc := 1193) (x3 + 7) 3 [(3, .inl (x3 + 7)), (0, .inr (.inr (some X.2.2.2.2.2.1))), (1, .inr (.inr x1)), (2, .inr (.inr x2))] dL_law_1193 rfl rfl (Nat.le_of_ble_eq_true rfl) rfl ?_
          refine vv_goto (mi := mL_law) (pc := 1196) 18 dL_law_1196 rfl ?_
          refine vv_sub (mi := mL_law) [(0, .inr (.inr (some X.2.2.2.2.2.1))), (1, .inr (.inr x1)), (2, .inr (.inr x2)), (3, .inl (x3 + 7))] [1, 2, 3, 0] rfl ?_
          refine vv_widen (kk + 6) (nn + 78) (by omega) (by omega) ?_
          exact hb18 _ _ _ _ h
        · replace h := h.2 c241
          refine vv_iconst (mi := mL_law) (pc := 719) 0 dL_law_719 rfl ?_
          exact vv_zret (mi := mL_law) (pc := 720) dL_law_720 rfl (Or.inl rfl) (by show kk + 0 ≤ 600000; omega) (by have hs_ := rs_ok; show nn + 0 ≤ room_1.slots; omega) h
      | 14, c11, c11e =>
        cases c11
        replace h := h.2.2.2.2.2.2.2.2.2.2.2.2.2.2.1 c11e
        refine vv_aload_n (mi := mL_law) (pc := 721) 1 dL_law_721 rfl rfl ?_
        refine vv_aload_n (mi := mL_law) (pc := 722) 0 dL_law_722 rfl rfl ?_
        refine vv_iload_n (mi := mL_law) (pc := 723) 3 dL_law_723 rfl rfl ?_
        refine vv_iconst (mi := mL_law) (pc := 724) 1 dL_law_724 rfl ?_
        refine vv_iadd (mi := mL_law) (pc := 725) dL_law_725 ?_
        obtain ⟨hi242, h⟩ := h
        refine vv_sld (mi := mL_law) (pc := 726) hi242 dL_law_726 ?_
        refine vv_aload_n (mi := mL_law) (pc := 727) 0 dL_law_727 rfl rfl ?_
        refine vv_iload_n (mi := mL_law) (pc := 728) 3 dL_law_728 rfl rfl ?_
        refine vv_iconst (mi := mL_law) (pc := 729) 2 dL_law_729 rfl ?_
        refine vv_iadd (mi := mL_law) (pc := 730) dL_law_730 ?_
        obtain ⟨hi243, h⟩ := h
        refine vv_sld (mi := mL_law) (pc := 731) hi243 dL_law_731 ?_
        refine vv_aload_n (mi := mL_law) (pc := 732) 0 dL_law_732 rfl rfl ?_
        refine vv_iload_n (mi := mL_law) (pc := 733) 3 dL_law_733 rfl rfl ?_
        refine vv_iconst (mi := mL_law) (pc := 734) 3 dL_law_734 rfl ?_
        refine vv_iadd (mi := mL_law) (pc := 735) dL_law_735 ?_
        obtain ⟨hi244, h⟩ := h
        refine vv_sld (mi := mL_law) (pc := 736) hi244 dL_law_736 ?_
        obtain ⟨aq245, hs246, h⟩ := h
        obtain ⟨ht247, h⟩ := h
        refine vv_callV (mi := mL_law) (pc := 737) (rest := []) (As := [.inl (X.2.2.2.2.2.2.2 (Int32.toNatClampNeg (x3 + 1))), .inl (X.2.2.2.2.2.2.2 (Int32.toNatClampNeg (x3 + 2))), .inl (X.2.2.2.2.2.2.2 (Int32.toNatClampNeg (x3 + 3)))]) (ctX10_lineAt (X := X) h) dL_law_737 hs246 ht247 (Nat.le_of_ble_eq_true rfl) rfl mb_X10_lineAt rfl ml_L_76 im_X10_lineAt se_X10_lineAt ⟨(Nat.le_of_ble_eq_true rfl), (Nat.le_of_ble_eq_true rfl)⟩ ⟨by show kk + 0 ≤ 600000; omega, by have hs_ := rs_ok; show nn + 0 ≤ room_1.slots; omega⟩ (Nat.le_of_ble_eq_true rfl) rfl (kI_ (F := fun st M' => VV X mL_law rL_law (pI_ post) 740 [(0, .inr (.inr (some X.2.2.2.2.2.1))), (1, .inr (.inr x1)), (2, .inr (.inr x2)), (3, .inl x3)] st M' (kk + 0) (nn + 0)) (fun r248 M249 h => ?_))
        refine vv_aload_n (mi := mL_law) (pc := 740) 2 dL_law_740 rfl rfl ?_
        refine vv_aload_n (mi := mL_law) (pc := 741) 0 dL_law_741 rfl rfl ?_
        refine vv_iload_n (mi := mL_law) (pc := 742) 3 dL_law_742 rfl rfl ?_
        refine vv_iconst (mi := mL_law) (pc := 743) 1 dL_law_743 rfl ?_
        refine vv_iadd (mi := mL_law) (pc := 744) dL_law_744 ?_
        obtain ⟨hi250, h⟩ := h
        refine vv_sld (mi := mL_law) (pc := 745) hi250 dL_law_745 ?_
        refine vv_aload_n (mi := mL_law) (pc := 746) 0 dL_law_746 rfl rfl ?_
        refine vv_iload_n (mi := mL_law) (pc := 747) 3 dL_law_747 rfl rfl ?_
        refine vv_iconst (mi := mL_law) (pc := 748) 2 dL_law_748 rfl ?_
        refine vv_iadd (mi := mL_law) (pc := 749) dL_law_749 ?_
        obtain ⟨hi251, h⟩ := h
        refine vv_sld (mi := mL_law) (pc := 750) hi251 dL_law_750 ?_
        refine vv_aload_n (mi := mL_law) (pc := 751) 0 dL_law_751 rfl rfl ?_
        refine vv_iload_n (mi := mL_law) (pc := 752) 3 dL_law_752 rfl rfl ?_
        refine vv_iconst (mi := mL_law) (pc := 753) 3 dL_law_753 rfl ?_
        refine vv_iadd (mi := mL_law) (pc := 754) dL_law_754 ?_
        obtain ⟨hi252, h⟩ := h
        refine vv_sld (mi := mL_law) (pc := 755) hi252 dL_law_755 ?_
        obtain ⟨aq253, hs254, h⟩ := h
        obtain ⟨ht255, h⟩ := h
        refine vv_callV (mi := mL_law) (pc := 756) (rest := [.inl r248]) (As := [.inl (X.2.2.2.2.2.2.2 (Int32.toNatClampNeg (x3 + 1))), .inl (X.2.2.2.2.2.2.2 (Int32.toNatClampNeg (x3 + 2))), .inl (X.2.2.2.2.2.2.2 (Int32.toNatClampNeg (x3 + 3)))]) (ctX11_lineAt (X := X) h) dL_law_756 hs254 ht255 (Nat.le_of_ble_eq_true rfl) rfl mb_X11_lineAt rfl ml_L_79 im_X11_lineAt se_X11_lineAt ⟨(Nat.le_of_ble_eq_true rfl), (Nat.le_of_ble_eq_true rfl)⟩ ⟨by show kk + 0 ≤ 600000; omega, by have hs_ := rs_ok; show nn + 0 ≤ room_1.slots; omega⟩ (Nat.le_of_ble_eq_true rfl) rfl (kI_ (F := fun st M' => VV X mL_law rL_law (pI_ post) 759 [(0, .inr (.inr (some X.2.2.2.2.2.1))), (1, .inr (.inr x1)), (2, .inr (.inr x2)), (3, .inl x3)] st M' (kk + 0) (nn + 0)) (fun r256 M257 h => ?_))
        refine vv_icmp_eq (mi := mL_law) (pc := 759) 1193 dL_law_759 rfl (fun c258 => ?_) (fun c258 => ?_)
        · replace h := h.1 c258
          refine vv_iinc (mi := mL_law) (pc := 1193) (x3 + 7) 3 [(3, .inl (x3 + 7)), (0, .inr (.inr (some X.2.2.2.2.2.1))), (1, .inr (.inr x1)), (2, .inr (.inr x2))] dL_law_1193 rfl rfl (Nat.le_of_ble_eq_true rfl) rfl ?_
          refine vv_goto (mi := mL_law) (pc := 1196) 18 dL_law_1196 rfl ?_
          refine vv_sub (mi := mL_law) [(0, .inr (.inr (some X.2.2.2.2.2.1))), (1, .inr (.inr x1)), (2, .inr (.inr x2)), (3, .inl (x3 + 7))] [1, 2, 3, 0] rfl ?_
          refine vv_widen (kk + 6) (nn + 78) (by omega) (by omega) ?_
          exact hb18 _ _ _ _ h
        · replace h := h.2 c258
          refine vv_iconst (mi := mL_law) (pc := 762) 0 dL_law_762 rfl ?_
          exact vv_zret (mi := mL_law) (pc := 763) dL_law_763 rfl (Or.inl rfl) (by show kk + 0 ≤ 600000; omega) (by have hs_ := rs_ok; show nn + 0 ≤ room_1.slots; omega) h
      | 15, c11, c11e =>
        cases c11
        replace h := h.2.2.2.2.2.2.2.2.2.2.2.2.2.2.2.1 c11e
        refine vv_aload_n (mi := mL_law) (pc := 764) 1 dL_law_764 rfl rfl ?_
        refine vv_aload_n (mi := mL_law) (pc := 765) 0 dL_law_765 rfl rfl ?_
        refine vv_iload_n (mi := mL_law) (pc := 766) 3 dL_law_766 rfl rfl ?_
        refine vv_iconst (mi := mL_law) (pc := 767) 1 dL_law_767 rfl ?_
        refine vv_iadd (mi := mL_law) (pc := 768) dL_law_768 ?_
        obtain ⟨hi259, h⟩ := h
        refine vv_sld (mi := mL_law) (pc := 769) hi259 dL_law_769 ?_
        obtain ⟨aq260, hs261, h⟩ := h
        obtain ⟨ht262, h⟩ := h
        refine vv_callV (mi := mL_law) (pc := 770) (rest := []) (As := [.inl (X.2.2.2.2.2.2.2 (Int32.toNatClampNeg (x3 + 1)))]) (ctX10_call (X := X) h) dL_law_770 hs261 ht262 (Nat.le_of_ble_eq_true rfl) rfl mb_X10_call rfl ml_L_80 im_X10_call se_X10_call ⟨(Nat.le_of_ble_eq_true rfl), (Nat.le_of_ble_eq_true rfl)⟩ ⟨by show kk + 0 ≤ 600000; omega, by have hs_ := rs_ok; show nn + 0 ≤ room_1.slots; omega⟩ (Nat.le_of_ble_eq_true rfl) rfl (kI_ (F := fun st M' => VV X mL_law rL_law (pI_ post) 773 [(0, .inr (.inr (some X.2.2.2.2.2.1))), (1, .inr (.inr x1)), (2, .inr (.inr x2)), (3, .inl x3)] st M' (kk + 0) (nn + 0)) (fun r263 M264 h => ?_))
        refine vv_aload_n (mi := mL_law) (pc := 773) 2 dL_law_773 rfl rfl ?_
        refine vv_aload_n (mi := mL_law) (pc := 774) 0 dL_law_774 rfl rfl ?_
        refine vv_iload_n (mi := mL_law) (pc := 775) 3 dL_law_775 rfl rfl ?_
        refine vv_iconst (mi := mL_law) (pc := 776) 1 dL_law_776 rfl ?_
        refine vv_iadd (mi := mL_law) (pc := 777) dL_law_777 ?_
        obtain ⟨hi265, h⟩ := h
        refine vv_sld (mi := mL_law) (pc := 778) hi265 dL_law_778 ?_
        obtain ⟨aq266, hs267, h⟩ := h
        obtain ⟨ht268, h⟩ := h
        refine vv_callV (mi := mL_law) (pc := 779) (rest := [.inl r263]) (As := [.inl (X.2.2.2.2.2.2.2 (Int32.toNatClampNeg (x3 + 1)))]) (ctX11_call (X := X) h) dL_law_779 hs267 ht268 (Nat.le_of_ble_eq_true rfl) rfl mb_X11_call rfl ml_L_83 im_X11_call se_X11_call ⟨(Nat.le_of_ble_eq_true rfl), (Nat.le_of_ble_eq_true rfl)⟩ ⟨by show kk + 0 ≤ 600000; omega, by have hs_ := rs_ok; show nn + 0 ≤ room_1.slots; omega⟩ (Nat.le_of_ble_eq_true rfl) rfl (kI_ (F := fun st M' => VV X mL_law rL_law (pI_ post) 782 [(0, .inr (.inr (some X.2.2.2.2.2.1))), (1, .inr (.inr x1)), (2, .inr (.inr x2)), (3, .inl x3)] st M' (kk + 0) (nn + 0)) (fun r269 M270 h => ?_))
        refine vv_icmp_eq (mi := mL_law) (pc := 782) 1193 dL_law_782 rfl (fun c271 => ?_) (fun c271 => ?_)
        · replace h := h.1 c271
          refine vv_iinc (mi := mL_law) (pc := 1193) (x3 + 7) 3 [(3, .inl (x3 + 7)), (0, .inr (.inr (some X.2.2.2.2.2.1))), (1, .inr (.inr x1)), (2, .inr (.inr x2))] dL_law_1193 rfl rfl (Nat.le_of_ble_eq_true rfl) rfl ?_
          refine vv_goto (mi := mL_law) (pc := 1196) 18 dL_law_1196 rfl ?_
          refine vv_sub (mi := mL_law) [(0, .inr (.inr (some X.2.2.2.2.2.1))), (1, .inr (.inr x1)), (2, .inr (.inr x2)), (3, .inl (x3 + 7))] [1, 2, 3, 0] rfl ?_
          refine vv_widen (kk + 6) (nn + 78) (by omega) (by omega) ?_
          exact hb18 _ _ _ _ h
        · replace h := h.2 c271
          refine vv_iconst (mi := mL_law) (pc := 785) 0 dL_law_785 rfl ?_
          exact vv_zret (mi := mL_law) (pc := 786) dL_law_786 rfl (Or.inl rfl) (by show kk + 0 ≤ 600000; omega) (by have hs_ := rs_ok; show nn + 0 ≤ room_1.slots; omega) h
      | 16, c11, c11e =>
        cases c11
        replace h := h.2.2.2.2.2.2.2.2.2.2.2.2.2.2.2.2.1 c11e
        refine vv_aload_n (mi := mL_law) (pc := 787) 1 dL_law_787 rfl rfl ?_
        refine vv_aload_n (mi := mL_law) (pc := 788) 0 dL_law_788 rfl rfl ?_
        refine vv_iload_n (mi := mL_law) (pc := 789) 3 dL_law_789 rfl rfl ?_
        refine vv_iconst (mi := mL_law) (pc := 790) 1 dL_law_790 rfl ?_
        refine vv_iadd (mi := mL_law) (pc := 791) dL_law_791 ?_
        obtain ⟨hi272, h⟩ := h
        refine vv_sld (mi := mL_law) (pc := 792) hi272 dL_law_792 ?_
        refine vv_aload_n (mi := mL_law) (pc := 793) 0 dL_law_793 rfl rfl ?_
        refine vv_iload_n (mi := mL_law) (pc := 794) 3 dL_law_794 rfl rfl ?_
        refine vv_iconst (mi := mL_law) (pc := 795) 2 dL_law_795 rfl ?_
        refine vv_iadd (mi := mL_law) (pc := 796) dL_law_796 ?_
        obtain ⟨hi273, h⟩ := h
        refine vv_sld (mi := mL_law) (pc := 797) hi273 dL_law_797 ?_
        obtain ⟨aq274, hs275, h⟩ := h
        obtain ⟨ht276, h⟩ := h
        refine vv_callV (mi := mL_law) (pc := 798) (rest := []) (As := [.inl (X.2.2.2.2.2.2.2 (Int32.toNatClampNeg (x3 + 1))), .inl (X.2.2.2.2.2.2.2 (Int32.toNatClampNeg (x3 + 2)))]) (ctX10_figure (X := X) h) dL_law_798 hs275 ht276 (Nat.le_of_ble_eq_true rfl) rfl mb_X10_figure rfl ml_L_84 im_X10_figure se_X10_figure ⟨(Nat.le_of_ble_eq_true rfl), (Nat.le_of_ble_eq_true rfl)⟩ ⟨by show kk + 0 ≤ 600000; omega, by have hs_ := rs_ok; show nn + 0 ≤ room_1.slots; omega⟩ (Nat.le_of_ble_eq_true rfl) rfl (kI_ (F := fun st M' => VV X mL_law rL_law (pI_ post) 801 [(0, .inr (.inr (some X.2.2.2.2.2.1))), (1, .inr (.inr x1)), (2, .inr (.inr x2)), (3, .inl x3)] st M' (kk + 0) (nn + 0)) (fun r277 M278 h => ?_))
        refine vv_aload_n (mi := mL_law) (pc := 801) 2 dL_law_801 rfl rfl ?_
        refine vv_aload_n (mi := mL_law) (pc := 802) 0 dL_law_802 rfl rfl ?_
        refine vv_iload_n (mi := mL_law) (pc := 803) 3 dL_law_803 rfl rfl ?_
        refine vv_iconst (mi := mL_law) (pc := 804) 1 dL_law_804 rfl ?_
        refine vv_iadd (mi := mL_law) (pc := 805) dL_law_805 ?_
        obtain ⟨hi279, h⟩ := h
        refine vv_sld (mi := mL_law) (pc := 806) hi279 dL_law_806 ?_
        refine vv_aload_n (mi := mL_law) (pc := 807) 0 dL_law_807 rfl rfl ?_
        refine vv_iload_n (mi := mL_law) (pc := 808) 3 dL_law_808 rfl rfl ?_
        refine vv_iconst (mi := mL_law) (pc := 809) 2 dL_law_809 rfl ?_
        refine vv_iadd (mi := mL_law) (pc := 810) dL_law_810 ?_
        obtain ⟨hi280, h⟩ := h
        refine vv_sld (mi := mL_law) (pc := 811) hi280 dL_law_811 ?_
        obtain ⟨aq281, hs282, h⟩ := h
        obtain ⟨ht283, h⟩ := h
        refine vv_callV (mi := mL_law) (pc := 812) (rest := [.inl r277]) (As := [.inl (X.2.2.2.2.2.2.2 (Int32.toNatClampNeg (x3 + 1))), .inl (X.2.2.2.2.2.2.2 (Int32.toNatClampNeg (x3 + 2)))]) (ctX11_figure (X := X) h) dL_law_812 hs282 ht283 (Nat.le_of_ble_eq_true rfl) rfl mb_X11_figure rfl ml_L_87 im_X11_figure se_X11_figure ⟨(Nat.le_of_ble_eq_true rfl), (Nat.le_of_ble_eq_true rfl)⟩ ⟨by show kk + 0 ≤ 600000; omega, by have hs_ := rs_ok; show nn + 0 ≤ room_1.slots; omega⟩ (Nat.le_of_ble_eq_true rfl) rfl (kI_ (F := fun st M' => VV X mL_law rL_law (pI_ post) 815 [(0, .inr (.inr (some X.2.2.2.2.2.1))), (1, .inr (.inr x1)), (2, .inr (.inr x2)), (3, .inl x3)] st M' (kk + 0) (nn + 0)) (fun r284 M285 h => ?_))
        refine vv_icmp_eq (mi := mL_law) (pc := 815) 1193 dL_law_815 rfl (fun c286 => ?_) (fun c286 => ?_)
        · replace h := h.1 c286
          refine vv_iinc (mi := mL_law) (pc := 1193) (x3 + 7) 3 [(3, .inl (x3 + 7)), (0, .inr (.inr (some X.2.2.2.2.2.1))), (1, .inr (.inr x1)), (2, .inr (.inr x2))] dL_law_1193 rfl rfl (Nat.le_of_ble_eq_true rfl) rfl ?_
          refine vv_goto (mi := mL_law) (pc := 1196) 18 dL_law_1196 rfl ?_
          refine vv_sub (mi := mL_law) [(0, .inr (.inr (some X.2.2.2.2.2.1))), (1, .inr (.inr x1)), (2, .inr (.inr x2)), (3, .inl (x3 + 7))] [1, 2, 3, 0] rfl ?_
          refine vv_widen (kk + 6) (nn + 78) (by omega) (by omega) ?_
          exact hb18 _ _ _ _ h
        · replace h := h.2 c286
          refine vv_iconst (mi := mL_law) (pc := 818) 0 dL_law_818 rfl ?_
          exact vv_zret (mi := mL_law) (pc := 819) dL_law_819 rfl (Or.inl rfl) (by show kk + 0 ≤ 600000; omega) (by have hs_ := rs_ok; show nn + 0 ≤ room_1.slots; omega) h
      | 17, c11, c11e =>
        cases c11
        replace h := h.2.2.2.2.2.2.2.2.2.2.2.2.2.2.2.2.2.1 c11e
        refine vv_aload_n (mi := mL_law) (pc := 820) 1 dL_law_820 rfl rfl ?_
        refine vv_aload_n (mi := mL_law) (pc := 821) 0 dL_law_821 rfl rfl ?_
        refine vv_iload_n (mi := mL_law) (pc := 822) 3 dL_law_822 rfl rfl ?_
        refine vv_iconst (mi := mL_law) (pc := 823) 1 dL_law_823 rfl ?_
        refine vv_iadd (mi := mL_law) (pc := 824) dL_law_824 ?_
        obtain ⟨hi287, h⟩ := h
        refine vv_sld (mi := mL_law) (pc := 825) hi287 dL_law_825 ?_
        obtain ⟨aq288, hs289, h⟩ := h
        obtain ⟨ht290, h⟩ := h
        refine vv_callV (mi := mL_law) (pc := 826) (rest := []) (As := [.inl (X.2.2.2.2.2.2.2 (Int32.toNatClampNeg (x3 + 1)))]) (ctX10_waits (X := X) h) dL_law_826 hs289 ht290 (Nat.le_of_ble_eq_true rfl) rfl mb_X10_waits rfl ml_L_88 im_X10_waits se_X10_waits ⟨(Nat.le_of_ble_eq_true rfl), (Nat.le_of_ble_eq_true rfl)⟩ ⟨by show kk + 0 ≤ 600000; omega, by have hs_ := rs_ok; show nn + 0 ≤ room_1.slots; omega⟩ (Nat.le_of_ble_eq_true rfl) rfl (kI_ (F := fun st M' => VV X mL_law rL_law (pI_ post) 829 [(0, .inr (.inr (some X.2.2.2.2.2.1))), (1, .inr (.inr x1)), (2, .inr (.inr x2)), (3, .inl x3)] st M' (kk + 0) (nn + 0)) (fun r291 M292 h => ?_))
        refine vv_aload_n (mi := mL_law) (pc := 829) 2 dL_law_829 rfl rfl ?_
        refine vv_aload_n (mi := mL_law) (pc := 830) 0 dL_law_830 rfl rfl ?_
        refine vv_iload_n (mi := mL_law) (pc := 831) 3 dL_law_831 rfl rfl ?_
        refine vv_iconst (mi := mL_law) (pc := 832) 1 dL_law_832 rfl ?_
        refine vv_iadd (mi := mL_law) (pc := 833) dL_law_833 ?_
        obtain ⟨hi293, h⟩ := h
        refine vv_sld (mi := mL_law) (pc := 834) hi293 dL_law_834 ?_
        obtain ⟨aq294, hs295, h⟩ := h
        obtain ⟨ht296, h⟩ := h
        refine vv_callV (mi := mL_law) (pc := 835) (rest := [.inl r291]) (As := [.inl (X.2.2.2.2.2.2.2 (Int32.toNatClampNeg (x3 + 1)))]) (ctX11_waits (X := X) h) dL_law_835 hs295 ht296 (Nat.le_of_ble_eq_true rfl) rfl mb_X11_waits rfl ml_L_91 im_X11_waits se_X11_waits ⟨(Nat.le_of_ble_eq_true rfl), (Nat.le_of_ble_eq_true rfl)⟩ ⟨by show kk + 0 ≤ 600000; omega, by have hs_ := rs_ok; show nn + 0 ≤ room_1.slots; omega⟩ (Nat.le_of_ble_eq_true rfl) rfl (kI_ (F := fun st M' => VV X mL_law rL_law (pI_ post) 838 [(0, .inr (.inr (some X.2.2.2.2.2.1))), (1, .inr (.inr x1)), (2, .inr (.inr x2)), (3, .inl x3)] st M' (kk + 0) (nn + 0)) (fun r297 M298 h => ?_))
        refine vv_icmp_eq (mi := mL_law) (pc := 838) 1193 dL_law_838 rfl (fun c299 => ?_) (fun c299 => ?_)
        · replace h := h.1 c299
          refine vv_iinc (mi := mL_law) (pc := 1193) (x3 + 7) 3 [(3, .inl (x3 + 7)), (0, .inr (.inr (some X.2.2.2.2.2.1))), (1, .inr (.inr x1)), (2, .inr (.inr x2))] dL_law_1193 rfl rfl (Nat.le_of_ble_eq_true rfl) rfl ?_
          refine vv_goto (mi := mL_law) (pc := 1196) 18 dL_law_1196 rfl ?_
          refine vv_sub (mi := mL_law) [(0, .inr (.inr (some X.2.2.2.2.2.1))), (1, .inr (.inr x1)), (2, .inr (.inr x2)), (3, .inl (x3 + 7))] [1, 2, 3, 0] rfl ?_
          refine vv_widen (kk + 6) (nn + 78) (by omega) (by omega) ?_
          exact hb18 _ _ _ _ h
        · replace h := h.2 c299
          refine vv_iconst (mi := mL_law) (pc := 841) 0 dL_law_841 rfl ?_
          exact vv_zret (mi := mL_law) (pc := 842) dL_law_842 rfl (Or.inl rfl) (by show kk + 0 ≤ 600000; omega) (by have hs_ := rs_ok; show nn + 0 ≤ room_1.slots; omega) h
      | 18, c11, c11e =>
        cases c11
        replace h := h.2.2.2.2.2.2.2.2.2.2.2.2.2.2.2.2.2.2.1 c11e
        refine vv_aload_n (mi := mL_law) (pc := 843) 1 dL_law_843 rfl rfl ?_
        refine vv_aload_n (mi := mL_law) (pc := 844) 0 dL_law_844 rfl rfl ?_
        refine vv_iload_n (mi := mL_law) (pc := 845) 3 dL_law_845 rfl rfl ?_
        refine vv_iconst (mi := mL_law) (pc := 846) 1 dL_law_846 rfl ?_
        refine vv_iadd (mi := mL_law) (pc := 847) dL_law_847 ?_
        obtain ⟨hi300, h⟩ := h
        refine vv_sld (mi := mL_law) (pc := 848) hi300 dL_law_848 ?_
        refine vv_aload_n (mi := mL_law) (pc := 849) 0 dL_law_849 rfl rfl ?_
        refine vv_iload_n (mi := mL_law) (pc := 850) 3 dL_law_850 rfl rfl ?_
        refine vv_iconst (mi := mL_law) (pc := 851) 2 dL_law_851 rfl ?_
        refine vv_iadd (mi := mL_law) (pc := 852) dL_law_852 ?_
        obtain ⟨hi301, h⟩ := h
        refine vv_sld (mi := mL_law) (pc := 853) hi301 dL_law_853 ?_
        obtain ⟨aq302, hs303, h⟩ := h
        obtain ⟨ht304, h⟩ := h
        refine vv_callV (mi := mL_law) (pc := 854) (rest := []) (As := [.inl (X.2.2.2.2.2.2.2 (Int32.toNatClampNeg (x3 + 1))), .inl (X.2.2.2.2.2.2.2 (Int32.toNatClampNeg (x3 + 2)))]) (ctX10_told (X := X) h) dL_law_854 hs303 ht304 (Nat.le_of_ble_eq_true rfl) rfl mb_X10_told rfl ml_L_92 im_X10_told se_X10_told ⟨(Nat.le_of_ble_eq_true rfl), (Nat.le_of_ble_eq_true rfl)⟩ ⟨by show kk + 0 ≤ 600000; omega, by have hs_ := rs_ok; show nn + 0 ≤ room_1.slots; omega⟩ (Nat.le_of_ble_eq_true rfl) rfl (kI_ (F := fun st M' => VV X mL_law rL_law (pI_ post) 857 [(0, .inr (.inr (some X.2.2.2.2.2.1))), (1, .inr (.inr x1)), (2, .inr (.inr x2)), (3, .inl x3)] st M' (kk + 0) (nn + 0)) (fun r305 M306 h => ?_))
        refine vv_aload_n (mi := mL_law) (pc := 857) 2 dL_law_857 rfl rfl ?_
        refine vv_aload_n (mi := mL_law) (pc := 858) 0 dL_law_858 rfl rfl ?_
        refine vv_iload_n (mi := mL_law) (pc := 859) 3 dL_law_859 rfl rfl ?_
        refine vv_iconst (mi := mL_law) (pc := 860) 1 dL_law_860 rfl ?_
        refine vv_iadd (mi := mL_law) (pc := 861) dL_law_861 ?_
        obtain ⟨hi307, h⟩ := h
        refine vv_sld (mi := mL_law) (pc := 862) hi307 dL_law_862 ?_
        refine vv_aload_n (mi := mL_law) (pc := 863) 0 dL_law_863 rfl rfl ?_
        refine vv_iload_n (mi := mL_law) (pc := 864) 3 dL_law_864 rfl rfl ?_
        refine vv_iconst (mi := mL_law) (pc := 865) 2 dL_law_865 rfl ?_
        refine vv_iadd (mi := mL_law) (pc := 866) dL_law_866 ?_
        obtain ⟨hi308, h⟩ := h
        refine vv_sld (mi := mL_law) (pc := 867) hi308 dL_law_867 ?_
        obtain ⟨aq309, hs310, h⟩ := h
        obtain ⟨ht311, h⟩ := h
        refine vv_callV (mi := mL_law) (pc := 868) (rest := [.inl r305]) (As := [.inl (X.2.2.2.2.2.2.2 (Int32.toNatClampNeg (x3 + 1))), .inl (X.2.2.2.2.2.2.2 (Int32.toNatClampNeg (x3 + 2)))]) (ctX11_told (X := X) h) dL_law_868 hs310 ht311 (Nat.le_of_ble_eq_true rfl) rfl mb_X11_told rfl ml_L_95 im_X11_told se_X11_told ⟨(Nat.le_of_ble_eq_true rfl), (Nat.le_of_ble_eq_true rfl)⟩ ⟨by show kk + 0 ≤ 600000; omega, by have hs_ := rs_ok; show nn + 0 ≤ room_1.slots; omega⟩ (Nat.le_of_ble_eq_true rfl) rfl (kI_ (F := fun st M' => VV X mL_law rL_law (pI_ post) 871 [(0, .inr (.inr (some X.2.2.2.2.2.1))), (1, .inr (.inr x1)), (2, .inr (.inr x2)), (3, .inl x3)] st M' (kk + 0) (nn + 0)) (fun r312 M313 h => ?_))
        refine vv_icmp_eq (mi := mL_law) (pc := 871) 1193 dL_law_871 rfl (fun c314 => ?_) (fun c314 => ?_)
        · replace h := h.1 c314
          refine vv_iinc (mi := mL_law) (pc := 1193) (x3 + 7) 3 [(3, .inl (x3 + 7)), (0, .inr (.inr (some X.2.2.2.2.2.1))), (1, .inr (.inr x1)), (2, .inr (.inr x2))] dL_law_1193 rfl rfl (Nat.le_of_ble_eq_true rfl) rfl ?_
          refine vv_goto (mi := mL_law) (pc := 1196) 18 dL_law_1196 rfl ?_
          refine vv_sub (mi := mL_law) [(0, .inr (.inr (some X.2.2.2.2.2.1))), (1, .inr (.inr x1)), (2, .inr (.inr x2)), (3, .inl (x3 + 7))] [1, 2, 3, 0] rfl ?_
          refine vv_widen (kk + 6) (nn + 78) (by omega) (by omega) ?_
          exact hb18 _ _ _ _ h
        · replace h := h.2 c314
          refine vv_iconst (mi := mL_law) (pc := 874) 0 dL_law_874 rfl ?_
          exact vv_zret (mi := mL_law) (pc := 875) dL_law_875 rfl (Or.inl rfl) (by show kk + 0 ≤ 600000; omega) (by have hs_ := rs_ok; show nn + 0 ≤ room_1.slots; omega) h
      | 19, c11, c11e =>
        cases c11
        replace h := h.2.2.2.2.2.2.2.2.2.2.2.2.2.2.2.2.2.2.2.1 c11e
        refine vv_aload_n (mi := mL_law) (pc := 876) 1 dL_law_876 rfl rfl ?_
        refine vv_aload_n (mi := mL_law) (pc := 877) 0 dL_law_877 rfl rfl ?_
        refine vv_iload_n (mi := mL_law) (pc := 878) 3 dL_law_878 rfl rfl ?_
        refine vv_iconst (mi := mL_law) (pc := 879) 1 dL_law_879 rfl ?_
        refine vv_iadd (mi := mL_law) (pc := 880) dL_law_880 ?_
        obtain ⟨hi315, h⟩ := h
        refine vv_sld (mi := mL_law) (pc := 881) hi315 dL_law_881 ?_
        refine vv_i2l (mi := mL_law) (pc := 882) dL_law_882 ?_
        refine vv_bipush (mi := mL_law) (pc := 883) 32 dL_law_883 rfl ?_
        refine vv_lshl (mi := mL_law) (pc := 885) dL_law_885 ?_
        refine vv_aload_n (mi := mL_law) (pc := 886) 0 dL_law_886 rfl rfl ?_
        refine vv_iload_n (mi := mL_law) (pc := 887) 3 dL_law_887 rfl rfl ?_
        refine vv_iconst (mi := mL_law) (pc := 888) 2 dL_law_888 rfl ?_
        refine vv_iadd (mi := mL_law) (pc := 889) dL_law_889 ?_
        obtain ⟨hi316, h⟩ := h
        refine vv_sld (mi := mL_law) (pc := 890) hi316 dL_law_890 ?_
        refine vv_i2l (mi := mL_law) (pc := 891) dL_law_891 ?_
        refine vv_ldc2 (mi := mL_law) (pc := 892) 4294967295 dL_law_892 kl_L_96 ?_
        refine vv_land (mi := mL_law) (pc := 895) dL_law_895 ?_
        refine vv_lor (mi := mL_law) (pc := 896) dL_law_896 ?_
        refine vv_aload_n (mi := mL_law) (pc := 897) 0 dL_law_897 rfl rfl ?_
        refine vv_iload_n (mi := mL_law) (pc := 898) 3 dL_law_898 rfl rfl ?_
        refine vv_iconst (mi := mL_law) (pc := 899) 3 dL_law_899 rfl ?_
        refine vv_iadd (mi := mL_law) (pc := 900) dL_law_900 ?_
        obtain ⟨hi317, h⟩ := h
        refine vv_sld (mi := mL_law) (pc := 901) hi317 dL_law_901 ?_
        obtain ⟨aq318, hs319, h⟩ := h
        obtain ⟨ht320, h⟩ := h
        refine vv_callV (mi := mL_law) (pc := 902) (rest := []) (As := [.inr (.inl (((Int32.toInt64 (X.2.2.2.2.2.2.2 (Int32.toNatClampNeg (x3 + 1)))) <<< ((Int32.toInt64 32) &&& 63)) ||| ((Int32.toInt64 (X.2.2.2.2.2.2.2 (Int32.toNatClampNeg (x3 + 2)))) &&& 4294967295))), .inl (X.2.2.2.2.2.2.2 (Int32.toNatClampNeg (x3 + 3)))]) (ctX10_leads (X := X) h) dL_law_902 hs319 ht320 (Nat.le_of_ble_eq_true rfl) rfl mb_X10_leads rfl ml_L_98 im_X10_leads se_X10_leads ⟨(Nat.le_of_ble_eq_true rfl), (Nat.le_of_ble_eq_true rfl)⟩ ⟨by show kk + 0 ≤ 600000; omega, by have hs_ := rs_ok; show nn + 0 ≤ room_1.slots; omega⟩ (Nat.le_of_ble_eq_true rfl) rfl (kI_ (F := fun st M' => VV X mL_law rL_law (pI_ post) 905 [(0, .inr (.inr (some X.2.2.2.2.2.1))), (1, .inr (.inr x1)), (2, .inr (.inr x2)), (3, .inl x3)] st M' (kk + 0) (nn + 0)) (fun r321 M322 h => ?_))
        refine vv_aload_n (mi := mL_law) (pc := 905) 2 dL_law_905 rfl rfl ?_
        refine vv_aload_n (mi := mL_law) (pc := 906) 0 dL_law_906 rfl rfl ?_
        refine vv_iload_n (mi := mL_law) (pc := 907) 3 dL_law_907 rfl rfl ?_
        refine vv_iconst (mi := mL_law) (pc := 908) 1 dL_law_908 rfl ?_
        refine vv_iadd (mi := mL_law) (pc := 909) dL_law_909 ?_
        obtain ⟨hi323, h⟩ := h
        refine vv_sld (mi := mL_law) (pc := 910) hi323 dL_law_910 ?_
        refine vv_i2l (mi := mL_law) (pc := 911) dL_law_911 ?_
        refine vv_bipush (mi := mL_law) (pc := 912) 32 dL_law_912 rfl ?_
        refine vv_lshl (mi := mL_law) (pc := 914) dL_law_914 ?_
        refine vv_aload_n (mi := mL_law) (pc := 915) 0 dL_law_915 rfl rfl ?_
        refine vv_iload_n (mi := mL_law) (pc := 916) 3 dL_law_916 rfl rfl ?_
        refine vv_iconst (mi := mL_law) (pc := 917) 2 dL_law_917 rfl ?_
        refine vv_iadd (mi := mL_law) (pc := 918) dL_law_918 ?_
        obtain ⟨hi324, h⟩ := h
        refine vv_sld (mi := mL_law) (pc := 919) hi324 dL_law_919 ?_
        refine vv_i2l (mi := mL_law) (pc := 920) dL_law_920 ?_
        refine vv_ldc2 (mi := mL_law) (pc := 921) 4294967295 dL_law_921 kl_L_96 ?_
        refine vv_land (mi := mL_law) (pc := 924) dL_law_924 ?_
        refine vv_lor (mi := mL_law) (pc := 925) dL_law_925 ?_
        refine vv_aload_n (mi := mL_law) (pc := 926) 0 dL_law_926 rfl rfl ?_
        refine vv_iload_n (mi := mL_law) (pc := 927) 3 dL_law_927 rfl rfl ?_
        refine vv_iconst (mi := mL_law) (pc := 928) 3 dL_law_928 rfl ?_
        refine vv_iadd (mi := mL_law) (pc := 929) dL_law_929 ?_
        obtain ⟨hi325, h⟩ := h
        refine vv_sld (mi := mL_law) (pc := 930) hi325 dL_law_930 ?_
        obtain ⟨aq326, hs327, h⟩ := h
        obtain ⟨ht328, h⟩ := h
        refine vv_callV (mi := mL_law) (pc := 931) (rest := [.inl r321]) (As := [.inr (.inl (((Int32.toInt64 (X.2.2.2.2.2.2.2 (Int32.toNatClampNeg (x3 + 1)))) <<< ((Int32.toInt64 32) &&& 63)) ||| ((Int32.toInt64 (X.2.2.2.2.2.2.2 (Int32.toNatClampNeg (x3 + 2)))) &&& 4294967295))), .inl (X.2.2.2.2.2.2.2 (Int32.toNatClampNeg (x3 + 3)))]) (ctX11_leads (X := X) h) dL_law_931 hs327 ht328 (Nat.le_of_ble_eq_true rfl) rfl mb_X11_leads rfl ml_L_102 im_X11_leads se_X11_leads ⟨(Nat.le_of_ble_eq_true rfl), (Nat.le_of_ble_eq_true rfl)⟩ ⟨by show kk + 0 ≤ 600000; omega, by have hs_ := rs_ok; show nn + 0 ≤ room_1.slots; omega⟩ (Nat.le_of_ble_eq_true rfl) rfl (kI_ (F := fun st M' => VV X mL_law rL_law (pI_ post) 934 [(0, .inr (.inr (some X.2.2.2.2.2.1))), (1, .inr (.inr x1)), (2, .inr (.inr x2)), (3, .inl x3)] st M' (kk + 0) (nn + 0)) (fun r329 M330 h => ?_))
        refine vv_icmp_eq (mi := mL_law) (pc := 934) 1193 dL_law_934 rfl (fun c331 => ?_) (fun c331 => ?_)
        · replace h := h.1 c331
          refine vv_iinc (mi := mL_law) (pc := 1193) (x3 + 7) 3 [(3, .inl (x3 + 7)), (0, .inr (.inr (some X.2.2.2.2.2.1))), (1, .inr (.inr x1)), (2, .inr (.inr x2))] dL_law_1193 rfl rfl (Nat.le_of_ble_eq_true rfl) rfl ?_
          refine vv_goto (mi := mL_law) (pc := 1196) 18 dL_law_1196 rfl ?_
          refine vv_sub (mi := mL_law) [(0, .inr (.inr (some X.2.2.2.2.2.1))), (1, .inr (.inr x1)), (2, .inr (.inr x2)), (3, .inl (x3 + 7))] [1, 2, 3, 0] rfl ?_
          refine vv_widen (kk + 6) (nn + 78) (by omega) (by omega) ?_
          exact hb18 _ _ _ _ h
        · replace h := h.2 c331
          refine vv_iconst (mi := mL_law) (pc := 937) 0 dL_law_937 rfl ?_
          exact vv_zret (mi := mL_law) (pc := 938) dL_law_938 rfl (Or.inl rfl) (by show kk + 0 ≤ 600000; omega) (by have hs_ := rs_ok; show nn + 0 ≤ room_1.slots; omega) h
      | 20, c11, c11e =>
        cases c11
        replace h := h.2.2.2.2.2.2.2.2.2.2.2.2.2.2.2.2.2.2.2.2.1 c11e
        refine vv_aload_n (mi := mL_law) (pc := 939) 1 dL_law_939 rfl rfl ?_
        refine vv_aload_n (mi := mL_law) (pc := 940) 0 dL_law_940 rfl rfl ?_
        refine vv_iload_n (mi := mL_law) (pc := 941) 3 dL_law_941 rfl rfl ?_
        refine vv_iconst (mi := mL_law) (pc := 942) 1 dL_law_942 rfl ?_
        refine vv_iadd (mi := mL_law) (pc := 943) dL_law_943 ?_
        obtain ⟨hi332, h⟩ := h
        refine vv_sld (mi := mL_law) (pc := 944) hi332 dL_law_944 ?_
        refine vv_aload_n (mi := mL_law) (pc := 945) 0 dL_law_945 rfl rfl ?_
        refine vv_iload_n (mi := mL_law) (pc := 946) 3 dL_law_946 rfl rfl ?_
        refine vv_iconst (mi := mL_law) (pc := 947) 2 dL_law_947 rfl ?_
        refine vv_iadd (mi := mL_law) (pc := 948) dL_law_948 ?_
        obtain ⟨hi333, h⟩ := h
        refine vv_sld (mi := mL_law) (pc := 949) hi333 dL_law_949 ?_
        refine vv_aload_n (mi := mL_law) (pc := 950) 0 dL_law_950 rfl rfl ?_
        refine vv_iload_n (mi := mL_law) (pc := 951) 3 dL_law_951 rfl rfl ?_
        refine vv_iconst (mi := mL_law) (pc := 952) 3 dL_law_952 rfl ?_
        refine vv_iadd (mi := mL_law) (pc := 953) dL_law_953 ?_
        obtain ⟨hi334, h⟩ := h
        refine vv_sld (mi := mL_law) (pc := 954) hi334 dL_law_954 ?_
        obtain ⟨aq335, hs336, h⟩ := h
        obtain ⟨ht337, h⟩ := h
        refine vv_callV (mi := mL_law) (pc := 955) (rest := []) (As := [.inl (X.2.2.2.2.2.2.2 (Int32.toNatClampNeg (x3 + 1))), .inl (X.2.2.2.2.2.2.2 (Int32.toNatClampNeg (x3 + 2))), .inl (X.2.2.2.2.2.2.2 (Int32.toNatClampNeg (x3 + 3)))]) (ctX10_demand (X := X) h) dL_law_955 hs336 ht337 (Nat.le_of_ble_eq_true rfl) rfl mb_X10_demand rfl ml_L_103 im_X10_demand se_X10_demand ⟨(Nat.le_of_ble_eq_true rfl), (Nat.le_of_ble_eq_true rfl)⟩ ⟨by show kk + 0 ≤ 600000; omega, by have hs_ := rs_ok; show nn + 0 ≤ room_1.slots; omega⟩ (Nat.le_of_ble_eq_true rfl) rfl (kI_ (F := fun st M' => VV X mL_law rL_law (pI_ post) 958 [(0, .inr (.inr (some X.2.2.2.2.2.1))), (1, .inr (.inr x1)), (2, .inr (.inr x2)), (3, .inl x3)] st M' (kk + 0) (nn + 0)) (fun r338 M339 h => ?_))
        refine vv_aload_n (mi := mL_law) (pc := 958) 2 dL_law_958 rfl rfl ?_
        refine vv_aload_n (mi := mL_law) (pc := 959) 0 dL_law_959 rfl rfl ?_
        refine vv_iload_n (mi := mL_law) (pc := 960) 3 dL_law_960 rfl rfl ?_
        refine vv_iconst (mi := mL_law) (pc := 961) 1 dL_law_961 rfl ?_
        refine vv_iadd (mi := mL_law) (pc := 962) dL_law_962 ?_
        obtain ⟨hi340, h⟩ := h
        refine vv_sld (mi := mL_law) (pc := 963) hi340 dL_law_963 ?_
        refine vv_aload_n (mi := mL_law) (pc := 964) 0 dL_law_964 rfl rfl ?_
        refine vv_iload_n (mi := mL_law) (pc := 965) 3 dL_law_965 rfl rfl ?_
        refine vv_iconst (mi := mL_law) (pc := 966) 2 dL_law_966 rfl ?_
        refine vv_iadd (mi := mL_law) (pc := 967) dL_law_967 ?_
        obtain ⟨hi341, h⟩ := h
        refine vv_sld (mi := mL_law) (pc := 968) hi341 dL_law_968 ?_
        refine vv_aload_n (mi := mL_law) (pc := 969) 0 dL_law_969 rfl rfl ?_
        refine vv_iload_n (mi := mL_law) (pc := 970) 3 dL_law_970 rfl rfl ?_
        refine vv_iconst (mi := mL_law) (pc := 971) 3 dL_law_971 rfl ?_
        refine vv_iadd (mi := mL_law) (pc := 972) dL_law_972 ?_
        obtain ⟨hi342, h⟩ := h
        refine vv_sld (mi := mL_law) (pc := 973) hi342 dL_law_973 ?_
        obtain ⟨aq343, hs344, h⟩ := h
        obtain ⟨ht345, h⟩ := h
        refine vv_callV (mi := mL_law) (pc := 974) (rest := [.inl r338]) (As := [.inl (X.2.2.2.2.2.2.2 (Int32.toNatClampNeg (x3 + 1))), .inl (X.2.2.2.2.2.2.2 (Int32.toNatClampNeg (x3 + 2))), .inl (X.2.2.2.2.2.2.2 (Int32.toNatClampNeg (x3 + 3)))]) (ctX11_demand (X := X) h) dL_law_974 hs344 ht345 (Nat.le_of_ble_eq_true rfl) rfl mb_X11_demand rfl ml_L_106 im_X11_demand se_X11_demand ⟨(Nat.le_of_ble_eq_true rfl), (Nat.le_of_ble_eq_true rfl)⟩ ⟨by show kk + 0 ≤ 600000; omega, by have hs_ := rs_ok; show nn + 0 ≤ room_1.slots; omega⟩ (Nat.le_of_ble_eq_true rfl) rfl (kI_ (F := fun st M' => VV X mL_law rL_law (pI_ post) 977 [(0, .inr (.inr (some X.2.2.2.2.2.1))), (1, .inr (.inr x1)), (2, .inr (.inr x2)), (3, .inl x3)] st M' (kk + 0) (nn + 0)) (fun r346 M347 h => ?_))
        refine vv_icmp_eq (mi := mL_law) (pc := 977) 1193 dL_law_977 rfl (fun c348 => ?_) (fun c348 => ?_)
        · replace h := h.1 c348
          refine vv_iinc (mi := mL_law) (pc := 1193) (x3 + 7) 3 [(3, .inl (x3 + 7)), (0, .inr (.inr (some X.2.2.2.2.2.1))), (1, .inr (.inr x1)), (2, .inr (.inr x2))] dL_law_1193 rfl rfl (Nat.le_of_ble_eq_true rfl) rfl ?_
          refine vv_goto (mi := mL_law) (pc := 1196) 18 dL_law_1196 rfl ?_
          refine vv_sub (mi := mL_law) [(0, .inr (.inr (some X.2.2.2.2.2.1))), (1, .inr (.inr x1)), (2, .inr (.inr x2)), (3, .inl (x3 + 7))] [1, 2, 3, 0] rfl ?_
          refine vv_widen (kk + 6) (nn + 78) (by omega) (by omega) ?_
          exact hb18 _ _ _ _ h
        · replace h := h.2 c348
          refine vv_iconst (mi := mL_law) (pc := 980) 0 dL_law_980 rfl ?_
          exact vv_zret (mi := mL_law) (pc := 981) dL_law_981 rfl (Or.inl rfl) (by show kk + 0 ≤ 600000; omega) (by have hs_ := rs_ok; show nn + 0 ≤ room_1.slots; omega) h
      | 21, c11, c11e =>
        cases c11
        replace h := h.2.2.2.2.2.2.2.2.2.2.2.2.2.2.2.2.2.2.2.2.2.1 c11e
        refine vv_aload_n (mi := mL_law) (pc := 982) 1 dL_law_982 rfl rfl ?_
        refine vv_aload_n (mi := mL_law) (pc := 983) 0 dL_law_983 rfl rfl ?_
        refine vv_iload_n (mi := mL_law) (pc := 984) 3 dL_law_984 rfl rfl ?_
        refine vv_iconst (mi := mL_law) (pc := 985) 1 dL_law_985 rfl ?_
        refine vv_iadd (mi := mL_law) (pc := 986) dL_law_986 ?_
        obtain ⟨hi349, h⟩ := h
        refine vv_sld (mi := mL_law) (pc := 987) hi349 dL_law_987 ?_
        refine vv_aload_n (mi := mL_law) (pc := 988) 0 dL_law_988 rfl rfl ?_
        refine vv_iload_n (mi := mL_law) (pc := 989) 3 dL_law_989 rfl rfl ?_
        refine vv_iconst (mi := mL_law) (pc := 990) 2 dL_law_990 rfl ?_
        refine vv_iadd (mi := mL_law) (pc := 991) dL_law_991 ?_
        obtain ⟨hi350, h⟩ := h
        refine vv_sld (mi := mL_law) (pc := 992) hi350 dL_law_992 ?_
        obtain ⟨aq351, hs352, h⟩ := h
        obtain ⟨ht353, h⟩ := h
        refine vv_callV (mi := mL_law) (pc := 993) (rest := []) (As := [.inl (X.2.2.2.2.2.2.2 (Int32.toNatClampNeg (x3 + 1))), .inl (X.2.2.2.2.2.2.2 (Int32.toNatClampNeg (x3 + 2)))]) (ctX10_room (X := X) h) dL_law_993 hs352 ht353 (Nat.le_of_ble_eq_true rfl) rfl mb_X10_room rfl ml_L_107 im_X10_room se_X10_room ⟨(Nat.le_of_ble_eq_true rfl), (Nat.le_of_ble_eq_true rfl)⟩ ⟨by show kk + 0 ≤ 600000; omega, by have hs_ := rs_ok; show nn + 0 ≤ room_1.slots; omega⟩ (Nat.le_of_ble_eq_true rfl) rfl (kL_ (F := fun st M' => VV X mL_law rL_law (pI_ post) 996 [(0, .inr (.inr (some X.2.2.2.2.2.1))), (1, .inr (.inr x1)), (2, .inr (.inr x2)), (3, .inl x3)] st M' (kk + 0) (nn + 0)) (fun r354 M355 h => ?_))
        refine vv_aload_n (mi := mL_law) (pc := 996) 2 dL_law_996 rfl rfl ?_
        refine vv_aload_n (mi := mL_law) (pc := 997) 0 dL_law_997 rfl rfl ?_
        refine vv_iload_n (mi := mL_law) (pc := 998) 3 dL_law_998 rfl rfl ?_
        refine vv_iconst (mi := mL_law) (pc := 999) 1 dL_law_999 rfl ?_
        refine vv_iadd (mi := mL_law) (pc := 1000) dL_law_1000 ?_
        obtain ⟨hi356, h⟩ := h
        refine vv_sld (mi := mL_law) (pc := 1001) hi356 dL_law_1001 ?_
        refine vv_aload_n (mi := mL_law) (pc := 1002) 0 dL_law_1002 rfl rfl ?_
        refine vv_iload_n (mi := mL_law) (pc := 1003) 3 dL_law_1003 rfl rfl ?_
        refine vv_iconst (mi := mL_law) (pc := 1004) 2 dL_law_1004 rfl ?_
        refine vv_iadd (mi := mL_law) (pc := 1005) dL_law_1005 ?_
        obtain ⟨hi357, h⟩ := h
        refine vv_sld (mi := mL_law) (pc := 1006) hi357 dL_law_1006 ?_
        obtain ⟨aq358, hs359, h⟩ := h
        obtain ⟨ht360, h⟩ := h
        refine vv_callV (mi := mL_law) (pc := 1007) (rest := [.inr (.inl r354)]) (As := [.inl (X.2.2.2.2.2.2.2 (Int32.toNatClampNeg (x3 + 1))), .inl (X.2.2.2.2.2.2.2 (Int32.toNatClampNeg (x3 + 2)))]) (ctX11_room (X := X) h) dL_law_1007 hs359 ht360 (Nat.le_of_ble_eq_true rfl) rfl mb_X11_room rfl ml_L_110 im_X11_room se_X11_room ⟨(Nat.le_of_ble_eq_true rfl), (Nat.le_of_ble_eq_true rfl)⟩ ⟨by show kk + 0 ≤ 600000; omega, by have hs_ := rs_ok; show nn + 0 ≤ room_1.slots; omega⟩ (Nat.le_of_ble_eq_true rfl) rfl (kL_ (F := fun st M' => VV X mL_law rL_law (pI_ post) 1010 [(0, .inr (.inr (some X.2.2.2.2.2.1))), (1, .inr (.inr x1)), (2, .inr (.inr x2)), (3, .inl x3)] st M' (kk + 0) (nn + 0)) (fun r361 M362 h => ?_))
        refine vv_lcmp (mi := mL_law) (pc := 1010) dL_law_1010 ?_
        refine vv_if_eq (mi := mL_law) (pc := 1011) 1193 dL_law_1011 rfl (fun c363 => ?_) (fun c363 => ?_)
        · replace h := h.1 c363
          refine vv_iinc (mi := mL_law) (pc := 1193) (x3 + 7) 3 [(3, .inl (x3 + 7)), (0, .inr (.inr (some X.2.2.2.2.2.1))), (1, .inr (.inr x1)), (2, .inr (.inr x2))] dL_law_1193 rfl rfl (Nat.le_of_ble_eq_true rfl) rfl ?_
          refine vv_goto (mi := mL_law) (pc := 1196) 18 dL_law_1196 rfl ?_
          refine vv_sub (mi := mL_law) [(0, .inr (.inr (some X.2.2.2.2.2.1))), (1, .inr (.inr x1)), (2, .inr (.inr x2)), (3, .inl (x3 + 7))] [1, 2, 3, 0] rfl ?_
          refine vv_widen (kk + 6) (nn + 78) (by omega) (by omega) ?_
          exact hb18 _ _ _ _ h
        · replace h := h.2 c363
          refine vv_iconst (mi := mL_law) (pc := 1014) 0 dL_law_1014 rfl ?_
          exact vv_zret (mi := mL_law) (pc := 1015) dL_law_1015 rfl (Or.inl rfl) (by show kk + 0 ≤ 600000; omega) (by have hs_ := rs_ok; show nn + 0 ≤ room_1.slots; omega) h
      | 22, c11, c11e =>
        cases c11
        replace h := h.2.2.2.2.2.2.2.2.2.2.2.2.2.2.2.2.2.2.2.2.2.2.1 c11e
        refine vv_aload_n (mi := mL_law) (pc := 1016) 1 dL_law_1016 rfl rfl ?_
        refine vv_aload_n (mi := mL_law) (pc := 1017) 0 dL_law_1017 rfl rfl ?_
        refine vv_iload_n (mi := mL_law) (pc := 1018) 3 dL_law_1018 rfl rfl ?_
        refine vv_iconst (mi := mL_law) (pc := 1019) 1 dL_law_1019 rfl ?_
        refine vv_iadd (mi := mL_law) (pc := 1020) dL_law_1020 ?_
        obtain ⟨hi364, h⟩ := h
        refine vv_sld (mi := mL_law) (pc := 1021) hi364 dL_law_1021 ?_
        obtain ⟨aq365, hs366, h⟩ := h
        obtain ⟨ht367, h⟩ := h
        refine vv_callV (mi := mL_law) (pc := 1022) (rest := []) (As := [.inl (X.2.2.2.2.2.2.2 (Int32.toNatClampNeg (x3 + 1)))]) (ctX10_shortage (X := X) h) dL_law_1022 hs366 ht367 (Nat.le_of_ble_eq_true rfl) rfl mb_X10_shortage rfl ml_L_111 im_X10_shortage se_X10_shortage ⟨(Nat.le_of_ble_eq_true rfl), (Nat.le_of_ble_eq_true rfl)⟩ ⟨by show kk + 0 ≤ 600000; omega, by have hs_ := rs_ok; show nn + 0 ≤ room_1.slots; omega⟩ (Nat.le_of_ble_eq_true rfl) rfl (kI_ (F := fun st M' => VV X mL_law rL_law (pI_ post) 1025 [(0, .inr (.inr (some X.2.2.2.2.2.1))), (1, .inr (.inr x1)), (2, .inr (.inr x2)), (3, .inl x3)] st M' (kk + 0) (nn + 0)) (fun r368 M369 h => ?_))
        refine vv_aload_n (mi := mL_law) (pc := 1025) 2 dL_law_1025 rfl rfl ?_
        refine vv_aload_n (mi := mL_law) (pc := 1026) 0 dL_law_1026 rfl rfl ?_
        refine vv_iload_n (mi := mL_law) (pc := 1027) 3 dL_law_1027 rfl rfl ?_
        refine vv_iconst (mi := mL_law) (pc := 1028) 1 dL_law_1028 rfl ?_
        refine vv_iadd (mi := mL_law) (pc := 1029) dL_law_1029 ?_
        obtain ⟨hi370, h⟩ := h
        refine vv_sld (mi := mL_law) (pc := 1030) hi370 dL_law_1030 ?_
        obtain ⟨aq371, hs372, h⟩ := h
        obtain ⟨ht373, h⟩ := h
        refine vv_callV (mi := mL_law) (pc := 1031) (rest := [.inl r368]) (As := [.inl (X.2.2.2.2.2.2.2 (Int32.toNatClampNeg (x3 + 1)))]) (ctX11_shortage (X := X) h) dL_law_1031 hs372 ht373 (Nat.le_of_ble_eq_true rfl) rfl mb_X11_shortage rfl ml_L_114 im_X11_shortage se_X11_shortage ⟨(Nat.le_of_ble_eq_true rfl), (Nat.le_of_ble_eq_true rfl)⟩ ⟨by show kk + 0 ≤ 600000; omega, by have hs_ := rs_ok; show nn + 0 ≤ room_1.slots; omega⟩ (Nat.le_of_ble_eq_true rfl) rfl (kI_ (F := fun st M' => VV X mL_law rL_law (pI_ post) 1034 [(0, .inr (.inr (some X.2.2.2.2.2.1))), (1, .inr (.inr x1)), (2, .inr (.inr x2)), (3, .inl x3)] st M' (kk + 0) (nn + 0)) (fun r374 M375 h => ?_))
        refine vv_icmp_eq (mi := mL_law) (pc := 1034) 1193 dL_law_1034 rfl (fun c376 => ?_) (fun c376 => ?_)
        · replace h := h.1 c376
          refine vv_iinc (mi := mL_law) (pc := 1193) (x3 + 7) 3 [(3, .inl (x3 + 7)), (0, .inr (.inr (some X.2.2.2.2.2.1))), (1, .inr (.inr x1)), (2, .inr (.inr x2))] dL_law_1193 rfl rfl (Nat.le_of_ble_eq_true rfl) rfl ?_
          refine vv_goto (mi := mL_law) (pc := 1196) 18 dL_law_1196 rfl ?_
          refine vv_sub (mi := mL_law) [(0, .inr (.inr (some X.2.2.2.2.2.1))), (1, .inr (.inr x1)), (2, .inr (.inr x2)), (3, .inl (x3 + 7))] [1, 2, 3, 0] rfl ?_
          refine vv_widen (kk + 6) (nn + 78) (by omega) (by omega) ?_
          exact hb18 _ _ _ _ h
        · replace h := h.2 c376
          refine vv_iconst (mi := mL_law) (pc := 1037) 0 dL_law_1037 rfl ?_
          exact vv_zret (mi := mL_law) (pc := 1038) dL_law_1038 rfl (Or.inl rfl) (by show kk + 0 ≤ 600000; omega) (by have hs_ := rs_ok; show nn + 0 ≤ room_1.slots; omega) h
      | 23, c11, c11e =>
        cases c11
        replace h := h.2.2.2.2.2.2.2.2.2.2.2.2.2.2.2.2.2.2.2.2.2.2.2.1 c11e
        refine vv_aload_n (mi := mL_law) (pc := 1039) 1 dL_law_1039 rfl rfl ?_
        refine vv_aload_n (mi := mL_law) (pc := 1040) 0 dL_law_1040 rfl rfl ?_
        refine vv_iload_n (mi := mL_law) (pc := 1041) 3 dL_law_1041 rfl rfl ?_
        refine vv_iconst (mi := mL_law) (pc := 1042) 1 dL_law_1042 rfl ?_
        refine vv_iadd (mi := mL_law) (pc := 1043) dL_law_1043 ?_
        obtain ⟨hi377, h⟩ := h
        refine vv_sld (mi := mL_law) (pc := 1044) hi377 dL_law_1044 ?_
        refine vv_aload_n (mi := mL_law) (pc := 1045) 0 dL_law_1045 rfl rfl ?_
        refine vv_iload_n (mi := mL_law) (pc := 1046) 3 dL_law_1046 rfl rfl ?_
        refine vv_iconst (mi := mL_law) (pc := 1047) 2 dL_law_1047 rfl ?_
        refine vv_iadd (mi := mL_law) (pc := 1048) dL_law_1048 ?_
        obtain ⟨hi378, h⟩ := h
        refine vv_sld (mi := mL_law) (pc := 1049) hi378 dL_law_1049 ?_
        refine vv_aload_n (mi := mL_law) (pc := 1050) 0 dL_law_1050 rfl rfl ?_
        refine vv_iload_n (mi := mL_law) (pc := 1051) 3 dL_law_1051 rfl rfl ?_
        refine vv_iconst (mi := mL_law) (pc := 1052) 3 dL_law_1052 rfl ?_
        refine vv_iadd (mi := mL_law) (pc := 1053) dL_law_1053 ?_
        obtain ⟨hi379, h⟩ := h
        refine vv_sld (mi := mL_law) (pc := 1054) hi379 dL_law_1054 ?_
        refine vv_aload_n (mi := mL_law) (pc := 1055) 0 dL_law_1055 rfl rfl ?_
        refine vv_iload_n (mi := mL_law) (pc := 1056) 3 dL_law_1056 rfl rfl ?_
        refine vv_iconst (mi := mL_law) (pc := 1057) 4 dL_law_1057 rfl ?_
        refine vv_iadd (mi := mL_law) (pc := 1058) dL_law_1058 ?_
        obtain ⟨hi380, h⟩ := h
        refine vv_sld (mi := mL_law) (pc := 1059) hi380 dL_law_1059 ?_
        refine vv_aload_n (mi := mL_law) (pc := 1060) 0 dL_law_1060 rfl rfl ?_
        refine vv_iload_n (mi := mL_law) (pc := 1061) 3 dL_law_1061 rfl rfl ?_
        refine vv_iconst (mi := mL_law) (pc := 1062) 5 dL_law_1062 rfl ?_
        refine vv_iadd (mi := mL_law) (pc := 1063) dL_law_1063 ?_
        obtain ⟨hi381, h⟩ := h
        refine vv_sld (mi := mL_law) (pc := 1064) hi381 dL_law_1064 ?_
        refine vv_aload_n (mi := mL_law) (pc := 1065) 0 dL_law_1065 rfl rfl ?_
        refine vv_iload_n (mi := mL_law) (pc := 1066) 3 dL_law_1066 rfl rfl ?_
        refine vv_bipush (mi := mL_law) (pc := 1067) 6 dL_law_1067 rfl ?_
        refine vv_iadd (mi := mL_law) (pc := 1069) dL_law_1069 ?_
        obtain ⟨hi382, h⟩ := h
        refine vv_sld (mi := mL_law) (pc := 1070) hi382 dL_law_1070 ?_
        obtain ⟨aq383, hs384, h⟩ := h
        obtain ⟨ht385, h⟩ := h
        refine vv_callV (mi := mL_law) (pc := 1071) (rest := []) (As := [.inl (X.2.2.2.2.2.2.2 (Int32.toNatClampNeg (x3 + 1))), .inl (X.2.2.2.2.2.2.2 (Int32.toNatClampNeg (x3 + 2))), .inl (X.2.2.2.2.2.2.2 (Int32.toNatClampNeg (x3 + 3))), .inl (X.2.2.2.2.2.2.2 (Int32.toNatClampNeg (x3 + 4))), .inl (X.2.2.2.2.2.2.2 (Int32.toNatClampNeg (x3 + 5))), .inl (X.2.2.2.2.2.2.2 (Int32.toNatClampNeg (x3 + 6)))]) (ctX10_mightCome (X := X) h) dL_law_1071 hs384 ht385 (Nat.le_of_ble_eq_true rfl) rfl mb_X10_mightCome rfl ml_L_115 im_X10_mightCome se_X10_mightCome ⟨(Nat.le_of_ble_eq_true rfl), (Nat.le_of_ble_eq_true rfl)⟩ ⟨by show kk + 3 ≤ 600000; omega, by have hs_ := rs_ok; show nn + 28 ≤ room_1.slots; omega⟩ (Nat.le_of_ble_eq_true rfl) rfl (kI_ (F := fun st M' => VV X mL_law rL_law (pI_ post) 1074 [(0, .inr (.inr (some X.2.2.2.2.2.1))), (1, .inr (.inr x1)), (2, .inr (.inr x2)), (3, .inl x3)] st M' (kk + 3) (nn + 28)) (fun r386 M387 h => ?_))
        refine vv_aload_n (mi := mL_law) (pc := 1074) 2 dL_law_1074 rfl rfl ?_
        refine vv_aload_n (mi := mL_law) (pc := 1075) 0 dL_law_1075 rfl rfl ?_
        refine vv_iload_n (mi := mL_law) (pc := 1076) 3 dL_law_1076 rfl rfl ?_
        refine vv_iconst (mi := mL_law) (pc := 1077) 1 dL_law_1077 rfl ?_
        refine vv_iadd (mi := mL_law) (pc := 1078) dL_law_1078 ?_
        obtain ⟨hi388, h⟩ := h
        refine vv_sld (mi := mL_law) (pc := 1079) hi388 dL_law_1079 ?_
        refine vv_aload_n (mi := mL_law) (pc := 1080) 0 dL_law_1080 rfl rfl ?_
        refine vv_iload_n (mi := mL_law) (pc := 1081) 3 dL_law_1081 rfl rfl ?_
        refine vv_iconst (mi := mL_law) (pc := 1082) 2 dL_law_1082 rfl ?_
        refine vv_iadd (mi := mL_law) (pc := 1083) dL_law_1083 ?_
        obtain ⟨hi389, h⟩ := h
        refine vv_sld (mi := mL_law) (pc := 1084) hi389 dL_law_1084 ?_
        refine vv_aload_n (mi := mL_law) (pc := 1085) 0 dL_law_1085 rfl rfl ?_
        refine vv_iload_n (mi := mL_law) (pc := 1086) 3 dL_law_1086 rfl rfl ?_
        refine vv_iconst (mi := mL_law) (pc := 1087) 3 dL_law_1087 rfl ?_
        refine vv_iadd (mi := mL_law) (pc := 1088) dL_law_1088 ?_
        obtain ⟨hi390, h⟩ := h
        refine vv_sld (mi := mL_law) (pc := 1089) hi390 dL_law_1089 ?_
        refine vv_aload_n (mi := mL_law) (pc := 1090) 0 dL_law_1090 rfl rfl ?_
        refine vv_iload_n (mi := mL_law) (pc := 1091) 3 dL_law_1091 rfl rfl ?_
        refine vv_iconst (mi := mL_law) (pc := 1092) 4 dL_law_1092 rfl ?_
        refine vv_iadd (mi := mL_law) (pc := 1093) dL_law_1093 ?_
        obtain ⟨hi391, h⟩ := h
        refine vv_sld (mi := mL_law) (pc := 1094) hi391 dL_law_1094 ?_
        refine vv_aload_n (mi := mL_law) (pc := 1095) 0 dL_law_1095 rfl rfl ?_
        refine vv_iload_n (mi := mL_law) (pc := 1096) 3 dL_law_1096 rfl rfl ?_
        refine vv_iconst (mi := mL_law) (pc := 1097) 5 dL_law_1097 rfl ?_
        refine vv_iadd (mi := mL_law) (pc := 1098) dL_law_1098 ?_
        obtain ⟨hi392, h⟩ := h
        refine vv_sld (mi := mL_law) (pc := 1099) hi392 dL_law_1099 ?_
        refine vv_aload_n (mi := mL_law) (pc := 1100) 0 dL_law_1100 rfl rfl ?_
        refine vv_iload_n (mi := mL_law) (pc := 1101) 3 dL_law_1101 rfl rfl ?_
        refine vv_bipush (mi := mL_law) (pc := 1102) 6 dL_law_1102 rfl ?_
        refine vv_iadd (mi := mL_law) (pc := 1104) dL_law_1104 ?_
        obtain ⟨hi393, h⟩ := h
        refine vv_sld (mi := mL_law) (pc := 1105) hi393 dL_law_1105 ?_
        obtain ⟨aq394, hs395, h⟩ := h
        obtain ⟨ht396, h⟩ := h
        refine vv_callV (mi := mL_law) (pc := 1106) (rest := [.inl r386]) (As := [.inl (X.2.2.2.2.2.2.2 (Int32.toNatClampNeg (x3 + 1))), .inl (X.2.2.2.2.2.2.2 (Int32.toNatClampNeg (x3 + 2))), .inl (X.2.2.2.2.2.2.2 (Int32.toNatClampNeg (x3 + 3))), .inl (X.2.2.2.2.2.2.2 (Int32.toNatClampNeg (x3 + 4))), .inl (X.2.2.2.2.2.2.2 (Int32.toNatClampNeg (x3 + 5))), .inl (X.2.2.2.2.2.2.2 (Int32.toNatClampNeg (x3 + 6)))]) (ctX11_mightCome (X := X) h) dL_law_1106 hs395 ht396 (Nat.le_of_ble_eq_true rfl) rfl mb_X11_mightCome rfl ml_L_118 im_X11_mightCome se_X11_mightCome ⟨(Nat.le_of_ble_eq_true rfl), (Nat.le_of_ble_eq_true rfl)⟩ ⟨by show kk + 3 ≤ 600000; omega, by have hs_ := rs_ok; show nn + 28 ≤ room_1.slots; omega⟩ (Nat.le_of_ble_eq_true rfl) rfl (kI_ (F := fun st M' => VV X mL_law rL_law (pI_ post) 1109 [(0, .inr (.inr (some X.2.2.2.2.2.1))), (1, .inr (.inr x1)), (2, .inr (.inr x2)), (3, .inl x3)] st M' (kk + 3) (nn + 28)) (fun r397 M398 h => ?_))
        refine vv_icmp_eq (mi := mL_law) (pc := 1109) 1193 dL_law_1109 rfl (fun c399 => ?_) (fun c399 => ?_)
        · replace h := h.1 c399
          refine vv_iinc (mi := mL_law) (pc := 1193) (x3 + 7) 3 [(3, .inl (x3 + 7)), (0, .inr (.inr (some X.2.2.2.2.2.1))), (1, .inr (.inr x1)), (2, .inr (.inr x2))] dL_law_1193 rfl rfl (Nat.le_of_ble_eq_true rfl) rfl ?_
          refine vv_goto (mi := mL_law) (pc := 1196) 18 dL_law_1196 rfl ?_
          refine vv_sub (mi := mL_law) [(0, .inr (.inr (some X.2.2.2.2.2.1))), (1, .inr (.inr x1)), (2, .inr (.inr x2)), (3, .inl (x3 + 7))] [1, 2, 3, 0] rfl ?_
          refine vv_widen (kk + 6) (nn + 78) (by omega) (by omega) ?_
          exact hb18 _ _ _ _ h
        · replace h := h.2 c399
          refine vv_iconst (mi := mL_law) (pc := 1112) 0 dL_law_1112 rfl ?_
          exact vv_zret (mi := mL_law) (pc := 1113) dL_law_1113 rfl (Or.inl rfl) (by show kk + 3 ≤ 600000; omega) (by have hs_ := rs_ok; show nn + 28 ≤ room_1.slots; omega) h
      | 24, c11, c11e =>
        cases c11
        replace h := h.2.2.2.2.2.2.2.2.2.2.2.2.2.2.2.2.2.2.2.2.2.2.2.2.1 c11e
        refine vv_aload_n (mi := mL_law) (pc := 1114) 1 dL_law_1114 rfl rfl ?_
        refine vv_aload_n (mi := mL_law) (pc := 1115) 0 dL_law_1115 rfl rfl ?_
        refine vv_iload_n (mi := mL_law) (pc := 1116) 3 dL_law_1116 rfl rfl ?_
        refine vv_iconst (mi := mL_law) (pc := 1117) 1 dL_law_1117 rfl ?_
        refine vv_iadd (mi := mL_law) (pc := 1118) dL_law_1118 ?_
        obtain ⟨hi400, h⟩ := h
        refine vv_sld (mi := mL_law) (pc := 1119) hi400 dL_law_1119 ?_
        refine vv_aload_n (mi := mL_law) (pc := 1120) 0 dL_law_1120 rfl rfl ?_
        refine vv_iload_n (mi := mL_law) (pc := 1121) 3 dL_law_1121 rfl rfl ?_
        refine vv_iconst (mi := mL_law) (pc := 1122) 2 dL_law_1122 rfl ?_
        refine vv_iadd (mi := mL_law) (pc := 1123) dL_law_1123 ?_
        obtain ⟨hi401, h⟩ := h
        refine vv_sld (mi := mL_law) (pc := 1124) hi401 dL_law_1124 ?_
        obtain ⟨aq402, hs403, h⟩ := h
        obtain ⟨ht404, h⟩ := h
        refine vv_callV (mi := mL_law) (pc := 1125) (rest := []) (As := [.inl (X.2.2.2.2.2.2.2 (Int32.toNatClampNeg (x3 + 1))), .inl (X.2.2.2.2.2.2.2 (Int32.toNatClampNeg (x3 + 2)))]) (ctX10_relief (X := X) h) dL_law_1125 hs403 ht404 (Nat.le_of_ble_eq_true rfl) rfl mb_X10_relief rfl ml_L_119 im_X10_relief se_X10_relief ⟨(Nat.le_of_ble_eq_true rfl), (Nat.le_of_ble_eq_true rfl)⟩ ⟨by show kk + 0 ≤ 600000; omega, by have hs_ := rs_ok; show nn + 0 ≤ room_1.slots; omega⟩ (Nat.le_of_ble_eq_true rfl) rfl (kI_ (F := fun st M' => VV X mL_law rL_law (pI_ post) 1128 [(0, .inr (.inr (some X.2.2.2.2.2.1))), (1, .inr (.inr x1)), (2, .inr (.inr x2)), (3, .inl x3)] st M' (kk + 0) (nn + 0)) (fun r405 M406 h => ?_))
        refine vv_aload_n (mi := mL_law) (pc := 1128) 2 dL_law_1128 rfl rfl ?_
        refine vv_aload_n (mi := mL_law) (pc := 1129) 0 dL_law_1129 rfl rfl ?_
        refine vv_iload_n (mi := mL_law) (pc := 1130) 3 dL_law_1130 rfl rfl ?_
        refine vv_iconst (mi := mL_law) (pc := 1131) 1 dL_law_1131 rfl ?_
        refine vv_iadd (mi := mL_law) (pc := 1132) dL_law_1132 ?_
        obtain ⟨hi407, h⟩ := h
        refine vv_sld (mi := mL_law) (pc := 1133) hi407 dL_law_1133 ?_
        refine vv_aload_n (mi := mL_law) (pc := 1134) 0 dL_law_1134 rfl rfl ?_
        refine vv_iload_n (mi := mL_law) (pc := 1135) 3 dL_law_1135 rfl rfl ?_
        refine vv_iconst (mi := mL_law) (pc := 1136) 2 dL_law_1136 rfl ?_
        refine vv_iadd (mi := mL_law) (pc := 1137) dL_law_1137 ?_
        obtain ⟨hi408, h⟩ := h
        refine vv_sld (mi := mL_law) (pc := 1138) hi408 dL_law_1138 ?_
        obtain ⟨aq409, hs410, h⟩ := h
        obtain ⟨ht411, h⟩ := h
        refine vv_callV (mi := mL_law) (pc := 1139) (rest := [.inl r405]) (As := [.inl (X.2.2.2.2.2.2.2 (Int32.toNatClampNeg (x3 + 1))), .inl (X.2.2.2.2.2.2.2 (Int32.toNatClampNeg (x3 + 2)))]) (ctX11_relief (X := X) h) dL_law_1139 hs410 ht411 (Nat.le_of_ble_eq_true rfl) rfl mb_X11_relief rfl ml_L_122 im_X11_relief se_X11_relief ⟨(Nat.le_of_ble_eq_true rfl), (Nat.le_of_ble_eq_true rfl)⟩ ⟨by show kk + 0 ≤ 600000; omega, by have hs_ := rs_ok; show nn + 0 ≤ room_1.slots; omega⟩ (Nat.le_of_ble_eq_true rfl) rfl (kI_ (F := fun st M' => VV X mL_law rL_law (pI_ post) 1142 [(0, .inr (.inr (some X.2.2.2.2.2.1))), (1, .inr (.inr x1)), (2, .inr (.inr x2)), (3, .inl x3)] st M' (kk + 0) (nn + 0)) (fun r412 M413 h => ?_))
        refine vv_icmp_eq (mi := mL_law) (pc := 1142) 1193 dL_law_1142 rfl (fun c414 => ?_) (fun c414 => ?_)
        · replace h := h.1 c414
          refine vv_iinc (mi := mL_law) (pc := 1193) (x3 + 7) 3 [(3, .inl (x3 + 7)), (0, .inr (.inr (some X.2.2.2.2.2.1))), (1, .inr (.inr x1)), (2, .inr (.inr x2))] dL_law_1193 rfl rfl (Nat.le_of_ble_eq_true rfl) rfl ?_
          refine vv_goto (mi := mL_law) (pc := 1196) 18 dL_law_1196 rfl ?_
          refine vv_sub (mi := mL_law) [(0, .inr (.inr (some X.2.2.2.2.2.1))), (1, .inr (.inr x1)), (2, .inr (.inr x2)), (3, .inl (x3 + 7))] [1, 2, 3, 0] rfl ?_
          refine vv_widen (kk + 6) (nn + 78) (by omega) (by omega) ?_
          exact hb18 _ _ _ _ h
        · replace h := h.2 c414
          refine vv_iconst (mi := mL_law) (pc := 1145) 0 dL_law_1145 rfl ?_
          exact vv_zret (mi := mL_law) (pc := 1146) dL_law_1146 rfl (Or.inl rfl) (by show kk + 0 ≤ 600000; omega) (by have hs_ := rs_ok; show nn + 0 ≤ room_1.slots; omega) h
      | 25, c11, c11e =>
        cases c11
        replace h := h.2.2.2.2.2.2.2.2.2.2.2.2.2.2.2.2.2.2.2.2.2.2.2.2.2.1 c11e
        refine vv_aload_n (mi := mL_law) (pc := 1147) 1 dL_law_1147 rfl rfl ?_
        refine vv_aload_n (mi := mL_law) (pc := 1148) 0 dL_law_1148 rfl rfl ?_
        refine vv_iload_n (mi := mL_law) (pc := 1149) 3 dL_law_1149 rfl rfl ?_
        refine vv_iconst (mi := mL_law) (pc := 1150) 1 dL_law_1150 rfl ?_
        refine vv_iadd (mi := mL_law) (pc := 1151) dL_law_1151 ?_
        obtain ⟨hi415, h⟩ := h
        refine vv_sld (mi := mL_law) (pc := 1152) hi415 dL_law_1152 ?_
        obtain ⟨aq416, hs417, h⟩ := h
        obtain ⟨ht418, h⟩ := h
        refine vv_callV (mi := mL_law) (pc := 1153) (rest := []) (As := [.inl (X.2.2.2.2.2.2.2 (Int32.toNatClampNeg (x3 + 1)))]) (ctX10_take (X := X) h) dL_law_1153 hs417 ht418 (Nat.le_of_ble_eq_true rfl) rfl mb_X10_take rfl ml_L_123 im_X10_take se_X10_take ⟨(Nat.le_of_ble_eq_true rfl), (Nat.le_of_ble_eq_true rfl)⟩ ⟨by show kk + 0 ≤ 600000; omega, by have hs_ := rs_ok; show nn + 0 ≤ room_1.slots; omega⟩ (Nat.le_of_ble_eq_true rfl) rfl (kI_ (F := fun st M' => VV X mL_law rL_law (pI_ post) 1156 [(0, .inr (.inr (some X.2.2.2.2.2.1))), (1, .inr (.inr x1)), (2, .inr (.inr x2)), (3, .inl x3)] st M' (kk + 0) (nn + 0)) (fun r419 M420 h => ?_))
        refine vv_aload_n (mi := mL_law) (pc := 1156) 2 dL_law_1156 rfl rfl ?_
        refine vv_aload_n (mi := mL_law) (pc := 1157) 0 dL_law_1157 rfl rfl ?_
        refine vv_iload_n (mi := mL_law) (pc := 1158) 3 dL_law_1158 rfl rfl ?_
        refine vv_iconst (mi := mL_law) (pc := 1159) 1 dL_law_1159 rfl ?_
        refine vv_iadd (mi := mL_law) (pc := 1160) dL_law_1160 ?_
        obtain ⟨hi421, h⟩ := h
        refine vv_sld (mi := mL_law) (pc := 1161) hi421 dL_law_1161 ?_
        obtain ⟨aq422, hs423, h⟩ := h
        obtain ⟨ht424, h⟩ := h
        refine vv_callV (mi := mL_law) (pc := 1162) (rest := [.inl r419]) (As := [.inl (X.2.2.2.2.2.2.2 (Int32.toNatClampNeg (x3 + 1)))]) (ctX11_take (X := X) h) dL_law_1162 hs423 ht424 (Nat.le_of_ble_eq_true rfl) rfl mb_X11_take rfl ml_L_126 im_X11_take se_X11_take ⟨(Nat.le_of_ble_eq_true rfl), (Nat.le_of_ble_eq_true rfl)⟩ ⟨by show kk + 0 ≤ 600000; omega, by have hs_ := rs_ok; show nn + 0 ≤ room_1.slots; omega⟩ (Nat.le_of_ble_eq_true rfl) rfl (kI_ (F := fun st M' => VV X mL_law rL_law (pI_ post) 1165 [(0, .inr (.inr (some X.2.2.2.2.2.1))), (1, .inr (.inr x1)), (2, .inr (.inr x2)), (3, .inl x3)] st M' (kk + 0) (nn + 0)) (fun r425 M426 h => ?_))
        refine vv_icmp_eq (mi := mL_law) (pc := 1165) 1193 dL_law_1165 rfl (fun c427 => ?_) (fun c427 => ?_)
        · replace h := h.1 c427
          refine vv_iinc (mi := mL_law) (pc := 1193) (x3 + 7) 3 [(3, .inl (x3 + 7)), (0, .inr (.inr (some X.2.2.2.2.2.1))), (1, .inr (.inr x1)), (2, .inr (.inr x2))] dL_law_1193 rfl rfl (Nat.le_of_ble_eq_true rfl) rfl ?_
          refine vv_goto (mi := mL_law) (pc := 1196) 18 dL_law_1196 rfl ?_
          refine vv_sub (mi := mL_law) [(0, .inr (.inr (some X.2.2.2.2.2.1))), (1, .inr (.inr x1)), (2, .inr (.inr x2)), (3, .inl (x3 + 7))] [1, 2, 3, 0] rfl ?_
          refine vv_widen (kk + 6) (nn + 78) (by omega) (by omega) ?_
          exact hb18 _ _ _ _ h
        · replace h := h.2 c427
          refine vv_iconst (mi := mL_law) (pc := 1168) 0 dL_law_1168 rfl ?_
          exact vv_zret (mi := mL_law) (pc := 1169) dL_law_1169 rfl (Or.inl rfl) (by show kk + 0 ≤ 600000; omega) (by have hs_ := rs_ok; show nn + 0 ≤ room_1.slots; omega) h
      | 26, c11, c11e =>
        cases c11
        replace h := h.2.2.2.2.2.2.2.2.2.2.2.2.2.2.2.2.2.2.2.2.2.2.2.2.2.2.1 c11e
        refine vv_aload_n (mi := mL_law) (pc := 1170) 1 dL_law_1170 rfl rfl ?_
        refine vv_aload_n (mi := mL_law) (pc := 1171) 0 dL_law_1171 rfl rfl ?_
        refine vv_iload_n (mi := mL_law) (pc := 1172) 3 dL_law_1172 rfl rfl ?_
        refine vv_iconst (mi := mL_law) (pc := 1173) 1 dL_law_1173 rfl ?_
        refine vv_iadd (mi := mL_law) (pc := 1174) dL_law_1174 ?_
        obtain ⟨hi428, h⟩ := h
        refine vv_sld (mi := mL_law) (pc := 1175) hi428 dL_law_1175 ?_
        obtain ⟨aq429, hs430, h⟩ := h
        obtain ⟨ht431, h⟩ := h
        refine vv_callV (mi := mL_law) (pc := 1176) (rest := []) (As := [.inl (X.2.2.2.2.2.2.2 (Int32.toNatClampNeg (x3 + 1)))]) (ctX10_count (X := X) h) dL_law_1176 hs430 ht431 (Nat.le_of_ble_eq_true rfl) rfl mb_X10_count rfl ml_L_127 im_X10_count se_X10_count ⟨(Nat.le_of_ble_eq_true rfl), (Nat.le_of_ble_eq_true rfl)⟩ ⟨by show kk + 0 ≤ 600000; omega, by have hs_ := rs_ok; show nn + 0 ≤ room_1.slots; omega⟩ (Nat.le_of_ble_eq_true rfl) rfl (kI_ (F := fun st M' => VV X mL_law rL_law (pI_ post) 1179 [(0, .inr (.inr (some X.2.2.2.2.2.1))), (1, .inr (.inr x1)), (2, .inr (.inr x2)), (3, .inl x3)] st M' (kk + 0) (nn + 0)) (fun r432 M433 h => ?_))
        refine vv_aload_n (mi := mL_law) (pc := 1179) 2 dL_law_1179 rfl rfl ?_
        refine vv_aload_n (mi := mL_law) (pc := 1180) 0 dL_law_1180 rfl rfl ?_
        refine vv_iload_n (mi := mL_law) (pc := 1181) 3 dL_law_1181 rfl rfl ?_
        refine vv_iconst (mi := mL_law) (pc := 1182) 1 dL_law_1182 rfl ?_
        refine vv_iadd (mi := mL_law) (pc := 1183) dL_law_1183 ?_
        obtain ⟨hi434, h⟩ := h
        refine vv_sld (mi := mL_law) (pc := 1184) hi434 dL_law_1184 ?_
        obtain ⟨aq435, hs436, h⟩ := h
        obtain ⟨ht437, h⟩ := h
        refine vv_callV (mi := mL_law) (pc := 1185) (rest := [.inl r432]) (As := [.inl (X.2.2.2.2.2.2.2 (Int32.toNatClampNeg (x3 + 1)))]) (ctX11_count (X := X) h) dL_law_1185 hs436 ht437 (Nat.le_of_ble_eq_true rfl) rfl mb_X11_count rfl ml_L_130 im_X11_count se_X11_count ⟨(Nat.le_of_ble_eq_true rfl), (Nat.le_of_ble_eq_true rfl)⟩ ⟨by show kk + 0 ≤ 600000; omega, by have hs_ := rs_ok; show nn + 0 ≤ room_1.slots; omega⟩ (Nat.le_of_ble_eq_true rfl) rfl (kI_ (F := fun st M' => VV X mL_law rL_law (pI_ post) 1188 [(0, .inr (.inr (some X.2.2.2.2.2.1))), (1, .inr (.inr x1)), (2, .inr (.inr x2)), (3, .inl x3)] st M' (kk + 0) (nn + 0)) (fun r438 M439 h => ?_))
        refine vv_icmp_eq (mi := mL_law) (pc := 1188) 1193 dL_law_1188 rfl (fun c440 => ?_) (fun c440 => ?_)
        · replace h := h.1 c440
          refine vv_iinc (mi := mL_law) (pc := 1193) (x3 + 7) 3 [(3, .inl (x3 + 7)), (0, .inr (.inr (some X.2.2.2.2.2.1))), (1, .inr (.inr x1)), (2, .inr (.inr x2))] dL_law_1193 rfl rfl (Nat.le_of_ble_eq_true rfl) rfl ?_
          refine vv_goto (mi := mL_law) (pc := 1196) 18 dL_law_1196 rfl ?_
          refine vv_sub (mi := mL_law) [(0, .inr (.inr (some X.2.2.2.2.2.1))), (1, .inr (.inr x1)), (2, .inr (.inr x2)), (3, .inl (x3 + 7))] [1, 2, 3, 0] rfl ?_
          refine vv_widen (kk + 6) (nn + 78) (by omega) (by omega) ?_
          exact hb18 _ _ _ _ h
        · replace h := h.2 c440
          refine vv_iconst (mi := mL_law) (pc := 1191) 0 dL_law_1191 rfl ?_
          exact vv_zret (mi := mL_law) (pc := 1192) dL_law_1192 rfl (Or.inl rfl) (by show kk + 0 ≤ 600000; omega) (by have hs_ := rs_ok; show nn + 0 ≤ room_1.slots; omega) h
      | (j + 27), c11, _ => exact absurd c11 (by simp)
    · replace h := h.2.2.2.2.2.2.2.2.2.2.2.2.2.2.2.2.2.2.2.2.2.2.2.2.2.2.2 c11
      refine vv_iinc (mi := mL_law) (pc := 1193) (x3 + 7) 3 [(3, .inl (x3 + 7)), (0, .inr (.inr (some X.2.2.2.2.2.1))), (1, .inr (.inr x1)), (2, .inr (.inr x2))] dL_law_1193 rfl rfl (Nat.le_of_ble_eq_true rfl) rfl ?_
      refine vv_goto (mi := mL_law) (pc := 1196) 18 dL_law_1196 rfl ?_
      refine vv_sub (mi := mL_law) [(0, .inr (.inr (some X.2.2.2.2.2.1))), (1, .inr (.inr x1)), (2, .inr (.inr x2)), (3, .inl (x3 + 7))] [1, 2, 3, 0] rfl ?_
      refine vv_widen (kk + 6) (nn + 78) (by omega) (by omega) ?_
      exact hb18 _ _ _ _ h
theorem loL_law_18 {X : Cx_} {post : Int32 → Mm → Prop} : ∀ (fu kk nn : Nat) (_ : kk + 6 * fu ≤ 600000) (_ : nn + 78 * fu ≤ 7300000) {x1 : Option Nat} {x2 : Option Nat} {x3 : Int32} {M : Mm}, DL_law_18 X.2.2.2.2.2.2.1 X.2.2.2.2.2.2.2 post fu x1 x2 x3 M → VV X mL_law rL_law (pI_ post) 18 [(0, .inr (.inr (some X.2.2.2.2.2.1))), (1, .inr (.inr x1)), (2, .inr (.inr x2)), (3, .inl x3)] [] M kk nn
  | 0, _, _, _, _, _, _, _, _, h => False.elim h
  | fu + 1, kk, nn, h1, h2, _, _, _, _, h => bL_law_18 kk nn (by omega) (by omega) (fun x1 x2 x3 M h => loL_law_18 fu (kk + 6) (nn + 78) (by omega) (by omega) h) h
set_option maxHeartbeats 40000000 in
set_option maxRecDepth 100000 in
theorem vL_law {X : Cx_} {M : Mm} {post : Int32 → Mm → Prop} (h : PL_law X.2.2.2.2.2.2.1 X.2.2.2.2.2.2.2 M post) : VV X mL_law rL_law (pI_ post) 0 [(0, .inr (.inr (some X.2.2.2.2.2.1)))] [] M 0 0 := by
  unfold PL_law at h
  obtain ⟨n1, en1⟩ : ∃ z : Nat, z = ddZ M := ⟨_, rfl⟩
  replace h := h _ en1
  obtain ⟨M2, eM2⟩ : ∃ z : Mm, z = suN M 11 0 := ⟨_, rfl⟩
  replace h := h _ eM2
  refine vv_new (mi := mL_law) (pc := 0) 10 (r := (RX10, TX10, 5)) rfl (Nat.le_of_ble_eq_true rfl) rfl nw_10 cl_L_7 it_10 iz_10 (Nat.le_of_ble_eq_true rfl) (Nat.le_of_ble_eq_true rfl) dL_law_0 en1 eM2 ?_
  refine vv_dup (mi := mL_law) (pc := 3) dL_law_3 rfl ?_
  refine vv_callI (mi := mL_law) (pc := 4) (rest := [.inr (.inr (some n1))]) (As := []) (ctX10_init (X := X) h) dL_law_4 rfl rfl rfl mb_X10_init rfl ml_L_9 im_X10_init ⟨(Nat.le_of_ble_eq_true rfl), (Nat.le_of_ble_eq_true rfl)⟩ ⟨(Nat.le_of_ble_eq_true rfl), (Nat.le_of_ble_eq_true rfl)⟩ (Nat.le_of_ble_eq_true rfl) rfl (kV_ (F := fun st M' => VV X mL_law rL_law (pI_ post) 7 [(0, .inr (.inr (some X.2.2.2.2.2.1)))] st M' 32 1042) (fun M4 h => ?_))
  refine vv_astore_n (mi := mL_law) (pc := 7) [(1, .inr (.inr (some n1))), (0, .inr (.inr (some X.2.2.2.2.2.1)))] dL_law_7 rfl (Nat.le_of_ble_eq_true rfl) rfl ?_
  obtain ⟨n5, en5⟩ : ∃ z : Nat, z = ddZ M4 := ⟨_, rfl⟩
  replace h := h _ en5
  obtain ⟨M6, eM6⟩ : ∃ z : Mm, z = suN M4 12 0 := ⟨_, rfl⟩
  replace h := h _ eM6
  refine vv_new (mi := mL_law) (pc := 8) 11 (r := (RX11, TX11, 38)) rfl (Nat.le_of_ble_eq_true rfl) rfl nw_11 cl_L_10 it_11 iz_11 (Nat.le_of_ble_eq_true rfl) (Nat.le_of_ble_eq_true rfl) dL_law_8 en5 eM6 ?_
  refine vv_dup (mi := mL_law) (pc := 11) dL_law_11 rfl ?_
  refine vv_callI (mi := mL_law) (pc := 12) (rest := [.inr (.inr (some n5))]) (As := []) (ctX11_init (X := X) h) dL_law_12 rfl rfl rfl mb_X11_init rfl ml_L_12 im_X11_init ⟨(Nat.le_of_ble_eq_true rfl), (Nat.le_of_ble_eq_true rfl)⟩ ⟨(Nat.le_of_ble_eq_true rfl), (Nat.le_of_ble_eq_true rfl)⟩ (Nat.le_of_ble_eq_true rfl) rfl (kV_ (F := fun st M' => VV X mL_law rL_law (pI_ post) 15 [(1, .inr (.inr (some n1))), (0, .inr (.inr (some X.2.2.2.2.2.1)))] st M' 65 7743) (fun M8 h => ?_))
  refine vv_astore_n (mi := mL_law) (pc := 15) [(2, .inr (.inr (some n5))), (1, .inr (.inr (some n1))), (0, .inr (.inr (some X.2.2.2.2.2.1)))] dL_law_15 rfl (Nat.le_of_ble_eq_true rfl) rfl ?_
  refine vv_iconst (mi := mL_law) (pc := 16) 0 dL_law_16 rfl ?_
  refine vv_istore_n (mi := mL_law) (pc := 17) [(3, .inl 0), (2, .inr (.inr (some n5))), (1, .inr (.inr (some n1))), (0, .inr (.inr (some X.2.2.2.2.2.1)))] dL_law_17 rfl (Nat.le_of_ble_eq_true rfl) rfl ?_
  refine vv_sub (mi := mL_law) [(0, .inr (.inr (some X.2.2.2.2.2.1))), (1, .inr (.inr (some n1))), (2, .inr (.inr (some n5))), (3, .inl 0)] [3, 2, 1, 0] rfl ?_
  exact loL_law_18 (X := X) 513 65 7743 (by omega) (by omega) h
