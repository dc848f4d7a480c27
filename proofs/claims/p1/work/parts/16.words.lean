theorem tw_none : True := trivial
